/-! the state right after the constructors -/
def g0 (M : Nat) (cd : Int32) (u f f2 : Nat → Int32) : gS :=
  (fun i k => match i.1 with
    | 0 => if k = 9 then cd else 0
    | 6 => if k = 3 then nI M else 0
    | 9 => u k
    | 11 => f k
    | 16 => if k = 1 ∨ k = 3 then -1 else 0
    | 17 => if k = 0 then -1 else if k = 3 then cd else 0
    | 30 => if k = 1 then nI M else if k = 2 ∨ k = 25 then cd else if k = 20 ∨ k = 26 then -1 else 0
    | 44 => f2 k
    | _ => 0, fun _ _ => 0)
def F0e : gF := (fun _ => [], fun _ => 0, fun _ => 0, fun _ => 0)
theorem dkW_0 : ∀ n, dkSum (dkW F0e) n = 0
  | 0 => rfl
  | n + 1 => by
    show dkSum (dkW F0e) n + dkW F0e n = 0
    have z : ∀ c, F0e.sz c = 0 := fun _ => rfl
    rw [dkW_0 n]
    unfold dkW
    rw [z, z, dkP_0]; rfl
theorem F0e_P (c : Nat) : dkP (F0e.sz c) = 0 := by
  have z : ∀ c, F0e.sz c = 0 := fun _ => rfl
  rw [z, dkP_0]
theorem INV_0 {Ln : gI → Nat} {M : Nat} {cd : Int32} {u f f2 : Nat → Int32} (hL : aL Ln M) (hu : ∀ k, k < M → u k = nI (M - 1 - k)) (hf : ∀ j, j < 16 → f j = -1) (hf2 : ∀ j, j < 16 → f2 j = -1) : INV Ln 0 (g0 M cd u f f2) := by
  have hM := hL.1.1
  have hM2 := hL.1.2.1
  have eR : ∀ c k, (g0 M cd u f f2).1 (dkR c) k = 0 := fun c k => by unfold dkR; split <;> rfl
  have eN : ∀ c k, (g0 M cd u f f2).1 (dkN c) k = 0 := fun c k => by unfold dkN; split <;> rfl
  have noO : ∀ c k, ¬ (c < 32 ∧ k < dkP (F0e.sz c)) := fun c k h => by
    have := F0e_P c
    omega
  refine ⟨M, cd, F0e, [], 0, -1, 0, -1, 0, -1, 0, 0, cd, 0, 0, [], fun _ => 0, fun _ => (0, 0, 0, 0, 0), fun _ => -1, 0, fun _ => (0, 0, 0, 0, []), 0, 0, fun _ => [], fun _ => 0, hL, ?_, ?_, ?_, ?_, ?_, ?_, ?_, ?_⟩
  · refine ⟨⟨fun _ _ => 0, fun _ => 0, fun j => M - 1 - j, M, ⟨fun c k _ _ => eR c k, fun p _ => rfl, fun j hj => hu j hj, rfl⟩, ⟨Nat.le_refl _, fun j hj => by show M - 1 - j < M; omega, fun i j hi hj => by show M - 1 - i ≠ M - 1 - j; omega, fun c k h => absurd h (noO c k), fun c k d i h => absurd h (noO c k), fun c k h => absurd h (noO c k), fun c k h => absurd h (noO c k)⟩, fun c hc => ⟨eN c 2, eN c 1, Nat.zero_le _⟩, fun f hf => ⟨rfl, Nat.zero_le _, Nat.zero_le _, fun k hk => by rw [F0e_P] at hk; exact absurd hk (Nat.not_lt_zero _)⟩, fun c i _ hi => absurd hi (Nat.not_lt_zero _), fun a _ => rfl, by rw [dkW_0]; rfl⟩, ⟨rfl, Nat.zero_le _, fun k hk => absurd hk (Nat.not_lt_zero _)⟩, ⟨rfl, rfl, rfl, rfl, rfl⟩, ⟨rfl, rfl, rfl, rfl⟩, ⟨rfl, rfl, rfl⟩, ⟨rfl, fun k hk => absurd hk (Nat.not_lt_zero _)⟩, fun i a b => by omega, fun j hj => hf j hj⟩
  · refine ⟨⟨⟨Nat.zero_le _, Nat.zero_le _, rfl, rfl, fun j hj => absurd hj (Nat.not_lt_zero _)⟩, fun c hc => ⟨Nat.zero_le _, rfl, fun k hk => absurd hk (Nat.not_lt_zero _)⟩, ⟨fun c hc => ⟨by show (0 : Nat) < 2 ^ 20; omega, Nat.zero_le _, rfl, rfl⟩, fun f hf => ⟨by show (0 : Nat) < 2 ^ 20; omega, Nat.zero_le _, Nat.zero_le _, rfl, rfl⟩⟩, fun c hc => ⟨List.nil_prefix, fun n hn => absurd hn (Nat.not_lt_zero _)⟩⟩, ⟨rfl, ?_⟩, ⟨rfl, rfl, rfl, rfl, rfl⟩, ⟨rfl, rfl, rfl, rfl⟩, ⟨rfl, rfl, rfl, rfl⟩, ⟨rfl, fun k hk => absurd hk (Nat.not_lt_zero _)⟩, fun i a b => by omega, fun j hj => hf2 j hj⟩
    exact ⟨Nat.zero_le _, fun k hk => absurd hk (Nat.not_lt_zero _)⟩
  · unfold wN; simp
  · exact ⟨Or.inl ⟨rfl, rfl, rfl⟩, by omega, by omega, by omega, fun f hf => Or.inl rfl⟩
  · exact ⟨fun f hf => Nat.zero_le _, fun c hc h2 => Or.inl rfl, fun c hc h4 => ⟨Or.inl rfl, fun z => absurd rfl z⟩, fun c d k q _ _ hk => absurd hk (Nat.not_lt_zero _), fun c k q _ _ hq => absurd hq (Nat.not_lt_zero _)⟩
  · exact ⟨fun f h2 h4 => ⟨rfl, rfl, rfl, rfl, rfl⟩, Or.inl ⟨rfl, rfl, rfl, rfl, rfl, rfl⟩⟩
  · exact ⟨Nat.zero_le _, fun k hk => absurd hk (Nat.not_lt_zero _), fun k q _ hq => absurd hq (Nat.not_lt_zero _), fun k hk => absurd hk (Nat.not_lt_zero _), fun k hk => absurd hk (Nat.not_lt_zero _), fun _ => rfl, fun hk => absurd hk (Nat.lt_irrefl _), fun f _ _ _ => ⟨rfl, rfl⟩⟩
  · intro i a b; omega
theorem law_from_0 {Ln : gI → Nat} {M L : Nat} {xs : Nat → Int32} {cd : Int32} {u f f2 : Nat → Int32} (hLL : L ≤ 2050) (hL : aL Ln M) (hu : ∀ k, k < M → u k = nI (M - 1 - k)) (hf : ∀ j, j < 16 → f j = -1) (hf2 : ∀ j, j < 16 → f2 j = -1) : wp_Law_loop Ln L xs 514 (0, 0) (30, 0) (60, 0) 2 (g0 M cd u f f2) :=
  law_loop hLL 513 0 _ rfl (INV_0 hL hu hf hf2)
