theorem dk_shorten {Ln : gI → Nat} {M : Nat} {O : Nat → Nat → Prop} {pg : Nat → Nat → Nat} {ow un : Nat → Nat} {uc c s to h : Nat} {S : gS} {Q : gS → Prop} {v : Int32}
    (hL : dkL Ln M) (hM : dkM M pg ow un uc S) (hI : dkI M O pg ow un uc) (hc : c < 32) (hs : S.1 (dkN c) 2 = nI s) (hs2 : s < 2 ^ 30) (hv : v = nI to) (hto : to ≤ s) (ho : ∀ k, k < dkP s → O c k)
    (hsh : ∀ k, k < dkP s → ((O (dkT c) k ∧ pg (dkT c) k = pg c k) ↔ k < h)) (hu : uc + (dkP s - max (dkP to) h) ≤ M)
    (hq : ∀ S1 ow' un', dkE S S1 → dkM M pg ow' un' (uc + (dkP s - max (dkP to) h)) S1 → dkI M (fun d i => O d i ∧ ¬ (d = c ∧ dkP to ≤ i ∧ i < dkP s)) pg ow' un' (uc + (dkP s - max (dkP to) h)) → Q (gset S1 (dkN c) 2 (nI to))) :
    wp_Content_shorten Ln Q (dkN c) v (6, 0) S := by
  subst hv
  have hk4 : ∀ k, k < dkP s → k < min M 400 := fun k hk => (hI.2.2.2.1 c k (ho k hk)).2.1
  have hps : dkP s ≤ min M 400 := by
    rcases Nat.eq_zero_or_pos (dkP s) with e | e
    · omega
    · have := hk4 (dkP s - 1) (by omega); omega
  have hM4 := hL.2.1
  have htp := dkP_le hto
  unfold wp_Content_shorten wp_LogDisk_pagesFor
  rw [hs, dkP_i hs2, dkP_i (by omega)]
  refine pk_loop (fun n i S' => wp_Content_shorten_14 Ln Q n (dkN c) (nI to) (6, 0) (nI (dkP s)) (nI i) S')
    (fun i S' => dkP to ≤ i ∧ ∃ ow' un', dkE S S' ∧ dkM M pg ow' un' (uc + (i - max (dkP to) h)) S' ∧ dkI M (fun d j => O d j ∧ ¬ (d = c ∧ dkP to ≤ j ∧ j < i)) pg ow' un' (uc + (i - max (dkP to) h)))
    (dkP s) (dkP to) S htp ?_ ?_ ?_
  · refine ⟨Nat.le_refl _, ow, un, dkE.rf S, ?_, ?_⟩
    · rw [show dkP to - max (dkP to) h = 0 by omega]; exact hM
    · rw [show dkP to - max (dkP to) h = 0 by omega]
      exact dkI_O (fun d j => ⟨fun z => ⟨z, by omega⟩, fun z => z.1⟩) hI
  · rintro n S' ⟨-, ow', un', a1, a2, a3⟩
    unfold wp_Content_shorten_14
    refine br_t (nI_le (Nat.le_refl _) (by omega)) ?_
    unfold wp_Content_shorten_47
    rintro _ rfl
    exact hq S' ow' un' a1 a2 a3
  · rintro n k S' hk ⟨z, ow', un', a1, a2, a3⟩ ih
    unfold wp_Content_shorten_14
    refine br_f (nI_ge hk (by omega)) ?_
    rw [dkN_rf, hL.2.2.2.2.2 c hc]
    refine br_f (nI_ge (hk4 k hk) (by omega)) ⟨vp_in_nI (hk4 k hk) (by omega), ?_⟩
    rw [nI_clamp (by have := hk4 k hk; omega)]
    have hsk : ((O (dkT c) k ∧ ¬ (dkT c = c ∧ dkP to ≤ k ∧ k < k)) ∧ pg (dkT c) k = pg c k) ↔ k < h := by
      rw [← hsh k hk]
      exact ⟨fun z => ⟨z.1.1, z.2⟩, fun z => ⟨⟨z.1, by omega⟩, z.2⟩⟩
    refine dk_giveUp hL a2 a3 (c := c) (k := k) ⟨ho k hk, by omega⟩ (a2.1 c k hc (hk4 k hk)) ?_ ?_
    · rw [hsk]; omega
    · intro S2 ow2 un2 uc2 b1 b2 b3 _ b4 b5
      rw [hsk] at b4 b5
      rintro _ rfl
      rw [nI_1]
      have euc : uc2 = uc + (k + 1 - max (dkP to) h) := by
        by_cases e : k < h
        · rw [b4 e]; omega
        · rw [b5 e]; omega
      rw [euc] at b2 b3
      refine ih S2 ⟨by omega, ow2, un2, a1.tr b1, b2, dkI_O ?_ b3⟩
      intro d j
      constructor
      · rintro ⟨⟨z1, z2⟩, z3⟩
        exact ⟨z1, by omega⟩
      · rintro ⟨z1, z2⟩
        exact ⟨⟨z1, by omega⟩, by omega⟩

abbrev gF : Type := (Nat → List Nat) × (Nat → Nat) × (Nat → Nat) × (Nat → Nat)
/-- size of a content -/
abbrev gF.sz (F : gF) (c : Nat) : Nat := (F.1 c).length
abbrev gF.th (F : gF) (c : Nat) : Nat := F.2.1 c
abbrev gF.lo (F : gF) (f : Nat) : Nat := F.2.2.1 f
abbrev gF.sh (F : gF) (f : Nat) : Nat := F.2.2.2 f
def dkSum (g : Nat → Nat) : Nat → Nat
  | 0 => 0
  | n + 1 => dkSum g n + g n
theorem dkSum_c {g g' : Nat → Nat} : ∀ n, (∀ j, j < n → g' j = g j) → dkSum g' n = dkSum g n
  | 0, _ => rfl
  | n + 1, h => by
    show dkSum g' n + g' n = dkSum g n + g n
    rw [dkSum_c n (fun j hj => h j (by omega)), h n (by omega)]
theorem dkSum_u {g g' : Nat → Nat} {f : Nat} : ∀ n, f < n → (∀ j, j < n → j ≠ f → g' j = g j) → dkSum g' n + g f = dkSum g n + g' f
  | 0, h, _ => by omega
  | n + 1, h, h2 => by
    show dkSum g' n + g' n + g f = dkSum g n + g n + g' f
    by_cases e : f = n
    · subst e
      rw [dkSum_c f (fun j hj => h2 j (by omega) (by omega))]; omega
    · have := dkSum_u n (by omega) (fun j hj hj2 => h2 j (by omega) hj2)
      rw [h2 n (by omega) (Ne.symm e)]
      omega
theorem dkSum_ge {g : Nat → Nat} {f : Nat} : ∀ n, f < n → g f ≤ dkSum g n
  | 0, h => by omega
  | n + 1, h => by
    show g f ≤ dkSum g n + g n
    by_cases e : f = n
    · subst e; omega
    · have := dkSum_ge (g := g) n (show f < n by omega); omega
/-- pages that a file's two contents own -/
def dkW (F : gF) (f : Nat) : Nat := dkP (F.sz f) + dkP (F.sz (16 + f)) - F.sh f
def isB (x : Int32) (b : Nat) : Prop := x &&& 255 = nI b ∧ b < 256
/-- the object's files say F -/
def dk (M : Nat) (F : gF) (S : gS) : Prop :=
  ∃ pg ow un uc, dkM M pg ow un uc S ∧ dkI M (fun c k => c < 32 ∧ k < dkP (F.sz c)) pg ow un uc ∧
    (∀ c, c < 32 → S.1 (dkN c) 2 = nI (F.sz c) ∧ S.1 (dkN c) 1 = nI (F.th c) ∧ F.th c ≤ 1) ∧
    (∀ f, f < 16 → S.1 (1, f) 3 = nI (F.lo f) ∧ F.sh f ≤ dkP (F.sz f) ∧ F.sh f ≤ dkP (F.sz (16 + f)) ∧ ∀ k, k < dkP (F.sz f) → k < dkP (F.sz (16 + f)) → (pg (16 + f) k = pg f k ↔ k < F.sh f)) ∧
    (∀ c i, c < 32 → i < F.sz c → isB (S.1 (7, 0) (pg c (i / 64) * 64 + i % 64)) ((F.1 c).getD i 0)) ∧
    (∀ a, a < M * 64 → fits .byte (.int (S.1 (7, 0) a)) = true) ∧ uc + dkSum (dkW F) 16 = M
/-- cells outside the files -/
def dkX (S S' : gS) : Prop := S'.2 = S.2 ∧ ∀ i : gI, i.1 = 0 ∨ 10 ≤ i.1 → S'.1 i = S.1 i
theorem dkX.rf (S : gS) : dkX S S := ⟨rfl, fun _ _ => rfl⟩
theorem dkX.tr {S S1 S2 : gS} (a : dkX S S1) (b : dkX S1 S2) : dkX S S2 := ⟨b.1.trans a.1, fun i h => (b.2 i h).trans (a.2 i h)⟩
theorem dkX.set {S : gS} {i : gI} {k : Nat} {v : Int32} (h : 1 ≤ i.1 ∧ i.1 ≤ 9) : dkX S (gset S i k v) := by
  refine ⟨rfl, fun j hj => gset_o ?_⟩
  intro e; subst e; omega
theorem dkE.x {S S' : gS} (h : dkE S S') : dkX S S' := ⟨h.1, fun i hi => h.2 i (by omega) (by omega) (by omega)⟩
def dkF_cut (F : gF) (c n : Nat) : gF := (va_up F.1 c ((F.1 c).take n), F.2.1, F.2.2.1, va_up F.2.2.2 (c % 16) (min (F.sh (c % 16)) (dkP n)))
theorem dk_sz {M : Nat} {F : gF} {S : gS} (h : dk M F S) (hM : M ≤ 1024) {c : Nat} (hc : c < 32) : dkP (F.sz c) ≤ min M 400 ∧ F.sz c ≤ 25600 := by
  obtain ⟨pg, ow, un, uc, m, i, -⟩ := h
  rcases Nat.eq_zero_or_pos (dkP (F.sz c)) with e | e
  · unfold dkP at *; omega
  · have := (i.2.2.2.1 c (dkP (F.sz c) - 1) ⟨hc, by omega⟩).2.1
    unfold dkP at *
    omega
