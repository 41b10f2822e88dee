/-! Layer 2, pure: the pages. -/
/-- the row of pages of a content: 0 .. 15 NOW, 16 .. 31 SYNCED -/
def dkN (c : Nat) : gI := if c < 16 then (2, c) else (4, c - 16)
def dkR (c : Nat) : gI := if c < 16 then (3, c) else (5, c - 16)
def dkT (c : Nat) : Nat := if c < 16 then c + 16 else c - 16
def dkP (n : Nat) : Nat := (n + 63) / 64
theorem dkN_n {f : Nat} (h : f < 16) : dkN f = (2, f) := if_pos h
theorem dkN_s (f : Nat) : dkN (16 + f) = (4, f) := by unfold dkN; rw [if_neg (by omega)]; congr 1; omega
theorem dkR_n {f : Nat} (h : f < 16) : dkR f = (3, f) := if_pos h
theorem dkR_s (f : Nat) : dkR (16 + f) = (5, f) := by unfold dkR; rw [if_neg (by omega)]; congr 1; omega
theorem dkR_inj {c d : Nat} (hc : c < 32) (hd : d < 32) (h : dkR c = dkR d) : c = d := by
  unfold dkR at h
  split at h <;> split at h <;> (rw [Prod.mk.injEq] at h; omega)
theorem dkN_inj {c d : Nat} (hc : c < 32) (hd : d < 32) (h : dkN c = dkN d) : c = d := by
  unfold dkN at h
  split at h <;> split at h <;> (rw [Prod.mk.injEq] at h; omega)
theorem dkR_1 (c : Nat) : (dkR c).1 = 3 ∨ (dkR c).1 = 5 := by
  unfold dkR; split <;> simp
theorem dkN_1 (c : Nat) : (dkN c).1 = 2 ∨ (dkN c).1 = 4 := by
  unfold dkN; split <;> simp
theorem dkR_ne {c : Nat} {i : gI} (h3 : i.1 ≠ 3) (h5 : i.1 ≠ 5) : dkR c ≠ i := by
  intro e; rcases dkR_1 c with h | h <;> rw [e] at h <;> omega
theorem dkN_ne {c : Nat} {i : gI} (h3 : i.1 ≠ 2) (h5 : i.1 ≠ 4) : dkN c ≠ i := by
  intro e; rcases dkN_1 c with h | h <;> rw [e] at h <;> omega
theorem dkN_rf (c : Nat) : grf (dkN c) 0 = dkR c := by
  unfold dkN dkR; split <;> rfl
theorem dkT_lt {c : Nat} (h : c < 32) : dkT c < 32 := by unfold dkT; split <;> omega
theorem dkT_T {c : Nat} (h : c < 32) : dkT (dkT c) = c := by unfold dkT; split <;> split <;> omega
theorem dkT_ne {c : Nat} : dkT c ≠ c := by unfold dkT; split <;> omega
theorem dkT_m {c d : Nat} (hc : c < 32) (hd : d < 32) (h : c % 16 = d % 16) : d = c ∨ d = dkT c := by unfold dkT; split <;> omega
theorem dkT_n {f : Nat} (h : f < 16) : dkT f = 16 + f := by unfold dkT; rw [if_pos h]; omega
theorem dkT_s (f : Nat) : dkT (16 + f) = f := by unfold dkT; rw [if_neg (by omega)]; omega
theorem dkP_0 : dkP 0 = 0 := rfl
theorem dkP_le {a b : Nat} (h : a ≤ b) : dkP a ≤ dkP b := by unfold dkP; omega
theorem dkP_lt {i n : Nat} (h : i < n) : i / 64 < dkP n := by unfold dkP; omega
theorem dkP_i {a : Nat} (h : a < 2 ^ 30) : (nI a + 64 - 1) / 64 = nI (dkP a) := by
  rw [show (64 : Int32) = nI 64 from rfl, nI_add, show (1 : Int32) = nI 1 from rfl, pk_sub (by omega), pk_div (by omega) (by omega) (by omega)]
  rfl
/-- lengths of the object's rows -/
def dkL (Ln : gI → Nat) (M : Nat) : Prop :=
  8 ≤ M ∧ M ≤ 1024 ∧ Ln (7, 0) = M * 64 ∧ Ln (8, 0) = M ∧ Ln (9, 0) = M ∧ ∀ c, c < 32 → Ln (dkR c) = min M 400
/-- what the pool's cells say, as naturals: pages of contents, owners, the unused, their number -/
def dkM (M : Nat) (pg : Nat → Nat → Nat) (ow un : Nat → Nat) (uc : Nat) (S : gS) : Prop :=
  (∀ c k, c < 32 → k < min M 400 → S.1 (dkR c) k = nI (pg c k)) ∧ (∀ p, p < M → S.1 (8, 0) p = nI (ow p)) ∧ (∀ j, j < M → S.1 (9, 0) j = nI (un j)) ∧ S.1 (6, 0) 3 = nI uc
/-- the pool is sound: O c k: content c owns its k-th page -/
def dkI (M : Nat) (O : Nat → Nat → Prop) (pg : Nat → Nat → Nat) (ow un : Nat → Nat) (uc : Nat) : Prop :=
  uc ≤ M ∧ (∀ j, j < uc → un j < M) ∧ (∀ i j, i < j → j < uc → un i ≠ un j) ∧ (∀ c k, O c k → c < 32 ∧ k < min M 400 ∧ pg c k < M) ∧
  (∀ c k d i, O c k → O d i → pg c k = pg d i → k = i ∧ c % 16 = d % 16) ∧ (∀ c k, O c k → ∀ j, j < uc → un j ≠ pg c k) ∧
  (∀ c k, O c k → (O (dkT c) k ∧ pg (dkT c) k = pg c k → ow (pg c k) = 2) ∧ (¬ (O (dkT c) k ∧ pg (dkT c) k = pg c k) → ow (pg c k) = 1))
/-- cells that the pool's doings never touch -/
def dkE (S S' : gS) : Prop := S'.2 = S.2 ∧ ∀ i : gI, i.1 ≠ 6 → i.1 ≠ 8 → i.1 ≠ 9 → S'.1 i = S.1 i
theorem dkE.rf (S : gS) : dkE S S := ⟨rfl, fun _ _ _ _ => rfl⟩
theorem dkE.tr {S S1 S2 : gS} (a : dkE S S1) (b : dkE S1 S2) : dkE S S2 := ⟨b.1.trans a.1, fun i h1 h2 h3 => (b.2 i h1 h2 h3).trans (a.2 i h1 h2 h3)⟩
theorem dkE.set {S : gS} {i : gI} {k : Nat} {v : Int32} (h : i.1 = 6 ∨ i.1 = 8 ∨ i.1 = 9) : dkE S (gset S i k v) := by
  refine ⟨rfl, fun j h1 h2 h3 => gset_o ?_⟩
  intro e; subst e; omega
/-- giving a page up -/
theorem dk_giveUp {Ln : gI → Nat} {M : Nat} {O : Nat → Nat → Prop} {pg : Nat → Nat → Nat} {ow un : Nat → Nat} {uc c k : Nat} {S : gS} {Q : gS → Prop} {v : Int32}
    (hL : dkL Ln M) (hM : dkM M pg ow un uc S) (hI : dkI M O pg ow un uc) (ho : O c k) (hv : v = nI (pg c k))
    (hu : ¬ (O (dkT c) k ∧ pg (dkT c) k = pg c k) → uc < M)
    (hq : ∀ S' ow' un' uc', dkE S S' → dkM M pg ow' un' uc' S' → dkI M (fun d i => O d i ∧ ¬ (d = c ∧ i = k)) pg ow' un' uc' →
      (∀ p, (∀ j, j < uc → un j ≠ p) → pg c k ≠ p → (∀ j, j < uc' → un' j ≠ p) ∧ ow' p = ow p) →
      (O (dkT c) k ∧ pg (dkT c) k = pg c k → uc' = uc) → (¬ (O (dkT c) k ∧ pg (dkT c) k = pg c k) → uc' = uc + 1) → Q S') : wp_Pages_giveUp Ln Q (6, 0) v S := by
  subst hv
  obtain ⟨hM8, hM1, l7, l8, l9, lR⟩ := hL
  obtain ⟨m1, m2, m3, m4⟩ := hM
  obtain ⟨i1, i2, i3, i4, i5, i6, i7⟩ := hI
  obtain ⟨hc, hk, hp⟩ := i4 c k ho
  have e1 : grf (6, 0) 1 = (8, 0) := rfl
  have e2 : grf (6, 0) 2 = (9, 0) := rfl
  unfold wp_Pages_giveUp
  rw [e1, e2, l8, l9, nI_clamp (show pg c k < 2 ^ 31 by omega)]
  have hin : vp_in (nI (pg c k)) M := vp_in_nI hp (by omega)
  have hne : ∀ d i, O d i → ¬ (d = c ∧ i = k) → pg d i = pg c k → d = dkT c ∧ i = k := by
    intro d i h h2 h3
    obtain ⟨a, b⟩ := i5 d i c k h ho h3
    rcases dkT_m hc (i4 d i h).1 b.symm with e | e
    · exact absurd ⟨e, a⟩ h2
    · exact ⟨e, a⟩
  by_cases hs : O (dkT c) k ∧ pg (dkT c) k = pg c k
  · have ho2 := (i7 c k ho).1 hs
    refine ⟨hin, hin, ?_⟩
    rintro _ rfl
    have ev : (gset S (8, 0) (pg c k) (S.1 (8, 0) (pg c k) - 1)).1 (8, 0) (pg c k) = nI 1 := by
      rw [gset_s, m2 _ hp, ho2]; rfl
    refine ⟨hin, fun _ => ?_, fun h => ?_⟩
    · refine hq _ (va_up ow (pg c k) 1) un uc (dkE.set (by simp)) ⟨?_, ?_, ?_, ?_⟩ ⟨i1, i2, i3, fun d i h => i4 d i h.1, fun d i d' i' h h' => i5 d i d' i' h.1 h'.1, fun d i h => i6 d i h.1, ?_⟩ ?_ (fun _ => rfl) (fun h => absurd hs h)
      · intro d i hd hi
        rw [gset_o (dkR_ne (by simp) (by simp))]
        exact m1 d i hd hi
      · intro p hp'
        by_cases h : p = pg c k
        · subst h; rw [ev, va_up_self]
        · rw [gset_n (Or.inr h), va_up_ne _ _ h]; exact m2 p hp'
      · intro j hj
        rw [gset_o (by simp)]
        exact m3 j hj
      · rw [gset_o (by simp)]
        exact m4
      · intro d i h
        by_cases h2 : pg d i = pg c k
        · obtain ⟨rfl, rfl⟩ := hne d i h.1 h.2 h2
          rw [h2, va_up_self, dkT_T hc]
          refine ⟨fun z => absurd ⟨rfl, rfl⟩ z.1.2, fun _ => rfl⟩
        · rw [va_up_ne _ _ h2]
          have hh := i7 d i h.1
          refine ⟨fun z => hh.1 ⟨z.1.1, z.2⟩, fun z => hh.2 fun z2 => z ⟨⟨z2.1, ?_⟩, z2.2⟩⟩
          rintro ⟨rfl, rfl⟩
          exact h2 z2.2.symm
      · intro p hp1 hp2
        exact ⟨hp1, va_up_ne _ _ (Ne.symm hp2)⟩
    · rw [ev] at h
      exact absurd h (by decide)
  · have ho1 := (i7 c k ho).2 hs
    have huc := hu hs
    refine ⟨hin, hin, ?_⟩
    rintro _ rfl
    have ev : (gset S (8, 0) (pg c k) (S.1 (8, 0) (pg c k) - 1)).1 (8, 0) (pg c k) = 0 := by
      rw [gset_s, m2 _ hp, ho1]; rfl
    have e6 : (gset S (8, 0) (pg c k) (S.1 (8, 0) (pg c k) - 1)).1 (6, 0) 3 = nI uc := by
      rw [gset_o (by simp)]; exact m4
    refine ⟨hin, fun h => absurd ev h, fun _ => ?_⟩
    rw [e6]
    refine ⟨fun h => absurd h (nI_ge huc (by omega)), fun _ => ⟨vp_in_nI huc (by omega), ?_⟩⟩
    rintro _ rfl _ rfl
    rw [nI_clamp (by omega), gset_o (by simp), e6, nI_1]
    refine hq _ (va_up ow (pg c k) 0) (va_up un uc (pg c k)) (uc + 1) (((dkE.set (by simp)).tr (dkE.set (by simp))).tr (dkE.set (by simp))) ⟨?_, ?_, ?_, ?_⟩ ⟨by omega, ?_, ?_, fun d i h => i4 d i h.1, fun d i d' i' h h' => i5 d i d' i' h.1 h'.1, ?_, ?_⟩ ?_ (fun h => absurd h hs) (fun _ => rfl)
    · intro d i hd hi
      rw [gset_o (dkR_ne (by simp) (by simp)), gset_o (dkR_ne (by simp) (by simp)), gset_o (dkR_ne (by simp) (by simp))]
      exact m1 d i hd hi
    · intro p hp'
      rw [gset_o (by simp), gset_o (by simp)]
      by_cases h : p = pg c k
      · subst h; rw [ev, va_up_self]; rfl
      · rw [gset_n (Or.inr h), va_up_ne _ _ h]; exact m2 p hp'
    · intro j hj
      rw [gset_o (by simp)]
      by_cases h : j = uc
      · subst h; rw [gset_s, va_up_self]
      · rw [gset_n (Or.inr h), gset_o (by simp), va_up_ne _ _ h]; exact m3 j hj
    · rw [gset_s]
    · intro j hj
      by_cases h : j = uc
      · subst h; rw [va_up_self]; exact hp
      · rw [va_up_ne _ _ h]; exact i2 j (by omega)
    · intro i j hij hj
      rw [va_up_ne un _ (show i ≠ uc by omega)]
      by_cases h : j = uc
      · subst h; rw [va_up_self]; exact i6 c k ho i hij
      · rw [va_up_ne _ _ h]; exact i3 i j hij (by omega)
    · intro d i h j hj
      by_cases h2 : j = uc
      · subst h2; rw [va_up_self]
        intro e
        obtain ⟨rfl, rfl⟩ := hne d i h.1 h.2 e.symm
        exact hs ⟨h.1, e.symm⟩
      · rw [va_up_ne _ _ h2]; exact i6 d i h.1 j (by omega)
    · intro d i h
      have h2 : pg d i ≠ pg c k := by
        intro e
        obtain ⟨rfl, rfl⟩ := hne d i h.1 h.2 e
        exact hs ⟨h.1, e⟩
      rw [va_up_ne _ _ h2]
      have hh := i7 d i h.1
      refine ⟨fun z => hh.1 ⟨z.1.1, z.2⟩, fun z => hh.2 fun z2 => z ⟨⟨z2.1, ?_⟩, z2.2⟩⟩
      rintro ⟨rfl, rfl⟩
      exact h2 z2.2.symm
    · intro p hp1 hp2
      refine ⟨?_, va_up_ne _ _ (Ne.symm hp2)⟩
      intro j hj
      by_cases h : j = uc
      · subst h; rw [va_up_self]; exact hp2
      · rw [va_up_ne _ _ h]; exact hp1 j (by omega)
