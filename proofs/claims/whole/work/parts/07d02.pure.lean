def dkS (pg : Nat → Nat → Nat) (c k p : Nat) : Nat → Nat → Nat := fun d i => if d = c ∧ i = k then p else pg d i
theorem dkS_s (pg : Nat → Nat → Nat) (c k p : Nat) : dkS pg c k p c k = p := if_pos ⟨rfl, rfl⟩
theorem dkS_n {pg : Nat → Nat → Nat} {c k p d i : Nat} (h : ¬ (d = c ∧ i = k)) : dkS pg c k p d i = pg d i := if_neg h
theorem dkI_O {M : Nat} {O O' : Nat → Nat → Prop} {pg : Nat → Nat → Nat} {ow un : Nat → Nat} {uc : Nat} (h : ∀ c k, O c k ↔ O' c k) (hI : dkI M O pg ow un uc) : dkI M O' pg ow un uc := by
  have : O = O' := funext fun c => funext fun k => propext (h c k)
  exact this ▸ hI
theorem dkI_set {M : Nat} {O : Nat → Nat → Prop} {pg : Nat → Nat → Nat} {ow un : Nat → Nat} {uc c k p : Nat} (ho : ¬ O c k) (hI : dkI M O pg ow un uc) : dkI M O (dkS pg c k p) ow un uc := by
  obtain ⟨i1, i2, i3, i4, i5, i6, i7⟩ := hI
  have e : ∀ d i, O d i → dkS pg c k p d i = pg d i := fun d i h => dkS_n (by rintro ⟨rfl, rfl⟩; exact ho h)
  refine ⟨i1, i2, i3, ?_, ?_, ?_, ?_⟩
  · intro d i h; rw [e d i h]; exact i4 d i h
  · intro d i d' i' h h'; rw [e d i h, e d' i' h']; exact i5 d i d' i' h h'
  · intro d i h; rw [e d i h]; exact i6 d i h
  · intro d i h; rw [e d i h]
    refine ⟨fun z => (i7 d i h).1 ⟨z.1, ?_⟩, fun z => (i7 d i h).2 fun z2 => z ⟨z2.1, ?_⟩⟩
    · rw [e _ _ z.1] at z; exact z.2
    · rw [e _ _ z2.1]; exact z2.2
theorem dkM_set {M : Nat} {pg : Nat → Nat → Nat} {ow un : Nat → Nat} {uc c k p : Nat} {S : gS} {v : Int32} (hc : c < 32) (hv : v = nI p) (hM : dkM M pg ow un uc S) : dkM M (dkS pg c k p) ow un uc (gset S (dkR c) k v) := by
  subst hv
  obtain ⟨m1, m2, m3, m4⟩ := hM
  refine ⟨?_, ?_, ?_, ?_⟩
  · intro d i hd hi
    by_cases h : d = c ∧ i = k
    · obtain ⟨rfl, rfl⟩ := h
      rw [gset_s, dkS_s]
    · rw [dkS_n h, gset_n ?_]
      · exact m1 d i hd hi
      · by_cases h2 : i = k
        · exact Or.inl fun e => h ⟨dkR_inj hd hc e, h2⟩
        · exact Or.inr h2
  · intro p hp; rw [gset_o (Ne.symm (dkR_ne (by simp) (by simp)))]; exact m2 p hp
  · intro p hp; rw [gset_o (Ne.symm (dkR_ne (by simp) (by simp)))]; exact m3 p hp
  · rw [gset_o (Ne.symm (dkR_ne (by simp) (by simp)))]; exact m4
/-- other cells don't matter -/
theorem dkM_of {M : Nat} {pg : Nat → Nat → Nat} {ow un : Nat → Nat} {uc : Nat} {S S' : gS} (h : ∀ i : gI, i.1 = 3 ∨ i.1 = 5 ∨ i.1 = 8 ∨ i.1 = 9 → S'.1 i = S.1 i) (h6 : S'.1 (6, 0) 3 = S.1 (6, 0) 3) (hM : dkM M pg ow un uc S) : dkM M pg ow un uc S' := by
  obtain ⟨m1, m2, m3, m4⟩ := hM
  refine ⟨fun d i hd hi => ?_, fun p hp => ?_, fun p hp => ?_, h6.trans m4⟩
  · rw [h]; exact m1 d i hd hi
    rcases dkR_1 d with e | e <;> simp [e]
  · rw [h _ (by simp)]; exact m2 p hp
  · rw [h _ (by simp)]; exact m3 p hp
/-- a fresh page is owned -/
theorem dkI_add {M : Nat} {O : Nat → Nat → Prop} {pg : Nat → Nat → Nat} {ow un : Nat → Nat} {uc c k : Nat} (hI : dkI M O pg ow un uc) (ho : ¬ O c k) (hc : c < 32) (hk : k < min M 400) (hp : pg c k < M)
    (hf : ∀ d i, O d i → pg d i ≠ pg c k) (hu : ∀ j, j < uc → un j ≠ pg c k) (hw : ow (pg c k) = 1) : dkI M (fun d i => O d i ∨ (d = c ∧ i = k)) pg ow un uc := by
  obtain ⟨i1, i2, i3, i4, i5, i6, i7⟩ := hI
  refine ⟨i1, i2, i3, ?_, ?_, ?_, ?_⟩
  · rintro d i (h | ⟨rfl, rfl⟩)
    · exact i4 d i h
    · exact ⟨hc, hk, hp⟩
  · rintro d i d' i' (h | ⟨rfl, rfl⟩) (h' | ⟨rfl, rfl⟩) e
    · exact i5 d i d' i' h h' e
    · exact absurd e (hf _ _ h)
    · exact absurd e.symm (hf _ _ h')
    · exact ⟨rfl, rfl⟩
  · rintro d i (h | ⟨rfl, rfl⟩)
    · exact i6 d i h
    · exact hu
  · rintro d i (h | ⟨rfl, rfl⟩)
    · refine ⟨fun z => (i7 d i h).1 ⟨?_, z.2⟩, fun z => (i7 d i h).2 fun z2 => z ⟨Or.inl z2.1, z2.2⟩⟩
      rcases z.1 with h2 | ⟨h2, rfl⟩
      · exact h2
      · rw [h2] at z; exact absurd z.2.symm (hf _ _ h)
    · refine ⟨?_, fun _ => hw⟩
      rintro ⟨h | ⟨h, -⟩, e⟩
      · exact absurd e (hf _ _ h)
      · exact absurd h dkT_ne
theorem dk_seize {Ln : gI → Nat} {M : Nat} {O : Nat → Nat → Prop} {pg : Nat → Nat → Nat} {ow un : Nat → Nat} {u : Nat} {S : gS} {Q : Int32 → gS → Prop}
    (hL : dkL Ln M) (hM : dkM M pg ow un (u + 1) S) (hI : dkI M O pg ow un (u + 1))
    (hq : ∀ S' ow', dkE S S' → dkM M pg ow' un u S' → dkI M O pg ow' un u → un u < M → ow' (un u) = 1 → (∀ j, j < u → un j ≠ un u) → (∀ d i, O d i → pg d i ≠ un u) → Q (nI (un u)) S') : wp_Pages_seize Ln Q (6, 0) S := by
  obtain ⟨hM8, hM1, l7, l8, l9, lR⟩ := hL
  obtain ⟨m1, m2, m3, m4⟩ := hM
  obtain ⟨i1, i2, i3, i4, i5, i6, i7⟩ := hI
  have hp := i2 u (by omega)
  have e1 : grf (6, 0) 1 = (8, 0) := rfl
  have e2 : grf (6, 0) 2 = (9, 0) := rfl
  unfold wp_Pages_seize
  rw [m4]
  refine br_f (nI_nle (by omega) (by omega)) ?_
  rw [nI_pred]
  rintro _ rfl
  unfold wp_Pages_seize_17
  rw [e1, e2, l8, l9, gset_s, nI_clamp (by omega), gset_o (by simp), m3 u (by omega)]
  refine ⟨vp_in_nI (by omega) (by omega), ?_⟩
  rintro _ rfl
  refine ⟨vp_in_nI hp (by omega), ?_⟩
  rintro _ rfl
  rw [nI_clamp (by omega)]
  refine hq _ (va_up ow (un u) 1) ((dkE.set (by simp)).tr (dkE.set (by simp))) ⟨?_, ?_, ?_, ?_⟩ ⟨by omega, fun j hj => i2 j (by omega), fun i j hij hj => i3 i j hij (by omega), i4, i5, fun d i h j hj => i6 d i h j (by omega), ?_⟩ hp (va_up_self _ _ _) (fun j hj => i3 j u hj (by omega)) (fun d i h => Ne.symm (i6 d i h u (by omega)))
  · intro d i hd hi
    rw [gset_o (dkR_ne (by simp) (by simp)), gset_o (dkR_ne (by simp) (by simp))]
    exact m1 d i hd hi
  · intro p hp'
    by_cases h : p = un u
    · subst h; rw [gset_s, va_up_self]; rfl
    · rw [gset_n (Or.inr h), gset_o (by simp), va_up_ne _ _ h]; exact m2 p hp'
  · intro j hj
    rw [gset_o (by simp), gset_o (by simp)]
    exact m3 j hj
  · rw [gset_o (by simp), gset_s]
  · intro d i h
    rw [va_up_ne _ _ (Ne.symm (i6 d i h u (by omega)))]
    exact i7 d i h
/-- a page that the twin owns is shared -/
theorem dk_share {Ln : gI → Nat} {M : Nat} {O : Nat → Nat → Prop} {pg : Nat → Nat → Nat} {ow un : Nat → Nat} {uc c k : Nat} {S : gS} {Q : gS → Prop} {v : Int32}
    (hL : dkL Ln M) (hM : dkM M pg ow un uc S) (hI : dkI M O pg ow un uc) (hc : c < 32) (ho : ¬ O c k) (ht : O (dkT c) k) (he : pg c k = pg (dkT c) k) (hv : v = nI (pg c k))
    (hq : ∀ S' ow', dkE S S' → dkM M pg ow' un uc S' → dkI M (fun d i => O d i ∨ (d = c ∧ i = k)) pg ow' un uc → Q S') : wp_Pages_share Ln Q (6, 0) v S := by
  subst hv
  obtain ⟨hM8, hM1, l7, l8, l9, lR⟩ := hL
  obtain ⟨m1, m2, m3, m4⟩ := hM
  obtain ⟨i1, i2, i3, i4, i5, i6, i7⟩ := hI
  obtain ⟨htc, hk, hp⟩ := i4 _ k ht
  rw [← he] at hp
  have e1 : grf (6, 0) 1 = (8, 0) := rfl
  have how : ow (pg c k) = 1 := by
    have := (i7 _ k ht).2
    rw [dkT_T hc] at this
    rw [he]
    exact this fun z => ho z.1
  unfold wp_Pages_share
  rw [e1, l8, nI_clamp (by omega), m2 _ hp, how]
  refine ⟨vp_in_nI hp (by omega), vp_in_nI hp (by omega), ?_⟩
  rintro _ rfl
  have hne : ∀ d i, O d i → pg d i = pg c k → d = dkT c ∧ i = k := by
    intro d i h h3
    rw [he] at h3
    obtain ⟨a, b⟩ := i5 d i _ k h ht h3
    rcases dkT_m htc (i4 d i h).1 b.symm with e | e
    · exact ⟨e, a⟩
    · rw [dkT_T hc] at e
      rw [e, a] at h
      exact absurd h ho
  refine hq _ (va_up ow (pg c k) 2) (dkE.set (by simp)) ⟨?_, ?_, ?_, ?_⟩ ⟨i1, i2, i3, ?_, ?_, ?_, ?_⟩
  · intro d i hd hi
    rw [gset_o (dkR_ne (by simp) (by simp))]
    exact m1 d i hd hi
  · intro p hp'
    by_cases h : p = pg c k
    · subst h; rw [gset_s, va_up_self]; rfl
    · rw [gset_n (Or.inr h), va_up_ne _ _ h]; exact m2 p hp'
  · intro j hj
    rw [gset_o (by simp)]
    exact m3 j hj
  · rw [gset_o (by simp)]
    exact m4
  · rintro d i (h | ⟨rfl, rfl⟩)
    · exact i4 d i h
    · exact ⟨hc, hk, hp⟩
  · rintro d i d' i' (h | ⟨rfl, rfl⟩) (h' | ⟨rfl, rfl⟩) e
    · exact i5 d i d' i' h h' e
    · obtain ⟨rfl, rfl⟩ := hne d i h e
      refine ⟨rfl, ?_⟩
      unfold dkT; split <;> omega
    · obtain ⟨rfl, rfl⟩ := hne d' i' h' e.symm
      refine ⟨rfl, ?_⟩
      unfold dkT; split <;> omega
    · exact ⟨rfl, rfl⟩
  · rintro d i (h | ⟨rfl, rfl⟩)
    · exact i6 d i h
    · rw [he]; exact i6 _ _ ht
  · rintro d i (h | ⟨rfl, rfl⟩)
    · by_cases h2 : pg d i = pg c k
      · obtain ⟨rfl, rfl⟩ := hne d i h h2
        rw [h2, va_up_self, dkT_T hc]
        exact ⟨fun _ => rfl, fun z => absurd ⟨Or.inr ⟨rfl, rfl⟩, rfl⟩ z⟩
      · rw [va_up_ne _ _ h2]
        refine ⟨fun z => (i7 d i h).1 ⟨?_, z.2⟩, fun z => (i7 d i h).2 fun z2 => z ⟨Or.inl z2.1, z2.2⟩⟩
        rcases z.1 with h3 | ⟨h3, rfl⟩
        · exact h3
        · rw [h3] at z; exact absurd z.2.symm h2
    · rw [va_up_self]
      exact ⟨fun _ => rfl, fun z => absurd ⟨Or.inl ht, he.symm⟩ z⟩
