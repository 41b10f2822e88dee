def dkF_sh (F : gF) (f n : Nat) : gF := (F.1, F.2.1, F.2.2.1, va_up F.2.2.2 f n)
def dkF_th (F : gF) (f n : Nat) : gF := (F.1, va_up F.2.1 f n, F.2.2)
theorem dk_copyLast {Ln : gI → Nat} {M : Nat} {F : gF} {S : gS} {f : Nat} {Q : gS → Prop} (hL : dkL Ln M) (hd : dk M F S) (hf : f < 16) (hC : dkC F f) (hu : 0 < dkU M F)
    (hq : ∀ S', dk M (dkF_sh F f (F.sz f / 64)) S' → dkX S S' → Q S') : wp_DiskFile_copyLastPage Ln Q (1, f) S := by
  have hz := dk_sz hd hL.2.1 (show f < 32 by omega)
  have huc := dk_uc hd
  obtain ⟨pg, ow, un, uc, m, i, hN, hff, hb, hfit, hsu⟩ := hd
  obtain ⟨hC1, hC2⟩ := hC
  have hp : dkP (F.sz f) = F.sz f / 64 + 1 := by unfold dkP; omega
  obtain ⟨u, rfl⟩ : ∃ u, uc = u + 1 := ⟨uc - 1, by omega⟩
  have hM4 := hL.2.1
  have hk4 : F.sz f / 64 < min M 400 := by omega
  obtain ⟨g0, g1, g2, g3⟩ := hff f hf
  have hpo := (i.2.2.2.1 f (F.sz f / 64) ⟨by omega, by omega⟩).2.2
  unfold wp_DiskFile_copyLastPage
  rw [dkf1 hf, dkf0, dkN_rf, show grf (6, 0) 0 = (7, 0) from rfl, hL.2.2.2.2.2 f (by omega), hL.2.2.1, (hN f (by omega)).1, show (64 : Int32) = nI 64 from rfl, pk_div (by omega) (by omega) (by omega)]
  rintro _ rfl
  rw [nI_clamp (by omega), m.1 f _ (by omega) hk4]
  refine ⟨vp_in_nI hk4 (by omega), ?_⟩
  rintro _ rfl
  refine dk_seize hL m i ?_
  intro S1 ow1 a1 a2 a3 a4 a5 a6 a7
  rw [pk_mul, pk_mul, nI_clamp (by omega), nI_clamp (by omega), nI_clamp (by omega)]
  have h7 : S1.1 (7, 0) = S.1 (7, 0) := a1.2 _ (by simp) (by simp) (by simp)
  refine ⟨⟨nI_pos (by omega), nI_pos (by omega), by decide, by omega, by omega, fun z hz => ?_⟩, ?_⟩
  · rw [h7]; exact hfit _ (by omega)
  rintro _ rfl
  generalize hS2 : gcpy S1 (7, 0) (pg f (F.sz f / 64) * 64) (7, 0) (un u * 64) 64 = S2
  have c7 : ∀ q, S2.1 (7, 0) q = va_cpy (S.1 (7, 0)) (S.1 (7, 0)) (pg f (F.sz f / 64) * 64) (un u * 64) 64 q := by
    intro q; rw [← hS2, gcpy_at, h7]
  have co : ∀ j : gI, j ≠ (7, 0) → S2.1 j = S1.1 j := by
    intro j hj; rw [← hS2]; exact gcpy_o hj
  have c2 : S2.2 = S1.2 := by rw [← hS2]; rfl
  refine dk_giveUp (c := f) (k := F.sz f / 64) hL (dkM_of (fun j hj => co j (by rintro rfl; simp at hj)) (congrFun (co _ (by simp)) 3) a2) a3 ⟨by omega, by omega⟩ rfl (fun _ => by omega) ?_
  intro S3 ow3 un3 uc3 b1 b2 b3 b4 b5 b6
  have hshared : (dkT f < 32 ∧ F.sz f / 64 < dkP (F.sz (dkT f))) ∧ pg (dkT f) (F.sz f / 64) = pg f (F.sz f / 64) := by
    rw [dkT_n hf]
    exact ⟨⟨by omega, by omega⟩, (g3 _ (by omega) (by omega)).2 hC2⟩
  have e3 := b5 hshared
  subst e3
  refine ⟨vp_in_nI hk4 (by omega), ?_⟩
  rintro _ rfl
  obtain ⟨b7, b8⟩ := b4 (un uc3) a6 (a7 f _ ⟨by omega, by omega⟩)
  have hR : ∀ j : gI, j.1 ≠ 3 → j.1 ≠ 5 → j.1 ≠ 6 → j.1 ≠ 8 → j.1 ≠ 9 → (gset S3 (dkR f) (F.sz f / 64) (nI (un uc3))).1 j = S2.1 j := by
    intro j h3 h5 h6 h8 h9
    rw [gset_o (Ne.symm (dkR_ne h3 h5))]
    exact b1.2 j h6 h8 h9
  have hRo : ∀ j : gI, j.1 ≠ 3 → j.1 ≠ 5 → j.1 ≠ 6 → j.1 ≠ 7 → j.1 ≠ 8 → j.1 ≠ 9 → (gset S3 (dkR f) (F.sz f / 64) (nI (un uc3))).1 j = S.1 j := by
    intro j h3 h5 h6 h7 h8 h9
    rw [hR j h3 h5 h6 h8 h9, co j (by rintro rfl; simp at h7)]
    exact a1.2 j h6 h8 h9
  have hno : ¬ ((f < 32 ∧ F.sz f / 64 < dkP (F.sz f)) ∧ ¬ (f = f ∧ F.sz f / 64 = F.sz f / 64)) := fun z => z.2 ⟨rfl, rfl⟩
  have eshf : (dkF_sh F f (F.sz f / 64)).sh f = F.sz f / 64 := va_up_self _ _ _
  refine hq _ ⟨dkS pg f (F.sz f / 64) (un uc3), ow3, un3, uc3, dkM_set (by omega) rfl b2, dkI_O ?_ (dkI_add (c := f) (k := F.sz f / 64) (dkI_set hno b3) hno (by omega) hk4 ?_ ?_ ?_ ?_), ?_, ?_, ?_, ?_, ?_⟩ ?_
  · intro c k
    constructor
    · rintro (z | ⟨rfl, rfl⟩)
      · exact z.1
      · exact ⟨by omega, show _ < dkP (F.sz c) by omega⟩
    · intro z
      by_cases e : c = f ∧ k = F.sz f / 64
      · exact Or.inr e
      · exact Or.inl ⟨z, e⟩
  · rw [dkS_s]; exact a4
  · intro d j h
    rw [dkS_s, dkS_n h.2]
    exact a7 d j h.1
  · intro j hj; rw [dkS_s]; exact b7 j hj
  · rw [dkS_s, b8]; exact a5
  · intro c hc
    rw [hRo _ (by have := dkN_1 c; omega) (by have := dkN_1 c; omega) (by have := dkN_1 c; omega) (by have := dkN_1 c; omega) (by have := dkN_1 c; omega) (by have := dkN_1 c; omega)]
    exact hN c hc
  · intro g hg
    rw [hRo _ (by simp) (by simp) (by simp) (by simp) (by simp) (by simp)]
    by_cases e : g = f
    · subst e
      rw [eshf]
      refine ⟨g0, by show _ ≤ dkP (F.sz g); omega, by show _ ≤ dkP (F.sz (16 + g)); omega, fun k h1 h2 => ?_⟩
      have h1' : k < dkP (F.sz g) := h1
      rw [dkS_n (by omega)]
      by_cases e : k = F.sz g / 64
      · subst e
        rw [dkS_s]
        exact ⟨fun z => absurd z (a7 (16 + g) _ ⟨by omega, h2⟩), fun z => absurd z (Nat.lt_irrefl _)⟩
      · rw [dkS_n (fun z => e z.2), g3 k h1 h2]; omega
    · rw [show (dkF_sh F f (F.sz f / 64)).sh g = F.sh g from va_up_ne _ _ e]
      refine ⟨(hff g hg).1, (hff g hg).2.1, (hff g hg).2.2.1, fun k h1 h2 => ?_⟩
      rw [dkS_n (by omega), dkS_n (fun z => e z.1)]
      exact (hff g hg).2.2.2 k h1 h2
  · intro c j hc hj
    rw [hR _ (by simp) (by simp) (by simp) (by simp) (by simp), c7]
    have hj' : j < F.sz c := hj
    by_cases e : c = f ∧ j / 64 = F.sz f / 64
    · obtain ⟨rfl, e⟩ := e
      rw [e, dkS_s, pk_cpy_in (by omega) (by omega)]
      have := hb c j hc hj
      rw [e] at this
      rw [show pg c (F.sz c / 64) * 64 + (un uc3 * 64 + j % 64 - un uc3 * 64) = pg c (F.sz c / 64) * 64 + j % 64 by omega]
      exact this
    · rw [dkS_n e, pk_cpy_out]
      · exact hb c j hc hj
      · have := a7 c (j / 64) ⟨hc, dkP_lt hj⟩
        omega
  · intro a ha
    rw [hR _ (by simp) (by simp) (by simp) (by simp) (by simp), c7]
    by_cases e : un uc3 * 64 ≤ a ∧ a < un uc3 * 64 + 64
    · rw [pk_cpy_in e.1 e.2]; exact hfit _ (by omega)
    · rw [pk_cpy_out (by omega)]; exact hfit a ha
  · have hw := dkW_c (F := dkF_sh F f (F.sz f / 64)) (c := f) (by omega)
    have hw0 := dkW_c (F := F) (c := f) (by omega)
    rw [Nat.mod_eq_of_lt hf, eshf] at hw
    rw [Nat.mod_eq_of_lt hf] at hw0
    have hsum := dkSum_u (g := dkW F) (g' := dkW (dkF_sh F f (F.sz f / 64))) 16 hf ?_
    · rw [hw, hw0] at hsum
      have z1 : (dkF_sh F f (F.sz f / 64)).sz f = F.sz f := rfl
      have z2 : (dkF_sh F f (F.sz f / 64)).sz (dkT f) = F.sz (dkT f) := rfl
      rw [z1, z2, dkT_n hf] at hsum
      omega
    · intro g hg hg2
      unfold dkW
      rw [show (dkF_sh F f (F.sz f / 64)).sh g = F.sh g from va_up_ne _ _ hg2]
      rfl
  · refine a1.x.tr (dkX.tr (S1 := S2) ⟨c2, fun j hj => co j (by rintro rfl; simp at hj)⟩ (b1.x.tr (dkX.set (by have := dkR_1 f; omega))))
theorem dk_th {M : Nat} {F : gF} {S : gS} {f n : Nat} {v : Int32} (hd : dk M F S) (hf : f < 32) (hn : n ≤ 1) (hv : v = nI n) : dk M (dkF_th F f n) (gset S (dkN f) 1 v) := by
  subst hv
  obtain ⟨pg, ow, un, uc, m, i, hN, hff, hb, hfit, hsu⟩ := hd
  refine ⟨pg, ow, un, uc, dkM_of (fun j hj => gset_o (fun e => by have := dkN_1 f; rw [← e] at this; omega)) (congrFun (gset_o (Ne.symm (dkN_ne (by simp) (by simp)))) 3) m, i, ?_, ?_, ?_, ?_, hsu⟩
  · intro c hc
    show _ ∧ _ = nI (va_up F.2.1 f n c) ∧ va_up F.2.1 f n c ≤ 1
    by_cases e : c = f
    · subst e
      rw [gset_n (Or.inr (by omega)), gset_s, va_up_self]
      exact ⟨(hN c hc).1, rfl, hn⟩
    · rw [gset_o (fun z => e (dkN_inj hc hf z)), va_up_ne _ _ e]
      exact hN c hc
  · intro g hg
    rw [gset_o (Ne.symm (dkN_ne (by simp) (by simp)))]
    exact hff g hg
  · intro c j hc hj
    rw [gset_o (Ne.symm (dkN_ne (by simp) (by simp)))]
    exact hb c j hc hj
  · intro a ha
    rw [gset_o (Ne.symm (dkN_ne (by simp) (by simp)))]
    exact hfit a ha
def dkF_lo (F : gF) (f n : Nat) : gF := (F.1, F.2.1, va_up F.2.2.1 f n, F.2.2.2)
theorem dk_lo {M : Nat} {F : gF} {S : gS} {f n : Nat} {v : Int32} (hd : dk M F S) (hv : v = nI n) : dk M (dkF_lo F f n) (gset S (1, f) 3 v) := by
  subst hv
  obtain ⟨pg, ow, un, uc, m, i, hN, hff, hb, hfit, hsu⟩ := hd
  refine ⟨pg, ow, un, uc, dkM_of (fun j hj => gset_o (fun e => by rw [e] at hj; simp at hj)) (congrFun (gset_o (by simp)) 3) m, i, ?_, ?_, ?_, ?_, hsu⟩
  · intro c hc
    rw [gset_o (dkN_ne (by simp) (by simp))]
    exact hN c hc
  · intro g hg
    show _ = nI (va_up F.2.2.1 f n g) ∧ _
    by_cases e : g = f
    · subst e
      rw [gset_s, va_up_self]
      exact ⟨rfl, (hff g hg).2⟩
    · rw [gset_o (by intro z; injection z with z1 z2; exact e z2), va_up_ne _ _ e]
      exact hff g hg
  · intro c j hc hj
    rw [gset_o (by simp)]
    exact hb c j hc hj
  · intro a ha
    rw [gset_o (by simp)]
    exact hfit a ha
