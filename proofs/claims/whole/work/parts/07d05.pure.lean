def dkF_bec (F : gF) (c : Nat) : gF := (va_up F.1 c (F.1 (dkT c)), va_up F.2.1 c (F.th (dkT c)), F.2.2.1, va_up F.2.2.2 (c % 16) (dkP (F.sz (dkT c))))
theorem nI_cases {n : Nat} (h : n ≤ 1) : nI n = 0 ∨ nI n = 1 := by
  rcases Nat.lt_or_ge n 1 with e | e
  · left; rw [show n = 0 by omega]; rfl
  · right; rw [show n = 1 by omega]; rfl
theorem dk_become {Ln : gI → Nat} {M : Nat} {F : gF} {S : gS} {c : Nat} {Q : gS → Prop} (hL : dkL Ln M) (hd : dk M F S) (hc : c < 32)
    (hq : ∀ S', dk M (dkF_bec F c) S' → dkX S S' → Q S') : wp_Content_become Ln Q (dkN c) (dkN (dkT c)) (6, 0) S := by
  have ht := dkT_lt hc
  have htt := dkT_T hc
  have htm : dkT c % 16 = c % 16 := by unfold dkT; split <;> omega
  have hzt := dk_sz hd hL.2.1 ht
  unfold wp_Content_become
  refine dk_cutC hL hd hc (Nat.zero_le _) rfl ?_
  intro S1 hd1 hx1
  have hct : (dkF_cut F c 0).1 (dkT c) = F.1 (dkT c) := va_up_ne _ _ dkT_ne
  have hcc : (dkF_cut F c 0).1 c = [] := by
    show va_up F.1 c ((F.1 c).take 0) c = []
    rw [va_up_self, List.take_zero]
  obtain ⟨pg, ow, un, uc, m, i, hN, hf, hb, hfit, hs⟩ := hd1
  have hNt := hN (dkT c) ht
  have esz : (dkF_cut F c 0).sz (dkT c) = F.sz (dkT c) := congrArg List.length hct
  have esc : (dkF_cut F c 0).sz c = 0 := congrArg List.length hcc
  have eth : (dkF_cut F c 0).th (dkT c) = F.th (dkT c) := rfl
  rw [esz, eth] at hNt
  unfold wp_LogDisk_pagesFor
  rw [hNt.1, dkP_i (by omega)]
  have hP4 : dkP (F.sz (dkT c)) ≤ min M 400 := hzt.1
  have hM4 := hL.2.1
  have ne1 : ∀ d, dkN d ≠ dkR c := fun d => dkN_ne (by have := dkR_1 c; omega) (by have := dkR_1 c; omega)
  refine pk_loop (fun n k S' => wp_Content_become_17 Ln Q n (dkN c) (dkN (dkT c)) (6, 0) (nI (dkP (F.sz (dkT c)))) (nI k) S')
    (fun k S' => ∃ pg' ow', dkM M pg' ow' un uc S' ∧ dkI M (fun d j => (d < 32 ∧ j < dkP ((dkF_cut F c 0).sz d)) ∨ (d = c ∧ j < k)) pg' ow' un uc ∧ (∀ d j, d ≠ c → pg' d j = pg d j) ∧ (∀ j, j < k → pg' c j = pg (dkT c) j) ∧
      S'.2 = S1.2 ∧ ∀ i : gI, i.1 ≠ 6 → i.1 ≠ 8 → i.1 ≠ 9 → i ≠ dkR c → S'.1 i = S1.1 i)
    (dkP (F.sz (dkT c))) 0 S1 (Nat.zero_le _) ?_ ?_ ?_
  · refine ⟨pg, ow, m, dkI_O (fun d j => ⟨Or.inl, ?_⟩) i, fun _ _ _ => rfl, fun j hj => absurd hj (Nat.not_lt_zero j), rfl, fun _ _ _ _ _ => rfl⟩
    rintro (z | z)
    · exact z
    · omega
  · rintro n S2 ⟨pg2, ow2, m2, i2, e2, c2, s2, f2⟩
    unfold wp_Content_become_17
    refine br_t (nI_le (Nat.le_refl _) (by omega)) ?_
    unfold wp_Content_become_64
    have r1 : S2.1 (dkN (dkT c)) = S1.1 (dkN (dkT c)) := f2 _ (by have := dkN_1 (dkT c); omega) (by have := dkN_1 (dkT c); omega) (by have := dkN_1 (dkT c); omega) (ne1 _)
    have nct : dkN (dkT c) ≠ dkN c := fun e => dkT_ne (dkN_inj ht hc e)
    rw [r1, hNt.1]
    rintro _ rfl
    have r2 : (gset S2 (dkN c) 2 (nI (F.sz (dkT c)))).1 (dkN (dkT c)) 1 = nI (F.th (dkT c)) := by
      rw [gset_o nct, r1]; exact hNt.2.1
    rw [r2]
    refine ⟨nI_cases hNt.2.2, ?_⟩
    rintro _ rfl
    have kN : ∀ i : gI, i.1 ≠ 2 → i.1 ≠ 4 → (gset (gset S2 (dkN c) 2 (nI (F.sz (dkT c)))) (dkN c) 1 (nI (F.th (dkT c)))).1 i = S2.1 i := by
      intro i h2 h4
      rw [gset_o (Ne.symm (dkN_ne h2 h4)), gset_o (Ne.symm (dkN_ne h2 h4))]
    have hlen : ∀ d, (dkF_bec F c).sz d = if d = c then F.sz (dkT c) else F.sz d := by
      intro d
      show (va_up F.1 c (F.1 (dkT c)) d).length = _
      by_cases e : d = c
      · subst e; rw [va_up_self, if_pos rfl]
      · rw [va_up_ne _ _ e, if_neg e]
    have hlen1 : ∀ d, d ≠ c → (dkF_cut F c 0).sz d = F.sz d := fun d e => congrArg List.length (va_up_ne _ _ e)
    refine hq _ ⟨pg2, ow2, un, uc, ?_, ?_, ?_, ?_, ?_, ?_, ?_⟩ (hx1.tr ?_)
    · refine dkM_of (fun j hj => kN j (by omega) (by omega)) (congrFun (kN _ (by simp) (by simp)) 3) m2
    · refine dkI_O ?_ i2
      intro d j
      rw [hlen]
      by_cases e : d = c
      · subst e
        rw [if_pos rfl, esc, dkP_0]
        constructor
        · rintro (z | z)
          · omega
          · exact ⟨hc, z.2⟩
        · intro z; exact Or.inr ⟨rfl, z.2⟩
      · rw [if_neg e, hlen1 d e]
        constructor
        · rintro (z | z)
          · exact z
          · exact absurd z.1 e
        · exact Or.inl
    · intro d hd
      rw [hlen]
      show _ ∧ _ = nI (va_up F.2.1 c (F.th (dkT c)) d) ∧ va_up F.2.1 c (F.th (dkT c)) d ≤ 1
      by_cases e : d = c
      · subst e
        rw [if_pos rfl, va_up_self, gset_n (Or.inr (by omega)), gset_s, gset_s]
        exact ⟨rfl, rfl, hNt.2.2⟩
      · have e2 : dkN d ≠ dkN c := fun z => e (dkN_inj hd hc z)
        rw [if_neg e, va_up_ne _ _ e, gset_o e2, gset_o e2, f2 _ (by have := dkN_1 d; omega) (by have := dkN_1 d; omega) (by have := dkN_1 d; omega) (ne1 _)]
        have := hN d hd
        rw [hlen1 d e] at this
        exact this
    · intro f hf2
      rw [kN _ (by simp) (by simp), f2 _ (by simp) (by simp) (by simp) (Ne.symm (dkR_ne (by simp) (by simp)))]
      refine ⟨(hf f hf2).1, ?_⟩
      show va_up F.2.2.2 (c % 16) _ f ≤ _ ∧ va_up F.2.2.2 (c % 16) _ f ≤ _ ∧ ∀ k, _ → _ → (_ ↔ k < va_up F.2.2.2 (c % 16) _ f)
      rw [hlen, hlen]
      by_cases e : f = c % 16
      · subst e
        rw [va_up_self]
        rcases Nat.lt_or_ge c 16 with e | e
        · have em : c % 16 = c := Nat.mod_eq_of_lt e
          have et : dkT c = 16 + c := dkT_n e
          rw [em, if_pos rfl, if_neg (by omega), et]
          refine ⟨Nat.le_refl _, Nat.le_refl _, fun k h1 h2 => ?_⟩
          rw [← et] at h1
          rw [c2 k h1, e2 _ _ (by omega), et] at *
          exact ⟨fun _ => h2, fun _ => rfl⟩
        · have em : 16 + c % 16 = c := by omega
          have et : dkT c = c % 16 := by unfold dkT; rw [if_neg (by omega)]; omega
          rw [em, if_pos rfl, if_neg (by omega), et]
          refine ⟨Nat.le_refl _, Nat.le_refl _, fun k h1 h2 => ?_⟩
          have z := c2 k (by rw [et]; exact h1)
          rw [et] at z
          rw [z, e2 _ _ (by omega)]
          exact ⟨fun _ => h1, fun _ => rfl⟩
      · rw [va_up_ne _ _ e, if_neg (by omega), if_neg (by omega)]
        have := (hf f hf2).2
        rw [hlen1 f (by omega), hlen1 (16 + f) (by omega), show (dkF_cut F c 0).sh f = F.sh f from va_up_ne _ _ e] at this
        exact ⟨this.1, this.2.1, fun k h1 h2 => by rw [e2 (16 + f) k (by omega), e2 f k (by omega)]; exact this.2.2 k h1 h2⟩
    · intro d j hd hj
      rw [hlen] at hj
      rw [kN _ (by simp) (by simp), f2 _ (by simp) (by simp) (by simp) (Ne.symm (dkR_ne (by simp) (by simp)))]
      show isB _ ((va_up F.1 c (F.1 (dkT c)) d).getD j 0)
      by_cases e : d = c
      · subst e; rw [if_pos rfl] at hj
        rw [va_up_self, c2 _ (dkP_lt hj)]
        have := hb (dkT d) j ht (by rw [esz]; exact hj)
        rw [hct] at this
        exact this
      · rw [if_neg e] at hj
        rw [va_up_ne _ _ e, e2 _ _ e]
        have := hb d j hd (by rw [hlen1 d e]; exact hj)
        rw [show (dkF_cut F c 0).1 d = F.1 d from va_up_ne _ _ e] at this
        exact this
    · intro a ha
      rw [kN _ (by simp) (by simp), f2 _ (by simp) (by simp) (by simp) (Ne.symm (dkR_ne (by simp) (by simp)))]
      exact hfit a ha
    · have hw := dkW_c (F := dkF_cut F c 0) hc
      have hw' := dkW_c (F := dkF_bec F c) hc
      rw [esz, esc, show (dkF_cut F c 0).sh (c % 16) = min (F.sh (c % 16)) (dkP 0) from va_up_self _ _ _, dkP_0] at hw
      rw [hlen, hlen, if_pos rfl, if_neg dkT_ne, show (dkF_bec F c).sh (c % 16) = dkP (F.sz (dkT c)) from va_up_self _ _ _] at hw'
      have hsum := dkSum_u (g := dkW (dkF_cut F c 0)) (g' := dkW (dkF_bec F c)) 16 (show c % 16 < 16 by omega) ?_
      · rw [hw, hw'] at hsum
        omega
      · intro j hj hj2
        unfold dkW
        rw [hlen, hlen, if_neg (by omega), if_neg (by omega), hlen1 _ (by omega), hlen1 _ (by omega)]
        rw [show (dkF_bec F c).sh j = F.sh j from va_up_ne _ _ hj2, show (dkF_cut F c 0).sh j = F.sh j from va_up_ne _ _ hj2]
    · refine dkX.tr ⟨s2, fun j hj => f2 j (by omega) (by omega) (by omega) ?_⟩ ((dkX.set (by have := dkN_1 c; omega)).tr (dkX.set (by have := dkN_1 c; omega)))
      intro e; have := dkR_1 c; rw [← e] at this; omega
  · rintro n k S2 hk ⟨pg2, ow2, m2, i2, e2, c2, s2, f2⟩ ih
    have hk4 : k < min M 400 := by omega
    unfold wp_Content_become_17
    rw [dkN_rf, dkN_rf, hL.2.2.2.2.2 c hc, hL.2.2.2.2.2 _ ht, nI_clamp (by omega)]
    refine br_f (nI_ge hk (by omega)) (br_f (nI_ge hk4 (by omega)) ⟨vp_in_nI hk4 (by omega), vp_in_nI hk4 (by omega), ?_⟩)
    rintro _ rfl
    refine ⟨vp_in_nI hk4 (by omega), ?_⟩
    rw [gset_s, m2.1 _ k ht hk4]
    have hno : ¬ ((c < 32 ∧ k < dkP ((dkF_cut F c 0).sz c)) ∨ (c = c ∧ k < k)) := by
      rw [esc, dkP_0]; omega
    refine dk_share (c := c) (k := k) hL (dkM_set hc rfl m2) (dkI_set hno i2) hc hno (Or.inl ⟨ht, by rw [esz]; exact hk⟩) ?_ ?_ ?_
    · rw [dkS_s, dkS_n (fun z => dkT_ne z.1)]
    · rw [dkS_s]
    · intro S3 ow3 b1 b2 b3
      rintro _ rfl
      rw [nI_1]
      refine ih S3 ⟨_, ow3, b2, dkI_O ?_ b3, ?_, ?_, ?_, ?_⟩
      · intro d j
        constructor
        · rintro ((z | z) | z)
          · exact Or.inl z
          · exact Or.inr ⟨z.1, by omega⟩
          · exact Or.inr ⟨z.1, by omega⟩
        · rintro (z | z)
          · exact Or.inl (Or.inl z)
          · by_cases e : j = k
            · exact Or.inr ⟨z.1, e⟩
            · exact Or.inl (Or.inr ⟨z.1, by omega⟩)
      · intro d j h; rw [dkS_n (fun z => h z.1)]; exact e2 d j h
      · intro j hj
        by_cases e : j = k
        · subst e; rw [dkS_s]; exact e2 _ _ dkT_ne
        · rw [dkS_n (fun z => e z.2)]; exact c2 j (by omega)
      · exact b1.1.trans s2
      · intro j h6 h8 h9 hr
        rw [b1.2 j h6 h8 h9, gset_o hr]
        exact f2 j h6 h8 h9 hr
