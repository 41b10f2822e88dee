theorem r_settleAll {Ln : gI → Nat} {M nf us : Nat} {T : Nat → gFr} {R : Nat → List Nat} {G : gF} {S : gS} {Q : Int32 → gS → Prop} (hL : aL Ln M) (hD : rfD T nf us R G S)
    (hq : ∀ S1, rX S S1 → rfD T nf us (riSy R 16) (dkF_sy G 16) S1 → Q (S1.1 (30, 0) 27) (gset S1 (30, 0) 29 0)) : ∃ m, wp_Mo_crash_218 Ln Q m (30, 0) 0 S := by
  refine pk_loop (fun fu k S' => wp_Mo_crash_218 Ln Q fu (30, 0) (nI k) S') (fun k S' => k ≤ 16 ∧ rX S S' ∧ rfD T nf us (riSy R k) (dkF_sy G k) S') 16 0 S (Nat.zero_le _) ⟨by omega, rX.rf S, hD⟩ ?_ ?_
  · rintro m S' ⟨-, hx', hd'⟩
    unfold wp_Mo_crash_218
    refine br_t (by decide) ?_
    rintro _ rfl
    rw [gset_n (Or.inr (by omega))]
    exact hq S' hx' hd'
  · rintro m k S' hk ⟨-, hx', hd'⟩ ih
    unfold wp_Mo_crash_218
    refine br_f (nI_ge (b := 16) hk (by omega)) (rf_settle hL.2.1 hd' hk rfl ?_)
    intro S2 hx2 hd2
    rintro _ rfl
    rw [nI_1]
    exact ih S2 ⟨by omega, hx'.tr hx2, hd2⟩
theorem r_removeRest {Ln : gI → Nat} {M nf us : Nat} {T : Nat → gFr} {R : Nat → List Nat} {G : gF} {od : List Nat} {S : gS} {Q : Int32 → gS → Prop} (hL : aL Ln M) (hD : rfD T nf us R G S) (hG : rG od S) (h12 : od.length ≤ 12) (ho : ∀ k, k < od.length → od.getD k 0 < 16)
    (hq : ∀ S1, rX S S1 → rfD T nf us (riSy (rmB R od 12) 16) (dkF_sy (rmA G od 12) 16) S1 → Q (S1.1 (30, 0) 27) (gset S1 (30, 0) 29 0)) : ∃ m, wp_Mo_crash_187 Ln Q m (30, 0) 4 S := by
  refine pk_loop (fun fu k S' => wp_Mo_crash_187 Ln Q fu (30, 0) (nI (4 + k)) S') (fun k S' => rX S S' ∧ rfD T nf us (rmB R od k) (rmA G od k) S') 12 0 S (Nat.zero_le _) ⟨rX.rf S, hD⟩ ?_ ?_
  · rintro m S' ⟨hx, hd'⟩
    unfold wp_Mo_crash_187
    exact br_t (by decide) (r_settleAll hL hd' (fun S1 a b => hq S1 (hx.tr a) b))
  · rintro m k S' hk ⟨hx, hd'⟩ ih
    have hG' : rG od S' := by
      unfold rG; rw [hx.2 _ (by simp), hx.2 _ (by simp)]; exact hG
    unfold wp_Mo_crash_187 wp_Mo_crash_209
    refine br_f (nI_ge (b := 16) (show 4 + k < 16 by omega) (by omega)) (r_isJoined hL hG' h12 ho rfl (by omega) (fun hm => cr_f (by decide) ?_) (fun hm => cr_t rfl ?_))
    · rintro _ rfl
      rw [nI_1, show 4 + k + 1 = 4 + (k + 1) by omega]
      refine ih S' ⟨hx, ?_⟩
      rw [show rmA G od (k + 1) = rmA G od k from if_pos hm, show rmB R od (k + 1) = rmB R od k from if_pos hm]; exact hd'
    · refine rf_remove hL.2.1 hd' (by omega) rfl ?_
      intro S2 hx2 hd2
      rintro _ rfl
      rw [nI_1, show 4 + k + 1 = 4 + (k + 1) by omega]
      refine ih S2 ⟨hx.tr hx2, ?_⟩
      rw [show rmA G od (k + 1) = dkF_rm (rmA G od k) (4 + k) from if_neg hm, show rmB R od (k + 1) = va_up (rmB R od k) (4 + k) [] from if_neg hm]; exact hd2
def rZ (bs : Nat) (T : Nat → gFr) (F : gF) (ri : Nat → List Nat) (nf us : Nat) (od : List Nat) (S0 S : gS) : Prop :=
  loX S0 S ∧ (∀ k, k ≠ 27 → k ≠ 30 → k ≠ 29 → S.1 (30, 0) k = S0.1 (30, 0) k) ∧ S.1 (44, 0) = S0.1 (44, 0) ∧ S.1 (47, 0) = S0.1 (47, 0) ∧ rfD T nf us (riSy (rmB (ctR T F ri od) od 12) 16) (dkF_sy (rmA (ctF T F ri od) od 12) 16) S ∧ S.1 (30, 0) 27 = nI (laO bs T F ri od) ∧ S.1 (30, 0) 29 = 0 ∧ rG od S ∧ rE (enD T F ri od) bs (laO bs T F ri od) S
theorem r_findLog {Ln : gI → Nat} {M n nf us : Nat} {F : gF} {T : Nat → gFr} {ri : Nat → List Nat} {bs : Nat} {bt : Int32} {S : gS} {Q : Int32 → gS → Prop} (hL : aL Ln M) (h : wL n bs F T ri) (hD : rfD T nf us ri F S) (h23 : S.1 (30, 0) 23 = nI bs) (h24 : S.1 (30, 0) 24 = bt)
    (hq : ∀ S' od, lgO bs bt T F ri od → rZ bs T F ri nf us od S S' → Q (nI (laO bs T F ri od)) S') : ∀ S5 : gS, S5 = gset S (30, 0) 27 (S.1 (30, 0) 23) → (∀ S6 : gS, S6 = gset S5 (30, 0) 30 0 → (wp_Mo_firstSegment Ln (fun r8 S7 => ∃ n149 : Nat, wp_Mo_crash_149 Ln Q n149 (30, 0) r8 S7) (30, 0) S6)) := by
  rintro S5 hS5 S6 hS6
  have hbs := h.2.2.2.2
  have o6 : ∀ i : gI, i ≠ (30, 0) → S6.1 i = S.1 i := fun i hi => by rw [hS6, hS5, gset_o hi, gset_o hi]
  have q6 : ∀ k, k ≠ 27 → k ≠ 30 → S6.1 (30, 0) k = S.1 (30, 0) k := fun k a b => by rw [hS6, hS5, gset_n (Or.inr b), gset_n (Or.inr a)]
  have q27 : S6.1 (30, 0) 27 = nI bs := by rw [hS6, hS5, gset_n (Or.inr (by omega)), gset_s, h23]
  have q30 : S6.1 (30, 0) 30 = 0 := by rw [hS6, gset_s]
  have hD6 : rfD T nf us ri F S6 := rfD_of (fun i a b => o6 i (by rintro rfl; simp at a)) (q6 3 (by omega) (by omega)) (q6 11 (by omega) (by omega)) hD
  have s6 : S6.2 = S.2 := by rw [hS6, hS5]; rfl
  have hG6 : rG [] S6 := ⟨q30, fun k hk => absurd hk (Nat.not_lt_zero k)⟩
  -- the end
  have fin : ∀ od S1, lgO bs bt T F ri od → od.length ≤ 12 → (∀ k, k < od.length → od.getD k 0 < 16) → rJ bs bt T F ri nf us od (laO bs T F ri od) S S1 → ∃ m, wp_Mo_crash_187 Ln Q m (30, 0) 4 S1 := by
    intro od S1 hl h12 ho hJ
    obtain ⟨j1, j2, j3, j4, hD1, j27, j23, j24, jG, jE⟩ := hJ
    refine r_removeRest hL hD1 jG h12 ho ?_
    intro S2 hx2 hD2
    have e27 : S2.1 (30, 0) 27 = nI (laO bs T F ri od) := by rw [hx2.2 _ (by simp)]; exact j27
    rw [e27]
    refine hq _ od hl ⟨?_, fun k a b c => ?_, ?_, ?_, ?_, ?_, gset_s _ _ _ _, ?_, ?_⟩
    · exact (j1.tr hx2.lo).tr (loX.set (by simp))
    · rw [gset_n (Or.inr c), hx2.2 _ (by simp)]; exact j2 k a b
    · rw [gset_o (by simp), hx2.2 _ (by simp)]; exact j3
    · rw [gset_o (by simp), hx2.2 _ (by simp)]; exact j4
    · exact rfD_of (fun i a b => gset_o (by rintro rfl; simp at a)) (gset_n (Or.inr (by omega))) (gset_n (Or.inr (by omega))) hD2
    · rw [gset_n (Or.inr (by omega))]; exact e27
    · unfold rG; rw [gset_n (Or.inr (by omega)), gset_o (by simp), hx2.2 _ (by simp), hx2.2 _ (by simp)]; exact jG
    · unfold rE; rw [gset_o (by simp), hx2.2 _ (by simp)]; exact jE
  have hJ0 : rJ bs bt T F ri nf us [] bs S S6 := ⟨⟨s6, fun i hi => o6 i (by rintro rfl; simp at hi)⟩, q6, o6 _ (by simp), o6 _ (by simp), hD6, q27, by rw [q6 23 (by omega) (by omega)]; exact h23, by rw [q6 24 (by omega) (by omega)]; exact h24, hG6, fun i a b => by omega⟩
  refine r_firstSegment (bt := bt) hL h hD6 (by rw [q6 23 (by omega) (by omega)]; exact h23) ((q6 24 (by omega) (by omega)).trans h24) (fun t t1 t2 t3 t4 t5 hh => ?_) (fun hno => ?_)
  · have hbe : bs ≤ sgE T F ri t := by
      obtain ⟨f1, f2, f3, f4, f5, f6⟩ := sg_facts h t1 t2 t4
      by_cases e : sgI T ri t = bs + 1
      · unfold sgE; omega
      · exact (hh.2 e).1
    have hC : chO bs t T F ri ([] ++ [t]) := by
      refine ⟨fun k hk => ?_, fun k hk => ?_, fun _ => ⟨t5, hbe, rfl⟩⟩
      · have hk0 : k = 0 := Nat.lt_one_iff.mp hk
        subst hk0
        exact ⟨t1, (by omega : t < 16), t4⟩
      · have : k + 1 < 1 := hk
        omega
    refine ⟨14, r_follow (S0 := S) (t0 := t) hL h hh ?_ 12 [] t bs S6 rfl hC (fun _ => rfl) (fun z => absurd z (Nat.lt_irrefl _)) hJ0⟩
    intro S1 D u hC1 hT1 hJ1
    have hlen : (D ++ [u]).length = D.length + 1 := by rw [List.length_append]; rfl
    have hl12 : (D ++ [u]).length ≤ 12 := by
      have := od_lt (od := D) (f := u) (fun k hk => by have := hC1.1 k (by omega); rw [getD_snoc_l hk] at this; exact ⟨this.1, this.2.1⟩) (fun k q hkq hq => by have := ch_ne h hC1 hkq (by omega); rw [getD_snoc_l (by omega), getD_snoc_l hq] at this; exact this) (by have := hC1.1 D.length (by omega); rw [getD_snoc_r] at this; exact ⟨this.1, this.2.1⟩) (fun k hk => by have := ch_ne h hC1 hk (by omega); rw [getD_snoc_l hk, getD_snoc_r] at this; exact this)
      omega
    have hlast : (D ++ [u]).getD ((D ++ [u]).length - 1) 0 = u := by rw [hlen, show D.length + 1 - 1 = D.length by omega]; exact getD_snoc_r
    have hlaO : laO bs T F ri (D ++ [u]) = sgE T F ri u := by unfold laO; rw [if_neg (by omega), hlast]
    refine fin (D ++ [u]) S1 (Or.inr ⟨t, t1, t2, t3, hh, hC1, by omega, by rw [hlast]; exact hT1⟩) hl12 (fun k hk => (hC1.1 k hk).2.1) ?_
    rw [hlaO]; exact hJ1
  · refine ⟨1, ?_⟩
    unfold wp_Mo_crash_149
    exact br_t (by decide) (fin [] S6 (Or.inl ⟨rfl, hno⟩) (by simp) (fun k hk => absurd hk (Nat.not_lt_zero k)) hJ0)
