def hold (bs : Nat) (bt : Int32) (T : Nat → gFr) (F : gF) (ri : Nat → List Nat) (t : Nat) : Prop := (sgI T ri t = bs + 1 → sgB T ri t = bt) ∧ (sgI T ri t ≠ bs + 1 → bs ≤ sgE T F ri t ∧ (T ((ri t).getD (bs + 1 - sgI T ri t) 0)).b = bt)
/-- the log that is found -/
def lgO (bs : Nat) (bt : Int32) (T : Nat → gFr) (F : gF) (ri : Nat → List Nat) (od : List Nat) : Prop :=
  (od = [] ∧ ∀ t, 4 ≤ t → t < 16 → (fsS bs T F ri 12).1 = nI t → ¬ hold bs bt T F ri t) ∨
  ∃ t, 4 ≤ t ∧ t < 16 ∧ (fsS bs T F ri 12).1 = nI t ∧ hold bs bt T F ri t ∧ chO bs t T F ri od ∧ 0 < od.length ∧ (2 ≤ sgW T F ri (od.getD (od.length - 1) 0) → nxN T F ri (od.getD (od.length - 1) 0) = 16)
theorem lg_uniq {n bs : Nat} {bt : Int32} {F : gF} {T : Nat → gFr} {ri : Nat → List Nat} {D E : List Nat} (hD : lgO bs bt T F ri D) (hE : lgO bs bt T F ri E) : D = E := by
  rcases hD with ⟨d1, d2⟩ | ⟨t, t1, t2, t3, t4, t5, t6, t7⟩
  · rcases hE with ⟨e1, e2⟩ | ⟨u, u1, u2, u3, u4, u5, u6, u7⟩
    · rw [d1, e1]
    · exact absurd u4 (d2 u u1 u2 u3)
  · rcases hE with ⟨e1, e2⟩ | ⟨u, u1, u2, u3, u4, u5, u6, u7⟩
    · exact absurd t4 (e2 t t1 t2 t3)
    · have : t = u := by
        rw [t3, nI_eq (by omega) (by omega)] at u3
        exact u3
      subst this
      exact ch_uniq (n := n) t5 u5 t6 u6 t7 u7
def laO (bs : Nat) (T : Nat → gFr) (F : gF) (ri : Nat → List Nat) (od : List Nat) : Nat := if od.length = 0 then bs else sgE T F ri (od.getD (od.length - 1) 0)
/-- files of no segment are removed -/
def rmA (G : gF) (od : List Nat) : Nat → gF
  | 0 => G
  | k + 1 => if 4 + k ∈ od then rmA G od k else dkF_rm (rmA G od k) (4 + k)
def rmB (R : Nat → List Nat) (od : List Nat) : Nat → Nat → List Nat
  | 0 => R
  | k + 1 => if 4 + k ∈ od then rmB R od k else va_up (rmB R od k) (4 + k) []
theorem rmA_out {G : gF} {R : Nat → List Nat} {od : List Nat} {c : Nat} : ∀ k, (c < 4 ∨ 4 + k ≤ c ∨ c ∈ od) → (rmA G od k).1 c = G.1 c ∧ (rmA G od k).2.1 c = G.2.1 c ∧ (rmA G od k).2.2.1 c = G.2.2.1 c ∧ (rmA G od k).2.2.2 c = G.2.2.2 c ∧ rmB R od k c = R c
  | 0, _ => ⟨rfl, rfl, rfl, rfl, rfl⟩
  | k + 1, h => by
    obtain ⟨a, b, d, e, f⟩ := rmA_out (G := G) (R := R) (od := od) (c := c) k (by
      rcases h with h | h | h
      · exact Or.inl h
      · exact Or.inr (Or.inl (by omega))
      · exact Or.inr (Or.inr h))
    by_cases z : 4 + k ∈ od
    · rw [show rmA G od (k + 1) = rmA G od k from if_pos z, show rmB R od (k + 1) = rmB R od k from if_pos z]
      exact ⟨a, b, d, e, f⟩
    · have hne : c ≠ 4 + k := by
        rintro rfl
        rcases h with h | h | h
        · omega
        · omega
        · exact z h
      rw [show rmA G od (k + 1) = dkF_rm (rmA G od k) (4 + k) from if_neg z, show rmB R od (k + 1) = va_up (rmB R od k) (4 + k) [] from if_neg z]
      exact ⟨(va_up_ne _ _ hne).trans a, (va_up_ne _ _ hne).trans b, (va_up_ne _ _ hne).trans d, (va_up_ne _ _ hne).trans e, (va_up_ne _ _ hne).trans f⟩
theorem rmA_in {G : gF} {R : Nat → List Nat} {od : List Nat} {c : Nat} (hc : 4 ≤ c) (ho : c ∉ od) : ∀ k, c < 4 + k → (rmA G od k).1 c = [] ∧ (rmA G od k).2.1 c = 0 ∧ (rmA G od k).2.2.1 c = 0 ∧ (rmA G od k).2.2.2 c = 0 ∧ rmB R od k c = []
  | 0, h => by omega
  | k + 1, h => by
    by_cases e : c = 4 + k
    · subst e
      rw [show rmA G od (k + 1) = dkF_rm (rmA G od k) (4 + k) from if_neg ho, show rmB R od (k + 1) = va_up (rmB R od k) (4 + k) [] from if_neg ho]
      exact ⟨va_up_self _ _ _, va_up_self _ _ _, va_up_self _ _ _, va_up_self _ _ _, va_up_self _ _ _⟩
    · obtain ⟨a, b, d, g, f⟩ := rmA_in (G := G) (R := R) hc ho k (by omega)
      by_cases z : 4 + k ∈ od
      · rw [show rmA G od (k + 1) = rmA G od k from if_pos z, show rmB R od (k + 1) = rmB R od k from if_pos z]
        exact ⟨a, b, d, g, f⟩
      · rw [show rmA G od (k + 1) = dkF_rm (rmA G od k) (4 + k) from if_neg z, show rmB R od (k + 1) = va_up (rmB R od k) (4 + k) [] from if_neg z]
        exact ⟨(va_up_ne _ _ e).trans a, (va_up_ne _ _ e).trans b, (va_up_ne _ _ e).trans d, (va_up_ne _ _ e).trans g, (va_up_ne _ _ e).trans f⟩
theorem rmA_cut {G : gF} {t z : Nat} (h4 : 4 ≤ t) (h16 : t < 16) : rmA (dkF_ct G t z) [] 12 = rmA G [] 12 := by
  have key : ∀ c, (rmA (dkF_ct G t z) [] 12).1 c = (rmA G [] 12).1 c ∧ (rmA (dkF_ct G t z) [] 12).2.1 c = (rmA G [] 12).2.1 c ∧ (rmA (dkF_ct G t z) [] 12).2.2.1 c = (rmA G [] 12).2.2.1 c ∧ (rmA (dkF_ct G t z) [] 12).2.2.2 c = (rmA G [] 12).2.2.2 c := by
    intro c
    by_cases e : 4 ≤ c ∧ c < 16
    · obtain ⟨a1, a2, a3, a4, -⟩ := rmA_in (G := dkF_ct G t z) (R := fun _ => []) (od := []) e.1 List.not_mem_nil 12 (by omega)
      obtain ⟨b1, b2, b3, b4, -⟩ := rmA_in (G := G) (R := fun _ => []) (od := []) e.1 List.not_mem_nil 12 (by omega)
      rw [a1, a2, a3, a4, b1, b2, b3, b4]
      exact ⟨rfl, rfl, rfl, rfl⟩
    · obtain ⟨a1, a2, a3, a4, -⟩ := rmA_out (G := dkF_ct G t z) (R := fun _ => []) (od := []) (c := c) 12 (by omega)
      obtain ⟨b1, b2, b3, b4, -⟩ := rmA_out (G := G) (R := fun _ => []) (od := []) (c := c) 12 (by omega)
      have hne : c ≠ t := by omega
      rw [a1, a2, a3, a4, b1, b2, b3, b4]
      exact ⟨va_up_ne _ _ hne, rfl, va_up_ne _ _ hne, va_up_ne _ _ hne⟩
  exact gF_ext (fun c => (key c).1) (fun c => (key c).2.1) (fun c => (key c).2.2.1) (fun c => (key c).2.2.2)
theorem c_has {Ln : gI → Nat} {M : Nat} {od : List Nat} {fo : Nat → Nat} {S : gS} {f : Nat} {v : Int32} {Q : Int32 → gS → Prop} (hL : aL Ln M) (hG : cG od fo S) (h12 : od.length ≤ 12) (ho : ∀ k, k < od.length → od.getD k 0 < 16) (hv : v = nI f) (hf : f < 16) (h1 : f ∈ od → Q 1 S) (h0 : f ∉ od → Q 0 S) : wp_Segments_has Ln Q (18, 0) v S := by
  subst hv
  obtain ⟨g1, g2⟩ := hG
  unfold wp_Segments_has
  have key := pk_loop (fun fu k S' => wp_Segments_has_2 Ln Q fu (18, 0) (nI f) (nI k) S') (fun k S' => S' = S ∧ ∀ t, t < k → od.getD t 0 ≠ f) od.length 0 S (Nat.zero_le _) ⟨rfl, fun t h => by omega⟩ ?_ ?_
  · exact key
  · rintro m S1 ⟨e1, hn⟩
    rw [e1]
    unfold wp_Segments_has_2
    rw [g1]
    refine br_t (nI_le (Nat.le_refl _) (by omega)) (h0 fun hm => ?_)
    obtain ⟨i, hi, e⟩ := List.mem_iff_getElem.mp hm
    exact hn i hi (by rw [getD_get hi]; exact e)
  · rintro m k S1 hk ⟨e1, hn⟩ ih
    rw [e1]
    have hok := ho k hk
    unfold wp_Segments_has_2
    rw [g1, show grf (18, 0) 0 = (19, 0) from rfl, hL.2.2.2.2.2.2.1, nI_clamp (by omega), (g2 k hk).1]
    refine br_f (nI_ge hk (by omega)) ⟨vp_in_nI (by omega) (by omega), (pk_eq (od.getD k 0) f (fun h => h1 ?_) (fun h => ?_) rfl rfl (by omega) (by omega)) |> fun h => ⟨h.2, h.1⟩⟩
    · rw [← h, getD_get hk]; exact List.getElem_mem hk
    · rintro _ rfl
      rw [nI_1]
      exact ih S ⟨rfl, lt_s hn h⟩
theorem c_removeRest {Ln : gI → Nat} {M : Nat} {G : gF} {od : List Nat} {fo : Nat → Nat} {S : gS} {Q : gS → Prop} (hL : aL Ln M) (hd : dk M G S) (hG : cG od fo S) (h12 : od.length ≤ 12) (ho : ∀ k, k < od.length → od.getD k 0 < 16)
    (hq : ∀ S', dkX S S' → dk M (rmA G od 12) S' → Q S') : wp_LogDisk_findLog_59 Ln Q (0, 0) S := by
  unfold wp_LogDisk_findLog_59
  have key := pk_loop (fun fu k S' => wp_LogDisk_findLog_61 Ln Q fu (0, 0) (nI (4 + k)) S') (fun k S' => dkX S S' ∧ dk M (rmA G od k) S') 12 0 S (Nat.zero_le _) ⟨dkX.rf S, hd⟩ ?_ ?_
  · exact key
  · rintro m S' ⟨hx, hd'⟩
    unfold wp_LogDisk_findLog_61
    exact br_t (by decide) (hq S' hx hd')
  · rintro m k S' hk ⟨hx, hd'⟩ ih
    have hG' : cG od fo S' := hG.of (hx.2 _ (by simp)) (hx.2 _ (by simp)) (hx.2 _ (by simp))
    unfold wp_LogDisk_findLog_61 wp_LogDisk_findLog_87
    rw [show grf (0, 0) 7 = (18, 0) from rfl]
    refine br_f (nI_ge (b := 16) (show 4 + k < 16 by omega) (by omega)) (c_has hL hG' h12 ho rfl (by omega) (fun hm => cr_f (by decide) ?_) (fun hm => cr_t rfl ?_))
    · rintro _ rfl
      rw [nI_1, show 4 + k + 1 = 4 + (k + 1) by omega]
      refine ih S' ⟨hx, ?_⟩
      rw [show rmA G od (k + 1) = rmA G od k from if_pos hm]; exact hd'
    · refine c_file (P := fun g => wp_DiskFile_remove Ln _ g S') (S := S') hL rfl (show 4 + k < 16 by omega) ?_
      refine dk_remove hL.1 hd' (by omega) ?_
      intro S2 hd2 hx2
      rintro _ rfl
      rw [nI_1, show 4 + k + 1 = 4 + (k + 1) by omega]
      refine ih S2 ⟨hx.tr hx2, ?_⟩
      rw [show rmA G od (k + 1) = dkF_rm (rmA G od k) (4 + k) from if_neg hm]; exact hd2
theorem c_findLog {Ln : gI → Nat} {M n : Nat} {F : gF} {T : Nat → gFr} {ri : Nat → List Nat} {sf bt cd fc : Int32} {bs la di : Nat} {S : gS} {Q : gS → Prop} (hL : aL Ln M) (h : wL n bs F T ri) (hd : dk M F S) (hS : cS sf bs bt cd S) (hM : cM fc la di S)
    (hq : ∀ S' od, lgO bs bt T F ri od → S'.2 = S.2 → (∀ i : gI, i.1 = 0 ∨ 10 ≤ i.1 → ¬ (18 ≤ i.1 ∧ i.1 ≤ 26) → i.1 ≠ 0 → S'.1 i = S.1 i) → dk M (rmA (ctF T F ri od) od 12) S' → cS sf bs bt cd S' → cM fc (laO bs T F ri od) di S' → cG od (sgI T ri) S' → cE (eiD T F ri od) bs (laO bs T F ri od) S' → Q S') : wp_LogDisk_findLog Ln Q (0, 0) S := by
  have hbs := h.2.2.2.2
  unfold wp_LogDisk_findLog
  rw [show grf (0, 0) 7 = (18, 0) from rfl, show grf (0, 0) 6 = (17, 0) from rfl]
  rintro _ rfl
  rw [gset_o (by simp), hS.2.1]
  rintro _ rfl
  generalize hS1 : gset (gset S (18, 0) 2 0) (0, 0) 10 (nI bs) = S1
  have o1 : ∀ i : gI, i.1 ≠ 18 → i.1 ≠ 0 → S1.1 i = S.1 i := fun i a b => by rw [← hS1, gset_o (by rintro rfl; simp at b), gset_o (by rintro rfl; simp at a)]
  have o12 : S1.2 = S.2 := by rw [← hS1]; rfl
  have hd1 : dk M F S1 := dk_of (fun i a b => o1 i (by omega) (by omega)) hd
  have hSS : cS sf bs bt cd S1 := hS.of (o1 _ (by simp) (by simp))
  have hM1 : cM fc bs di S1 := by
    rw [← hS1]
    refine ⟨?_, ?_, ?_⟩
    · rw [gset_n (Or.inr (by omega)), gset_o (by simp)]; exact hM.1
    · rw [gset_s]
    · rw [gset_n (Or.inr (by omega)), gset_o (by simp)]; exact hM.2.2
  have hG1 : cG [] (sgI T ri) S1 := by
    rw [← hS1]
    refine ⟨?_, fun k hk => absurd hk (Nat.not_lt_zero k)⟩
    rw [gset_o (by simp), gset_s]; rfl
  -- no log
  have none : ∀ (G : gF) S2, rmA G [] 12 = rmA F [] 12 → (∀ t, 4 ≤ t → t < 16 → (fsS bs T F ri 12).1 = nI t → ¬ hold bs bt T F ri t) → rdX S1 S2 → dk M G S2 → wp_LogDisk_findLog_59 Ln Q (0, 0) S2 := by
    intro G S2 hG hno hx2 hd2
    refine c_removeRest (fo := sgI T ri) hL hd2 (hG1.of (hx2.2 _ (by simp) (by simp)) (hx2.2 _ (by simp) (by simp)) (hx2.2 _ (by simp) (by simp))) (by simp) (fun k hk => absurd hk (Nat.not_lt_zero k)) ?_
    intro S3 hx3 hd3
    rw [hG] at hd3
    refine hq S3 [] (Or.inl ⟨rfl, hno⟩) (hx3.1.trans (hx2.1.trans o12)) (fun i a b c => ?_) hd3 ((hSS.of (hx2.2 _ (by simp) (by simp))).of (hx3.2 _ (by simp))) ((hM1.of (hx2.2 _ (by simp) (by simp))).of (hx3.2 _ (by simp))) ((hG1.of (hx2.2 _ (by simp) (by simp)) (hx2.2 _ (by simp) (by simp)) (hx2.2 _ (by simp) (by simp))).of (hx3.2 _ (by simp)) (hx3.2 _ (by simp)) (hx3.2 _ (by simp))) (fun i a b => ?_)
    · rw [hx3.2 i a, hx2.2 i a (by omega), o1 i (by omega) c]
    · have : laO bs T F ri [] = bs := rfl
      omega
  refine c_firstSegment hL h hd1 hSS ?_
  rcases fs_ok h 12 (by omega) with e | ⟨t, t1, t2, t3, t4, t5⟩
  · rw [e]
    refine cr_t rfl ?_
    unfold wp_LogDisk_findLog_38
    refine br_t rfl (none F S1 rfl (fun t a b z => ?_) (rdX.rf S1) hd1)
    rw [e] at z
    have : (-1 : Int32).toInt = (nI t).toInt := by rw [← z]
    rw [nI_toInt (by omega)] at this
    have : (-1 : Int32).toInt = -1 := by decide
    omega
  · have hne1 : ¬ nI t = (-1 : Int32) := by
      intro z
      have : (nI t).toInt = (-1 : Int32).toInt := by rw [z]
      rw [nI_toInt (by omega)] at this
      have : (-1 : Int32).toInt = -1 := by decide
      omega
    rw [t3]
    refine cr_f hne1 ?_
    obtain ⟨f1, f2, f3, f4, f5, f6⟩ := sg_facts h t1 (by omega) t4
    refine c_read (D := []) hL h hd1 hSS t1 (by omega) List.not_mem_nil t4 rfl ?_
    intro S2 hx2 hd2 hE2 hO2
    rw [List.nil_append] at hd2
    have hS2 : cS sf bs bt cd S2 := hSS.of (hx2.2 _ (by simp) (by simp))
    have hM2 : cM fc bs di S2 := hM1.of (hx2.2 _ (by simp) (by simp))
    have hG2 : cG [] (sgI T ri) S2 := hG1.of (hx2.2 _ (by simp) (by simp)) (hx2.2 _ (by simp) (by simp)) (hx2.2 _ (by simp) (by simp))
    have hEb : sgE T F ri t < 2 ^ 29 := by unfold sgE; omega
    have notheld : ¬ hold bs bt T F ri t → wp_LogDisk_findLog_59 Ln Q (0, 0) S2 := by
      intro hno
      refine none (ctF T F ri [t]) S2 (rmA_cut t1 (by omega)) (fun u a b z => ?_) hx2 hd2
      rw [t3, nI_eq (by omega) (by omega)] at z
      rw [← z]; exact hno
    have held : hold bs bt T F ri t → wp_LogDisk_followSegments Ln (fun S19 => wp_LogDisk_findLog_59 Ln Q (0, 0) S19) (0, 0) (nI t) (nI (sgE T F ri t)) S2 := by
      intro hh
      have hbe : bs ≤ sgE T F ri t := by
        by_cases e : sgI T ri t = bs + 1
        · unfold sgE; omega
        · exact (hh.2 e).1
      have hC : chO bs t T F ri ([] ++ [t]) := by
        refine ⟨fun k hk => ?_, fun k hk => ?_, fun _ => ⟨t5, hbe, rfl⟩⟩
        · have hk0 : k = 0 := Nat.lt_one_iff.mp hk
          subst hk0
          exact ⟨t1, (by omega : t < 16), t4⟩
        · have : k + 1 < 1 := hk
          omega
      refine ⟨13, c_follow (S0 := S2) (sf := sf) (bt := bt) (cd := cd) (fc := fc) (di := di) (t0 := t) hL h ?_ 12 [] t S2 rfl hC rfl (fun i _ _ _ => rfl) hd2 hS2 ⟨_, hM2⟩ hG2 (fun i a b c => ?_)⟩
      · intro S3 D u hC3 hT3 h3 ho3 hd3 hS3 hM3 hG3 hE3
        have hlen : (D ++ [u]).length = D.length + 1 := by rw [List.length_append]; rfl
        have hl12 : (D ++ [u]).length ≤ 12 := by
          have := od_lt (od := D) (f := u) (fun k hk => by have := hC3.1 k (by omega); rw [getD_snoc_l hk] at this; exact ⟨this.1, this.2.1⟩) (fun k q hkq hq => by have := ch_ne h hC3 hkq (by omega); rw [getD_snoc_l (by omega), getD_snoc_l hq] at this; exact this) (by have := hC3.1 D.length (by omega); rw [getD_snoc_r] at this; exact ⟨this.1, this.2.1⟩) (fun k hk => by have := ch_ne h hC3 hk (by omega); rw [getD_snoc_l hk, getD_snoc_r] at this; exact this)
          omega
        have hlast : (D ++ [u]).getD ((D ++ [u]).length - 1) 0 = u := by rw [hlen, show D.length + 1 - 1 = D.length by omega]; exact getD_snoc_r
        have hlaO : laO bs T F ri (D ++ [u]) = sgE T F ri u := by unfold laO; rw [if_neg (by omega), hlast]
        refine c_removeRest hL hd3 hG3 hl12 (fun k hk => (hC3.1 k hk).2.1) ?_
        intro S4 hx4 hd4
        refine hq S4 (D ++ [u]) (Or.inr ⟨t, t1, by omega, by rw [t3], hh, hC3, by omega, by rw [hlast]; exact hT3⟩) (hx4.1.trans (h3.trans (hx2.1.trans o12))) (fun i a b c => ?_) hd4 (hS3.of (hx4.2 _ (by simp))) (by rw [hlaO]; exact hM3.of (hx4.2 _ (by simp))) (hG3.of (hx4.2 _ (by simp)) (hx4.2 _ (by simp)) (hx4.2 _ (by simp))) ?_
        · rw [hx4.2 i a, ho3 i a b c, hx2.2 i a (by omega), o1 i (by omega) c]
        · rw [hlaO]
          have : cE (eiD T F ri (D ++ [u])) bs (sgE T F ri u) S3 := by
            intro i a b
            refine hE3 i (by omega) ?_ b
            have := (hC3.2.2 (by omega)).1
            omega
          exact this.of (fun k a b => hx4.2 _ (by simp; omega))
      · have b' : sgI T ri t ≤ i := b
        have hi2 : i + 2 ≤ sgI T ri t + sgW T F ri t := by unfold sgE at c; omega
        rw [eiD_snoc, if_pos ⟨b', hi2⟩]
        exact hE2 i a b' c hi2
    unfold wp_LogDisk_findLog_38
    refine br_f hne1 ?_
    unfold wp_LogDisk_holdsBase
    rw [show grf (0, 0) 1 = (10, 0) from rfl, hL.2.2.1, nI_clamp (by omega), show grf (10, 0) t = (1, t) from rfl]
    have hin : vp_in (nI t) 16 := vp_in_nI (by omega) (by omega)
    refine ⟨hin, c_segFirst (D := [t]) hL h hd2 t1 (by omega) (fun _ => ?_) (fun z => by omega)⟩
    rw [show grf (0, 0) 6 = (17, 0) from rfl, hS2.2.1, nI_1]
    have A1 : sgI T ri t = bs + 1 → vp_in (nI t) 16 ∧ wp_DiskFile_termBefore Ln (fun r11 S10 => ((¬ r11 = (S10.1 (17, 0) 2)) → ((fun r17 S16 => (r17 = 0 → wp_LogDisk_findLog_59 Ln Q (0, 0) S16) ∧ (¬ r17 = 0 → wp_LogDisk_followSegments Ln (fun S19 => wp_LogDisk_findLog_59 Ln Q (0, 0) S19) (0, 0) (nI t) (nI (sgE T F ri t)) S16)) (0 : Int32) S10)) ∧ ((r11 = (S10.1 (17, 0) 2)) → ((fun r17 S16 => (r17 = 0 → wp_LogDisk_findLog_59 Ln Q (0, 0) S16) ∧ (¬ r17 = 0 → wp_LogDisk_followSegments Ln (fun S19 => wp_LogDisk_findLog_59 Ln Q (0, 0) S19) (0, 0) (nI t) (nI (sgE T F ri t)) S16)) (1 : Int32) S10))) (1, t) S2 := by
      intro hi
      refine ⟨hin, c_termB (D := [t]) hL h hd2 t1 (by omega) t4 ?_⟩
      rw [hS2.2.2.1]
      exact ⟨fun hne => br_t rfl (notheld (fun z => hne (z.1 hi))), fun heq => br_f (by decide) (held ⟨fun _ => heq, fun z => absurd hi z⟩)⟩
    refine (pk_eq (sgI T ri t) (bs + 1) A1 (fun hi => ?_) rfl rfl (by omega) (by omega)) |> fun h => ⟨h.2, h.1⟩
    refine pk_lt (sgE T F ri t) bs (fun hlt => br_t rfl (notheld (fun z => by have := (z.2 hi).1; omega))) (fun hge => ?_) rfl rfl (by omega) (by omega)
    refine c_slot rfl (by omega) ?_
    have hi2 : bs + 2 ≤ sgI T ri t + sgW T F ri t := by unfold sgE at hge; omega
    have hev := hE2 bs (Nat.le_refl _) (by omega) hge hi2
    rw [show grf (0, 0) 8 = (21, 0) from rfl, show grf (21, 0) 2 = (24, 0) from rfl, hL.2.2.2.2.2.2.2.2.2 24 (by omega) (by omega), nI_clamp (by omega), hev.2.2.1, hS2.2.2.1]
    refine ⟨vp_in_nI (by omega) (by omega), ?_⟩
    show ((¬ (T ((ri t).getD (bs + 1 - sgI T ri t) 0)).b = bt) → _) ∧ (((T ((ri t).getD (bs + 1 - sgI T ri t) 0)).b = bt) → _)
    exact ⟨fun hne => br_t rfl (notheld (fun z => hne (z.2 hi).2)), fun heq => br_f (by decide) (held ⟨fun z => absurd z hi, fun _ => ⟨hge, heq⟩⟩)⟩
