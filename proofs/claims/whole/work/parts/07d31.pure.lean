theorem getD_get {l : List Nat} {k : Nat} (h : k < l.length) : l.getD k 0 = l[k] := by
  rw [List.getD_eq_getElem?_getD, List.getElem?_eq_getElem h]; rfl
theorem od_lt {od : List Nat} {f : Nat} (h2 : ∀ k, k < od.length → 4 ≤ od.getD k 0 ∧ od.getD k 0 < 16) (h3 : ∀ k q, k < q → q < od.length → od.getD k 0 ≠ od.getD q 0) (hf : 4 ≤ f ∧ f < 16) (hn : ∀ k, k < od.length → od.getD k 0 ≠ f) : od.length < 12 := by
  have hnd : (f :: od).Nodup := by
    refine List.nodup_cons.mpr ⟨fun hm => ?_, ?_⟩
    · obtain ⟨i, hi, e⟩ := List.mem_iff_getElem.mp hm
      exact hn i hi (by rw [getD_get hi]; exact e)
    · refine List.pairwise_iff_getElem.mpr (fun i j hi hj hij => ?_)
      have := h3 i j hij hj
      rw [getD_get hi, getD_get hj] at this
      exact this
  have hs : (f :: od) ⊆ [4, 5, 6, 7, 8, 9, 10, 11, 12, 13, 14, 15] := by
    intro x hx
    have hx2 : 4 ≤ x ∧ x < 16 := by
      rcases List.mem_cons.mp hx with e | hm
      · rw [e]; exact hf
      · obtain ⟨i, hi, e⟩ := List.mem_iff_getElem.mp hm
        have := h2 i hi
        rw [getD_get hi, e] at this
        exact this
    have : ∀ y : Nat, y < 16 → 4 ≤ y → y ∈ [4, 5, 6, 7, 8, 9, 10, 11, 12, 13, 14, 15] := by decide
    exact this x hx2.2 hx2.1
  have := hnd.length_le_of_subset hs
  have e : ([4, 5, 6, 7, 8, 9, 10, 11, 12, 13, 14, 15] : List Nat).length = 12 := rfl
  rw [e, List.length_cons] at this
  omega
theorem dkF_wr_sz (F : gF) (f : Nat) (bs : List Nat) (d : Nat) : (dkF_wr F f bs).sz d = if d = f then F.sz f + bs.length else F.sz d := dkF_app_sz F f bs d
theorem dkU_wr {M : Nat} {F : gF} {f : Nat} {bs : List Nat} {S S' : gS} (h : dk M F S) (h' : dk M (dkF_wr F f bs) S') (hf : f < 16) (hb : 0 < bs.length) : dkU M (dkF_wr F f bs) + dkNd F f bs.length = dkU M F := by
  have a := (dk_uc h).2
  have b := (dk_uc h').2
  have hl := dk_low h hf
  have hle : dkP (F.sz f) ≤ dkP (F.sz f + bs.length) := dkP_le (by omega)
  have hsum := dkSum_u (g := dkW F) (g' := dkW (dkF_wr F f bs)) 16 hf ?_
  · have w1 : dkW (dkF_wr F f bs) f = dkP (F.sz f + bs.length) + dkP (F.sz (16 + f)) - (if 0 < bs.length ∧ F.sz f % 64 ≠ 0 ∧ F.sz f / 64 < F.sh f then F.sz f / 64 else F.sh f) := by
      unfold dkW
      rw [dkF_wr_sz, dkF_wr_sz, if_pos rfl, if_neg (by omega), show (dkF_wr F f bs).sh f = _ from va_up_self _ _ _]
    have w2 : dkW F f = dkP (F.sz f) + dkP (F.sz (16 + f)) - F.sh f := rfl
    rw [w1, w2] at hsum
    unfold dkNd
    by_cases hC : F.sz f % 64 ≠ 0 ∧ F.sz f / 64 < F.sh f
    · rw [if_pos ⟨hb, hC⟩] at hsum
      rw [if_pos hC]
      have e3 : dkP (F.sz f) = F.sz f / 64 + 1 := by unfold dkP; omega
      omega
    · rw [if_neg (fun z => hC z.2)] at hsum
      rw [if_neg hC]
      omega
  · intro g hg hg2
    unfold dkW
    rw [dkF_wr_sz, dkF_wr_sz, if_neg hg2, if_neg (by omega), show (dkF_wr F f bs).sh g = F.sh g from va_up_ne _ _ hg2]
/-! the class opens a segment -/
theorem getD_snoc_l {od : List Nat} {f k : Nat} (h : k < od.length) : (od ++ [f]).getD k 0 = od.getD k 0 := getD_app_l h
theorem getD_snoc_r {od : List Nat} {f : Nat} : (od ++ [f]).getD od.length 0 = f := by rw [getD_app_r (Nat.le_refl _), Nat.sub_self]; rfl
theorem c_segAdd {Ln : gI → Nat} {M : Nat} {od : List Nat} {fo : Nat → Nat} {S : gS} {f fi : Nat} {v w : Int32} {Q : gS → Prop} (hL : aL Ln M) (hG : cG od fo S) (h12 : od.length < 12) (hne : ∀ k, k < od.length → od.getD k 0 ≠ f) (hv : v = nI f) (hw : w = nI fi)
    (hq : ∀ S', (∀ i : gI, i.1 ≠ 18 → i.1 ≠ 19 → i.1 ≠ 20 → S'.1 i = S.1 i) → S'.2 = S.2 → cG (od ++ [f]) (va_up fo f fi) S' → Q S') : wp_Segments_add Ln Q (18, 0) v w S := by
  subst hv hw
  obtain ⟨g1, g2⟩ := hG
  unfold wp_Segments_add
  rw [show grf (18, 0) 0 = (19, 0) from rfl, show grf (18, 0) 1 = (20, 0) from rfl, g1, hL.2.2.2.2.2.2.1, hL.2.2.2.2.2.2.2.1, nI_clamp (by omega)]
  refine br_f (nI_ge (b := 12) h12 (by omega)) ⟨vp_in_nI (by omega) (by omega), ?_⟩
  rintro _ rfl
  rw [gset_o (by simp), g1, nI_clamp (by omega)]
  refine ⟨vp_in_nI (by omega) (by omega), ?_⟩
  rintro _ rfl _ rfl
  rw [gset_o (by simp), gset_o (by simp), g1, nI_1]
  refine hq _ (fun i a b c => ?_) rfl ⟨?_, fun k hk => ?_⟩
  · rw [gset_o (by rintro rfl; simp at a), gset_o (by rintro rfl; simp at c), gset_o (by rintro rfl; simp at b)]
  · rw [gset_s, List.length_append]; rfl
  · rw [List.length_append] at hk
    simp only [gset_rd, Prod.mk.injEq, Nat.reduceEqDiff, false_and, if_false, true_and]
    by_cases e : k = od.length
    · subst e
      rw [if_pos rfl, if_pos rfl, getD_snoc_r, va_up_self]
      exact ⟨rfl, rfl⟩
    · have hk2 : k < od.length := by simp at hk; omega
      rw [if_neg e, if_neg e, getD_snoc_l hk2, va_up_ne _ _ (hne k hk2)]
      exact g2 k hk2
theorem frE2_len (a b : Int32) : (frE (2, a, b, 0, [])).length = 24 := by rw [frE_len, frP_len]; rfl
theorem frE3_len (a b c : Int32) (d : List Nat) : (frE (3, a, b, c, d)).length = 25 + d.length := by
  rw [frE_len, frP_len]
  show 8 + (17 + d.length) + 0 = _
  omega
theorem c_open {Ln : gI → Nat} {M : Nat} {fc : Int32} {F : gF} {tp : List Nat} {tm vo : Int32} {ti : Nat} {vf : Int32} {fh : Nat} {sf : Int32} {bs : Nat} {bt cd : Int32} {la di : Nat} {od : List Nat} {fo : Nat → Nat} {ei : Nat → gEi} {kp : Nat → Int32} {S : gS} {f : Nat} {v : Int32} {Q : gS → Prop}
    (hL : aL Ln M) (hc : cl M fc F tp tm vo ti vf fh sf bs bt cd la di od fo ei kp S) (hla : la < 2 ^ 30) (hbl : bs ≤ la) (hf : f < 16) (hv : v = nI f) (h4 : dkP (F.sz f + 24) ≤ 400) (hu : dkNd F f 24 ≤ dkU M F) (h12 : od.length < 12) (hne : ∀ k, k < od.length → od.getD k 0 ≠ f)
    (hq : ∀ S', hiX S S' → S'.1 (13, 0) = S.1 (13, 0) → cl M fc (dkF_wr F f (frE (2, nI (la + 1), (if bs < la then (ei la).2.2.1 else bt), 0, []))) tp tm vo ti vf fh sf bs bt cd la di (od ++ [f]) (va_up fo f (la + 1)) ei kp S' → Q S') : wp_LogDisk_openSegment Ln Q (0, 0) v S := by
  subst hv
  have l15 := hL.2.2.2.2.2.1
  have hc' := hc
  obtain ⟨p1, p2, p3, p4, p5, p6, p7, p8⟩ := hc'
  unfold wp_LogDisk_openSegment
  rw [show grf (0, 0) 4 = (14, 0) from rfl, show grf (0, 0) 7 = (18, 0) from rfl, show grf (14, 0) 0 = (15, 0) from rfl]
  refine fr_begin ?_
  intro S1 x1 m1
  have e1 : S1.1 (0, 0) 10 + 1 = nI (la + 1) := by rw [x1.2 _ (by simp) (by simp), p5.2.1, nI_1]
  rw [e1]
  refine fr_add (n := 8) l15 rfl (by omega) m1 (by simp) ?_
  intro S2 x2 m2
  have hx2 := x1.tr x2
  have q4 : cS sf bs bt cd S2 := p4.of (hx2.2 _ (by simp) (by simp))
  have q5 : cM fc la di S2 := p5.of (hx2.2 _ (by simp) (by simp))
  have q7 : cE ei bs la S2 := p7.of (fun k a b => hx2.2 _ (by simp; omega) (by simp; omega))
  refine c_termAt hL q4 q5 q7 (by omega) hbl q5.2.1 (Nat.le_refl _) ?_
  refine fr_add (n := 8) l15 rfl (by omega) m2 (by simp [dkBs_len]) ?_
  intro S3 x3 m3
  have hx3 := hx2.tr x3
  refine fr_close l15 m3 (by simp [dkBs_len]) ?_
  intro S4 x4 m4 m5
  have hx4 := hx3.tr x4
  refine c_file (P := fun g => wp_DiskFile_write Ln _ g _ _ S4) (S := S4) hL rfl hf ?_
  have hE : frE (2, nI (la + 1), (if bs < la then (ei la).2.2.1 else bt), 0, []) = frH (([] ++ dkBs (nI (la + 1)).toInt64 8) ++ dkBs (if bs < la then (ei la).2.2.1 else bt).toInt64 8) := by
    unfold frE
    have : frP (2, nI (la + 1), (if bs < la then (ei la).2.2.1 else bt), 0, []) = ([] ++ dkBs (nI (la + 1)).toInt64 8) ++ dkBs (if bs < la then (ei la).2.2.1 else bt).toInt64 8 := by
      unfold frP
      rw [if_neg (show ¬ (2 : Nat) = 0 by omega), if_neg (show ¬ (2 : Nat) = 1 by omega), if_pos rfl, List.nil_append]
    rw [this, if_neg (show ¬ (2 : Nat) = 1 by omega), List.append_nil]
  rw [← hE] at m4 m5
  rw [frE2_len] at m4 m5
  refine dk_write (n := 24) hL.1 (hx4.dk p1) hf (by simp) (frE2_len _ _) m4 (by omega) (by rw [l15]; omega) (by rw [l15]; omega) m5 h4 (fun _ => hu) ?_
  intro S5 x5 hd5
  have hx5 : dfX S S5 := hx4.df.tr x5.df
  have hc5 := hx5.cl hd5 hc
  obtain ⟨r1, r2, r3, r4, r5, r6, r7, r8⟩ := hc5
  have e5 : S5.1 (0, 0) 10 + 1 = nI (la + 1) := by rw [r5.2.1, nI_1]
  rw [e5]
  refine c_segAdd hL r6 h12 hne rfl rfl ?_
  intro S6 o6 o62 g6
  refine hq S6 (hx5.hi.tr (fun i hi => o6 i (by omega) (by omega) (by omega))) ((o6 _ (by simp) (by simp) (by simp)).trans (hx5.2 _ (by simp) (by simp) (by simp))) ⟨dk_of (fun i a b => o6 i (by omega) (by omega) (by omega)) r1, r2.of (o6 _ (by simp) (by simp) (by simp)) (o6 _ (by simp) (by simp) (by simp)), r3.of (o6 _ (by simp) (by simp) (by simp)) o62, r4.of (o6 _ (by simp) (by simp) (by simp)), r5.of (o6 _ (by simp) (by simp) (by simp)), g6, r7.of (fun k a b => o6 _ (by simp; omega) (by simp; omega) (by simp; omega)), r8.of (o6 _ (by simp) (by simp) (by simp))⟩
theorem c_entry {Ln : gI → Nat} {M : Nat} {fc : Int32} {F : gF} {tp ds : List Nat} {tm vo : Int32} {ti : Nat} {vf : Int32} {fh : Nat} {sf : Int32} {bs : Nat} {bt cd : Int32} {la di : Nat} {od : List Nat} {fo : Nat → Nat} {ei : Nat → gEi} {kp : Nat → Int32} {S : gS} {f : Nat} {v te ki w : Int32} {Q : gS → Prop}
    (hL : aL Ln M) (hc : cl M fc F tp tm vo ti vf fh sf bs bt cd la di od fo ei kp S) (hB : cB ds S) (hla : la < 2 ^ 30) (hb3 : la + 1 ≤ bs + 300) (hf : f < 16) (hv : v = nI f) (hw : w = nI ds.length) (h4 : dkP (F.sz f + (25 + ds.length)) ≤ 400) (hu : dkNd F f (25 + ds.length) ≤ dkU M F)
    (hq : ∀ S', hiX S S' → cl M fc (dkF_wr F f (frE (3, nI (la + 1), te, ki, ds))) tp tm vo ti vf fh sf bs bt cd (la + 1) di od fo (va_up ei (la + 1) (f, F.sz f, te, ki, ds.length)) kp S' → Q S') : wp_LogDisk_writeEntry Ln Q (0, 0) v te ki w S := by
  subst hv hw
  have l15 := hL.2.2.2.2.2.1
  have l := hL.2.2.2.2.2.2.2.2.2
  have hds := hB.1
  obtain ⟨p1, p2, p3, p4, p5, p6, p7, p8⟩ := hc
  unfold wp_LogDisk_writeEntry
  rw [p5.2.1, nI_1, show grf (0, 0) 4 = (14, 0) from rfl, show grf (0, 0) 3 = (12, 0) from rfl, show grf (12, 0) 0 = (13, 0) from rfl, show grf (14, 0) 0 = (15, 0) from rfl, show grf (0, 0) 8 = (21, 0) from rfl, show grf (0, 0) 1 = (10, 0) from rfl, hL.2.2.1, nI_clamp (by omega), show grf (10, 0) f = (1, f) from rfl, dkf1 hf]
  rintro _ rfl
  have iF : vp_in (nI f) 16 := vp_in_nI (by omega) (by omega)
  refine ⟨iF, ?_⟩
  have e1 : (gset S (0, 0) 10 (nI (la + 1))).1 (dkN f) 2 = nI (F.sz f) := by rw [gset_o (dkN_ne (by simp) (by simp))]; exact (dk_size p1 (by omega)).1
  rw [e1, gset_s]
  unfold wp_Entries_set
  refine c_slot rfl (by omega) ?_
  rw [show grf (21, 0) 0 = (22, 0) from rfl, show grf (21, 0) 1 = (23, 0) from rfl, show grf (21, 0) 2 = (24, 0) from rfl, show grf (21, 0) 3 = (25, 0) from rfl, show grf (21, 0) 4 = (26, 0) from rfl, l 22 (by omega) (by omega), l 23 (by omega) (by omega), l 24 (by omega) (by omega), l 25 (by omega) (by omega), l 26 (by omega) (by omega), nI_clamp (by omega)]
  have hin : vp_in (nI ((la + 1) % 301)) 301 := vp_in_nI (by omega) (by omega)
  refine ⟨hin, ?_⟩
  rintro _ rfl
  refine ⟨hin, ?_⟩
  rintro _ rfl
  refine ⟨hin, ?_⟩
  rintro _ rfl
  refine ⟨hin, ?_⟩
  rintro _ rfl
  refine ⟨hin, ?_⟩
  rintro _ rfl
  generalize hS1 : gset (gset (gset (gset (gset (gset S (0, 0) 10 (nI (la + 1))) (22, 0) ((la + 1) % 301) (nI f)) (23, 0) ((la + 1) % 301) (nI (F.sz f))) (24, 0) ((la + 1) % 301) te) (25, 0) ((la + 1) % 301) ki) (26, 0) ((la + 1) % 301) (nI ds.length) = S1
  have o1 : ∀ i : gI, i.1 ≠ 0 → ¬ (22 ≤ i.1 ∧ i.1 ≤ 26) → S1.1 i = S.1 i := by
    intro i h0 h2
    rw [← hS1, gset_o (by rintro rfl; simp at h2), gset_o (by rintro rfl; simp at h2), gset_o (by rintro rfl; simp at h2), gset_o (by rintro rfl; simp at h2), gset_o (by rintro rfl; simp at h2), gset_o (by rintro rfl; simp at h0)]
  have o12 : S1.2 = S.2 := by rw [← hS1]; rfl
  have hc1 : cl M fc F tp tm vo ti vf fh sf bs bt cd (la + 1) di od fo (va_up ei (la + 1) (f, F.sz f, te, ki, ds.length)) kp S1 := by
    refine ⟨dk_of (fun i a b => o1 i (by omega) (by omega)) p1, p2.of (o1 _ (by simp) (by simp)) (o1 _ (by simp) (by simp)), p3.of (o1 _ (by simp) (by simp)) o12, p4.of (o1 _ (by simp) (by simp)), ⟨?_, ?_, ?_⟩, p6.of (o1 _ (by simp) (by simp)) (o1 _ (by simp) (by simp)) (o1 _ (by simp) (by simp)), ?_, p8.of (o1 _ (by simp) (by simp))⟩
    · rw [← hS1]; simp only [gset_rd, Prod.mk.injEq, Nat.reduceEqDiff, false_and, and_false, if_false]; exact p5.1
    · rw [← hS1]; simp only [gset_rd, Prod.mk.injEq, Nat.reduceEqDiff, false_and, and_false, if_false, and_self, if_true]
    · rw [← hS1]; simp only [gset_rd, Prod.mk.injEq, Nat.reduceEqDiff, false_and, and_false, if_false]; exact p5.2.2
    · intro i h1 h2
      unfold cE1
      rw [← hS1]
      simp only [gset_rd, Prod.mk.injEq, Nat.reduceEqDiff, false_and, if_false, true_and]
      by_cases e : i = la + 1
      · subst e
        rw [va_up_self]
        simp only [if_true, and_self]
      · rw [va_up_ne _ _ e]
        have hm : ¬ i % 301 = (la + 1) % 301 := by omega
        simp only [hm, if_false]
        exact p7 i h1 (by omega)
  have hB1 : cB ds S1 := hB.of (o1 _ (by simp) (by simp))
  refine fr_begin ?_
  intro S2 x2 m2
  have e2 : S2.1 (0, 0) 10 = nI (la + 1) := by rw [x2.2 _ (by simp) (by simp)]; exact hc1.2.2.2.2.1.2.1
  rw [e2]
  refine fr_add (n := 8) l15 rfl (by omega) m2 (by simp) ?_
  intro S3 x3 m3
  refine fr_add (n := 8) l15 rfl (by omega) m3 (by simp [dkBs_len]) ?_
  intro S4 x4 m4
  refine fr_add (n := 1) l15 rfl (by omega) m4 (by simp [dkBs_len]) ?_
  intro S5 x5 m5
  have hx5 := ((x2.tr x3).tr x4).tr x5
  refine fr_addBytes (ds := ds) l15 (by simp) rfl rfl (by rw [hL.2.2.2.2.1]; exact hds) (by rw [hL.2.2.2.2.1]; omega) m5 (by simp [dkBs_len]; omega) ?_ ?_
  · intro i hi
    rw [hx5.2 _ (by simp) (by simp)]
    exact hB1.2 i hi
  intro S6 x6 m6
  refine fr_close l15 m6 (by simp [dkBs_len]; omega) ?_
  intro S7 x7 m7 m8
  have hx7 : fX S1 S7 := (hx5.tr x6).tr x7
  have hE : frE (3, nI (la + 1), te, ki, ds) = frH (((([] ++ dkBs (nI (la + 1)).toInt64 8) ++ dkBs te.toInt64 8) ++ dkBs ki.toInt64 1) ++ ds) := by
    unfold frE
    have : frP (3, nI (la + 1), te, ki, ds) = ((([] ++ dkBs (nI (la + 1)).toInt64 8) ++ dkBs te.toInt64 8) ++ dkBs ki.toInt64 1) ++ ds := by
      unfold frP
      rw [if_neg (show ¬ (3 : Nat) = 0 by omega), if_neg (show ¬ (3 : Nat) = 1 by omega), if_neg (show ¬ (3 : Nat) = 2 by omega), List.nil_append, List.append_assoc, List.append_assoc]
    rw [this, if_neg (show ¬ (3 : Nat) = 1 by omega), List.append_nil]
  rw [← hE] at m7 m8
  rw [frE3_len] at m7 m8
  refine ⟨iF, dk_write (n := 25 + ds.length) hL.1 (hx7.dk hc1.1) hf (by simp) (frE3_len _ _ _ _) m7 (by omega) (by rw [l15]; omega) (by rw [l15]; omega) m8 h4 (fun _ => hu) ?_⟩
  intro S8 x8 hd8
  have hx8 : dfX S1 S8 := hx7.df.tr x8.df
  refine hq S8 (hiX.tr (S1 := S1) (fun i hi => o1 i (by omega) (by omega)) hx8.hi) (hx8.cl hd8 hc1)
