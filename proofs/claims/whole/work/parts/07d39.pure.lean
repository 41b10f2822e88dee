theorem frE1_len (a b c : Int32) (d : List Nat) : (frE (1, a, b, c, d)).length = 20 + d.length := by
  rw [frE_len, frP_len]
  show 8 + 12 + d.length = _
  omega
theorem frE1_eq (a b c : Int32) (d : List Nat) : frE (1, a, b, c, d) = frH (([] ++ dkBs a.toInt64 4 ++ dkBs b.toInt64 4) ++ dkBs c.toInt64 4) ++ d := by
  unfold frE
  have : frP (1, a, b, c, d) = ([] ++ dkBs a.toInt64 4 ++ dkBs b.toInt64 4) ++ dkBs c.toInt64 4 := by
    unfold frP
    rw [if_neg (show ¬ (1 : Nat) = 0 by omega), if_pos rfl, List.nil_append, List.append_assoc]
  rw [this, if_pos rfl]
theorem wr_wr {G : gF} {f : Nat} {as bs : List Nat} (h0 : G.sz f = 0) (hs : G.sh f = 0) (ha : as.length = 20) : dkF_wr (dkF_wr G f as) f bs = dkF_wr G f (as ++ bs) := by
  have s1 : (dkF_wr G f as).sz f = 20 := by rw [dkF_wr_sz, if_pos rfl, h0, ha]
  have s2 : (dkF_wr G f as).sh f = 0 := by
    show va_up G.2.2.2 f _ f = 0
    rw [va_up_self]; split <;> omega
  refine gF_ext (fun c => ?_) (fun c => ?_) (fun c => rfl) (fun c => ?_)
  · show va_up (va_up G.1 f (G.1 f ++ as)) f (va_up G.1 f (G.1 f ++ as) f ++ bs) c = va_up G.1 f (G.1 f ++ (as ++ bs)) c
    rw [va_up_self, va_up_up, List.append_assoc]
  · show va_up (va_up G.2.1 f 1) f 1 c = va_up G.2.1 f 1 c
    rw [va_up_up]
  · show va_up (va_up G.2.2.2 f _) f (if 0 < bs.length ∧ (dkF_wr G f as).sz f % 64 ≠ 0 ∧ (dkF_wr G f as).sz f / 64 < (dkF_wr G f as).sh f then (dkF_wr G f as).sz f / 64 else (dkF_wr G f as).sh f) c = va_up G.2.2.2 f _ c
    rw [va_up_up, s1, s2, if_neg (by omega), h0, hs, if_neg (by omega)]
/-- the snapshot's file -/
def snx (sf : Int32) : Nat := if sf = 2 then 3 else 2
/-- the files after a snapshot is written -/
def snF (F : gF) (f : Nat) (E : List Nat) : gF := dkF_st (dkF_wr (dkF_ct F f 0) f E) f
theorem c_moveBase {Ln : gI → Nat} {M : Nat} {fc : Int32} {F : gF} {tp ds : List Nat} {tm vo : Int32} {ti : Nat} {vf : Int32} {fh : Nat} {sf : Int32} {bs nb : Nat} {bt cd te co : Int32} {la di : Nat} {od : List Nat} {fo : Nat → Nat} {ei : Nat → gEi} {kp : Nat → Int32} {S : gS} {v w : Int32} {Q : gS → Prop}
    (hL : aL Ln M) (q1 : dk M F S) (q2 : cT tp S) (q3 : cV tm vo ti vf fh S) (q4 : cS sf bs bt cd S) (q5 : cM fc la di S) (q6 : cG od fo S) (q7 : cE ei nb la S) (q8 : cK kp S) (hB : cB ds S)
    (h12 : od.length ≤ 12) (ho : ∀ k, k < od.length → 4 ≤ od.getD k 0 ∧ od.getD k 0 < 16) (hfo : ∀ k, k < od.length → fo (od.getD k 0) < 2 ^ 30) (hnb : nb < 2 ^ 30) (hla : la < 2 ^ 30) (hle : nb ≤ la) (hpos : nb < la → 0 < od.length) (hv : v = nI nb) (hw : w = nI ds.length)
    (hlo : F.lo (snx sf) ≤ F.sz (snx sf)) (h4 : dkP (20 + ds.length) ≤ 400) (hu : dkP (20 + ds.length) ≤ dkU M F + (dkP (F.sz (snx sf)) - F.sh (snx sf)))
    (hq : ∀ S' g, gnP la nb od fo g → hiX S S' → cl M fc (drF (snF F (snx sf) (frE (1, nI nb, te, co, ds))) od g) tp tm vo ti vf fh (nI (snx sf)) nb te co la 1 (od.drop g) fo ei kp S' → Q S') : wp_LogDisk_moveBase Ln Q (0, 0) v te co w S := by
  subst hv hw
  have l15 := hL.2.2.2.2.2.1
  have hds := hB.1
  have hf : snx sf < 4 ∧ 2 ≤ snx sf := by unfold snx; split <;> omega
  unfold wp_LogDisk_moveBase
  rw [show grf (0, 0) 6 = (17, 0) from rfl, show grf (0, 0) 4 = (14, 0) from rfl, show grf (14, 0) 0 = (15, 0) from rfl, show grf (0, 0) 3 = (12, 0) from rfl, show grf (12, 0) 0 = (13, 0) from rfl]
  have go : wp_Snapshot_set Ln (fun S3 => wp_Frame_begin Ln (fun S4 => wp_Frame_add Ln (fun S5 => wp_Frame_add Ln (fun S6 => wp_Frame_add Ln (fun S7 => wp_Frame_close Ln (fun S8 => vp_in (S8.1 (17, 0) 0) (Ln (grf (0, 0) 1)) ∧ (wp_DiskFile_cutTo Ln (fun S10 => wp_DiskFile_write Ln (fun S11 => wp_DiskFile_write Ln (fun S12 => wp_DiskFile_settle Ln (fun S13 => wp_LogDisk_dropSegments Ln (fun S14 => ∀ S15 : gS, S15 = gset S14 (0, 0) 11 1 → (Q S15)) (0, 0) S13) (grf (grf (0, 0) 1) (S8.1 (17, 0) 0).toNatClampNeg) S12) (grf (grf (0, 0) 1) (S8.1 (17, 0) 0).toNatClampNeg) (13, 0) (nI ds.length) S11) (grf (grf (0, 0) 1) (S8.1 (17, 0) 0).toNatClampNeg) (15, 0) (S10.1 (14, 0) 1) S10) (grf (grf (0, 0) 1) (S8.1 (17, 0) 0).toNatClampNeg) 0 S8)) (14, 0) S7) (14, 0) (co.toInt64) 4 S6) (14, 0) (te.toInt64) 4 S5) (14, 0) ((nI nb).toInt64) 4 S4) (14, 0) S3) (17, 0) (nI (snx sf)) (nI nb) te co S := by
    unfold wp_Snapshot_set
    rintro _ rfl _ rfl _ rfl _ rfl
    generalize hS1 : gset (gset (gset (gset S (17, 0) 0 (nI (snx sf))) (17, 0) 1 (nI nb)) (17, 0) 2 te) (17, 0) 3 co = S1
    have o1 : ∀ i : gI, i.1 ≠ 17 → S1.1 i = S.1 i := by
      intro i hi
      have hne : i ≠ (17, 0) := by rintro rfl; simp at hi
      rw [← hS1, gset_o hne, gset_o hne, gset_o hne, gset_o hne]
    have o12 : S1.2 = S.2 := by rw [← hS1]; rfl
    have s4 : cS (nI (snx sf)) nb te co S1 := by
      rw [← hS1]
      refine ⟨?_, ?_, ?_, ?_⟩ <;> simp only [gset_rd, Prod.mk.injEq, Nat.reduceEqDiff, and_false, and_self, if_false, if_true]
    have hc1 : cl M fc F tp tm vo ti vf fh (nI (snx sf)) nb te co la di od fo ei kp S1 :=
      ⟨dk_of (fun i a b => o1 i (by omega)) q1, q2.of (o1 _ (by simp)) (o1 _ (by simp)), q3.of (o1 _ (by simp)) o12, s4, q5.of (o1 _ (by simp)), q6.of (o1 _ (by simp)) (o1 _ (by simp)) (o1 _ (by simp)), q7.of (fun k a b => o1 _ (by simp; omega)), q8.of (o1 _ (by simp))⟩
    have hB1 : cB ds S1 := hB.of (o1 _ (by simp))
    refine fr_begin ?_
    intro S2 x2 m2
    refine fr_add (n := 4) l15 rfl (by omega) m2 (by simp) ?_
    intro S3 x3 m3
    refine fr_add (n := 4) l15 rfl (by omega) m3 (by simp [dkBs_len]) ?_
    intro S4 x4 m4
    refine fr_add (n := 4) l15 rfl (by omega) m4 (by simp [dkBs_len]) ?_
    intro S5 x5 m5
    refine fr_close l15 m5 (by simp [dkBs_len]) ?_
    intro S6 x6 m6 m7
    have hx6 : fX S1 S6 := (((x2.tr x3).tr x4).tr x5).tr x6
    have e6 : S6.1 (17, 0) 0 = nI (snx sf) := by rw [hx6.2 _ (by simp) (by simp)]; exact s4.1
    rw [e6]
    have hH : (frH (([] ++ dkBs (nI nb).toInt64 4 ++ dkBs te.toInt64 4) ++ dkBs co.toInt64 4)).length = 20 := by
      rw [frH_len]; simp [dkBs_len]
    rw [hH] at m6 m7
    refine c_file (P := fun g => wp_DiskFile_cutTo Ln (fun S10 => wp_DiskFile_write Ln (fun S11 => wp_DiskFile_write Ln (fun S12 => wp_DiskFile_settle Ln _ g S12) g (13, 0) (nI ds.length) S11) g (15, 0) (S10.1 (14, 0) 1) S10) g 0 S6) (S := S6) hL rfl (by omega) ?_
    refine dk_cutTo (n := 0) hL.1 (hx6.dk hc1.1) (by omega) rfl (by omega) hlo ?_
    intro S7 hd7 hx7
    obtain ⟨u1, u2, u3⟩ := dkU_ct0 (hx6.dk hc1.1) hd7 (show snx sf < 16 by omega)
    have hN20 : dkNd (dkF_ct F (snx sf) 0) (snx sf) 20 = 1 := by
      unfold dkNd
      rw [u2, u3, if_neg (by omega)]
      rfl
    have hp1 : 1 ≤ dkP (20 + ds.length) := dkP_le (show 20 ≤ 20 + ds.length by omega)
    refine dk_write (n := 20) hL.1 hd7 (by omega) (by simp) hH (by rw [hx7.2 _ (by simp)]; exact m6) (by omega) (by rw [l15]; omega) (by rw [l15]; omega) (fun i hi => by rw [hx7.2 _ (by simp)]; exact m7 i hi) (by rw [u2]; decide) (fun _ => by rw [hN20]; omega) ?_
    intro S8 hx8 hd8
    have hx78 := hx7.tr hx8
    generalize hHd : frH (([] ++ dkBs (nI nb).toInt64 4 ++ dkBs te.toInt64 4) ++ dkBs co.toInt64 4) = H at *
    have s81 : (dkF_wr (dkF_ct F (snx sf) 0) (snx sf) H).sz (snx sf) = 20 := by rw [dkF_wr_sz, if_pos rfl, u2, hH]
    have s82 : (dkF_wr (dkF_ct F (snx sf) 0) (snx sf) H).sh (snx sf) = 0 := by
      show va_up (dkF_ct F (snx sf) 0).2.2.2 (snx sf) _ (snx sf) = 0
      rw [va_up_self]
      split
      · omega
      · exact u3
    have u8 := dkU_wr hd7 hd8 (show snx sf < 16 by omega) (by rw [hH]; omega)
    rw [hH, hN20] at u8
    refine dk_write (n := ds.length) (bs := ds) hL.1 hd8 (by omega) (by simp) rfl rfl (by omega) (by rw [hL.2.2.2.2.1]; exact hds) (by rw [hL.2.2.2.2.1]; omega) (fun i hi => ?_) (by rw [s81]; exact h4) (fun _ => ?_) ?_
    · rw [hx78.2 _ (by simp), hx6.2 _ (by simp) (by simp)]; exact hB1.2 i hi
    · unfold dkNd
      rw [s81, s82, if_neg (by omega)]
      have : dkP 20 = 1 := rfl
      omega
    intro S9 hx9 hd9
    rw [wr_wr u2 u3 hH, ← hHd, ← frE1_eq] at hd9
    refine dk_settle hL.1 hd9 (by omega) ?_
    intro S10 hd10 hx10
    have hxx : dfX S1 S10 := hx6.df.tr ((hx78.df.tr hx9.df).tr hx10.df)
    have hc10 := hxx.cl hd10 hc1
    refine c_drop hL hc10 h12 ho hfo hnb hla hle hpos ?_
    intro S11 g hg hx11 hc11
    rintro _ rfl
    refine hq _ g hg ((hiX.tr (S1 := S1) (fun i hi => o1 i (by omega)) (hxx.hi.tr hx11)).tr (hiX.set (by simp))) ?_
    obtain ⟨p1, p2, p3, p4, p5, p6, p7, p8⟩ := hc11
    have o : ∀ i : gI, i.1 ≠ 0 → (gset S11 (0, 0) 11 1).1 i = S11.1 i := fun i hi => gset_o (by rintro rfl; simp at hi)
    refine ⟨dk_of (fun i a b => o i (by omega)) p1, p2.of (o _ (by simp)) (o _ (by simp)), p3.of (o _ (by simp)) rfl, p4.of (o _ (by simp)), ⟨?_, ?_, ?_⟩, p6.of (o _ (by simp)) (o _ (by simp)) (o _ (by simp)), p7.of (fun k a b => o _ (by simp; omega)), p8.of (o _ (by simp))⟩
    · rw [gset_n (Or.inr (by omega))]; exact p5.1
    · rw [gset_n (Or.inr (by omega))]; exact p5.2.1
    · rw [gset_s]; rfl
  unfold wp_Snapshot_nextFile
  rw [q4.1]
  unfold snx at go
  refine ⟨fun h => ?_, fun h => ?_⟩
  · rw [if_neg h] at go; exact go
  · rw [if_pos h] at go; exact go
