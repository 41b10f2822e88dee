theorem vt_ok {n bs : Nat} {F : gF} {T : Nat → gFr} {ri : Nat → List Nat} (h : wR n bs F T ri) (hn : n ≤ 1000) : ∀ k, k ≤ 2 → (vtS T F ri k).2.2.1 ≤ n ∧ (((vtS T F ri k).2.2.2.1 = -1 ∧ (vtS T F ri k).2.2.2.2 = 0) ∨ (vtS T F ri k).2.2.2.1 = nI (vtS T F ri k).2.2.2.2) ∧ (vtS T F ri k).2.2.2.2 ≤ 1
  | 0, _ => ⟨Nat.zero_le _, Or.inl ⟨rfl, rfl⟩, Nat.zero_le _⟩
  | f + 1, hk => by
    have ih := vt_ok h hn f (by omega)
    have e : vtS T F ri (f + 1) = if 0 < rfW T (ri f) (F.sz f) ∧ (vtS T F ri f).2.2.1 < ((T ((ri f).getD 0 0)).a).toNatClampNeg then ((T ((ri f).getD 0 0)).b, (T ((ri f).getD 0 0)).c, ((T ((ri f).getD 0 0)).a).toNatClampNeg, nI f, f) else vtS T F ri f := rfl
    rw [e]
    split
    · rename_i hh
      refine ⟨?_, Or.inr rfl, by show f ≤ 1; omega⟩
      rcases h.2.1 f (by omega) (by omega) with z | ⟨j, t, e1, e2, e3, e4, e5⟩
      · have := rfW_le (T := T) (l := ri f) (s := F.sz f)
        rw [z] at this hh
        have l0 : ([] : List Nat).length = 0 := rfl
        omega
      · show ((T ((ri f).getD 0 0)).a).toNatClampNeg ≤ n
        rw [e1, show ([j] : List Nat).getD 0 0 = j from rfl, e3, nI_clamp (by omega)]
        exact e5
    · exact ih
theorem p_crash {Ln : gI → Nat} {n : Nat} {S : gS} {K : gS → Prop} {x : Int64} (h : INV Ln n S) (hn : n < 513) (hK : ∀ S', INV Ln (n + 1) S' → K S') :
    wp_LogDisk_crash Ln (fun r84 S83 => wp_Mo_crash Ln (fun r86 S85 => ((r84 = r86) → (K S85)) ∧ ((¬ r84 = r86) → (False))) (30, 0) x S83) (0, 0) x S := by
  obtain ⟨M, fc, F, tp, tm, vo, ti, vf, fh, sf, bs, bt, cd, la, di, od0, fo, ei, kp, sl, T, nf, us, ri, en, hL, hc, hr, h1, h2, h3, h4, h5, h6⟩ := h
  obtain ⟨p1, p2, p3, p4, p5, p6, p7, p8⟩ := hc
  obtain ⟨k1, k2, k3, k4, k5⟩ := h2
  have hbs : bs < 2 ^ 21 := by unfold wN at h1; omega
  obtain ⟨h3', h4', hl', hP', hlo'⟩ := wf_crash (kp := kp) (r := x) hr.1 h3 h4
  have hwL : wL n bs (crF F kp x 16) T (crR T F ri kp x 16) := by
    refine ⟨h3', hP', hlo', fun c k hc hk => ?_, hbs⟩
    have hj := hl' c hc k hk
    have := rf_pl hr.1.1 hj
    exact ⟨by omega, (hr.1.1.2.2.2.2 _ hj).1.2.2.1⟩
  obtain ⟨v1, v2, v3⟩ := vt_ok h3' (by omega) 2 (by omega)
  generalize hF' : crF F kp x 16 = F' at *
  generalize hri' : crR T F ri kp x 16 = ri' at *
  unfold wp_LogDisk_crash
  refine c_crashFiles hL p1 p8 k5 h3.1 ?_
  intro S1 s1 o1 hK1 hd1
  rw [hF'] at hd1
  refine c_findVote (S0 := S) hL hd1 hr.1.1 hl' h3' hP' (by omega) ?_
  intro S2 o2 s2 hV2
  have hd2 : dk M F' S2 := dk_of (fun i a b => o2 i (by omega)) hd1
  have hM2 : cM fc la di S2 := (p5.of (o1 _ (by simp) (by simp))).of (o2 _ (by simp))
  refine c_findSnapshot hL hd2 hM2 h4' hP' (by omega) ?_
  intro S3 o3 s3 hS3
  have hd3 : dk M F' S3 := dk_of (fun i a b => o3 i (by omega)) hd2
  refine c_findLog hL hwL hd3 hS3 (hM2.of (o3 _ (by simp))) ?_
  intro S4 od hlg s4 o4 hd4 hS4 hM4 hG4 hE4
  refine c_syncFiles hL hd4 ?_
  intro S5 hx5 hd5
  obtain ⟨w1, w2, w3, w4, w5, w6⟩ := wf_found hwL h4' hlg
  generalize hC : gset (gset S5 (16, 0) 4 0) (0, 0) 11 0 = C
  have oC : ∀ i : gI, i.1 ≠ 16 → i.1 ≠ 0 → C.1 i = S5.1 i := fun i hi h0 => by rw [← hC, gset_o (by rintro rfl; simp at h0), gset_o (by rintro rfl; simp at hi)]
  have sC : C.2 = S5.2 := by rw [← hC]; rfl
  have hMC : cM fc (laO bs T F' ri' od) 0 C := by
    have := hM4.of (hx5.2 _ (by simp))
    rw [← hC]
    refine ⟨?_, ?_, ?_⟩ <;> simp only [gset_rd, Prod.mk.injEq, Nat.reduceEqDiff, false_and, and_false, if_false, true_and, if_true]
    · exact this.1
    · exact this.2.1
    · rfl
  have hclC : cl M fc (dkF_sy (rmA (ctF T F' ri' od) od 12) 16) tp (vtS T F' ri' 2).1 (vtS T F' ri' 2).2.1 (vtS T F' ri' 2).2.2.1 (vtS T F' ri' 2).2.2.2.1 0 sf bs bt cd (laO bs T F' ri' od) 0 od (sgI T ri') (eiD T F' ri' od) (fun _ => -1) C := by
    have far : ∀ i : gI, 10 ≤ i.1 → i.1 ≠ 11 → i.1 ≠ 16 → i.1 ≠ 17 → ¬ (18 ≤ i.1 ∧ i.1 ≤ 26) → C.1 i = S.1 i := fun i a b c d e => by
      rw [oC i c (by omega), hx5.2 i (by omega), o4 i (by omega) e (by omega), o3 i d, o2 i c, o1 i (by omega) b]
    refine ⟨dk_of (fun i a b => oC i (by omega) (by omega)) hd5, p2.of (far _ (by simp) (by simp) (by simp) (by simp) (by simp)) (far _ (by simp) (by simp) (by simp) (by simp) (by simp)), ?_, (hS4.of (hx5.2 _ (by simp))).of (oC _ (by simp) (by simp)), hMC, (hG4.of (hx5.2 _ (by simp)) (hx5.2 _ (by simp)) (hx5.2 _ (by simp))).of (oC _ (by simp) (by simp)) (oC _ (by simp) (by simp)) (oC _ (by simp) (by simp)), (hE4.of (fun k a b => hx5.2 _ (by simp; omega))).of (fun k a b => oC _ (by simp; omega) (by simp; omega)), ?_⟩
    · have e16 : S5.1 (16, 0) = S2.1 (16, 0) := by rw [hx5.2 _ (by simp), o4 _ (by simp) (by simp) (by simp), o3 _ (by simp)]
      have e2 : S5.2 = S2.2 := by rw [hx5.1, s4, s3]
      obtain ⟨q1, q2, q3, q4, q5⟩ := hV2.of (S' := S5) e16 e2
      refine ⟨?_, ?_, by rw [sC]; exact q3, ?_, ?_⟩ <;> rw [← hC] <;> simp only [gset_rd, Prod.mk.injEq, Nat.reduceEqDiff, false_and, and_false, if_false, true_and, if_true]
      · exact q1
      · exact q2
      · exact q4
      · rfl
    · refine hK1.of ?_
      rw [oC _ (by simp) (by simp), hx5.2 _ (by simp), o4 _ (by simp) (by simp) (by simp), o3 _ (by simp), o2 _ (by simp)]
  have hhi : hiX S C := fun i hi => by
    rw [oC i (by omega) (by omega), hx5.2 i (by omega), o4 i (by omega) (by omega) (by omega), o3 i (by omega), o2 i (by omega), o1 i (by omega) (by omega)]
  have e10 : C.1 (0, 0) 10 = nI (laO bs T F' ri' od) := hMC.2.1
  rw [e10]
  unfold wp_Mo_crash
  intro C0 hC0
  have hr1 : rl M fc F tp tm vo ti sl fh sf bs bt cd la di od0 kp T nf us ri en C0 := by rw [hC0]; exact (rl.hi hhi hr).thr
  have xC : loX C C0 := by rw [hC0]; exact loX.set (by simp)
  obtain ⟨r1, r2, r3, r4, r5, r6, r7, r8⟩ := hr1
  refine r_crashFiles hL r1 r8 k5 h3.1 ?_
  intro S6 x6 o6 hK6 hD6
  rw [hF', hri'] at hD6
  refine r_findSlots hL hD6 h3' (by omega) ?_
  intro S7 x7 o7 q7 hV7
  have hD7 : rfD T nf us ri' F' S7 := rfD_of (fun i a b => o7 i (by omega)) (q7 3 (by omega) (by omega) (by omega) (by omega) (by omega)) (q7 11 (by omega) (by omega) (by omega) (by omega) (by omega)) hD6
  have m7 : ∀ k, k ≠ 19 → k ≠ 20 → k ≠ 21 → k ≠ 22 → k ≠ 28 → S7.1 (30, 0) k = C0.1 (30, 0) k := fun k a b c d e => by rw [q7 k a b c d e, o6 _ (by simp)]
  refine r_findSnapshot hL hD7 ((m7 2 (by omega) (by omega) (by omega) (by omega) (by omega)).trans r5.2.1) h4' (by omega) ?_
  intro S8 x8 o8 q8 hS8
  have hD8 : rfD T nf us ri' F' S8 := rfD_of (fun i a b => o8 i (by omega)) (q8 3 (by omega) (by omega) (by omega) (by omega)) (q8 11 (by omega) (by omega) (by omega) (by omega)) hD7
  refine r_findLog (bt := bt) hL hwL hD8 hS8.2.1 hS8.2.2.1 ?_
  intro S9 od2 hlg2 hZ
  have eod : od2 = od := lg_uniq (n := n) hlg2 hlg
  subst eod
  obtain ⟨z1, z2, z3, z4, z5, z6, z7, z8, z9⟩ := hZ
  refine ⟨fun _ => hK S9 ⟨M, fc, _, tp, _, _, _, _, 0, sf, bs, bt, cd, laO bs T F' ri' od2, 0, od2, sgI T ri', eiD T F' ri' od2, fun _ => -1, (vtS T F' ri' 2).2.2.2.2, T, nf, us, _, enD T F' ri' od2, hL, cl.lo ((((xC.tr x6).tr x7).tr x8).tr z1) hclC, ⟨z5, ?_, ?_, ?_, ?_, z8, z9, ?_⟩, ?_, ⟨?_, v3, by omega, by omega, fun f hf => Or.inl rfl⟩, w1.up, w2, w3, w4⟩, fun z => absurd rfl z⟩
  · unfold rT rfB
    rw [z2 33 (by omega) (by omega) (by omega), q8 33 (by omega) (by omega) (by omega) (by omega), m7 33 (by omega) (by omega) (by omega) (by omega) (by omega), z4, o8 _ (by simp), o7 _ (by simp), o6 _ (by simp)]
    exact r2
  · unfold rV
    rw [z2 19 (by omega) (by omega) (by omega), z2 20 (by omega) (by omega) (by omega), z2 21 (by omega) (by omega) (by omega), z2 22 (by omega) (by omega) (by omega), z2 28 (by omega) (by omega) (by omega), q8 19 (by omega) (by omega) (by omega) (by omega), q8 20 (by omega) (by omega) (by omega) (by omega), q8 21 (by omega) (by omega) (by omega) (by omega), q8 22 (by omega) (by omega) (by omega) (by omega), q8 28 (by omega) (by omega) (by omega) (by omega)]
    exact hV7
  · unfold rS
    rw [z2 26 (by omega) (by omega) (by omega), z2 23 (by omega) (by omega) (by omega), z2 24 (by omega) (by omega) (by omega), z2 25 (by omega) (by omega) (by omega)]
    exact hS8
  · refine ⟨?_, ?_, z6, z7⟩
    · rw [z2 1 (by omega) (by omega) (by omega), q8 1 (by omega) (by omega) (by omega) (by omega), m7 1 (by omega) (by omega) (by omega) (by omega) (by omega)]; exact r5.1
    · rw [z2 2 (by omega) (by omega) (by omega), q8 2 (by omega) (by omega) (by omega) (by omega), m7 2 (by omega) (by omega) (by omega) (by omega) (by omega)]; exact r5.2.1
  · unfold rK
    rw [z3, o8 _ (by simp), o7 _ (by simp)]; exact hK6
  · unfold wN at h1 ⊢
    omega
  · rcases v2 with ⟨a, b⟩ | a
    · exact Or.inl ⟨a, b, rfl⟩
    · exact Or.inr a
