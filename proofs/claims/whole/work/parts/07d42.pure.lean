theorem p_take {Ln : gI → Nat} {n : Nat} {S : gS} {K : gS → Prop} {v te co : Int32} (h : INV Ln n S) (hn : n < 513) (hK : ∀ S', INV Ln (n + 1) S' → K S') :
    wp_Law_take Ln (fun r4 S5 => wp_Mo_take Ln (fun r7 S6 => pQ Ln K r4 r7 S6) (30, 0) v te co S5) (0, 0) v te co (60, 0) S := by
  obtain ⟨M, fc, F, tp, tm, vo, ti, vf, fh, sf, bs, bt, cd, la, di, od, fo, ei, kp, sl, T, nf, us, ri, en, hL, hc, hr, h1, h2, h3, h4, h5, h6⟩ := h
  have hN := h1
  unfold wN at hN
  have hM := hL.1.2.1
  have hu := dk_uc hc.1
  have hus : dkSum (dkW F) 16 ≤ M := by omega
  have htp : tp.length ≤ 4096 := hc.2.1.2.1
  obtain ⟨hc0, hB0⟩ := hc.tape
  have h1e : wN (n + 1) nf us [] ti la bs := by unfold wN; simp; omega
  have bs1 : nI bs + 1 = nI (bs + 1) := nI_1 bs
  have hsn : snx sf < 4 ∧ 2 ≤ snx sf := by unfold snx; split <;> omega
  have hx0 : hiX S (gset S (12, 0) 1 0) := hiX.set (by simp)
  have hfo : ∀ k, k < od.length → fo (od.getD k 0) < 2 ^ 30 := fun k hk => by have := (h5.2.2.2.1 k hk).2.2.2.2.1; omega
  have e6 : (1000000 : Int32).toInt = 1000000 := by decide
  have e0 : (0 : Int32).toInt = 0 := by decide
  have nle : ∀ {x y : Int32}, ¬ x ≤ y → y < x := fun {x y} h => by rw [i32_le] at h; rw [i32_lt]; omega
  have bad : ∀ (c : Int32), c ≠ 0 → pQ Ln K c 0 (gset (gset (gset (gset S (12, 0) 1 0) (30, 0) 0 0) (30, 0) 33 0) (30, 0) 0 c) := by
    intro c h0
    refine pQ_ex (gset_s _ _ _ _) h0 (hK _ ⟨M, fc, F, [], tm, vo, ti, vf, fh, sf, bs, bt, cd, la, di, od, fo, ei, kp, sl, T, nf, us, ri, en, hL, cl.lo (((loX.set (by simp)).tr (loX.set (by simp))).tr (loX.set (by simp))) hc0, ?_, h1e, h2, h3.up, h4, h5, h6⟩)
    exact ((rl.hi hx0 hr).thr.tape).1.thr
  have bad1 : (v ≤ nI bs ∨ 1000000 < v ∨ te < 0 ∨ 1000000 < te) → wp_Mo_take Ln (fun r7 S6 => pQ Ln K 1 r7 S6) (30, 0) v te co (gset S (12, 0) 1 0) := by
    intro hb
    have hr3 := ((rl.hi hx0 hr).thr (v := 0)).tape.1
    unfold wp_Mo_take wp_Mo_take_41 wp_Mo_fail
    rintro _ rfl _ rfl _ rfl
    rw [hr3.2.2.2.1.2.1, bs1]
    refine rf_within (fun a b => br_f (by decide) (rf_within (fun c d => ?_) (fun _ => cr_t rfl ?_))) (fun _ => br_t rfl ?_)
    · rw [i32_le] at a b c d
      rw [nI_toInt (by omega)] at a
      rw [i32_le, i32_lt, i32_lt, i32_lt, nI_toInt (by omega)] at hb
      omega
    · rintro _ rfl; exact bad 1 (by decide)
    · rintro _ rfl; exact bad 1 (by decide)
  unfold wp_Law_take wp_LogDisk_take wp_Tape_handOver
  rw [show grf (0, 0) 3 = (12, 0) from rfl, hc.2.1.1]
  rintro _ rfl _ rfl
  rw [show grf (0, 0) 6 = (17, 0) from rfl, hc0.2.2.2.1.2.1]
  refine ⟨fun hb => Or.inl ⟨rfl, bad1 (Or.inl hb)⟩, fun g1 => ⟨fun g2 => ⟨fun hb => Or.inl ⟨rfl, bad1 (Or.inr (Or.inr (Or.inl hb)))⟩, fun g3 => ⟨fun g4 => ?_, fun hb => Or.inl ⟨rfl, bad1 (Or.inr (Or.inr (Or.inr (nle hb))))⟩⟩⟩, fun hb => Or.inl ⟨rfl, bad1 (Or.inr (Or.inl (nle hb)))⟩⟩⟩
  obtain ⟨nb, rfl, hbn, hnb⟩ : ∃ nb, v = nI nb ∧ bs < nb ∧ nb ≤ 1000000 := by
    rcases i32_cases v bs 1000000 (by omega) (by omega) with e | e | e
    · exact absurd e g1
    · rw [i32_lt, nI_toInt (by omega)] at e; rw [i32_le] at g2; omega
    · exact e
  -- the reference up to its write: y = 1: the entries stay
  have rgo : ∀ (c : Int32) S' (y : Int32), hiX S S' → ((y = 1 ∧ nb ≤ la ∧ (T (en nb)).b = te) ∨ (y = 0 ∧ ¬ (nb ≤ la ∧ (T (en nb)).b = te))) → (∀ S3, rl M fc F [] tm vo ti sl fh sf bs bt cd la di od kp T nf us ri en S3 → rfB tp S3 → S3 = gset (gset S' (30, 0) 0 0) (30, 0) 33 0 → wp_Mo_take_69 Ln (fun r7 S6 => pQ Ln K c r7 S6) (30, 0) (nI nb) te co (nI tp.length) y S3) → wp_Mo_take Ln (fun r7 S6 => pQ Ln K c r7 S6) (30, 0) (nI nb) te co S' := by
    intro c S' y hx hy hgo
    have hrS := (rl.hi hx hr).thr (v := 0)
    obtain ⟨hr3, hB3⟩ := hrS.tape
    have hh := hgo _ hr3 hB3 rfl
    unfold wp_Mo_take
    rintro _ rfl
    rw [hrS.2.1.1]
    rintro _ rfl _ rfl
    rw [hr3.2.2.2.1.2.1, bs1]
    refine rf_within (fun _ _ => br_f (by decide) (rf_within (fun _ _ => cr_f (by decide) ?_) (fun hb => ?_))) (fun hb => ?_)
    · rw [hr3.2.2.2.2.1.2.2.1]
      refine pk_lt la nb (fun hlt => ?_) (fun hge => ?_) rfl rfl (by omega) (by omega)
      · rcases hy with ⟨-, y2, -⟩ | ⟨y1, -⟩
        · omega
        · unfold wp_Mo_take_68; rw [y1] at hh; exact hh
      · refine r_termOf hL hr3.2.2.2.1 hr3.1.1 hr3.2.2.2.2.2.2.1 (by omega) (by omega) rfl (by omega) hge (fun _ => en_lt hr.1.lt h5.2.1 h6 hge hbn) ?_
        rw [if_pos hbn]
        refine ⟨fun hne => ?_, fun he => ?_⟩
        · rcases hy with ⟨-, -, y3⟩ | ⟨y1, -⟩
          · exact absurd y3 hne
          · unfold wp_Mo_take_68; rw [y1] at hh; exact hh
        · rcases hy with ⟨y1, -, -⟩ | ⟨-, y2⟩
          · rw [y1] at hh; exact hh
          · exact absurd ⟨hge, he⟩ y2
    · rcases hb with hb | hb
      · exact absurd hb g3
      · rw [i32_lt] at hb; rw [i32_le] at g4; omega
    · rcases hb with hb | hb
      · rw [nI_ltI (by omega) (by omega)] at hb; omega
      · rw [i32_lt] at hb; rw [i32_le] at g2; omega
  refine c_nextSnap hc0.2.2.2.1.1 ?_
  refine c_file (P := fun g => wp_DiskFile_canRewrite Ln _ g _ _) (S := gset S (12, 0) 1 0) hL rfl (show snx sf < 16 by omega) ?_
  rw [show (20 : Int32) = nI 20 from rfl, nI_add]
  obtain ⟨q1, q2, q3, q4, q5, q6, q7, q8⟩ := id hc0
  have hrr : ∀ k, k < od.length → va_up (va_up ri (snx sf) [nf]) (16 + snx sf) [nf] (od.getD k 0) = ri (od.getD k 0) := fun k hk => by have := h5.2.1 k hk; exact (va_up_ne _ _ (by omega)).trans (va_up_ne _ _ (by omega))
  have hTa : ∀ j, j < nf → va_up T nf (1, nI nb, te, co, tp) j = T j := fun j hj => va_up_ne _ _ (by omega)
  refine dk_canRewrite hL.1 hc0.1 (by omega) rfl (by omega) (fun hP hroom => cr_f (by decide) ?_) (fun hno => cr_t rfl (Or.inr ⟨rfl, ?_⟩))
  rotate_left
  · by_cases hst : nb ≤ la ∧ (T (en nb)).b = te
    · refine rgo 2 _ 1 hx0 (Or.inl ⟨rfl, hst⟩) (fun S3 hr3 hB3 hS3 => ?_)
      unfold wp_Mo_take_69
      refine r_write hL hr3 hB3 hM hus (by omega) (by omega) rfl rfl (fun _ => cr_t rfl ?_) (fun a b => absurd ⟨a, b⟩ hno)
      unfold wp_Mo_fail
      rintro _ rfl
      rw [hS3]
      exact bad 2 (by decide)
    · refine rgo 2 _ 0 hx0 (Or.inr ⟨rfl, hst⟩) (fun S3 hr3 hB3 hS3 => ?_)
      unfold wp_Mo_take_69
      refine r_write hL hr3 hB3 hM hus (by omega) (by omega) rfl rfl (fun _ => cr_t rfl ?_) (fun a b => absurd ⟨a, b⟩ hno)
      unfold wp_Mo_fail
      rintro _ rfl
      rw [hS3]
      exact bad 2 (by decide)
  -- they stay
  have stay : nb ≤ la → (T (en nb)).b = te → wp_LogDisk_take_111 Ln (fun r3 S1 => vp_in 0 (Ln (60, 0)) ∧ (∀ S4 : gS, S4 = gsetL S1 (60, 0) (0 : Int32).toNatClampNeg (r3.toInt64) → (wp_Mo_take Ln (fun r7 S6 => pQ Ln K 0 r7 S6) (30, 0) (nI nb) te co S4))) (fun E S2 => (E = "java/lang/IllegalArgumentException" ∧ (wp_Mo_take Ln (fun r7 S6 => pQ Ln K 1 r7 S6) (30, 0) (nI nb) te co S2)) ∨ (E = "java/lang/UnsupportedOperationException" ∧ (wp_Mo_take Ln (fun r7 S6 => pQ Ln K 2 r7 S6) (30, 0) (nI nb) te co S2))) (0, 0) (nI nb) te co (nI tp.length) (gset S (12, 0) 1 0) := by
    intro hle hte
    unfold wp_LogDisk_take_111
    refine c_moveBase (nb := nb) hL q1 q2 q3 q4 q5 q6 (fun i a b => q7 i (by omega) b) q8 hB0 h5.1 h5.2.1 hfo (by omega) (by omega) hle (fun z => ?_) rfl rfl (h3.1 _ (by omega)) hP hroom ?_
    · rcases Nat.eq_zero_or_pos od.length with e | e
      · have := h5.2.2.2.2.2.1 e; omega
      · exact e
    intro S2 g hg hx2 hc2
    rw [hc2.2.2.2.2.1.2.1]
    refine ok_in hL ?_
    have hx2' : hiX S (gsetL S2 (60, 0) (0 : Int32).toNatClampNeg (nI la).toInt64) := (hx0.tr hx2).tr hiX.setL
    obtain ⟨w3, w4, w5, w6⟩ := wf_move (te := te) (co := co) (ds := tp) (la' := la) hr.1.lt h3 h4 h5 h6 hbn (Or.inl ⟨hle, rfl⟩) hg
    refine rgo 0 _ 1 hx2' (Or.inl ⟨rfl, hle, hte⟩) (fun S3 hr3 hB3 hS3 => ?_)
    have t3 : S3.1 (30, 0) 0 = 0 := by rw [hS3, gset_n (Or.inr (by omega)), gset_s]
    unfold wp_Mo_take_69
    refine r_write hL hr3 hB3 hM hus (by omega) (by omega) rfl rfl (fun hno => absurd ⟨hP, hroom⟩ hno) ?_
    intro _ _ S4 x4 t4 hr4
    refine cr_f (by decide) (cr_f (by decide) ?_)
    unfold wp_Mo_take_114
    refine br_f (by decide) ?_
    rw [hr4.2.2.2.1.2.1, pk_sub (by omega)]
    unfold wp_Mo_take_139
    refine r_rebase (fo := fo) (g := g) (la' := la) (g0 := nb - bs) hL hr4 h5.1 h5.2.1 h5.2.2.1 (fun k hk => ?_) (fun k hk => ?_) hfo (by omega) (by omega) (fun t d => fo_mono h5 d t) (by omega) (by omega) hbn (Or.inl ⟨hle, rfl, rfl⟩) hg rfl rfl ?_
    · rw [hrr k hk]
      obtain ⟨d1, d2, d3, d4, d5, d6⟩ := h5.2.2.2.1 k hk
      rw [hTa _ (hr.1.lt _ (by have := h5.2.1 k hk; omega) 0 d1)]
      exact ⟨d1, d3, d4⟩
    · rw [hrr k (by omega)]; exact h5.2.2.2.2.1 k hk
    intro S5 x5 t5 hr5
    have xlo : loX (gsetL S2 (60, 0) (0 : Int32).toNatClampNeg (nI la).toInt64) S5 := by
      rw [hS3] at x4
      exact (((loX.set (by simp)).tr (loX.set (by simp))).tr x4).tr x5
    rw [hr5.2.2.2.2.1.2.2.1]
    refine pQ_ok hL (by rw [t5, t4, t3]) (by rw [xlo.1]; exact out_s _ _) (hK S5 ⟨M, fc, _, [], tm, vo, ti, vf, fh, nI (snx sf), nb, te, co, la, 1, od.drop g, fo, ei, kp, sl, _, nf + 1, us + tp.length, _, en, hL, cl.lo xlo hc2.out, hr5, ?_, ⟨h2.1, h2.2.1, h2.2.2.1, by omega, h2.2.2.2.2⟩, w3.up, w4, w5, w6⟩)
    unfold wN; simp; omega
  -- they don't
  have leave : ¬ (nb ≤ la ∧ (T (en nb)).b = te) → wp_LogDisk_take_106 Ln (fun r3 S1 => vp_in 0 (Ln (60, 0)) ∧ (∀ S4 : gS, S4 = gsetL S1 (60, 0) (0 : Int32).toNatClampNeg (r3.toInt64) → (wp_Mo_take Ln (fun r7 S6 => pQ Ln K 0 r7 S6) (30, 0) (nI nb) te co S4))) (fun E S2 => (E = "java/lang/IllegalArgumentException" ∧ (wp_Mo_take Ln (fun r7 S6 => pQ Ln K 1 r7 S6) (30, 0) (nI nb) te co S2)) ∨ (E = "java/lang/UnsupportedOperationException" ∧ (wp_Mo_take Ln (fun r7 S6 => pQ Ln K 2 r7 S6) (30, 0) (nI nb) te co S2))) (0, 0) (nI nb) te co (nI tp.length) (gset S (12, 0) 1 0) := by
    intro hst
    unfold wp_LogDisk_take_106
    rintro _ rfl
    unfold wp_LogDisk_take_111
    have o : ∀ i : gI, i.1 ≠ 0 → (gset (gset S (12, 0) 1 0) (0, 0) 10 (nI nb)).1 i = (gset S (12, 0) 1 0).1 i := fun i hi => gset_o (by rintro rfl; simp at hi)
    have q5' : cM fc nb di (gset (gset S (12, 0) 1 0) (0, 0) 10 (nI nb)) := by
      refine ⟨?_, ?_, ?_⟩
      · rw [gset_n (Or.inr (by omega))]; exact q5.1
      · rw [gset_s]
      · rw [gset_n (Or.inr (by omega))]; exact q5.2.2
    refine c_moveBase (nb := nb) (la := nb) (ei := ei) hL (dk_of (fun i a b => o i (by omega)) q1) (q2.of (o _ (by simp)) (o _ (by simp))) (q3.of (o _ (by simp)) rfl) (q4.of (o _ (by simp))) q5' (q6.of (o _ (by simp)) (o _ (by simp)) (o _ (by simp))) (fun i a b => by omega) (q8.of (o _ (by simp))) (hB0.of (o _ (by simp))) h5.1 h5.2.1 hfo (by omega) (by omega) (Nat.le_refl _) (fun z => by omega) rfl rfl (h3.1 _ (by omega)) hP hroom ?_
    intro S2 g hg hx2 hc2
    rw [hc2.2.2.2.2.1.2.1]
    refine ok_in hL ?_
    have hx2' : hiX S (gsetL S2 (60, 0) (0 : Int32).toNatClampNeg (nI nb).toInt64) := ((hx0.tr (hiX.set (by simp))).tr hx2).tr hiX.setL
    obtain ⟨w3, w4, w5, w6⟩ := wf_move (te := te) (co := co) (ds := tp) (la' := nb) hr.1.lt h3 h4 h5 h6 hbn (Or.inr rfl) hg
    refine rgo 0 _ 0 hx2' (Or.inr ⟨rfl, hst⟩) (fun S3 hr3 hB3 hS3 => ?_)
    have t3 : S3.1 (30, 0) 0 = 0 := by rw [hS3, gset_n (Or.inr (by omega)), gset_s]
    unfold wp_Mo_take_69
    refine r_write hL hr3 hB3 hM hus (by omega) (by omega) rfl rfl (fun hno => absurd ⟨hP, hroom⟩ hno) ?_
    intro _ _ S4 x4 t4 hr4
    refine cr_f (by decide) (cr_t rfl ?_)
    rw [hr4.2.2.2.2.1.2.2.1]
    have go : wp_Mo_take_111 Ln (fun r7 S6 => pQ Ln K 0 r7 S6) (30, 0) (nI nb) 0 (30, 0) (nI (min nb la)) S4 := by
      unfold wp_Mo_take_111
      rintro _ rfl
      unfold wp_Mo_take_114
      refine br_t rfl ?_
      have hr4' : rl M fc (snF F (snx sf) (frE (1, nI nb, te, co, tp))) [] tm vo ti sl fh (nI (snx sf)) bs te co (min nb la) 1 od kp (va_up T nf (1, nI nb, te, co, tp)) (nf + 1) (us + tp.length) (va_up (va_up ri (snx sf) [nf]) (16 + snx sf) [nf]) en (gset S4 (30, 0) 27 (nI (min nb la))) := by
        obtain ⟨p1, p2, p3, p4, p5, p6, p7, p8⟩ := hr4
        have ok : ∀ k, k ≠ 27 → (gset S4 (30, 0) 27 (nI (min nb la))).1 (30, 0) k = S4.1 (30, 0) k := fun k hk => gset_n (Or.inr hk)
        have oh : ∀ i : gI, i.1 ≠ 30 → (gset S4 (30, 0) 27 (nI (min nb la))).1 i = S4.1 i := fun i hi => gset_o (by rintro rfl; simp at hi)
        refine ⟨rfD_of (fun i a b => oh i (by omega)) (ok 3 (by omega)) (ok 11 (by omega)) p1, ?_, ?_, ?_, ⟨?_, ?_, ?_, ?_⟩, ?_, ?_, ?_⟩
        · unfold rT rfB; rw [ok 33 (by omega), oh (47, 0) (by simp)]; exact p2
        · unfold rV; rw [ok 19 (by omega), ok 20 (by omega), ok 21 (by omega), ok 22 (by omega), ok 28 (by omega)]; exact p3
        · unfold rS; rw [ok 26 (by omega), ok 23 (by omega), ok 24 (by omega), ok 25 (by omega)]; exact p4
        · rw [ok 1 (by omega)]; exact p5.1
        · rw [ok 2 (by omega)]; exact p5.2.1
        · rw [gset_s]
        · rw [ok 29 (by omega)]; exact p5.2.2.2
        · unfold rG; rw [ok 30 (by omega), oh (45, 0) (by simp)]; exact p6
        · intro i a b; rw [oh (46, 0) (by simp)]; exact p7 i a (by omega)
        · unfold rK; rw [oh (44, 0) (by simp)]; exact p8
      rw [hr4'.2.2.2.2.1.2.2.1, hr4'.2.2.2.1.2.1, pk_sub (by omega)]
      unfold wp_Mo_take_139
      refine r_rebase (fo := fo) (g := g) (la' := nb) (g0 := min nb la - bs) hL hr4' h5.1 h5.2.1 h5.2.2.1 (fun k hk => ?_) (fun k hk => ?_) hfo (by omega) (by omega) (fun t d => fo_mono h5 d t) (by omega) (by omega) hbn (Or.inr ⟨by omega, rfl, rfl⟩) hg rfl rfl ?_
      · rw [hrr k hk]
        obtain ⟨d1, d2, d3, d4, d5, d6⟩ := h5.2.2.2.1 k hk
        rw [hTa _ (hr.1.lt _ (by have := h5.2.1 k hk; omega) 0 d1)]
        exact ⟨d1, d3, d4⟩
      · rw [hrr k (by omega)]; exact h5.2.2.2.2.1 k hk
      intro S5 x5 t5 hr5
      have xlo : loX (gsetL S2 (60, 0) (0 : Int32).toNatClampNeg (nI nb).toInt64) S5 := by
        rw [hS3] at x4
        exact ((((loX.set (by simp)).tr (loX.set (by simp))).tr x4).tr (loX.set (by simp))).tr x5
      rw [hr5.2.2.2.2.1.2.2.1]
      refine pQ_ok hL (by rw [t5, gset_n (Or.inr (by omega)), t4, t3]) (by rw [xlo.1]; exact out_s _ _) (hK S5 ⟨M, fc, _, [], tm, vo, ti, vf, fh, nI (snx sf), nb, te, co, nb, 1, od.drop g, fo, ei, kp, sl, _, nf + 1, us + tp.length, _, en, hL, cl.lo xlo hc2.out, hr5, ?_, ⟨h2.1, h2.2.1, h2.2.2.1, by omega, h2.2.2.2.2⟩, w3.up, w4, w5, w6⟩)
      unfold wN; simp; omega
    refine pk_le nb la (fun h => ?_) (fun h => ?_) rfl rfl (by omega) (by omega)
    · rw [Nat.min_eq_left h] at go; exact go
    · rw [Nat.min_eq_right (by omega)] at go; exact go
  refine c_isInLog hc0.2.2.2.1 hc0.2.2.2.2.1 (by omega) (by omega) (fun i e hi1 hi2 => br_f (by decide) ?_) (fun hb => br_t rfl (leave (fun z => ?_)))
  · have ei' : i = nb := ((nI_eq (by omega) (by omega)).1 e).symm
    subst ei'
    refine c_termAt hL hc0.2.2.2.1 hc0.2.2.2.2.1 hc0.2.2.2.2.2.2.1 (by omega) (by omega) rfl hi2 ?_
    have htl := tl_eq (bt := bt) h6 hi2
    rw [htl, if_pos hi1]
    exact ⟨fun he => stay hi2 he, fun hne => leave (fun z => hne z.2)⟩
  · rcases hb with hb | hb
    · exact g1 hb
    · rw [nI_ltI (by omega) (by omega)] at hb; omega
