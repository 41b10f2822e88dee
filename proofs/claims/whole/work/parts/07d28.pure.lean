theorem rf_data {T : Nat → gFr} {nf us : Nat} {S : gS} (hT : rfT T nf us S) {j : Nat} (hj : j < nf) : ∃ p, S.1 (35, 0) j = nI p ∧ p + (T j).d.length ≤ 4200 ∧ ∀ k, k < (T j).d.length → S.1 (37, 0) (p + k) = nI ((T j).d.getD k 0) := by
  obtain ⟨h1, h2, -, -, h3⟩ := hT
  obtain ⟨-, -, -, -, -, -, p, hp, hp2, hp3⟩ := h3 j hj
  exact ⟨p, hp, by omega, hp3⟩
theorem p_contentAt {Ln : gI → Nat} {n : Nat} {S : gS} {K : gS → Prop} {v w : Int32} (h : INV Ln n S) (hn : n < 513) (hK : ∀ S', INV Ln (n + 1) S' → K S') :
    wp_Law_contentAt Ln (fun r4 S5 => wp_Mo_contentAt Ln (fun r7 S6 => pQ Ln K r4 r7 S6) (30, 0) v w S5) (0, 0) v w (60, 0) S := by
  obtain ⟨M, fc, F, tp, tm, vo, ti, vf, fh, sf, bs, bt, cd, la, di, od, fo, ei, kp, sl, T, nf, us, ri, en, hL, hc, hr, h1, h2, h3, h4, h5, h6⟩ := h
  obtain ⟨ok, bad⟩ := ro hn hK hL hc hr h1 h2 h3 h4 h5 h6
  have e0 : (0 : Int32).toInt = 0 := by decide
  have hN := h1
  unfold wN at hN
  have hnf := hr.1.1.1
  unfold wp_Law_contentAt wp_LogDisk_contentAt
  have bs1 : nI bs + 1 = nI (bs + 1) := nI_1 bs
  refine c_isInLog hc.2.2.2.1 hc.2.2.2.2.1 (by omega) (by omega) (fun i e hi1 hi2 => cr_f (by decide) ?_) (fun hb => cr_t rfl (Or.inl ⟨rfl, ?_⟩))
  · subst e
    obtain ⟨q, k, f, w1, w2, w3, w4, w5, w6, w7, w8, w9, w10, w11, w12, w13, w14⟩ := wE_at h3 h5 h6 hr.1 hi1 hi2
    obtain ⟨c1, c2, c3, c4, c5⟩ := hc.2.2.2.2.2.2.1 i hi1 hi2
    rw [w10] at c1 c2 c3 c4 c5
    dsimp only at c1 c2 c3 c4 c5
    have hdl := rf_dl hr.1.1 w9
    have hsf := (dk_sz hc.1 hL.1.2.1 (show f < 32 by omega)).2
    refine c_slot rfl (by omega) ?_
    have l := hL.2.2.2.2.2.2.2.2.2
    rw [show grf (0, 0) 8 = (21, 0) from rfl, show grf (21, 0) 0 = (22, 0) from rfl, show grf (21, 0) 1 = (23, 0) from rfl, show grf (21, 0) 4 = (26, 0) from rfl, l 22 (by omega) (by omega), l 23 (by omega) (by omega), l 26 (by omega) (by omega), nI_clamp (by omega), c1, c2, c5]
    have hin : vp_in (nI (i % 301)) 301 := vp_in_nI (by omega) (by omega)
    have bad' : (w < 0 ∨ nI (T (en i)).d.length ≤ w) → wp_Mo_contentAt Ln (fun r7 S6 => pQ Ln K 2 r7 S6) (30, 0) (nI i) w S := by
      intro hb
      unfold wp_Mo_contentAt
      rintro _ rfl
      have hr0 := hr.thr (v := 0)
      rw [hr0.2.2.2.1.2.1, hr0.2.2.2.2.1.2.2.1, bs1]
      refine rf_within (fun ha hb' => cr_f (by decide) ?_) (fun hb' => ?_)
      · rw [hr0.2.2.2.1.2.1, pk_sub (by omega), show (1 : Int32) = nI 1 from rfl, pk_sub (by omega), show grf (30, 0) 32 = (46, 0) from rfl, hL.2.1.2.2.2.2.2.2.2.2.2.2.1, nI_clamp (by omega), hr0.2.2.2.2.2.2.1 i hi1 hi2]
        refine ⟨vp_in_nI (by omega) (by omega), ?_⟩
        rintro _ rfl
        rw [show grf (30, 0) 9 = (36, 0) from rfl, hL.2.1.1 36 (by omega) (by omega), nI_clamp (by omega), (rf_fr hr0.1.1 w9).2.2.2.2]
        refine ⟨vp_in_nI (by omega) (by omega), rf_within (fun hc' hd' => ?_) (fun _ => br_t rfl ?_)⟩
        · have hm1 : (nI (T (en i)).d.length - nI 1 : Int32).toInt = ((T (en i)).d.length : Int) - 1 := pk_sub_toInt (b := 1) (by omega) (by omega)
          rw [i32_le] at hc' hd'
          rw [hm1] at hd'
          rw [i32_lt, i32_le, nI_toInt (by omega)] at hb
          omega
        · unfold wp_Mo_fail
          rintro _ rfl; exact bad 2 (by decide)
      · rcases hb' with hb' | hb'
        · rw [nI_ltI (by omega) (by omega)] at hb'; omega
        · rw [nI_ltI (by omega) (by omega)] at hb'; omega
    refine ⟨fun hw => Or.inr ⟨rfl, bad' (Or.inl hw)⟩, fun hw => ⟨hin, ?_⟩⟩
    obtain ⟨x, hx, rfl⟩ := nI_of hw
    refine pk_lt x (T (en i)).d.length (fun hlt => ⟨hin, ?_⟩) (fun hge => Or.inr ⟨rfl, bad' (Or.inr (nI_le hge hx))⟩) rfl rfl hx (by omega)
    have hE25 : (frE (T (en i))).length = 25 + (T (en i)).d.length := by rw [frE_len, frP_len, if_neg (by omega), if_neg (by omega), if_neg (by omega), if_neg (by omega)]; omega
    refine c_file (P := fun g => vp_in (nI (i % 301)) 301 ∧ wp_DiskFile_read Ln _ g _ S) (S := S) hL rfl w4 ⟨hin, ?_⟩
    rw [show (25 : Int32) = nI 25 from rfl, nI_add, nI_add]
    have w13' : (rfC T ((ri f).take k)).length + (frE (T (en i))).length ≤ 25600 := Nat.le_trans w13 hsf
    refine dk_read hL.1 hc.1 w4 rfl (by rw [hE25] at w13'; omega) (ok_in hL ?_)
    rw [w14 x hlt]
    obtain ⟨ok1, ok2⟩ := ok (nI ((T (en i)).d.getD x 0))
    unfold wp_Mo_contentAt
    rintro _ rfl
    rw [ok2.2.2.2.1.2.1, ok2.2.2.2.2.1.2.2.1, bs1]
    refine rf_within (fun ha hb' => cr_f (by decide) ?_) (fun hb' => ?_)
    · rw [ok2.2.2.2.1.2.1, pk_sub (by omega), show (1 : Int32) = nI 1 from rfl, pk_sub (by omega), show grf (30, 0) 32 = (46, 0) from rfl, hL.2.1.2.2.2.2.2.2.2.2.2.2.1, nI_clamp (by omega), ok2.2.2.2.2.2.2.1 i hi1 hi2]
      refine ⟨vp_in_nI (by omega) (by omega), ?_⟩
      rintro _ rfl
      obtain ⟨p, hp1, hp2, hp3⟩ := rf_data ok2.1.1 w9
      rw [show grf (30, 0) 9 = (36, 0) from rfl, show grf (30, 0) 8 = (35, 0) from rfl, show grf (30, 0) 10 = (37, 0) from rfl, hL.2.1.1 36 (by omega) (by omega), hL.2.1.1 35 (by omega) (by omega), hL.2.1.2.1, nI_clamp (by omega), (rf_fr ok2.1.1 w9).2.2.2.2]
      refine ⟨vp_in_nI (by omega) (by omega), rf_within (fun hc' hd' => br_f (by decide) ⟨vp_in_nI (by omega) (by omega), ?_⟩) (fun hb => ?_)⟩
      · rw [hp1, nI_add, nI_clamp (by omega), hp3 x hlt]
        exact ⟨vp_in_nI (by omega) (by omega), ok1⟩
      · have hm1 : (nI (T (en i)).d.length - nI 1 : Int32).toInt = ((T (en i)).d.length : Int) - 1 := pk_sub_toInt (b := 1) (by omega) (by omega)
        rw [i32_lt, i32_lt, hm1, nI_toInt hx] at hb; omega
    · rcases hb' with hb' | hb'
      · rw [nI_ltI (by omega) (by omega)] at hb'; omega
      · rw [nI_ltI (by omega) (by omega)] at hb'; omega
  · unfold wp_Mo_contentAt
    rintro _ rfl
    have hr0 := hr.thr (v := 0)
    rw [hr0.2.2.2.1.2.1, hr0.2.2.2.2.1.2.2.1, bs1]
    refine rf_within (fun ha hb' => ?_) (fun _ => cr_t rfl ?_)
    · rw [i32_le] at ha hb'
      rw [nI_toInt (by omega)] at ha hb'
      rw [i32_le, i32_lt, nI_toInt (by omega), nI_toInt (by omega)] at hb
      omega
    · unfold wp_Mo_fail
      rintro _ rfl; exact bad 1 (by decide)
theorem p_snapshotAt {Ln : gI → Nat} {n : Nat} {S : gS} {K : gS → Prop} {w : Int32} (h : INV Ln n S) (hn : n < 513) (hK : ∀ S', INV Ln (n + 1) S' → K S') :
    wp_Law_snapshotAt Ln (fun r4 S5 => wp_Mo_snapshotAt Ln (fun r7 S6 => pQ Ln K r4 r7 S6) (30, 0) w S5) (0, 0) w (60, 0) S := by
  obtain ⟨M, fc, F, tp, tm, vo, ti, vf, fh, sf, bs, bt, cd, la, di, od, fo, ei, kp, sl, T, nf, us, ri, en, hL, hc, hr, h1, h2, h3, h4, h5, h6⟩ := h
  obtain ⟨ok, bad⟩ := ro hn hK hL hc hr h1 h2 h3 h4 h5 h6
  have e0 : (0 : Int32).toInt = 0 := by decide
  have hnf := hr.1.1.1
  unfold wp_Law_snapshotAt wp_LogDisk_snapshotAt
  rcases wS_cases h4 with e | ⟨s, j, s1, s2, e, s3, s4, s5, s6⟩
  · have bad' : wp_Mo_snapshotAt Ln (fun r7 S6 => pQ Ln K 1 r7 S6) (30, 0) w S := by
      unfold wp_Mo_snapshotAt wp_Mo_snapshotAt_40 wp_Mo_fail
      rintro _ rfl
      rw [(hr.thr (v := 0)).2.2.2.1.1, e]
      refine br_t (by decide) ?_
      rintro _ rfl; exact bad 1 (by decide)
    refine ⟨fun _ => ⟨rfl, bad'⟩, fun hw => ?_⟩
    unfold wp_LogDisk_snapshotBytes
    rw [show grf (0, 0) 6 = (17, 0) from rfl, hc.2.2.2.1.1, e]
    exact cr_t rfl (br_f hw ⟨rfl, bad'⟩)
  · obtain ⟨r1, r2, r3, r4⟩ := rf_row hr.1 (c := s) (k := 0) (by omega) (by rw [s3]; exact Nat.one_pos)
    rw [s3] at r2
    have ej : ([j] : List Nat).getD 0 0 = j := rfl
    rw [ej] at r2
    have hdl := rf_dl hr.1.1 r2
    have hm1 : (nI (T j).d.length - 1 : Int32).toInt = ((T j).d.length : Int) - 1 := pk_sub_toInt (b := 1) (by omega) (by omega)
    have hne : ¬ nI s = (-1 : Int32) := by
      intro z
      have : (nI s).toInt = (-1 : Int32).toInt := by rw [z]
      rw [nI_toInt (by omega)] at this
      have : (-1 : Int32).toInt = -1 := by decide
      omega
    have row : ∀ S', rl M fc F tp tm vo ti sl fh sf bs bt cd la di od kp T nf us ri en S' → S'.1 (38, 0) (330 * s) = nI j := by
      intro S' hr'
      have := (rf_row hr'.1 (c := s) (k := 0) (by omega) (by rw [s3]; exact Nat.one_pos)).1
      rw [s3, Nat.add_zero] at this
      exact this
    have bad' : (w < 0 ∨ nI (T j).d.length ≤ w) → wp_Mo_snapshotAt Ln (fun r7 S6 => pQ Ln K 1 r7 S6) (30, 0) w S := by
      intro hb
      unfold wp_Mo_snapshotAt wp_Mo_snapshotAt_40 wp_Mo_fail
      rintro _ rfl
      have hr0 := hr.thr (v := 0)
      rw [hr0.2.2.2.1.1, e]
      refine br_f (nI_pos (by omega)) ?_
      rw [show grf (30, 0) 12 = (38, 0) from rfl, show grf (30, 0) 9 = (36, 0) from rfl, hL.2.1.2.2.1, hL.2.1.1 36 (by omega) (by omega), show (330 : Int32) = nI 330 from rfl, pk_mul, nI_clamp (by omega), row _ hr0, nI_clamp (by omega), (rf_fr hr0.1.1 r2).2.2.2.2]
      refine ⟨vp_in_nI (by omega) (by omega), vp_in_nI (by omega) (by omega), rf_within (fun ha hb' => ?_) (fun _ => cr_t rfl ?_)⟩
      · rw [i32_le] at ha hb'
        rw [hm1] at hb'
        rw [i32_lt, i32_le, nI_toInt (by omega)] at hb
        omega
      · rintro _ rfl; exact bad 1 (by decide)
    refine ⟨fun hw => ⟨rfl, bad' (Or.inl hw)⟩, fun hw => ?_⟩
    obtain ⟨x, hx, rfl⟩ := nI_of hw
    have hsf := (dk_sz hc.1 hL.1.2.1 (show s < 32 by omega)).2
    unfold wp_LogDisk_snapshotBytes
    rw [show grf (0, 0) 6 = (17, 0) from rfl, hc.2.2.2.1.1, e, show grf (0, 0) 1 = (10, 0) from rfl, hL.2.2.1, nI_clamp (by omega), show grf (10, 0) s = (1, s) from rfl, dkf1 (by omega), (dk_size hc.1 (show s < 32 by omega)).1, show (20 : Int32) = nI 20 from rfl, pk_sub (by omega), s6, show 20 + (T j).d.length - 20 = (T j).d.length by omega]
    have i16 : vp_in (nI s) 16 := vp_in_nI (by omega) (by omega)
    refine cr_f hne ⟨i16, pk_lt x (T j).d.length (fun hlt => ?_) (fun hge => ⟨rfl, bad' (Or.inr (nI_le hge hx))⟩) rfl rfl hx (by omega)⟩
    rw [hc.2.2.2.1.1, e, nI_clamp (by omega), show grf (10, 0) s = (1, s) from rfl, nI_add]
    refine ⟨i16, ?_⟩
    refine dk_read hL.1 hc.1 (by omega) rfl (by omega) (ok_in hL ?_)
    rw [s5, frE_d1 s4]
    obtain ⟨ok1, ok2⟩ := ok (nI ((T j).d.getD x 0))
    obtain ⟨p, hp1, hp2, hp3⟩ := rf_data ok2.1.1 r2
    unfold wp_Mo_snapshotAt
    rintro _ rfl
    rw [ok2.2.2.2.1.1, e]
    refine br_f (nI_pos (by omega)) ?_
    rw [show grf (30, 0) 12 = (38, 0) from rfl, show grf (30, 0) 9 = (36, 0) from rfl, show grf (30, 0) 8 = (35, 0) from rfl, show grf (30, 0) 10 = (37, 0) from rfl, hL.2.1.2.2.1, hL.2.1.1 36 (by omega) (by omega), hL.2.1.1 35 (by omega) (by omega), hL.2.1.2.1, show (330 : Int32) = nI 330 from rfl, pk_mul, nI_clamp (by omega), row _ ok2, nI_clamp (by omega), (rf_fr ok2.1.1 r2).2.2.2.2]
    refine ⟨vp_in_nI (by omega) (by omega), vp_in_nI (by omega) (by omega), rf_within (fun ha hb' => cr_f (by decide) ?_) (fun hb => ?_)⟩
    · rw [ok2.2.2.2.1.1, e, pk_mul, nI_clamp (by omega), row _ ok2, nI_clamp (by omega), hp1, nI_add, nI_clamp (by omega), hp3 x hlt]
      exact ⟨vp_in_nI (by omega) (by omega), vp_in_nI (by omega) (by omega), vp_in_nI (by omega) (by omega), ok1⟩
    · rw [i32_lt, i32_lt, hm1, nI_toInt hx] at hb; omega
