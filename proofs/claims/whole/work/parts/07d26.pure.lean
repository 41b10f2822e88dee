theorem ok_in {Ln : gI → Nat} {M : Nat} {S : gS} {r : Int32} {P : gS → Prop} (hL : aL Ln M) (h : P (gsetL S (60, 0) (0 : Int32).toNatClampNeg r.toInt64)) : vp_in 0 (Ln (60, 0)) ∧ (∀ S4 : gS, S4 = gsetL S (60, 0) (0 : Int32).toNatClampNeg r.toInt64 → P S4) := by
  refine ⟨in_60 hL, ?_⟩
  rintro _ rfl
  exact h
theorem p_segment {Ln : gI → Nat} {n : Nat} {S : gS} {K : gS → Prop} {v w : Int32} (h : INV Ln n S) (hn : n < 513) (hK : ∀ S', INV Ln (n + 1) S' → K S') :
    wp_Law_segment Ln (fun r4 S5 => wp_Mo_segment Ln (fun r7 S6 => pQ Ln K r4 r7 S6) (30, 0) v w S5) (0, 0) v w (60, 0) S := by
  obtain ⟨M, fc, F, tp, tm, vo, ti, vf, fh, sf, bs, bt, cd, la, di, od, fo, ei, kp, sl, T, nf, us, ri, en, hL, hc, hr, h1, h2, h3, h4, h5, h6⟩ := h
  obtain ⟨ok, bad⟩ := ro hn hK hL hc hr h1 h2 h3 h4 h5 h6
  have e1 : (1 : Int32).toInt = 1 := by decide
  have e0 : (0 : Int32).toInt = 0 := by decide
  obtain ⟨g1, g2⟩ := hc.2.2.2.2.2.1
  have hod := h5.1
  have bad' : (v < 0 ∨ (nI od.length : Int32) - 1 < v ∨ w < 0 ∨ 1 < w) → wp_Mo_segment Ln (fun r7 S6 => pQ Ln K 1 r7 S6) (30, 0) v w S := by
    intro hb
    unfold wp_Mo_segment wp_Mo_segment_28 wp_Mo_fail
    rintro _ rfl
    rw [(hr.thr (v := 0)).2.2.2.2.2.1.1]
    refine rf_within (fun ha hb' => br_f (by decide) (rf_within (fun hc' hd' => ?_) (fun _ => cr_t rfl ?_))) (fun _ => br_t rfl ?_)
    · rw [i32_le] at ha hb' hc' hd'
      rw [i32_lt, i32_lt, i32_lt, i32_lt] at hb
      omega
    · rintro _ rfl; exact bad 1 (by decide)
    · rintro _ rfl; exact bad 1 (by decide)
  unfold wp_Law_segment wp_LogDisk_segment
  rw [show grf (0, 0) 7 = (18, 0) from rfl, show grf (18, 0) 0 = (19, 0) from rfl, show grf (18, 0) 1 = (20, 0) from rfl, g1, hL.2.2.2.2.2.2.1, hL.2.2.2.2.2.2.2.1]
  have hm1 : (nI od.length - 1 : Int32).toInt = (od.length : Int) - 1 := pk_sub_toInt (b := 1) (by omega) (by omega)
  refine ⟨fun h => ⟨rfl, bad' (Or.inl h)⟩, fun hv => ⟨fun hlt => ?_, fun hge => ⟨rfl, bad' (Or.inr (Or.inl ?_))⟩⟩⟩
  · obtain ⟨k, hk, rfl⟩ := nI_of hv
    rw [nI_ltI hk (by omega)] at hlt
    have hin : vp_in (nI k) 12 := vp_in_nI (by omega) (by omega)
    obtain ⟨q1, q2⟩ := g2 k hlt
    obtain ⟨o1, o2⟩ := h5.2.1 k hlt
    obtain ⟨o3, o4, o5, o6, o7⟩ := h5.2.2.2.1 k hlt
    rw [nI_clamp hk]
    refine ⟨fun hb => ⟨rfl, bad' (by rw [i32_lt, i32_lt, i32_lt, i32_lt]; omega)⟩, fun hw => ⟨hin, ok_in hL ?_⟩, fun hw => ⟨hin, ok_in hL ?_⟩⟩
    · subst hw
      rw [q1]
      obtain ⟨ok1, ok2⟩ := ok (nI (od.getD k 0))
      unfold wp_Mo_segment
      rintro _ rfl
      rw [ok2.2.2.2.2.2.1.1]
      refine rf_within (fun ha hb' => br_f (by decide) (rf_within (fun _ _ => cr_f (by decide) (cr_t rfl ?_)) (fun hb => absurd hb (by decide)))) (fun hb => ?_)
      · rw [show grf (30, 0) 31 = (45, 0) from rfl, hL.2.1.2.2.2.2.2.2.2.2.2.1, nI_clamp hk, ok2.2.2.2.2.2.1.2 k hlt]
        exact ⟨hin, ok1⟩
      · rw [i32_lt, i32_lt, hm1, nI_toInt hk] at hb; omega
    · subst hw
      rw [q2]
      obtain ⟨ok1, ok2⟩ := ok (nI (fo (od.getD k 0)))
      unfold wp_Mo_segment
      rintro _ rfl
      rw [ok2.2.2.2.2.2.1.1]
      refine rf_within (fun ha hb' => br_f (by decide) (rf_within (fun _ _ => cr_f (by decide) (cr_f (by decide) ?_)) (fun hb => absurd hb (by decide)))) (fun hb => ?_)
      · rw [show grf (30, 0) 31 = (45, 0) from rfl, hL.2.1.2.2.2.2.2.2.2.2.2.1, nI_clamp hk, ok2.2.2.2.2.2.1.2 k hlt]
        refine ⟨hin, rf_firstOf hL.2.1 ok2.1 (by omega) rfl o3 ?_⟩
        rw [o5]; exact ok1
      · rw [i32_lt, i32_lt, hm1, nI_toInt hk] at hb; omega
  · rw [i32_lt, nI_toInt (by omega)] at hge
    rw [i32_lt, hm1]; omega
theorem p_file {Ln : gI → Nat} {n : Nat} {S : gS} {K : gS → Prop} {v w : Int32} (h : INV Ln n S) (hn : n < 513) (hK : ∀ S', INV Ln (n + 1) S' → K S') :
    wp_Law_file Ln (fun r4 S5 => wp_Mo_file Ln (fun r7 S6 => pQ Ln K r4 r7 S6) (30, 0) v w S5) (0, 0) v w (60, 0) S := by
  obtain ⟨M, fc, F, tp, tm, vo, ti, vf, fh, sf, bs, bt, cd, la, di, od, fo, ei, kp, sl, T, nf, us, ri, en, hL, hc, hr, h1, h2, h3, h4, h5, h6⟩ := h
  obtain ⟨ok, bad⟩ := ro hn hK hL hc hr h1 h2 h3 h4 h5 h6
  have e4 : (4 : Int32).toInt = 4 := by decide
  have e0 : (0 : Int32).toInt = 0 := by decide
  have e15 : (15 : Int32).toInt = 15 := by decide
  have bad' : (v < 0 ∨ 15 < v ∨ w < 0 ∨ 4 < w) → wp_Mo_file Ln (fun r7 S6 => pQ Ln K 1 r7 S6) (30, 0) v w S := by
    intro hb
    unfold wp_Mo_file wp_Mo_file_24 wp_Mo_fail
    rintro _ rfl
    refine rf_within (fun ha hb' => br_f (by decide) (rf_within (fun hc' hd' => ?_) (fun _ => cr_t rfl ?_))) (fun _ => br_t rfl ?_)
    · rw [i32_le] at ha hb' hc' hd'
      rw [i32_lt, i32_lt, i32_lt, i32_lt] at hb
      omega
    · rintro _ rfl; exact bad 1 (by decide)
    · rintro _ rfl; exact bad 1 (by decide)
  unfold wp_Law_file wp_LogDisk_file
  refine c_isFile (fun f e hf => cr_f (by decide) ?_) (fun hb => cr_t rfl ⟨rfl, bad' (by rcases hb with h | h; exact Or.inl h; exact Or.inr (Or.inl h))⟩)
  subst e
  obtain ⟨z1, z2, z3⟩ := dk_size hc.1 (show f < 32 by omega)
  obtain ⟨y1, y2, y3⟩ := dk_size hc.1 (show 16 + f < 32 by omega)
  have lo := (dk_low hc.1 hf).1
  rw [show grf (0, 0) 1 = (10, 0) from rfl, hL.2.2.1, nI_clamp (by omega), show grf (10, 0) f = (1, f) from rfl, dkf1 hf, dkf2, z1, y1, lo, z2, y2]
  have i32 : vp_in (nI f) 32 := vp_in_nI (by omega) (by omega)
  have j32 : vp_in (nI (16 + f)) 32 := vp_in_nI (by omega) (by omega)
  have i16 : vp_in (nI f) 16 := vp_in_nI (by omega) (by omega)
  have inr : ∀ {A B : Prop} (P : gS → Int32 → Prop) (s : gS) (k : Nat), True := fun _ _ _ => trivial
  have go : ∀ k r, k ≤ 4 → w = nI k → (∀ S', rl M fc F tp tm vo ti sl fh sf bs bt cd la di od kp T nf us ri en S' → ∀ Q : Int32 → gS → Prop, Q r S' → (((3 ≤ w) → (((¬ w = 3) → (wp_Mo_file_89 Ln Q (grf (30, 0) 15) (16 + nI f) S')) ∧ ((w = 3) → (wp_Mo_file_89 Ln Q (grf (30, 0) 15) (nI f) S')))) ∧ ((¬ 3 ≤ w) → (((¬ w = 0) → (((¬ w = 1) → (vp_in (nI f) (Ln (grf (30, 0) 16)) ∧ (Q (S'.1 (grf (30, 0) 16) (nI f).toNatClampNeg) S'))) ∧ ((w = 1) → (vp_in (16 + nI f) (Ln (grf (30, 0) 14)) ∧ (Q (S'.1 (grf (30, 0) 14) (16 + nI f).toNatClampNeg) S'))))) ∧ ((w = 0) → (vp_in (nI f) (Ln (grf (30, 0) 14)) ∧ (Q (S'.1 (grf (30, 0) 14) (nI f).toNatClampNeg) S'))))))) →
      (vp_in 0 (Ln (60, 0)) ∧ ∀ S4 : gS, S4 = gsetL S (60, 0) (0 : Int32).toNatClampNeg r.toInt64 → wp_Mo_file Ln (fun r7 S6 => pQ Ln K 0 r7 S6) (30, 0) (nI f) w S4) := by
    intro k r hk hw hq
    refine ok_in hL ?_
    unfold wp_Mo_file
    rintro _ rfl
    refine rf_within (fun ha hb => br_f (by decide) (rf_within (fun _ _ => cr_f (by decide) (hq _ (ok r).2 _ (ok r).1)) (fun hb => ?_))) (fun hb => ?_)
    · rw [hw, i32_lt, i32_lt, nI_toInt (by omega)] at hb; omega
    · rw [i32_lt, i32_lt, nI_toInt (by omega)] at hb; omega
  refine ⟨i16, fun hb => ⟨rfl, bad' (by rw [i32_lt, i32_lt, i32_lt, i32_lt]; omega)⟩, fun hw => go 0 _ (by omega) hw fun S' hr' Q hq => ?_, fun hw => go 1 _ (by omega) hw fun S' hr' Q hq => ?_, fun hw => go 2 _ (by omega) hw fun S' hr' Q hq => ?_, fun hw => ⟨fun hd => go 3 _ (by omega) hw fun S' hr' Q hq => ?_, fun hd => go 3 _ (by omega) hw fun S' hr' Q hq => ?_⟩, fun hw => ⟨fun hd => go 4 _ (by omega) hw fun S' hr' Q hq => ?_, fun hd => go 4 _ (by omega) hw fun S' hr' Q hq => ?_⟩⟩
  all_goals
    subst hw
    obtain ⟨f1, f2⟩ := hr'.1.2.2.1
    rw [show grf (30, 0) 14 = (40, 0) from rfl, show grf (30, 0) 15 = (41, 0) from rfl, show grf (30, 0) 16 = (42, 0) from rfl, show (16 : Int32) = nI 16 from rfl, nI_add]
  · refine br_f (by decide) (cr_t rfl ?_)
    rw [hL.2.1.2.2.2.2.1, nI_clamp (by omega), (f1 f (by omega)).2.2.1]
    exact ⟨i32, hq⟩
  · refine br_f (by decide) (cr_f (by decide) (cr_t rfl ?_))
    rw [hL.2.1.2.2.2.2.1, nI_clamp (by omega), (f1 (16 + f) (by omega)).2.2.1]
    exact ⟨j32, hq⟩
  · refine br_f (by decide) (cr_f (by decide) (cr_f (by decide) ?_))
    rw [hL.2.1.2.2.2.2.2.2.1, nI_clamp (by omega), (f2 f hf).2.2.2.1]
    exact ⟨i16, hq⟩
  · refine br_t (by decide) (cr_t rfl ?_)
    unfold wp_Mo_file_89
    rw [hL.2.1.2.2.2.2.2.1, nI_clamp (by omega), (f1 f (by omega)).2.2.2]
    exact ⟨i32, br_t hd hq⟩
  · refine br_t (by decide) (cr_t rfl ?_)
    unfold wp_Mo_file_89
    rw [hL.2.1.2.2.2.2.2.1, nI_clamp (by omega), (f1 f (by omega)).2.2.2]
    exact ⟨i32, br_f hd hq⟩
  · refine br_t (by decide) (cr_f (by decide) ?_)
    unfold wp_Mo_file_89
    rw [hL.2.1.2.2.2.2.2.1, nI_clamp (by omega), (f1 (16 + f) (by omega)).2.2.2]
    exact ⟨j32, br_t hd hq⟩
  · refine br_t (by decide) (cr_f (by decide) ?_)
    unfold wp_Mo_file_89
    rw [hL.2.1.2.2.2.2.2.1, nI_clamp (by omega), (f1 (16 + f) (by omega)).2.2.2]
    exact ⟨j32, br_f hd hq⟩
theorem rf_byteIn {Ln : gI → Nat} {T : Nat → gFr} {nf us : Nat} {ri : Nat → List Nat} {F : gF} {S : gS} {f i : Nat} {Q : Int32 → gS → Prop} (hL : rfL Ln) (hD : rfD T nf us ri F S) (hf : f < 32) (hi : i < F.sz f)
    (hq : Q (nI ((F.1 f).getD i 0)) S) : ∃ m, wp_Mo_byteAt_42 Ln Q m (30, 0) (nI f) (nI i) 0 S := by
  have hsz := (hD.2.2.1.1 f hf).1
  obtain ⟨p1, p2⟩ := hD.2.2.2 f hf
  have hpl : F.sz f ≤ (rfC T (ri f)).length := p1.length_le
  have eqb : (F.1 f).getD i 0 = (rfC T (ri f)).getD i 0 := by
    obtain ⟨t, ht⟩ := p1
    rw [← ht, getD_app_l hi]
  rw [eqb] at hq
  have key := lp2 (fun m (k : Nat) (S' : gS) => wp_Mo_byteAt_42 Ln Q m (30, 0) (nI f) (nI (i - (rfC T ((ri f).take k)).length)) (nI k) S') (fun k S' => S' = S ∧ k < (ri f).length ∧ (rfC T ((ri f).take k)).length ≤ i) (fun k _ => (ri f).length - k) ?_ 0 S ⟨rfl, ?_, ?_⟩
  · rw [List.take_zero] at key
    exact key
  · rintro m k _ ⟨rfl, hk, hle⟩ ih
    obtain ⟨s1, s2, s3⟩ := rf_small hD hf hk
    obtain ⟨q1, q2, q3, q4⟩ := rf_row hD hf hk
    have hin : vp_in (nI (330 * f + k)) 10560 := vp_in_nI (by omega) (by omega)
    unfold wp_Mo_byteAt_42
    rw [show grf (30, 0) 12 = (38, 0) from rfl, hL.2.2.1, show (330 : Int32) = nI 330 from rfl, pk_mul, nI_add, nI_clamp (by omega), q1]
    refine ⟨hin, rf_space hL hD.1 q2 rfl ?_⟩
    rw [q1]
    have ec := rfC_take (T := T) hk
    have el : (rfC T ((ri f).take (k + 1))).length = (rfC T ((ri f).take k)).length + (frE (T ((ri f).getD k 0))).length := by rw [ec, List.length_append]
    refine pk_lt (i - (rfC T ((ri f).take k)).length) (frE (T ((ri f).getD k 0))).length (fun hlt => ⟨hin, rf_frameAt hL hD.1 q2 rfl rfl hlt ?_⟩) (fun hge => ⟨hin, rf_space hL hD.1 q2 rfl ?_⟩) rfl rfl (by omega) (by omega)
    · have : (rfC T (ri f)).getD i 0 = (frE (T ((ri f).getD k 0))).getD (i - (rfC T ((ri f).take k)).length) 0 := by
        obtain ⟨t, ht⟩ := rfC_pre T (ri f) (k + 1)
        rw [← ht, getD_app_l (by omega), ec, getD_app_r hle]
      rw [← this]; exact hq
    · rintro _ rfl _ rfl
      rw [pk_sub hge, nI_1]
      have hk1 : k + 1 < (ri f).length := by
        rcases Nat.lt_or_ge (k + 1) (ri f).length with z | z
        · exact z
        · rw [List.take_of_length_le z] at el
          omega
      have := ih (k + 1) _ ⟨rfl, hk1, by omega⟩ (by omega)
      rw [el] at this
      rw [show i - (rfC T ((ri f).take k)).length - (frE (T ((ri f).getD k 0))).length = i - ((rfC T ((ri f).take k)).length + (frE (T ((ri f).getD k 0))).length) by omega]
      exact this
  · rcases Nat.eq_zero_or_pos (ri f).length with z | z
    · rw [List.eq_nil_of_length_eq_zero z] at hpl
      have : (rfC T []).length = 0 := rfl
      omega
    · exact z
  · rw [List.take_zero]; exact Nat.zero_le _
theorem p_byteAt {Ln : gI → Nat} {n : Nat} {S : gS} {K : gS → Prop} {v w : Int32} (h : INV Ln n S) (hn : n < 513) (hK : ∀ S', INV Ln (n + 1) S' → K S') :
    wp_Law_byteAt Ln (fun r4 S5 => wp_Mo_byteAt Ln (fun r7 S6 => pQ Ln K r4 r7 S6) (30, 0) v w S5) (0, 0) v w (60, 0) S := by
  obtain ⟨M, fc, F, tp, tm, vo, ti, vf, fh, sf, bs, bt, cd, la, di, od, fo, ei, kp, sl, T, nf, us, ri, en, hL, hc, hr, h1, h2, h3, h4, h5, h6⟩ := h
  obtain ⟨ok, bad⟩ := ro hn hK hL hc hr h1 h2 h3 h4 h5 h6
  have e0 : (0 : Int32).toInt = 0 := by decide
  have e15 : (15 : Int32).toInt = 15 := by decide
  have bad' : (v < 0 ∨ 15 < v ∨ w < 0 ∨ (∃ f, v = nI f ∧ f < 16 ∧ nI (F.sz f) ≤ w)) → wp_Mo_byteAt Ln (fun r7 S6 => pQ Ln K 1 r7 S6) (30, 0) v w S := by
    intro hb
    unfold wp_Mo_byteAt wp_Mo_byteAt_31 wp_Mo_fail
    rintro _ rfl
    refine rf_within (fun ha hb' => br_f (by decide) ?_) (fun _ => br_t rfl ?_)
    · rw [i32_le] at ha hb'
      obtain ⟨f, hf, rfl⟩ := nI_of (x := v) (by rw [i32_lt]; omega)
      rw [nI_toInt hf] at hb'
      have hf16 : f < 16 := by omega
      rw [show grf (30, 0) 14 = (40, 0) from rfl, hL.2.1.2.2.2.2.1, nI_clamp (by omega), gset_o (by simp), (hr.1.2.2.1.1 f (by omega)).2.2.1]
      refine ⟨vp_in_nI (by omega) (by omega), rf_within (fun hc' hd' => ?_) (fun _ => cr_t rfl ?_)⟩
      · have hz := (hr.1.2.2.1.1 f (by omega)).1
        have hm1 : (nI (F.sz f) - 1 : Int32).toInt = (F.sz f : Int) - 1 := pk_sub_toInt (b := 1) (by omega) (by omega)
        rw [i32_le] at hc' hd'
        rw [hm1] at hd'
        rcases hb with h | h | h | ⟨g, eg, hg, h⟩
        · rw [i32_lt, nI_toInt hf] at h; omega
        · rw [i32_lt, nI_toInt hf] at h; omega
        · rw [i32_lt] at h; omega
        · rw [nI_eq hf (by omega)] at eg
          subst eg
          rw [i32_le, nI_toInt (by omega)] at h; omega
      · rintro _ rfl; exact bad 1 (by decide)
    · rintro _ rfl; exact bad 1 (by decide)
  unfold wp_Law_byteAt wp_LogDisk_byteAt
  refine c_isFile (fun f e hf => br_f (by decide) ⟨fun hw => ⟨rfl, bad' (Or.inr (Or.inr (Or.inl hw)))⟩, fun hw => ?_⟩) (fun hb => br_t rfl ⟨rfl, bad' (by rcases hb with h | h; exact Or.inl h; exact Or.inr (Or.inl h))⟩)
  subst e
  obtain ⟨i, hi, rfl⟩ := nI_of hw
  have hz := (dk_sz hc.1 hL.1.2.1 (show f < 32 by omega)).2
  rw [show grf (0, 0) 1 = (10, 0) from rfl, hL.2.2.1, nI_clamp (by omega), show grf (10, 0) f = (1, f) from rfl, dkf1 hf, (dk_size hc.1 (show f < 32 by omega)).1]
  have i16 : vp_in (nI f) 16 := vp_in_nI (by omega) (by omega)
  refine ⟨i16, pk_lt i (F.sz f) (fun hlt => ⟨i16, dk_read hL.1 hc.1 hf rfl hi (ok_in hL ?_)⟩) (fun hge => ⟨rfl, bad' (Or.inr (Or.inr (Or.inr ⟨f, rfl, hf, nI_le hge hi⟩)))⟩) rfl rfl hi (by omega)⟩
  obtain ⟨ok1, ok2⟩ := ok (nI ((F.1 f).getD i 0))
  unfold wp_Mo_byteAt
  rintro _ rfl
  have hm1 : (nI (F.sz f) - 1 : Int32).toInt = (F.sz f : Int) - 1 := pk_sub_toInt (b := 1) (by omega) (by omega)
  refine rf_within (fun ha hb => br_f (by decide) ?_) (fun hb => ?_)
  · rw [show grf (30, 0) 14 = (40, 0) from rfl, hL.2.1.2.2.2.2.1, nI_clamp (by omega), (ok2.1.2.2.1.1 f (by omega)).2.2.1]
    refine ⟨vp_in_nI (by omega) (by omega), rf_within (fun _ _ => cr_f (by decide) (rf_byteIn hL.2.1 ok2.1 (by omega) hlt ok1)) (fun hb => ?_)⟩
    rw [i32_lt, i32_lt, hm1, nI_toInt hi] at hb; omega
  · rw [i32_lt, i32_lt, nI_toInt (by omega)] at hb; omega
