/-! calls that only look -/
theorem wS_cases {sf : Int32} {bs : Nat} {bt cd fc : Int32} {F : gF} {T : Nat → gFr} {ri : Nat → List Nat} (h : wS sf bs bt cd fc F T ri) : sf = -1 ∨ ∃ s j, 2 ≤ s ∧ s < 4 ∧ sf = nI s ∧ ri s = [j] ∧ (T j).so = 1 ∧ F.1 s = frE (T j) ∧ F.sz s = 20 + (T j).d.length := by
  obtain ⟨a, b⟩ := h
  rcases b with b | ⟨s, o, j, b1, b2, b3, b4, b5⟩
  · exact Or.inl b.1
  · refine Or.inr ⟨s, j, by omega, by omega, b2, b3, b4, ?_⟩
    have e := (a s (by omega) (by omega)).2.2.2.1
    have e2 : F.1 s = frE (T j) := by
      rw [e, b3]; unfold rfC; rw [List.flatMap_cons, List.flatMap_nil, List.append_nil]
    refine ⟨e2, ?_⟩
    show (F.1 s).length = _
    rw [e2, frE_len, frP_len, if_neg (by omega), if_pos b4, if_pos b4]
theorem ro {Ln : gI → Nat} {n : Nat} {S : gS} {K : gS → Prop} {M : Nat} {fc : Int32} {F : gF} {tp : List Nat} {tm vo : Int32} {ti : Nat} {vf : Int32} {fh : Nat} {sf : Int32} {bs : Nat} {bt cd : Int32} {la di : Nat} {od : List Nat} {fo : Nat → Nat} {ei : Nat → gEi} {kp : Nat → Int32} {sl : Nat} {T : Nat → gFr} {nf us : Nat} {ri : Nat → List Nat} {en : Nat → Nat}
    (hn : n < 513) (hK : ∀ S', INV Ln (n + 1) S' → K S') (hL : aL Ln M) (hc : cl M fc F tp tm vo ti vf fh sf bs bt cd la di od fo ei kp S) (hr : rl M fc F tp tm vo ti sl fh sf bs bt cd la di od kp T nf us ri en S)
    (h1 : wN n nf us tp ti la bs) (h2 : wV vf sl fh di kp) (h3 : wR n bs F T ri) (h4 : wS sf bs bt cd fc F T ri) (h5 : wO bs la F T ri od fo) (h6 : wE bs la T ri od fo en ei) :
    (∀ r : Int32, pQ Ln K 0 r (gset (gsetL S (60, 0) (0 : Int32).toNatClampNeg r.toInt64) (30, 0) 0 0) ∧ rl M fc F tp tm vo ti sl fh sf bs bt cd la di od kp T nf us ri en (gset (gsetL S (60, 0) (0 : Int32).toNatClampNeg r.toInt64) (30, 0) 0 0)) ∧
    (∀ c : Int32, c ≠ 0 → pQ Ln K c 0 (gset (gset S (30, 0) 0 0) (30, 0) 0 c)) := by
  have same : ∀ S' : gS, cl M fc F tp tm vo ti vf fh sf bs bt cd la di od fo ei kp S' → rl M fc F tp tm vo ti sl fh sf bs bt cd la di od kp T nf us ri en S' → K S' := fun S' a b => hK S' ⟨M, fc, F, tp, tm, vo, ti, vf, fh, sf, bs, bt, cd, la, di, od, fo, ei, kp, sl, T, nf, us, ri, en, hL, a, b, h1.up hn, h2, h3.up, h4, h5, h6⟩
  refine ⟨fun r => ?_, fun c h0 => pQ_ex (gset_s _ _ _ _) h0 (same _ (cl.lo ((loX.set (by simp)).tr (loX.set (by simp))) hc) hr.thr.thr)⟩
  have b := (rl.hi (S' := gsetL S (60, 0) (0 : Int32).toNatClampNeg r.toInt64) hiX.setL hr).thr (v := 0)
  exact ⟨pQ_ok hL (gset_s _ _ _ _) (out_s S r.toInt64) (same _ (cl.lo (loX.set (by simp)) hc.out) b), b⟩
theorem p_state {Ln : gI → Nat} {n : Nat} {S : gS} {K : gS → Prop} {w : Int32} (h : INV Ln n S) (hn : n < 513) (hK : ∀ S', INV Ln (n + 1) S' → K S') :
    wp_Law_state Ln (fun r4 S5 => wp_Mo_state Ln (fun r7 S6 => pQ Ln K r4 r7 S6) (30, 0) w S5) (0, 0) w (60, 0) S := by
  obtain ⟨M, fc, F, tp, tm, vo, ti, vf, fh, sf, bs, bt, cd, la, di, od, fo, ei, kp, sl, T, nf, us, ri, en, hL, hc, hr, h1, h2, h3, h4, h5, h6⟩ := h
  obtain ⟨ok, bad⟩ := ro hn hK hL hc hr h1 h2 h3 h4 h5 h6
  have e10 : (10 : Int32).toInt = 10 := by decide
  have e0 : (0 : Int32).toInt = 0 := by decide
  have hM := hL.1.2.1
  have hu := dk_uc hc.1
  have hsz : ∀ c, c < 32 → F.sz c ≤ 25600 := fun c hc' => (dk_sz hc.1 hM hc').2
  have i60 := in_60 hL
  have refr : ∀ k r, k ≤ 10 → w = nI k → (∀ S', rl M fc F tp tm vo ti sl fh sf bs bt cd la di od kp T nf us ri en S' → ∀ Q : Int32 → gS → Prop, Q r S' →
      (((5 ≤ w) → (((8 ≤ w) → (((¬ w = 8) → (((¬ w = 9) → (Q (S'.1 (30, 0) 33) S')) ∧ ((w = 9) → (wp_Mo_pagesUsed Ln (fun r10 S9 => Q r10 S9) (30, 0) S')))) ∧ ((w = 8) → (Q (S'.1 (30, 0) 30) S')))) ∧ ((¬ 8 ≤ w) → (((¬ w = 5) → (((¬ w = 6) → ((((S'.1 (30, 0) 29) = 0) → (Q 0 S')) ∧ ((¬ (S'.1 (30, 0) 29) = 0) → (Q 1 S')))) ∧ ((w = 6) → (Q (S'.1 (30, 0) 27) S')))) ∧ ((w = 5) → (((0 ≤ (S'.1 (30, 0) 26)) → (vp_in (330 * (S'.1 (30, 0) 26)) (Ln (grf (30, 0) 12)) ∧ (vp_in (S'.1 (grf (30, 0) 12) (330 * (S'.1 (30, 0) 26)).toNatClampNeg) (Ln (grf (30, 0) 9)) ∧ (Q (S'.1 (grf (30, 0) 9) (S'.1 (grf (30, 0) 12) (330 * (S'.1 (30, 0) 26)).toNatClampNeg).toNatClampNeg) S')))) ∧ ((¬ 0 ≤ (S'.1 (30, 0) 26)) → (Q 0 S')))))))) ∧ ((¬ 5 ≤ w) → (((¬ w = 0) → (((¬ w = 1) → (((¬ w = 2) → (((¬ w = 3) → (Q (S'.1 (30, 0) 25) S')) ∧ ((w = 3) → (Q (S'.1 (30, 0) 24) S')))) ∧ ((w = 2) → (Q (S'.1 (30, 0) 23) S')))) ∧ ((w = 1) → (Q (S'.1 (30, 0) 20) S')))) ∧ ((w = 0) → (Q (S'.1 (30, 0) 19) S')))))) →
      (vp_in 0 (Ln (60, 0)) ∧ ∀ S4 : gS, S4 = gsetL S (60, 0) (0 : Int32).toNatClampNeg r.toInt64 → wp_Mo_state Ln (fun r7 S6 => pQ Ln K 0 r7 S6) (30, 0) w S4) := by
    intro k r hk hw hq
    refine ⟨i60, ?_⟩
    rintro _ rfl
    unfold wp_Mo_state
    rintro _ rfl
    refine rf_within (fun ha hb => cr_f (by decide) ?_) (fun hbad => ?_)
    · exact hq _ (ok r).2 _ (ok r).1
    · rw [hw, i32_lt, i32_lt, nI_toInt (by omega)] at hbad; omega
  unfold wp_Law_state wp_LogDisk_state
  refine ⟨fun hbad => ⟨rfl, ?_⟩, fun hw => ?_, fun hw => ?_, fun hw => ?_, fun hw => ?_, fun hw => ?_, fun hw => ?_, fun hw => ?_, fun hw => ?_, fun hw => ?_, fun hw => ?_, fun hw => ?_⟩
  · unfold wp_Mo_state
    rintro _ rfl
    refine rf_within (fun ha hb => ?_) (fun _ => cr_t rfl ?_)
    · rw [i32_le] at ha hb; omega
    · unfold wp_Mo_fail
      rintro _ rfl
      exact bad 1 (by decide)
  · refine refr 0 _ (by omega) hw (fun S' hr' Q hq => ?_)
    subst hw
    refine br_f (by decide) (cr_t rfl ?_)
    rw [hr'.2.2.1.1]; rw [show grf (0, 0) 5 = (16, 0) from rfl, hc.2.2.1.1] at hq; exact hq
  · refine refr 1 _ (by omega) hw (fun S' hr' Q hq => ?_)
    subst hw
    refine br_f (by decide) (cr_f (by decide) (cr_t rfl ?_))
    rw [hr'.2.2.1.2.1]; rw [show grf (0, 0) 5 = (16, 0) from rfl, hc.2.2.1.2.1] at hq; exact hq
  · refine refr 2 _ (by omega) hw (fun S' hr' Q hq => ?_)
    subst hw
    refine br_f (by decide) (cr_f (by decide) (cr_f (by decide) (cr_t rfl ?_)))
    rw [hr'.2.2.2.1.2.1]; rw [show grf (0, 0) 6 = (17, 0) from rfl, hc.2.2.2.1.2.1] at hq; exact hq
  · refine refr 3 _ (by omega) hw (fun S' hr' Q hq => ?_)
    subst hw
    refine br_f (by decide) (cr_f (by decide) (cr_f (by decide) (cr_f (by decide) (cr_t rfl ?_))))
    rw [hr'.2.2.2.1.2.2.1]; rw [show grf (0, 0) 6 = (17, 0) from rfl, hc.2.2.2.1.2.2.1] at hq; exact hq
  · refine refr 4 _ (by omega) hw (fun S' hr' Q hq => ?_)
    subst hw
    refine br_f (by decide) (cr_f (by decide) (cr_f (by decide) (cr_f (by decide) (cr_f (by decide) ?_))))
    rw [hr'.2.2.2.1.2.2.2]; rw [show grf (0, 0) 6 = (17, 0) from rfl, hc.2.2.2.1.2.2.2] at hq; exact hq
  · unfold wp_LogDisk_snapshotBytes
    rw [show grf (0, 0) 6 = (17, 0) from rfl, hc.2.2.2.1.1]
    rcases wS_cases h4 with e | ⟨s, j, s1, s2, e, s3, s4, s5, s6⟩
    · rw [e]
      refine cr_t rfl (refr 5 0 (by omega) hw (fun S' hr' Q hq => ?_))
      subst hw
      refine br_t (by decide) (br_f (by decide) (cr_t rfl ?_))
      rw [hr'.2.2.2.1.1, e]
      exact br_f (by decide) hq
    · rw [e]
      have hz := hsz s (by omega)
      refine cr_f (fun z => ?_) (c_file (P := fun g => vp_in 0 (Ln (60, 0)) ∧ ∀ S4 : gS, S4 = gsetL S (60, 0) (0 : Int32).toNatClampNeg (S.1 (grf g 1) 2 - 20).toInt64 → wp_Mo_state Ln (fun r7 S6 => pQ Ln K 0 r7 S6) (30, 0) w S4) (S := S) hL rfl (by omega) ?_)
      · have : (nI s).toInt = (-1 : Int32).toInt := by rw [z]
        rw [nI_toInt (by omega)] at this
        have : (-1 : Int32).toInt = -1 := by decide
        omega
      rw [dkf1 (by omega), (dk_size hc.1 (by omega)).1, show (20 : Int32) = nI 20 from rfl, pk_sub (by omega), s6]
      refine refr 5 _ (by omega) hw (fun S' hr' Q hq => ?_)
      subst hw
      refine br_t (by decide) (br_f (by decide) (cr_t rfl ?_))
      rw [hr'.2.2.2.1.1, e]
      refine br_t (nI_pos' (by omega)) ?_
      obtain ⟨r1, r2, r3, r4⟩ := rf_row hr'.1 (c := s) (k := 0) (by omega) (by rw [s3]; exact Nat.one_pos)
      rw [s3, Nat.add_zero] at r1
      rw [s3] at r2
      have ej : ([j] : List Nat).getD 0 0 = j := rfl
      rw [ej] at r1 r2
      rw [show grf (30, 0) 12 = (38, 0) from rfl, show grf (30, 0) 9 = (36, 0) from rfl, hL.2.1.2.2.1, hL.2.1.1 36 (by omega) (by omega), show (330 : Int32) = nI 330 from rfl, pk_mul, nI_clamp (by omega), r1, nI_clamp (by omega), (rf_fr hr'.1.1 r2).2.2.2.2]
      refine ⟨vp_in_nI (by omega) (by omega), vp_in_nI (by omega) (by omega), ?_⟩
      rw [show 20 + (T j).d.length - 20 = (T j).d.length by omega] at hq
      exact hq
  · refine refr 6 _ (by omega) hw (fun S' hr' Q hq => ?_)
    subst hw
    refine br_t (by decide) (br_f (by decide) (cr_f (by decide) (cr_t rfl ?_)))
    rw [hr'.2.2.2.2.1.2.2.1]; rw [hc.2.2.2.2.1.2.1] at hq; exact hq
  · rw [hc.2.2.2.2.1.2.2]
    refine ⟨fun hd => ?_, fun hd => ?_⟩
    · refine refr 7 _ (by omega) hw (fun S' hr' Q hq => ?_)
      subst hw
      refine br_t (by decide) (br_f (by decide) (cr_f (by decide) (cr_f (by decide) ?_)))
      rw [hr'.2.2.2.2.1.2.2.2]; exact br_t hd hq
    · refine refr 7 _ (by omega) hw (fun S' hr' Q hq => ?_)
      subst hw
      refine br_t (by decide) (br_f (by decide) (cr_f (by decide) (cr_f (by decide) ?_)))
      rw [hr'.2.2.2.2.1.2.2.2]; exact br_f hd hq
  · refine refr 8 _ (by omega) hw (fun S' hr' Q hq => ?_)
    subst hw
    refine br_t (by decide) (br_t (by decide) (cr_t rfl ?_))
    rw [hr'.2.2.2.2.2.1.1]; rw [show grf (0, 0) 7 = (18, 0) from rfl, hc.2.2.2.2.2.1.1] at hq; exact hq
  · unfold wp_Pages_used
    rw [show grf (0, 0) 0 = (6, 0) from rfl, show grf (6, 0) 2 = (9, 0) from rfl, hL.1.2.2.2.2.1, hu.1]
    have e : Int32.ofNat M - nI (dkU M F) = nI (dkSum (dkW F) 16) := by
      rw [show Int32.ofNat M = nI M from rfl, pk_sub (by omega)]; congr 1; omega
    rw [e]
    refine refr 9 _ (by omega) hw (fun S' hr' Q hq => ?_)
    subst hw
    refine br_t (by decide) (br_t (by decide) (cr_f (by decide) (cr_t rfl ?_)))
    exact rf_pagesUsed hL.2.1 hr'.1.2.2.1 hq
  · refine refr 10 _ (by omega) hw (fun S' hr' Q hq => ?_)
    subst hw
    refine br_t (by decide) (br_t (by decide) (cr_f (by decide) (cr_f (by decide) ?_)))
    rw [hr'.2.1.1]; rw [show grf (0, 0) 3 = (12, 0) from rfl, hc.2.1.1] at hq; exact hq
