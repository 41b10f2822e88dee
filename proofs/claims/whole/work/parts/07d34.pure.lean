theorem c_lastFile {Ln : gI → Nat} {M : Nat} {od : List Nat} {fo : Nat → Nat} {S : gS} {Q : Int32 → gS → Prop} (hL : aL Ln M) (hG : cG od fo S) (h12 : od.length ≤ 12) (h0 : od.length = 0 → Q (-1 : Int32) S) (h1 : 0 < od.length → Q (nI (od.getD (od.length - 1) 0)) S) : wp_Segments_lastFile Ln Q (18, 0) S := by
  obtain ⟨g1, g2⟩ := hG
  unfold wp_Segments_lastFile
  rw [g1, show grf (18, 0) 0 = (19, 0) from rfl, hL.2.2.2.2.2.2.1]
  refine (pk_eq od.length 0 h0 (fun h => ?_) rfl rfl (by omega) (by omega)) |> fun h => ⟨h.2, h.1⟩
  rw [show (1 : Int32) = nI 1 from rfl, pk_sub (by omega), nI_clamp (by omega), (g2 _ (show od.length - 1 < od.length by omega)).1]
  exact ⟨vp_in_nI (by omega) (by omega), h1 (by omega)⟩
theorem c_needsNew {Ln : gI → Nat} {M : Nat} {F : gF} {od : List Nat} {fo : Nat → Nat} {S : gS} {Q : Int32 → gS → Prop} (hL : aL Ln M) (hd : dk M F S) (hG : cG od fo S) (h12 : od.length ≤ 12) (hof : ∀ k, k < od.length → 4 ≤ od.getD k 0 ∧ od.getD k 0 < 16)
    (h1 : (0 < od.length → 8000 < F.sz (od.getD (od.length - 1) 0)) → Q 1 S) (h0 : 0 < od.length → F.sz (od.getD (od.length - 1) 0) ≤ 8000 → Q 0 S) : wp_LogDisk_needsNewSegment Ln Q (0, 0) S := by
  unfold wp_LogDisk_needsNewSegment wp_LogDisk_needsNewSegment_34
  rw [show grf (0, 0) 7 = (18, 0) from rfl, hG.1]
  refine pk_eq od.length 0 (fun h => h1 (fun z => by omega)) (fun h => ?_) rfl rfl (by omega) (by omega)
  refine c_lastFile hL hG h12 (fun z => absurd z h) (fun hp => ?_)
  have hf := hof (od.length - 1) (by omega)
  have hz := (dk_sz hd hL.1.2.1 (show od.getD (od.length - 1) 0 < 32 by omega)).2
  rw [show grf (0, 0) 1 = (10, 0) from rfl, hL.2.2.1, nI_clamp (by omega), show grf (10, 0) (od.getD (od.length - 1) 0) = (1, od.getD (od.length - 1) 0) from rfl, dkf1 hf.2, (dk_size hd (show od.getD (od.length - 1) 0 < 32 by omega)).1]
  exact ⟨vp_in_nI (by omega) (by omega), pk_le (F.sz (od.getD (od.length - 1) 0)) 8000 (fun h => h0 hp h) (fun h => h1 fun _ => h) rfl rfl (by omega) (by omega)⟩
theorem c_lowest {Ln : gI → Nat} {M : Nat} {F : gF} {S : gS} {Q : Int32 → gS → Prop} (hL : aL Ln M) (hd : dk M F S) (h1 : ∀ f, 4 ≤ f → f < 16 → F.th f = 0 → (∀ g, 4 ≤ g → g < f → F.th g ≠ 0) → Q (nI f) S) (h0 : (∀ g, 4 ≤ g → g < 16 → F.th g ≠ 0) → Q (-1 : Int32) S) : wp_LogDisk_lowestFreeFile Ln Q (0, 0) S := by
  unfold wp_LogDisk_lowestFreeFile
  refine pk_loop (fun fu k S' => wp_LogDisk_lowestFreeFile_2 Ln Q fu (0, 0) (nI k) S') (fun k S' => S' = S ∧ 4 ≤ k ∧ ∀ g, 4 ≤ g → g < k → F.th g ≠ 0) 16 4 S (by omega) ⟨rfl, by omega, fun g a b => by omega⟩ ?_ ?_
  · rintro m _ ⟨rfl, -, hg⟩
    unfold wp_LogDisk_lowestFreeFile_2
    exact br_t (by decide) (h0 hg)
  · rintro m k _ hk ⟨rfl, hk4, hg⟩ ih
    unfold wp_LogDisk_lowestFreeFile_2
    obtain ⟨z1, z2, z3⟩ := dk_size hd (show k < 32 by omega)
    rw [show grf (0, 0) 1 = (10, 0) from rfl, hL.2.2.1, nI_clamp (by omega), show grf (10, 0) k = (1, k) from rfl, dkf1 hk, z2]
    refine br_f (nI_ge (b := 16) hk (by omega)) ⟨vp_in_nI (by omega) (by omega), (pk_eq (F.th k) 0 (fun h => h1 k hk4 hk h hg) (fun h => ?_) rfl rfl (by omega) (by omega)) |> fun h => ⟨h.2, h.1⟩⟩
    rintro _ rfl
    rw [nI_1]
    refine ih _ ⟨rfl, by omega, fun g a b => ?_⟩
    by_cases e : g = k
    · subst e; exact h
    · exact hg g a (by omega)
theorem r_free {Ln : gI → Nat} {F : gF} {S : gS} {Q : Int32 → gS → Prop} (hL : rfL Ln) (hF : rfF F S) (h1 : ∀ f, 4 ≤ f → f < 16 → F.th f = 0 → (∀ g, 4 ≤ g → g < f → F.th g ≠ 0) → Q (nI f) S) (h0 : (∀ g, 4 ≤ g → g < 16 → F.th g ≠ 0) → Q (nI 16) S) : wp_Mo_freeFile Ln Q (30, 0) S := by
  unfold wp_Mo_freeFile
  refine pk_loop (fun fu k S' => wp_Mo_freeFile_2 Ln Q fu (30, 0) (nI k) S') (fun k S' => S' = S ∧ 4 ≤ k ∧ ∀ g, 4 ≤ g → g < k → F.th g ≠ 0) 16 4 S (by omega) ⟨rfl, by omega, fun g a b => by omega⟩ ?_ ?_
  · rintro m _ ⟨rfl, -, hg⟩
    unfold wp_Mo_freeFile_2
    exact br_t (by decide) (h0 hg)
  · rintro m k _ hk ⟨rfl, hk4, hg⟩ ih
    unfold wp_Mo_freeFile_2
    obtain ⟨z1, z2, z3, z4⟩ := hF.1 k (by omega)
    rw [show grf (30, 0) 15 = (41, 0) from rfl, hL.2.2.2.2.2.1, nI_clamp (by omega), z4]
    refine br_f (nI_ge (b := 16) hk (by omega)) ⟨vp_in_nI (by omega) (by omega), pk_eq (F.th k) 0 (fun h => h1 k hk4 hk h hg) (fun h => ?_) rfl rfl (by omega) (by omega)⟩
    rintro _ rfl
    rw [nI_1]
    refine ih _ ⟨rfl, by omega, fun g a b => ?_⟩
    by_cases e : g = k
    · subst e; exact h
    · exact hg g a (by omega)
theorem dkNd_mono {F : gF} {f a b : Nat} (h : a ≤ b) : dkNd F f a ≤ dkNd F f b := by
  unfold dkNd
  have := dkP_le (show F.sz f + a ≤ F.sz f + b by omega)
  omega
theorem tl_eq {bs la : Nat} {T : Nat → gFr} {ri : Nat → List Nat} {od : List Nat} {fo : Nat → Nat} {en : Nat → Nat} {ei : Nat → gEi} {bt : Int32} {i : Nat} (h6 : wE bs la T ri od fo en ei) (hi : i ≤ la) : (if bs < i then (ei i).2.2.1 else bt) = (if bs < i then (T (en i)).b else bt) := by
  by_cases h : bs < i
  · rw [if_pos h, if_pos h]
    obtain ⟨q, k, b1, b2, b3, b4, b5, b6⟩ := h6 i h hi
    rw [b6]
  · rw [if_neg h, if_neg h]
theorem en_lt {bs la nf : Nat} {T : Nat → gFr} {ri : Nat → List Nat} {od : List Nat} {fo : Nat → Nat} {en : Nat → Nat} {ei : Nat → gEi} {i : Nat} (hl : rlt nf ri) (ho : ∀ k, k < od.length → 4 ≤ od.getD k 0 ∧ od.getD k 0 < 16) (h6 : wE bs la T ri od fo en ei) (hi : i ≤ la) (h : bs < i) : en i < nf := by
  obtain ⟨q, k, b1, b2, b3, b4, b5, b6⟩ := h6 i h hi
  rw [b5]
  exact hl _ (by have := ho q b1; omega) k b3
theorem p_append {Ln : gI → Nat} {n : Nat} {S : gS} {K : gS → Prop} {v w : Int32} (h : INV Ln n S) (hn : n < 513) (hK : ∀ S', INV Ln (n + 1) S' → K S') :
    wp_Law_append Ln (fun r4 S5 => wp_Mo_append Ln (fun r7 S6 => pQ Ln K r4 r7 S6) (30, 0) v w S5) (0, 0) v w (60, 0) S := by
  obtain ⟨M, fc, F, tp, tm, vo, ti, vf, fh, sf, bs, bt, cd, la, di, od, fo, ei, kp, sl, T, nf, us, ri, en, hL, hc, hr, h1, h2, h3, h4, h5, h6⟩ := h
  have hN := h1
  unfold wN at hN
  have hM := hL.1.2.1
  have hu := dk_uc hc.1
  have hus : dkSum (dkW F) 16 ≤ M := by omega
  have htp : tp.length ≤ 4096 := hc.2.1.2.1
  obtain ⟨hc0, hB0⟩ := hc.tape
  have h1e : wN (n + 1) nf us [] ti la bs := by unfold wN; simp; omega
  have htl := tl_eq (bt := bt) h6 (Nat.le_refl la)
  have hen : bs < la → en la < nf := en_lt hr.1.lt h5.2.1 h6 (Nat.le_refl la)
  generalize htd : (if bs < la then (T (en la)).b else bt) = tl at *
  -- the reference up to its tests
  have nle : ∀ {x y : Int32}, ¬ x ≤ y → y < x := fun {x y} h => by rw [i32_le] at h; rw [i32_lt]; omega
  have bad : ∀ (c : Int32), c ≠ 0 → ∀ S', hiX S S' → cl M fc F [] tm vo ti vf fh sf bs bt cd la di od fo ei kp S' → pQ Ln K c 0 (gset (gset (gset S' (30, 0) 0 0) (30, 0) 33 0) (30, 0) 0 c) := by
    intro c h0 S' hx hcl
    refine pQ_ex (gset_s _ _ _ _) h0 (hK _ ⟨M, fc, F, [], tm, vo, ti, vf, fh, sf, bs, bt, cd, la, di, od, fo, ei, kp, sl, T, nf, us, ri, en, hL, cl.lo (((loX.set (by simp)).tr (loX.set (by simp))).tr (loX.set (by simp))) hcl, ?_, h1e, h2, h3.up, h4, h5, h6⟩)
    exact ((rl.hi hx hr).thr.tape).1.thr
  have rbad1 : (v < tl ∨ 1000000 < v ∨ w < 0 ∨ 2 < w) → ∀ S', hiX S S' → cl M fc F [] tm vo ti vf fh sf bs bt cd la di od fo ei kp S' → wp_Mo_append Ln (fun r7 S6 => pQ Ln K 1 r7 S6) (30, 0) v w S' := by
    intro hb S' hx hcl
    have hrS := (rl.hi hx hr).thr (v := 0)
    have hr3 := hrS.tape.1
    unfold wp_Mo_append wp_Mo_append_41 wp_Mo_fail
    rintro _ rfl _ rfl _ rfl
    rw [hr3.2.2.2.2.1.2.2.1]
    refine r_termOf hL hr3.2.2.2.1 hr3.1.1 hr3.2.2.2.2.2.2.1 (by omega) (by omega) rfl (by omega) (Nat.le_refl _) hen ?_
    rw [htd]
    refine rf_within (fun a b => br_f (by decide) (rf_within (fun c d => ?_) (fun _ => cr_t rfl ?_))) (fun _ => br_t rfl ?_)
    · rw [i32_le] at a b c d
      rw [i32_lt, i32_lt, i32_lt, i32_lt] at hb
      omega
    · rintro _ rfl; exact bad 1 (by decide) S' hx hcl
    · rintro _ rfl; exact bad 1 (by decide) S' hx hcl
  unfold wp_Law_append wp_LogDisk_append wp_Tape_handOver
  rw [show grf (0, 0) 3 = (12, 0) from rfl, hc.2.1.1]
  rintro _ rfl _ rfl
  have hx0 : hiX S (gset S (12, 0) 1 0) := hiX.set (by simp)
  rw [hc0.2.2.2.2.1.2.1]
  refine c_termAt hL hc0.2.2.2.1 hc0.2.2.2.2.1 hc0.2.2.2.2.2.2.1 (by omega) (by omega) rfl (Nat.le_refl _) ?_
  rw [htl]
  refine ⟨fun hb => Or.inl ⟨rfl, rbad1 (Or.inl hb) _ hx0 hc0⟩, fun g1 => ⟨fun g2 => ⟨fun hb => Or.inl ⟨rfl, rbad1 (Or.inr (Or.inr (Or.inl hb))) _ hx0 hc0⟩, fun g3 => ⟨fun g4 => ?_, fun hb => Or.inl ⟨rfl, rbad1 (Or.inr (Or.inr (Or.inr (nle hb)))) _ hx0 hc0⟩⟩⟩, fun hb => Or.inl ⟨rfl, rbad1 (Or.inr (Or.inl (nle hb))) _ hx0 hc0⟩⟩⟩
  obtain ⟨ki, hki, rfl⟩ := nI_of2 (M := 2) (n := 2) (by decide) g3 g4
  -- the reference past its tests of the arguments
  have rgo : ∀ (c : Int32) S', hiX S S' → (∀ S3, rl M fc F [] tm vo ti sl fh sf bs bt cd la di od kp T nf us ri en S3 → rfB tp S3 → S3 = gset (gset S' (30, 0) 0 0) (30, 0) 33 0 →
      (((¬ (nI la - nI bs = 300)) → ((((nI od.length : Int32) ≤ 0) → (wp_Mo_append_101 Ln (fun r7 S6 => pQ Ln K c r7 S6) (30, 0) v (nI ki) (nI tp.length) S3)) ∧ ((¬ (nI od.length : Int32) ≤ 0) → (vp_in ((nI od.length : Int32) - 1) (Ln (grf (30, 0) 31)) ∧ (vp_in (S3.1 (grf (30, 0) 31) ((nI od.length : Int32) - 1).toNatClampNeg) (Ln (grf (30, 0) 14)) ∧ (((8000 < (S3.1 (grf (30, 0) 14) (S3.1 (grf (30, 0) 31) ((nI od.length : Int32) - 1).toNatClampNeg).toNatClampNeg)) → (wp_Mo_append_101 Ln (fun r7 S6 => pQ Ln K c r7 S6) (30, 0) v (nI ki) (nI tp.length) S3)) ∧ ((¬ 8000 < (S3.1 (grf (30, 0) 14) (S3.1 (grf (30, 0) 31) ((nI od.length : Int32) - 1).toNatClampNeg).toNatClampNeg)) → (wp_Mo_append_102 Ln (fun r7 S6 => pQ Ln K c r7 S6) (30, 0) v (nI ki) (nI tp.length) 1 S3)))))))) ∧ ((nI la - nI bs = 300) → (wp_Mo_fail Ln (fun r43 S42 => pQ Ln K c r43 S42) (30, 0) 2 S3)))) →
      wp_Mo_append Ln (fun r7 S6 => pQ Ln K c r7 S6) (30, 0) v (nI ki) S' := by
    intro c S' hx hgo
    have hrS := (rl.hi hx hr).thr (v := 0)
    obtain ⟨hr3, hB3⟩ := hrS.tape
    have hh := hgo _ hr3 hB3 rfl
    unfold wp_Mo_append
    rintro _ rfl
    rw [hrS.2.1.1]
    rintro _ rfl _ rfl
    rw [hr3.2.2.2.2.1.2.2.1]
    refine r_termOf hL hr3.2.2.2.1 hr3.1.1 hr3.2.2.2.2.2.2.1 (by omega) (by omega) rfl (by omega) (Nat.le_refl _) hen ?_
    rw [htd]
    refine rf_within (fun a b => br_f (by decide) (rf_within (fun c d => cr_f (by decide) ?_) (fun hb => ?_))) (fun hb => ?_)
    · rw [hr3.2.2.2.2.1.2.2.1, hr3.2.2.2.1.2.1, hr3.2.2.2.2.2.1.1]
      exact hh
    · rcases hb with hb | hb
      · exact absurd hb g3
      · rw [i32_lt] at hb; rw [i32_le] at g4; omega
    · rcases hb with hb | hb
      · exact absurd hb g1
      · rw [i32_lt] at hb; rw [i32_le] at g2; omega
  have esub : nI la - nI bs = nI (la - bs) := pk_sub (by omega)
  rw [hc0.2.2.2.2.1.2.1, show grf (0, 0) 6 = (17, 0) from rfl, hc0.2.2.2.1.2.1, esub]
  refine pk_lt (la - bs) 300 (fun hlt => ?_) (fun hge => Or.inr (Or.inl ⟨rfl, ?_⟩)) rfl rfl (by omega) (by omega)
  rotate_left
  · refine rgo 2 _ hx0 (fun S3 hr3 hB3 hS3 => ?_)
    rw [esub]
    refine cr_t (by rw [show la - bs = 300 by omega]; rfl) ?_
    unfold wp_Mo_fail
    rintro _ rfl
    rw [hS3]
    exact bad 2 (by decide) _ hx0 hc0
  have hne300 : ¬ (nI la - nI bs = 300) := by
    rw [esub, show (300 : Int32) = nI 300 from rfl, nI_eq (by omega) (by omega)]; omega
  have hof := h5.2.1
  have h12 := h5.1
  -- the last step, on both sides
  have fin : ∀ (F1 : gF) (T1 : Nat → gFr) (nf1 : Nat) (ri1 : Nat → List Nat) (od1 : List Nat) (fo1 : Nat → Nat) (f : Nat) (S1 : gS), hiX S S1 → cl M fc F1 [] tm vo ti vf fh sf bs bt cd la di od1 fo1 ei kp S1 → cB tp S1 → nf1 ≤ nf + 1 → 0 < od1.length → f = od1.getD (od1.length - 1) 0 →
      rlt nf1 ri1 → wR n bs F1 T1 ri1 → wS sf bs bt cd fc F1 T1 ri1 → wO bs la F1 T1 ri1 od1 fo1 → wE bs la T1 ri1 od1 fo1 en ei → F1.sz f ≤ 8000 → dkP (F1.sz f + (25 + tp.length)) ≤ 400 → dkNd F1 f (25 + tp.length) ≤ dkU M F1 →
      (∀ S2, hiX S S2 → S2.2 (60, 0) 0 = (nI (la + 1)).toInt64 → (∀ S3, loX S2 S3 → S3.1 (30, 0) 0 = 0 → rl M fc (dkF_wr F1 f (frE (3, nI (la + 1), v, nI ki, tp))) [] tm vo ti sl fh sf bs bt cd (la + 1) 1 od1 kp (va_up T1 nf1 (3, nI (la + 1), v, nI ki, tp)) (nf1 + 1) (us + tp.length) (va_up ri1 f (ri1 f ++ [nf1])) (va_up en (la + 1) nf1) S3 → pQ Ln K 0 (nI (la + 1)) S3) → wp_Mo_append Ln (fun r7 S6 => pQ Ln K 0 r7 S6) (30, 0) v (nI ki) S2) →
      wp_LogDisk_append_170 Ln (fun r3 S1 => vp_in 0 (Ln (60, 0)) ∧ (∀ S4 : gS, S4 = gsetL S1 (60, 0) (0 : Int32).toNatClampNeg (r3.toInt64) → (wp_Mo_append Ln (fun r7 S6 => pQ Ln K 0 r7 S6) (30, 0) v (nI ki) S4))) (fun E S2 => (E = "java/lang/IllegalArgumentException" ∧ (wp_Mo_append Ln (fun r7 S6 => pQ Ln K 1 r7 S6) (30, 0) v (nI ki) S2)) ∨ (E = "java/lang/IllegalStateException" ∧ (wp_Mo_append Ln (fun r7 S6 => pQ Ln K 2 r7 S6) (30, 0) v (nI ki) S2)) ∨ (E = "java/lang/UnsupportedOperationException" ∧ (wp_Mo_append Ln (fun r7 S6 => pQ Ln K 3 r7 S6) (30, 0) v (nI ki) S2))) (0, 0) v (nI ki) (nI tp.length) (nI f) S1 := by
    intro F1 T1 nf1 ri1 od1 fo1 f S1 hx1 hc1 hB1 hnf1 hod1 hfe hD1 w3 w4 w5 w6 hsz hP hNd hre
    obtain ⟨e1, e2, e3, e4, e5, e6, e7⟩ := wf_entry (E := frE (3, nI (la + 1), v, nI ki, tp)) (q := ki) (te := v) (ki := nI ki) (ds := tp) (by omega) hod1 hfe (by omega) (by omega) rfl hD1 w3 w4 w5 w6
    unfold wp_LogDisk_append_170
    refine c_entry hL hc1 hB1 (by omega) (by omega) e2 rfl rfl hP hNd ?_
    intro S2 hx2 hc2
    rintro _ rfl
    have hc3 : cl M fc (dkF_wr F1 f (frE (3, nI (la + 1), v, nI ki, tp))) [] tm vo ti vf fh sf bs bt cd (la + 1) 1 od1 fo1 (va_up ei (la + 1) (f, F1.sz f, v, nI ki, tp.length)) kp (gset S2 (0, 0) 11 1) := by
      obtain ⟨p1, p2, p3, p4, p5, p6, p7, p8⟩ := hc2
      have o : ∀ i : gI, i.1 ≠ 0 → (gset S2 (0, 0) 11 1).1 i = S2.1 i := fun i hi => gset_o (by rintro rfl; simp at hi)
      refine ⟨dk_of (fun i a b => o i (by omega)) p1, p2.of (o _ (by simp)) (o _ (by simp)), p3.of (o _ (by simp)) rfl, p4.of (o _ (by simp)), ⟨?_, ?_, ?_⟩, p6.of (o _ (by simp)) (o _ (by simp)) (o _ (by simp)), p7.of (fun k a b => o _ (by simp; omega)), p8.of (o _ (by simp))⟩
      · rw [gset_n (Or.inr (by omega))]; exact p5.1
      · rw [gset_n (Or.inr (by omega))]; exact p5.2.1
      · rw [gset_s]; rfl
    rw [hc3.2.2.2.2.1.2.1]
    refine ok_in hL ?_
    refine hre _ ((hx1.tr hx2).tr (fun i hi => gset_o (by rintro rfl; simp at hi))) (out_s _ _) ?_
    intro S3 x3 t3 hr3
    refine pQ_ok hL t3 (by rw [x3.1]; exact out_s _ _) (hK S3 ⟨M, fc, _, [], tm, vo, ti, vf, fh, sf, bs, bt, cd, la + 1, 1, od1, fo1, _, kp, sl, _, nf1 + 1, us + tp.length, _, _, hL, cl.lo x3 hc3.out, hr3, ?_, ⟨h2.1, h2.2.1, h2.2.2.1, by omega, h2.2.2.2.2⟩, e4.up, e5, e6, e7⟩)
    unfold wN; simp; omega
  refine c_needsNew hL hc0.1 hc0.2.2.2.2.2.1 h12 hof (fun hop => cr_f (by decide) ?_ |> fun h => ⟨h.2, h.1⟩) (fun hod hle => br_t rfl ?_)
  · -- a new segment
    refine c_lowest hL hc0.1 (fun f hf4 hf hth hlow => ?_) (fun hall => ?_)
    · unfold wp_LogDisk_append_108
      refine br_f (by decide) ?_
      unfold wp_LogDisk_append_121
      rw [show (24 : Int32) + 25 = nI 49 from rfl, nI_add]
      rintro _ rfl
      obtain ⟨e1, e2, e3, e4, e5, e6, e7, e8⟩ := wf_open (E := frE (2, nI (la + 1), tl, 0, [])) (tl := tl) hf4 hf hth (by omega) (by omega) rfl hr.1 h3 h4 h5 h6
      have hsz0 : F.sz f = 0 := congrArg List.length e2
      have hsh0 : F.sh f = 0 := by have := (dk_low hc.1 hf).2.1; rw [hsz0, dkP_0] at this; omega
      have hnm1 : ¬ nI f = (-1 : Int32) := by
        intro z
        have : (nI f).toInt = (-1 : Int32).toInt := by rw [z]
        rw [nI_toInt (by omega)] at this
        have : (-1 : Int32).toInt = -1 := by decide
        omega
      -- the reference's file is the same one
      have rnew : ∀ (c : Int32) S', hiX S S' → (∀ S3, rl M fc F [] tm vo ti sl fh sf bs bt cd la di od kp T nf us ri en S3 → rfB tp S3 → S3 = gset (gset S' (30, 0) 0 0) (30, 0) 33 0 → wp_Mo_append_154 Ln (fun r7 S6 => pQ Ln K c r7 S6) (30, 0) v (nI ki) (nI tp.length) 0 (nI f) (30, 0) (nI f) (25 + nI tp.length) 24 S3) → wp_Mo_append Ln (fun r7 S6 => pQ Ln K c r7 S6) (30, 0) v (nI ki) S' := by
        intro c S' hx hgo
        refine rgo c S' hx (fun S3 hr3 hB3 hS3 => cr_f hne300 ?_)
        have h101 : wp_Mo_append_101 Ln (fun r7 S6 => pQ Ln K c r7 S6) (30, 0) v (nI ki) (nI tp.length) S3 := by
          unfold wp_Mo_append_101 wp_Mo_append_102
          refine br_t rfl ?_
          refine r_free hL.2.1 hr3.1.2.2.1 (fun f' a b cc d => ?_) (fun hall => absurd hth (hall f hf4 hf))
          have : f' = f := by
            rcases Nat.lt_trichotomy f' f with z | z | z
            · exact absurd cc (hlow f' a z)
            · exact z
            · exact absurd hth (d f hf4 z)
          subst this
          unfold wp_Mo_append_127
          refine br_f (fun z => ?_) (br_t rfl (hgo S3 hr3 hB3 hS3))
          have : (nI f').toInt = (16 : Int32).toInt := by rw [z]
          rw [nI_toInt (by omega)] at this
          have : (16 : Int32).toInt = 16 := by decide
          omega
        refine pk_le od.length 0 (fun _ => h101) (fun hpos => ?_) rfl rfl (by omega) (by omega)
        have hlf := hof (od.length - 1) (by omega)
        have hz := (hr3.1.2.2.1.1 (od.getD (od.length - 1) 0) (by omega))
        rw [show (1 : Int32) = nI 1 from rfl, pk_sub (by omega), show grf (30, 0) 31 = (45, 0) from rfl, show grf (30, 0) 14 = (40, 0) from rfl, hL.2.1.2.2.2.2.2.2.2.2.2.1, hL.2.1.2.2.2.2.1, nI_clamp (by omega), hr3.2.2.2.2.2.1.2 _ (show od.length - 1 < od.length by omega), nI_clamp (by omega), hz.2.2.1]
        exact ⟨vp_in_nI (by omega) (by omega), vp_in_nI (by omega) (by omega), br_t (nI_lt (a := 8000) (hop hpos) (by omega)) h101⟩
      refine br_f hnm1 (c_file (P := fun g => wp_DiskFile_canExtend Ln _ g _ _) (S := gset S (12, 0) 1 0) hL rfl hf ?_)
      refine dk_canExtend hL.1 hc0.1 hf rfl (by omega) (fun hP hNd => cr_f (by decide) (br_f (by decide) ?_)) (fun hno => cr_t rfl (Or.inr (Or.inr ⟨rfl, ?_⟩)))
      · have hP24 : dkP (F.sz f + 24) ≤ 400 := Nat.le_trans (dkP_le (by omega)) hP
        refine c_open hL hc0 (by omega) (by omega) hf rfl hP24 (Nat.le_trans (dkNd_mono (by omega)) hNd) e3 e4 ?_
        rw [htl]
        intro S2 hx2 h13 hc2
        have hx2' := hx0.tr hx2
        have hU := dkU_wr hc0.1 hc2.1 hf (by rw [frE2_len]; omega)
        rw [frE2_len] at hU
        have hsz2 : (dkF_wr F f (frE (2, nI (la + 1), tl, 0, []))).sz f = 24 := by rw [dkF_wr_sz, if_pos rfl, hsz0, frE2_len]
        have hsh2 : (dkF_wr F f (frE (2, nI (la + 1), tl, 0, []))).sh f = 0 := by
          show va_up F.2.2.2 f _ f = 0
          rw [va_up_self]
          split <;> omega
        have hNd2 : dkNd (dkF_wr F f (frE (2, nI (la + 1), tl, 0, []))) f (25 + tp.length) ≤ dkU M (dkF_wr F f (frE (2, nI (la + 1), tl, 0, []))) := by
          unfold dkNd at hU hNd ⊢
          rw [hsz2, hsh2]
          rw [hsz0, hsh0] at hU hNd
          rw [if_neg (by omega)] at hU hNd ⊢
          rw [dkP_0] at hU hNd
          have := dkP_le (show 24 ≤ 24 + (25 + tp.length) by omega)
          rw [show 0 + (49 + tp.length) = 24 + (25 + tp.length) by omega] at hNd
          rw [Nat.zero_add] at hU
          omega
        have hD0 : rlt (nf + 1) (va_up ri f [nf]) := by
          intro c hc k hk
          by_cases e : c = f
          · subst e
            rw [va_up_self] at hk ⊢
            have hk0 : k = 0 := Nat.lt_one_iff.mp hk
            subst hk0
            exact Nat.lt_succ_self nf
          · rw [va_up_ne _ _ e] at hk ⊢
            exact Nat.lt_succ_of_lt (hr.1.lt c hc k hk)
        refine fin _ _ (nf + 1) _ _ _ f S2 hx2' hc2 (hB0.of h13) (Nat.le_refl _) (by rw [List.length_append]; exact Nat.succ_pos _) ?_ hD0 e5 e6 e7 e8 (by rw [hsz2]; omega) ?_ hNd2 ?_
        · rw [List.length_append, show od.length + ([f] : List Nat).length - 1 = od.length by simp, getD_snoc_r]
        · rw [hsz2]
          rw [hsz0, show 0 + (49 + tp.length) = 24 + (25 + tp.length) by omega] at hP
          exact hP
        · intro S4 hx4 _ hk4
          refine rnew 0 S4 hx4 (fun S3 hr3 hB3 hS3 => ?_)
          unfold wp_Mo_append_154
          rw [show (25 : Int32) = nI 25 from rfl, nI_add, show (24 : Int32) = nI 24 from rfl, nI_add]
          refine rf_hasRoom hL.2.1 hr3.1.2.2.1 hr3.2.2.2.2.1.1 hM hus hf rfl rfl (by omega) (fun _ _ => cr_f (by decide) (cr_t rfl ?_)) (fun hno => ?_)
          · refine r_open hL hr3 (by omega) (by omega) (by omega) hen (by omega) hf rfl e3 e2 e1 ?_
            rw [htd]
            intro S5 x5 t5 h47 hr5
            have hB5 : rfB tp S5 := by unfold rfB; rw [h47]; exact hB3
            have hfull : (dkF_wr F f (frE (2, nI (la + 1), tl, 0, []))).1 f = rfC (va_up T nf (2, nI (la + 1), tl, 0, [])) (va_up ri f [nf] f) := by
              have := (e7.2.2.2.1 od.length (by rw [List.length_append]; exact Nat.lt_succ_self _)).2.1
              rw [getD_snoc_r] at this
              exact this
            refine r_entry hL hr5 hB5 (by omega) (by omega) (by omega) (by omega) (by omega) hf rfl rfl hki rfl hfull (by rw [va_up_self]; exact (by decide : 1 < 330)) (by rw [hsz2]; omega) ?_
            intro S6 x6 t6 hr6
            have t3 : S3.1 (30, 0) 0 = 0 := by rw [hS3, gset_n (Or.inr (by omega)), gset_s]
            refine hk4 S6 ?_ (by rw [t6, t5, t3]) hr6
            rw [hS3] at x5
            exact (((loX.set (by simp)).tr (loX.set (by simp))).tr x5).tr x6
          · refine absurd ⟨?_, ?_⟩ hno
            · rw [show 25 + tp.length + 24 = 49 + tp.length by omega]; exact hP
            · rw [show 25 + tp.length + 24 = 49 + tp.length by omega]; exact hNd
      · refine rnew 3 _ hx0 (fun S3 hr3 hB3 hS3 => ?_)
        unfold wp_Mo_append_154
        rw [show (25 : Int32) = nI 25 from rfl, nI_add, show (24 : Int32) = nI 24 from rfl, nI_add]
        refine rf_hasRoom hL.2.1 hr3.1.2.2.1 hr3.2.2.2.2.1.1 hM hus hf rfl rfl (by omega) (fun a b => ?_) (fun _ => cr_t rfl ?_)
        · rw [show 25 + tp.length + 24 = 49 + tp.length by omega] at a b
          exact absurd ⟨a, b⟩ hno
        · unfold wp_Mo_append_161 wp_Mo_fail
          rintro _ rfl
          rw [hS3]
          exact bad 3 (by decide) _ hx0 hc0
    · -- no file is free
      unfold wp_LogDisk_append_108
      refine br_f (by decide) ?_
      unfold wp_LogDisk_append_121
      rintro _ rfl
      refine br_t rfl (Or.inr (Or.inr ⟨rfl, ?_⟩))
      refine rgo 3 _ hx0 (fun S3 hr3 hB3 hS3 => cr_f hne300 ?_)
      have h101 : wp_Mo_append_101 Ln (fun r7 S6 => pQ Ln K 3 r7 S6) (30, 0) v (nI ki) (nI tp.length) S3 := by
        unfold wp_Mo_append_101 wp_Mo_append_102
        refine br_t rfl ?_
        refine r_free hL.2.1 hr3.1.2.2.1 (fun f' a b cc d => absurd cc (hall f' a b)) (fun _ => ?_)
        unfold wp_Mo_append_127
        refine br_t rfl ?_
        unfold wp_Mo_append_161 wp_Mo_fail
        rintro _ rfl
        rw [hS3]
        exact bad 3 (by decide) _ hx0 hc0
      refine pk_le od.length 0 (fun _ => h101) (fun hpos => ?_) rfl rfl (by omega) (by omega)
      have hlf := hof (od.length - 1) (by omega)
      have hz := (hr3.1.2.2.1.1 (od.getD (od.length - 1) 0) (by omega))
      rw [show (1 : Int32) = nI 1 from rfl, pk_sub (by omega), show grf (30, 0) 31 = (45, 0) from rfl, show grf (30, 0) 14 = (40, 0) from rfl, hL.2.1.2.2.2.2.2.2.2.2.2.1, hL.2.1.2.2.2.2.1, nI_clamp (by omega), hr3.2.2.2.2.2.1.2 _ (show od.length - 1 < od.length by omega), nI_clamp (by omega), hz.2.2.1]
      exact ⟨vp_in_nI (by omega) (by omega), vp_in_nI (by omega) (by omega), br_t (nI_lt (a := 8000) (hop hpos) (by omega)) h101⟩
  · -- the last segment
    have hlf := hof (od.length - 1) (by omega)
    have hlz := (dk_sz hc0.1 hM (show od.getD (od.length - 1) 0 < 32 by omega)).2
    refine c_lastFile hL hc0.2.2.2.2.2.1 h12 (fun z => by omega) (fun _ => ?_)
    generalize hfd : od.getD (od.length - 1) 0 = f at *
    unfold wp_LogDisk_append_108
    refine br_t rfl ?_
    unfold wp_LogDisk_append_121
    rw [show (0 : Int32) + 25 = nI 25 from rfl, nI_add]
    rintro _ rfl
    have hnm1 : ¬ nI f = (-1 : Int32) := by
      intro z
      have : (nI f).toInt = (-1 : Int32).toInt := by rw [z]
      rw [nI_toInt (by omega)] at this
      have : (-1 : Int32).toInt = -1 := by decide
      omega
    have rold : ∀ (c : Int32) S', hiX S S' → (∀ S3, rl M fc F [] tm vo ti sl fh sf bs bt cd la di od kp T nf us ri en S3 → rfB tp S3 → S3 = gset (gset S' (30, 0) 0 0) (30, 0) 33 0 → wp_Mo_append_154 Ln (fun r7 S6 => pQ Ln K c r7 S6) (30, 0) v (nI ki) (nI tp.length) 1 (nI f) (30, 0) (nI f) (25 + nI tp.length) 0 S3) → wp_Mo_append Ln (fun r7 S6 => pQ Ln K c r7 S6) (30, 0) v (nI ki) S' := by
      intro c S' hx hgo
      refine rgo c S' hx (fun S3 hr3 hB3 hS3 => cr_f hne300 ?_)
      refine br_f (nI_nle hod (by omega)) ?_
      have hz := (hr3.1.2.2.1.1 f (by omega))
      have e45 := hr3.2.2.2.2.2.1.2 _ (show od.length - 1 < od.length by omega)
      rw [hfd] at e45
      rw [show (1 : Int32) = nI 1 from rfl, pk_sub (by omega), show grf (30, 0) 31 = (45, 0) from rfl, show grf (30, 0) 14 = (40, 0) from rfl, hL.2.1.2.2.2.2.2.2.2.2.2.1, hL.2.1.2.2.2.2.1, nI_clamp (by omega), e45, nI_clamp (by omega), hz.2.2.1]
      refine ⟨vp_in_nI (by omega) (by omega), vp_in_nI (by omega) (by omega), br_f (nI_nlt (a := 8000) hle (by omega)) ?_⟩
      unfold wp_Mo_append_102
      refine br_f (by decide) ?_
      rw [hr3.2.2.2.2.2.1.1, show (1 : Int32) = nI 1 from rfl, pk_sub (by omega), show grf (30, 0) 31 = (45, 0) from rfl, hL.2.1.2.2.2.2.2.2.2.2.2.1, nI_clamp (by omega), e45]
      refine ⟨vp_in_nI (by omega) (by omega), ?_⟩
      unfold wp_Mo_append_127
      refine br_f (fun z => ?_) (br_f (by decide) (hgo S3 hr3 hB3 hS3))
      have : (nI f).toInt = (16 : Int32).toInt := by rw [z]
      rw [nI_toInt (by omega)] at this
      have : (16 : Int32).toInt = 16 := by decide
      omega
    refine br_f hnm1 (c_file (P := fun g => wp_DiskFile_canExtend Ln _ g _ _) (S := gset S (12, 0) 1 0) hL rfl hlf.2 ?_)
    refine dk_canExtend hL.1 hc0.1 hlf.2 rfl (by omega) (fun hP hNd => cr_f (by decide) (br_t rfl ?_)) (fun hno => cr_t rfl (Or.inr (Or.inr ⟨rfl, ?_⟩)))
    · refine fin F T nf ri od fo f _ hx0 hc0 hB0 (by omega) hod hfd.symm hr.1.lt h3 h4 h5 h6 hle hP hNd ?_
      intro S4 hx4 _ hk4
      refine rold 0 S4 hx4 (fun S3 hr3 hB3 hS3 => ?_)
      unfold wp_Mo_append_154
      rw [show (25 : Int32) = nI 25 from rfl, nI_add, show (0 : Int32) = nI 0 from rfl, nI_add]
      refine rf_hasRoom hL.2.1 hr3.1.2.2.1 hr3.2.2.2.2.1.1 hM hus hlf.2 rfl rfl (by omega) (fun _ _ => cr_f (by decide) (cr_f (by decide) ?_)) (fun hno => absurd ⟨hP, hNd⟩ hno)
      have o4 := (h5.2.2.2.1 (od.length - 1) (by omega)).2.1
      rw [hfd] at o4
      have hsg := sg_len' (h3.2.2.1 f (by omega) (by omega)).1
      rw [← o4] at hsg
      have hrl : 25 * (ri f).length ≤ F.sz f + 1 := hsg
      refine r_entry hL hr3 hB3 (by omega) (by omega) (by omega) (by omega) (by omega) hlf.2 rfl rfl hki rfl o4 (by omega) (by omega) ?_
      intro S6 x6 t6 hr6
      have t3 : S3.1 (30, 0) 0 = 0 := by rw [hS3, gset_n (Or.inr (by omega)), gset_s]
      refine hk4 S6 ?_ (by rw [t6, t3]) hr6
      rw [hS3] at x6
      exact ((loX.set (by simp)).tr (loX.set (by simp))).tr x6
    · refine rold 3 _ hx0 (fun S3 hr3 hB3 hS3 => ?_)
      unfold wp_Mo_append_154
      rw [show (25 : Int32) = nI 25 from rfl, nI_add, show (0 : Int32) = nI 0 from rfl, nI_add]
      refine rf_hasRoom hL.2.1 hr3.1.2.2.1 hr3.2.2.2.2.1.1 hM hus hlf.2 rfl rfl (by omega) (fun a b => absurd ⟨a, b⟩ hno) (fun _ => cr_t rfl ?_)
      unfold wp_Mo_append_161 wp_Mo_fail
      rintro _ rfl
      rw [hS3]
      exact bad 3 (by decide) _ hx0 hc0
