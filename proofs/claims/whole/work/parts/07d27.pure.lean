theorem frE_d3 {r : gFr} (h : r.so = 3) {x : Nat} : (frE r).getD (25 + x) 0 = r.d.getD x 0 := by
  have hp : (frP r).length = 17 + r.d.length := by rw [frP_len, if_neg (by omega), if_neg (by omega), if_neg (by omega)]
  unfold frE
  rw [if_neg (by omega), List.append_nil]
  unfold frH
  rw [getD_app_r (by rw [dkBs_len]; omega), getD_app_r (by rw [dkBs_len, dkBs_len]; omega), dkBs_len, dkBs_len]
  unfold frP
  rw [if_neg (by omega), if_neg (by omega), if_neg (by omega), getD_app_r (by rw [dkBs_len]; omega), dkBs_len, getD_app_r (by rw [dkBs_len]; omega), dkBs_len, getD_app_r (by rw [dkBs_len]; omega), dkBs_len]
  congr 1; omega
theorem frE_d1 {r : gFr} (h : r.so = 1) {x : Nat} : (frE r).getD (20 + x) 0 = r.d.getD x 0 := by
  have hp : (frP r).length = 12 := by rw [frP_len, if_neg (by omega), if_pos h]
  unfold frE
  rw [if_pos h, getD_app_r (by rw [frH_len, hp]; omega), frH_len, hp]
  congr 1; omega
theorem sgOK.at {T : Nat → gFr} {b : Nat} {l : List Nat} (h : sgOK T b l) {k : Nat} (hk : k < l.length) (h1 : 1 ≤ k) : (T (l.getD k 0)).so = 3 := by
  rcases h with e | ⟨fi, -, -, h⟩
  · rw [e] at hk; exact absurd hk (Nat.not_lt_zero k)
  · have := (h k hk).1
    rw [if_neg (by omega)] at this
    exact this
/-- an entry: where it lies -/
theorem wE_at {n bs la : Nat} {F : gF} {T : Nat → gFr} {nf us : Nat} {ri : Nat → List Nat} {od : List Nat} {fo : Nat → Nat} {en : Nat → Nat} {ei : Nat → gEi} {S : gS} (h3 : wR n bs F T ri) (h5 : wO bs la F T ri od fo) (h6 : wE bs la T ri od fo en ei) (hD : rfD T nf us ri F S) {i : Nat} (hi1 : bs < i) (hi2 : i ≤ la) :
    ∃ q k f, q < od.length ∧ f = od.getD q 0 ∧ 4 ≤ f ∧ f < 16 ∧ 1 ≤ k ∧ k < (ri f).length ∧ i = fo f + (k - 1) ∧ en i = (ri f).getD k 0 ∧ en i < nf ∧ ei i = (f, (rfC T ((ri f).take k)).length, (T (en i)).b, (T (en i)).c, (T (en i)).d.length) ∧ (T (en i)).so = 3 ∧ F.1 f = rfC T (ri f) ∧ (rfC T ((ri f).take k)).length + (frE (T (en i))).length ≤ F.sz f ∧ ∀ x, x < (T (en i)).d.length → (F.1 f).getD ((rfC T ((ri f).take k)).length + 25 + x) 0 = (T (en i)).d.getD x 0 := by
  obtain ⟨q, k, b1, b2, b3, b4, b5, b6⟩ := h6 i hi1 hi2
  obtain ⟨o1, o2⟩ := h5.2.1 q b1
  obtain ⟨o3, o4, o5, o6, o7⟩ := h5.2.2.2.1 q b1
  have hso : (T (en i)).so = 3 := by rw [b5]; exact (h3.2.2.1 (od.getD q 0) (by omega) (by omega)).1.at b3 b2
  have hpre := rfC_pre T (ri (od.getD q 0)) (k + 1)
  rw [rfC_take b3, ← b5] at hpre
  have hle : (rfC T ((ri (od.getD q 0)).take k)).length + (frE (T (en i))).length ≤ F.sz (od.getD q 0) := by
    have := hpre.length_le
    rw [List.length_append, ← o4] at this
    exact this
  refine ⟨q, k, od.getD q 0, b1, rfl, o1, o2, b2, b3, b4, b5, ?_, b6, hso, o4, hle, fun x hx => ?_⟩
  · rw [b5]; exact (rf_row hD (by omega) b3).2.1
  · have hp : (frP (T (en i))).length = 17 + (T (en i)).d.length := by rw [frP_len, if_neg (by omega), if_neg (by omega), if_neg (by omega)]
    have hl : (frE (T (en i))).length = 25 + (T (en i)).d.length := by rw [frE_len, hp, if_neg (by omega)]; omega
    obtain ⟨t, ht⟩ := hpre
    rw [o4, ← ht, getD_app_l (by rw [List.length_append]; omega), getD_app_r (by omega), show (rfC T ((ri (od.getD q 0)).take k)).length + 25 + x - (rfC T ((ri (od.getD q 0)).take k)).length = 25 + x by omega]
    exact frE_d3 hso
theorem rf_fileOf {Ln : gI → Nat} {M n bs la : Nat} {T : Nat → gFr} {nf us : Nat} {ri : Nat → List Nat} {F : gF} {od : List Nat} {fo : Nat → Nat} {S : gS} {q k : Nat} {v : Int32} {Q : Int32 → gS → Prop} (hL : aL Ln M) (hD : rfD T nf us ri F S) (hG : rG od S) (h3 : wR n bs F T ri) (h5 : wO bs la F T ri od fo) (hq : q < od.length) (hk : k < (ri (od.getD q 0)).length) (hv : v = nI ((ri (od.getD q 0)).getD k 0))
    (hQ : Q (nI (od.getD q 0)) S) : wp_Mo_fileOf Ln Q (30, 0) v S := by
  subst hv
  have hod := h5.1
  have hfq := h5.2.1 q hq
  have hlt := (rf_row hD (by omega) hk)
  unfold wp_Mo_fileOf
  have key := pk_loop (fun fu t S' => wp_Mo_fileOf_4 Ln Q fu (30, 0) (nI ((ri (od.getD q 0)).getD k 0)) (if q < t then nI (od.getD q 0) else -1) (nI t) S') (fun t S' => S' = S) od.length 0 S (Nat.zero_le _) rfl ?_ ?_
  · exact key
  · rintro m _ rfl
    unfold wp_Mo_fileOf_4
    rw [hG.1, if_pos hq]
    exact br_t (nI_le (Nat.le_refl _) (by omega)) hQ
  · rintro m t _ ht rfl ih
    have hft := h5.2.1 t ht
    unfold wp_Mo_fileOf_4
    rw [hG.1, show grf (30, 0) 31 = (45, 0) from rfl, hL.2.1.2.2.2.2.2.2.2.2.2.1, nI_clamp (by omega), hG.2 t ht]
    have hin : vp_in (nI t) 12 := vp_in_nI (by omega) (by omega)
    have ih2 := ih _ rfl
    refine br_f (nI_ge ht (by omega)) ⟨hin, rf_placeIn hL.2.1 hD (by omega) rfl rfl (by omega) (fun k' hk' e _ => ?_) (fun hno => ?_)⟩
    · have hs := (rf_small hD (show od.getD t 0 < 32 by omega) hk').1
      refine br_f (nI_pos (by omega)) ⟨hin, ?_⟩
      have eqt : t = q := by
        have hm := h3.2.2.2.1 (od.getD t 0) (od.getD q 0) k' k (by omega) (by omega) hk' hk e
        rw [Nat.mod_eq_of_lt hft.2, Nat.mod_eq_of_lt hfq.2] at hm
        rcases Nat.lt_trichotomy t q with z | z | z
        · exact absurd hm (h5.2.2.1 t q z hq)
        · exact z
        · exact absurd hm.symm (h5.2.2.1 q t z ht)
      subst eqt
      unfold wp_Mo_fileOf_36
      rw [hG.2 t ht]
      rintro _ rfl
      rw [nI_1]
      rw [if_pos (by omega)] at ih2
      exact ih2
    · refine br_t (by decide) ?_
      have hne : t ≠ q := by
        rintro rfl
        exact hno k hk rfl
      unfold wp_Mo_fileOf_36
      rintro _ rfl
      rw [nI_1]
      by_cases z : q < t
      · rw [if_pos z]; rw [if_pos (by omega)] at ih2; exact ih2
      · rw [if_neg z]; rw [if_neg (by omega)] at ih2; exact ih2
theorem rf_place {Ln : gI → Nat} {M n bs : Nat} {T : Nat → gFr} {nf us : Nat} {ri : Nat → List Nat} {F : gF} {S : gS} {f k : Nat} {v w : Int32} {Q : Int32 → gS → Prop} (hL : aL Ln M) (hD : rfD T nf us ri F S) (h3 : wR n bs F T ri) (hf : f < 16) (hk : k < (ri f).length) (hv : v = nI f) (hw : w = nI ((ri f).getD k 0))
    (hQ : Q (nI (rfC T ((ri f).take k)).length) S) : wp_Mo_placeIn Ln Q (30, 0) v w S := by
  have hlt := (rf_row hD (show f < 32 by omega) hk)
  refine rf_placeIn hL.2.1 hD (by omega) hv hw (by omega) (fun k' hk' e _ => ?_) (fun hno => absurd rfl (hno k hk))
  have : k' = k := by
    rcases Nat.lt_trichotomy k' k with z | z | z
    · have := h3.2.2.2.2 f k' k (by omega) z hk; omega
    · exact z
    · have := h3.2.2.2.2 f k k' (by omega) z hk'; omega
  subst this
  exact hQ
theorem p_entry {Ln : gI → Nat} {n : Nat} {S : gS} {K : gS → Prop} {v w : Int32} (h : INV Ln n S) (hn : n < 513) (hK : ∀ S', INV Ln (n + 1) S' → K S') :
    wp_Law_entry Ln (fun r4 S5 => wp_Mo_entry Ln (fun r7 S6 => pQ Ln K r4 r7 S6) (30, 0) v w S5) (0, 0) v w (60, 0) S := by
  obtain ⟨M, fc, F, tp, tm, vo, ti, vf, fh, sf, bs, bt, cd, la, di, od, fo, ei, kp, sl, T, nf, us, ri, en, hL, hc, hr, h1, h2, h3, h4, h5, h6⟩ := h
  obtain ⟨ok, bad⟩ := ro hn hK hL hc hr h1 h2 h3 h4 h5 h6
  have e0 : (0 : Int32).toInt = 0 := by decide
  have e4 : (4 : Int32).toInt = 4 := by decide
  have hN := h1
  unfold wN at hN
  have bad' : (v < nI bs ∨ nI la < v ∨ w < 0 ∨ 4 < w ∨ (v = nI bs ∧ w ≠ 0)) → wp_Mo_entry Ln (fun r7 S6 => pQ Ln K 1 r7 S6) (30, 0) v w S := by
    intro hb
    unfold wp_Mo_entry
    rintro _ rfl
    have hr0 := hr.thr (v := 0)
    rw [hr0.2.2.2.1.2.1, hr0.2.2.2.2.1.2.2.1]
    have fin : wp_Mo_entry_41 Ln (fun r7 S6 => pQ Ln K 1 r7 S6) (30, 0) (gset S (30, 0) 0 0) := by
      unfold wp_Mo_entry_41 wp_Mo_fail
      rintro _ rfl; exact bad 1 (by decide)
    refine rf_within (fun ha hb' => br_f (by decide) ?_) (fun _ => br_t rfl fin)
    rw [hr0.2.2.2.1.2.1]
    refine ⟨fun hv => ?_, fun hv => ?_⟩
    · unfold wp_Mo_entry_35
      refine rf_within (fun hc' hd' => ?_) (fun _ => cr_t rfl fin)
      rw [i32_le] at ha hb' hc' hd'
      rw [i32_lt, i32_lt, i32_lt, i32_lt] at hb
      rcases hb with h | h | h | h | ⟨h, -⟩
      · omega
      · omega
      · omega
      · omega
      · exact absurd h hv
    · unfold wp_Mo_entry_35
      refine rf_within (fun hc' hd' => ?_) (fun _ => cr_t rfl fin)
      rw [i32_le] at ha hb' hc' hd'
      have hw0 : w = 0 := Int32.toInt_inj.mp (by omega)
      rw [i32_lt, i32_lt, i32_lt, i32_lt] at hb
      rcases hb with h | h | h | h | ⟨-, h⟩
      · omega
      · omega
      · omega
      · omega
      · exact absurd hw0 h
  have e23 : ¬ (v = nI bs ∧ w = 0) → wp_LogDisk_entry_23 Ln (fun r3 S1 => vp_in 0 (Ln (60, 0)) ∧ (∀ S4 : gS, S4 = gsetL S1 (60, 0) (0 : Int32).toNatClampNeg (r3.toInt64) → wp_Mo_entry Ln (fun r7 S6 => pQ Ln K 0 r7 S6) (30, 0) v w S4)) (fun E S2 => (E = "java/lang/IndexOutOfBoundsException" ∧ wp_Mo_entry Ln (fun r7 S6 => pQ Ln K 1 r7 S6) (30, 0) v w S2)) (0, 0) v w S := by
    intro hne
    unfold wp_LogDisk_entry_23
    refine c_isInLog hc.2.2.2.1 hc.2.2.2.2.1 (by omega) (by omega) (fun i e hi1 hi2 => cr_f (by decide) ?_) (fun hb => cr_t rfl ⟨rfl, bad' ?_⟩)
    · subst e
      obtain ⟨q, k, f, w1, w2, w3, w4, w5, w6, w7, w8, w9, w10, w11, w12, w13, w14⟩ := wE_at h3 h5 h6 hr.1 hi1 hi2
      obtain ⟨c1, c2, c3, c4, c5⟩ := hc.2.2.2.2.2.2.1 i hi1 hi2
      rw [w10] at c1 c2 c3 c4 c5
      have hnf := hr.1.1.1
      refine c_slot rfl (by omega) ?_
      have l := hL.2.2.2.2.2.2.2.2.2
      rw [show grf (0, 0) 8 = (21, 0) from rfl, show grf (21, 0) 0 = (22, 0) from rfl, show grf (21, 0) 1 = (23, 0) from rfl, show grf (21, 0) 2 = (24, 0) from rfl, show grf (21, 0) 3 = (25, 0) from rfl, show grf (21, 0) 4 = (26, 0) from rfl, l 22 (by omega) (by omega), l 23 (by omega) (by omega), l 24 (by omega) (by omega), l 25 (by omega) (by omega), l 26 (by omega) (by omega), nI_clamp (by omega), c1, c2, c3, c4, c5]
      have hin : vp_in (nI (i % 301)) 301 := vp_in_nI (by omega) (by omega)
      have go : ∀ j r, j ≤ 4 → w = nI j → (∀ S', rl M fc F tp tm vo ti sl fh sf bs bt cd la di od kp T nf us ri en S' → ∀ Q : Int32 → gS → Prop, Q r S' → (((¬ w = 0) → (((3 ≤ w) → (wp_Mo_fileOf Ln (fun r15 S14 => ((¬ w = 3) → (wp_Mo_placeIn Ln (fun r18 S17 => Q r18 S17) (30, 0) r15 (nI (en i)) S14)) ∧ ((w = 3) → (Q r15 S14))) (30, 0) (nI (en i)) S')) ∧ ((¬ 3 ≤ w) → (((¬ w = 1) → (vp_in (nI (en i)) (Ln (grf (30, 0) 9)) ∧ (Q (S'.1 (grf (30, 0) 9) (nI (en i)).toNatClampNeg) S'))) ∧ ((w = 1) → (vp_in (nI (en i)) (Ln (grf (30, 0) 7)) ∧ (Q (S'.1 (grf (30, 0) 7) (nI (en i)).toNatClampNeg) S'))))))) ∧ ((w = 0) → (wp_Mo_termOf Ln (fun r21 S20 => Q r21 S20) (30, 0) (nI i) S')))) →
          (vp_in 0 (Ln (60, 0)) ∧ ∀ S4 : gS, S4 = gsetL S (60, 0) (0 : Int32).toNatClampNeg r.toInt64 → wp_Mo_entry Ln (fun r7 S6 => pQ Ln K 0 r7 S6) (30, 0) (nI i) w S4) := by
        intro j r hj hw hq
        refine ok_in hL ?_
        obtain ⟨ok1, ok2⟩ := ok r
        unfold wp_Mo_entry
        rintro _ rfl
        rw [ok2.2.2.2.1.2.1, ok2.2.2.2.2.1.2.2.1]
        refine rf_within (fun ha hb => br_f (by decide) ?_) (fun hb => ?_)
        · rw [ok2.2.2.2.1.2.1]
          refine cr_f (fun z => by rw [nI_eq (by omega) (by omega)] at z; omega) ?_
          unfold wp_Mo_entry_35
          refine rf_within (fun _ _ => cr_f (by decide) ?_) (fun hb => ?_)
          · have hh := hq _ ok2 _ ok1
            refine ⟨fun hw0 => ?_, hh.2⟩
            rw [ok2.2.2.2.1.2.1, pk_sub (by omega), show (1 : Int32) = nI 1 from rfl, pk_sub (by omega), show grf (30, 0) 32 = (46, 0) from rfl, hL.2.1.2.2.2.2.2.2.2.2.2.2.1, nI_clamp (by omega), ok2.2.2.2.2.2.2.1 i hi1 hi2]
            refine ⟨vp_in_nI (by omega) (by omega), ?_⟩
            rintro _ rfl
            exact hh.1 hw0
          · rw [hw, i32_lt, i32_lt, nI_toInt (by omega)] at hb; omega
        · rcases hb with hb | hb
          · rw [nI_ltI (by omega) (by omega)] at hb; omega
          · rw [nI_ltI (by omega) (by omega)] at hb; omega
      refine ⟨fun hb => ⟨rfl, bad' (by rw [i32_lt, i32_lt, i32_lt, i32_lt]; omega)⟩, fun hw => ⟨hin, go 0 _ (by omega) hw fun S' hr' Q hq => ?_⟩, fun hw => ⟨hin, go 1 _ (by omega) hw fun S' hr' Q hq => ?_⟩, fun hw => ⟨hin, go 2 _ (by omega) hw fun S' hr' Q hq => ?_⟩, fun hw => ⟨hin, go 3 _ (by omega) hw fun S' hr' Q hq => ?_⟩, fun hw => ⟨hin, go 4 _ (by omega) hw fun S' hr' Q hq => ?_⟩⟩
      · refine cr_t hw (r_termOf hL hr'.2.2.2.1 hr'.1.1 hr'.2.2.2.2.2.2.1 (by omega) (by omega) rfl (by omega) hi2 (fun _ => w9) ?_)
        rw [if_pos hi1]; exact hq
      · subst hw
        refine cr_f (by decide) (br_f (by decide) (cr_t rfl ?_))
        rw [show grf (30, 0) 7 = (34, 0) from rfl, hL.2.1.1 34 (by omega) (by omega), nI_clamp (by omega), (rf_fr hr'.1.1 w9).2.2.2.1]
        exact ⟨vp_in_nI (by omega) (by omega), hq⟩
      · subst hw
        refine cr_f (by decide) (br_f (by decide) (cr_f (by decide) ?_))
        rw [show grf (30, 0) 9 = (36, 0) from rfl, hL.2.1.1 36 (by omega) (by omega), nI_clamp (by omega), (rf_fr hr'.1.1 w9).2.2.2.2]
        exact ⟨vp_in_nI (by omega) (by omega), hq⟩
      · subst hw
        subst w2
        refine cr_f (by decide) (br_t (by decide) (rf_fileOf hL hr'.1 hr'.2.2.2.2.2.1 h3 h5 w1 w6 (by rw [w8]) (cr_t rfl hq)))
      · subst hw
        subst w2
        refine cr_f (by decide) (br_t (by decide) (rf_fileOf hL hr'.1 hr'.2.2.2.2.2.1 h3 h5 w1 w6 (by rw [w8]) (cr_f (by decide) ?_)))
        exact rf_place hL hr'.1 h3 w4 w6 rfl (by rw [w8]) hq
    · rcases hb with hb | hb
      · by_cases hv : v = nI bs
        · exact Or.inr (Or.inr (Or.inr (Or.inr ⟨hv, fun z => hne ⟨hv, z⟩⟩)))
        · refine Or.inl ?_
          rw [i32_le] at hb; rw [i32_lt]
          have : v.toInt ≠ (nI bs).toInt := fun z => hv (Int32.toInt_inj.mp z)
          omega
      · exact Or.inr (Or.inl hb)
  unfold wp_Law_entry wp_LogDisk_entry
  rw [show grf (0, 0) 6 = (17, 0) from rfl, hc.2.2.2.1.2.1, hc.2.2.2.1.2.2.1]
  refine ⟨fun hv => e23 (fun z => hv z.1), fun hv => ⟨fun hw => e23 (fun z => hw z.2), fun hw => ok_in hL ?_⟩⟩
  obtain ⟨ok1, ok2⟩ := ok bt
  subst hv hw
  unfold wp_Mo_entry
  rintro _ rfl
  rw [ok2.2.2.2.1.2.1, ok2.2.2.2.2.1.2.2.1]
  refine rf_within (fun ha hb => br_f (by decide) ?_) (fun hb => ?_)
  · rw [ok2.2.2.2.1.2.1]
    refine cr_t rfl ?_
    unfold wp_Mo_entry_35
    refine rf_within (fun _ _ => cr_f (by decide) (cr_t rfl (r_termOf hL ok2.2.2.2.1 ok2.1.1 ok2.2.2.2.2.2.2.1 (by omega) (by omega) rfl (by omega) (by omega) (fun z => absurd z (Nat.lt_irrefl _)) ?_))) (fun hb => absurd hb (by decide))
    rw [if_neg (Nat.lt_irrefl _)]; exact ok1
  · rcases hb with hb | hb
    · rw [nI_ltI (by omega) (by omega)] at hb; omega
    · rw [nI_ltI (by omega) (by omega)] at hb; omega
