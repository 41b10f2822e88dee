theorem rfC_lt (T : Nat → gFr) (l : List Nat) {a : Nat} : ∀ d, a + d < l.length → (rfC T (l.take a)).length < (rfC T (l.take (a + d + 1))).length
  | 0, h => by
    show (rfC T (l.take a)).length < (rfC T (l.take (a + 1))).length
    rw [rfC_take (n := a) (by omega), List.length_append, frE_len]; omega
  | d + 1, h => by
    have := rfC_lt T l (a := a) d (by omega)
    rw [show a + (d + 1) + 1 = (a + d + 1) + 1 by omega, rfC_take (show a + d + 1 < l.length by omega), List.length_append]
    omega
theorem rfC_lt' (T : Nat → gFr) {l : List Nat} {a b : Nat} (h : a < b) (hb : b ≤ l.length) : (rfC T (l.take a)).length < (rfC T (l.take b)).length := by
  have := rfC_lt T l (a := a) (b - a - 1) (by omega)
  rw [show a + (b - a - 1) + 1 = b by omega] at this
  exact this
theorem p_cutFrom {Ln : gI → Nat} {n : Nat} {S : gS} {K : gS → Prop} {v : Int32} (h : INV Ln n S) (hn : n < 513) (hK : ∀ S', INV Ln (n + 1) S' → K S') :
    wp_Law_cutFrom Ln (fun r4 S5 => wp_Mo_cutFrom Ln (fun r7 S6 => pQ Ln K r4 r7 S6) (30, 0) v S5) (0, 0) v (60, 0) S := by
  obtain ⟨M, fc, F, tp, tm, vo, ti, vf, fh, sf, bs, bt, cd, la, di, od, fo, ei, kp, sl, T, nf, us, ri, en, hL, hc, hr, h1, h2, h3, h4, h5, h6⟩ := h
  obtain ⟨ok, bad⟩ := ro hn hK hL hc hr h1 h2 h3 h4 h5 h6
  have hN := h1
  unfold wN at hN
  have h12 := h5.1
  have ho := h5.2.1
  have bs1 : nI bs + 1 = nI (bs + 1) := nI_1 bs
  have hfo : ∀ k, k < od.length → fo (od.getD k 0) < 2 ^ 30 := fun k hk => by have := (h5.2.2.2.1 k hk).2.2.2.2.1; omega
  unfold wp_Law_cutFrom wp_LogDisk_cutFrom
  refine c_isInLog hc.2.2.2.1 hc.2.2.2.2.1 (by omega) (by omega) (fun i e hi1 hi2 => cr_f (by decide) ?_) (fun hb => cr_t rfl ⟨rfl, ?_⟩)
  rotate_left
  · unfold wp_Mo_cutFrom wp_Mo_fail
    rintro _ rfl
    have hr0 := hr.thr (v := 0)
    rw [hr0.2.2.2.1.2.1, hr0.2.2.2.2.1.2.2.1, bs1]
    refine rf_within (fun ha hb' => ?_) (fun _ => cr_t rfl ?_)
    · rw [i32_le] at ha hb'
      rw [nI_toInt (by omega)] at ha hb'
      rw [i32_le, i32_lt, nI_toInt (by omega), nI_toInt (by omega)] at hb
      omega
    · rintro _ rfl; exact bad 1 (by decide)
  subst e
  obtain ⟨q, k, f, w1, w2, w3, w4, w5, w6, w7, w8, w9, w10, w11, w12, w13, w14⟩ := wE_at h3 h5 h6 hr.1 hi1 hi2
  rw [hc.2.2.2.2.1.2.1, pk_sub hi2, nI_1]
  rintro _ rfl
  rw [show grf (0, 0) 7 = (18, 0) from rfl, hc.2.2.2.2.2.1.1]
  rintro _ rfl
  have hlz := (dk_sz hc.1 hL.1.2.1 (show f < 32 by omega)).2
  -- which segments stay
  have mcase : ∀ j, j ≤ od.length → (∀ t, od.length - j ≤ t → t < od.length → i ≤ fo (od.getD t 0)) → (j = od.length ∨ fo (od.getD (od.length - 1 - j) 0) < i) → (od.length - j = q + 1 ∧ 2 ≤ k) ∨ (od.length - j ≤ q ∧ k = 1) := by
    intro j hj hall hend
    rcases Nat.lt_or_ge q (od.length - j) with z | z
    · left
      have hend' : fo (od.getD (od.length - j - 1) 0) < i := by
        rcases hend with e | e
        · omega
        · rw [show od.length - j - 1 = od.length - 1 - j by omega]; exact e
      have hq1 : od.length - j = q + 1 := by
        rcases Nat.lt_or_ge (q + 1) (od.length - j) with y | y
        · have c1 := h5.2.2.2.2.1 q (by omega)
          have c2 := fo_mono h5 (od.length - j - 1 - (q + 1)) (q + 1) (by omega)
          rw [show q + 1 + (od.length - j - 1 - (q + 1)) = od.length - j - 1 by omega, c1, ← w2] at c2
          omega
        · omega
      rw [hq1, show q + 1 - 1 = q by omega, ← w2] at hend'
      exact ⟨hq1, by omega⟩
    · right
      have := hall q z w1
      rw [← w2] at this
      exact ⟨z, by omega⟩
  have junique : ∀ j j', j ≤ od.length → j' ≤ od.length → (∀ t, od.length - j ≤ t → t < od.length → i ≤ fo (od.getD t 0)) → (∀ t, od.length - j' ≤ t → t < od.length → i ≤ fo (od.getD t 0)) → (j = od.length ∨ fo (od.getD (od.length - 1 - j) 0) < i) → (j' = od.length ∨ fo (od.getD (od.length - 1 - j') 0) < i) → j = j' := by
    intro j j' a1 a2 b1 b2 c1 c2
    rcases Nat.lt_trichotomy j j' with z | z | z
    · rcases c1 with c1 | c1
      · omega
      · have := b2 (od.length - 1 - j) (by omega) (by omega); omega
    · exact z
    · rcases c2 with c2 | c2
      · omega
      · have := b1 (od.length - 1 - j') (by omega) (by omega); omega
  -- the ends
  have fin : ∀ (F2 : gF) (ri2 : Nat → List Nat) (m : Nat) (S1 : gS), hiX S S1 → cl M fc F2 tp tm vo ti vf fh sf bs bt cd la di (od.take m) fo ei kp S1 → wR n bs F2 T ri2 ∧ wS sf bs bt cd fc F2 T ri2 ∧ wO bs (i - 1) F2 T ri2 (od.take m) fo ∧ wE bs (i - 1) T ri2 (od.take m) fo en ei →
      (∀ S4, hiX S S4 → (∀ S6, loX S4 S6 → S6.1 (30, 0) 0 = 0 → rl M fc F2 tp tm vo ti sl fh sf bs bt cd (i - 1) 1 (od.take m) kp T nf us ri2 en S6 → S4.2 (60, 0) 0 = (nI (la - i + 1)).toInt64 → pQ Ln K 0 (nI (la - i + 1)) S6) → S4.2 (60, 0) 0 = (nI (la - i + 1)).toInt64 → wp_Mo_cutFrom Ln (fun r7 S6 => pQ Ln K 0 r7 S6) (30, 0) (nI i) S4) →
      wp_LogDisk_cutFrom_144 Ln (fun r3 S1 => vp_in 0 (Ln (60, 0)) ∧ (∀ S4 : gS, S4 = gsetL S1 (60, 0) (0 : Int32).toNatClampNeg (r3.toInt64) → (wp_Mo_cutFrom Ln (fun r7 S6 => pQ Ln K 0 r7 S6) (30, 0) (nI i) S4))) (fun E S2 => (E = "java/lang/IndexOutOfBoundsException" ∧ (wp_Mo_cutFrom Ln (fun r7 S6 => pQ Ln K 1 r7 S6) (30, 0) (nI i) S2))) (0, 0) (nI i) (nI (la - i + 1)) S1 := by
    intro F2 ri2 m S1 hx1 hc1 hw hre
    unfold wp_LogDisk_cutFrom_144
    rw [show (1 : Int32) = nI 1 from rfl, pk_sub (by omega)]
    rintro _ rfl _ rfl
    have hc2 : cl M fc F2 tp tm vo ti vf fh sf bs bt cd (i - 1) 1 (od.take m) fo ei kp (gset (gset S1 (0, 0) 10 (nI (i - 1))) (0, 0) 11 (nI 1)) := by
      obtain ⟨p1, p2, p3, p4, p5, p6, p7, p8⟩ := hc1
      have o : ∀ i' : gI, i'.1 ≠ 0 → (gset (gset S1 (0, 0) 10 (nI (i - 1))) (0, 0) 11 (nI 1)).1 i' = S1.1 i' := fun i' hi => by rw [gset_o (by rintro rfl; simp at hi), gset_o (by rintro rfl; simp at hi)]
      refine ⟨dk_of (fun i a b => o i (by omega)) p1, p2.of (o _ (by simp)) (o _ (by simp)), p3.of (o _ (by simp)) rfl, p4.of (o _ (by simp)), ⟨?_, ?_, ?_⟩, p6.of (o _ (by simp)) (o _ (by simp)) (o _ (by simp)), ?_, p8.of (o _ (by simp))⟩
      · rw [gset_n (Or.inr (by omega)), gset_n (Or.inr (by omega))]; exact p5.1
      · rw [gset_n (Or.inr (by omega)), gset_s]
      · rw [gset_s]
      · have : cE ei bs (i - 1) S1 := fun i' h1 h2 => p7 i' h1 (by omega)
        exact this.of (fun k a b => o _ (by simp; omega))
    refine ok_in hL ?_
    refine hre _ ((hx1.tr (hiX.set (by simp))).tr (hiX.set (by simp))) ?_ (out_s _ _)
    intro S6 x6 t6 hr6 h60
    refine pQ_ok hL t6 (by rw [x6.1]; exact h60) (hK S6 ⟨M, fc, F2, tp, tm, vo, ti, vf, fh, sf, bs, bt, cd, i - 1, 1, od.take m, fo, ei, kp, sl, T, nf, us, ri2, en, hL, cl.lo x6 hc2.out, hr6, ?_, ⟨h2.1, h2.2.1, h2.2.2.1, by omega, h2.2.2.2.2⟩, hw.1.up, hw.2.1, hw.2.2.1, hw.2.2.2⟩)
    unfold wN; omega
  -- the reference, up to its loop
  have rgo : ∀ S4, hiX S S4 → (∀ j S5, j ≤ od.length → (∀ t, od.length - j ≤ t → t < od.length → i ≤ fo (od.getD t 0)) → (j = od.length ∨ fo (od.getD (od.length - 1 - j) 0) < i) → loX S4 S5 → S5.1 (30, 0) 0 = 0 → rl M fc (rmF F od j) tp tm vo ti sl fh sf bs bt cd la di (od.take (od.length - j)) kp T nf us (rmR ri od j) en S5 → wp_Mo_cutFrom_91 Ln (fun r7 S6 => pQ Ln K 0 r7 S6) (30, 0) (nI i) (nI (la - i + 1)) S5) → wp_Mo_cutFrom Ln (fun r7 S6 => pQ Ln K 0 r7 S6) (30, 0) (nI i) S4 := by
    intro S4 hx4 hgo
    have hr4 := (rl.hi hx4 hr).thr (v := 0)
    unfold wp_Mo_cutFrom
    rintro _ rfl
    rw [hr4.2.2.2.1.2.1, hr4.2.2.2.2.1.2.2.1, bs1]
    refine rf_within (fun ha hb' => cr_f (by decide) ?_) (fun hb' => ?_)
    · rw [hr4.2.2.2.2.1.2.2.1, pk_sub hi2, nI_1]
      rintro _ rfl
      refine r_cutLoop hL hr4 h5 (by omega) (by omega) ?_
      intro S5 j a b c d e g
      exact hgo j S5 a b c ((loX.set (by simp)).tr d) (e.trans (gset_s _ _ _ _)) g
    · rcases hb' with hb' | hb'
      · rw [nI_ltI (by omega) (by omega)] at hb'; omega
      · rw [nI_ltI (by omega) (by omega)] at hb'; omega
  have r142 : ∀ (F2 : gF) (ri2 : Nat → List Nat) (m : Nat) (S4 S5 : gS), loX S4 S5 → S5.1 (30, 0) 0 = 0 → rl M fc F2 tp tm vo ti sl fh sf bs bt cd la di (od.take m) kp T nf us ri2 en S5 → (∀ S6, loX S4 S6 → S6.1 (30, 0) 0 = 0 → rl M fc F2 tp tm vo ti sl fh sf bs bt cd (i - 1) 1 (od.take m) kp T nf us ri2 en S6 → pQ Ln K 0 (nI (la - i + 1)) S6) → wp_Mo_cutFrom_142 Ln (fun r7 S6 => pQ Ln K 0 r7 S6) (30, 0) (nI i) (nI (la - i + 1)) S5 := by
    intro F2 ri2 m S4 S5 x5 t5 hr5 hk
    unfold wp_Mo_cutFrom_142
    rw [show (1 : Int32) = nI 1 from rfl, pk_sub (by omega)]
    rintro _ rfl _ rfl
    obtain ⟨p1, p2, p3, p4, p5, p6, p7, p8⟩ := hr5
    have o : ∀ k, k ≠ 27 → k ≠ 29 → (gset (gset S5 (30, 0) 27 (nI (i - 1))) (30, 0) 29 (nI 1)).1 (30, 0) k = S5.1 (30, 0) k := fun k a b => by rw [gset_n (Or.inr b), gset_n (Or.inr a)]
    have oh : ∀ i' : gI, i'.1 ≠ 30 → (gset (gset S5 (30, 0) 27 (nI (i - 1))) (30, 0) 29 (nI 1)).1 i' = S5.1 i' := fun i' hi => by rw [gset_o (by rintro rfl; simp at hi), gset_o (by rintro rfl; simp at hi)]
    refine hk _ ((x5.tr (loX.set (by simp))).tr (loX.set (by simp))) ((o 0 (by omega) (by omega)).trans t5) ⟨rfD_of (fun i' a b => oh i' (by omega)) (o 3 (by omega) (by omega)) (o 11 (by omega) (by omega)) p1, ?_, ?_, ?_, ⟨?_, ?_, ?_, ?_⟩, ?_, ?_, ?_⟩
    · unfold rT rfB; rw [o 33 (by omega) (by omega), oh (47, 0) (by simp)]; exact p2
    · unfold rV; rw [o 19 (by omega) (by omega), o 20 (by omega) (by omega), o 21 (by omega) (by omega), o 22 (by omega) (by omega), o 28 (by omega) (by omega)]; exact p3
    · unfold rS; rw [o 26 (by omega) (by omega), o 23 (by omega) (by omega), o 24 (by omega) (by omega), o 25 (by omega) (by omega)]; exact p4
    · rw [o 1 (by omega) (by omega)]; exact p5.1
    · rw [o 2 (by omega) (by omega)]; exact p5.2.1
    · rw [gset_n (Or.inr (by omega)), gset_s]
    · rw [gset_s]
    · unfold rG; rw [o 30 (by omega) (by omega), oh (45, 0) (by simp)]; exact p6
    · intro i' a b; rw [oh (46, 0) (by simp)]; exact p7 i' a (by omega)
    · unfold rK; rw [oh (44, 0) (by simp)]; exact p8
  refine c_cutLoop hL hc h12 ho hfo (by omega) rfl ?_
  intro S1 j hj hall hend hx1 hc1
  have hlm : (od.take (od.length - j)).length = od.length - j := by rw [List.length_take]; omega
  obtain ⟨c1, c2, c3, c4, c5⟩ := hc1.2.2.2.2.2.2.1 i hi1 hi2
  rw [w10] at c1 c2 c3 c4 c5
  dsimp only at c1 c2 c3 c4 c5
  have l := hL.2.2.2.2.2.2.2.2.2
  have hin : vp_in (nI (i % 301)) 301 := vp_in_nI (by omega) (by omega)
  unfold wp_LogDisk_cutFrom_90
  refine c_slot rfl (by omega) ?_
  rw [show grf (0, 0) 8 = (21, 0) from rfl, show grf (21, 0) 0 = (22, 0) from rfl, show grf (21, 0) 1 = (23, 0) from rfl, show grf (0, 0) 7 = (18, 0) from rfl, l 22 (by omega) (by omega), l 23 (by omega) (by omega), nI_clamp (by omega)]
  have outj : ∀ t, t < od.length - j → (∀ t', od.length - j ≤ t' → t' < od.length → od.getD t' 0 ≠ od.getD t 0) := fun t ht t' a b z => h5.2.2.1 t t' (by omega) b z.symm
  have rowt : ∀ t, t < od.length - j → (rmF F od j).1 (od.getD t 0) = F.1 (od.getD t 0) ∧ (rmF F od j).2.1 (od.getD t 0) = F.2.1 (od.getD t 0) ∧ (rmF F od j).2.2.1 (od.getD t 0) = F.2.2.1 (od.getD t 0) ∧ (rmF F od j).2.2.2 (od.getD t 0) = F.2.2.2 (od.getD t 0) ∧ rmR ri od j (od.getD t 0) = ri (od.getD t 0) := fun t ht => rm_out j hj (outj t ht)
  rcases mcase j hj hall hend with ⟨hm, hk2⟩ | ⟨hm, hk1⟩
  · -- the segment of the entry is cut
    have hqm : q < od.length - j := by omega
    obtain ⟨y1, y2, y3, y4, y5⟩ := rowt q hqm
    rw [← w2] at y1 y2 y3 y4 y5
    have hwf : wR n bs (dkF_ct (rmF F od j) f (rfC T ((ri f).take k)).length) T (va_up (rmR ri od j) f ((ri f).take k)) ∧ wS sf bs bt cd fc (dkF_ct (rmF F od j) f (rfC T ((ri f).take k)).length) T (va_up (rmR ri od j) f ((ri f).take k)) ∧ wO bs (i - 1) (dkF_ct (rmF F od j) f (rfC T ((ri f).take k)).length) T (va_up (rmR ri od j) f ((ri f).take k)) (od.take (od.length - j)) fo ∧ wE bs (i - 1) T (va_up (rmR ri od j) f ((ri f).take k)) (od.take (od.length - j)) fo en ei := by
      have g1 : ∀ c, c ≠ f → (dkF_ct (rmF F od j) f (rfC T ((ri f).take k)).length).1 c = (rmF F od j).1 c := fun c hc => va_up_ne _ _ hc
      have g3 : ∀ c, c ≠ f → (dkF_ct (rmF F od j) f (rfC T ((ri f).take k)).length).2.2.1 c = (rmF F od j).2.2.1 c := fun c hc => va_up_ne _ _ hc
      have hcf : (dkF_ct (rmF F od j) f (rfC T ((ri f).take k)).length).1 f = rfC T ((ri f).take k) := by
        show va_up (rmF F od j).1 f (((rmF F od j).1 f).take _) f = _
        rw [va_up_self, y1, w12]
        obtain ⟨t, ht⟩ := rfC_pre T (ri f) k
        rw [← ht, List.take_append_of_le_length (Nat.le_refl _), List.take_length]
      refine wf_back (L := fun t => if t = q then k else (ri (od.getD t 0)).length) h3 h4 h5 h6 (by omega) hi1 hi2 ?_ ?_ ?_ ?_ ?_ ?_ ?_
      · intro c hcc
        obtain ⟨z1, z2, z3, z4, z5⟩ := rm_hi (F := F) (ri := ri) ho hj hcc
        have hne : c ≠ f := by omega
        exact ⟨(g1 c hne).trans z1, z2, (g3 c hne).trans z3, (va_up_ne _ _ hne).trans z5⟩
      · intro t a b
        obtain ⟨z1, z2, z3, z4⟩ := rm_in (F := F) (ri := ri) j hj a b
        have hne : od.getD t 0 ≠ f := by rw [w2]; exact outj q hqm t a b
        exact ⟨(g1 _ hne).trans z1, z2, (g3 _ hne).trans z3, (va_up_ne _ _ hne).trans z4⟩
      · intro t ht
        obtain ⟨z1, z2, z3, z4, z5⟩ := rowt t ht
        obtain ⟨o1, o2, o3, o4, o5, o6⟩ := h5.2.2.2.1 t (by omega)
        by_cases e : t = q
        · subst e
          rw [← w2, if_pos rfl, va_up_self]
          refine ⟨rfl, w5, by omega, hcf, ?_, ?_, fun z => by omega⟩
          · show (rmF F od j).2.1 f = 1
            rw [y2, w2]; exact o6
          · show va_up (rmF F od j).2.2.1 f (min ((rmF F od j).lo f) _) f ≤ _
            rw [va_up_self]
            show _ ≤ ((dkF_ct (rmF F od j) f (rfC T ((ri f).take k)).length).1 f).length
            rw [hcf]
            exact Nat.min_le_right _ _
        · have hne : od.getD t 0 ≠ f := by
            rw [w2]
            rcases Nat.lt_or_ge t q with y | y
            · exact h5.2.2.1 t q y w1
            · exact Ne.symm (h5.2.2.1 q t (by omega) (by omega))
          rw [if_neg e, va_up_ne _ _ hne, z5, g1 _ hne, z1, show (dkF_ct (rmF F od j) f (rfC T ((ri f).take k)).length).2.1 (od.getD t 0) = F.2.1 (od.getD t 0) from z2, g3 _ hne, z3]
          refine ⟨by rw [List.take_length], by omega, Nat.le_refl _, o2, o6, ?_, fun _ => rfl⟩
          show F.lo (od.getD t 0) ≤ ((dkF_ct (rmF F od j) f (rfC T ((ri f).take k)).length).1 (od.getD t 0)).length
          rw [g1 _ hne, z1]
          exact h3.1 _ (ho t (by omega)).2
      · intro _
        rw [hm, show q + 1 - 1 = q by omega, if_pos rfl, ← w2]; exact w7
      · intro z; omega
      · intro g a b hne
        obtain ⟨z1, z2, z3, z4, z5⟩ := rm_out (F := F) (ri := ri) (c := g) j hj (fun t _ ht => hne t ht)
        have hnf : g ≠ f := by rw [w2]; exact Ne.symm (hne q w1)
        exact ⟨(g1 g hnf).trans z1, z2, (g3 g hnf).trans z3, (va_up_ne _ _ hnf).trans z5⟩
      · intro q' k' a b c d
        have hq' : q' < od.length - j := by
          rcases Nat.lt_or_ge q' (od.length - j) with z | z
          · exact z
          · have := hall q' z a; omega
        refine ⟨hq', ?_⟩
        by_cases e : q' = q
        · subst e
          rw [if_pos rfl]
          rw [← w2] at d
          omega
        · rw [if_neg e]; exact c
    refine c_lastFile hL hc1.2.2.2.2.2.1 (by omega) (fun z => by omega) (fun _ => ?_)
    rw [hlm, getD_take (by omega), show od.length - j - 1 = q by omega, ← w2, c1]
    refine ⟨hin, cr_t rfl ⟨hin, ?_⟩⟩
    rw [show grf (0, 0) 1 = (10, 0) from rfl, hL.2.2.1, nI_clamp (by omega), show grf (10, 0) f = (1, f) from rfl, c2]
    have hst : (rfC T ((ri f).take k)).length ≤ F.sz f := Nat.le_trans (Nat.le_add_right _ _) w13
    refine ⟨vp_in_nI (by omega) (by omega), hin, dk_cutTo hL.1 hc1.1 w4 rfl (by omega) ?_ ?_⟩
    · show (rmF F od j).2.2.1 f ≤ ((rmF F od j).1 f).length
      rw [y1, y3]; exact h3.1 f w4
    intro S2 hd2 hx2
    refine fin _ _ (od.length - j) S2 (hx1.tr hx2.hi) (cX_files hx2.1 hx2.fi hd2 hc1) hwf ?_
    intro S4 hx4 hk4 h60
    refine rgo S4 hx4 (fun j' S5 a b c x5 t5 hr5 => ?_)
    have ej := junique j j' hj a hall b hend c
    subst ej
    unfold wp_Mo_cutFrom_91
    rw [hr5.2.2.2.2.2.1.1, hlm, hr5.2.2.2.1.2.1, show (1 : Int32) = nI 1 from rfl, pk_sub (by omega), pk_sub (by omega), pk_sub (by omega)]
    refine br_f (nI_nle (by omega) (by omega)) ?_
    have e45 := hr5.2.2.2.2.2.1.2 q (by rw [hlm]; omega)
    rw [getD_take (by omega), ← w2] at e45
    rw [show grf (30, 0) 31 = (45, 0) from rfl, show grf (30, 0) 32 = (46, 0) from rfl, hL.2.1.2.2.2.2.2.2.2.2.2.1, hL.2.1.2.2.2.2.2.2.2.2.2.2.1, nI_clamp (by omega), nI_clamp (by omega), show od.length - j - 1 = q by omega, e45]
    refine ⟨vp_in_nI (by omega) (by omega), ?_⟩
    rintro _ rfl
    rw [hr5.2.2.2.2.2.2.1 i hi1 hi2, w8]
    refine ⟨vp_in_nI (by omega) (by omega), ?_⟩
    have hrow2 : rmR ri od j f = ri f := y5
    refine rf_place (f := f) (k := k) hL hr5.1 (n := n) (bs := bs) ?_ w4 (by rw [hrow2]; exact w6) rfl (by rw [hrow2]) ?_
    · -- the rows of the rest are ordered too
      have hb := wf_back (F2 := rmF F od j) (ri2 := rmR ri od j) (i := la) (m := od.length - j) (L := fun t => (ri (od.getD t 0)).length) h3 h4 h5 h6 (by omega) (by omega) (Nat.le_refl _)
      refine ⟨fun g hg => ?_, fun c hc h2 => ?_, fun c hc hc4 => ?_, fun c d k q hc hd hk hq e => ?_, fun c k q hc hkq hq => ?_⟩
      all_goals clear hb
      · show (rmF F od j).2.2.1 g ≤ ((rmF F od j).1 g).length
        by_cases e : ∃ t, od.length - j ≤ t ∧ t < od.length ∧ od.getD t 0 = g
        · obtain ⟨t, e1, e2, rfl⟩ := e
          rw [(rm_in (F := F) (ri := ri) j hj e1 e2).2.2.1]; exact Nat.zero_le _
        · obtain ⟨z1, z2, z3, z4, z5⟩ := rm_out (F := F) (ri := ri) (c := g) j hj (fun t a b z => e ⟨t, a, b, z⟩)
          rw [z1, z3]; exact h3.1 g hg
      · rw [(rm_hi (F := F) (ri := ri) ho hj (show c < 4 ∨ 16 ≤ c by omega)).2.2.2.2]; exact h3.2.1 c hc h2
      · by_cases e : ∃ t, od.length - j ≤ t ∧ t < od.length ∧ od.getD t 0 = c
        · obtain ⟨t, e1, e2, rfl⟩ := e
          rw [(rm_in (F := F) (ri := ri) j hj e1 e2).2.2.2]; exact ⟨Or.inl rfl, fun z => absurd rfl z⟩
        · obtain ⟨z1, z2, z3, z4, z5⟩ := rm_out (F := F) (ri := ri) (c := c) j hj (fun t a b z => e ⟨t, a, b, z⟩)
          rw [z5, z2]; exact h3.2.2.1 c hc hc4
      · have sub : ∀ c k, k < (rmR ri od j c).length → rmR ri od j c = ri c := by
          intro c k hk
          by_cases e : ∃ t, od.length - j ≤ t ∧ t < od.length ∧ od.getD t 0 = c
          · obtain ⟨t, e1, e2, rfl⟩ := e
            rw [(rm_in (F := F) (ri := ri) j hj e1 e2).2.2.2] at hk
            exact absurd hk (Nat.not_lt_zero _)
          · exact (rm_out (F := F) (ri := ri) (c := c) j hj (fun t a b z => e ⟨t, a, b, z⟩)).2.2.2.2
        have s1 := sub c k hk
        have s2 := sub d q hq
        rw [s1] at hk e
        rw [s2] at hq e
        exact h3.2.2.2.1 c d k q hc hd hk hq e
      · have sub : ∀ c k, k < (rmR ri od j c).length → rmR ri od j c = ri c := by
          intro c k hk
          by_cases e : ∃ t, od.length - j ≤ t ∧ t < od.length ∧ od.getD t 0 = c
          · obtain ⟨t, e1, e2, rfl⟩ := e
            rw [(rm_in (F := F) (ri := ri) j hj e1 e2).2.2.2] at hk
            exact absurd hk (Nat.not_lt_zero _)
          · exact (rm_out (F := F) (ri := ri) (c := c) j hj (fun t a b z => e ⟨t, a, b, z⟩)).2.2.2.2
        have s1 := sub c q hq
        rw [s1] at hq ⊢
        exact h3.2.2.2.2 c k q hc hkq hq
    rw [hrow2]
    refine br_f (nI_pos (by omega)) ?_
    refine rf_cut hL.2.1 hr5.1 w4 ?_ rfl rfl ?_
    · show _ ≤ ((rmF F od j).1 f).length
      rw [y1]; exact hst
    · intro S6 m' hm1 hm2 hm3 x6 hD6
      rw [hrow2] at hm1 hm2 hm3 hD6
      have em : m' = k := by
        rcases Nat.lt_trichotomy m' k with z | z | z
        · rcases hm2 with e | e
          · omega
          · have := rfC_lt' T z (show k ≤ (ri f).length by omega); omega
        · exact z
        · have := hm3 k z; omega
      subst em
      refine r142 _ _ (od.length - j) S4 S6 (x5.tr x6.lo) (by rw [x6.2 _ (by simp)]; exact t5) ?_ (fun S7 a b c => hk4 S7 a b c h60)
      obtain ⟨p1, p2, p3, p4, p5, p6, p7, p8⟩ := hr5
      have h30 : S6.1 (30, 0) = S5.1 (30, 0) := x6.2 _ (by simp)
      refine ⟨hD6, ?_, ?_, ?_, ?_, ?_, ?_, ?_⟩
      · unfold rT rfB; rw [h30, x6.2 (47, 0) (by simp)]; exact p2
      · unfold rV; rw [h30]; exact p3
      · unfold rS; rw [h30]; exact p4
      · unfold rM; rw [h30]; exact p5
      · unfold rG; rw [h30, x6.2 (45, 0) (by simp)]; exact p6
      · unfold rE; rw [x6.2 (46, 0) (by simp)]; exact p7
      · unfold rK; rw [x6.2 (44, 0) (by simp)]; exact p8
  · -- the segment of the entry is gone
    have hfi : fo f = i := by omega
    have hwf : wR n bs (rmF F od j) T (rmR ri od j) ∧ wS sf bs bt cd fc (rmF F od j) T (rmR ri od j) ∧ wO bs (i - 1) (rmF F od j) T (rmR ri od j) (od.take (od.length - j)) fo ∧ wE bs (i - 1) T (rmR ri od j) (od.take (od.length - j)) fo en ei := by
      have hfm : fo (od.getD (od.length - j) 0) = i := by
        have a := hall (od.length - j) (Nat.le_refl _) (by omega)
        have b := fo_mono h5 (q - (od.length - j)) (od.length - j) (by omega)
        rw [show od.length - j + (q - (od.length - j)) = q by omega, ← w2] at b
        omega
      refine wf_back (L := fun t => (ri (od.getD t 0)).length) h3 h4 h5 h6 (by omega) hi1 hi2 ?_ ?_ ?_ ?_ ?_ ?_ ?_
      · intro c hcc
        obtain ⟨z1, z2, z3, z4, z5⟩ := rm_hi (F := F) (ri := ri) ho hj hcc
        exact ⟨z1, z2, z3, z5⟩
      · intro t a b
        exact rm_in (F := F) (ri := ri) j hj a b
      · intro t ht
        obtain ⟨z1, z2, z3, z4, z5⟩ := rowt t ht
        obtain ⟨o1, o2, o3, o4, o5, o6⟩ := h5.2.2.2.1 t (by omega)
        rw [z5, z1, z2, z3, List.take_length]
        refine ⟨rfl, by omega, Nat.le_refl _, o2, o6, ?_, fun _ => rfl⟩
        show F.lo (od.getD t 0) ≤ ((rmF F od j).1 (od.getD t 0)).length
        rw [z1]
        exact h3.1 _ (ho t (by omega)).2
      · intro z
        have := h5.2.2.2.2.1 (od.length - j - 1) (by omega)
        rw [show od.length - j - 1 + 1 = od.length - j by omega, hfm] at this
        exact this
      · intro z
        rw [z] at hfm
        have := (h5.2.2.2.2.2.2.1 (by omega)).1
        omega
      · intro g a b hne
        obtain ⟨z1, z2, z3, z4, z5⟩ := rm_out (F := F) (ri := ri) (c := g) j hj (fun t _ ht => hne t ht)
        exact ⟨z1, z2, z3, z5⟩
      · intro q' k' a b c d
        refine ⟨?_, c⟩
        rcases Nat.lt_or_ge q' (od.length - j) with z | z
        · exact z
        · have := hall q' z a; omega
    have hne : ∀ t, t < od.length - j → od.getD t 0 ≠ f := fun t ht => by rw [w2]; exact h5.2.2.1 t q (by omega) w1
    have g144 := fin _ _ (od.length - j) S1 hx1 hc1 hwf ?_
    rotate_left
    · intro S4 hx4 hk4 h60
      refine rgo S4 hx4 (fun j' S5 a b c x5 t5 hr5 => ?_)
      have ej := junique j j' hj a hall b hend c
      subst ej
      have f142 := r142 _ _ (od.length - j) S4 S5 x5 t5 hr5 (fun S7 a b c => hk4 S7 a b c h60)
      unfold wp_Mo_cutFrom_91
      rw [hr5.2.2.2.2.2.1.1, hlm, hr5.2.2.2.1.2.1, show (1 : Int32) = nI 1 from rfl, show nI i - nI bs - nI 1 = nI (i - bs - 1) from by rw [pk_sub (by omega), pk_sub (by omega)]]
      refine pk_le (od.length - j) 0 (fun _ => f142) (fun hpos => ?_) rfl rfl (by omega) (by omega)
      rw [pk_sub (by omega)]
      have e45 := hr5.2.2.2.2.2.1.2 (od.length - j - 1) (by rw [hlm]; omega)
      rw [getD_take (by omega)] at e45
      have hof := ho (od.length - j - 1) (by omega)
      rw [show grf (30, 0) 31 = (45, 0) from rfl, show grf (30, 0) 32 = (46, 0) from rfl, hL.2.1.2.2.2.2.2.2.2.2.2.1, hL.2.1.2.2.2.2.2.2.2.2.2.2.1, nI_clamp (by omega), nI_clamp (by omega), e45]
      refine ⟨vp_in_nI (by omega) (by omega), ?_⟩
      rintro _ rfl
      rw [hr5.2.2.2.2.2.2.1 i hi1 hi2]
      have hnf := hr.1.1.1
      refine ⟨vp_in_nI (by omega) (by omega), rf_placeIn hL.2.1 hr5.1 (by omega) rfl rfl (by omega) (fun k' hk' e _ => ?_) (fun _ => br_t (by decide) f142)⟩
      exfalso
      have hrow := (rowt (od.length - j - 1) (by omega)).2.2.2.2
      rw [hrow] at hk' e
      rw [w8] at e
      have := h3.2.2.2.1 _ f k' k (by omega) (by omega) hk' w6 e
      rw [Nat.mod_eq_of_lt hof.2, Nat.mod_eq_of_lt w4] at this
      exact hne (od.length - j - 1) (by omega) this
    refine c_lastFile hL hc1.2.2.2.2.2.1 (by omega) (fun z => ⟨hin, cr_f ?_ g144⟩) (fun z => ⟨hin, cr_f ?_ g144⟩)
    · rw [c1]
      intro z
      have : (nI f).toInt = (-1 : Int32).toInt := by rw [z]
      rw [nI_toInt (by omega)] at this
      have : (-1 : Int32).toInt = -1 := by decide
      omega
    · rw [c1, hlm, getD_take (by omega)]
      have hof := ho (od.length - j - 1) (by omega)
      rw [nI_eq (by omega) (by omega)]
      exact hne _ (by omega)
