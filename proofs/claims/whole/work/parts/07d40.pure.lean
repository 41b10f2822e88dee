theorem r_write {Ln : gI → Nat} {M : Nat} {fc : Int32} {F : gF} {tp ds : List Nat} {tm vo : Int32} {ti sl fh : Nat} {sf : Int32} {bs nb : Nat} {bt cd te co : Int32} {la di : Nat} {od : List Nat} {kp : Nat → Int32} {T : Nat → gFr} {nf us : Nat} {ri : Nat → List Nat} {en : Nat → Nat} {S : gS} {v w : Int32} {Q : Int32 → gS → Prop}
    (hL : aL Ln M) (hr : rl M fc F tp tm vo ti sl fh sf bs bt cd la di od kp T nf us ri en S) (hB : rfB ds S) (hM : M ≤ 1024) (hu : dkSum (dkW F) 16 ≤ M) (hnf : nf < 2200) (hus : us + ds.length ≤ 4200) (hv : v = nI nb) (hw : w = nI ds.length)
    (h0 : ¬ (dkP (20 + ds.length) ≤ 400 ∧ dkP (20 + ds.length) ≤ dkU M F + (dkP (F.sz (snx sf)) - F.sh (snx sf))) → Q 0 S)
    (h1 : dkP (20 + ds.length) ≤ 400 → dkP (20 + ds.length) ≤ dkU M F + (dkP (F.sz (snx sf)) - F.sh (snx sf)) → ∀ S', loX S S' → S'.1 (30, 0) 0 = S.1 (30, 0) 0 → rl M fc (snF F (snx sf) (frE (1, nI nb, te, co, ds))) tp tm vo ti sl fh (nI (snx sf)) bs te co la 1 od kp (va_up T nf (1, nI nb, te, co, ds)) (nf + 1) (us + ds.length) (va_up (va_up ri (snx sf) [nf]) (16 + snx sf) [nf]) en S' → Q 1 S') : wp_Mo_write Ln Q (30, 0) v te co w S := by
  subst hv hw
  have hds := hB.1
  have hf : snx sf < 4 ∧ 2 ≤ snx sf := by unfold snx; split <;> omega
  have go : wp_Mo_write_13 Ln Q (30, 0) (nI nb) te co (nI ds.length) (nI (snx sf)) S := by
    unfold wp_Mo_write_13
    rw [show (20 : Int32) = nI 20 from rfl, nI_add]
    refine rf_hasRoomAnew hL.2.1 hr.1.2.2.1 hr.2.2.2.2.1.1 hM hu (by omega) rfl rfl (by omega) (fun ha hb => cr_f (by decide) ?_) (fun hno => cr_t rfl (h0 hno))
    generalize hfd : snx sf = f at *
    refine rf_cut0 hL.2.1 hr.1 (by omega) rfl rfl ?_
    intro S1 x1 hD1
    refine rf_make (so := 1) hL.2.1 hD1.1 rfl (by omega) hnf (by omega) ?_
    intro S2 x2 h35 hT2
    have hB2 : rfB ds S2 := by unfold rfB; rw [x2.2.1 (47, 0) (by simp), x1.2 (47, 0) (by simp)]; exact hB
    refine rf_fill hL.2.1 hT2 h35 (Or.inl rfl) hB2 rfl rfl hus ?_
    intro S3 x3 hT3
    have hTa : ∀ j, j < nf → va_up T nf (1, nI nb, te, co, ds) j = T j := fun j hj => va_up_ne _ _ (by omega)
    have hTn : va_up T nf (1, nI nb, te, co, ds) nf = (1, nI nb, te, co, ds) := va_up_self _ _ _
    have hD3 := hD1.mk (x2.tr x3) hT3 (by omega) hTa
    have hct : (dkF_ct F f 0).1 f = [] := by
      show va_up F.1 f ((F.1 f).take 0) f = []
      rw [va_up_self, List.take_zero]
    refine rf_put (j := nf) hL.2.1 hD3 (by omega) (by omega) rfl rfl ?_ ?_ ?_ ?_
    · rw [hct, va_up_self, rfC_nil]
    · rw [va_up_self]; exact (by decide : 0 < 330)
    · rw [hTn, frE1_len]
      have : (dkF_ct F f 0).sz f = 0 := congrArg List.length hct
      omega
    intro S4 x4 hD4
    rw [hTn, va_up_self, va_up_up, List.nil_append] at hD4
    refine rf_settle hL.2.1 hD4 (by omega) rfl ?_
    intro S5 x5 hD5
    rintro _ rfl _ rfl _ rfl _ rfl
    have o5 : ∀ k, k ≠ 3 → k ≠ 11 → S5.1 (30, 0) k = S.1 (30, 0) k := by
      intro k a b
      rw [x5.2 _ (by simp), x4.2 _ (by simp), (x2.tr x3).2.2 k a b, x1.2 _ (by simp)]
    have oh5 : ∀ i : gI, 43 < i.1 → S5.1 i = S.1 i := by
      intro i hi
      rw [x5.2 _ (by omega), x4.2 _ (by omega), (x2.tr x3).2.1 _ (by omega), x1.2 _ (by omega)]
    have o : ∀ k, k ≠ 3 → k ≠ 11 → k ≠ 24 → k ≠ 25 → k ≠ 26 → k ≠ 29 → (gset (gset (gset (gset S5 (30, 0) 26 (nI f)) (30, 0) 24 te) (30, 0) 25 co) (30, 0) 29 1).1 (30, 0) k = S.1 (30, 0) k := by
      intro k a b c d e g
      rw [gset_n (Or.inr g), gset_n (Or.inr d), gset_n (Or.inr c), gset_n (Or.inr e), o5 k a b]
    have oh : ∀ i : gI, 43 < i.1 → (gset (gset (gset (gset S5 (30, 0) 26 (nI f)) (30, 0) 24 te) (30, 0) 25 co) (30, 0) 29 1).1 i = S.1 i := by
      intro i hi
      have hne : i ≠ (30, 0) := by rintro rfl; simp at hi
      rw [gset_o hne, gset_o hne, gset_o hne, gset_o hne, oh5 i hi]
    refine h1 ha hb _ ?_ (o 0 (by omega) (by omega) (by omega) (by omega) (by omega) (by omega)) ?_
    · exact ((((x1.lo.tr (x2.tr x3).lo).tr x4.lo).tr x5.lo).tr ((((loX.set (by simp)).tr (loX.set (by simp))).tr (loX.set (by simp))).tr (loX.set (by simp))))
    obtain ⟨p1, p2, p3, p4, p5, p6, p7, p8⟩ := hr
    have h5s : va_up ri f [nf] f = [nf] := va_up_self _ _ _
    rw [h5s] at hD5
    refine ⟨rfD_of (fun i a b => ?_) ?_ ?_ hD5, ?_, ?_, ⟨?_, ?_, ?_, ?_⟩, ⟨?_, ?_, ?_, ?_⟩, ?_, ?_, ?_⟩
    · have hne : i ≠ (30, 0) := by rintro rfl; simp at a
      rw [gset_o hne, gset_o hne, gset_o hne, gset_o hne]
    · rw [gset_n (Or.inr (by omega)), gset_n (Or.inr (by omega)), gset_n (Or.inr (by omega)), gset_n (Or.inr (by omega))]
    · rw [gset_n (Or.inr (by omega)), gset_n (Or.inr (by omega)), gset_n (Or.inr (by omega)), gset_n (Or.inr (by omega))]
    · unfold rT rfB; rw [o 33 (by omega) (by omega) (by omega) (by omega) (by omega) (by omega), oh (47, 0) (by simp)]; exact p2
    · unfold rV; rw [o 19 (by omega) (by omega) (by omega) (by omega) (by omega) (by omega), o 20 (by omega) (by omega) (by omega) (by omega) (by omega) (by omega), o 21 (by omega) (by omega) (by omega) (by omega) (by omega) (by omega), o 22 (by omega) (by omega) (by omega) (by omega) (by omega) (by omega), o 28 (by omega) (by omega) (by omega) (by omega) (by omega) (by omega)]; exact p3
    · simp only [gset_rd, Prod.mk.injEq, Nat.reduceEqDiff, and_false, and_self, if_false, if_true]
    · rw [o 23 (by omega) (by omega) (by omega) (by omega) (by omega) (by omega)]; exact p4.2.1
    · simp only [gset_rd, Prod.mk.injEq, Nat.reduceEqDiff, and_false, and_self, if_false, if_true]
    · simp only [gset_rd, Prod.mk.injEq, Nat.reduceEqDiff, and_false, and_self, if_false, if_true]
    · rw [o 1 (by omega) (by omega) (by omega) (by omega) (by omega) (by omega)]; exact p5.1
    · rw [o 2 (by omega) (by omega) (by omega) (by omega) (by omega) (by omega)]; exact p5.2.1
    · rw [o 27 (by omega) (by omega) (by omega) (by omega) (by omega) (by omega)]; exact p5.2.2.1
    · rw [gset_s]; rfl
    · unfold rG; rw [o 30 (by omega) (by omega) (by omega) (by omega) (by omega) (by omega), oh (45, 0) (by simp)]; exact p6
    · unfold rE; rw [oh (46, 0) (by simp)]; exact p7
    · unfold rK; rw [oh (44, 0) (by simp)]; exact p8
  unfold wp_Mo_write
  rw [hr.2.2.2.1.1]
  unfold snx at go
  refine ⟨fun h => ?_, fun h => ?_⟩
  · rw [if_neg h] at go; exact go
  · rw [if_pos h] at go; exact go
/-- the reference's parts that its rows of segments don't touch -/
theorem r_segs {Ln : gI → Nat} {M : Nat} {fc : Int32} {F : gF} {tp : List Nat} {tm vo : Int32} {ti sl fh : Nat} {sf : Int32} {nb : Nat} {bt cd : Int32} {la di : Nat} {od : List Nat} {kp : Nat → Int32} {T : Nat → gFr} {nf us : Nat} {ri : Nat → List Nat} {en : Nat → Nat} {fo : Nat → Nat} {S : gS} {g : Nat} {Q : gS → Prop}
    (hL : aL Ln M) (hr : rl M fc F tp tm vo ti sl fh sf nb bt cd la di od kp T nf us ri en S) (h12 : od.length ≤ 12) (ho : ∀ k, k < od.length → 4 ≤ od.getD k 0 ∧ od.getD k 0 < 16) (hd : ∀ k q, k < q → q < od.length → od.getD k 0 ≠ od.getD q 0)
    (hrow : ∀ k, k < od.length → 0 < (ri (od.getD k 0)).length ∧ (T ((ri (od.getD k 0)).getD 0 0)).a = nI (fo (od.getD k 0)) ∧ 1 ≤ fo (od.getD k 0)) (hch : ∀ k, k + 1 < od.length → fo (od.getD (k + 1) 0) = fo (od.getD k 0) + ((ri (od.getD k 0)).length - 1))
    (hfo : ∀ k, k < od.length → fo (od.getD k 0) < 2 ^ 30) (hnb : nb < 2 ^ 29) (hla : la < 2 ^ 29) (hmono : ∀ t d, t + d < od.length → fo (od.getD t 0) ≤ fo (od.getD (t + d) 0)) (hgp : gnP la nb od fo g)
    (hq : ∀ S', loX S S' → S'.1 (30, 0) 0 = S.1 (30, 0) 0 → rl M fc (drF F od g) tp tm vo ti sl fh sf nb bt cd la di (od.drop g) kp T nf us (drR ri od g) en S' → Q S') : ∃ m, wp_Mo_rebase_65 Ln Q m (30, 0) 0 0 S := by
  have hgl : g ≤ od.length := by rcases hgp with ⟨-, e⟩ | ⟨-, e, -⟩ <;> omega
  have key := pk_loop (fun fu k S' => wp_Mo_rebase_65 Ln Q fu (30, 0) (nI (k - g)) (nI k) S')
    (fun k S' => loX S S' ∧ (∀ i : gI, 43 < i.1 → i.1 ≠ 45 → S'.1 i = S.1 i) ∧ S'.1 (30, 0) = S.1 (30, 0) ∧ rfD T nf us (drR ri od (min k g)) (drF F od (min k g)) S' ∧ ∀ t, t < od.length → S'.1 (45, 0) t = nI (od.getD (if t + g < k then t + g else t) 0)) od.length 0 S (Nat.zero_le _) ⟨loX.rf S, fun _ _ _ => rfl, rfl, by rw [Nat.zero_min]; exact hr.1, fun t ht => by rw [if_neg (by omega)]; exact hr.2.2.2.2.2.1.2 t ht⟩ ?_ ?_
  · rw [Nat.zero_sub] at key; exact key
  · rintro m S' ⟨hx, oh, h30, hD, h45⟩
    unfold wp_Mo_rebase_65
    rw [h30, hr.2.2.2.2.2.1.1]
    refine br_t (nI_le (Nat.le_refl _) (by omega)) ?_
    rintro _ rfl
    rw [Nat.min_eq_right hgl] at hD
    obtain ⟨p1, p2, p3, p4, p5, p6, p7, p8⟩ := hr
    have o : ∀ k, k ≠ 30 → (gset S' (30, 0) 30 (nI (od.length - g))).1 (30, 0) k = S.1 (30, 0) k := fun k hk => by rw [gset_n (Or.inr hk), h30]
    have oh' : ∀ i : gI, 43 < i.1 → i.1 ≠ 45 → (gset S' (30, 0) 30 (nI (od.length - g))).1 i = S.1 i := fun i hi h => by rw [gset_o (by rintro rfl; simp at hi)]; exact oh i hi h
    refine hq _ (hx.tr (loX.set (by simp))) (o 0 (by omega)) ⟨rfD_of (fun i a b => gset_o (by rintro rfl; simp at a)) (gset_n (Or.inr (by omega))) (gset_n (Or.inr (by omega))) hD, ?_, ?_, ?_, ?_, ⟨?_, ?_⟩, ?_, ?_⟩
    · unfold rT rfB; rw [o 33 (by omega), oh' (47, 0) (by simp) (by simp)]; exact p2
    · unfold rV; rw [o 19 (by omega), o 20 (by omega), o 21 (by omega), o 22 (by omega), o 28 (by omega)]; exact p3
    · unfold rS; rw [o 26 (by omega), o 23 (by omega), o 24 (by omega), o 25 (by omega)]; exact p4
    · unfold rM; rw [o 1 (by omega), o 2 (by omega), o 27 (by omega), o 29 (by omega)]; exact p5
    · rw [gset_s, List.length_drop]
    · intro k hk
      rw [List.length_drop] at hk
      rw [gset_o (by simp), getD_drop]
      have := h45 k (by omega)
      rw [if_pos (by omega)] at this
      rw [show g + k = k + g by omega]; exact this
    · unfold rE; rw [oh' (46, 0) (by simp) (by simp)]; exact p7
    · unfold rK; rw [oh' (44, 0) (by simp) (by simp)]; exact p8
  · rintro m k S' hk ⟨hx, oh, h30, hD, h45⟩ ih
    have hof := ho k hk
    have e45 := h45 k hk
    rw [if_neg (by omega)] at e45
    have hin : vp_in (nI k) 12 := vp_in_nI (by omega) (by omega)
    have e31 : grf (30, 0) 31 = (45, 0) := rfl
    have l45 := hL.2.1.2.2.2.2.2.2.2.2.2.1
    -- removed
    have rem : k < g → wp_Mo_rebase_133 Ln (fun z0 z1 z2 zS => wp_Mo_rebase_65 Ln Q m z0 z1 z2 zS) Q (30, 0) (nI (k - g)) (nI k) S' := by
      intro hkg
      unfold wp_Mo_rebase_133
      rw [e31, l45, nI_clamp (by omega), e45]
      refine ⟨hin, rf_remove hL.2.1 hD hof.2 rfl ?_⟩
      intro S2 x2 hD2
      unfold wp_Mo_rebase_144
      rintro _ rfl
      rw [nI_1, show k - g = k + 1 - g by omega]
      refine ih S2 ⟨hx.tr x2.lo, fun i a b => (x2.2 i (by omega)).trans (oh i a b), (x2.2 _ (by simp)).trans h30, ?_, fun t ht => ?_⟩
      · rw [Nat.min_eq_left (by omega)] at hD2
        rw [Nat.min_eq_left (by omega)]
        exact hD2
      · rw [x2.2 _ (by simp), if_neg (by omega)]
        have := h45 t ht
        rw [if_neg (by omega)] at this
        exact this
    have kep : g ≤ k → wp_Mo_rebase_114 Ln (fun z0 z1 z2 zS => wp_Mo_rebase_65 Ln Q m z0 z1 z2 zS) Q (30, 0) (nI (k - g)) (nI k) S' := by
      intro hkg
      unfold wp_Mo_rebase_114
      rw [e31, l45, nI_clamp (by omega), nI_clamp (by omega), e45]
      refine ⟨hin, vp_in_nI (by omega) (by omega), ?_⟩
      rintro _ rfl _ rfl
      unfold wp_Mo_rebase_144
      rintro _ rfl
      rw [nI_1, nI_1, show k - g + 1 = k + 1 - g by omega]
      refine ih _ ⟨hx.tr (loX.set (by simp)), fun i a b => ?_, ?_, ?_, fun t ht => ?_⟩
      · rw [gset_o (by rintro rfl; simp at b)]; exact oh i a b
      · rw [gset_o (by simp)]; exact h30
      · rw [Nat.min_eq_right (by omega)] at hD ⊢
        exact rfD_of (fun i a b => gset_o (by rintro rfl; simp at b)) (congrFun (gset_o (by simp)) 3) (congrFun (gset_o (by simp)) 11) hD
      · by_cases e : t = k - g
        · subst e
          rw [gset_s, if_pos (by omega), show k - g + g = k by omega]
        · rw [gset_n (Or.inr e)]
          have := h45 t ht
          by_cases e2 : t + g < k
          · rw [if_pos e2] at this; rw [if_pos (by omega)]; exact this
          · rw [if_neg e2] at this; rw [if_neg (by omega)]; exact this
    unfold wp_Mo_rebase_65
    rw [h30, hr.2.2.2.2.2.1.1, hr.2.2.2.2.1.2.2.1, hr.2.2.2.1.2.1]
    refine br_f (nI_ge hk (by omega)) ?_
    rcases hgp with ⟨g1, g2⟩ | ⟨g1, g2, g3, g4⟩
    · exact br_t (nI_le (by omega) (by omega)) (rem (by omega))
    · refine br_f (nI_ge g1 (by omega)) ?_
      rw [e31, l45, nI_clamp (by omega), e45]
      refine ⟨hin, ?_⟩
      have hrk : drR ri od (min k g) (od.getD k 0) = ri (od.getD k 0) := (dr_out (F := F) (min k g) (fun t ht => hd t k (by omega) hk)).2.2.2.2
      obtain ⟨w1, w2, w3⟩ := hrow k hk
      have hrl := (hD.2.1 (od.getD k 0) (by omega))
      rw [hrk] at hrl
      have hfk := hfo k hk
      unfold wp_Mo_lastOf
      refine rf_firstOf hL.2.1 hD (by omega) rfl (by rw [hrk]; exact w1) ?_
      rw [hrk, w2, show grf (30, 0) 13 = (39, 0) from rfl, hL.2.1.2.2.2.1, nI_clamp (by omega), hrl.2.1, nI_add]
      refine ⟨vp_in_nI (by omega) (by omega), ?_⟩
      dsimp only
      rw [h30, hr.2.2.2.1.2.1, hr.2.2.2.2.2.1.1, show (1 : Int32) = nI 1 from rfl, pk_sub (show 1 ≤ od.length by omega), show (2 : Int32) = nI 2 from rfl, pk_sub (by omega)]
      refine pk_lt nb (fo (od.getD k 0) + (ri (od.getD k 0)).length - 2) (fun hlt => kep ?_) (fun hge => (pk_eq k (od.length - 1) (fun e => kep (by omega)) (fun e => rem ?_) rfl rfl (by omega) (by omega)) |> fun h => ⟨h.2, h.1⟩) rfl rfl (by omega) (by omega)
      · rcases Nat.lt_or_ge k g with z | z
        · have a := g3 (k + 1) (by omega) (by omega)
          have b := hch k (by omega)
          omega
        · exact z
      · rcases Nat.lt_or_ge k g with z | z
        · exact z
        · have b := hch k (by omega)
          rcases g4 with y | y
          · omega
          · have c := hmono (g + 1) (k - g) (by omega)
            rw [show g + 1 + (k - g) = k + 1 by omega] at c
            omega
theorem r_rebase {Ln : gI → Nat} {M : Nat} {fc : Int32} {F : gF} {tp : List Nat} {tm vo : Int32} {ti sl fh : Nat} {sf : Int32} {bs nb : Nat} {bt cd : Int32} {la la' di : Nat} {od : List Nat} {kp : Nat → Int32} {T : Nat → gFr} {nf us : Nat} {ri : Nat → List Nat} {en : Nat → Nat} {fo : Nat → Nat} {S : gS} {g g0 : Nat} {v w : Int32} {Q : gS → Prop}
    (hL : aL Ln M) (hr : rl M fc F tp tm vo ti sl fh sf bs bt cd la di od kp T nf us ri en S) (h12 : od.length ≤ 12) (ho : ∀ k, k < od.length → 4 ≤ od.getD k 0 ∧ od.getD k 0 < 16) (hd : ∀ k q, k < q → q < od.length → od.getD k 0 ≠ od.getD q 0)
    (hrow : ∀ k, k < od.length → 0 < (ri (od.getD k 0)).length ∧ (T ((ri (od.getD k 0)).getD 0 0)).a = nI (fo (od.getD k 0)) ∧ 1 ≤ fo (od.getD k 0)) (hch : ∀ k, k + 1 < od.length → fo (od.getD (k + 1) 0) = fo (od.getD k 0) + ((ri (od.getD k 0)).length - 1))
    (hfo : ∀ k, k < od.length → fo (od.getD k 0) < 2 ^ 30) (hnb : nb < 2 ^ 29) (hla : la < 2 ^ 29) (hmono : ∀ t d, t + d < od.length → fo (od.getD t 0) ≤ fo (od.getD (t + d) 0)) (hbl : bs ≤ la) (hl3 : la ≤ bs + 300) (hbn : bs < nb)
    (hcase : (nb ≤ la ∧ g0 = nb - bs ∧ la' = la) ∨ (la ≤ nb ∧ g0 = la - bs ∧ la' = nb)) (hgp : gnP la' nb od fo g) (hv : v = nI nb) (hw : w = nI g0)
    (hq : ∀ S', loX S S' → S'.1 (30, 0) 0 = S.1 (30, 0) 0 → rl M fc (drF F od g) tp tm vo ti sl fh sf nb bt cd la' di (od.drop g) kp T nf us (drR ri od g) en S' → Q S') : wp_Mo_rebase Ln Q (30, 0) v w S := by
  subst hv hw
  obtain ⟨p1, p2, p3, p4, p5, p6, p7, p8⟩ := id hr
  unfold wp_Mo_rebase
  refine pk_loop (fun fu k S' => wp_Mo_rebase_2 Ln Q fu (30, 0) (nI nb) (nI g0) (nI k) S')
    (fun k S' => g0 ≤ k ∧ loX S S' ∧ (∀ i : gI, 30 ≤ i.1 → i.1 ≠ 46 → S'.1 i = S.1 i) ∧ ∀ t, t < la - bs → S'.1 (46, 0) t = if t + g0 < k then S.1 (46, 0) (t + g0) else S.1 (46, 0) t) (la - bs) g0 S (by omega) ⟨Nat.le_refl _, loX.rf S, fun _ _ _ => rfl, fun t ht => by rw [if_neg (by omega)]⟩ ?_ ?_
  · rintro m S' ⟨-, hx, oh, h46⟩
    unfold wp_Mo_rebase_2
    rw [oh (30, 0) (by simp) (by simp), p5.2.2.1, p4.2.1, pk_sub hbl]
    refine br_t (nI_le (Nat.le_refl _) (by omega)) ?_
    rintro _ rfl
    have e27 : (gset S' (30, 0) 23 (nI nb)).1 (30, 0) 27 = nI la := by rw [gset_n (Or.inr (by omega)), oh (30, 0) (by simp) (by simp)]; exact p5.2.2.1
    rw [e27]
    have go : wp_Mo_rebase_57 Ln Q (30, 0) (30, 0) (nI la') (gset S' (30, 0) 23 (nI nb)) := by
      unfold wp_Mo_rebase_57
      rintro _ rfl
      have o : ∀ k, k ≠ 23 → k ≠ 27 → (gset (gset S' (30, 0) 23 (nI nb)) (30, 0) 27 (nI la')).1 (30, 0) k = S.1 (30, 0) k := fun k a b => by rw [gset_n (Or.inr b), gset_n (Or.inr a), oh (30, 0) (by simp) (by simp)]
      have oh' : ∀ i : gI, 30 < i.1 → i.1 ≠ 46 → (gset (gset S' (30, 0) 23 (nI nb)) (30, 0) 27 (nI la')).1 i = S.1 i := fun i a b => by rw [gset_o (by rintro rfl; simp at a), gset_o (by rintro rfl; simp at a), oh i (by omega) b]
      have hrl : rl M fc F tp tm vo ti sl fh sf nb bt cd la' di od kp T nf us ri en (gset (gset S' (30, 0) 23 (nI nb)) (30, 0) 27 (nI la')) := by
        refine ⟨rfD_of (fun i a b => oh' i (by omega) (by omega)) (o 3 (by omega) (by omega)) (o 11 (by omega) (by omega)) p1, ?_, ?_, ⟨?_, ?_, ?_, ?_⟩, ⟨?_, ?_, ?_, ?_⟩, ?_, ?_, ?_⟩
        · unfold rT rfB; rw [o 33 (by omega) (by omega), oh' (47, 0) (by simp) (by simp)]; exact p2
        · unfold rV; rw [o 19 (by omega) (by omega), o 20 (by omega) (by omega), o 21 (by omega) (by omega), o 22 (by omega) (by omega), o 28 (by omega) (by omega)]; exact p3
        · rw [o 26 (by omega) (by omega)]; exact p4.1
        · rw [gset_n (Or.inr (by omega)), gset_s]
        · rw [o 24 (by omega) (by omega)]; exact p4.2.2.1
        · rw [o 25 (by omega) (by omega)]; exact p4.2.2.2
        · rw [o 1 (by omega) (by omega)]; exact p5.1
        · rw [o 2 (by omega) (by omega)]; exact p5.2.1
        · rw [gset_s]
        · rw [o 29 (by omega) (by omega)]; exact p5.2.2.2
        · unfold rG; rw [o 30 (by omega) (by omega), oh' (45, 0) (by simp) (by simp)]; exact p6
        · intro i h1 h2
          rcases hcase with ⟨a, b, c⟩ | ⟨a, b, c⟩
          · rw [gset_o (by simp), gset_o (by simp), h46 _ (by omega), if_pos (by omega), show i - nb - 1 + g0 = i - bs - 1 by omega]
            exact p7 i (by omega) (by omega)
          · omega
        · unfold rK; rw [oh' (44, 0) (by simp) (by simp)]; exact p8
      refine r_segs hL hrl h12 ho hd hrow hch hfo hnb (by omega) hmono hgp ?_
      · intro S2 x2 t2 hr2
        exact hq S2 (((hx.tr (loX.set (by simp))).tr (loX.set (by simp))).tr x2) (t2.trans (o 0 (by omega) (by omega))) hr2
    refine pk_le nb la (fun h => ?_) (fun h => ?_) rfl rfl (by omega) (by omega)
    · rcases hcase with ⟨a, b, c⟩ | ⟨a, b, c⟩
      · rw [c] at go; exact go
      · rw [c, show nb = la by omega] at go
        rw [show nb = la by omega]
        exact go
    · rcases hcase with ⟨a, b, c⟩ | ⟨a, b, c⟩
      · omega
      · rw [c] at go; exact go
  · rintro m k S' hk ⟨hgk, hx, oh, h46⟩ ih
    unfold wp_Mo_rebase_2
    have e := h46 k hk
    have hg0 : 1 ≤ g0 := by omega
    rw [if_neg (by omega)] at e
    rw [oh (30, 0) (by simp) (by simp), p5.2.2.1, p4.2.1, pk_sub hbl, pk_sub hgk, show grf (30, 0) 32 = (46, 0) from rfl, hL.2.1.2.2.2.2.2.2.2.2.2.2.1, nI_clamp (by omega), nI_clamp (by omega), e]
    refine br_f (nI_ge hk (by omega)) ⟨vp_in_nI (by omega) (by omega), vp_in_nI (by omega) (by omega), ?_⟩
    rintro _ rfl _ rfl
    rw [nI_1]
    refine ih _ ⟨by omega, hx.tr (loX.set (by simp)), fun i a b => ?_, fun t ht => ?_⟩
    · rw [gset_o (by rintro rfl; simp at b)]; exact oh i a b
    · by_cases e2 : t = k - g0
      · subst e2
        rw [gset_s, if_pos (by omega), show k - g0 + g0 = k by omega]
      · rw [gset_n (Or.inr e2)]
        have := h46 t ht
        by_cases e3 : t + g0 < k
        · rw [if_pos e3] at this; rw [if_pos (by omega)]; exact this
        · rw [if_neg e3] at this; rw [if_neg (by omega)]; exact this
