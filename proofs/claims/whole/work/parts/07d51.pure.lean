theorem r_firstSegment {Ln : gI → Nat} {M n nf us : Nat} {F : gF} {T : Nat → gFr} {ri : Nat → List Nat} {bs : Nat} {bt : Int32} {S : gS} {Q : Int32 → gS → Prop} (hL : aL Ln M) (h : wL n bs F T ri) (hD : rfD T nf us ri F S) (h23 : S.1 (30, 0) 23 = nI bs) (h24 : S.1 (30, 0) 24 = bt)
    (h1 : ∀ t, 4 ≤ t → t < 16 → (fsS bs T F ri 12).1 = nI t → 0 < sgW T F ri t → sgI T ri t ≤ bs + 1 → hold bs bt T F ri t → Q (nI t) S) (h0 : (∀ t, 4 ≤ t → t < 16 → (fsS bs T F ri 12).1 = nI t → ¬ hold bs bt T F ri t) → Q (-1 : Int32) S) : wp_Mo_firstSegment Ln Q (30, 0) S := by
  have hbs := h.2.2.2.2
  have hnf := hD.1.1
  have fst : ∀ f, 4 ≤ f → f < 16 → 0 < sgW T F ri f → ∀ R : Int32 → gS → Prop, R (nI (sgI T ri f)) S → wp_Mo_firstOf Ln R (30, 0) (nI f) S := by
    intro f a b c R hR
    obtain ⟨f1, f2, f3, f4, f5, f6⟩ := sg_facts h a b c
    refine rf_firstOf hL.2.1 hD (by omega) rfl f1 ?_
    have := (f5 0 f1).2
    rw [show sgI T ri f + (0 - 1) = sgI T ri f by omega] at this
    rw [this]; exact hR
  unfold wp_Mo_firstSegment
  have key := pk_loop (fun fu k S' => wp_Mo_firstSegment_4 Ln Q fu (30, 0) (fsS bs T F ri k).1 (nI (4 + k)) S') (fun k S' => k ≤ 12 ∧ S' = S) 12 0 S (Nat.zero_le _) ⟨by omega, rfl⟩ ?_ ?_
  · exact key
  · rintro m S1 ⟨-, e1⟩
    rw [e1]
    unfold wp_Mo_firstSegment_4
    refine br_t (by decide) ?_
    rcases fs_ok h 12 (by omega) with e | ⟨t, t1, t2, t3, t4, t5⟩
    · rw [e]
      refine br_f (by decide) (h0 (fun t a b z => ?_))
      rw [e] at z
      have : (-1 : Int32).toInt = (nI t).toInt := by rw [← z]
      rw [nI_toInt (by omega)] at this
      have : (-1 : Int32).toInt = -1 := by decide
      omega
    · obtain ⟨f1, f2, f3, f4, f5, f6⟩ := sg_facts h t1 (by omega) t4
      have no : ¬ hold bs bt T F ri t → Q (-1 : Int32) S := fun hno => h0 (fun u a b z => by
        rw [t3, nI_eq (by omega) (by omega)] at z
        rw [← z]; exact hno)
      have yes : hold bs bt T F ri t → Q (nI t) S := fun hh => h1 t t1 (by omega) (by rw [t3]) t4 t5 hh
      rw [t3]
      refine br_t (nI_pos' (by omega)) (fst t t1 (by omega) t4 _ ?_)
      rw [h23, h24, nI_1]
      have A : sgI T ri t ≠ bs + 1 → wp_Mo_firstOf Ln (fun r7 S6 => ∀ v2_8 : Int32, v2_8 = (nI bs - r7) + 1 → (wp_Mo_whole Ln (fun r10 S9 => ((r10 ≤ v2_8) → (Q (-1 : Int32) S9)) ∧ ((¬ r10 ≤ v2_8) → (vp_in ((330 * nI t) + v2_8) (Ln (grf (30, 0) 12)) ∧ (vp_in (S9.1 (grf (30, 0) 12) ((330 * nI t) + v2_8).toNatClampNeg) (Ln (grf (30, 0) 6)) ∧ (((¬ (S9.1 (grf (30, 0) 6) (S9.1 (grf (30, 0) 12) ((330 * nI t) + v2_8).toNatClampNeg).toNatClampNeg) = (S9.1 (30, 0) 24)) → (Q (-1 : Int32) S9)) ∧ (((S9.1 (grf (30, 0) 6) (S9.1 (grf (30, 0) 12) ((330 * nI t) + v2_8).toNatClampNeg).toNatClampNeg) = (S9.1 (30, 0) 24)) → (Q (nI t) S9))))))) (30, 0) (nI t) S6)) (30, 0) (nI t) S := by
        intro hne
        refine fst t t1 (by omega) t4 _ ?_
        rw [pk_sub (by omega), nI_1]
        rintro _ rfl
        refine rf_whole hL.2.1 hD (by omega) rfl ?_
        have hw : rfW T (ri t) (F.sz t) = sgW T F ri t := rfl
        have h330 := (hD.2.1 t (by omega)).1
        rw [hw]
        refine pk_le (sgW T F ri t) (bs - sgI T ri t + 1) (fun hle => no (fun z => ?_)) (fun hgt => ?_) rfl rfl (by omega) (by omega)
        · have := (z.2 hne).1
          unfold sgE at this
          omega
        · obtain ⟨r1, r2, r3, r4⟩ := rf_row hD (show t < 32 by omega) (show bs - sgI T ri t + 1 < (ri t).length by omega)
          rw [show (330 : Int32) = nI 330 from rfl, pk_mul, nI_add, show grf (30, 0) 12 = (38, 0) from rfl, show grf (30, 0) 6 = (33, 0) from rfl, hL.2.1.2.2.1, hL.2.1.1 33 (by omega) (by omega), nI_clamp (by omega), r1, nI_clamp (by omega), (rf_fr hD.1 r2).2.2.1, h24]
          have e1 : bs + 1 - sgI T ri t = bs - sgI T ri t + 1 := by omega
          refine ⟨vp_in_nI (by omega) (by omega), vp_in_nI (by omega) (by omega), fun hb => no (fun z => hb ?_), fun hb => yes ⟨fun z => absurd z hne, fun _ => ⟨?_, ?_⟩⟩⟩
          · have := (z.2 hne).2
            rw [e1] at this; exact this
          · unfold sgE; omega
          · rw [e1]; exact hb
      refine (pk_eq (sgI T ri t) (bs + 1) (fun hi => ?_) A rfl rfl (by omega) (by omega)) |> fun h => ⟨h.2, h.1⟩
      obtain ⟨r1, r2, r3, r4⟩ := rf_row hD (show t < 32 by omega) f1
      rw [Nat.add_zero] at r1
      rw [show (330 : Int32) = nI 330 from rfl, pk_mul, show grf (30, 0) 12 = (38, 0) from rfl, show grf (30, 0) 6 = (33, 0) from rfl, hL.2.1.2.2.1, hL.2.1.1 33 (by omega) (by omega), nI_clamp (by omega), r1, nI_clamp (by omega), (rf_fr hD.1 r2).2.2.1]
      exact ⟨vp_in_nI (by omega) (by omega), vp_in_nI (by omega) (by omega), fun hb => no (fun z => hb (z.1 hi)), fun hb => yes ⟨fun _ => hb, fun z => absurd hi z⟩⟩
  · rintro m k S1 hk ⟨-, e1⟩ ih
    rw [e1]
    have ih2 := ih S ⟨by omega, rfl⟩
    have e : fsS bs T F ri (k + 1) = if 0 < sgW T F ri (4 + k) ∧ (fsS bs T F ri k).2 < sgI T ri (4 + k) ∧ sgI T ri (4 + k) ≤ bs + 1 then (nI (4 + k), sgI T ri (4 + k)) else fsS bs T F ri k := rfl
    have skip : ¬ (0 < sgW T F ri (4 + k) ∧ (fsS bs T F ri k).2 < sgI T ri (4 + k) ∧ sgI T ri (4 + k) ≤ bs + 1) → wp_Mo_firstSegment_51 Ln (fun z0 z1 z2 zS => wp_Mo_firstSegment_4 Ln Q m z0 z1 z2 zS) Q (30, 0) (fsS bs T F ri k).1 (nI (4 + k)) S := by
      intro hno
      unfold wp_Mo_firstSegment_51
      rintro _ rfl
      rw [nI_1, show 4 + k + 1 = 4 + (k + 1) by omega]
      rw [e, if_neg hno] at ih2; exact ih2
    have take_ : (0 < sgW T F ri (4 + k) ∧ (fsS bs T F ri k).2 < sgI T ri (4 + k) ∧ sgI T ri (4 + k) ≤ bs + 1) → wp_Mo_firstSegment_49 Ln (fun z0 z1 z2 zS => wp_Mo_firstSegment_4 Ln Q m z0 z1 z2 zS) Q (30, 0) (nI (4 + k)) S := by
      intro hyes
      unfold wp_Mo_firstSegment_49 wp_Mo_firstSegment_51
      rintro _ rfl
      rw [nI_1, show 4 + k + 1 = 4 + (k + 1) by omega]
      rw [e, if_pos hyes] at ih2; exact ih2
    unfold wp_Mo_firstSegment_4
    refine br_f (nI_ge (b := 16) (show 4 + k < 16 by omega) (by omega)) (rf_whole hL.2.1 hD (by omega) rfl ?_)
    have hw : rfW T (ri (4 + k)) (F.sz (4 + k)) = sgW T F ri (4 + k) := rfl
    have hwl := rfW_le (T := T) (l := ri (4 + k)) (s := F.sz (4 + k))
    have h330 := (hD.2.1 (4 + k) (by omega)).1
    rw [hw]
    refine pk_le (sgW T F ri (4 + k)) 0 (fun hle => skip (by omega)) (fun hpos => ?_) rfl rfl (by omega) (by omega)
    obtain ⟨f1, f2, f3, f4, f5, f6⟩ := sg_facts h (show 4 ≤ 4 + k by omega) (by omega) hpos
    refine fst (4 + k) (by omega) (by omega) hpos _ ?_
    rw [h23, nI_1]
    refine pk_lt (bs + 1) (sgI T ri (4 + k)) (fun hgt => skip (by omega)) (fun hle => ?_) rfl rfl (by omega) (by omega)
    rcases fs_ok h k (by omega) with z | ⟨t, t1, t2, t3, t4, t5⟩
    · have ez : (fsS bs T F ri k).1 = -1 := by rw [z]
      refine br_t (by rw [ez]; decide) (take_ ⟨hpos, ?_, hle⟩)
      rw [z]; exact f3
    · have ez : (fsS bs T F ri k).1 = nI t := by rw [t3]
      have ez2 : (fsS bs T F ri k).2 = sgI T ri t := by rw [t3]
      have t6 := (sg_facts h t1 (by omega) t4).2.2.2.2.2
      rw [ez] at skip ⊢
      refine br_f (nI_pos (by omega)) (fst (4 + k) (by omega) (by omega) hpos _ (fst t t1 (by omega) t4 _ ?_))
      refine pk_le (sgI T ri (4 + k)) (sgI T ri t) (fun hle2 => skip (by omega)) (fun hgt2 => take_ ⟨hpos, by omega, hle⟩) rfl rfl (by omega) (by omega)
/-- the reference while it joins segments -/
def rJ (bs : Nat) (bt : Int32) (T : Nat → gFr) (F : gF) (ri : Nat → List Nat) (nf us : Nat) (D : List Nat) (la : Nat) (S0 S : gS) : Prop :=
  loX S0 S ∧ (∀ k, k ≠ 27 → k ≠ 30 → S.1 (30, 0) k = S0.1 (30, 0) k) ∧ S.1 (44, 0) = S0.1 (44, 0) ∧ S.1 (47, 0) = S0.1 (47, 0) ∧ rfD T nf us (ctR T F ri D) (ctF T F ri D) S ∧ S.1 (30, 0) 27 = nI la ∧ S.1 (30, 0) 23 = nI bs ∧ S.1 (30, 0) 24 = bt ∧ rG D S ∧ ∀ i, bs < i → i ≤ la → S.1 (46, 0) (i - bs - 1) = nI (enD T F ri D i)
theorem r_join {Ln : gI → Nat} {M n nf us : Nat} {F : gF} {T : Nat → gFr} {ri : Nat → List Nat} {bs la t : Nat} {bt : Int32} {D : List Nat} {S0 S : gS} {v : Int32} {Q : gS → Prop} (hL : aL Ln M) (h : wL n bs F T ri) (hJ : rJ bs bt T F ri nf us D la S0 S) (hC : 4 ≤ t ∧ t < 16 ∧ 0 < sgW T F ri t) (hnew : t ∉ D) (h12 : D.length < 12) (hlb : bs ≤ la) (hlt : la < sgI T ri t ∨ la = bs) (hle : la ≤ sgE T F ri t) (hlc : la < bs + 302) (hcc : la + 1 = sgI T ri t ∨ (la = bs ∧ sgI T ri t ≤ bs + 1)) (hv : v = nI t)
    (hq : ∀ S', rJ bs bt T F ri nf us (D ++ [t]) (sgE T F ri t) S0 S' → Q S') : wp_Mo_join Ln Q (30, 0) v S := by
  subst hv
  obtain ⟨t1, t2, t3⟩ := hC
  have hbs := h.2.2.2.2
  obtain ⟨f1, f2, f3, f4, f5, f6⟩ := sg_facts h t1 t2 t3
  obtain ⟨j1, j2, j3, j4, hD, j27, j23, j24, jG, jE⟩ := hJ
  have hnf := hD.1.1
  obtain ⟨x1, x2, x3⟩ := ct_out (T := T) (F := F) (ri := ri) D F ri hnew
  have hrow : ctR T F ri D t = ri t := x3
  have hcon : (ctF T F ri D).1 t = F.1 t := x1
  have hsz : (ctF T F ri D).sz t = F.sz t := congrArg List.length hcon
  have h330 := (hD.2.1 t (by omega)).1
  rw [hrow] at h330
  have hFs := (hD.2.2.1.1 t (by omega)).1
  rw [hsz] at hFs
  have hP := h.2.1 t (by omega)
  have hzle : sgZ T F ri t ≤ F.sz t := rfW_size hP
  unfold wp_Mo_join
  refine rf_whole hL.2.1 hD (by omega) rfl ?_
  rw [hrow, hsz, show rfW T (ri t) (F.sz t) = sgW T F ri t from rfl]
  have key := pk_loop (fun fu k S' => wp_Mo_join_11 Ln Q fu (30, 0) (nI t) (nI (sgW T F ri t)) (nI (rfC T ((ri t).take k)).length) (nI k) S')
    (fun k S' => (∀ i : gI, i ≠ (30, 0) → i.1 ≠ 46 → S'.1 i = S.1 i) ∧ S'.2 = S.2 ∧ (∀ q, q ≠ 27 → S'.1 (30, 0) q = S.1 (30, 0) q) ∧ S'.1 (30, 0) 27 = nI (if 2 ≤ k ∧ bs < sgI T ri t + k - 2 then sgI T ri t + k - 2 else la) ∧ (∀ i, bs < i → sgI T ri t ≤ i → i + 2 ≤ sgI T ri t + k → S'.1 (46, 0) (i - bs - 1) = nI ((ri t).getD (i + 1 - sgI T ri t) 0)) ∧ (∀ i, bs < i → i < sgI T ri t → S'.1 (46, 0) (i - bs - 1) = S.1 (46, 0) (i - bs - 1)))
    (sgW T F ri t) 0 S (Nat.zero_le _) ⟨fun _ _ _ => rfl, rfl, fun _ _ => rfl, by rw [if_neg (by omega)]; exact j27, fun i a b c => by omega, fun _ _ _ => rfl⟩ ?_ ?_
  · rw [List.take_zero, rfC_nil] at key; exact key
  · rintro m S1 ⟨o1, o2, o3, o27, oE, oO⟩
    have hD1 : rfD T nf us (ctR T F ri D) (ctF T F ri D) S1 := rfD_of (fun i a b => o1 i (by rintro rfl; simp at a) (by omega)) (o3 3 (by omega)) (o3 11 (by omega)) hD
    unfold wp_Mo_join_11
    refine br_t (nI_le (Nat.le_refl _) (by omega)) ?_
    refine rf_cut hL.2.1 hD1 t2 (by rw [hsz]; exact hzle) rfl rfl ?_
    intro S2 m' m1 m2 m3 x5 hD2
    rw [hrow] at m1 m2 m3 hD2
    have em : m' = sgW T F ri t := by
      have a := cut_uniq m1 m2 m3
      have b := cut_uniq (T := T) (l := ri t) (n := (rfC T ((ri t).take (sgW T F ri t))).length) (m := sgW T F ri t) f2 (Or.inr (Nat.le_refl _)) (fun j hj => rfC_lt' T hj f2)
      omega
    subst em
    have e30 : S2.1 (30, 0) 30 = nI D.length := by rw [x5.2 _ (by simp), o3 30 (by omega)]; exact jG.1
    rw [e30, show grf (30, 0) 31 = (45, 0) from rfl, hL.2.1.2.2.2.2.2.2.2.2.2.1, nI_clamp (by omega)]
    refine ⟨vp_in_nI (by omega) (by omega), ?_⟩
    rintro _ rfl _ rfl
    rw [gset_o (by simp), e30, nI_1]
    have ok : ∀ q, q ≠ 27 → q ≠ 30 → (gset (gset S2 (45, 0) D.length (nI t)) (30, 0) 30 (nI (D.length + 1))).1 (30, 0) q = S.1 (30, 0) q := fun q a b => by rw [gset_n (Or.inr b), gset_o (by simp), x5.2 _ (by simp), o3 q a]
    have oh : ∀ i : gI, 43 < i.1 → i.1 ≠ 45 → i.1 ≠ 46 → (gset (gset S2 (45, 0) D.length (nI t)) (30, 0) 30 (nI (D.length + 1))).1 i = S.1 i := fun i a b c => by
      rw [gset_o (by rintro rfl; simp at a), gset_o (by rintro rfl; simp at b), x5.2 i (by omega), o1 i (by rintro rfl; simp at a) c]
    have hlast : (if 2 ≤ sgW T F ri t ∧ bs < sgI T ri t + sgW T F ri t - 2 then sgI T ri t + sgW T F ri t - 2 else la) = sgE T F ri t := by
      have hE : sgE T F ri t = sgI T ri t + sgW T F ri t - 2 := rfl
      rw [hE] at hle ⊢
      split
      · rfl
      · rename_i hneg
        have hneg2 : sgW T F ri t < 2 ∨ sgI T ri t + sgW T F ri t - 2 ≤ bs := by
          by_cases z : 2 ≤ sgW T F ri t
          · exact Or.inr (Nat.le_of_not_lt fun y => hneg ⟨z, y⟩)
          · exact Or.inl (by omega)
        omega
    refine hq _ ⟨?_, fun q a b => (ok q a b).trans (j2 q a b), (oh _ (by simp) (by simp) (by simp)).trans j3, (oh _ (by simp) (by simp) (by simp)).trans j4, ?_, ?_, ?_, ?_, ⟨?_, ?_⟩, fun i a b => ?_⟩
    · refine ⟨?_, fun i hi => ?_⟩
      · show S2.2 = S0.2
        rw [x5.1, o2, j1.1]
      · rw [gset_o (by rintro rfl; simp at hi), gset_o (by rintro rfl; simp at hi), x5.2 i (by omega), o1 i (by rintro rfl; simp at hi) (by omega)]
        exact j1.2 i hi
    · rw [ctF_snoc, ctR_snoc]
      exact rfD_of (fun i a b => by rw [gset_o (by rintro rfl; simp at a), gset_o (by rintro rfl; simp at b)]) (by rw [gset_n (Or.inr (by omega)), gset_o (by simp)]) (by rw [gset_n (Or.inr (by omega)), gset_o (by simp)]) hD2
    · rw [gset_n (Or.inr (by omega)), gset_o (by simp), x5.2 _ (by simp), o27, hlast]
    · rw [ok 23 (by omega) (by omega)]; exact j23
    · rw [ok 24 (by omega) (by omega)]; exact j24
    · rw [gset_s, List.length_append]; rfl
    · intro k hk
      rw [List.length_append] at hk
      rw [gset_o (by simp)]
      by_cases e : k = D.length
      · subst e; rw [gset_s, getD_snoc_r]
      · have hk2 : k < D.length := by simp at hk; omega
        rw [gset_n (Or.inr e), getD_snoc_l hk2, x5.2 _ (by simp), o1 _ (by simp) (by simp)]
        exact jG.2 k hk2
    · rw [gset_o (by simp), gset_o (by simp), x5.2 _ (by simp), enD_snoc]
      by_cases e : sgI T ri t ≤ i
      · have hi2 : i + 2 ≤ sgI T ri t + sgW T F ri t := by
          have hE : sgE T F ri t = sgI T ri t + sgW T F ri t - 2 := rfl
          rw [hE] at b; omega
        rw [if_pos ⟨e, hi2⟩]
        exact oE i a e hi2
      · rw [if_neg (by omega), oO i a (by omega)]
        exact jE i a (by omega)
  · rintro m k S1 hk ⟨o1, o2, o3, o27, oE, oO⟩ ih
    have hD1 : rfD T nf us (ctR T F ri D) (ctF T F ri D) S1 := rfD_of (fun i a b => o1 i (by rintro rfl; simp at a) (by omega)) (o3 3 (by omega)) (o3 11 (by omega)) hD
    obtain ⟨r1, r2, r3, r4⟩ := rf_row hD1 (show t < 32 by omega) (show k < (ctR T F ri D t).length by rw [hrow]; omega)
    rw [hrow] at r1 r2 r4
    have hkl : k < (ri t).length := by omega
    obtain ⟨g1, g2⟩ := f5 k hkl
    obtain ⟨q1, q2, q3, q4, q5⟩ := rf_fr hD1.1 r2
    have hnext : nI (rfC T ((ri t).take k)).length + nI (frE (T ((ri t).getD k 0))).length = nI (rfC T ((ri t).take (k + 1))).length := by rw [nI_add, rfC_take hkl, List.length_append]
    unfold wp_Mo_join_11
    rw [show grf (30, 0) 12 = (38, 0) from rfl, show grf (30, 0) 5 = (32, 0) from rfl, show grf (30, 0) 32 = (46, 0) from rfl, hL.2.1.2.2.1, hL.2.1.1 32 (by omega) (by omega), hL.2.1.2.2.2.2.2.2.2.2.2.2.1, show (330 : Int32) = nI 330 from rfl, pk_mul, nI_add, nI_clamp (by omega), r1]
    refine br_f (nI_ge hk (by omega)) ⟨vp_in_nI (by omega) (by omega), ?_⟩
    rintro _ rfl
    refine rf_space hL.2.1 hD1.1 r2 rfl ?_
    rw [hnext, nI_clamp (by omega), q2, o3 23 (by omega), j23, g2]
    rintro _ rfl
    have next : ∀ S2, (∀ i : gI, i ≠ (30, 0) → i.1 ≠ 46 → S2.1 i = S.1 i) → S2.2 = S.2 → (∀ q, q ≠ 27 → S2.1 (30, 0) q = S.1 (30, 0) q) → S2.1 (30, 0) 27 = nI (if 2 ≤ k + 1 ∧ bs < sgI T ri t + (k + 1) - 2 then sgI T ri t + (k + 1) - 2 else la) → (∀ i, bs < i → sgI T ri t ≤ i → i + 2 ≤ sgI T ri t + (k + 1) → S2.1 (46, 0) (i - bs - 1) = nI ((ri t).getD (i + 1 - sgI T ri t) 0)) → (∀ i, bs < i → i < sgI T ri t → S2.1 (46, 0) (i - bs - 1) = S.1 (46, 0) (i - bs - 1)) → wp_Mo_join_92 Ln (fun z0 z1 z2 z3 z4 zS => wp_Mo_join_11 Ln Q m z0 z1 z2 z3 z4 zS) Q (30, 0) (nI t) (nI (sgW T F ri t)) (nI (rfC T ((ri t).take (k + 1))).length) (nI k) S2 := by
      intro S2 a b c d e f
      unfold wp_Mo_join_92
      rintro _ rfl
      rw [nI_1]
      exact ih S2 ⟨a, b, c, d, e, f⟩
    have hin : vp_in (nI ((ri t).getD k 0)) 2200 := vp_in_nI (by omega) (by omega)
    refine pk_le k 0 (fun hk0 => next S1 o1 o2 o3 ?_ (fun i a b c => ?_) oO) (fun hkp => ⟨hin, ?_⟩) rfl rfl (by omega) (by omega)
    · rw [if_neg (by omega)] at o27 ⊢; exact o27
    · omega
    refine pk_le (sgI T ri t + (k - 1)) bs (fun hle2 => next S1 o1 o2 o3 ?_ (fun i a b c => ?_) oO) (fun hgt => ⟨hin, ?_⟩) rfl rfl (by omega) (by omega)
    · rw [if_neg (by omega)] at o27 ⊢; exact o27
    · by_cases e : i + 2 ≤ sgI T ri t + k
      · exact oE i a b e
      · omega
    · rw [pk_sub (by omega), show (1 : Int32) = nI 1 from rfl, pk_sub (by omega), nI_clamp (by omega)]
      refine ⟨vp_in_nI (by omega) (by omega), ?_⟩
      rintro _ rfl
      rw [gset_o (by simp), q2, g2]
      refine ⟨hin, ?_⟩
      rintro _ rfl
      refine next _ (fun i a b => ?_) o2 (fun q hq => ?_) ?_ (fun i a b c => ?_) (fun i a b => ?_)
      · rw [gset_o a, gset_o (by rintro rfl; simp at b)]; exact o1 i a b
      · rw [gset_n (Or.inr hq), gset_o (by simp)]; exact o3 q hq
      · rw [gset_s, if_pos (by omega)]; congr 1; omega
      · rw [gset_o (by simp)]
        by_cases e : i = sgI T ri t + (k - 1)
        · subst e
          rw [gset_s, show sgI T ri t + (k - 1) + 1 - sgI T ri t = k by omega]
        · rw [gset_n (Or.inr (by omega))]
          exact oE i a b (by omega)
      · rw [gset_o (by simp), gset_n (Or.inr (by omega))]
        exact oO i a b
