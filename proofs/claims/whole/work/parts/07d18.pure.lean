def dkF_cp (F : gF) (c d : Nat) : gF := (va_up F.1 d (F.1 c), va_up F.2.1 d (F.th c), F.2.2)
theorem rf_copy {Ln : gI → Nat} {T : Nat → gFr} {nf us : Nat} {ri : Nat → List Nat} {F : gF} {S : gS} {c : Nat} {v w : Int32} {Q : gS → Prop} (hL : rfL Ln) (hD : rfD T nf us ri F S) (hc : c < 32) (hv : v = nI c) (hw : w = nI (dkT c))
    (hq : ∀ S', rX S S' → rfD T nf us (va_up ri (dkT c) (ri c)) (dkF_cp F c (dkT c)) S' → Q S') : wp_Mo_copy Ln Q (30, 0) v w S := by
  subst hv hw
  obtain ⟨hT, hR, hF, hP⟩ := hD
  have hF' := hF
  obtain ⟨f1, f2⟩ := hF'
  obtain ⟨a1, a3, a2, a4⟩ := f1 c hc
  obtain ⟨r1, r2, r3⟩ := hR c hc
  have ht := dkT_lt hc
  have hne : dkT c ≠ c := dkT_ne
  have i1 : vp_in (nI c) 32 := vp_in_nI (by omega) (by omega)
  have i2 : vp_in (nI (dkT c)) 32 := vp_in_nI (by omega) (by omega)
  unfold wp_Mo_copy
  have key := pk_loop (fun fu k S' => wp_Mo_copy_2 Ln Q fu (30, 0) (nI c) (nI (dkT c)) (nI k) S')
    (fun k S' => rX S S' ∧ (∀ i : gI, i.1 ≠ 38 → S'.1 i = S.1 i) ∧ ∀ d q, d < 32 → q < 330 → S'.1 (38, 0) (330 * d + q) = if d = dkT c ∧ q < k then S.1 (38, 0) (330 * c + q) else S.1 (38, 0) (330 * d + q)) (ri c).length 0 S (Nat.zero_le _)
    ⟨rX.rf S, fun _ _ => rfl, fun d q _ _ => by rw [if_neg (by omega)]⟩ ?_ ?_
  · exact key
  · rintro m S' ⟨hx, ho, h38⟩
    unfold wp_Mo_copy_2
    rw [show grf (30, 0) 13 = (39, 0) from rfl, show grf (30, 0) 14 = (40, 0) from rfl, show grf (30, 0) 15 = (41, 0) from rfl, hL.2.2.2.1, hL.2.2.2.2.1, hL.2.2.2.2.2.1, nI_clamp (by omega), nI_clamp (by omega), ho _ (by simp), r2]
    refine ⟨i1, br_t (nI_le (Nat.le_refl _) (by omega)) ⟨i1, i2, ?_⟩⟩
    rintro _ rfl
    rw [gset_o (by simp), ho _ (by simp), a2]
    refine ⟨i1, i2, ?_⟩
    rintro _ rfl
    rw [gset_o (by simp), gset_o (by simp), ho _ (by simp), a4, nar_b a3]
    refine ⟨i1, i2, ?_⟩
    rintro _ rfl
    have hx3 : rX S (gset (gset (gset S' (39, 0) (dkT c) (nI (ri c).length)) (40, 0) (dkT c) (nI (F.sz c))) (41, 0) (dkT c) (nI (F.th c))) := hx.tr (((rX.set (by simp)).tr (rX.set (by simp))).tr (rX.set (by simp)))
    have hlen : ∀ d, (dkF_cp F c (dkT c)).sz d = if d = dkT c then F.sz c else F.sz d := by
      intro d
      show (va_up F.1 (dkT c) (F.1 c) d).length = _
      by_cases e : d = dkT c
      · subst e; rw [va_up_self, if_pos rfl]
      · rw [va_up_ne _ _ e, if_neg e]
    refine hq _ hx3 ⟨hx3.T hT, ?_, ⟨?_, ?_⟩, ?_⟩
    · intro d hd
      simp only [gset_rd, Prod.mk.injEq, Nat.reduceEqDiff, false_and, if_false, true_and]
      obtain ⟨q1, q2, q3⟩ := hR d hd
      by_cases e : d = dkT c
      · subst e
        rw [va_up_self, if_pos rfl]
        refine ⟨r1, rfl, fun k hk => ?_⟩
        rw [h38 _ _ hd (by omega), if_pos ⟨rfl, hk⟩]
        exact r3 k hk
      · rw [va_up_ne _ _ e, if_neg e, ho _ (by simp)]
        refine ⟨q1, q2, fun k hk => ?_⟩
        rw [h38 _ _ hd (by omega), if_neg (fun z => e z.1)]
        exact q3 k hk
    · intro d hd
      rw [hlen]
      simp only [gset_rd, Prod.mk.injEq, Nat.reduceEqDiff, false_and, if_false, true_and]
      show _ ∧ va_up F.2.1 (dkT c) (F.th c) d ≤ 1 ∧ _ ∧ _ = nI (va_up F.2.1 (dkT c) (F.th c) d)
      by_cases e : d = dkT c
      · subst e
        rw [va_up_self, if_pos rfl, if_pos rfl, if_pos rfl]
        exact ⟨a1, a3, rfl, rfl⟩
      · rw [va_up_ne _ _ e, if_neg e, if_neg e, if_neg e, ho _ (by simp), ho _ (by simp)]
        exact f1 d hd
    · intro g hg
      rw [hlen, hlen]
      simp only [gset_rd, Prod.mk.injEq, Nat.reduceEqDiff, false_and, if_false, true_and]
      obtain ⟨g1, g2, g3, g4, g5⟩ := f2 g hg
      rw [ho _ (by simp), ho _ (by simp)]
      refine ⟨g1, ?_, ?_, g4, g5⟩
      · show F.sh g ≤ _
        by_cases e : g = dkT c
        · rw [if_pos e]
          have : c = 16 + g := by rw [e]; rw [← dkT_n (by omega)]; exact (dkT_T hc).symm
          rw [this]; exact g3
        · rw [if_neg e]; exact g2
      · show F.sh g ≤ _
        by_cases e : 16 + g = dkT c
        · rw [if_pos e]
          have : c = g := by rw [← dkT_T hc, ← e, dkT_s]
          rw [this]; exact g2
        · rw [if_neg e]; exact g3
    · intro d hd
      show rfP T _ (va_up F.1 (dkT c) (F.1 c) d)
      by_cases e : d = dkT c
      · subst e
        rw [va_up_self, va_up_self]
        exact hP c hc
      · rw [va_up_ne _ _ e, va_up_ne _ _ e]
        exact hP d hd
  · rintro m k S' hk ⟨hx, ho, h38⟩ ih
    unfold wp_Mo_copy_2
    rw [show grf (30, 0) 13 = (39, 0) from rfl, show grf (30, 0) 12 = (38, 0) from rfl, hL.2.2.2.1, hL.2.2.1, nI_clamp (by omega), ho (39, 0) (by simp), r2, show (330 : Int32) = nI 330 from rfl, pk_mul, nI_add, pk_mul, nI_add, nI_clamp (by omega), nI_clamp (by omega)]
    refine ⟨i1, br_f (nI_ge hk (by omega)) ⟨vp_in_nI (by omega) (by omega), vp_in_nI (by omega) (by omega), ?_⟩⟩
    rintro _ rfl _ rfl
    rw [nI_1]
    refine ih _ ⟨hx.tr (rX.set (by simp)), fun i hi => ?_, fun d q hd hq => ?_⟩
    · rw [gset_o (by rintro rfl; simp at hi)]; exact ho i hi
    · simp only [gset_rd, true_and]
      by_cases e : 330 * d + q = 330 * dkT c + k
      · have e1 : d = dkT c := by omega
        have e2 : q = k := by omega
        subst e1 e2
        rw [if_pos rfl, if_pos ⟨rfl, by omega⟩, nI_clamp (by omega), h38 c q hc (by omega), if_neg (fun z => dkT_ne z.1.symm)]
      · rw [if_neg e, h38 d q hd hq]
        by_cases e2 : d = dkT c ∧ q < k
        · rw [if_pos e2, if_pos ⟨e2.1, by omega⟩]
        · rw [if_neg e2, if_neg (by rintro ⟨rfl, z⟩; exact e2 ⟨rfl, by omega⟩)]
theorem rf_settle {Ln : gI → Nat} {T : Nat → gFr} {nf us : Nat} {ri : Nat → List Nat} {F : gF} {S : gS} {f : Nat} {v : Int32} {Q : gS → Prop} (hL : rfL Ln) (hD : rfD T nf us ri F S) (hf : f < 16) (hv : v = nI f)
    (hq : ∀ S', rX S S' → rfD T nf us (va_up ri (16 + f) (ri f)) (dkF_st F f) S' → Q S') : wp_Mo_settle Ln Q (30, 0) v S := by
  subst hv
  unfold wp_Mo_settle
  have et : dkT f = 16 + f := dkT_n hf
  rw [show (16 : Int32) = nI 16 from rfl, nI_add, ← et]
  refine rf_copy hL hD (by omega) rfl rfl ?_
  intro S1 hx1 hD1
  rw [et] at hD1
  obtain ⟨hT, hR, hF, hP⟩ := hD1
  obtain ⟨f1, f2⟩ := id hF
  have esz : ∀ d, (dkF_cp F f (16 + f)).sz d = if d = 16 + f then F.sz f else F.sz d := by
    intro d
    show (va_up F.1 (16 + f) (F.1 f) d).length = _
    by_cases e : d = 16 + f
    · subst e; rw [va_up_self, if_pos rfl]
    · rw [va_up_ne _ _ e, if_neg e]
  have b1 := f1 f (by omega)
  rw [esz, if_neg (by omega)] at b1
  have hb : dkP (F.sz f) < 2 ^ 16 := by unfold dkP; omega
  rw [show grf (30, 0) 14 = (40, 0) from rfl, show grf (30, 0) 16 = (42, 0) from rfl, show grf (30, 0) 17 = (43, 0) from rfl, hL.2.2.2.2.1, hL.2.2.2.2.2.2.1, hL.2.2.2.2.2.2.2.1, nI_clamp (by omega), b1.2.2.1]
  have i32 : vp_in (nI f) 32 := vp_in_nI (by omega) (by omega)
  have i16 : vp_in (nI f) 16 := vp_in_nI (by omega) (by omega)
  refine ⟨i32, i16, ?_⟩
  rintro _ rfl
  refine ⟨i32, ?_⟩
  rw [gset_o (by simp), b1.2.2.1]
  refine rf_pages rfl (by omega) ⟨i16, ?_⟩
  rintro _ rfl
  have hx3 : rX S1 (gset (gset S1 (42, 0) f (nI (F.sz f))) (43, 0) f (nI (dkP (F.sz f)))) := (rX.set (by simp)).tr (rX.set (by simp))
  refine hq _ (hx1.tr hx3) ⟨hx3.T hT, ?_, ⟨?_, ?_⟩, ?_⟩
  · intro d hd
    simp only [gset_rd, Prod.mk.injEq, Nat.reduceEqDiff, false_and, if_false, true_and]
    exact hR d hd
  · intro d hd
    simp only [gset_rd, Prod.mk.injEq, Nat.reduceEqDiff, false_and, if_false, true_and]
    exact f1 d hd
  · intro g hg
    simp only [gset_rd, Prod.mk.injEq, Nat.reduceEqDiff, false_and, if_false, true_and]
    have h2 := f2 g hg
    have z1 := esz g
    have z2 := esz (16 + g)
    have y1 : (dkF_st F f).sz g = (dkF_cp F f (16 + f)).sz g := rfl
    have y2 : (dkF_st F f).sz (16 + g) = (dkF_cp F f (16 + f)).sz (16 + g) := rfl
    rw [y1, y2]
    show va_up F.2.2.1 f _ g < _ ∧ va_up F.2.2.2 f _ g ≤ _ ∧ va_up F.2.2.2 f _ g ≤ _ ∧ _ = nI (va_up F.2.2.1 f _ g) ∧ _ = nI (va_up F.2.2.2 f _ g)
    by_cases e : g = f
    · subst e
      rw [va_up_self, va_up_self, if_pos rfl, if_pos rfl, z1, z2, if_neg (by omega), if_pos rfl]
      exact ⟨b1.1, Nat.le_refl _, Nat.le_refl _, rfl, rfl⟩
    · rw [va_up_ne _ _ e, va_up_ne _ _ e, if_neg e, if_neg e]
      exact h2
  · exact hP
theorem rf_crashFile {Ln : gI → Nat} {T : Nat → gFr} {nf us : Nat} {ri : Nat → List Nat} {F : gF} {S : gS} {f k : Nat} {v w : Int32} {Q : gS → Prop} (hL : rfL Ln) (hD : rfD T nf us ri F S) (hf : f < 16) (hv : v = nI f) (hw : w = nI k) (hk : k < 2 ^ 31) (hlo : F.lo f ≤ F.sz f)
    (hq : ∀ S' l, (l = ri f ∨ l = ri (16 + f) ∨ ∃ m, l = (ri f).take m) → rX S S' → rfD T nf us (va_up (va_up ri f l) (16 + f) l) (dkF_fl F f k) S' → Q S') : wp_Mo_crashFile Ln Q (30, 0) v w S := by
  subst hv hw
  have hD' := hD
  obtain ⟨hT, hR, hF, hP⟩ := hD'
  obtain ⟨f1, f2⟩ := id hF
  obtain ⟨a1, a3, a2, a4⟩ := f1 f (by omega)
  obtain ⟨c0, c1, c2, c4, c3⟩ := f2 f hf
  have i32 : vp_in (nI f) 32 := vp_in_nI (by omega) (by omega)
  have i16 : vp_in (nI f) 16 := vp_in_nI (by omega) (by omega)
  unfold wp_Mo_crashFile wp_Mo_crashFile_50
  rw [show grf (30, 0) 14 = (40, 0) from rfl, show grf (30, 0) 16 = (42, 0) from rfl, hL.2.2.2.2.1, hL.2.2.2.2.2.2.1, nI_clamp (by omega), a2, c4]
  have e2 : ∀ l : List Nat, va_up (va_up ri f l) (16 + f) (va_up ri f l f) = va_up (va_up ri f l) (16 + f) l := fun l => by rw [va_up_self]
  refine (pk_eq k 0 (fun h0 => ?_) (fun h0 => ⟨i32, i16, ?_⟩) rfl rfl hk (by omega)) |> fun h => ⟨h.2, h.1⟩
  · rw [show (16 : Int32) = nI 16 from rfl, nI_add]
    refine rf_copy hL hD (by omega) rfl (by rw [dkT_s]) ?_
    intro S1 hx1 hD1
    rw [dkT_s] at hD1
    refine rf_settle hL hD1 hf rfl ?_
    intro S2 hx2 hD2
    refine hq S2 (ri (16 + f)) (Or.inr (Or.inl rfl)) (hx1.tr hx2) ?_
    rw [e2] at hD2
    have : dkF_fl F f k = dkF_st (dkF_cp F (16 + f) f) f := by
      unfold dkF_fl
      rw [if_pos h0]
      unfold dkF_st dkF_bec dkF_cp
      rw [dkT_n hf, Nat.mod_eq_of_lt hf]
      refine gF_ext (fun c => rfl) (fun c => rfl) (fun c => rfl) (fun c => ?_)
      show va_up (va_up F.2.2.2 f _) f _ c = va_up F.2.2.2 f _ c
      by_cases e : c = f
      · subst e; rw [va_up_self, va_up_self]
      · rw [va_up_ne _ _ e, va_up_ne _ _ e, va_up_ne _ _ e]
    rw [this]; exact hD2
  · have fin : ¬ (F.lo f + k - 1 < F.sz f) → wp_Mo_settle Ln (fun S3 => Q S3) (30, 0) (nI f) S := by
      intro hge
      refine rf_settle hL hD hf rfl ?_
      intro S2 hx2 hD2
      refine hq S2 (ri f) (Or.inl rfl) hx2 ?_
      rw [va_up_id]
      unfold dkF_fl
      rw [if_neg h0, if_neg hge]
      exact hD2
    rw [pk_sub hlo, show (1 : Int32) = nI 1 from rfl, pk_sub (by omega)]
    refine pk_le (F.sz f - F.lo f) (k - 1) (fun h => fin (by omega)) (fun h => ⟨i16, ?_⟩) rfl rfl (by omega) (by omega)
    rw [nI_add, pk_sub (by omega)]
    refine rf_cut hL hD hf (by omega) rfl rfl ?_
    intro S1 m _ _ _ hx1 hD1
    refine rf_settle hL hD1 hf rfl ?_
    intro S2 hx2 hD2
    refine hq S2 ((ri f).take m) (Or.inr (Or.inr ⟨m, rfl⟩)) (hx1.tr hx2) ?_
    rw [e2] at hD2
    unfold dkF_fl
    rw [if_neg h0, if_pos (by omega)]
    exact hD2
