theorem nar_b {n : Nat} (h : n ≤ 1) : vp_nar .boolean (nI n) = nI n := by
  rcases Nat.lt_or_ge n 1 with e | e
  · rw [show n = 0 by omega]; rfl
  · rw [show n = 1 by omega]; rfl
theorem rf_remove {Ln : gI → Nat} {T : Nat → gFr} {nf us : Nat} {ri : Nat → List Nat} {F : gF} {S : gS} {f : Nat} {v : Int32} {Q : gS → Prop} (hL : rfL Ln) (hD : rfD T nf us ri F S) (hf : f < 16) (hv : v = nI f)
    (hq : ∀ S', rX S S' → rfD T nf us (va_up ri f []) (dkF_rm F f) S' → Q S') : wp_Mo_remove Ln Q (30, 0) v S := by
  subst hv
  unfold wp_Mo_remove
  refine rf_cut hL hD hf (Nat.zero_le _) rfl rfl ?_
  intro S1 m _ _ hm3 hx1 hD1
  have hm : m = 0 := by
    rcases Nat.eq_zero_or_pos m with e | e
    · exact e
    · have := hm3 0 e; omega
  subst hm
  rw [List.take_zero] at hD1
  rw [show grf (30, 0) 15 = (41, 0) from rfl, hL.2.2.2.2.2.1, nI_clamp (by omega)]
  refine ⟨vp_in_nI (by omega) (by omega), ?_⟩
  rintro _ rfl
  have hx : rX S1 (gset S1 (41, 0) f (vp_nar .boolean 0)) := rX.set (by simp)
  obtain ⟨hT, hR, ⟨f1, f2⟩, hP⟩ := hD1
  refine hq _ (hx1.tr hx) ⟨hx.T hT, ?_, ⟨?_, ?_⟩, ?_⟩
  · intro c hc
    simp only [gset_rd, Prod.mk.injEq, Nat.reduceEqDiff, false_and, if_false]
    exact hR c hc
  · intro c hc
    obtain ⟨g1, g2, g3, g4⟩ := f1 c hc
    have e1 : (dkF_rm F f).sz c = (dkF_ct F f 0).sz c := by
      show (va_up F.1 f [] c).length = (va_up F.1 f ((F.1 f).take 0) c).length
      rw [List.take_zero]
    rw [e1]
    simp only [gset_rd, Prod.mk.injEq, Nat.reduceEqDiff, false_and, if_false, true_and]
    show _ ∧ va_up F.2.1 f 0 c ≤ 1 ∧ _ ∧ _ = nI (va_up F.2.1 f 0 c)
    by_cases e : c = f
    · subst e; rw [va_up_self, if_pos rfl]; exact ⟨g1, by omega, g3, rfl⟩
    · rw [va_up_ne _ _ e, if_neg e]; exact ⟨g1, g2, g3, g4⟩
  · intro g hg
    obtain ⟨g1, g2, g3, g4, g5⟩ := f2 g hg
    have e1 : ∀ c, (dkF_rm F f).sz c = (dkF_ct F f 0).sz c := by
      intro c
      show (va_up F.1 f [] c).length = (va_up F.1 f ((F.1 f).take 0) c).length
      rw [List.take_zero]
    have e2 : (dkF_rm F f).lo g = (dkF_ct F f 0).lo g := by
      show va_up F.2.2.1 f 0 g = va_up F.2.2.1 f (min (F.lo f) 0) g
      rw [Nat.min_zero]
    have e3 : (dkF_rm F f).sh g = (dkF_ct F f 0).sh g := by
      show va_up F.2.2.2 f 0 g = va_up F.2.2.2 f (min (F.sh f) (dkP 0)) g
      rw [dkP_0, Nat.min_zero]
    rw [e1, e1, e2, e3]
    simp only [gset_rd, Prod.mk.injEq, Nat.reduceEqDiff, false_and, if_false]
    exact ⟨g1, g2, g3, g4, g5⟩
  · intro c hc
    have := hP c hc
    have e : (dkF_rm F f).1 c = (dkF_ct F f 0).1 c := by
      show va_up F.1 f [] c = va_up F.1 f ((F.1 f).take 0) c
      rw [List.take_zero]
    rw [e]; exact this
theorem rf_put {Ln : gI → Nat} {T : Nat → gFr} {nf us : Nat} {ri : Nat → List Nat} {F : gF} {S : gS} {f j : Nat} {v w : Int32} {Q : gS → Prop} (hL : rfL Ln) (hD : rfD T nf us ri F S) (hf : f < 16) (hj : j < nf) (hv : v = nI f) (hw : w = nI j)
    (hfull : F.1 f = rfC T (ri f)) (hr : (ri f).length < 330) (hsz : F.sz f + (frE (T j)).length < 2 ^ 20)
    (hq : ∀ S', rX S S' → rfD T nf us (va_up ri f (ri f ++ [j])) (dkF_wr F f (frE (T j))) S' → Q S') : wp_Mo_put Ln Q (30, 0) v w S := by
  subst hv hw
  obtain ⟨hT, hR, hF, hP⟩ := hD
  have hF' := hF
  obtain ⟨f1, f2⟩ := hF'
  obtain ⟨a1, a3, a2, a4⟩ := f1 f (by omega)
  obtain ⟨c0, c1, c2, c4, c3⟩ := f2 f hf
  obtain ⟨r1, r2, r3⟩ := hR f (by omega)
  have hb : dkP (F.sz f) < 2 ^ 16 := by unfold dkP; omega
  have hel : 8 ≤ (frE (T j)).length := by rw [frE_len]; omega
  have i32 : vp_in (nI f) 32 := vp_in_nI (by omega) (by omega)
  have i16 : vp_in (nI f) 16 := vp_in_nI (by omega) (by omega)
  have e45 : ∀ S1 z, rX S S1 → z = (if 0 < (frE (T j)).length ∧ F.sz f % 64 ≠ 0 ∧ F.sz f / 64 < F.sh f then F.sz f / 64 else F.sh f) → S1.1 (43, 0) f = nI z → (∀ g, g ≠ f → S1.1 (43, 0) g = S.1 (43, 0) g) → (∀ i : gI, i.1 ≠ 43 → S1.1 i = S.1 i) → wp_Mo_put_45 Ln Q (30, 0) (nI f) (nI j) S1 := by
    intro S1 z hx hz hz2 hz3 ho
    unfold wp_Mo_put_45
    have hT1 := hx.T hT
    rw [show grf (30, 0) 13 = (39, 0) from rfl, show grf (30, 0) 12 = (38, 0) from rfl, show grf (30, 0) 14 = (40, 0) from rfl, show grf (30, 0) 15 = (41, 0) from rfl, hL.2.2.2.1, hL.2.2.1, hL.2.2.2.2.1, hL.2.2.2.2.2.1, nI_clamp (by omega), ho _ (by simp), r2, show (330 : Int32) = nI 330 from rfl, pk_mul, nI_add, nI_clamp (by omega)]
    refine ⟨i32, vp_in_nI (by omega) (by omega), ?_⟩
    rintro _ rfl
    refine ⟨i32, i32, ?_⟩
    rintro _ rfl
    have hx2 : rX S1 (gset (gset S1 (38, 0) (330 * f + (ri f).length) (nI j)) (39, 0) f ((gset S1 (38, 0) (330 * f + (ri f).length) (nI j)).1 (39, 0) f + 1)) := (rX.set (by simp)).tr (rX.set (by simp))
    refine ⟨i32, rf_space hL (hx2.T hT1) hj rfl ⟨i32, ?_⟩⟩
    rintro _ rfl
    refine ⟨i32, ?_⟩
    rintro _ rfl
    have e39 : (gset S1 (38, 0) (330 * f + (ri f).length) (nI j)).1 (39, 0) f + 1 = nI ((ri f).length + 1) := by
      rw [gset_o (by simp), ho _ (by simp), r2, nI_1]
    have e40 : (gset (gset S1 (38, 0) (330 * f + (ri f).length) (nI j)) (39, 0) f ((gset S1 (38, 0) (330 * f + (ri f).length) (nI j)).1 (39, 0) f + 1)).1 (40, 0) f + nI (frE (T j)).length = nI (F.sz f + (frE (T j)).length) := by
      rw [gset_o (by simp), gset_o (by simp), ho _ (by simp), a2, nI_add]
    rw [e40, e39]
    have hx3 : rX S (gset (gset (gset (gset S1 (38, 0) (330 * f + (ri f).length) (nI j)) (39, 0) f (nI ((ri f).length + 1))) (40, 0) f (nI (F.sz f + (frE (T j)).length))) (41, 0) f (vp_nar .boolean 1)) :=
      hx.tr ((((rX.set (by simp)).tr (rX.set (by simp))).tr (rX.set (by simp))).tr (rX.set (by simp)))
    have hlen : ∀ d, (dkF_wr F f (frE (T j))).sz d = if d = f then F.sz f + (frE (T j)).length else F.sz d := by
      intro d
      show (va_up F.1 f (F.1 f ++ frE (T j)) d).length = _
      by_cases e : d = f
      · subst e; rw [va_up_self, if_pos rfl, List.length_append]
      · rw [va_up_ne _ _ e, if_neg e]
    refine hq _ hx3 ⟨hx3.T hT, ?_, ⟨?_, ?_⟩, ?_⟩
    · intro c hc
      simp only [gset_rd, Prod.mk.injEq, Nat.reduceEqDiff, false_and, if_false, true_and]
      obtain ⟨q1, q2, q3⟩ := hR c hc
      by_cases e : c = f
      · subst e
        rw [va_up_self, List.length_append, if_pos rfl]
        refine ⟨by simp; omega, by simp, fun k hk => ?_⟩
        by_cases e2 : k = (ri c).length
        · subst e2
          rw [if_pos rfl, getD_app_r (Nat.le_refl _), Nat.sub_self]
          exact ⟨rfl, hj⟩
        · have hk2 : k < (ri c).length := by simp at hk; omega
          rw [if_neg (by omega), getD_app_l hk2, ho _ (by simp)]
          exact q3 k hk2
      · rw [va_up_ne _ _ e, if_neg e, ho _ (by simp)]
        refine ⟨q1, q2, fun k hk => ?_⟩
        rw [if_neg (by omega), ho _ (by simp)]
        exact q3 k hk
    · intro c hc
      rw [hlen]
      simp only [gset_rd, Prod.mk.injEq, Nat.reduceEqDiff, false_and, if_false, true_and]
      show _ ∧ va_up F.2.1 f 1 c ≤ 1 ∧ _ ∧ _ = nI (va_up F.2.1 f 1 c)
      by_cases e : c = f
      · subst e; rw [va_up_self, if_pos rfl, if_pos rfl, if_pos rfl]
        exact ⟨hsz, by omega, rfl, rfl⟩
      · rw [va_up_ne _ _ e, if_neg e, if_neg e, if_neg e, ho _ (by simp), ho _ (by simp)]
        exact f1 c hc
    · intro g hg
      rw [hlen, hlen, if_neg (show ¬ 16 + g = f by omega)]
      simp only [gset_rd, Prod.mk.injEq, Nat.reduceEqDiff, false_and, if_false, true_and]
      obtain ⟨g1, g2, g3, g4, g5⟩ := f2 g hg
      show F.lo g < _ ∧ va_up F.2.2.2 f _ g ≤ _ ∧ va_up F.2.2.2 f _ g ≤ _ ∧ _ = nI (F.lo g) ∧ _ = nI (va_up F.2.2.2 f _ g)
      rw [ho _ (by simp)]
      by_cases e : g = f
      · subst e
        rw [va_up_self, if_pos rfl, ← hz, hz2]
        have hzl : z ≤ F.sh g := by rw [hz]; split <;> omega
        have := dkP_le (show F.sz g ≤ F.sz g + (frE (T j)).length by omega)
        exact ⟨g1, by omega, by omega, g4, rfl⟩
      · rw [va_up_ne _ _ e, if_neg e, hz3 g e]
        exact ⟨g1, g2, g3, g4, g5⟩
    · intro c hc
      show rfP T _ (va_up F.1 f _ c)
      by_cases e : c = f
      · subst e
        rw [va_up_self, va_up_self, hfull]
        have e1 : rfC T (ri c ++ [j]) = rfC T (ri c) ++ frE (T j) := by
          rw [rfC_app]; congr 1
          unfold rfC; rw [List.flatMap_cons, List.flatMap_nil, List.append_nil]
        refine ⟨by rw [e1]; exact List.prefix_refl _, fun n hn => ?_⟩
        rw [List.length_append] at hn
        rw [List.length_append]
        by_cases e2 : n = (ri c).length
        · subst e2
          rw [List.take_append_of_le_length (Nat.le_refl _), List.take_length]
          omega
        · have hn2 : n < (ri c).length := by simp at hn; omega
          rw [List.take_append_of_le_length (by omega)]
          have := (rfC_pre T (ri c) n).length_le
          omega
      · rw [va_up_ne _ _ e, va_up_ne _ _ e]
        exact hP c hc
  unfold wp_Mo_put
  rw [show grf (30, 0) 14 = (40, 0) from rfl, show grf (30, 0) 17 = (43, 0) from rfl, hL.2.2.2.2.1, hL.2.2.2.2.2.2.2.1, nI_clamp (by omega), a2, c3, show (64 : Int32) = nI 64 from rfl, pk_rem (by omega) (by omega) (by omega), pk_div (by omega) (by omega) (by omega)]
  refine ⟨i32, pk_eq (F.sz f % 64) 0 (fun h => e45 S (F.sh f) (rX.rf S) ?_ c3 (fun _ _ => rfl) (fun _ _ => rfl)) (fun h => ⟨i32, i16, pk_le (F.sh f) (F.sz f / 64) (fun h2 => e45 S (F.sh f) (rX.rf S) ?_ c3 (fun _ _ => rfl) (fun _ _ => rfl)) (fun h2 => ⟨i32, i16, ?_⟩) rfl rfl (by omega) (by omega)⟩) rfl rfl (by omega) (by omega)⟩
  · rw [if_neg (by omega)]
  · rw [if_neg (by omega)]
  · rintro _ rfl
    refine e45 _ (F.sz f / 64) (rX.set (by simp)) ?_ (gset_s _ _ _ _) (fun g hg => gset_n (Or.inr hg)) (fun i hi => gset_o (by rintro rfl; simp at hi))
    rw [if_pos ⟨by omega, h, h2⟩]
