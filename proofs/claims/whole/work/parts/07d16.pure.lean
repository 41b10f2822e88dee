theorem gset_rd (S : gS) (i : gI) (k : Nat) (v : Int32) (j : gI) (n : Nat) : (gset S i k v).1 j n = if j = i ∧ n = k then v else S.1 j n := rfl
def rX (S S' : gS) : Prop := S'.2 = S.2 ∧ ∀ i : gI, i.1 < 38 ∨ 43 < i.1 → S'.1 i = S.1 i
theorem rX.rf (S : gS) : rX S S := ⟨rfl, fun _ _ => rfl⟩
theorem rX.tr {S S1 S2 : gS} (a : rX S S1) (b : rX S1 S2) : rX S S2 := ⟨b.1.trans a.1, fun i h => (b.2 i h).trans (a.2 i h)⟩
theorem rX.set {S : gS} {i : gI} {k : Nat} {v : Int32} (h : 38 ≤ i.1 ∧ i.1 ≤ 43) : rX S (gset S i k v) := by
  refine ⟨rfl, fun j hj => gset_o ?_⟩
  intro e; subst e; omega
theorem rfT_of {T : Nat → gFr} {nf us : Nat} {S S' : gS} (h : ∀ i : gI, 30 ≤ i.1 → i.1 ≤ 37 → S'.1 i = S.1 i) (hT : rfT T nf us S) : rfT T nf us S' := by
  obtain ⟨h1, h2, h3, h4, h5⟩ := hT
  refine ⟨h1, h2, by rw [h _ (by simp) (by simp)]; exact h3, by rw [h _ (by simp) (by simp)]; exact h4, fun j hj => ?_⟩
  obtain ⟨a, b, c, d, e, f, p, g1, g2, g3⟩ := h5 j hj
  refine ⟨a, ?_, ?_, ?_, ?_, ?_, p, ?_, g2, fun k hk => ?_⟩
  · rw [h _ (by simp) (by simp)]; exact b
  · rw [h _ (by simp) (by simp)]; exact c
  · rw [h _ (by simp) (by simp)]; exact d
  · rw [h _ (by simp) (by simp)]; exact e
  · rw [h _ (by simp) (by simp)]; exact f
  · rw [h _ (by simp) (by simp)]; exact g1
  · rw [h _ (by simp) (by simp)]; exact g3 k hk
theorem rX.T {T : Nat → gFr} {nf us : Nat} {S S' : gS} (h : rX S S') (hT : rfT T nf us S) : rfT T nf us S' := rfT_of (fun i h1 h2 => h.2 i (by omega)) hT
def rfD (T : Nat → gFr) (nf us : Nat) (ri : Nat → List Nat) (F : gF) (S : gS) : Prop := rfT T nf us S ∧ rfR nf ri S ∧ rfF F S ∧ ∀ c, c < 32 → rfP T (ri c) (F.1 c)
theorem rfC_app (T : Nat → gFr) (a b : List Nat) : rfC T (a ++ b) = rfC T a ++ rfC T b := List.flatMap_append
theorem rfC_take {T : Nat → gFr} {l : List Nat} {n : Nat} (h : n < l.length) : rfC T (l.take (n + 1)) = rfC T (l.take n) ++ frE (T (l.getD n 0)) := by
  rw [List.take_succ, rfC_app, List.getD_eq_getElem?_getD, List.getElem?_eq_getElem h]
  congr 1
  show rfC T [l[n]] = _
  unfold rfC
  rw [List.flatMap_cons, List.flatMap_nil, List.append_nil]
  rfl
theorem rfC_pre (T : Nat → gFr) (l : List Nat) (n : Nat) : rfC T (l.take n) <+: rfC T l := by
  have : rfC T l = rfC T (l.take n) ++ rfC T (l.drop n) := by rw [← rfC_app, List.take_append_drop]
  rw [this]
  exact List.prefix_append _ _
/-- how many frames a size needs -/
theorem rf_cut {Ln : gI → Nat} {T : Nat → gFr} {nf us : Nat} {ri : Nat → List Nat} {F : gF} {S : gS} {f n : Nat} {v w : Int32} {Q : gS → Prop} (hL : rfL Ln) (hD : rfD T nf us ri F S) (hf : f < 16) (hn : n ≤ F.sz f) (hv : v = nI f) (hw : w = nI n)
    (hq : ∀ S' m, m ≤ (ri f).length → (m = (ri f).length ∨ n ≤ (rfC T ((ri f).take m)).length) → (∀ j, j < m → (rfC T ((ri f).take j)).length < n) → rX S S' → rfD T nf us (va_up ri f ((ri f).take m)) (dkF_ct F f n) S' → Q S') : wp_Mo_cut Ln Q (30, 0) v w S := by
  subst hv hw
  obtain ⟨hT, hR, hF, hP⟩ := hD
  have hF' := hF
  obtain ⟨f1, f2⟩ := hF'
  obtain ⟨a1, a3, a2, a4⟩ := f1 f (by omega)
  obtain ⟨c0, c1, c2, c4, c3⟩ := f2 f hf
  obtain ⟨r1, r2, r3⟩ := hR f (by omega)
  have hb : dkP (F.sz f) < 2 ^ 16 := by unfold dkP; omega
  have hpn := dkP_le hn
  have i32 : vp_in (nI f) 32 := vp_in_nI (by omega) (by omega)
  have i16 : vp_in (nI f) 16 := vp_in_nI (by omega) (by omega)
  unfold wp_Mo_cut
  rw [show grf (30, 0) 14 = (40, 0) from rfl, hL.2.2.2.2.1, nI_clamp (by omega)]
  refine ⟨i32, ?_⟩
  rintro _ rfl
  have hx1 : rX S (gset S (40, 0) f (nI n)) := rX.set (by simp)
  have fin : ∀ m, m ≤ (ri f).length → (m = (ri f).length ∨ n ≤ (rfC T ((ri f).take m)).length) → (∀ j, j < m → (rfC T ((ri f).take j)).length < n) → wp_Mo_cut_54 Ln Q (30, 0) (nI f) (nI n) (nI m) (gset S (40, 0) f (nI n)) := by
    intro m hm hm2 hm3
    unfold wp_Mo_cut_54
    rw [show grf (30, 0) 13 = (39, 0) from rfl, show grf (30, 0) 16 = (42, 0) from rfl, hL.2.2.2.1, hL.2.2.2.2.2.2.1, nI_clamp (by omega)]
    refine ⟨i32, ?_⟩
    rintro _ rfl
    refine ⟨i16, ?_⟩
    have e42 : (gset (gset S (40, 0) f (nI n)) (39, 0) f (nI m)).1 (42, 0) f = nI (F.lo f) := by
      rw [gset_o (by simp), gset_o (by simp)]; exact c4
    rw [e42]
    have fin2 : ∀ y, y = min (F.lo f) n → wp_Mo_cut_87 Ln Q (30, 0) (nI f) (nI n) (42, 0) (nI f) (nI y) (gset (gset S (40, 0) f (nI n)) (39, 0) f (nI m)) := by
      intro y hy
      unfold wp_Mo_cut_87
      rw [show grf (30, 0) 17 = (43, 0) from rfl, hL.2.2.2.2.2.2.1, hL.2.2.2.2.2.2.2.1, nI_clamp (by omega)]
      refine ⟨i16, ?_⟩
      rintro _ rfl
      refine ⟨i16, rf_pages rfl (by omega) ?_⟩
      have e43 : (gset (gset (gset S (40, 0) f (nI n)) (39, 0) f (nI m)) (42, 0) f (nI y)).1 (43, 0) f = nI (F.sh f) := by
        rw [gset_o (by simp), gset_o (by simp), gset_o (by simp)]; exact c3
      rw [e43]
      have fin3 : ∀ z, z = min (F.sh f) (dkP n) → wp_Mo_cut_119 Ln Q (43, 0) (nI f) (nI z) (gset (gset (gset S (40, 0) f (nI n)) (39, 0) f (nI m)) (42, 0) f (nI y)) := by
        intro z hz
        unfold wp_Mo_cut_119
        rw [hL.2.2.2.2.2.2.2.1, nI_clamp (by omega)]
        refine ⟨i16, ?_⟩
        rintro _ rfl
        have hX : rX S (gset (gset (gset (gset S (40, 0) f (nI n)) (39, 0) f (nI m)) (42, 0) f (nI y)) (43, 0) f (nI z)) :=
          ((hx1.tr (rX.set (by simp))).tr (rX.set (by simp))).tr (rX.set (by simp))
        refine hq _ m hm hm2 hm3 hX ⟨hX.T hT, ?_, ⟨?_, ?_⟩, ?_⟩
        · intro c hc
          by_cases e : c = f
          · subst e
            rw [va_up_self, List.length_take, Nat.min_eq_left hm]
            simp only [gset_rd, Prod.mk.injEq, Nat.reduceEqDiff, false_and, if_false, and_true, true_and, if_true]
            refine ⟨by omega, fun k hk => ?_⟩
            rw [List.getD_eq_getElem?_getD, List.getElem?_take_of_lt hk, ← List.getD_eq_getElem?_getD]
            exact r3 k (by omega)
          · rw [va_up_ne _ _ e]
            simp only [gset_rd, Prod.mk.injEq, Nat.reduceEqDiff, false_and, if_false, and_true, true_and, e]
            exact hR c hc
        · intro c hc
          simp only [gset_rd, Prod.mk.injEq, Nat.reduceEqDiff, false_and, if_false, and_true, true_and]
          show (va_up F.1 f _ c).length < _ ∧ F.th c ≤ 1 ∧ _ = nI (va_up F.1 f _ c).length ∧ _ = nI (F.th c)
          by_cases e : c = f
          · subst e
            rw [va_up_self, if_pos rfl, List.length_take, Nat.min_eq_left hn]
            exact ⟨by omega, a3, rfl, a4⟩
          · rw [va_up_ne _ _ e, if_neg e]
            exact f1 c hc
        · intro g hg
          show va_up F.2.2.1 f _ g < _ ∧ va_up F.2.2.2 f _ g ≤ dkP (va_up F.1 f _ g).length ∧ va_up F.2.2.2 f _ g ≤ dkP (va_up F.1 f _ (16 + g)).length ∧ _ = nI (va_up F.2.2.1 f _ g) ∧ _ = nI (va_up F.2.2.2 f _ g)
          rw [va_up_ne F.1 _ (show 16 + g ≠ f by omega)]
          simp only [gset_rd, Prod.mk.injEq, Nat.reduceEqDiff, false_and, if_false, and_true, true_and]
          by_cases e : g = f
          · subst e
            rw [va_up_self, va_up_self, va_up_self, if_pos rfl, if_pos rfl, List.length_take, Nat.min_eq_left hn, hy, hz]
            refine ⟨show min (F.lo g) n < _ by omega, by omega, ?_, rfl, rfl⟩
            have : min (F.sh g) (dkP n) ≤ F.sh g := by omega
            exact Nat.le_trans this c2
          · rw [va_up_ne _ _ e, va_up_ne _ _ e, va_up_ne _ _ e, if_neg e, if_neg e]
            exact f2 g hg
        · intro c hc
          show rfP T _ (va_up F.1 f _ c)
          by_cases e : c = f
          · subst e
            rw [va_up_self, va_up_self]
            obtain ⟨p1, p2⟩ := hP c hc
            have hlen : ((F.1 c).take n).length = n := by rw [List.length_take]; exact Nat.min_eq_left hn
            refine ⟨List.prefix_of_prefix_length_le ((List.take_prefix _ _).trans p1) (rfC_pre T _ _) ?_, ?_⟩
            · rw [hlen]
              rcases hm2 with e | e
              · rw [e, List.take_length]
                exact Nat.le_trans hn p1.length_le
              · exact e
            · intro j hj
              rw [List.length_take] at hj
              rw [hlen, List.take_take, Nat.min_eq_left (by omega)]
              exact hm3 j (by omega)
          · rw [va_up_ne _ _ e, va_up_ne _ _ e]
            exact hP c hc
      refine pk_le (dkP n) (F.sh f) (fun h => rf_pages rfl (by omega) (fin3 _ (by omega))) (fun h => ⟨i16, fin3 _ (by omega)⟩) rfl rfl (by omega) (by omega)
    exact pk_le n (F.lo f) (fun h => fin2 _ (by omega)) (fun h => ⟨i16, fin2 _ (by omega)⟩) rfl rfl (by omega) (by omega)
  have hT1 := hx1.T hT
  have key := pk_loop (fun fu k S' => wp_Mo_cut_12 Ln Q fu (30, 0) (nI f) (nI n) (nI (rfC T ((ri f).take k)).length) (nI k) S') (fun k S' => S' = gset S (40, 0) f (nI n) ∧ ∀ j, j < k → (rfC T ((ri f).take j)).length < n) (ri f).length 0 (gset S (40, 0) f (nI n)) (Nat.zero_le _) ⟨rfl, fun j h => by omega⟩ ?_ ?_
  · rw [List.take_zero] at key
    exact key
  · rintro m _ ⟨rfl, hj⟩
    unfold wp_Mo_cut_12
    rw [show grf (30, 0) 13 = (39, 0) from rfl, hL.2.2.2.1, nI_clamp (by omega), gset_o (by simp), r2]
    exact ⟨i32, br_t (nI_le (Nat.le_refl _) (by omega)) (fin _ (Nat.le_refl _) (Or.inl rfl) hj)⟩
  · rintro m k _ hk ⟨rfl, hj⟩ ih
    unfold wp_Mo_cut_12
    rw [show grf (30, 0) 13 = (39, 0) from rfl, show grf (30, 0) 12 = (38, 0) from rfl, hL.2.2.2.1, hL.2.2.1, nI_clamp (by omega), gset_o (by simp), gset_o (by simp), r2]
    refine ⟨i32, br_f (nI_ge hk (by omega)) ?_⟩
    by_cases hle : n ≤ (rfC T ((ri f).take k)).length
    · have hbig : (rfC T ((ri f).take k)).length < 2 ^ 31 := by
        rcases Nat.eq_zero_or_pos k with e | e
        · subst e; rw [List.take_zero]; exact (by decide : 0 < 2 ^ 31)
        · have h0 : _ < F.sz f := (hP f (by omega)).2 k hk
          omega
      exact br_t (nI_le hle hbig) (fin k (by omega) (Or.inr hle) hj)
    · refine br_f (nI_ge (by omega) (by omega)) ?_
      rw [show (330 : Int32) = nI 330 from rfl, pk_mul, nI_add, nI_clamp (by omega), (r3 k hk).1]
      refine ⟨vp_in_nI (by omega) (by omega), rf_space hL hT1 (r3 k hk).2 rfl ?_⟩
      rintro _ rfl _ rfl
      rw [nI_add, nI_1]
      have := ih (gset S (40, 0) f (nI n)) ⟨rfl, lt_s hj (by omega)⟩
      rw [rfC_take hk, List.length_append] at this
      exact this
