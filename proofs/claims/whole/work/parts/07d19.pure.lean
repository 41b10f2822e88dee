/-- what making and filling a frame leaves as it was -/
def mX (S S' : gS) : Prop := S'.2 = S.2 ∧ (∀ i : gI, i.1 < 30 ∨ 37 < i.1 → S'.1 i = S.1 i) ∧ ∀ k, k ≠ 3 → k ≠ 11 → S'.1 (30, 0) k = S.1 (30, 0) k
theorem mX.rf (S : gS) : mX S S := ⟨rfl, fun _ _ => rfl, fun _ _ _ => rfl⟩
theorem mX.tr {S S1 S2 : gS} (a : mX S S1) (b : mX S1 S2) : mX S S2 := ⟨b.1.trans a.1, fun i h => (b.2.1 i h).trans (a.2.1 i h), fun k h h2 => (b.2.2 k h h2).trans (a.2.2 k h h2)⟩
theorem mX.set {S : gS} {i : gI} {k : Nat} {v : Int32} (h : 31 ≤ i.1 ∧ i.1 ≤ 37) : mX S (gset S i k v) := by
  refine ⟨rfl, fun j hj => gset_o ?_, fun j _ _ => gset_n (Or.inl ?_)⟩
  · intro e; subst e; omega
  · intro e; subst e; simp at h
theorem mX.set0 {S : gS} {k : Nat} {v : Int32} (h : k = 3 ∨ k = 11) : mX S (gset S (30, 0) k v) := by
  refine ⟨rfl, fun j hj => gset_o ?_, fun j _ _ => gset_n (Or.inr (by omega))⟩
  intro e; subst e; simp at hj
theorem rf_make {Ln : gI → Nat} {T : Nat → gFr} {nf us so : Nat} {S : gS} {v a b c : Int32} {Q : Int32 → gS → Prop} (hL : rfL Ln) (hT : rfT T nf us S) (hv : v = nI so) (hso : so ≤ 3) (hn : nf < 2200) (hk : so = 3 → ∃ k, k ≤ 2 ∧ c = nI k)
    (hq : ∀ S', mX S S' → S'.1 (35, 0) nf = nI us → rfT (va_up T nf (so, a, b, c, [])) (nf + 1) us S' → Q (nI nf) S') : wp_Mo_make Ln Q (30, 0) v a b c S := by
  subst hv
  obtain ⟨h1, h2, h3, h4, h5⟩ := hT
  have hin : vp_in (nI nf) 2200 := vp_in_nI (by omega) (by omega)
  unfold wp_Mo_make
  rw [h3]
  rintro _ rfl
  rw [show grf (30, 0) 4 = (31, 0) from rfl, show grf (30, 0) 5 = (32, 0) from rfl, show grf (30, 0) 6 = (33, 0) from rfl, show grf (30, 0) 7 = (34, 0) from rfl, show grf (30, 0) 8 = (35, 0) from rfl, show grf (30, 0) 9 = (36, 0) from rfl, hL.1 31 (by omega) (by omega), hL.1 32 (by omega) (by omega), hL.1 33 (by omega) (by omega), hL.1 34 (by omega) (by omega), hL.1 35 (by omega) (by omega), hL.1 36 (by omega) (by omega), nI_clamp (by omega)]
  refine ⟨hin, ?_⟩
  rintro _ rfl
  refine ⟨hin, ?_⟩
  rintro _ rfl
  refine ⟨hin, ?_⟩
  rintro _ rfl
  refine ⟨hin, ?_⟩
  rintro _ rfl
  refine ⟨hin, ?_⟩
  rintro _ rfl
  refine ⟨hin, ?_⟩
  rintro _ rfl _ rfl
  simp only [gset_o (show ((30, 0) : gI) ≠ (31, 0) by simp), gset_o (show ((30, 0) : gI) ≠ (32, 0) by simp), gset_o (show ((30, 0) : gI) ≠ (33, 0) by simp), gset_o (show ((30, 0) : gI) ≠ (34, 0) by simp), gset_o (show ((30, 0) : gI) ≠ (35, 0) by simp), gset_o (show ((30, 0) : gI) ≠ (36, 0) by simp)]
  rw [h3, h4, nI_1]
  refine hq _ ?_ ?_ ⟨by omega, h2, ?_, ?_, ?_⟩
  · exact ((((((mX.set (by simp)).tr (mX.set (by simp))).tr (mX.set (by simp))).tr (mX.set (by simp))).tr (mX.set (by simp))).tr (mX.set (by simp))).tr (mX.set0 (by simp))
  · simp only [gset_rd, Prod.mk.injEq, Nat.reduceEqDiff, false_and, if_false, true_and, if_true]
  · simp only [gset_rd, Prod.mk.injEq, Nat.reduceEqDiff, false_and, if_false, true_and, if_true]
  · simp only [gset_rd, Prod.mk.injEq, Nat.reduceEqDiff, false_and, if_false, true_and, if_true]
    exact h4
  · intro j hj
    by_cases e : j = nf
    · subst e
      rw [va_up_self]
      refine ⟨⟨hso, fun k => (by simp : ([] : List Nat).getD k 0 < 256), hk, fun _ => rfl⟩, ?_⟩
      simp only [gset_rd, Prod.mk.injEq, Nat.reduceEqDiff, false_and, if_false, true_and, if_true]
      exact ⟨rfl, us, rfl, Nat.le_refl _, fun k hk => absurd hk (Nat.not_lt_zero k)⟩
    · rw [va_up_ne _ _ e]
      have hj2 := h5 j (by omega)
      unfold rfJ at hj2 ⊢
      simp only [gset_rd, Prod.mk.injEq, Nat.reduceEqDiff, false_and, if_false, true_and, e]
      exact hj2
/-- the reference's fed bytes -/
def rfB (tp : List Nat) (S : gS) : Prop := tp.length ≤ 4096 ∧ ∀ k, k < tp.length → tp.getD k 0 < 256 ∧ S.1 (47, 0) k = nI (tp.getD k 0)
theorem getD_lt256 {l : List Nat} (h : ∀ k, k < l.length → l.getD k 0 < 256) (k : Nat) : l.getD k 0 < 256 := by
  by_cases e : k < l.length
  · exact h k e
  · rw [List.getD_eq_getElem?_getD, List.getElem?_eq_none (by omega)]; decide
theorem rf_fill {Ln : gI → Nat} {T : Nat → gFr} {nf us so : Nat} {S : gS} {v w : Int32} {a b c : Int32} {tp : List Nat} {Q : gS → Prop} (hL : rfL Ln) (hT : rfT (va_up T nf (so, a, b, c, [])) (nf + 1) us S) (hp : S.1 (35, 0) nf = nI us) (hso : so = 1 ∨ so = 3) (hB : rfB tp S) (hv : v = nI nf) (hw : w = nI tp.length) (hu : us + tp.length ≤ 4200)
    (hq : ∀ S', mX S S' → rfT (va_up T nf (so, a, b, c, tp)) (nf + 1) (us + tp.length) S' → Q S') : wp_Mo_fill Ln Q (30, 0) v w S := by
  subst hv hw
  obtain ⟨h1, h2, h3, h4, h5⟩ := hT
  obtain ⟨b1, b2⟩ := hB
  unfold wp_Mo_fill
  rw [show grf (30, 0) 9 = (36, 0) from rfl, hL.1 36 (by omega) (by omega), nI_clamp (by omega)]
  refine ⟨vp_in_nI (by omega) (by omega), ?_⟩
  rintro _ rfl
  have hx1 : mX S (gset S (36, 0) nf (nI tp.length)) := mX.set (by simp)
  have key := pk_loop (fun fu k S' => wp_Mo_fill_9 Ln Q fu (30, 0) (nI tp.length) (nI k) S')
    (fun k S' => mX S S' ∧ S'.1 (30, 0) = S.1 (30, 0) ∧ S'.1 (36, 0) = (gset S (36, 0) nf (nI tp.length)).1 (36, 0) ∧ (∀ i : gI, i.1 ≠ 36 → i.1 ≠ 37 → S'.1 i = S.1 i) ∧ (∀ q, q < us ∨ us + k ≤ q → S'.1 (37, 0) q = S.1 (37, 0) q) ∧ ∀ q, q < k → S'.1 (37, 0) (us + q) = nI (tp.getD q 0))
    tp.length 0 (gset S (36, 0) nf (nI tp.length)) (Nat.zero_le _) ⟨hx1, gset_o (by simp), rfl, fun i h6 h7 => gset_o (by rintro rfl; simp at h6), fun q _ => gset_n (Or.inl (by simp)), fun q hq => absurd hq (Nat.not_lt_zero q)⟩ ?_ ?_
  · exact key
  · rintro m S' ⟨hx, e30, e36, eo, e37, e37b⟩
    unfold wp_Mo_fill_9
    refine br_t (nI_le (Nat.le_refl _) (by omega)) ?_
    rintro _ rfl
    rw [e30, h4, nI_add]
    refine hq _ (hx.tr (mX.set0 (by simp))) ⟨h1, hu, ?_, ?_, ?_⟩
    · rw [gset_n (Or.inr (by omega)), e30]; exact h3
    · rw [gset_s]
    · intro j hj
      by_cases e : j = nf
      · subst e
        rw [va_up_self]
        have h6 := h5 j hj
        rw [va_up_self] at h6
        obtain ⟨k1, k2, k3, k4, k5, k6, -⟩ := h6
        refine ⟨⟨k1.1, getD_lt256 (fun k hk => (b2 k hk).1), k1.2.2.1, fun z => absurd (show so = 0 ∨ so = 2 from z) (by omega)⟩, ?_⟩
        simp only [gset_rd, Prod.mk.injEq, Nat.reduceEqDiff, false_and, if_false, true_and, if_true]
        rw [eo (31, 0) (by simp) (by simp), eo (32, 0) (by simp) (by simp), eo (33, 0) (by simp) (by simp), eo (34, 0) (by simp) (by simp), eo (35, 0) (by simp) (by simp), e36, gset_s]
        exact ⟨k2, k3, k4, k5, rfl, us, hp, Nat.le_refl _, e37b⟩
      · rw [va_up_ne _ _ e]
        have h6 := h5 j hj
        rw [va_up_ne _ _ e] at h6
        obtain ⟨k1, k2, k3, k4, k5, k6, p, k7, k8, k9⟩ := h6
        refine ⟨k1, ?_⟩
        simp only [gset_rd, Prod.mk.injEq, Nat.reduceEqDiff, false_and, if_false, true_and]
        rw [eo (31, 0) (by simp) (by simp), eo (32, 0) (by simp) (by simp), eo (33, 0) (by simp) (by simp), eo (34, 0) (by simp) (by simp), eo (35, 0) (by simp) (by simp), e36, gset_n (Or.inr e)]
        exact ⟨k2, k3, k4, k5, k6, p, k7, by omega, fun k hk => by rw [e37 _ (by omega)]; exact k9 k hk⟩
  · rintro m k S' hk ⟨hx, e30, e36, eo, e37, e37b⟩ ih
    unfold wp_Mo_fill_9
    rw [show grf (30, 0) 34 = (47, 0) from rfl, show grf (30, 0) 10 = (37, 0) from rfl, hL.2.1, hL.2.2.2.2.2.2.2.2.2.2.2, e30, h4, nI_add, nI_add, nI_clamp (by omega), nI_clamp (by omega), eo (47, 0) (by simp) (by simp), (b2 k hk).2]
    refine br_f (nI_ge hk (by omega)) ⟨vp_in_nI (by omega) (by omega), vp_in_nI (by omega) (by omega), ?_⟩
    rintro _ rfl _ rfl
    rw [nI_1]
    refine ih _ ⟨hx.tr (mX.set (by simp)), ?_, ?_, ?_, ?_, ?_⟩
    · rw [gset_o (by simp)]; exact e30
    · rw [gset_o (by simp)]; exact e36
    · intro i h6 h7; rw [gset_o (by rintro rfl; simp at h7)]; exact eo i h6 h7
    · intro q hq; rw [gset_n (Or.inr (by omega))]; exact e37 q (by omega)
    · intro q hq
      by_cases e : q = k
      · subst e; rw [gset_s]
      · rw [gset_n (Or.inr (by omega))]; exact e37b q (by omega)
theorem rf_row {T : Nat → gFr} {nf us : Nat} {ri : Nat → List Nat} {F : gF} {S : gS} (hD : rfD T nf us ri F S) {c k : Nat} (hc : c < 32) (hk : k < (ri c).length) : S.1 (38, 0) (330 * c + k) = nI ((ri c).getD k 0) ∧ (ri c).getD k 0 < nf ∧ nf ≤ 2200 ∧ (ri c).length ≤ 330 :=
  ⟨((hD.2.1 c hc).2.2 k hk).1, ((hD.2.1 c hc).2.2 k hk).2, hD.1.1, (hD.2.1 c hc).1⟩
theorem rf_fr {T : Nat → gFr} {nf us : Nat} {S : gS} (hT : rfT T nf us S) {j : Nat} (hj : j < nf) : S.1 (31, 0) j = nI (T j).so ∧ S.1 (32, 0) j = (T j).a ∧ S.1 (33, 0) j = (T j).b ∧ S.1 (34, 0) j = (T j).c ∧ S.1 (36, 0) j = nI (T j).d.length := by
  obtain ⟨k1, k2, k3, k4, k5, k6, p, k7, k8, k9⟩ := hT.2.2.2.2 j hj
  exact ⟨k2, k3, k4, k5, k6⟩
theorem rf_firstOf {Ln : gI → Nat} {T : Nat → gFr} {nf us : Nat} {ri : Nat → List Nat} {F : gF} {S : gS} {f : Nat} {v : Int32} {Q : Int32 → gS → Prop} (hL : rfL Ln) (hD : rfD T nf us ri F S) (hf : f < 32) (hv : v = nI f) (hr : 0 < (ri f).length)
    (hq : Q (T ((ri f).getD 0 0)).a S) : wp_Mo_firstOf Ln Q (30, 0) v S := by
  subst hv
  obtain ⟨r1, r2, r3, r4⟩ := rf_row hD hf hr
  unfold wp_Mo_firstOf
  rw [show grf (30, 0) 12 = (38, 0) from rfl, show grf (30, 0) 5 = (32, 0) from rfl, hL.2.2.1, hL.1 32 (by omega) (by omega), show (330 : Int32) = nI 330 from rfl, pk_mul, nI_clamp (by omega)]
  rw [Nat.add_zero] at r1
  rw [r1, nI_clamp (by omega), (rf_fr hD.1 r2).2.1]
  exact ⟨vp_in_nI (by omega) (by omega), vp_in_nI (by omega) (by omega), hq⟩
theorem rf_small {T : Nat → gFr} {nf us : Nat} {ri : Nat → List Nat} {F : gF} {S : gS} (hD : rfD T nf us ri F S) {c k : Nat} (hc : c < 32) (hk : k < (ri c).length) : (rfC T ((ri c).take k)).length < 2 ^ 20 ∧ (rfC T ((ri c).take (k + 1))).length < 2 ^ 21 ∧ (frE (T ((ri c).getD k 0))).length < 2 ^ 15 := by
  have h1 : (rfC T ((ri c).take k)).length < F.sz c := (hD.2.2.2 c hc).2 k hk
  have h2 := (hD.2.2.1.1 c hc).1
  have h3 := (rf_row hD hc hk).2.1
  have h4 := rf_pl hD.1 h3
  have h5 := rf_dl hD.1 h3
  have h6 : (frE (T ((ri c).getD k 0))).length < 2 ^ 15 := by rw [frE_len]; split <;> omega
  rw [rfC_take hk, List.length_append]
  omega
/-- where a frame lies: the answer, if it is the k-th of the row and no earlier one is -/
theorem rf_placeIn {Ln : gI → Nat} {T : Nat → gFr} {nf us : Nat} {ri : Nat → List Nat} {F : gF} {S : gS} {f j : Nat} {v w : Int32} {Q : Int32 → gS → Prop} (hL : rfL Ln) (hD : rfD T nf us ri F S) (hf : f < 32) (hv : v = nI f) (hw : w = nI j) (hj : j < 2 ^ 31)
    (h1 : ∀ k, k < (ri f).length → (ri f).getD k 0 = j → (∀ q, q < k → (ri f).getD q 0 ≠ j) → Q (nI (rfC T ((ri f).take k)).length) S) (h0 : (∀ k, k < (ri f).length → (ri f).getD k 0 ≠ j) → Q (-1 : Int32) S) : wp_Mo_placeIn Ln Q (30, 0) v w S := by
  subst hv hw
  obtain ⟨r1, r2, r3⟩ := hD.2.1 f hf
  have i32 : vp_in (nI f) 32 := vp_in_nI (by omega) (by omega)
  unfold wp_Mo_placeIn
  have key := pk_loop (fun fu k S' => wp_Mo_placeIn_5 Ln Q fu (30, 0) (nI f) (nI j) (nI (rfC T ((ri f).take k)).length) (nI k) S') (fun k S' => S' = S ∧ ∀ q, q < k → (ri f).getD q 0 ≠ j) (ri f).length 0 S (Nat.zero_le _) ⟨rfl, fun q hq => absurd hq (Nat.not_lt_zero q)⟩ ?_ ?_
  · rw [List.take_zero] at key; exact key
  · rintro m _ ⟨rfl, hq⟩
    unfold wp_Mo_placeIn_5
    rw [show grf (30, 0) 13 = (39, 0) from rfl, hL.2.2.2.1, nI_clamp (by omega), r2]
    exact ⟨i32, br_t (nI_le (Nat.le_refl _) (by omega)) (h0 hq)⟩
  · rintro m k _ hk ⟨rfl, hq⟩ ih
    obtain ⟨s1, s2, s3⟩ := rf_small hD hf hk
    obtain ⟨q1, q2, q3, q4⟩ := rf_row hD hf hk
    unfold wp_Mo_placeIn_5
    rw [show grf (30, 0) 13 = (39, 0) from rfl, show grf (30, 0) 12 = (38, 0) from rfl, hL.2.2.2.1, hL.2.2.1, nI_clamp (by omega), r2, show (330 : Int32) = nI 330 from rfl, pk_mul, nI_add, nI_clamp (by omega), q1]
    refine ⟨i32, br_f (nI_ge hk (by omega)) ⟨vp_in_nI (by omega) (by omega), ?_⟩⟩
    refine (pk_eq ((ri f).getD k 0) j (fun h => h1 k hk h hq) (fun h => ⟨vp_in_nI (by omega) (by omega), rf_space hL hD.1 q2 rfl ?_⟩) rfl rfl (by omega) hj) |> fun h => ⟨h.2, h.1⟩
    rintro _ rfl _ rfl
    rw [nI_add, nI_1]
    have := ih _ ⟨rfl, lt_s hq h⟩
    rw [rfC_take hk, List.length_append] at this
    exact this
/-- how many frames are whole -/
def rfW (T : Nat → gFr) (l : List Nat) (s : Nat) : Nat := if (rfC T l).length ≤ s then l.length else l.length - 1
theorem rf_whole {Ln : gI → Nat} {T : Nat → gFr} {nf us : Nat} {ri : Nat → List Nat} {F : gF} {S : gS} {f : Nat} {v : Int32} {Q : Int32 → gS → Prop} (hL : rfL Ln) (hD : rfD T nf us ri F S) (hf : f < 32) (hv : v = nI f)
    (hq : Q (nI (rfW T (ri f) (F.sz f))) S) : wp_Mo_whole Ln Q (30, 0) v S := by
  subst hv
  obtain ⟨r1, r2, r3⟩ := hD.2.1 f hf
  have hsz := (hD.2.2.1.1 f hf)
  have i32 : vp_in (nI f) 32 := vp_in_nI (by omega) (by omega)
  have hlt := (hD.2.2.2 f hf).2
  unfold wp_Mo_whole
  have key := pk_loop (fun fu k S' => wp_Mo_whole_7 Ln Q fu (30, 0) (nI f) (nI (rfC T ((ri f).take k)).length) (nI (if k < (ri f).length then k else rfW T (ri f) (F.sz f))) (nI k) S') (fun k S' => S' = S) (ri f).length 0 S (Nat.zero_le _) rfl ?_ ?_
  · rw [List.take_zero] at key
    by_cases e : 0 < (ri f).length
    · rw [if_pos e] at key; exact key
    · rw [if_neg e] at key
      have e2 : ri f = [] := List.eq_nil_of_length_eq_zero (by omega)
      have : rfW T (ri f) (F.sz f) = 0 := by unfold rfW; rw [e2]; split <;> rfl
      rw [this] at key; exact key
  · rintro m _ rfl
    unfold wp_Mo_whole_7
    rw [show grf (30, 0) 13 = (39, 0) from rfl, hL.2.2.2.1, nI_clamp (by omega), r2]
    refine ⟨i32, br_t (nI_le (Nat.le_refl _) (by omega)) ?_⟩
    rw [if_neg (by omega)]; exact hq
  · rintro m k _ hk rfl ih
    obtain ⟨s1, s2, s3⟩ := rf_small hD hf hk
    obtain ⟨q1, q2, q3, q4⟩ := rf_row hD hf hk
    unfold wp_Mo_whole_7
    rw [show grf (30, 0) 13 = (39, 0) from rfl, show grf (30, 0) 12 = (38, 0) from rfl, show grf (30, 0) 14 = (40, 0) from rfl, hL.2.2.2.1, hL.2.2.1, hL.2.2.2.2.1, nI_clamp (by omega), r2, show (330 : Int32) = nI 330 from rfl, pk_mul, nI_add, nI_clamp (by omega), q1]
    refine ⟨i32, br_f (nI_ge hk (by omega)) ⟨vp_in_nI (by omega) (by omega), rf_space hL hD.1 q2 rfl ?_⟩⟩
    rintro _ rfl
    have e1 : nI (rfC T ((ri f).take k)).length + nI (frE (T ((ri f).getD k 0))).length = nI (rfC T ((ri f).take (k + 1))).length := by
      rw [nI_add, rfC_take hk, List.length_append]
    rw [e1, hsz.2.2.1, if_pos hk]
    have ih2 := ih _ rfl
    refine ⟨i32, pk_lt (F.sz f) (rfC T ((ri f).take (k + 1))).length (fun h => ?_) (fun h => ?_) rfl rfl (by omega) (by omega)⟩
    · have : ¬ k + 1 < (ri f).length := fun z => by have : _ < F.sz f := hlt (k + 1) z; omega
      have hk1 : k + 1 = (ri f).length := by omega
      rw [if_neg this] at ih2
      have e2 : rfW T (ri f) (F.sz f) = k := by
        unfold rfW
        rw [if_neg]
        · omega
        · rw [hk1, List.take_length] at h; omega
      rw [e2] at ih2
      unfold wp_Mo_whole_55
      rintro _ rfl
      rw [nI_1]; exact ih2
    · unfold wp_Mo_whole_55
      rintro _ rfl
      rw [nI_1]
      by_cases z : k + 1 < (ri f).length
      · rw [if_pos z] at ih2; exact ih2
      · rw [if_neg z] at ih2
        have hk1 : k + 1 = (ri f).length := by omega
        have e2 : rfW T (ri f) (F.sz f) = k + 1 := by
          unfold rfW
          rw [if_pos]
          · omega
          · rw [hk1, List.take_length] at h; omega
        rw [e2] at ih2; exact ih2
