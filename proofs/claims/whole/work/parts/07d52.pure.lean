theorem mem_take_s {D : List Nat} {f k : Nat} (hk : k < D.length) : f ∈ D.take (k + 1) ↔ f ∈ D.take k ∨ D.getD k 0 = f := by
  rw [List.take_add_one, List.mem_append, getD_get hk, List.getElem?_eq_getElem hk]
  constructor
  · rintro (a | a)
    · exact Or.inl a
    · rw [Option.toList_some, List.mem_singleton] at a; exact Or.inr a.symm
  · rintro (a | a)
    · exact Or.inl a
    · refine Or.inr ?_
      rw [Option.toList_some, List.mem_singleton]; exact a.symm
theorem r_isJoined {Ln : gI → Nat} {M : Nat} {od : List Nat} {S : gS} {f : Nat} {v : Int32} {Q : Int32 → gS → Prop} (hL : aL Ln M) (hG : rG od S) (h12 : od.length ≤ 12) (ho : ∀ k, k < od.length → od.getD k 0 < 16) (hv : v = nI f) (hf : f < 16) (h1 : f ∈ od → Q 1 S) (h0 : f ∉ od → Q 0 S) : wp_Mo_isJoined Ln Q (30, 0) v S := by
  subst hv
  obtain ⟨g1, g2⟩ := hG
  unfold wp_Mo_isJoined
  have key := pk_loop (fun fu k S' => wp_Mo_isJoined_4 Ln Q fu (30, 0) (nI f) (if f ∈ od.take k then 1 else 0) (nI k) S') (fun k S' => S' = S) od.length 0 S (Nat.zero_le _) rfl ?_ ?_
  · rw [List.take_zero, if_neg List.not_mem_nil] at key; exact key
  · rintro m S1 e1
    rw [e1]
    unfold wp_Mo_isJoined_4
    rw [g1, List.take_length]
    refine br_t (nI_le (Nat.le_refl _) (by omega)) ?_
    by_cases e : f ∈ od
    · rw [if_pos e]; exact ⟨Or.inr rfl, h1 e⟩
    · rw [if_neg e]; exact ⟨Or.inl rfl, h0 e⟩
  · rintro m k S1 hk e1 ih
    rw [e1]
    have hok := ho k hk
    have ih2 := ih S rfl
    unfold wp_Mo_isJoined_4
    rw [g1]
    refine br_f (nI_ge hk (by omega)) ?_
    unfold wp_Mo_isJoined_26 wp_Mo_isJoined_31
    by_cases e : f ∈ od.take k
    · rw [if_pos e]
      refine cr_f (by decide) ?_
      rintro _ rfl
      rw [nI_1]
      rw [if_pos ((mem_take_s hk).2 (Or.inl e))] at ih2
      exact ih2
    · rw [if_neg e]
      refine cr_t rfl ?_
      rw [show grf (30, 0) 31 = (45, 0) from rfl, hL.2.1.2.2.2.2.2.2.2.2.2.1, nI_clamp (by omega), g2 k hk]
      refine ⟨vp_in_nI (by omega) (by omega), (pk_eq (od.getD k 0) f (fun h => ?_) (fun h => ?_) rfl rfl (by omega) (by omega)) |> fun h => ⟨h.2, h.1⟩⟩
      · rintro _ rfl
        rw [nI_1]
        rw [if_pos ((mem_take_s hk).2 (Or.inr h))] at ih2
        exact ih2
      · rintro _ rfl
        rw [nI_1]
        rw [if_neg (fun z => by rcases (mem_take_s hk).1 z with z | z; exact e z; exact h z)] at ih2
        exact ih2
theorem ch_mem {n bs t0 : Nat} {F : gF} {T : Nat → gFr} {ri : Nat → List Nat} (h : wL n bs F T ri) {D : List Nat} {t : Nat} (hC : chO bs t0 T F ri (D ++ [t])) {f : Nat} (hf : f ∈ D ++ [t]) : sgI T ri f ≤ sgI T ri t := by
  have hlen : (D ++ [t]).length = D.length + 1 := by rw [List.length_append]; rfl
  obtain ⟨i, hi, e⟩ := List.mem_iff_getElem.mp hf
  rw [← getD_get hi] at e
  by_cases z : i = D.length
  · rw [z, getD_snoc_r] at e; rw [e]; exact Nat.le_refl _
  · have := ch_lt h hC (show i < D.length by omega) (by omega)
    rw [e, getD_snoc_r] at this
    omega
theorem ch_first {n bs t0 : Nat} {F : gF} {T : Nat → gFr} {ri : Nat → List Nat} (h : wL n bs F T ri) {D : List Nat} {t : Nat} (hC : chO bs t0 T F ri (D ++ [t])) (he : sgI T ri t ≤ bs) : t = t0 := by
  have hlen : (D ++ [t]).length = D.length + 1 := by rw [List.length_append]; rfl
  rcases Nat.eq_zero_or_pos D.length with z | z
  · have : D = [] := List.eq_nil_of_length_eq_zero z
    subst this
    exact (hC.2.2 (by omega)).2.2
  · exfalso
    obtain ⟨a, b, -⟩ := hC.2.1 (D.length - 1) (by omega)
    have hb := ch_b h hC (show D.length - 1 < (D ++ [t]).length by omega)
    rw [show D.length - 1 + 1 = D.length by omega, getD_snoc_r] at b
    omega
theorem r_nextSegment {Ln : gI → Nat} {M n nf us t0 : Nat} {F : gF} {T : Nat → gFr} {ri : Nat → List Nat} {bs t : Nat} {bt : Int32} {D : List Nat} {S0 S : gS} {Q : Int32 → gS → Prop} (hL : aL Ln M) (h : wL n bs F T ri) (hJ : rJ bs bt T F ri nf us (D ++ [t]) (sgE T F ri t) S0 S) (hC : chO bs t0 T F ri (D ++ [t])) (hh : hold bs bt T F ri t0) (h2 : 2 ≤ sgW T F ri t) (h12 : (D ++ [t]).length ≤ 12)
    (h1 : ∀ f, nxN T F ri t = f → f < 16 → Q (nI f) S) (h0 : nxN T F ri t = 16 → Q (-1 : Int32) S) : wp_Mo_nextSegment Ln Q (30, 0) S := by
  have hlen : (D ++ [t]).length = D.length + 1 := by rw [List.length_append]; rfl
  have hbs := h.2.2.2.2
  obtain ⟨t1, t2, t3⟩ := hC.1 D.length (by omega)
  rw [getD_snoc_r] at t1 t2 t3
  obtain ⟨f1, f2, f3, f4, f5, f6⟩ := sg_facts h t1 t2 t3
  obtain ⟨j1, j2, j3, j4, hD, j27, j23, j24, jG, jE⟩ := hJ
  have hnf := hD.1.1
  have hEq : sgE T F ri t = sgI T ri t + sgW T F ri t - 2 := rfl
  have hEb : sgE T F ri t ≤ bs + 300 := by omega
  have hbe := ch_b h hC (show D.length < (D ++ [t]).length by omega)
  rw [getD_snoc_r] at hbe
  obtain ⟨w1, w2, w3, w4, w5, w6⟩ := sg_view h (D ++ [t]) t2
  -- the term of the last entry
  have tm : ∀ R : Int32 → gS → Prop, R (sgT T F ri t) S → wp_Mo_termOf Ln R (30, 0) (nI (sgE T F ri t)) S := by
    intro R hR
    have een : enD T F ri (D ++ [t]) (sgE T F ri t) = (ri t).getD (sgW T F ri t - 1) 0 := by
      rw [enD_snoc, if_pos (by omega), show sgE T F ri t + 1 - sgI T ri t = sgW T F ri t - 1 by omega]
    have hlt : (ri t).getD (sgW T F ri t - 1) 0 < nf := by
      have := (rf_row hD (show t < 32 by omega) (show sgW T F ri t - 1 < (ctR T F ri (D ++ [t]) t).length by omega)).2.1
      rw [(w3 _ (by omega)).1] at this
      exact this
    refine r_termOf (sf := S.1 (30, 0) 26) (cd := S.1 (30, 0) 25) (en := enD T F ri (D ++ [t])) (la := sgE T F ri t) hL ⟨rfl, j23, j24, rfl⟩ hD.1 jE (by omega) hEb rfl hbe (Nat.le_refl _) (fun _ => by rw [een]; exact hlt) ?_
    rw [een]
    by_cases e : bs < sgE T F ri t
    · rw [if_pos e]; exact hR
    · rw [if_neg e]
      have ht : t = t0 := ch_first h hC (by omega)
      have := (hh.2 (by rw [← ht]; omega)).2
      rw [← ht, show bs + 1 - sgI T ri t = sgW T F ri t - 1 by omega] at this
      rw [← this]; exact hR
  unfold wp_Mo_nextSegment
  generalize hp : nxP T F ri (sgE T F ri t) (sgT T F ri t) = p
  have hnx : nxN T F ri t = srN p 4 12 := by unfold nxN; rw [hp]
  have key := pk_loop (fun fu k S' => wp_Mo_nextSegment_2 Ln Q fu (30, 0) (nI (4 + k)) S') (fun k S' => S' = S ∧ k ≤ 12 ∧ srN p 4 12 = srN p (4 + k) (12 - k)) 12 0 S (Nat.zero_le _) ⟨rfl, by omega, rfl⟩ ?_ ?_
  · exact key
  · rintro m S1 ⟨e1, -, hs⟩
    rw [e1]
    unfold wp_Mo_nextSegment_2
    exact br_t (by decide) (h0 (by rw [hnx, hs]; rfl))
  · rintro m k S1 hk ⟨e1, -, hs⟩ ih
    rw [e1]
    have step : srN p (4 + k) (12 - k) = if p (4 + k) = true then 4 + k else srN p (4 + k + 1) (12 - (k + 1)) := by
      rw [show 12 - k = (12 - (k + 1)) + 1 by omega]; rfl
    have next : ¬ (0 < sgW T F ri (4 + k) ∧ sgI T ri (4 + k) = sgE T F ri t + 1 ∧ sgB T ri (4 + k) = sgT T F ri t) → wp_Mo_nextSegment_66 Ln (fun z0 z1 zS => wp_Mo_nextSegment_2 Ln Q m z0 z1 zS) Q (30, 0) (nI (4 + k)) S := by
      intro hno
      unfold wp_Mo_nextSegment_66
      rintro _ rfl
      rw [nI_1, show 4 + k + 1 = 4 + (k + 1) by omega]
      refine ih S ⟨rfl, by omega, ?_⟩
      rw [hs, step, if_neg]
      · rw [show 4 + k + 1 = 4 + (k + 1) by omega]
      · intro z; rw [← hp] at z; exact hno (of_decide_eq_true z)
    unfold wp_Mo_nextSegment_2
    refine br_f (nI_ge (b := 16) (show 4 + k < 16 by omega) (by omega)) ?_
    refine r_isJoined hL jG h12 (fun k hk => (hC.1 k hk).2.1) rfl (by omega) (fun hm => cr_f (by decide) (next (fun z => ?_))) (fun hm => cr_t rfl ?_)
    · have := ch_mem h hC hm
      omega
    obtain ⟨v1, v2, v3, v4, v5, v6⟩ := sg_view h (D ++ [t]) (show 4 + k < 16 by omega)
    refine rf_whole hL.2.1 hD (by omega) rfl ?_
    have hwl := rfW_le (T := T) (l := ri (4 + k)) (s := F.sz (4 + k))
    have hwl' : sgW T F ri (4 + k) ≤ (ri (4 + k)).length := hwl
    have h330 := (hD.2.1 (4 + k) (by omega)).1
    rw [v2]
    refine pk_le (sgW T F ri (4 + k)) 0 (fun hle => next (fun z => by omega)) (fun hpos => ?_) rfl rfl (by omega) (by omega)
    obtain ⟨g1, g2, g3, g4, g5, g6⟩ := sg_facts h (show 4 ≤ 4 + k by omega) (by omega) hpos
    have hr0 : 0 < (ctR T F ri (D ++ [t]) (4 + k)).length := by omega
    obtain ⟨r1, r2, r3, r4⟩ := rf_row hD (show 4 + k < 32 by omega) hr0
    rw [Nat.add_zero] at r1
    rw [(v3 0 hpos).1] at r1 r2
    refine rf_firstOf hL.2.1 hD (by omega) rfl hr0 ?_
    have ha := (g5 0 g1).2
    rw [show sgI T ri (4 + k) + (0 - 1) = sgI T ri (4 + k) by omega] at ha
    rw [(v3 0 hpos).1, ha, j27, nI_1, show (330 : Int32) = nI 330 from rfl, pk_mul, show grf (30, 0) 12 = (38, 0) from rfl, show grf (30, 0) 6 = (33, 0) from rfl, hL.2.1.2.2.1, hL.2.1.1 33 (by omega) (by omega), nI_clamp (by omega), r1, nI_clamp (by omega), (rf_fr hD.1 r2).2.2.1]
    refine (pk_eq (sgI T ri (4 + k)) (sgE T F ri t + 1) (fun hi => ⟨vp_in_nI (by omega) (by omega), vp_in_nI (by omega) (by omega), tm _ ⟨fun hne => next (fun z => hne z.2.2), fun heq => ?_⟩⟩) (fun hi => next (fun z => hi z.2.1)) rfl rfl (by omega) (by omega)) |> fun h => ⟨h.2, h.1⟩
    refine h1 (4 + k) ?_ (by omega)
    rw [hnx, hs, step, if_pos]
    rw [← hp]
    exact decide_eq_true ⟨hpos, hi, heq⟩
/-- the reference follows the segments -/
theorem r_follow {Ln : gI → Nat} {M n t0 nf us : Nat} {F : gF} {T : Nat → gFr} {ri : Nat → List Nat} {bt : Int32} {bs : Nat} {S0 : gS} {Q : Int32 → gS → Prop} (hL : aL Ln M) (h : wL n bs F T ri) (hh : hold bs bt T F ri t0)
    (hq : ∀ S' D t, chO bs t0 T F ri (D ++ [t]) → (2 ≤ sgW T F ri t → nxN T F ri t = 16) → rJ bs bt T F ri nf us (D ++ [t]) (sgE T F ri t) S0 S' → ∃ m, wp_Mo_crash_187 Ln Q m (30, 0) 4 S') :
    ∀ m D t la S, D.length + m = 12 → chO bs t0 T F ri (D ++ [t]) → (D.length = 0 → la = bs) → (0 < D.length → la = sgE T F ri (D.getD (D.length - 1) 0)) → rJ bs bt T F ri nf us D la S0 S → wp_Mo_crash_149 Ln Q (m + 2) (30, 0) (nI t) S
  | 0, D, t, la, S, hm, hC, _, _, _ => by
    exfalso
    have hlen : (D ++ [t]).length = D.length + 1 := by rw [List.length_append]; rfl
    have := od_lt (od := D) (f := t) (fun k hk => by have := hC.1 k (by omega); rw [getD_snoc_l hk] at this; exact ⟨this.1, this.2.1⟩) (fun k q hkq hq => by have := ch_ne h hC hkq (by omega); rw [getD_snoc_l (by omega), getD_snoc_l hq] at this; exact this) (by have := hC.1 D.length (by omega); rw [getD_snoc_r] at this; exact ⟨this.1, this.2.1⟩) (fun k hk => by have := ch_ne h hC hk (by omega); rw [getD_snoc_l hk, getD_snoc_r] at this; exact this)
    omega
  | m + 1, D, t, la, S, hm, hC, hla0, hla1, hJ => by
    have hlen : (D ++ [t]).length = D.length + 1 := by rw [List.length_append]; rfl
    have hbs := h.2.2.2.2
    obtain ⟨t1, t2, t3⟩ := hC.1 D.length (by omega)
    rw [getD_snoc_r] at t1 t2 t3
    obtain ⟨f1, f2, f3, f4, f5, f6⟩ := sg_facts h t1 t2 t3
    have hEq : sgE T F ri t = sgI T ri t + sgW T F ri t - 2 := rfl
    have hnew : t ∉ D := fun hm => by
      obtain ⟨i, hi, e⟩ := List.mem_iff_getElem.mp hm
      have := ch_ne h hC hi (show D.length < (D ++ [t]).length by omega)
      rw [getD_snoc_l hi, getD_snoc_r, getD_get hi] at this
      exact this e
    have hbe := ch_b h hC (show D.length < (D ++ [t]).length by omega)
    rw [getD_snoc_r] at hbe
    have hlaF : bs ≤ la ∧ (la + 1 = sgI T ri t ∨ (la = bs ∧ sgI T ri t ≤ bs + 1)) ∧ la ≤ sgE T F ri t ∧ la < bs + 302 := by
      rcases Nat.eq_zero_or_pos D.length with z | z
      · have e := hla0 z
        have : D = [] := List.eq_nil_of_length_eq_zero z
        subst this
        obtain ⟨x1, x2, x3⟩ := hC.2.2 (by omega)
        have x1' : sgI T ri t ≤ bs + 1 := x1
        exact ⟨by omega, Or.inr ⟨e, x1'⟩, by omega, by omega⟩
      · have e := hla1 z
        obtain ⟨y1, y2, y3⟩ := hC.2.1 (D.length - 1) (by omega)
        have yb := ch_b h hC (show D.length - 1 < (D ++ [t]).length by omega)
        obtain ⟨z1, z2, z3⟩ := hC.1 (D.length - 1) (by omega)
        have ek : (D ++ [t]).getD (D.length - 1) 0 = D.getD (D.length - 1) 0 := getD_snoc_l (by omega)
        rw [show D.length - 1 + 1 = D.length by omega, getD_snoc_r] at y2
        rw [ek] at y1 y2 yb z1 z2 z3
        obtain ⟨k1, k2, k3, k4, k5, k6⟩ := sg_facts h z1 z2 z3
        have hE2 : sgE T F ri (D.getD (D.length - 1) 0) = sgI T ri (D.getD (D.length - 1) 0) + sgW T F ri (D.getD (D.length - 1) 0) - 2 := rfl
        exact ⟨by omega, Or.inl (by omega), by omega, by omega⟩
    obtain ⟨l1, l2, l3, l4⟩ := hlaF
    unfold wp_Mo_crash_149
    refine br_f (nI_pos (by omega)) ?_
    refine r_join hL h hJ ⟨t1, t2, t3⟩ hnew (by omega) l1 (by omega) l3 l4 l2 rfl ?_
    intro S1 hJ1
    have hD1 := hJ1.2.2.2.2.1
    obtain ⟨w1, w2, w3, w4, w5, w6⟩ := sg_view h (D ++ [t]) t2
    obtain ⟨-, y⟩ := ct_in (T := T) (F := F) (ri := ri) (D ++ [t]) F ri (Or.inl rfl) (show t ∈ D ++ [t] from List.mem_append_right _ (List.mem_singleton.mpr rfl))
    have y' : ctR T F ri (D ++ [t]) t = (ri t).take (sgW T F ri t) := y
    have hcnt : S1.1 (39, 0) t = nI (sgW T F ri t) := by
      have := (hD1.2.1 t (by omega)).2.1
      rw [y', List.length_take, Nat.min_eq_left f2] at this
      exact this
    rw [show grf (30, 0) 13 = (39, 0) from rfl, hL.2.1.2.2.2.1, nI_clamp (by omega), hcnt]
    unfold wp_Mo_crash_179
    have h330 := (hD1.2.1 t (by omega)).1
    refine ⟨vp_in_nI (by omega) (by omega), pk_le (sgW T F ri t) 1 (fun hle => ?_) (fun hgt => ?_) rfl rfl (by omega) (by omega)⟩
    · unfold wp_Mo_crash_149
      exact br_t (by decide) (hq S1 D t hC (fun z => by omega) hJ1)
    · have hl12 : (D ++ [t]).length ≤ 12 := by omega
      refine r_nextSegment hL h hJ1 hC hh (by omega) hl12 (fun u hu hu16 => ?_) (fun h16 => ?_)
      · have hx : nxN T F ri t < 16 := by omega
        obtain ⟨hC2, -⟩ := ch_new h hC (by omega) hx
        rw [hu] at hC2
        exact r_follow hL h hh hq m (D ++ [t]) u (sgE T F ri t) S1 (by omega) hC2 (fun z => by omega) (fun _ => by rw [hlen, show D.length + 1 - 1 = D.length by omega, getD_snoc_r]) hJ1
      · unfold wp_Mo_crash_149
        exact br_t (by decide) (hq S1 D t hC (fun z => h16) hJ1)
