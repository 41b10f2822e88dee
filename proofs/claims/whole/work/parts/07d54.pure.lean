theorem ch_pre {bs t0 : Nat} {F : gF} {T : Nat → gFr} {ri : Nat → List Nat} {D : List Nat} {t : Nat} (hC : chO bs t0 T F ri (D ++ [t])) : chO bs t0 T F ri D := by
  have hlen : (D ++ [t]).length = D.length + 1 := by rw [List.length_append]; rfl
  refine ⟨fun k hk => ?_, fun k hk => ?_, fun hk => ?_⟩
  · have := hC.1 k (by omega)
    rw [getD_snoc_l hk] at this; exact this
  · have := hC.2.1 k (by omega)
    rw [getD_snoc_l hk, getD_snoc_l (by omega)] at this; exact this
  · have := hC.2.2 (by omega)
    rw [getD_snoc_l hk] at this; exact this
theorem ch_last {bs t0 : Nat} {F : gF} {T : Nat → gFr} {ri : Nat → List Nat} {D : List Nat} {u t : Nat} (hC : chO bs t0 T F ri (D ++ [u] ++ [t])) : 2 ≤ sgW T F ri u ∧ sgI T ri t = sgE T F ri u + 1 := by
  have hlen : (D ++ [u]).length = D.length + 1 := by rw [List.length_append]; rfl
  have hlen2 : (D ++ [u] ++ [t]).length = D.length + 2 := by rw [List.length_append, hlen]; rfl
  obtain ⟨a, b, -⟩ := hC.2.1 D.length (by omega)
  rw [getD_snoc_l (by omega), getD_snoc_r] at a
  rw [getD_snoc_l (od := D ++ [u]) (k := D.length) (by omega), getD_snoc_r, ← hlen, getD_snoc_r] at b
  exact ⟨a, b⟩
theorem en_ok {n bs t0 : Nat} {F : gF} {T : Nat → gFr} {ri : Nat → List Nat} (h : wL n bs F T ri) : ∀ m D t, D.length = m → chO bs t0 T F ri (D ++ [t]) → ∀ i, bs < i → i ≤ sgE T F ri t → ∃ q, q < (D ++ [t]).length ∧ sgI T ri ((D ++ [t]).getD q 0) ≤ i ∧ i + 2 ≤ sgI T ri ((D ++ [t]).getD q 0) + sgW T F ri ((D ++ [t]).getD q 0) ∧ enD T F ri (D ++ [t]) i = (ri ((D ++ [t]).getD q 0)).getD (i + 1 - sgI T ri ((D ++ [t]).getD q 0)) 0 ∧ eiD T F ri (D ++ [t]) i = sgN T ri ((D ++ [t]).getD q 0) i := by
  intro m
  induction m with
  | zero =>
    intro D t hD hC i h1 h2
    have e : D = [] := List.eq_nil_of_length_eq_zero hD
    subst e
    obtain ⟨x1, x2, -⟩ := hC.2.2 (by simp)
    have x1' : sgI T ri t ≤ bs + 1 := x1
    have hi : sgI T ri t ≤ i ∧ i + 2 ≤ sgI T ri t + sgW T F ri t := by
      have hE : sgE T F ri t = sgI T ri t + sgW T F ri t - 2 := rfl
      omega
    refine ⟨0, by simp, hi.1, hi.2, ?_, ?_⟩
    · rw [enD_snoc, if_pos hi]; rfl
    · rw [eiD_snoc, if_pos hi]; rfl
  | succ m ih =>
    intro D t hD hC i h1 h2
    have hlen : (D ++ [t]).length = D.length + 1 := by rw [List.length_append]; rfl
    by_cases e : sgI T ri t ≤ i
    · have hi : i + 2 ≤ sgI T ri t + sgW T F ri t := by
        have hE : sgE T F ri t = sgI T ri t + sgW T F ri t - 2 := rfl
        omega
      refine ⟨D.length, by omega, ?_⟩
      rw [getD_snoc_r, enD_snoc, eiD_snoc, if_pos ⟨e, hi⟩, if_pos ⟨e, hi⟩]
      exact ⟨e, hi, rfl, rfl⟩
    · rcases List.eq_nil_or_concat D with z | ⟨D', u, z⟩
      · rw [z] at hD; simp at hD
      · rw [List.concat_eq_append] at z
        subst z
        obtain ⟨-, b⟩ := ch_last hC
        obtain ⟨q, q1, q2, q3, q4, q5⟩ := ih D' u (by rw [List.length_append] at hD; exact Nat.succ.inj hD) (ch_pre hC) i h1 (by omega)
        refine ⟨q, by omega, ?_⟩
        rw [getD_snoc_l q1, enD_snoc, eiD_snoc, if_neg (fun z => e z.1), if_neg (fun z => e z.1)]
        exact ⟨q2, q3, q4, q5⟩
theorem lg_ok {n bs : Nat} {bt : Int32} {F : gF} {T : Nat → gFr} {ri : Nat → List Nat} {od : List Nat} (h : wL n bs F T ri) (hl : lgO bs bt T F ri od) : ∃ t0, chO bs t0 T F ri od ∧ od.length ≤ 12 ∧ (∀ f, f ∈ od → 4 ≤ f ∧ f < 16 ∧ 0 < sgW T F ri f) := by
  rcases hl with ⟨e, -⟩ | ⟨t, t1, t2, t3, t4, hC, t6, t7⟩
  · subst e
    refine ⟨0, ⟨fun k hk => absurd hk (Nat.not_lt_zero k), fun k hk => absurd hk (Nat.not_lt_zero _), fun hk => absurd hk (Nat.lt_irrefl 0)⟩, by simp, fun f hf => absurd hf List.not_mem_nil⟩
  · refine ⟨t, hC, ?_, fun f hf => ?_⟩
    · rcases List.eq_nil_or_concat od with z | ⟨D, u, z⟩
      · rw [z]; simp
      · rw [List.concat_eq_append] at z
        subst z
        have hlen : (D ++ [u]).length = D.length + 1 := by rw [List.length_append]; rfl
        have := od_lt (od := D) (f := u) (fun k hk => by have := hC.1 k (by omega); rw [getD_snoc_l hk] at this; exact ⟨this.1, this.2.1⟩) (fun k q hkq hq => by have := ch_ne h hC hkq (by omega); rw [getD_snoc_l (by omega), getD_snoc_l hq] at this; exact this) (by have := hC.1 D.length (by omega); rw [getD_snoc_r] at this; exact ⟨this.1, this.2.1⟩) (fun k hk => by have := ch_ne h hC hk (by omega); rw [getD_snoc_l hk, getD_snoc_r] at this; exact this)
        omega
    · obtain ⟨i, hi, e⟩ := List.mem_iff_getElem.mp hf
      have := hC.1 i hi
      rw [getD_get hi, e] at this
      exact this
theorem cr_row {n bs : Nat} {bt : Int32} {F : gF} {T : Nat → gFr} {ri : Nat → List Nat} {od : List Nat} (h : wL n bs F T ri) (hl : lgO bs bt T F ri od) {f : Nat} :
    ((f < 4 ∨ 16 ≤ f) → rmB (ctR T F ri od) od 12 f = ri f ∧ (rmA (ctF T F ri od) od 12).1 f = F.1 f ∧ (rmA (ctF T F ri od) od 12).2.1 f = F.2.1 f ∧ (rmA (ctF T F ri od) od 12).2.2.1 f = F.2.2.1 f) ∧
    (f ∈ od → rmB (ctR T F ri od) od 12 f = (ri f).take (sgW T F ri f) ∧ (rmA (ctF T F ri od) od 12).1 f = rfC T ((ri f).take (sgW T F ri f)) ∧ (rmA (ctF T F ri od) od 12).2.1 f = F.2.1 f) ∧
    (4 ≤ f → f < 16 → f ∉ od → rmB (ctR T F ri od) od 12 f = [] ∧ (rmA (ctF T F ri od) od 12).1 f = [] ∧ (rmA (ctF T F ri od) od 12).2.1 f = 0) := by
  obtain ⟨t0, hC, h12, hm⟩ := lg_ok h hl
  refine ⟨fun hf => ?_, fun hf => ?_, fun h4 h16 hf => ?_⟩
  · have hno : f ∉ od := fun z => by have := hm f z; omega
    obtain ⟨a, b, c, d, e⟩ := rmA_out (G := ctF T F ri od) (R := ctR T F ri od) (od := od) (c := f) 12 (by omega)
    obtain ⟨x, y, z⟩ := ct_out (T := T) (F := F) (ri := ri) od F ri hno
    exact ⟨e.trans z, a.trans x, b.trans (congrFun (ct_th od F) f), c.trans y⟩
  · obtain ⟨m4, m16, mw⟩ := hm f hf
    obtain ⟨a, b, c, d, e⟩ := rmA_out (G := ctF T F ri od) (R := ctR T F ri od) (od := od) (c := f) 12 (Or.inr (Or.inr hf))
    obtain ⟨x, y⟩ := ct_in (T := T) (F := F) (ri := ri) od F ri (Or.inl rfl) hf
    have x' : (ctF T F ri od).1 f = rfC T ((ri f).take (sgW T F ri f)) := by
      refine x.trans ?_
      have hP := h.2.1 f (by omega)
      obtain ⟨t, ht⟩ := hP.1
      obtain ⟨u, hu⟩ := rfC_pre T (ri f) (sgW T F ri f)
      have hz : sgZ T F ri f ≤ (F.1 f).length := rfW_size hP
      have : (F.1 f).take (sgZ T F ri f) = (rfC T (ri f)).take (sgZ T F ri f) := by rw [← ht, List.take_append_of_le_length hz]
      rw [this, ← hu]
      unfold sgZ
      rw [List.take_append_of_le_length (Nat.le_refl _), List.take_length]
    exact ⟨e.trans y, a.trans x', b.trans (congrFun (ct_th od F) f)⟩
  · obtain ⟨a, b, c, d, e⟩ := rmA_in (G := ctF T F ri od) (R := ctR T F ri od) (od := od) (c := f) h4 hf 12 (by omega)
    exact ⟨e, a, b⟩
theorem wf_found {n bs : Nat} {sf bt cd fc : Int32} {F : gF} {T : Nat → gFr} {ri : Nat → List Nat} {od : List Nat} (h : wL n bs F T ri) (h4 : wS sf bs bt cd fc F T ri) (hl : lgO bs bt T F ri od) :
    wR n bs (dkF_sy (rmA (ctF T F ri od) od 12) 16) T (riSy (rmB (ctR T F ri od) od 12) 16) ∧ wS sf bs bt cd fc (dkF_sy (rmA (ctF T F ri od) od 12) 16) T (riSy (rmB (ctR T F ri od) od 12) 16) ∧ wO bs (laO bs T F ri od) (dkF_sy (rmA (ctF T F ri od) od 12) 16) T (riSy (rmB (ctR T F ri od) od 12) 16) od (sgI T ri) ∧ wE bs (laO bs T F ri od) T (riSy (rmB (ctR T F ri od) od 12) 16) od (sgI T ri) (enD T F ri od) (eiD T F ri od) ∧ bs ≤ laO bs T F ri od ∧ laO bs T F ri od ≤ bs + 300 := by
  obtain ⟨t0, hC, h12, hm⟩ := lg_ok h hl
  have hr : ∀ f, _ := fun f => cr_row h hl (f := f)
  generalize hG : rmA (ctF T F ri od) od 12 = G at *
  generalize hR : rmB (ctR T F ri od) od 12 = R at *
  obtain ⟨⟨a1, a2, a3, a4, a5⟩, hP, hlo, hfr, hbs⟩ := id h
  -- rows are beginnings of the old ones
  have row : ∀ f, f < 16 → ∃ p, R f = (ri f).take p := by
    intro f hf
    by_cases e : f < 4
    · exact ⟨(ri f).length, by rw [((hr f).1 (Or.inl e)).1, List.take_length]⟩
    · by_cases e2 : f ∈ od
      · exact ⟨_, ((hr f).2.1 e2).1⟩
      · exact ⟨0, by rw [((hr f).2.2 (by omega) hf e2).1, List.take_zero]⟩
  have pat : ∀ d p k, k < ((ri d).take p).length → k < (ri d).length ∧ ((ri d).take p).getD k 0 = (ri d).getD k 0 := by
    intro d p k hk
    rw [List.length_take] at hk
    exact ⟨by omega, getD_take (by omega)⟩
  have hmem : ∀ k, k < od.length → od.getD k 0 ∈ od := fun k hk => by rw [getD_get hk]; exact List.getElem_mem hk
  refine ⟨⟨fun f hf => ?_, fun c hc h2 => ?_, fun c hc h4 => ?_, fun c d k q hc hd => ?_, fun c k q hc => ?_⟩, ?_, ?_, ?_, ?_⟩
  · show (dkF_sy G 16).2.2.1 f ≤ ((dkF_sy G 16).1 f).length
    rw [(dkF_sy_hi 16 (by omega) f hf).2.2, (dkF_sy_lo 16 (by omega) f hf).1]
    exact Nat.le_refl _
  · rw [riSy_all hc, ((hr (c % 16)).1 (Or.inl (by omega))).1]
    exact a2 (c % 16) (by omega) (by omega)
  · rw [riSy_all hc, (dkF_sy_all hc).2]
    by_cases e2 : c % 16 ∈ od
    · obtain ⟨x1, x2, x3⟩ := (hr (c % 16)).2.1 e2
      rw [x1, x3]
      obtain ⟨b1, b2⟩ := a3 (c % 16) (by omega) (by omega)
      refine ⟨?_, fun z => b2 (fun y => z (by rw [y, List.take_nil]))⟩
      rcases b1 with b | ⟨fi, c1, c2, c3⟩
      · exact Or.inl (by rw [b, List.take_nil])
      · refine Or.inr ⟨fi, c1, ?_, fun k hk => ?_⟩
        · rw [List.length_take]; omega
        · obtain ⟨k1, k2⟩ := pat _ _ k hk
          rw [k2]; exact c3 k k1
    · obtain ⟨x1, x2, x3⟩ := (hr (c % 16)).2.2 (by omega) (by omega) e2
      rw [x1]
      exact ⟨Or.inl rfl, fun z => absurd rfl z⟩
  · rw [riSy_all hc, riSy_all hd]
    obtain ⟨p, hp⟩ := row (c % 16) (by omega)
    obtain ⟨p', hp'⟩ := row (d % 16) (by omega)
    rw [hp, hp']
    intro h1 h2 h3
    obtain ⟨k1, k2⟩ := pat _ _ k h1
    obtain ⟨q1, q2⟩ := pat _ _ q h2
    rw [k2, q2] at h3
    have := a4 (c % 16) (d % 16) k q (by omega) (by omega) k1 q1 h3
    omega
  · rw [riSy_all hc]
    obtain ⟨p, hp⟩ := row (c % 16) (by omega)
    rw [hp]
    intro h1 h2
    obtain ⟨q1, q2⟩ := pat _ _ q h2
    obtain ⟨k1, k2⟩ := pat (c % 16) p k (by omega)
    rw [k2, q2]
    exact a5 (c % 16) k q (by omega) h1 q1
  · refine wS.sy ?_
    obtain ⟨b1, b2⟩ := h4
    refine ⟨fun f h2 h4 => ?_, ?_⟩
    · obtain ⟨x1, x2, x3, x4⟩ := (hr f).1 (Or.inl h4)
      obtain ⟨y1, y2, y3, y4⟩ := (hr (16 + f)).1 (Or.inr (by omega))
      show R (16 + f) = R f ∧ G.1 (16 + f) = G.1 f ∧ G.2.1 (16 + f) = G.2.1 f ∧ G.1 f = rfC T (R f) ∧ G.2.2.1 f = (G.1 f).length
      rw [x1, x2, x3, x4, y1, y2, y3]
      exact b1 f h2 h4
    · have e2 := ((hr 2).1 (Or.inl (by omega))).1
      have e3 := ((hr 3).1 (Or.inl (by omega))).1
      rw [e2, e3]
      rcases b2 with b | ⟨s, o, j, b1', b2'⟩
      · exact Or.inl b
      · refine Or.inr ⟨s, o, j, b1', ?_⟩
        rcases b1' with ⟨rfl, rfl⟩ | ⟨rfl, rfl⟩
        · rw [e2, e3]; exact b2'
        · rw [e2, e3]; exact b2'
  · refine wO.of (fun f _ hf => riSy_lo 16 (by omega) f hf) (fun f _ hf => (dkF_sy_lo 16 (by omega) f hf).1) (fun f _ hf => (dkF_sy_lo 16 (by omega) f hf).2) ?_
    have len : ∀ f, f ∈ od → (R f).length = sgW T F ri f := fun f hf => by
      obtain ⟨m4, m16, mw⟩ := hm f hf
      have := (sg_facts h m4 m16 mw).2.1
      rw [((hr f).2.1 hf).1, List.length_take]; omega
    refine ⟨h12, fun k hk => ⟨(hC.1 k hk).1, (hC.1 k hk).2.1⟩, fun k q hk hq => ch_ne h hC hk hq, fun k hk => ?_, fun k hk => ?_, fun hk => ?_, fun hk => ?_, fun f hf4 hf hne => ?_⟩
    · obtain ⟨m4, m16, mw⟩ := hC.1 k hk
      have hmk := hmem k hk
      generalize od.getD k 0 = f at *
      obtain ⟨f1, f2, f3, f4, f5, f6⟩ := sg_facts h m4 m16 mw
      obtain ⟨x1, x2, x3⟩ := (hr f).2.1 hmk
      have ha := (f5 0 f1).2
      rw [show sgI T ri f + (0 - 1) = sgI T ri f by omega] at ha
      refine ⟨by rw [len f hmk]; exact mw, by rw [x2, x1], ?_, f3, by rw [len f hmk]; omega, ?_⟩
      · rw [x1, getD_take mw]; exact ha
      · show G.2.1 f = 1
        rw [x3]
        refine (a3 f (by omega) (by omega)).2 (fun z => ?_)
        rw [z] at f1; exact absurd f1 (Nat.lt_irrefl 0)
    · rw [len _ (hmem k (by omega))]
      obtain ⟨y1, y2, -⟩ := hC.2.1 k hk
      have hE : sgE T F ri (od.getD k 0) = sgI T ri (od.getD k 0) + sgW T F ri (od.getD k 0) - 2 := rfl
      omega
    · unfold laO; rw [if_pos hk]
    · refine ⟨(hC.2.2 hk).1, ?_⟩
      rw [len _ (hmem _ (by omega))]
      obtain ⟨m4, m16, mw⟩ := hC.1 (od.length - 1) (by omega)
      have f3 := (sg_facts h m4 m16 mw).2.2.1
      have hE : sgE T F ri (od.getD (od.length - 1) 0) = sgI T ri (od.getD (od.length - 1) 0) + sgW T F ri (od.getD (od.length - 1) 0) - 2 := rfl
      unfold laO; rw [if_neg (by omega)]
      omega
    · have hno : f ∉ od := fun hm => by
        obtain ⟨i, hi, e⟩ := List.mem_iff_getElem.mp hm
        exact hne i hi (by rw [getD_get hi]; exact e)
      obtain ⟨x1, x2, x3⟩ := (hr f).2.2 hf4 hf hno
      exact ⟨x3, x1⟩
  · intro i h1 h2
    rcases List.eq_nil_or_concat od with z | ⟨D, u, z⟩
    · rw [z] at h2
      have : laO bs T F ri [] = bs := rfl
      omega
    · rw [List.concat_eq_append] at z
      have hlen : od.length = D.length + 1 := by rw [z, List.length_append]; rfl
      have hlast : od.getD (od.length - 1) 0 = u := by rw [hlen, show D.length + 1 - 1 = D.length by omega, z]; exact getD_snoc_r
      have hlaO : laO bs T F ri od = sgE T F ri u := by unfold laO; rw [if_neg (by omega), hlast]
      rw [hlaO] at h2
      obtain ⟨q, q1, q2, q3, q4, q5⟩ := en_ok h D.length D u rfl (by rw [← z]; exact hC) i h1 h2
      rw [← z] at q1 q2 q3 q4 q5
      have hmq := hmem q q1
      obtain ⟨m4, m16, mw⟩ := hC.1 q q1
      refine ⟨q, i + 1 - sgI T ri (od.getD q 0), q1, by omega, ?_⟩
      rw [riSy_lo 16 (by omega) _ m16, ((hr _).2.1 hmq).1]
      generalize od.getD q 0 = f at *
      obtain ⟨f1, f2, f3, f4, f5, f6⟩ := sg_facts h m4 m16 mw
      rw [List.length_take, getD_take (by omega), List.take_take, Nat.min_eq_left (show i + 1 - sgI T ri f ≤ sgW T F ri f by omega), q4, q5]
      exact ⟨by omega, by omega, rfl, rfl⟩
  · unfold laO
    split
    · omega
    · have hb := ch_b h hC (show od.length - 1 < od.length by omega)
      obtain ⟨m4, m16, mw⟩ := hC.1 (od.length - 1) (by omega)
      obtain ⟨f1, f2, f3, f4, f5, f6⟩ := sg_facts h m4 m16 mw
      have hE : sgE T F ri (od.getD (od.length - 1) 0) = sgI T ri (od.getD (od.length - 1) 0) + sgW T F ri (od.getD (od.length - 1) 0) - 2 := rfl
      omega
