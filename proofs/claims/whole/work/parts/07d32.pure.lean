theorem r_open {Ln : gI → Nat} {M : Nat} {fc : Int32} {F : gF} {tp : List Nat} {tm vo : Int32} {ti sl fh : Nat} {sf : Int32} {bs : Nat} {bt cd : Int32} {la di : Nat} {od : List Nat} {kp : Nat → Int32} {T : Nat → gFr} {nf us : Nat} {ri : Nat → List Nat} {en : Nat → Nat} {S : gS} {f : Nat} {v : Int32} {R : gS → Prop}
    (hL : aL Ln M) (hr : rl M fc F tp tm vo ti sl fh sf bs bt cd la di od kp T nf us ri en S) (hla : la < 2 ^ 30) (hbl : bs ≤ la) (hl3 : la ≤ bs + 300) (hen : bs < la → en la < nf) (hnf : nf < 2200) (hf : f < 16) (hv : v = nI f) (h12 : od.length < 12) (hF : F.1 f = []) (hri : ri f = [])
    (hq : ∀ S', loX S S' → S'.1 (30, 0) 0 = S.1 (30, 0) 0 → S'.1 (47, 0) = S.1 (47, 0) → rl M fc (dkF_wr F f (frE (2, nI (la + 1), (if bs < la then (T (en la)).b else bt), 0, []))) tp tm vo ti sl fh sf bs bt cd la di (od ++ [f]) kp (va_up T nf (2, nI (la + 1), (if bs < la then (T (en la)).b else bt), 0, [])) (nf + 1) us (va_up ri f [nf]) en S' → R S') :
    wp_Mo_termOf Ln (fun r35 S34 => wp_Mo_make Ln (fun r37 S36 => wp_Mo_put Ln (fun S38 => vp_in (S38.1 (30, 0) 30) (Ln (grf (30, 0) 31)) ∧ (∀ S39 : gS, S39 = gset S38 (grf (30, 0) 31) (S38.1 (30, 0) 30).toNatClampNeg v → (∀ S40 : gS, S40 = gset S39 (30, 0) 30 ((S39.1 (30, 0) 30) + 1) → (R S40)))) (30, 0) v r37 S36) (30, 0) 2 ((S.1 (30, 0) 27) + 1) r35 0 S34) (30, 0) (S.1 (30, 0) 27) S := by
  subst hv
  have hr' := hr
  obtain ⟨p1, p2, p3, p4, p5, p6, p7, p8⟩ := hr'
  rw [p5.2.2.1, nI_1]
  refine r_termOf hL p4 p1.1 p7 (by omega) hl3 rfl hbl (Nat.le_refl _) hen ?_
  generalize htl : (if bs < la then (T (en la)).b else bt) = tl at *
  refine rf_make (so := 2) hL.2.1 p1.1 rfl (by omega) hnf (by omega) ?_
  intro S1 x1 _ hT1
  have hTa : ∀ j, j < nf → va_up T nf (2, nI (la + 1), tl, 0, []) j = T j := fun j hj => va_up_ne _ _ (by omega)
  have hTn : va_up T nf (2, nI (la + 1), tl, 0, []) nf = (2, nI (la + 1), tl, 0, []) := va_up_self _ _ _
  have hD1 := p1.mk x1 hT1 (by omega) hTa
  refine rf_put (j := nf) hL.2.1 hD1 hf (by omega) rfl rfl ?_ ?_ ?_ ?_
  · rw [hF, hri, rfC_nil]
  · rw [hri]; exact (by decide : 0 < 330)
  · rw [hTn, frE2_len]
    have : F.sz f = 0 := congrArg List.length hF
    omega
  · intro S2 x2 hD2
    rw [hTn, hri, List.nil_append] at hD2
    have e30 : S2.1 (30, 0) 30 = nI od.length := by rw [x2.2 _ (by simp), x1.2.2 30 (by omega) (by omega)]; exact p6.1
    rw [e30, show grf (30, 0) 31 = (45, 0) from rfl, hL.2.1.2.2.2.2.2.2.2.2.2.1, nI_clamp (by omega)]
    refine ⟨vp_in_nI (by omega) (by omega), ?_⟩
    rintro _ rfl _ rfl
    rw [gset_o (by simp), e30, nI_1]
    have o : ∀ k, k ≠ 3 → k ≠ 11 → k ≠ 30 → (gset (gset S2 (45, 0) od.length (nI f)) (30, 0) 30 (nI (od.length + 1))).1 (30, 0) k = S.1 (30, 0) k := by
      intro k a b c
      rw [gset_n (Or.inr c), gset_o (by simp), x2.2 _ (by simp), x1.2.2 k a b]
    have oh : ∀ i : gI, 43 < i.1 → i.1 ≠ 45 → (gset (gset S2 (45, 0) od.length (nI f)) (30, 0) 30 (nI (od.length + 1))).1 i = S.1 i := by
      intro i hi h45
      rw [gset_o (by rintro rfl; simp at hi), gset_o (by rintro rfl; simp at h45), x2.2 _ (by omega), x1.2.1 _ (by omega)]
    refine hq _ (((x1.lo.tr x2.lo).tr (loX.set (by simp))).tr (loX.set (by simp))) (o 0 (by omega) (by omega) (by omega)) (oh _ (by simp) (by simp)) ⟨rfD_of (fun i a b => ?_) ?_ ?_ hD2, ?_, ?_, ?_, ?_, ⟨?_, ?_⟩, ?_, ?_⟩
    · rw [gset_o (by rintro rfl; simp at a), gset_o (by rintro rfl; simp at b)]
    · rw [gset_n (Or.inr (by omega)), gset_o (by simp)]
    · rw [gset_n (Or.inr (by omega)), gset_o (by simp)]
    · unfold rT rfB; rw [o 33 (by omega) (by omega) (by omega), oh (47, 0) (by simp) (by simp)]; exact p2
    · unfold rV; rw [o 19 (by omega) (by omega) (by omega), o 20 (by omega) (by omega) (by omega), o 21 (by omega) (by omega) (by omega), o 22 (by omega) (by omega) (by omega), o 28 (by omega) (by omega) (by omega)]; exact p3
    · unfold rS; rw [o 26 (by omega) (by omega) (by omega), o 23 (by omega) (by omega) (by omega), o 24 (by omega) (by omega) (by omega), o 25 (by omega) (by omega) (by omega)]; exact p4
    · unfold rM; rw [o 1 (by omega) (by omega) (by omega), o 2 (by omega) (by omega) (by omega), o 27 (by omega) (by omega) (by omega), o 29 (by omega) (by omega) (by omega)]; exact p5
    · rw [gset_s, List.length_append]; rfl
    · intro k hk
      rw [List.length_append] at hk
      rw [gset_o (by simp)]
      by_cases e : k = od.length
      · subst e; rw [gset_s, getD_snoc_r]
      · have hk2 : k < od.length := by simp at hk; omega
        rw [gset_n (Or.inr e), getD_snoc_l hk2, x2.2 _ (by simp), x1.2.1 _ (by simp)]
        exact p6.2 k hk2
    · unfold rE; rw [oh (46, 0) (by simp) (by simp)]; exact p7
    · unfold rK; rw [oh (44, 0) (by simp) (by simp)]; exact p8
theorem r_entry {Ln : gI → Nat} {M : Nat} {fc : Int32} {F : gF} {tp ds : List Nat} {tm vo : Int32} {ti sl fh : Nat} {sf : Int32} {bs : Nat} {bt cd : Int32} {la di : Nat} {od : List Nat} {kp : Nat → Int32} {T : Nat → gFr} {nf us : Nat} {ri : Nat → List Nat} {en : Nat → Nat} {S : gS} {f q : Nat} {v te ki w : Int32} {Q : Int32 → gS → Prop}
    (hL : aL Ln M) (hr : rl M fc F tp tm vo ti sl fh sf bs bt cd la di od kp T nf us ri en S) (hB : rfB ds S) (hla : la < 2 ^ 30) (hbl : bs ≤ la) (hl3 : la < bs + 300) (hnf : nf < 2200) (hus : us + ds.length ≤ 4200) (hf : f < 16) (hv : v = nI f) (hw : w = nI ds.length) (hq2 : q ≤ 2) (hki : ki = nI q) (hfull : F.1 f = rfC T (ri f)) (hrl : (ri f).length < 330) (hsz : F.sz f < 2 ^ 19)
    (hq : ∀ S', loX S S' → S'.1 (30, 0) 0 = S.1 (30, 0) 0 → rl M fc (dkF_wr F f (frE (3, nI (la + 1), te, ki, ds))) tp tm vo ti sl fh sf bs bt cd (la + 1) 1 od kp (va_up T nf (3, nI (la + 1), te, ki, ds)) (nf + 1) (us + ds.length) (va_up ri f (ri f ++ [nf])) (va_up en (la + 1) nf) S' → Q (nI (la + 1)) S') :
    wp_Mo_append_223 Ln Q (30, 0) te ki w v S := by
  subst hv hw
  have hr' := hr
  obtain ⟨p1, p2, p3, p4, p5, p6, p7, p8⟩ := hr'
  have hds := hB.1
  unfold wp_Mo_append_223
  rw [p5.2.2.1, nI_1]
  refine rf_make (so := 3) hL.2.1 p1.1 rfl (by omega) hnf (fun _ => ⟨q, hq2, hki⟩) ?_
  intro S1 x1 h35 hT1
  have hB1 : rfB ds S1 := by unfold rfB; rw [x1.2.1 (47, 0) (by simp)]; exact hB
  refine rf_fill hL.2.1 hT1 h35 (Or.inr rfl) hB1 rfl rfl hus ?_
  intro S2 x2 hT2
  have hTa : ∀ j, j < nf → va_up T nf (3, nI (la + 1), te, ki, ds) j = T j := fun j hj => va_up_ne _ _ (by omega)
  have hTn : va_up T nf (3, nI (la + 1), te, ki, ds) nf = (3, nI (la + 1), te, ki, ds) := va_up_self _ _ _
  have hD2 := p1.mk (x1.tr x2) hT2 (by omega) hTa
  refine rf_put (j := nf) hL.2.1 hD2 hf (by omega) rfl rfl ?_ hrl ?_ ?_
  · rw [p1.lt.T' hTa (show f < 32 by omega)]; exact hfull
  · rw [hTn, frE3_len]; omega
  · intro S3 x3 hD3
    rw [hTn] at hD3
    have e27 : S3.1 (30, 0) 27 = nI la := by rw [x3.2 _ (by simp), (x1.tr x2).2.2 27 (by omega) (by omega)]; exact p5.2.2.1
    have e23 : S3.1 (30, 0) 23 = nI bs := by rw [x3.2 _ (by simp), (x1.tr x2).2.2 23 (by omega) (by omega)]; exact p4.2.1
    rw [e27, e23, pk_sub hbl, show grf (30, 0) 32 = (46, 0) from rfl, hL.2.1.2.2.2.2.2.2.2.2.2.2.1, nI_clamp (by omega)]
    refine ⟨vp_in_nI (by omega) (by omega), ?_⟩
    rintro _ rfl
    rw [show (gset S3 (46, 0) (la - bs) (nI nf)).1 (30, 0) 27 = nI la from (congrFun (gset_o (by simp)) 27).trans e27, nI_1]
    rintro _ rfl _ rfl
    have o : ∀ k, k ≠ 3 → k ≠ 11 → k ≠ 27 → k ≠ 29 → (gset (gset (gset S3 (46, 0) (la - bs) (nI nf)) (30, 0) 27 (nI (la + 1))) (30, 0) 29 1).1 (30, 0) k = S.1 (30, 0) k := by
      intro k a b c d
      rw [gset_n (Or.inr d), gset_n (Or.inr c), gset_o (by simp), x3.2 _ (by simp), (x1.tr x2).2.2 k a b]
    have oh : ∀ i : gI, 43 < i.1 → i.1 ≠ 46 → (gset (gset (gset S3 (46, 0) (la - bs) (nI nf)) (30, 0) 27 (nI (la + 1))) (30, 0) 29 1).1 i = S.1 i := by
      intro i hi h46
      rw [gset_o (by rintro rfl; simp at hi), gset_o (by rintro rfl; simp at hi), gset_o (by rintro rfl; simp at h46), x3.2 _ (by omega), (x1.tr x2).2.1 _ (by omega)]
    have ea : (gset (gset (gset S3 (46, 0) (la - bs) (nI nf)) (30, 0) 27 (nI (la + 1))) (30, 0) 29 1).1 (30, 0) 27 = nI (la + 1) := by rw [gset_n (Or.inr (by omega)), gset_s]
    rw [ea]
    refine hq _ (((((x1.tr x2).lo.tr x3.lo).tr (loX.set (by simp))).tr (loX.set (by simp))).tr (loX.set (by simp))) (o 0 (by omega) (by omega) (by omega) (by omega)) ⟨rfD_of (fun i a b => ?_) ?_ ?_ hD3, ?_, ?_, ?_, ⟨?_, ?_, ea, ?_⟩, ?_, ?_, ?_⟩
    · rw [gset_o (by rintro rfl; simp at a), gset_o (by rintro rfl; simp at a), gset_o (by rintro rfl; simp at b)]
    · rw [gset_n (Or.inr (by omega)), gset_n (Or.inr (by omega)), gset_o (by simp)]
    · rw [gset_n (Or.inr (by omega)), gset_n (Or.inr (by omega)), gset_o (by simp)]
    · unfold rT rfB; rw [o 33 (by omega) (by omega) (by omega) (by omega), oh (47, 0) (by simp) (by simp)]; exact p2
    · unfold rV; rw [o 19 (by omega) (by omega) (by omega) (by omega), o 20 (by omega) (by omega) (by omega) (by omega), o 21 (by omega) (by omega) (by omega) (by omega), o 22 (by omega) (by omega) (by omega) (by omega), o 28 (by omega) (by omega) (by omega) (by omega)]; exact p3
    · unfold rS; rw [o 26 (by omega) (by omega) (by omega) (by omega), o 23 (by omega) (by omega) (by omega) (by omega), o 24 (by omega) (by omega) (by omega) (by omega), o 25 (by omega) (by omega) (by omega) (by omega)]; exact p4
    · rw [o 1 (by omega) (by omega) (by omega) (by omega)]; exact p5.1
    · rw [o 2 (by omega) (by omega) (by omega) (by omega)]; exact p5.2.1
    · rw [gset_s]; rfl
    · unfold rG; rw [o 30 (by omega) (by omega) (by omega) (by omega), oh (45, 0) (by simp) (by simp)]; exact p6
    · intro i h1 h2
      rw [gset_o (by simp), gset_o (by simp)]
      by_cases e : i = la + 1
      · subst e
        rw [show la + 1 - bs - 1 = la - bs by omega, gset_s, va_up_self]
      · rw [gset_n (Or.inr (by omega)), va_up_ne _ _ e, x3.2 _ (by simp), (x1.tr x2).2.1 _ (by simp)]
        exact p7 i h1 (by omega)
    · unfold rK; rw [oh (44, 0) (by simp) (by simp)]; exact p8
/-! what holds of the ghosts after a segment is opened, after an entry is added -/
theorem hm_new {nf f : Nat} {ri : Nat → List Nat} {l : List Nat} (hl : rlt nf ri) (h4 : ∀ c d k q, c < 32 → d < 32 → k < (ri c).length → q < (ri d).length → (ri c).getD k 0 = (ri d).getD q 0 → c % 16 = d % 16) (hf : f < 16)
    (hs : ∀ k, k < l.length → l.getD k 0 = nf ∨ ∃ q, q < (ri f).length ∧ l.getD k 0 = (ri f).getD q 0) :
    ∀ c d k q, c < 32 → d < 32 → k < (va_up ri f l c).length → q < (va_up ri f l d).length → (va_up ri f l c).getD k 0 = (va_up ri f l d).getD q 0 → c % 16 = d % 16 := by
  intro c d k q hc hd hk hq e
  by_cases e1 : c = f
  · by_cases e2 : d = f
    · rw [e1, e2]
    · subst e1
      rw [va_up_self] at hk e
      rw [va_up_ne _ _ e2] at hq e
      have h1 := hl d hd q hq
      rcases hs k hk with z | ⟨p, z1, z2⟩
      · omega
      · exact h4 c d p q hc hd z1 hq (z2.symm.trans e)
  · rw [va_up_ne _ _ e1] at hk e
    by_cases e2 : d = f
    · subst e2
      rw [va_up_self] at hq e
      have h1 := hl c hc k hk
      rcases hs q hq with z | ⟨p, z1, z2⟩
      · omega
      · exact h4 c d k p hc hd hk z1 (e.trans z2)
    · rw [va_up_ne _ _ e2] at hq e
      exact h4 c d k q hc hd hk hq e
theorem wf_open {n : Nat} {F : gF} {f : Nat} {E : List Nat} {bs la nf us : Nat} {T : Nat → gFr} {ri : Nat → List Nat} {od : List Nat} {fo : Nat → Nat} {en : Nat → Nat} {ei : Nat → gEi} {sf bt cd fc tl : Int32} {S : gS} (hf4 : 4 ≤ f) (hf : f < 16) (hth : F.th f = 0) (hl3 : la < bs + 300) (hbl : bs ≤ la) (hE : E = frE (2, nI (la + 1), tl, 0, []))
    (hD : rfD T nf us ri F S) (h3 : wR n bs F T ri) (h4 : wS sf bs bt cd fc F T ri) (h5 : wO bs la F T ri od fo) (h6 : wE bs la T ri od fo en ei) :
    ri f = [] ∧ F.1 f = [] ∧ od.length < 12 ∧ (∀ k, k < od.length → od.getD k 0 ≠ f) ∧
    wR n bs (dkF_wr F f E) (va_up T nf (2, nI (la + 1), tl, 0, [])) (va_up ri f [nf]) ∧ wS sf bs bt cd fc (dkF_wr F f E) (va_up T nf (2, nI (la + 1), tl, 0, [])) (va_up ri f [nf]) ∧
    wO bs la (dkF_wr F f E) (va_up T nf (2, nI (la + 1), tl, 0, [])) (va_up ri f [nf]) (od ++ [f]) (va_up fo f (la + 1)) ∧ wE bs la (va_up T nf (2, nI (la + 1), tl, 0, [])) (va_up ri f [nf]) (od ++ [f]) (va_up fo f (la + 1)) en ei := by
  have hl := hD.lt
  have hTa : ∀ j, j < nf → va_up T nf (2, nI (la + 1), tl, 0, []) j = T j := fun j hj => va_up_ne _ _ (by omega)
  have hTn : va_up T nf (2, nI (la + 1), tl, 0, []) nf = (2, nI (la + 1), tl, 0, []) := va_up_self _ _ _
  have hno : ∀ k, k < od.length → od.getD k 0 ≠ f := by
    intro k hk e
    have := (h5.2.2.2.1 k hk).2.2.2.2.2
    rw [e, hth] at this
    omega
  have hri : ri f = [] := (h5.2.2.2.2.2.2.2 f hf4 hf hno).2
  have hF : F.1 f = [] := by
    have := (hD.2.2.2 f (by omega)).1
    rw [hri, rfC_nil] at this
    exact List.prefix_nil.mp this
  have g1 : ∀ c, c ≠ f → (dkF_wr F f E).1 c = F.1 c := fun c hc => va_up_ne _ _ hc
  have g2 : ∀ c, c ≠ f → (dkF_wr F f E).2.1 c = F.2.1 c := fun c hc => va_up_ne _ _ hc
  have h3' := h3.T hl hTa
  have h4' := h4.T hl hTa
  have h5' := h5.T hl hTa
  have h6' := h6.T hl hTa h5.2.1
  have hn12 := od_lt h5.2.1 h5.2.2.1 ⟨hf4, hf⟩ hno
  have ez : ([nf] : List Nat).getD 0 0 = nf := rfl
  refine ⟨hri, hF, hn12, hno, ?_, ?_, ?_, ?_⟩
  · obtain ⟨a1, a2, a3, a4, a5⟩ := h3'
    refine ⟨fun g hg => ?_, fun c hc h2 => ?_, fun c hc h4 => ?_, hm_new hl a4 hf ?_, fun c k q hc hkq hq => ?_⟩
    · show F.lo g ≤ ((dkF_wr F f E).1 g).length
      by_cases e : g = f
      · subst e
        have := a1 g hg
        have e0 : F.sz g = 0 := congrArg List.length hF
        omega
      · rw [g1 g e]; exact a1 g hg
    · rw [va_up_ne _ _ (show c ≠ f by omega)]; exact a2 c hc h2
    · by_cases e : c = f
      · subst e
        rw [va_up_self]
        refine ⟨Or.inr ⟨la + 1, by omega, by show la + 1 + 1 ≤ bs + 302; omega, fun k hk => ?_⟩, fun _ => va_up_self _ _ _⟩
        have hk0 : k = 0 := Nat.lt_one_iff.mp hk
        subst hk0
        rw [ez, hTn]
        exact ⟨rfl, rfl⟩
      · rw [va_up_ne _ _ e, g2 c e]; exact a3 c hc h4
    · intro k hk
      have hk0 : k = 0 := Nat.lt_one_iff.mp hk
      subst hk0
      exact Or.inl rfl
    · by_cases e1 : c = f
      · subst e1
        rw [va_up_self] at hq
        have : q < 1 := hq
        omega
      · rw [va_up_ne _ _ e1] at hq ⊢
        exact a5 c k q hc hkq hq
  · obtain ⟨a, b⟩ := h4'
    refine ⟨fun g h2 h4 => ?_, ?_⟩
    · show _ ∧ _ ∧ (dkF_wr F f E).2.1 (16 + g) = (dkF_wr F f E).2.1 g ∧ _ ∧ F.2.2.1 g = ((dkF_wr F f E).1 g).length
      rw [va_up_ne _ _ (show 16 + g ≠ f by omega), va_up_ne _ _ (show g ≠ f by omega), g1 _ (by omega), g1 _ (by omega), g2 _ (by omega), g2 _ (by omega)]
      exact a g h2 h4
    · rw [va_up_ne _ _ (show 2 ≠ f by omega), va_up_ne _ _ (show 3 ≠ f by omega)]
      rcases b with b | ⟨s, o, j, b1, b2⟩
      · exact Or.inl b
      · refine Or.inr ⟨s, o, j, b1, ?_⟩
        rw [va_up_ne _ _ (show s ≠ f by omega), va_up_ne _ _ (show o ≠ f by omega)]
        exact b2
  · obtain ⟨a1, a2, a3, a4, a5, a6, a7, a8⟩ := h5'
    have hlen : (od ++ [f]).length = od.length + 1 := by rw [List.length_append]; rfl
    refine ⟨by omega, fun k hk => ?_, fun k q hkq hq => ?_, fun k hk => ?_, fun k hk => ?_, fun z => by omega, fun _ => ?_, fun g h4 hg hne => ?_⟩
    · rw [hlen] at hk
      by_cases e : k = od.length
      · subst e; rw [getD_snoc_r]; exact ⟨hf4, hf⟩
      · rw [getD_snoc_l (by omega)]; exact a2 k (by omega)
    · rw [hlen] at hq
      rw [getD_snoc_l (show k < od.length by omega)]
      by_cases e : q = od.length
      · subst e; rw [getD_snoc_r]; exact hno k (by omega)
      · rw [getD_snoc_l (by omega)]; exact a3 k q hkq (by omega)
    · rw [hlen] at hk
      by_cases e : k = od.length
      · subst e
        rw [getD_snoc_r, va_up_self, va_up_self, ez, hTn]
        refine ⟨Nat.one_pos, ?_, rfl, by omega, by show la + 1 + 1 ≤ bs + 302; omega, va_up_self _ _ _⟩
        show va_up F.1 f (F.1 f ++ E) f = _
        rw [va_up_self, hF, rfC_one, hTn, hE, List.nil_append]
      · have hk2 : k < od.length := by omega
        rw [getD_snoc_l hk2, va_up_ne _ _ (hno k hk2), va_up_ne _ _ (hno k hk2), g1 _ (hno k hk2), show (dkF_wr F f E).th (od.getD k 0) = F.th (od.getD k 0) from g2 _ (hno k hk2)]
        exact a4 k hk2
    · rw [hlen] at hk
      have hk2 : k < od.length := by omega
      rw [getD_snoc_l hk2, va_up_ne fo _ (hno k hk2), va_up_ne ri _ (hno k hk2)]
      by_cases e : k + 1 = od.length
      · rw [e, getD_snoc_r, va_up_self]
        have := (a7 (by omega)).2
        rw [← e, show k + 1 - 1 = k by omega] at this
        exact this
      · rw [getD_snoc_l (show k + 1 < od.length by omega), va_up_ne _ _ (hno (k + 1) (by omega))]
        exact a5 k (by omega)
    · rw [hlen, show od.length + 1 - 1 = od.length by omega, getD_snoc_r, va_up_self, va_up_self]
      refine ⟨?_, rfl⟩
      rcases Nat.eq_zero_or_pos od.length with e | e
      · have hod : od = [] := List.eq_nil_of_length_eq_zero e
        subst hod
        show va_up fo f (la + 1) f ≤ bs + 1
        rw [va_up_self, a6 rfl]
        exact Nat.le_refl _
      · rw [getD_snoc_l e, va_up_ne _ _ (hno 0 e)]
        exact (a7 e).1
    · have hgf : g ≠ f := by
        rintro rfl
        exact hne od.length (by omega) getD_snoc_r
      rw [va_up_ne _ _ hgf, show (dkF_wr F f E).th g = F.th g from g2 _ hgf]
      exact a8 g h4 hg (fun k hk => by have := hne k (by omega); rw [getD_snoc_l hk] at this; exact this)
  · intro i h1 h2
    obtain ⟨q, k, b1, b2⟩ := h6' i h1 h2
    refine ⟨q, k, by rw [List.length_append]; exact Nat.lt_succ_of_lt b1, ?_⟩
    rw [getD_snoc_l b1, va_up_ne fo _ (hno q b1), va_up_ne ri _ (hno q b1)]
    exact b2
