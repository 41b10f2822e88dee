theorem frE_ge {r : gFr} (h : r.so = 2 ∨ r.so = 3) : (r.so = 2 → (frE r).length = 24) ∧ (r.so = 3 → 25 ≤ (frE r).length) := by
  refine ⟨fun e => ?_, fun e => ?_⟩
  · rw [frE_len, frP_len, if_neg (by omega), if_neg (by omega), if_pos e, if_neg (by omega)]
  · rw [frE_len, frP_len, if_neg (by omega), if_neg (by omega), if_neg (by omega), if_neg (by omega)]; omega
theorem sg_len {T : Nat → gFr} {b : Nat} {l : List Nat} (h : sgOK T b l) : ∀ k, k ≤ l.length → 25 * k ≤ (rfC T (l.take k)).length + 1
  | 0, _ => by omega
  | k + 1, hk => by
    have ih := sg_len h k (by omega)
    rcases h with e | ⟨fi, h1, h2, h3⟩
    · rw [e] at hk; simp at hk
    · have := (h3 k (by omega)).1
      rw [rfC_take (by omega), List.length_append]
      by_cases e : k = 0
      · rw [if_pos e] at this
        have := (frE_ge (Or.inl this)).1 this
        subst e
        omega
      · rw [if_neg e] at this
        have := (frE_ge (Or.inr this)).2 this
        omega
theorem sg_len' {T : Nat → gFr} {b : Nat} {l : List Nat} (h : sgOK T b l) : 25 * l.length ≤ (rfC T l).length + 1 := by
  have := sg_len h l.length (Nat.le_refl _)
  rw [List.take_length] at this
  exact this
theorem wf_entry {n : Nat} {F : gF} {f q : Nat} {E : List Nat} {bs la nf : Nat} {T : Nat → gFr} {ri : Nat → List Nat} {od : List Nat} {fo : Nat → Nat} {en : Nat → Nat} {ei : Nat → gEi} {sf bt cd fc te ki : Int32} {ds : List Nat} (hbb : bs < 2 ^ 30) (hod : 0 < od.length) (hfq : f = od.getD (od.length - 1) 0) (hl3 : la < bs + 300) (hbl : bs ≤ la) (hE : E = frE (3, nI (la + 1), te, ki, ds))
    (hl : rlt nf ri) (h3 : wR n bs F T ri) (h4 : wS sf bs bt cd fc F T ri) (h5 : wO bs la F T ri od fo) (h6 : wE bs la T ri od fo en ei) :
    4 ≤ f ∧ f < 16 ∧ F.1 f = rfC T (ri f) ∧
    wR n bs (dkF_wr F f E) (va_up T nf (3, nI (la + 1), te, ki, ds)) (va_up ri f (ri f ++ [nf])) ∧ wS sf bs bt cd fc (dkF_wr F f E) (va_up T nf (3, nI (la + 1), te, ki, ds)) (va_up ri f (ri f ++ [nf])) ∧
    wO bs (la + 1) (dkF_wr F f E) (va_up T nf (3, nI (la + 1), te, ki, ds)) (va_up ri f (ri f ++ [nf])) od fo ∧ wE bs (la + 1) (va_up T nf (3, nI (la + 1), te, ki, ds)) (va_up ri f (ri f ++ [nf])) od fo (va_up en (la + 1) nf) (va_up ei (la + 1) (f, F.sz f, te, ki, ds.length)) := by
  have hTa : ∀ j, j < nf → va_up T nf (3, nI (la + 1), te, ki, ds) j = T j := fun j hj => va_up_ne _ _ (by omega)
  have hTn : va_up T nf (3, nI (la + 1), te, ki, ds) nf = (3, nI (la + 1), te, ki, ds) := va_up_self _ _ _
  obtain ⟨hf4, hf⟩ := h5.2.1 (od.length - 1) (by omega)
  obtain ⟨o1, o2, o3, o4, o5, o6⟩ := h5.2.2.2.1 (od.length - 1) (by omega)
  have o7 := (h5.2.2.2.2.2.2.1 hod).2
  rw [← hfq] at hf4 hf o1 o2 o3 o4 o5 o6 o7
  have g1 : ∀ c, c ≠ f → (dkF_wr F f E).1 c = F.1 c := fun c hc => va_up_ne _ _ hc
  have g2 : ∀ c, c ≠ f → (dkF_wr F f E).2.1 c = F.2.1 c := fun c hc => va_up_ne _ _ hc
  have h3' := h3.T hl hTa
  have h4' := h4.T hl hTa
  have h5' := h5.T hl hTa
  have h6' := h6.T hl hTa h5.2.1
  have hlf : (ri f ++ [nf]).length = (ri f).length + 1 := by rw [List.length_append]; rfl
  have hTf := hl.T' hTa (show f < 32 by omega)
  refine ⟨hf4, hf, o2, ?_, ?_, ?_, ?_⟩
  · obtain ⟨a1, a2, a3, a4, a5⟩ := h3'
    refine ⟨fun g hg => ?_, fun c hc h2 => ?_, fun c hc h4 => ?_, hm_new hl a4 hf ?_, fun c k q hc hkq hq => ?_⟩
    · show F.lo g ≤ ((dkF_wr F f E).1 g).length
      by_cases e : g = f
      · subst e
        have h1 := a1 g hg
        have h2 : ((dkF_wr F g E).1 g).length = F.sz g + E.length := by
          have := dkF_wr_sz F g E g
          rw [if_pos rfl] at this
          exact this
        omega
      · rw [g1 g e]; exact a1 g hg
    · rw [va_up_ne _ _ (show c ≠ f by omega)]; exact a2 c hc h2
    · by_cases e : c = f
      · subst e
        rw [va_up_self]
        refine ⟨?_, fun _ => va_up_self _ _ _⟩
        rcases (a3 c hc h4).1 with e | ⟨fi, b1, b2, b3⟩
        · rw [e] at o1; exact absurd o1 (Nat.lt_irrefl 0)
        · have hfi : fi = fo c := by
            have := (b3 0 o1).2
            rw [hTa _ (hl c hc 0 o1), o3] at this
            rw [nI_eq (by omega) (by omega)] at this
            omega
          refine Or.inr ⟨fi, b1, by rw [hlf]; omega, fun k hk => ?_⟩
          rw [hlf] at hk
          by_cases e : k = (ri c).length
          · subst e
            rw [getD_snoc_r, hTn, if_neg (by omega)]
            refine ⟨rfl, ?_⟩
            show nI (la + 1) = _
            rw [o7, hfi]
          · rw [getD_snoc_l (show k < (ri c).length by omega)]
            exact b3 k (by omega)
      · rw [va_up_ne _ _ e, g2 c e]; exact a3 c hc h4
    · intro k hk
      rw [hlf] at hk
      by_cases e : k = (ri f).length
      · subst e; exact Or.inl getD_snoc_r
      · exact Or.inr ⟨k, by omega, getD_snoc_l (by omega)⟩
    · by_cases e1 : c = f
      · subst e1
        rw [va_up_self] at hq ⊢
        rw [hlf] at hq
        rw [getD_snoc_l (show k < (ri c).length by omega)]
        by_cases e : q = (ri c).length
        · subst e; rw [getD_snoc_r]; exact hl c hc k hkq
        · rw [getD_snoc_l (show q < (ri c).length by omega)]
          exact a5 c k q hc hkq (by omega)
      · rw [va_up_ne _ _ e1] at hq ⊢
        exact a5 c k q hc hkq hq
  · obtain ⟨a, b⟩ := h4'
    refine ⟨fun g h2 h4 => ?_, ?_⟩
    · show _ ∧ _ ∧ (dkF_wr F f E).2.1 (16 + g) = (dkF_wr F f E).2.1 g ∧ _ ∧ F.2.2.1 g = ((dkF_wr F f E).1 g).length
      rw [va_up_ne _ _ (show 16 + g ≠ f by omega), va_up_ne _ _ (show g ≠ f by omega), g1 _ (by omega), g1 _ (by omega), g2 _ (by omega), g2 _ (by omega)]
      exact a g h2 h4
    · rw [va_up_ne _ _ (show 2 ≠ f by omega), va_up_ne _ _ (show 3 ≠ f by omega)]
      rcases b with b | ⟨s, o, j, b1, b2⟩
      · exact Or.inl b
      · refine Or.inr ⟨s, o, j, b1, ?_⟩
        rw [va_up_ne _ _ (show s ≠ f by omega), va_up_ne _ _ (show o ≠ f by omega)]
        exact b2
  · obtain ⟨a1, a2, a3, a4, a5, a6, a7, a8⟩ := h5'
    have ne_last : ∀ k, k < od.length → k ≠ od.length - 1 → od.getD k 0 ≠ f := by
      intro k hk hk2
      rw [hfq]
      exact a3 k (od.length - 1) (by omega) (by omega)
    refine ⟨a1, a2, a3, fun k hk => ?_, fun k hk => ?_, fun z => by omega, fun _ => ⟨(a7 hod).1, ?_⟩, fun g h4 hg hne => ?_⟩
    · by_cases e : k = od.length - 1
      · subst e
        rw [← hfq, va_up_self, hlf]
        refine ⟨by omega, ?_, ?_, o4, by omega, ?_⟩
        · show va_up F.1 f (F.1 f ++ E) f = _
          rw [va_up_self, rfC_app, hTf, rfC_one, hTn, o2, hE]
        · rw [getD_snoc_l o1, hTa _ (hl f (by omega) 0 o1)]; exact o3
        · exact va_up_self _ _ _
      · have hne := ne_last k hk e
        rw [va_up_ne _ _ hne, g1 _ hne, show (dkF_wr F f E).th (od.getD k 0) = F.th (od.getD k 0) from g2 _ hne]
        exact a4 k hk
    · rw [va_up_ne _ _ (ne_last k (by omega) (by omega))]
      exact a5 k hk
    · rw [← hfq, va_up_self, hlf]; omega
    · have hgf : g ≠ f := by
        rintro rfl
        exact hne (od.length - 1) (by omega) hfq.symm
      rw [va_up_ne _ _ hgf, show (dkF_wr F f E).th g = F.th g from g2 _ hgf]
      exact a8 g h4 hg hne
  · intro i h1 h2
    by_cases e : i = la + 1
    · subst e
      rw [va_up_self, va_up_self]
      refine ⟨od.length - 1, (ri f).length, by omega, by omega, ?_⟩
      rw [← hfq, va_up_self, hlf, hTn, getD_snoc_r]
      refine ⟨by omega, by omega, rfl, ?_⟩
      rw [List.take_append_of_le_length (Nat.le_refl _), List.take_length, hTf, ← o2]
    · rw [va_up_ne _ _ e, va_up_ne _ _ e]
      obtain ⟨q, k, b1, b2, b3, b4, b5, b6⟩ := h6' i h1 (by omega)
      refine ⟨q, k, b1, b2, ?_⟩
      by_cases e2 : od.getD q 0 = f
      · rw [e2] at b3 b4 b5 b6 ⊢
        rw [va_up_self, hlf, getD_snoc_l b3, List.take_append_of_le_length (by omega)]
        exact ⟨by omega, b4, b5, b6⟩
      · rw [va_up_ne _ _ e2]
        exact ⟨b3, b4, b5, b6⟩
theorem cl.tape {M : Nat} {fc : Int32} {F : gF} {tp : List Nat} {tm vo : Int32} {ti : Nat} {vf : Int32} {fh : Nat} {sf : Int32} {bs : Nat} {bt cd : Int32} {la di : Nat} {od : List Nat} {fo : Nat → Nat} {ei : Nat → gEi} {kp : Nat → Int32} {S : gS}
    (p : cl M fc F tp tm vo ti vf fh sf bs bt cd la di od fo ei kp S) : cl M fc F [] tm vo ti vf fh sf bs bt cd la di od fo ei kp (gset S (12, 0) 1 0) ∧ cB tp (gset S (12, 0) 1 0) := by
  obtain ⟨p1, p2, p3, p4, p5, p6, p7, p8⟩ := p
  have o : ∀ i : gI, i.1 ≠ 12 → (gset S (12, 0) 1 0).1 i = S.1 i := fun i hi => gset_o (by rintro rfl; simp at hi)
  refine ⟨⟨dk_of (fun i a b => o i (by omega)) p1, ⟨by rw [gset_s]; rfl, by decide, fun k hk => absurd hk (Nat.not_lt_zero k)⟩, p3.of (o _ (by simp)) rfl, p4.of (o _ (by simp)), p5.of (o _ (by simp)), p6.of (o _ (by simp)) (o _ (by simp)) (o _ (by simp)), p7.of (fun k a b => o _ (by simp; omega)), p8.of (o _ (by simp))⟩, p2.2.of (o _ (by simp))⟩
theorem rl.tape {M : Nat} {fc : Int32} {F : gF} {tp : List Nat} {tm vo : Int32} {ti sl fh : Nat} {sf : Int32} {bs : Nat} {bt cd : Int32} {la di : Nat} {od : List Nat} {kp : Nat → Int32} {T : Nat → gFr} {nf us : Nat} {ri : Nat → List Nat} {en : Nat → Nat} {S : gS}
    (p : rl M fc F tp tm vo ti sl fh sf bs bt cd la di od kp T nf us ri en S) : rl M fc F [] tm vo ti sl fh sf bs bt cd la di od kp T nf us ri en (gset S (30, 0) 33 0) ∧ rfB tp (gset S (30, 0) 33 0) := by
  obtain ⟨p1, p2, p3, p4, p5, p6, p7, p8⟩ := p
  refine ⟨⟨rfD_of (fun i h1 h2 => gset_o (by rintro rfl; simp at h1)) (gset_n (Or.inr (by omega))) (gset_n (Or.inr (by omega))) p1, ⟨by rw [gset_s]; rfl, by decide, fun k hk => absurd hk (Nat.not_lt_zero k)⟩, ?_, ?_, ?_, ?_, ?_, ?_⟩, ?_⟩
  · unfold rV at p3 ⊢; simp only [gset_rd, Prod.mk.injEq, Nat.reduceEqDiff, false_and, and_false, if_false, true_and]; exact p3
  · unfold rS at p4 ⊢; simp only [gset_rd, Prod.mk.injEq, Nat.reduceEqDiff, false_and, and_false, if_false, true_and]; exact p4
  · unfold rM at p5 ⊢; simp only [gset_rd, Prod.mk.injEq, Nat.reduceEqDiff, false_and, and_false, if_false, true_and]; exact p5
  · unfold rG at p6 ⊢; simp only [gset_rd, Prod.mk.injEq, Nat.reduceEqDiff, false_and, and_false, if_false, true_and]; exact p6
  · unfold rE at p7 ⊢; simp only [gset_rd, Prod.mk.injEq, Nat.reduceEqDiff, false_and, and_false, if_false, true_and]; exact p7
  · unfold rK at p8 ⊢; simp only [gset_rd, Prod.mk.injEq, Nat.reduceEqDiff, false_and, and_false, if_false, true_and]; exact p8
  · unfold rfB; rw [gset_o (by simp)]; exact p2.2
