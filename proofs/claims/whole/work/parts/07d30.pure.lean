theorem gsetL_s (S : gS) (i : gI) (k : Nat) (v : Int64) : (gsetL S i k v).2 i k = v := by simp [gsetL]
theorem rfC_one (T : Nat → gFr) (j : Nat) : rfC T [j] = frE (T j) := by rw [rfC_cons, rfC_nil, List.append_nil]
theorem rf_cut0 {Ln : gI → Nat} {T : Nat → gFr} {nf us : Nat} {ri : Nat → List Nat} {F : gF} {S : gS} {f : Nat} {v w : Int32} {Q : gS → Prop} (hL : rfL Ln) (hD : rfD T nf us ri F S) (hf : f < 16) (hv : v = nI f) (hw : w = nI 0)
    (hq : ∀ S', rX S S' → rfD T nf us (va_up ri f []) (dkF_ct F f 0) S' → Q S') : wp_Mo_cut Ln Q (30, 0) v w S := by
  refine rf_cut hL hD hf (Nat.zero_le _) hv hw ?_
  intro S1 m _ _ hm3 hx1 hD1
  have hm : m = 0 := by
    rcases Nat.eq_zero_or_pos m with e | e
    · exact e
    · have := hm3 0 e; omega
  subst hm
  rw [List.take_zero] at hD1
  exact hq S1 hx1 hD1
theorem va_up_up {α : Type} (g : Nat → α) (f : Nat) (a b : α) : va_up (va_up g f a) f b = va_up g f b := by funext j; by_cases h : j = f <;> simp [va_up, h]
theorem r_save54 {Ln : gI → Nat} {M : Nat} {fc : Int32} {F : gF} {tp : List Nat} {tm vo : Int32} {ti sl fh : Nat} {sf : Int32} {bs : Nat} {bt cd : Int32} {la di : Nat} {od : List Nat} {kp : Nat → Int32} {T : Nat → gFr} {nf us : Nat} {ri : Nat → List Nat} {en : Nat → Nat} {S : gS} {f : Nat} {y v w : Int32} {Q : Int32 → gS → Prop}
    (hL : aL Ln M) (hr : rl M fc F tp tm vo ti sl fh sf bs bt cd la di od kp T nf us ri en S) (hM : M ≤ 1024) (hu : dkSum (dkW F) 16 ≤ M) (hf : f < 2) (hy : y = nI f) (ht : ti < 2 ^ 30) (hnf : nf < 2200)
    (h0 : ¬ (dkP 32 ≤ 400 ∧ dkP 32 ≤ dkU M F + (dkP (F.sz f) - F.sh f)) → Q 0 (gset S (30, 0) 0 2))
    (h1 : dkP 32 ≤ dkU M F + (dkP (F.sz f) - F.sh f) → ∀ S', loX S S' → S'.1 (30, 0) 0 = S.1 (30, 0) 0 → rl M fc (dkF_wr (dkF_ct F f 0) f (frE (0, nI (ti + 1), v, w, []))) tp v w (ti + 1) f 1 sf bs bt cd la 1 od kp (va_up T nf (0, nI (ti + 1), v, w, [])) (nf + 1) us (va_up ri f [nf]) en S' → Q (nI f) S') :
    wp_Mo_save_54 Ln Q (30, 0) v w y S := by
  subst hy
  unfold wp_Mo_save_54
  refine rf_hasRoomAnew (n := 32) hL.2.1 hr.1.2.2.1 hr.2.2.2.2.1.1 hM hu (by omega) rfl rfl (by omega) (fun _ hroom => cr_f (by decide) ?_) (fun hno => cr_t rfl ?_)
  · rintro _ rfl _ rfl _ rfl
    have e21 : (gset (gset S (30, 0) 19 v) (30, 0) 20 w).1 (30, 0) 21 + 1 = nI (ti + 1) := by
      rw [gset_n (Or.inr (by omega)), gset_n (Or.inr (by omega)), hr.2.2.1.2.2.1, nI_1]
    rw [e21]
    generalize hS3 : gset (gset (gset S (30, 0) 19 v) (30, 0) 20 w) (30, 0) 21 (nI (ti + 1)) = S3
    have x3 : loX S S3 := by rw [← hS3]; exact ((loX.set (by simp)).tr (loX.set (by simp))).tr (loX.set (by simp))
    have o3 : ∀ k, k ≠ 19 → k ≠ 20 → k ≠ 21 → S3.1 (30, 0) k = S.1 (30, 0) k := by
      intro k a b c; rw [← hS3, gset_n (Or.inr c), gset_n (Or.inr b), gset_n (Or.inr a)]
    have oh3 : ∀ i : gI, 30 < i.1 → S3.1 i = S.1 i := by
      intro i hi
      rw [← hS3, gset_o (by rintro rfl; simp at hi), gset_o (by rintro rfl; simp at hi), gset_o (by rintro rfl; simp at hi)]
    have e19 : S3.1 (30, 0) 19 = v ∧ S3.1 (30, 0) 20 = w ∧ S3.1 (30, 0) 21 = nI (ti + 1) := by
      rw [← hS3]
      simp only [gset_rd, Prod.mk.injEq, Nat.reduceEqDiff, and_false, if_false, and_self, if_true]
    have hD3 : rfD T nf us ri F S3 := rfD_of (fun i a b => oh3 i (by omega)) (o3 3 (by omega) (by omega) (by omega)) (o3 11 (by omega) (by omega) (by omega)) hr.1
    refine rf_cut0 hL.2.1 hD3 (by omega) rfl rfl ?_
    intro S4 x4 hD4
    have e21' : S4.1 (30, 0) 21 = nI (ti + 1) := by rw [x4.2 _ (by simp)]; exact e19.2.2
    rw [e21']
    refine rf_make (so := 0) hL.2.1 hD4.1 rfl (by omega) hnf (by omega) ?_
    intro S5 x5 _ hT5
    have hTa : ∀ j, j < nf → va_up T nf (0, nI (ti + 1), v, w, []) j = T j := fun j hj => va_up_ne _ _ (by omega)
    have hD5 := hD4.mk x5 hT5 (by omega) hTa
    have hct : (dkF_ct F f 0).1 f = [] := by
      show va_up F.1 f ((F.1 f).take 0) f = []
      rw [va_up_self, List.take_zero]
    have hTn : va_up T nf (0, nI (ti + 1), v, w, []) nf = (0, nI (ti + 1), v, w, []) := va_up_self _ _ _
    refine rf_put (j := nf) hL.2.1 hD5 (by omega) (by omega) rfl rfl ?_ ?_ ?_ ?_
    · rw [hct, va_up_self, rfC_nil]
    · rw [va_up_self]; exact (by decide : 0 < 330)
    · rw [hTn, frE_len, frP_len]
      have : (dkF_ct F f 0).sz f = 0 := congrArg List.length hct
      rw [this]
      exact (by decide : 0 + (8 + 24 + 0) < 2 ^ 20)
    · intro S6 x6 hD6
      rw [hTn, va_up_self, va_up_up] at hD6
      rintro _ rfl _ rfl _ rfl
      have o : ∀ k, k ≠ 3 → k ≠ 11 → k ≠ 19 → k ≠ 20 → k ≠ 21 → k ≠ 22 → k ≠ 28 → k ≠ 29 → (gset (gset (gset S6 (30, 0) 22 (nI f)) (30, 0) 28 1) (30, 0) 29 1).1 (30, 0) k = S.1 (30, 0) k := by
        intro k a1 a2 a3 a4 a5 a6 a7 a8
        rw [gset_n (Or.inr a8), gset_n (Or.inr a7), gset_n (Or.inr a6), x6.2 _ (by simp), x5.2.2 k a1 a2, x4.2 _ (by simp), o3 k a3 a4 a5]
      have oh : ∀ i : gI, 43 < i.1 → (gset (gset (gset S6 (30, 0) 22 (nI f)) (30, 0) 28 1) (30, 0) 29 1).1 i = S.1 i := by
        intro i hi
        rw [gset_o (by rintro rfl; simp at hi), gset_o (by rintro rfl; simp at hi), gset_o (by rintro rfl; simp at hi), x6.2 _ (by omega), x5.2.1 _ (by omega), x4.2 _ (by omega), oh3 _ (by omega)]
      have ov : ∀ k, k = 19 ∨ k = 20 ∨ k = 21 → (gset (gset (gset S6 (30, 0) 22 (nI f)) (30, 0) 28 1) (30, 0) 29 1).1 (30, 0) k = S3.1 (30, 0) k := by
        intro k hk
        rw [gset_n (Or.inr (by omega)), gset_n (Or.inr (by omega)), gset_n (Or.inr (by omega)), x6.2 _ (by simp), x5.2.2 k (by omega) (by omega), x4.2 _ (by simp)]
      refine h1 hroom _ ((((x3.tr x4.lo).tr x5.lo).tr x6.lo).tr (((loX.set (by simp)).tr (loX.set (by simp))).tr (loX.set (by simp)))) (o 0 (by omega) (by omega) (by omega) (by omega) (by omega) (by omega) (by omega) (by omega)) ?_
      obtain ⟨p1, p2, p3, p4, p5, p6, p7, p8⟩ := hr
      refine ⟨rfD_of (fun i a b => ?_) ?_ ?_ hD6, ?_, ?_, ?_, ?_, ?_, ?_, ?_⟩
      · rw [gset_o (by rintro rfl; simp at a), gset_o (by rintro rfl; simp at a), gset_o (by rintro rfl; simp at a)]
      · rw [gset_n (Or.inr (by omega)), gset_n (Or.inr (by omega)), gset_n (Or.inr (by omega))]
      · rw [gset_n (Or.inr (by omega)), gset_n (Or.inr (by omega)), gset_n (Or.inr (by omega))]
      · unfold rT rfB; rw [o 33 (by omega) (by omega) (by omega) (by omega) (by omega) (by omega) (by omega) (by omega), oh (47, 0) (by simp)]; exact p2
      · unfold rV
        rw [ov 19 (by omega), ov 20 (by omega), ov 21 (by omega)]
        refine ⟨e19.1, e19.2.1, e19.2.2, ?_, ?_⟩
        · simp only [gset_rd, Prod.mk.injEq, Nat.reduceEqDiff, and_false, if_false, and_self, if_true]
        · simp only [gset_rd, Prod.mk.injEq, Nat.reduceEqDiff, and_false, if_false, and_self, if_true]; rfl
      · unfold rS; rw [o 26 (by omega) (by omega) (by omega) (by omega) (by omega) (by omega) (by omega) (by omega), o 23 (by omega) (by omega) (by omega) (by omega) (by omega) (by omega) (by omega) (by omega), o 24 (by omega) (by omega) (by omega) (by omega) (by omega) (by omega) (by omega) (by omega), o 25 (by omega) (by omega) (by omega) (by omega) (by omega) (by omega) (by omega) (by omega)]; exact p4
      · unfold rM
        rw [o 1 (by omega) (by omega) (by omega) (by omega) (by omega) (by omega) (by omega) (by omega), o 2 (by omega) (by omega) (by omega) (by omega) (by omega) (by omega) (by omega) (by omega), o 27 (by omega) (by omega) (by omega) (by omega) (by omega) (by omega) (by omega) (by omega), gset_s]
        exact ⟨p5.1, p5.2.1, p5.2.2.1, rfl⟩
      · unfold rG; rw [o 30 (by omega) (by omega) (by omega) (by omega) (by omega) (by omega) (by omega) (by omega), oh (45, 0) (by simp)]; exact p6
      · unfold rE; rw [oh (46, 0) (by simp)]; exact p7
      · unfold rK; rw [oh (44, 0) (by simp)]; exact p8
  · unfold wp_Mo_fail
    rintro _ rfl
    exact h0 hno
theorem wf_save {n M : Nat} {F : gF} {f : Nat} {E : List Nat} {bs la ti nf us : Nat} {tp : List Nat} {T : Nat → gFr} {ri : Nat → List Nat} {od : List Nat} {fo : Nat → Nat} {en : Nat → Nat} {ei : Nat → gEi} {sf bt cd fc v w : Int32} {S : gS} (hf : f < 2) (hn : n < 513)
    (hD : rfD T nf us ri F S) (h1 : wN n nf us tp ti la bs) (h3 : wR n bs F T ri) (h4 : wS sf bs bt cd fc F T ri) (h5 : wO bs la F T ri od fo) (h6 : wE bs la T ri od fo en ei) :
    wN (n + 1) (nf + 1) us tp (ti + 1) la bs ∧ wR (n + 1) bs (dkF_wr (dkF_ct F f 0) f E) (va_up T nf (0, nI (ti + 1), v, w, [])) (va_up ri f [nf]) ∧ wS sf bs bt cd fc (dkF_wr (dkF_ct F f 0) f E) (va_up T nf (0, nI (ti + 1), v, w, [])) (va_up ri f [nf]) ∧
    wO bs la (dkF_wr (dkF_ct F f 0) f E) (va_up T nf (0, nI (ti + 1), v, w, [])) (va_up ri f [nf]) od fo ∧ wE bs la (va_up T nf (0, nI (ti + 1), v, w, [])) (va_up ri f [nf]) od fo en ei := by
  have hl := hD.lt
  have hTa : ∀ j, j < nf → va_up T nf (0, nI (ti + 1), v, w, []) j = T j := fun j hj => va_up_ne _ _ (by omega)
  have g1 : ∀ c, c ≠ f → (dkF_wr (dkF_ct F f 0) f E).1 c = F.1 c := fun c hc => (va_up_ne _ _ hc).trans (va_up_ne _ _ hc)
  have g2 : ∀ c, c ≠ f → (dkF_wr (dkF_ct F f 0) f E).2.1 c = F.2.1 c := fun c hc => va_up_ne _ _ hc
  have g3 : ∀ c, c ≠ f → (dkF_wr (dkF_ct F f 0) f E).2.2.1 c = F.2.2.1 c := fun c hc => va_up_ne _ _ hc
  have h3' := h3.T hl hTa
  have h4' := h4.T hl hTa
  refine ⟨by unfold wN at *; omega, ?_, ?_, (h5.T hl hTa).of (fun c a b => va_up_ne _ _ (by omega)) (fun c a b => g1 c (by omega)) (fun c a b => g2 c (by omega)), (h6.T hl hTa h5.2.1).of (fun c a b => va_up_ne _ _ (by omega)) h5.2.1⟩
  · obtain ⟨a1, a2, a3, a4, a5⟩ := h3'
    refine ⟨fun g hg => ?_, fun c hc h2 => ?_, fun c hc h4 => ?_, fun c d k q hc hd hk hq e => ?_, fun c k q hc hkq hq => ?_⟩
    · by_cases e : g = f
      · subst e
        show va_up F.2.2.1 g (min (F.lo g) 0) g ≤ _
        rw [va_up_self, Nat.min_zero]
        exact Nat.zero_le _
      · show (dkF_wr (dkF_ct F f 0) f E).2.2.1 g ≤ ((dkF_wr (dkF_ct F f 0) f E).1 g).length
        rw [g1 g e, g3 g e]; exact a1 g hg
    · by_cases e : c = f
      · subst e
        rw [va_up_self]
        refine Or.inr ⟨nf, ti + 1, rfl, ?_⟩
        rw [va_up_self]
        unfold wN at h1
        exact ⟨rfl, rfl, by omega, by omega⟩
      · rw [va_up_ne _ _ e]
        rcases a2 c hc h2 with z | ⟨j, t, z1, z2, z3, z4, z5⟩
        · exact Or.inl z
        · exact Or.inr ⟨j, t, z1, z2, z3, z4, by omega⟩
    · rw [va_up_ne _ _ (show c ≠ f by omega), g2 c (by omega)]; exact a3 c hc h4
    · by_cases e1 : c = f
      · by_cases e2 : d = f
        · rw [e1, e2]
        · subst e1
          rw [va_up_self] at hk e
          rw [va_up_ne _ _ e2] at hq e
          have := hl d hd q hq
          have hk0 : k = 0 := Nat.lt_one_iff.mp hk
          subst hk0
          have ez : ([nf] : List Nat).getD 0 0 = nf := rfl
          rw [ez] at e
          omega
      · rw [va_up_ne _ _ e1] at hk e
        by_cases e2 : d = f
        · subst e2
          rw [va_up_self] at hq e
          have := hl c hc k hk
          have hq0 : q = 0 := Nat.lt_one_iff.mp hq
          subst hq0
          have ez : ([nf] : List Nat).getD 0 0 = nf := rfl
          rw [ez] at e
          omega
        · rw [va_up_ne _ _ e2] at hq e
          exact a4 c d k q hc hd hk hq e
    · by_cases e1 : c = f
      · subst e1
        rw [va_up_self] at hq
        have : q < 1 := hq
        omega
      · rw [va_up_ne _ _ e1] at hq ⊢
        exact a5 c k q hc hkq hq
  · obtain ⟨a, b⟩ := h4'
    refine ⟨fun g h2 h4 => ?_, ?_⟩
    · show _ ∧ _ ∧ (dkF_wr (dkF_ct F f 0) f E).2.1 (16 + g) = (dkF_wr (dkF_ct F f 0) f E).2.1 g ∧ _ ∧ (dkF_wr (dkF_ct F f 0) f E).2.2.1 g = ((dkF_wr (dkF_ct F f 0) f E).1 g).length
      rw [va_up_ne _ _ (show 16 + g ≠ f by omega), va_up_ne _ _ (show g ≠ f by omega), g1 _ (by omega), g1 _ (by omega), g2 _ (by omega), g2 _ (by omega), g3 _ (by omega)]
      exact a g h2 h4
    · rw [va_up_ne _ _ (show 2 ≠ f by omega), va_up_ne _ _ (show 3 ≠ f by omega)]
      rcases b with b | ⟨s, o, j, b1, b2⟩
      · exact Or.inl b
      · refine Or.inr ⟨s, o, j, b1, ?_⟩
        rw [va_up_ne _ _ (show s ≠ f by omega), va_up_ne _ _ (show o ≠ f by omega)]
        exact b2
theorem p_save {Ln : gI → Nat} {n : Nat} {S : gS} {K : gS → Prop} {v w : Int32} (h : INV Ln n S) (hn : n < 513) (hK : ∀ S', INV Ln (n + 1) S' → K S') :
    wp_Law_save Ln (fun r4 S5 => wp_Mo_save Ln (fun r7 S6 => pQ Ln K r4 r7 S6) (30, 0) v w S5) (0, 0) v w (60, 0) S := by
  obtain ⟨M, fc, F, tp, tm, vo, ti, vf, fh, sf, bs, bt, cd, la, di, od, fo, ei, kp, sl, T, nf, us, ri, en, hL, hc, hr, h1, h2, h3, h4, h5, h6⟩ := h
  obtain ⟨ok, bad⟩ := ro hn hK hL hc hr h1 h2 h3 h4 h5 h6
  have hN := h1
  unfold wN at hN
  have hM := hL.1.2.1
  have hu := dk_uc hc.1
  have hus : dkSum (dkW F) 16 ≤ M := by omega
  have hsl := h2.2.1
  have hfl : vnx sl fh < 2 := by unfold vnx; split <;> omega
  -- the reference's two tests of its arguments
  have rgo : ∀ (c : Int32) (S' : gS), rl M fc F tp tm vo ti sl fh sf bs bt cd la di od kp T nf us ri en S' → ¬ (v < tm ∨ 1000000 < v ∨ w < -1 ∨ 6 < w) → wp_Mo_save_54 Ln (fun r7 S6 => pQ Ln K c r7 S6) (30, 0) v w (nI (vnx sl fh)) (gset S' (30, 0) 0 0) → wp_Mo_save Ln (fun r7 S6 => pQ Ln K c r7 S6) (30, 0) v w S' := by
    intro c S' hr' hgood hgo
    have hr0 := hr'.thr (v := 0)
    unfold wp_Mo_save
    rintro _ rfl
    rw [hr0.2.2.1.1]
    refine rf_within (fun _ _ => br_f (by decide) (rf_within (fun _ _ => cr_f (by decide) ?_) (fun hb => absurd (Or.inr (Or.inr hb)) hgood))) (fun hb => absurd (by rcases hb with h | h; exact Or.inl h; exact Or.inr (Or.inl h)) hgood)
    rw [hr0.2.2.1.2.2.2.2, hr0.2.2.1.2.2.2.1]
    unfold vnx at hgo
    refine pk_eq fh 0 (fun h => ?_) (fun h => ?_) rfl rfl (by have := h2.2.2.1; omega) (by omega)
    · rw [if_pos h] at hgo
      rw [show (1 : Int32) = nI 1 from rfl, pk_sub hsl]; exact hgo
    · rw [if_neg h] at hgo; exact hgo
  have bad1 : (v < tm ∨ 1000000 < v ∨ w < -1 ∨ 6 < w) → wp_Mo_save Ln (fun r7 S6 => pQ Ln K 1 r7 S6) (30, 0) v w S := by
    intro hb
    have hr0 := hr.thr (v := 0)
    unfold wp_Mo_save wp_Mo_save_28 wp_Mo_fail
    rintro _ rfl
    rw [hr0.2.2.1.1]
    refine rf_within (fun a b => br_f (by decide) (rf_within (fun c d => ?_) (fun hb => br_t rfl ?_ |> fun h => ⟨h.2, h.1⟩))) (fun hb => br_t rfl ?_)
    · rw [i32_le] at a b c d
      rw [i32_lt, i32_lt, i32_lt, i32_lt] at hb
      omega
    · rintro _ rfl; exact bad 1 (by decide)
    · rintro _ rfl; exact bad 1 (by decide)
  unfold wp_Law_save wp_LogDisk_save
  rw [show grf (0, 0) 5 = (16, 0) from rfl, hc.2.2.1.1]
  have nle : ∀ {x y : Int32}, ¬ x ≤ y → y < x := fun {x y} h => by rw [i32_le] at h; rw [i32_lt]; omega
  refine ⟨fun hb => Or.inl ⟨rfl, bad1 (Or.inl hb)⟩, fun g1 => ⟨fun g2 => ⟨fun hb => Or.inl ⟨rfl, bad1 (Or.inr (Or.inr (Or.inl hb)))⟩, fun g3 => ⟨fun g4 => ?_, fun hb => Or.inl ⟨rfl, bad1 (Or.inr (Or.inr (Or.inr (nle hb))))⟩⟩⟩, fun hb => Or.inl ⟨rfl, bad1 (Or.inr (Or.inl (nle hb)))⟩⟩⟩
  have hgood : ¬ (v < tm ∨ 1000000 < v ∨ w < -1 ∨ 6 < w) := by
    rintro (h | h | h | h)
    · exact g1 h
    · rw [i32_lt] at h; rw [i32_le] at g2; omega
    · exact g3 h
    · rw [i32_lt] at h; rw [i32_le] at g4; omega
  refine c_nextVote hc.2.2.1 h2 ?_
  refine c_file (P := fun g => wp_DiskFile_canRewrite Ln _ g 32 S) (S := S) hL rfl (show vnx sl fh < 16 by omega) ?_
  refine dk_canRewrite (n := 32) hL.1 hc.1 (by omega) rfl (by omega) (fun _ hroom => cr_f (by decide) ?_) (fun hno => cr_t rfl (Or.inr ⟨rfl, ?_⟩))
  · unfold wp_Vote_set
    rintro _ rfl _ rfl _ rfl _ rfl _ rfl
    have e2 : S.2 (16, 0) 2 + 1 = lN (ti + 1) := by rw [hc.2.2.1.2.2.1, lN_1]
    rw [e2]
    generalize hS1 : gset (gset (gset (gsetL (gset S (16, 0) 3 (nI (vnx sl fh))) (16, 0) 2 (lN (ti + 1))) (16, 0) 0 v) (16, 0) 1 w) (16, 0) 4 1 = S1
    have o1 : ∀ i : gI, i.1 ≠ 16 → S1.1 i = S.1 i := by
      intro i hi
      have hne : i ≠ (16, 0) := by rintro rfl; simp at hi
      rw [← hS1, gset_o hne, gset_o hne, gset_o hne]
      show (gset S (16, 0) 3 (nI (vnx sl fh))).1 i = _
      rw [gset_o hne]
    have hV1 : cV v w (ti + 1) (nI (vnx sl fh)) 1 S1 := by
      rw [← hS1]
      refine ⟨?_, ?_, ?_, ?_, ?_⟩
      · rw [gset_n (Or.inr (by omega)), gset_n (Or.inr (by omega)), gset_s]
      · rw [gset_n (Or.inr (by omega)), gset_s]
      · exact gsetL_s (gset S (16, 0) 3 (nI (vnx sl fh))) (16, 0) 2 (lN (ti + 1))
      · rw [gset_n (Or.inr (by omega)), gset_n (Or.inr (by omega)), gset_n (Or.inr (by omega))]
        exact gset_s S (16, 0) 3 (nI (vnx sl fh))
      · rw [gset_s]; rfl
    have hd1 : dk M F S1 := dk_of (fun i a b => o1 i (by omega)) hc.1
    refine c_writeVote hL hd1 hV1 (by omega) (by omega) (h3.1 _ (by omega)) (by have : dkP 32 = 1 := rfl; omega) ?_
    intro S2 x2 hd2
    rintro _ rfl
    refine ok_in hL ?_
    have hc3 : cl M fc (dkF_wr (dkF_ct F (vnx sl fh) 0) (vnx sl fh) (frE (0, nI (ti + 1), v, w, []))) tp v w (ti + 1) (nI (vnx sl fh)) 1 sf bs bt cd la 1 od fo ei kp (gset S2 (0, 0) 11 1) := by
      have hc1 : cl M fc F tp v w (ti + 1) (nI (vnx sl fh)) 1 sf bs bt cd la di od fo ei kp S1 := by
        obtain ⟨p1, p2, p3, p4, p5, p6, p7, p8⟩ := hc
        exact ⟨hd1, p2.of (o1 _ (by simp)) (o1 _ (by simp)), hV1, p4.of (o1 _ (by simp)), p5.of (o1 _ (by simp)), p6.of (o1 _ (by simp)) (o1 _ (by simp)) (o1 _ (by simp)), p7.of (fun k a b => o1 _ (by simp; omega)), p8.of (o1 _ (by simp))⟩
      obtain ⟨p1, p2, p3, p4, p5, p6, p7, p8⟩ := x2.cl hd2 hc1
      have o : ∀ i : gI, i.1 ≠ 0 → (gset S2 (0, 0) 11 1).1 i = S2.1 i := fun i hi => gset_o (by rintro rfl; simp at hi)
      refine ⟨dk_of (fun i a b => o i (by omega)) p1, p2.of (o _ (by simp)) (o _ (by simp)), p3.of (o _ (by simp)) rfl, p4.of (o _ (by simp)), ⟨?_, ?_, ?_⟩, p6.of (o _ (by simp)) (o _ (by simp)) (o _ (by simp)), p7.of (fun k a b => o _ (by simp; omega)), p8.of (o _ (by simp))⟩
      · rw [gset_n (Or.inr (by omega))]; exact p5.1
      · rw [gset_n (Or.inr (by omega))]; exact p5.2.1
      · rw [gset_s]; rfl
    have hr3 : rl M fc F tp tm vo ti sl fh sf bs bt cd la di od kp T nf us ri en (gsetL (gset S2 (0, 0) 11 1) (60, 0) (0 : Int32).toNatClampNeg (nI (vnx sl fh)).toInt64) := by
      refine rl.hi (S := S) ?_ hr
      intro i hi
      show (gset S2 (0, 0) 11 1).1 i = S.1 i
      rw [gset_o (by rintro rfl; simp at hi), x2.hi i hi, o1 i (by omega)]
    refine rgo 0 _ hr3 hgood ?_
    refine r_save54 hL hr3.thr hM hus hfl rfl (by omega) (by omega) (fun hno => absurd ⟨by decide, hroom⟩ hno) ?_
    intro _ S4 x4 t4 hr4
    obtain ⟨w1, w3, w4, w5, w6⟩ := wf_save (M := M) (E := frE (0, nI (ti + 1), v, w, [])) (v := v) (w := w) hfl hn hr.1 h1 h3 h4 h5 h6
    refine pQ_ok hL (t4.trans (gset_s _ _ _ _)) ?_ (hK S4 ⟨M, fc, _, tp, v, w, ti + 1, nI (vnx sl fh), 1, sf, bs, bt, cd, la, 1, od, fo, ei, kp, vnx sl fh, _, nf + 1, us, _, en, hL, cl.lo ((loX.set (by simp)).tr x4) hc3.out, hr4, w1, ⟨Or.inr rfl, by omega, by omega, by omega, h2.2.2.2.2⟩, w3, w4, w5, w6⟩)
    rw [x4.1]
    exact out_s (gset S2 (0, 0) 11 1) _
  · refine rgo 2 S hr hgood ?_
    refine r_save54 hL hr.thr hM hus hfl rfl (by omega) (by omega) (fun _ => bad 2 (by decide)) (fun hroom => absurd ⟨by decide, hroom⟩ hno)
