theorem wf_move {n : Nat} {F : gF} {bs nb la la' nf g : Nat} {T : Nat → gFr} {ri : Nat → List Nat} {od : List Nat} {fo : Nat → Nat} {en : Nat → Nat} {ei : Nat → gEi} {sf bt cd fc te co : Int32} {ds : List Nat}
    (hl : rlt nf ri) (h3 : wR n bs F T ri) (h4 : wS sf bs bt cd fc F T ri) (h5 : wO bs la F T ri od fo) (h6 : wE bs la T ri od fo en ei) (hbn : bs < nb) (hcase : (nb ≤ la ∧ la' = la) ∨ la' = nb) (hgp : gnP la' nb od fo g) :
    wR n nb (drF (snF F (snx sf) (frE (1, nI nb, te, co, ds))) od g) (va_up T nf (1, nI nb, te, co, ds)) (drR (va_up (va_up ri (snx sf) [nf]) (16 + snx sf) [nf]) od g) ∧ wS (nI (snx sf)) nb te co fc (drF (snF F (snx sf) (frE (1, nI nb, te, co, ds))) od g) (va_up T nf (1, nI nb, te, co, ds)) (drR (va_up (va_up ri (snx sf) [nf]) (16 + snx sf) [nf]) od g) ∧
    wO nb la' (drF (snF F (snx sf) (frE (1, nI nb, te, co, ds))) od g) (va_up T nf (1, nI nb, te, co, ds)) (drR (va_up (va_up ri (snx sf) [nf]) (16 + snx sf) [nf]) od g) (od.drop g) fo ∧ wE nb la' (va_up T nf (1, nI nb, te, co, ds)) (drR (va_up (va_up ri (snx sf) [nf]) (16 + snx sf) [nf]) od g) (od.drop g) fo en ei := by
  have hTa : ∀ j, j < nf → va_up T nf (1, nI nb, te, co, ds) j = T j := fun j hj => va_up_ne _ _ (by omega)
  have hTn : va_up T nf (1, nI nb, te, co, ds) nf = (1, nI nb, te, co, ds) := va_up_self _ _ _
  generalize hT2 : va_up T nf (1, nI nb, te, co, ds) = T2 at *
  generalize hE : frE (1, nI nb, te, co, ds) = E at *
  have hf : snx sf < 4 ∧ 2 ≤ snx sf := by unfold snx; split <;> omega
  have hgl : g ≤ od.length := by rcases hgp with ⟨-, e⟩ | ⟨-, e, -⟩ <;> omega
  have ho := h5.2.1
  have hsnx : snx sf = snx sf := rfl
  -- the files now
  generalize hfd : snx sf = f at *
  have c1 : (snF F f E).1 f = E ∧ (snF F f E).2.1 f = 1 ∧ (snF F f E).2.2.1 f = E.length ∧ (snF F f E).1 (16 + f) = E ∧ (snF F f E).2.1 (16 + f) = 1 := by
    have a : (dkF_wr (dkF_ct F f 0) f E).1 f = E := by
      show va_up (va_up F.1 f ((F.1 f).take 0)) f (va_up F.1 f ((F.1 f).take 0) f ++ E) f = E
      rw [va_up_self, va_up_self, List.take_zero, List.nil_append]
    have b : (dkF_wr (dkF_ct F f 0) f E).2.1 f = 1 := va_up_self _ _ _
    refine ⟨(va_up_ne _ _ (by omega)).trans a, (va_up_ne _ _ (by omega)).trans b, (va_up_self _ _ _).trans (congrArg List.length a), (va_up_self _ _ _).trans a, (va_up_self _ _ _).trans b⟩
  have c2 : ∀ c, c ≠ f → c ≠ 16 + f → (snF F f E).1 c = F.1 c ∧ (snF F f E).2.1 c = F.2.1 c ∧ (snF F f E).2.2.1 c = F.2.2.1 c := by
    intro c h1 h2
    exact ⟨(va_up_ne _ _ h2).trans ((va_up_ne _ _ h1).trans (va_up_ne _ _ h1)), (va_up_ne _ _ h2).trans (va_up_ne _ _ h1), (va_up_ne _ _ h1).trans (va_up_ne _ _ h1)⟩
  have hr1 : ∀ c, c ≠ f → c ≠ 16 + f → va_up (va_up ri f [nf]) (16 + f) [nf] c = ri c := fun c h1 h2 => (va_up_ne _ _ h2).trans (va_up_ne _ _ h1)
  have hr2 : va_up (va_up ri f [nf]) (16 + f) [nf] f = [nf] := (va_up_ne _ _ (by omega)).trans (va_up_self _ _ _)
  have hr3 : va_up (va_up ri f [nf]) (16 + f) [nf] (16 + f) = [nf] := va_up_self _ _ _
  generalize hRd : va_up (va_up ri f [nf]) (16 + f) [nf] = R at *
  generalize hFd : snF F f E = G at *
  have dlow : ∀ c, c < 4 ∨ 16 ≤ c → (drF G od g).1 c = G.1 c ∧ (drF G od g).2.1 c = G.2.1 c ∧ (drF G od g).2.2.1 c = G.2.2.1 c ∧ (drF G od g).2.2.2 c = G.2.2.2 c ∧ drR R od g c = R c := fun c hc => dr_out g (fun t ht => by have := ho t (by omega); omega)
  have dout : ∀ c, (∀ t, t < g → od.getD t 0 ≠ c) → (drF G od g).1 c = G.1 c ∧ (drF G od g).2.1 c = G.2.1 c ∧ (drF G od g).2.2.1 c = G.2.2.1 c ∧ (drF G od g).2.2.2 c = G.2.2.2 c ∧ drR R od g c = R c := fun c hc => dr_out g hc
  have din : ∀ t, t < g → (drF G od g).1 (od.getD t 0) = [] ∧ (drF G od g).2.1 (od.getD t 0) = 0 ∧ (drF G od g).2.2.1 (od.getD t 0) = 0 ∧ drR R od g (od.getD t 0) = [] := fun t ht => dr_in g ht
  have keepd : ∀ t, g ≤ t → t < od.length → (drF G od g).1 (od.getD t 0) = F.1 (od.getD t 0) ∧ (drF G od g).2.1 (od.getD t 0) = F.2.1 (od.getD t 0) ∧ drR R od g (od.getD t 0) = ri (od.getD t 0) := by
    intro t h1 h2
    have hof := ho t h2
    obtain ⟨a, b, c, d, e⟩ := dout (od.getD t 0) (fun t' ht' => h5.2.2.1 t' t (by omega) h2)
    obtain ⟨a', b', c'⟩ := c2 (od.getD t 0) (by omega) (by omega)
    exact ⟨a.trans a', b.trans b', e.trans (hr1 _ (by omega) (by omega))⟩
  -- a row is the old one, or empty, or the new one
  have rows : ∀ c, c < 32 → drR R od g c = ri c ∨ drR R od g c = [] ∨ (c % 16 = f ∧ drR R od g c = [nf]) := by
    intro c hc
    by_cases e1 : ∃ t, t < g ∧ od.getD t 0 = c
    · obtain ⟨t, ht, rfl⟩ := e1
      exact Or.inr (Or.inl (din t ht).2.2.2)
    · rw [(dout c (fun t ht z => e1 ⟨t, ht, z⟩)).2.2.2.2]
      by_cases e2 : c = f
      · rw [e2, hr2]; exact Or.inr (Or.inr ⟨by omega, rfl⟩)
      · by_cases e3 : c = 16 + f
        · rw [e3, hr3]; exact Or.inr (Or.inr ⟨by omega, rfl⟩)
        · exact Or.inl (hr1 c e2 e3)
  have rows4 : ∀ c, c < 32 → 4 ≤ c % 16 → drR R od g c = ri c ∨ drR R od g c = [] := by
    intro c hc h4
    rcases rows c hc with e | e | ⟨e, -⟩
    · exact Or.inl e
    · exact Or.inr e
    · omega
  obtain ⟨a1, a2, a3, a4, a5⟩ := h3.T hl hTa
  have h4' := h4.T hl hTa
  have h5' := h5.T hl hTa
  have h6' := h6.T hl hTa ho
  obtain ⟨b1, b2, b3, b4, b5, b6, b7, b8⟩ := id h5'
  have hlen : (od.drop g).length = od.length - g := List.length_drop
  refine ⟨⟨fun c hc => ?_, fun c hc h2 => ?_, fun c hc hc4 => ?_, fun c d k q hc hd hk hq e => ?_, fun c k q hc hkq hq => ?_⟩, ⟨fun c h2 hc4 => ?_, ?_⟩, ⟨by omega, fun k hk => ?_, fun k q hkq hq => ?_, fun k hk => ?_, fun k hk => ?_, fun z => ?_, fun z => ?_, fun c hc4 hc hne => ?_⟩, fun i hi1 hi2 => ?_⟩
  · show (drF G od g).2.2.1 c ≤ ((drF G od g).1 c).length
    by_cases e1 : ∃ t, t < g ∧ od.getD t 0 = c
    · obtain ⟨t, ht, rfl⟩ := e1
      rw [(din t ht).2.2.1]; exact Nat.zero_le _
    · obtain ⟨x1, x2, x3, x4, x5⟩ := dout c (fun t ht z => e1 ⟨t, ht, z⟩)
      rw [x1, x3]
      by_cases e2 : c = f
      · rw [e2, c1.1, c1.2.2.1]; exact Nat.le_refl _
      · obtain ⟨y1, y2, y3⟩ := c2 c e2 (by omega)
        rw [y1, y3]; exact a1 c hc
  · rw [(dlow c (by omega)).2.2.2.2, hr1 c (by omega) (by omega)]; exact a2 c hc h2
  · refine ⟨?_, fun hne => ?_⟩
    · rcases rows4 c hc hc4 with e | e
      · rw [e]
        rcases (a3 c hc hc4).1 with z | ⟨fi, z1, z2, z3⟩
        · exact Or.inl z
        · exact Or.inr ⟨fi, z1, by omega, z3⟩
      · exact Or.inl e
    · by_cases e1 : ∃ t, t < g ∧ od.getD t 0 = c
      · obtain ⟨t, ht, rfl⟩ := e1
        exact absurd (din t ht).2.2.2 hne
      · obtain ⟨x1, x2, x3, x4, x5⟩ := dout c (fun t ht z => e1 ⟨t, ht, z⟩)
        rw [x5, hr1 c (by omega) (by omega)] at hne
        rw [x2, (c2 c (by omega) (by omega)).2.1]
        exact (a3 c hc hc4).2 hne
  · rcases rows c hc with ec | ec | ⟨ec1, ec⟩
    · rw [ec] at hk e
      rcases rows d hd with ed | ed | ⟨ed1, ed⟩
      · rw [ed] at hq e; exact a4 c d k q hc hd hk hq e
      · rw [ed] at hq; exact absurd hq (Nat.not_lt_zero _)
      · rw [ed] at hq e
        have hq0 : q = 0 := Nat.lt_one_iff.mp hq
        subst hq0
        have := hl c hc k hk
        have ez : ([nf] : List Nat).getD 0 0 = nf := rfl
        omega
    · rw [ec] at hk; exact absurd hk (Nat.not_lt_zero _)
    · rw [ec] at hk e
      have hk0 : k = 0 := Nat.lt_one_iff.mp hk
      subst hk0
      have ez : ([nf] : List Nat).getD 0 0 = nf := rfl
      rcases rows d hd with ed | ed | ⟨ed1, ed⟩
      · rw [ed] at hq e
        have := hl d hd q hq
        omega
      · rw [ed] at hq; exact absurd hq (Nat.not_lt_zero _)
      · omega
  · rcases rows c hc with ec | ec | ⟨ec1, ec⟩
    · rw [ec] at hq ⊢; exact a5 c k q hc hkq hq
    · rw [ec] at hq; exact absurd hq (Nat.not_lt_zero _)
    · rw [ec] at hq
      have : q < 1 := hq
      omega
  · show drR R od g (16 + c) = drR R od g c ∧ (drF G od g).1 (16 + c) = (drF G od g).1 c ∧ (drF G od g).2.1 (16 + c) = (drF G od g).2.1 c ∧ (drF G od g).1 c = rfC T2 (drR R od g c) ∧ (drF G od g).2.2.1 c = ((drF G od g).1 c).length
    obtain ⟨x1, x2, x3, x4, x5⟩ := dlow c (Or.inl hc4)
    obtain ⟨y1, y2, y3, y4, y5⟩ := dlow (16 + c) (Or.inr (by omega))
    rw [x1, x2, x3, x5, y1, y2, y5]
    by_cases e : c = f
    · rw [e, hr2, hr3, c1.1, c1.2.1, c1.2.2.1, c1.2.2.2.1, c1.2.2.2.2, rfC_one, hTn, hE]
      exact ⟨rfl, rfl, rfl, rfl, rfl⟩
    · obtain ⟨z1, z2, z3⟩ := c2 c e (by omega)
      obtain ⟨w1, w2, w3⟩ := c2 (16 + c) (by omega) (by omega)
      rw [hr1 c e (by omega), hr1 (16 + c) (by omega) (by omega), z1, z2, z3, w1, w2]
      exact h4'.1 c h2 hc4
  · right
    have hof : f = 2 ∨ f = 3 := by omega
    have r2 : drR R od g f = [nf] := (dlow f (by omega)).2.2.2.2.trans hr2
    refine ⟨f, 5 - f, nf, by omega, rfl, r2, ?_⟩
    rw [hTn]
    refine ⟨rfl, rfl, rfl, rfl, by omega, ?_⟩
    have ro : drR R od g (5 - f) = ri (5 - f) := (dlow (5 - f) (by omega)).2.2.2.2.trans (hr1 _ (by omega) (by omega))
    rw [ro]
    rcases h4'.2 with ⟨z1, z2, z3, z4, z5, z6⟩ | ⟨s, o, j, z1, z2, z3, z4, z5, z6, z7, z8, z9⟩
    · rcases hof with e | e
      · rw [e]; exact Or.inl z6
      · rw [e]; exact Or.inl z5
    · have hs : 5 - f = s := by
        rw [← hfd]
        unfold snx
        by_cases es : s = 2
        · rw [z2, es, if_pos (show nI 2 = (2 : Int32) from rfl)]
        · have : ¬ sf = 2 := by
            rw [z2]
            intro z
            rw [show (2 : Int32) = nI 2 from rfl, nI_eq (by omega) (by omega)] at z
            exact es z
          rw [if_neg this]; omega
      rw [hs]
      exact Or.inr ⟨j, bs, z3, z4, z5, z8, by omega⟩
  · rw [hlen] at hk
    rw [getD_drop]; exact b2 _ (by omega)
  · rw [hlen] at hq
    rw [getD_drop, getD_drop]; exact b3 _ _ (by omega) (by omega)
  · rw [hlen] at hk
    rw [getD_drop]
    obtain ⟨x1, x2, x3⟩ := keepd (g + k) (by omega) (by omega)
    obtain ⟨d1, d2, d3, d4, d5, d6⟩ := b4 (g + k) (by omega)
    rw [x1, x3, show (drF G od g).th (od.getD (g + k) 0) = F.th (od.getD (g + k) 0) from x2]
    exact ⟨d1, d2, d3, d4, by omega, d6⟩
  · rw [hlen] at hk
    rw [getD_drop, getD_drop, (keepd (g + k) (by omega) (by omega)).2.2, show g + (k + 1) = g + k + 1 by omega]
    exact b5 (g + k) (by omega)
  · rw [hlen] at z
    rcases hgp with ⟨e1, e2⟩ | ⟨e1, e2, e3⟩
    · exact e1
    · omega
  · rw [hlen] at z ⊢
    rcases hgp with ⟨e1, e2⟩ | ⟨e1, e2, e3, e4⟩
    · omega
    · have hla : la' = la := by
        rcases hcase with h | h
        · exact h.2
        · omega
      rw [getD_drop, getD_drop, Nat.add_zero, show g + (od.length - g - 1) = od.length - 1 by omega, (keepd (od.length - 1) (by omega) (by omega)).2.2, hla]
      refine ⟨?_, (b7 (by omega)).2⟩
      rcases Nat.eq_zero_or_pos g with e | e
      · rw [e]; have := (b7 (by omega)).1; omega
      · exact e3 g e (Nat.le_refl _)
  · by_cases e1 : ∃ t, t < g ∧ od.getD t 0 = c
    · obtain ⟨t, ht, rfl⟩ := e1
      exact ⟨(din t ht).2.1, (din t ht).2.2.2⟩
    · obtain ⟨x1, x2, x3, x4, x5⟩ := dout c (fun t ht z => e1 ⟨t, ht, z⟩)
      obtain ⟨y1, y2, y3⟩ := c2 c (by omega) (by omega)
      rw [x5, hr1 c (by omega) (by omega), show (drF G od g).th c = F.th c from x2.trans y2]
      refine b8 c hc4 hc (fun t ht z => ?_)
      rcases Nat.lt_or_ge t g with y | y
      · exact e1 ⟨t, y, z⟩
      · refine hne (t - g) (by rw [hlen]; omega) ?_
        rw [getD_drop, show g + (t - g) = t by omega]; exact z
  · rcases hcase with ⟨e1, e2⟩ | e2
    · rw [e2] at hi2
      obtain ⟨q, k, d1, d2, d3, d4, d5, d6⟩ := h6' i (by omega) hi2
      have hqg : g ≤ q := by
        rcases Nat.lt_or_ge q g with z | z
        · exfalso
          rcases hgp with ⟨f1, f2⟩ | ⟨f1, f2, f3, f4⟩
          · omega
          · have := b5 q (by omega)
            have := f3 (q + 1) (by omega) (by omega)
            omega
        · exact z
      refine ⟨q - g, k, by rw [hlen]; omega, d2, ?_⟩
      rw [getD_drop, show g + (q - g) = q by omega, (keepd q hqg d1).2.2]
      exact ⟨d3, d4, d5, d6⟩
    · omega
theorem c_nextSnap {Ln : gI → Nat} {sf : Int32} {S : gS} {Q : Int32 → gS → Prop} (h : S.1 (17, 0) 0 = sf) (hq : Q (nI (snx sf)) S) : wp_Snapshot_nextFile Ln Q (17, 0) S := by
  unfold wp_Snapshot_nextFile
  rw [h]
  unfold snx at hq
  refine ⟨fun h => ?_, fun h => ?_⟩
  · rw [if_neg h] at hq; exact hq
  · rw [if_pos h] at hq; exact hq
theorem p_compact {Ln : gI → Nat} {n : Nat} {S : gS} {K : gS → Prop} {v w : Int32} (h : INV Ln n S) (hn : n < 513) (hK : ∀ S', INV Ln (n + 1) S' → K S') :
    wp_Law_compact Ln (fun r4 S5 => wp_Mo_compact Ln (fun r7 S6 => pQ Ln K r4 r7 S6) (30, 0) v w S5) (0, 0) v w (60, 0) S := by
  obtain ⟨M, fc, F, tp, tm, vo, ti, vf, fh, sf, bs, bt, cd, la, di, od, fo, ei, kp, sl, T, nf, us, ri, en, hL, hc, hr, h1, h2, h3, h4, h5, h6⟩ := h
  have hN := h1
  unfold wN at hN
  have hM := hL.1.2.1
  have hu := dk_uc hc.1
  have hus : dkSum (dkW F) 16 ≤ M := by omega
  have htp : tp.length ≤ 4096 := hc.2.1.2.1
  obtain ⟨hc0, hB0⟩ := hc.tape
  have h1e : wN (n + 1) nf us [] ti la bs := by unfold wN; simp; omega
  have bs1 : nI bs + 1 = nI (bs + 1) := nI_1 bs
  have hsn : snx sf < 4 ∧ 2 ≤ snx sf := by unfold snx; split <;> omega
  have hx0 : hiX S (gset S (12, 0) 1 0) := hiX.set (by simp)
  have hfo : ∀ k, k < od.length → fo (od.getD k 0) < 2 ^ 30 := fun k hk => by have := (h5.2.2.2.1 k hk).2.2.2.2.1; omega
  have bad : ∀ (c : Int32), c ≠ 0 → ∀ S', hiX S S' → cl M fc F [] tm vo ti vf fh sf bs bt cd la di od fo ei kp S' → pQ Ln K c 0 (gset (gset (gset S' (30, 0) 0 0) (30, 0) 33 0) (30, 0) 0 c) := by
    intro c h0 S' hx hcl
    refine pQ_ex (gset_s _ _ _ _) h0 (hK _ ⟨M, fc, F, [], tm, vo, ti, vf, fh, sf, bs, bt, cd, la, di, od, fo, ei, kp, sl, T, nf, us, ri, en, hL, cl.lo (((loX.set (by simp)).tr (loX.set (by simp))).tr (loX.set (by simp))) hcl, ?_, h1e, h2, h3.up, h4, h5, h6⟩)
    exact ((rl.hi hx hr).thr.tape).1.thr
  unfold wp_Law_compact wp_LogDisk_compact wp_Tape_handOver
  rw [show grf (0, 0) 3 = (12, 0) from rfl, hc.2.1.1]
  rintro _ rfl _ rfl
  refine c_isInLog hc0.2.2.2.1 hc0.2.2.2.2.1 (by omega) (by omega) (fun nb e hi1 hi2 => cr_f (by decide) ?_) (fun hb => cr_t rfl (Or.inl ⟨rfl, ?_⟩))
  rotate_left
  · unfold wp_Mo_compact wp_Mo_fail
    have hr3 := ((rl.hi hx0 hr).thr (v := 0)).tape.1
    rintro _ rfl _ rfl _ rfl
    rw [hr3.2.2.2.1.2.1, hr3.2.2.2.2.1.2.2.1, bs1]
    refine rf_within (fun ha hb' => ?_) (fun _ => cr_t rfl ?_)
    · rw [i32_le] at ha hb'
      rw [nI_toInt (by omega)] at ha hb'
      rw [i32_le, i32_lt, nI_toInt (by omega), nI_toInt (by omega)] at hb
      omega
    · rintro _ rfl; exact bad 1 (by decide) _ hx0 hc0
  subst e
  have htl := tl_eq (bt := bt) h6 hi2
  rw [if_pos hi1, if_pos hi1] at htl
  have hen := en_lt hr.1.lt h5.2.1 h6 hi2 hi1
  -- the reference up to its write
  have rgo : ∀ (c : Int32) S', hiX S S' → (∀ S3, rl M fc F [] tm vo ti sl fh sf bs bt cd la di od kp T nf us ri en S3 → rfB tp S3 → S3 = gset (gset S' (30, 0) 0 0) (30, 0) 33 0 → wp_Mo_write Ln (fun r10 S9 => ((¬ r10 = 0) → (∀ v5_12 : Int32, v5_12 = nI nb - (S9.1 (30, 0) 23) → (wp_Mo_rebase Ln (fun S13 => pQ Ln K c v5_12 S13) (30, 0) (nI nb) v5_12 S9))) ∧ ((r10 = 0) → (wp_Mo_fail Ln (fun r15 S14 => pQ Ln K c r15 S14) (30, 0) 2 S9))) (30, 0) (nI nb) (T (en nb)).b w (nI tp.length) S3) → wp_Mo_compact Ln (fun r7 S6 => pQ Ln K c r7 S6) (30, 0) (nI nb) w S' := by
    intro c S' hx hgo
    have hrS := (rl.hi hx hr).thr (v := 0)
    obtain ⟨hr3, hB3⟩ := hrS.tape
    have hh := hgo _ hr3 hB3 rfl
    unfold wp_Mo_compact
    rintro _ rfl
    rw [hrS.2.1.1]
    rintro _ rfl _ rfl
    rw [hr3.2.2.2.1.2.1, hr3.2.2.2.2.1.2.2.1, bs1]
    refine rf_within (fun ha hb' => cr_f (by decide) ?_) (fun hb' => ?_)
    · refine r_termOf hL hr3.2.2.2.1 hr3.1.1 hr3.2.2.2.2.2.2.1 (by omega) (by omega) rfl (by omega) hi2 (fun _ => hen) ?_
      rw [if_pos hi1]
      exact hh
    · rcases hb' with hb' | hb'
      · rw [nI_ltI (by omega) (by omega)] at hb'; omega
      · rw [nI_ltI (by omega) (by omega)] at hb'; omega
  rw [show grf (0, 0) 6 = (17, 0) from rfl]
  refine c_nextSnap hc0.2.2.2.1.1 ?_
  refine c_file (P := fun g => wp_DiskFile_canRewrite Ln _ g _ _) (S := gset S (12, 0) 1 0) hL rfl (show snx sf < 16 by omega) ?_
  rw [show (20 : Int32) = nI 20 from rfl, nI_add]
  refine dk_canRewrite hL.1 hc0.1 (by omega) rfl (by omega) (fun hP hroom => cr_f (by decide) ?_) (fun hno => cr_t rfl (Or.inr ⟨rfl, ?_⟩))
  · rw [hc0.2.2.2.1.2.1, pk_sub (by omega)]
    rintro _ rfl
    refine c_termAt hL hc0.2.2.2.1 hc0.2.2.2.2.1 hc0.2.2.2.2.2.2.1 (by omega) (by omega) rfl hi2 ?_
    rw [if_pos hi1, htl]
    obtain ⟨q1, q2, q3, q4, q5, q6, q7, q8⟩ := hc0
    refine c_moveBase (nb := nb) hL q1 q2 q3 q4 q5 q6 (fun i a b => q7 i (by omega) b) q8 hB0 h5.1 h5.2.1 hfo (by omega) (by omega) hi2 (fun z => ?_) rfl rfl (h3.1 _ (by omega)) hP hroom ?_
    · rcases Nat.eq_zero_or_pos od.length with e | e
      · have := h5.2.2.2.2.2.1 e; omega
      · exact e
    intro S2 g hg hx2 hc2
    refine ok_in hL ?_
    have hx2' : hiX S (gsetL S2 (60, 0) (0 : Int32).toNatClampNeg (nI (nb - bs)).toInt64) := (hx0.tr hx2).tr hiX.setL
    obtain ⟨w3, w4, w5, w6⟩ := wf_move (te := (T (en nb)).b) (co := w) (ds := tp) (la' := la) hr.1.lt h3 h4 h5 h6 hi1 (Or.inl ⟨hi2, rfl⟩) hg
    refine rgo 0 _ hx2' (fun S3 hr3 hB3 hS3 => ?_)
    have t3 : S3.1 (30, 0) 0 = 0 := by rw [hS3, gset_n (Or.inr (by omega)), gset_s]
    refine r_write hL hr3 hB3 hM hus (by omega) (by omega) rfl rfl (fun hno => absurd ⟨hP, hroom⟩ hno) ?_
    intro _ _ S4 x4 t4 hr4
    refine cr_f (by decide) ?_
    rw [hr4.2.2.2.1.2.1, pk_sub (by omega)]
    rintro _ rfl
    have hTa : ∀ j, j < nf → va_up T nf (1, nI nb, (T (en nb)).b, w, tp) j = T j := fun j hj => va_up_ne _ _ (by omega)
    have hrr : ∀ k, k < od.length → va_up (va_up ri (snx sf) [nf]) (16 + snx sf) [nf] (od.getD k 0) = ri (od.getD k 0) := fun k hk => by have := h5.2.1 k hk; exact (va_up_ne _ _ (by omega)).trans (va_up_ne _ _ (by omega))
    refine r_rebase (fo := fo) (g := g) (la' := la) (g0 := nb - bs) hL hr4 h5.1 h5.2.1 h5.2.2.1 (fun k hk => ?_) (fun k hk => ?_) hfo (by omega) (by omega) (fun t d => fo_mono h5 d t) (by omega) (by omega) hi1 (Or.inl ⟨hi2, rfl, rfl⟩) hg rfl rfl ?_
    · rw [hrr k hk]
      obtain ⟨d1, d2, d3, d4, d5, d6⟩ := h5.2.2.2.1 k hk
      rw [hTa _ (hr.1.lt _ (by have := h5.2.1 k hk; omega) 0 d1)]
      exact ⟨d1, d3, d4⟩
    · rw [hrr k (by omega)]; exact h5.2.2.2.2.1 k hk
    intro S5 x5 t5 hr5
    have xlo : loX (gsetL S2 (60, 0) (0 : Int32).toNatClampNeg (nI (nb - bs)).toInt64) S5 := by
      rw [hS3] at x4
      exact (((loX.set (by simp)).tr (loX.set (by simp))).tr x4).tr x5
    refine pQ_ok hL (by rw [t5, t4, t3]) (by rw [xlo.1]; exact out_s _ _) (hK S5 ⟨M, fc, _, [], tm, vo, ti, vf, fh, nI (snx sf), nb, _, w, la, 1, od.drop g, fo, ei, kp, sl, _, nf + 1, us + tp.length, _, en, hL, cl.lo xlo hc2.out, hr5, ?_, ⟨h2.1, h2.2.1, h2.2.2.1, by omega, h2.2.2.2.2⟩, w3.up, w4, w5, w6⟩)
    unfold wN; simp; omega
  · refine rgo 2 _ hx0 (fun S3 hr3 hB3 hS3 => ?_)
    refine r_write hL hr3 hB3 hM hus (by omega) (by omega) rfl rfl (fun _ => cr_t rfl ?_) (fun a b => absurd ⟨a, b⟩ hno)
    unfold wp_Mo_fail
    rintro _ rfl
    rw [hS3]
    exact bad 2 (by decide) _ hx0 hc0
