theorem xor_pos {a b : Nat} (ha : a < 2 ^ 31) (hb : b < 2 ^ 31) : (0 : Int32) ≤ nI a ^^^ nI b := by
  have e : nI a ^^^ nI b = nI (a ^^^ b) := by
    apply Int32.toBitVec_inj.mp
    apply BitVec.eq_of_toNat_eq
    rw [Int32.toBitVec_xor, BitVec.toNat_xor, pk_tn (by omega), pk_tn (by omega), pk_tn (Nat.lt_trans (Nat.xor_lt_two_pow ha hb) (by decide))]
  rw [e]
  exact nI_pos' (Nat.xor_lt_two_pow ha hb)
theorem c_slot {Ln : gI → Nat} {S : gS} {x0 : gI} {i : Nat} {v : Int32} {Q : Int32 → gS → Prop} (hv : v = nI i) (hi : i < 2 ^ 31) (hq : Q (nI (i % 301)) S) : wp_Entries_slot Ln Q x0 v S := by
  subst hv
  unfold wp_Entries_slot wp_Math_floorMod
  refine ⟨by decide, ?_⟩
  rw [show (301 : Int32) = nI 301 from rfl, pk_rem hi (by omega) (by omega)]
  rintro _ rfl
  exact br_t (xor_pos hi (by omega)) hq
theorem i32_cases (x : Int32) (a b : Nat) (ha : a < 2 ^ 31) (hb : b < 2 ^ 31) : x ≤ nI a ∨ nI b < x ∨ ∃ i, x = nI i ∧ a < i ∧ i ≤ b := by
  by_cases h1 : x ≤ nI a
  · exact Or.inl h1
  · by_cases h2 : nI b < x
    · exact Or.inr (Or.inl h2)
    · refine Or.inr (Or.inr ?_)
      rw [i32_le, nI_toInt ha] at h1
      rw [i32_lt, nI_toInt hb] at h2
      obtain ⟨i, hi, rfl⟩ := nI_of (x := x) (by rw [i32_lt]; have : (0 : Int32).toInt = 0 := (by decide); omega)
      rw [nI_toInt hi] at h1 h2
      exact ⟨i, rfl, by omega, by omega⟩
theorem c_isInLog {Ln : gI → Nat} {fc sf bt cd : Int32} {bs la di : Nat} {S : gS} {v : Int32} {Q : Int32 → gS → Prop} (hS : cS sf bs bt cd S) (hM : cM fc la di S) (hb : bs < 2 ^ 31) (hl : la < 2 ^ 31)
    (h1 : ∀ i, v = nI i → bs < i → i ≤ la → Q 1 S) (h0 : v ≤ nI bs ∨ nI la < v → Q 0 S) : wp_LogDisk_isInLog Ln Q (0, 0) v S := by
  unfold wp_LogDisk_isInLog
  rw [show grf (0, 0) 6 = (17, 0) from rfl, hS.2.1, hM.2.1]
  refine ⟨fun h => h0 (Or.inl h), fun h => ⟨fun h2 => h0 (Or.inr h2), fun h2 => ?_⟩⟩
  rcases i32_cases v bs la hb hl with e | e | ⟨i, e1, e2, e3⟩
  · exact absurd e h
  · exact absurd e h2
  · exact h1 i e1 e2 e3
theorem c_termAt {Ln : gI → Nat} {M : Nat} {fc sf bt cd : Int32} {bs la di : Nat} {ei : Nat → gEi} {S : gS} {v : Int32} {i : Nat} {Q : Int32 → gS → Prop} (hL : aL Ln M) (hS : cS sf bs bt cd S) (hM : cM fc la di S) (hE : cE ei bs la S) (hl : la < 2 ^ 31) (hb : bs ≤ la) (hv : v = nI i) (hi : i ≤ la)
    (hq : Q (if bs < i then (ei i).2.2.1 else bt) S) : wp_LogDisk_termAt Ln Q (0, 0) v S := by
  subst hv
  unfold wp_LogDisk_termAt
  refine c_isInLog hS hM (by omega) hl (fun i' e h1 h2 => br_f (by decide) ?_) (fun h => br_t rfl ?_)
  · rw [nI_eq (by omega) (by omega)] at e
    subst e
    refine c_slot rfl (by omega) ?_
    rw [show grf (0, 0) 8 = (21, 0) from rfl, show grf (21, 0) 2 = (24, 0) from rfl, hL.2.2.2.2.2.2.2.2.2 24 (by omega) (by omega), nI_clamp (by omega), (hE i h1 h2).2.2.1]
    refine ⟨vp_in_nI (by omega) (by omega), ?_⟩
    rw [if_pos h1] at hq; exact hq
  · rw [show grf (0, 0) 6 = (17, 0) from rfl, hS.2.2.1]
    rw [if_neg] at hq
    · exact hq
    · rcases h with h | h
      · rw [nI_leI (by omega) (by omega)] at h; omega
      · rw [nI_ltI (by omega) (by omega)] at h; omega
theorem r_termOf {Ln : gI → Nat} {M : Nat} {sf bt cd : Int32} {bs la : Nat} {T : Nat → gFr} {nf us : Nat} {en : Nat → Nat} {S : gS} {v : Int32} {i : Nat} {Q : Int32 → gS → Prop} (hL : aL Ln M) (hS : rS sf bs bt cd S) (hT : rfT T nf us S) (hE : rE en bs la S) (hl : la < 2 ^ 31) (h3 : la ≤ bs + 300) (hv : v = nI i) (hb : bs ≤ i) (hi : i ≤ la) (hen : bs < i → en i < nf)
    (hq : Q (if bs < i then (T (en i)).b else bt) S) : wp_Mo_termOf Ln Q (30, 0) v S := by
  subst hv
  unfold wp_Mo_termOf
  rw [hS.2.1, hS.2.2.1, show grf (30, 0) 32 = (46, 0) from rfl, show grf (30, 0) 6 = (33, 0) from rfl, hL.2.1.2.2.2.2.2.2.2.2.2.2.1, hL.2.1.1 33 (by omega) (by omega)]
  refine (pk_eq i bs (fun h => ?_) (fun h => ?_) rfl rfl (by omega) (by omega)) |> fun h => ⟨h.2, h.1⟩
  · rw [if_neg (by omega)] at hq; exact hq
  · rw [pk_sub hb, show (1 : Int32) = nI 1 from rfl, pk_sub (by omega), nI_clamp (by omega), hE i (by omega) hi]
    have h2 := hen (by omega)
    have h4 := hT.1
    rw [nI_clamp (by omega), (rf_fr hT h2).2.2.1]
    rw [if_pos (by omega)] at hq
    exact ⟨vp_in_nI (by omega) (by omega), vp_in_nI (by omega) (by omega), hq⟩
/-! keep -/
theorem c_isFile {Ln : gI → Nat} {S : gS} {v : Int32} {Q : Int32 → gS → Prop} (h1 : ∀ f, v = nI f → f < 16 → Q 1 S) (h0 : v < 0 ∨ 15 < v → Q 0 S) : wp_LogDisk_isFile Ln Q v S := by
  unfold wp_LogDisk_isFile
  refine ⟨fun h => h0 (Or.inl h), fun h => ⟨fun h2 => h0 (Or.inr ?_), fun h2 => ?_⟩⟩
  · rw [i32_le] at h2; rw [i32_lt]
    have : (16 : Int32).toInt = 16 := by decide
    have : (15 : Int32).toInt = 15 := by decide
    omega
  · obtain ⟨f, hf, rfl⟩ := nI_of h
    exact h1 f rfl (by rw [show (16 : Int32) = nI 16 from rfl, nI_leI (by omega) hf] at h2; omega)
theorem kp_up {kp : Nat → Int32} {S : gS} {i f : Nat} {v : Int32} (h : ∀ g, g < 16 → S.1 (i, 0) g = kp g) : ∀ g, g < 16 → (gset S (i, 0) f v).1 (i, 0) g = va_up kp f v g := by
  intro g hg
  by_cases e : g = f
  · subst e; rw [gset_s, va_up_self]
  · rw [gset_n (Or.inr e), va_up_ne _ _ e]; exact h g hg
def pK (Ln : gI → Nat) (K : gS → Prop) (r4 : Int32) (S6 : gS) : Prop := wp_Mo_thrown Ln (fun r9 S8 => ((r9 = r4) → (K S8)) ∧ ((¬ r9 = r4) → (False))) (30, 0) S6
theorem pK_ok {Ln : gI → Nat} {K : gS → Prop} {c : Int32} {S : gS} (h : S.1 (30, 0) 0 = c) (hk : K S) : pK Ln K c S := by
  unfold pK wp_Mo_thrown
  rw [h]
  exact ⟨fun _ => hk, fun z => absurd rfl z⟩
theorem p_keep {Ln : gI → Nat} {n : Nat} {S : gS} {K : gS → Prop} {v w : Int32} (h : INV Ln n S) (hn : n < 513) (hK : ∀ S', INV Ln (n + 1) S' → K S') :
    wp_Law_keep Ln (fun r4 S5 => wp_Mo_keep Ln (fun S6 => pK Ln K r4 S6) (30, 0) v w S5) (0, 0) v w S := by
  obtain ⟨M, fc, F, tp, tm, vo, ti, vf, fh, sf, bs, bt, cd, la, di, od, fo, ei, kp, sl, T, nf, us, ri, en, hL, hc, hr, h1, h2, h3, h4, h5, h6⟩ := h
  have same : ∀ kp' (S' : gS), wV vf sl fh di kp' → cl M fc F tp tm vo ti vf fh sf bs bt cd la di od fo ei kp' S' → rl M fc F tp tm vo ti sl fh sf bs bt cd la di od kp' T nf us ri en S' → K S' := fun kp' S' hv a b => hK S' ⟨M, fc, F, tp, tm, vo, ti, vf, fh, sf, bs, bt, cd, la, di, od, fo, ei, kp', sl, T, nf, us, ri, en, hL, a, b, h1.up hn, hv, h3.up, h4, h5, h6⟩
  have bad : ∀ c : Int32, pK Ln K c (gset (gset S (30, 0) 0 0) (30, 0) 0 c) := fun c => pK_ok (gset_s _ _ _ _) (same kp _ h2 (cl.lo ((loX.set (by simp)).tr (loX.set (by simp))) hc) hr.thr.thr)
  have z0 : (0 : Int32).toInt = 0 := by decide
  have z15 : (15 : Int32).toInt = 15 := by decide
  unfold wp_Law_keep wp_LogDisk_keep
  refine c_isFile (fun f e hf => cr_f (by decide) ⟨fun hw => ?_, fun hw => Or.inr ⟨rfl, ?_⟩⟩) (fun h => cr_t rfl (Or.inl ⟨rfl, ?_⟩))
  · subst e
    rw [show grf (0, 0) 2 = (11, 0) from rfl, hL.2.2.2.1, nI_clamp (by omega)]
    refine ⟨vp_in_nI (by omega) (by omega), ?_⟩
    rintro _ rfl
    unfold wp_Mo_keep
    rintro _ rfl
    refine rf_within (fun ha hb => cr_f (by decide) (br_t hw ?_)) (fun h => ?_)
    · rw [show grf (30, 0) 18 = (44, 0) from rfl, hL.2.1.2.2.2.2.2.2.2.2.1, nI_clamp (by omega)]
      refine ⟨vp_in_nI (by omega) (by omega), ?_⟩
      rintro _ rfl
      obtain ⟨q, hq, rfl⟩ := nI_of (x := w) (i32_nlt.2 hw)
      refine pK_ok ?_ (same (va_up kp f (nI q)) _ ?_ ?_ ?_)
      · rw [gset_o (by simp), gset_s]
      · refine ⟨h2.1, h2.2.1, h2.2.2.1, h2.2.2.2.1, fun g hg => ?_⟩
        by_cases e : g = f
        · subst e; rw [va_up_self]; exact Or.inr ⟨q, hq, rfl⟩
        · rw [va_up_ne _ _ e]; exact h2.2.2.2.2 g hg
      · refine cl.lo ((loX.set (by simp)).tr (loX.set (by simp))) ?_
        obtain ⟨p1, p2, p3, p4, p5, p6, p7, p8⟩ := hc
        have o : ∀ i : gI, i.1 ≠ 11 → (gset S (11, 0) f (nI q)).1 i = S.1 i := fun i hi => gset_o (by rintro rfl; simp at hi)
        exact ⟨dk_of (fun i a b => o i (by omega)) p1, p2.of (o _ (by simp)) (o _ (by simp)), p3.of (o _ (by simp)) rfl, p4.of (o _ (by simp)), p5.of (o _ (by simp)), p6.of (o _ (by simp)) (o _ (by simp)) (o _ (by simp)), p7.of (fun k a b => o _ (by simp; omega)), kp_up p8⟩
      · have hr2 : rl M fc F tp tm vo ti sl fh sf bs bt cd la di od kp T nf us ri en (gset (gset S (11, 0) f (nI q)) (30, 0) 0 0) := (rl.hi (hiX.set (by simp)) hr).thr
        obtain ⟨p1, p2, p3, p4, p5, p6, p7, p8⟩ := hr2
        have o : ∀ i : gI, i.1 ≠ 44 → (gset (gset (gset S (11, 0) f (nI q)) (30, 0) 0 0) (44, 0) f (nI q)).1 i = (gset (gset S (11, 0) f (nI q)) (30, 0) 0 0).1 i := fun i hi => gset_o (by rintro rfl; simp at hi)
        refine ⟨rfD_of (fun i a b => o i (by omega)) (by rw [o _ (by simp)]) (by rw [o _ (by simp)]) p1, ?_, ?_, ?_, ?_, ?_, ?_, kp_up p8⟩
        · unfold rT rfB; rw [o _ (by simp), o _ (by simp)]; exact p2
        · unfold rV; rw [o _ (by simp)]; exact p3
        · unfold rS; rw [o _ (by simp)]; exact p4
        · unfold rM; rw [o _ (by simp)]; exact p5
        · unfold rG; rw [o _ (by simp), o _ (by simp)]; exact p6
        · unfold rE; rw [o _ (by simp)]; exact p7
    · rw [i32_lt, i32_lt, nI_toInt (by omega)] at h; omega
  · subst e
    unfold wp_Mo_keep
    rintro _ rfl
    refine rf_within (fun ha hb => cr_f (by decide) (br_f hw ?_)) (fun h => ?_)
    · rintro _ rfl
      exact bad 2
    · rw [i32_lt, i32_lt, nI_toInt (by omega)] at h; omega
  · unfold wp_Mo_keep
    rintro _ rfl
    refine rf_within (fun ha hb => ?_) (fun h => cr_t rfl ?_)
    · rw [i32_le] at ha hb; rw [i32_lt, i32_lt] at h; omega
    · rintro _ rfl
      exact bad 1
