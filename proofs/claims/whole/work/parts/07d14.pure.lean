/-! The reference: frames -/
def rfL (Ln : gI → Nat) : Prop :=
  (∀ k, 31 ≤ k → k ≤ 36 → Ln (k, 0) = 2200) ∧ Ln (37, 0) = 4200 ∧ Ln (38, 0) = 10560 ∧ Ln (39, 0) = 32 ∧ Ln (40, 0) = 32 ∧ Ln (41, 0) = 32 ∧ Ln (42, 0) = 16 ∧ Ln (43, 0) = 16 ∧ Ln (44, 0) = 16 ∧ Ln (45, 0) = 12 ∧ Ln (46, 0) = 301 ∧ Ln (47, 0) = 4096
def frOK (r : gFr) : Prop := r.so ≤ 3 ∧ (∀ k, r.d.getD k 0 < 256) ∧ (r.so = 3 → ∃ k, k ≤ 2 ∧ r.c = nI k) ∧ (r.so = 0 ∨ r.so = 2 → r.d = [])
/-- frame j of the table -/
def rfJ (r : gFr) (us j : Nat) (S : gS) : Prop :=
  frOK r ∧ S.1 (31, 0) j = nI r.so ∧ S.1 (32, 0) j = r.a ∧ S.1 (33, 0) j = r.b ∧ S.1 (34, 0) j = r.c ∧ S.1 (36, 0) j = nI r.d.length ∧ ∃ p, S.1 (35, 0) j = nI p ∧ p + r.d.length ≤ us ∧ ∀ k, k < r.d.length → S.1 (37, 0) (p + k) = nI (r.d.getD k 0)
def rfT (T : Nat → gFr) (nf us : Nat) (S : gS) : Prop :=
  nf ≤ 2200 ∧ us ≤ 4200 ∧ S.1 (30, 0) 3 = nI nf ∧ S.1 (30, 0) 11 = nI us ∧ ∀ j, j < nf → rfJ (T j) us j S
theorem rf_payload {Ln : gI → Nat} {T : Nat → gFr} {nf us j : Nat} {S : gS} {v : Int32} {Q : Int32 → gS → Prop} (hL : rfL Ln) (hT : rfT T nf us S) (hj : j < nf) (hv : v = nI j) (hq : Q (nI (frP (T j)).length) S) : wp_Mo_payload Ln Q (30, 0) v S := by
  subst hv
  obtain ⟨h1, h2, -, -, h3⟩ := hT
  obtain ⟨⟨ho, -⟩, hs, ha, hb, hc, hl, -⟩ := h3 j hj
  unfold wp_Mo_payload
  rw [show grf (30, 0) 4 = (31, 0) from rfl, show grf (30, 0) 9 = (36, 0) from rfl, hL.1 31 (by omega) (by omega), hL.1 36 (by omega) (by omega), nI_clamp (by omega), hs, hl]
  have hin : vp_in (nI j) 2200 := vp_in_nI (by omega) (by omega)
  rw [frP_len] at hq
  refine ⟨hin, ⟨fun h0 => ⟨hin, ⟨fun h1 => ⟨hin, ⟨fun h2 => ⟨hin, ?_⟩, fun h2 => ?_⟩⟩, fun h1 => ?_⟩⟩, fun h0 => ?_⟩⟩
  · have e0 : (T j).so ≠ 0 := fun e => h0 (by rw [e]; rfl)
    have e1 : (T j).so ≠ 1 := fun e => h1 (by rw [e]; rfl)
    have e2 : (T j).so ≠ 2 := fun e => h2 (by rw [e]; rfl)
    rw [if_neg e0, if_neg e1, if_neg e2] at hq
    rw [show (17 : Int32) = nI 17 from rfl, nI_add]
    exact hq
  · have e2 : (T j).so = 2 := (nI_eq (b := 2) (by omega) (by omega)).1 h2
    rw [if_neg (by omega), if_neg (by omega), if_pos e2] at hq
    exact hq
  · have e2 : (T j).so = 1 := (nI_eq (b := 1) (by omega) (by omega)).1 h1
    rw [if_neg (by omega), if_pos e2] at hq
    exact hq
  · have e2 : (T j).so = 0 := (nI_eq (b := 0) (by omega) (by omega)).1 h0
    rw [if_pos e2] at hq
    exact hq
theorem rf_dl {T : Nat → gFr} {nf us j : Nat} {S : gS} (hT : rfT T nf us S) (hj : j < nf) : (T j).d.length ≤ 4200 ∧ (T j).so ≤ 3 := by
  obtain ⟨h1, h2, -, -, h3⟩ := hT
  obtain ⟨⟨ho, -⟩, hs, ha, hb, hc, hl, p, hp, hp2, -⟩ := h3 j hj
  exact ⟨by omega, ho⟩
theorem rf_pl {T : Nat → gFr} {nf us j : Nat} {S : gS} (hT : rfT T nf us S) (hj : j < nf) : (frP (T j)).length ≤ 4217 ∧ 12 ≤ (frP (T j)).length := by
  have := rf_dl hT hj
  rw [frP_len]
  split
  · omega
  · split
    · omega
    · split <;> omega
theorem rf_space {Ln : gI → Nat} {T : Nat → gFr} {nf us j : Nat} {S : gS} {v : Int32} {Q : Int32 → gS → Prop} (hL : rfL Ln) (hT : rfT T nf us S) (hj : j < nf) (hv : v = nI j) (hq : Q (nI (frE (T j)).length) S) : wp_Mo_space Ln Q (30, 0) v S := by
  subst hv
  have hT' := hT
  obtain ⟨h1, h2, -, -, h3⟩ := hT'
  obtain ⟨⟨ho, -⟩, hs, ha, hb, hc, hl, -⟩ := h3 j hj
  unfold wp_Mo_space
  refine rf_payload hL hT hj rfl ?_
  rw [show grf (30, 0) 4 = (31, 0) from rfl, show grf (30, 0) 9 = (36, 0) from rfl, hL.1 31 (by omega) (by omega), hL.1 36 (by omega) (by omega), nI_clamp (by omega), hs, hl]
  have hin : vp_in (nI j) 2200 := vp_in_nI (by omega) (by omega)
  rw [frE_len] at hq
  rw [show (8 : Int32) = nI 8 from rfl, nI_add, show (0 : Int32) = nI 0 from rfl, nI_add, nI_add]
  refine ⟨hin, fun h => ?_, fun h => ⟨hin, ?_⟩⟩
  · rw [if_neg (fun e => h (by rw [e]; rfl))] at hq; exact hq
  · rw [if_pos ((nI_eq (b := 1) (by omega) (by omega)).1 h)] at hq; exact hq
theorem rf_byteOf {Ln : gI → Nat} {S : gS} {x : Int64} {k : Nat} {v : Int32} {Q : Int32 → gS → Prop} (hv : v = nI k) (hk : k < 8) (hq : Q (nI (dkBy x k)) S) : wp_Mo_byteOf Ln Q x v S := by
  subst hv
  unfold wp_Mo_byteOf
  rw [byteOf_eq x hk]
  exact hq
theorem rf_payloadAt {Ln : gI → Nat} {T : Nat → gFr} {nf us j k : Nat} {S : gS} {v w : Int32} {Q : Int32 → gS → Prop} (hL : rfL Ln) (hT : rfT T nf us S) (hj : j < nf) (hv : v = nI j) (hw : w = nI k) (hk : k < (frP (T j)).length)
    (hq : Q (nI ((frP (T j)).getD k 0)) S) : wp_Mo_payloadAt Ln Q (30, 0) v w S := by
  subst hv hw
  have hpl := rf_pl hT hj
  obtain ⟨h1, h2, -, -, h3⟩ := hT
  obtain ⟨⟨ho, hd, hk3, -⟩, hs, ha, hb, hc, hl, p, hp, hp2, hp3⟩ := h3 j hj
  have hin : vp_in (nI j) 2200 := vp_in_nI (by omega) (by omega)
  have l31 := hL.1 31 (by omega) (by omega)
  have l32 := hL.1 32 (by omega) (by omega)
  have l33 := hL.1 33 (by omega) (by omega)
  have l34 := hL.1 34 (by omega) (by omega)
  have l35 := hL.1 35 (by omega) (by omega)
  have l37 := hL.2.1
  have hkb : k < 4217 := by omega
  rw [frP_len] at hk
  have e103 : (T j).so ≠ 1 → ((T j).so = 3 → k < 16) → wp_Mo_payloadAt_103 Ln Q (30, 0) (nI j) (nI k) S := by
    intro n1 n3
    unfold wp_Mo_payloadAt_103
    rw [show grf (30, 0) 5 = (32, 0) from rfl, show grf (30, 0) 6 = (33, 0) from rfl, show grf (30, 0) 7 = (34, 0) from rfl, l32, l33, l34, nI_clamp (by omega), ha, hb, hc, show (8 : Int32) = nI 8 from rfl, pk_rem (by omega) (by omega) (by omega), show (16 : Int32) = nI 16 from rfl]
    refine pk_le 8 k (fun h8 => pk_le 16 k (fun h16 => ⟨hin, rf_byteOf rfl (by omega) ?_⟩) (fun h16 => ⟨hin, rf_byteOf rfl (by omega) ?_⟩) rfl rfl (by omega) (by omega)) (fun h8 => ⟨hin, rf_byteOf rfl (by omega) ?_⟩) rfl rfl (by omega) (by omega)
    · have e0 : (T j).so = 0 := by
        by_cases e : (T j).so = 0
        · exact e
        · rw [if_neg e, if_neg n1] at hk
          by_cases e2 : (T j).so = 2
          · rw [if_pos e2] at hk; omega
          · have := n3 (by omega); omega
      unfold frP at hq
      rw [if_pos e0] at hk hq
      rw [getD_app_r (by rw [dkBs_len]; omega), getD_app_r (by rw [dkBs_len, dkBs_len]; omega), dkBs_len, dkBs_len, dkBs_at (by omega)] at hq
      rw [show k % 8 = k - 8 - 8 by omega]
      exact hq
    · have : (frP (T j)).getD k 0 = dkBy (T j).b.toInt64 (k - 8) := by
        unfold frP
        rw [if_neg n1]
        split
        · rw [getD_app_r (by rw [dkBs_len]; omega), getD_app_l (by rw [dkBs_len, dkBs_len]; omega), dkBs_len, dkBs_at (by omega)]
        · split
          · rw [getD_app_r (by rw [dkBs_len]; omega), dkBs_len, dkBs_at (by omega)]
          · rw [getD_app_r (by rw [dkBs_len]; omega), getD_app_l (by rw [dkBs_len, dkBs_len]; omega), dkBs_len, dkBs_at (by omega)]
      rw [this] at hq
      rw [show k % 8 = k - 8 by omega]
      exact hq
    · have : (frP (T j)).getD k 0 = dkBy (T j).a.toInt64 k := by
        unfold frP
        rw [if_neg n1]
        split
        · rw [getD_app_l (by rw [dkBs_len]; omega), dkBs_at (by omega)]
        · split
          · rw [getD_app_l (by rw [dkBs_len]; omega), dkBs_at (by omega)]
          · rw [getD_app_l (by rw [dkBs_len]; omega), dkBs_at (by omega)]
      rw [this] at hq
      rw [show k % 8 = k by omega]
      exact hq
  unfold wp_Mo_payloadAt
  rw [show grf (30, 0) 4 = (31, 0) from rfl, show grf (30, 0) 5 = (32, 0) from rfl, show grf (30, 0) 6 = (33, 0) from rfl, show grf (30, 0) 7 = (34, 0) from rfl, show grf (30, 0) 8 = (35, 0) from rfl, show grf (30, 0) 10 = (37, 0) from rfl, l31, l32, l33, l34, l35, l37, nI_clamp (by omega), hs, ha, hb, hc, hp]
  refine ⟨hin, fun n1 => ⟨hin, fun n3 => ?_, fun n3 => ?_⟩, fun n1 => ?_⟩
  · have e1 : (T j).so ≠ 1 := fun e => n1 (by rw [e]; rfl)
    exact e103 e1 (fun e => absurd (by rw [e]; rfl) n3)
  · have e1 : (T j).so ≠ 1 := fun e => n1 (by rw [e]; rfl)
    have e3 : (T j).so = 3 := (nI_eq (b := 3) (by omega) (by omega)).1 n3
    have hf : frP (T j) = dkBs (T j).a.toInt64 8 ++ (dkBs (T j).b.toInt64 8 ++ (dkBs (T j).c.toInt64 1 ++ (T j).d)) := by
      unfold frP
      rw [if_neg (by omega), if_neg (by omega), if_neg (by omega)]
    rw [if_neg (by omega), if_neg (by omega), if_neg (by omega)] at hk
    refine pk_le k 15 (fun h => e103 e1 (fun _ => by omega)) (fun h => ?_) rfl rfl (by omega) (by omega)
    rw [hf, getD_app_r (by rw [dkBs_len]; omega), dkBs_len, getD_app_r (by rw [dkBs_len]; omega), dkBs_len] at hq
    refine (pk_eq k 16 (fun h2 => ⟨hin, ?_⟩) (fun h2 => ⟨hin, ?_⟩) rfl rfl (by omega) (by omega)) |> fun h => ⟨h.2, h.1⟩
    · subst h2
      obtain ⟨q, hq2, e⟩ := hk3 e3
      rw [getD_app_l (by rw [dkBs_len]; omega), dkBs_at (by omega), e, nI_l (by omega)] at hq
      rw [e]
      have : dkBy (lN q) (16 - 8 - 8) = q := by
        have e2 : ∀ n, (lN n).toBitVec.toNat = n % 2 ^ 64 := fun n => BitVec.toNat_ofNat n 64
        unfold dkBy
        rw [e2]
        simp
        omega
      rw [this] at hq
      exact hq
    · rw [nI_add, show (17 : Int32) = nI 17 from rfl, pk_sub (by omega)]
      refine ⟨vp_in_nI (by omega) (by omega), ?_⟩
      rw [nI_clamp (by omega), show p + k - 17 = p + (k - 17) by omega, hp3 _ (by omega)]
      rw [getD_app_r (by rw [dkBs_len]; omega), dkBs_len, show k - 8 - 8 - 1 = k - 17 by omega] at hq
      exact hq
  · have e1 : (T j).so = 1 := (nI_eq (b := 1) (by omega) (by omega)).1 n1
    rw [if_neg (by omega), if_pos e1] at hk
    have hf : frP (T j) = dkBs (T j).a.toInt64 4 ++ (dkBs (T j).b.toInt64 4 ++ dkBs (T j).c.toInt64 4) := by
      unfold frP
      rw [if_neg (by omega), if_pos e1]
    rw [show (8 : Int32) = nI 8 from rfl, show (4 : Int32) = nI 4 from rfl, pk_rem (by omega) (by omega) (by omega)]
    rw [hf] at hq
    refine pk_le 4 k (fun h4 => pk_le 8 k (fun h8 => ⟨hin, rf_byteOf rfl (by omega) ?_⟩) (fun h8 => ⟨hin, rf_byteOf rfl (by omega) ?_⟩) rfl rfl (by omega) (by omega)) (fun h4 => ⟨hin, rf_byteOf rfl (by omega) ?_⟩) rfl rfl (by omega) (by omega)
    · rw [getD_app_r (by rw [dkBs_len]; omega), getD_app_r (by rw [dkBs_len, dkBs_len]; omega), dkBs_len, dkBs_len, dkBs_at (by omega)] at hq
      rw [show k % 4 = k - 4 - 4 by omega]; exact hq
    · rw [getD_app_r (by rw [dkBs_len]; omega), getD_app_l (by rw [dkBs_len, dkBs_len]; omega), dkBs_len, dkBs_at (by omega)] at hq
      rw [show k % 4 = k - 4 by omega]; exact hq
    · rw [getD_app_l (by rw [dkBs_len]; omega), dkBs_at (by omega)] at hq
      rw [show k % 4 = k by omega]; exact hq
