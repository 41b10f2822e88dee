def itB (s : Int32) : Nat → Int32
  | 0 => s
  | n + 1 => dkBit (itB s n)
theorem rf_bits {Ln : gI → Nat} {S : gS} {K4 : gI → Int32 → Int32 → Int32 → gS → Prop} {Q : Int32 → gS → Prop} {x0 : gI} {x1 x3 s v : Int32} (hq : K4 x0 x1 (dkSt s v) (x3 + 1) S) : ∃ n, wp_Mo_sumOf_25 Ln K4 Q n x0 x1 (s ^^^ v) x3 0 S := by
  have key := pk_loop (fun m k S' => wp_Mo_sumOf_25 Ln K4 Q m x0 x1 (itB (s ^^^ v) k) x3 (nI k) S') (fun k S' => S' = S) 8 0 S (Nat.zero_le _) rfl ?_ ?_
  · exact key
  · rintro m _ rfl
    unfold wp_Mo_sumOf_25
    refine br_t (by decide) ?_
    rintro _ rfl
    rw [dkSt_bits] at hq
    exact hq
  · rintro m k _ hk rfl ih
    unfold wp_Mo_sumOf_25
    refine br_f (nI_ge (b := 8) hk (by omega)) ?_
    have h2 := ih _ rfl
    have e : itB (s ^^^ v) (k + 1) = dkBit (itB (s ^^^ v) k) := rfl
    rw [e] at h2
    unfold dkBit at h2
    refine ⟨fun h => ?_, fun h => ?_⟩
    · rw [if_neg h] at h2
      unfold wp_Mo_sumOf_51
      rintro _ rfl
      rw [nI_1]; exact h2
    · rw [if_pos h] at h2
      unfold wp_Mo_sumOf_51
      rintro _ rfl
      rw [nI_1]; exact h2
theorem rf_sumOf {Ln : gI → Nat} {T : Nat → gFr} {nf us j : Nat} {S : gS} {v : Int32} {Q : Int32 → gS → Prop} (hL : rfL Ln) (hT : rfT T nf us S) (hj : j < nf) (hv : v = nI j)
    (hq : Q (dkSm (frP (T j)) 0 (frP (T j)).length ^^^ (-1 : Int32)) S) : wp_Mo_sumOf Ln Q (30, 0) v S := by
  subst hv
  have hpl := rf_pl hT hj
  unfold wp_Mo_sumOf
  have key := pk_loop (fun m k S' => wp_Mo_sumOf_4 Ln Q m (30, 0) (nI j) (dkSm (frP (T j)) 0 k) (nI k) S') (fun k S' => S' = S) (frP (T j)).length 0 S (Nat.zero_le _) rfl ?_ ?_
  · exact key
  · rintro m _ rfl
    unfold wp_Mo_sumOf_4
    refine rf_payload hL hT hj rfl ?_
    exact br_t (nI_le (Nat.le_refl _) (by omega)) hq
  · rintro m k _ hk rfl ih
    unfold wp_Mo_sumOf_4
    refine rf_payload hL hT hj rfl ?_
    refine br_f (nI_ge hk (by omega)) ?_
    refine rf_payloadAt hL hT hj rfl rfl hk ?_
    rintro _ rfl
    refine rf_bits ?_
    rw [nI_1]
    have e : dkSm (frP (T j)) 0 (k + 1) = dkSt (dkSm (frP (T j)) 0 k) (nI ((frP (T j)).getD k 0)) := by
      show dkSt (dkSm (frP (T j)) 0 k) (nI ((frP (T j)).getD (0 + k) 0)) = _
      rw [Nat.zero_add]
    rw [← e]
    exact ih _ rfl
theorem rf_frameAt {Ln : gI → Nat} {T : Nat → gFr} {nf us j k : Nat} {S : gS} {v w : Int32} {Q : Int32 → gS → Prop} (hL : rfL Ln) (hT : rfT T nf us S) (hj : j < nf) (hv : v = nI j) (hw : w = nI k) (hk : k < (frE (T j)).length)
    (hq : Q (nI ((frE (T j)).getD k 0)) S) : wp_Mo_frameAt Ln Q (30, 0) v w S := by
  subst hv hw
  have hpl := rf_pl hT hj
  have hdl := rf_dl hT hj
  have hT' := hT
  obtain ⟨h1, h2, -, -, h3⟩ := hT'
  obtain ⟨⟨ho, hd, hk3, -⟩, hs, ha, hb, hc, hl, p, hp, hp2, hp3⟩ := h3 j hj
  have hin : vp_in (nI j) 2200 := vp_in_nI (by omega) (by omega)
  have hkb : k < 9000 := by rw [frE_len] at hk; split at hk <;> omega
  rw [frE_len] at hk
  unfold frE at hq
  unfold wp_Mo_frameAt
  rw [show grf (30, 0) 8 = (35, 0) from rfl, show grf (30, 0) 10 = (37, 0) from rfl, hL.1 35 (by omega) (by omega), hL.2.1]
  refine pk_le 8 k (fun h8 => ?_) (fun h8 => ?_) rfl rfl (by omega) (by omega)
  · refine rf_payload hL hT hj rfl ?_
    rw [show (8 : Int32) = nI 8 from rfl, pk_sub h8]
    refine pk_le (frP (T j)).length (k - 8) (fun h => ⟨hin, rf_payload hL hT hj rfl ?_⟩) (fun h => ?_) rfl rfl (by omega) (by omega)
    · have e1 : (T j).so = 1 := by
        by_cases e : (T j).so = 1
        · exact e
        · rw [if_neg e] at hk; omega
      rw [if_pos e1] at hk hq
      rw [nI_clamp (by omega), hp, nI_add, pk_sub (by omega), pk_sub (by omega)]
      refine ⟨vp_in_nI (by omega) (by omega), ?_⟩
      rw [nI_clamp (by omega), show p + k - 8 - (frP (T j)).length = p + (k - 8 - (frP (T j)).length) by omega, hp3 _ (by omega)]
      rw [getD_app_r (by rw [frH_len]; omega), frH_len, show k - (8 + (frP (T j)).length) = k - 8 - (frP (T j)).length by omega] at hq
      exact hq
    · refine rf_payloadAt hL hT hj rfl rfl h ?_
      rw [getD_app_l (by rw [frH_len]; omega)] at hq
      unfold frH at hq
      rw [getD_app_r (by rw [dkBs_len]; omega), getD_app_r (by rw [dkBs_len, dkBs_len]; omega), dkBs_len, dkBs_len, show k - 4 - 4 = k - 8 by omega] at hq
      exact hq
  · rw [getD_app_l (by rw [frH_len]; omega)] at hq
    unfold frH at hq
    refine pk_le 4 k (fun h4 => ?_) (fun h4 => ?_) rfl rfl (by omega) (by omega)
    · refine rf_sumOf hL hT hj rfl ?_
      rw [show (4 : Int32) = nI 4 from rfl, pk_sub h4]
      refine rf_byteOf rfl (by omega) ?_
      rw [getD_app_r (by rw [dkBs_len]; omega), getD_app_l (by rw [dkBs_len, dkBs_len]; omega), dkBs_len, dkBs_at (by omega)] at hq
      exact hq
    · refine rf_payload hL hT hj rfl ?_
      refine rf_byteOf rfl (by omega) ?_
      rw [getD_app_l (by rw [dkBs_len]; omega), dkBs_at (by omega)] at hq
      rw [nI_l (by omega)]
      exact hq
/-! The reference: its disk -/
def rfC (T : Nat → gFr) (l : List Nat) : List Nat := l.flatMap (fun j => frE (T j))
def rfR (nf : Nat) (ri : Nat → List Nat) (S : gS) : Prop :=
  ∀ c, c < 32 → (ri c).length ≤ 330 ∧ S.1 (39, 0) c = nI (ri c).length ∧ ∀ k, k < (ri c).length → S.1 (38, 0) (330 * c + k) = nI ((ri c).getD k 0) ∧ (ri c).getD k 0 < nf
def rfF (F : gF) (S : gS) : Prop :=
  (∀ c, c < 32 → F.sz c < 2 ^ 20 ∧ F.th c ≤ 1 ∧ S.1 (40, 0) c = nI (F.sz c) ∧ S.1 (41, 0) c = nI (F.th c)) ∧ ∀ f, f < 16 → F.lo f < 2 ^ 20 ∧ F.sh f ≤ dkP (F.sz f) ∧ F.sh f ≤ dkP (F.sz (16 + f)) ∧ S.1 (42, 0) f = nI (F.lo f) ∧ S.1 (43, 0) f = nI (F.sh f)
/-- a content is a beginning of its frames, and reaches into the last -/
def rfP (T : Nat → gFr) (l bs : List Nat) : Prop := bs <+: rfC T l ∧ ∀ n, n < l.length → (rfC T (l.take n)).length < bs.length
theorem rf_pages {Ln : gI → Nat} {S : gS} {n : Nat} {v : Int32} {Q : Int32 → gS → Prop} (hv : v = nI n) (hn : n < 2 ^ 30) (hq : Q (nI (dkP n)) S) : wp_Mo_pages Ln Q v S := by
  subst hv
  unfold wp_Mo_pages
  rw [dkP_i hn]
  exact hq
theorem dkSum_le {g : Nat → Nat} {b : Nat} : ∀ n, (∀ j, j < n → g j ≤ b) → dkSum g n ≤ n * b
  | 0, _ => Nat.zero_le _
  | n + 1, h => by
    have := dkSum_le n (fun j hj => h j (by omega))
    have := h n (by omega)
    show dkSum g n + g n ≤ (n + 1) * b
    rw [Nat.succ_mul]; omega
theorem rf_W {F : gF} {S : gS} (hF : rfF F S) {f : Nat} (hf : f < 16) : dkW F f ≤ 2 ^ 16 := by
  have a := (hF.1 f (by omega)).1
  have b := (hF.1 (16 + f) (by omega)).1
  unfold dkW dkP
  omega
theorem rf_pagesUsed {Ln : gI → Nat} {F : gF} {S : gS} {Q : Int32 → gS → Prop} (hL : rfL Ln) (hF : rfF F S) (hq : Q (nI (dkSum (dkW F) 16)) S) : wp_Mo_pagesUsed Ln Q (30, 0) S := by
  unfold wp_Mo_pagesUsed
  have key := pk_loop (fun m k S' => wp_Mo_pagesUsed_4 Ln Q m (30, 0) (nI (dkSum (dkW F) k)) (nI k) S') (fun k S' => S' = S) 16 0 S (Nat.zero_le _) rfl ?_ ?_
  · exact key
  · rintro m _ rfl
    unfold wp_Mo_pagesUsed_4
    exact br_t (by decide) hq
  · rintro m k _ hk rfl ih
    unfold wp_Mo_pagesUsed_4
    obtain ⟨f1, f2⟩ := hF
    obtain ⟨a1, -, a2, -⟩ := f1 k (by omega)
    obtain ⟨b1, -, b2, -⟩ := f1 (16 + k) (by omega)
    obtain ⟨-, c1, c2, -, c3⟩ := f2 k hk
    rw [show grf (30, 0) 14 = (40, 0) from rfl, show grf (30, 0) 17 = (43, 0) from rfl, hL.2.2.2.2.1, hL.2.2.2.2.2.2.2.1, show (16 : Int32) = nI 16 from rfl, nI_add, nI_clamp (by omega), nI_clamp (by omega)]
    refine br_f (nI_ge hk (by omega)) ⟨vp_in_nI (by omega) (by omega), rf_pages a2 (by omega) ⟨vp_in_nI (by omega) (by omega), rf_pages b2 (by omega) ⟨vp_in_nI (by omega) (by omega), ?_⟩⟩⟩
    rintro _ rfl _ rfl
    rw [c3, nI_add, pk_sub (by omega), nI_add, nI_1]
    exact ih _ rfl
theorem rf_needed {Ln : gI → Nat} {F : gF} {S : gS} {Q : Int32 → gS → Prop} {f n : Nat} {v w : Int32} (hL : rfL Ln) (hF : rfF F S) (hf : f < 16) (hv : v = nI f) (hw : w = nI n) (hn : n < 2 ^ 20) (hq : Q (nI (dkNd F f n)) S) : wp_Mo_needed Ln Q (30, 0) v w S := by
  subst hv hw
  obtain ⟨f1, f2⟩ := hF
  obtain ⟨a1, -, a2, -⟩ := f1 f (by omega)
  obtain ⟨-, c1, c2, -, c3⟩ := f2 f hf
  have hle : dkP (F.sz f) ≤ dkP (F.sz f + n) := dkP_le (by omega)
  have hb : dkP (F.sz f) < 2 ^ 16 := by unfold dkP; omega
  have e35 : ∀ j, j ≤ 1 → dkNd F f n = dkP (F.sz f + n) - dkP (F.sz f) + j → wp_Mo_needed_35 Ln Q (30, 0) (nI f) (nI n) (nI j) S := by
    intro j hj he
    unfold wp_Mo_needed_35
    rw [show grf (30, 0) 14 = (40, 0) from rfl, hL.2.2.2.2.1, nI_clamp (by omega), a2, nI_add]
    refine ⟨vp_in_nI (by omega) (by omega), rf_pages rfl (by omega) ⟨vp_in_nI (by omega) (by omega), rf_pages a2 (by omega) ?_⟩⟩
    rw [pk_sub hle]
    refine pk_eq j 0 (fun h => ?_) (fun h => ?_) rfl rfl (by omega) (by omega)
    · rw [show (0 : Int32) = nI 0 from rfl, nI_add]; rw [he, h] at hq; exact hq
    · rw [nI_1]; rw [he, show j = 1 by omega] at hq; exact hq
  unfold wp_Mo_needed wp_Mo_needed_34
  rw [show grf (30, 0) 14 = (40, 0) from rfl, show grf (30, 0) 17 = (43, 0) from rfl, hL.2.2.2.2.1, hL.2.2.2.2.2.2.2.1, nI_clamp (by omega), a2, c3, show (64 : Int32) = nI 64 from rfl, pk_rem (by omega) (by omega) (by omega), pk_div (by omega) (by omega) (by omega)]
  have hin : vp_in (nI f) 32 := vp_in_nI (by omega) (by omega)
  have hin2 : vp_in (nI f) 16 := vp_in_nI (by omega) (by omega)
  refine ⟨hin, pk_eq (F.sz f % 64) 0 (fun h => e35 0 (by omega) ?_) (fun h => ⟨hin, hin2, pk_le (F.sh f) (F.sz f / 64) (fun h2 => e35 0 (by omega) ?_) (fun h2 => e35 1 (by omega) ?_) rfl rfl (by omega) (by omega)⟩) rfl rfl (by omega) (by omega)⟩
  · unfold dkNd; rw [if_neg (by omega)]
  · unfold dkNd; rw [if_neg (by omega)]
  · unfold dkNd; rw [if_pos ⟨h, h2⟩]
theorem rf_hasRoom {Ln : gI → Nat} {M : Nat} {F : gF} {S : gS} {Q : Int32 → gS → Prop} {f n : Nat} {v w : Int32} (hL : rfL Ln) (hF : rfF F S) (hl : S.1 (30, 0) 1 = nI M) (hM : M ≤ 1024) (hu : dkSum (dkW F) 16 ≤ M) (hf : f < 16) (hv : v = nI f) (hw : w = nI n) (hn : n < 2 ^ 20)
    (h1 : dkP (F.sz f + n) ≤ 400 → dkNd F f n ≤ dkU M F → Q 1 S) (h0 : ¬ (dkP (F.sz f + n) ≤ 400 ∧ dkNd F f n ≤ dkU M F) → Q 0 S) : wp_Mo_hasRoom Ln Q (30, 0) v w S := by
  subst hv hw
  have hF' := hF
  obtain ⟨f1, f2⟩ := hF'
  obtain ⟨a1, -, a2, -⟩ := f1 f (by omega)
  have hb : dkP (F.sz f + n) < 2 ^ 16 := by unfold dkP; omega
  have hnd : dkNd F f n < 2 ^ 17 := by unfold dkNd; split <;> omega
  unfold wp_Mo_hasRoom
  rw [show grf (30, 0) 14 = (40, 0) from rfl, hL.2.2.2.2.1, nI_clamp (by omega), a2, nI_add]
  refine ⟨vp_in_nI (by omega) (by omega), rf_pages rfl (by omega) (pk_lt 400 (dkP (F.sz f + n)) (fun h => h0 (by omega)) (fun h => rf_needed hL hF hf rfl rfl hn (rf_pagesUsed hL hF ?_)) rfl rfl (by omega) (by omega))⟩
  rw [hl, pk_sub hu]
  exact pk_lt (M - dkSum (dkW F) 16) (dkNd F f n) (fun h2 => h0 (by unfold dkU; omega)) (fun h2 => h1 h (by unfold dkU; omega)) rfl rfl (by omega) (by omega)
theorem rf_hasRoomAnew {Ln : gI → Nat} {M : Nat} {F : gF} {S : gS} {Q : Int32 → gS → Prop} {f n : Nat} {v w : Int32} (hL : rfL Ln) (hF : rfF F S) (hl : S.1 (30, 0) 1 = nI M) (hM : M ≤ 1024) (hu : dkSum (dkW F) 16 ≤ M) (hf : f < 16) (hv : v = nI f) (hw : w = nI n) (hn : n < 2 ^ 20)
    (h1 : dkP n ≤ 400 → dkP n ≤ dkU M F + (dkP (F.sz f) - F.sh f) → Q 1 S) (h0 : ¬ (dkP n ≤ 400 ∧ dkP n ≤ dkU M F + (dkP (F.sz f) - F.sh f)) → Q 0 S) : wp_Mo_hasRoomAnew Ln Q (30, 0) v w S := by
  subst hv hw
  have hF' := hF
  obtain ⟨f1, f2⟩ := hF'
  obtain ⟨a1, -, a2, -⟩ := f1 f (by omega)
  obtain ⟨-, c1, c2, -, c3⟩ := f2 f hf
  have hb : dkP (F.sz f) < 2 ^ 16 := by unfold dkP; omega
  have hb2 : dkP n < 2 ^ 16 := by unfold dkP; omega
  unfold wp_Mo_hasRoomAnew
  rw [show grf (30, 0) 14 = (40, 0) from rfl, show grf (30, 0) 17 = (43, 0) from rfl, hL.2.2.2.2.1, hL.2.2.2.2.2.2.2.1, nI_clamp (by omega)]
  refine rf_pagesUsed hL hF ⟨vp_in_nI (by omega) (by omega), rf_pages a2 (by omega) ⟨vp_in_nI (by omega) (by omega), ?_⟩⟩
  rw [hl, pk_sub hu, nI_add, c3, pk_sub (by omega)]
  rintro _ rfl
  refine rf_pages rfl (by omega) (pk_lt 400 (dkP n) (fun h => h0 (by omega)) (fun h => rf_pages rfl (by omega) ?_) rfl rfl (by omega) (by omega))
  exact pk_lt (M - dkSum (dkW F) 16 + dkP (F.sz f) - F.sh f) (dkP n) (fun h2 => h0 (by unfold dkU; omega)) (fun h2 => h1 h (by unfold dkU; omega)) rfl rfl (by omega) (by omega)
