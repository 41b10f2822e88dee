/-- one file -/
theorem dkf1 {f : Nat} (hf : f < 16) : grf (1, f) 1 = dkN f := (dkN_n hf).symm
theorem dkf2 {f : Nat} : grf (1, f) 2 = dkN (16 + f) := (dkN_s f).symm
theorem dkf0 {f : Nat} : grf (1, f) 0 = (6, 0) := rfl
theorem dk_isShared {Ln : gI → Nat} {M : Nat} {F : gF} {S : gS} {f k : Nat} {v : Int32} {Q : Int32 → gS → Prop} (hL : dkL Ln M) (hd : dk M F S) (hf : f < 16) (hv : v = nI k) (hk : k < 2 ^ 30)
    (h1 : k < F.sh f → Q 1 S) (h0 : F.sh f ≤ k → Q 0 S) : wp_DiskFile_isShared Ln Q (1, f) v S := by
  subst hv
  have hz := dk_sz hd hL.2.1 (show f < 32 by omega)
  have hz2 := dk_sz hd hL.2.1 (show 16 + f < 32 by omega)
  obtain ⟨pg, ow, un, uc, m, i, hN, hff, hb, hfit, hs⟩ := hd
  have hM4 := hL.2.1
  unfold wp_DiskFile_isShared wp_LogDisk_pagesFor
  dsimp only
  rw [dkf1 hf, dkf2, dkN_rf, dkN_rf, (hN f (by omega)).1, (hN (16 + f) (by omega)).1, dkP_i (by omega), dkP_i (by omega), hL.2.2.2.2.2 _ (show f < 32 by omega), hL.2.2.2.2.2 _ (show 16 + f < 32 by omega), nI_clamp (by omega)]
  obtain ⟨-, g1, g2, g3⟩ := hff f hf
  refine br_f (nI_pos (by omega)) ?_
  refine pk_le (dkP (F.sz f)) k (fun h => h0 (by omega)) (fun h => ?_) rfl rfl (by omega) (by omega)
  refine pk_le (dkP (F.sz (16 + f))) k (fun h => h0 (by omega)) (fun h2 => ?_) rfl rfl (by omega) (by omega)
  refine ⟨vp_in_nI (by omega) (by omega), vp_in_nI (by omega) (by omega), ?_⟩
  rw [m.1 f k (by omega) (by omega), m.1 (16 + f) k (by omega) (by omega)]
  have p1 := (i.2.2.2.1 f k ⟨by omega, h⟩).2.2
  have p2 := (i.2.2.2.1 (16 + f) k ⟨by omega, h2⟩).2.2
  have e := g3 k h h2
  rw [nI_eq (by omega) (by omega)]
  exact ⟨fun z => h0 (by have := fun q => z (e.2 q).symm; omega), fun z => h1 (e.1 z.symm)⟩
/-- whether the last page is shared and begun -/
def dkC (F : gF) (f : Nat) : Prop := F.sz f % 64 ≠ 0 ∧ F.sz f / 64 < F.sh f
theorem dk_mustCopy {Ln : gI → Nat} {M : Nat} {F : gF} {S : gS} {f : Nat} {Q : Int32 → gS → Prop} (hL : dkL Ln M) (hd : dk M F S) (hf : f < 16)
    (h1 : dkC F f → Q 1 S) (h0 : ¬ dkC F f → Q 0 S) : wp_DiskFile_mustCopyLastPage Ln Q (1, f) S := by
  have hz := dk_sz hd hL.2.1 (show f < 32 by omega)
  have hN : S.1 (dkN f) 2 = nI (F.sz f) := by
    obtain ⟨pg, ow, un, uc, m, i, hN, -⟩ := hd
    exact (hN f (by omega)).1
  unfold wp_DiskFile_mustCopyLastPage
  rw [dkf1 hf, hN, show (64 : Int32) = nI 64 from rfl, pk_rem (by omega) (by omega) (by omega), pk_div (by omega) (by omega) (by omega)]
  refine pk_eq (F.sz f % 64) 0 (fun h => h0 fun z => z.1 h) (fun h => ?_) rfl rfl (by omega) (by omega)
  refine dk_isShared hL hd hf rfl (by omega) (fun h2 => br_f (by decide) (h1 ⟨h, h2⟩)) (fun h2 => br_t rfl (h0 fun z => ?_))
  have := z.2; omega
def dkU (M : Nat) (F : gF) : Nat := M - dkSum (dkW F) 16
theorem dk_uc {M : Nat} {F : gF} {S : gS} (hd : dk M F S) : S.1 (6, 0) 3 = nI (dkU M F) ∧ dkU M F + dkSum (dkW F) 16 = M := by
  obtain ⟨pg, ow, un, uc, m, i, hN, hff, hb, hfit, hs⟩ := hd
  unfold dkU
  rw [show M - dkSum (dkW F) 16 = uc by omega]
  exact ⟨m.2.2.2, hs⟩
theorem dk_size {M : Nat} {F : gF} {S : gS} (hd : dk M F S) {c : Nat} (hc : c < 32) : S.1 (dkN c) 2 = nI (F.sz c) ∧ S.1 (dkN c) 1 = nI (F.th c) ∧ F.th c ≤ 1 := by
  obtain ⟨pg, ow, un, uc, m, i, hN, -⟩ := hd
  exact hN c hc
theorem dk_low {M : Nat} {F : gF} {S : gS} (hd : dk M F S) {f : Nat} (hf : f < 16) : S.1 (1, f) 3 = nI (F.lo f) ∧ F.sh f ≤ dkP (F.sz f) ∧ F.sh f ≤ dkP (F.sz (16 + f)) := by
  obtain ⟨pg, ow, un, uc, m, i, hN, hff, -⟩ := hd
  exact ⟨(hff f hf).1, (hff f hf).2.1, (hff f hf).2.2.1⟩
/-- pages that n bytes more need -/
def dkNd (F : gF) (f n : Nat) : Nat := dkP (F.sz f + n) - dkP (F.sz f) + (if F.sz f % 64 ≠ 0 ∧ F.sz f / 64 < F.sh f then 1 else 0)
theorem dk_canExtend {Ln : gI → Nat} {M : Nat} {F : gF} {S : gS} {f n : Nat} {v : Int32} {Q : Int32 → gS → Prop} (hL : dkL Ln M) (hd : dk M F S) (hf : f < 16) (hv : v = nI n) (hn : n < 2 ^ 29)
    (h1 : dkP (F.sz f + n) ≤ 400 → dkNd F f n ≤ dkU M F → Q 1 S) (h0 : ¬ (dkP (F.sz f + n) ≤ 400 ∧ dkNd F f n ≤ dkU M F) → Q 0 S) : wp_DiskFile_canExtend Ln Q (1, f) v S := by
  subst hv
  have hz := dk_sz hd hL.2.1 (show f < 32 by omega)
  have hN := (dk_size hd (show f < 32 by omega)).1
  have hu := dk_uc hd
  have hM4 := hL.2.1
  have hp1 : dkP (F.sz f + n) < 2 ^ 30 := by unfold dkP; omega
  have hp2 : dkP (F.sz f) ≤ dkP (F.sz f + n) := dkP_le (by omega)
  unfold wp_DiskFile_canExtend wp_LogDisk_pagesFor
  dsimp only
  rw [dkf1 hf, hN, nI_add, dkP_i (by omega), dkP_i (by omega), pk_sub hp2]
  have fin : ∀ j, j ≤ 1 → dkNd F f n = dkP (F.sz f + n) - dkP (F.sz f) + j → wp_DiskFile_canExtend_37 Ln Q (1, f) (nI (dkP (F.sz f + n))) (nI (dkP (F.sz f + n) - dkP (F.sz f))) (nI j) S := by
    intro j hj he
    unfold wp_DiskFile_canExtend_37
    rw [nI_add, dkf0, hu.1]
    rintro _ rfl
    refine pk_lt 400 (dkP (F.sz f + n)) (fun h => h0 fun z => by omega) (fun h => ?_) rfl rfl (by omega) (by omega)
    refine pk_lt (dkU M F) (dkP (F.sz f + n) - dkP (F.sz f) + j) (fun h2 => h0 fun z => by omega) (fun h2 => h1 h (by omega)) rfl rfl (by omega) (by omega)
  refine dk_mustCopy hL hd hf (fun h => br_f (by decide) (fin 1 (by omega) ?_)) (fun h => br_t rfl (fin 0 (by omega) ?_))
  · unfold dkNd; unfold dkC at h; rw [if_pos h]
  · unfold dkNd; unfold dkC at h; rw [if_neg h]
theorem dk_canRewrite {Ln : gI → Nat} {M : Nat} {F : gF} {S : gS} {f n : Nat} {v : Int32} {Q : Int32 → gS → Prop} (hL : dkL Ln M) (hd : dk M F S) (hf : f < 16) (hv : v = nI n) (hn : n < 2 ^ 29)
    (h1 : dkP n ≤ 400 → dkP n ≤ dkU M F + (dkP (F.sz f) - F.sh f) → Q 1 S) (h0 : ¬ (dkP n ≤ 400 ∧ dkP n ≤ dkU M F + (dkP (F.sz f) - F.sh f)) → Q 0 S) : wp_DiskFile_canRewrite Ln Q (1, f) v S := by
  subst hv
  have hz := dk_sz hd hL.2.1 (show f < 32 by omega)
  have hN := (dk_size hd (show f < 32 by omega)).1
  have hu := dk_uc hd
  have hM4 := hL.2.1
  have hp1 : dkP n < 2 ^ 30 := by unfold dkP; omega
  have hl := (dk_low hd hf).2.1
  unfold wp_DiskFile_canRewrite
  unfold wp_LogDisk_pagesFor
  dsimp only
  rw [dkf1 hf, hN, dkP_i (by omega)]
  refine pk_loop (fun m k S' => wp_DiskFile_canRewrite_16 Ln Q m (1, f) (nI n) (nI (k - F.sh f)) (nI (dkP (F.sz f))) (nI k) S') (fun k S' => S' = S) (dkP (F.sz f)) 0 S (Nat.zero_le _) rfl ?_ ?_ |> fun ⟨m, h⟩ => ⟨m, by rw [Nat.zero_sub] at h; exact h⟩
  · rintro m _ rfl
    unfold wp_DiskFile_canRewrite_16 wp_LogDisk_pagesFor
    dsimp only
    refine br_t (nI_le (Nat.le_refl _) (by omega)) ?_
    rw [dkP_i (by omega), dkf0, hu.1, nI_add]
    refine pk_lt 400 (dkP n) (fun h => h0 fun z => by omega) (fun h => ?_) rfl rfl (by omega) (by omega)
    refine pk_lt (dkU M F + (dkP (F.sz f) - F.sh f)) (dkP n) (fun h2 => h0 fun z => by omega) (fun h2 => h1 h (by omega)) rfl rfl (by omega) (by omega)
  · rintro m k _ hk rfl ih
    unfold wp_DiskFile_canRewrite_16
    refine br_f (nI_ge hk (by omega)) ?_
    refine dk_isShared hL hd hf rfl (by omega) (fun h => br_f (by decide) ?_) (fun h => br_t rfl ?_)
    · unfold wp_DiskFile_canRewrite_37
      rintro _ rfl _ rfl
      rw [nI_1]
      have := ih _ rfl
      rw [show k + 1 - F.sh f = k - F.sh f by omega] at this
      rw [show (0 : Int32) = nI 0 from rfl, nI_add]
      exact this
    · unfold wp_DiskFile_canRewrite_37
      rintro _ rfl _ rfl
      rw [nI_1, nI_1, show k - F.sh f + 1 = k + 1 - F.sh f by omega]
      exact ih _ rfl
