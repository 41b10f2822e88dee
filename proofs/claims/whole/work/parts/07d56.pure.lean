theorem INV.up {Ln : gI → Nat} {n : Nat} {S : gS} (h : INV Ln n S) (hn : n < 513) : INV Ln (n + 1) S := by
  obtain ⟨M, fc, F, tp, tm, vo, ti, vf, fh, sf, bs, bt, cd, la, di, od, fo, ei, kp, sl, T, nf, us, ri, en, hL, hc, hr, h1, h2, h3, h4, h5, h6⟩ := h
  exact ⟨M, fc, F, tp, tm, vo, ti, vf, fh, sf, bs, bt, cd, la, di, od, fo, ei, kp, sl, T, nf, us, ri, en, hL, hc, hr, h1.up hn, h2, h3.up, h4, h5, h6⟩
theorem nI_sub4 {L : Nat} (h : L < 2 ^ 31) : (nI L - 4).toInt = (L : Int) - 4 := by
  rw [Int32.toInt_sub, nI_toInt h, show (4 : Int32).toInt = 4 from by decide]
  have := Int.bmod_def ((L : Int) - 4) (2 ^ 32)
  omega
theorem law_loop {Ln : gI → Nat} {L : Nat} {xs : Nat → Int32} (hLL : L ≤ 2050) : ∀ (m n : Nat) (S : gS), n + m = 513 → INV Ln n S → wp_Law_loop Ln L xs (m + 1) (0, 0) (30, 0) (60, 0) (nI (2 + 4 * n)) S
  | 0, n, S, hm, h => by
    unfold wp_Law_loop
    refine br_t ?_ trivial
    show nI L - 4 < nI (2 + 4 * n)
    rw [i32_lt, nI_sub4 (by omega), nI_toInt (by omega)]
    omega
  | m + 1, n, S, hm, h => by
    unfold wp_Law_loop
    refine ⟨fun _ => trivial, fun hge => ?_⟩
    have hle : 2 + 4 * n + 4 ≤ L := by
      have hge' : ¬ nI L - 4 < nI (2 + 4 * n) := hge
      rw [i32_lt, nI_sub4 (by omega), nI_toInt (by omega)] at hge'
      omega
    have hK : ∀ S', INV Ln (n + 1) S' → ∀ v : Int32, v = nI (2 + 4 * n) + 4 → wp_Law_loop Ln L xs (m + 1) (0, 0) (30, 0) (60, 0) v S' := by
      rintro S' h' _ rfl
      rw [show (4 : Int32) = nI 4 from rfl, nI_add, show 2 + 4 * n + 4 = 2 + 4 * (n + 1) by omega]
      exact law_loop hLL m (n + 1) S' (by omega) h'
    have hn : n < 513 := by omega
    have v0 : vp_in (nI (2 + 4 * n)) L := vp_in_nI (by omega) (by omega)
    have v1 : vp_in (nI (2 + 4 * n) + 1) L := by rw [show (1 : Int32) = nI 1 from rfl, nI_add]; exact vp_in_nI (by omega) (by omega)
    have v2 : vp_in (nI (2 + 4 * n) + 2) L := by rw [show (2 : Int32) = nI 2 from rfl, nI_add]; exact vp_in_nI (by omega) (by omega)
    have v3 : vp_in (nI (2 + 4 * n) + 3) L := by rw [show (3 : Int32) = nI 3 from rfl, nI_add]; exact vp_in_nI (by omega) (by omega)
    generalize nI (2 + 4 * n) = a at *
    simp only [eq_true v0, eq_true v1, eq_true v2, eq_true v3, true_and]
    exact ⟨fun _ => hK S (h.up hn), fun _ => p_feed h hn hK, fun _ => p_save h hn hK, fun _ => p_append h hn hK, fun _ => p_cutFrom h hn hK, fun _ => p_compact h hn hK, fun _ => p_take h hn hK, fun _ => p_sync h hn hK, fun _ => p_keep h hn hK, fun _ => p_crash h hn hK, fun _ => p_state h hn hK, fun _ => p_entry h hn hK, fun _ => p_contentAt h hn hK, fun _ => p_snapshotAt h hn hK, fun _ => p_segment h hn hK, fun _ => p_file h hn hK, fun _ => p_byteAt h hn hK⟩
