/-! feed -/
theorem cr_t {c A B : Prop} (h : c) (b : B) : (¬ c → A) ∧ (c → B) := ⟨fun z => absurd h z, fun _ => b⟩
theorem cr_f {c A B : Prop} (h : ¬ c) (a : A) : (¬ c → A) ∧ (c → B) := ⟨fun _ => a, fun z => absurd z h⟩
theorem i32_lt {x y : Int32} : x < y ↔ x.toInt < y.toInt := Int32.lt_iff_toInt_lt
theorem i32_le {x y : Int32} : x ≤ y ↔ x.toInt ≤ y.toInt := Int32.le_iff_toInt_le
theorem i32_nlt {x y : Int32} : ¬ x < y ↔ y ≤ x := by rw [i32_lt, i32_le]; omega
theorem c_feed {Ln : gI → Nat} {M : Nat} {tp : List Nat} {S : gS} {x : Int64} {n : Int32} {Q : Int32 → gS → Prop} {X : String → gS → Prop} (hL : aL Ln M) (hT : cT tp S)
    (h1 : n < 1 ∨ 8 < n → X "java/lang/IllegalArgumentException" S)
    (h2 : ∀ m, n = nI m → 1 ≤ m → m ≤ 8 → 4096 < tp.length + m → X "java/lang/IllegalStateException" S)
    (h0 : ∀ m S', n = nI m → 1 ≤ m → m ≤ 8 → tp.length + m ≤ 4096 → cT (tp ++ dkBs x m) S' → (∀ i : gI, i.1 ≠ 12 → i.1 ≠ 13 → S'.1 i = S.1 i) → S'.2 = S.2 → Q (nI (tp.length + m)) S') : wp_LogDisk_feed Ln Q X (0, 0) x n S := by
  obtain ⟨t1, t2, t3⟩ := hT
  unfold wp_LogDisk_feed
  refine ⟨fun h => h1 (Or.inl h), fun hn1 => ⟨fun hn8 => ?_, fun hn8 => h1 (Or.inr ?_)⟩⟩
  · obtain ⟨m, hm, rfl⟩ := nI_of2 (M := 8) (n := 8) (by decide) (x := n) (by rw [i32_lt] at hn1 ⊢; have : (1 : Int32).toInt = 1 := (by decide); have : (0 : Int32).toInt = 0 := (by decide); omega) hn8
    have hm1 : 1 ≤ m := by
      rcases Nat.eq_zero_or_pos m with e | e
      · subst e; exact absurd (by decide) hn1
      · exact e
    rw [show grf (0, 0) 3 = (12, 0) from rfl, t1, show (4096 : Int32) = nI 4096 from rfl, pk_sub (by omega)]
    refine pk_le tp.length (4096 - m) (fun h => ?_) (fun h => h2 m rfl hm1 hm (by omega)) rfl rfl (by omega) (by omega)
    have key := pk_loop (fun fu k S' => wp_LogDisk_feed_49 Ln Q X fu (0, 0) x (nI m) (nI k) S')
      (fun k S' => k ≤ m ∧ cT (tp ++ dkBs x k) S' ∧ (∀ i : gI, i.1 ≠ 12 → i.1 ≠ 13 → S'.1 i = S.1 i) ∧ S'.2 = S.2) m 0 S (Nat.zero_le _) ⟨Nat.zero_le _, ?_, fun _ _ _ => rfl, rfl⟩ ?_ ?_
    · exact key
    · rw [show dkBs x 0 = [] from rfl, List.append_nil]; exact ⟨t1, t2, t3⟩
    · rintro fu S' ⟨-, hT', ho, h2'⟩
      unfold wp_LogDisk_feed_49
      refine br_t (nI_le (Nat.le_refl _) (by omega)) ?_
      have e := hT'.1
      rw [List.length_append, dkBs_len] at e
      rw [show grf (0, 0) 3 = (12, 0) from rfl, e]
      exact h0 m S' rfl hm1 hm (by omega) hT' ho h2'
    · rintro fu k S' hk ⟨-, hT', ho, h2'⟩ ih
      unfold wp_LogDisk_feed_49
      have e := hT'.1
      rw [List.length_append, dkBs_len] at e
      rw [show grf (0, 0) 3 = (12, 0) from rfl, show grf (12, 0) 0 = (13, 0) from rfl, e, nI_clamp (by omega), hL.2.2.2.2.1]
      refine br_f (nI_ge hk (by omega)) ⟨vp_in_nI (by omega) (by omega), ?_⟩
      rintro _ rfl _ rfl _ rfl
      rw [gset_o (by simp), e, nI_1, nI_1]
      have hB := isB_put x (show k < 8 by omega)
      have hlen : (tp ++ dkBs x (k + 1)).length = tp.length + k + 1 := by rw [List.length_append, dkBs_len]; omega
      refine ih _ ⟨by omega, ⟨?_, ?_, ?_⟩, ?_, h2'⟩
      · rw [gset_s, hlen]
      · omega
      · intro j hj
        rw [hlen] at hj
        rw [gset_o (by simp)]
        by_cases e2 : j = tp.length + k
        · subst e2
          rw [gset_s, getD_app_r (by omega), dkBs_at (by omega), show tp.length + k - tp.length = k by omega]
          exact hB
        · rw [gset_n (Or.inr e2)]
          have := hT'.2.2 j (by rw [List.length_append, dkBs_len]; omega)
          by_cases e3 : j < tp.length
          · rw [getD_app_l e3] at this ⊢; exact this
          · rw [getD_app_r (by omega), dkBs_at (by omega)] at this ⊢; exact this
      · intro i h12 h13
        rw [gset_o (by rintro rfl; simp at h12), gset_o (by rintro rfl; simp at h13)]
        exact ho i h12 h13
  · rw [i32_le] at hn8; rw [i32_lt]; omega
theorem rf_within {Ln : gI → Nat} {S : gS} {v a b : Int32} {Q : Int32 → gS → Prop} (h1 : a ≤ v → v ≤ b → Q 1 S) (h0 : v < a ∨ b < v → Q 0 S) : wp_Mo_within Ln Q v a b S := by
  unfold wp_Mo_within
  refine ⟨fun h => h0 (Or.inl h), fun h => ⟨fun h2 => h0 (Or.inr h2), fun h2 => h1 (i32_nlt.1 h) (i32_nlt.1 h2)⟩⟩
theorem r_feed {Ln : gI → Nat} {M : Nat} {tp : List Nat} {S : gS} {x : Int64} {n : Int32} {Q : Int32 → gS → Prop} (hL : aL Ln M) (hT : rT tp S)
    (h1 : n < 1 ∨ 8 < n → Q 0 (gset (gset S (30, 0) 0 0) (30, 0) 0 1))
    (h2 : ∀ m, n = nI m → 1 ≤ m → m ≤ 8 → 4096 < tp.length + m → Q 0 (gset (gset S (30, 0) 0 0) (30, 0) 0 2))
    (h0 : ∀ m S', n = nI m → 1 ≤ m → m ≤ 8 → tp.length + m ≤ 4096 → rT (tp ++ dkBs x m) S' → S'.1 (30, 0) 0 = 0 → (∀ i : gI, i.1 ≠ 30 → i.1 ≠ 47 → S'.1 i = S.1 i) → (∀ k, k ≠ 0 → k ≠ 33 → S'.1 (30, 0) k = S.1 (30, 0) k) → S'.2 = S.2 → Q (nI (tp.length + m)) S') : wp_Mo_feed Ln Q (30, 0) x n S := by
  obtain ⟨t1, t2, t3⟩ := hT
  unfold wp_Mo_feed
  rintro _ rfl
  refine rf_within (fun ha hb => cr_f (by decide) ?_) (fun h => cr_t rfl ?_)
  · obtain ⟨m, hm, rfl⟩ := nI_of2 (M := 8) (n := 8) (by decide) (x := n) (by rw [i32_lt]; rw [i32_le] at ha; have : (1 : Int32).toInt = 1 := (by decide); have : (0 : Int32).toInt = 0 := (by decide); omega) hb
    have hm1 : 1 ≤ m := by
      rcases Nat.eq_zero_or_pos m with e | e
      · subst e; exact absurd ha (by decide)
      · exact e
    have e33 : (gset S (30, 0) 0 0).1 (30, 0) 33 = nI tp.length := by rw [gset_n (Or.inr (by omega))]; exact t1
    rw [e33, nI_add]
    refine pk_le (tp.length + m) 4096 (fun h => ?_) (fun h => ?_) rfl rfl (by omega) (by omega)
    · have key := pk_loop (fun fu k S' => wp_Mo_feed_42 Ln Q fu (30, 0) x (nI m) (nI k) S')
        (fun k S' => k ≤ m ∧ S'.1 (30, 0) = (gset S (30, 0) 0 0).1 (30, 0) ∧ rfB (tp ++ dkBs x k) S' ∧ (∀ i : gI, i.1 ≠ 47 → S'.1 i = (gset S (30, 0) 0 0).1 i) ∧ S'.2 = S.2) m 0 (gset S (30, 0) 0 0) (Nat.zero_le _) ⟨Nat.zero_le _, rfl, ?_, fun _ _ => rfl, rfl⟩ ?_ ?_
      · exact key
      · rw [show dkBs x 0 = [] from rfl, List.append_nil]
        refine ⟨t2, fun k hk => ?_⟩
        rw [gset_o (by simp)]; exact t3 k hk
      · rintro fu S' ⟨-, e0, hB, ho, h2'⟩
        unfold wp_Mo_feed_42
        refine br_t (nI_le (Nat.le_refl _) (by omega)) ?_
        rw [e0, e33, nI_add]
        rintro _ rfl
        rw [gset_s]
        refine h0 m _ rfl hm1 hm h ⟨?_, ?_, ?_⟩ ?_ ?_ ?_ h2'
        · rw [gset_s, List.length_append, dkBs_len]
        · exact hB.1
        · intro k hk; rw [gset_o (by simp)]; exact hB.2 k hk
        · rw [gset_n (Or.inr (by omega)), e0, gset_s]
        · intro i hi h47
          rw [gset_o (by rintro rfl; simp at hi), ho i h47, gset_o (by rintro rfl; simp at hi)]
        · intro k hk hk2
          rw [gset_n (Or.inr hk2), e0, gset_n (Or.inr hk)]
      · rintro fu k S' hk ⟨-, e0, hB, ho, h2'⟩ ih
        unfold wp_Mo_feed_42
        refine br_f (nI_ge hk (by omega)) (rf_byteOf rfl (by omega) ?_)
        rw [e0, e33, nI_add, show grf (30, 0) 34 = (47, 0) from rfl, hL.2.1.2.2.2.2.2.2.2.2.2.2.2, nI_clamp (by omega)]
        refine ⟨vp_in_nI (by omega) (by omega), ?_⟩
        rintro _ rfl _ rfl
        rw [nI_1]
        have hlen : (tp ++ dkBs x (k + 1)).length = tp.length + k + 1 := by rw [List.length_append, dkBs_len]; omega
        refine ih _ ⟨by omega, ?_, ⟨by omega, ?_⟩, ?_, h2'⟩
        · rw [gset_o (by simp)]; exact e0
        · intro j hj
          rw [hlen] at hj
          by_cases e2 : j = tp.length + k
          · subst e2
            rw [gset_s, getD_app_r (by omega), dkBs_at (by omega), show tp.length + k - tp.length = k by omega]
            exact ⟨dkBy_lt _ _, rfl⟩
          · rw [gset_n (Or.inr e2)]
            have := hB.2 j (by rw [List.length_append, dkBs_len]; omega)
            by_cases e3 : j < tp.length
            · rw [getD_app_l e3] at this ⊢; exact this
            · rw [getD_app_r (by omega), dkBs_at (by omega)] at this ⊢; exact this
        · intro i h47
          rw [gset_o (by rintro rfl; simp at h47)]; exact ho i h47
    · unfold wp_Mo_fail
      rintro _ rfl
      exact h2 m rfl hm1 hm h
  · unfold wp_Mo_fail
    rintro _ rfl
    exact h1 h
