/-- a frame: sort, three numbers, bytes -/
abbrev gFr : Type := Nat × Int32 × Int32 × Int32 × List Nat
abbrev gFr.so (r : gFr) : Nat := r.1
abbrev gFr.a (r : gFr) : Int32 := r.2.1
abbrev gFr.b (r : gFr) : Int32 := r.2.2.1
abbrev gFr.c (r : gFr) : Int32 := r.2.2.2.1
abbrev gFr.d (r : gFr) : List Nat := r.2.2.2.2
def frP (r : gFr) : List Nat :=
  if r.so = 0 then dkBs r.a.toInt64 8 ++ (dkBs r.b.toInt64 8 ++ dkBs r.c.toInt64 8)
  else if r.so = 1 then dkBs r.a.toInt64 4 ++ (dkBs r.b.toInt64 4 ++ dkBs r.c.toInt64 4)
  else if r.so = 2 then dkBs r.a.toInt64 8 ++ dkBs r.b.toInt64 8
  else dkBs r.a.toInt64 8 ++ (dkBs r.b.toInt64 8 ++ (dkBs r.c.toInt64 1 ++ r.d))
/-- a payload with its length and sum ahead -/
def frH (p : List Nat) : List Nat := dkBs (lN p.length) 4 ++ (dkBs (dkSm p 0 p.length ^^^ (-1 : Int32)).toInt64 4 ++ p)
def frE (r : gFr) : List Nat := frH (frP r) ++ (if r.so = 1 then r.d else [])
theorem frH_len (p : List Nat) : (frH p).length = 8 + p.length := by
  unfold frH; rw [List.length_append, List.length_append, dkBs_len, dkBs_len]; omega
theorem frP_len (r : gFr) : (frP r).length = if r.so = 0 then 24 else if r.so = 1 then 12 else if r.so = 2 then 16 else 17 + r.d.length := by
  unfold frP
  split
  · rw [List.length_append, List.length_append, dkBs_len, dkBs_len, dkBs_len]
  · split
    · rw [List.length_append, List.length_append, dkBs_len, dkBs_len, dkBs_len]
    · split
      · rw [List.length_append, dkBs_len, dkBs_len]
      · rw [List.length_append, List.length_append, List.length_append, dkBs_len, dkBs_len, dkBs_len]; omega
theorem frE_len (r : gFr) : (frE r).length = 8 + (frP r).length + (if r.so = 1 then r.d.length else 0) := by
  unfold frE; rw [List.length_append, frH_len]
  split <;> rfl
/-! the class's frame -/
def fX (S S' : gS) : Prop := S'.2 = S.2 ∧ ∀ i : gI, i.1 ≠ 14 → i.1 ≠ 15 → S'.1 i = S.1 i
theorem fX.rf (S : gS) : fX S S := ⟨rfl, fun _ _ _ => rfl⟩
theorem fX.tr {S S1 S2 : gS} (a : fX S S1) (b : fX S1 S2) : fX S S2 := ⟨b.1.trans a.1, fun i h h2 => (b.2 i h h2).trans (a.2 i h h2)⟩
theorem fX.set {S : gS} {i : gI} {k : Nat} {v : Int32} (h : i.1 = 14 ∨ i.1 = 15) : fX S (gset S i k v) := by
  refine ⟨rfl, fun j h1 h2 => gset_o ?_⟩
  intro e; subst e; omega
def fmB (S : gS) (p : Nat) (b : Nat) : Prop := isB (S.1 (15, 0) p) b ∧ fits .byte (.int (S.1 (15, 0) p)) = true
theorem fr_put {Ln : gI → Nat} {S : gS} {at_ n : Nat} {x : Int64} {v w : Int32} {Q : gS → Prop} (hl : Ln (15, 0) = 4121) (hv : v = nI at_) (hw : w = nI n) (hn : n ≤ 8) (ha : at_ + n ≤ 4121)
    (hq : ∀ S', fX S S' → S'.1 (14, 0) = S.1 (14, 0) → (∀ k, k < n → fmB S' (at_ + k) (dkBy x k)) → (∀ j, j < at_ ∨ at_ + n ≤ j → S'.1 (15, 0) j = S.1 (15, 0) j) → Q S') : wp_Frame_put Ln Q (14, 0) v x w S := by
  subst hv hw
  unfold wp_Frame_put
  refine pk_loop (fun m k S' => wp_Frame_put_3 Ln Q m (14, 0) (nI at_) x (nI n) (nI k) S')
    (fun k S' => fX S S' ∧ S'.1 (14, 0) = S.1 (14, 0) ∧ (∀ j, j < k → fmB S' (at_ + j) (dkBy x j)) ∧ (∀ j, j < at_ ∨ at_ + k ≤ j → S'.1 (15, 0) j = S.1 (15, 0) j)) n 0 S (Nat.zero_le _) ⟨fX.rf S, rfl, fun j h => by omega, fun _ _ => rfl⟩ ?_ ?_
  · rintro m S' ⟨h1, h2, h3, h4⟩
    unfold wp_Frame_put_3
    exact br_t (nI_le (Nat.le_refl _) (by omega)) (hq S' h1 h2 h3 h4)
  · rintro m k S' hk ⟨h1, h2, h3, h4⟩ ih
    unfold wp_Frame_put_3
    rw [show grf (14, 0) 0 = (15, 0) from rfl, hl, nI_add, nI_clamp (by omega)]
    refine br_f (nI_ge hk (by omega)) ⟨vp_in_nI (by omega) (by omega), ?_⟩
    rintro _ rfl _ rfl
    rw [nI_1]
    have hB := isB_put x (show k < 8 by omega)
    refine ih _ ⟨h1.tr (fX.set (by simp)), ?_, ?_, ?_⟩
    · rw [gset_o (by simp)]; exact h2
    · intro j hj
      unfold fmB
      by_cases e : j = k
      · subst e; rw [gset_s]; exact hB
      · rw [gset_n (Or.inr (by omega))]; exact h3 j (by omega)
    · intro j hj
      rw [gset_n (Or.inr (by omega))]
      exact h4 j (by omega)
/-- the frame is being put together: these bytes so far -/
def fm (S : gS) (bs : List Nat) : Prop := S.1 (14, 0) 1 = nI (8 + bs.length) ∧ ∀ i, i < bs.length → fmB S (8 + i) (bs.getD i 0)
theorem fr_begin {Ln : gI → Nat} {S : gS} {Q : gS → Prop} (hq : ∀ S', fX S S' → fm S' [] → Q S') : wp_Frame_begin Ln Q (14, 0) S := by
  unfold wp_Frame_begin
  rintro _ rfl
  exact hq _ (fX.set (by simp)) ⟨by rw [gset_s]; rfl, fun i h => absurd h (Nat.not_lt_zero _)⟩
theorem getD_app_l {as bs : List Nat} {i : Nat} (h : i < as.length) : (as ++ bs).getD i 0 = as.getD i 0 := by
  rw [List.getD_eq_getElem?_getD, List.getElem?_append_left h, ← List.getD_eq_getElem?_getD]
theorem getD_app_r {as bs : List Nat} {i : Nat} (h : as.length ≤ i) : (as ++ bs).getD i 0 = bs.getD (i - as.length) 0 := by
  rw [List.getD_eq_getElem?_getD, List.getElem?_append_right h, ← List.getD_eq_getElem?_getD]
theorem fr_add {Ln : gI → Nat} {S : gS} {n : Nat} {x : Int64} {w : Int32} {bs : List Nat} {Q : gS → Prop} (hl : Ln (15, 0) = 4121) (hw : w = nI n) (hn : n ≤ 8) (hf : fm S bs) (ha : 8 + bs.length + n ≤ 4121)
    (hq : ∀ S', fX S S' → fm S' (bs ++ dkBs x n) → Q S') : wp_Frame_add Ln Q (14, 0) x w S := by
  subst hw
  unfold wp_Frame_add
  rw [show grf (14, 0) 0 = (15, 0) from rfl, hl, hf.1, show Int32.ofNat 4121 = nI 4121 from rfl, pk_sub (by omega)]
  refine br_f (nI_nlt (by omega) (by omega)) ?_
  refine fr_put hl rfl rfl hn (by omega) ?_
  intro S1 h1 h2 h3 h4
  rintro _ rfl
  rw [h2, hf.1, nI_add]
  refine hq _ (h1.tr (fX.set (by simp))) ⟨?_, ?_⟩
  · rw [gset_s, List.length_append, dkBs_len]; congr 1; omega
  · intro i hi
    rw [List.length_append, dkBs_len] at hi
    unfold fmB
    rw [gset_o (by simp)]
    by_cases e : i < bs.length
    · rw [getD_app_l e, h4 _ (by omega)]
      exact hf.2 i e
    · rw [getD_app_r (by omega), dkBs_at (by omega)]
      have := h3 (i - bs.length) (by omega)
      rw [show 8 + bs.length + (i - bs.length) = 8 + i by omega] at this
      exact this
theorem fr_addBytes {Ln : gI → Nat} {S : gS} {n : Nat} {w : Int32} {src : gI} {bs ds : List Nat} {Q : gS → Prop} (hl : Ln (15, 0) = 4121) (hs : src.1 ≠ 15) (hw : w = nI n) (hd : ds.length = n) (hln : n ≤ Ln src) (hls : Ln src < 2 ^ 30) (hf : fm S bs) (ha : 8 + bs.length + n ≤ 4121)
    (hB : ∀ i, i < n → isB (S.1 src i) (ds.getD i 0) ∧ fits .byte (.int (S.1 src i)) = true)
    (hq : ∀ S', fX S S' → fm S' (bs ++ ds) → Q S') : wp_Frame_addBytes Ln Q (14, 0) src w S := by
  subst hw
  unfold wp_Frame_addBytes
  rw [show grf (14, 0) 0 = (15, 0) from rfl, hl, hf.1, show Int32.ofNat 4121 = nI 4121 from rfl, pk_sub (by omega), show (0 : Int32).toNatClampNeg = 0 from rfl, nI_clamp (by omega), nI_clamp (by omega)]
  refine br_f (nI_nlt (a := Ln src) (by omega) (by omega)) (br_f (nI_nlt (by omega) (by omega)) ⟨⟨by decide, nI_pos (by omega), nI_pos (by omega), by omega, by omega, fun a h => ?_⟩, ?_⟩)
  · rw [Nat.zero_add]; exact (hB a h).2
  rintro _ rfl _ rfl
  rw [gcpy_o (by simp), hf.1, nI_add]
  refine hq _ (fX.tr (S1 := gcpy S src 0 (15, 0) (8 + bs.length) n) ⟨rfl, fun i h1 h2 => gcpy_o (by rintro rfl; simp at h2)⟩ (fX.set (by simp))) ⟨?_, ?_⟩
  · rw [gset_s, List.length_append, hd]; congr 1; omega
  · intro i hi
    rw [List.length_append, hd] at hi
    unfold fmB
    rw [gset_o (by simp), gcpy_at]
    by_cases e : i < bs.length
    · rw [getD_app_l e, pk_cpy_out (by omega)]
      exact hf.2 i e
    · rw [getD_app_r (by omega), pk_cpy_in (by omega) (by omega), show 0 + (8 + i - (8 + bs.length)) = i - bs.length by omega]
      exact hB _ (by omega)
theorem fr_close {Ln : gI → Nat} {S : gS} {bs : List Nat} {Q : gS → Prop} (hl : Ln (15, 0) = 4121) (hf : fm S bs) (ha : 8 + bs.length ≤ 4121)
    (hq : ∀ S', fX S S' → S'.1 (14, 0) 1 = nI (frH bs).length → (∀ i, i < (frH bs).length → fmB S' i ((frH bs).getD i 0)) → Q S') : wp_Frame_close Ln Q (14, 0) S := by
  unfold wp_Frame_close
  have key := pk_loop (fun m k S' => wp_Frame_close_5 Ln Q m (14, 0) (dkSm bs 0 k) (nI (8 + k)) S') (fun k S' => S' = S) bs.length 0 S (Nat.zero_le _) rfl ?_ ?_
  · exact key
  · rintro m _ rfl
    unfold wp_Frame_close_5
    rw [hf.1]
    refine br_t (nI_le (Nat.le_refl _) (by omega)) ?_
    rw [show (8 : Int32) = nI 8 from rfl, pk_sub (by omega), nI_l (by omega), show 8 + bs.length - 8 = bs.length by omega]
    refine fr_put (at_ := 0) (n := 4) hl rfl rfl (by omega) (by omega) ?_
    intro S1 a1 a2 a3 a4
    refine fr_put (at_ := 4) (n := 4) hl rfl rfl (by omega) (by omega) ?_
    intro S2 b1 b2 b3 b4
    refine hq S2 (a1.tr b1) ?_ ?_
    · rw [b2, a2, hf.1, frH_len]
    · intro i hi
      rw [frH_len] at hi
      unfold frH
      by_cases e4 : i < 4
      · rw [getD_app_l (by rw [dkBs_len]; exact e4), dkBs_at e4]
        have := a3 i e4
        rw [Nat.zero_add] at this
        unfold fmB at this ⊢
        rw [b4 i (by omega)]
        exact this
      · rw [getD_app_r (by rw [dkBs_len]; omega), dkBs_len]
        by_cases e8 : i < 8
        · rw [getD_app_l (by rw [dkBs_len]; omega), dkBs_at (by omega)]
          have := b3 (i - 4) (by omega)
          rw [show 4 + (i - 4) = i by omega] at this
          exact this
        · rw [getD_app_r (by rw [dkBs_len]; omega), dkBs_len]
          have := hf.2 (i - 8) (by omega)
          rw [show 8 + (i - 8) = i by omega] at this
          unfold fmB at this ⊢
          rw [b4 i (by omega), a4 i (by omega), show i - 4 - 4 = i - 8 by omega]
          exact this
  · rintro m k _ hk rfl ih
    unfold wp_Frame_close_5
    rw [hf.1, show grf (14, 0) 0 = (15, 0) from rfl, hl, nI_clamp (by omega), (hf.2 k hk).1.1]
    refine br_f (nI_ge (by omega) (by omega)) ⟨vp_in_nI (by omega) (by omega), dk_sumStep ?_⟩
    rintro _ rfl
    have := ih _ rfl
    rw [nI_1, show 8 + k + 1 = 8 + (k + 1) by omega]
    have e : dkSm bs 0 (k + 1) = dkSt (dkSm bs 0 k) (nI (bs.getD k 0)) := by
      show dkSt (dkSm bs 0 k) (nI (bs.getD (0 + k) 0)) = _
      rw [Nat.zero_add]
    rw [← e]
    exact this
