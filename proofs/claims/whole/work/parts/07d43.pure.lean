/-! what the bytes of a frame say -/
theorem dkLE_by {A : List Nat} {x : Int64} : ∀ (n p i : Nat), (∀ j, j < n → A.getD (p + j) 0 = dkBy x (i + j)) → dkLE A p n = x.toBitVec.toNat / 2 ^ (8 * i) % 2 ^ (8 * n)
  | 0, p, i, _ => by
    show 0 = _ % 2 ^ 0
    rw [Nat.pow_zero, Nat.mod_one]
  | n + 1, p, i, h => by
    have ih := dkLE_by (A := A) (x := x) n (p + 1) (i + 1) (fun j hj => by
      have := h (j + 1) (by omega)
      rw [show p + 1 + j = p + (j + 1) by omega, show i + 1 + j = i + (j + 1) by omega]
      exact this)
    have h0 := h 0 (by omega)
    rw [Nat.add_zero, Nat.add_zero] at h0
    show A.getD p 0 + 256 * dkLE A (p + 1) n = _
    rw [h0, ih]
    unfold dkBy
    rw [show 8 * (n + 1) = 8 + 8 * n by omega, Nat.pow_add, Nat.mod_mul, show 8 * (i + 1) = 8 * i + 8 by omega, Nat.pow_add, ← Nat.div_div_eq_div_mul]
theorem dkSm_at {A B : List Nat} {p q : Nat} : ∀ n, (∀ j, j < n → A.getD (p + j) 0 = B.getD (q + j) 0) → dkSm A p n = dkSm B q n
  | 0, _ => rfl
  | n + 1, h => by
    show dkSt (dkSm A p n) (nI (A.getD (p + n) 0)) = dkSt (dkSm B q n) (nI (B.getD (q + n) 0))
    rw [dkSm_at n (fun j hj => h j (by omega)), h n (by omega)]
theorem nI_mod (n : Nat) : nI (n % 2 ^ 32) = nI n := by
  apply Int32.toBitVec_inj.mp
  apply BitVec.eq_of_toNat_eq
  show (BitVec.ofNat 32 (n % 2 ^ 32)).toNat = (BitVec.ofNat 32 n).toNat
  rw [BitVec.toNat_ofNat, BitVec.toNat_ofNat, Nat.mod_mod]
theorem lN_nat (x : Int64) : lN x.toBitVec.toNat = x := by
  apply Int64.toBitVec_inj.mp
  apply BitVec.eq_of_toNat_eq
  show (BitVec.ofNat 64 x.toBitVec.toNat).toNat = _
  rw [BitVec.toNat_ofNat, Nat.mod_eq_of_lt x.toBitVec.isLt]
theorem le8 {A : List Nat} {p : Nat} {x : Int64} (h : ∀ j, j < 8 → A.getD (p + j) 0 = dkBy x j) : lN (dkLE A p 8) = x := by
  rw [dkLE_by 8 p 0 (fun j hj => by rw [Nat.zero_add]; exact h j hj)]
  have e : x.toBitVec.toNat / 2 ^ (8 * 0) % 2 ^ (8 * 8) = x.toBitVec.toNat := by
    rw [Nat.mul_zero, Nat.pow_zero, Nat.div_one]
    exact Nat.mod_eq_of_lt x.toBitVec.isLt
  rw [e, lN_nat]
theorem le8i {A : List Nat} {p : Nat} {a : Int32} (h : ∀ j, j < 8 → A.getD (p + j) 0 = dkBy a.toInt64 j) : nI (dkLE A p 8) = a := by
  have := le8 h
  rw [← lN_i, this]
  simp
theorem le4i {A : List Nat} {p : Nat} {a : Int32} (h : ∀ j, j < 4 → A.getD (p + j) 0 = dkBy a.toInt64 j) : nI (dkLE A p 4) = a := by
  rw [dkLE_by 4 p 0 (fun j hj => by rw [Nat.zero_add]; exact h j hj)]
  rw [Nat.mul_zero, Nat.pow_zero, Nat.div_one]
  have e : (2 : Nat) ^ (8 * 4) = 2 ^ 32 := rfl
  rw [e, nI_mod, ← lN_i, lN_nat]
  simp
theorem le4n {A : List Nat} {p n : Nat} (hn : n < 2 ^ 31) (h : ∀ j, j < 4 → A.getD (p + j) 0 = dkBy (lN n) j) : dkLE A p 4 = n := by
  rw [dkLE_by 4 p 0 (fun j hj => by rw [Nat.zero_add]; exact h j hj)]
  have e : (lN n).toBitVec.toNat = n % 2 ^ 64 := BitVec.toNat_ofNat n 64
  rw [e, Nat.mul_zero, Nat.pow_zero, Nat.div_one]
  omega
/-- the bytes of a frame -/
theorem frE_head {r : gFr} : (∀ j, j < 4 → (frE r).getD j 0 = dkBy (lN (frP r).length) j) ∧ (∀ j, j < 4 → (frE r).getD (4 + j) 0 = dkBy (dkSm (frP r) 0 (frP r).length ^^^ (-1 : Int32)).toInt64 j) ∧ (∀ j, j < (frP r).length → (frE r).getD (8 + j) 0 = (frP r).getD j 0) := by
  refine ⟨fun j hj => ?_, fun j hj => ?_, fun j hj => ?_⟩
  · unfold frE
    rw [getD_app_l (by rw [frH_len]; omega)]
    unfold frH
    rw [getD_app_l (by rw [dkBs_len]; omega), dkBs_at hj]
  · unfold frE
    rw [getD_app_l (by rw [frH_len]; omega)]
    unfold frH
    rw [getD_app_r (by rw [dkBs_len]; omega), getD_app_l (by rw [dkBs_len, dkBs_len]; omega), dkBs_len, dkBs_at (by omega), show 4 + j - 4 = j by omega]
  · unfold frE
    rw [getD_app_l (by rw [frH_len]; omega)]
    unfold frH
    rw [getD_app_r (by rw [dkBs_len]; omega), getD_app_r (by rw [dkBs_len, dkBs_len]; omega), dkBs_len, dkBs_len, show 8 + j - 4 - 4 = j by omega]
theorem frP_a {r : gFr} (h : r.so ≠ 1) : (∀ j, j < 8 → (frE r).getD (8 + j) 0 = dkBy r.a.toInt64 j) ∧ (∀ j, j < 8 → (frE r).getD (16 + j) 0 = dkBy r.b.toInt64 j) := by
  have hl : 16 ≤ (frP r).length := by
    rw [frP_len]
    by_cases e0 : r.so = 0
    · rw [if_pos e0]; omega
    · rw [if_neg e0, if_neg h]; split <;> omega
  obtain ⟨-, -, h3⟩ := frE_head (r := r)
  refine ⟨fun j hj => ?_, fun j hj => ?_⟩
  · rw [h3 j (by omega)]
    unfold frP
    rw [if_neg h]
    split
    · rw [getD_app_l (by rw [dkBs_len]; omega), dkBs_at hj]
    · split
      · rw [getD_app_l (by rw [dkBs_len]; omega), dkBs_at hj]
      · rw [getD_app_l (by rw [dkBs_len]; omega), dkBs_at hj]
  · rw [show 16 + j = 8 + (8 + j) by omega, h3 (8 + j) (by omega)]
    unfold frP
    rw [if_neg h]
    split
    · rw [getD_app_r (by rw [dkBs_len]; omega), getD_app_l (by rw [dkBs_len, dkBs_len]; omega), dkBs_len, dkBs_at (by omega), show 8 + j - 8 = j by omega]
    · split
      · rw [getD_app_r (by rw [dkBs_len]; omega), dkBs_len, dkBs_at (by omega), show 8 + j - 8 = j by omega]
      · rw [getD_app_r (by rw [dkBs_len]; omega), getD_app_l (by rw [dkBs_len, dkBs_len]; omega), dkBs_len, dkBs_at (by omega), show 8 + j - 8 = j by omega]
theorem frP_c0 {r : gFr} (h : r.so = 0) : ∀ j, j < 8 → (frE r).getD (24 + j) 0 = dkBy r.c.toInt64 j := by
  intro j hj
  have hl : (frP r).length = 24 := by rw [frP_len, if_pos h]
  obtain ⟨-, -, h3⟩ := frE_head (r := r)
  rw [show 24 + j = 8 + (16 + j) by omega, h3 (16 + j) (by omega)]
  unfold frP
  rw [if_pos h, getD_app_r (by rw [dkBs_len]; omega), getD_app_r (by rw [dkBs_len, dkBs_len]; omega), dkBs_len, dkBs_len, dkBs_at (by omega), show 16 + j - 8 - 8 = j by omega]
theorem frP_c3 {r : gFr} (h : r.so = 3) : (frE r).getD 24 0 = dkBy r.c.toInt64 0 := by
  have hl : (frP r).length = 17 + r.d.length := by rw [frP_len, if_neg (by omega), if_neg (by omega), if_neg (by omega)]
  obtain ⟨-, -, h3⟩ := frE_head (r := r)
  rw [show 24 = 8 + 16 by omega, h3 16 (by omega)]
  unfold frP
  rw [if_neg (by omega), if_neg (by omega), if_neg (by omega), getD_app_r (by rw [dkBs_len]; omega), dkBs_len, getD_app_r (by rw [dkBs_len]; omega), dkBs_len, getD_app_l (by rw [dkBs_len]; omega), dkBs_at (by omega)]
theorem frP_1 {r : gFr} (h : r.so = 1) : (∀ j, j < 4 → (frE r).getD (8 + j) 0 = dkBy r.a.toInt64 j) ∧ (∀ j, j < 4 → (frE r).getD (12 + j) 0 = dkBy r.b.toInt64 j) ∧ (∀ j, j < 4 → (frE r).getD (16 + j) 0 = dkBy r.c.toInt64 j) := by
  have hl : (frP r).length = 12 := by rw [frP_len, if_neg (by omega), if_pos h]
  obtain ⟨-, -, h3⟩ := frE_head (r := r)
  have hP : frP r = dkBs r.a.toInt64 4 ++ (dkBs r.b.toInt64 4 ++ dkBs r.c.toInt64 4) := by unfold frP; rw [if_neg (by omega), if_pos h]
  refine ⟨fun j hj => ?_, fun j hj => ?_, fun j hj => ?_⟩
  · rw [h3 j (by omega), hP, getD_app_l (by rw [dkBs_len]; omega), dkBs_at hj]
  · rw [show 12 + j = 8 + (4 + j) by omega, h3 (4 + j) (by omega), hP, getD_app_r (by rw [dkBs_len]; omega), getD_app_l (by rw [dkBs_len, dkBs_len]; omega), dkBs_len, dkBs_at (by omega), show 4 + j - 4 = j by omega]
  · rw [show 16 + j = 8 + (8 + j) by omega, h3 (8 + j) (by omega), hP, getD_app_r (by rw [dkBs_len]; omega), getD_app_r (by rw [dkBs_len, dkBs_len]; omega), dkBs_len, dkBs_len, dkBs_at (by omega), show 8 + j - 4 - 4 = j by omega]
/-- the k-th frame of a content -/
theorem rfP_at {T : Nat → gFr} {l bs : List Nat} (h : rfP T l bs) {k : Nat} (hk : k < l.length) {j : Nat} (hj : j < (frE (T (l.getD k 0))).length) (hb : (rfC T (l.take k)).length + j < bs.length) : bs.getD ((rfC T (l.take k)).length + j) 0 = (frE (T (l.getD k 0))).getD j 0 := by
  obtain ⟨t, ht⟩ := h.1
  obtain ⟨u, hu⟩ := rfC_pre T l (k + 1)
  have e1 : bs.getD ((rfC T (l.take k)).length + j) 0 = (rfC T l).getD ((rfC T (l.take k)).length + j) 0 := by rw [← ht, getD_app_l hb]
  rw [e1, ← hu, getD_app_l (by rw [rfC_take hk, List.length_append]; omega), rfC_take hk, getD_app_r (by omega)]
  congr 1
  omega
theorem rfW_le {T : Nat → gFr} {l : List Nat} {s : Nat} : rfW T l s ≤ l.length := by unfold rfW; split <;> omega
/-- frames below the count of the whole ones are whole, the next one isn't -/
theorem rfW_in {T : Nat → gFr} {l bs : List Nat} (h : rfP T l bs) {k : Nat} (hk : k < rfW T l bs.length) : k < l.length ∧ (rfC T (l.take (k + 1))).length ≤ bs.length := by
  have hl := rfW_le (T := T) (l := l) (s := bs.length)
  refine ⟨by omega, ?_⟩
  by_cases e : k + 1 < l.length
  · exact Nat.le_of_lt (h.2 (k + 1) e)
  · have e2 : k + 1 = l.length := by omega
    unfold rfW at hk
    by_cases e3 : (rfC T l).length ≤ bs.length
    · rw [e2, List.take_length]; exact e3
    · rw [if_neg e3] at hk; omega
theorem rfW_out {T : Nat → gFr} {l bs : List Nat} (h : rfP T l bs) (hk : rfW T l bs.length < l.length) : bs.length < (rfC T (l.take (rfW T l bs.length + 1))).length ∧ rfW T l bs.length + 1 = l.length := by
  unfold rfW at *
  by_cases e3 : (rfC T l).length ≤ bs.length
  · rw [if_pos e3] at hk; omega
  · rw [if_neg e3] at hk ⊢
    rw [show l.length - 1 + 1 = l.length by omega, List.take_length]
    exact ⟨by omega, rfl⟩
theorem rfW_full {T : Nat → gFr} {l bs : List Nat} (h : rfP T l bs) (hk : rfW T l bs.length = l.length) : bs.length = (rfC T l).length := by
  have h1 := h.1.length_le
  unfold rfW at hk
  by_cases e3 : (rfC T l).length ≤ bs.length
  · omega
  · rw [if_neg e3] at hk
    have : l.length = 0 := by omega
    rw [List.eq_nil_of_length_eq_zero this, rfC_nil] at e3
    exact absurd (Nat.zero_le _) e3
theorem rfW_size {T : Nat → gFr} {l bs : List Nat} (h : rfP T l bs) : (rfC T (l.take (rfW T l bs.length))).length ≤ bs.length := by
  rcases Nat.eq_zero_or_pos (rfW T l bs.length) with e | e
  · rw [e, List.take_zero, rfC_nil]; exact Nat.zero_le _
  · have := (rfW_in h (k := rfW T l bs.length - 1) (by omega)).2
    rw [show rfW T l bs.length - 1 + 1 = rfW T l bs.length by omega] at this
    exact this
/-- the class looks at the k-th frame: whole -/
theorem c_whole {Ln : gI → Nat} {M : Nat} {F : gF} {T : Nat → gFr} {l : List Nat} {S : gS} {f k : Nat} {v : Int32} {Q : Int32 → gS → Prop} (hL : dkL Ln M) (hd : dk M F S) (hf : f < 16) (hP : rfP T l (F.1 f)) (hl : ∀ k, k < l.length → (frP (T (l.getD k 0))).length < 2 ^ 20) (hk : k < rfW T l (F.sz f)) (hv : v = nI (rfC T (l.take k)).length)
    (hq : Q (nI (frP (T (l.getD k 0))).length) S) : wp_DiskFile_wholeFrame Ln Q (1, f) v S := by
  obtain ⟨hk1, hk2⟩ := rfW_in hP hk
  have hz := (dk_sz hd hL.2.1 (show f < 32 by omega)).2
  have hz' : (F.1 f).length ≤ 25600 := hz
  obtain ⟨a1, a2, a3⟩ := frE_head (r := T (l.getD k 0))
  rw [rfC_take hk1, List.length_append] at hk2
  have hE : 8 + (frP (T (l.getD k 0))).length ≤ (frE (T (l.getD k 0))).length := by rw [frE_len]; omega
  have at_ : ∀ j, j < 8 + (frP (T (l.getD k 0))).length → (F.1 f).getD ((rfC T (l.take k)).length + j) 0 = (frE (T (l.getD k 0))).getD j 0 := fun j hj => rfP_at hP hk1 (by omega) (by omega)
  refine dk_wholeFrame (n := (frP (T (l.getD k 0))).length) hL hd hf hv (by omega) (fun _ => ⟨by have := hl k hk1; omega, le4n (by have := hl k hk1; omega) (fun j hj => by rw [at_ j (by omega)]; exact a1 j hj)⟩) (fun _ => ?_) (fun _ => hq) (fun h => ?_)
  · have e1 : nI (dkLE (F.1 f) ((rfC T (l.take k)).length + 4) 4) = dkSm (frP (T (l.getD k 0))) 0 (frP (T (l.getD k 0))).length ^^^ (-1 : Int32) := le4i (fun j hj => by rw [Nat.add_assoc, at_ (4 + j) (by omega)]; exact a2 j hj)
    rw [e1]
    congr 1
    refine (dkSm_at _ (fun j hj => ?_)).symm
    rw [Nat.add_assoc, at_ (8 + j) (by omega), Nat.zero_add]
    exact a3 j hj
  · have : F.sz f = (F.1 f).length := rfl
    omega
/-- .. and not whole -/
theorem c_unwhole {Ln : gI → Nat} {M : Nat} {F : gF} {T : Nat → gFr} {l : List Nat} {S : gS} {f : Nat} {v : Int32} {Q : Int32 → gS → Prop} (hL : dkL Ln M) (hd : dk M F S) (hf : f < 16) (hP : rfP T l (F.1 f)) (hl : ∀ k, k < l.length → (frP (T (l.getD k 0))).length < 2 ^ 20) (hso : ∀ k, k < l.length → (T (l.getD k 0)).so ≠ 1) (hv : v = nI (rfC T (l.take (rfW T l (F.sz f)))).length)
    (hq : Q (-1 : Int32) S) : wp_DiskFile_wholeFrame Ln Q (1, f) v S := by
  have hz := (dk_sz hd hL.2.1 (show f < 32 by omega)).2
  have hz' : (F.1 f).length ≤ 25600 := hz
  have hsz : F.sz f = (F.1 f).length := rfl
  rw [hsz] at hv
  have hle := rfW_size hP
  rcases Nat.lt_or_ge (rfW T l (F.1 f).length) l.length with hk | hk
  · obtain ⟨b1, b2⟩ := rfW_out hP hk
    generalize hw : rfW T l (F.1 f).length = w at *
    obtain ⟨a1, a2, a3⟩ := frE_head (r := T (l.getD w 0))
    rw [rfC_take hk, List.length_append] at b1
    have hE : (frE (T (l.getD w 0))).length = 8 + (frP (T (l.getD w 0))).length := by rw [frE_len, if_neg (hso w hk)]; omega
    refine dk_wholeFrame (n := (frP (T (l.getD w 0))).length) hL hd hf hv (by omega) (fun h8 => ⟨by have := hl w hk; omega, le4n (by have := hl w hk; omega) (fun j hj => ?_)⟩) (fun h => by omega) (fun h => by omega) (fun _ => hq)
    rw [rfP_at hP hk (by omega) (by omega)]
    exact a1 j hj
  · have e : rfW T l (F.1 f).length = l.length := by have := rfW_le (T := T) (l := l) (s := (F.1 f).length); omega
    have := rfW_full hP e
    rw [e, List.take_length] at hv
    exact dk_wholeFrame (n := 0) hL hd hf hv (by omega) (fun h8 => by omega) (fun h => by omega) (fun h => by omega) (fun _ => hq)
