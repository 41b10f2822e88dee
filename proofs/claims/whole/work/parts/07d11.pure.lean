theorem dk_b {M : Nat} {F : gF} {S : gS} (hd : dk M F S) {c : Nat} (hc : c < 32) (i : Nat) : (F.1 c).getD i 0 < 256 := by
  obtain ⟨pg, ow, un, uc, m, iI, hN, hff, hb, hfit, hsu⟩ := hd
  by_cases h : i < F.sz c
  · exact (hb c i hc h).2
  · rw [List.getD_eq_getElem?_getD, List.getElem?_eq_none (by exact Nat.le_of_not_lt h)]
    decide
/-- n bytes from a place on, the least first -/
def dkLE (bs : List Nat) (p : Nat) : Nat → Nat
  | 0 => 0
  | n + 1 => bs.getD p 0 + 256 * dkLE bs (p + 1) n
theorem lN_shl8 {v b : Nat} (hb : b < 256) : (ju_lshl (lN v) 8) ||| (nI b).toInt64 = lN (b + 256 * v) := by
  rw [nI_l (by omega)]
  apply Int64.toBitVec_inj.mp
  apply BitVec.eq_of_toNat_eq
  rw [Int64.toBitVec_or]
  have e1 : (ju_lshl (lN v) 8).toBitVec = (lN v).toBitVec <<< 8 := by
    show (lN v).toBitVec <<< ((Int32.toInt64 8 &&& 63).toBitVec.smod 64).toNat = _
    rw [show ((Int32.toInt64 8 &&& 63).toBitVec.smod 64).toNat = 8 by decide]
  rw [e1, BitVec.toNat_or, BitVec.toNat_shiftLeft]
  have e2 : ∀ n, (lN n).toBitVec.toNat = n % 2 ^ 64 := fun n => BitVec.toNat_ofNat n 64
  rw [e2, e2, e2, Nat.shiftLeft_eq]
  have e3 : v % 2 ^ 64 * 2 ^ 8 % 2 ^ 64 = (v % 2 ^ 56) * 2 ^ 8 := by omega
  rw [e3, show b % 2 ^ 64 = b by omega, ← Nat.shiftLeft_eq, ← Nat.shiftLeft_add_eq_or_of_lt (show b < 2 ^ 8 from hb), Nat.shiftLeft_eq]
  omega
theorem dk_number {Ln : gI → Nat} {M : Nat} {F : gF} {S : gS} {f a n : Nat} {v w : Int32} {Q : Int64 → gS → Prop} (hL : dkL Ln M) (hd : dk M F S) (hf : f < 16) (hv : v = nI a) (hw : w = nI n) (ha : a < 2 ^ 30) (hn : n < 2 ^ 30)
    (hq : Q (lN (dkLE (F.1 f) a n)) S) : wp_DiskFile_number Ln Q (1, f) v w S := by
  subst hv hw
  unfold wp_DiskFile_number
  rintro _ rfl
  have key := pk_loopD (fun m k S' => wp_DiskFile_number_7 Ln Q m (1, f) (nI a) (lN (dkLE (F.1 f) (a + k) (n - k))) (nI k - 1) S') (fun k S' => S' = S ∧ k ≤ n) ?_ ?_ n S ⟨rfl, Nat.le_refl _⟩
  · rw [Nat.sub_self] at key
    exact ⟨_, key⟩
  · rintro m _ ⟨rfl, -⟩
    unfold wp_DiskFile_number_7
    rw [Nat.add_zero, Nat.sub_zero]
    exact br_t (by decide) hq
  · rintro m k _ ⟨rfl, hk⟩ ih
    unfold wp_DiskFile_number_7
    rw [nI_pred]
    refine br_f (nI_pos (by omega)) ?_
    rw [nI_add]
    refine dk_read hL hd hf rfl (by omega) ?_
    rintro _ rfl _ rfl
    rw [lN_shl8 (dk_b hd (by omega) _)]
    have e : (F.1 f).getD (a + k) 0 + 256 * dkLE (F.1 f) (a + (k + 1)) (n - (k + 1)) = dkLE (F.1 f) (a + k) (n - k) := by
      rw [show n - k = (n - (k + 1)) + 1 by omega]
      rfl
    rw [e, show nI k + (-1) = nI k - 1 from (Int32.sub_eq_add_neg _ _).symm]
    exact ih _ ⟨rfl, by omega⟩
/-- a step of the sum -/
def dkSt (s v : Int32) : Int32 :=
  (ju_ushr ((ju_ushr (s ^^^ v) 4) ^^^ (gSum ((s ^^^ v) &&& 15).toNatClampNeg)) 4) ^^^ (gSum (((ju_ushr (s ^^^ v) 4) ^^^ (gSum ((s ^^^ v) &&& 15).toNatClampNeg)) &&& 15).toNatClampNeg)
theorem dk_sumStep {Ln : gI → Nat} {S : gS} {s v : Int32} {Q : Int32 → gS → Prop} (hq : Q (dkSt s v) S) : wp_LogDisk_sumStep Ln Q s v S := by
  unfold wp_LogDisk_sumStep
  rintro _ rfl
  refine ⟨pk_andIn _ 4 (by decide) (by omega), ?_⟩
  rintro _ rfl
  exact ⟨pk_andIn _ 4 (by decide) (by omega), hq⟩
/-- the sum over n bytes from a place on -/
def dkSm (bs : List Nat) (p : Nat) : Nat → Int32
  | 0 => -1
  | n + 1 => dkSt (dkSm bs p n) (nI (bs.getD (p + n) 0))
theorem dk_wholeFrame {Ln : gI → Nat} {M : Nat} {F : gF} {S : gS} {f a n : Nat} {v : Int32} {Q : Int32 → gS → Prop} (hL : dkL Ln M) (hd : dk M F S) (hf : f < 16) (hv : v = nI a) (ha : a < 2 ^ 29)
    (hn : a + 8 ≤ F.sz f → n < 2 ^ 29 ∧ dkLE (F.1 f) a 4 = n) (hs : a + 8 + n ≤ F.sz f → nI (dkLE (F.1 f) (a + 4) 4) = dkSm (F.1 f) (a + 8) n ^^^ (-1 : Int32))
    (h1 : a + 8 + n ≤ F.sz f → Q (nI n) S) (h0 : F.sz f < a + 8 + n → Q (-1 : Int32) S) : wp_DiskFile_wholeFrame Ln Q (1, f) v S := by
  subst hv
  have hz := dk_sz hd hL.2.1 (show f < 32 by omega)
  have hN := (dk_size hd (show f < 32 by omega)).1
  unfold wp_DiskFile_wholeFrame
  rw [dkf1 hf, hN]
  refine br_f (nI_pos (by omega)) ?_
  by_cases h8 : a + 8 ≤ F.sz f
  · rw [show (8 : Int32) = nI 8 from rfl, pk_sub (by omega)]
    refine br_t (nI_le (by omega) (by omega)) ?_
    obtain ⟨hn2, hn3⟩ := hn h8
    refine dk_number (n := 4) hL hd hf rfl rfl (by omega) (by omega) ?_
    rw [hn3, lN_i]
    rintro _ rfl _ rfl
    refine br_f (nI_pos (by omega)) ?_
    rw [nI_add, hN, pk_sub (by omega)]
    refine pk_le n (F.sz f - (a + 8)) (fun hle => ?_) (fun hlt => h0 (by omega)) rfl rfl (by omega) (by omega)
    have hle' : a + 8 + n ≤ F.sz f := by omega
    refine pk_loop (fun m k S' => wp_DiskFile_wholeFrame_58 Ln Q m (1, f) (nI a) (nI n) (nI (a + 8)) (dkSm (F.1 f) (a + 8) k) (nI k) S') (fun k S' => S' = S) n 0 S (Nat.zero_le _) rfl ?_ ?_
    · rintro m _ rfl
      unfold wp_DiskFile_wholeFrame_58
      refine br_t (nI_le (Nat.le_refl _) (by omega)) ?_
      rw [show (4 : Int32) = nI 4 from rfl, nI_add]
      refine dk_number (n := 4) hL hd hf rfl rfl (by omega) (by omega) ?_
      rw [lN_i, hs hle']
      exact ⟨fun h => absurd rfl h, fun _ => h1 hle'⟩
    · rintro m k _ hk rfl ih
      unfold wp_DiskFile_wholeFrame_58
      refine br_f (nI_ge hk (by omega)) ?_
      rw [nI_add]
      refine dk_read hL hd hf rfl (by omega) (dk_sumStep ?_)
      rintro _ rfl
      rw [nI_1]
      exact ih _ rfl
  · refine br_f ?_ (h0 (by omega))
    rw [Int32.le_iff_toInt_le, show (8 : Int32) = nI 8 from rfl, pk_sub_toInt (by omega) (by omega), nI_toInt (by omega)]
    omega
theorem lushr_nat (x : Int64) (s : Int32) (k : Nat) (hs : (s.toInt64.toUInt64 &&& Int64.toUInt64 63).toBitVec.toNat % 64 = k) : (ju_lushr x s).toBitVec.toNat = x.toBitVec.toNat / 2 ^ k := by
  have e : (ju_lushr x s).toBitVec = x.toBitVec >>> k := by
    rw [← hs]
    exact UInt64.toBitVec_shiftRight _ _
  rw [e, BitVec.toNat_ushiftRight, Nat.shiftRight_eq_div_pow]
/-- the keep that a row draws, s = size less LOW -/
def dkDr (r : Int64) (s : Nat) : Nat := if r.toBitVec.toNat / 2 ^ 61 = 0 then 0 else 1 + (r.toBitVec.toNat / 2 ^ 33 % 2 ^ 20) % (2 * s + 1)
theorem lg_cmp_0 {x y : Int64} : lg_cmp x y = 0 ↔ x = y := by
  unfold lg_cmp
  by_cases h : x > y
  · rw [if_pos h]
    refine ⟨fun z => absurd z (by decide), fun z => ?_⟩
    subst z
    exact absurd h (Int64.lt_irrefl)
  · rw [if_neg h]
    by_cases h2 : x = y
    · rw [if_pos h2]; exact ⟨fun _ => h2, fun _ => rfl⟩
    · rw [if_neg h2]; exact ⟨fun z => absurd z (by decide), fun z => absurd z h2⟩
theorem dk_drawn {Ln : gI → Nat} {M : Nat} {F : gF} {S : gS} {f : Nat} {r : Int64} {Q : Int32 → gS → Prop} (hL : dkL Ln M) (hd : dk M F S) (hf : f < 16) (hlo : F.lo f ≤ F.sz f)
    (hq : Q (nI (dkDr r (F.sz f - F.lo f))) S) : wp_DiskFile_drawnKeep Ln Q (1, f) r S := by
  have hz := dk_sz hd hL.2.1 (show f < 32 by omega)
  have hN := (dk_size hd (show f < 32 by omega)).1
  have hl := (dk_low hd hf).1
  unfold wp_DiskFile_drawnKeep
  rw [dkf1 hf, hN, hl, pk_sub hlo]
  have e61 := lushr_nat r 61 61 (by decide)
  have e33 := lushr_nat r 33 33 (by decide)
  have c0 : lg_cmp (ju_lushr r 61) 0 = 0 ↔ r.toBitVec.toNat / 2 ^ 61 = 0 := by
    rw [lg_cmp_0, ← e61, ← Int64.toBitVec_inj, ← BitVec.toNat_inj]
    rfl
  rw [c0]
  unfold dkDr at hq
  refine ⟨fun h => ?_, fun h => by rw [if_pos h] at hq; exact hq⟩
  rw [if_neg h] at hq
  have em : (ju_lushr r 33).toInt32 &&& 1048575 = nI (r.toBitVec.toNat / 2 ^ 33 % 2 ^ 20) := by
    rw [pk_and _ 20 (by decide)]
    congr 1
    rw [← e33]
    have : (ju_lushr r 33).toInt32.toBitVec = (ju_lushr r 33).toBitVec.setWidth 32 := (Int64.toBitVec_toInt32 _).trans (BitVec.signExtend_eq_setWidth_of_le _ (by decide))
    rw [this, BitVec.toNat_setWidth]
    omega
  rw [em, show (2 : Int32) = nI 2 from rfl, pk_mul, nI_1]
  rintro _ rfl
  have e2 : (if (1 : Int32) < nI (2 * (F.sz f - F.lo f) + 1) then nI (2 * (F.sz f - F.lo f) + 1) else 1) = nI (2 * (F.sz f - F.lo f) + 1) := by
    by_cases h : 1 < 2 * (F.sz f - F.lo f) + 1
    · exact if_pos (nI_lt (a := 1) h (by omega))
    · rw [show 2 * (F.sz f - F.lo f) + 1 = 1 by omega]; rfl
  rw [e2]
  rintro _ rfl
  refine ⟨nI_ne0 (by omega) (by omega), ?_⟩
  rw [pk_rem (by omega) (by omega) (by omega), show (1 : Int32) = nI 1 from rfl, nI_add]
  exact hq
theorem dk_termBefore {Ln : gI → Nat} {M : Nat} {F : gF} {S : gS} {f : Nat} {Q : Int32 → gS → Prop} (hL : dkL Ln M) (hd : dk M F S) (hf : f < 16)
    (hq : Q (nI (dkLE (F.1 f) 16 8)) S) : wp_DiskFile_termBefore Ln Q (1, f) S := by
  unfold wp_DiskFile_termBefore
  refine dk_number (a := 16) (n := 8) hL hd hf rfl rfl (by omega) (by omega) ?_
  rw [lN_i]
  exact hq
