/-! bytes of a number; the sum; frames -/
def dkBy (x : Int64) (k : Nat) : Nat := x.toBitVec.toNat / 2 ^ (8 * k) % 256
def dkBs (x : Int64) (n : Nat) : List Nat := (List.range n).map (dkBy x)
theorem dkBs_len (x : Int64) (n : Nat) : (dkBs x n).length = n := by unfold dkBs; rw [List.length_map, List.length_range]
theorem dkBs_at {x : Int64} {n k : Nat} (h : k < n) : (dkBs x n).getD k 0 = dkBy x k := by
  unfold dkBs
  rw [List.getD_eq_getElem?_getD, List.getElem?_map, List.getElem?_range h]
  rfl
theorem dkBy_lt (x : Int64) (k : Nat) : dkBy x k < 256 := Nat.mod_lt _ (by decide)
theorem shift8 : ∀ k, k < 8 → ((8 * nI k : Int32).toInt64.toUInt64 &&& Int64.toUInt64 63).toBitVec.toNat % 64 = 8 * k := by decide
theorem shift8' : ∀ k, k < 8 → (((8 * nI k : Int32).toInt64 &&& 63 : Int64).toBitVec.smod 64).toNat = 8 * k := by decide
theorem toInt8_and (x : Int32) : x.toInt8.toInt32 &&& 255 = x &&& 255 := by
  rw [pk_and _ 8 (by decide), pk_and _ 8 (by decide)]
  congr 1
  have e : x.toInt8.toInt32.toBitVec = (x.toBitVec.signExtend 8).signExtend 32 := by
    rw [Int8.toBitVec_toInt32, Int32.toBitVec_toInt8]
  rw [e, BitVec.signExtend_eq_setWidth_of_le x.toBitVec (by decide)]
  have h : ((BitVec.setWidth 8 x.toBitVec).signExtend 32).setWidth 8 = BitVec.setWidth 8 x.toBitVec := by
    apply BitVec.eq_of_getLsbD_eq
    intro i hi
    rw [BitVec.getLsbD_setWidth, BitVec.getLsbD_signExtend]
    simp [hi, show i < 32 by omega]
  have h2 := congrArg BitVec.toNat h
  rw [BitVec.toNat_setWidth, BitVec.toNat_setWidth] at h2
  exact h2
theorem isB_put (x : Int64) {k : Nat} (hk : k < 8) : isB (vp_nar .byte (((ju_lushr x (8 * nI k)).toInt32).toInt8.toInt32)) (dkBy x k) ∧ fits .byte (.int (vp_nar .byte (((ju_lushr x (8 * nI k)).toInt32).toInt8.toInt32))) = true := by
  rw [pk_vb]
  refine ⟨⟨?_, dkBy_lt x k⟩, pk_fb _⟩
  rw [toInt8_and, pk_and _ 8 (by decide)]
  congr 1
  have e := lushr_nat x (8 * nI k) (8 * k) (shift8 k hk)
  unfold dkBy
  rw [← e]
  have : (ju_lushr x (8 * nI k)).toInt32.toBitVec = (ju_lushr x (8 * nI k)).toBitVec.setWidth 32 := (Int64.toBitVec_toInt32 _).trans (BitVec.signExtend_eq_setWidth_of_le _ (by decide))
  rw [this, BitVec.toNat_setWidth]
  omega
theorem byteOf_eq (x : Int64) {k : Nat} (hk : k < 8) : ((ju_lshr x (8 * nI k)) &&& (255 : Int64)).toInt32 = nI (dkBy x k) := by
  apply Int32.toBitVec_inj.mp
  apply BitVec.eq_of_toNat_eq
  rw [pk_tn (by have := dkBy_lt x k; omega)]
  have e1 : ((ju_lshr x (8 * nI k)) &&& (255 : Int64)).toInt32.toBitVec = ((ju_lshr x (8 * nI k)) &&& (255 : Int64)).toBitVec.setWidth 32 := (Int64.toBitVec_toInt32 _).trans (BitVec.signExtend_eq_setWidth_of_le _ (by decide))
  rw [e1, BitVec.toNat_setWidth, Int64.toBitVec_and, BitVec.toNat_and]
  have e2 : (255 : Int64).toBitVec.toNat = 2 ^ 8 - 1 := by decide
  rw [e2, Nat.and_two_pow_sub_one_eq_mod]
  have e3 : (ju_lshr x (8 * nI k)).toBitVec = x.toBitVec.sshiftRight (8 * k) := by
    rw [← shift8' k hk]
    rfl
  rw [e3]
  have e4 : (x.toBitVec.sshiftRight (8 * k)).toNat % 2 ^ 8 = x.toBitVec.toNat / 2 ^ (8 * k) % 2 ^ 8 := by
    have h : (x.toBitVec.sshiftRight (8 * k)).setWidth 8 = (x.toBitVec >>> (8 * k)).setWidth 8 := by
      apply BitVec.eq_of_getLsbD_eq
      intro i hi
      rw [BitVec.getLsbD_setWidth, BitVec.getLsbD_setWidth, BitVec.getLsbD_sshiftRight, BitVec.getLsbD_ushiftRight]
      simp [hi, show ¬ 64 ≤ i by omega, show 8 * k + i < 64 by omega]
    have h2 := congrArg BitVec.toNat h
    rw [BitVec.toNat_setWidth, BitVec.toNat_setWidth, BitVec.toNat_ushiftRight, Nat.shiftRight_eq_div_pow] at h2
    exact h2
  unfold dkBy
  omega
/-- one bit of the sum -/
def dkBit (s : Int32) : Int32 := if s &&& 1 = 1 then (ju_ushr s 1) ^^^ (-306674912 : Int32) else ju_ushr s 1
def bvP : BitVec 32 := 3988292384#32
def bvBit (s : BitVec 32) : BitVec 32 := if s.getLsbD 0 then (s >>> 1) ^^^ bvP else s >>> 1
theorem bvBit_xor (x y : BitVec 32) : bvBit (x ^^^ y) = bvBit x ^^^ bvBit y := by
  unfold bvBit
  rw [BitVec.getLsbD_xor, BitVec.ushiftRight_xor_distrib]
  have b1 : ∀ a b c : BitVec 32, (a ^^^ b) ^^^ c = (a ^^^ c) ^^^ b := by
    intro a b c
    apply BitVec.eq_of_getLsbD_eq
    intro i hi
    simp only [BitVec.getLsbD_xor]
    cases a.getLsbD i <;> cases b.getLsbD i <;> cases c.getLsbD i <;> rfl
  have b2 : ∀ a b c : BitVec 32, a ^^^ b = (a ^^^ c) ^^^ (b ^^^ c) := by
    intro a b c
    apply BitVec.eq_of_getLsbD_eq
    intro i hi
    simp only [BitVec.getLsbD_xor]
    cases a.getLsbD i <;> cases b.getLsbD i <;> cases c.getLsbD i <;> rfl
  cases x.getLsbD 0 <;> cases y.getLsbD 0
  · rfl
  · exact BitVec.xor_assoc _ _ _
  · exact b1 _ _ _
  · exact b2 _ _ _
theorem ju_ushr_bv (x : Int32) (s : Int32) (k : Nat) (hs : ((s.toUInt32 &&& Int32.toUInt32 31).toBitVec % 32).toNat = k) : (ju_ushr x s).toBitVec = x.toBitVec >>> k := by
  rw [← hs]
  exact UInt32.toBitVec_shiftRight _ _
theorem dkBit_bv (s : Int32) : (dkBit s).toBitVec = bvBit s.toBitVec := by
  unfold dkBit bvBit
  have e : (s &&& 1 = 1) ↔ s.toBitVec.getLsbD 0 = true := by
    rw [pk_and s 1 (by decide), show (1 : Int32) = nI 1 from rfl, nI_eq (by omega) (by omega), BitVec.getLsbD, Nat.testBit_zero]
    simp
  by_cases h : s &&& 1 = 1
  · rw [if_pos h, if_pos (e.1 h), Int32.toBitVec_xor, ju_ushr_bv s 1 1 (by decide)]
    rfl
  · rw [if_neg h, if_neg (fun z => h (e.2 z)), ju_ushr_bv s 1 1 (by decide)]
def bvB4 (s : BitVec 32) : BitVec 32 := bvBit (bvBit (bvBit (bvBit s)))
theorem bvB4_hi (s : BitVec 32) (h : ∀ j, j < 4 → s.getLsbD j = false) : bvB4 s = s >>> 4 := by
  unfold bvB4
  have a1 : bvBit s = s >>> 1 := by unfold bvBit; rw [h 0 (by omega)]; rfl
  have a2 : bvBit (s >>> 1) = s >>> 2 := by
    unfold bvBit; rw [BitVec.getLsbD_ushiftRight, h 1 (by omega), if_neg (by decide), ← BitVec.shiftRight_add]
  have a3 : bvBit (s >>> 2) = s >>> 3 := by
    unfold bvBit; rw [BitVec.getLsbD_ushiftRight, h 2 (by omega), if_neg (by decide), ← BitVec.shiftRight_add]
  have a4 : bvBit (s >>> 3) = s >>> 4 := by
    unfold bvBit; rw [BitVec.getLsbD_ushiftRight, h 3 (by omega), if_neg (by decide), ← BitVec.shiftRight_add]
  rw [a1, a2, a3, a4]
theorem bvB4_lo : ∀ k, k < 16 → bvB4 (BitVec.ofNat 32 k) = (gSum k).toBitVec := by decide
theorem bvB4_eq (s : BitVec 32) : bvB4 s = (s >>> 4) ^^^ (gSum (s.toNat % 16)).toBitVec := by
  have hs : s = (s &&& ~~~ 15#32) ^^^ BitVec.ofNat 32 (s.toNat % 16) := by
    have : BitVec.ofNat 32 (s.toNat % 16) = s &&& 15#32 := by
      apply BitVec.eq_of_toNat_eq
      rw [BitVec.toNat_and, BitVec.toNat_ofNat, show (15#32).toNat = 2 ^ 4 - 1 by decide, Nat.and_two_pow_sub_one_eq_mod]
      omega
    rw [this]
    apply BitVec.eq_of_getLsbD_eq
    intro i hi
    rw [BitVec.getLsbD_xor, BitVec.getLsbD_and, BitVec.getLsbD_and, BitVec.getLsbD_not]
    cases s.getLsbD i <;> cases (15#32).getLsbD i <;> simp [hi]
  have hlin : ∀ x y, bvB4 (x ^^^ y) = bvB4 x ^^^ bvB4 y := by
    intro x y; unfold bvB4; rw [bvBit_xor, bvBit_xor, bvBit_xor, bvBit_xor]
  have h1 : bvB4 (s &&& ~~~ 15#32) = s >>> 4 := by
    rw [bvB4_hi]
    · apply BitVec.eq_of_getLsbD_eq
      intro i hi
      rw [BitVec.getLsbD_ushiftRight, BitVec.getLsbD_ushiftRight, BitVec.getLsbD_and, BitVec.getLsbD_not]
      by_cases h : 4 + i < 32
      · have : (15#32).getLsbD (4 + i) = false := by
          have : ∀ j, j < 28 → (15#32).getLsbD (4 + j) = false := by decide
          exact this i (by omega)
        rw [this]; simp [h]
      · rw [BitVec.getLsbD_of_ge s (4 + i) (by omega)]; rfl
    · intro j hj
      rw [BitVec.getLsbD_and, BitVec.getLsbD_not]
      have : ∀ j, j < 4 → (15#32).getLsbD j = true := by decide
      rw [this j hj]; simp
  have h2 := hlin (s &&& ~~~ 15#32) (BitVec.ofNat 32 (s.toNat % 16))
  rw [← hs, h1, bvB4_lo _ (by omega)] at h2
  exact h2
theorem dkSt_bits (s v : Int32) : dkSt s v = dkBit (dkBit (dkBit (dkBit (dkBit (dkBit (dkBit (dkBit (s ^^^ v)))))))) := by
  have h4 : ∀ x : Int32, dkBit (dkBit (dkBit (dkBit x))) = (ju_ushr x 4) ^^^ (gSum (x &&& 15).toNatClampNeg) := by
    intro x
    apply Int32.toBitVec_inj.mp
    rw [dkBit_bv, dkBit_bv, dkBit_bv, dkBit_bv, Int32.toBitVec_xor, ju_ushr_bv x 4 4 (by decide), pk_and x 4 (by decide), nI_clamp (by have := Nat.mod_lt x.toBitVec.toNat (show 0 < 2 ^ 4 by decide); omega)]
    exact bvB4_eq _
  rw [h4 (dkBit (dkBit (dkBit (dkBit (s ^^^ v))))), h4 (s ^^^ v)]
  rfl
