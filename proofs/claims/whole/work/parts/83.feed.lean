/-! feed -/
theorem and255 {x y : Int32} (h : ∀ i, i < 8 → x.toBitVec.getLsbD i = y.toBitVec.getLsbD i) : x &&& 255 = y &&& 255 := by
  apply Int32.toBitVec_inj.mp
  rw [Int32.toBitVec_and, Int32.toBitVec_and]
  apply BitVec.eq_of_getLsbD_eq
  intro i hi
  rw [BitVec.getLsbD_and, BitVec.getLsbD_and]
  by_cases h8 : i < 8
  · rw [h i h8]
  · have : (255 : Int32).toBitVec.getLsbD i = false := by
      have e : (255 : Int32).toBitVec = BitVec.ofNat 32 255 := rfl
      rw [e, BitVec.getLsbD_ofNat]
      have : Nat.testBit 255 i = false := Nat.testBit_lt_two_pow (Nat.lt_of_lt_of_le (by decide : 255 < 2 ^ 8) (Nat.pow_le_pow_right (by decide) (by omega)))
      rw [this, Bool.and_false]
    rw [this, Bool.and_false, Bool.and_false]
theorem sh_bits (x : Int32) (s i : Nat) (hs : s ≤ 24) (hi : i < 8) : ((x.toUInt32 >>> (UInt32.ofNat s)).toInt32).toBitVec.getLsbD i = x.toBitVec.getLsbD (s + i) := by
  have e : ((x.toUInt32 >>> (UInt32.ofNat s)).toInt32).toBitVec = x.toBitVec >>> s := by
    show (x.toUInt32 >>> (UInt32.ofNat s)).toBitVec = _
    rw [UInt32.toBitVec_shiftRight]
    show x.toBitVec >>> ((UInt32.ofNat s).toBitVec % 32) = _
    apply BitVec.eq_of_toNat_eq
    simp
    rw [Nat.mod_eq_of_lt (by omega)]
  rw [e, BitVec.getLsbD_ushiftRight]
theorem sa_bits (x y : Int32) (s i : Nat) (hs : s ≤ 24) (hi : i < 8) (hy : (y.toBitVec.smod 32).toNat = s) : (x >>> y).toBitVec.getLsbD i = x.toBitVec.getLsbD (s + i) := by
  have e : (x >>> y).toBitVec = x.toBitVec.sshiftRight s := by
    rw [Int32.toBitVec_shiftRight]
    show x.toBitVec.sshiftRight (y.toBitVec.smod 32).toNat = _
    rw [hy]
  rw [e, BitVec.getLsbD_sshiftRight, if_pos (by omega)]
  simp
  omega
/-- the bytes of a number -/
noncomputable def bt (x : Int32) (j : Nat) : Int32 := ((x.toUInt32 >>> (UInt32.ofNat (8 * j))).toInt32) &&& 255
theorem bt_c (x y : Int32) (j : Nat) (hy : y.toUInt32 &&& Int32.toUInt32 31 = UInt32.ofNat (8 * j)) : ((x.toUInt32 >>> (y.toUInt32 &&& Int32.toUInt32 31)).toInt32) &&& 255 = bt x j := by
  rw [hy]
  rfl
theorem bt_m (x y : Int32) (j : Nat) (hj : j ≤ 3) (hy : (y.toBitVec.smod 32).toNat = 8 * j) : (x >>> y) &&& 255 = bt x j := by
  unfold bt
  exact and255 (fun i hi => by rw [sa_bits x y (8 * j) i (by omega) hi hy, sh_bits x (8 * j) i (by omega) hi])
theorem bt_nat (x : Int32) (j : Nat) : ∃ q, q ≤ 255 ∧ bt x j = nI q := by
  unfold bt
  generalize ((x.toUInt32 >>> (UInt32.ofNat (8 * j))).toInt32) = z
  refine ⟨(z &&& 255).toBitVec.toNat, ?_, ?_⟩
  · rw [Int32.toBitVec_and, BitVec.toNat_and]
    exact Nat.and_le_right
  · apply Int32.toBitVec_inj.mp
    show _ = BitVec.ofNat 32 _
    rw [BitVec.ofNat_toNat]
    simp
