/-! long words as sets of lists -/
def qg_l (x : Int64) (i : Nat) : Bool := x.toBitVec.getLsbD i
theorem qg_l_or (x y : Int64) (i : Nat) : qg_l (x ||| y) i = (qg_l x i || qg_l y i) := by unfold qg_l; rw [Int64.toBitVec_or, BitVec.getLsbD_or]
theorem qg_l_and (x y : Int64) (i : Nat) : qg_l (x &&& y) i = (qg_l x i && qg_l y i) := by unfold qg_l; rw [Int64.toBitVec_and, BitVec.getLsbD_and]
theorem qg_l_xor (x y : Int64) (i : Nat) : qg_l (x ^^^ y) i = (qg_l x i ^^ qg_l y i) := by unfold qg_l; rw [Int64.toBitVec_xor, BitVec.getLsbD_xor]
theorem qg_l_m1 : ∀ i, i < 64 → qg_l (-1) i = true := by decide +kernel
theorem qg_l_0 (i : Nat) : qg_l 0 i = false := BitVec.getLsbD_zero
theorem qg_l_not (x : Int64) {i : Nat} (hi : i < 64) : qg_l (x ^^^ (-1)) i = !qg_l x i := by
  rw [qg_l_xor, qg_l_m1 i hi]
  cases qg_l x i <;> rfl
theorem qg_l_shl : ∀ n, n < 64 → ∀ i, i < 64 → qg_l ((1 : Int64) <<< ((nI n).toInt64 &&& 63)) i = decide (i = n) := by decide +kernel
theorem qg_l_shr {n : Nat} (hn : n < 64) (x : Int64) (i : Nat) : qg_l ((x.toUInt64 >>> ((nI n).toInt64.toUInt64 &&& Int64.toUInt64 63)).toInt64) i = qg_l x (n + i) := by
  rw [wb_cu n hn]
  unfold qg_l
  have e : (x.toUInt64 >>> UInt64.ofNat n).toInt64.toBitVec = x.toBitVec >>> n := by
    apply BitVec.eq_of_toNat_eq
    show (x.toUInt64 >>> UInt64.ofNat n).toNat = _
    rw [UInt64.toNat_shiftRight, show (UInt64.ofNat n).toNat = n from Nat.mod_eq_of_lt (by omega), Nat.mod_eq_of_lt hn, BitVec.toNat_ushiftRight]
    rfl
  rw [e, BitVec.getLsbD_ushiftRight]
theorem qg_l_1 (x : Int64) : x &&& 1 = 1 ↔ qg_l x 0 = true := by
  rw [← Int64.toBitVec_inj, Int64.toBitVec_and]
  show x.toBitVec &&& 1#64 = 1#64 ↔ x.toBitVec.getLsbD 0 = true
  rw [BitVec.and_one_eq_setWidth_ofBool_getLsbD]
  cases x.toBitVec.getLsbD 0 <;> decide
theorem qg_l_t {n : Nat} (hn : n < 64) (x : Int64) : ((x.toUInt64 >>> ((nI n).toInt64.toUInt64 &&& Int64.toUInt64 63)).toInt64) &&& 1 = 1 ↔ qg_l x n = true := by
  rw [qg_l_1, qg_l_shr hn, Nat.add_zero]
def qg_fb (f : Nat → Int64) (x : Nat) : Bool := qg_l (f (x / 64)) (x % 64)
/-! columns: bit b of word v*4+w is bit v of 64w+b -/
def qg_col (f : Nat → Int64) : Prop := ∀ v w b, v < 8 → w < 4 → b < 64 → qg_l (f (v * 4 + w)) b = (64 * w + b).testBit v
