/-! the moves of the way home: bits of a long -/
theorem lb_ext {x y : Int64} (h : ∀ k, k < 64 → lb x k = lb y k) : x = y := by
  refine Int64.toBitVec_inj.1 (BitVec.eq_of_getLsbD_eq (fun i hi => h i hi))
theorem lb_ne0 {x : Int64} : x ≠ 0 ↔ ∃ k, k < 64 ∧ lb x k = true := by
  constructor
  · intro h
    refine Classical.byContradiction (fun z => h (lb_ext (fun k hk => ?_)))
    rw [lb_0]
    cases hl : lb x k with
    | false => rfl
    | true => exact absurd ⟨k, hk, hl⟩ z
  · rintro ⟨k, _, h⟩ rfl
    rw [lb_0] at h; cases h
theorem lb_ushr (x : Int64) (s : UInt64) (b : Nat) : lb ((x.toUInt64 >>> s).toInt64) b = lb x ((s.toBitVec % 64).toNat + b) := by
  unfold lb
  show (x.toBitVec >>> (s.toBitVec % 64)).getLsbD b = _
  rw [BitVec.ushiftRight_eq', BitVec.getLsbD_ushiftRight]
theorem lb_not : ∀ (x : Int64) (b : Nat), b < 64 → lb (x ^^^ (-1)) b = !lb x b := by
  intro x b hb
  unfold lb
  rw [Int64.toBitVec_xor, BitVec.getLsbD_xor, show ((-1 : Int64)).toBitVec = BitVec.allOnes 64 by decide, BitVec.getLsbD_allOnes, decide_eq_true hb, Bool.xor_true]
def spI (v : Nat) : Int64 := Int64.ofNat (v % 2 + v / 2 % 2 * 2 ^ 8 + v / 4 % 2 * 2 ^ 16 + v / 8 % 2 * 2 ^ 24 + v / 16 % 2 * 2 ^ 32 + v / 32 % 2 * 2 ^ 40 + v / 64 % 2 * 2 ^ 48 + v / 128 % 2 * 2 ^ 56)
theorem sp_bit : ∀ v, v < 256 → ∀ b, b < 64 → lb (spI v) b = (decide (b % 8 = 0) && v.testBit (b / 8)) := by decide +kernel
theorem sp_mul : ∀ v, v < 256 → ∀ b, b < 64 → lb (spI v * 31) b = (decide (b % 8 < 5) && v.testBit (b / 8)) := by decide +kernel
theorem sp_msk : ∀ b, b < 64 → lb 72340172838076673 b = decide (b % 8 = 0) := by decide +kernel
theorem sq_bit : ∀ v, v < 256 → ∀ b, b < 64 → lb (Int64.ofNat v) b = (decide (b < 8) && v.testBit b) := by decide +kernel
theorem sq_mul : ∀ v, v < 256 → ∀ b, b < 64 → lb (Int64.ofNat v * 4311810305) b = (decide (b / 8 < 5) && v.testBit (b % 8)) := by decide +kernel
theorem sq_msk : ∀ b, b < 64 → lb 255 b = decide (b < 8) := by decide +kernel
theorem any5 (p : Nat → Bool) : anyB p 5 = (p 0 || p 1 || p 2 || p 3 || p 4) := by
  rw [anyB_S, anyB_S, anyB_S, anyB_S, anyB_S, show anyB p 0 = false from rfl, Bool.false_or]
theorem c_first (x : Int64) (M : zm_Mem) : ∃ r, f_X9_moveFirst x M = some r ∧ ∀ b, b < 64 → lb r b = (decide (b % 8 < 5) && anyB (fun o => lb x (8 * (b / 8) + o)) 5) := by
  unfold f_X9_moveFirst
  simp only [zv_eq]
  refine ⟨_, rfl, ?_⟩
  generalize hy : (((x ||| ((x.toUInt64 >>> ((1 : Int32).toInt64.toUInt64 &&& Int64.toUInt64 63)).toInt64)) ||| ((x.toUInt64 >>> ((2 : Int32).toInt64.toUInt64 &&& Int64.toUInt64 63)).toInt64)) ||| ((x.toUInt64 >>> ((3 : Int32).toInt64.toUInt64 &&& Int64.toUInt64 63)).toInt64)) ||| ((x.toUInt64 >>> ((4 : Int32).toInt64.toUInt64 &&& Int64.toUInt64 63)).toInt64) = y
  have hb : ∀ k, lb y k = (lb x k || lb x (1 + k) || lb x (2 + k) || lb x (3 + k) || lb x (4 + k)) := by
    intro k
    rw [← hy, lb_or, lb_or, lb_or, lb_or, lb_ushr, lb_ushr, lb_ushr, lb_ushr]; rfl
  have hm : y &&& 72340172838076673 = spI (bitsOf (fun i => lb y (8 * i)) 8) := by
    refine lb_ext (fun k hk => ?_)
    rw [lb_and, sp_msk k hk, sp_bit _ (bitsOf_lt _ 8) k hk, bitsOf_test, decide_eq_true (show k / 8 < 8 by omega), Bool.true_and, Bool.and_comm]
    by_cases h : k % 8 = 0
    · rw [show 8 * (k / 8) = k by omega]
    · rw [decide_eq_false h, Bool.false_and, Bool.false_and]
  intro b hb'
  rw [hm, sp_mul _ (bitsOf_lt _ 8) b hb', bitsOf_test, decide_eq_true (show b / 8 < 8 by omega), Bool.true_and, hb, any5]
  simp only [Nat.add_zero, Nat.add_comm 1, Nat.add_comm 2, Nat.add_comm 3, Nat.add_comm 4]
theorem c_second (x : Int64) (M : zm_Mem) : ∃ r, f_X9_moveSecond x M = some r ∧ ∀ b, b < 64 → lb r b = (decide (b / 8 < 5) && anyB (fun o => lb x (8 * o + b % 8)) 5) := by
  unfold f_X9_moveSecond
  simp only [zv_eq]
  refine ⟨_, rfl, ?_⟩
  generalize hy : (((x ||| ((x.toUInt64 >>> ((8 : Int32).toInt64.toUInt64 &&& Int64.toUInt64 63)).toInt64)) ||| ((x.toUInt64 >>> ((16 : Int32).toInt64.toUInt64 &&& Int64.toUInt64 63)).toInt64)) ||| ((x.toUInt64 >>> ((24 : Int32).toInt64.toUInt64 &&& Int64.toUInt64 63)).toInt64)) ||| ((x.toUInt64 >>> ((32 : Int32).toInt64.toUInt64 &&& Int64.toUInt64 63)).toInt64) = y
  have hb : ∀ k, lb y k = (lb x k || lb x (8 + k) || lb x (16 + k) || lb x (24 + k) || lb x (32 + k)) := by
    intro k
    rw [← hy, lb_or, lb_or, lb_or, lb_or, lb_ushr, lb_ushr, lb_ushr, lb_ushr]; rfl
  have hm : y &&& 255 = Int64.ofNat (bitsOf (fun i => lb y i) 8) := by
    refine lb_ext (fun k hk => ?_)
    rw [lb_and, sq_msk k hk, sq_bit _ (bitsOf_lt _ 8) k hk, bitsOf_test]
    cases lb y k <;> cases decide (k < 8) <;> rfl
  intro b hb'
  rw [hm, sq_mul _ (bitsOf_lt _ 8) b hb', bitsOf_test, decide_eq_true (show b % 8 < 8 by omega), Bool.true_and, hb, any5]
  simp only [Nat.mul_zero, Nat.zero_add]
