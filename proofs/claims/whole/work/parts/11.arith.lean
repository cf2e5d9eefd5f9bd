/-! ARITHMETIC of the abstract machine, where nothing wraps; bits of small numbers -/
theorem sg_iadd_eq {x y : Int} (h1 : -2147483648 ≤ x + y) (h2 : x + y < 2147483648) : sg_iadd x y = x + y := by
  unfold sg_iadd
  rw [← Int32.ofInt_add]
  exact Int32.toInt_ofInt_of_le (by omega) (by omega)
theorem sg_isub_eq {x y : Int} (h1 : -2147483648 ≤ x - y) (h2 : x - y < 2147483648) : sg_isub x y = x - y := by
  unfold sg_isub
  rw [← Int32.ofInt_sub]
  exact Int32.toInt_ofInt_of_le (by omega) (by omega)
theorem sg_imul_eq {x y : Int} (h1 : -2147483648 ≤ x * y) (h2 : x * y < 2147483648) : sg_imul x y = x * y := by
  unfold sg_imul
  rw [← Int32.ofInt_mul]
  exact Int32.toInt_ofInt_of_le (by omega) (by omega)
theorem sg_ineg_eq {x : Int} (h1 : -2147483648 ≤ -x) (h2 : -x < 2147483648) : sg_ineg x = -x := by
  unfold sg_ineg
  rw [← Int32.ofInt_neg]
  exact Int32.toInt_ofInt_of_le (by omega) (by omega)
theorem sg_to32 {x : Int} (h1 : -2147483648 ≤ x) (h2 : x < 2147483648) : (Int32.ofInt x).toInt = x := Int32.toInt_ofInt_of_le (by omega) (by omega)
theorem sg_to64 {x : Int} (h1 : -9223372036854775808 ≤ x) (h2 : x < 9223372036854775808) : (Int64.ofInt x).toInt = x := Int64.toInt_ofInt_of_le (by omega) (by omega)
theorem sg_idiv_eq {x y : Int} (h1 : 0 ≤ x) (h2 : x < 2147483648) (h3 : 0 < y) (h4 : y < 2147483648) : sg_idiv x y = x / y := by
  unfold sg_idiv
  rw [Int32.toInt_div, sg_to32 (by omega) h2, sg_to32 (by omega) h4, Int.tdiv_eq_ediv_of_nonneg h1]
  have a1 : 0 ≤ x / y := Int.ediv_nonneg h1 (by omega)
  have a2 : x / y ≤ x := Int.ediv_le_self _ h1
  exact Int.bmod_eq_of_le (by omega) (by omega)
theorem sg_irem_eq {x y : Int} (h1 : 0 ≤ x) (h2 : x < 2147483648) (h3 : 0 < y) (h4 : y < 2147483648) : sg_irem x y = x % y := by
  have e : sg_irem x y = (Int32.ofInt x).toInt.tmod (Int32.ofInt y).toInt := rem_toInt _ _
  rw [e, sg_to32 (by omega) h2, sg_to32 (by omega) h4, Int.tmod_eq_emod_of_nonneg h1]
theorem sg_ladd_eq {x y : Int} (h1 : -9223372036854775808 ≤ x + y) (h2 : x + y < 9223372036854775808) : sg_ladd x y = x + y := by
  unfold sg_ladd
  rw [← Int64.ofInt_add]
  exact Int64.toInt_ofInt_of_le (by omega) (by omega)
theorem sg_lsub_eq {x y : Int} (h1 : -9223372036854775808 ≤ x - y) (h2 : x - y < 9223372036854775808) : sg_lsub x y = x - y := by
  unfold sg_lsub
  rw [← Int64.ofInt_sub]
  exact Int64.toInt_ofInt_of_le (by omega) (by omega)
theorem sg_lmul_eq {x y : Int} (h1 : -9223372036854775808 ≤ x * y) (h2 : x * y < 9223372036854775808) : sg_lmul x y = x * y := by
  unfold sg_lmul
  rw [← Int64.ofInt_mul]
  exact Int64.toInt_ofInt_of_le (by omega) (by omega)
/-! bits -/
theorem sg_bv (a : Nat) : (Int32.ofInt (a : Int)).toBitVec = BitVec.ofNat 32 a := by
  rw [Int32.ofInt_eq_ofNat]
  rfl
theorem sg_bvI (v : BitVec 32) (h : v.toNat < 2147483648) : v.toInt = (v.toNat : Int) := by
  rw [BitVec.toInt_eq_toNat_of_lt (by omega)]
theorem sg_toI (x : Int32) : x.toInt = x.toBitVec.toInt := rfl
theorem sg_iand_nat {a b : Nat} (ha : a < 2147483648) (hb : b < 2147483648) : sg_iand (a : Int) (b : Int) = ((a &&& b : Nat) : Int) := by
  unfold sg_iand
  have e : ((Int32.ofInt (a : Int)) &&& (Int32.ofInt (b : Int))).toBitVec = BitVec.ofNat 32 a &&& BitVec.ofNat 32 b := by
    rw [Int32.toBitVec_and, sg_bv, sg_bv]
  have n : (BitVec.ofNat 32 a &&& BitVec.ofNat 32 b).toNat = a &&& b := by
    rw [BitVec.toNat_and, BitVec.toNat_ofNat, BitVec.toNat_ofNat, Nat.mod_eq_of_lt (by omega), Nat.mod_eq_of_lt (by omega)]
  have l : a &&& b < 2147483648 := Nat.lt_of_le_of_lt Nat.and_le_left ha
  rw [sg_toI, e, sg_bvI _ (by rw [n]; exact l), n]
theorem sg_ior_nat {a b : Nat} (ha : a < 2147483648) (hb : b < 2147483648) : sg_ior (a : Int) (b : Int) = ((a ||| b : Nat) : Int) := by
  unfold sg_ior
  have e : ((Int32.ofInt (a : Int)) ||| (Int32.ofInt (b : Int))).toBitVec = BitVec.ofNat 32 a ||| BitVec.ofNat 32 b := by
    rw [Int32.toBitVec_or, sg_bv, sg_bv]
  have n : (BitVec.ofNat 32 a ||| BitVec.ofNat 32 b).toNat = a ||| b := by
    rw [BitVec.toNat_or, BitVec.toNat_ofNat, BitVec.toNat_ofNat, Nat.mod_eq_of_lt (by omega), Nat.mod_eq_of_lt (by omega)]
  have l : a ||| b < 2 ^ 31 := Nat.or_lt_two_pow (by omega) (by omega)
  rw [sg_toI, e, sg_bvI _ (by rw [n]; omega), n]
theorem sg_tb32 (a k : Nat) (hk : k < 31) : (Int32.ofInt (k : Int) &&& 31 : Int32).toBitVec.toNat = k := by
  have e : (Int32.ofInt (k : Int) &&& 31 : Int32).toBitVec = BitVec.ofNat 32 k &&& BitVec.ofNat 32 31 := by
    rw [Int32.toBitVec_and, sg_bv]
    rfl
  rw [e, BitVec.toNat_and, BitVec.toNat_ofNat, BitVec.toNat_ofNat, Nat.mod_eq_of_lt (by omega), Nat.mod_eq_of_lt (by omega)]
  have : k &&& (2 ^ 5 - 1) = k % 2 ^ 5 := Nat.and_two_pow_sub_one_eq_mod k 5
  rw [show (31 : Nat) = 2 ^ 5 - 1 from rfl, this]
  omega
theorem sg_ishl_nat {a k : Nat} (hk : k < 31) (h : a * 2 ^ k < 2147483648) : sg_ishl (a : Int) (k : Int) = ((a * 2 ^ k : Nat) : Int) := by
  unfold sg_ishl
  have hp : 0 < 2 ^ k := Nat.two_pow_pos k
  have ha : a < 2147483648 := Nat.lt_of_le_of_lt (Nat.le_mul_of_pos_right a hp) h
  have e : (Int32.ofInt (a : Int) <<< (Int32.ofInt (k : Int) &&& 31)).toBitVec = BitVec.ofNat 32 a <<< k := by
    rw [Int32.toBitVec_shiftLeft, sg_bv]
    have e2 : ((Int32.ofInt (k : Int) &&& 31 : Int32).toBitVec.smod 32) = BitVec.ofNat 32 k := by
      have hh : ∀ j : Nat, j < 31 → ((Int32.ofInt (j : Int) &&& 31 : Int32).toBitVec.smod 32) = BitVec.ofNat 32 j := by decide +kernel
      exact hh k hk
    rw [e2]
    show BitVec.ofNat 32 a <<< (BitVec.ofNat 32 k) = _
    rw [BitVec.shiftLeft_eq', BitVec.toNat_ofNat, Nat.mod_eq_of_lt (by omega)]
  have n : (BitVec.ofNat 32 a <<< k).toNat = a * 2 ^ k := by
    rw [BitVec.toNat_shiftLeft, BitVec.toNat_ofNat, Nat.mod_eq_of_lt (by omega : a < 2 ^ 32), Nat.shiftLeft_eq, Nat.mod_eq_of_lt (by omega)]
  rw [sg_toI, e, sg_bvI _ (by rw [n]; exact h), n]
theorem sg_ishr_nat {a k : Nat} (hk : k < 31) (ha : a < 2147483648) : sg_ishr (a : Int) (k : Int) = ((a / 2 ^ k : Nat) : Int) := by
  unfold sg_ishr
  have e : (Int32.ofInt (a : Int) >>> (Int32.ofInt (k : Int) &&& 31)).toBitVec = (BitVec.ofNat 32 a).sshiftRight k := by
    rw [Int32.toBitVec_shiftRight, sg_bv]
    have e2 : ((Int32.ofInt (k : Int) &&& 31 : Int32).toBitVec.smod 32) = BitVec.ofNat 32 k := by
      have hh : ∀ j : Nat, j < 31 → ((Int32.ofInt (j : Int) &&& 31 : Int32).toBitVec.smod 32) = BitVec.ofNat 32 j := by decide +kernel
      exact hh k hk
    rw [e2]
    show (BitVec.ofNat 32 a).sshiftRight (BitVec.ofNat 32 k).toNat = _
    rw [BitVec.toNat_ofNat, Nat.mod_eq_of_lt (by omega)]
  have hm : (BitVec.ofNat 32 a).msb = false := by
    rw [BitVec.msb_eq_false_iff_two_mul_lt, BitVec.toNat_ofNat, Nat.mod_eq_of_lt (by omega)]
    omega
  have n : ((BitVec.ofNat 32 a).sshiftRight k).toNat = a / 2 ^ k := by
    rw [BitVec.sshiftRight_eq_of_msb_false hm, BitVec.toNat_ushiftRight, BitVec.toNat_ofNat, Nat.mod_eq_of_lt (by omega), Nat.shiftRight_eq_div_pow]
  have l : a / 2 ^ k < 2147483648 := Nat.lt_of_le_of_lt (Nat.div_le_self _ _) ha
  rw [sg_toI, e, sg_bvI _ (by rw [n]; exact l), n]
/-- a bit of a small number -/
theorem sg_bit_nat {a k : Nat} (hk : k < 31) (ha : a < 2147483648) : sg_iand (sg_ishr (a : Int) (k : Int)) 1 = if a.testBit k then 1 else 0 := by
  rw [sg_ishr_nat hk ha, show (1 : Int) = ((1 : Nat) : Int) from rfl, sg_iand_nat (Nat.lt_of_le_of_lt (Nat.div_le_self _ _) ha) (by omega), Nat.and_one_is_mod]
  rw [Nat.testBit_eq_decide_div_mod_eq]
  have : a / 2 ^ k % 2 = 0 ∨ a / 2 ^ k % 2 = 1 := by omega
  rcases this with h | h
  · simp [h]
  · simp [h]
/-- a ∧ not b -/
theorem sg_iandn_nat {a b : Nat} (ha : a < 2147483648) (hb : b < 2147483648) : sg_iand (a : Int) (sg_ixor (b : Int) (-1)) = ((a &&& (2147483647 - b) : Nat) : Int) := by
  unfold sg_iand sg_ixor
  rw [Int32.ofInt_toInt]
  have e : (Int32.ofInt (a : Int) &&& (Int32.ofInt (b : Int) ^^^ Int32.ofInt (-1))).toBitVec = BitVec.ofNat 32 a &&& ~~~ (BitVec.ofNat 32 b) := by
    rw [Int32.toBitVec_and, Int32.toBitVec_xor, sg_bv, sg_bv]
    show BitVec.ofNat 32 a &&& (BitVec.ofNat 32 b ^^^ BitVec.allOnes 32) = _
    rw [BitVec.xor_allOnes]
  have key : BitVec.ofNat 32 a &&& ~~~ (BitVec.ofNat 32 b) = BitVec.ofNat 32 (a &&& (2147483647 - b)) := by
    apply BitVec.eq_of_getLsbD_eq
    intro i hi
    rw [BitVec.getLsbD_and, BitVec.getLsbD_not, BitVec.getLsbD_ofNat, BitVec.getLsbD_ofNat, BitVec.getLsbD_ofNat, Nat.testBit_and]
    simp only [hi, decide_true, Bool.true_and]
    by_cases h31 : i = 31
    · have : a.testBit i = false := Nat.testBit_lt_two_pow (by subst h31; omega)
      rw [this]; simp
    · have h2 : (2147483647 - b).testBit i = !b.testBit i := by
        have := Nat.testBit_two_pow_sub_succ (x := b) (n := 31) (by omega) i
        rw [show (2147483647 - b) = 2 ^ 31 - (b + 1) from by omega, this]
        have : i < 31 := by omega
        simp [this]
      rw [h2]
  have l : a &&& (2147483647 - b) < 2147483648 := Nat.lt_of_le_of_lt Nat.and_le_left ha
  rw [sg_toI, e, key, sg_bvI _ (by rw [BitVec.toNat_ofNat, Nat.mod_eq_of_lt (by omega)]; exact l), BitVec.toNat_ofNat, Nat.mod_eq_of_lt (by omega)]
theorem sg_testn {b i : Nat} (hb : b < 2147483648) (hi : i < 31) : (2147483647 - b).testBit i = !b.testBit i := by
  have := Nat.testBit_two_pow_sub_succ (x := b) (n := 31) (by omega) i
  rw [show (2147483647 - b) = 2 ^ 31 - (b + 1) from by omega, this]
  simp [hi]
/-- small masks of a property -/
def sg_mk (f : Nat → Bool) : Nat → Nat
  | 0 => 0
  | n + 1 => (if f n then 2 ^ n else 0) + sg_mk f n
theorem sg_mk_lt (f : Nat → Bool) : ∀ n, sg_mk f n < 2 ^ n
  | 0 => Nat.one_pos
  | n + 1 => by
    have := sg_mk_lt f n
    unfold sg_mk
    rw [Nat.pow_succ]
    split <;> omega
theorem sg_mk_test (f : Nat → Bool) : ∀ n i, (sg_mk f n).testBit i = (decide (i < n) && f i)
  | 0, i => by simp [sg_mk]
  | n + 1, i => by
    have hl := sg_mk_lt f n
    have ih := sg_mk_test f n i
    unfold sg_mk
    by_cases hf : f n = true
    · rw [if_pos hf, show 2 ^ n = 2 ^ n * 1 from (Nat.mul_one _).symm, Nat.testBit_two_pow_mul_add 1 hl i]
      by_cases hi : i < n
      · rw [if_pos hi, ih]
        simp [hi, Nat.lt_succ_of_lt hi]
      · rw [if_neg hi]
        by_cases e : i = n
        · subst e
          simp [hf]
        · have h1 : ¬ i < n + 1 := by omega
          have h2 : ∃ j, i - n = j + 1 := ⟨i - n - 1, by omega⟩
          obtain ⟨j, hj⟩ := h2
          rw [hj]
          simp [h1, Nat.testBit_succ]
    · rw [if_neg hf, Nat.zero_add, ih]
      by_cases e : i = n
      · subst e
        simp [hf]
      · have : i < n ↔ i < n + 1 := by omega
        simp [this]
