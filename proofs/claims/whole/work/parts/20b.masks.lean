/-! MASKS: what the programs' bit words do to sg_mk -/
theorem sg_mk_congr {f g : Nat → Bool} : ∀ {n : Nat}, (∀ i, i < n → f i = g i) → sg_mk f n = sg_mk g n
  | 0, _ => rfl
  | n + 1, h => by
    unfold sg_mk
    rw [sg_mk_congr (fun i hi => h i (Nat.lt_succ_of_lt hi)), h n (Nat.lt_succ_self n)]
theorem sg_mk_b (f : Nat → Bool) {n : Nat} (hn : n ≤ 30) : sg_mk f n < 2147483648 := by
  have h1 := sg_mk_lt f n
  have h2 : 2 ^ n ≤ 2 ^ 30 := Nat.pow_le_pow_right (by omega) hn
  omega
theorem sg_mk_eq {f : Nat → Bool} {n a : Nat} (ha : ∀ i, a.testBit i = (decide (i < n) && f i)) : a = sg_mk f n := by
  apply Nat.eq_of_testBit_eq
  intro i
  rw [ha, sg_mk_test]
theorem sg_mk_f {f : Nat → Bool} {m : Nat} (h : f m = false) : sg_mk f (m + 1) = sg_mk f m := by
  show (if f m = true then 2 ^ m else 0) + sg_mk f m = _
  rw [if_neg (by rw [h]; decide), Nat.zero_add]
theorem sg_shl1 {m : Nat} (hm : m ≤ 29) : sg_ishl 1 (m : Int) = ((2 ^ m : Nat) : Int) := by
  have h2 : 2 ^ m ≤ 2 ^ 29 := Nat.pow_le_pow_right (by omega) hm
  have := sg_ishl_nat (a := 1) (k := m) (by omega) (by omega)
  rw [Nat.one_mul] at this
  exact this
theorem sg_mk_t {f : Nat → Bool} {m : Nat} (hm : m ≤ 29) (h : f m = true) : sg_ior (sg_mk f m : Int) (sg_ishl 1 (m : Int)) = (sg_mk f (m + 1) : Int) := by
  have h2 : 2 ^ m ≤ 2 ^ 29 := Nat.pow_le_pow_right (by omega) hm
  rw [sg_shl1 hm, sg_ior_nat (sg_mk_b f (by omega)) (by omega)]
  congr 1
  apply sg_mk_eq
  intro i
  rw [Nat.testBit_or, sg_mk_test, Nat.testBit_two_pow]
  by_cases e : m = i
  · subst e; simp [h]
  · by_cases q : i < m
    · simp [q, Nat.lt_succ_of_lt q, e]
    · have : ¬ i < m + 1 := by omega
      simp [q, this, e]
/-- one more bit in a mask of n -/
theorem sg_mk_set {f : Nat → Bool} {n m : Nat} (hn : n ≤ 30) (hm : m < n) : sg_ior (sg_mk f n : Int) (sg_ishl 1 (m : Int)) = (sg_mk (fun i => f i || decide (i = m)) n : Int) := by
  have h2 : 2 ^ m ≤ 2 ^ 29 := Nat.pow_le_pow_right (by omega) (by omega)
  rw [sg_shl1 (by omega), sg_ior_nat (sg_mk_b f hn) (by omega)]
  congr 1
  apply sg_mk_eq
  intro i
  rw [Nat.testBit_or, sg_mk_test, Nat.testBit_two_pow]
  by_cases e : m = i
  · subst e; simp [hm]
  · have : ¬ i = m := fun z => e z.symm
    simp [e, this]
theorem sg_mk_or {f g : Nat → Bool} {n : Nat} (hn : n ≤ 30) : sg_ior (sg_mk f n : Int) (sg_mk g n : Int) = (sg_mk (fun i => f i || g i) n : Int) := by
  rw [sg_ior_nat (sg_mk_b f hn) (sg_mk_b g hn)]
  congr 1
  apply sg_mk_eq
  intro i
  rw [Nat.testBit_or, sg_mk_test, sg_mk_test]
  by_cases q : i < n <;> simp [q]
theorem sg_mk_or0 {f : Nat → Bool} {n : Nat} (hn : n ≤ 30) : sg_ior (sg_mk f n : Int) 0 = (sg_mk f n : Int) := by
  rw [show (0 : Int) = ((0 : Nat) : Int) from rfl, sg_ior_nat (sg_mk_b f hn) (by omega), Nat.or_zero]
theorem sg_mk_andn {f g : Nat → Bool} {n j : Nat} (hn : n ≤ j) (hj : j ≤ 30) : sg_iand (sg_mk f n : Int) (sg_ixor (sg_mk g j : Int) (-1)) = (sg_mk (fun i => f i && !g i) n : Int) := by
  rw [sg_iandn_nat (sg_mk_b f (by omega)) (sg_mk_b g hj)]
  congr 1
  apply sg_mk_eq
  intro i
  rw [Nat.testBit_and, sg_mk_test]
  by_cases q : i < n
  · rw [sg_testn (sg_mk_b g hj) (by omega), sg_mk_test]
    have : i < j := by omega
    simp [q, this]
  · simp [q]
theorem sg_mk_bit {f : Nat → Bool} {n i : Nat} (hn : n ≤ 30) (hi : i < 31) : sg_iand (sg_ishr (sg_mk f n : Int) (i : Int)) 1 = td_one (decide (i < n) && f i) := by
  rw [sg_bit_nat hi (sg_mk_b f hn), sg_mk_test]
  unfold td_one
  rfl
theorem sg_mk_hb {f : Nat → Bool} {n i : Nat} (hn : n ≤ 30) (hi : i < 31) : sg_iand (sg_ishr (sg_mk f n : Int) (i : Int)) 1 ≠ 0 ↔ i < n ∧ f i = true := by
  rw [sg_mk_bit hn hi]
  unfold td_one
  by_cases q : i < n
  · cases h : f i <;> simp [q]
  · simp [q]
theorem sg_mk_hb1 {f : Nat → Bool} {n i : Nat} (hn : n ≤ 30) (hi : i < 31) : sg_iand (sg_ishr (sg_mk f n : Int) (i : Int)) 1 = 1 ↔ i < n ∧ f i = true := by
  rw [sg_mk_bit hn hi]
  unfold td_one
  by_cases q : i < n
  · cases h : f i <;> simp [q]
  · simp [q]
theorem sg_mk_zero {f : Nat → Bool} {n : Nat} : sg_mk f n = 0 ↔ ∀ i, i < n → f i = false := by
  constructor
  · intro h i hi
    have h2 := sg_mk_test f n i
    rw [h, Nat.zero_testBit, decide_eq_true hi, Bool.true_and] at h2
    exact h2.symm
  · intro h
    refine (sg_mk_eq (a := 0) (fun i => ?_)).symm
    rw [Nat.zero_testBit]
    by_cases q : i < n
    · rw [h i q, Bool.and_false]
    · rw [decide_eq_false q, Bool.false_and]
/-- all bits below n -/
theorem sg_mk_full {n : Nat} (hn : n ≤ 29) : sg_isub (sg_ishl 1 (n : Int)) 1 = (sg_mk (fun _ => true) n : Int) := by
  have h2 : 2 ^ n ≤ 2 ^ 29 := Nat.pow_le_pow_right (by omega) hn
  have h0 : 0 < 2 ^ n := Nat.two_pow_pos n
  rw [sg_shl1 hn, sg_isub_eq (by omega) (by omega)]
  have : 2 ^ n - 1 = sg_mk (fun _ => true) n := by
    apply sg_mk_eq
    intro i
    rw [Nat.testBit_two_pow_sub_one]
    simp
  rw [← this]
  omega
/-- the number of bits -/
theorem sg_ibc_mk {f : Nat → Bool} {n : Nat} (hn : n ≤ 8) : sg_ibc (sg_mk f n : Int) = td_sum (fun i => td_one (f i)) n := by
  have hh : ∀ a : Nat, a < 256 → sg_ibc (a : Int) = td_sum (fun i => td_one (a.testBit i)) 8 := by decide +kernel
  have hl : sg_mk f n < 256 := by
    have h1 := sg_mk_lt f n
    have h2 : 2 ^ n ≤ 2 ^ 8 := Nat.pow_le_pow_right (by omega) hn
    omega
  rw [hh _ hl]
  have key : ∀ j : Nat, n ≤ j → td_sum (fun i => td_one ((sg_mk f n).testBit i)) j = td_sum (fun i => td_one (f i)) n := by
    intro j hj
    induction j with
    | zero =>
      have : n = 0 := by omega
      subst this
      rfl
    | succ j ih =>
      by_cases e : n = j + 1
      · subst e
        exact td_sum_congr (fun i hi => by rw [sg_mk_test]; simp [hi])
      · show td_sum _ j + td_one ((sg_mk f n).testBit j) = _
        rw [ih (by omega), sg_mk_test]
        have : ¬ j < n := by omega
        simp [this, td_one]
  exact key 8 hn
theorem td_least_at {f : Nat → Bool} {k p : Nat} (hp : p < k) : td_least f k = (p : Int) ↔ td_least f p = -1 ∧ f p = true := by
  constructor
  · intro h
    obtain ⟨-, h2, h3⟩ := td_least_is h
    exact ⟨td_least_of_none h3, h2⟩
  · intro h
    exact td_least_of hp h.2 (td_least_none h.1)
theorem sg_upc {G : SgM} {c i v c' j : Int} (h : c' ≠ c) : sg_up G c i v c' j = G c' j := by unfold sg_up; rw [if_neg (fun q => h q.1)]
theorem sg_upi {G : SgM} {c i v j : Int} (h : j ≠ i) : sg_up G c i v c j = G c j := by unfold sg_up; rw [if_neg (fun q => h q.2)]
def td_stp (w : Int) : Int := if w = 0 then 1 else -1
/-- the wall in the memory -/
def cw_W (W : TW) (G : SgM) : Prop := G 5 0 = (tw_n W : Int) ∧ G 5 4 = (tw_k W : Int) ∧ (∀ q : Nat, q < tw_n W → G 6 q = tw_pc W q ∧ G 7 q = tw_ph W q) ∧
  ∀ p : Nat, p < tw_k W → G 9 p = tw_so W p ∧ G 10 p = tw_ce W p ∧ G 11 p = tw_wy W p ∧ G 12 p = tw_co W p
def cw_H (W : TW) (G : SgM) : Prop := ∀ s c : Nat, s < 3 → c < 10 → G 8 ((s : Int) * 10 + (c : Int)) = (sg_mk (td_hear W (s : Int) (c : Int)) (tw_n W) : Int)
def cw_Y (Y : TY) (G : SgM) : Prop := ∀ h : Nat, h < 24 → G 18 h = (sg_mk (Y.1 h) 10 : Int) ∧ G 19 h = (sg_mk (Y.2.1 h) 10 : Int) ∧ G 20 h = td_one (Y.2.2 h)
theorem sg_rnd (h m : Nat) (hh : h < 24) (hm : m < 8) : sg_iadd (sg_imul (h : Int) 6) (m : Int) = (h : Int) * 6 + (m : Int) := by rw [sg_imul_eq (by omega) (by omega), sg_iadd_eq (by omega) (by omega)]
theorem sg_rnd8 (h m : Nat) (hh : h < 24) (hm : m < 8) : sg_iadd (sg_imul (h : Int) 8) (m : Int) = (h : Int) * 8 + (m : Int) := by rw [sg_imul_eq (by omega) (by omega), sg_iadd_eq (by omega) (by omega)]
theorem sg_inc1 (m : Nat) (hm : m < 1000000) : sg_iadd (m : Int) 1 = ((m + 1 : Nat) : Int) := by rw [sg_iadd_eq (by omega) (by omega)]; omega
