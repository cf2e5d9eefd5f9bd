/-! CHANCES: what is long, what is drawn by lots -/
theorem sg_bv64 (a : Nat) : (Int64.ofInt (a : Int)).toBitVec = BitVec.ofNat 64 a := by
  rw [Int64.ofInt_eq_ofNat]
  rfl
theorem sg_bvL (v : BitVec 64) (h : v.toNat < 9223372036854775808) : v.toInt = (v.toNat : Int) := by
  rw [BitVec.toInt_eq_toNat_of_lt (by omega)]
theorem sg_toL (x : Int64) : x.toInt = x.toBitVec.toInt := rfl
theorem sg_land_1 {a : Nat} (ha : a < 9223372036854775808) : sg_land (a : Int) 1 = ((a % 2 : Nat) : Int) := by
  unfold sg_land
  have e : ((Int64.ofInt (a : Int)) &&& (Int64.ofInt (1 : Int))).toBitVec = BitVec.ofNat 64 a &&& BitVec.ofNat 64 1 := by
    rw [Int64.toBitVec_and, sg_bv64]
    rfl
  have n : (BitVec.ofNat 64 a &&& BitVec.ofNat 64 1).toNat = a % 2 := by
    rw [BitVec.toNat_and, BitVec.toNat_ofNat, BitVec.toNat_ofNat, Nat.mod_eq_of_lt (by omega), Nat.mod_eq_of_lt (by omega), Nat.and_one_is_mod]
  rw [sg_toL, e, sg_bvL _ (by rw [n]; omega), n]
theorem sg_lshr_1 {a : Nat} (ha : a < 9223372036854775808) : sg_lshr (a : Int) 1 = ((a / 2 : Nat) : Int) := by
  unfold sg_lshr
  have e : (Int64.ofInt (a : Int) >>> ((Int32.ofInt 1).toInt64 &&& 63)).toBitVec = (BitVec.ofNat 64 a).sshiftRight 1 := by
    rw [Int64.toBitVec_shiftRight, sg_bv64]
    have e2 : (((Int32.ofInt 1).toInt64 &&& 63 : Int64).toBitVec.smod 64) = BitVec.ofNat 64 1 := by decide +kernel
    rw [e2]
    rfl
  have hm : (BitVec.ofNat 64 a).msb = false := by
    rw [BitVec.msb_eq_false_iff_two_mul_lt, BitVec.toNat_ofNat, Nat.mod_eq_of_lt (by omega)]
    omega
  have n : ((BitVec.ofNat 64 a).sshiftRight 1).toNat = a / 2 := by
    rw [BitVec.sshiftRight_eq_of_msb_false hm, BitVec.toNat_ushiftRight, BitVec.toNat_ofNat, Nat.mod_eq_of_lt (by omega), Nat.shiftRight_eq_div_pow]
  rw [sg_toL, e, sg_bvL _ (by rw [n]; omega), n]
theorem sg_lshl_16 {n : Nat} (hn : n ≤ 8) : sg_lshl 1 (sg_imul 4 (n : Int)) = ((16 ^ n : Nat) : Int) := by
  have hh : ∀ n : Nat, n < 9 → sg_lshl 1 (sg_imul 4 (n : Int)) = ((16 ^ n : Nat) : Int) := by decide +kernel
  exact hh n (by omega)
theorem sg_16_le {n : Nat} (hn : n ≤ 8) : 1 ≤ 16 ^ n ∧ 16 ^ n ≤ 4294967296 := by
  have h1 : 16 ^ n ≤ 16 ^ 8 := Nat.pow_le_pow_right (by omega) hn
  have h0 : 0 < 16 ^ n := Nat.pow_pos (by omega)
  exact ⟨h0, h1⟩
/-- bits of a choice below n -/
def tc_n (n w : Nat) : Nat := (td_sum (fun i => td_one (w.testBit i)) n).toNat
theorem tc_n_in (n w : Nat) : (tc_n n w : Int) = td_sum (fun i => td_one (w.testBit i)) n ∧ tc_n n w ≤ n := by
  have := td_sum_in (f := fun i => td_one (w.testBit i)) (b := 1) (fun i => td_one_in _) n
  unfold tc_n
  omega
theorem tc_n_ibc {n w : Nat} (hn : n ≤ 8) (hw : w < 2 ^ n) : sg_ibc (w : Int) = (tc_n n w : Int) := by
  have h2 : 2 ^ n ≤ 2 ^ 8 := Nat.pow_le_pow_right (by omega) hn
  have e : w = sg_mk (fun i => w.testBit i) n := by
    apply sg_mk_eq
    intro i
    by_cases q : i < n
    · rw [decide_eq_true q, Bool.true_and]
    · rw [decide_eq_false q, Bool.false_and]
      exact Nat.testBit_lt_two_pow (Nat.lt_of_lt_of_le hw (Nat.pow_le_pow_right (by omega) (by omega)))
  have e1 := sg_ibc_mk (f := fun i => w.testBit i) hn
  rw [← e] at e1
  rw [e1]
  exact (tc_n_in n w).1.symm
theorem te_all_eq {E : TE} (hE : TEok E) : te_all E + 1 = 2 ^ E.1 := by
  have h0 : 0 < 2 ^ E.1 := Nat.two_pow_pos E.1
  have : 2 ^ E.1 - 1 = te_all E := by
    unfold te_all
    apply sg_mk_eq
    intro i
    rw [Nat.testBit_two_pow_sub_one]
    simp
  omega
/-- what a choice of k weighs, after e events -/
def tc_w (c : Int) (k : Nat) : Nat → Int
  | 0 => 1
  | e + 1 => tc_w c k e * (if e < k then c else 16 - c)
theorem tc_w_in {c : Int} (hc : 0 ≤ c ∧ c ≤ 16) (k : Nat) : ∀ e : Nat, 0 ≤ tc_w c k e ∧ tc_w c k e ≤ ((16 ^ e : Nat) : Int)
  | 0 => by unfold tc_w; omega
  | e + 1 => by
    have ih := tc_w_in hc k e
    have hf : 0 ≤ (if e < k then c else 16 - c) ∧ (if e < k then c else 16 - c) ≤ 16 := by split <;> omega
    unfold tc_w
    refine ⟨Int.mul_nonneg ih.1 hf.1, ?_⟩
    have := Int.mul_le_mul ih.2 hf.2 hf.1 (Int.natCast_nonneg _)
    rw [Nat.pow_succ, Int.natCast_mul]
    exact this
theorem tc_w_s (c : Int) (k e : Nat) : tc_w c k (e + 1) = tc_w c k e * (if e < k then c else 16 - c) := rfl
theorem c_C_weigh {d N : Nat} (hN : 75 ≤ N) {c : Int} (hc : 0 ≤ c ∧ c ≤ 16) {n : Nat} (hn : n ≤ 8) {G : SgM} {Q : Int → SgM → Prop}
    (post : ∀ G', (∀ c' : Int, c' ≠ 62 → ∀ i, G' c' i = G c' i) → (∀ k : Nat, k ≤ n → G' 62 k = tc_w c k n) → Q 0 G') : sg_Wp 0 N d m_C_weigh 0 [(0, 2, 61), (1, 0, c), (2, 0, (n : Int))] [] G Q := by
  have loop : ∀ (u m : Nat), m + u = n + 1 → ∀ G1 : SgM, (∀ c' : Int, c' ≠ 62 → ∀ i, G1 c' i = G c' i) → (∀ k : Nat, k < m → G1 62 k = tc_w c k n) → sg_Wp 0 N d m_C_weigh 2 [(0, 2, 61), (1, 0, c), (2, 0, (n : Int)), (3, 0, (m : Int))] [] G1 Q := by
    intro u
    induction u with
    | zero =>
      intro m hm G1 f1 f2
      exact g_C_weigh_61_2 hN ⟨fun _ => post G1 f1 (fun k hk => f2 k (by omega)), fun q => absurd (by omega) q⟩
    | succ u ih =>
      intro m hm G1 f1 f2
      refine g_C_weigh_61_2 hN ⟨fun q => absurd q (by omega), fun _ => ⟨fun q => absurd q (by omega), fun _ => ?_⟩⟩
      have inner : ∀ (w j : Nat), j + w = n → sg_Wp 0 N d m_C_weigh 22 [(0, 2, 61), (1, 0, c), (2, 0, (n : Int)), (3, 0, (m : Int)), (4, 1, tc_w c m j), (6, 0, (j : Int))] [] G1 Q := by
        intro w
        induction w with
        | zero =>
          intro j hj
          have ej : j = n := by omega
          subst ej
          refine g_C_weigh_61_22 hN ⟨fun _ => ⟨by omega, ?_⟩, fun q => absurd (by omega) q⟩
          rw [sg_inc1 m (by omega)]
          refine ih (m + 1) (by omega) _ (fun c' x i => by rw [sg_upc x]; exact f1 c' x i) (fun k hk => ?_)
          by_cases e : k = m
          · subst e
            exact sg_up_at
          · rw [sg_upi (by omega)]
            exact f2 k (by omega)
        | succ w ihw =>
          intro j hj
          have ihw := ihw (j + 1) (by omega)
          have b := tc_w_in hc m (j + 1)
          have b16 := sg_16_le (n := j + 1) (by omega)
          rw [tc_w_s] at ihw b
          refine g_C_weigh_61_22 hN ⟨fun q => absurd q (by omega), fun _ => ⟨fun q => ?_, fun q => ?_⟩⟩
          · rw [if_neg (by omega)] at ihw b
            rw [sg_inc1 j (by omega), sg_isub_eq (by omega) (by omega), sg_lmul_eq (by omega) (by omega)]
            exact ihw
          · rw [if_pos (by omega)] at ihw b
            rw [sg_inc1 j (by omega), sg_lmul_eq (by omega) (by omega)]
            exact ihw
      exact inner n 0 (by omega)
  exact g_C_weigh_61_0 hN (loop (n + 1) 0 (by omega) G (fun _ _ _ => rfl) (fun k hk => absurd hk (Nat.not_lt_zero _)))
/-- halving while both are even and what is below is more than 1 -/
def tc_red : Nat → Nat → Nat → Nat × Nat
  | 0, a, b => (a, b)
  | f + 1, a, b => if b ≤ 1 then (a, b) else if a % 2 = 0 then tc_red f (a / 2) (b / 2) else (a, b)
def tc_t (W : TW) (E : TE) (c : Int) (q w : Nat) : Int := if q < tw_n W ∧ td_fg W (ty_of E w) 24 q = true then tc_w c (tc_n E.1 w) E.1 else 0
def tc_above (W : TW) (E : TE) (c : Int) (q : Nat) : Nat → Int := td_sum (tc_t W E c q)
theorem tc_t_in {W : TW} {E : TE} (hE : TEok E) {c : Int} (hc : 0 ≤ c ∧ c ≤ 16) (q w : Nat) : 0 ≤ tc_t W E c q w ∧ tc_t W E c q w ≤ 4294967296 := by
  have := tc_w_in hc (tc_n E.1 w) E.1
  have b16 := sg_16_le hE.1
  unfold tc_t
  split <;> omega
/-- the fraction: above, below -/
def tc_frac (W : TW) (E : TE) (c : Int) (q : Nat) : Nat × Nat := tc_red 64 (tc_above W E c q (2 ^ E.1)).toNat (16 ^ E.1)
def tc_fr (W : TW) (E : TE) (c : Int) (q : Nat) (what : Int) : Int := if what = 0 then ((tc_frac W E c q).1 : Int) else ((tc_frac W E c q).2 : Int)
theorem c_C_red {d N : Nat} (hN : 75 ≤ N) {what : Int} {G : SgM} {Q : Int → SgM → Prop} : ∀ (f m a b : Nat), m + f = 64 → a < 9223372036854775808 → b < 9223372036854775808 → Q (if what = 0 then ((tc_red f a b).1 : Int) else ((tc_red f a b).2 : Int)) G →
    sg_Wp 0 N (d + 1) m_C_fraction 102 [(3, 0, what), (5, 1, (a : Int)), (7, 1, (b : Int)), (9, 0, (m : Int))] [] G Q := by
  intro f
  have out : ∀ a b : Nat, Q (if what = 0 then (a : Int) else (b : Int)) G → sg_Wp 0 N (d + 1) m_C_fraction 143 [(3, 0, what), (5, 1, (a : Int)), (7, 1, (b : Int))] [] G Q := fun a b h => g_C_fraction_61_143 hN ⟨fun q => by rw [if_neg q] at h; exact h, fun q => by rw [if_pos (Decidable.not_not.mp q)] at h; exact h⟩
  induction f with
  | zero =>
    intro m a b hm ha hb h
    exact g_C_fraction_61_102 hN ⟨fun _ => out a b h, fun q => absurd (by omega) q⟩
  | succ f ih =>
    intro m a b hm ha hb h
    have l1 : sg_lcmp (b : Int) 1 ≤ 0 ↔ b ≤ 1 := by
      unfold sg_lcmp
      split
      · omega
      · split <;> omega
    have l2 : sg_lcmp (sg_land (a : Int) 1) 0 ≠ 0 ↔ a % 2 ≠ 0 := by
      rw [sg_land_1 ha]
      unfold sg_lcmp
      split
      · omega
      · split <;> omega
    unfold tc_red at h
    refine g_C_fraction_61_102 hN ⟨fun q => absurd q (by omega), fun _ => ⟨fun q => out a b ?_, fun q => ⟨fun q2 => out a b ?_, fun q2 => ?_⟩⟩⟩
    · rw [if_pos (l1.mp q)] at h
      exact h
    · rw [if_neg (fun z => q (l1.mpr z)), if_neg (l2.mp q2)] at h
      exact h
    · rw [if_neg (fun z => q (l1.mpr z)), if_pos (Decidable.not_not.mp (fun z => q2 (l2.mpr z)))] at h
      rw [sg_lshr_1 ha, sg_lshr_1 hb, sg_inc1 m (by omega)]
      exact ih (m + 1) (a / 2) (b / 2) (by omega) (by omega) (by omega) h
theorem c_C_fraction {d N : Nat} (hN : 75 ≤ N) {T0 T1 : TT} {E : TE} (ok : cKok T0 T1 E) {c what : Int} (hc : 0 ≤ c ∧ c ≤ 16) {q : Nat} (hq : q < 8) {G : SgM} {Q : Int → SgM → Prop} (ck : cK T0 T1 E G)
    (post : ∀ G', (∀ c' : Int, (c' < 18 ∨ (21 ≤ c' ∧ c' ≤ 31) ∨ 43 < c') → c' ≠ 62 → ∀ i, G' c' i = G c' i) → cK T0 T1 E G' → Q (tc_fr (tw_of T0 T1) E c q what) G') : sg_Wp 0 N (d + 4) m_C_fraction 0 [(0, 2, 61), (1, 0, c), (2, 0, (q : Int)), (3, 0, what)] [] G Q := by
  have hN4 : 44 ≤ N := Nat.le_trans (by decide) hN
  have hE := ok.2.2
  have hn := hE.1
  have hW := tw_of_ok ok.1 ok.2.1
  have hall := te_all_eq hE
  have hal := te_all_lt hE
  have b16 := sg_16_le hE.1
  have hsum : ∀ m : Nat, m ≤ 256 → 0 ≤ tc_above (tw_of T0 T1) E c q m ∧ tc_above (tw_of T0 T1) E c q m ≤ 1099511627776 := by
    intro m hm
    have := td_sum_in (f := tc_t (tw_of T0 T1) E c q) (b := 4294967296) (fun w => tc_t_in hE hc q w) m
    refine ⟨this.1, Int.le_trans this.2 (by omega)⟩
  have e13 : G 13 0 = (E.1 : Int) := ck.1.1.2.2.1
  refine g_C_fraction_61_0 hN ?_
  rw [e13]
  refine c_C_weigh hN hc hn (fun G1 f1 f2 => ?_)
  have loop : ∀ (u m : Nat), m + u = 2 ^ E.1 → ∀ G2 : SgM, (∀ c' : Int, (c' < 18 ∨ (21 ≤ c' ∧ c' ≤ 31) ∨ 43 < c') → c' ≠ 62 → ∀ i, G2 c' i = G c' i) → (∀ k : Nat, k ≤ E.1 → G2 62 k = tc_w c k E.1) → cK T0 T1 E G2 →
      sg_Wp 0 N (d + 4) m_C_fraction 25 [(0, 2, 61), (2, 0, (q : Int)), (3, 0, what), (4, 0, (E.1 : Int)), (5, 1, tc_above (tw_of T0 T1) E c q m), (7, 0, (m : Int))] [] G2 Q := by
    intro u
    induction u with
    | zero =>
      intro m hm G2 k1 k2 k3
      have em : m = 2 ^ E.1 := by omega
      refine g_C_fraction_61_25 hN (c_E_every_13 hN4 hE k3.1.1.2.2 ⟨fun _ => ?_, fun q => absurd (by omega) q⟩)
      have hs := hsum m (by omega)
      rw [sg_lshl_16 hn]
      have ea : tc_above (tw_of T0 T1) E c q m = ((tc_above (tw_of T0 T1) E c q m).toNat : Int) := by omega
      rw [ea]
      refine c_C_red hN 64 0 _ _ (by omega) (by omega) (by omega) ?_
      have := post G2 k1 k3
      rw [em]
      exact this
    | succ u ih =>
      intro m hm G2 k1 k2 k3
      have ih := ih (m + 1) (by omega)
      have hs := hsum m (by omega)
      have ht := tc_t_in (W := tw_of T0 T1) hE hc q m
      have es : tc_above (tw_of T0 T1) E c q (m + 1) = tc_above (tw_of T0 T1) E c q m + tc_t (tw_of T0 T1) E c q m := rfl
      have eb := tc_n_ibc (n := E.1) (w := m) hn (by omega)
      have en := tc_n_in E.1 m
      rw [es] at ih
      refine g_C_fraction_61_25 hN (c_E_every_13 hN4 hE k3.1.1.2.2 ⟨fun q => absurd q (by omega), fun _ => ⟨fun q => absurd q (by rw [eb]; omega), fun _ => c_K_forg (d := d) (w := m) hN4 ok (by omega) k3 (fun G3 a k4 => ?_)⟩⟩)
      have j1 : ∀ c' : Int, (c' < 18 ∨ (21 ≤ c' ∧ c' ≤ 31) ∨ 43 < c') → c' ≠ 62 → ∀ i, G3 c' i = G c' i := fun c' x1 x2 i => by rw [a c' x1]; exact k1 c' x1 x2 i
      have j2 : ∀ k : Nat, k ≤ E.1 → G3 62 k = tc_w c k E.1 := fun k hk => by rw [a 62 (by omega)]; exact k2 k hk
      have n8 := hW.1
      unfold td_fgm
      rw [sg_inc1 m (by omega)]
      refine ⟨fun q2 => ⟨by rw [eb]; omega, ?_⟩, fun q2 => ?_⟩
      · have hb := (sg_mk_hb (by omega) (by omega)).mp q2
        rw [eb, j2 _ en.2]
        have et : tc_t (tw_of T0 T1) E c q m = tc_w c (tc_n E.1 m) E.1 := by unfold tc_t; exact if_pos hb
        rw [← et, sg_ladd_eq (by omega) (by omega)]
        exact ih G3 j1 j2 k4
      · have et : tc_t (tw_of T0 T1) E c q m = 0 := by unfold tc_t; exact if_neg (fun z => q2 ((sg_mk_hb (by omega) (by omega)).mpr z))
        rw [et, Int.add_zero] at ih
        exact ih G3 j1 j2 k4
  exact loop (2 ^ E.1) 0 (by omega) G1 (fun c' x1 x2 i => f1 c' x2 i) f2 (ck.fr (fun c' x i => f1 c' (by omega) i))
