/-! THE REFERENCE: chance -/
theorem sg_ldiv_eq {a b : Nat} (ha : a < 9223372036854775808) (hb : b < 9223372036854775808) : sg_ldiv (a : Int) (b : Int) = ((a / b : Nat) : Int) := by
  unfold sg_ldiv
  rw [Int64.toInt_div, sg_to64 (by omega) (by omega), sg_to64 (by omega) (by omega), Int.tdiv_eq_ediv_of_nonneg (by omega), ← Int.natCast_ediv]
  have : a / b ≤ a := Nat.div_le_self a b
  generalize a / b = t at this ⊢
  exact Int.bmod_eq_of_le (by omega) (by omega)
theorem sg_lrem_eq {a b : Nat} (ha : a < 9223372036854775808) (hb : b < 9223372036854775808) : sg_lrem (a : Int) (b : Int) = ((a % b : Nat) : Int) := by
  have q : Int64.ofInt (a : Int) / Int64.ofInt (b : Int) = Int64.ofInt ((a / b : Nat) : Int) := by
    have h := sg_ldiv_eq ha hb
    unfold sg_ldiv at h
    rw [← h, Int64.ofInt_toInt]
  unfold sg_lrem
  rw [q, ← Int64.ofInt_mul, ← Int64.ofInt_sub]
  have e : (a : Int) - ((a / b : Nat) : Int) * (b : Int) = ((a % b : Nat) : Int) := by
    have h1 := Nat.div_add_mod a b
    have h2 : ((a / b : Nat) : Int) * (b : Int) = ((b * (a / b) : Nat) : Int) := by rw [Nat.mul_comm, Int.natCast_mul]
    rw [h2]
    omega
  rw [e]
  have : a % b ≤ a := Nat.mod_le a b
  exact sg_to64 (by omega) (by omega)
theorem c_M_part {d : Nat} {a b : Nat} (ha : a < 9223372036854775808) (hb : b < 9223372036854775808) (hb0 : 0 < b) {w : Int} {G : SgM} {Q : Int → SgM → Prop}
    (post : Q (if w = 0 then ((a / Nat.gcd a b : Nat) : Int) else ((b / Nat.gcd a b : Nat) : Int)) G) : sg_Wp 200 228 d m_M_part 0 [(0, 1, (a : Int)), (2, 1, (b : Int)), (4, 0, w)] [] G Q := by
  have g0 : 0 < Nat.gcd a b := Nat.gcd_pos_of_pos_right a hb0
  have loop : ∀ (n x y : Nat), y < n → x < 9223372036854775808 → y < 9223372036854775808 → Nat.gcd x y = Nat.gcd a b → sg_Wp 200 228 d m_M_part 6 [(0, 1, (a : Int)), (2, 1, (b : Int)), (4, 0, w), (5, 1, (x : Int)), (7, 1, (y : Int))] [] G Q := by
    intro n
    induction n with
    | zero => intro x y h; exact absurd h (Nat.not_lt_zero _)
    | succ n ih =>
      intro x y hn hx hy hg
      have l1 : sg_lcmp (y : Int) 0 = 0 ↔ y = 0 := by
        unfold sg_lcmp
        split
        · omega
        · split <;> omega
      refine g_M_part_6 ⟨fun z => ?_, fun z => ⟨fun e => z (by rw [e]; rfl), ?_⟩⟩
      · have y0 := l1.mp z
        subst y0
        rw [Nat.gcd_zero_right] at hg
        subst hg
        refine ⟨fun h => ⟨by omega, ?_⟩, fun h => ⟨by omega, ?_⟩⟩
        · rw [if_neg h] at post
          rw [sg_ldiv_eq hb hx]
          exact post
        · rw [if_pos (Decidable.not_not.mp h)] at post
          rw [sg_ldiv_eq ha hx]
          exact post
      · have y0 : 0 < y := Nat.pos_of_ne_zero (fun e => z (l1.mpr e))
        have hm := Nat.mod_lt x y0
        rw [sg_lrem_eq hx hy]
        refine ih y (x % y) (by omega) hy (by omega) ?_
        rw [← hg, Nat.gcd_comm x y, Nat.gcd_rec y x, Nat.gcd_comm]
  exact g_M_part_0 (loop (b + 1) a b (by omega) ha hb rfl)
theorem tc_red_gcd : ∀ (j f a : Nat), j ≤ f → tc_red f a (2 ^ j) = (a / Nat.gcd a (2 ^ j), 2 ^ j / Nat.gcd a (2 ^ j))
  | 0, f, a, _ => by
    have e : tc_red f a (2 ^ 0) = (a, 1) := by
      cases f with
      | zero => rfl
      | succ f => unfold tc_red; rw [if_pos (by decide)]
    rw [e, show (2 : Nat) ^ 0 = 1 from rfl, Nat.gcd_one_right, Nat.div_one, Nat.div_one]
  | j + 1, 0, a, h => absurd h (by omega)
  | j + 1, f + 1, a, h => by
    have p : 0 < 2 ^ j := Nat.two_pow_pos j
    have e2 : 2 ^ (j + 1) = 2 * 2 ^ j := by rw [Nat.pow_succ, Nat.mul_comm]
    unfold tc_red
    rw [if_neg (by omega)]
    by_cases c : a % 2 = 0
    · rw [if_pos c]
      have ea : a = 2 * (a / 2) := by omega
      have eb : 2 ^ (j + 1) / 2 = 2 ^ j := by omega
      rw [eb, tc_red_gcd j f (a / 2) (by omega)]
      have eg : Nat.gcd a (2 ^ (j + 1)) = 2 * Nat.gcd (a / 2) (2 ^ j) := by
        rw [e2]
        conv => lhs; rw [ea]
        exact Nat.gcd_mul_left 2 (a / 2) (2 ^ j)
      rw [eg, ← Nat.div_div_eq_div_mul, ← Nat.div_div_eq_div_mul, eb]
    · rw [if_neg c]
      have h1 : Nat.Coprime a 2 := by
        show Nat.gcd a 2 = 1
        rw [Nat.gcd_comm, Nat.gcd_rec, show a % 2 = 1 by omega]
        rfl
      have h2 : Nat.gcd a (2 ^ (j + 1)) = 1 := Nat.Coprime.pow_right (j + 1) h1
      rw [h2, Nat.div_one, Nat.div_one]
/-- the weight, event by event -/
def tc_p (c : Int) (w : Nat) : Nat → Int
  | 0 => 1
  | e + 1 => tc_p c w e * (if w.testBit e = true then c else 16 - c)
theorem tc_p_s (c : Int) (w e : Nat) : tc_p c w (e + 1) = tc_p c w e * (if w.testBit e = true then c else 16 - c) := rfl
theorem tc_w_k (c : Int) : ∀ (e k k' : Nat), e ≤ k → e ≤ k' → tc_w c k e = tc_w c k' e
  | 0, _, _, _, _ => rfl
  | e + 1, k, k', h, h' => by rw [tc_w_s, tc_w_s, tc_w_k c e k k' (by omega) (by omega), if_pos (by omega), if_pos (by omega)]
theorem tc_w_up (c : Int) : ∀ (e k : Nat), k ≤ e → tc_w c (k + 1) (e + 1) = tc_w c k e * c
  | 0, k, h => by
    have : k = 0 := by omega
    subst this
    rfl
  | e + 1, k, h => by
    by_cases z : k = e + 1
    · subst z
      rw [tc_w_s, if_pos (by omega), tc_w_k c (e + 1) (e + 1 + 1) (e + 1) (by omega) (by omega)]
    · rw [tc_w_s, if_neg (by omega), tc_w_up c e k (by omega), tc_w_s c k e, if_neg (by omega), Int.mul_right_comm]
theorem tc_n_s (e w : Nat) : tc_n (e + 1) w = tc_n e w + (if w.testBit e = true then 1 else 0) := by
  have h1 := (tc_n_in (e + 1) w).1
  have h2 := (tc_n_in e w).1
  have h3 : td_sum (fun i => td_one (w.testBit i)) (e + 1) = td_sum (fun i => td_one (w.testBit i)) e + td_one (w.testBit e) := rfl
  have h4 : td_one (w.testBit e) = ((if w.testBit e = true then 1 else 0 : Nat) : Int) := by
    unfold td_one
    split <;> rfl
  omega
theorem tc_p_w (c : Int) (w : Nat) : ∀ e : Nat, tc_p c w e = tc_w c (tc_n e w) e
  | 0 => rfl
  | e + 1 => by
    have hk := (tc_n_in e w).2
    rw [tc_p_s, tc_n_s, tc_p_w c w e]
    by_cases b : w.testBit e = true
    · rw [if_pos b, if_pos b, tc_w_up c e _ hk]
    · rw [if_neg b, if_neg b, Nat.add_zero, tc_w_s, if_neg (by omega)]
theorem td_sum_front (f : Nat → Int) : ∀ n : Nat, td_sum f (n + 1) = f 0 + td_sum (fun i => f (i + 1)) n
  | 0 => by show 0 + f 0 = f 0 + 0; omega
  | n + 1 => by
    show td_sum f (n + 1) + f (n + 1) = f 0 + (td_sum (fun i => f (i + 1)) n + f (n + 1))
    rw [td_sum_front f n]
    omega
theorem td_sum_rev (f : Nat → Int) : ∀ n : Nat, td_sum (fun i => f (n - (i + 1))) n = td_sum f n
  | 0 => rfl
  | n + 1 => by
    rw [td_sum_front]
    show f (n + 1 - (0 + 1)) + td_sum (fun i => f (n + 1 - (i + 1 + 1))) n = td_sum f n + f n
    have e : td_sum (fun i => f (n + 1 - (i + 1 + 1))) n = td_sum (fun i => f (n - (i + 1))) n := td_sum_congr (fun i _ => by rw [show n + 1 - (i + 1 + 1) = n - (i + 1) by omega])
    rw [e, td_sum_rev f n, show n + 1 - (0 + 1) = n by omega]
    omega
theorem tc_bit_nat {g n i : Nat} (hg : g < 2 ^ n) (hn : n ≤ 30) (hi : i < 31) : sg_iand (sg_ishr (g : Int) (i : Int)) 1 = 1 ↔ g.testBit i = true := by
  have e : g = sg_mk (fun i => g.testBit i) n := sg_mk_eq (fun i => by
    by_cases h : i < n
    · rw [decide_eq_true h, Bool.true_and]
    · rw [decide_eq_false h, Bool.false_and]
      exact Nat.testBit_lt_two_pow (Nat.lt_of_lt_of_le hg (Nat.pow_le_pow_right (by omega) (by omega))))
  have m := sg_mk_hb1 (f := fun i => g.testBit i) (n := n) (i := i) hn hi
  rw [← e] at m
  refine ⟨fun z => (m.mp z).2, fun z => m.mpr ⟨?_, z⟩⟩
  exact Decidable.byContradiction (fun h => by
    have : g.testBit i = false := Nat.testBit_lt_two_pow (Nat.lt_of_lt_of_le hg (Nat.pow_le_pow_right (by omega) (by omega)))
    rw [this] at z
    exact absurd z (by decide))
theorem c_M_chanceOf {d : Nat} {A : TA} (ok : TAok A) {c : Int} (hc : 0 ≤ c ∧ c ≤ 16) {q : Nat} (hq : q < tw_n (a_W A)) {w : Int} {G : SgM} {Q : Int → SgM → Prop} (cn : cN A G)
    (post : ∀ G', cm_fe G G' → Q (tc_fr (a_W A) (a_E A) c q w) G') : sg_Wp 200 228 (d + 5) m_M_chanceOf 0 [(0, 2, 200), (1, 0, c), (2, 0, (q : Int)), (3, 0, w)] [] G Q := by
  have hE : TEok (a_E A) := ok.1.2.2
  have hn := hE.1
  have n8 := ok.w.1
  have b16 := sg_16_le hE.1
  have e256 : 2 ^ (a_E A).1 ≤ 2 ^ 8 := Nat.pow_le_pow_right (by omega) hn
  have hsum : ∀ m : Nat, m ≤ 256 → 0 ≤ td_sum (fun s => tc_t (a_W A) (a_E A) c q (2 ^ (a_E A).1 - (s + 1))) m ∧ td_sum (fun s => tc_t (a_W A) (a_E A) c q (2 ^ (a_E A).1 - (s + 1))) m ≤ 1099511627776 := by
    intro m hm
    have := td_sum_in (f := fun s => tc_t (a_W A) (a_E A) c q (2 ^ (a_E A).1 - (s + 1))) (b := 4294967296) (fun w => tc_t_in hE hc q _) m
    refine ⟨this.1, Int.le_trans this.2 (by omega)⟩
  have loop : ∀ (u m : Nat), m + u = 2 ^ (a_E A).1 → ∀ G1 : SgM, cm_fe G (sg_up G1 200 13 0) → sg_Wp 200 228 (d + 5) m_M_chanceOf 6 [(0, 2, 200), (1, 0, c), (2, 0, (q : Int)), (3, 0, w), (4, 1, td_sum (fun s => tc_t (a_W A) (a_E A) c q (2 ^ (a_E A).1 - (s + 1))) m), (6, 0, (m : Int))] [] G1 Q := by
    intro u
    induction u with
    | zero =>
      intro m hm G1 f
      have em : m = 2 ^ (a_E A).1 := by omega
      have g11 : sg_up G1 200 13 0 200 11 = ((a_E A).1 : Int) := by rw [f.2 11 (by omega) (by omega) (by omega)]; exact cn.1.2.1.1
      have g11' : G1 200 11 = ((a_E A).1 : Int) := by rw [sg_upi (by omega)] at g11; exact g11
      refine g_M_chanceOf_6 ⟨fun _ => ?_, fun z => absurd (by rw [g11', sg_shl1 (by omega)]; omega) z⟩
      have hs := hsum m (by omega)
      rw [g11, sg_lshl_16 hn]
      have ea : td_sum (fun s => tc_t (a_W A) (a_E A) c q (2 ^ (a_E A).1 - (s + 1))) m = tc_above (a_W A) (a_E A) c q (2 ^ (a_E A).1) := by
        rw [em]
        exact td_sum_rev (tc_t (a_W A) (a_E A) c q) _
      rw [ea] at hs ⊢
      have ez : tc_above (a_W A) (a_E A) c q (2 ^ (a_E A).1) = ((tc_above (a_W A) (a_E A) c q (2 ^ (a_E A).1)).toNat : Int) := by omega
      rw [ez]
      have po := post _ f
      refine c_M_part (d := d + 4) (by omega) (by omega) (by omega) ?_
      unfold tc_fr tc_frac at po
      have e2 : (16 : Nat) ^ (a_E A).1 = 2 ^ (4 * (a_E A).1) := by rw [Nat.pow_mul]
      rw [e2, tc_red_gcd _ _ _ (by omega), ← e2] at po
      exact po
    | succ u ih =>
      intro m hm G1 f
      have ih := ih (m + 1) (by omega)
      have hmb : m < 2 ^ (a_E A).1 := by omega
      have cn1 := cn.fe f
      have g11 : sg_up G1 200 13 0 200 11 = ((a_E A).1 : Int) := cn1.1.2.1.1
      have g11' : G1 200 11 = ((a_E A).1 : Int) := by rw [sg_upi (by omega)] at g11; exact g11
      have k : ∀ v : Int, ∀ c i : Int, (c ≠ 200 ∨ i ≠ 13) → sg_up G1 200 13 v c i = sg_up G1 200 13 0 c i := fun v c i x => by
        by_cases e : c = 200
        · subst e; rw [sg_upi (by omega), sg_upi (by omega)]
        · rw [sg_upc e, sg_upc e]
      have cw : cm_W (a_W A) (sg_up G1 200 13 (m : Int)) := ⟨⟨by rw [k _ 200 7 (by omega)]; exact cn1.2.1.1, fun q hq => by rw [k _ 207 _ (by omega), k _ 207 _ (by omega)]; exact cn1.2.1.2 q hq⟩, by rw [k _ 200 9 (by omega)]; exact cn1.2.2.1, fun p hp => by rw [k _ 208 _ (by omega), k _ 208 _ (by omega), k _ 208 _ (by omega), k _ 208 _ (by omega)]; exact cn1.2.2.2 p hp⟩
      have ce : cm_E (a_E A) (sg_up G1 200 13 (m : Int)) := ⟨by rw [k _ 200 11 (by omega)]; exact cn1.1.2.1.1, fun e he => by rw [k _ 209 _ (by omega), k _ 209 _ (by omega), k _ 209 _ (by omega)]; exact cn1.1.2.1.2 e he⟩
      have hw : ∀ e : Nat, e < (a_E A).1 → (2 ^ (a_E A).1 - (m + 1)).testBit e = !m.testBit e := fun e he => by
        rw [Nat.testBit_two_pow_sub_succ hmb, decide_eq_true he, Bool.true_and]
      have e : tm_Y (a_E A) (m, -1, G1 200 15, G1 200 16) = ty_of (a_E A) (2 ^ (a_E A).1 - (m + 1)) := tm_Y_of rfl hw
      refine g_M_chanceOf_6 ⟨fun z => absurd z (by rw [g11', sg_shl1 (by omega)]; omega), fun _ => c_M_lives (d := d) (E := a_E A) (O := (m, -1, G1 200 15, G1 200 16)) hE (show m < 2147483648 by omega) ok.w cw ce ⟨sg_up_at, by rw [k _ 200 14 (by omega)]; exact cn1.1.2.2.1.2, by rw [sg_upi (by omega)], by rw [sg_upi (by omega)]⟩ (fun G2 a b => ?_)⟩
      rw [e] at b
      refine c_M_forgottenNow ok.w (by rw [a 200 (by omega)]; exact cw.pst) b.2.2 ?_
      have f2 : cm_fe G (sg_up G2 200 13 0) := by
        refine f.trans ⟨fun c x y z t i => by rw [sg_upc y, sg_upc y, a c x, sg_upc y], fun i x y z => ?_⟩
        by_cases ei : i = 13
        · subst ei; rw [sg_up_at, sg_up_at]
        · rw [sg_upi ei, a 200 (by omega), sg_upi ei, sg_upi ei]
      have g2 : G2 200 11 = ((a_E A).1 : Int) := by rw [a 200 (by omega), sg_upi (by omega)]; exact g11'
      have hs := hsum m (by omega)
      have ht := tc_t_in (W := a_W A) hE hc q (2 ^ (a_E A).1 - (m + 1))
      have es : td_sum (fun s => tc_t (a_W A) (a_E A) c q (2 ^ (a_E A).1 - (s + 1))) (m + 1) = td_sum (fun s => tc_t (a_W A) (a_E A) c q (2 ^ (a_E A).1 - (s + 1))) m + tc_t (a_W A) (a_E A) c q (2 ^ (a_E A).1 - (m + 1)) := rfl
      have ih := ih G2 f2
      rw [es] at ih
      have inner : ∀ t : Int, (t = 0 ∨ t = 1) → tc_t (a_W A) (a_E A) c q (2 ^ (a_E A).1 - (m + 1)) = t * tc_p c (2 ^ (a_E A).1 - (m + 1)) (a_E A).1 → ∀ (x j : Nat), j + x = (a_E A).1 →
          sg_Wp 200 228 (d + 5) m_M_chanceOf 48 [(0, 2, 200), (1, 0, c), (2, 0, (q : Int)), (3, 0, w), (4, 1, td_sum (fun s => tc_t (a_W A) (a_E A) c q (2 ^ (a_E A).1 - (s + 1))) m), (6, 0, (m : Int)), (7, 1, t * tc_p c (2 ^ (a_E A).1 - (m + 1)) j), (9, 0, (j : Int))] [] G2 Q := by
        intro t t01 tt x
        induction x with
        | zero =>
          intro j hj
          have ej : j = (a_E A).1 := by omega
          subst ej
          refine g_M_chanceOf_48 ⟨fun _ => ?_, fun z => absurd (by rw [g2]; omega) z⟩
          rw [← tt, sg_ladd_eq (by omega) (by omega), sg_inc1 m (by omega)]
          exact ih
        | succ x ihx =>
          intro j hj
          have ihx := ihx (j + 1) (by omega)
          rw [tc_p_s, ← Int.mul_assoc] at ihx
          have pb := tc_w_in hc (tc_n j (2 ^ (a_E A).1 - (m + 1))) j
          rw [← tc_p_w] at pb
          have p16 : (16 : Nat) ^ j ≤ 16 ^ 8 := Nat.pow_le_pow_right (by omega) (by omega)
          have tb : 0 ≤ t * tc_p c (2 ^ (a_E A).1 - (m + 1)) j ∧ t * tc_p c (2 ^ (a_E A).1 - (m + 1)) j ≤ 4294967296 := by
            rcases t01 with e0 | e0
            · rw [e0, Int.zero_mul]; omega
            · rw [e0, Int.one_mul]; omega
          generalize t * tc_p c (2 ^ (a_E A).1 - (m + 1)) j = y at tb ihx ⊢
          have mulb : ∀ z : Int, 0 ≤ z → z ≤ 16 → 0 ≤ y * z ∧ y * z ≤ 4294967296 * 16 := fun z z0 z1 => ⟨Int.mul_nonneg tb.1 z0, Int.mul_le_mul tb.2 z1 z0 (by omega)⟩
          have bit := tc_bit_nat (g := m) (n := (a_E A).1) (i := j) hmb (by omega) (by omega)
          have hwj := hw j (by omega)
          refine g_M_chanceOf_48 ⟨fun z => absurd z (by rw [g2]; omega), fun _ => ⟨fun z => ?_, fun z => ?_⟩⟩
          · rw [bit.mp z] at hwj
            rw [if_neg (by rw [hwj]; decide)] at ihx
            have mb := mulb (16 - c) (by omega) (by omega)
            rw [sg_isub_eq (by omega) (by omega), sg_lmul_eq (by omega) (by omega), sg_inc1 j (by omega)]
            exact ihx
          · have mf : m.testBit j = false := Bool.of_not_eq_true (fun y => z (bit.mpr y))
            rw [mf] at hwj
            rw [if_pos (by rw [hwj]; decide)] at ihx
            have mb := mulb c hc.1 hc.2
            rw [sg_lmul_eq (by omega) (by omega), sg_inc1 j (by omega)]
            exact ihx
      have bitq := sg_mk_hb1 (f := td_fg (a_W A) (ty_of (a_E A) (2 ^ (a_E A).1 - (m + 1))) 24) (n := tw_n (a_W A)) (i := q) (by omega) (by omega)
      have etc : tc_t (a_W A) (a_E A) c q (2 ^ (a_E A).1 - (m + 1)) = if q < tw_n (a_W A) ∧ td_fg (a_W A) (ty_of (a_E A) (2 ^ (a_E A).1 - (m + 1))) 24 q = true then tc_w c (tc_n (a_E A).1 (2 ^ (a_E A).1 - (m + 1))) (a_E A).1 else 0 := rfl
      unfold td_fgm
      refine ⟨fun z => ?_, fun z => ?_⟩
      · rw [if_pos (bitq.mp z), ← tc_p_w] at etc
        have r := inner 1 (Or.inr rfl) (by rw [etc, Int.one_mul]) (a_E A).1 0 (by omega)
        exact r
      · rw [if_neg (fun y => z (bitq.mpr y))] at etc
        have r := inner 0 (Or.inl rfl) (by rw [etc, Int.zero_mul]) (a_E A).1 0 (by omega)
        rw [Int.zero_mul] at r
        exact r
  refine g_M_chanceOf_0 (loop (2 ^ (a_E A).1) 0 (by omega) G ?_)
  refine ⟨fun c x y z t i => by rw [sg_upc y], fun i x y z => ?_⟩
  by_cases e : i = 13
  · subst e; rw [sg_up_at]; exact cn.1.2.2.1.1.symm
  · rw [sg_upi e]
theorem c_M_chance {d : Nat} {A : TA} (ok : TAok A) {c p w : Int} {G : SgM} {Q : Int → SgM → Prop} (cm : cM A G) (post : ∀ G', cM A G' → Q (a_chance A c p w) G') : sg_Wp 200 228 (d + 8) m_M_chance 0 [(0, 2, 200), (1, 0, c), (2, 0, p), (3, 0, w)] [] G Q := by
  have hn := ok.w.1
  unfold a_chance at post
  have no : sg_lsub (-9223372036854775808) (-2) = -9223372036854775806 := sg_lsub_eq (by omega) (by omega)
  refine g_M_chance_0 (d := d + 6) (c_M_find_A (d := d + 2) ok cm (fun G1 c1 cw ci => ⟨fun hc => c_M_isPost (d := d + 6) hn cw.pst ⟨fun x => ⟨fun z => by omega, fun _ => ⟨fun y => ?_, fun y => ?_⟩⟩, fun x => ⟨fun _ => ?_, fun z => absurd rfl z⟩⟩, fun hc => ?_⟩))
  · rw [if_pos ⟨by omega, x, by omega⟩] at post
    have e : ((p.toNat : Nat) : Int) = p := by omega
    have r := c_M_chanceOf (d := d + 2) (Q := Q) ok hc (q := p.toNat) (w := w) (by omega) ⟨c1, cw⟩ (fun G2 f => post G2 (c1.fs f.fs))
    rw [e] at r
    exact r
  · rw [no]
    rw [if_neg (by omega)] at post
    exact post G1 c1
  · rw [no]
    rw [if_neg (fun z => x z.2.1)] at post
    exact post G1 c1
  · rw [no]
    rw [if_neg (by omega)] at post
    exact post G1 c1
