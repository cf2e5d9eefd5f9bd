/-! THE REFERENCE: what is told of an hour -/
def cm_E (E : TE) (G : SgM) : Prop := G 200 11 = (E.1 : Int) ∧ ∀ e : Nat, e < E.1 → G 209 (3 * (e : Int)) = te_k E e ∧ G 209 (3 * (e : Int) + 1) = te_h E e ∧ G 209 (3 * (e : Int) + 2) = te_n E e
/-- what else is told or left out: the events gone, and the odd one: hour, kind, number -/
abbrev TO : Type := Nat × Int × Int × Int
def cm_O (O : TO) (G : SgM) : Prop := G 200 13 = (O.1 : Int) ∧ G 200 14 = O.2.1 ∧ G 200 15 = O.2.2.1 ∧ G 200 16 = O.2.2.2
def tm_al (E : TE) (k h v : Int) (e : Nat) : Bool := decide (te_k E e = k ∧ te_h E e = h ∧ (k = 2 ∨ te_n E e = v))
def tm_p (E : TE) (O : TO) (k h v : Int) (m : Nat) : Bool := decide (O.2.1 = h ∧ O.2.2.1 = k ∧ O.2.2.2 = v) || (List.range m).any (fun e => tm_al E k h v e && !O.1.testBit e)
def tm_t (E : TE) (O : TO) (k h v : Int) : Bool := tm_p E O k h v E.1
theorem tm_p_s (E : TE) (O : TO) (k h v : Int) (m : Nat) : tm_p E O k h v (m + 1) = (tm_p E O k h v m || (tm_al E k h v m && !O.1.testBit m)) := by
  unfold tm_p
  rw [List.range_succ, List.any_append, Bool.or_assoc]
  simp
theorem td_one_t {b : Bool} (h : b = true) : td_one b = 1 := by rw [h]; rfl
theorem td_one_f {b : Bool} (h : b = false) : td_one b = 0 := by rw [h]; rfl
theorem td_one_n {b : Bool} (h : td_one b ≠ 0) : b = true := by
  cases b with
  | true => rfl
  | false => exact absurd rfl h
theorem c_M_isTold {d : Nat} {E : TE} (hE : TEok E) {O : TO} (hO : O.1 < 2147483648) {k h v : Int} {G : SgM} {Q : Int → SgM → Prop} (ce : cm_E E G) (co : cm_O O G) (post : Q (td_one (tm_t E O k h v)) G) : sg_Wp 200 228 (d + 1) m_M_isTold 0 [(0, 2, 200), (1, 0, k), (2, 0, h), (3, 0, v)] [] G Q := by
  have hn := hE.1
  have loop : ∀ (u m : Nat), m + u = E.1 → sg_Wp 200 228 (d + 1) m_M_isTold 34 [(0, 2, 200), (1, 0, k), (2, 0, h), (3, 0, v), (4, 0, td_one (tm_p E O k h v m)), (5, 0, (m : Int))] [] G Q := by
    intro u
    induction u with
    | zero =>
      intro m hm
      have em : m = E.1 := by omega
      rw [em]
      refine g_M_isTold_34 ⟨fun _ => ⟨?_, post⟩, fun q => absurd (by rw [ce.1]; omega) q⟩
      have := td_one_in (tm_p E O k h v E.1)
      omega
    | succ u ih =>
      intro m hm
      have hm' : m < E.1 := by omega
      have ih := ih (m + 1) (by omega)
      have x := ce.2 m hm'
      have e3 : sg_imul 3 (m : Int) = 3 * (m : Int) := sg_imul_eq (by omega) (by omega)
      have e31 : sg_iadd (sg_imul 3 (m : Int)) 1 = 3 * (m : Int) + 1 := by rw [e3, sg_iadd_eq (by omega) (by omega)]
      have e32 : sg_iadd (sg_imul 3 (m : Int)) 2 = 3 * (m : Int) + 2 := by rw [e3, sg_iadd_eq (by omega) (by omega)]
      have bb := sg_bit_nat (a := O.1) (k := m) (by omega) hO
      have to120 : tm_p E O k h v (m + 1) = true → sg_Wp 200 228 (d + 1) m_M_isTold 120 [(0, 2, 200), (1, 0, k), (2, 0, h), (3, 0, v), (5, 0, (m : Int))] [] G Q := fun y => by
        rw [td_one_t y] at ih
        refine g_M_isTold_120 ?_
        rw [sg_inc1 m (by omega)]
        exact ih
      have to124 : tm_p E O k h v (m + 1) = false → sg_Wp 200 228 (d + 1) m_M_isTold 124 [(0, 2, 200), (1, 0, k), (2, 0, h), (3, 0, v), (5, 0, (m : Int))] [] G Q := fun y => by
        rw [td_one_f y] at ih
        refine g_M_isTold_124 ?_
        rw [sg_inc1 m (by omega)]
        exact ih
      have at95 : tm_al E k h v m = false → sg_Wp 200 228 (d + 1) m_M_isTold 95 [(0, 2, 200), (1, 0, k), (2, 0, h), (3, 0, v), (4, 0, td_one (tm_p E O k h v m)), (5, 0, (m : Int))] [] G Q := fun y =>
        g_M_isTold_95 ⟨fun q => to120 (by rw [tm_p_s, td_one_n q]; rfl), fun q => to124 (by rw [tm_p_s, td_one0.mp (Decidable.not_not.mp q), y]; rfl)⟩
      have at91 : tm_al E k h v m = true → sg_Wp 200 228 (d + 1) m_M_isTold 91 [(0, 2, 200), (1, 0, k), (2, 0, h), (3, 0, v), (4, 0, td_one (tm_p E O k h v m)), (5, 0, (m : Int))] [] G Q := fun y => by
        refine g_M_isTold_91 ⟨fun q => to120 (by rw [tm_p_s, td_one_n q]; rfl), fun q => ⟨fun q2 => to124 ?_, fun q2 => to120 ?_⟩⟩
        · rw [co.1, bb] at q2
          cases t : O.1.testBit m with
          | true => rw [tm_p_s, td_one0.mp (Decidable.not_not.mp q), y, t]; rfl
          | false => rw [t] at q2; exact absurd q2 (by decide)
        · rw [co.1, bb] at q2
          cases t : O.1.testBit m with
          | true => rw [t] at q2; exact absurd rfl q2
          | false => rw [tm_p_s, y, t, Bool.not_false, Bool.and_true, Bool.or_true]
      refine g_M_isTold_34 ⟨fun q => absurd q (by rw [ce.1]; omega), fun _ => ⟨by rw [e3]; omega, fun q => at95 ?_, fun q => ⟨by rw [e31]; omega, fun q2 => at95 ?_, fun q2 => ⟨fun q3 => at91 ?_, fun q3 => ⟨by rw [e32]; omega, fun q4 => at95 ?_, fun q4 => at91 ?_⟩⟩⟩⟩⟩
      · rw [e3, x.1] at q
        unfold tm_al
        exact decide_eq_false (fun z => q z.1)
      · rw [e31, x.2.1] at q2
        unfold tm_al
        exact decide_eq_false (fun z => q2 z.2.1)
      · rw [e3, x.1] at q
        rw [e31, x.2.1] at q2
        unfold tm_al
        exact decide_eq_true ⟨Decidable.not_not.mp q, Decidable.not_not.mp q2, Or.inl q3⟩
      · rw [e32, x.2.2] at q4
        unfold tm_al
        exact decide_eq_false (fun z => z.2.2.elim q3 q4)
      · rw [e3, x.1] at q
        rw [e31, x.2.1] at q2
        rw [e32, x.2.2] at q4
        unfold tm_al
        exact decide_eq_true ⟨Decidable.not_not.mp q, Decidable.not_not.mp q2, Or.inr (Decidable.not_not.mp q4)⟩
  have l0 := loop E.1 0 (by omega)
  have z : tm_p E O k h v 0 = decide (O.2.1 = h ∧ O.2.2.1 = k ∧ O.2.2.2 = v) := by unfold tm_p; simp
  rw [z] at l0
  refine g_M_isTold_0 ⟨fun q => ?_, fun q => ⟨fun q2 => ?_, fun q2 => ⟨fun q3 => ?_, fun q3 => ?_⟩⟩⟩
  · rw [co.2.1] at q
    rw [td_one_f (decide_eq_false (fun y => q y.1))] at l0
    exact l0
  · rw [co.2.2.1] at q2
    rw [td_one_f (decide_eq_false (fun y => q2 y.2.1))] at l0
    exact l0
  · rw [co.2.2.2] at q3
    rw [td_one_f (decide_eq_false (fun y => q3 y.2.2))] at l0
    exact l0
  · rw [co.2.1] at q
    rw [co.2.2.1] at q2
    rw [co.2.2.2] at q3
    rw [td_one_t (decide_eq_true ⟨Decidable.not_not.mp q, Decidable.not_not.mp q2, Decidable.not_not.mp q3⟩)] at l0
    exact l0
/-- the weather that the reference sees -/
def tm_Y (E : TE) (O : TO) : TY := ((fun h c => tm_t E O 0 (h : Int) (c : Int)), (fun h p => tm_t E O 1 (h : Int) (p : Int)), (fun h => tm_t E O 2 (h : Int) 0))
/-- who is where, and with what cold, in hour h, in the reference's memory -/
def cm_c (W : TW) (h : Nat) (G : SgM) : Prop := ∀ p : Nat, p < tw_k W → G 210 p = td_c W h p
theorem c_M_isSneezing {d : Nat} {E : TE} (hE : TEok E) {O : TO} (hO : O.1 < 2147483648) {W : TW} (hW : TWok W) {h p : Nat} (hh : h < 24) (hp : p < tw_k W) {G : SgM} {Q : Int → SgM → Prop} (ce : cm_E E G) (co : cm_O O G)
    (cc : G 210 p = td_c W h p) (cd : G 212 p = td_cold W (tm_Y E O) h p) (post : Q (td_one (td_sn W (tm_Y E O) h p)) G) : sg_Wp 200 228 (d + 2) m_M_isSneezing 0 [(0, 2, 200), (1, 0, (h : Int)), (2, 0, (p : Int))] [] G Q := by
  have hk := hW.2.1
  have bw := hW.2.2.2 p hp
  have b1 := td_cold_in (Y := tm_Y E O) (p := p) ⟨bw.2.2.2.2.2.2.1, bw.2.2.2.2.2.2.2⟩ h
  have b2 := (td_pos_in (ce := tw_ce W p) (wy := tw_wy W p) (by omega) (by omega) h).1
  have ec : ((td_c W h p).toNat : Int) = td_c W h p := by
    have : 0 ≤ td_c W h p := b2.1
    omega
  have er : sg_irem (sg_iadd (h : Int) 1) (td_cold W (tm_Y E O) h p) = ((h : Int) + 1) % td_cold W (tm_Y E O) h p := by rw [sg_iadd_eq (by omega) (by omega), sg_irem_eq (by omega) (by omega) (by omega) (by omega)]
  have def1 : td_sn W (tm_Y E O) h p = ((tm_t E O 2 (h : Int) 0 || tm_t E O 0 (h : Int) (td_c W h p) || decide (((h : Int) + 1) % td_cold W (tm_Y E O) h p = 0)) && !(tm_t E O 1 (h : Int) (p : Int))) := by
    show ((tm_t E O 2 (h : Int) 0 || tm_t E O 0 (h : Int) ((td_c W h p).toNat : Int) || decide (((h : Int) + 1) % td_cold W (tm_Y E O) h p = 0)) && !(tm_t E O 1 (h : Int) (p : Int))) = _
    rw [ec]
  have at38 : (tm_t E O 2 (h : Int) 0 || tm_t E O 0 (h : Int) (td_c W h p) || decide (((h : Int) + 1) % td_cold W (tm_Y E O) h p = 0)) = true → sg_Wp 200 228 (d + 2) m_M_isSneezing 38 [(0, 2, 200), (1, 0, (h : Int)), (2, 0, (p : Int))] [] G Q := fun y => by
    rw [def1, y, Bool.true_and] at post
    refine g_M_isSneezing_38 (c_M_isTold hE hO ce co ⟨fun q => g_M_isSneezing_62 ?_, fun q => ?_⟩)
    · rw [td_one_n q] at post
      exact post
    · rw [td_one0.mp (Decidable.not_not.mp q)] at post
      exact post
  refine g_M_isSneezing_0 ⟨by omega, by rw [cd]; omega, fun q => at38 ?_, fun q => ⟨by omega, ?_⟩⟩
  · rw [cd, er] at q
    rw [decide_eq_true q, Bool.or_true]
  · rw [cd, er] at q
    rw [cc]
    refine c_M_isTold hE hO ce co ⟨fun q1 => at38 ?_, fun q1 => c_M_isTold hE hO ce co ⟨fun q2 => g_M_isSneezing_62 ?_, fun q2 => at38 ?_⟩⟩
    · rw [td_one_n q1, Bool.or_true, Bool.true_or]
    · rw [def1, td_one0.mp q2, td_one0.mp (Decidable.not_not.mp q1), decide_eq_false q] at post
      exact post
    · rw [td_one_n q2, Bool.true_or, Bool.true_or]
