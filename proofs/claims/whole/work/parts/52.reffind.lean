/-! THE REFERENCE: find, forgotten -/
/-- the texts in the reference's memory -/
def cm_T (T0 T1 : TT) (G : SgM) : Prop := G 206 0 = (T0.1 : Int) ∧ G 206 1 = (T1.1 : Int) ∧ (∀ i : Nat, i < T0.1 → G 205 (0 + (i : Int)) = T0.2 i) ∧ ∀ i : Nat, i < T1.1 → G 205 (32 + (i : Int)) = T1.2 i
def cm_ff (G G' : SgM) : Prop := (∀ c : Int, (c < 207 ∨ c = 209 ∨ 224 < c) → c ≠ 200 → ∀ i, G' c i = G c i) ∧ ∀ i : Int, i ≠ 7 → i ≠ 9 → G' 200 i = G 200 i
theorem c_M_find {d : Nat} {T0 T1 : TT} (h0 : TTok 23 T0) (h1 : TTok 29 T1) {E : TE} (hE : TEok E) {O : TO} (hO : O.1 < 2147483648) {G : SgM} {Q : Int → SgM → Prop} (ct : cm_T T0 T1 G) (ce : cm_E E G) (co : cm_O O G)
    (post : ∀ G', cm_ff G G' → cm_W (tw_of T0 T1) G' → cm_I (tw_of T0 T1) (tm_Y E O) 24 G' → Q 0 G') : sg_Wp 200 228 (d + 5) m_M_find 0 [(0, 2, 200)] [] G Q := by
  have hW := tw_of_ok h0 h1
  have n0 : tw_n (tw_of T0 T1) = tt_n sg_pof 3 T0 := rfl
  have k0 : tw_k (tw_of T0 T1) = tt_n sg_qof 5 T1 := rfl
  refine g_M_find_0 (c_M_readsPosts (d := d + 1) h0 ct.1 ct.2.2.1 (fun G1 a1 a2 a3 a4 => c_M_readsPeople (d := d + 1) h1 (by rw [a1 206 (by omega) (by omega)]; exact ct.2.1) (fun i hi => by rw [a1 205 (by omega) (by omega)]; exact ct.2.2.2 i hi) (fun G2 b1 b2 b3 b4 => ?_)))
  have cw : cm_W (tw_of T0 T1) G2 := by
    refine ⟨⟨?_, fun q hq => ?_⟩, b3, fun p hp => ?_⟩
    · rw [b2 7 (by omega)]; exact a3
    · rw [b1 207 (by omega) (by omega), b1 207 (by omega) (by omega)]
      rw [n0] at hq
      have x := a4 (3 * q) (by omega) (by omega)
      have y := a4 (3 * q + 1) (by omega) (by omega)
      rw [show 3 * q / 3 = q by omega, show 3 * q % 3 = 0 by omega] at x
      rw [show (3 * q + 1) / 3 = q by omega, show (3 * q + 1) % 3 = 1 by omega] at y
      rw [show ((2 * q + 0 : Nat) : Int) = 2 * (q : Int) by omega] at x
      rw [show ((2 * q + 1 : Nat) : Int) = 2 * (q : Int) + 1 by omega] at y
      exact ⟨x, y⟩
    · rw [k0] at hp
      have x := b4 (5 * p) (by omega) (by omega)
      have y := b4 (5 * p + 1) (by omega) (by omega)
      have z := b4 (5 * p + 2) (by omega) (by omega)
      have w := b4 (5 * p + 3) (by omega) (by omega)
      rw [show 5 * p / 5 = p by omega, show 5 * p % 5 = 0 by omega] at x
      rw [show (5 * p + 1) / 5 = p by omega, show (5 * p + 1) % 5 = 1 by omega] at y
      rw [show (5 * p + 2) / 5 = p by omega, show (5 * p + 2) % 5 = 2 by omega] at z
      rw [show (5 * p + 3) / 5 = p by omega, show (5 * p + 3) % 5 = 3 by omega] at w
      rw [show ((4 * p + 0 : Nat) : Int) = 4 * (p : Int) by omega] at x
      rw [show ((4 * p + 1 : Nat) : Int) = 4 * (p : Int) + 1 by omega] at y
      rw [show ((4 * p + 2 : Nat) : Int) = 4 * (p : Int) + 2 by omega] at z
      rw [show ((4 * p + 3 : Nat) : Int) = 4 * (p : Int) + 3 by omega] at w
      exact ⟨x, y, z, w⟩
  have f200 : ∀ i : Int, i ≠ 7 → i ≠ 9 → G2 200 i = G 200 i := fun i x y => by rw [b2 i y, a2 i x]
  have f209 : ∀ i : Int, G2 209 i = G 209 i := fun i => by rw [b1 209 (by omega) (by omega), a1 209 (by omega) (by omega)]
  refine c_M_lives (d := d) hE hO hW cw ⟨by rw [f200 11 (by omega) (by omega)]; exact ce.1, fun e he => by rw [f209, f209, f209]; exact ce.2 e he⟩ ⟨by rw [f200 13 (by omega) (by omega)]; exact co.1, by rw [f200 14 (by omega) (by omega)]; exact co.2.1, by rw [f200 15 (by omega) (by omega)]; exact co.2.2.1, by rw [f200 16 (by omega) (by omega)]; exact co.2.2.2⟩ (fun G3 e1 e2 => ?_)
  exact post G3 ⟨fun c x y i => by rw [e1 c (by omega), b1 c y (by omega), a1 c y (by omega)], fun i x y => by rw [e1 200 (by omega), f200 i x y]⟩ (cw.fr (fun c x => e1 c (by omega))) e2
theorem c_M_forgottenNow {d : Nat} {W : TW} {Y : TY} (hW : TWok W) {G : SgM} {Q : Int → SgM → Prop} (p0 : G 200 7 = (tw_n W : Int)) (r : cm_R W Y 24 G) (post : Q (td_fgm W Y 24 : Int) G) : sg_Wp 200 228 d m_M_forgottenNow 0 [(0, 2, 200)] [] G Q := by
  have hn := hW.1
  have outer : ∀ (u m : Nat), m + u = 24 → sg_Wp 200 228 d m_M_forgottenNow 4 [(0, 2, 200), (1, 0, (td_fgm W Y m : Int)), (2, 0, (m : Int))] [] G Q := by
    intro u
    induction u with
    | zero =>
      intro m hm
      have em : m = 24 := by omega
      subst em
      exact g_M_forgottenNow_4 ⟨fun _ => post, fun z => absurd (by omega) z⟩
    | succ u ih =>
      intro m hm
      have ih := ih (m + 1) (by omega)
      refine g_M_forgottenNow_4 ⟨fun z => absurd z (by omega), fun _ => ?_⟩
      have inner : ∀ (w j : Nat), j + w = tw_n W → sg_Wp 200 228 d m_M_forgottenNow 12 [(0, 2, 200), (1, 0, (sg_mk (fun q => td_fg W Y m q || (decide (q < j) && decide (12 ≤ td_std W Y q m))) (tw_n W) : Int)), (2, 0, (m : Int)), (3, 0, (j : Int))] [] G Q := by
        intro w
        induction w with
        | zero =>
          intro j hj
          have ej : j = tw_n W := by omega
          subst ej
          refine g_M_forgottenNow_12 ⟨fun _ => ?_, fun z => absurd (by rw [p0]; omega) z⟩
          rw [sg_inc1 m (by omega)]
          have e : sg_mk (fun q => td_fg W Y m q || (decide (q < tw_n W) && decide (12 ≤ td_std W Y q m))) (tw_n W) = td_fgm W Y (m + 1) := by
            apply sg_mk_congr
            intro i hi
            unfold td_fg
            rw [List.range_succ, List.any_append]
            simp [hi]
          rw [e]
          exact ih
        | succ w ihw =>
          intro j hj
          have ihw := ihw (j + 1) (by omega)
          have e8 : sg_iadd (sg_imul 8 (m : Int)) (j : Int) = 8 * (m : Int) + (j : Int) := by rw [sg_imul_eq (by omega) (by omega), sg_iadd_eq (by omega) (by omega)]
          have g := ((r m (by omega)).2 j (by omega)).1
          refine g_M_forgottenNow_12 ⟨fun z => absurd z (by rw [p0]; omega), fun _ => ⟨by rw [e8]; omega, fun z => ?_, fun z => ?_⟩⟩
          · rw [e8, g] at z
            have e : sg_mk (fun q => td_fg W Y m q || (decide (q < j + 1) && decide (12 ≤ td_std W Y q m))) (tw_n W) = sg_mk (fun q => td_fg W Y m q || (decide (q < j) && decide (12 ≤ td_std W Y q m))) (tw_n W) := sg_mk_congr (fun i hi => by
              by_cases ei : i = j
              · subst ei
                rw [decide_eq_false (show ¬ (12 ≤ td_std W Y i m) by omega), Bool.and_false, Bool.and_false]
              · have : (i < j + 1) ↔ (i < j) := by omega
                simp only [this])
            rw [e] at ihw
            rw [sg_mk_or0 (by omega), sg_inc1 j (by omega)]
            exact ihw
          · rw [e8, g] at z
            have e : sg_mk (fun q => td_fg W Y m q || (decide (q < j + 1) && decide (12 ≤ td_std W Y q m))) (tw_n W) = sg_mk (fun i => (fun q => td_fg W Y m q || (decide (q < j) && decide (12 ≤ td_std W Y q m))) i || decide (i = j)) (tw_n W) := sg_mk_congr (fun i hi => by
              by_cases ei : i = j
              · subst ei
                rw [decide_eq_true (show 12 ≤ td_std W Y i m by omega), decide_eq_true (show i < i + 1 by omega), decide_eq_true (rfl : i = i), Bool.or_true, Bool.and_true, Bool.or_true]
              · have : (i < j + 1) ↔ (i < j) := by omega
                simp only [this, decide_eq_false ei, Bool.or_false])
            rw [e] at ihw
            rw [sg_mk_set (f := fun q => td_fg W Y m q || (decide (q < j) && decide (12 ≤ td_std W Y q m))) (by omega) (by omega), sg_inc1 j (by omega)]
            exact ihw
      have i0 := inner (tw_n W) 0 (by omega)
      have e : sg_mk (fun q => td_fg W Y m q || (decide (q < 0) && decide (12 ≤ td_std W Y q m))) (tw_n W) = td_fgm W Y m := sg_mk_congr (fun i hi => by simp)
      rw [e] at i0
      exact i0
  have o0 := outer 24 0 (by omega)
  have e : td_fgm W Y 0 = 0 := sg_mk_zero.mpr (fun _ _ => rfl)
  rw [e] at o0
  exact g_M_forgottenNow_0 o0
