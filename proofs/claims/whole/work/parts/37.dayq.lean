/-! THE DAY TOLD, as it is asked for -/
theorem c_D_changer {d N : Nat} (hN : 44 ≤ N) {W : TW} {Y : TY} (hW : TWok W) {h q : Nat} (hh : h < 24) (hq : q < tw_n W) {G : SgM} {Q : Int → SgM → Prop} (w4 : G 5 4 = (tw_k W : Int)) (r : cd_R21 W Y 24 G) (post : Q (td_who W Y h q) G) :
    sg_Wp 0 N (d + 1) m_D_changerOf 0 [(0, 2, 21), (1, 0, (h : Int)), (2, 0, (q : Int))] [] G Q := by
  have hn := hW.1
  have hk := hW.2.1
  have loop : ∀ (u m : Nat), m + u = tw_k W → (∀ p : Nat, p < m → td_who W Y h q ≠ (p : Int)) → sg_Wp 0 N (d + 1) m_D_changerOf 2 [(0, 2, 21), (1, 0, (h : Int)), (2, 0, (q : Int)), (3, 0, (m : Int))] [] G Q := by
    intro u
    induction u with
    | zero =>
      intro m hm f
      refine g_D_changerOf_21_2 hN ⟨fun _ => ?_, fun z => absurd (by rw [w4]; omega) z⟩
      rcases td_least_cases (td_hs W Y h q) (tw_k W) with e | ⟨p, h1, h2⟩
      · have e : td_who W Y h q = -1 := e
        rw [e] at post
        exact post
      · exact absurd h2 (f p (by omega))
    | succ u ih =>
      intro m hm f
      have e6 := sg_rnd h m hh (by omega)
      have g28 := ((r.1 h hh).1 m (by omega)).2.2
      refine g_D_changerOf_21_2 hN ⟨fun z => absurd z (by rw [w4]; omega), fun _ => ⟨by rw [e6]; omega, fun z => ?_, fun z => ?_⟩⟩
      · rw [e6, g28] at z
        have := of_decide_eq_true ((sg_mk_hb (by omega) (by omega)).mp z).2
        rw [← this]
        exact post
      · rw [e6, g28] at z
        rw [sg_inc1 m (by omega)]
        refine ih (m + 1) (by omega) (fun p hp => ?_)
        by_cases e : p = m
        · subst e
          exact fun x => z ((sg_mk_hb (by omega) (by omega)).mpr ⟨hq, decide_eq_true x⟩)
        · exact f p (by omega)
  exact g_D_changerOf_21_0 hN (loop (tw_k W) 0 (by omega) (fun p hp => absurd hp (Nat.not_lt_zero _)))
theorem td_max_s (f : Nat → Int) (m : Nat) : td_max f (m + 1) = if (td_max f m).2 < f m then ((m : Int), f m) else td_max f m := rfl
theorem c_D_busiest {d N : Nat} (hN : 44 ≤ N) {W : TW} {Y : TY} (hW : TWok W) {G : SgM} {Q : Int → SgM → Prop} (w4 : G 5 4 = (tw_k W : Int)) (r : cd_R21 W Y 24 G) (post : Q (td_busy W Y) G) : sg_Wp 0 N (d + 1) m_D_busiest 0 [(0, 2, 21)] [] G Q := by
  have hn := hW.1
  have hk := hW.2.1
  have loop : ∀ (u m : Nat), m + u = tw_k W → sg_Wp 0 N (d + 1) m_D_busiest 6 [(0, 2, 21), (1, 0, (td_max (fun p => td_bsy W Y p 24) m).1), (2, 0, (td_max (fun p => td_bsy W Y p 24) m).2), (3, 0, (m : Int))] [] G Q := by
    intro u
    induction u with
    | zero =>
      intro m hm
      have em : m = tw_k W := by omega
      subst em
      exact g_D_busiest_21_6 hN ⟨fun _ => post, fun z => absurd (by rw [w4]; omega) z⟩
    | succ u ih =>
      intro m hm
      have ih := ih (m + 1) (by omega)
      rw [td_max_s] at ih
      refine g_D_busiest_21_6 hN ⟨fun z => absurd z (by rw [w4]; omega), fun _ => ?_⟩
      have inner : ∀ (w j : Nat), j + w = 24 → sg_Wp 0 N (d + 1) m_D_busiest 23 [(0, 2, 21), (1, 0, (td_max (fun p => td_bsy W Y p 24) m).1), (2, 0, (td_max (fun p => td_bsy W Y p 24) m).2), (3, 0, (m : Int)), (4, 0, td_bsy W Y m j), (5, 0, (j : Int))] [] G Q := by
        intro w
        induction w with
        | zero =>
          intro j hj
          have ej : j = 24 := by omega
          subst ej
          refine g_D_busiest_21_23 hN ⟨fun _ => ⟨fun z => ?_, fun z => ?_⟩, fun z => absurd (by omega) z⟩
          · rw [if_neg (by omega)] at ih
            rw [sg_inc1 m (by omega)]
            exact ih
          · rw [if_pos (by omega)] at ih
            rw [sg_inc1 m (by omega)]
            exact ih
        | succ w ihw =>
          intro j hj
          have ihw := ihw (j + 1) (by omega)
          have e6 := sg_rnd j m (by omega) (by omega)
          have g28 := ((r.1 j (by omega)).1 m (by omega)).2.2
          have b1 := td_sum_in (f := fun q => td_one (decide (td_who W Y j q = (m : Int)))) (b := 1) (fun i => td_one_in _) (tw_n W)
          have b2 := td_sum_in (f := fun i => td_sum (fun q => td_one (decide (td_who W Y i q = (m : Int)))) (tw_n W)) (b := 8) (fun i => by
            have := td_sum_in (f := fun q => td_one (decide (td_who W Y i q = (m : Int)))) (b := 1) (fun i => td_one_in _) (tw_n W)
            omega) j
          have es : td_bsy W Y m (j + 1) = td_bsy W Y m j + td_sum (fun q => td_one (decide (td_who W Y j q = (m : Int)))) (tw_n W) := rfl
          have b3 : 0 ≤ td_bsy W Y m j ∧ td_bsy W Y m j ≤ 200 := ⟨b2.1, Int.le_trans b2.2 (by omega)⟩
          rw [es] at ihw
          refine g_D_busiest_21_23 hN ⟨fun z => absurd z (by omega), fun _ => ⟨by rw [e6]; omega, ?_⟩⟩
          rw [e6, g28, sg_ibc_mk (by omega), sg_iadd_eq (by omega) (by omega), sg_inc1 j (by omega)]
          exact ihw
      exact inner 24 0 (by omega)
  exact g_D_busiest_21_0 hN (loop (tw_k W) 0 (by omega))
theorem td_oft_in (W : TW) (Y : TY) (p h : Nat) : 0 ≤ td_oft W Y p h ∧ td_oft W Y p h ≤ (h : Int) := by
  have := td_sum_in (f := fun i => td_one (td_sn W Y i p)) (b := 1) (fun i => td_one_in _) h
  exact ⟨this.1, Int.le_trans this.2 (by omega)⟩
theorem td_oft_s (W : TW) (Y : TY) (p h : Nat) : td_oft W Y p (h + 1) = td_oft W Y p h + td_one (td_sn W Y h p) := rfl
theorem td_chb_in (W : TW) (Y : TY) (p h : Nat) : 0 ≤ td_chb W Y h p ∧ td_chb W Y h p ≤ (h : Int) := by
  have := td_sum_in (f := fun i => td_one (td_ch W Y i p)) (b := 1) (fun i => td_one_in _) h
  exact ⟨this.1, Int.le_trans this.2 (by omega)⟩
theorem td_chb_s (W : TW) (Y : TY) (p h : Nat) : td_chb W Y (h + 1) p = td_chb W Y h p + td_one (td_ch W Y h p) := rfl
theorem c_D_silent {d N : Nat} (hN : 44 ≤ N) {W : TW} {Y : TY} (hW : TWok W) {G : SgM} {Q : Int → SgM → Prop} (w4 : G 5 4 = (tw_k W : Int)) (r : cd_R21 W Y 24 G) (post : Q (td_quiet W Y : Int) G) : sg_Wp 0 N d m_D_silent 0 [(0, 2, 21)] [] G Q := by
  have hk := hW.2.1
  have loop : ∀ (u m : Nat), m + u = 24 → sg_Wp 0 N d m_D_silent 14 [(0, 2, 21), (1, 0, (sg_mk (fun p => decide (td_oft W Y p m = 0)) (tw_k W) : Int)), (2, 0, (m : Int))] [] G Q := by
    intro u
    induction u with
    | zero =>
      intro m hm
      have em : m = 24 := by omega
      subst em
      exact g_D_silent_21_14 hN ⟨fun _ => post, fun z => absurd (by omega) z⟩
    | succ u ih =>
      intro m hm
      have ih := ih (m + 1) (by omega)
      refine g_D_silent_21_14 hN ⟨fun z => absurd z (by omega), fun _ => ⟨by omega, ?_⟩⟩
      rw [(r.1 m (by omega)).2.2.1, sg_mk_andn (by omega) (by omega), sg_inc1 m (by omega)]
      have e : sg_mk (fun p => decide (td_oft W Y p m = 0) && !td_sn W Y m p) (tw_k W) = sg_mk (fun p => decide (td_oft W Y p (m + 1) = 0)) (tw_k W) := sg_mk_congr (fun p _ => by
        have b := td_oft_in W Y p m
        rw [td_oft_s]
        cases s : td_sn W Y m p with
        | true =>
          rw [decide_eq_false (show ¬ (td_oft W Y p m + td_one true = 0) by show ¬ (td_oft W Y p m + 1 = 0); omega), Bool.not_true, Bool.and_false]
        | false =>
          rw [Bool.not_false, Bool.and_true, show td_one false = 0 from rfl, Int.add_zero])
      rw [e]
      exact ih
  refine g_D_silent_21_0 hN ?_
  rw [w4, sg_mk_full (by omega)]
  have e : sg_mk (fun _ => true) (tw_k W) = sg_mk (fun p => decide (td_oft W Y p 0 = 0)) (tw_k W) := sg_mk_congr (fun p _ => (decide_eq_true (show td_oft W Y p 0 = 0 from rfl)).symm)
  rw [e]
  exact loop 24 0 (by omega)
theorem c_G_times30 {d N : Nat} (hN : 44 ≤ N) {W : TW} {Y : TY} (hW : TWok W) {h p : Nat} (hh : h < 24) (hp : p < tw_k W) {G : SgM} {Q : Int → SgM → Prop} (r : cd_R21 W Y 24 G) (post : Q (td_oft W Y p (h + 1)) G) :
    sg_Wp 0 N d m_G_timesOfBit 0 [(0, 2, 30), (1, 0, (p : Int)), (2, 0, (h : Int))] [] G Q := by
  have hk := hW.2.1
  have loop : ∀ (u m : Nat), m + u = h + 1 → sg_Wp 0 N d m_G_timesOfBit 5 [(0, 2, 30), (1, 0, (p : Int)), (2, 0, (h : Int)), (3, 0, td_oft W Y p m), (4, 0, (m : Int))] [] G Q := by
    intro u
    induction u with
    | zero =>
      intro m hm
      have em : m = h + 1 := by omega
      subst em
      exact g_G_timesOfBit_30_5 hN ⟨fun _ => post, fun z => absurd (by omega) z⟩
    | succ u ih =>
      intro m hm
      have ih := ih (m + 1) (by omega)
      have b := td_oft_in W Y p m
      have b1 := td_one_in (td_sn W Y m p)
      rw [td_oft_s] at ih
      refine g_G_timesOfBit_30_5 hN ⟨fun z => absurd z (by omega), fun _ => ⟨fun z => absurd z (by omega), fun _ => ⟨by omega, ?_⟩⟩⟩
      rw [(r.1 m (by omega)).2.2.1, sg_mk_bit (by omega) (by omega), decide_eq_true hp, Bool.true_and, sg_iadd_eq (by omega) (by omega), sg_inc1 m (by omega)]
      exact ih
  exact g_G_timesOfBit_30_0 hN (loop (h + 1) 0 (by omega))
theorem c_G_times31 {d N : Nat} (hN : 44 ≤ N) {W : TW} {Y : TY} (hW : TWok W) {h p : Nat} (hh : h < 24) (hp : p < tw_n W) {G : SgM} {Q : Int → SgM → Prop} (r : cd_R21 W Y 24 G) (post : Q (td_chb W Y (h + 1) p) G) :
    sg_Wp 0 N d m_G_timesOfBit 0 [(0, 2, 31), (1, 0, (p : Int)), (2, 0, (h : Int))] [] G Q := by
  have hk := hW.1
  have loop : ∀ (u m : Nat), m + u = h + 1 → sg_Wp 0 N d m_G_timesOfBit 5 [(0, 2, 31), (1, 0, (p : Int)), (2, 0, (h : Int)), (3, 0, td_chb W Y m p), (4, 0, (m : Int))] [] G Q := by
    intro u
    induction u with
    | zero =>
      intro m hm
      have em : m = h + 1 := by omega
      subst em
      exact g_G_timesOfBit_31_5 hN ⟨fun _ => post, fun z => absurd (by omega) z⟩
    | succ u ih =>
      intro m hm
      have ih := ih (m + 1) (by omega)
      have b := td_chb_in W Y p m
      have b1 := td_one_in (td_ch W Y m p)
      rw [td_chb_s] at ih
      refine g_G_timesOfBit_31_5 hN ⟨fun z => absurd z (by omega), fun _ => ⟨fun z => absurd z (by omega), fun _ => ⟨by omega, ?_⟩⟩⟩
      have g := (r.1 m (by omega)).2.2.2
      unfold td_chm at g
      rw [g, sg_mk_bit (by omega) (by omega), decide_eq_true hp, Bool.true_and, sg_iadd_eq (by omega) (by omega), sg_inc1 m (by omega)]
      exact ih
  exact g_G_timesOfBit_31_0 hN (loop (h + 1) 0 (by omega))
