/-! THE REFERENCE: what the day came to -/
theorem td_any_congr {f g : Nat → Bool} : ∀ {n : Nat}, (∀ i, i < n → f i = g i) → (List.range n).any f = (List.range n).any g
  | 0, _ => rfl
  | n + 1, h => by
    rw [List.range_succ, List.any_append, List.any_append, td_any_congr (fun i hi => h i (Nat.lt_succ_of_lt hi))]
    simp [h n (Nat.lt_succ_self n)]
/-- with nothing odd: the events that are not gone -/
theorem tm_Y_of {E : TE} {O : TO} {w : Nat} (ho : O.2.1 = -1) (hw : ∀ e : Nat, e < E.1 → w.testBit e = !O.1.testBit e) : tm_Y E O = ty_of E w := by
  have key : ∀ (k v : Int) (h : Nat), tm_t E O k (h : Int) v = (List.range E.1).any (fun e => w.testBit e && decide (te_k E e = k ∧ te_h E e = (h : Int) ∧ (k = 2 ∨ te_n E e = v))) := by
    intro k v h
    unfold tm_t tm_p
    rw [decide_eq_false (fun z => by omega), Bool.false_or]
    exact td_any_congr (fun e he => by
      rw [hw e he, Bool.and_comm]
      rfl)
  have e0 : (fun (h c : Nat) => tm_t E O 0 (h : Int) (c : Int)) = ty_up E w 0 E.1 := by
    funext h c
    rw [key]
    unfold ty_up
    exact td_any_congr (fun e he => by
      congr 1
      apply decide_eq_decide.mpr
      omega)
  have e1 : (fun (h c : Nat) => tm_t E O 1 (h : Int) (c : Int)) = ty_up E w 1 E.1 := by
    funext h c
    rw [key]
    unfold ty_up
    exact td_any_congr (fun e he => by
      congr 1
      apply decide_eq_decide.mpr
      omega)
  have e2 : (fun (h : Nat) => tm_t E O 2 (h : Int) 0) = ty_fr E w E.1 := by
    funext h
    rw [key]
    unfold ty_fr
    exact td_any_congr (fun e he => by
      congr 1
      apply decide_eq_decide.mpr
      omega)
  show (_, _, _) = (_, _, _)
  rw [e0, e1, e2]
theorem c_M_changesIn {d : Nat} {W : TW} {Y : TY} (hW : TWok W) {h : Nat} (hh : h < 24) {G : SgM} {Q : Int → SgM → Prop} (p0 : G 200 7 = (tw_n W : Int)) (r : cm_R W Y 24 G) (post : Q (td_chm W Y h : Int) G) : sg_Wp 200 228 d m_M_changesIn 0 [(0, 2, 200), (1, 0, (h : Int))] [] G Q := by
  have hn := hW.1
  have loop : ∀ (u m : Nat), m + u = tw_n W → sg_Wp 200 228 d m_M_changesIn 4 [(0, 2, 200), (1, 0, (h : Int)), (2, 0, (sg_mk (td_ch W Y h) m : Int)), (3, 0, (m : Int))] [] G Q := by
    intro u
    induction u with
    | zero =>
      intro m hm
      have em : m = tw_n W := by omega
      subst em
      exact g_M_changesIn_4 ⟨fun _ => post, fun z => absurd (by rw [p0]; omega) z⟩
    | succ u ih =>
      intro m hm
      have ih := ih (m + 1) (by omega)
      have e8 : sg_iadd (sg_imul 8 (h : Int)) (m : Int) = 8 * (h : Int) + (m : Int) := by rw [sg_imul_eq (by omega) (by omega), sg_iadd_eq (by omega) (by omega)]
      have g := ((r h hh).2 m (by omega)).2.2
      refine g_M_changesIn_4 ⟨fun z => absurd z (by rw [p0]; omega), fun _ => ⟨by rw [e8]; omega, fun z => ?_, fun z => ?_⟩⟩
      · rw [e8, g] at z
        rw [sg_mk_f (by unfold td_ch; rw [z]; decide)] at ih
        rw [sg_mk_or0 (by omega), sg_inc1 m (by omega)]
        exact ih
      · rw [e8, g] at z
        rw [sg_mk_t (by omega) (by unfold td_ch; exact decide_eq_true z), sg_inc1 m (by omega)]
        exact ih
  exact g_M_changesIn_0 (loop (tw_n W) 0 (by omega))
theorem c_M_allNow {d : Nat} {W : TW} {Y : TY} (hW : TWok W) {G : SgM} {Q : Int → SgM → Prop} (p0 : G 200 7 = (tw_n W : Int)) (ci : cm_I W Y 24 G) (post : Q (td_all W Y 24) G) : sg_Wp 200 228 d m_M_allNow 0 [(0, 2, 200)] [] G Q := by
  have hn := hW.1
  have e : td_all W Y 24 = td_sum (fun q => td_chb W Y 24 q) (tw_n W) := td_sum_swap (fun i q => td_one (td_ch W Y i q)) (tw_n W) 24
  have loop : ∀ (u m : Nat), m + u = tw_n W → sg_Wp 200 228 d m_M_allNow 4 [(0, 2, 200), (1, 0, td_sum (fun q => td_chb W Y 24 q) m), (2, 0, (m : Int))] [] G Q := by
    intro u
    induction u with
    | zero =>
      intro m hm
      have em : m = tw_n W := by omega
      subst em
      rw [e] at post
      exact g_M_allNow_4 ⟨fun _ => post, fun z => absurd (by rw [p0]; omega) z⟩
    | succ u ih =>
      intro m hm
      have ih := ih (m + 1) (by omega)
      have b := td_chb_in W Y m 24
      have bs := td_sum_in (f := fun q => td_chb W Y 24 q) (b := 24) (fun q => td_chb_in W Y q 24) m
      have bs2 : 0 ≤ td_sum (fun q => td_chb W Y 24 q) m ∧ td_sum (fun q => td_chb W Y 24 q) m ≤ 200 := ⟨bs.1, Int.le_trans bs.2 (by omega)⟩
      refine g_M_allNow_4 ⟨fun z => absurd z (by rw [p0]; omega), fun _ => ⟨by omega, ?_⟩⟩
      rw [(ci.2.1 m (by omega)).2, sg_iadd_eq (by omega) (by omega), sg_inc1 m (by omega)]
      exact ih
  exact g_M_allNow_0 (loop (tw_n W) 0 (by omega))
theorem c_M_quietNow {d : Nat} {W : TW} {Y : TY} (hW : TWok W) {G : SgM} {Q : Int → SgM → Prop} (q0 : G 200 9 = (tw_k W : Int)) (ci : cm_I W Y 24 G) (post : Q (td_quiet W Y : Int) G) : sg_Wp 200 228 d m_M_quietNow 0 [(0, 2, 200)] [] G Q := by
  have hk := hW.2.1
  have loop : ∀ (u m : Nat), m + u = tw_k W → sg_Wp 200 228 d m_M_quietNow 4 [(0, 2, 200), (1, 0, (sg_mk (fun p => decide (td_oft W Y p 24 = 0)) m : Int)), (2, 0, (m : Int))] [] G Q := by
    intro u
    induction u with
    | zero =>
      intro m hm
      have em : m = tw_k W := by omega
      subst em
      exact g_M_quietNow_4 ⟨fun _ => post, fun z => absurd (by rw [q0]; omega) z⟩
    | succ u ih =>
      intro m hm
      have ih := ih (m + 1) (by omega)
      have g := (ci.1 m (by omega)).2.2.2.1
      refine g_M_quietNow_4 ⟨fun z => absurd z (by rw [q0]; omega), fun _ => ⟨by omega, fun z => ?_, fun z => ?_⟩⟩
      · rw [g] at z
        rw [sg_mk_f (decide_eq_false z)] at ih
        rw [sg_mk_or0 (by omega), sg_inc1 m (by omega)]
        exact ih
      · rw [g] at z
        rw [sg_mk_t (f := fun p => decide (td_oft W Y p 24 = 0)) (by omega) (decide_eq_true (Decidable.not_not.mp z)), sg_inc1 m (by omega)]
        exact ih
  exact g_M_quietNow_0 (loop (tw_k W) 0 (by omega))
theorem c_M_busyNow {d : Nat} {W : TW} {Y : TY} (hW : TWok W) {G : SgM} {Q : Int → SgM → Prop} (q0 : G 200 9 = (tw_k W : Int)) (ci : cm_I W Y 24 G) (post : Q (td_busy W Y) G) : sg_Wp 200 228 (d + 1) m_M_busyNow 0 [(0, 2, 200)] [] G Q := by
  have hk := hW.2.1
  have loop : ∀ (u m : Nat), m + u = tw_k W → sg_Wp 200 228 (d + 1) m_M_busyNow 6 [(0, 2, 200), (1, 0, (td_max (fun p => td_bsy W Y p 24) m).1), (2, 0, (td_max (fun p => td_bsy W Y p 24) m).2), (3, 0, (m : Int))] [] G Q := by
    intro u
    induction u with
    | zero =>
      intro m hm
      have em : m = tw_k W := by omega
      subst em
      exact g_M_busyNow_6 ⟨fun _ => post, fun z => absurd (by rw [q0]; omega) z⟩
    | succ u ih =>
      intro m hm
      have ih := ih (m + 1) (by omega)
      rw [td_max_s] at ih
      have g := (ci.1 m (by omega)).2.2.2.2
      refine g_M_busyNow_6 ⟨fun z => absurd z (by rw [q0]; omega), fun _ => ⟨by omega, fun z => ⟨by omega, ?_⟩, fun z => ⟨by omega, ?_⟩⟩⟩
      · rw [g] at z ⊢
        rw [if_neg (by omega)] at ih
        rw [sg_inc1 m (by omega), show sg_grt (td_bsy W Y m 24) (td_max (fun p => td_bsy W Y p 24) m).2 = (td_max (fun p => td_bsy W Y p 24) m).2 from if_neg (by omega)]
        exact ih
      · rw [g] at z ⊢
        rw [if_pos (by omega)] at ih
        rw [sg_inc1 m (by omega), show sg_grt (td_bsy W Y m 24) (td_max (fun p => td_bsy W Y p 24) m).2 = td_bsy W Y m 24 from if_pos (by omega)]
        exact ih
  exact g_M_busyNow_0 (loop (tw_k W) 0 (by omega))
