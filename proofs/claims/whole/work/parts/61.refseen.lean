/-! THE REFERENCE: spare, never -/
theorem cm_W.up {W : TW} {G : SgM} (h : cm_W W G) {i v : Int} (h1 : i ≠ 7) (h2 : i ≠ 9) : cm_W W (sg_up G 200 i v) := by
  refine ⟨⟨by rw [sg_upi (Ne.symm h1)]; exact h.1.1, fun q hq => by rw [sg_upc (by omega), sg_upc (by omega)]; exact h.1.2 q hq⟩, by rw [sg_upi (Ne.symm h2)]; exact h.2.1, fun p hp => by rw [sg_upc (by omega), sg_upc (by omega), sg_upc (by omega), sg_upc (by omega)]; exact h.2.2 p hp⟩
/-- gone and back again -/
theorem cm_fe.gone {G G1 : SgM} {g : Int} (g0 : G 200 13 = 0) (f : cm_fe (sg_up G 200 13 g) G1) : cm_fe G (sg_up G1 200 13 0) := by
  refine ⟨fun c x y z t i => by rw [sg_upc y, f.1 c x y z t, sg_upc y], fun i x y z => ?_⟩
  by_cases e : i = 13
  · subst e; rw [sg_up_at]; exact g0.symm
  · rw [sg_upi e, f.2 i x y z, sg_upi e]
theorem te_g1 {E : TE} (hE : TEok E) {a : Nat} (ha : a < E.1) : sg_ishl 1 (a : Int) = (sg_mk (fun i => decide (i = a)) 8 : Int) ∧ ∀ e : Nat, e < E.1 → (te_wo E a).testBit e = !(sg_mk (fun i => decide (i = a)) 8).testBit e := by
  have hn := hE.1
  refine ⟨sg_shl1_mk (by omega) (by omega), fun e he => ?_⟩
  unfold te_wo
  rw [sg_mk_test, sg_mk_test, decide_eq_true he, decide_eq_true (show e < 8 by omega), Bool.true_and, Bool.true_and]
theorem te_g2 {E : TE} (hE : TEok E) {a b : Nat} (ha : a < E.1) (hb : b < E.1) : sg_ior (sg_ishl 1 (a : Int)) (sg_ishl 1 (b : Int)) = (sg_mk (fun i => decide (i = a) || decide (i = b)) 8 : Int) ∧ ∀ e : Nat, e < E.1 → (te_wo2 E a b).testBit e = !(sg_mk (fun i => decide (i = a) || decide (i = b)) 8).testBit e := by
  have hn := hE.1
  refine ⟨by rw [sg_shl1_mk (e := a) (j := 8) (by omega) (by omega), sg_shl1_mk (e := b) (j := 8) (by omega) (by omega), sg_mk_or (by omega)], fun e he => ?_⟩
  unfold te_wo2
  rw [sg_mk_test, sg_mk_test, decide_eq_true he, decide_eq_true (show e < 8 by omega), Bool.true_and, Bool.true_and]
theorem c_M_isSpared {d : Nat} {A : TA} (ok : TAok A) {g w : Nat} (hg : g < 2147483648) (hw : ∀ e : Nat, e < A.1.2.2.1 → w.testBit e = !g.testBit e) {G : SgM} {Q : Int → SgM → Prop} (cn : cN A G)
    (post : ∀ G', cm_fe G G' → Q (td_one (decide (tf_g (a_W A) (a_E A) w = 0))) G') : sg_Wp 200 228 (d + 5) m_M_isSpared 0 [(0, 2, 200), (1, 0, (g : Int))] [] G Q := by
  have e : tm_Y A.1.2.2 (g, -1, G 200 15, G 200 16) = ty_of (a_E A) w := tm_Y_of rfl hw
  refine g_M_isSpared_0 (c_M_lives (d := d) (E := A.1.2.2) (O := (g, -1, G 200 15, G 200 16)) ok.1.2.2 hg ok.w (cn.2.up (by omega) (by omega)) (cn.1.2.1.up (by omega) (by omega)) ⟨sg_up_at, by rw [sg_upi (by omega)]; exact cn.1.2.2.1.2, by rw [sg_upi (by omega)], by rw [sg_upi (by omega)]⟩ (fun G1 a b => ?_))
  rw [e] at b
  have f := cm_fe.gone cn.1.2.2.1.1 a.fe
  have cw : cm_W (a_W A) (sg_up G1 200 13 0) := cn.2.fe f
  have r : cm_R (a_W A) (ty_of (a_E A) w) 24 (sg_up G1 200 13 0) := by
    intro i hi
    have x := b.2.2 i hi
    refine ⟨fun p hp => ?_, fun q hq => ?_⟩
    · rw [sg_upc (by omega), sg_upc (by omega), sg_upc (by omega), sg_upc (by omega)]; exact x.1 p hp
    · rw [sg_upc (by omega), sg_upc (by omega), sg_upc (by omega)]; exact x.2 q hq
  have po := post _ f
  refine c_M_forgottenNow ok.w cw.pst r ⟨fun z => ?_, fun z => ?_⟩
  · rw [decide_eq_false (fun e => z (by unfold tf_g at e; rw [e]; rfl))] at po
    exact po
  · rw [decide_eq_true (show tf_g (a_W A) (a_E A) w = 0 by unfold tf_g; omega)] at po
    exact po
theorem c_M_spareBy {d : Nat} {A : TA} (ok : TAok A) {i : Int} {G : SgM} {Q : Int → SgM → Prop} (cn : cN A G)
    (post : ∀ G', cm_fe G G' → Q (if i = -1 then (tp_spare (a_W A) (a_E A)).1 else if i = 0 then (tp_spare (a_W A) (a_E A)).2.1 else (tp_spare (a_W A) (a_E A)).2.2) G') : sg_Wp 200 228 (d + 6) m_M_spareBy 0 [(0, 2, 200), (1, 0, i)] [] G Q := by
  have hE : TEok (a_E A) := ok.1.2.2
  have hn := hE.1
  have g11 : ∀ G1 : SgM, cm_fe G G1 → G1 200 11 = ((a_E A).1 : Int) := fun G1 f => by rw [f.2 11 (by omega) (by omega) (by omega)]; exact cn.1.2.1.1
  have fin : ∀ (t : Int × Int × Int) (G1 : SgM), tp_spare (a_W A) (a_E A) = t → cm_fe G G1 → Q (if i = -1 then t.1 else if i = 0 then t.2.1 else t.2.2) G1 := by
    intro t G1 e f
    have := post G1 f
    rw [e] at this
    exact this
  by_cases h0 : tf_g (a_W A) (a_E A) (te_all (a_E A)) = 0
  · refine g_M_spareBy_0 (c_M_isSpared (g := 0) (w := te_all (a_E A)) (d := d) ok (by decide) te_all_0 cn (fun G1 f => ?_))
    have e : tp_spare (a_W A) (a_E A) = (0, -1, -1) := by unfold tp_spare; rw [if_pos h0]
    have q := fin _ G1 e f
    rw [decide_eq_true h0]
    refine ⟨fun z => absurd z (by decide), fun _ => ⟨fun z => ?_, fun z => ?_⟩⟩
    · rw [if_neg z] at q
      have : (if i = 0 then ((0, -1, -1) : Int × Int × Int).2.1 else ((0, -1, -1) : Int × Int × Int).2.2) = -1 := by split <;> rfl
      rw [this] at q
      exact q
    · rw [if_pos (Decidable.not_not.mp z)] at q
      exact q
  · have loop2 : td_least (tp_s1 (a_W A) (a_E A)) (a_E A).1 = -1 → ∀ (u m : Nat), m + u = (a_E A).1 → td_least (tp_s2 (a_W A) (a_E A)) m = -1 → ∀ G1 : SgM, cm_fe G G1 → sg_Wp 200 228 (d + 6) m_M_spareBy 66 [(0, 2, 200), (1, 0, i), (2, 0, (m : Int))] [] G1 Q := by
      intro h1 u
      induction u with
      | zero =>
        intro m hm h2 G1 f
        have em : m = (a_E A).1 := by omega
        subst em
        refine g_M_spareBy_66 ⟨fun _ => ?_, fun z => absurd (by rw [g11 G1 f]; omega) z⟩
        have e : tp_spare (a_W A) (a_E A) = (-1, -1, -1) := by unfold tp_spare; rw [if_neg h0, if_neg (by omega), if_neg (by omega)]
        have q := fin _ G1 e f
        have : (if i = -1 then ((-1, -1, -1) : Int × Int × Int).1 else if i = 0 then ((-1, -1, -1) : Int × Int × Int).2.1 else ((-1, -1, -1) : Int × Int × Int).2.2) = -1 := by
          split
          · rfl
          · split <;> rfl
        rw [this] at q
        exact q
      | succ u ih =>
        intro m hm h2 G1 f
        refine g_M_spareBy_66 ⟨fun z => absurd z (by rw [g11 G1 f]; omega), fun _ => ?_⟩
        rw [sg_inc1 m (by omega)]
        have inner : ∀ (x j : Nat), j + x = (a_E A).1 → m < j → td_least (tp_s3 (a_W A) (a_E A) m) j = -1 → ∀ G2 : SgM, cm_fe G G2 → sg_Wp 200 228 (d + 6) m_M_spareBy 78 [(0, 2, 200), (1, 0, i), (2, 0, (m : Int)), (3, 0, (j : Int))] [] G2 Q := by
          intro x
          induction x with
          | zero =>
            intro j hj hmj h3 G2 f2
            have ej : j = (a_E A).1 := by omega
            subst ej
            refine g_M_spareBy_78 ⟨fun _ => ?_, fun z => absurd (by rw [g11 G2 f2]; omega) z⟩
            rw [sg_inc1 m (by omega)]
            refine ih (m + 1) (by omega) ?_ G2 f2
            rw [td_least_s, if_pos h2, if_neg (by unfold tp_s2; rw [h3]; decide)]
          | succ x ihx =>
            intro j hj hmj h3 G2 f2
            have hm8 : m < (a_E A).1 := by omega
            have hj8 : j < (a_E A).1 := by omega
            have te := te_g2 hE hm8 hj8
            refine g_M_spareBy_78 ⟨fun z => absurd z (by rw [g11 G2 f2]; omega), fun _ => ?_⟩
            rw [te.1, sg_inc1 j (by omega)]
            refine c_M_isSpared (d := d) ok (sg_mk_b _ (by omega)) te.2 (cn.fe f2) (fun G3 f3 => ?_)
            by_cases c : tf_g (a_W A) (a_E A) (te_wo2 (a_E A) m j) = 0
            · rw [decide_eq_true c]
              have s3 : tp_s3 (a_W A) (a_E A) m j = true := by unfold tp_s3; rw [decide_eq_true hmj, decide_eq_true c]; rfl
              have l3 := td_least_of hj8 s3 (td_least_none h3)
              have s2 : tp_s2 (a_W A) (a_E A) m = true := by
                unfold tp_s2
                rw [l3]
                exact decide_eq_true (by omega)
              have l2 := td_least_of hm8 s2 (td_least_none h2)
              have e : tp_spare (a_W A) (a_E A) = (2, (m : Int), (j : Int)) := by
                unfold tp_spare
                rw [if_neg h0, if_neg (by omega), l2, if_pos (by omega), Int.toNat_natCast, l3]
              have q := fin _ G3 e (f2.trans f3)
              refine ⟨fun z => absurd z (by decide), fun _ => ⟨fun z => ⟨fun y => ?_, fun y => ?_⟩, fun z => ?_⟩⟩
              · rw [if_neg z, if_neg y] at q; exact q
              · rw [if_neg z, if_pos (Decidable.not_not.mp y)] at q; exact q
              · rw [if_pos (Decidable.not_not.mp z)] at q; exact q
            · rw [decide_eq_false c]
              refine ⟨fun _ => ihx (j + 1) (by omega) (by omega) ?_ G3 (f2.trans f3), fun z => absurd rfl z⟩
              rw [td_least_s, if_pos h3, if_neg (by unfold tp_s3; rw [decide_eq_false c, Bool.and_false]; decide)]
        refine inner u (m + 1) (by omega) (by omega) ?_ G1 f
        refine td_least_of_none (fun j hj => ?_)
        unfold tp_s3
        rw [decide_eq_false (by omega), Bool.false_and]
    have loop1 : ∀ (u m : Nat), m + u = (a_E A).1 → td_least (tp_s1 (a_W A) (a_E A)) m = -1 → ∀ G1 : SgM, cm_fe G G1 → sg_Wp 200 228 (d + 6) m_M_spareBy 21 [(0, 2, 200), (1, 0, i), (2, 0, (m : Int))] [] G1 Q := by
      intro u
      induction u with
      | zero =>
        intro m hm h1 G1 f
        have em : m = (a_E A).1 := by omega
        subst em
        exact g_M_spareBy_21 ⟨fun _ => loop2 h1 (a_E A).1 0 (by omega) rfl G1 f, fun z => absurd (by rw [g11 G1 f]; omega) z⟩
      | succ u ih =>
        intro m hm h1 G1 f
        have hm8 : m < (a_E A).1 := by omega
        have te := te_g1 hE hm8
        refine g_M_spareBy_21 ⟨fun z => absurd z (by rw [g11 G1 f]; omega), fun _ => ?_⟩
        rw [te.1, sg_inc1 m (by omega)]
        refine c_M_isSpared (d := d) ok (sg_mk_b _ (by omega)) te.2 (cn.fe f) (fun G3 f3 => ?_)
        by_cases c : tf_g (a_W A) (a_E A) (te_wo (a_E A) m) = 0
        · rw [decide_eq_true c]
          have s1 : tp_s1 (a_W A) (a_E A) m = true := by unfold tp_s1; exact decide_eq_true c
          have l1 := td_least_of hm8 s1 (td_least_none h1)
          have e : tp_spare (a_W A) (a_E A) = (1, (m : Int), -1) := by
            unfold tp_spare
            rw [if_neg h0, l1, if_pos (by omega)]
          have q := fin _ G3 e (f.trans f3)
          refine ⟨fun z => absurd z (by decide), fun _ => ⟨fun z => ⟨fun y => ?_, fun y => ?_⟩, fun z => ?_⟩⟩
          · rw [if_neg z, if_neg y] at q; exact q
          · rw [if_neg z, if_pos (Decidable.not_not.mp y)] at q; exact q
          · rw [if_pos (Decidable.not_not.mp z)] at q; exact q
        · rw [decide_eq_false c]
          refine ⟨fun _ => ih (m + 1) (by omega) ?_ G3 (f.trans f3), fun z => absurd rfl z⟩
          rw [td_least_s, if_pos h1, if_neg (by unfold tp_s1; rw [decide_eq_false c]; decide)]
    refine g_M_spareBy_0 (c_M_isSpared (g := 0) (w := te_all (a_E A)) (d := d) ok (by decide) te_all_0 cn (fun G1 f => ?_))
    rw [decide_eq_false h0]
    exact ⟨fun _ => loop1 (a_E A).1 0 (by omega) rfl G1 f, fun z => absurd rfl z⟩
theorem c_M_spare {d : Nat} {A : TA} (ok : TAok A) {i : Int} {G : SgM} {Q : Int → SgM → Prop} (cm : cM A G) (post : ∀ G', cM A G' → Q (a_spare A i) G') : sg_Wp 200 228 (d + 8) m_M_spare 0 [(0, 2, 200), (1, 0, i)] [] G Q := by
  unfold a_spare at post
  refine g_M_spare_0 (d := d + 7) (c_M_find_A (d := d + 2) ok cm (fun G1 c1 cw ci => ⟨fun x => ?_, fun x => ?_⟩))
  · rw [if_neg (by omega)] at post
    exact c_M_spareBy (d := d + 1) ok ⟨c1, cw⟩ (fun G2 f => post G2 (c1.fs f.fs))
  · rw [if_pos (by omega)] at post
    exact post G1 c1
def ts_pre (S : TS) (W : TW) (Y : TY) (m : Nat) : Bool := (List.range m).all (ts_1 S W Y)
theorem ts_pre_s (S : TS) (W : TW) (Y : TY) (m : Nat) : ts_pre S W Y (m + 1) = (ts_pre S W Y m && ts_1 S W Y m) := by
  unfold ts_pre
  rw [List.range_succ, List.all_append]
  simp
theorem c_M_isSeen {d : Nat} {E : TE} (hE : TEok E) {O : TO} (hO : O.1 < 2147483648) {W : TW} (hW : TWok W) {S : TS} (hS : TSok S) {G : SgM} {Q : Int → SgM → Prop} (cw : cm_W W G) (ce : cm_E E G) (co : cm_O O G) (cs : cm_S S G)
    (post : ∀ G', cm_fd G G' → cm_I W (tm_Y E O) 24 G' → Q (td_one (ts_so S W (tm_Y E O))) G') : sg_Wp 200 228 (d + 5) m_M_isSeen 0 [(0, 2, 200)] [] G Q := by
  have hn := hW.1
  have h8 := hS.1
  refine g_M_isSeen_0 (c_M_lives (d := d) hE hO hW cw ce co (fun G1 a b => ?_))
  have p7 : G1 200 7 = (tw_n W : Int) := by rw [a 200 (by omega)]; exact cw.pst
  have s0 : G1 200 32 = (S.1 : Int) := by rw [a 200 (by omega)]; exact cs.1
  have po := post G1 a b
  have loop : ∀ (u m : Nat), m + u = S.1 → sg_Wp 200 228 (d + 5) m_M_isSeen 8 [(0, 2, 200), (1, 0, td_one (ts_pre S W (tm_Y E O) m)), (2, 0, (m : Int))] [] G1 Q := by
    intro u
    induction u with
    | zero =>
      intro m hm
      have em : m = S.1 := by omega
      subst em
      refine g_M_isSeen_8 ⟨fun _ => ⟨?_, po⟩, fun z => absurd (by rw [s0]; omega) z⟩
      cases ts_pre S W (tm_Y E O) S.1 <;> decide
    | succ u ih =>
      intro m hm
      have ih := ih (m + 1) (by omega)
      have hm' : m < S.1 := by omega
      have x := hS.2 m hm'
      have g := cs.2 m hm'
      have f225 : ∀ i : Int, G1 225 i = G 225 i := fun i => a 225 (by omega) i
      have j0 : sg_imul 3 (m : Int) = 3 * (m : Int) := sg_imul_eq (by omega) (by omega)
      have j1 : sg_iadd (sg_imul 3 (m : Int)) 1 = 3 * (m : Int) + 1 := by rw [j0, sg_iadd_eq (by omega) (by omega)]
      have j2 : sg_iadd (sg_imul 3 (m : Int)) 2 = 3 * (m : Int) + 2 := by rw [j0, sg_iadd_eq (by omega) (by omega)]
      rw [ts_pre_s] at ih
      refine g_M_isSeen_8 ⟨fun z => absurd z (by rw [s0]; omega), fun _ => ⟨by rw [j1]; omega, fun z => ?_, fun z => ?_⟩⟩
      · have : ts_pre S W (tm_Y E O) m = false := td_one0.mp z
        rw [this, Bool.false_and] at ih
        refine g_M_isSeen_81 ?_
        rw [sg_inc1 m (by omega)]
        exact ih
      · have : ts_pre S W (tm_Y E O) m = true := by
          cases e : ts_pre S W (tm_Y E O) m with
          | true => rfl
          | false => exact absurd (by rw [e]; rfl) z
        rw [this, Bool.true_and] at ih
        rw [j1, f225, g.2.1]
        have no : ts_1 S W (tm_Y E O) m = false → sg_Wp 200 228 (d + 5) m_M_isSeen 81 [(0, 2, 200), (2, 0, (m : Int))] [] G1 Q := by
          intro e
          rw [e] at ih
          refine g_M_isSeen_81 ?_
          rw [sg_inc1 m (by omega)]
          exact ih
        have yes : ts_1 S W (tm_Y E O) m = true → sg_Wp 200 228 (d + 5) m_M_isSeen 8 [(0, 2, 200), (1, 0, 1), (2, 0, sg_iadd (m : Int) 1)] [] G1 Q := by
          intro e
          rw [e] at ih
          rw [sg_inc1 m (by omega)]
          exact ih
        refine c_M_isPost (d := d + 3) hn p7 ⟨fun hp => ⟨fun z => by omega, fun _ => ⟨by rw [j0]; omega, ?_⟩⟩, fun hp => ⟨fun _ => ?_, fun z => absurd rfl z⟩⟩
        · rw [j0, f225, g.1]
          have eh : (((ts_h S m).toNat : Nat) : Int) = ts_h S m := by omega
          have ep : (((ts_p S m).toNat : Nat) : Int) = ts_p S m := by omega
          have ch : td_chm W (tm_Y E O) (ts_h S m).toNat = sg_mk (td_ch W (tm_Y E O) (ts_h S m).toNat) (tw_n W) := rfl
          have bit := sg_mk_hb1 (f := td_ch W (tm_Y E O) (ts_h S m).toNat) (n := tw_n W) (i := (ts_p S m).toNat) (by omega) (by omega)
          have pp : decide (ts_p S m < (tw_n W : Int)) = true := decide_eq_true hp.2
          have r := c_M_changesIn (d := d + 4) (Q := fun r3 G3 => (0 ≤ sg_iadd (3 * (m : Int)) 2 ∧ sg_iadd (3 * (m : Int)) 2 < 24) ∧
              ((G3 225 (sg_iadd (3 * (m : Int)) 2) ≠ 1 → (sg_bo (sg_iand (sg_ishr r3 (ts_p S m)) 1 = 1) ≠ 0 → sg_Wp 200 228 (d + 4 + 1) m_M_isSeen 81 [(0, 2, 200), (2, 0, (m : Int))] [] G3 Q) ∧ (¬ sg_bo (sg_iand (sg_ishr r3 (ts_p S m)) 1 = 1) ≠ 0 → sg_Wp 200 228 (d + 4 + 1) m_M_isSeen 8 [(0, 2, 200), (1, 0, 1), (2, 0, sg_iadd (m : Int) 1)] [] G3 Q)) ∧
              (¬ G3 225 (sg_iadd (3 * (m : Int)) 2) ≠ 1 → (sg_bo (sg_iand (sg_ishr r3 (ts_p S m)) 1 = 1) ≠ 1 → sg_Wp 200 228 (d + 4 + 1) m_M_isSeen 81 [(0, 2, 200), (2, 0, (m : Int))] [] G3 Q) ∧ (¬ sg_bo (sg_iand (sg_ishr r3 (ts_p S m)) 1 = 1) ≠ 1 → sg_Wp 200 228 (d + 4 + 1) m_M_isSeen 8 [(0, 2, 200), (1, 0, 1), (2, 0, sg_iadd (m : Int) 1)] [] G3 Q)))) hW (h := (ts_h S m).toNat) (by omega) p7 b.2.2 ?_
          · rw [eh] at r
            exact r
          · have j2' : sg_iadd (3 * (m : Int)) 2 = 3 * (m : Int) + 2 := sg_iadd_eq (by omega) (by omega)
            rw [j2', f225, g.2.2, ch, ← ep]
            refine ⟨by omega, fun y => ?_, fun y => ?_⟩
            · have i0 : ts_i S m = 0 := by omega
              refine ⟨fun c => no ?_, fun c => yes ?_⟩
              · by_cases bb : sg_iand (sg_ishr (sg_mk (td_ch W (tm_Y E O) (ts_h S m).toNat) (tw_n W) : Int) (((ts_p S m).toNat : Nat) : Int)) 1 = 1
                · unfold ts_1
                  rw [pp, (bit.mp bb).2, i0]
                  rfl
                · exact absurd (sg_bo_f bb) c
              · by_cases bb : sg_iand (sg_ishr (sg_mk (td_ch W (tm_Y E O) (ts_h S m).toNat) (tw_n W) : Int) (((ts_p S m).toNat : Nat) : Int)) 1 = 1
                · exact absurd (by rw [sg_bo_t bb]; decide) c
                · have cf : td_ch W (tm_Y E O) (ts_h S m).toNat (ts_p S m).toNat = false := by
                    cases e : td_ch W (tm_Y E O) (ts_h S m).toNat (ts_p S m).toNat with
                    | false => rfl
                    | true => exact absurd (bit.mpr ⟨by omega, e⟩) bb
                  unfold ts_1
                  rw [pp, cf, i0]
                  rfl
            · have i1 : ts_i S m = 1 := by omega
              refine ⟨fun c => no ?_, fun c => yes ?_⟩
              · by_cases bb : sg_iand (sg_ishr (sg_mk (td_ch W (tm_Y E O) (ts_h S m).toNat) (tw_n W) : Int) (((ts_p S m).toNat : Nat) : Int)) 1 = 1
                · exact absurd (sg_bo_t bb) c
                · have cf : td_ch W (tm_Y E O) (ts_h S m).toNat (ts_p S m).toNat = false := by
                    cases e : td_ch W (tm_Y E O) (ts_h S m).toNat (ts_p S m).toNat with
                    | false => rfl
                    | true => exact absurd (bit.mpr ⟨by omega, e⟩) bb
                  unfold ts_1
                  rw [pp, cf, i1]
                  rfl
              · by_cases bb : sg_iand (sg_ishr (sg_mk (td_ch W (tm_Y E O) (ts_h S m).toNat) (tw_n W) : Int) (((ts_p S m).toNat : Nat) : Int)) 1 = 1
                · unfold ts_1
                  rw [pp, (bit.mp bb).2, i1]
                  rfl
                · exact absurd (by rw [sg_bo_f bb]; decide) c
        · refine no ?_
          unfold ts_1
          rw [decide_eq_false (by omega), Bool.false_and]
  exact loop S.1 0 (by omega)
theorem cm_S.fe {S : TS} {G G' : SgM} (h : cm_S S G) (f : cm_fe G G') : cm_S S G' := by
  have f2 := f.1 225 (by omega) (by omega) (by omega) (by omega)
  exact ⟨by rw [f.2 32 (by omega) (by omega) (by omega)]; exact h.1, fun i hi => by rw [f2, f2, f2]; exact h.2 i hi⟩
theorem c_M_neverNow {d : Nat} {A : TA} (ok : TAok A) {G : SgM} {Q : Int → SgM → Prop} (cn : cN A G)
    (post : ∀ G', cm_fe G G' → Q (th_never (a_S A) (a_W A) (a_E A) : Int) G') : sg_Wp 200 228 (d + 6) m_M_neverNow 0 [(0, 2, 200)] [] G Q := by
  have hE : TEok (a_E A) := ok.1.2.2
  have hn := hE.1
  have loop : ∀ (u m : Nat), m + u = (a_E A).1 → ∀ G1 : SgM, cm_fe G (sg_up G1 200 13 0) → sg_Wp 200 228 (d + 6) m_M_neverNow 4 [(0, 2, 200), (1, 0, (sg_mk (fun e => ts_so (a_S A) (a_W A) (ty_of (a_E A) (te_wo (a_E A) e))) m : Int)), (2, 0, (m : Int))] [] G1 Q := by
    intro u
    induction u with
    | zero =>
      intro m hm G1 f
      have em : m = (a_E A).1 := by omega
      subst em
      have g11 : G1 200 11 = ((a_E A).1 : Int) := by
        have := f.2 11 (by omega) (by omega) (by omega)
        rw [sg_upi (by omega)] at this
        rw [this]; exact cn.1.2.1.1
      exact g_M_neverNow_4 ⟨fun _ => post _ f, fun z => absurd (by rw [g11]; omega) z⟩
    | succ u ih =>
      intro m hm G1 f
      have ih := ih (m + 1) (by omega)
      have hm8 : m < (a_E A).1 := by omega
      have te := te_g1 hE hm8
      have g11 : G1 200 11 = ((a_E A).1 : Int) := by
        have := f.2 11 (by omega) (by omega) (by omega)
        rw [sg_upi (by omega)] at this
        rw [this]; exact cn.1.2.1.1
      have cn1 := cn.fe f
      have k : ∀ v : Int, ∀ c i : Int, (c ≠ 200 ∨ i ≠ 13) → sg_up G1 200 13 v c i = sg_up G1 200 13 0 c i := fun v c i x => by
        by_cases e : c = 200
        · subst e; rw [sg_upi (by omega), sg_upi (by omega)]
        · rw [sg_upc e, sg_upc e]
      generalize hg : sg_mk (fun i => decide (i = m)) 8 = g at te
      have gb : g < 2147483648 := by rw [← hg]; exact sg_mk_b _ (by omega)
      have cw : cm_W (a_W A) (sg_up G1 200 13 (g : Int)) := ⟨⟨by rw [k _ 200 7 (by omega)]; exact cn1.2.1.1, fun q hq => by rw [k _ 207 _ (by omega), k _ 207 _ (by omega)]; exact cn1.2.1.2 q hq⟩, by rw [k _ 200 9 (by omega)]; exact cn1.2.2.1, fun p hp => by rw [k _ 208 _ (by omega), k _ 208 _ (by omega), k _ 208 _ (by omega), k _ 208 _ (by omega)]; exact cn1.2.2.2 p hp⟩
      have ce : cm_E (a_E A) (sg_up G1 200 13 (g : Int)) := ⟨by rw [k _ 200 11 (by omega)]; exact cn1.1.2.1.1, fun e he => by rw [k _ 209 _ (by omega), k _ 209 _ (by omega), k _ 209 _ (by omega)]; exact cn1.1.2.1.2 e he⟩
      have cs : cm_S (a_S A) (sg_up G1 200 13 (g : Int)) := ⟨by rw [k _ 200 32 (by omega)]; exact cn1.1.2.2.2.1.1, fun i hi => by rw [k _ 225 _ (by omega), k _ 225 _ (by omega), k _ 225 _ (by omega)]; exact cn1.1.2.2.2.1.2 i hi⟩
      have e : tm_Y (a_E A) (g, -1, G1 200 15, G1 200 16) = ty_of (a_E A) (te_wo (a_E A) m) := tm_Y_of rfl te.2
      refine g_M_neverNow_4 ⟨fun z => absurd z (by rw [g11]; omega), fun _ => ?_⟩
      rw [te.1]
      refine c_M_isSeen (d := d) (S := a_S A) (E := a_E A) (O := (g, -1, G1 200 15, G1 200 16)) hE gb ok.w ok.2.1 cw ce ⟨sg_up_at, by rw [k _ 200 14 (by omega)]; exact cn1.1.2.2.1.2, by rw [sg_upi (by omega)], by rw [sg_upi (by omega)]⟩ cs (fun G2 a b => ?_)
      rw [e]
      have f2 : cm_fe G (sg_up G2 200 13 0) := by
        refine f.trans ⟨fun c x y z t i => by rw [sg_upc y, sg_upc y, a c x, sg_upc y], fun i x y z => ?_⟩
        by_cases ei : i = 13
        · subst ei; rw [sg_up_at, sg_up_at]
        · rw [sg_upi ei, a 200 (by omega), sg_upi ei, sg_upi ei]
      have ih := ih G2 f2
      rw [← te.1]
      cases sb : ts_so (a_S A) (a_W A) (ty_of (a_E A) (te_wo (a_E A) m)) with
      | true =>
        refine ⟨fun z => absurd z (by decide), fun _ => ?_⟩
        rw [sg_mk_t (f := fun e => ts_so (a_S A) (a_W A) (ty_of (a_E A) (te_wo (a_E A) e))) (by omega) sb, sg_inc1 m (by omega)]
        exact ih
      | false =>
        refine ⟨fun _ => ?_, fun z => absurd rfl z⟩
        rw [sg_mk_f (f := fun e => ts_so (a_S A) (a_W A) (ty_of (a_E A) (te_wo (a_E A) e))) sb] at ih
        rw [sg_mk_or0 (by omega), sg_inc1 m (by omega)]
        exact ih
  refine g_M_neverNow_0 (loop (a_E A).1 0 (by omega) G ?_)
  refine ⟨fun c x y z t i => by rw [sg_upc y], fun i x y z => ?_⟩
  by_cases e : i = 13
  · subst e; rw [sg_up_at]; exact cn.1.2.2.1.1.symm
  · rw [sg_upi e]
theorem c_M_never {d : Nat} {A : TA} (ok : TAok A) {G : SgM} {Q : Int → SgM → Prop} (cm : cM A G) (post : ∀ G', cM A G' → Q (th_never (a_S A) (a_W A) (a_E A) : Int) G') : sg_Wp 200 228 (d + 8) m_M_never 0 [(0, 2, 200)] [] G Q :=
  g_M_never_0 (d := d + 7) (c_M_find_A (d := d + 2) ok cm (fun G1 c1 cw ci => c_M_neverNow (d := d + 1) ok ⟨c1, cw⟩ (fun G2 f => post G2 (c1.fs f.fs))))
