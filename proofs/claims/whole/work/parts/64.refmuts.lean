/-! THE REFERENCE: decades, count -/
def tn_one (k : Nat) : Int := td_sum (fun i => td_one (k.testBit i)) 8
theorem tn_step : ∀ k : Nat, k < 256 → k ≠ 0 → tn_one (k &&& (k - 1)) + 1 = tn_one k ∧ (k &&& (k - 1)) < k := by decide +kernel
theorem tn_mk {f : Nat → Bool} {n : Nat} (hn : n ≤ 8) : tn_one (sg_mk f n) = td_sum (fun i => td_one (f i)) n := by
  have key : ∀ j : Nat, n ≤ j → td_sum (fun i => td_one ((sg_mk f n).testBit i)) j = td_sum (fun i => td_one (f i)) n := by
    intro j hj
    induction j with
    | zero =>
      have : n = 0 := by omega
      subst this
      rfl
    | succ j ih =>
      by_cases e : n = j + 1
      · subst e
        exact td_sum_congr (fun i hi => by rw [sg_mk_test]; simp [hi])
      · show td_sum _ j + td_one ((sg_mk f n).testBit j) = _
        rw [ih (by omega), sg_mk_test]
        have : ¬ j < n := by omega
        simp [this, td_one]
  exact key 8 hn
theorem c_M_ones {d : Nat} {k : Nat} (hk : k < 256) {G : SgM} {Q : Int → SgM → Prop} (post : Q (tn_one k) G) : sg_Wp 200 228 d m_M_ones 0 [(0, 0, (k : Int))] [] G Q := by
  have loop : ∀ (n x : Nat) (v : Int), x < n → x < 256 → (0 ≤ v ∧ v + tn_one x = tn_one k) → sg_Wp 200 228 d m_M_ones 4 [(1, 0, v), (2, 0, (x : Int))] [] G Q := by
    intro n
    induction n with
    | zero => intro x v h; exact absurd h (Nat.not_lt_zero _)
    | succ n ih =>
      intro x v hx h8 hv
      have bk := td_sum_in (f := fun i => td_one (k.testBit i)) (b := 1) (fun i => td_one_in _) 8
      have bk : tn_one k ≤ 8 := bk.2
      have bx := td_sum_in (f := fun i => td_one (x.testBit i)) (b := 1) (fun i => td_one_in _) 8
      have bx : 0 ≤ tn_one x := bx.1
      refine g_M_ones_4 ⟨fun z => ?_, fun z => ?_⟩
      · have x0 : x = 0 := by omega
        subst x0
        have : tn_one 0 = 0 := by decide +kernel
        rw [show v = tn_one k by omega]
        exact post
      · have st := tn_step x h8 (by omega)
        have e1 : sg_isub (x : Int) 1 = ((x - 1 : Nat) : Int) := by rw [sg_isub_eq (by omega) (by omega)]; omega
        rw [e1, sg_iand_nat (by omega) (by omega), sg_iadd_eq (by omega) (by omega)]
        exact ih _ _ (by omega) (by omega) (by omega)
  exact g_M_ones_0 (loop 257 k 0 (by omega) hk ⟨Int.le_refl 0, by omega⟩)
theorem c_M_lot {d : Nat} {m : Int} (hm : 0 < m) {s : Int} {G : SgM} {Q : Int → SgM → Prop} (e : G 200 35 = s) (post : Q (tl_lot (tl_next s) m) (sg_up G 200 35 (tl_next s))) : sg_Wp 200 228 d m_M_lot 0 [(0, 2, 200), (1, 0, m)] [] G Q := by
  subst e
  refine g_M_lot_0 ⟨by omega, ?_⟩
  rw [sg_up_at]
  exact post
theorem c_M_keeps {d : Nat} {E : TE} (h8 : E.1 < 8) {k h v : Int} {G : SgM} {Q : Int → SgM → Prop} (ce : cm_E E G)
    (post : ∀ G', (∀ c : Int, c ≠ 200 → c ≠ 209 → ∀ i, G' c i = G c i) → (∀ i : Int, i ≠ 11 → G' 200 i = G 200 i) → (∀ i : Int, (i < 0 ∨ 24 ≤ i) → G' 209 i = G 209 i) → cm_E (te_add E k h v) G' → Q 0 G') : sg_Wp 200 228 d m_M_keeps 0 [(0, 2, 200), (1, 0, k), (2, 0, h), (3, 0, v)] [] G Q := by
  obtain ⟨c0, ci⟩ := ce
  have j0 : sg_imul 3 (E.1 : Int) = 3 * (E.1 : Int) := sg_imul_eq (by omega) (by omega)
  have j1 : sg_iadd (sg_imul 3 (E.1 : Int)) 1 = 3 * (E.1 : Int) + 1 := by rw [j0, sg_iadd_eq (by omega) (by omega)]
  have j2 : sg_iadd (sg_imul 3 (E.1 : Int)) 2 = 3 * (E.1 : Int) + 2 := by rw [j0, sg_iadd_eq (by omega) (by omega)]
  refine g_M_keeps_0 ?_
  rw [c0, j1, j2, j0, sg_inc1 E.1 (by omega)]
  refine ⟨by omega, by omega, by omega, post _ (fun c x y i => by rw [sg_upc x, sg_upc y, sg_upc y, sg_upc y]) (fun i x => by rw [sg_upi x, sg_upc (by omega), sg_upc (by omega), sg_upc (by omega)]) (fun i x => by rw [sg_upc (by omega), sg_upi (by omega), sg_upi (by omega), sg_upi (by omega)]) ⟨sg_up_at, fun e he => ?_⟩⟩
  have he : e < E.1 + 1 := he
  by_cases ee : e = E.1
  · subst ee
    refine ⟨?_, ?_, ?_⟩
    · rw [sg_upc (by omega), sg_upi (by omega), sg_upi (by omega), sg_up_at]
      exact (if_pos rfl).symm
    · rw [sg_upc (by omega), sg_upi (by omega), sg_up_at]
      exact (if_pos rfl).symm
    · rw [sg_upc (by omega), sg_up_at]
      exact (if_pos rfl).symm
  · have x := ci e (by omega)
    refine ⟨?_, ?_, ?_⟩
    · rw [sg_upc (by omega), sg_upi (by omega), sg_upi (by omega), sg_upi (by omega), x.1]
      exact (if_neg ee).symm
    · rw [sg_upc (by omega), sg_upi (by omega), sg_upi (by omega), sg_upi (by omega), x.2.1]
      exact (if_neg ee).symm
    · rw [sg_upc (by omega), sg_upi (by omega), sg_upi (by omega), sg_upi (by omega), x.2.2]
      exact (if_neg ee).symm
theorem cm_E.congr {E E' : TE} {G : SgM} (h : cm_E E G) (n : E'.1 = E.1) (f : ∀ i : Nat, i < E.1 → te_k E' i = te_k E i ∧ te_h E' i = te_h E i ∧ te_n E' i = te_n E i) : cm_E E' G := by
  refine ⟨by rw [n]; exact h.1, fun i hi => ?_⟩
  rw [n] at hi
  have x := f i hi
  rw [x.1, x.2.1, x.2.2]
  exact h.2 i hi
theorem cm_I.fr {W : TW} {Y : TY} {h : Nat} {G G' : SgM} (r : cm_I W Y h G) (f : ∀ c : Int, 210 ≤ c → c ≤ 224 → ∀ i, G' c i = G c i) : cm_I W Y h G' := by
  refine ⟨fun p hp => ?_, fun q hq => ?_, r.2.2.fr (fun c x y => f c (by omega) y)⟩
  · rw [f 210 (by omega) (by omega), f 211 (by omega) (by omega), f 212 (by omega) (by omega), f 214 (by omega) (by omega), f 215 (by omega) (by omega)]; exact r.1 p hp
  · rw [f 216 (by omega) (by omega), f 217 (by omega) (by omega)]; exact r.2.1 q hq
def a_dec (A : TA) (s : Int) (n : Nat) (w : Int) : Int := if w = 0 then td_all (a_W A) (a_lots s n) 24 else td_sum (fun q => td_one (td_fg (a_W A) (a_lots s n) 24 q)) (tw_n (a_W A))
theorem c_M_decadesOf {d : Nat} {A : TA} (ok : TAok A) {s : Int} {n : Nat} (hn : n ≤ 8) {w : Int} {G : SgM} {Q : Int → SgM → Prop} (cn : cN A G)
    (post : ∀ G', cm_fe G G' → Q (a_dec A s n w) G') : sg_Wp 200 228 (d + 5) m_M_decadesOf 0 [(0, 2, 200), (1, 0, s), (2, 0, (n : Int)), (3, 0, w)] [] G Q := by
  have n8 := ok.w.1
  have g11 : G 200 11 = (A.1.2.2.1 : Int) := cn.1.2.1.1
  -- the events put back
  have l3 : ∀ (u m : Nat), m + u = 24 → ∀ G1 : SgM, (∀ c : Int, (c < 210 ∨ 224 < c) → c ≠ 200 → c ≠ 209 → c ≠ 227 → ∀ i, G1 c i = G c i) → (∀ i : Int, i ≠ 11 → i ≠ 35 → G1 200 i = G 200 i) → (∀ i : Int, (i < (m : Int) ∨ 24 ≤ i) → G1 209 i = G 209 i) → (∀ i : Int, 0 ≤ i → i < 24 → G1 227 i = G 209 i) → cm_I (a_W A) (a_lots s n) 24 G1 →
      sg_Wp 200 228 (d + 5) m_M_decadesOf 97 [(0, 2, 200), (3, 0, w), (4, 0, G 200 11), (5, 0, (m : Int))] [] G1 Q := by
    intro u
    induction u with
    | zero =>
      intro m hm G1 f1 f2 f3 f4 f5
      have em : m = 24 := by omega
      subst em
      have fr : cm_fe G (sg_up G1 200 11 (G 200 11)) := by
        refine ⟨fun c x y z t i => ?_, fun i x y z => ?_⟩
        · rw [sg_upc y]
          by_cases e : c = 209
          · subst e; exact f3 i (by omega)
          · exact f1 c x y e t i
        · by_cases e : i = 11
          · subst e; rw [sg_up_at]
          · rw [sg_upi e]; exact f2 i e z
      have ci := f5.fr (G' := sg_up G1 200 11 (G 200 11)) (fun c x y i => sg_upc (by omega))
      have cw := cn.2.fe fr
      have po := post _ fr
      unfold a_dec at po
      refine g_M_decadesOf_97 ⟨fun _ => ⟨fun z => ?_, fun z => ?_⟩, fun z => absurd (by omega) z⟩
      · rw [if_neg z] at po
        have h1 := sg_mk_lt (td_fg (a_W A) (a_lots s n) 24) (tw_n (a_W A))
        have h2 : 2 ^ tw_n (a_W A) ≤ 2 ^ 8 := Nat.pow_le_pow_right (by omega) n8
        refine c_M_forgottenNow ok.w cw.pst ci.2.2 (c_M_ones (k := td_fgm (a_W A) (a_lots s n) 24) ?_ ?_)
        · unfold td_fgm; omega
        · unfold td_fgm
          rw [tn_mk n8]
          exact po
      · rw [if_pos (Decidable.not_not.mp z)] at po
        exact c_M_allNow ok.w cw.pst ci po
    | succ u ih =>
      intro m hm G1 f1 f2 f3 f4 f5
      refine g_M_decadesOf_97 ⟨fun z => absurd z (by omega), fun _ => ⟨by omega, by omega, ?_⟩⟩
      rw [sg_inc1 m (by omega)]
      refine ih (m + 1) (by omega) _ (fun c x y z t i => by rw [sg_upc z]; exact f1 c x y z t i) (fun i x y => by rw [sg_upc (by omega)]; exact f2 i x y) (fun i x => ?_) (fun i x y => by rw [sg_upc (by omega)]; exact f4 i x y) (f5.fr (fun c x y i => sg_upc (by omega)))
      by_cases e : i = (m : Int)
      · subst e; rw [sg_up_at]; exact f4 _ (by omega) (by omega)
      · rw [sg_upi e]; exact f3 i (by omega)
  -- the lots drawn
  have l2 : ∀ (u m : Nat), m + u = n → ∀ G1 : SgM, (∀ c : Int, (c < 210 ∨ 224 < c) → c ≠ 200 → c ≠ 209 → c ≠ 227 → ∀ i, G1 c i = G c i) → (∀ i : Int, i ≠ 11 → i ≠ 35 → G1 200 i = G 200 i) → (∀ i : Int, (i < 0 ∨ 24 ≤ i) → G1 209 i = G 209 i) → (∀ i : Int, 0 ≤ i → i < 24 → G1 227 i = G 209 i) → G1 200 35 = tl_s s (3 * m) → cm_E (te_lots s m) G1 →
      sg_Wp 200 228 (d + 5) m_M_decadesOf 49 [(0, 2, 200), (2, 0, (n : Int)), (3, 0, w), (4, 0, G 200 11), (5, 0, (m : Int))] [] G1 Q := by
    intro u
    induction u with
    | zero =>
      intro m hm G1 f1 f2 f3 f4 f5 f6
      have em : m = n := by omega
      subst em
      have cw : cm_W (a_W A) G1 := ⟨⟨by rw [f2 7 (by omega) (by omega)]; exact cn.2.pst, fun q hq => by rw [f1 207 (by omega) (by omega) (by omega) (by omega), f1 207 (by omega) (by omega) (by omega) (by omega)]; exact cn.2.1.2 q hq⟩, by rw [f2 9 (by omega) (by omega)]; exact cn.2.pep, fun p hp => by rw [f1 208 (by omega) (by omega) (by omega) (by omega), f1 208 (by omega) (by omega) (by omega) (by omega), f1 208 (by omega) (by omega) (by omega) (by omega), f1 208 (by omega) (by omega) (by omega) (by omega)]; exact cn.2.2.2 p hp⟩
      have e : tm_Y (te_lots s m) (0, -1, G1 200 15, G1 200 16) = a_lots s m := tm_Y_of rfl te_all_0
      refine g_M_decadesOf_49 ⟨fun _ => c_M_lives (d := d) (E := te_lots s m) (O := (0, -1, G1 200 15, G1 200 16)) (te_lots_ok s hn) (show (0 : Nat) < 2147483648 by decide) ok.w cw f6 ⟨by rw [f2 13 (by omega) (by omega)]; exact cn.1.2.2.1.1, by rw [f2 14 (by omega) (by omega)]; exact cn.1.2.2.1.2, rfl, rfl⟩ (fun G2 a b => ?_), fun z => absurd (by omega) z⟩
      rw [e] at b
      exact l3 24 0 (by omega) G2 (fun c x y z t i => by rw [a c x]; exact f1 c x y z t i) (fun i x y => by rw [a 200 (by omega)]; exact f2 i x y) (fun i x => by rw [a 209 (by omega)]; exact f3 i (by omega)) (fun i x y => by rw [a 227 (by omega)]; exact f4 i x y) b
    | succ u ih =>
      intro m hm G1 f1 f2 f3 f4 f5 f6
      have n1 : tl_s s (3 * m + 1) = tl_next (tl_s s (3 * m)) := rfl
      have n2 : tl_s s (3 * m + 2) = tl_next (tl_s s (3 * m + 1)) := rfl
      have n3 : tl_s s (3 * m + 3) = tl_next (tl_s s (3 * m + 2)) := rfl
      refine g_M_decadesOf_49 ⟨fun z => absurd z (by omega), fun _ => c_M_lot (by omega) f5 (c_M_lot (by omega) sg_up_at (c_M_lot (by omega) sg_up_at ?_))⟩
      rw [← n1, ← n2, ← n3]
      have ce : cm_E (te_lots s m) (sg_up (sg_up (sg_up G1 200 35 (tl_s s (3 * m + 1))) 200 35 (tl_s s (3 * m + 2))) 200 35 (tl_s s (3 * m + 3))) := ((f6.up (by omega) (by omega)).up (by omega) (by omega)).up (by omega) (by omega)
      refine c_M_keeps (show (te_lots s m).1 < 8 from show m < 8 by omega) ce (fun G2 a1 a2 a3 a4 => ?_)
      rw [sg_inc1 m (by omega)]
      refine ih (m + 1) (by omega) G2 (fun c x y z t i => by rw [a1 c y z, sg_upc y, sg_upc y, sg_upc y]; exact f1 c x y z t i) (fun i x y => by rw [a2 i x, sg_upi y, sg_upi y, sg_upi y]; exact f2 i x y) (fun i x => by rw [a3 i x, sg_upc (by omega), sg_upc (by omega), sg_upc (by omega)]; exact f3 i x) (fun i x y => by rw [a1 227 (by omega) (by omega), sg_upc (by omega), sg_upc (by omega), sg_upc (by omega)]; exact f4 i x y) (by rw [a2 35 (by omega), sg_up_at]; rfl) ?_
      refine a4.congr rfl (fun i hi => ?_)
      have hi : i < m + 1 := hi
      by_cases ei : i = m
      · subst ei
        exact ⟨(if_pos rfl).symm, (if_pos rfl).symm, (if_pos rfl).symm⟩
      · exact ⟨(if_neg ei).symm, (if_neg ei).symm, (if_neg ei).symm⟩
  -- the events kept
  have l1 : ∀ (u m : Nat), m + u = 24 → ∀ G1 : SgM, (∀ c : Int, c ≠ 227 → ∀ i, G1 c i = G c i) → (∀ i : Int, 0 ≤ i → i < (m : Int) → G1 227 i = G 209 i) →
      sg_Wp 200 228 (d + 5) m_M_decadesOf 9 [(0, 2, 200), (1, 0, s), (2, 0, (n : Int)), (3, 0, w), (4, 0, G 200 11), (5, 0, (m : Int))] [] G1 Q := by
    intro u
    induction u with
    | zero =>
      intro m hm G1 f1 f2
      have em : m = 24 := by omega
      subst em
      refine g_M_decadesOf_9 ⟨fun _ => ?_, fun z => absurd (by omega) z⟩
      exact l2 n 0 (by omega) _ (fun c x y z t i => by rw [sg_upc y, sg_upc y]; exact f1 c t i) (fun i x y => by rw [sg_upi x, sg_upi y]; exact f1 200 (by omega) i) (fun i x => by rw [sg_upc (by omega), sg_upc (by omega)]; exact f1 209 (by omega) i) (fun i x y => by rw [sg_upc (by omega), sg_upc (by omega)]; exact f2 i x (by omega)) (by rw [sg_upi (by omega), sg_up_at]; rfl) ⟨by rw [sg_up_at]; rfl, fun e he => absurd he (Nat.not_lt_zero _)⟩
    | succ u ih =>
      intro m hm G1 f1 f2
      refine g_M_decadesOf_9 ⟨fun z => absurd z (by omega), fun _ => ⟨by omega, by omega, ?_⟩⟩
      rw [sg_inc1 m (by omega)]
      refine ih (m + 1) (by omega) _ (fun c z i => by rw [sg_upc z]; exact f1 c z i) (fun i x y => ?_)
      by_cases e : i = (m : Int)
      · subst e; rw [sg_up_at]; exact f1 209 (by omega) _
      · rw [sg_upi e]; exact f2 i x (by omega)
  exact g_M_decadesOf_0 (l1 24 0 (by omega) G (fun _ _ _ => rfl) (fun i x y => by omega))
theorem c_M_decades {d : Nat} {A : TA} (ok : TAok A) {s n w : Int} {G : SgM} {Q : Int → SgM → Prop} (cm : cM A G) (post : ∀ G', cM A G' → Q (a_decades A s n w) G') : sg_Wp 200 228 (d + 8) m_M_decades 0 [(0, 2, 200), (1, 0, s), (2, 0, n), (3, 0, w)] [] G Q := by
  unfold a_decades at post
  refine g_M_decades_0 (d := d + 6) (c_M_find_A (d := d + 2) ok cm (fun G1 c1 cw ci => ⟨fun x => ⟨fun y => ?_, fun y => ?_⟩, fun x => ?_⟩))
  · rw [if_pos (by omega)] at post
    have e : ((n.toNat : Nat) : Int) = n := by omega
    have r := c_M_decadesOf (d := d + 2) (Q := Q) (s := s) (n := n.toNat) (w := w) ok (by omega) ⟨c1, cw⟩ (fun G2 f => post G2 (c1.fs f.fs))
    rw [e] at r
    exact r
  · rw [if_neg (by omega)] at post
    exact post G1 c1
  · rw [if_neg (by omega)] at post
    exact post G1 c1
theorem c_M_countN {d : Nat} {A : TA} (ok : TAok A) {w : Int} {G : SgM} {Q : Int → SgM → Prop} (cm : cM A G) (post : ∀ G', cN A G' → cm_I (a_W A) (a_Y A) 24 G' → Q (a_count A w) G') : sg_Wp 200 228 (d + 6) m_M_count 0 [(0, 2, 200), (1, 0, w)] [] G Q := by
  have n8 := ok.w.1
  unfold a_count at post
  refine g_M_count_0 (d := d + 5) (c_M_find_A (d := d) ok cm (fun G1 c1 cw ci => ?_))
  have po := post G1 ⟨c1, cw⟩ ci
  refine ⟨fun z => ?_, fun z => ?_⟩
  · rw [if_pos z] at po
    rw [cw.pst]; exact po
  rw [if_neg z] at po
  refine ⟨fun z => ?_, fun z => ?_⟩
  · rw [if_pos z] at po
    rw [cw.pep]; exact po
  rw [if_neg z] at po
  refine ⟨fun z => ?_, fun z => ?_⟩
  · rw [if_pos z] at po
    rw [z, show sg_isub 2 2 = 0 from sg_isub_eq (by omega) (by omega), c1.1.1]
    exact ⟨by omega, po⟩
  rw [if_neg z] at po
  refine ⟨fun z => ?_, fun z => ?_⟩
  · rw [if_pos z] at po
    rw [z, show sg_isub 3 2 = 1 from sg_isub_eq (by omega) (by omega), c1.1.2.1]
    exact ⟨by omega, po⟩
  rw [if_neg z] at po
  refine ⟨fun z => ?_, fun z => ?_⟩
  · rw [if_pos z] at po
    rw [c1.2.1.1]; exact po
  rw [if_neg z] at po
  refine ⟨fun z => ?_, fun z => ?_⟩
  · rw [if_pos z] at po
    exact c_M_allNow ok.w cw.pst ci po
  rw [if_neg z] at po
  refine ⟨fun z => ?_, fun z => ?_⟩
  · rw [if_pos z] at po
    have h1 := sg_mk_lt (td_fg (a_W A) (a_Y A) 24) (tw_n (a_W A))
    have h2 : 2 ^ tw_n (a_W A) ≤ 2 ^ 8 := Nat.pow_le_pow_right (by omega) n8
    refine c_M_forgottenNow ok.w cw.pst ci.2.2 (c_M_ones (k := td_fgm (a_W A) (a_Y A) 24) ?_ ?_)
    · unfold td_fgm; omega
    · unfold td_fgm
      rw [tn_mk n8]
      exact po
  rw [if_neg z] at po
  refine ⟨fun z => ?_, fun z => ?_⟩
  · rw [if_pos z] at po
    rw [c1.2.2.2.1.1]; exact po
  rw [if_neg z] at po
  refine ⟨fun z => ?_, fun z => ?_⟩
  · rw [if_pos z] at po
    rw [c1.2.2.2.2.2]; exact po
  rw [if_neg z] at po
  exact po
theorem c_M_count {d : Nat} {A : TA} (ok : TAok A) {w : Int} {G : SgM} {Q : Int → SgM → Prop} (cm : cM A G) (post : ∀ G', cM A G' → Q (a_count A w) G') : sg_Wp 200 228 (d + 8) m_M_count 0 [(0, 2, 200), (1, 0, w)] [] G Q :=
  c_M_countN (d := d + 2) ok cm (fun G' h _ => post G' h.1)
