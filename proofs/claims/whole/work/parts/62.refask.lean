/-! THE REFERENCE: was, ask -/
theorem cm_R.fr {W : TW} {Y : TY} {h : Nat} {G G' : SgM} (r : cm_R W Y h G) (f : ∀ c : Int, 218 ≤ c → c ≤ 224 → ∀ i, G' c i = G c i) : cm_R W Y h G' := by
  intro i hi
  have x := r i hi
  refine ⟨fun p hp => ?_, fun q hq => ?_⟩
  · rw [f 218 (by omega) (by omega), f 219 (by omega) (by omega), f 220 (by omega) (by omega), f 221 (by omega) (by omega)]; exact x.1 p hp
  · rw [f 222 (by omega) (by omega), f 223 (by omega) (by omega), f 224 (by omega) (by omega)]; exact x.2 q hq
/-- what has been seen, with nothing odd -/
theorem c_M_isSeenA {d : Nat} {A : TA} (ok : TAok A) {W : TW} (hW : TWok W) {G : SgM} {Q : Int → SgM → Prop} (cw : cm_W W G) (ce : cm_E A.1.2.2 G) (g13 : G 200 13 = 0) (g14 : G 200 14 = -1) (cs : cm_S (a_S A) G)
    (post : ∀ G', cm_fd G G' → cm_I W (a_Y A) 24 G' → Q (td_one (ts_so (a_S A) W (a_Y A))) G') : sg_Wp 200 228 (d + 5) m_M_isSeen 0 [(0, 2, 200)] [] G Q := by
  have e : tm_Y A.1.2.2 (0, -1, G 200 15, G 200 16) = a_Y A := tm_Y_of rfl te_all_0
  refine c_M_isSeen (d := d) (S := a_S A) (E := A.1.2.2) (O := (0, -1, G 200 15, G 200 16)) ok.1.2.2 (show (0 : Nat) < 2147483648 by decide) hW ok.2.1 cw ce ⟨g13, g14, rfl, rfl⟩ cs (fun G' f i => ?_)
  rw [e] at i ⊢
  exact post G' f i
/-- one place of the people changed, and put back -/
theorem cm_fe.back {G G1 : SgM} {j : Int} (f : ∀ c i : Int, (c < 210 ∨ 224 < c) → c ≠ 226 → (c ≠ 208 ∨ i ≠ j) → G1 c i = G c i) : cm_fe G (sg_up G1 208 j (G 208 j)) := by
  refine ⟨fun c x y z t i => ?_, fun i _ _ _ => by rw [sg_upc (by omega)]; exact f 200 i (by omega) (by omega) (by omega)⟩
  by_cases e : c = 208
  · subst e
    by_cases ei : i = j
    · subst ei; exact sg_up_at
    · rw [sg_upi ei]; exact f 208 i (by omega) (by omega) (by omega)
  · rw [sg_upc e]; exact f c i x z (by omega)
theorem c_M_sortOf {d : Nat} {A : TA} (ok : TAok A) {p : Nat} (hp : p < tw_k (a_W A)) {G : SgM} {Q : Int → SgM → Prop} (cn : cN A G)
    (post : ∀ G', cm_fe G G' → Q (th_sorts (a_S A) (a_W A) (a_Y A) p : Int) G') : sg_Wp 200 228 (d + 6) m_M_sortOf 0 [(0, 2, 200), (1, 0, (p : Int))] [] G Q := by
  have hk := ok.w.2.1
  have j : sg_imul 4 (p : Int) = 4 * (p : Int) := sg_imul_eq (by omega) (by omega)
  have loop : ∀ (u m : Nat), m + u = 3 → ∀ G1 : SgM, (∀ c i : Int, (c < 210 ∨ 224 < c) → c ≠ 226 → (c ≠ 208 ∨ i ≠ 4 * (p : Int)) → G1 c i = G c i) →
      sg_Wp 200 228 (d + 6) m_M_sortOf 14 [(0, 2, 200), (1, 0, (p : Int)), (2, 0, G 208 (4 * (p : Int))), (3, 0, (sg_mk (fun v => ts_so (a_S A) (tw_sets (a_W A) p (v : Int)) (a_Y A)) m : Int)), (4, 0, (m : Int))] [] G1 Q := by
    intro u
    induction u with
    | zero =>
      intro m hm G1 f1
      have em : m = 3 := by omega
      subst em
      refine g_M_sortOf_14 ⟨fun _ => ⟨by rw [j]; omega, ?_⟩, fun z => absurd (by omega) z⟩
      rw [j]
      exact post _ (cm_fe.back f1)
    | succ u ih =>
      intro m hm G1 f1
      have cw : cm_W (tw_sets (a_W A) p (m : Int)) (sg_up G1 208 (4 * (p : Int)) (m : Int)) := cn.2.sets (fun c i x y => by
        by_cases e : c = 208
        · subst e
          rw [sg_upi (by omega)]; exact f1 208 i (by omega) (by omega) y
        · rw [sg_upc e]; exact f1 c i (by omega) (by omega) y) sg_up_at
      have ce : cm_E A.1.2.2 (sg_up G1 208 (4 * (p : Int)) (m : Int)) := (cn.1.2.1.fr (fun c x i => f1 c i (by omega) (by omega) (by omega))).up (by omega) (by omega)
      have cs : cm_S (a_S A) (sg_up G1 208 (4 * (p : Int)) (m : Int)) := ⟨by rw [sg_upc (by omega), f1 200 32 (by omega) (by omega) (by omega)]; exact cn.1.2.2.2.1.1, fun i hi => by rw [sg_upc (by omega), sg_upc (by omega), sg_upc (by omega), f1 225 _ (by omega) (by omega) (by omega), f1 225 _ (by omega) (by omega) (by omega), f1 225 _ (by omega) (by omega) (by omega)]; exact cn.1.2.2.2.1.2 i hi⟩
      refine g_M_sortOf_14 ⟨fun z => absurd z (by omega), fun _ => ⟨by rw [j]; omega, ?_⟩⟩
      rw [j]
      refine c_M_isSeenA (d := d) ok (tw_sets_ok ok.w p (by omega)) cw ce (by rw [sg_upc (by omega), f1 200 13 (by omega) (by omega) (by omega)]; exact cn.1.2.2.1.1) (by rw [sg_upc (by omega), f1 200 14 (by omega) (by omega) (by omega)]; exact cn.1.2.2.1.2) cs (fun G2 a b => ?_)
      have ih := ih (m + 1) (by omega) G2 (fun c i x z y => by
        rw [a c x]
        by_cases e : c = 208
        · subst e; rw [sg_upi (by omega)]; exact f1 208 i (by omega) z y
        · rw [sg_upc e]; exact f1 c i x z y)
      cases sb : ts_so (a_S A) (tw_sets (a_W A) p (m : Int)) (a_Y A) with
      | true =>
        refine ⟨fun z => absurd z (by decide), fun _ => ?_⟩
        rw [sg_mk_t (f := fun v => ts_so (a_S A) (tw_sets (a_W A) p (v : Int)) (a_Y A)) (by omega) sb, sg_inc1 m (by omega)]
        exact ih
      | false =>
        refine ⟨fun _ => ?_, fun z => absurd rfl z⟩
        rw [sg_mk_f (f := fun v => ts_so (a_S A) (tw_sets (a_W A) p (v : Int)) (a_Y A)) sb] at ih
        rw [sg_mk_or0 (by omega), sg_inc1 m (by omega)]
        exact ih
  refine g_M_sortOf_0 ⟨by rw [j]; omega, ?_⟩
  rw [j]
  exact loop 3 0 (by omega) G (fun _ _ _ _ _ => rfl)
/-- the ways kept for each cold -/
def cm_V (W : TW) (Y : TY) (p m : Nat) (G : SgM) : Prop := ∀ v : Nat, 1 ≤ v → v < m → ∀ h : Nat, h < 24 → G 226 (24 * (v : Int) + (h : Int)) = (td_chm (tw_setk W p (v : Int)) Y h : Int)
theorem c_M_coldsOf {d : Nat} {A : TA} (ok : TAok A) {p : Nat} (hp : p < tw_k (a_W A)) {G : SgM} {Q : Int → SgM → Prop} (cn : cN A G)
    (post : ∀ G', cm_fe G G' → cm_V (a_W A) (a_Y A) p 10 G' → Q (th_colds (a_S A) (a_W A) (a_Y A) p : Int) G') : sg_Wp 200 228 (d + 6) m_M_coldsOf 0 [(0, 2, 200), (1, 0, (p : Int))] [] G Q := by
  have hk := ok.w.2.1
  have j : sg_iadd (sg_imul 4 (p : Int)) 3 = 4 * (p : Int) + 3 := by rw [sg_imul_eq (by omega) (by omega), sg_iadd_eq (by omega) (by omega)]
  have loop : ∀ (u m : Nat), m + u = 10 → 1 ≤ m → ∀ G1 : SgM, (∀ c i : Int, (c < 210 ∨ 224 < c) → c ≠ 226 → (c ≠ 208 ∨ i ≠ 4 * (p : Int) + 3) → G1 c i = G c i) → cm_V (a_W A) (a_Y A) p m G1 →
      sg_Wp 200 228 (d + 6) m_M_coldsOf 16 [(0, 2, 200), (1, 0, (p : Int)), (2, 0, G 208 (4 * (p : Int) + 3)), (3, 0, (sg_mk (th_cb (a_S A) (a_W A) (a_Y A) p) m : Int)), (4, 0, (m : Int))] [] G1 Q := by
    intro u
    induction u with
    | zero =>
      intro m hm m1 G1 f1 f2
      have em : m = 10 := by omega
      subst em
      refine g_M_coldsOf_16 ⟨fun _ => ⟨by rw [j]; omega, ?_⟩, fun z => absurd (by omega) z⟩
      rw [j]
      exact post _ (cm_fe.back f1) (fun v v1 v2 h hh => by rw [sg_upc (by omega)]; exact f2 v v1 v2 h hh)
    | succ u ih =>
      intro m hm m1 G1 f1 f2
      have okW := tw_setk_ok ok.w p (v := (m : Int)) (by omega)
      have cw : cm_W (tw_setk (a_W A) p (m : Int)) (sg_up G1 208 (4 * (p : Int) + 3) (m : Int)) := cn.2.setk (fun c i x y => by
        by_cases e : c = 208
        · subst e
          rw [sg_upi (by omega)]; exact f1 208 i (by omega) (by omega) y
        · rw [sg_upc e]; exact f1 c i (by omega) (by omega) y) sg_up_at
      have ce : cm_E A.1.2.2 (sg_up G1 208 (4 * (p : Int) + 3) (m : Int)) := (cn.1.2.1.fr (fun c x i => f1 c i (by omega) (by omega) (by omega))).up (by omega) (by omega)
      have cs : cm_S (a_S A) (sg_up G1 208 (4 * (p : Int) + 3) (m : Int)) := ⟨by rw [sg_upc (by omega), f1 200 32 (by omega) (by omega) (by omega)]; exact cn.1.2.2.2.1.1, fun i hi => by rw [sg_upc (by omega), sg_upc (by omega), sg_upc (by omega), f1 225 _ (by omega) (by omega) (by omega), f1 225 _ (by omega) (by omega) (by omega), f1 225 _ (by omega) (by omega) (by omega)]; exact cn.1.2.2.2.1.2 i hi⟩
      refine g_M_coldsOf_16 ⟨fun z => absurd z (by omega), fun _ => ⟨by rw [j]; omega, ?_⟩⟩
      rw [j]
      refine c_M_isSeenA (d := d) ok okW cw ce (by rw [sg_upc (by omega), f1 200 13 (by omega) (by omega) (by omega)]; exact cn.1.2.2.1.1) (by rw [sg_upc (by omega), f1 200 14 (by omega) (by omega) (by omega)]; exact cn.1.2.2.1.2) cs (fun G2 a b => ?_)
      have k1 : ∀ c i : Int, (c < 210 ∨ 224 < c) → c ≠ 226 → (c ≠ 208 ∨ i ≠ 4 * (p : Int) + 3) → G2 c i = G c i := fun c i x z y => by
        rw [a c x]
        by_cases e : c = 208
        · subst e; rw [sg_upi (by omega)]; exact f1 208 i (by omega) z y
        · rw [sg_upc e]; exact f1 c i x z y
      have k2 : cm_V (a_W A) (a_Y A) p m G2 := fun v v1 v2 h hh => by rw [a 226 (by omega), sg_upc (by omega)]; exact f2 v v1 v2 h hh
      have p7 : G2 200 7 = (tw_n (tw_setk (a_W A) p (m : Int)) : Int) := by rw [a 200 (by omega)]; exact cw.pst
      have inner : ∀ (x h : Nat), h + x = 24 → ∀ G3 : SgM, (∀ c : Int, c ≠ 226 → ∀ i, G3 c i = G2 c i) → cm_V (a_W A) (a_Y A) p m G3 → (∀ i : Nat, i < h → G3 226 (24 * (m : Int) + (i : Int)) = (td_chm (tw_setk (a_W A) p (m : Int)) (a_Y A) i : Int)) →
          sg_Wp 200 228 (d + 6) m_M_coldsOf 56 [(0, 2, 200), (1, 0, (p : Int)), (2, 0, G 208 (4 * (p : Int) + 3)), (3, 0, (sg_mk (th_cb (a_S A) (a_W A) (a_Y A) p) (m + 1) : Int)), (4, 0, (m : Int)), (5, 0, (h : Int))] [] G3 Q := by
        intro x
        induction x with
        | zero =>
          intro h hh G3 e1 e2 e3
          have eh : h = 24 := by omega
          subst eh
          refine g_M_coldsOf_56 ⟨fun _ => ?_, fun z => absurd (by omega) z⟩
          rw [sg_inc1 m (by omega)]
          refine ih (m + 1) (by omega) (by omega) G3 (fun c i x z y => by rw [e1 c z]; exact k1 c i x z y) (fun v v1 v2 h hh => ?_)
          by_cases ev : v = m
          · subst ev; exact e3 h hh
          · exact e2 v v1 (by omega) h hh
        | succ x ihx =>
          intro h hh G3 e1 e2 e3
          have jj : sg_iadd (sg_imul 24 (m : Int)) (h : Int) = 24 * (m : Int) + (h : Int) := by rw [sg_imul_eq (by omega) (by omega), sg_iadd_eq (by omega) (by omega)]
          refine g_M_coldsOf_56 ⟨fun z => absurd z (by omega), fun _ => c_M_changesIn (d := d + 5) okW (h := h) (by omega) (by rw [e1 200 (by omega)]; exact p7) (b.2.2.fr (fun c x1 x2 i => e1 c (by omega) i)) ⟨by rw [jj]; omega, ?_⟩⟩
          rw [jj, sg_inc1 h (by omega)]
          refine ihx (h + 1) (by omega) _ (fun c z i => by rw [sg_upc z]; exact e1 c z i) (fun v v1 v2 i hi => by rw [sg_upi (by omega)]; exact e2 v v1 v2 i hi) (fun i hi => ?_)
          by_cases ei : i = h
          · subst ei; exact sg_up_at
          · rw [sg_upi (by omega)]; exact e3 i (by omega)
      have i0 := inner 24 0 (by omega) G2 (fun _ _ _ => rfl) k2 (fun i hi => absurd hi (Nat.not_lt_zero _))
      have tb : th_cb (a_S A) (a_W A) (a_Y A) p m = ts_so (a_S A) (tw_setk (a_W A) p (m : Int)) (a_Y A) := by
        unfold th_cb
        rw [decide_eq_true m1, Bool.true_and]
      rw [← tb]
      cases sb : th_cb (a_S A) (a_W A) (a_Y A) p m with
      | true =>
        refine ⟨fun z => absurd z (by decide), fun _ => ?_⟩
        rw [sg_mk_t (by omega) sb]
        exact i0
      | false =>
        refine ⟨fun _ => ?_, fun z => absurd rfl z⟩
        rw [sg_mk_f sb] at i0
        rw [sg_mk_or0 (by omega)]
        exact i0
  refine g_M_coldsOf_0 ⟨by rw [j]; omega, ?_⟩
  rw [j]
  have l1 := loop 9 1 (by omega) (by omega) G (fun _ _ _ _ _ => rfl) (fun v v1 v2 => by omega)
  have e1 : sg_mk (th_cb (a_S A) (a_W A) (a_Y A) p) 1 = 0 := sg_mk_zero.mpr (fun i hi => by
    have : i = 0 := by omega
    subst this
    rfl)
  rw [e1] at l1
  exact l1
theorem th_al_in (F : Nat → Bool) (x : Nat → Int) (a j : Nat) (hj : j ≤ 10) : 0 ≤ th_al F x a j ∧ th_al F x a j ≤ 10 := by
  have := td_sum_in (f := fun b => td_one (F b && decide (x b = x a))) (b := 1) (fun i => td_one_in _) j
  exact ⟨this.1, Int.le_trans this.2 (by omega)⟩
theorem th_mx_in (F : Nat → Bool) (x : Nat → Int) : ∀ m : Nat, 0 ≤ th_mx F x m
  | 0 => Int.le_refl 0
  | m + 1 => by
    have ih := th_mx_in F x m
    have b := th_al_in F x m 10 (by omega)
    rw [th_mx_s]
    unfold sg_mx
    split
    · split <;> omega
    · exact ih
theorem c_M_alike {d : Nat} {F : Nat → Bool} (F0 : F 0 = false) {X : Nat → Nat → Int} {h : Nat} (hh : h < 24) {G : SgM} {Q : Int → SgM → Prop} (gx : ∀ v : Nat, 1 ≤ v → v < 10 → G 226 (24 * (v : Int) + (h : Int)) = X v h)
    (post : Q (th_mx F (fun v => X v h) 10) G) : sg_Wp 200 228 (d + 1) m_M_alike 0 [(0, 2, 200), (1, 0, (sg_mk F 10 : Int)), (2, 0, (h : Int))] [] G Q := by
  have jj : ∀ v : Nat, v < 10 → sg_iadd (sg_imul 24 (v : Int)) (h : Int) = 24 * (v : Int) + (h : Int) := fun v hv => by rw [sg_imul_eq (by omega) (by omega), sg_iadd_eq (by omega) (by omega)]
  have loop : ∀ (u m : Nat), m + u = 10 → 1 ≤ m → sg_Wp 200 228 (d + 1) m_M_alike 5 [(0, 2, 200), (1, 0, (sg_mk F 10 : Int)), (2, 0, (h : Int)), (3, 0, th_mx F (fun v => X v h) m), (4, 0, (m : Int))] [] G Q := by
    intro u
    induction u with
    | zero =>
      intro m hm h1
      have em : m = 10 := by omega
      subst em
      exact g_M_alike_5 ⟨fun _ => post, fun q => absurd (by omega) q⟩
    | succ u ih =>
      intro m hm h1
      have ih := ih (m + 1) (by omega) (by omega)
      rw [th_mx_s] at ih
      have m0 := th_mx_in F (fun v => X v h) m
      refine g_M_alike_5 ⟨fun q => absurd q (by omega), fun _ => ?_⟩
      by_cases fm : F m = true
      · rw [if_pos fm] at ih
        have bm : sg_iand (sg_ishr (sg_mk F 10 : Int) (m : Int)) 1 = 1 := (sg_mk_hb1 (by omega) (by omega)).mpr ⟨by omega, fm⟩
        have inner : ∀ (w j : Nat), j + w = 10 → 1 ≤ j → sg_Wp 200 228 (d + 1) m_M_alike 18 [(0, 2, 200), (1, 0, (sg_mk F 10 : Int)), (2, 0, (h : Int)), (3, 0, th_mx F (fun v => X v h) m), (4, 0, (m : Int)), (5, 0, th_al F (fun v => X v h) m j), (6, 0, (j : Int))] [] G Q := by
          intro w
          induction w with
          | zero =>
            intro j hj j1
            have ej : j = 10 := by omega
            subst ej
            refine g_M_alike_18 ⟨fun _ => ?_, fun q => absurd (by omega) q⟩
            rw [sg_inc1 m (by omega)]
            exact ih
          | succ w ihw =>
            intro j hj j1
            have ihw := ihw (j + 1) (by omega) (by omega)
            rw [th_al_s] at ihw
            have bs := th_al_in F (fun v => X v h) m j (by omega)
            refine g_M_alike_18 ⟨fun q => absurd q (by omega), fun _ => ⟨fun _ => ⟨fun q2 => ⟨by rw [jj m (by omega)]; omega, by rw [jj j (by omega)]; omega, fun q3 => ?_, fun q3 => ?_⟩, fun q2 => ?_⟩, fun q => absurd bm q⟩⟩
            · rw [jj m (by omega), jj j (by omega), gx j j1 (by omega), gx m h1 (by omega)] at q3
              rw [decide_eq_false (show ¬ X j h = X m h from fun z => q3 z.symm), Bool.and_false, show td_one false = 0 from rfl] at ihw
              rw [sg_inc1 j (by omega), sg_iadd_eq (by omega) (by omega)]
              exact ihw
            · rw [jj m (by omega), jj j (by omega), gx j j1 (by omega), gx m h1 (by omega)] at q3
              have fj := ((sg_mk_hb1 (by omega) (by omega)).mp q2).2
              rw [fj, decide_eq_true (show X j h = X m h from (Decidable.not_not.mp q3).symm), show td_one (true && true) = 1 from rfl] at ihw
              rw [sg_inc1 j (by omega), sg_iadd_eq (by omega) (by omega)]
              exact ihw
            · have fj : F j = false := Bool.of_not_eq_true (fun z => q2 ((sg_mk_hb1 (by omega) (by omega)).mpr ⟨by omega, z⟩))
              rw [fj, Bool.false_and, show td_one false = 0 from rfl] at ihw
              rw [sg_inc1 j (by omega), sg_iadd_eq (by omega) (by omega)]
              exact ihw
        have i1 := inner 9 1 (by omega) (by omega)
        have e1 : th_al F (fun v => X v h) m 1 = 0 := by rw [th_al_s, F0]; rfl
        rw [e1] at i1
        exact i1
      · rw [if_neg fm] at ih
        have bm : ¬ sg_iand (sg_ishr (sg_mk F 10 : Int) (m : Int)) 1 = 1 := fun z => fm ((sg_mk_hb1 (by omega) (by omega)).mp z).2
        have inner : ∀ (w j : Nat), j + w = 10 → 1 ≤ j → sg_Wp 200 228 (d + 1) m_M_alike 18 [(0, 2, 200), (1, 0, (sg_mk F 10 : Int)), (2, 0, (h : Int)), (3, 0, th_mx F (fun v => X v h) m), (4, 0, (m : Int)), (5, 0, 0), (6, 0, (j : Int))] [] G Q := by
          intro w
          induction w with
          | zero =>
            intro j hj j1
            have ej : j = 10 := by omega
            subst ej
            refine g_M_alike_18 ⟨fun _ => ?_, fun q => absurd (by omega) q⟩
            rw [sg_inc1 m (by omega), show sg_grt 0 (th_mx F (fun v => X v h) m) = th_mx F (fun v => X v h) m from if_neg (by omega)]
            exact ih
          | succ w ihw =>
            intro j hj j1
            have ihw := ihw (j + 1) (by omega) (by omega)
            refine g_M_alike_18 ⟨fun q => absurd q (by omega), fun _ => ⟨fun q => absurd q bm, fun _ => ?_⟩⟩
            rw [sg_inc1 j (by omega), sg_iadd_eq (by omega) (by omega)]
            exact ihw
        exact inner 9 1 (by omega) (by omega)
  have l1 := loop 9 1 (by omega) (by omega)
  have e1 : th_mx F (fun v => X v h) 1 = 0 := by rw [th_mx_s, if_neg (by rw [F0]; decide)]; rfl
  rw [e1] at l1
  exact g_M_alike_0 l1
theorem ta_min_at (f : Nat → Int) : ∀ {m : Nat}, 0 < m → ∃ b : Nat, b < m ∧ (ta_min f m).1 = (b : Int) ∧ (ta_min f m).2 = f b
  | 0, h => absurd h (Nat.lt_irrefl 0)
  | m + 1, _ => by
    rw [ta_min_s]
    by_cases c : m = 0 ∨ f m < (ta_min f m).2
    · rw [if_pos c]; exact ⟨m, by omega, rfl, rfl⟩
    · rw [if_neg c]
      obtain ⟨b, b1, b2, b3⟩ := ta_min_at f (m := m) (by omega)
      exact ⟨b, by omega, b2, b3⟩
theorem c_M_askOf {d : Nat} {A : TA} (ok : TAok A) {p : Nat} (hp : p < tw_k (a_W A)) {G : SgM} {Q : Int → SgM → Prop} (cn : cN A G)
    (post : ∀ G', cm_fe G G' → Q (th_ask (a_S A) (a_W A) (a_Y A) p) G') : sg_Wp 200 228 (d + 7) m_M_askOf 0 [(0, 2, 200), (1, 0, (p : Int))] [] G Q := by
  refine g_M_askOf_0 (c_M_coldsOf (d := d) ok hp cn (fun G1 f g => ?_))
  have F0 : th_cb (a_S A) (a_W A) (a_Y A) p 0 = false := rfl
  have po := post G1 f
  unfold th_ask at po
  have al : ∀ (h : Nat), h < 24 → ∀ Q' : Int → SgM → Prop, Q' (th_mx (th_cb (a_S A) (a_W A) (a_Y A) p) (fun v => (td_chm (tw_setk (a_W A) p (v : Int)) (a_Y A) h : Int)) 10) G1 → sg_Wp 200 228 (d + 6) m_M_alike 0 [(0, 2, 200), (1, 0, (th_colds (a_S A) (a_W A) (a_Y A) p : Int)), (2, 0, (h : Int))] [] G1 Q' := fun h hh Q' q =>
    c_M_alike (d := d + 5) F0 (X := fun v h => (td_chm (tw_setk (a_W A) p (v : Int)) (a_Y A) h : Int)) hh (fun v v1 v2 => g v v1 v2 h hh) q
  have loop : ∀ (u m : Nat), m + u = 24 → 1 ≤ m → sg_Wp 200 228 (d + 7) m_M_askOf 11 [(0, 2, 200), (2, 0, (th_colds (a_S A) (a_W A) (a_Y A) p : Int)), (3, 0, (ta_min (fun h => th_mx (th_cb (a_S A) (a_W A) (a_Y A) p) (fun v => (td_chm (tw_setk (a_W A) p (v : Int)) (a_Y A) h : Int)) 10) m).1), (4, 0, (m : Int))] [] G1 Q := by
    intro u
    induction u with
    | zero =>
      intro m hm m1
      have em : m = 24 := by omega
      subst em
      exact g_M_askOf_11 ⟨fun _ => po, fun z => absurd (by omega) z⟩
    | succ u ih =>
      intro m hm m1
      have ih := ih (m + 1) (by omega) (by omega)
      rw [ta_min_s] at ih
      obtain ⟨b, b1, b2, b3⟩ := ta_min_at (fun h => th_mx (th_cb (a_S A) (a_W A) (a_Y A) p) (fun v => (td_chm (tw_setk (a_W A) p (v : Int)) (a_Y A) h : Int)) 10) (m := m) (by omega)
      rw [b2]
      rw [b3] at ih
      refine g_M_askOf_11 ⟨fun z => absurd z (by omega), fun _ => al m (by omega) _ (al b (by omega) _ ⟨fun z => ?_, fun z => ?_⟩)⟩
      · rw [if_neg (fun e => by rcases e with e | e; omega; exact absurd e (by omega)), b2] at ih
        rw [sg_inc1 m (by omega)]
        exact ih
      · rw [if_pos (Or.inr (by omega))] at ih
        rw [sg_inc1 m (by omega)]
        exact ih
  exact loop 23 1 (by omega) (by omega)
theorem c_M_was {d : Nat} {A : TA} (ok : TAok A) {p w : Int} {G : SgM} {Q : Int → SgM → Prop} (cm : cM A G) (post : ∀ G', cM A G' → Q (a_was A p w) G') : sg_Wp 200 228 (d + 8) m_M_was 0 [(0, 2, 200), (1, 0, p), (2, 0, w)] [] G Q := by
  have hn := ok.w.2.1
  unfold a_was at post
  refine g_M_was_0 (d := d + 6) (c_M_find_A (d := d + 2) ok cm (fun G1 c1 cw ci => c_M_isPerson (d := d + 6) (by omega) cw.pep ⟨fun x => ⟨fun z => by omega, fun _ => ⟨fun y => ?_, fun y => ?_⟩⟩, fun x => ⟨fun _ => ?_, fun z => absurd rfl z⟩⟩))
  · rw [if_pos ⟨x, by omega⟩] at post
    have e : ((p.toNat : Nat) : Int) = p := by omega
    refine g_M_wasOf_0 (d := d + 6) ⟨fun z => ?_, fun z => ?_⟩
    · rw [if_neg z] at post
      have r := c_M_coldsOf (d := d) (Q := Q) ok (p := p.toNat) (by omega) ⟨c1, cw⟩ (fun G2 f _ => post G2 (c1.fs f.fs))
      rw [e] at r
      exact r
    · rw [if_pos (Decidable.not_not.mp z)] at post
      have r := c_M_sortOf (d := d) (Q := Q) ok (p := p.toNat) (by omega) ⟨c1, cw⟩ (fun G2 f => post G2 (c1.fs f.fs))
      rw [e] at r
      exact r
  · rw [if_neg (by omega)] at post
    exact post G1 c1
  · rw [if_neg (fun z => x z.1)] at post
    exact post G1 c1
theorem c_M_ask {d : Nat} {A : TA} (ok : TAok A) {p : Int} {G : SgM} {Q : Int → SgM → Prop} (cm : cM A G) (post : ∀ G', cM A G' → Q (a_ask A p) G') : sg_Wp 200 228 (d + 8) m_M_ask 0 [(0, 2, 200), (1, 0, p)] [] G Q := by
  have hn := ok.w.2.1
  unfold a_ask at post
  refine g_M_ask_0 (d := d + 7) (c_M_find_A (d := d + 2) ok cm (fun G1 c1 cw ci => c_M_isPerson (d := d + 6) (by omega) cw.pep ⟨fun x => ⟨fun z => by omega, fun _ => ?_⟩, fun x => ⟨fun _ => ?_, fun z => absurd rfl z⟩⟩))
  · rw [if_pos x] at post
    have e : ((p.toNat : Nat) : Int) = p := by omega
    have r := c_M_askOf (d := d) (Q := Q) ok (p := p.toNat) (by omega) ⟨c1, cw⟩ (fun G2 f => post G2 (c1.fs f.fs))
    rw [e] at r
    exact r
  · rw [if_neg x] at post
    exact post G1 c1
