/-! HINDSIGHT: colds, and the hour to ask -/
theorem ce_51v {N : Nat} (hN : 75 ≤ N) {v : Nat} (hv : v < 10) : sg_Ce 0 N (51 + (v : Int)) 1 24 := by
  have : v = 0 ∨ v = 1 ∨ v = 2 ∨ v = 3 ∨ v = 4 ∨ v = 5 ∨ v = 6 ∨ v = 7 ∨ v = 8 ∨ v = 9 := by omega
  rcases this with rfl | rfl | rfl | rfl | rfl | rfl | rfl | rfl | rfl | rfl
  · exact ce_51 hN
  · exact ce_52 hN
  · exact ce_53 hN
  · exact ce_54 hN
  · exact ce_55 hN
  · exact ce_56 hN
  · exact ce_57 hN
  · exact ce_58 hN
  · exact ce_59 hN
  · exact ce_60 hN
theorem c_H_colds {d N : Nat} (hN : 75 ≤ N) {S : TS} (hS : TSok S) {W : TW} {Y : TY} (hW : TWok W) {p : Nat} (hp : p < tw_k W) {G : SgM} {Q : Int → SgM → Prop} (cW : cw_W W G) (cH : cw_H W G) (cY : cw_Y Y G) (cs : cSe S G)
    (post : ∀ G', (∀ c : Int, (c < 32 ∨ 42 < c) → (c < 51 ∨ 60 < c) → ∀ i, G' c i = G c i) → (∀ v : Nat, 1 ≤ v → v < 10 → ∀ h : Nat, h < 24 → G' (51 + (v : Int)) h = (td_chm (tw_setk W p (v : Int)) Y h : Int)) → Q (th_colds S W Y p : Int) G') :
    sg_Wp 0 N (d + 3) m_H_coldsOf 0 [(0, 2, 46), (1, 0, (p : Int))] [] G Q := by
  have hN4 : 44 ≤ N := Nat.le_trans (by decide) hN
  have hk := hW.2.1
  have loop : ∀ (u m : Nat), m + u = 10 → 1 ≤ m → ∀ G1 : SgM, (∀ c : Int, (c < 32 ∨ 42 < c) → (c < 51 ∨ 60 < c) → c ≠ 12 → ∀ i, G1 c i = G c i) → (∀ i : Int, i ≠ (p : Int) → G1 12 i = G 12 i) →
      (∀ v : Nat, 1 ≤ v → v < m → ∀ h : Nat, h < 24 → G1 (51 + (v : Int)) h = (td_chm (tw_setk W p (v : Int)) Y h : Int)) →
      sg_Wp 0 N (d + 3) m_H_coldsOf 18 [(0, 2, 46), (1, 0, (p : Int)), (2, 0, (sg_mk (th_cb S W Y p) m : Int)), (3, 0, G 12 p), (4, 0, (m : Int))] [] G1 Q := by
    intro u
    induction u with
    | zero =>
      intro m hm h1 G1 f1 f2 f3
      have em : m = 10 := by omega
      subst em
      refine g_H_coldsOf_46_18 (d := d + 1) hN ⟨fun _ => ⟨by omega, post _ (fun c x x2 i => ?_) (fun v v1 v2 h hh => by rw [sg_upc (by omega)]; exact f3 v v1 v2 h hh)⟩, fun q => absurd (by omega) q⟩
      by_cases e : c = 12
      · subst e
        by_cases ei : i = (p : Int)
        · subst ei; exact sg_up_at
        · rw [sg_upi ei]; exact f2 i ei
      · rw [sg_upc e]; exact f1 c x x2 e i
    | succ u ih =>
      intro m hm h1 G1 f1 f2 f3
      have cW' : cw_W (tw_setk W p (m : Int)) (sg_up G1 12 (p : Int) (m : Int)) := cW.setk (fun c x1 x2 i x3 => by
        by_cases e : c = 12
        · subst e
          rw [sg_upi (by omega)]; exact f2 i (by omega)
        · rw [sg_upc e]; exact f1 c (by omega) (by omega) e i) sg_up_at
      have cH' : cw_H (tw_setk W p (m : Int)) (sg_up G1 12 (p : Int) (m : Int)) := cw_H.fr (W := W) cH (fun i => by rw [sg_upc (by omega)]; exact f1 8 (by omega) (by omega) (by omega) i)
      have cY' : cw_Y Y (sg_up G1 12 (p : Int) (m : Int)) := cY.fr (fun c x1 x2 i => by rw [sg_upc (by omega)]; exact f1 c (by omega) (by omega) (by omega) i)
      refine g_H_coldsOf_46_18 (d := d + 1) hN ⟨fun q => absurd q (by omega), fun _ => ⟨by omega, c_D_pass_32 (d := d) hN4 (tw_setk_ok hW p (by omega)) cW' cH' cY' (fun G2 a r => ⟨by omega, ce_51v hN (by omega), by omega, ?_⟩)⟩⟩
      have cpo : ∀ c : Int, c ≠ 51 + (m : Int) → ∀ i, sg_cp G2 42 0 (51 + (m : Int)) 0 24 c i = G2 c i := fun c x i => by unfold sg_cp; exact if_neg (fun z => x z.1)
      have cpi : ∀ h : Nat, h < 24 → sg_cp G2 42 0 (51 + (m : Int)) 0 24 (51 + (m : Int)) h = G2 42 h := fun h hh => by
        unfold sg_cp
        rw [if_pos ⟨rfl, by omega, by omega⟩]
        congr 1
        omega
      have k1 : ∀ c : Int, (c < 32 ∨ 42 < c) → (c < 51 ∨ 60 < c) → c ≠ 12 → ∀ i, sg_cp G2 42 0 (51 + (m : Int)) 0 24 c i = G c i := fun c x1 x2 x3 i => by rw [cpo c (by omega), a c (by omega), sg_upc x3]; exact f1 c x1 x2 x3 i
      have k2 : ∀ i : Int, i ≠ (p : Int) → sg_cp G2 42 0 (51 + (m : Int)) 0 24 12 i = G 12 i := fun i x => by rw [cpo 12 (by omega), a 12 (by omega), sg_upi x]; exact f2 i x
      have k3 : ∀ v : Nat, 1 ≤ v → v < m + 1 → ∀ h : Nat, h < 24 → sg_cp G2 42 0 (51 + (m : Int)) 0 24 (51 + (v : Int)) h = (td_chm (tw_setk W p (v : Int)) Y h : Int) := fun v v1 v2 h hh => by
        by_cases e : v = m
        · subst e
          rw [cpi h hh]
          exact (r.1 h hh).2.2.2
        · rw [cpo _ (by omega), a _ (by omega), sg_upc (by omega)]
          exact f3 v v1 (by omega) h hh
      rw [sg_inc1 m (by omega)]
      refine c_H_so (W := tw_setk W p (m : Int)) (Y := Y) hN hS hW.1 (cs.fr (fun c x1 x2 => k1 c (by omega) (by omega) (by omega))) (by rw [k1 5 (by omega) (by omega) (by omega)]; exact cW.1) (fun h hh => by rw [cpo 42 (by omega)]; exact (r.1 h hh).2.2.2) ⟨fun q => ?_, fun q => ?_⟩
      · have ih := ih (m + 1) (by omega) (by omega) _ k1 k2 k3
        rw [sg_mk_f (by unfold th_cb; rw [td_one0.mp q, Bool.and_false])] at ih
        exact ih
      · rw [sg_mk_t (f := th_cb S W Y p) (by omega) (by unfold th_cb; rw [decide_eq_true h1, Bool.true_and]; exact Bool.of_not_eq_false (fun z => q (td_one0.mpr z)))]
        exact ih (m + 1) (by omega) (by omega) _ k1 k2 k3
  have l1 := loop 9 1 (by omega) (by omega) G (fun _ _ _ _ _ => rfl) (fun _ _ => rfl) (fun v v1 v2 => absurd v1 (by omega))
  have e1 : sg_mk (th_cb S W Y p) 1 = 0 := sg_mk_zero.mpr (fun i hi => by
    have : i = 0 := by omega
    subst this
    rfl)
  rw [e1] at l1
  exact g_H_coldsOf_46_0 hN ⟨by omega, l1⟩
/-- how many colds look like cold a in an hour, where x tells how each looks; and the most of them -/
def th_al (F : Nat → Bool) (x : Nat → Int) (a : Nat) : Nat → Int := td_sum (fun b => td_one (F b && decide (x b = x a)))
def th_mx (F : Nat → Bool) (x : Nat → Int) : Nat → Int
  | 0 => 0
  | m + 1 => if F m = true then sg_mx (th_mx F x m) (th_al F x m 10) else th_mx F x m
theorem th_mx_s (F : Nat → Bool) (x : Nat → Int) (m : Nat) : th_mx F x (m + 1) = if F m = true then sg_mx (th_mx F x m) (th_al F x m 10) else th_mx F x m := rfl
theorem th_al_s (F : Nat → Bool) (x : Nat → Int) (a m : Nat) : th_al F x a (m + 1) = th_al F x a m + td_one (F m && decide (x m = x a)) := rfl
theorem c_H_alike {d N : Nat} (hN : 75 ≤ N) {F : Nat → Bool} (F0 : F 0 = false) {X : Nat → Nat → Int} {h : Nat} (hh : h < 24) {G : SgM} {Q : Int → SgM → Prop} (gx : ∀ v : Nat, 1 ≤ v → v < 10 → G (51 + (v : Int)) h = X v h)
    (post : Q (th_mx F (fun v => X v h) 10) G) : sg_Wp 0 N (d + 1) m_H_mostAlike 0 [(0, 2, 46), (1, 0, (sg_mk F 10 : Int)), (2, 0, (h : Int))] [] G Q := by
  have loop : ∀ (u m : Nat), m + u = 10 → 1 ≤ m → sg_Wp 0 N (d + 1) m_H_mostAlike 5 [(0, 2, 46), (1, 0, (sg_mk F 10 : Int)), (2, 0, (h : Int)), (3, 0, th_mx F (fun v => X v h) m), (4, 0, (m : Int))] [] G Q := by
    intro u
    induction u with
    | zero =>
      intro m hm h1
      have em : m = 10 := by omega
      subst em
      exact g_H_mostAlike_46_5 hN ⟨fun _ => post, fun q => absurd (by omega) q⟩
    | succ u ih =>
      intro m hm h1
      have ih := ih (m + 1) (by omega) (by omega)
      rw [th_mx_s] at ih
      refine g_H_mostAlike_46_5 hN ⟨fun q => absurd q (by omega), fun _ => ⟨fun q => ?_, fun q => ?_⟩⟩
      · have fm := ((sg_mk_hb (by omega) (by omega)).mp q).2
        rw [if_pos fm] at ih
        have inner : ∀ (w j : Nat), j + w = 10 → 1 ≤ j → sg_Wp 0 N (d + 1) m_H_mostAlike 30 [(0, 2, 46), (1, 0, (sg_mk F 10 : Int)), (2, 0, (h : Int)), (3, 0, th_mx F (fun v => X v h) m), (4, 0, (m : Int)), (5, 0, th_al F (fun v => X v h) m j), (6, 0, (j : Int))] [] G Q := by
          intro w
          induction w with
          | zero =>
            intro j hj j1
            have ej : j = 10 := by omega
            subst ej
            refine g_H_mostAlike_46_30 hN ⟨fun _ => ?_, fun q => absurd (by omega) q⟩
            rw [sg_inc1 m (by omega)]
            exact ih
          | succ w ihw =>
            intro j hj j1
            have ihw := ihw (j + 1) (by omega) (by omega)
            rw [th_al_s] at ihw
            have bs : 0 ≤ th_al F (fun v => X v h) m j ∧ th_al F (fun v => X v h) m j ≤ 10 := by
              have := td_sum_in (f := fun b => td_one (F b && decide (X b h = X m h))) (b := 1) (fun i => td_one_in _) j
              exact ⟨this.1, Int.le_trans this.2 (by omega)⟩
            refine g_H_mostAlike_46_30 hN ⟨fun q => absurd q (by omega), fun _ => ⟨fun q2 => ⟨by omega, ce_51v hN (by omega), by omega, by omega, ce_51v hN (by omega), by omega, fun q3 => ?_, fun q3 => ?_⟩, fun q2 => ?_⟩⟩
            · rw [gx j j1 (by omega), gx m h1 (by omega)] at q3
              rw [decide_eq_false q3, Bool.and_false, show td_one false = 0 from rfl, Int.add_zero] at ihw
              rw [sg_inc1 j (by omega)]
              exact ihw
            · rw [gx j j1 (by omega), gx m h1 (by omega)] at q3
              have fj := ((sg_mk_hb (by omega) (by omega)).mp q2).2
              rw [fj, decide_eq_true (Decidable.not_not.mp q3), show td_one (true && true) = 1 from rfl] at ihw
              rw [sg_inc1 j (by omega), sg_iadd_eq (by omega) (by omega)]
              exact ihw
            · have fj : F j = false := Bool.of_not_eq_true (fun z => q2 ((sg_mk_hb (by omega) (by omega)).mpr ⟨by omega, z⟩))
              rw [fj, Bool.false_and, show td_one false = 0 from rfl, Int.add_zero] at ihw
              rw [sg_inc1 j (by omega)]
              exact ihw
        have i1 := inner 9 1 (by omega) (by omega)
        have e1 : th_al F (fun v => X v h) m 1 = 0 := by rw [th_al_s, F0]; rfl
        rw [e1] at i1
        exact i1
      · have fm : F m = false := Bool.of_not_eq_true (fun z => q ((sg_mk_hb (by omega) (by omega)).mpr ⟨by omega, z⟩))
        rw [if_neg (by rw [fm]; decide)] at ih
        rw [sg_inc1 m (by omega)]
        exact ih
  have l1 := loop 9 1 (by omega) (by omega)
  have e1 : th_mx F (fun v => X v h) 1 = 0 := by rw [th_mx_s, if_neg (by rw [F0]; decide)]; rfl
  rw [e1] at l1
  exact g_H_mostAlike_46_0 hN l1
def th_ask (S : TS) (W : TW) (Y : TY) (p : Nat) : Int := (ta_min (fun h => th_mx (th_cb S W Y p) (fun v => (td_chm (tw_setk W p (v : Int)) Y h : Int)) 10) 24).1
theorem c_H_ask {d N : Nat} (hN : 75 ≤ N) {S : TS} (hS : TSok S) {W : TW} {Y : TY} (hW : TWok W) {p : Nat} (hp : p < tw_k W) {G : SgM} {Q : Int → SgM → Prop} (cW : cw_W W G) (cH : cw_H W G) (cY : cw_Y Y G) (cs : cSe S G)
    (post : ∀ G', (∀ c : Int, (c < 32 ∨ 42 < c) → (c < 51 ∨ 60 < c) → ∀ i, G' c i = G c i) → Q (th_ask S W Y p) G') : sg_Wp 0 N (d + 4) m_H_hourToAsk 0 [(0, 2, 46), (1, 0, (p : Int))] [] G Q := by
  refine g_H_hourToAsk_46_0 hN (c_H_colds (d := d) hN hS hW hp cW cH cY cs (fun G1 f1 f3 => ?_))
  have F0 : th_cb S W Y p 0 = false := rfl
  have loop : ∀ (u m : Nat), m + u = 24 → 1 ≤ m → sg_Wp 0 N (d + 4) m_H_hourToAsk 19 [(0, 2, 46), (2, 0, (th_colds S W Y p : Int)), (3, 0, (ta_min (fun h => th_mx (th_cb S W Y p) (fun v => (td_chm (tw_setk W p (v : Int)) Y h : Int)) 10) m).1), (4, 0, (ta_min (fun h => th_mx (th_cb S W Y p) (fun v => (td_chm (tw_setk W p (v : Int)) Y h : Int)) 10) m).2), (5, 0, (m : Int))] [] G1 Q := by
    intro u
    induction u with
    | zero =>
      intro m hm h1
      have em : m = 24 := by omega
      subst em
      exact g_H_hourToAsk_46_19 hN ⟨fun _ => post G1 f1, fun q => absurd (by omega) q⟩
    | succ u ih =>
      intro m hm h1
      have ih := ih (m + 1) (by omega) (by omega)
      rw [ta_min_s] at ih
      refine g_H_hourToAsk_46_19 hN ⟨fun q => absurd q (by omega), fun _ => c_H_alike (d := d + 2) (X := fun v h => (td_chm (tw_setk W p (v : Int)) Y h : Int)) hN F0 (by omega) (fun v v1 v2 => f3 v v1 v2 m (by omega)) ⟨fun q => ?_, fun q => ?_⟩⟩
      · rw [if_neg (by omega)] at ih
        rw [sg_inc1 m (by omega)]
        exact ih
      · rw [if_pos (by omega)] at ih
        rw [sg_inc1 m (by omega)]
        exact ih
  exact c_H_alike (d := d + 2) (X := fun v h => (td_chm (tw_setk W p (v : Int)) Y h : Int)) (h := 0) hN F0 (by omega) (fun v v1 v2 => f3 v v1 v2 0 (by omega)) (loop 23 1 (by omega) (by omega))
