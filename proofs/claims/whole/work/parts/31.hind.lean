/-! HINDSIGHT: what was seen, and what that tells -/
abbrev TS : Type := Nat × (Nat → Int) × (Nat → Int) × (Nat → Int)
def ts_h (S : TS) : Nat → Int := S.2.1
def ts_p (S : TS) : Nat → Int := S.2.2.1
def ts_i (S : TS) : Nat → Int := S.2.2.2
def TSok (S : TS) : Prop := S.1 ≤ 8 ∧ ∀ e : Nat, e < S.1 → (0 ≤ ts_h S e ∧ ts_h S e ≤ 23) ∧ (0 ≤ ts_p S e ∧ ts_p S e ≤ 7) ∧ 0 ≤ ts_i S e ∧ ts_i S e ≤ 1
def ts_1 (S : TS) (W : TW) (Y : TY) (i : Nat) : Bool := decide (ts_p S i < (tw_n W : Int)) && decide (td_one (td_ch W Y (ts_h S i).toNat (ts_p S i).toNat) = ts_i S i)
/-- all seen comes out so -/
def ts_so (S : TS) (W : TW) (Y : TY) : Bool := (List.range S.1).all (ts_1 S W Y)
theorem ts_so_f {S : TS} {W : TW} {Y : TY} {m : Nat} (hm : m < S.1) (h : ts_1 S W Y m = false) : ts_so S W Y = false := by
  cases e : ts_so S W Y with
  | false => rfl
  | true =>
    unfold ts_so at e
    rw [List.all_eq_true] at e
    have := e m (List.mem_range.mpr hm)
    rw [h] at this
    exact absurd this (by decide)
theorem ts_so_t {S : TS} {W : TW} {Y : TY} (h : ∀ m, m < S.1 → ts_1 S W Y m = true) : ts_so S W Y = true := by
  unfold ts_so
  rw [List.all_eq_true]
  exact fun m hm => h m (List.mem_range.mp hm)
def cSe (S : TS) (G : SgM) : Prop := G 46 1 = (S.1 : Int) ∧ ∀ i : Nat, i < S.1 → G 47 i = ts_h S i ∧ G 48 i = ts_p S i ∧ G 49 i = ts_i S i
theorem cSe.fr {S : TS} {G G' : SgM} (h : cSe S G) (f : ∀ c : Int, 46 ≤ c → c ≤ 49 → ∀ i, G' c i = G c i) : cSe S G' :=
  ⟨by rw [f 46 (by omega) (by omega)]; exact h.1, fun i hi => by rw [f 47 (by omega) (by omega), f 48 (by omega) (by omega), f 49 (by omega) (by omega)]; exact h.2 i hi⟩
theorem c_H_see {d N : Nat} (hN : 75 ≤ N) {S : TS} (hS : TSok S) {h p x : Int} {G : SgM} {Q : Int → SgM → Prop} (cs : cSe S G)
    (post : (S.1 < 8 → ∀ G', (∀ c : Int, (c < 46 ∨ 49 < c) → ∀ i, G' c i = G c i) → cSe (S.1 + 1, fun i => if i = S.1 then h else ts_h S i, fun i => if i = S.1 then p else ts_p S i, fun i => if i = S.1 then x else ts_i S i) G' → Q ((S.1 + 1 : Nat) : Int) G') ∧ (S.1 = 8 → Q (-4) G)) :
    sg_Wp 0 N d m_H_see 0 [(0, 2, 46), (1, 0, h), (2, 0, p), (3, 0, x)] [] G Q := by
  obtain ⟨c0, ci⟩ := cs
  have hn := hS.1
  refine g_H_see_46_0 hN ⟨fun q => ⟨by rw [c0] at q ⊢; omega, by rw [c0] at q ⊢; omega, by rw [c0] at q ⊢; omega, ?_⟩, fun q => post.2 (by rw [c0] at q; omega)⟩
  rw [c0] at q ⊢
  rw [sg_inc1 _ (by omega), sg_up_at]
  refine post.1 (by omega) _ (fun c hc i => by rw [sg_upc (by omega), sg_upc (by omega), sg_upc (by omega), sg_upc (by omega)]) ⟨by rw [sg_up_at], fun i hi => ?_⟩
  by_cases e : i = S.1
  · subst e
    refine ⟨?_, ?_, ?_⟩
    · rw [sg_upc (by omega), sg_upc (by omega), sg_upc (by omega), sg_up_at]; exact (if_pos rfl).symm
    · rw [sg_upc (by omega), sg_upc (by omega), sg_up_at]; exact (if_pos rfl).symm
    · rw [sg_upc (by omega), sg_up_at]; exact (if_pos rfl).symm
  · have hi : i < S.1 + 1 := hi
    have c := ci i (by omega)
    refine ⟨?_, ?_, ?_⟩
    · rw [sg_upc (by omega), sg_upc (by omega), sg_upc (by omega), sg_upi (by omega)]; exact c.1.trans (if_neg e).symm
    · rw [sg_upc (by omega), sg_upc (by omega), sg_upi (by omega), sg_upc (by omega)]; exact c.2.1.trans (if_neg e).symm
    · rw [sg_upc (by omega), sg_upi (by omega), sg_upc (by omega), sg_upc (by omega)]; exact c.2.2.trans (if_neg e).symm
theorem c_H_so {d N : Nat} (hN : 75 ≤ N) {S : TS} (hS : TSok S) {W : TW} {Y : TY} (hn : tw_n W ≤ 8) {G : SgM} {Q : Int → SgM → Prop} (cs : cSe S G) (w0 : G 5 0 = (tw_n W : Int)) (r : ∀ h : Nat, h < 24 → G 42 h = (td_chm W Y h : Int))
    (post : Q (td_one (ts_so S W Y)) G) : sg_Wp 0 N d m_H_comesOutSo 0 [(0, 2, 46)] [] G Q := by
  obtain ⟨c0, ci⟩ := cs
  have h8 := hS.1
  have loop : ∀ (u m : Nat), m + u = S.1 → (∀ i, i < m → ts_1 S W Y i = true) → sg_Wp 0 N d m_H_comesOutSo 2 [(0, 2, 46), (1, 0, (m : Int))] [] G Q := by
    intro u
    induction u with
    | zero =>
      intro m hm h1
      refine g_H_comesOutSo_46_2 hN ⟨fun _ => ?_, fun q => absurd (by rw [c0]; omega) q⟩
      rw [ts_so_t (fun i hi => h1 i (by omega))] at post
      exact post
    | succ u ih =>
      intro m hm h1
      have hm' : m < S.1 := by omega
      obtain ⟨b1, b2, b3⟩ := hS.2 m hm'
      obtain ⟨x1, x2, x3⟩ := ci m hm'
      obtain ⟨a, ea⟩ := Int.eq_ofNat_of_zero_le b1.1
      obtain ⟨p, ep⟩ := Int.eq_ofNat_of_zero_le b2.1
      refine g_H_comesOutSo_46_2 hN ⟨fun q => absurd q (by rw [c0]; omega), fun _ => ⟨by omega, fun q => ?_, fun q => ⟨by omega, by omega, by omega, by omega, fun q2 => ?_, fun q2 => ?_⟩⟩⟩
      · rw [w0, x2] at q
        rw [ts_so_f hm' (by unfold ts_1; rw [decide_eq_false (by omega), Bool.false_and])] at post
        exact post
      · rw [w0, x2, ep] at q
        rw [x1, x2, x3, ea, ep, r a (by omega)] at q2
        unfold td_chm at q2
        rw [sg_mk_bit (by omega) (by omega), decide_eq_true (show p < tw_n W by omega), Bool.true_and] at q2
        rw [sg_inc1 m (by omega)]
        refine ih (m + 1) (by omega) (fun i hi => ?_)
        by_cases e : i = m
        · subst e
          unfold ts_1
          rw [ea, ep, Int.toNat_natCast, Int.toNat_natCast, decide_eq_true (by omega), decide_eq_true q2]
          rfl
        · exact h1 i (by omega)
      · rw [w0, x2, ep] at q
        rw [x1, x2, x3, ea, ep, r a (by omega)] at q2
        unfold td_chm at q2
        rw [sg_mk_bit (by omega) (by omega), decide_eq_true (show p < tw_n W by omega), Bool.true_and] at q2
        rw [ts_so_f hm' (by unfold ts_1; rw [ea, ep, Int.toNat_natCast, Int.toNat_natCast, decide_eq_false q2, Bool.and_false])] at post
        exact post
  exact g_H_comesOutSo_46_0 hN (loop S.1 0 (by omega) (fun i hi => absurd hi (Nat.not_lt_zero _)))
theorem td_one0 {b : Bool} : td_one b = 0 ↔ b = false := by cases b <;> decide
def th_never (S : TS) (W : TW) (E : TE) : Nat := sg_mk (fun e => ts_so S W (ty_of E (te_wo E e))) E.1
def th_sorts (S : TS) (W : TW) (Y : TY) (p : Nat) : Nat := sg_mk (fun v => ts_so S (tw_sets W p (v : Int)) Y) 3
def th_cb (S : TS) (W : TW) (Y : TY) (p v : Nat) : Bool := decide (1 ≤ v) && ts_so S (tw_setk W p (v : Int)) Y
def th_colds (S : TS) (W : TW) (Y : TY) (p : Nat) : Nat := sg_mk (th_cb S W Y p) 10
theorem c_H_needless {d N : Nat} (hN : 75 ≤ N) {S : TS} (hS : TSok S) {T0 T1 : TT} {E : TE} (ok : cKok T0 T1 E) {G : SgM} {Q : Int → SgM → Prop} (ck : cK T0 T1 E G) (cs : cSe S G)
    (post : ∀ G', (∀ c : Int, (c < 18 ∨ (21 ≤ c ∧ c ≤ 31) ∨ 42 < c) → ∀ i, G' c i = G c i) → cK T0 T1 E G' → Q (th_never S (tw_of T0 T1) E : Int) G') : sg_Wp 0 N (d + 4) m_H_needless 0 [(0, 2, 46)] [] G Q := by
  have hN4 : 44 ≤ N := Nat.le_trans (by decide) hN
  have hE := ok.2.2
  have hn := hE.1
  have hW := tw_of_ok ok.1 ok.2.1
  have loop : ∀ (u m : Nat), m + u = E.1 → ∀ G1 : SgM, (∀ c : Int, (c < 18 ∨ (21 ≤ c ∧ c ≤ 31) ∨ 42 < c) → ∀ i, G1 c i = G c i) → cK T0 T1 E G1 →
      sg_Wp 0 N (d + 4) m_H_needless 4 [(0, 2, 46), (1, 0, (sg_mk (fun e => ts_so S (tw_of T0 T1) (ty_of E (te_wo E e))) m : Int)), (2, 0, (m : Int))] [] G1 Q := by
    intro u
    induction u with
    | zero =>
      intro m hm G1 f k
      have em : m = E.1 := by omega
      subst em
      exact g_H_needless_46_4 hN ⟨fun _ => post G1 f k, fun q => absurd (by rw [k.1.1.2.2.1]; omega) q⟩
    | succ u ih =>
      intro m hm G1 f k
      have hm' : m < E.1 := by omega
      refine g_H_needless_46_4 hN ⟨fun q => absurd q (by rw [k.1.1.2.2.1]; omega), fun _ => c_E_every_13 hN4 hE k.1.1.2.2 ?_⟩
      rw [te_wo_eq hE hm', sg_inc1 m (by omega)]
      refine c_K_suppose (d := d) (w := te_wo E m) hN4 ok (Nat.lt_trans (te_mk_lt hE _) (by decide)) k (fun G2 a k2 r => ?_)
      have f2 : ∀ c : Int, (c < 18 ∨ (21 ≤ c ∧ c ≤ 31) ∨ 42 < c) → ∀ i, G2 c i = G c i := fun c x i => by rw [a c x]; exact f c x i
      refine c_H_so (W := tw_of T0 T1) (Y := ty_of E (te_wo E m)) hN hS hW.1 (cs.fr (fun c x1 x2 => f2 c (by omega))) k2.1.2.1.1 (fun h hh => (r.1 h hh).2.2.2) ⟨fun q => ?_, fun q => ?_⟩
      · have ih := ih (m + 1) (by omega) G2 f2 k2
        rw [sg_mk_f (td_one0.mp q)] at ih
        exact ih
      · rw [sg_mk_t (f := fun e => ts_so S (tw_of T0 T1) (ty_of E (te_wo E e))) (by omega) (Bool.of_not_eq_false (fun z => q (td_one0.mpr z)))]
        exact ih (m + 1) (by omega) G2 f2 k2
  exact g_H_needless_46_0 hN (loop E.1 0 (by omega) G (fun _ _ _ => rfl) ck)
theorem c_H_sorts {d N : Nat} (hN : 75 ≤ N) {S : TS} (hS : TSok S) {W : TW} {Y : TY} (hW : TWok W) {p : Nat} (hp : p < tw_k W) {G : SgM} {Q : Int → SgM → Prop} (cW : cw_W W G) (cH : cw_H W G) (cY : cw_Y Y G) (cs : cSe S G)
    (post : ∀ G', (∀ c : Int, (c < 32 ∨ 42 < c) → ∀ i, G' c i = G c i) → Q (th_sorts S W Y p : Int) G') : sg_Wp 0 N (d + 3) m_H_sortsOf 0 [(0, 2, 46), (1, 0, (p : Int))] [] G Q := by
  have hN4 : 44 ≤ N := Nat.le_trans (by decide) hN
  have hk := hW.2.1
  have loop : ∀ (u m : Nat), m + u = 3 → ∀ G1 : SgM, (∀ c : Int, (c < 32 ∨ 42 < c) → c ≠ 9 → ∀ i, G1 c i = G c i) → (∀ i : Int, i ≠ (p : Int) → G1 9 i = G 9 i) →
      sg_Wp 0 N (d + 3) m_H_sortsOf 18 [(0, 2, 46), (1, 0, (p : Int)), (2, 0, (sg_mk (fun v => ts_so S (tw_sets W p (v : Int)) Y) m : Int)), (3, 0, G 9 p), (4, 0, (m : Int))] [] G1 Q := by
    intro u
    induction u with
    | zero =>
      intro m hm G1 f1 f2
      have em : m = 3 := by omega
      subst em
      refine g_H_sortsOf_46_18 hN ⟨fun _ => ⟨by omega, post _ (fun c x i => ?_)⟩, fun q => absurd (by omega) q⟩
      by_cases e : c = 9
      · subst e
        by_cases ei : i = (p : Int)
        · subst ei; exact sg_up_at
        · rw [sg_upi ei]; exact f2 i ei
      · rw [sg_upc e]; exact f1 c x e i
    | succ u ih =>
      intro m hm G1 f1 f2
      have cW' : cw_W (tw_sets W p (m : Int)) (sg_up G1 9 (p : Int) (m : Int)) := cW.sets (fun c x1 x2 i x3 => by
        by_cases e : c = 9
        · subst e
          rw [sg_upi (by omega)]; exact f2 i (by omega)
        · rw [sg_upc e]; exact f1 c (by omega) e i) sg_up_at
      have cH' : cw_H (tw_sets W p (m : Int)) (sg_up G1 9 (p : Int) (m : Int)) := cw_H.fr (W := W) cH (fun i => by rw [sg_upc (by omega)]; exact f1 8 (by omega) (by omega) i)
      have cY' : cw_Y Y (sg_up G1 9 (p : Int) (m : Int)) := cY.fr (fun c x1 x2 i => by rw [sg_upc (by omega)]; exact f1 c (by omega) (by omega) i)
      refine g_H_sortsOf_46_18 hN ⟨fun q => absurd q (by omega), fun _ => ⟨by omega, c_D_pass_32 (d := d) hN4 (tw_sets_ok hW p (by omega)) cW' cH' cY' (fun G2 a r => ?_)⟩⟩
      have k1 : ∀ c : Int, (c < 32 ∨ 42 < c) → c ≠ 9 → ∀ i, G2 c i = G c i := fun c x1 x2 i => by rw [a c (by omega), sg_upc x2]; exact f1 c x1 x2 i
      have k2 : ∀ i : Int, i ≠ (p : Int) → G2 9 i = G 9 i := fun i x => by rw [a 9 (by omega), sg_upi x]; exact f2 i x
      rw [sg_inc1 m (by omega)]
      refine c_H_so (W := tw_sets W p (m : Int)) (Y := Y) hN hS hW.1 (cs.fr (fun c x1 x2 => k1 c (by omega) (by omega))) (by rw [k1 5 (by omega) (by omega)]; exact cW.1) (fun h hh => (r.1 h hh).2.2.2) ⟨fun q => ?_, fun q => ?_⟩
      · have ih := ih (m + 1) (by omega) G2 k1 k2
        rw [sg_mk_f (td_one0.mp q)] at ih
        exact ih
      · rw [sg_mk_t (f := fun v => ts_so S (tw_sets W p (v : Int)) Y) (by omega) (Bool.of_not_eq_false (fun z => q (td_one0.mpr z)))]
        exact ih (m + 1) (by omega) G2 k1 k2
  exact g_H_sortsOf_46_0 hN ⟨by omega, loop 3 0 (by omega) G (fun _ _ _ _ => rfl) (fun _ _ => rfl)⟩
