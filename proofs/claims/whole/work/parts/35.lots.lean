/-! CHANCES: a day by lots -/
def tl_next (s : Int) : Int := sg_iadd (sg_imul 1103515245 s) 12345
def tl_lot (s m : Int) : Int := sg_irem (sg_iushr s 16) m
theorem sg_iushr_16 (x : Int) : 0 ≤ sg_iushr x 16 ∧ sg_iushr x 16 < 65536 := by
  have e : sg_iushr x 16 = ((Int32.ofInt x).toBitVec >>> 16).toInt := by
    unfold sg_iushr
    show (((Int32.ofInt x).toUInt32 >>> ((Int32.ofInt 16).toUInt32 &&& Int32.toUInt32 31)).toBitVec).toInt = _
    rw [show (Int32.ofInt 16).toUInt32 &&& Int32.toUInt32 31 = (16 : UInt32) from by decide +kernel, UInt32.toBitVec_shiftRight]
    rfl
  have n : ((Int32.ofInt x).toBitVec >>> 16).toNat < 65536 := by
    rw [BitVec.toNat_ushiftRight, Nat.shiftRight_eq_div_pow]
    have := (Int32.ofInt x).toBitVec.isLt
    omega
  rw [e, sg_bvI _ (by omega)]
  omega
theorem tl_lot_in (s : Int) {m : Int} (hm : 0 < m ∧ m ≤ 24) : 0 ≤ tl_lot s m ∧ tl_lot s m < m := by
  have h := sg_iushr_16 s
  unfold tl_lot
  rw [sg_irem_eq (by omega) (by omega) (by omega) (by omega)]
  exact ⟨Int.emod_nonneg _ (by omega), Int.emod_lt_of_pos _ (by omega)⟩
def tl_s (s : Int) : Nat → Int
  | 0 => s
  | k + 1 => tl_next (tl_s s k)
/-- n events by lots -/
def te_lots (s : Int) (n : Nat) : TE := (n, fun e => tl_lot (tl_s s (3 * e + 1)) 3, fun e => tl_lot (tl_s s (3 * e + 2)) 24, fun e => tl_lot (tl_s s (3 * e + 3)) 10)
theorem te_lots_ok (s : Int) {n : Nat} (hn : n ≤ 8) : TEok (te_lots s n) := by
  refine ⟨hn, fun e _ => ?_⟩
  have a := tl_lot_in (tl_s s (3 * e + 1)) (m := 3) (by omega)
  have b := tl_lot_in (tl_s s (3 * e + 2)) (m := 24) (by omega)
  have c := tl_lot_in (tl_s s (3 * e + 3)) (m := 10) (by omega)
  exact ⟨⟨a.1, show tl_lot (tl_s s (3 * e + 1)) 3 ≤ 2 by omega⟩, ⟨b.1, show tl_lot (tl_s s (3 * e + 2)) 24 ≤ 23 by omega⟩, c.1, show tl_lot (tl_s s (3 * e + 3)) 10 ≤ 9 by omega⟩
theorem cE63.congr {E E' : TE} {G : SgM} (h : cE63 E G) (n : E'.1 = E.1) (f : ∀ i : Nat, i < E.1 → te_k E' i = te_k E i ∧ te_h E' i = te_h E i ∧ te_n E' i = te_n E i) : cE63 E' G := by
  refine ⟨by rw [n]; exact h.1, fun i hi => ?_⟩
  rw [n] at hi
  have x := f i hi
  rw [x.1, x.2.1, x.2.2]
  exact h.2 i hi
theorem c_C_lot {d N : Nat} (hN : 75 ≤ N) {m : Int} (hm : 0 < m) {s : Int} {G : SgM} {Q : Int → SgM → Prop} (e : G 61 3 = s) (post : Q (tl_lot (tl_next s) m) (sg_up G 61 3 (tl_next s))) : sg_Wp 0 N d m_C_lotOf 0 [(0, 2, 61), (1, 0, m)] [] G Q := by
  subst e
  refine g_C_lotOf_61_0 hN ⟨fun q => absurd q (by omega), fun _ => ⟨by omega, ?_⟩⟩
  rw [sg_up_at]
  exact post
theorem c_C_day {d N : Nat} (hN : 75 ≤ N) {T0 T1 : TT} {E : TE} (ok : cKok T0 T1 E) {s : Int} {n : Nat} (hn : n ≤ 8) {G : SgM} {Q : Int → SgM → Prop} (ck : cK T0 T1 E G)
    (post : ∀ G', (∀ c : Int, (c < 18 ∨ (21 ≤ c ∧ c ≤ 31) ∨ (42 < c ∧ c < 61) ∨ c = 62 ∨ 66 < c) → ∀ i, G' c i = G c i) → (∀ i : Int, i ≠ 3 → G' 61 i = G 61 i) → cK T0 T1 E G' → cd_R32 (tw_of T0 T1) (ty_of (te_lots s n) (te_all (te_lots s n))) 24 G' → Q 32 G') :
    sg_Wp 0 N (d + 4) m_C_dayByLots 0 [(0, 2, 61), (1, 0, s), (2, 0, (n : Int))] [] G Q := by
  have loop : ∀ (u m : Nat), m + u = n → ∀ G1 : SgM, (∀ c : Int, (c < 61 ∨ c = 62 ∨ 66 < c) → ∀ i, G1 c i = G c i) → (∀ i : Int, i ≠ 3 → G1 61 i = G 61 i) → G1 61 3 = tl_s s (3 * m) → cE63 (te_lots s m) G1 →
      sg_Wp 0 N (d + 4) m_C_dayByLots 15 [(0, 2, 61), (2, 0, (n : Int)), (3, 0, (m : Int))] [] G1 Q := by
    intro u
    induction u with
    | zero =>
      intro m hm G1 f1 f2 f3 f4
      have em : m = n := by omega
      subst em
      have ok2 := te_lots_ok s hn
      refine g_C_dayByLots_61_15 hN ⟨fun _ => c_E_every_63 hN ok2 f4 (c_K_suppose63 (d := d) hN ok ok2 (Nat.lt_trans (te_all_lt ok2) (by decide)) (ck.fr (fun c x i => f1 c (by omega) i)) f4 (fun G2 a k r => ?_)), fun q => absurd (by omega) q⟩
      exact post G2 (fun c x i => by rw [a c (by omega)]; exact f1 c (by omega) i) (fun i x => by rw [a 61 (by omega)]; exact f2 i x) k r
    | succ u ih =>
      intro m hm G1 f1 f2 f3 f4
      have n1 : tl_s s (3 * m + 1) = tl_next (tl_s s (3 * m)) := rfl
      have n2 : tl_s s (3 * m + 2) = tl_next (tl_s s (3 * m + 1)) := rfl
      have n3 : tl_s s (3 * m + 3) = tl_next (tl_s s (3 * m + 2)) := rfl
      refine g_C_dayByLots_61_15 hN ⟨fun q => absurd q (by omega), fun _ => c_C_lot hN (by omega) f3 (c_C_lot hN (by omega) sg_up_at (c_C_lot hN (by omega) sg_up_at ?_))⟩
      rw [← n1, ← n2, ← n3]
      refine c_E_add_63 hN (te_lots_ok s (n := m) (by omega)) (f4.fr (fun c x1 x2 i => by rw [sg_upc (by omega), sg_upc (by omega), sg_upc (by omega)])) ⟨fun _ G2 a e => ?_, fun q => absurd q (show ¬ (m = 8) by omega)⟩
      rw [sg_inc1 m (by omega)]
      refine ih (m + 1) (by omega) G2 (fun c x i => by rw [a c (by omega), sg_upc (by omega), sg_upc (by omega), sg_upc (by omega)]; exact f1 c x i) (fun i x => by rw [a 61 (by omega), sg_upi x, sg_upi x, sg_upi x]; exact f2 i x) (by rw [a 61 (by omega), sg_up_at, show 3 * (m + 1) = 3 * m + 3 by omega]) (e.congr rfl (fun i hi => ?_))
      have hi : i < m + 1 := hi
      by_cases q : i = m
      · subst q
        exact ⟨(if_pos rfl).symm, (if_pos rfl).symm, (if_pos rfl).symm⟩
      · exact ⟨(if_neg q).symm, (if_neg q).symm, (if_neg q).symm⟩
  exact g_C_dayByLots_61_0 hN (loop n 0 (by omega) _ (fun c x i => by rw [sg_upc (by omega), sg_upc (by omega)]) (fun i x => by rw [sg_upc (by omega), sg_upi x]) (by rw [sg_upc (by omega), sg_up_at]; rfl) ⟨by rw [sg_up_at]; rfl, fun i hi => absurd hi (Nat.not_lt_zero _)⟩)
