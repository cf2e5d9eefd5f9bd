/-! THE REFERENCE: an hour passes, for the posts -/
def cm_D3 (W : TW) (Y : TY) (h m : Nat) (G : SgM) : Prop := ∀ q : Nat, q < m → G 216 q = td_std W Y q h ∧ G 217 q = td_chb W Y (h + 1) q ∧ G 222 (8 * (h : Int) + (q : Int)) = td_std W Y q h ∧ G 223 (8 * (h : Int) + (q : Int)) = td_chb W Y (h + 1) q ∧ G 224 (8 * (h : Int) + (q : Int)) = td_who W Y h q
def cm_f3 (h : Nat) (G G1 : SgM) : Prop := (∀ c : Int, c ≠ 215 → c ≠ 216 → c ≠ 217 → c ≠ 222 → c ≠ 223 → c ≠ 224 → ∀ i, G1 c i = G c i) ∧ ∀ c : Int, 222 ≤ c → c ≤ 224 → ∀ i : Int, (i < 8 * (h : Int) ∨ 8 * (h : Int) + 8 ≤ i) → G1 c i = G c i
def td_b3 (W : TW) (Y : TY) (p h m : Nat) : Int := td_bsy W Y p h + td_sum (fun q => td_one (decide (td_who W Y h q = (p : Int)))) m
theorem td_b3_s (W : TW) (Y : TY) (p h m : Nat) : td_b3 W Y p h (m + 1) = td_b3 W Y p h m + td_one (decide (td_who W Y h m = (p : Int))) := by
  unfold td_b3
  exact (Int.add_assoc _ _ _).symm
theorem td_b3_in {W : TW} (hW : TWok W) (Y : TY) (p h m : Nat) (hh : h < 24) (hm : m ≤ 8) : 0 ≤ td_b3 W Y p h m ∧ td_b3 W Y p h m ≤ 1000 := by
  have hn := hW.1
  have b1 := td_sum_in (f := fun q => td_one (decide (td_who W Y h q = (p : Int)))) (b := 1) (fun i => td_one_in _) m
  have b2 := td_sum_in (f := fun i => td_sum (fun q => td_one (decide (td_who W Y i q = (p : Int)))) (tw_n W)) (b := 8) (fun i => by
    have := td_sum_in (f := fun q => td_one (decide (td_who W Y i q = (p : Int)))) (b := 1) (fun i => td_one_in _) (tw_n W)
    omega) h
  have b3 : 0 ≤ td_bsy W Y p h ∧ td_bsy W Y p h ≤ (h : Int) * 8 := b2
  unfold td_b3
  omega
theorem td_stb_b0 (W : TW) (Y : TY) (q h : Nat) : 0 ≤ td_stb W Y q h ∧ td_stb W Y q h ≤ (h : Int) := by
  cases h with
  | zero => exact ⟨Int.le_refl 0, Int.le_refl 0⟩
  | succ h =>
    have := td_std_in W Y q h
    show 0 ≤ td_std W Y q h ∧ td_std W Y q h ≤ ((h + 1 : Nat) : Int)
    omega
theorem c_M_pass3 {d : Nat} {W : TW} {Y : TY} (hW : TWok W) {h : Nat} (hh : h < 24) {G : SgM} {Q : Int → SgM → Prop} (cw : cm_W W G) (cc : ∀ p : Nat, p < tw_k W → G 210 p = td_c W h p) (cs : ∀ p : Nat, p < tw_k W → G 213 p = td_one (td_sn W Y h p))
    (cq : ∀ q : Nat, q < tw_n W → G 216 q = td_stb W Y q h ∧ G 217 q = td_chb W Y h q) (cb : ∀ p : Nat, p < tw_k W → G 215 p = td_bsy W Y p h)
    (next : ∀ G', cm_f3 h G G' → cm_D3 W Y h (tw_n W) G' → (∀ p : Nat, p < tw_k W → G' 215 p = td_bsy W Y p (h + 1)) → sg_Wp 200 228 (d + 3) m_M_passes 194 [(0, 2, 200), (1, 0, (h : Int)), (2, 0, 0)] [] G' Q) :
    sg_Wp 200 228 (d + 3) m_M_passes 78 [(0, 2, 200), (1, 0, (h : Int)), (2, 0, 0)] [] G Q := by
  have hn := hW.1
  have hk := hW.2.1
  have loop : ∀ (u m : Nat), m + u = tw_n W → ∀ G1 : SgM, cm_f3 h G G1 → cm_D3 W Y h m G1 → (∀ q : Nat, m ≤ q → q < tw_n W → G1 216 q = td_stb W Y q h ∧ G1 217 q = td_chb W Y h q) → (∀ p : Nat, p < tw_k W → G1 215 p = td_b3 W Y p h m) →
      sg_Wp 200 228 (d + 3) m_M_passes 78 [(0, 2, 200), (1, 0, (h : Int)), (2, 0, (m : Int))] [] G1 Q := by
    intro u
    induction u with
    | zero =>
      intro m hm G1 f1 f2 f3 f4
      have em : m = tw_n W := by omega
      subst em
      exact g_M_passes_78 ⟨fun _ => next G1 f1 f2 (fun p hp => f4 p hp), fun z => absurd (by rw [f1.1 200 (by omega) (by omega) (by omega) (by omega) (by omega) (by omega), cw.1.1]; omega) z⟩
    | succ u ih =>
      intro m hm G1 f1 f2 f3 f4
      have hm' : m < tw_n W := by omega
      have x := f3 m (Nat.le_refl m) hm'
      have e8 : sg_iadd (sg_imul 8 (h : Int)) (m : Int) = 8 * (h : Int) + (m : Int) := by rw [sg_imul_eq (by omega) (by omega), sg_iadd_eq (by omega) (by omega)]
      have en := sg_inc1 m (by omega)
      have bs := td_std_in W Y m h
      have bc := td_chb_in W Y m h
      have es := td_std_b W Y m h
      have ec := td_chb_s W Y m h
      have cw1 : cm_W W G1 := ⟨⟨by rw [f1.1 200 (by omega) (by omega) (by omega) (by omega) (by omega) (by omega)]; exact cw.1.1, fun q hq => by rw [f1.1 207 (by omega) (by omega) (by omega) (by omega) (by omega) (by omega), f1.1 207 (by omega) (by omega) (by omega) (by omega) (by omega) (by omega)]; exact cw.1.2 q hq⟩, by rw [f1.1 200 (by omega) (by omega) (by omega) (by omega) (by omega) (by omega)]; exact cw.2.1, fun p hp => by
        have f8 := f1.1 208 (by omega) (by omega) (by omega) (by omega) (by omega) (by omega)
        rw [f8, f8, f8, f8]; exact cw.2.2 p hp⟩
      have at140 : ∀ G2 : SgM, cm_f3 h G G2 → cm_D3 W Y h m G2 → G2 216 m = td_std W Y m h → G2 217 m = td_chb W Y (h + 1) m → (∀ q : Nat, m + 1 ≤ q → q < tw_n W → G2 216 q = td_stb W Y q h ∧ G2 217 q = td_chb W Y h q) → (∀ p : Nat, p < tw_k W → G2 215 p = td_b3 W Y p h (m + 1)) →
          sg_Wp 200 228 (d + 3) m_M_passes 140 [(0, 2, 200), (1, 0, (h : Int)), (2, 0, (m : Int)), (3, 0, td_who W Y h m)] [] G2 Q := by
        intro G2 k1 k2 k3 k4 k5 k6
        refine g_M_passes_140 ⟨by omega, by rw [e8]; omega, by omega, by rw [e8]; omega, by rw [e8]; omega, ?_⟩
        rw [e8, en, k3, k4]
        refine ih (m + 1) (by omega) _ ⟨fun c x1 x2 x3 x4 x5 x6 i => by rw [sg_upc x6, sg_upc x5, sg_upc x4]; exact k1.1 c x1 x2 x3 x4 x5 x6 i, fun c x1 x2 i hi => ?_⟩ (fun q hq => ?_) (fun q h1 h2 => by rw [sg_upc (by omega), sg_upc (by omega), sg_upc (by omega), sg_upc (by omega), sg_upc (by omega), sg_upc (by omega)]; exact k5 q h1 h2) (fun p hp => by rw [sg_upc (by omega), sg_upc (by omega), sg_upc (by omega)]; exact k6 p hp)
        · have g := k1.2 c x1 x2 i hi
          unfold sg_up
          rw [if_neg (by omega), if_neg (by omega), if_neg (by omega)]
          exact g
        · by_cases e : q = m
          · subst e
            refine ⟨?_, ?_, ?_, ?_, ?_⟩
            · rw [sg_upc (by omega), sg_upc (by omega), sg_upc (by omega)]; exact k3
            · rw [sg_upc (by omega), sg_upc (by omega), sg_upc (by omega)]; exact k4
            · rw [sg_upc (by omega), sg_upc (by omega), sg_up_at]
            · rw [sg_upc (by omega), sg_up_at]
            · rw [sg_up_at]
          · have g := k2 q (by omega)
            refine ⟨?_, ?_, ?_, ?_, ?_⟩
            · rw [sg_upc (by omega), sg_upc (by omega), sg_upc (by omega)]; exact g.1
            · rw [sg_upc (by omega), sg_upc (by omega), sg_upc (by omega)]; exact g.2.1
            · rw [sg_upc (by omega), sg_upc (by omega), sg_upi (by omega)]; exact g.2.2.1
            · rw [sg_upc (by omega), sg_upi (by omega), sg_upc (by omega)]; exact g.2.2.2.1
            · rw [sg_upi (by omega), sg_upc (by omega), sg_upc (by omega)]; exact g.2.2.2.2
      refine g_M_passes_78 ⟨fun z => absurd z (by rw [f1.1 200 (by omega) (by omega) (by omega) (by omega) (by omega) (by omega), cw.1.1]; omega), fun _ => c_M_heardBy (d := d) hW hm' cw1 (fun p hp => by rw [f1.1 210 (by omega) (by omega) (by omega) (by omega) (by omega) (by omega)]; exact cc p hp) (fun p hp => by rw [f1.1 213 (by omega) (by omega) (by omega) (by omega) (by omega) (by omega)]; exact cs p hp) ⟨fun z => ⟨by omega, fun y => absurd y z, fun _ => ?_⟩, fun z => ⟨by omega, by omega, fun y => ?_, fun y => absurd (Decidable.not_not.mp z) y⟩⟩⟩
      · obtain ⟨w, hw1, hw2⟩ := (td_least_cases (td_hs W Y h m) (tw_k W)).resolve_left z
        have hw2 : td_who W Y h m = (w : Int) := hw2
        have bb := td_b3_in hW Y w h m hh (by omega)
        have bst := td_stb_b0 W Y m h
        rw [hw2]
        refine ⟨by omega, by omega, by omega, by omega, ?_⟩
        rw [x.2, f4 w hw1, sg_iadd_eq (by omega) (by omega), sg_iadd_eq (by omega) (by omega)]
        have at140 := at140 (sg_up (sg_up (sg_up G1 216 (m : Int) 0) 217 (m : Int) (td_chb W Y h m + 1)) 215 (w : Int) (td_b3 W Y w h m + 1))
        rw [hw2] at at140
        refine at140 ⟨fun c x1 x2 x3 x4 x5 x6 i => by rw [sg_upc x1, sg_upc x3, sg_upc x2]; exact f1.1 c x1 x2 x3 x4 x5 x6 i, fun c x1 x2 i hi => by rw [sg_upc (by omega), sg_upc (by omega), sg_upc (by omega)]; exact f1.2 c x1 x2 i hi⟩ (fun q hq => ?_) ?_ ?_ (fun q h1 h2 => ?_) (fun p hp => ?_)
        · have g := f2 q hq
          refine ⟨?_, ?_, ?_, ?_, ?_⟩
          · rw [sg_upc (by omega), sg_upc (by omega), sg_upi (by omega)]; exact g.1
          · rw [sg_upc (by omega), sg_upi (by omega), sg_upc (by omega)]; exact g.2.1
          · rw [sg_upc (by omega), sg_upc (by omega), sg_upc (by omega)]; exact g.2.2.1
          · rw [sg_upc (by omega), sg_upc (by omega), sg_upc (by omega)]; exact g.2.2.2.1
          · rw [sg_upc (by omega), sg_upc (by omega), sg_upc (by omega)]; exact g.2.2.2.2
        · rw [sg_upc (by omega), sg_upc (by omega), sg_up_at, es, if_neg z]
        · rw [sg_upc (by omega), sg_up_at, ec]
          unfold td_ch
          rw [decide_eq_true z]
          rfl
        · have g := f3 q (by omega) h2
          refine ⟨?_, ?_⟩
          · rw [sg_upc (by omega), sg_upc (by omega), sg_upi (by omega)]; exact g.1
          · rw [sg_upc (by omega), sg_upi (by omega), sg_upc (by omega)]; exact g.2
        · rw [td_b3_s, hw2]
          by_cases e : p = w
          · subst e
            rw [sg_up_at, decide_eq_true rfl]
            rfl
          · rw [sg_upi (by omega), sg_upc (by omega), sg_upc (by omega), f4 p hp, decide_eq_false (by omega)]
            exact (Int.add_zero _).symm
      · have bst := td_stb_b0 W Y m h
        rw [x.1, sg_iadd_eq (by omega) (by omega)]
        refine at140 _ ⟨fun c x1 x2 x3 x4 x5 x6 i => by rw [sg_upc x2]; exact f1.1 c x1 x2 x3 x4 x5 x6 i, fun c x1 x2 i hi => by rw [sg_upc (by omega)]; exact f1.2 c x1 x2 i hi⟩ (fun q hq => ?_) ?_ ?_ (fun q h1 h2 => ?_) (fun p hp => ?_)
        · have g := f2 q hq
          refine ⟨?_, ?_, ?_, ?_, ?_⟩
          · rw [sg_upi (by omega)]; exact g.1
          · rw [sg_upc (by omega)]; exact g.2.1
          · rw [sg_upc (by omega)]; exact g.2.2.1
          · rw [sg_upc (by omega)]; exact g.2.2.2.1
          · rw [sg_upc (by omega)]; exact g.2.2.2.2
        · rw [sg_up_at, es, if_pos y]
        · rw [sg_upc (by omega), x.2, ec]
          unfold td_ch
          rw [y, decide_eq_false (fun z => z rfl)]
          exact (Int.add_zero _).symm
        · have g := f3 q (by omega) h2
          refine ⟨?_, ?_⟩
          · rw [sg_upi (by omega)]; exact g.1
          · rw [sg_upc (by omega)]; exact g.2
        · rw [td_b3_s, y, sg_upc (by omega), f4 p hp, decide_eq_false (by omega)]
          exact (Int.add_zero _).symm
  exact loop (tw_n W) 0 (by omega) G ⟨fun _ _ _ _ _ _ _ _ => rfl, fun _ _ _ _ _ => rfl⟩ (fun q hq => absurd hq (Nat.not_lt_zero _)) (fun q _ hq => cq q hq) (fun p hp => by
    rw [cb p hp]
    unfold td_b3
    exact (Int.add_zero _).symm)
