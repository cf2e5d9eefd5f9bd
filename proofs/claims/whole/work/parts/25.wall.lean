/-! WALL: the posts and the people that the texts tell -/
theorem cT1.fr {T : TT} {G G' : SgM} (h : cT1 T G) (f : ∀ c : Int, 1 ≤ c → c ≤ 2 → ∀ i, G' c i = G c i) : cT1 T G' :=
  ⟨by rw [f 1 (by omega) (by omega)]; exact h.1, by rw [f 1 (by omega) (by omega)]; exact h.2.1, by rw [f 1 (by omega) (by omega)]; exact h.2.2.1, fun i hi => by rw [f 2 (by omega) (by omega)]; exact h.2.2.2 i hi⟩
theorem cT3.fr {T : TT} {G G' : SgM} (h : cT3 T G) (f : ∀ c : Int, 3 ≤ c → c ≤ 4 → ∀ i, G' c i = G c i) : cT3 T G' :=
  ⟨by rw [f 3 (by omega) (by omega)]; exact h.1, by rw [f 3 (by omega) (by omega)]; exact h.2.1, by rw [f 3 (by omega) (by omega)]; exact h.2.2.1, fun i hi => by rw [f 4 (by omega) (by omega)]; exact h.2.2.2 i hi⟩
/-- the posts' part of a wall in the memory -/
def cw_P (W : TW) (G : SgM) : Prop := G 5 0 = (tw_n W : Int) ∧ ∀ q : Nat, q < tw_n W → G 6 q = tw_pc W q ∧ G 7 q = tw_ph W q
def cw_Q (W : TW) (G : SgM) : Prop := G 5 4 = (tw_k W : Int) ∧ ∀ p : Nat, p < tw_k W → G 9 p = tw_so W p ∧ G 10 p = tw_ce W p ∧ G 11 p = tw_wy W p ∧ G 12 p = tw_co W p
theorem sg_ab_dist {c p : Int} (hc : 0 ≤ c ∧ c ≤ 9) (hp : 0 ≤ p ∧ p ≤ 9) : sg_ab (sg_isub c p) = tw_dist c p := by
  rw [sg_isub_eq (by omega) (by omega)]
  unfold sg_ab tw_dist
  by_cases e : 0 ≤ c - p
  · rw [if_pos e]
    split <;> omega
  · rw [if_neg e, if_neg (by omega), sg_isub_eq (by omega) (by omega)]
    omega
theorem c_W_hbd {d N : Nat} (hN : 44 ≤ N) {W : TW} (hW : TWok W) {s c : Nat} (hs : s < 3) (hc : c < 10) {G : SgM} {Q : Int → SgM → Prop} (cP : cw_P W G) (post : Q (sg_mk (td_hear W (s : Int) (c : Int)) (tw_n W) : Int) G) :
    sg_Wp 0 N (d + 1) m_W_hearersByDistance 0 [(0, 2, 5), (1, 0, tw_loud (s : Int)), (2, 0, (c : Int))] [] G Q := by
  obtain ⟨w0, wp⟩ := cP
  have hn := hW.1
  have hl : 2 ≤ tw_loud (s : Int) ∧ tw_loud (s : Int) ≤ 7 := by unfold tw_loud; split; omega; split <;> omega
  have loop : ∀ (r m : Nat), m + r = tw_n W → sg_Wp 0 N (d + 1) m_W_hearersByDistance 5 [(0, 2, 5), (1, 0, tw_loud (s : Int)), (2, 0, (c : Int)), (3, 0, (sg_mk (td_hear W (s : Int) (c : Int)) m : Int)), (4, 0, (m : Int))] [] G Q := by
    intro r
    induction r with
    | zero =>
      intro m hm
      have em : m = tw_n W := by omega
      rw [em]
      exact g_W_hearersByDistance_5_5 hN ⟨fun _ => post, fun q => absurd (by rw [w0]; omega) q⟩
    | succ r ih =>
      intro m hm
      have hm' : m < tw_n W := by omega
      have b := hW.2.2.1 m hm'
      have bd : 0 ≤ tw_dist (c : Int) (tw_pc W m) ∧ tw_dist (c : Int) (tw_pc W m) ≤ 9 := by unfold tw_dist; split <;> omega
      have e : sg_isub (tw_loud (s : Int)) (sg_ab (sg_isub (c : Int) (G 6 (m : Int)))) = tw_loud (s : Int) - tw_dist (c : Int) (tw_pc W m) := by
        rw [(wp m hm').1, sg_ab_dist (by omega) (by omega), sg_isub_eq (by omega) (by omega)]
      have e7 := (wp m hm').2
      have ih := ih (m + 1) (by omega)
      refine g_W_hearersByDistance_5_5 hN ⟨fun q => absurd q (by rw [w0]; omega), fun _ => ⟨by omega, by omega, fun q => ?_, fun q => ?_⟩⟩
      · rw [e, e7] at q
        rw [sg_mk_f (by unfold td_hear; exact decide_eq_false (by omega))] at ih
        rw [sg_inc1 m (by omega)]
        exact ih
      · rw [e, e7] at q
        rw [sg_inc1 m (by omega), sg_mk_t (by omega) (by unfold td_hear; exact decide_eq_true (by omega))]
        exact ih
  exact g_W_hearersByDistance_5_0 hN (loop (tw_n W) 0 (by omega))
theorem c_W_loadPosts {d N : Nat} (hN : 44 ≤ N) {T0 T1 : TT} (h0 : TTok 23 T0) (h1 : TTok 29 T1) {G : SgM} {Q : Int → SgM → Prop} (cT : cT1 T0 G)
    (post : ∀ G', (∀ c : Int, c ≠ 5 → c ≠ 6 → c ≠ 7 → c ≠ 8 → ∀ i, G' c i = G c i) → (∀ i : Int, i ≠ 0 → G' 5 i = G 5 i) → cw_P (tw_of T0 T1) G' → cw_H (tw_of T0 T1) G' → Q 0 G') :
    sg_Wp 0 N (d + 6) m_W_loadPosts 0 [(0, 2, 5), (1, 2, 1)] [] G Q := by
  have hW := tw_of_ok h0 h1
  have hn := hW.1
  have en : tw_n (tw_of T0 T1) = tt_n sg_pof 3 T0 := rfl
  have third : ∀ G1 : SgM, (∀ c : Int, c ≠ 5 → c ≠ 6 → c ≠ 7 → ∀ i, G1 c i = G c i) → (∀ i : Int, i ≠ 0 → G1 5 i = G 5 i) → cw_P (tw_of T0 T1) G1 → sg_Wp 0 N (d + 6) m_W_loadPosts 55 [(0, 2, 5), (2, 0, 0)] [] G1 Q := by
    intro G1 f1 f2 f3
    have loop : ∀ (r m : Nat), m + r = 3 → ∀ G2 : SgM, (∀ c : Int, c ≠ 8 → ∀ i, G2 c i = G1 c i) → (∀ s c : Nat, s < m → c < 10 → G2 8 ((s : Int) * 10 + (c : Int)) = (sg_mk (td_hear (tw_of T0 T1) (s : Int) (c : Int)) (tw_n (tw_of T0 T1)) : Int)) → sg_Wp 0 N (d + 6) m_W_loadPosts 55 [(0, 2, 5), (2, 0, (m : Int))] [] G2 Q := by
      intro r
      induction r with
      | zero =>
        intro m hm G2 k1 k2
        have em : m = 3 := by omega
        subst em
        refine g_W_loadPosts_5_1_55 hN ⟨fun _ => post G2 (fun c x1 x2 x3 x4 i => by rw [k1 c x4, f1 c x1 x2 x3]) (fun i hi => by rw [k1 5 (by omega), f2 i hi]) ⟨by rw [k1 5 (by omega)]; exact f3.1, fun q hq => by rw [k1 6 (by omega), k1 7 (by omega)]; exact f3.2 q hq⟩ (fun s c hs hc => k2 s c hs hc), fun q => absurd (by omega) q⟩
      | succ r ih =>
        intro m hm G2 k1 k2
        have inner : ∀ (u j : Nat), j + u = 10 → ∀ G3 : SgM, (∀ c : Int, c ≠ 8 → ∀ i, G3 c i = G1 c i) → (∀ s c : Nat, (s < m ∧ c < 10) ∨ (s = m ∧ c < j) → G3 8 ((s : Int) * 10 + (c : Int)) = (sg_mk (td_hear (tw_of T0 T1) (s : Int) (c : Int)) (tw_n (tw_of T0 T1)) : Int)) → sg_Wp 0 N (d + 6) m_W_loadPosts 62 [(0, 2, 5), (2, 0, (m : Int)), (3, 0, (j : Int))] [] G3 Q := by
          intro u
          induction u with
          | zero =>
            intro j hj G3 l1 l2
            have ej : j = 10 := by omega
            subst ej
            refine g_W_loadPosts_5_1_62 hN ⟨fun _ => ?_, fun q => absurd (by omega) q⟩
            rw [sg_inc1 m (by omega)]
            exact ih (m + 1) (by omega) G3 l1 (fun s c hs hc => l2 s c (by omega))
          | succ u ihu =>
            intro j hj G3 l1 l2
            have ei : sg_iadd (sg_imul (m : Int) 10) (j : Int) = (m : Int) * 10 + (j : Int) := by rw [sg_imul_eq (by omega) (by omega), sg_iadd_eq (by omega) (by omega)]
            have el : (sg_loud (m : Int).toNat).toInt = tw_loud (m : Int) := by
              have : m = 0 ∨ m = 1 ∨ m = 2 := by omega
              rcases this with rfl | rfl | rfl <;> decide
            refine g_W_loadPosts_5_1_62 hN ⟨fun q => absurd q (by omega), fun _ => ⟨by omega, ?_⟩⟩
            rw [el]
            refine c_W_hbd hN hW (by omega) (by omega) ⟨by rw [l1 5 (by omega)]; exact f3.1, fun q hq => by rw [l1 6 (by omega), l1 7 (by omega)]; exact f3.2 q hq⟩ ⟨by rw [ei]; omega, ?_⟩
            rw [ei, sg_inc1 j (by omega)]
            refine ihu (j + 1) (by omega) _ (fun c x i => by rw [sg_upc x]; exact l1 c x i) (fun s c hsc => ?_)
            by_cases e : s = m ∧ c = j
            · obtain ⟨rfl, rfl⟩ := e
              exact sg_up_at
            · rw [sg_upi (by omega)]
              exact l2 s c (by omega)
        refine g_W_loadPosts_5_1_55 hN ⟨fun q => absurd q (by omega), fun _ => ?_⟩
        exact inner 10 0 (by omega) G2 k1 (fun s c hsc => k2 s c (by omega) (by omega))
    exact loop 3 0 (by omega) G1 (fun _ _ _ => rfl) (fun s c hs _ => absurd hs (Nat.not_lt_zero _))
  have first : ∀ (r m : Nat), m + r = tw_n (tw_of T0 T1) → ∀ G1 : SgM, (∀ c : Int, c ≠ 5 → c ≠ 6 → c ≠ 7 → ∀ i, G1 c i = G c i) → (∀ i : Int, i ≠ 0 → G1 5 i = G 5 i) → G1 5 0 = (tw_n (tw_of T0 T1) : Int) →
      (∀ q : Nat, q < m → G1 6 q = tw_pc (tw_of T0 T1) q ∧ G1 7 q = tw_ph (tw_of T0 T1) q) → sg_Wp 0 N (d + 6) m_W_loadPosts 15 [(0, 2, 5), (1, 2, 1), (2, 0, (m : Int))] [] G1 Q := by
    intro r
    induction r with
    | zero =>
      intro m hm G1 f1 f2 f3 f4
      exact g_W_loadPosts_5_1_15 hN ⟨fun _ => third G1 f1 f2 ⟨f3, fun q hq => f4 q (by omega)⟩, fun q => absurd (by rw [f3]; omega) q⟩
    | succ r ih =>
      intro m hm G1 f1 f2 f3 f4
      have hm' : m < tt_n sg_pof 3 T0 := by omega
      refine g_W_loadPosts_5_1_15 hN ⟨fun q => absurd q (by rw [f3]; omega), fun _ => ?_⟩
      refine c_T_number_1 (d := d + 1) (j := 0) hN h0 hm' (by omega) (cT.fr (fun c x1 x2 i => f1 c (by omega) (by omega) (by omega) i)) ⟨by omega, ?_⟩
      refine c_T_number_1 (d := d + 1) (j := 1) hN h0 hm' (by omega) (cT.fr (fun c x1 x2 i => by rw [sg_upc (by omega)]; exact f1 c (by omega) (by omega) (by omega) i)) ⟨by omega, ?_⟩
      rw [sg_inc1 m (by omega)]
      refine ih (m + 1) (by omega) _ (fun c x1 x2 x3 i => by rw [sg_upc x3, sg_upc x2]; exact f1 c x1 x2 x3 i) (fun i hi => by rw [sg_upc (by omega), sg_upc (by omega)]; exact f2 i hi) (by rw [sg_upc (by omega), sg_upc (by omega)]; exact f3) (fun q hq => ?_)
      by_cases e : q = m
      · subst e
        rw [sg_up_at, sg_upc (by omega), sg_up_at]
        exact ⟨rfl, rfl⟩
      · rw [sg_upc (by omega), sg_upi (by omega), sg_upi (by omega), sg_upc (by omega)]
        exact f4 q (by omega)
  refine g_W_loadPosts_5_1_0 hN (c_T_things_1 hN h0 cT ?_)
  have emn : sg_mn (tt_n sg_pof 3 T0 : Int) 8 = (tt_n sg_pof 3 T0 : Int) := by unfold sg_mn; split <;> omega
  rw [emn]
  exact first (tw_n (tw_of T0 T1)) 0 (by omega) _ (fun c x1 x2 x3 i => sg_upc x1) (fun i hi => sg_upi hi) sg_up_at (fun q hq => absurd hq (Nat.not_lt_zero _))
theorem c_W_loadPeople {d N : Nat} (hN : 44 ≤ N) {T0 T1 : TT} (h0 : TTok 23 T0) (h1 : TTok 29 T1) {G : SgM} {Q : Int → SgM → Prop} (cT : cT3 T1 G)
    (post : ∀ G', (∀ c : Int, c ≠ 5 → c ≠ 9 → c ≠ 10 → c ≠ 11 → c ≠ 12 → ∀ i, G' c i = G c i) → (∀ i : Int, i ≠ 4 → G' 5 i = G 5 i) → cw_Q (tw_of T0 T1) G' → Q 0 G') :
    sg_Wp 0 N (d + 6) m_W_loadPeople 0 [(0, 2, 5), (1, 2, 3)] [] G Q := by
  have hW := tw_of_ok h0 h1
  have hn := hW.2.1
  have en : tw_k (tw_of T0 T1) = tt_n sg_qof 5 T1 := rfl
  have first : ∀ (r m : Nat), m + r = tw_k (tw_of T0 T1) → ∀ G1 : SgM, (∀ c : Int, c ≠ 5 → c ≠ 9 → c ≠ 10 → c ≠ 11 → c ≠ 12 → ∀ i, G1 c i = G c i) → (∀ i : Int, i ≠ 4 → G1 5 i = G 5 i) → G1 5 4 = (tw_k (tw_of T0 T1) : Int) →
      (∀ p : Nat, p < m → G1 9 p = tw_so (tw_of T0 T1) p ∧ G1 10 p = tw_ce (tw_of T0 T1) p ∧ G1 11 p = tw_wy (tw_of T0 T1) p ∧ G1 12 p = tw_co (tw_of T0 T1) p) → sg_Wp 0 N (d + 6) m_W_loadPeople 15 [(0, 2, 5), (1, 2, 3), (2, 0, (m : Int))] [] G1 Q := by
    intro r
    induction r with
    | zero =>
      intro m hm G1 f1 f2 f3 f4
      exact g_W_loadPeople_5_3_15 hN ⟨fun _ => post G1 f1 f2 ⟨f3, fun q hq => f4 q (by omega)⟩, fun q => absurd (by rw [f3]; omega) q⟩
    | succ r ih =>
      intro m hm G1 f1 f2 f3 f4
      have hm' : m < tt_n sg_qof 5 T1 := by omega
      have bq := (hW.2.2.2 m (by omega)).2.2.2.2.2.2
      refine g_W_loadPeople_5_3_15 hN ⟨fun q => absurd q (by rw [f3]; omega), fun _ => ?_⟩
      refine c_T_number_3 (d := d + 1) (j := 0) hN h1 hm' (by omega) (cT.fr (fun c x1 x2 i => f1 c (by omega) (by omega) (by omega) (by omega) (by omega) i)) ⟨by omega, ?_⟩
      refine c_T_number_3 (d := d + 1) (j := 1) hN h1 hm' (by omega) (cT.fr (fun c x1 x2 i => by rw [sg_upc (by omega)]; exact f1 c (by omega) (by omega) (by omega) (by omega) (by omega) i)) ⟨by omega, ?_⟩
      refine c_T_number_3 (d := d + 1) (j := 2) hN h1 hm' (by omega) (cT.fr (fun c x1 x2 i => by rw [sg_upc (by omega), sg_upc (by omega)]; exact f1 c (by omega) (by omega) (by omega) (by omega) (by omega) i)) ⟨by omega, ?_⟩
      refine c_T_number_3 (d := d + 1) (j := 3) hN h1 hm' (by omega) (cT.fr (fun c x1 x2 i => by rw [sg_upc (by omega), sg_upc (by omega), sg_upc (by omega)]; exact f1 c (by omega) (by omega) (by omega) (by omega) (by omega) i)) ⟨by omega, ?_⟩
      rw [if_neg (show ¬ ((0 : Nat) = 3) by decide), if_neg (show ¬ ((1 : Nat) = 3) by decide), if_neg (show ¬ ((2 : Nat) = 3) by decide), if_pos (show (3 : Nat) = 3 from rfl)]
      have e3 : sg_iadd (sg_qof ((3 : Nat) : Int) (T1.2 (5 * m + 3)) - 1) 1 = tw_co (tw_of T0 T1) m := by
        have bq : 1 ≤ sg_qof ((3 : Nat) : Int) (T1.2 (5 * m + 3)) ∧ sg_qof ((3 : Nat) : Int) (T1.2 (5 * m + 3)) ≤ 9 := bq
        rw [sg_iadd_eq (by omega) (by omega), Int.sub_add_cancel]
        rfl
      rw [sg_inc1 m (by omega), e3]
      refine ih (m + 1) (by omega) _ (fun c x1 x2 x3 x4 x5 i => by rw [sg_upc x5, sg_upc x4, sg_upc x3, sg_upc x2]; exact f1 c x1 x2 x3 x4 x5 i) (fun i hi => by rw [sg_upc (by omega), sg_upc (by omega), sg_upc (by omega), sg_upc (by omega)]; exact f2 i hi) (by rw [sg_upc (by omega), sg_upc (by omega), sg_upc (by omega), sg_upc (by omega)]; exact f3) (fun q hq => ?_)
      by_cases e : q = m
      · subst e
        refine ⟨?_, ?_, ?_, sg_up_at⟩
        · rw [sg_upc (by omega), sg_upc (by omega), sg_upc (by omega), sg_up_at]; rfl
        · rw [sg_upc (by omega), sg_upc (by omega), sg_up_at]; rfl
        · rw [sg_upc (by omega), sg_up_at]; rfl
      · refine ⟨?_, ?_, ?_, ?_⟩
        · rw [sg_upc (by omega), sg_upc (by omega), sg_upc (by omega), sg_upi (by omega)]; exact (f4 q (by omega)).1
        · rw [sg_upc (by omega), sg_upc (by omega), sg_upi (by omega), sg_upc (by omega)]; exact (f4 q (by omega)).2.1
        · rw [sg_upc (by omega), sg_upi (by omega), sg_upc (by omega), sg_upc (by omega)]; exact (f4 q (by omega)).2.2.1
        · rw [sg_upi (by omega), sg_upc (by omega), sg_upc (by omega), sg_upc (by omega)]; exact (f4 q (by omega)).2.2.2
  refine g_W_loadPeople_5_3_0 hN (c_T_things_3 hN h1 cT ?_)
  have emn : sg_mn (tt_n sg_qof 5 T1 : Int) 6 = (tt_n sg_qof 5 T1 : Int) := by unfold sg_mn; split <;> omega
  rw [emn]
  exact first (tw_k (tw_of T0 T1)) 0 (by omega) _ (fun c x1 x2 x3 x4 x5 i => sg_upc x1) (fun i hi => sg_upi hi) sg_up_at (fun q hq => absurd hq (Nat.not_lt_zero _))
