/-! THE REFERENCE: reading the texts -/
/-- the wall in the reference's memory -/
def cm_P (n : Nat) (pc ph : Nat → Int) (G : SgM) : Prop := G 200 7 = (n : Int) ∧ ∀ q : Nat, q < n → G 207 (2 * (q : Int)) = pc q ∧ G 207 (2 * (q : Int) + 1) = ph q
def cm_Q (k : Nat) (so ce wy co : Nat → Int) (G : SgM) : Prop := G 200 9 = (k : Int) ∧ ∀ p : Nat, p < k → G 208 (4 * (p : Int)) = so p ∧ G 208 (4 * (p : Int) + 1) = ce p ∧ G 208 (4 * (p : Int) + 2) = wy p ∧ G 208 (4 * (p : Int) + 3) = co p
def cm_W (W : TW) (G : SgM) : Prop := cm_P (tw_n W) (tw_pc W) (tw_ph W) G ∧ cm_Q (tw_k W) (tw_so W) (tw_ce W) (tw_wy W) (tw_co W) G
theorem tt_flt_bad {v : Int → Int → Int} {per : Nat} {T : TT} {i : Nat} (hi : i < T.1) (h0 : td_least (tt_bad v per T) i = -1) (hb : v ((i % per : Nat) : Int) (T.2 i) = -9) : tt_flt v per T = (i : Int) := by
  have e : td_least (tt_bad v per T) T.1 = (i : Int) := td_least_of hi (by unfold tt_bad; exact decide_eq_true hb) (td_least_none h0)
  unfold tt_flt
  rw [e, if_neg (by omega)]
theorem tt_n_no {v : Int → Int → Int} {per : Nat} {T : TT} {i : Nat} (h : tt_flt v per T = (i : Int)) : tt_n v per T = 0 := by
  unfold tt_n
  rw [if_neg (by omega)]
theorem tt_flt_end {v : Int → Int → Int} {per : Nat} {T : TT} (h0 : td_least (tt_bad v per T) T.1 = -1) : tt_flt v per T = if T.1 = 0 ∨ T.1 % per = per - 1 then -1 else (T.1 : Int) := by
  unfold tt_flt
  rw [if_pos h0]

theorem c_M_readsPosts {d : Nat} {T : TT} (hT : TTok 23 T) {G : SgM} {Q : Int → SgM → Prop} (g6 : G 206 0 = (T.1 : Int)) (g5 : ∀ i : Nat, i < T.1 → G 205 (0 + (i : Int)) = T.2 i)
    (post : ∀ G', (∀ c : Int, c ≠ 200 → c ≠ 207 → ∀ i, G' c i = G c i) → (∀ i : Int, i ≠ 7 → G' 200 i = G 200 i) → G' 200 7 = (tt_n sg_pof 3 T : Int) → (∀ j : Nat, j < 3 * tt_n sg_pof 3 T → j % 3 < 2 → G' 207 (((2 * (j / 3) + j % 3 : Nat)) : Int) = sg_pof ((j % 3 : Nat) : Int) (T.2 j)) → Q (tt_flt sg_pof 3 T) G') :
    sg_Wp 200 228 (d + 3) m_M_readsPosts 0 [(0, 2, 200)] [] G Q := by
  have hl := hT.1
  have out : ∀ G1 : SgM, (∀ c : Int, c ≠ 200 → c ≠ 207 → ∀ i, G1 c i = G c i) → (∀ i : Int, i ≠ 7 → G1 200 i = G 200 i) → ∀ i : Nat, tt_flt sg_pof 3 T = (i : Int) → Q (i : Int) (sg_up G1 200 7 0) := by
    intro G1 f1 f2 i e
    have n0 := tt_n_no e
    have post := post (sg_up G1 200 7 0) (fun c x1 x2 i => by rw [sg_upc x1]; exact f1 c x1 x2 i) (fun i x => by rw [sg_upi x]; exact f2 i x) (by rw [sg_up_at, n0]; rfl) (fun j hj => by rw [n0] at hj; omega)
    rw [e] at post
    exact post
  have loop : ∀ (r m : Nat), m + r = T.1 → td_least (tt_bad sg_pof 3 T) m = -1 → ∀ G1 : SgM, (∀ c : Int, c ≠ 200 → c ≠ 207 → ∀ i, G1 c i = G c i) → (∀ i : Int, i ≠ 7 → G1 200 i = G 200 i) → G1 200 7 = (((m + 1) / 3 : Nat) : Int) →
      (∀ j : Nat, j < m → j % 3 < 2 → G1 207 (((2 * (j / 3) + j % 3 : Nat)) : Int) = sg_pof ((j % 3 : Nat) : Int) (T.2 j)) →
      sg_Wp 200 228 (d + 3) m_M_readsPosts 14 [(0, 2, 200), (1, 0, (T.1 : Int)), (2, 0, (m : Int))] [] G1 Q := by
    intro r
    induction r with
    | zero =>
      intro m hm h0 G1 f1 f2 f3 f4
      have em : m = T.1 := by omega
      subst em
      have ef := tt_flt_end h0
      have er : sg_irem (T.1 : Int) 3 = ((T.1 % 3 : Nat) : Int) := by rw [sg_irem_eq (by omega) (by omega) (by omega) (by omega)]; omega
      have good : (T.1 = 0 ∨ T.1 % 3 = 3 - 1) → Q (-1) G1 := fun g => by
        rw [if_pos g] at ef
        have en : tt_n sg_pof 3 T = (T.1 + 1) / 3 := by unfold tt_n; exact if_pos ef
        have post := post G1 f1 f2 (by rw [en]; exact f3) (fun j hj hk => f4 j (by rw [en] at hj; omega) hk)
        rw [ef] at post
        exact post
      refine g_M_readsPosts_14 ⟨fun _ => ⟨fun q => g_M_readsPosts_111 (good (Or.inl (by omega))), fun q => ⟨fun q2 => ?_, fun q2 => ?_⟩⟩, fun q => absurd (by omega) q⟩
      · rw [er] at q2
        exact g_M_readsPosts_111 (good (Or.inr (by omega)))
      · rw [er] at q2
        rw [if_neg (by omega)] at ef
        exact out G1 f1 f2 T.1 ef
    | succ r ih =>
      intro m hm h0 G1 f1 f2 f3 f4
      have hlt : m < T.1 := by omega
      have a1 : m % 3 ≠ 1 → (m + 1 + 1) / 3 = (m + 1) / 3 := by intro h; omega
      have a2 : m % 3 = 1 → (m + 1 + 1) / 3 = (m + 1) / 3 + 1 := by intro h; omega
      have er : sg_irem (m : Int) 3 = ((m % 3 : Nat) : Int) := by rw [sg_irem_eq (by omega) (by omega) (by omega) (by omega)]; omega
      have eq : sg_idiv (m : Int) 3 = ((m / 3 : Nat) : Int) := by rw [sg_idiv_eq (by omega) (by omega) (by omega) (by omega)]; omega
      have ei : sg_iadd (sg_imul 2 (sg_idiv (m : Int) 3)) (sg_irem (m : Int) 3) = ((2 * (m / 3) + m % 3 : Nat) : Int) := by rw [er, eq, sg_imul_eq (by omega) (by omega), sg_iadd_eq (by omega) (by omega)]; omega
      have eo : (m : Int) = 0 + (m : Int) := by omega
      have eb : G1 205 ((m : Int)) = T.2 m := by rw [f1 205 (by omega) (by omega), eo]; exact g5 m hlt
      have next : ∀ G2 : SgM, (∀ c : Int, c ≠ 200 → c ≠ 207 → ∀ i, G2 c i = G c i) → (∀ i : Int, i ≠ 7 → G2 200 i = G 200 i) → G2 200 7 = (((m + 1) / 3 : Nat) : Int) →
          (∀ j : Nat, j < m + 1 → j % 3 < 2 → G2 207 (((2 * (j / 3) + j % 3 : Nat)) : Int) = sg_pof ((j % 3 : Nat) : Int) (T.2 j)) → sg_pof ((m % 3 : Nat) : Int) (T.2 m) ≠ -9 →
          sg_Wp 200 228 (d + 3) m_M_readsPosts 68 [(0, 2, 200), (1, 0, (T.1 : Int)), (2, 0, (m : Int)), (3, 0, ((m % 3 : Nat) : Int))] [] G2 Q := by
        intro G2 k1 k2 k3 k4 hb
        have l1 : td_least (tt_bad sg_pof 3 T) (m + 1) = -1 := by
          rw [td_least_s, if_pos h0, if_neg]
          unfold tt_bad
          rw [decide_eq_false hb]
          decide
        refine g_M_readsPosts_68 ⟨fun q => ?_, fun q => ?_⟩
        · rw [sg_inc1 m (by omega), k3, sg_iadd_eq (by omega) (by omega), Int.add_zero]
          refine ih (m + 1) (by omega) l1 _ (fun c x1 x2 i => by rw [sg_upc x1]; exact k1 c x1 x2 i) (fun i x => by rw [sg_upi x]; exact k2 i x) (by rw [sg_up_at, a1 (by omega)]) (fun j hj hk => by rw [sg_upc (by omega)]; exact k4 j hj hk)
        · rw [sg_inc1 m (by omega), k3, sg_iadd_eq (by omega) (by omega)]
          have q := Decidable.not_not.mp q
          refine ih (m + 1) (by omega) l1 _ (fun c x1 x2 i => by rw [sg_upc x1]; exact k1 c x1 x2 i) (fun i x => by rw [sg_upi x]; exact k2 i x) (by rw [sg_up_at, a2 (by omega)]; rfl) (fun j hj hk => by rw [sg_upc (by omega)]; exact k4 j hj hk)
      refine g_M_readsPosts_14 ⟨fun q => absurd q (by omega), fun _ => ⟨by rw [eo]; omega, fun q => ⟨fun q2 => ?_, fun q2 => ⟨by rw [ei]; omega, ?_⟩⟩, fun q => ?_⟩⟩
      · rw [eb, er] at q
        rw [er] at q2 ⊢
        refine next G1 f1 f2 f3 (fun j hj hk => f4 j (by
          by_cases e : j = m
          · subst e; omega
          · omega) hk) q
      · rw [eb, er] at q
        rw [ei, eb, er]
        refine next _ (fun c x1 x2 i => by rw [sg_upc x2]; exact f1 c x1 x2 i) (fun i x => by rw [sg_upc (by omega)]; exact f2 i x) (by rw [sg_upc (by omega)]; exact f3) (fun j hj hk => ?_) q
        by_cases e : j = m
        · subst e
          exact sg_up_at
        · rw [sg_upi (by omega)]
          exact f4 j (by omega) hk
      · rw [eb, er] at q
        exact out G1 f1 f2 m (tt_flt_bad hlt h0 (Decidable.not_not.mp q))
  refine g_M_readsPosts_0 ?_
  rw [g6]
  exact loop T.1 0 (Nat.zero_add _) rfl _ (fun c x1 x2 i => sg_upc x1) (fun i x => sg_upi x) sg_up_at (fun j hj => absurd hj (Nat.not_lt_zero _))

theorem c_M_readsPeople {d : Nat} {T : TT} (hT : TTok 29 T) {G : SgM} {Q : Int → SgM → Prop} (g6 : G 206 1 = (T.1 : Int)) (g5 : ∀ i : Nat, i < T.1 → G 205 (32 + (i : Int)) = T.2 i)
    (post : ∀ G', (∀ c : Int, c ≠ 200 → c ≠ 208 → ∀ i, G' c i = G c i) → (∀ i : Int, i ≠ 9 → G' 200 i = G 200 i) → G' 200 9 = (tt_n sg_qof 5 T : Int) → (∀ j : Nat, j < 5 * tt_n sg_qof 5 T → j % 5 < 4 → G' 208 (((4 * (j / 5) + j % 5 : Nat)) : Int) = sg_qof ((j % 5 : Nat) : Int) (T.2 j)) → Q (tt_flt sg_qof 5 T) G') :
    sg_Wp 200 228 (d + 3) m_M_readsPeople 0 [(0, 2, 200)] [] G Q := by
  have hl := hT.1
  have out : ∀ G1 : SgM, (∀ c : Int, c ≠ 200 → c ≠ 208 → ∀ i, G1 c i = G c i) → (∀ i : Int, i ≠ 9 → G1 200 i = G 200 i) → ∀ i : Nat, tt_flt sg_qof 5 T = (i : Int) → Q (i : Int) (sg_up G1 200 9 0) := by
    intro G1 f1 f2 i e
    have n0 := tt_n_no e
    have post := post (sg_up G1 200 9 0) (fun c x1 x2 i => by rw [sg_upc x1]; exact f1 c x1 x2 i) (fun i x => by rw [sg_upi x]; exact f2 i x) (by rw [sg_up_at, n0]; rfl) (fun j hj => by rw [n0] at hj; omega)
    rw [e] at post
    exact post
  have loop : ∀ (r m : Nat), m + r = T.1 → td_least (tt_bad sg_qof 5 T) m = -1 → ∀ G1 : SgM, (∀ c : Int, c ≠ 200 → c ≠ 208 → ∀ i, G1 c i = G c i) → (∀ i : Int, i ≠ 9 → G1 200 i = G 200 i) → G1 200 9 = (((m + 1) / 5 : Nat) : Int) →
      (∀ j : Nat, j < m → j % 5 < 4 → G1 208 (((4 * (j / 5) + j % 5 : Nat)) : Int) = sg_qof ((j % 5 : Nat) : Int) (T.2 j)) →
      sg_Wp 200 228 (d + 3) m_M_readsPeople 14 [(0, 2, 200), (1, 0, (T.1 : Int)), (2, 0, (m : Int))] [] G1 Q := by
    intro r
    induction r with
    | zero =>
      intro m hm h0 G1 f1 f2 f3 f4
      have em : m = T.1 := by omega
      subst em
      have ef := tt_flt_end h0
      have er : sg_irem (T.1 : Int) 5 = ((T.1 % 5 : Nat) : Int) := by rw [sg_irem_eq (by omega) (by omega) (by omega) (by omega)]; omega
      have good : (T.1 = 0 ∨ T.1 % 5 = 5 - 1) → Q (-1) G1 := fun g => by
        rw [if_pos g] at ef
        have en : tt_n sg_qof 5 T = (T.1 + 1) / 5 := by unfold tt_n; exact if_pos ef
        have post := post G1 f1 f2 (by rw [en]; exact f3) (fun j hj hk => f4 j (by rw [en] at hj; omega) hk)
        rw [ef] at post
        exact post
      refine g_M_readsPeople_14 ⟨fun _ => ⟨fun q => g_M_readsPeople_114 (good (Or.inl (by omega))), fun q => ⟨fun q2 => ?_, fun q2 => ?_⟩⟩, fun q => absurd (by omega) q⟩
      · rw [er] at q2
        exact g_M_readsPeople_114 (good (Or.inr (by omega)))
      · rw [er] at q2
        rw [if_neg (by omega)] at ef
        exact out G1 f1 f2 T.1 ef
    | succ r ih =>
      intro m hm h0 G1 f1 f2 f3 f4
      have hlt : m < T.1 := by omega
      have a1 : m % 5 ≠ 3 → (m + 1 + 1) / 5 = (m + 1) / 5 := by intro h; omega
      have a2 : m % 5 = 3 → (m + 1 + 1) / 5 = (m + 1) / 5 + 1 := by intro h; omega
      have er : sg_irem (m : Int) 5 = ((m % 5 : Nat) : Int) := by rw [sg_irem_eq (by omega) (by omega) (by omega) (by omega)]; omega
      have eq : sg_idiv (m : Int) 5 = ((m / 5 : Nat) : Int) := by rw [sg_idiv_eq (by omega) (by omega) (by omega) (by omega)]; omega
      have ei : sg_iadd (sg_imul 4 (sg_idiv (m : Int) 5)) (sg_irem (m : Int) 5) = ((4 * (m / 5) + m % 5 : Nat) : Int) := by rw [er, eq, sg_imul_eq (by omega) (by omega), sg_iadd_eq (by omega) (by omega)]; omega
      have eo : sg_iadd 32 (m : Int) = 32 + (m : Int) := by exact sg_iadd_eq (by omega) (by omega)
      have eb : G1 205 (sg_iadd 32 (m : Int)) = T.2 m := by rw [f1 205 (by omega) (by omega), eo]; exact g5 m hlt
      have next : ∀ G2 : SgM, (∀ c : Int, c ≠ 200 → c ≠ 208 → ∀ i, G2 c i = G c i) → (∀ i : Int, i ≠ 9 → G2 200 i = G 200 i) → G2 200 9 = (((m + 1) / 5 : Nat) : Int) →
          (∀ j : Nat, j < m + 1 → j % 5 < 4 → G2 208 (((4 * (j / 5) + j % 5 : Nat)) : Int) = sg_qof ((j % 5 : Nat) : Int) (T.2 j)) → sg_qof ((m % 5 : Nat) : Int) (T.2 m) ≠ -9 →
          sg_Wp 200 228 (d + 3) m_M_readsPeople 71 [(0, 2, 200), (1, 0, (T.1 : Int)), (2, 0, (m : Int)), (3, 0, ((m % 5 : Nat) : Int))] [] G2 Q := by
        intro G2 k1 k2 k3 k4 hb
        have l1 : td_least (tt_bad sg_qof 5 T) (m + 1) = -1 := by
          rw [td_least_s, if_pos h0, if_neg]
          unfold tt_bad
          rw [decide_eq_false hb]
          decide
        refine g_M_readsPeople_71 ⟨fun q => ?_, fun q => ?_⟩
        · rw [sg_inc1 m (by omega), k3, sg_iadd_eq (by omega) (by omega), Int.add_zero]
          refine ih (m + 1) (by omega) l1 _ (fun c x1 x2 i => by rw [sg_upc x1]; exact k1 c x1 x2 i) (fun i x => by rw [sg_upi x]; exact k2 i x) (by rw [sg_up_at, a1 (by omega)]) (fun j hj hk => by rw [sg_upc (by omega)]; exact k4 j hj hk)
        · rw [sg_inc1 m (by omega), k3, sg_iadd_eq (by omega) (by omega)]
          have q := Decidable.not_not.mp q
          refine ih (m + 1) (by omega) l1 _ (fun c x1 x2 i => by rw [sg_upc x1]; exact k1 c x1 x2 i) (fun i x => by rw [sg_upi x]; exact k2 i x) (by rw [sg_up_at, a2 (by omega)]; rfl) (fun j hj hk => by rw [sg_upc (by omega)]; exact k4 j hj hk)
      refine g_M_readsPeople_14 ⟨fun q => absurd q (by omega), fun _ => ⟨by rw [eo]; omega, fun q => ⟨fun q2 => ?_, fun q2 => ⟨by rw [ei]; omega, ?_⟩⟩, fun q => ?_⟩⟩
      · rw [eb, er] at q
        rw [er] at q2 ⊢
        refine next G1 f1 f2 f3 (fun j hj hk => f4 j (by
          by_cases e : j = m
          · subst e; omega
          · omega) hk) q
      · rw [eb, er] at q
        rw [ei, eb, er]
        refine next _ (fun c x1 x2 i => by rw [sg_upc x2]; exact f1 c x1 x2 i) (fun i x => by rw [sg_upc (by omega)]; exact f2 i x) (by rw [sg_upc (by omega)]; exact f3) (fun j hj hk => ?_) q
        by_cases e : j = m
        · subst e
          exact sg_up_at
        · rw [sg_upi (by omega)]
          exact f4 j (by omega) hk
      · rw [eb, er] at q
        exact out G1 f1 f2 m (tt_flt_bad hlt h0 (Decidable.not_not.mp q))
  refine g_M_readsPeople_0 ?_
  rw [g6]
  exact loop T.1 0 (Nat.zero_add _) rfl _ (fun c x1 x2 i => sg_upc x1) (fun i x => sg_upi x) sg_up_at (fun j hj => absurd hj (Nat.not_lt_zero _))
