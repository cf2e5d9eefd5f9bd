/-! TEXTS: a length and its bytes; the first fault; what they tell -/

abbrev TT : Type := Nat × (Nat → Int)
def tt_bad (v : Int → Int → Int) (per : Nat) (T : TT) (i : Nat) : Bool := decide (v ((i % per : Nat) : Int) (T.2 i) = -9)
def tt_flt (v : Int → Int → Int) (per : Nat) (T : TT) : Int := if td_least (tt_bad v per T) T.1 = -1 then (if T.1 = 0 ∨ T.1 % per = per - 1 then -1 else (T.1 : Int)) else td_least (tt_bad v per T) T.1
def tt_n (v : Int → Int → Int) (per : Nat) (T : TT) : Nat := if tt_flt v per T = -1 then (T.1 + 1) / per else 0
def TTok (mx : Nat) (T : TT) : Prop := T.1 ≤ mx ∧ ∀ i : Nat, i < T.1 → 0 ≤ T.2 i ∧ T.2 i ≤ 255
def tw_of (T0 T1 : TT) : TW := ((tt_n sg_pof 3 T0, fun q => sg_pof 0 (T0.2 (3 * q)), fun q => sg_pof 1 (T0.2 (3 * q + 1))), (tt_n sg_qof 5 T1, fun p => sg_qof 0 (T1.2 (5 * p)), fun p => sg_qof 1 (T1.2 (5 * p + 1)), fun p => sg_qof 2 (T1.2 (5 * p + 2)), fun p => sg_qof 3 (T1.2 (5 * p + 3))))
theorem sg_fig_eq {b l m : Int} (hb : 0 ≤ b ∧ b ≤ 255) (hl : 0 ≤ l ∧ l ≤ 9) (hm : 0 ≤ m ∧ m ≤ 9) : sg_fig b l m = if 48 + l ≤ b ∧ b ≤ 48 + m then b - 48 else -9 := by
  unfold sg_fig
  rw [sg_iadd_eq (by omega) (by omega), sg_iadd_eq (by omega) (by omega), sg_isub_eq (by omega) (by omega)]
theorem tt_ixP {b : Int} (hb : 0 ≤ b ∧ b ≤ 255) {k : Nat} (hk : k < 3) : (0 ≤ sg_sgP (k : Int) ∧ sg_sgP (k : Int) < 6) ∧ (0 ≤ sg_ix (sg_sgP (k : Int)) (sg_i2c b) ↔ sg_pof (k : Int) b ≠ -9) ∧ (sg_pof (k : Int) b ≠ -9 → sg_ix (sg_sgP (k : Int)) (sg_i2c b) = sg_pof (k : Int) b) := by
  rw [sg_i2c_eq hb.1 (by omega)]
  have : k = 0 ∨ k = 1 ∨ k = 2 := by omega
  rcases this with rfl | rfl | rfl
  · rw [show sg_sgP ((0 : Nat) : Int) = 0 from rfl, show sg_pof ((0 : Nat) : Int) b = sg_fig b 0 9 from rfl, sg_ix0, sg_fig_eq hb (by omega) (by omega)]
    refine ⟨by omega, ?_, ?_⟩ <;> split <;> split <;> omega
  · rw [show sg_sgP ((1 : Nat) : Int) = 1 from rfl, show sg_pof ((1 : Nat) : Int) b = sg_fig b 0 3 from rfl, sg_ix1, sg_fig_eq hb (by omega) (by omega)]
    refine ⟨by omega, ?_, ?_⟩ <;> split <;> split <;> omega
  · rw [show sg_sgP ((2 : Nat) : Int) = 2 from rfl, show sg_pof ((2 : Nat) : Int) b = (if b = 59 then 0 else -9) from rfl, sg_ix2]
    refine ⟨by omega, ?_, ?_⟩ <;> split <;> omega
theorem tt_ixQ {b : Int} (hb : 0 ≤ b ∧ b ≤ 255) {k : Nat} (hk : k < 5) : (0 ≤ sg_sgQ (k : Int) ∧ sg_sgQ (k : Int) < 6) ∧ (0 ≤ sg_ix (sg_sgQ (k : Int)) (sg_i2c b) ↔ sg_qof (k : Int) b ≠ -9) ∧ (sg_qof (k : Int) b ≠ -9 → sg_ix (sg_sgQ (k : Int)) (sg_i2c b) = if k = 3 then sg_qof (k : Int) b - 1 else sg_qof (k : Int) b) := by
  rw [sg_i2c_eq hb.1 (by omega)]
  have : k = 0 ∨ k = 1 ∨ k = 2 ∨ k = 3 ∨ k = 4 := by omega
  rcases this with rfl | rfl | rfl | rfl | rfl
  · rw [show sg_sgQ ((0 : Nat) : Int) = 3 from rfl, show sg_qof ((0 : Nat) : Int) b = (if b = 112 then 0 else if b = 99 then 1 else if b = 103 then 2 else -9) from rfl, sg_ix3]
    refine ⟨by omega, ?_, ?_⟩
    · by_cases b1 : b = 112 <;> by_cases b2 : b = 99 <;> by_cases b3 : b = 103 <;> simp [b1, b2, b3]
    · by_cases b1 : b = 112 <;> by_cases b2 : b = 99 <;> by_cases b3 : b = 103 <;> simp [b1, b2, b3]
  · rw [show sg_sgQ ((1 : Nat) : Int) = 0 from rfl, show sg_qof ((1 : Nat) : Int) b = sg_fig b 0 9 from rfl, sg_ix0, sg_fig_eq hb (by omega) (by omega)]
    refine ⟨by omega, ?_, ?_⟩
    · split <;> split <;> omega
    · rw [if_neg (show ¬ ((1 : Nat) = 3) by decide)]; split <;> split <;> omega
  · rw [show sg_sgQ ((2 : Nat) : Int) = 4 from rfl, show sg_qof ((2 : Nat) : Int) b = (if b = 101 then 0 else if b = 119 then 1 else -9) from rfl, sg_ix4]
    refine ⟨by omega, ?_, ?_⟩
    · by_cases b1 : b = 101 <;> by_cases b2 : b = 119 <;> simp [b1, b2]
    · by_cases b1 : b = 101 <;> by_cases b2 : b = 119 <;> simp [b1, b2]
  · rw [show sg_sgQ ((3 : Nat) : Int) = 5 from rfl, show sg_qof ((3 : Nat) : Int) b = sg_fig b 1 9 from rfl, sg_ix5, sg_fig_eq hb (by omega) (by omega)]
    refine ⟨by omega, ?_, ?_⟩
    · split <;> split <;> omega
    · rw [if_pos (show (3 : Nat) = 3 from rfl)]; split <;> split <;> omega
  · rw [show sg_sgQ ((4 : Nat) : Int) = 2 from rfl, show sg_qof ((4 : Nat) : Int) b = (if b = 59 then 0 else -9) from rfl, sg_ix2]
    refine ⟨by omega, ?_, ?_⟩
    · split <;> omega
    · rw [if_neg (show ¬ ((4 : Nat) = 3) by decide)]; split <;> omega
theorem tt_none {v : Int → Int → Int} {per : Nat} {T : TT} (h : tt_flt v per T = -1) : td_least (tt_bad v per T) T.1 = -1 ∧ (T.1 = 0 ∨ T.1 % per = per - 1) := by
  unfold tt_flt at h
  by_cases e : td_least (tt_bad v per T) T.1 = -1
  · rw [if_pos e] at h
    by_cases g : T.1 = 0 ∨ T.1 % per = per - 1
    · exact ⟨e, g⟩
    · rw [if_neg g] at h; omega
  · rw [if_neg e] at h
    exact absurd h e
theorem tt_good {v : Int → Int → Int} {per : Nat} {T : TT} (h : tt_flt v per T = -1) {i : Nat} (hi : i < T.1) : v ((i % per : Nat) : Int) (T.2 i) ≠ -9 := by
  have := td_least_none (tt_none h).1 i hi
  unfold tt_bad at this
  simpa using this
/-- the walls that texts tell are walls -/
theorem tw_of_ok {T0 T1 : TT} (h0 : TTok 23 T0) (h1 : TTok 29 T1) : TWok (tw_of T0 T1) := by
  have p0 : ∀ b : Int, 0 ≤ b ∧ b ≤ 255 → sg_pof 0 b ≠ -9 → 0 ≤ sg_pof 0 b ∧ sg_pof 0 b ≤ 9 := fun b hb h => by
    rw [show sg_pof 0 b = sg_fig b 0 9 from rfl, sg_fig_eq hb (by omega) (by omega)] at h ⊢
    split at h
    · rw [if_pos ‹_›]; omega
    · exact absurd rfl h
  have p1 : ∀ b : Int, 0 ≤ b ∧ b ≤ 255 → sg_pof 1 b ≠ -9 → 0 ≤ sg_pof 1 b ∧ sg_pof 1 b ≤ 3 := fun b hb h => by
    rw [show sg_pof 1 b = sg_fig b 0 3 from rfl, sg_fig_eq hb (by omega) (by omega)] at h ⊢
    split at h
    · rw [if_pos ‹_›]; omega
    · exact absurd rfl h
  have q0 : ∀ b : Int, sg_qof 0 b ≠ -9 → 0 ≤ sg_qof 0 b ∧ sg_qof 0 b ≤ 2 := fun b h => by
    rw [show sg_qof 0 b = (if b = 112 then 0 else if b = 99 then 1 else if b = 103 then 2 else -9) from rfl] at h ⊢
    by_cases b1 : b = 112 <;> by_cases b2 : b = 99 <;> by_cases b3 : b = 103 <;> simp [b1, b2, b3] at h ⊢
  have q1 : ∀ b : Int, 0 ≤ b ∧ b ≤ 255 → sg_qof 1 b ≠ -9 → 0 ≤ sg_qof 1 b ∧ sg_qof 1 b ≤ 9 := fun b hb h => by
    rw [show sg_qof 1 b = sg_fig b 0 9 from rfl, sg_fig_eq hb (by omega) (by omega)] at h ⊢
    split at h
    · rw [if_pos ‹_›]; omega
    · exact absurd rfl h
  have q2 : ∀ b : Int, sg_qof 2 b ≠ -9 → 0 ≤ sg_qof 2 b ∧ sg_qof 2 b ≤ 1 := fun b h => by
    rw [show sg_qof 2 b = (if b = 101 then 0 else if b = 119 then 1 else -9) from rfl] at h ⊢
    by_cases b1 : b = 101 <;> by_cases b2 : b = 119 <;> simp [b1, b2] at h ⊢
  have q3 : ∀ b : Int, 0 ≤ b ∧ b ≤ 255 → sg_qof 3 b ≠ -9 → 1 ≤ sg_qof 3 b ∧ sg_qof 3 b ≤ 9 := fun b hb h => by
    rw [show sg_qof 3 b = sg_fig b 1 9 from rfl, sg_fig_eq hb (by omega) (by omega)] at h ⊢
    split at h
    · rw [if_pos ‹_›]; omega
    · exact absurd rfl h
  have n0 : tw_n (tw_of T0 T1) = tt_n sg_pof 3 T0 := rfl
  have n1 : tw_k (tw_of T0 T1) = tt_n sg_qof 5 T1 := rfl
  refine ⟨?_, ?_, fun q hq => ?_, fun p hp => ?_⟩
  · rw [n0]; unfold tt_n
    have := h0.1
    split <;> omega
  · rw [n1]; unfold tt_n
    have := h1.1
    split <;> omega
  · rw [n0] at hq
    unfold tt_n at hq
    by_cases e : tt_flt sg_pof 3 T0 = -1
    · rw [if_pos e] at hq
      have r := (tt_none e).2
      have g1 := tt_good e (i := 3 * q) (by omega)
      have g2 := tt_good e (i := 3 * q + 1) (by omega)
      rw [show 3 * q % 3 = 0 by omega] at g1
      rw [show (3 * q + 1) % 3 = 1 by omega] at g2
      have a := p0 _ (h0.2 (3 * q) (by omega)) g1
      have b := p1 _ (h0.2 (3 * q + 1) (by omega)) g2
      exact ⟨a.1, a.2, b.1, b.2⟩
    · rw [if_neg e] at hq; omega
  · rw [n1] at hp
    unfold tt_n at hp
    by_cases e : tt_flt sg_qof 5 T1 = -1
    · rw [if_pos e] at hp
      have r := (tt_none e).2
      have g0 := tt_good e (i := 5 * p) (by omega)
      have g1 := tt_good e (i := 5 * p + 1) (by omega)
      have g2 := tt_good e (i := 5 * p + 2) (by omega)
      have g3 := tt_good e (i := 5 * p + 3) (by omega)
      rw [show 5 * p % 5 = 0 by omega] at g0
      rw [show (5 * p + 1) % 5 = 1 by omega] at g1
      rw [show (5 * p + 2) % 5 = 2 by omega] at g2
      rw [show (5 * p + 3) % 5 = 3 by omega] at g3
      have a := q0 _ g0
      have b := q1 _ (h1.2 (5 * p + 1) (by omega)) g1
      have c := q2 _ g2
      have d := q3 _ (h1.2 (5 * p + 3) (by omega)) g3
      exact ⟨a.1, a.2, b.1, b.2, c.1, c.2, d.1, d.2⟩
    · rw [if_neg e] at hp; omega

/-- text 1 in the memory -/
def cT1 (T : TT) (G : SgM) : Prop := G 1 0 = 1 ∧ G 1 1 = 3 ∧ G 1 3 = (T.1 : Int) ∧ ∀ i : Nat, i < T.1 → G 2 i = T.2 i
theorem c_T_firstFault_1 {d N : Nat} (hN : 44 ≤ N) {T : TT} (hT : TTok 23 T) {G : SgM} {Q : Int → SgM → Prop} (cT : cT1 T G) (post : Q (tt_flt sg_pof 3 T) G) : sg_Wp 0 N (d + 4) m_T_firstFault 0 [(0, 2, 1)] [] G Q := by
  obtain ⟨c0, c1, c3, cb⟩ := cT
  obtain ⟨hl, hb⟩ := hT
  have e2 : sg_isub 3 1 = 2 := by decide +kernel
  have loop : ∀ (r i : Nat), i + r = T.1 → td_least (tt_bad sg_pof 3 T) i = -1 → sg_Wp 0 N (d + 4) m_T_firstFault 4 [(0, 2, 1), (1, 0, ((i % 3 : Nat) : Int)), (2, 0, (i : Int))] [] G Q := by
    intro r
    induction r with
    | zero =>
      intro i hi h0
      have ei : i = T.1 := by omega
      subst ei
      unfold tt_flt at post
      rw [if_pos h0] at post
      refine g_T_firstFault_1_4 hN ⟨fun _ => ⟨fun q => ?_, fun q => ⟨fun q2 => ?_, fun q2 => ?_⟩⟩, fun q => absurd (by rw [c3]; omega) q⟩
      · rw [c3] at q
        rw [if_pos (Or.inl (by omega))] at post
        exact post
      · rw [c3] at q ⊢
        rw [c1, e2] at q2
        rw [if_neg (by omega)] at post
        exact post
      · rw [c1, e2] at q2
        rw [if_pos (Or.inr (by omega))] at post
        exact post
    | succ r ih =>
      intro i hi h0
      have hlt : i < T.1 := by omega
      obtain ⟨x1, x2, x3⟩ := tt_ixP (hb i hlt) (k := i % 3) (by omega)
      have en := sg_inc1 i (by omega)
      have en2 := sg_inc1 (i % 3) (by omega)
      refine g_T_firstFault_1_4 hN ⟨fun q => absurd q (by rw [c3]; omega), fun _ => ⟨c0, by omega, x1, x1, fun q => ⟨fun q2 => ?_, fun q2 => ?_⟩, fun q => ?_⟩⟩
      · rw [cb i hlt, x2] at q
        have ih := ih (i + 1) (by omega) (by rw [td_least_s, if_pos h0, if_neg (by unfold tt_bad; simpa using q)])
        rw [c1, en2] at q2
        rw [show (i + 1) % 3 = 0 by omega] at ih
        rw [en]
        exact ih
      · rw [cb i hlt, x2] at q
        have ih := ih (i + 1) (by omega) (by rw [td_least_s, if_pos h0, if_neg (by unfold tt_bad; simpa using q)])
        rw [c1, en2] at q2
        rw [show (i + 1) % 3 = i % 3 + 1 by omega] at ih
        rw [en, en2]
        exact ih
      · rw [cb i hlt, x2] at q
        have q : sg_pof ((i % 3 : Nat) : Int) (T.2 i) = -9 := Decidable.not_not.mp q
        have e : td_least (tt_bad sg_pof 3 T) T.1 = (i : Int) := td_least_of hlt (by unfold tt_bad; simpa using q) (td_least_none h0)
        unfold tt_flt at post
        rw [e, if_neg (by omega)] at post
        exact post
  exact g_T_firstFault_1_0 hN (loop T.1 0 (Nat.zero_add _) rfl)
theorem c_T_things_1 {d N : Nat} (hN : 44 ≤ N) {T : TT} (hT : TTok 23 T) {G : SgM} {Q : Int → SgM → Prop} (cT : cT1 T G) (post : Q (tt_n sg_pof 3 T : Int) G) : sg_Wp 0 N (d + 5) m_T_things 0 [(0, 2, 1)] [] G Q := by
  obtain ⟨c0, c1, c3, cb⟩ := id cT
  have hl := hT.1
  refine g_T_things_1_0 hN ⟨fun q => absurd q (by rw [c1]; omega), fun _ => c_T_firstFault_1 hN hT cT ⟨fun q => ?_, fun q => ⟨by rw [c1]; omega, ?_⟩⟩⟩
  · unfold tt_n at post
    rw [if_neg q] at post
    exact post
  · unfold tt_n at post
    rw [if_pos (Decidable.not_not.mp q)] at post
    rw [c3, c1, sg_iadd_eq (by omega) (by omega), sg_idiv_eq (by omega) (by omega) (by omega) (by omega)]
    have e : ((T.1 : Int) + 1) / 3 = (((T.1 + 1) / 3 : Nat) : Int) := by omega
    rw [e]
    exact post
/-- byte j of thing i of a good text -/
theorem c_T_number_1 {d N : Nat} (hN : 44 ≤ N) {T : TT} (hT : TTok 23 T) {i j : Nat} (hi : i < tt_n sg_pof 3 T) (hj : j < 2) {G : SgM} {Q : Int → SgM → Prop} (cT : cT1 T G) (post : Q (sg_pof (j : Int) (T.2 (3 * i + j))) G) : sg_Wp 0 N (d + 4) m_T_number 0 [(0, 2, 1), (1, 0, (i : Int)), (2, 0, (j : Int))] [] G Q := by
  obtain ⟨c0, c1, c3, cb⟩ := id cT
  have hl := hT.1
  unfold tt_n at hi
  by_cases e : tt_flt sg_pof 3 T = -1
  · rw [if_pos e] at hi
    have r := (tt_none e).2
    have hlt : 3 * i + j < T.1 := by omega
    have g := tt_good e hlt
    rw [show (3 * i + j) % 3 = j by omega] at g
    obtain ⟨x1, x2, x3⟩ := tt_ixP (hT.2 _ hlt) (k := j) (by omega)
    have ea : sg_iadd (sg_imul (i : Int) (G 1 1)) (j : Int) = ((3 * i + j : Nat) : Int) := by rw [c1, sg_imul_eq (by omega) (by omega), sg_iadd_eq (by omega) (by omega)]; omega
    refine g_T_number_1_0 hN ⟨fun q => ⟨c0, by rw [ea]; omega, x1, x1, ?_⟩, fun q => absurd (by rw [ea, c3]; omega) q⟩
    rw [ea, cb _ hlt, x3 g]
    exact post
  · rw [if_neg e] at hi
    omega
theorem c_T_add_1 {d N : Nat} (hN : 44 ≤ N) {T : TT} (hT : TTok 23 T) {x : Int} {G : SgM} {Q : Int → SgM → Prop} (cT : cT1 T G)
    (post : (T.1 = 23 → Q (-4) G) ∧ (T.1 < 23 → ∀ G', (∀ c : Int, c ≠ 1 → c ≠ 2 → ∀ i, G' c i = G c i) → cT1 (T.1 + 1, fun i => if i = T.1 then x else T.2 i) G' → Q ((T.1 + 1 : Nat) : Int) G')) : sg_Wp 0 N d m_T_add 0 [(0, 2, 1), (1, 0, x)] [] G Q := by
  obtain ⟨c0, c1, c3, cb⟩ := id cT
  have hl := hT.1
  refine g_T_add_1_0 hN ⟨fun q => ⟨by rw [c3] at q ⊢; omega, ?_⟩, fun q => post.1 (by rw [c3] at q; omega)⟩
  rw [c3] at q
  rw [c3, sg_up_at, sg_inc1 _ (by omega)]
  refine post.2 (by omega) _ (fun c h1 h2 i => by simp (disch := omega) only [sg_up_at, sg_upc, sg_upi]) ⟨by simp (disch := omega) only [sg_up_at, sg_upc, sg_upi]; exact c0, by simp (disch := omega) only [sg_up_at, sg_upc, sg_upi]; exact c1, by simp (disch := omega) only [sg_up_at, sg_upc, sg_upi], fun i hi => ?_⟩
  by_cases e : i = T.1
  · subst e
    simp (disch := omega) only [sg_up_at, sg_upc, sg_upi]
    simp
  · simp (disch := omega) only [sg_up_at, sg_upc, sg_upi]
    have hi : i < T.1 + 1 := hi
    rw [cb i (by omega)]
    simp [e]
theorem c_T_clear_1 {d N : Nat} (hN : 44 ≤ N) {T : TT} {G : SgM} {Q : Int → SgM → Prop} (cT : cT1 T G)
    (post : ∀ G', (∀ c : Int, c ≠ 1 → ∀ i, G' c i = G c i) → cT1 (0, T.2) G' → Q (T.1 : Int) G') : sg_Wp 0 N d m_T_clear 0 [(0, 2, 1)] [] G Q := by
  obtain ⟨c0, c1, c3, cb⟩ := id cT
  refine g_T_clear_1_0 hN ?_
  rw [c3]
  exact post _ (fun c h i => by simp (disch := omega) only [sg_up_at, sg_upc, sg_upi]) ⟨by simp (disch := omega) only [sg_up_at, sg_upc, sg_upi]; exact c0, by simp (disch := omega) only [sg_up_at, sg_upc, sg_upi]; exact c1, by simp (disch := omega) only [sg_up_at, sg_upc, sg_upi]; rfl, fun i hi => absurd hi (Nat.not_lt_zero _)⟩
theorem c_T_dropLast_1 {d N : Nat} (hN : 44 ≤ N) {T : TT} (hT : TTok 23 T) {G : SgM} {Q : Int → SgM → Prop} (cT : cT1 T G)
    (post : (T.1 = 0 → Q (-3) G) ∧ (T.1 ≠ 0 → ∀ G', (∀ c : Int, c ≠ 1 → ∀ i, G' c i = G c i) → cT1 (T.1 - 1, T.2) G' → Q ((T.1 - 1 : Nat) : Int) G')) : sg_Wp 0 N d m_T_dropLast 0 [(0, 2, 1)] [] G Q := by
  obtain ⟨c0, c1, c3, cb⟩ := id cT
  have hl := hT.1
  refine g_T_dropLast_1_0 hN ⟨fun q => ?_, fun q => post.1 (by rw [c3] at q; omega)⟩
  rw [c3] at q
  have e : sg_isub (T.1 : Int) 1 = ((T.1 - 1 : Nat) : Int) := by rw [sg_isub_eq (by omega) (by omega)]; omega
  rw [sg_up_at, c3, e]
  exact post.2 (by omega) _ (fun c h i => by simp (disch := omega) only [sg_up_at, sg_upc, sg_upi]) ⟨by simp (disch := omega) only [sg_up_at, sg_upc, sg_upi]; exact c0, by simp (disch := omega) only [sg_up_at, sg_upc, sg_upi]; exact c1, by simp (disch := omega) only [sg_up_at, sg_upc, sg_upi], fun i hi => by simp (disch := omega) only [sg_up_at, sg_upc, sg_upi]; have hi : i < T.1 - 1 := hi; exact cb i (by omega)⟩

/-- text 3 in the memory -/
def cT3 (T : TT) (G : SgM) : Prop := G 3 0 = 0 ∧ G 3 1 = 5 ∧ G 3 3 = (T.1 : Int) ∧ ∀ i : Nat, i < T.1 → G 4 i = T.2 i
theorem c_T_firstFault_3 {d N : Nat} (hN : 44 ≤ N) {T : TT} (hT : TTok 29 T) {G : SgM} {Q : Int → SgM → Prop} (cT : cT3 T G) (post : Q (tt_flt sg_qof 5 T) G) : sg_Wp 0 N (d + 4) m_T_firstFault 0 [(0, 2, 3)] [] G Q := by
  obtain ⟨c0, c1, c3, cb⟩ := cT
  obtain ⟨hl, hb⟩ := hT
  have e2 : sg_isub 5 1 = 4 := by decide +kernel
  have loop : ∀ (r i : Nat), i + r = T.1 → td_least (tt_bad sg_qof 5 T) i = -1 → sg_Wp 0 N (d + 4) m_T_firstFault 4 [(0, 2, 3), (1, 0, ((i % 5 : Nat) : Int)), (2, 0, (i : Int))] [] G Q := by
    intro r
    induction r with
    | zero =>
      intro i hi h0
      have ei : i = T.1 := by omega
      subst ei
      unfold tt_flt at post
      rw [if_pos h0] at post
      refine g_T_firstFault_3_4 hN ⟨fun _ => ⟨fun q => ?_, fun q => ⟨fun q2 => ?_, fun q2 => ?_⟩⟩, fun q => absurd (by rw [c3]; omega) q⟩
      · rw [c3] at q
        rw [if_pos (Or.inl (by omega))] at post
        exact post
      · rw [c3] at q ⊢
        rw [c1, e2] at q2
        rw [if_neg (by omega)] at post
        exact post
      · rw [c1, e2] at q2
        rw [if_pos (Or.inr (by omega))] at post
        exact post
    | succ r ih =>
      intro i hi h0
      have hlt : i < T.1 := by omega
      obtain ⟨x1, x2, x3⟩ := tt_ixQ (hb i hlt) (k := i % 5) (by omega)
      have en := sg_inc1 i (by omega)
      have en2 := sg_inc1 (i % 5) (by omega)
      refine g_T_firstFault_3_4 hN ⟨fun q => absurd q (by rw [c3]; omega), fun _ => ⟨c0, by omega, x1, x1, fun q => ⟨fun q2 => ?_, fun q2 => ?_⟩, fun q => ?_⟩⟩
      · rw [cb i hlt, x2] at q
        have ih := ih (i + 1) (by omega) (by rw [td_least_s, if_pos h0, if_neg (by unfold tt_bad; simpa using q)])
        rw [c1, en2] at q2
        rw [show (i + 1) % 5 = 0 by omega] at ih
        rw [en]
        exact ih
      · rw [cb i hlt, x2] at q
        have ih := ih (i + 1) (by omega) (by rw [td_least_s, if_pos h0, if_neg (by unfold tt_bad; simpa using q)])
        rw [c1, en2] at q2
        rw [show (i + 1) % 5 = i % 5 + 1 by omega] at ih
        rw [en, en2]
        exact ih
      · rw [cb i hlt, x2] at q
        have q : sg_qof ((i % 5 : Nat) : Int) (T.2 i) = -9 := Decidable.not_not.mp q
        have e : td_least (tt_bad sg_qof 5 T) T.1 = (i : Int) := td_least_of hlt (by unfold tt_bad; simpa using q) (td_least_none h0)
        unfold tt_flt at post
        rw [e, if_neg (by omega)] at post
        exact post
  exact g_T_firstFault_3_0 hN (loop T.1 0 (Nat.zero_add _) rfl)
theorem c_T_things_3 {d N : Nat} (hN : 44 ≤ N) {T : TT} (hT : TTok 29 T) {G : SgM} {Q : Int → SgM → Prop} (cT : cT3 T G) (post : Q (tt_n sg_qof 5 T : Int) G) : sg_Wp 0 N (d + 5) m_T_things 0 [(0, 2, 3)] [] G Q := by
  obtain ⟨c0, c1, c3, cb⟩ := id cT
  have hl := hT.1
  refine g_T_things_3_0 hN ⟨fun q => absurd q (by rw [c1]; omega), fun _ => c_T_firstFault_3 hN hT cT ⟨fun q => ?_, fun q => ⟨by rw [c1]; omega, ?_⟩⟩⟩
  · unfold tt_n at post
    rw [if_neg q] at post
    exact post
  · unfold tt_n at post
    rw [if_pos (Decidable.not_not.mp q)] at post
    rw [c3, c1, sg_iadd_eq (by omega) (by omega), sg_idiv_eq (by omega) (by omega) (by omega) (by omega)]
    have e : ((T.1 : Int) + 1) / 5 = (((T.1 + 1) / 5 : Nat) : Int) := by omega
    rw [e]
    exact post
/-- byte j of thing i of a good text -/
theorem c_T_number_3 {d N : Nat} (hN : 44 ≤ N) {T : TT} (hT : TTok 29 T) {i j : Nat} (hi : i < tt_n sg_qof 5 T) (hj : j < 4) {G : SgM} {Q : Int → SgM → Prop} (cT : cT3 T G) (post : Q (if j = 3 then sg_qof (j : Int) (T.2 (5 * i + j)) - 1 else sg_qof (j : Int) (T.2 (5 * i + j))) G) : sg_Wp 0 N (d + 4) m_T_number 0 [(0, 2, 3), (1, 0, (i : Int)), (2, 0, (j : Int))] [] G Q := by
  obtain ⟨c0, c1, c3, cb⟩ := id cT
  have hl := hT.1
  unfold tt_n at hi
  by_cases e : tt_flt sg_qof 5 T = -1
  · rw [if_pos e] at hi
    have r := (tt_none e).2
    have hlt : 5 * i + j < T.1 := by omega
    have g := tt_good e hlt
    rw [show (5 * i + j) % 5 = j by omega] at g
    obtain ⟨x1, x2, x3⟩ := tt_ixQ (hT.2 _ hlt) (k := j) (by omega)
    have ea : sg_iadd (sg_imul (i : Int) (G 3 1)) (j : Int) = ((5 * i + j : Nat) : Int) := by rw [c1, sg_imul_eq (by omega) (by omega), sg_iadd_eq (by omega) (by omega)]; omega
    refine g_T_number_3_0 hN ⟨fun q => ⟨c0, by rw [ea]; omega, x1, x1, ?_⟩, fun q => absurd (by rw [ea, c3]; omega) q⟩
    rw [ea, cb _ hlt, x3 g]
    exact post
  · rw [if_neg e] at hi
    omega
theorem c_T_add_3 {d N : Nat} (hN : 44 ≤ N) {T : TT} (hT : TTok 29 T) {x : Int} {G : SgM} {Q : Int → SgM → Prop} (cT : cT3 T G)
    (post : (T.1 = 29 → Q (-4) G) ∧ (T.1 < 29 → ∀ G', (∀ c : Int, c ≠ 3 → c ≠ 4 → ∀ i, G' c i = G c i) → cT3 (T.1 + 1, fun i => if i = T.1 then x else T.2 i) G' → Q ((T.1 + 1 : Nat) : Int) G')) : sg_Wp 0 N d m_T_add 0 [(0, 2, 3), (1, 0, x)] [] G Q := by
  obtain ⟨c0, c1, c3, cb⟩ := id cT
  have hl := hT.1
  refine g_T_add_3_0 hN ⟨fun q => ⟨by rw [c3] at q ⊢; omega, ?_⟩, fun q => post.1 (by rw [c3] at q; omega)⟩
  rw [c3] at q
  rw [c3, sg_up_at, sg_inc1 _ (by omega)]
  refine post.2 (by omega) _ (fun c h1 h2 i => by simp (disch := omega) only [sg_up_at, sg_upc, sg_upi]) ⟨by simp (disch := omega) only [sg_up_at, sg_upc, sg_upi]; exact c0, by simp (disch := omega) only [sg_up_at, sg_upc, sg_upi]; exact c1, by simp (disch := omega) only [sg_up_at, sg_upc, sg_upi], fun i hi => ?_⟩
  by_cases e : i = T.1
  · subst e
    simp (disch := omega) only [sg_up_at, sg_upc, sg_upi]
    simp
  · simp (disch := omega) only [sg_up_at, sg_upc, sg_upi]
    have hi : i < T.1 + 1 := hi
    rw [cb i (by omega)]
    simp [e]
theorem c_T_clear_3 {d N : Nat} (hN : 44 ≤ N) {T : TT} {G : SgM} {Q : Int → SgM → Prop} (cT : cT3 T G)
    (post : ∀ G', (∀ c : Int, c ≠ 3 → ∀ i, G' c i = G c i) → cT3 (0, T.2) G' → Q (T.1 : Int) G') : sg_Wp 0 N d m_T_clear 0 [(0, 2, 3)] [] G Q := by
  obtain ⟨c0, c1, c3, cb⟩ := id cT
  refine g_T_clear_3_0 hN ?_
  rw [c3]
  exact post _ (fun c h i => by simp (disch := omega) only [sg_up_at, sg_upc, sg_upi]) ⟨by simp (disch := omega) only [sg_up_at, sg_upc, sg_upi]; exact c0, by simp (disch := omega) only [sg_up_at, sg_upc, sg_upi]; exact c1, by simp (disch := omega) only [sg_up_at, sg_upc, sg_upi]; rfl, fun i hi => absurd hi (Nat.not_lt_zero _)⟩
theorem c_T_dropLast_3 {d N : Nat} (hN : 44 ≤ N) {T : TT} (hT : TTok 29 T) {G : SgM} {Q : Int → SgM → Prop} (cT : cT3 T G)
    (post : (T.1 = 0 → Q (-3) G) ∧ (T.1 ≠ 0 → ∀ G', (∀ c : Int, c ≠ 3 → ∀ i, G' c i = G c i) → cT3 (T.1 - 1, T.2) G' → Q ((T.1 - 1 : Nat) : Int) G')) : sg_Wp 0 N d m_T_dropLast 0 [(0, 2, 3)] [] G Q := by
  obtain ⟨c0, c1, c3, cb⟩ := id cT
  have hl := hT.1
  refine g_T_dropLast_3_0 hN ⟨fun q => ?_, fun q => post.1 (by rw [c3] at q; omega)⟩
  rw [c3] at q
  have e : sg_isub (T.1 : Int) 1 = ((T.1 - 1 : Nat) : Int) := by rw [sg_isub_eq (by omega) (by omega)]; omega
  rw [sg_up_at, c3, e]
  exact post.2 (by omega) _ (fun c h i => by simp (disch := omega) only [sg_up_at, sg_upc, sg_upi]) ⟨by simp (disch := omega) only [sg_up_at, sg_upc, sg_upi]; exact c0, by simp (disch := omega) only [sg_up_at, sg_upc, sg_upi]; exact c1, by simp (disch := omega) only [sg_up_at, sg_upc, sg_upi], fun i hi => by simp (disch := omega) only [sg_up_at, sg_upc, sg_upi]; have hi : i < T.1 - 1 := hi; exact cb i (by omega)⟩
