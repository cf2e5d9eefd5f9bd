/-! THE REFERENCE: heard by -/
theorem sg_dec1 (m : Nat) (hm : m < 1000000) : sg_iadd (m : Int) (-1) = (m : Int) - 1 := by
  rw [sg_iadd_eq (by omega) (by omega)]
  exact Int.sub_eq_add_neg.symm
theorem c_M_heardBy {d : Nat} {W : TW} {Y : TY} (hW : TWok W) {h q : Nat} (hq : q < tw_n W) {G : SgM} {Q : Int → SgM → Prop} (cw : cm_W W G) (cc : ∀ p : Nat, p < tw_k W → G 210 p = td_c W h p) (cs : ∀ p : Nat, p < tw_k W → G 213 p = td_one (td_sn W Y h p))
    (post : Q (td_who W Y h q) G) : sg_Wp 200 228 (d + 2) m_M_heardBy 0 [(0, 2, 200), (1, 0, (q : Int))] [] G Q := by
  have hn := hW.1
  have hk := hW.2.1
  have bq := hW.2.2.1 q hq
  obtain ⟨⟨p0, p1⟩, q0, q1⟩ := cw
  have xq := p1 q hq
  have e2 : sg_imul 2 (q : Int) = 2 * (q : Int) := sg_imul_eq (by omega) (by omega)
  have e21 : sg_iadd (sg_imul 2 (q : Int)) 1 = 2 * (q : Int) + 1 := by rw [e2, sg_iadd_eq (by omega) (by omega)]
  have loop : ∀ (m : Nat), m ≤ tw_k W → ∀ v : Int, ((v = -1 ∧ ∀ p : Nat, m ≤ p → p < tw_k W → td_hs W Y h q p = false) ∨ (∃ p : Nat, m ≤ p ∧ p < tw_k W ∧ v = (p : Int) ∧ td_hs W Y h q p = true ∧ ∀ j : Nat, m ≤ j → j < p → td_hs W Y h q j = false)) →
      sg_Wp 200 228 (d + 2) m_M_heardBy 9 [(0, 2, 200), (1, 0, (q : Int)), (2, 0, v), (3, 0, (m : Int) - 1)] [] G Q := by
    intro m
    induction m with
    | zero =>
      intro hm v hv
      refine g_M_heardBy_9 ⟨fun _ => ?_, fun z => absurd (by omega) z⟩
      rcases hv with ⟨e, f⟩ | ⟨p, x1, x2, x3, x4, x5⟩
      · have : td_who W Y h q = -1 := td_least_of_none (fun i hi => f i (Nat.zero_le _) hi)
        rw [this] at post
        rw [e]; exact post
      · have : td_who W Y h q = (p : Int) := td_least_of x2 x4 (fun i hi => x5 i (Nat.zero_le _) hi)
        rw [this] at post
        rw [x3]; exact post
    | succ m ih =>
      intro hm v hv
      have hm' : m < tw_k W := by omega
      have em : ((m + 1 : Nat) : Int) - 1 = (m : Int) := by omega
      rw [em]
      have bw := hW.2.2.2 m hm'
      have xm := q1 m hm'
      have bc : 0 ≤ td_c W h m ∧ td_c W h m ≤ 9 := (td_pos_in (ce := tw_ce W m) (wy := tw_wy W m) (by omega) (by omega) h).1
      have bd : 0 ≤ tw_dist (td_c W h m) (tw_pc W q) ∧ tw_dist (td_c W h m) (tw_pc W q) ≤ 9 := by unfold tw_dist; split <;> omega
      have e4 : sg_imul 4 (m : Int) = 4 * (m : Int) := sg_imul_eq (by omega) (by omega)
      have hm6 : m < 1000000 := by omega
      have no : td_hs W Y h q m = false → sg_Wp 200 228 (d + 2) m_M_heardBy 94 [(0, 2, 200), (1, 0, (q : Int)), (2, 0, v), (3, 0, (m : Int))] [] G Q := fun f => by
        refine g_M_heardBy_94 ?_
        rw [sg_dec1 m hm6]
        refine ih (Nat.le_of_lt hm') v (hv.elim (fun y => Or.inl ⟨y.1, fun p h1 h2 => ?_⟩) (fun ⟨p, x1, x2, x3, x4, x5⟩ => Or.inr ⟨p, Nat.le_of_succ_le x1, x2, x3, x4, fun j h1 h2 => ?_⟩))
        · by_cases e : p = m
          · subst e; exact f
          · exact y.2 p (Nat.lt_of_le_of_ne h1 (fun z => e z.symm)) h2
        · by_cases e : j = m
          · subst e; exact f
          · exact x5 j (Nat.lt_of_le_of_ne h1 (fun z => e z.symm)) h2
      have yes : td_hs W Y h q m = true → sg_Wp 200 228 (d + 2) m_M_heardBy 9 [(0, 2, 200), (1, 0, (q : Int)), (2, 0, (m : Int)), (3, 0, sg_iadd (m : Int) (-1))] [] G Q := fun f => by
        rw [sg_dec1 m hm6]
        exact ih (Nat.le_of_lt hm') (m : Int) (Or.inr ⟨m, Nat.le_refl m, hm', rfl, f, fun j h1 h2 => absurd h2 (Nat.not_lt.mpr h1)⟩)
      have leaf : ∀ L : Int, (0 ≤ L ∧ L ≤ 7) → L = tw_loud (tw_so W m) → ((0 ≤ (m : Int) ∧ (m : Int) < 6) ∧ ((G 213 m = 0 → sg_Wp 200 228 (d + 2) m_M_heardBy 94 [(0, 2, 200), (1, 0, (q : Int)), (2, 0, v), (3, 0, (m : Int))] [] G Q) ∧ (¬ (G 213 m = 0) → ((0 ≤ (m : Int) ∧ (m : Int) < 6) ∧ (0 ≤ (sg_imul 2 (q : Int)) ∧ (sg_imul 2 (q : Int)) < 16) ∧ ((0 ≤ (sg_iadd (sg_imul 2 (q : Int)) 1) ∧ (sg_iadd (sg_imul 2 (q : Int)) 1) < 16) ∧
          (((sg_isub L (sg_apt (G 210 m) (G 207 (sg_imul 2 (q : Int))))) < (G 207 (sg_iadd (sg_imul 2 (q : Int)) 1)) → sg_Wp 200 228 (d + 2) m_M_heardBy 94 [(0, 2, 200), (1, 0, (q : Int)), (2, 0, v), (3, 0, (m : Int))] [] G Q) ∧ (¬ ((sg_isub L (sg_apt (G 210 m) (G 207 (sg_imul 2 (q : Int))))) < (G 207 (sg_iadd (sg_imul 2 (q : Int)) 1))) → sg_Wp 200 228 (d + 2) m_M_heardBy 9 [(0, 2, 200), (1, 0, (q : Int)), (2, 0, (m : Int)), (3, 0, sg_iadd (m : Int) (-1))] [] G Q))))))) := by
        intro L hL eL
        have ev : sg_isub L (sg_apt (G 210 m) (G 207 (sg_imul 2 (q : Int)))) = tw_loud (tw_so W m) - tw_dist (td_c W h m) (tw_pc W q) := by
          rw [cc m hm', e2, xq.1, sg_apt_eq bc (by omega), ← eL, sg_isub_eq (by omega) (by omega)]
        refine ⟨by omega, fun z => no ?_, fun z => ⟨by omega, by rw [e2]; omega, by rw [e21]; omega, fun y => no ?_, fun y => yes ?_⟩⟩
        · rw [cs m hm'] at z
          unfold td_hs
          rw [td_one0.mp z, Bool.false_and]
        · rw [ev, e21, xq.2] at y
          unfold td_hs td_hear
          rw [decide_eq_false (by omega), Bool.and_false]
        · rw [cs m hm'] at z
          rw [ev, e21, xq.2] at y
          unfold td_hs td_hear
          rw [decide_eq_true (by omega), Bool.and_true]
          exact td_one_n z
      refine g_M_heardBy_9 ⟨fun z => absurd z (by omega), fun _ => ⟨by rw [e4]; omega, fun z => ⟨by rw [e4]; omega, fun z2 => ?_, fun z2 => ?_⟩, fun z => ?_⟩⟩
      · rw [e4, xm.1] at z z2
        exact leaf 7 (by omega) (by unfold tw_loud; rw [if_neg z, if_neg z2])
      · rw [e4, xm.1] at z z2
        exact leaf 4 (by omega) (by unfold tw_loud; rw [if_neg z, if_pos (Decidable.not_not.mp z2)])
      · rw [e4, xm.1] at z
        exact leaf 2 (by omega) (by unfold tw_loud; rw [if_pos (Decidable.not_not.mp z)])
  refine g_M_heardBy_0 ?_
  rw [q0, sg_isub_eq (by omega) (by omega)]
  exact loop (tw_k W) (Nat.le_refl _) (-1) (Or.inl ⟨rfl, fun p h1 h2 => by omega⟩)
