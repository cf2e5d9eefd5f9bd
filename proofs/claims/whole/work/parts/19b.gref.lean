/-! CUT LEMMAS, printed by a program -/
set_option maxRecDepth 100000 in
theorem g_M_at_0 {d : Nat} {v1 v2 v3 : Int} {G : SgM} {Q : Int → SgM → Prop} (h : sg_Wp 200 228 (d + 1) m_M_find 0 [(0, 2, 200)] [] G (fun r1 G1 => ((0 ≤ v1 ∧ v1 ≤ 23) → (sg_Wp 200 228 (d + 1) m_M_isPerson 0 [(0, 2, 200), (1, 0, v2)] [] G1 (fun r2 G2 => (r2 = 0 → (Q ((-2)) G2)) ∧ (¬ (r2 = 0) → (((0 ≤ v3 ∧ v3 ≤ 3) → (sg_Wp 200 228 (d + 1) m_M_atBy 0 [(0, 2, 200), (1, 0, v1), (2, 0, v2), (3, 0, v3)] [] G2 (fun r3 G3 => Q r3 G3))) ∧ (¬ (0 ≤ v3 ∧ v3 ≤ 3) → (Q ((-2)) G2))))))) ∧ (¬ (0 ≤ v1 ∧ v1 ≤ 23) → (Q ((-2)) G1)))) : sg_Wp 200 228 (d + 2) m_M_at 0 [(0, 2, 200), (1, 0, v1), (2, 0, v2), (3, 0, v3)] [] G Q := by
  refine sg_blk [(1, 0, 0, 0, 0)] (by decide +kernel) ?_
  refine And.intro (Nat.le_of_ble_eq_true rfl) (?_)
  show sg_Wp 200 228 (d + 2) m_M_at 1 [(0, 2, 200), (1, 0, v1), (2, 0, v2), (3, 0, v3)] [(2, 200)] G Q
  refine sg_callV (k := (d + 1)) (y' := m_M_find) (av := []) (rest := []) (b := 200) (by decide +kernel) cv_M_find ml_11_217 ce_200 rfl rfl (Nat.le_of_ble_eq_true rfl) (Nat.lt_succ_self (d + 1)) (Nat.le_of_ble_eq_true rfl) rfl ?_
  show sg_Wp 200 228 (d + 1) m_M_find 0 [(0, 2, 200)] [] G _
  refine sg_Wp.mono h (fun r1 G1 hhr1 => ?_)
  show sg_Wp 200 228 (d + 2) m_M_at 4 [(0, 2, 200), (1, 0, v1), (2, 0, v2), (3, 0, v3)] [] G1 Q
  refine sg_blk [(3, 0, 0, 1, 0)] (by decide +kernel) ?_
  refine And.intro rfl (?_)
  show sg_Wp 200 228 (d + 2) m_M_at 5 [(0, 2, 200), (1, 0, v1), (2, 0, v2), (3, 0, v3)] [(0, v1)] G1 Q
  refine sg_callS (k := (d + 1)) (y' := m_M_isHour) (av := [(0, v1)]) (rest := []) (by decide +kernel) cs_M_isHour ml_11_167 rfl (Nat.le_of_ble_eq_true rfl) (Nat.lt_succ_self (d + 1)) (Nat.le_of_ble_eq_true rfl) rfl ?_
  show sg_Wp 200 228 (d + 1) m_M_isHour 0 [(0, 0, v1)] [] G1 _
  refine s_M_isHour ?_
  show sg_Wp 200 228 (d + 2) m_M_at 8 [(0, 2, 200), (1, 0, v1), (2, 0, v2), (3, 0, v3)] [(0, sg_bo (0 ≤ v1 ∧ v1 ≤ 23))] G1 Q
  refine sg_bif_eq (off := 33) (tgt := 41) (by decide +kernel) (by decide) ⟨fun q3 => ?_, fun q3 => ?_⟩
  · refine sg_blk [(1, 0, 0, 0, 0), (3, 0, 0, 2, 0)] (by decide +kernel) ?_
    refine And.intro (Nat.le_of_ble_eq_true rfl) (And.intro rfl (?_))
    show sg_Wp 200 228 (d + 2) m_M_at 13 [(0, 2, 200), (1, 0, v1), (2, 0, v2), (3, 0, v3)] [(0, v2), (2, 200)] G1 Q
    refine sg_callV (k := (d + 1)) (y' := m_M_isPerson) (av := [(0, v2)]) (rest := []) (b := 200) (by decide +kernel) cv_M_isPerson ml_11_161 ce_200 rfl rfl (Nat.le_of_ble_eq_true rfl) (Nat.lt_succ_self (d + 1)) (Nat.le_of_ble_eq_true rfl) rfl ?_
    show sg_Wp 200 228 (d + 1) m_M_isPerson 0 [(0, 2, 200), (1, 0, v2)] [] G1 _
    refine sg_Wp.mono ((hhr1.1 q3)) (fun r2 G2 hhr2 => ?_)
    show sg_Wp 200 228 (d + 2) m_M_at 16 [(0, 2, 200), (1, 0, v1), (2, 0, v2), (3, 0, v3)] [(0, r2)] G2 Q
    refine sg_if_eq (off := 25) (tgt := 41) (by decide +kernel) (by decide) ⟨fun q2 => ?_, fun q2 => ?_⟩
    · refine sg_blk [(8, (-2), 0, 0, 0)] (by decide +kernel) ?_
      refine And.intro rfl (And.intro rfl (?_))
      show sg_Wp 200 228 (d + 2) m_M_at 43 [(0, 2, 200), (1, 0, v1), (2, 0, v2), (3, 0, v3)] [(0, (-2))] G2 Q
      exact sg_ret (by decide +kernel) rfl (Or.inl rfl) ((hhr2.1 q2))
    · refine sg_blk [(3, 0, 0, 3, 0), (53, 0, 0, 0, 0), (10, 0, 0, 0, 0), (12, 3, 0, 105, 0)] (by decide +kernel) ?_
      refine And.intro rfl (And.intro rfl (?_))
      show sg_Wp 200 228 (d + 2) m_M_at 25 [(0, 2, 200), (1, 0, v1), (2, 0, v2), (3, 0, v3)] [(1, 3), (1, 0), (1, v3)] G2 Q
      refine sg_callS (k := (d + 1)) (y' := m_M_in) (av := [(1, v3), (1, 0), (1, 3)]) (rest := []) (by decide +kernel) cs_M_in ml_11_98 rfl (Nat.le_of_ble_eq_true rfl) (Nat.lt_succ_self (d + 1)) (Nat.le_of_ble_eq_true rfl) rfl ?_
      show sg_Wp 200 228 (d + 1) m_M_in 0 [(0, 1, v3), (2, 1, 0), (4, 1, 3)] [] G2 _
      refine s_M_in ?_
      show sg_Wp 200 228 (d + 2) m_M_at 28 [(0, 2, 200), (1, 0, v1), (2, 0, v2), (3, 0, v3)] [(0, sg_bo (0 ≤ v3 ∧ v3 ≤ 3))] G2 Q
      refine sg_bif_eq (off := 13) (tgt := 41) (by decide +kernel) (by decide) ⟨fun q1 => ?_, fun q1 => ?_⟩
      · refine sg_blk [(1, 0, 0, 0, 0), (3, 0, 0, 1, 0), (3, 0, 0, 2, 0), (3, 0, 0, 3, 0)] (by decide +kernel) ?_
        refine And.intro (Nat.le_of_ble_eq_true rfl) (And.intro rfl (And.intro rfl (And.intro rfl (?_))))
        show sg_Wp 200 228 (d + 2) m_M_at 35 [(0, 2, 200), (1, 0, v1), (2, 0, v2), (3, 0, v3)] [(0, v3), (0, v2), (0, v1), (2, 200)] G2 Q
        refine sg_callV (k := (d + 1)) (y' := m_M_atBy) (av := [(0, v1), (0, v2), (0, v3)]) (rest := []) (b := 200) (by decide +kernel) cv_M_atBy ml_11_220 ce_200 rfl rfl (Nat.le_of_ble_eq_true rfl) (Nat.lt_succ_self (d + 1)) (Nat.le_of_ble_eq_true rfl) rfl ?_
        show sg_Wp 200 228 (d + 1) m_M_atBy 0 [(0, 2, 200), (1, 0, v1), (2, 0, v2), (3, 0, v3)] [] G2 _
        refine sg_Wp.mono (((hhr2.2 q2).1 q1)) (fun r3 G3 hhr3 => ?_)
        show sg_Wp 200 228 (d + 2) m_M_at 38 [(0, 2, 200), (1, 0, v1), (2, 0, v2), (3, 0, v3)] [(0, r3)] G3 Q
        refine sg_goto (off := 5) (tgt := 43) (by decide +kernel) (by decide) ?_
        exact sg_ret (by decide +kernel) rfl (Or.inl rfl) hhr3
      · refine sg_blk [(8, (-2), 0, 0, 0)] (by decide +kernel) ?_
        refine And.intro rfl (And.intro rfl (?_))
        show sg_Wp 200 228 (d + 2) m_M_at 43 [(0, 2, 200), (1, 0, v1), (2, 0, v2), (3, 0, v3)] [(0, (-2))] G2 Q
        exact sg_ret (by decide +kernel) rfl (Or.inl rfl) (((hhr2.2 q2).2 q1))
  · refine sg_blk [(8, (-2), 0, 0, 0)] (by decide +kernel) ?_
    refine And.intro rfl (And.intro rfl (?_))
    show sg_Wp 200 228 (d + 2) m_M_at 43 [(0, 2, 200), (1, 0, v1), (2, 0, v2), (3, 0, v3)] [(0, (-2))] G1 Q
    exact sg_ret (by decide +kernel) rfl (Or.inl rfl) ((hhr1.2 q3))
set_option maxRecDepth 100000 in
theorem g_M_atBy_0 {d : Nat} {v1 v2 v3 : Int} {G : SgM} {Q : Int → SgM → Prop} (h : (v3 ≠ 0 → ((v3 ≠ 1 → ((v3 ≠ 2 → ((0 ≤ (sg_iadd (sg_imul 8 v1) v2) ∧ (sg_iadd (sg_imul 8 v1) v2) < 192) ∧ (Q (G 221 (sg_iadd (sg_imul 8 v1) v2)) G))) ∧ (¬ (v3 ≠ 2) → ((0 ≤ (sg_iadd (sg_imul 8 v1) v2) ∧ (sg_iadd (sg_imul 8 v1) v2) < 192) ∧ (Q (G 220 (sg_iadd (sg_imul 8 v1) v2)) G))))) ∧ (¬ (v3 ≠ 1) → ((0 ≤ (sg_iadd (sg_imul 8 v1) v2) ∧ (sg_iadd (sg_imul 8 v1) v2) < 192) ∧ (Q (G 219 (sg_iadd (sg_imul 8 v1) v2)) G))))) ∧ (¬ (v3 ≠ 0) → ((0 ≤ (sg_iadd (sg_imul 8 v1) v2) ∧ (sg_iadd (sg_imul 8 v1) v2) < 192) ∧ (Q (G 218 (sg_iadd (sg_imul 8 v1) v2)) G)))) : sg_Wp 200 228 d m_M_atBy 0 [(0, 2, 200), (1, 0, v1), (2, 0, v2), (3, 0, v3)] [] G Q := by
  refine sg_blk [(8, 8, 0, 0, 0), (3, 0, 0, 1, 0), (34, 0, 0, 0, 0), (3, 0, 0, 2, 0), (32, 0, 0, 0, 0), (26, 0, 0, 4, 0), (3, 0, 0, 3, 0)] (by decide +kernel) ?_
  refine And.intro rfl (And.intro rfl (And.intro rfl (And.intro rfl (And.intro rfl (And.intro rfl (?_))))))
  show sg_Wp 200 228 d m_M_atBy 9 [(0, 2, 200), (1, 0, v1), (2, 0, v2), (3, 0, v3), (4, 0, sg_iadd (sg_imul 8 v1) v2)] [(0, v3)] G Q
  refine sg_if_ne (off := 13) (tgt := 22) (by decide +kernel) (by decide) ⟨fun q3 => ?_, fun q3 => ?_⟩
  · refine sg_blk [(3, 0, 0, 3, 0), (7, 1, 0, 0, 0)] (by decide +kernel) ?_
    refine And.intro rfl (And.intro rfl (?_))
    show sg_Wp 200 228 d m_M_atBy 24 [(0, 2, 200), (1, 0, v1), (2, 0, v2), (3, 0, v3), (4, 0, sg_iadd (sg_imul 8 v1) v2)] [(0, 1), (0, v3)] G Q
    refine sg_icmp_ne (off := 13) (tgt := 37) (by decide +kernel) (by decide) ⟨fun q2 => ?_, fun q2 => ?_⟩
    · refine sg_blk [(3, 0, 0, 3, 0), (7, 2, 0, 0, 0)] (by decide +kernel) ?_
      refine And.intro rfl (And.intro rfl (?_))
      show sg_Wp 200 228 d m_M_atBy 39 [(0, 2, 200), (1, 0, v1), (2, 0, v2), (3, 0, v3), (4, 0, sg_iadd (sg_imul 8 v1) v2)] [(0, 2), (0, v3)] G Q
      refine sg_icmp_ne (off := 13) (tgt := 52) (by decide +kernel) (by decide) ⟨fun q1 => ?_, fun q1 => ?_⟩
      · refine sg_blk [(1, 0, 0, 0, 0), (65, 221, 11, 71, 28), (4, 0, 0, 4, 0), (17, 192, 0, 0, 0)] (by decide +kernel) ?_
        refine And.intro (Nat.le_of_ble_eq_true rfl) (And.intro ce_200 (And.intro rr_200_28 (And.intro rfl (And.intro ce_221 (And.intro (((h.1 q3).1 q2).1 q1).1 (?_))))))
        show sg_Wp 200 228 d m_M_atBy 59 [(0, 2, 200), (1, 0, v1), (2, 0, v2), (3, 0, v3), (4, 0, sg_iadd (sg_imul 8 v1) v2)] [(0, G 221 (sg_iadd (sg_imul 8 v1) v2))] G Q
        exact sg_ret (by decide +kernel) rfl (Or.inl rfl) ((((h.1 q3).1 q2).1 q1).2)
      · refine sg_blk [(1, 0, 0, 0, 0), (65, 220, 11, 68, 27), (4, 0, 0, 4, 0), (17, 192, 0, 0, 0)] (by decide +kernel) ?_
        refine And.intro (Nat.le_of_ble_eq_true rfl) (And.intro ce_200 (And.intro rr_200_27 (And.intro rfl (And.intro ce_220 (And.intro (((h.1 q3).1 q2).2 q1).1 (?_))))))
        show sg_Wp 200 228 d m_M_atBy 49 [(0, 2, 200), (1, 0, v1), (2, 0, v2), (3, 0, v3), (4, 0, sg_iadd (sg_imul 8 v1) v2)] [(0, G 220 (sg_iadd (sg_imul 8 v1) v2))] G Q
        refine sg_goto (off := 10) (tgt := 59) (by decide +kernel) (by decide) ?_
        exact sg_ret (by decide +kernel) rfl (Or.inl rfl) ((((h.1 q3).1 q2).2 q1).2)
    · refine sg_blk [(1, 0, 0, 0, 0), (65, 219, 11, 65, 26), (4, 0, 0, 4, 0), (17, 192, 0, 0, 0)] (by decide +kernel) ?_
      refine And.intro (Nat.le_of_ble_eq_true rfl) (And.intro ce_200 (And.intro rr_200_26 (And.intro rfl (And.intro ce_219 (And.intro ((h.1 q3).2 q2).1 (?_))))))
      show sg_Wp 200 228 d m_M_atBy 34 [(0, 2, 200), (1, 0, v1), (2, 0, v2), (3, 0, v3), (4, 0, sg_iadd (sg_imul 8 v1) v2)] [(0, G 219 (sg_iadd (sg_imul 8 v1) v2))] G Q
      refine sg_goto (off := 25) (tgt := 59) (by decide +kernel) (by decide) ?_
      exact sg_ret (by decide +kernel) rfl (Or.inl rfl) (((h.1 q3).2 q2).2)
  · refine sg_blk [(1, 0, 0, 0, 0), (65, 218, 11, 62, 25), (4, 0, 0, 4, 0), (17, 192, 0, 0, 0)] (by decide +kernel) ?_
    refine And.intro (Nat.le_of_ble_eq_true rfl) (And.intro ce_200 (And.intro rr_200_25 (And.intro rfl (And.intro ce_218 (And.intro (h.2 q3).1 (?_))))))
    show sg_Wp 200 228 d m_M_atBy 19 [(0, 2, 200), (1, 0, v1), (2, 0, v2), (3, 0, v3), (4, 0, sg_iadd (sg_imul 8 v1) v2)] [(0, G 218 (sg_iadd (sg_imul 8 v1) v2))] G Q
    refine sg_goto (off := 40) (tgt := 59) (by decide +kernel) (by decide) ?_
    exact sg_ret (by decide +kernel) rfl (Or.inl rfl) ((h.2 q3).2)
set_option maxRecDepth 100000 in
theorem g_M_back_0 {d : Nat} {G : SgM} {Q : Int → SgM → Prop} (h : ((G 200 11) ≠ 0 → (Q ((sg_up G 200 11 (sg_isub (G 200 11) 1)) 200 11) (sg_up G 200 11 (sg_isub (G 200 11) 1)))) ∧ (¬ ((G 200 11) ≠ 0) → (Q ((-3)) G))) : sg_Wp 200 228 d m_M_back 0 [(0, 2, 200)] [] G Q := by
  refine sg_blk [(1, 0, 0, 0, 0), (15, 0, 11, 164, 11)] (by decide +kernel) ?_
  refine And.intro (Nat.le_of_ble_eq_true rfl) (And.intro ce_200 (?_))
  show sg_Wp 200 228 d m_M_back 4 [(0, 2, 200)] [(0, G 200 11)] G Q
  refine sg_if_ne (off := 6) (tgt := 10) (by decide +kernel) (by decide) ⟨fun q1 => ?_, fun q1 => ?_⟩
  · refine sg_blk [(1, 0, 0, 0, 0), (57, 0, 0, 0, 0), (15, 0, 11, 164, 11), (7, 1, 0, 0, 0), (33, 0, 0, 0, 0), (16, 0, 11, 164, 11), (1, 0, 0, 0, 0), (15, 0, 11, 164, 11)] (by decide +kernel) ?_
    refine And.intro (Nat.le_of_ble_eq_true rfl) (And.intro (Nat.ne_of_beq_eq_false rfl) (And.intro ce_200 (And.intro rfl (And.intro ce_200 (And.intro (Nat.le_of_ble_eq_true rfl) (And.intro ce_200 (?_)))))))
    show sg_Wp 200 228 d m_M_back 24 [(0, 2, 200)] [(0, (sg_up G 200 11 (sg_isub (G 200 11) 1)) 200 11)] (sg_up G 200 11 (sg_isub (G 200 11) 1)) Q
    exact sg_ret (by decide +kernel) rfl (Or.inl rfl) ((h.1 q1))
  · refine sg_blk [(8, (-3), 0, 0, 0)] (by decide +kernel) ?_
    refine And.intro rfl (And.intro rfl (?_))
    show sg_Wp 200 228 d m_M_back 9 [(0, 2, 200)] [(0, (-3))] G Q
    exact sg_ret (by decide +kernel) rfl (Or.inl rfl) ((h.2 q1))
set_option maxRecDepth 100000 in
theorem g_M_event_0 {d : Nat} {v1 v2 v3 : Int} {G : SgM} {Q : Int → SgM → Prop} (h : ((0 ≤ v1 ∧ v1 ≤ 2) → (((0 ≤ v2 ∧ v2 ≤ 23) → (((0 ≤ v3 ∧ v3 ≤ 9) → (((G 200 11) ≠ 8 → (sg_Wp 200 228 (d + 1) m_M_keeps 0 [(0, 2, 200), (1, 0, v1), (2, 0, v2), (3, 0, v3)] [] G (fun r1 G1 => Q (G1 200 11) G1))) ∧ (¬ ((G 200 11) ≠ 8) → (Q ((-4)) G)))) ∧ (¬ (0 ≤ v3 ∧ v3 ≤ 9) → (Q ((-2)) G)))) ∧ (¬ (0 ≤ v2 ∧ v2 ≤ 23) → (Q ((-2)) G)))) ∧ (¬ (0 ≤ v1 ∧ v1 ≤ 2) → (Q ((-2)) G))) : sg_Wp 200 228 (d + 2) m_M_event 0 [(0, 2, 200), (1, 0, v1), (2, 0, v2), (3, 0, v3)] [] G Q := by
  refine sg_blk [(3, 0, 0, 1, 0), (53, 0, 0, 0, 0), (10, 0, 0, 0, 0), (12, 2, 0, 111, 0)] (by decide +kernel) ?_
  refine And.intro rfl (And.intro rfl (?_))
  show sg_Wp 200 228 (d + 2) m_M_event 6 [(0, 2, 200), (1, 0, v1), (2, 0, v2), (3, 0, v3)] [(1, 2), (1, 0), (1, v1)] G Q
  refine sg_callS (k := (d + 1)) (y' := m_M_in) (av := [(1, v1), (1, 0), (1, 2)]) (rest := []) (by decide +kernel) cs_M_in ml_11_98 rfl (Nat.le_of_ble_eq_true rfl) (Nat.lt_succ_self (d + 1)) (Nat.le_of_ble_eq_true rfl) rfl ?_
  show sg_Wp 200 228 (d + 1) m_M_in 0 [(0, 1, v1), (2, 1, 0), (4, 1, 2)] [] G _
  refine s_M_in ?_
  show sg_Wp 200 228 (d + 2) m_M_event 9 [(0, 2, 200), (1, 0, v1), (2, 0, v2), (3, 0, v3)] [(0, sg_bo (0 ≤ v1 ∧ v1 ≤ 2))] G Q
  refine sg_bif_eq (off := 22) (tgt := 31) (by decide +kernel) (by decide) ⟨fun q4 => ?_, fun q4 => ?_⟩
  · refine sg_blk [(3, 0, 0, 2, 0)] (by decide +kernel) ?_
    refine And.intro rfl (?_)
    show sg_Wp 200 228 (d + 2) m_M_event 13 [(0, 2, 200), (1, 0, v1), (2, 0, v2), (3, 0, v3)] [(0, v2)] G Q
    refine sg_callS (k := (d + 1)) (y' := m_M_isHour) (av := [(0, v2)]) (rest := []) (by decide +kernel) cs_M_isHour ml_11_167 rfl (Nat.le_of_ble_eq_true rfl) (Nat.lt_succ_self (d + 1)) (Nat.le_of_ble_eq_true rfl) rfl ?_
    show sg_Wp 200 228 (d + 1) m_M_isHour 0 [(0, 0, v2)] [] G _
    refine s_M_isHour ?_
    show sg_Wp 200 228 (d + 2) m_M_event 16 [(0, 2, 200), (1, 0, v1), (2, 0, v2), (3, 0, v3)] [(0, sg_bo (0 ≤ v2 ∧ v2 ≤ 23))] G Q
    refine sg_bif_eq (off := 15) (tgt := 31) (by decide +kernel) (by decide) ⟨fun q3 => ?_, fun q3 => ?_⟩
    · refine sg_blk [(3, 0, 0, 3, 0), (53, 0, 0, 0, 0), (10, 0, 0, 0, 0), (12, 9, 0, 170, 0)] (by decide +kernel) ?_
      refine And.intro rfl (And.intro rfl (?_))
      show sg_Wp 200 228 (d + 2) m_M_event 25 [(0, 2, 200), (1, 0, v1), (2, 0, v2), (3, 0, v3)] [(1, 9), (1, 0), (1, v3)] G Q
      refine sg_callS (k := (d + 1)) (y' := m_M_in) (av := [(1, v3), (1, 0), (1, 9)]) (rest := []) (by decide +kernel) cs_M_in ml_11_98 rfl (Nat.le_of_ble_eq_true rfl) (Nat.lt_succ_self (d + 1)) (Nat.le_of_ble_eq_true rfl) rfl ?_
      show sg_Wp 200 228 (d + 1) m_M_in 0 [(0, 1, v3), (2, 1, 0), (4, 1, 9)] [] G _
      refine s_M_in ?_
      show sg_Wp 200 228 (d + 2) m_M_event 28 [(0, 2, 200), (1, 0, v1), (2, 0, v2), (3, 0, v3)] [(0, sg_bo (0 ≤ v3 ∧ v3 ≤ 9))] G Q
      refine sg_bif_ne (off := 6) (tgt := 34) (by decide +kernel) (by decide) ⟨fun q2 => ?_, fun q2 => ?_⟩
      · refine sg_blk [(1, 0, 0, 0, 0), (15, 0, 11, 164, 11), (8, 8, 0, 0, 0)] (by decide +kernel) ?_
        refine And.intro (Nat.le_of_ble_eq_true rfl) (And.intro ce_200 (And.intro rfl (And.intro rfl (?_))))
        show sg_Wp 200 228 (d + 2) m_M_event 40 [(0, 2, 200), (1, 0, v1), (2, 0, v2), (3, 0, v3)] [(0, 8), (0, G 200 11)] G Q
        refine sg_icmp_ne (off := 6) (tgt := 46) (by decide +kernel) (by decide) ⟨fun q1 => ?_, fun q1 => ?_⟩
        · refine sg_blk [(1, 0, 0, 0, 0), (3, 0, 0, 1, 0), (3, 0, 0, 2, 0), (3, 0, 0, 3, 0)] (by decide +kernel) ?_
          refine And.intro (Nat.le_of_ble_eq_true rfl) (And.intro rfl (And.intro rfl (And.intro rfl (?_))))
          show sg_Wp 200 228 (d + 2) m_M_event 50 [(0, 2, 200), (1, 0, v1), (2, 0, v2), (3, 0, v3)] [(0, v3), (0, v2), (0, v1), (2, 200)] G Q
          refine sg_callV (k := (d + 1)) (y' := m_M_keeps) (av := [(0, v1), (0, v2), (0, v3)]) (rest := []) (b := 200) (by decide +kernel) cv_M_keeps ml_11_172 ce_200 rfl rfl (Nat.le_of_ble_eq_true rfl) (Nat.lt_succ_self (d + 1)) (Nat.le_of_ble_eq_true rfl) rfl ?_
          show sg_Wp 200 228 (d + 1) m_M_keeps 0 [(0, 2, 200), (1, 0, v1), (2, 0, v2), (3, 0, v3)] [] G _
          refine sg_Wp.mono (((((h.1 q4).1 q3).1 q2).1 q1)) (fun r1 G1 hhr1 => ?_)
          show sg_Wp 200 228 (d + 2) m_M_event 53 [(0, 2, 200), (1, 0, v1), (2, 0, v2), (3, 0, v3)] [] G1 Q
          refine sg_blk [(1, 0, 0, 0, 0), (15, 0, 11, 164, 11)] (by decide +kernel) ?_
          refine And.intro (Nat.le_of_ble_eq_true rfl) (And.intro ce_200 (?_))
          show sg_Wp 200 228 (d + 2) m_M_event 57 [(0, 2, 200), (1, 0, v1), (2, 0, v2), (3, 0, v3)] [(0, G1 200 11)] G1 Q
          exact sg_ret (by decide +kernel) rfl (Or.inl rfl) hhr1
        · refine sg_blk [(8, (-4), 0, 0, 0)] (by decide +kernel) ?_
          refine And.intro rfl (And.intro rfl (?_))
          show sg_Wp 200 228 (d + 2) m_M_event 45 [(0, 2, 200), (1, 0, v1), (2, 0, v2), (3, 0, v3)] [(0, (-4))] G Q
          exact sg_ret (by decide +kernel) rfl (Or.inl rfl) (((((h.1 q4).1 q3).1 q2).2 q1))
      · refine sg_blk [(8, (-2), 0, 0, 0)] (by decide +kernel) ?_
        refine And.intro rfl (And.intro rfl (?_))
        show sg_Wp 200 228 (d + 2) m_M_event 33 [(0, 2, 200), (1, 0, v1), (2, 0, v2), (3, 0, v3)] [(0, (-2))] G Q
        exact sg_ret (by decide +kernel) rfl (Or.inl rfl) ((((h.1 q4).1 q3).2 q2))
    · refine sg_blk [(8, (-2), 0, 0, 0)] (by decide +kernel) ?_
      refine And.intro rfl (And.intro rfl (?_))
      show sg_Wp 200 228 (d + 2) m_M_event 33 [(0, 2, 200), (1, 0, v1), (2, 0, v2), (3, 0, v3)] [(0, (-2))] G Q
      exact sg_ret (by decide +kernel) rfl (Or.inl rfl) (((h.1 q4).2 q3))
  · refine sg_blk [(8, (-2), 0, 0, 0)] (by decide +kernel) ?_
    refine And.intro rfl (And.intro rfl (?_))
    show sg_Wp 200 228 (d + 2) m_M_event 33 [(0, 2, 200), (1, 0, v1), (2, 0, v2), (3, 0, v3)] [(0, (-2))] G Q
    exact sg_ret (by decide +kernel) rfl (Or.inl rfl) ((h.2 q4))
set_option maxRecDepth 100000 in
theorem g_M_find_0 {d : Nat} {G : SgM} {Q : Int → SgM → Prop} (h : sg_Wp 200 228 d m_M_readsPosts 0 [(0, 2, 200)] [] G (fun r1 G1 => sg_Wp 200 228 d m_M_readsPeople 0 [(0, 2, 200)] [] G1 (fun r2 G2 => sg_Wp 200 228 d m_M_lives 0 [(0, 2, 200)] [] G2 (fun r3 G3 => Q 0 G3)))) : sg_Wp 200 228 (d + 1) m_M_find 0 [(0, 2, 200)] [] G Q := by
  refine sg_blk [(1, 0, 0, 0, 0)] (by decide +kernel) ?_
  refine And.intro (Nat.le_of_ble_eq_true rfl) (?_)
  show sg_Wp 200 228 (d + 1) m_M_find 1 [(0, 2, 200)] [(2, 200)] G Q
  refine sg_callV (k := d) (y' := m_M_readsPosts) (av := []) (rest := []) (b := 200) (by decide +kernel) cv_M_readsPosts ml_11_146 ce_200 rfl rfl (Nat.le_of_ble_eq_true rfl) (Nat.lt_succ_self d) (Nat.le_of_ble_eq_true rfl) rfl ?_
  show sg_Wp 200 228 d m_M_readsPosts 0 [(0, 2, 200)] [] G _
  refine sg_Wp.mono h (fun r1 G1 hhr1 => ?_)
  show sg_Wp 200 228 (d + 1) m_M_find 4 [(0, 2, 200)] [(0, r1)] G1 Q
  refine sg_blk [(59, 0, 0, 0, 0), (1, 0, 0, 0, 0)] (by decide +kernel) ?_
  refine And.intro (Nat.ne_of_beq_eq_false rfl) (And.intro (Nat.le_of_ble_eq_true rfl) (?_))
  show sg_Wp 200 228 (d + 1) m_M_find 6 [(0, 2, 200)] [(2, 200)] G1 Q
  refine sg_callV (k := d) (y' := m_M_readsPeople) (av := []) (rest := []) (b := 200) (by decide +kernel) cv_M_readsPeople ml_11_150 ce_200 rfl rfl (Nat.le_of_ble_eq_true rfl) (Nat.lt_succ_self d) (Nat.le_of_ble_eq_true rfl) rfl ?_
  show sg_Wp 200 228 d m_M_readsPeople 0 [(0, 2, 200)] [] G1 _
  refine sg_Wp.mono hhr1 (fun r2 G2 hhr2 => ?_)
  show sg_Wp 200 228 (d + 1) m_M_find 9 [(0, 2, 200)] [(0, r2)] G2 Q
  refine sg_blk [(59, 0, 0, 0, 0), (1, 0, 0, 0, 0)] (by decide +kernel) ?_
  refine And.intro (Nat.ne_of_beq_eq_false rfl) (And.intro (Nat.le_of_ble_eq_true rfl) (?_))
  show sg_Wp 200 228 (d + 1) m_M_find 11 [(0, 2, 200)] [(2, 200)] G2 Q
  refine sg_callV (k := d) (y' := m_M_lives) (av := []) (rest := []) (b := 200) (by decide +kernel) cv_M_lives ml_11_214 ce_200 rfl rfl (Nat.le_of_ble_eq_true rfl) (Nat.lt_succ_self d) (Nat.le_of_ble_eq_true rfl) rfl ?_
  show sg_Wp 200 228 d m_M_lives 0 [(0, 2, 200)] [] G2 _
  refine sg_Wp.mono hhr2 (fun r3 G3 hhr3 => ?_)
  show sg_Wp 200 228 (d + 1) m_M_find 14 [(0, 2, 200)] [] G3 Q
  exact sg_vret (by decide +kernel) rfl hhr3
set_option maxRecDepth 100000 in
theorem g_M_goes_0 {d : Nat} {v1 : Int} {G : SgM} {Q : Int → SgM → Prop} (h : (0 ≤ v1 ∧ v1 < 6) ∧ (((G 210 v1) ≠ 9 → ((0 ≤ v1 ∧ v1 < 6) ∧ (((G 210 v1) ≠ 0 → ((0 ≤ v1 ∧ v1 < 6) ∧ (0 ≤ v1 ∧ v1 < 6) ∧ (0 ≤ v1 ∧ v1 < 6) ∧ (0 ≤ v1 ∧ v1 < 6) ∧ ((((sg_up G 211 v1 (G 211 v1)) 211 v1) ≠ 0 → ((0 ≤ v1 ∧ v1 < 6) ∧ (Q 0 (sg_up (sg_up G 211 v1 (G 211 v1)) 210 v1 (sg_iadd (G 210 v1) ((-1))))))) ∧ (¬ (((sg_up G 211 v1 (G 211 v1)) 211 v1) ≠ 0) → ((0 ≤ v1 ∧ v1 < 6) ∧ (Q 0 (sg_up (sg_up G 211 v1 (G 211 v1)) 210 v1 (sg_iadd (G 210 v1) 1)))))))) ∧ (¬ ((G 210 v1) ≠ 0) → ((0 ≤ v1 ∧ v1 < 6) ∧ (((G 211 v1) ≠ 1 → ((0 ≤ v1 ∧ v1 < 6) ∧ (0 ≤ v1 ∧ v1 < 6) ∧ (0 ≤ v1 ∧ v1 < 6) ∧ (0 ≤ v1 ∧ v1 < 6) ∧ ((((sg_up G 211 v1 (G 211 v1)) 211 v1) ≠ 0 → ((0 ≤ v1 ∧ v1 < 6) ∧ (Q 0 (sg_up (sg_up G 211 v1 (G 211 v1)) 210 v1 (sg_iadd (G 210 v1) ((-1))))))) ∧ (¬ (((sg_up G 211 v1 (G 211 v1)) 211 v1) ≠ 0) → ((0 ≤ v1 ∧ v1 < 6) ∧ (Q 0 (sg_up (sg_up G 211 v1 (G 211 v1)) 210 v1 (sg_iadd (G 210 v1) 1)))))))) ∧ (¬ ((G 211 v1) ≠ 1) → ((0 ≤ v1 ∧ v1 < 6) ∧ ((0 ≤ v1 ∧ v1 < 6) ∧ (0 ≤ v1 ∧ v1 < 6) ∧ (0 ≤ v1 ∧ v1 < 6) ∧ ((((sg_up G 211 v1 (sg_isub 1 (G 211 v1))) 211 v1) ≠ 0 → ((0 ≤ v1 ∧ v1 < 6) ∧ (Q 0 (sg_up (sg_up G 211 v1 (sg_isub 1 (G 211 v1))) 210 v1 (sg_iadd (G 210 v1) ((-1))))))) ∧ (¬ (((sg_up G 211 v1 (sg_isub 1 (G 211 v1))) 211 v1) ≠ 0) → ((0 ≤ v1 ∧ v1 < 6) ∧ (Q 0 (sg_up (sg_up G 211 v1 (sg_isub 1 (G 211 v1))) 210 v1 (sg_iadd (G 210 v1) 1))))))))))))))) ∧ (¬ ((G 210 v1) ≠ 9) → ((0 ≤ v1 ∧ v1 < 6) ∧ (((G 211 v1) = 0 → ((0 ≤ v1 ∧ v1 < 6) ∧ ((0 ≤ v1 ∧ v1 < 6) ∧ (0 ≤ v1 ∧ v1 < 6) ∧ (0 ≤ v1 ∧ v1 < 6) ∧ ((((sg_up G 211 v1 (sg_isub 1 (G 211 v1))) 211 v1) ≠ 0 → ((0 ≤ v1 ∧ v1 < 6) ∧ (Q 0 (sg_up (sg_up G 211 v1 (sg_isub 1 (G 211 v1))) 210 v1 (sg_iadd (G 210 v1) ((-1))))))) ∧ (¬ (((sg_up G 211 v1 (sg_isub 1 (G 211 v1))) 211 v1) ≠ 0) → ((0 ≤ v1 ∧ v1 < 6) ∧ (Q 0 (sg_up (sg_up G 211 v1 (sg_isub 1 (G 211 v1))) 210 v1 (sg_iadd (G 210 v1) 1))))))))) ∧ (¬ ((G 211 v1) = 0) → ((0 ≤ v1 ∧ v1 < 6) ∧ (((G 210 v1) ≠ 0 → ((0 ≤ v1 ∧ v1 < 6) ∧ (0 ≤ v1 ∧ v1 < 6) ∧ (0 ≤ v1 ∧ v1 < 6) ∧ (0 ≤ v1 ∧ v1 < 6) ∧ ((((sg_up G 211 v1 (G 211 v1)) 211 v1) ≠ 0 → ((0 ≤ v1 ∧ v1 < 6) ∧ (Q 0 (sg_up (sg_up G 211 v1 (G 211 v1)) 210 v1 (sg_iadd (G 210 v1) ((-1))))))) ∧ (¬ (((sg_up G 211 v1 (G 211 v1)) 211 v1) ≠ 0) → ((0 ≤ v1 ∧ v1 < 6) ∧ (Q 0 (sg_up (sg_up G 211 v1 (G 211 v1)) 210 v1 (sg_iadd (G 210 v1) 1)))))))) ∧ (¬ ((G 210 v1) ≠ 0) → ((0 ≤ v1 ∧ v1 < 6) ∧ (((G 211 v1) ≠ 1 → ((0 ≤ v1 ∧ v1 < 6) ∧ (0 ≤ v1 ∧ v1 < 6) ∧ (0 ≤ v1 ∧ v1 < 6) ∧ (0 ≤ v1 ∧ v1 < 6) ∧ ((((sg_up G 211 v1 (G 211 v1)) 211 v1) ≠ 0 → ((0 ≤ v1 ∧ v1 < 6) ∧ (Q 0 (sg_up (sg_up G 211 v1 (G 211 v1)) 210 v1 (sg_iadd (G 210 v1) ((-1))))))) ∧ (¬ (((sg_up G 211 v1 (G 211 v1)) 211 v1) ≠ 0) → ((0 ≤ v1 ∧ v1 < 6) ∧ (Q 0 (sg_up (sg_up G 211 v1 (G 211 v1)) 210 v1 (sg_iadd (G 210 v1) 1)))))))) ∧ (¬ ((G 211 v1) ≠ 1) → ((0 ≤ v1 ∧ v1 < 6) ∧ ((0 ≤ v1 ∧ v1 < 6) ∧ (0 ≤ v1 ∧ v1 < 6) ∧ (0 ≤ v1 ∧ v1 < 6) ∧ ((((sg_up G 211 v1 (sg_isub 1 (G 211 v1))) 211 v1) ≠ 0 → ((0 ≤ v1 ∧ v1 < 6) ∧ (Q 0 (sg_up (sg_up G 211 v1 (sg_isub 1 (G 211 v1))) 210 v1 (sg_iadd (G 210 v1) ((-1))))))) ∧ (¬ (((sg_up G 211 v1 (sg_isub 1 (G 211 v1))) 211 v1) ≠ 0) → ((0 ≤ v1 ∧ v1 < 6) ∧ (Q 0 (sg_up (sg_up G 211 v1 (sg_isub 1 (G 211 v1))) 210 v1 (sg_iadd (G 210 v1) 1)))))))))))))))))))) : sg_Wp 200 228 d m_M_goes 0 [(0, 2, 200), (1, 0, v1)] [] G Q := by
  refine sg_blk [(1, 0, 0, 0, 0), (65, 211, 11, 40, 18), (3, 0, 0, 1, 0), (1, 0, 0, 0, 0), (65, 210, 11, 37, 17), (3, 0, 0, 1, 0), (17, 6, 0, 0, 0), (8, 9, 0, 0, 0)] (by decide +kernel) ?_
  refine And.intro (Nat.le_of_ble_eq_true rfl) (And.intro ce_200 (And.intro rr_200_18 (And.intro rfl (And.intro (Nat.le_of_ble_eq_true rfl) (And.intro ce_200 (And.intro rr_200_17 (And.intro rfl (And.intro ce_210 (And.intro h.1 (And.intro rfl (And.intro rfl (?_))))))))))))
  show sg_Wp 200 228 d m_M_goes 13 [(0, 2, 200), (1, 0, v1)] [(0, 9), (0, G 210 v1), (0, v1), (2, 211)] G Q
  refine sg_icmp_ne (off := 12) (tgt := 25) (by decide +kernel) (by decide) ⟨fun q13 => ?_, fun q13 => ?_⟩
  · refine sg_blk [(1, 0, 0, 0, 0), (65, 210, 11, 37, 17), (3, 0, 0, 1, 0), (17, 6, 0, 0, 0)] (by decide +kernel) ?_
    refine And.intro (Nat.le_of_ble_eq_true rfl) (And.intro ce_200 (And.intro rr_200_17 (And.intro rfl (And.intro ce_210 (And.intro (h.2.1 q13).1 (?_))))))
    show sg_Wp 200 228 d m_M_goes 31 [(0, 2, 200), (1, 0, v1)] [(0, G 210 v1), (0, v1), (2, 211)] G Q
    refine sg_if_ne (off := 24) (tgt := 55) (by decide +kernel) (by decide) ⟨fun q5 => ?_, fun q5 => ?_⟩
    · refine sg_blk [(1, 0, 0, 0, 0), (65, 211, 11, 40, 18), (3, 0, 0, 1, 0), (17, 6, 0, 0, 0), (18, 6, 0, 0, 0), (1, 0, 0, 0, 0), (65, 210, 11, 37, 17), (3, 0, 0, 1, 0), (58, 0, 0, 0, 0), (17, 6, 0, 0, 0), (1, 0, 0, 0, 0), (65, 211, 11, 40, 18), (3, 0, 0, 1, 0), (17, 6, 0, 0, 0)] (by decide +kernel) ?_
      refine And.intro (Nat.le_of_ble_eq_true rfl) (And.intro ce_200 (And.intro rr_200_18 (And.intro rfl (And.intro ce_211 (And.intro ((h.2.1 q13).2.1 q5).1 (And.intro ce_211 (And.intro ((h.2.1 q13).2.1 q5).2.1 (And.intro (Nat.le_of_ble_eq_true rfl) (And.intro ce_200 (And.intro rr_200_17 (And.intro rfl (And.intro (And.intro (Nat.ne_of_beq_eq_false rfl) (Nat.ne_of_beq_eq_false rfl)) (And.intro ce_210 (And.intro ((h.2.1 q13).2.1 q5).2.2.1 (And.intro (Nat.le_of_ble_eq_true rfl) (And.intro ce_200 (And.intro rr_200_18 (And.intro rfl (And.intro ce_211 (And.intro ((h.2.1 q13).2.1 q5).2.2.2.1 (?_)))))))))))))))))))))
      show sg_Wp 200 228 d m_M_goes 75 [(0, 2, 200), (1, 0, v1)] [(0, (sg_up G 211 v1 (G 211 v1)) 211 v1), (0, G 210 v1), (0, v1), (2, 210)] (sg_up G 211 v1 (G 211 v1)) Q
      refine sg_if_ne (off := 7) (tgt := 82) (by decide +kernel) (by decide) ⟨fun q1 => ?_, fun q1 => ?_⟩
      · refine sg_blk [(7, (-1), 0, 0, 0), (32, 0, 0, 0, 0), (18, 6, 0, 0, 0)] (by decide +kernel) ?_
        refine And.intro rfl (And.intro ce_210 (And.intro (((h.2.1 q13).2.1 q5).2.2.2.2.1 q1).1 (?_)))
        show sg_Wp 200 228 d m_M_goes 85 [(0, 2, 200), (1, 0, v1)] [] (sg_up (sg_up G 211 v1 (G 211 v1)) 210 v1 (sg_iadd (G 210 v1) ((-1)))) Q
        exact sg_vret (by decide +kernel) rfl ((((h.2.1 q13).2.1 q5).2.2.2.2.1 q1).2)
      · refine sg_blk [(7, 1, 0, 0, 0)] (by decide +kernel) ?_
        refine And.intro rfl (?_)
        show sg_Wp 200 228 d m_M_goes 79 [(0, 2, 200), (1, 0, v1)] [(0, 1), (0, G 210 v1), (0, v1), (2, 210)] (sg_up G 211 v1 (G 211 v1)) Q
        refine sg_goto (off := 4) (tgt := 83) (by decide +kernel) (by decide) ?_
        refine sg_blk [(32, 0, 0, 0, 0), (18, 6, 0, 0, 0)] (by decide +kernel) ?_
        refine And.intro ce_210 (And.intro (((h.2.1 q13).2.1 q5).2.2.2.2.2 q1).1 (?_))
        show sg_Wp 200 228 d m_M_goes 85 [(0, 2, 200), (1, 0, v1)] [] (sg_up (sg_up G 211 v1 (G 211 v1)) 210 v1 (sg_iadd (G 210 v1) 1)) Q
        exact sg_vret (by decide +kernel) rfl ((((h.2.1 q13).2.1 q5).2.2.2.2.2 q1).2)
    · refine sg_blk [(1, 0, 0, 0, 0), (65, 211, 11, 40, 18), (3, 0, 0, 1, 0), (17, 6, 0, 0, 0), (7, 1, 0, 0, 0)] (by decide +kernel) ?_
      refine And.intro (Nat.le_of_ble_eq_true rfl) (And.intro ce_200 (And.intro rr_200_18 (And.intro rfl (And.intro ce_211 (And.intro ((h.2.1 q13).2.2 q5).1 (And.intro rfl (?_)))))))
      show sg_Wp 200 228 d m_M_goes 41 [(0, 2, 200), (1, 0, v1)] [(0, 1), (0, G 211 v1), (0, v1), (2, 211)] G Q
      refine sg_icmp_ne (off := 14) (tgt := 55) (by decide +kernel) (by decide) ⟨fun q4 => ?_, fun q4 => ?_⟩
      · refine sg_blk [(1, 0, 0, 0, 0), (65, 211, 11, 40, 18), (3, 0, 0, 1, 0), (17, 6, 0, 0, 0), (18, 6, 0, 0, 0), (1, 0, 0, 0, 0), (65, 210, 11, 37, 17), (3, 0, 0, 1, 0), (58, 0, 0, 0, 0), (17, 6, 0, 0, 0), (1, 0, 0, 0, 0), (65, 211, 11, 40, 18), (3, 0, 0, 1, 0), (17, 6, 0, 0, 0)] (by decide +kernel) ?_
        refine And.intro (Nat.le_of_ble_eq_true rfl) (And.intro ce_200 (And.intro rr_200_18 (And.intro rfl (And.intro ce_211 (And.intro (((h.2.1 q13).2.2 q5).2.1 q4).1 (And.intro ce_211 (And.intro (((h.2.1 q13).2.2 q5).2.1 q4).2.1 (And.intro (Nat.le_of_ble_eq_true rfl) (And.intro ce_200 (And.intro rr_200_17 (And.intro rfl (And.intro (And.intro (Nat.ne_of_beq_eq_false rfl) (Nat.ne_of_beq_eq_false rfl)) (And.intro ce_210 (And.intro (((h.2.1 q13).2.2 q5).2.1 q4).2.2.1 (And.intro (Nat.le_of_ble_eq_true rfl) (And.intro ce_200 (And.intro rr_200_18 (And.intro rfl (And.intro ce_211 (And.intro (((h.2.1 q13).2.2 q5).2.1 q4).2.2.2.1 (?_)))))))))))))))))))))
        show sg_Wp 200 228 d m_M_goes 75 [(0, 2, 200), (1, 0, v1)] [(0, (sg_up G 211 v1 (G 211 v1)) 211 v1), (0, G 210 v1), (0, v1), (2, 210)] (sg_up G 211 v1 (G 211 v1)) Q
        refine sg_if_ne (off := 7) (tgt := 82) (by decide +kernel) (by decide) ⟨fun q2 => ?_, fun q2 => ?_⟩
        · refine sg_blk [(7, (-1), 0, 0, 0), (32, 0, 0, 0, 0), (18, 6, 0, 0, 0)] (by decide +kernel) ?_
          refine And.intro rfl (And.intro ce_210 (And.intro ((((h.2.1 q13).2.2 q5).2.1 q4).2.2.2.2.1 q2).1 (?_)))
          show sg_Wp 200 228 d m_M_goes 85 [(0, 2, 200), (1, 0, v1)] [] (sg_up (sg_up G 211 v1 (G 211 v1)) 210 v1 (sg_iadd (G 210 v1) ((-1)))) Q
          exact sg_vret (by decide +kernel) rfl (((((h.2.1 q13).2.2 q5).2.1 q4).2.2.2.2.1 q2).2)
        · refine sg_blk [(7, 1, 0, 0, 0)] (by decide +kernel) ?_
          refine And.intro rfl (?_)
          show sg_Wp 200 228 d m_M_goes 79 [(0, 2, 200), (1, 0, v1)] [(0, 1), (0, G 210 v1), (0, v1), (2, 210)] (sg_up G 211 v1 (G 211 v1)) Q
          refine sg_goto (off := 4) (tgt := 83) (by decide +kernel) (by decide) ?_
          refine sg_blk [(32, 0, 0, 0, 0), (18, 6, 0, 0, 0)] (by decide +kernel) ?_
          refine And.intro ce_210 (And.intro ((((h.2.1 q13).2.2 q5).2.1 q4).2.2.2.2.2 q2).1 (?_))
          show sg_Wp 200 228 d m_M_goes 85 [(0, 2, 200), (1, 0, v1)] [] (sg_up (sg_up G 211 v1 (G 211 v1)) 210 v1 (sg_iadd (G 210 v1) 1)) Q
          exact sg_vret (by decide +kernel) rfl (((((h.2.1 q13).2.2 q5).2.1 q4).2.2.2.2.2 q2).2)
      · refine sg_blk [(7, 1, 0, 0, 0), (1, 0, 0, 0, 0), (65, 211, 11, 40, 18), (3, 0, 0, 1, 0), (17, 6, 0, 0, 0), (33, 0, 0, 0, 0)] (by decide +kernel) ?_
        refine And.intro rfl (And.intro (Nat.le_of_ble_eq_true rfl) (And.intro ce_200 (And.intro rr_200_18 (And.intro rfl (And.intro ce_211 (And.intro (((h.2.1 q13).2.2 q5).2.2 q4).1 (?_)))))))
        show sg_Wp 200 228 d m_M_goes 52 [(0, 2, 200), (1, 0, v1)] [(0, sg_isub 1 (G 211 v1)), (0, v1), (2, 211)] G Q
        refine sg_goto (off := 9) (tgt := 61) (by decide +kernel) (by decide) ?_
        refine sg_blk [(18, 6, 0, 0, 0), (1, 0, 0, 0, 0), (65, 210, 11, 37, 17), (3, 0, 0, 1, 0), (58, 0, 0, 0, 0), (17, 6, 0, 0, 0), (1, 0, 0, 0, 0), (65, 211, 11, 40, 18), (3, 0, 0, 1, 0), (17, 6, 0, 0, 0)] (by decide +kernel) ?_
        refine And.intro ce_211 (And.intro (((h.2.1 q13).2.2 q5).2.2 q4).2.1 (And.intro (Nat.le_of_ble_eq_true rfl) (And.intro ce_200 (And.intro rr_200_17 (And.intro rfl (And.intro (And.intro (Nat.ne_of_beq_eq_false rfl) (Nat.ne_of_beq_eq_false rfl)) (And.intro ce_210 (And.intro (((h.2.1 q13).2.2 q5).2.2 q4).2.2.1 (And.intro (Nat.le_of_ble_eq_true rfl) (And.intro ce_200 (And.intro rr_200_18 (And.intro rfl (And.intro ce_211 (And.intro (((h.2.1 q13).2.2 q5).2.2 q4).2.2.2.1 (?_)))))))))))))))
        show sg_Wp 200 228 d m_M_goes 75 [(0, 2, 200), (1, 0, v1)] [(0, (sg_up G 211 v1 (sg_isub 1 (G 211 v1))) 211 v1), (0, G 210 v1), (0, v1), (2, 210)] (sg_up G 211 v1 (sg_isub 1 (G 211 v1))) Q
        refine sg_if_ne (off := 7) (tgt := 82) (by decide +kernel) (by decide) ⟨fun q3 => ?_, fun q3 => ?_⟩
        · refine sg_blk [(7, (-1), 0, 0, 0), (32, 0, 0, 0, 0), (18, 6, 0, 0, 0)] (by decide +kernel) ?_
          refine And.intro rfl (And.intro ce_210 (And.intro ((((h.2.1 q13).2.2 q5).2.2 q4).2.2.2.2.1 q3).1 (?_)))
          show sg_Wp 200 228 d m_M_goes 85 [(0, 2, 200), (1, 0, v1)] [] (sg_up (sg_up G 211 v1 (sg_isub 1 (G 211 v1))) 210 v1 (sg_iadd (G 210 v1) ((-1)))) Q
          exact sg_vret (by decide +kernel) rfl (((((h.2.1 q13).2.2 q5).2.2 q4).2.2.2.2.1 q3).2)
        · refine sg_blk [(7, 1, 0, 0, 0)] (by decide +kernel) ?_
          refine And.intro rfl (?_)
          show sg_Wp 200 228 d m_M_goes 79 [(0, 2, 200), (1, 0, v1)] [(0, 1), (0, G 210 v1), (0, v1), (2, 210)] (sg_up G 211 v1 (sg_isub 1 (G 211 v1))) Q
          refine sg_goto (off := 4) (tgt := 83) (by decide +kernel) (by decide) ?_
          refine sg_blk [(32, 0, 0, 0, 0), (18, 6, 0, 0, 0)] (by decide +kernel) ?_
          refine And.intro ce_210 (And.intro ((((h.2.1 q13).2.2 q5).2.2 q4).2.2.2.2.2 q3).1 (?_))
          show sg_Wp 200 228 d m_M_goes 85 [(0, 2, 200), (1, 0, v1)] [] (sg_up (sg_up G 211 v1 (sg_isub 1 (G 211 v1))) 210 v1 (sg_iadd (G 210 v1) 1)) Q
          exact sg_vret (by decide +kernel) rfl (((((h.2.1 q13).2.2 q5).2.2 q4).2.2.2.2.2 q3).2)
  · refine sg_blk [(1, 0, 0, 0, 0), (65, 211, 11, 40, 18), (3, 0, 0, 1, 0), (17, 6, 0, 0, 0)] (by decide +kernel) ?_
    refine And.intro (Nat.le_of_ble_eq_true rfl) (And.intro ce_200 (And.intro rr_200_18 (And.intro rfl (And.intro ce_211 (And.intro (h.2.2 q13).1 (?_))))))
    show sg_Wp 200 228 d m_M_goes 22 [(0, 2, 200), (1, 0, v1)] [(0, G 211 v1), (0, v1), (2, 211)] G Q
    refine sg_if_eq (off := 22) (tgt := 44) (by decide +kernel) (by decide) ⟨fun q12 => ?_, fun q12 => ?_⟩
    · refine sg_blk [(7, 1, 0, 0, 0), (1, 0, 0, 0, 0), (65, 211, 11, 40, 18), (3, 0, 0, 1, 0), (17, 6, 0, 0, 0), (33, 0, 0, 0, 0)] (by decide +kernel) ?_
      refine And.intro rfl (And.intro (Nat.le_of_ble_eq_true rfl) (And.intro ce_200 (And.intro rr_200_18 (And.intro rfl (And.intro ce_211 (And.intro ((h.2.2 q13).2.1 q12).1 (?_)))))))
      show sg_Wp 200 228 d m_M_goes 52 [(0, 2, 200), (1, 0, v1)] [(0, sg_isub 1 (G 211 v1)), (0, v1), (2, 211)] G Q
      refine sg_goto (off := 9) (tgt := 61) (by decide +kernel) (by decide) ?_
      refine sg_blk [(18, 6, 0, 0, 0), (1, 0, 0, 0, 0), (65, 210, 11, 37, 17), (3, 0, 0, 1, 0), (58, 0, 0, 0, 0), (17, 6, 0, 0, 0), (1, 0, 0, 0, 0), (65, 211, 11, 40, 18), (3, 0, 0, 1, 0), (17, 6, 0, 0, 0)] (by decide +kernel) ?_
      refine And.intro ce_211 (And.intro ((h.2.2 q13).2.1 q12).2.1 (And.intro (Nat.le_of_ble_eq_true rfl) (And.intro ce_200 (And.intro rr_200_17 (And.intro rfl (And.intro (And.intro (Nat.ne_of_beq_eq_false rfl) (Nat.ne_of_beq_eq_false rfl)) (And.intro ce_210 (And.intro ((h.2.2 q13).2.1 q12).2.2.1 (And.intro (Nat.le_of_ble_eq_true rfl) (And.intro ce_200 (And.intro rr_200_18 (And.intro rfl (And.intro ce_211 (And.intro ((h.2.2 q13).2.1 q12).2.2.2.1 (?_)))))))))))))))
      show sg_Wp 200 228 d m_M_goes 75 [(0, 2, 200), (1, 0, v1)] [(0, (sg_up G 211 v1 (sg_isub 1 (G 211 v1))) 211 v1), (0, G 210 v1), (0, v1), (2, 210)] (sg_up G 211 v1 (sg_isub 1 (G 211 v1))) Q
      refine sg_if_ne (off := 7) (tgt := 82) (by decide +kernel) (by decide) ⟨fun q6 => ?_, fun q6 => ?_⟩
      · refine sg_blk [(7, (-1), 0, 0, 0), (32, 0, 0, 0, 0), (18, 6, 0, 0, 0)] (by decide +kernel) ?_
        refine And.intro rfl (And.intro ce_210 (And.intro (((h.2.2 q13).2.1 q12).2.2.2.2.1 q6).1 (?_)))
        show sg_Wp 200 228 d m_M_goes 85 [(0, 2, 200), (1, 0, v1)] [] (sg_up (sg_up G 211 v1 (sg_isub 1 (G 211 v1))) 210 v1 (sg_iadd (G 210 v1) ((-1)))) Q
        exact sg_vret (by decide +kernel) rfl ((((h.2.2 q13).2.1 q12).2.2.2.2.1 q6).2)
      · refine sg_blk [(7, 1, 0, 0, 0)] (by decide +kernel) ?_
        refine And.intro rfl (?_)
        show sg_Wp 200 228 d m_M_goes 79 [(0, 2, 200), (1, 0, v1)] [(0, 1), (0, G 210 v1), (0, v1), (2, 210)] (sg_up G 211 v1 (sg_isub 1 (G 211 v1))) Q
        refine sg_goto (off := 4) (tgt := 83) (by decide +kernel) (by decide) ?_
        refine sg_blk [(32, 0, 0, 0, 0), (18, 6, 0, 0, 0)] (by decide +kernel) ?_
        refine And.intro ce_210 (And.intro (((h.2.2 q13).2.1 q12).2.2.2.2.2 q6).1 (?_))
        show sg_Wp 200 228 d m_M_goes 85 [(0, 2, 200), (1, 0, v1)] [] (sg_up (sg_up G 211 v1 (sg_isub 1 (G 211 v1))) 210 v1 (sg_iadd (G 210 v1) 1)) Q
        exact sg_vret (by decide +kernel) rfl ((((h.2.2 q13).2.1 q12).2.2.2.2.2 q6).2)
    · refine sg_blk [(1, 0, 0, 0, 0), (65, 210, 11, 37, 17), (3, 0, 0, 1, 0), (17, 6, 0, 0, 0)] (by decide +kernel) ?_
      refine And.intro (Nat.le_of_ble_eq_true rfl) (And.intro ce_200 (And.intro rr_200_17 (And.intro rfl (And.intro ce_210 (And.intro ((h.2.2 q13).2.2 q12).1 (?_))))))
      show sg_Wp 200 228 d m_M_goes 31 [(0, 2, 200), (1, 0, v1)] [(0, G 210 v1), (0, v1), (2, 211)] G Q
      refine sg_if_ne (off := 24) (tgt := 55) (by decide +kernel) (by decide) ⟨fun q11 => ?_, fun q11 => ?_⟩
      · refine sg_blk [(1, 0, 0, 0, 0), (65, 211, 11, 40, 18), (3, 0, 0, 1, 0), (17, 6, 0, 0, 0), (18, 6, 0, 0, 0), (1, 0, 0, 0, 0), (65, 210, 11, 37, 17), (3, 0, 0, 1, 0), (58, 0, 0, 0, 0), (17, 6, 0, 0, 0), (1, 0, 0, 0, 0), (65, 211, 11, 40, 18), (3, 0, 0, 1, 0), (17, 6, 0, 0, 0)] (by decide +kernel) ?_
        refine And.intro (Nat.le_of_ble_eq_true rfl) (And.intro ce_200 (And.intro rr_200_18 (And.intro rfl (And.intro ce_211 (And.intro (((h.2.2 q13).2.2 q12).2.1 q11).1 (And.intro ce_211 (And.intro (((h.2.2 q13).2.2 q12).2.1 q11).2.1 (And.intro (Nat.le_of_ble_eq_true rfl) (And.intro ce_200 (And.intro rr_200_17 (And.intro rfl (And.intro (And.intro (Nat.ne_of_beq_eq_false rfl) (Nat.ne_of_beq_eq_false rfl)) (And.intro ce_210 (And.intro (((h.2.2 q13).2.2 q12).2.1 q11).2.2.1 (And.intro (Nat.le_of_ble_eq_true rfl) (And.intro ce_200 (And.intro rr_200_18 (And.intro rfl (And.intro ce_211 (And.intro (((h.2.2 q13).2.2 q12).2.1 q11).2.2.2.1 (?_)))))))))))))))))))))
        show sg_Wp 200 228 d m_M_goes 75 [(0, 2, 200), (1, 0, v1)] [(0, (sg_up G 211 v1 (G 211 v1)) 211 v1), (0, G 210 v1), (0, v1), (2, 210)] (sg_up G 211 v1 (G 211 v1)) Q
        refine sg_if_ne (off := 7) (tgt := 82) (by decide +kernel) (by decide) ⟨fun q7 => ?_, fun q7 => ?_⟩
        · refine sg_blk [(7, (-1), 0, 0, 0), (32, 0, 0, 0, 0), (18, 6, 0, 0, 0)] (by decide +kernel) ?_
          refine And.intro rfl (And.intro ce_210 (And.intro ((((h.2.2 q13).2.2 q12).2.1 q11).2.2.2.2.1 q7).1 (?_)))
          show sg_Wp 200 228 d m_M_goes 85 [(0, 2, 200), (1, 0, v1)] [] (sg_up (sg_up G 211 v1 (G 211 v1)) 210 v1 (sg_iadd (G 210 v1) ((-1)))) Q
          exact sg_vret (by decide +kernel) rfl (((((h.2.2 q13).2.2 q12).2.1 q11).2.2.2.2.1 q7).2)
        · refine sg_blk [(7, 1, 0, 0, 0)] (by decide +kernel) ?_
          refine And.intro rfl (?_)
          show sg_Wp 200 228 d m_M_goes 79 [(0, 2, 200), (1, 0, v1)] [(0, 1), (0, G 210 v1), (0, v1), (2, 210)] (sg_up G 211 v1 (G 211 v1)) Q
          refine sg_goto (off := 4) (tgt := 83) (by decide +kernel) (by decide) ?_
          refine sg_blk [(32, 0, 0, 0, 0), (18, 6, 0, 0, 0)] (by decide +kernel) ?_
          refine And.intro ce_210 (And.intro ((((h.2.2 q13).2.2 q12).2.1 q11).2.2.2.2.2 q7).1 (?_))
          show sg_Wp 200 228 d m_M_goes 85 [(0, 2, 200), (1, 0, v1)] [] (sg_up (sg_up G 211 v1 (G 211 v1)) 210 v1 (sg_iadd (G 210 v1) 1)) Q
          exact sg_vret (by decide +kernel) rfl (((((h.2.2 q13).2.2 q12).2.1 q11).2.2.2.2.2 q7).2)
      · refine sg_blk [(1, 0, 0, 0, 0), (65, 211, 11, 40, 18), (3, 0, 0, 1, 0), (17, 6, 0, 0, 0), (7, 1, 0, 0, 0)] (by decide +kernel) ?_
        refine And.intro (Nat.le_of_ble_eq_true rfl) (And.intro ce_200 (And.intro rr_200_18 (And.intro rfl (And.intro ce_211 (And.intro (((h.2.2 q13).2.2 q12).2.2 q11).1 (And.intro rfl (?_)))))))
        show sg_Wp 200 228 d m_M_goes 41 [(0, 2, 200), (1, 0, v1)] [(0, 1), (0, G 211 v1), (0, v1), (2, 211)] G Q
        refine sg_icmp_ne (off := 14) (tgt := 55) (by decide +kernel) (by decide) ⟨fun q10 => ?_, fun q10 => ?_⟩
        · refine sg_blk [(1, 0, 0, 0, 0), (65, 211, 11, 40, 18), (3, 0, 0, 1, 0), (17, 6, 0, 0, 0), (18, 6, 0, 0, 0), (1, 0, 0, 0, 0), (65, 210, 11, 37, 17), (3, 0, 0, 1, 0), (58, 0, 0, 0, 0), (17, 6, 0, 0, 0), (1, 0, 0, 0, 0), (65, 211, 11, 40, 18), (3, 0, 0, 1, 0), (17, 6, 0, 0, 0)] (by decide +kernel) ?_
          refine And.intro (Nat.le_of_ble_eq_true rfl) (And.intro ce_200 (And.intro rr_200_18 (And.intro rfl (And.intro ce_211 (And.intro ((((h.2.2 q13).2.2 q12).2.2 q11).2.1 q10).1 (And.intro ce_211 (And.intro ((((h.2.2 q13).2.2 q12).2.2 q11).2.1 q10).2.1 (And.intro (Nat.le_of_ble_eq_true rfl) (And.intro ce_200 (And.intro rr_200_17 (And.intro rfl (And.intro (And.intro (Nat.ne_of_beq_eq_false rfl) (Nat.ne_of_beq_eq_false rfl)) (And.intro ce_210 (And.intro ((((h.2.2 q13).2.2 q12).2.2 q11).2.1 q10).2.2.1 (And.intro (Nat.le_of_ble_eq_true rfl) (And.intro ce_200 (And.intro rr_200_18 (And.intro rfl (And.intro ce_211 (And.intro ((((h.2.2 q13).2.2 q12).2.2 q11).2.1 q10).2.2.2.1 (?_)))))))))))))))))))))
          show sg_Wp 200 228 d m_M_goes 75 [(0, 2, 200), (1, 0, v1)] [(0, (sg_up G 211 v1 (G 211 v1)) 211 v1), (0, G 210 v1), (0, v1), (2, 210)] (sg_up G 211 v1 (G 211 v1)) Q
          refine sg_if_ne (off := 7) (tgt := 82) (by decide +kernel) (by decide) ⟨fun q8 => ?_, fun q8 => ?_⟩
          · refine sg_blk [(7, (-1), 0, 0, 0), (32, 0, 0, 0, 0), (18, 6, 0, 0, 0)] (by decide +kernel) ?_
            refine And.intro rfl (And.intro ce_210 (And.intro (((((h.2.2 q13).2.2 q12).2.2 q11).2.1 q10).2.2.2.2.1 q8).1 (?_)))
            show sg_Wp 200 228 d m_M_goes 85 [(0, 2, 200), (1, 0, v1)] [] (sg_up (sg_up G 211 v1 (G 211 v1)) 210 v1 (sg_iadd (G 210 v1) ((-1)))) Q
            exact sg_vret (by decide +kernel) rfl ((((((h.2.2 q13).2.2 q12).2.2 q11).2.1 q10).2.2.2.2.1 q8).2)
          · refine sg_blk [(7, 1, 0, 0, 0)] (by decide +kernel) ?_
            refine And.intro rfl (?_)
            show sg_Wp 200 228 d m_M_goes 79 [(0, 2, 200), (1, 0, v1)] [(0, 1), (0, G 210 v1), (0, v1), (2, 210)] (sg_up G 211 v1 (G 211 v1)) Q
            refine sg_goto (off := 4) (tgt := 83) (by decide +kernel) (by decide) ?_
            refine sg_blk [(32, 0, 0, 0, 0), (18, 6, 0, 0, 0)] (by decide +kernel) ?_
            refine And.intro ce_210 (And.intro (((((h.2.2 q13).2.2 q12).2.2 q11).2.1 q10).2.2.2.2.2 q8).1 (?_))
            show sg_Wp 200 228 d m_M_goes 85 [(0, 2, 200), (1, 0, v1)] [] (sg_up (sg_up G 211 v1 (G 211 v1)) 210 v1 (sg_iadd (G 210 v1) 1)) Q
            exact sg_vret (by decide +kernel) rfl ((((((h.2.2 q13).2.2 q12).2.2 q11).2.1 q10).2.2.2.2.2 q8).2)
        · refine sg_blk [(7, 1, 0, 0, 0), (1, 0, 0, 0, 0), (65, 211, 11, 40, 18), (3, 0, 0, 1, 0), (17, 6, 0, 0, 0), (33, 0, 0, 0, 0)] (by decide +kernel) ?_
          refine And.intro rfl (And.intro (Nat.le_of_ble_eq_true rfl) (And.intro ce_200 (And.intro rr_200_18 (And.intro rfl (And.intro ce_211 (And.intro ((((h.2.2 q13).2.2 q12).2.2 q11).2.2 q10).1 (?_)))))))
          show sg_Wp 200 228 d m_M_goes 52 [(0, 2, 200), (1, 0, v1)] [(0, sg_isub 1 (G 211 v1)), (0, v1), (2, 211)] G Q
          refine sg_goto (off := 9) (tgt := 61) (by decide +kernel) (by decide) ?_
          refine sg_blk [(18, 6, 0, 0, 0), (1, 0, 0, 0, 0), (65, 210, 11, 37, 17), (3, 0, 0, 1, 0), (58, 0, 0, 0, 0), (17, 6, 0, 0, 0), (1, 0, 0, 0, 0), (65, 211, 11, 40, 18), (3, 0, 0, 1, 0), (17, 6, 0, 0, 0)] (by decide +kernel) ?_
          refine And.intro ce_211 (And.intro ((((h.2.2 q13).2.2 q12).2.2 q11).2.2 q10).2.1 (And.intro (Nat.le_of_ble_eq_true rfl) (And.intro ce_200 (And.intro rr_200_17 (And.intro rfl (And.intro (And.intro (Nat.ne_of_beq_eq_false rfl) (Nat.ne_of_beq_eq_false rfl)) (And.intro ce_210 (And.intro ((((h.2.2 q13).2.2 q12).2.2 q11).2.2 q10).2.2.1 (And.intro (Nat.le_of_ble_eq_true rfl) (And.intro ce_200 (And.intro rr_200_18 (And.intro rfl (And.intro ce_211 (And.intro ((((h.2.2 q13).2.2 q12).2.2 q11).2.2 q10).2.2.2.1 (?_)))))))))))))))
          show sg_Wp 200 228 d m_M_goes 75 [(0, 2, 200), (1, 0, v1)] [(0, (sg_up G 211 v1 (sg_isub 1 (G 211 v1))) 211 v1), (0, G 210 v1), (0, v1), (2, 210)] (sg_up G 211 v1 (sg_isub 1 (G 211 v1))) Q
          refine sg_if_ne (off := 7) (tgt := 82) (by decide +kernel) (by decide) ⟨fun q9 => ?_, fun q9 => ?_⟩
          · refine sg_blk [(7, (-1), 0, 0, 0), (32, 0, 0, 0, 0), (18, 6, 0, 0, 0)] (by decide +kernel) ?_
            refine And.intro rfl (And.intro ce_210 (And.intro (((((h.2.2 q13).2.2 q12).2.2 q11).2.2 q10).2.2.2.2.1 q9).1 (?_)))
            show sg_Wp 200 228 d m_M_goes 85 [(0, 2, 200), (1, 0, v1)] [] (sg_up (sg_up G 211 v1 (sg_isub 1 (G 211 v1))) 210 v1 (sg_iadd (G 210 v1) ((-1)))) Q
            exact sg_vret (by decide +kernel) rfl ((((((h.2.2 q13).2.2 q12).2.2 q11).2.2 q10).2.2.2.2.1 q9).2)
          · refine sg_blk [(7, 1, 0, 0, 0)] (by decide +kernel) ?_
            refine And.intro rfl (?_)
            show sg_Wp 200 228 d m_M_goes 79 [(0, 2, 200), (1, 0, v1)] [(0, 1), (0, G 210 v1), (0, v1), (2, 210)] (sg_up G 211 v1 (sg_isub 1 (G 211 v1))) Q
            refine sg_goto (off := 4) (tgt := 83) (by decide +kernel) (by decide) ?_
            refine sg_blk [(32, 0, 0, 0, 0), (18, 6, 0, 0, 0)] (by decide +kernel) ?_
            refine And.intro ce_210 (And.intro (((((h.2.2 q13).2.2 q12).2.2 q11).2.2 q10).2.2.2.2.2 q9).1 (?_))
            show sg_Wp 200 228 d m_M_goes 85 [(0, 2, 200), (1, 0, v1)] [] (sg_up (sg_up G 211 v1 (sg_isub 1 (G 211 v1))) 210 v1 (sg_iadd (G 210 v1) 1)) Q
            exact sg_vret (by decide +kernel) rfl ((((((h.2.2 q13).2.2 q12).2.2 q11).2.2 q10).2.2.2.2.2 q9).2)
set_option maxRecDepth 100000 in
theorem g_M_heardBy_0 {d : Nat} {v1 : Int} {G : SgM} {Q : Int → SgM → Prop} (h : sg_Wp 200 228 (d + 1) m_M_heardBy 9 [(0, 2, 200), (1, 0, v1), (2, 0, (-1)), (3, 0, sg_isub (G 200 9) 1)] [] G Q) : sg_Wp 200 228 (d + 1) m_M_heardBy 0 [(0, 2, 200), (1, 0, v1)] [] G Q := by
  refine sg_blk [(7, (-1), 0, 0, 0), (25, 0, 0, 2, 0), (1, 0, 0, 0, 0), (15, 0, 11, 140, 9), (7, 1, 0, 0, 0), (33, 0, 0, 0, 0), (25, 0, 0, 3, 0)] (by decide +kernel) ?_
  refine And.intro rfl (And.intro rfl (And.intro (Nat.le_of_ble_eq_true rfl) (And.intro ce_200 (And.intro rfl (And.intro rfl (?_))))))
  show sg_Wp 200 228 (d + 1) m_M_heardBy 9 [(0, 2, 200), (1, 0, v1), (2, 0, (-1)), (3, 0, sg_isub (G 200 9) 1)] [] G Q
  exact h
set_option maxRecDepth 100000 in
theorem g_M_heardBy_9 {d : Nat} {v1 v2 v3 : Int} {G : SgM} {Q : Int → SgM → Prop} (h : (v3 < 0 → (Q v2 G)) ∧ (¬ (v3 < 0) → ((0 ≤ (sg_imul 4 v3) ∧ (sg_imul 4 v3) < 24) ∧ (((G 208 (sg_imul 4 v3)) ≠ 0 → ((0 ≤ (sg_imul 4 v3) ∧ (sg_imul 4 v3) < 24) ∧ (((G 208 (sg_imul 4 v3)) ≠ 1 → ((0 ≤ v3 ∧ v3 < 6) ∧ (((G 213 v3) = 0 → (sg_Wp 200 228 (d + 1) m_M_heardBy 94 [(0, 2, 200), (1, 0, v1), (2, 0, v2), (3, 0, v3)] [] G Q)) ∧ (¬ ((G 213 v3) = 0) → ((0 ≤ v3 ∧ v3 < 6) ∧ (0 ≤ (sg_imul 2 v1) ∧ (sg_imul 2 v1) < 16) ∧ ((0 ≤ (sg_iadd (sg_imul 2 v1) 1) ∧ (sg_iadd (sg_imul 2 v1) 1) < 16) ∧ (((sg_isub 7 (sg_apt (G 210 v3) (G 207 (sg_imul 2 v1)))) < (G 207 (sg_iadd (sg_imul 2 v1) 1)) → (sg_Wp 200 228 (d + 1) m_M_heardBy 94 [(0, 2, 200), (1, 0, v1), (2, 0, v2), (3, 0, v3)] [] G Q)) ∧ (¬ ((sg_isub 7 (sg_apt (G 210 v3) (G 207 (sg_imul 2 v1)))) < (G 207 (sg_iadd (sg_imul 2 v1) 1))) → (sg_Wp 200 228 (d + 1) m_M_heardBy 9 [(0, 2, 200), (1, 0, v1), (2, 0, v3), (3, 0, sg_iadd v3 (-1))] [] G Q))))))))) ∧ (¬ ((G 208 (sg_imul 4 v3)) ≠ 1) → ((0 ≤ v3 ∧ v3 < 6) ∧ (((G 213 v3) = 0 → (sg_Wp 200 228 (d + 1) m_M_heardBy 94 [(0, 2, 200), (1, 0, v1), (2, 0, v2), (3, 0, v3)] [] G Q)) ∧ (¬ ((G 213 v3) = 0) → ((0 ≤ v3 ∧ v3 < 6) ∧ (0 ≤ (sg_imul 2 v1) ∧ (sg_imul 2 v1) < 16) ∧ ((0 ≤ (sg_iadd (sg_imul 2 v1) 1) ∧ (sg_iadd (sg_imul 2 v1) 1) < 16) ∧ (((sg_isub 4 (sg_apt (G 210 v3) (G 207 (sg_imul 2 v1)))) < (G 207 (sg_iadd (sg_imul 2 v1) 1)) → (sg_Wp 200 228 (d + 1) m_M_heardBy 94 [(0, 2, 200), (1, 0, v1), (2, 0, v2), (3, 0, v3)] [] G Q)) ∧ (¬ ((sg_isub 4 (sg_apt (G 210 v3) (G 207 (sg_imul 2 v1)))) < (G 207 (sg_iadd (sg_imul 2 v1) 1))) → (sg_Wp 200 228 (d + 1) m_M_heardBy 9 [(0, 2, 200), (1, 0, v1), (2, 0, v3), (3, 0, sg_iadd v3 (-1))] [] G Q)))))))))))) ∧ (¬ ((G 208 (sg_imul 4 v3)) ≠ 0) → ((0 ≤ v3 ∧ v3 < 6) ∧ (((G 213 v3) = 0 → (sg_Wp 200 228 (d + 1) m_M_heardBy 94 [(0, 2, 200), (1, 0, v1), (2, 0, v2), (3, 0, v3)] [] G Q)) ∧ (¬ ((G 213 v3) = 0) → ((0 ≤ v3 ∧ v3 < 6) ∧ (0 ≤ (sg_imul 2 v1) ∧ (sg_imul 2 v1) < 16) ∧ ((0 ≤ (sg_iadd (sg_imul 2 v1) 1) ∧ (sg_iadd (sg_imul 2 v1) 1) < 16) ∧ (((sg_isub 2 (sg_apt (G 210 v3) (G 207 (sg_imul 2 v1)))) < (G 207 (sg_iadd (sg_imul 2 v1) 1)) → (sg_Wp 200 228 (d + 1) m_M_heardBy 94 [(0, 2, 200), (1, 0, v1), (2, 0, v2), (3, 0, v3)] [] G Q)) ∧ (¬ ((sg_isub 2 (sg_apt (G 210 v3) (G 207 (sg_imul 2 v1)))) < (G 207 (sg_iadd (sg_imul 2 v1) 1))) → (sg_Wp 200 228 (d + 1) m_M_heardBy 9 [(0, 2, 200), (1, 0, v1), (2, 0, v3), (3, 0, sg_iadd v3 (-1))] [] G Q))))))))))))) : sg_Wp 200 228 (d + 1) m_M_heardBy 9 [(0, 2, 200), (1, 0, v1), (2, 0, v2), (3, 0, v3)] [] G Q := by
  refine sg_blk [(3, 0, 0, 3, 0)] (by decide +kernel) ?_
  refine And.intro rfl (?_)
  show sg_Wp 200 228 (d + 1) m_M_heardBy 10 [(0, 2, 200), (1, 0, v1), (2, 0, v2), (3, 0, v3)] [(0, v3)] G Q
  refine sg_if_lt (off := 92) (tgt := 102) (by decide +kernel) (by decide) ⟨fun q9 => ?_, fun q9 => ?_⟩
  · refine sg_blk [(3, 0, 0, 2, 0)] (by decide +kernel) ?_
    refine And.intro rfl (?_)
    show sg_Wp 200 228 (d + 1) m_M_heardBy 103 [(0, 2, 200), (1, 0, v1), (2, 0, v2), (3, 0, v3)] [(0, v2)] G Q
    exact sg_ret (by decide +kernel) rfl (Or.inl rfl) ((h.1 q9))
  · refine sg_blk [(1, 0, 0, 0, 0), (65, 208, 11, 31, 10), (7, 4, 0, 0, 0), (3, 0, 0, 3, 0), (34, 0, 0, 0, 0), (17, 24, 0, 0, 0)] (by decide +kernel) ?_
    refine And.intro (Nat.le_of_ble_eq_true rfl) (And.intro ce_200 (And.intro rr_200_10 (And.intro rfl (And.intro rfl (And.intro ce_208 (And.intro (h.2 q9).1 (?_)))))))
    show sg_Wp 200 228 (d + 1) m_M_heardBy 21 [(0, 2, 200), (1, 0, v1), (2, 0, v2), (3, 0, v3)] [(0, G 208 (sg_imul 4 v3))] G Q
    refine sg_if_ne (off := 7) (tgt := 28) (by decide +kernel) (by decide) ⟨fun q8 => ?_, fun q8 => ?_⟩
    · refine sg_blk [(1, 0, 0, 0, 0), (65, 208, 11, 31, 10), (7, 4, 0, 0, 0), (3, 0, 0, 3, 0), (34, 0, 0, 0, 0), (17, 24, 0, 0, 0), (7, 1, 0, 0, 0)] (by decide +kernel) ?_
      refine And.intro (Nat.le_of_ble_eq_true rfl) (And.intro ce_200 (And.intro rr_200_10 (And.intro rfl (And.intro rfl (And.intro ce_208 (And.intro ((h.2 q9).2.1 q8).1 (And.intro rfl (?_))))))))
      show sg_Wp 200 228 (d + 1) m_M_heardBy 37 [(0, 2, 200), (1, 0, v1), (2, 0, v2), (3, 0, v3)] [(0, 1), (0, G 208 (sg_imul 4 v3))] G Q
      refine sg_icmp_ne (off := 7) (tgt := 44) (by decide +kernel) (by decide) ⟨fun q5 => ?_, fun q5 => ?_⟩
      · refine sg_blk [(8, 7, 0, 0, 0), (26, 0, 0, 4, 0), (1, 0, 0, 0, 0), (65, 213, 11, 46, 20), (3, 0, 0, 3, 0), (19, 6, 0, 0, 0)] (by decide +kernel) ?_
        refine And.intro rfl (And.intro rfl (And.intro rfl (And.intro (Nat.le_of_ble_eq_true rfl) (And.intro ce_200 (And.intro rr_200_20 (And.intro rfl (And.intro ce_213 (And.intro (((h.2 q9).2.1 q8).2.1 q5).1 (?_)))))))))
        show sg_Wp 200 228 (d + 1) m_M_heardBy 54 [(0, 2, 200), (1, 0, v1), (2, 0, v2), (3, 0, v3), (4, 0, 7)] [(0, G 213 v3)] G Q
        refine sg_if_eq (off := 40) (tgt := 94) (by decide +kernel) (by decide) ⟨fun q2 => ?_, fun q2 => ?_⟩
        · exact sg_Wp.keepk [0, 1, 2, 3] rfl (((((h.2 q9).2.1 q8).2.1 q5).2.1 q2))
        · refine sg_blk [(4, 0, 0, 4, 0), (1, 0, 0, 0, 0), (65, 210, 11, 37, 17), (3, 0, 0, 3, 0), (17, 6, 0, 0, 0), (1, 0, 0, 0, 0), (65, 207, 11, 28, 8), (7, 2, 0, 0, 0), (3, 0, 0, 1, 0), (34, 0, 0, 0, 0), (17, 16, 0, 0, 0)] (by decide +kernel) ?_
          refine And.intro rfl (And.intro (Nat.le_of_ble_eq_true rfl) (And.intro ce_200 (And.intro rr_200_17 (And.intro rfl (And.intro ce_210 (And.intro ((((h.2 q9).2.1 q8).2.1 q5).2.2 q2).1 (And.intro (Nat.le_of_ble_eq_true rfl) (And.intro ce_200 (And.intro rr_200_8 (And.intro rfl (And.intro rfl (And.intro ce_207 (And.intro ((((h.2 q9).2.1 q8).2.1 q5).2.2 q2).2.1 (?_))))))))))))))
          show sg_Wp 200 228 (d + 1) m_M_heardBy 73 [(0, 2, 200), (1, 0, v1), (2, 0, v2), (3, 0, v3), (4, 0, 7)] [(0, G 207 (sg_imul 2 v1)), (0, G 210 v3), (0, 7)] G Q
          refine sg_callS (k := d) (y' := m_M_apart) (av := [(0, G 210 v3), (0, G 207 (sg_imul 2 v1))]) (rest := [(0, 7)]) (by decide +kernel) cs_M_apart ml_11_195 rfl (Nat.le_of_ble_eq_true rfl) (Nat.lt_succ_self d) (Nat.le_of_ble_eq_true rfl) rfl ?_
          show sg_Wp 200 228 d m_M_apart 0 [(0, 0, G 210 v3), (1, 0, G 207 (sg_imul 2 v1))] [] G _
          refine s_M_apart ?_
          show sg_Wp 200 228 (d + 1) m_M_heardBy 76 [(0, 2, 200), (1, 0, v1), (2, 0, v2), (3, 0, v3), (4, 0, 7)] [(0, sg_apt (G 210 v3) (G 207 (sg_imul 2 v1))), (0, 7)] G Q
          refine sg_blk [(33, 0, 0, 0, 0), (1, 0, 0, 0, 0), (65, 207, 11, 28, 8), (7, 2, 0, 0, 0), (3, 0, 0, 1, 0), (34, 0, 0, 0, 0), (7, 1, 0, 0, 0), (32, 0, 0, 0, 0), (17, 16, 0, 0, 0)] (by decide +kernel) ?_
          refine And.intro (Nat.le_of_ble_eq_true rfl) (And.intro ce_200 (And.intro rr_200_8 (And.intro rfl (And.intro rfl (And.intro rfl (And.intro ce_207 (And.intro ((((h.2 q9).2.1 q8).2.1 q5).2.2 q2).2.2.1 (?_))))))))
          show sg_Wp 200 228 (d + 1) m_M_heardBy 87 [(0, 2, 200), (1, 0, v1), (2, 0, v2), (3, 0, v3), (4, 0, 7)] [(0, G 207 (sg_iadd (sg_imul 2 v1) 1)), (0, sg_isub 7 (sg_apt (G 210 v3) (G 207 (sg_imul 2 v1))))] G Q
          refine sg_icmp_lt (off := 7) (tgt := 94) (by decide +kernel) (by decide) ⟨fun q1 => ?_, fun q1 => ?_⟩
          · exact sg_Wp.keepk [0, 1, 2, 3] rfl ((((((h.2 q9).2.1 q8).2.1 q5).2.2 q2).2.2.2.1 q1))
          · refine sg_blk [(3, 0, 0, 3, 0)] (by decide +kernel) ?_
            refine And.intro rfl (?_)
            show sg_Wp 200 228 (d + 1) m_M_heardBy 91 [(0, 2, 200), (1, 0, v1), (2, 0, v2), (3, 0, v3), (4, 0, 7)] [(0, v3)] G Q
            refine sg_goto (off := 4) (tgt := 95) (by decide +kernel) (by decide) ?_
            refine sg_blk [(25, 0, 0, 2, 0), (31, (-1), 0, 3, 0)] (by decide +kernel) ?_
            refine And.intro rfl (And.intro rfl (?_))
            show sg_Wp 200 228 (d + 1) m_M_heardBy 99 [(0, 2, 200), (1, 0, v1), (2, 0, v3), (3, 0, sg_iadd v3 (-1)), (4, 0, 7)] [] G Q
            refine sg_goto (off := -90) (tgt := 9) (by decide +kernel) (by decide) ?_
            exact sg_Wp.keepk [0, 1, 2, 3] rfl ((((((h.2 q9).2.1 q8).2.1 q5).2.2 q2).2.2.2.2 q1))
      · refine sg_blk [(7, 4, 0, 0, 0)] (by decide +kernel) ?_
        refine And.intro rfl (?_)
        show sg_Wp 200 228 (d + 1) m_M_heardBy 41 [(0, 2, 200), (1, 0, v1), (2, 0, v2), (3, 0, v3)] [(0, 4)] G Q
        refine sg_goto (off := 5) (tgt := 46) (by decide +kernel) (by decide) ?_
        refine sg_blk [(26, 0, 0, 4, 0), (1, 0, 0, 0, 0), (65, 213, 11, 46, 20), (3, 0, 0, 3, 0), (19, 6, 0, 0, 0)] (by decide +kernel) ?_
        refine And.intro rfl (And.intro (Nat.le_of_ble_eq_true rfl) (And.intro ce_200 (And.intro rr_200_20 (And.intro rfl (And.intro ce_213 (And.intro (((h.2 q9).2.1 q8).2.2 q5).1 (?_)))))))
        show sg_Wp 200 228 (d + 1) m_M_heardBy 54 [(0, 2, 200), (1, 0, v1), (2, 0, v2), (3, 0, v3), (4, 0, 4)] [(0, G 213 v3)] G Q
        refine sg_if_eq (off := 40) (tgt := 94) (by decide +kernel) (by decide) ⟨fun q4 => ?_, fun q4 => ?_⟩
        · exact sg_Wp.keepk [0, 1, 2, 3] rfl (((((h.2 q9).2.1 q8).2.2 q5).2.1 q4))
        · refine sg_blk [(4, 0, 0, 4, 0), (1, 0, 0, 0, 0), (65, 210, 11, 37, 17), (3, 0, 0, 3, 0), (17, 6, 0, 0, 0), (1, 0, 0, 0, 0), (65, 207, 11, 28, 8), (7, 2, 0, 0, 0), (3, 0, 0, 1, 0), (34, 0, 0, 0, 0), (17, 16, 0, 0, 0)] (by decide +kernel) ?_
          refine And.intro rfl (And.intro (Nat.le_of_ble_eq_true rfl) (And.intro ce_200 (And.intro rr_200_17 (And.intro rfl (And.intro ce_210 (And.intro ((((h.2 q9).2.1 q8).2.2 q5).2.2 q4).1 (And.intro (Nat.le_of_ble_eq_true rfl) (And.intro ce_200 (And.intro rr_200_8 (And.intro rfl (And.intro rfl (And.intro ce_207 (And.intro ((((h.2 q9).2.1 q8).2.2 q5).2.2 q4).2.1 (?_))))))))))))))
          show sg_Wp 200 228 (d + 1) m_M_heardBy 73 [(0, 2, 200), (1, 0, v1), (2, 0, v2), (3, 0, v3), (4, 0, 4)] [(0, G 207 (sg_imul 2 v1)), (0, G 210 v3), (0, 4)] G Q
          refine sg_callS (k := d) (y' := m_M_apart) (av := [(0, G 210 v3), (0, G 207 (sg_imul 2 v1))]) (rest := [(0, 4)]) (by decide +kernel) cs_M_apart ml_11_195 rfl (Nat.le_of_ble_eq_true rfl) (Nat.lt_succ_self d) (Nat.le_of_ble_eq_true rfl) rfl ?_
          show sg_Wp 200 228 d m_M_apart 0 [(0, 0, G 210 v3), (1, 0, G 207 (sg_imul 2 v1))] [] G _
          refine s_M_apart ?_
          show sg_Wp 200 228 (d + 1) m_M_heardBy 76 [(0, 2, 200), (1, 0, v1), (2, 0, v2), (3, 0, v3), (4, 0, 4)] [(0, sg_apt (G 210 v3) (G 207 (sg_imul 2 v1))), (0, 4)] G Q
          refine sg_blk [(33, 0, 0, 0, 0), (1, 0, 0, 0, 0), (65, 207, 11, 28, 8), (7, 2, 0, 0, 0), (3, 0, 0, 1, 0), (34, 0, 0, 0, 0), (7, 1, 0, 0, 0), (32, 0, 0, 0, 0), (17, 16, 0, 0, 0)] (by decide +kernel) ?_
          refine And.intro (Nat.le_of_ble_eq_true rfl) (And.intro ce_200 (And.intro rr_200_8 (And.intro rfl (And.intro rfl (And.intro rfl (And.intro ce_207 (And.intro ((((h.2 q9).2.1 q8).2.2 q5).2.2 q4).2.2.1 (?_))))))))
          show sg_Wp 200 228 (d + 1) m_M_heardBy 87 [(0, 2, 200), (1, 0, v1), (2, 0, v2), (3, 0, v3), (4, 0, 4)] [(0, G 207 (sg_iadd (sg_imul 2 v1) 1)), (0, sg_isub 4 (sg_apt (G 210 v3) (G 207 (sg_imul 2 v1))))] G Q
          refine sg_icmp_lt (off := 7) (tgt := 94) (by decide +kernel) (by decide) ⟨fun q3 => ?_, fun q3 => ?_⟩
          · exact sg_Wp.keepk [0, 1, 2, 3] rfl ((((((h.2 q9).2.1 q8).2.2 q5).2.2 q4).2.2.2.1 q3))
          · refine sg_blk [(3, 0, 0, 3, 0)] (by decide +kernel) ?_
            refine And.intro rfl (?_)
            show sg_Wp 200 228 (d + 1) m_M_heardBy 91 [(0, 2, 200), (1, 0, v1), (2, 0, v2), (3, 0, v3), (4, 0, 4)] [(0, v3)] G Q
            refine sg_goto (off := 4) (tgt := 95) (by decide +kernel) (by decide) ?_
            refine sg_blk [(25, 0, 0, 2, 0), (31, (-1), 0, 3, 0)] (by decide +kernel) ?_
            refine And.intro rfl (And.intro rfl (?_))
            show sg_Wp 200 228 (d + 1) m_M_heardBy 99 [(0, 2, 200), (1, 0, v1), (2, 0, v3), (3, 0, sg_iadd v3 (-1)), (4, 0, 4)] [] G Q
            refine sg_goto (off := -90) (tgt := 9) (by decide +kernel) (by decide) ?_
            exact sg_Wp.keepk [0, 1, 2, 3] rfl ((((((h.2 q9).2.1 q8).2.2 q5).2.2 q4).2.2.2.2 q3))
    · refine sg_blk [(7, 2, 0, 0, 0)] (by decide +kernel) ?_
      refine And.intro rfl (?_)
      show sg_Wp 200 228 (d + 1) m_M_heardBy 25 [(0, 2, 200), (1, 0, v1), (2, 0, v2), (3, 0, v3)] [(0, 2)] G Q
      refine sg_goto (off := 21) (tgt := 46) (by decide +kernel) (by decide) ?_
      refine sg_blk [(26, 0, 0, 4, 0), (1, 0, 0, 0, 0), (65, 213, 11, 46, 20), (3, 0, 0, 3, 0), (19, 6, 0, 0, 0)] (by decide +kernel) ?_
      refine And.intro rfl (And.intro (Nat.le_of_ble_eq_true rfl) (And.intro ce_200 (And.intro rr_200_20 (And.intro rfl (And.intro ce_213 (And.intro ((h.2 q9).2.2 q8).1 (?_)))))))
      show sg_Wp 200 228 (d + 1) m_M_heardBy 54 [(0, 2, 200), (1, 0, v1), (2, 0, v2), (3, 0, v3), (4, 0, 2)] [(0, G 213 v3)] G Q
      refine sg_if_eq (off := 40) (tgt := 94) (by decide +kernel) (by decide) ⟨fun q7 => ?_, fun q7 => ?_⟩
      · exact sg_Wp.keepk [0, 1, 2, 3] rfl ((((h.2 q9).2.2 q8).2.1 q7))
      · refine sg_blk [(4, 0, 0, 4, 0), (1, 0, 0, 0, 0), (65, 210, 11, 37, 17), (3, 0, 0, 3, 0), (17, 6, 0, 0, 0), (1, 0, 0, 0, 0), (65, 207, 11, 28, 8), (7, 2, 0, 0, 0), (3, 0, 0, 1, 0), (34, 0, 0, 0, 0), (17, 16, 0, 0, 0)] (by decide +kernel) ?_
        refine And.intro rfl (And.intro (Nat.le_of_ble_eq_true rfl) (And.intro ce_200 (And.intro rr_200_17 (And.intro rfl (And.intro ce_210 (And.intro (((h.2 q9).2.2 q8).2.2 q7).1 (And.intro (Nat.le_of_ble_eq_true rfl) (And.intro ce_200 (And.intro rr_200_8 (And.intro rfl (And.intro rfl (And.intro ce_207 (And.intro (((h.2 q9).2.2 q8).2.2 q7).2.1 (?_))))))))))))))
        show sg_Wp 200 228 (d + 1) m_M_heardBy 73 [(0, 2, 200), (1, 0, v1), (2, 0, v2), (3, 0, v3), (4, 0, 2)] [(0, G 207 (sg_imul 2 v1)), (0, G 210 v3), (0, 2)] G Q
        refine sg_callS (k := d) (y' := m_M_apart) (av := [(0, G 210 v3), (0, G 207 (sg_imul 2 v1))]) (rest := [(0, 2)]) (by decide +kernel) cs_M_apart ml_11_195 rfl (Nat.le_of_ble_eq_true rfl) (Nat.lt_succ_self d) (Nat.le_of_ble_eq_true rfl) rfl ?_
        show sg_Wp 200 228 d m_M_apart 0 [(0, 0, G 210 v3), (1, 0, G 207 (sg_imul 2 v1))] [] G _
        refine s_M_apart ?_
        show sg_Wp 200 228 (d + 1) m_M_heardBy 76 [(0, 2, 200), (1, 0, v1), (2, 0, v2), (3, 0, v3), (4, 0, 2)] [(0, sg_apt (G 210 v3) (G 207 (sg_imul 2 v1))), (0, 2)] G Q
        refine sg_blk [(33, 0, 0, 0, 0), (1, 0, 0, 0, 0), (65, 207, 11, 28, 8), (7, 2, 0, 0, 0), (3, 0, 0, 1, 0), (34, 0, 0, 0, 0), (7, 1, 0, 0, 0), (32, 0, 0, 0, 0), (17, 16, 0, 0, 0)] (by decide +kernel) ?_
        refine And.intro (Nat.le_of_ble_eq_true rfl) (And.intro ce_200 (And.intro rr_200_8 (And.intro rfl (And.intro rfl (And.intro rfl (And.intro ce_207 (And.intro (((h.2 q9).2.2 q8).2.2 q7).2.2.1 (?_))))))))
        show sg_Wp 200 228 (d + 1) m_M_heardBy 87 [(0, 2, 200), (1, 0, v1), (2, 0, v2), (3, 0, v3), (4, 0, 2)] [(0, G 207 (sg_iadd (sg_imul 2 v1) 1)), (0, sg_isub 2 (sg_apt (G 210 v3) (G 207 (sg_imul 2 v1))))] G Q
        refine sg_icmp_lt (off := 7) (tgt := 94) (by decide +kernel) (by decide) ⟨fun q6 => ?_, fun q6 => ?_⟩
        · exact sg_Wp.keepk [0, 1, 2, 3] rfl (((((h.2 q9).2.2 q8).2.2 q7).2.2.2.1 q6))
        · refine sg_blk [(3, 0, 0, 3, 0)] (by decide +kernel) ?_
          refine And.intro rfl (?_)
          show sg_Wp 200 228 (d + 1) m_M_heardBy 91 [(0, 2, 200), (1, 0, v1), (2, 0, v2), (3, 0, v3), (4, 0, 2)] [(0, v3)] G Q
          refine sg_goto (off := 4) (tgt := 95) (by decide +kernel) (by decide) ?_
          refine sg_blk [(25, 0, 0, 2, 0), (31, (-1), 0, 3, 0)] (by decide +kernel) ?_
          refine And.intro rfl (And.intro rfl (?_))
          show sg_Wp 200 228 (d + 1) m_M_heardBy 99 [(0, 2, 200), (1, 0, v1), (2, 0, v3), (3, 0, sg_iadd v3 (-1)), (4, 0, 2)] [] G Q
          refine sg_goto (off := -90) (tgt := 9) (by decide +kernel) (by decide) ?_
          exact sg_Wp.keepk [0, 1, 2, 3] rfl (((((h.2 q9).2.2 q8).2.2 q7).2.2.2.2 q6))
set_option maxRecDepth 100000 in
theorem g_M_heardBy_94 {d : Nat} {v1 v2 v3 : Int} {G : SgM} {Q : Int → SgM → Prop} (h : sg_Wp 200 228 (d + 1) m_M_heardBy 9 [(0, 2, 200), (1, 0, v1), (2, 0, v2), (3, 0, sg_iadd v3 (-1))] [] G Q) : sg_Wp 200 228 (d + 1) m_M_heardBy 94 [(0, 2, 200), (1, 0, v1), (2, 0, v2), (3, 0, v3)] [] G Q := by
  refine sg_blk [(3, 0, 0, 2, 0), (25, 0, 0, 2, 0), (31, (-1), 0, 3, 0)] (by decide +kernel) ?_
  refine And.intro rfl (And.intro rfl (And.intro rfl (?_)))
  show sg_Wp 200 228 (d + 1) m_M_heardBy 99 [(0, 2, 200), (1, 0, v1), (2, 0, v2), (3, 0, sg_iadd v3 (-1))] [] G Q
  refine sg_goto (off := -90) (tgt := 9) (by decide +kernel) (by decide) ?_
  exact h
set_option maxRecDepth 100000 in
theorem g_M_isCaught_0 {d : Nat} {v1 : Int} {G : SgM} {Q : Int → SgM → Prop} (h : sg_Wp 200 228 d m_M_isCaught 4 [(0, 2, 200), (1, 0, v1), (2, 0, 0), (3, 0, 0)] [] G Q) : sg_Wp 200 228 d m_M_isCaught 0 [(0, 2, 200), (1, 0, v1)] [] G Q := by
  refine sg_blk [(7, 0, 0, 0, 0), (25, 0, 0, 2, 0), (7, 0, 0, 0, 0), (25, 0, 0, 3, 0)] (by decide +kernel) ?_
  refine And.intro rfl (And.intro rfl (And.intro rfl (And.intro rfl (?_))))
  show sg_Wp 200 228 d m_M_isCaught 4 [(0, 2, 200), (1, 0, v1), (2, 0, 0), (3, 0, 0)] [] G Q
  exact h
set_option maxRecDepth 100000 in
theorem g_M_isCaught_4 {d : Nat} {v1 v2 v3 : Int} {G : SgM} {Q : Int → SgM → Prop} (h : ((G 200 9) ≤ v3 → ((v2 = 0 ∨ v2 = 1) ∧ Q v2 G)) ∧ (¬ ((G 200 9) ≤ v3) → ((v2 ≠ 0 → (sg_Wp 200 228 d m_M_isCaught 4 [(0, 2, 200), (1, 0, v1), (2, 0, 1), (3, 0, sg_iadd v3 1)] [] G Q)) ∧ (¬ (v2 ≠ 0) → ((v3 = v1 → (sg_Wp 200 228 d m_M_isCaught 4 [(0, 2, 200), (1, 0, v1), (2, 0, 0), (3, 0, sg_iadd v3 1)] [] G Q)) ∧ (¬ (v3 = v1) → ((0 ≤ v3 ∧ v3 < 6) ∧ (((G 213 v3) = 0 → (sg_Wp 200 228 d m_M_isCaught 4 [(0, 2, 200), (1, 0, v1), (2, 0, 0), (3, 0, sg_iadd v3 1)] [] G Q)) ∧ (¬ ((G 213 v3) = 0) → ((0 ≤ v3 ∧ v3 < 6) ∧ (0 ≤ v1 ∧ v1 < 6) ∧ (((G 210 v3) ≠ (G 210 v1) → (sg_Wp 200 228 d m_M_isCaught 4 [(0, 2, 200), (1, 0, v1), (2, 0, 0), (3, 0, sg_iadd v3 1)] [] G Q)) ∧ (¬ ((G 210 v3) ≠ (G 210 v1)) → (sg_Wp 200 228 d m_M_isCaught 4 [(0, 2, 200), (1, 0, v1), (2, 0, 1), (3, 0, sg_iadd v3 1)] [] G Q))))))))))))) : sg_Wp 200 228 d m_M_isCaught 4 [(0, 2, 200), (1, 0, v1), (2, 0, v2), (3, 0, v3)] [] G Q := by
  refine sg_blk [(3, 0, 0, 3, 0), (1, 0, 0, 0, 0), (15, 0, 11, 140, 9)] (by decide +kernel) ?_
  refine And.intro rfl (And.intro (Nat.le_of_ble_eq_true rfl) (And.intro ce_200 (?_)))
  show sg_Wp 200 228 d m_M_isCaught 9 [(0, 2, 200), (1, 0, v1), (2, 0, v2), (3, 0, v3)] [(0, G 200 9), (0, v3)] G Q
  refine sg_icmp_ge (off := 48) (tgt := 57) (by decide +kernel) (by decide) ⟨fun q5 => ?_, fun q5 => ?_⟩
  · refine sg_blk [(3, 0, 0, 2, 0)] (by decide +kernel) ?_
    refine And.intro rfl (?_)
    show sg_Wp 200 228 d m_M_isCaught 58 [(0, 2, 200), (1, 0, v1), (2, 0, v2), (3, 0, v3)] [(0, v2)] G Q
    exact sg_ret (by decide +kernel) rfl (Or.inr ⟨Or.inl rfl, (h.1 q5).1⟩) (h.1 q5).2
  · refine sg_blk [(3, 0, 0, 2, 0)] (by decide +kernel) ?_
    refine And.intro rfl (?_)
    show sg_Wp 200 228 d m_M_isCaught 13 [(0, 2, 200), (1, 0, v1), (2, 0, v2), (3, 0, v3)] [(0, v2)] G Q
    refine sg_if_ne (off := 32) (tgt := 45) (by decide +kernel) (by decide) ⟨fun q4 => ?_, fun q4 => ?_⟩
    · refine sg_blk [(7, 1, 0, 0, 0)] (by decide +kernel) ?_
      refine And.intro rfl (?_)
      show sg_Wp 200 228 d m_M_isCaught 46 [(0, 2, 200), (1, 0, v1), (2, 0, v2), (3, 0, v3)] [(0, 1)] G Q
      refine sg_goto (off := 4) (tgt := 50) (by decide +kernel) (by decide) ?_
      refine sg_blk [(25, 0, 0, 2, 0), (31, 1, 0, 3, 0)] (by decide +kernel) ?_
      refine And.intro rfl (And.intro rfl (?_))
      show sg_Wp 200 228 d m_M_isCaught 54 [(0, 2, 200), (1, 0, v1), (2, 0, 1), (3, 0, sg_iadd v3 1)] [] G Q
      refine sg_goto (off := -50) (tgt := 4) (by decide +kernel) (by decide) ?_
      exact ((h.2 q5).1 q4)
    · refine sg_blk [(3, 0, 0, 3, 0), (3, 0, 0, 1, 0)] (by decide +kernel) ?_
      refine And.intro rfl (And.intro rfl (?_))
      show sg_Wp 200 228 d m_M_isCaught 18 [(0, 2, 200), (1, 0, v1), (2, 0, v2), (3, 0, v3)] [(0, v1), (0, v3)] G Q
      refine sg_icmp_eq (off := 31) (tgt := 49) (by decide +kernel) (by decide) ⟨fun q3 => ?_, fun q3 => ?_⟩
      · refine sg_blk [(7, 0, 0, 0, 0), (25, 0, 0, 2, 0), (31, 1, 0, 3, 0)] (by decide +kernel) ?_
        refine And.intro rfl (And.intro rfl (And.intro rfl (?_)))
        show sg_Wp 200 228 d m_M_isCaught 54 [(0, 2, 200), (1, 0, v1), (2, 0, 0), (3, 0, sg_iadd v3 1)] [] G Q
        refine sg_goto (off := -50) (tgt := 4) (by decide +kernel) (by decide) ?_
        exact (((h.2 q5).2 q4).1 q3)
      · refine sg_blk [(1, 0, 0, 0, 0), (65, 213, 11, 46, 20), (3, 0, 0, 3, 0), (19, 6, 0, 0, 0)] (by decide +kernel) ?_
        refine And.intro (Nat.le_of_ble_eq_true rfl) (And.intro ce_200 (And.intro rr_200_20 (And.intro rfl (And.intro ce_213 (And.intro (((h.2 q5).2 q4).2 q3).1 (?_))))))
        show sg_Wp 200 228 d m_M_isCaught 27 [(0, 2, 200), (1, 0, v1), (2, 0, v2), (3, 0, v3)] [(0, G 213 v3)] G Q
        refine sg_if_eq (off := 22) (tgt := 49) (by decide +kernel) (by decide) ⟨fun q2 => ?_, fun q2 => ?_⟩
        · refine sg_blk [(7, 0, 0, 0, 0), (25, 0, 0, 2, 0), (31, 1, 0, 3, 0)] (by decide +kernel) ?_
          refine And.intro rfl (And.intro rfl (And.intro rfl (?_)))
          show sg_Wp 200 228 d m_M_isCaught 54 [(0, 2, 200), (1, 0, v1), (2, 0, 0), (3, 0, sg_iadd v3 1)] [] G Q
          refine sg_goto (off := -50) (tgt := 4) (by decide +kernel) (by decide) ?_
          exact ((((h.2 q5).2 q4).2 q3).2.1 q2)
        · refine sg_blk [(1, 0, 0, 0, 0), (65, 210, 11, 37, 17), (3, 0, 0, 3, 0), (17, 6, 0, 0, 0), (1, 0, 0, 0, 0), (65, 210, 11, 37, 17), (3, 0, 0, 1, 0), (17, 6, 0, 0, 0)] (by decide +kernel) ?_
          refine And.intro (Nat.le_of_ble_eq_true rfl) (And.intro ce_200 (And.intro rr_200_17 (And.intro rfl (And.intro ce_210 (And.intro ((((h.2 q5).2 q4).2 q3).2.2 q2).1 (And.intro (Nat.le_of_ble_eq_true rfl) (And.intro ce_200 (And.intro rr_200_17 (And.intro rfl (And.intro ce_210 (And.intro ((((h.2 q5).2 q4).2 q3).2.2 q2).2.1 (?_))))))))))))
          show sg_Wp 200 228 d m_M_isCaught 42 [(0, 2, 200), (1, 0, v1), (2, 0, v2), (3, 0, v3)] [(0, G 210 v1), (0, G 210 v3)] G Q
          refine sg_icmp_ne (off := 7) (tgt := 49) (by decide +kernel) (by decide) ⟨fun q1 => ?_, fun q1 => ?_⟩
          · refine sg_blk [(7, 0, 0, 0, 0), (25, 0, 0, 2, 0), (31, 1, 0, 3, 0)] (by decide +kernel) ?_
            refine And.intro rfl (And.intro rfl (And.intro rfl (?_)))
            show sg_Wp 200 228 d m_M_isCaught 54 [(0, 2, 200), (1, 0, v1), (2, 0, 0), (3, 0, sg_iadd v3 1)] [] G Q
            refine sg_goto (off := -50) (tgt := 4) (by decide +kernel) (by decide) ?_
            exact (((((h.2 q5).2 q4).2 q3).2.2 q2).2.2.1 q1)
          · refine sg_blk [(7, 1, 0, 0, 0)] (by decide +kernel) ?_
            refine And.intro rfl (?_)
            show sg_Wp 200 228 d m_M_isCaught 46 [(0, 2, 200), (1, 0, v1), (2, 0, v2), (3, 0, v3)] [(0, 1)] G Q
            refine sg_goto (off := 4) (tgt := 50) (by decide +kernel) (by decide) ?_
            refine sg_blk [(25, 0, 0, 2, 0), (31, 1, 0, 3, 0)] (by decide +kernel) ?_
            refine And.intro rfl (And.intro rfl (?_))
            show sg_Wp 200 228 d m_M_isCaught 54 [(0, 2, 200), (1, 0, v1), (2, 0, 1), (3, 0, sg_iadd v3 1)] [] G Q
            refine sg_goto (off := -50) (tgt := 4) (by decide +kernel) (by decide) ?_
            exact (((((h.2 q5).2 q4).2 q3).2.2 q2).2.2.2 q1)
set_option maxRecDepth 100000 in
theorem g_M_isPerson_0 {d : Nat} {v1 : Int} {G : SgM} {Q : Int → SgM → Prop} (h : Q (sg_bo (0 ≤ v1 ∧ v1 ≤ (sg_isub (G 200 9) 1))) G) : sg_Wp 200 228 (d + 1) m_M_isPerson 0 [(0, 2, 200), (1, 0, v1)] [] G Q := by
  refine sg_blk [(3, 0, 0, 1, 0), (53, 0, 0, 0, 0), (10, 0, 0, 0, 0), (1, 0, 0, 0, 0), (15, 0, 11, 140, 9), (7, 1, 0, 0, 0), (33, 0, 0, 0, 0), (53, 0, 0, 0, 0)] (by decide +kernel) ?_
  refine And.intro rfl (And.intro (Nat.le_of_ble_eq_true rfl) (And.intro ce_200 (And.intro rfl (?_))))
  show sg_Wp 200 228 (d + 1) m_M_isPerson 10 [(0, 2, 200), (1, 0, v1)] [(1, sg_isub (G 200 9) 1), (1, 0), (1, v1)] G Q
  refine sg_callS (k := d) (y' := m_M_in) (av := [(1, v1), (1, 0), (1, sg_isub (G 200 9) 1)]) (rest := []) (by decide +kernel) cs_M_in ml_11_98 rfl (Nat.le_of_ble_eq_true rfl) (Nat.lt_succ_self d) (Nat.le_of_ble_eq_true rfl) rfl ?_
  show sg_Wp 200 228 d m_M_in 0 [(0, 1, v1), (2, 1, 0), (4, 1, sg_isub (G 200 9) 1)] [] G _
  refine s_M_in ?_
  show sg_Wp 200 228 (d + 1) m_M_isPerson 13 [(0, 2, 200), (1, 0, v1)] [(0, sg_bo (0 ≤ v1 ∧ v1 ≤ (sg_isub (G 200 9) 1)))] G Q
  exact sg_ret (by decide +kernel) rfl (Or.inr ⟨Or.inl rfl, sg_bo01 _⟩) h
set_option maxRecDepth 100000 in
theorem g_M_isPost_0 {d : Nat} {v1 : Int} {G : SgM} {Q : Int → SgM → Prop} (h : Q (sg_bo (0 ≤ v1 ∧ v1 ≤ (sg_isub (G 200 7) 1))) G) : sg_Wp 200 228 (d + 1) m_M_isPost 0 [(0, 2, 200), (1, 0, v1)] [] G Q := by
  refine sg_blk [(3, 0, 0, 1, 0), (53, 0, 0, 0, 0), (10, 0, 0, 0, 0), (1, 0, 0, 0, 0), (15, 0, 11, 134, 7), (7, 1, 0, 0, 0), (33, 0, 0, 0, 0), (53, 0, 0, 0, 0)] (by decide +kernel) ?_
  refine And.intro rfl (And.intro (Nat.le_of_ble_eq_true rfl) (And.intro ce_200 (And.intro rfl (?_))))
  show sg_Wp 200 228 (d + 1) m_M_isPost 10 [(0, 2, 200), (1, 0, v1)] [(1, sg_isub (G 200 7) 1), (1, 0), (1, v1)] G Q
  refine sg_callS (k := d) (y' := m_M_in) (av := [(1, v1), (1, 0), (1, sg_isub (G 200 7) 1)]) (rest := []) (by decide +kernel) cs_M_in ml_11_98 rfl (Nat.le_of_ble_eq_true rfl) (Nat.lt_succ_self d) (Nat.le_of_ble_eq_true rfl) rfl ?_
  show sg_Wp 200 228 d m_M_in 0 [(0, 1, v1), (2, 1, 0), (4, 1, sg_isub (G 200 7) 1)] [] G _
  refine s_M_in ?_
  show sg_Wp 200 228 (d + 1) m_M_isPost 13 [(0, 2, 200), (1, 0, v1)] [(0, sg_bo (0 ≤ v1 ∧ v1 ≤ (sg_isub (G 200 7) 1)))] G Q
  exact sg_ret (by decide +kernel) rfl (Or.inr ⟨Or.inl rfl, sg_bo01 _⟩) h
set_option maxRecDepth 100000 in
theorem g_M_isSneezing_0 {d : Nat} {v1 v2 : Int} {G : SgM} {Q : Int → SgM → Prop} (h : (0 ≤ v2 ∧ v2 < 6) ∧ ((G 212 v2) ≠ 0) ∧ (((sg_irem (sg_iadd v1 1) (G 212 v2)) = 0 → (sg_Wp 200 228 (d + 1) m_M_isSneezing 38 [(0, 2, 200), (1, 0, v1), (2, 0, v2)] [] G Q)) ∧ (¬ ((sg_irem (sg_iadd v1 1) (G 212 v2)) = 0) → ((0 ≤ v2 ∧ v2 < 6) ∧ (sg_Wp 200 228 d m_M_isTold 0 [(0, 2, 200), (1, 0, 0), (2, 0, v1), (3, 0, G 210 v2)] [] G (fun r1 G1 => (r1 ≠ 0 → (sg_Wp 200 228 (d + 1) m_M_isSneezing 38 [(0, 2, 200), (1, 0, v1), (2, 0, v2)] [] G1 Q)) ∧ (¬ (r1 ≠ 0) → (sg_Wp 200 228 d m_M_isTold 0 [(0, 2, 200), (1, 0, 2), (2, 0, v1), (3, 0, 0)] [] G1 (fun r2 G2 => (r2 = 0 → (sg_Wp 200 228 (d + 1) m_M_isSneezing 62 [] [] G2 Q)) ∧ (¬ (r2 = 0) → (sg_Wp 200 228 (d + 1) m_M_isSneezing 38 [(0, 2, 200), (1, 0, v1), (2, 0, v2)] [] G2 Q))))))))))) : sg_Wp 200 228 (d + 1) m_M_isSneezing 0 [(0, 2, 200), (1, 0, v1), (2, 0, v2)] [] G Q := by
  refine sg_blk [(3, 0, 0, 1, 0), (7, 1, 0, 0, 0), (32, 0, 0, 0, 0), (1, 0, 0, 0, 0), (65, 212, 11, 43, 19), (3, 0, 0, 2, 0), (17, 6, 0, 0, 0), (36, 0, 0, 0, 0)] (by decide +kernel) ?_
  refine And.intro rfl (And.intro rfl (And.intro (Nat.le_of_ble_eq_true rfl) (And.intro ce_200 (And.intro rr_200_19 (And.intro rfl (And.intro ce_212 (And.intro h.1 (And.intro h.2.1 (?_)))))))))
  show sg_Wp 200 228 (d + 1) m_M_isSneezing 10 [(0, 2, 200), (1, 0, v1), (2, 0, v2)] [(0, sg_irem (sg_iadd v1 1) (G 212 v2))] G Q
  refine sg_if_eq (off := 28) (tgt := 38) (by decide +kernel) (by decide) ⟨fun q3 => ?_, fun q3 => ?_⟩
  · exact (h.2.2.1 q3)
  · refine sg_blk [(1, 0, 0, 0, 0), (7, 0, 0, 0, 0), (3, 0, 0, 1, 0), (1, 0, 0, 0, 0), (65, 210, 11, 37, 17), (3, 0, 0, 2, 0), (17, 6, 0, 0, 0)] (by decide +kernel) ?_
    refine And.intro (Nat.le_of_ble_eq_true rfl) (And.intro rfl (And.intro rfl (And.intro (Nat.le_of_ble_eq_true rfl) (And.intro ce_200 (And.intro rr_200_17 (And.intro rfl (And.intro ce_210 (And.intro (h.2.2.2 q3).1 (?_)))))))))
    show sg_Wp 200 228 (d + 1) m_M_isSneezing 22 [(0, 2, 200), (1, 0, v1), (2, 0, v2)] [(0, G 210 v2), (0, v1), (0, 0), (2, 200)] G Q
    refine sg_callV (k := d) (y' := m_M_isTold) (av := [(0, 0), (0, v1), (0, G 210 v2)]) (rest := []) (b := 200) (by decide +kernel) cv_M_isTold ml_11_191 ce_200 rfl rfl (Nat.le_of_ble_eq_true rfl) (Nat.lt_succ_self d) (Nat.le_of_ble_eq_true rfl) rfl ?_
    show sg_Wp 200 228 d m_M_isTold 0 [(0, 2, 200), (1, 0, 0), (2, 0, v1), (3, 0, G 210 v2)] [] G _
    refine sg_Wp.mono ((h.2.2.2 q3).2) (fun r1 G1 hhr1 => ?_)
    show sg_Wp 200 228 (d + 1) m_M_isSneezing 25 [(0, 2, 200), (1, 0, v1), (2, 0, v2)] [(0, r1)] G1 Q
    refine sg_if_ne (off := 13) (tgt := 38) (by decide +kernel) (by decide) ⟨fun q2 => ?_, fun q2 => ?_⟩
    · exact (hhr1.1 q2)
    · refine sg_blk [(1, 0, 0, 0, 0), (7, 2, 0, 0, 0), (3, 0, 0, 1, 0), (7, 0, 0, 0, 0)] (by decide +kernel) ?_
      refine And.intro (Nat.le_of_ble_eq_true rfl) (And.intro rfl (And.intro rfl (And.intro rfl (?_))))
      show sg_Wp 200 228 (d + 1) m_M_isSneezing 32 [(0, 2, 200), (1, 0, v1), (2, 0, v2)] [(0, 0), (0, v1), (0, 2), (2, 200)] G1 Q
      refine sg_callV (k := d) (y' := m_M_isTold) (av := [(0, 2), (0, v1), (0, 0)]) (rest := []) (b := 200) (by decide +kernel) cv_M_isTold ml_11_191 ce_200 rfl rfl (Nat.le_of_ble_eq_true rfl) (Nat.lt_succ_self d) (Nat.le_of_ble_eq_true rfl) rfl ?_
      show sg_Wp 200 228 d m_M_isTold 0 [(0, 2, 200), (1, 0, 2), (2, 0, v1), (3, 0, 0)] [] G1 _
      refine sg_Wp.mono ((hhr1.2 q2)) (fun r2 G2 hhr2 => ?_)
      show sg_Wp 200 228 (d + 1) m_M_isSneezing 35 [(0, 2, 200), (1, 0, v1), (2, 0, v2)] [(0, r2)] G2 Q
      refine sg_if_eq (off := 7) (tgt := 42) (by decide +kernel) (by decide) ⟨fun q1 => ?_, fun q1 => ?_⟩
      · refine sg_blk [(7, 0, 0, 0, 0), (25, 0, 0, 3, 0), (3, 0, 0, 3, 0)] (by decide +kernel) ?_
        refine And.intro rfl (And.intro rfl (And.intro rfl (?_)))
        show sg_Wp 200 228 (d + 1) m_M_isSneezing 45 [(0, 2, 200), (1, 0, v1), (2, 0, v2), (3, 0, 0)] [(0, 0)] G2 Q
        refine sg_if_eq (off := 17) (tgt := 62) (by decide +kernel) (by decide) ⟨fun _ => ?_, fun q => absurd (by decide) q⟩
        exact sg_Wp.keepk [] rfl ((hhr2.1 q1))
      · exact (hhr2.2 q1)
set_option maxRecDepth 100000 in
theorem g_M_isSneezing_38 {d : Nat} {v1 v2 : Int} {G : SgM} {Q : Int → SgM → Prop} (h : sg_Wp 200 228 d m_M_isTold 0 [(0, 2, 200), (1, 0, 1), (2, 0, v1), (3, 0, v2)] [] G (fun r3 G3 => (r3 ≠ 0 → (sg_Wp 200 228 (d + 1) m_M_isSneezing 62 [] [] G3 Q)) ∧ (¬ (r3 ≠ 0) → (Q 1 G3)))) : sg_Wp 200 228 (d + 1) m_M_isSneezing 38 [(0, 2, 200), (1, 0, v1), (2, 0, v2)] [] G Q := by
  refine sg_blk [(7, 1, 0, 0, 0)] (by decide +kernel) ?_
  refine And.intro rfl (?_)
  show sg_Wp 200 228 (d + 1) m_M_isSneezing 39 [(0, 2, 200), (1, 0, v1), (2, 0, v2)] [(0, 1)] G Q
  refine sg_goto (off := 4) (tgt := 43) (by decide +kernel) (by decide) ?_
  refine sg_blk [(25, 0, 0, 3, 0), (3, 0, 0, 3, 0)] (by decide +kernel) ?_
  refine And.intro rfl (And.intro rfl (?_))
  show sg_Wp 200 228 (d + 1) m_M_isSneezing 45 [(0, 2, 200), (1, 0, v1), (2, 0, v2), (3, 0, 1)] [(0, 1)] G Q
  refine sg_if_eq (off := 17) (tgt := 62) (by decide +kernel) (by decide) ⟨fun q => absurd q (by decide), fun _ => ?_⟩
  refine sg_blk [(1, 0, 0, 0, 0), (7, 1, 0, 0, 0), (3, 0, 0, 1, 0), (3, 0, 0, 2, 0)] (by decide +kernel) ?_
  refine And.intro (Nat.le_of_ble_eq_true rfl) (And.intro rfl (And.intro rfl (And.intro rfl (?_))))
  show sg_Wp 200 228 (d + 1) m_M_isSneezing 52 [(0, 2, 200), (1, 0, v1), (2, 0, v2), (3, 0, 1)] [(0, v2), (0, v1), (0, 1), (2, 200)] G Q
  refine sg_callV (k := d) (y' := m_M_isTold) (av := [(0, 1), (0, v1), (0, v2)]) (rest := []) (b := 200) (by decide +kernel) cv_M_isTold ml_11_191 ce_200 rfl rfl (Nat.le_of_ble_eq_true rfl) (Nat.lt_succ_self d) (Nat.le_of_ble_eq_true rfl) rfl ?_
  show sg_Wp 200 228 d m_M_isTold 0 [(0, 2, 200), (1, 0, 1), (2, 0, v1), (3, 0, v2)] [] G _
  refine sg_Wp.mono h (fun r3 G3 hhr3 => ?_)
  show sg_Wp 200 228 (d + 1) m_M_isSneezing 55 [(0, 2, 200), (1, 0, v1), (2, 0, v2), (3, 0, 1)] [(0, r3)] G3 Q
  refine sg_if_ne (off := 7) (tgt := 62) (by decide +kernel) (by decide) ⟨fun q4 => ?_, fun q4 => ?_⟩
  · exact sg_Wp.keepk [] rfl ((hhr3.1 q4))
  · refine sg_blk [(7, 1, 0, 0, 0)] (by decide +kernel) ?_
    refine And.intro rfl (?_)
    show sg_Wp 200 228 (d + 1) m_M_isSneezing 59 [(0, 2, 200), (1, 0, v1), (2, 0, v2), (3, 0, 1)] [(0, 1)] G3 Q
    refine sg_goto (off := 4) (tgt := 63) (by decide +kernel) (by decide) ?_
    exact sg_ret (by decide +kernel) rfl (Or.inr ⟨Or.inl rfl, by decide⟩) ((hhr3.2 q4))
set_option maxRecDepth 100000 in
theorem g_M_isSneezing_62 {d : Nat} {G : SgM} {Q : Int → SgM → Prop} (h : Q 0 G) : sg_Wp 200 228 (d + 1) m_M_isSneezing 62 [] [] G Q := by
  refine sg_blk [(7, 0, 0, 0, 0)] (by decide +kernel) ?_
  refine And.intro rfl (?_)
  show sg_Wp 200 228 (d + 1) m_M_isSneezing 63 [] [(0, 0)] G Q
  exact sg_ret (by decide +kernel) rfl (Or.inr ⟨Or.inl rfl, by decide⟩) h
set_option maxRecDepth 100000 in
theorem g_M_isTold_0 {d : Nat} {v1 v2 v3 : Int} {G : SgM} {Q : Int → SgM → Prop} (h : ((G 200 14) ≠ v2 → (sg_Wp 200 228 (d + 1) m_M_isTold 34 [(0, 2, 200), (1, 0, v1), (2, 0, v2), (3, 0, v3), (4, 0, 0), (5, 0, 0)] [] G Q)) ∧ (¬ ((G 200 14) ≠ v2) → (((G 200 15) ≠ v1 → (sg_Wp 200 228 (d + 1) m_M_isTold 34 [(0, 2, 200), (1, 0, v1), (2, 0, v2), (3, 0, v3), (4, 0, 0), (5, 0, 0)] [] G Q)) ∧ (¬ ((G 200 15) ≠ v1) → (((G 200 16) ≠ v3 → (sg_Wp 200 228 (d + 1) m_M_isTold 34 [(0, 2, 200), (1, 0, v1), (2, 0, v2), (3, 0, v3), (4, 0, 0), (5, 0, 0)] [] G Q)) ∧ (¬ ((G 200 16) ≠ v3) → (sg_Wp 200 228 (d + 1) m_M_isTold 34 [(0, 2, 200), (1, 0, v1), (2, 0, v2), (3, 0, v3), (4, 0, 1), (5, 0, 0)] [] G Q))))))) : sg_Wp 200 228 (d + 1) m_M_isTold 0 [(0, 2, 200), (1, 0, v1), (2, 0, v2), (3, 0, v3)] [] G Q := by
  refine sg_blk [(1, 0, 0, 0, 0), (15, 0, 11, 92, 14), (3, 0, 0, 2, 0)] (by decide +kernel) ?_
  refine And.intro (Nat.le_of_ble_eq_true rfl) (And.intro ce_200 (And.intro rfl (?_)))
  show sg_Wp 200 228 (d + 1) m_M_isTold 5 [(0, 2, 200), (1, 0, v1), (2, 0, v2), (3, 0, v3)] [(0, v2), (0, G 200 14)] G Q
  refine sg_icmp_ne (off := 23) (tgt := 28) (by decide +kernel) (by decide) ⟨fun q3 => ?_, fun q3 => ?_⟩
  · refine sg_blk [(7, 0, 0, 0, 0), (26, 0, 0, 4, 0), (7, 0, 0, 0, 0), (26, 0, 0, 5, 0)] (by decide +kernel) ?_
    refine And.intro rfl (And.intro rfl (And.intro rfl (And.intro rfl (?_))))
    show sg_Wp 200 228 (d + 1) m_M_isTold 34 [(0, 2, 200), (1, 0, v1), (2, 0, v2), (3, 0, v3), (4, 0, 0), (5, 0, 0)] [] G Q
    exact (h.1 q3)
  · refine sg_blk [(1, 0, 0, 0, 0), (15, 0, 11, 178, 15), (3, 0, 0, 1, 0)] (by decide +kernel) ?_
    refine And.intro (Nat.le_of_ble_eq_true rfl) (And.intro ce_200 (And.intro rfl (?_)))
    show sg_Wp 200 228 (d + 1) m_M_isTold 13 [(0, 2, 200), (1, 0, v1), (2, 0, v2), (3, 0, v3)] [(0, v1), (0, G 200 15)] G Q
    refine sg_icmp_ne (off := 15) (tgt := 28) (by decide +kernel) (by decide) ⟨fun q2 => ?_, fun q2 => ?_⟩
    · refine sg_blk [(7, 0, 0, 0, 0), (26, 0, 0, 4, 0), (7, 0, 0, 0, 0), (26, 0, 0, 5, 0)] (by decide +kernel) ?_
      refine And.intro rfl (And.intro rfl (And.intro rfl (And.intro rfl (?_))))
      show sg_Wp 200 228 (d + 1) m_M_isTold 34 [(0, 2, 200), (1, 0, v1), (2, 0, v2), (3, 0, v3), (4, 0, 0), (5, 0, 0)] [] G Q
      exact ((h.2 q3).1 q2)
    · refine sg_blk [(1, 0, 0, 0, 0), (15, 0, 11, 181, 16), (3, 0, 0, 3, 0)] (by decide +kernel) ?_
      refine And.intro (Nat.le_of_ble_eq_true rfl) (And.intro ce_200 (And.intro rfl (?_)))
      show sg_Wp 200 228 (d + 1) m_M_isTold 21 [(0, 2, 200), (1, 0, v1), (2, 0, v2), (3, 0, v3)] [(0, v3), (0, G 200 16)] G Q
      refine sg_icmp_ne (off := 7) (tgt := 28) (by decide +kernel) (by decide) ⟨fun q1 => ?_, fun q1 => ?_⟩
      · refine sg_blk [(7, 0, 0, 0, 0), (26, 0, 0, 4, 0), (7, 0, 0, 0, 0), (26, 0, 0, 5, 0)] (by decide +kernel) ?_
        refine And.intro rfl (And.intro rfl (And.intro rfl (And.intro rfl (?_))))
        show sg_Wp 200 228 (d + 1) m_M_isTold 34 [(0, 2, 200), (1, 0, v1), (2, 0, v2), (3, 0, v3), (4, 0, 0), (5, 0, 0)] [] G Q
        exact (((h.2 q3).2 q2).1 q1)
      · refine sg_blk [(7, 1, 0, 0, 0)] (by decide +kernel) ?_
        refine And.intro rfl (?_)
        show sg_Wp 200 228 (d + 1) m_M_isTold 25 [(0, 2, 200), (1, 0, v1), (2, 0, v2), (3, 0, v3)] [(0, 1)] G Q
        refine sg_goto (off := 4) (tgt := 29) (by decide +kernel) (by decide) ?_
        refine sg_blk [(26, 0, 0, 4, 0), (7, 0, 0, 0, 0), (26, 0, 0, 5, 0)] (by decide +kernel) ?_
        refine And.intro rfl (And.intro rfl (And.intro rfl (?_)))
        show sg_Wp 200 228 (d + 1) m_M_isTold 34 [(0, 2, 200), (1, 0, v1), (2, 0, v2), (3, 0, v3), (4, 0, 1), (5, 0, 0)] [] G Q
        exact (((h.2 q3).2 q2).2 q1)
set_option maxRecDepth 100000 in
theorem g_M_isTold_34 {d : Nat} {v1 v2 v3 v4 v5 : Int} {G : SgM} {Q : Int → SgM → Prop} (h : ((G 200 11) ≤ v5 → ((v4 = 0 ∨ v4 = 1) ∧ Q v4 G)) ∧ (¬ ((G 200 11) ≤ v5) → ((0 ≤ (sg_imul 3 v5) ∧ (sg_imul 3 v5) < 24) ∧ (((G 209 (sg_imul 3 v5)) ≠ v1 → (sg_Wp 200 228 (d + 1) m_M_isTold 95 [(0, 2, 200), (1, 0, v1), (2, 0, v2), (3, 0, v3), (4, 0, v4), (5, 0, v5)] [] G Q)) ∧ (¬ ((G 209 (sg_imul 3 v5)) ≠ v1) → ((0 ≤ (sg_iadd (sg_imul 3 v5) 1) ∧ (sg_iadd (sg_imul 3 v5) 1) < 24) ∧ (((G 209 (sg_iadd (sg_imul 3 v5) 1)) ≠ v2 → (sg_Wp 200 228 (d + 1) m_M_isTold 95 [(0, 2, 200), (1, 0, v1), (2, 0, v2), (3, 0, v3), (4, 0, v4), (5, 0, v5)] [] G Q)) ∧ (¬ ((G 209 (sg_iadd (sg_imul 3 v5) 1)) ≠ v2) → ((v1 = 2 → (sg_Wp 200 228 (d + 1) m_M_isTold 91 [(0, 2, 200), (1, 0, v1), (2, 0, v2), (3, 0, v3), (4, 0, v4), (5, 0, v5)] [] G Q)) ∧ (¬ (v1 = 2) → ((0 ≤ (sg_iadd (sg_imul 3 v5) 2) ∧ (sg_iadd (sg_imul 3 v5) 2) < 24) ∧ (((G 209 (sg_iadd (sg_imul 3 v5) 2)) ≠ v3 → (sg_Wp 200 228 (d + 1) m_M_isTold 95 [(0, 2, 200), (1, 0, v1), (2, 0, v2), (3, 0, v3), (4, 0, v4), (5, 0, v5)] [] G Q)) ∧ (¬ ((G 209 (sg_iadd (sg_imul 3 v5) 2)) ≠ v3) → (sg_Wp 200 228 (d + 1) m_M_isTold 91 [(0, 2, 200), (1, 0, v1), (2, 0, v2), (3, 0, v3), (4, 0, v4), (5, 0, v5)] [] G Q)))))))))))))) : sg_Wp 200 228 (d + 1) m_M_isTold 34 [(0, 2, 200), (1, 0, v1), (2, 0, v2), (3, 0, v3), (4, 0, v4), (5, 0, v5)] [] G Q := by
  refine sg_blk [(4, 0, 0, 5, 0), (1, 0, 0, 0, 0), (15, 0, 11, 164, 11)] (by decide +kernel) ?_
  refine And.intro rfl (And.intro (Nat.le_of_ble_eq_true rfl) (And.intro ce_200 (?_)))
  show sg_Wp 200 228 (d + 1) m_M_isTold 40 [(0, 2, 200), (1, 0, v1), (2, 0, v2), (3, 0, v3), (4, 0, v4), (5, 0, v5)] [(0, G 200 11), (0, v5)] G Q
  refine sg_icmp_ge (off := 93) (tgt := 133) (by decide +kernel) (by decide) ⟨fun q8 => ?_, fun q8 => ?_⟩
  · refine sg_blk [(4, 0, 0, 4, 0)] (by decide +kernel) ?_
    refine And.intro rfl (?_)
    show sg_Wp 200 228 (d + 1) m_M_isTold 135 [(0, 2, 200), (1, 0, v1), (2, 0, v2), (3, 0, v3), (4, 0, v4), (5, 0, v5)] [(0, v4)] G Q
    exact sg_ret (by decide +kernel) rfl (Or.inr ⟨Or.inl rfl, (h.1 q8).1⟩) (h.1 q8).2
  · refine sg_blk [(1, 0, 0, 0, 0), (65, 209, 11, 34, 12), (7, 3, 0, 0, 0), (4, 0, 0, 5, 0), (34, 0, 0, 0, 0), (17, 24, 0, 0, 0), (3, 0, 0, 1, 0)] (by decide +kernel) ?_
    refine And.intro (Nat.le_of_ble_eq_true rfl) (And.intro ce_200 (And.intro rr_200_12 (And.intro rfl (And.intro rfl (And.intro ce_209 (And.intro (h.2 q8).1 (And.intro rfl (?_))))))))
    show sg_Wp 200 228 (d + 1) m_M_isTold 53 [(0, 2, 200), (1, 0, v1), (2, 0, v2), (3, 0, v3), (4, 0, v4), (5, 0, v5)] [(0, v1), (0, G 209 (sg_imul 3 v5))] G Q
    refine sg_icmp_ne (off := 42) (tgt := 95) (by decide +kernel) (by decide) ⟨fun q7 => ?_, fun q7 => ?_⟩
    · exact ((h.2 q8).2.1 q7)
    · refine sg_blk [(1, 0, 0, 0, 0), (65, 209, 11, 34, 12), (7, 3, 0, 0, 0), (4, 0, 0, 5, 0), (34, 0, 0, 0, 0), (7, 1, 0, 0, 0), (32, 0, 0, 0, 0), (17, 24, 0, 0, 0), (3, 0, 0, 2, 0)] (by decide +kernel) ?_
      refine And.intro (Nat.le_of_ble_eq_true rfl) (And.intro ce_200 (And.intro rr_200_12 (And.intro rfl (And.intro rfl (And.intro rfl (And.intro ce_209 (And.intro ((h.2 q8).2.2 q7).1 (And.intro rfl (?_)))))))))
      show sg_Wp 200 228 (d + 1) m_M_isTold 68 [(0, 2, 200), (1, 0, v1), (2, 0, v2), (3, 0, v3), (4, 0, v4), (5, 0, v5)] [(0, v2), (0, G 209 (sg_iadd (sg_imul 3 v5) 1))] G Q
      refine sg_icmp_ne (off := 27) (tgt := 95) (by decide +kernel) (by decide) ⟨fun q6 => ?_, fun q6 => ?_⟩
      · exact (((h.2 q8).2.2 q7).2.1 q6)
      · refine sg_blk [(3, 0, 0, 1, 0), (7, 2, 0, 0, 0)] (by decide +kernel) ?_
        refine And.intro rfl (And.intro rfl (?_))
        show sg_Wp 200 228 (d + 1) m_M_isTold 73 [(0, 2, 200), (1, 0, v1), (2, 0, v2), (3, 0, v3), (4, 0, v4), (5, 0, v5)] [(0, 2), (0, v1)] G Q
        refine sg_icmp_eq (off := 18) (tgt := 91) (by decide +kernel) (by decide) ⟨fun q5 => ?_, fun q5 => ?_⟩
        · exact ((((h.2 q8).2.2 q7).2.2 q6).1 q5)
        · refine sg_blk [(1, 0, 0, 0, 0), (65, 209, 11, 34, 12), (7, 3, 0, 0, 0), (4, 0, 0, 5, 0), (34, 0, 0, 0, 0), (7, 2, 0, 0, 0), (32, 0, 0, 0, 0), (17, 24, 0, 0, 0), (3, 0, 0, 3, 0)] (by decide +kernel) ?_
          refine And.intro (Nat.le_of_ble_eq_true rfl) (And.intro ce_200 (And.intro rr_200_12 (And.intro rfl (And.intro rfl (And.intro rfl (And.intro ce_209 (And.intro ((((h.2 q8).2.2 q7).2.2 q6).2 q5).1 (And.intro rfl (?_)))))))))
          show sg_Wp 200 228 (d + 1) m_M_isTold 88 [(0, 2, 200), (1, 0, v1), (2, 0, v2), (3, 0, v3), (4, 0, v4), (5, 0, v5)] [(0, v3), (0, G 209 (sg_iadd (sg_imul 3 v5) 2))] G Q
          refine sg_icmp_ne (off := 7) (tgt := 95) (by decide +kernel) (by decide) ⟨fun q4 => ?_, fun q4 => ?_⟩
          · exact (((((h.2 q8).2.2 q7).2.2 q6).2 q5).2.1 q4)
          · exact (((((h.2 q8).2.2 q7).2.2 q6).2 q5).2.2 q4)
set_option maxRecDepth 100000 in
theorem g_M_isTold_95 {d : Nat} {v1 v2 v3 v4 v5 : Int} {G : SgM} {Q : Int → SgM → Prop} (h : (v4 ≠ 0 → (sg_Wp 200 228 (d + 1) m_M_isTold 120 [(0, 2, 200), (1, 0, v1), (2, 0, v2), (3, 0, v3), (5, 0, v5)] [] G Q)) ∧ (¬ (v4 ≠ 0) → (sg_Wp 200 228 (d + 1) m_M_isTold 124 [(0, 2, 200), (1, 0, v1), (2, 0, v2), (3, 0, v3), (5, 0, v5)] [] G Q))) : sg_Wp 200 228 (d + 1) m_M_isTold 95 [(0, 2, 200), (1, 0, v1), (2, 0, v2), (3, 0, v3), (4, 0, v4), (5, 0, v5)] [] G Q := by
  refine sg_blk [(7, 0, 0, 0, 0), (26, 0, 0, 6, 0), (4, 0, 0, 4, 0)] (by decide +kernel) ?_
  refine And.intro rfl (And.intro rfl (And.intro rfl (?_)))
  show sg_Wp 200 228 (d + 1) m_M_isTold 100 [(0, 2, 200), (1, 0, v1), (2, 0, v2), (3, 0, v3), (4, 0, v4), (5, 0, v5), (6, 0, 0)] [(0, v4)] G Q
  refine sg_if_ne (off := 20) (tgt := 120) (by decide +kernel) (by decide) ⟨fun q9 => ?_, fun q9 => ?_⟩
  · exact sg_Wp.keepk [0, 1, 2, 3, 5] rfl ((h.1 q9))
  · refine sg_blk [(4, 0, 0, 6, 0)] (by decide +kernel) ?_
    refine And.intro rfl (?_)
    show sg_Wp 200 228 (d + 1) m_M_isTold 105 [(0, 2, 200), (1, 0, v1), (2, 0, v2), (3, 0, v3), (4, 0, v4), (5, 0, v5), (6, 0, 0)] [(0, 0)] G Q
    refine sg_if_eq (off := 19) (tgt := 124) (by decide +kernel) (by decide) ⟨fun _ => ?_, fun q => absurd (by decide) q⟩
    exact sg_Wp.keepk [0, 1, 2, 3, 5] rfl ((h.2 q9))
set_option maxRecDepth 100000 in
theorem g_M_isTold_91 {d : Nat} {v1 v2 v3 v4 v5 : Int} {G : SgM} {Q : Int → SgM → Prop} (h : (v4 ≠ 0 → (sg_Wp 200 228 (d + 1) m_M_isTold 120 [(0, 2, 200), (1, 0, v1), (2, 0, v2), (3, 0, v3), (5, 0, v5)] [] G Q)) ∧ (¬ (v4 ≠ 0) → (((sg_iand (sg_ishr (G 200 13) v5) 1 = 1) → (sg_Wp 200 228 (d + 1) m_M_isTold 124 [(0, 2, 200), (1, 0, v1), (2, 0, v2), (3, 0, v3), (5, 0, v5)] [] G Q)) ∧ (¬ (sg_iand (sg_ishr (G 200 13) v5) 1 = 1) → (sg_Wp 200 228 (d + 1) m_M_isTold 120 [(0, 2, 200), (1, 0, v1), (2, 0, v2), (3, 0, v3), (5, 0, v5)] [] G Q))))) : sg_Wp 200 228 (d + 1) m_M_isTold 91 [(0, 2, 200), (1, 0, v1), (2, 0, v2), (3, 0, v3), (4, 0, v4), (5, 0, v5)] [] G Q := by
  refine sg_blk [(7, 1, 0, 0, 0)] (by decide +kernel) ?_
  refine And.intro rfl (?_)
  show sg_Wp 200 228 (d + 1) m_M_isTold 92 [(0, 2, 200), (1, 0, v1), (2, 0, v2), (3, 0, v3), (4, 0, v4), (5, 0, v5)] [(0, 1)] G Q
  refine sg_goto (off := 4) (tgt := 96) (by decide +kernel) (by decide) ?_
  refine sg_blk [(26, 0, 0, 6, 0), (4, 0, 0, 4, 0)] (by decide +kernel) ?_
  refine And.intro rfl (And.intro rfl (?_))
  show sg_Wp 200 228 (d + 1) m_M_isTold 100 [(0, 2, 200), (1, 0, v1), (2, 0, v2), (3, 0, v3), (4, 0, v4), (5, 0, v5), (6, 0, 1)] [(0, v4)] G Q
  refine sg_if_ne (off := 20) (tgt := 120) (by decide +kernel) (by decide) ⟨fun q11 => ?_, fun q11 => ?_⟩
  · exact sg_Wp.keepk [0, 1, 2, 3, 5] rfl ((h.1 q11))
  · refine sg_blk [(4, 0, 0, 6, 0)] (by decide +kernel) ?_
    refine And.intro rfl (?_)
    show sg_Wp 200 228 (d + 1) m_M_isTold 105 [(0, 2, 200), (1, 0, v1), (2, 0, v2), (3, 0, v3), (4, 0, v4), (5, 0, v5), (6, 0, 1)] [(0, 1)] G Q
    refine sg_if_eq (off := 19) (tgt := 124) (by decide +kernel) (by decide) ⟨fun q => absurd q (by decide), fun _ => ?_⟩
    refine sg_blk [(1, 0, 0, 0, 0), (15, 0, 11, 184, 13), (4, 0, 0, 5, 0)] (by decide +kernel) ?_
    refine And.intro (Nat.le_of_ble_eq_true rfl) (And.intro ce_200 (And.intro rfl (?_)))
    show sg_Wp 200 228 (d + 1) m_M_isTold 114 [(0, 2, 200), (1, 0, v1), (2, 0, v2), (3, 0, v3), (4, 0, v4), (5, 0, v5), (6, 0, 1)] [(0, v5), (0, G 200 13)] G Q
    refine sg_callS (k := d) (y' := m_M_isIn) (av := [(0, G 200 13), (0, v5)]) (rest := []) (by decide +kernel) cs_M_isIn ml_11_187 rfl (Nat.le_of_ble_eq_true rfl) (Nat.lt_succ_self d) (Nat.le_of_ble_eq_true rfl) rfl ?_
    show sg_Wp 200 228 d m_M_isIn 0 [(0, 0, G 200 13), (1, 0, v5)] [] G _
    refine s_M_isIn ?_
    show sg_Wp 200 228 (d + 1) m_M_isTold 117 [(0, 2, 200), (1, 0, v1), (2, 0, v2), (3, 0, v3), (4, 0, v4), (5, 0, v5), (6, 0, 1)] [(0, sg_bo (sg_iand (sg_ishr (G 200 13) v5) 1 = 1))] G Q
    refine sg_bif_ne (off := 7) (tgt := 124) (by decide +kernel) (by decide) ⟨fun q10 => ?_, fun q10 => ?_⟩
    · exact sg_Wp.keepk [0, 1, 2, 3, 5] rfl (((h.2 q11).1 q10))
    · exact sg_Wp.keepk [0, 1, 2, 3, 5] rfl (((h.2 q11).2 q10))
set_option maxRecDepth 100000 in
theorem g_M_isTold_120 {d : Nat} {v1 v2 v3 v5 : Int} {G : SgM} {Q : Int → SgM → Prop} (h : sg_Wp 200 228 (d + 1) m_M_isTold 34 [(0, 2, 200), (1, 0, v1), (2, 0, v2), (3, 0, v3), (4, 0, 1), (5, 0, sg_iadd v5 1)] [] G Q) : sg_Wp 200 228 (d + 1) m_M_isTold 120 [(0, 2, 200), (1, 0, v1), (2, 0, v2), (3, 0, v3), (5, 0, v5)] [] G Q := by
  refine sg_blk [(7, 1, 0, 0, 0)] (by decide +kernel) ?_
  refine And.intro rfl (?_)
  show sg_Wp 200 228 (d + 1) m_M_isTold 121 [(0, 2, 200), (1, 0, v1), (2, 0, v2), (3, 0, v3), (5, 0, v5)] [(0, 1)] G Q
  refine sg_goto (off := 4) (tgt := 125) (by decide +kernel) (by decide) ?_
  refine sg_blk [(26, 0, 0, 4, 0), (31, 1, 0, 5, 0)] (by decide +kernel) ?_
  refine And.intro rfl (And.intro rfl (?_))
  show sg_Wp 200 228 (d + 1) m_M_isTold 130 [(0, 2, 200), (1, 0, v1), (2, 0, v2), (3, 0, v3), (5, 0, sg_iadd v5 1), (4, 0, 1)] [] G Q
  refine sg_goto (off := -96) (tgt := 34) (by decide +kernel) (by decide) ?_
  exact sg_Wp.keepk [0, 1, 2, 3, 5, 4] rfl h
set_option maxRecDepth 100000 in
theorem g_M_isTold_124 {d : Nat} {v1 v2 v3 v5 : Int} {G : SgM} {Q : Int → SgM → Prop} (h : sg_Wp 200 228 (d + 1) m_M_isTold 34 [(0, 2, 200), (1, 0, v1), (2, 0, v2), (3, 0, v3), (4, 0, 0), (5, 0, sg_iadd v5 1)] [] G Q) : sg_Wp 200 228 (d + 1) m_M_isTold 124 [(0, 2, 200), (1, 0, v1), (2, 0, v2), (3, 0, v3), (5, 0, v5)] [] G Q := by
  refine sg_blk [(7, 0, 0, 0, 0), (26, 0, 0, 4, 0), (31, 1, 0, 5, 0)] (by decide +kernel) ?_
  refine And.intro rfl (And.intro rfl (And.intro rfl (?_)))
  show sg_Wp 200 228 (d + 1) m_M_isTold 130 [(0, 2, 200), (1, 0, v1), (2, 0, v2), (3, 0, v3), (5, 0, sg_iadd v5 1), (4, 0, 0)] [] G Q
  refine sg_goto (off := -96) (tgt := 34) (by decide +kernel) (by decide) ?_
  exact sg_Wp.keepk [0, 1, 2, 3, 5, 4] rfl h
set_option maxRecDepth 100000 in
theorem g_M_keeps_0 {d : Nat} {v1 v2 v3 : Int} {G : SgM} {Q : Int → SgM → Prop} (h : (0 ≤ (sg_imul 3 (G 200 11)) ∧ (sg_imul 3 (G 200 11)) < 24) ∧ (0 ≤ (sg_iadd (sg_imul 3 (G 200 11)) 1) ∧ (sg_iadd (sg_imul 3 (G 200 11)) 1) < 24) ∧ (0 ≤ (sg_iadd (sg_imul 3 (G 200 11)) 2) ∧ (sg_iadd (sg_imul 3 (G 200 11)) 2) < 24) ∧ (Q 0 (sg_up (sg_up (sg_up (sg_up G 209 (sg_imul 3 (G 200 11)) v1) 209 (sg_iadd (sg_imul 3 (G 200 11)) 1) v2) 209 (sg_iadd (sg_imul 3 (G 200 11)) 2) v3) 200 11 (sg_iadd (G 200 11) 1)))) : sg_Wp 200 228 d m_M_keeps 0 [(0, 2, 200), (1, 0, v1), (2, 0, v2), (3, 0, v3)] [] G Q := by
  refine sg_blk [(1, 0, 0, 0, 0), (65, 209, 11, 34, 12), (7, 3, 0, 0, 0), (1, 0, 0, 0, 0), (15, 0, 11, 164, 11), (34, 0, 0, 0, 0), (3, 0, 0, 1, 0), (18, 24, 0, 0, 0), (1, 0, 0, 0, 0), (65, 209, 11, 34, 12), (7, 3, 0, 0, 0), (1, 0, 0, 0, 0), (15, 0, 11, 164, 11), (34, 0, 0, 0, 0), (7, 1, 0, 0, 0), (32, 0, 0, 0, 0), (3, 0, 0, 2, 0), (18, 24, 0, 0, 0), (1, 0, 0, 0, 0), (65, 209, 11, 34, 12), (7, 3, 0, 0, 0), (1, 0, 0, 0, 0), (15, 0, 11, 164, 11), (34, 0, 0, 0, 0), (7, 2, 0, 0, 0), (32, 0, 0, 0, 0), (3, 0, 0, 3, 0), (18, 24, 0, 0, 0), (1, 0, 0, 0, 0), (57, 0, 0, 0, 0), (15, 0, 11, 164, 11), (7, 1, 0, 0, 0), (32, 0, 0, 0, 0), (16, 0, 11, 164, 11)] (by decide +kernel) ?_
  refine And.intro (Nat.le_of_ble_eq_true rfl) (And.intro ce_200 (And.intro rr_200_12 (And.intro rfl (And.intro (Nat.le_of_ble_eq_true rfl) (And.intro ce_200 (And.intro rfl (And.intro ce_209 (And.intro h.1 (And.intro (Nat.le_of_ble_eq_true rfl) (And.intro ce_200 (And.intro rr_200_12 (And.intro rfl (And.intro (Nat.le_of_ble_eq_true rfl) (And.intro ce_200 (And.intro rfl (And.intro rfl (And.intro ce_209 (And.intro h.2.1 (And.intro (Nat.le_of_ble_eq_true rfl) (And.intro ce_200 (And.intro rr_200_12 (And.intro rfl (And.intro (Nat.le_of_ble_eq_true rfl) (And.intro ce_200 (And.intro rfl (And.intro rfl (And.intro ce_209 (And.intro h.2.2.1 (And.intro (Nat.le_of_ble_eq_true rfl) (And.intro (Nat.ne_of_beq_eq_false rfl) (And.intro ce_200 (And.intro rfl (And.intro ce_200 (?_))))))))))))))))))))))))))))))))))
  show sg_Wp 200 228 d m_M_keeps 50 [(0, 2, 200), (1, 0, v1), (2, 0, v2), (3, 0, v3)] [] (sg_up (sg_up (sg_up (sg_up G 209 (sg_imul 3 (G 200 11)) v1) 209 (sg_iadd (sg_imul 3 (G 200 11)) 1) v2) 209 (sg_iadd (sg_imul 3 (G 200 11)) 2) v3) 200 11 (sg_iadd (G 200 11) 1)) Q
  exact sg_vret (by decide +kernel) rfl h.2.2.2
set_option maxRecDepth 100000 in
theorem g_M_lives_0 {d : Nat} {G : SgM} {Q : Int → SgM → Prop} (h : sg_Wp 200 228 (d + 1) m_M_lives 2 [(0, 2, 200), (1, 0, 0)] [] G Q) : sg_Wp 200 228 (d + 1) m_M_lives 0 [(0, 2, 200)] [] G Q := by
  refine sg_blk [(7, 0, 0, 0, 0), (25, 0, 0, 1, 0)] (by decide +kernel) ?_
  refine And.intro rfl (And.intro rfl (?_))
  show sg_Wp 200 228 (d + 1) m_M_lives 2 [(0, 2, 200), (1, 0, 0)] [] G Q
  exact h
set_option maxRecDepth 100000 in
theorem g_M_lives_2 {d : Nat} {v1 : Int} {G : SgM} {Q : Int → SgM → Prop} (h : ((G 200 9) ≤ v1 → (sg_Wp 200 228 (d + 1) m_M_lives 80 [(0, 2, 200), (1, 0, 0)] [] G Q)) ∧ (¬ ((G 200 9) ≤ v1) → ((0 ≤ (sg_iadd (sg_imul 4 v1) 1) ∧ (sg_iadd (sg_imul 4 v1) 1) < 24) ∧ (0 ≤ v1 ∧ v1 < 6) ∧ (0 ≤ (sg_iadd (sg_imul 4 v1) 2) ∧ (sg_iadd (sg_imul 4 v1) 2) < 24) ∧ (0 ≤ v1 ∧ v1 < 6) ∧ (0 ≤ (sg_iadd (sg_imul 4 v1) 3) ∧ (sg_iadd (sg_imul 4 v1) 3) < 24) ∧ (0 ≤ v1 ∧ v1 < 6) ∧ (0 ≤ v1 ∧ v1 < 6) ∧ (0 ≤ v1 ∧ v1 < 6) ∧ (sg_Wp 200 228 (d + 1) m_M_lives 2 [(0, 2, 200), (1, 0, sg_iadd v1 1)] [] (sg_up (sg_up (sg_up (sg_up (sg_up G 210 v1 (G 208 (sg_iadd (sg_imul 4 v1) 1))) 211 v1 (G 208 (sg_iadd (sg_imul 4 v1) 2))) 212 v1 (G 208 (sg_iadd (sg_imul 4 v1) 3))) 214 v1 0) 215 v1 0) Q)))) : sg_Wp 200 228 (d + 1) m_M_lives 2 [(0, 2, 200), (1, 0, v1)] [] G Q := by
  refine sg_blk [(3, 0, 0, 1, 0), (1, 0, 0, 0, 0), (15, 0, 11, 140, 9)] (by decide +kernel) ?_
  refine And.intro rfl (And.intro (Nat.le_of_ble_eq_true rfl) (And.intro ce_200 (?_)))
  show sg_Wp 200 228 (d + 1) m_M_lives 7 [(0, 2, 200), (1, 0, v1)] [(0, G 200 9), (0, v1)] G Q
  refine sg_icmp_ge (off := 71) (tgt := 78) (by decide +kernel) (by decide) ⟨fun q1 => ?_, fun q1 => ?_⟩
  · refine sg_blk [(7, 0, 0, 0, 0), (25, 0, 0, 1, 0)] (by decide +kernel) ?_
    refine And.intro rfl (And.intro rfl (?_))
    show sg_Wp 200 228 (d + 1) m_M_lives 80 [(0, 2, 200), (1, 0, 0)] [] G Q
    exact (h.1 q1)
  · refine sg_blk [(1, 0, 0, 0, 0), (65, 210, 11, 37, 17), (3, 0, 0, 1, 0), (1, 0, 0, 0, 0), (65, 208, 11, 31, 10), (7, 4, 0, 0, 0), (3, 0, 0, 1, 0), (34, 0, 0, 0, 0), (7, 1, 0, 0, 0), (32, 0, 0, 0, 0), (17, 24, 0, 0, 0), (18, 6, 0, 0, 0), (1, 0, 0, 0, 0), (65, 211, 11, 40, 18), (3, 0, 0, 1, 0), (1, 0, 0, 0, 0), (65, 208, 11, 31, 10), (7, 4, 0, 0, 0), (3, 0, 0, 1, 0), (34, 0, 0, 0, 0), (7, 2, 0, 0, 0), (32, 0, 0, 0, 0), (17, 24, 0, 0, 0), (18, 6, 0, 0, 0), (1, 0, 0, 0, 0), (65, 212, 11, 43, 19), (3, 0, 0, 1, 0), (1, 0, 0, 0, 0), (65, 208, 11, 31, 10), (7, 4, 0, 0, 0), (3, 0, 0, 1, 0), (34, 0, 0, 0, 0), (7, 3, 0, 0, 0), (32, 0, 0, 0, 0), (17, 24, 0, 0, 0), (18, 6, 0, 0, 0), (1, 0, 0, 0, 0), (65, 214, 11, 50, 21), (3, 0, 0, 1, 0), (7, 0, 0, 0, 0), (18, 6, 0, 0, 0), (1, 0, 0, 0, 0), (65, 215, 11, 53, 22), (3, 0, 0, 1, 0), (7, 0, 0, 0, 0), (18, 6, 0, 0, 0), (31, 1, 0, 1, 0)] (by decide +kernel) ?_
    refine And.intro (Nat.le_of_ble_eq_true rfl) (And.intro ce_200 (And.intro rr_200_17 (And.intro rfl (And.intro (Nat.le_of_ble_eq_true rfl) (And.intro ce_200 (And.intro rr_200_10 (And.intro rfl (And.intro rfl (And.intro rfl (And.intro ce_208 (And.intro (h.2 q1).1 (And.intro ce_210 (And.intro (h.2 q1).2.1 (And.intro (Nat.le_of_ble_eq_true rfl) (And.intro ce_200 (And.intro rr_200_18 (And.intro rfl (And.intro (Nat.le_of_ble_eq_true rfl) (And.intro ce_200 (And.intro rr_200_10 (And.intro rfl (And.intro rfl (And.intro rfl (And.intro ce_208 (And.intro (h.2 q1).2.2.1 (And.intro ce_211 (And.intro (h.2 q1).2.2.2.1 (And.intro (Nat.le_of_ble_eq_true rfl) (And.intro ce_200 (And.intro rr_200_19 (And.intro rfl (And.intro (Nat.le_of_ble_eq_true rfl) (And.intro ce_200 (And.intro rr_200_10 (And.intro rfl (And.intro rfl (And.intro rfl (And.intro ce_208 (And.intro (h.2 q1).2.2.2.2.1 (And.intro ce_212 (And.intro (h.2 q1).2.2.2.2.2.1 (And.intro (Nat.le_of_ble_eq_true rfl) (And.intro ce_200 (And.intro rr_200_21 (And.intro rfl (And.intro rfl (And.intro ce_214 (And.intro (h.2 q1).2.2.2.2.2.2.1 (And.intro (Nat.le_of_ble_eq_true rfl) (And.intro ce_200 (And.intro rr_200_22 (And.intro rfl (And.intro rfl (And.intro ce_215 (And.intro (h.2 q1).2.2.2.2.2.2.2.1 (And.intro rfl (?_)))))))))))))))))))))))))))))))))))))))))))))))))))))))))
    show sg_Wp 200 228 (d + 1) m_M_lives 75 [(0, 2, 200), (1, 0, sg_iadd v1 1)] [] (sg_up (sg_up (sg_up (sg_up (sg_up G 210 v1 (G 208 (sg_iadd (sg_imul 4 v1) 1))) 211 v1 (G 208 (sg_iadd (sg_imul 4 v1) 2))) 212 v1 (G 208 (sg_iadd (sg_imul 4 v1) 3))) 214 v1 0) 215 v1 0) Q
    refine sg_goto (off := -73) (tgt := 2) (by decide +kernel) (by decide) ?_
    exact (h.2 q1).2.2.2.2.2.2.2.2
set_option maxRecDepth 100000 in
theorem g_M_lives_80 {d : Nat} {v1 : Int} {G : SgM} {Q : Int → SgM → Prop} (h : ((G 200 7) ≤ v1 → (sg_Wp 200 228 (d + 1) m_M_lives 110 [(0, 2, 200), (1, 0, 0)] [] G Q)) ∧ (¬ ((G 200 7) ≤ v1) → ((0 ≤ v1 ∧ v1 < 8) ∧ (0 ≤ v1 ∧ v1 < 8) ∧ (sg_Wp 200 228 (d + 1) m_M_lives 80 [(0, 2, 200), (1, 0, sg_iadd v1 1)] [] (sg_up (sg_up G 216 v1 0) 217 v1 0) Q)))) : sg_Wp 200 228 (d + 1) m_M_lives 80 [(0, 2, 200), (1, 0, v1)] [] G Q := by
  refine sg_blk [(3, 0, 0, 1, 0), (1, 0, 0, 0, 0), (15, 0, 11, 134, 7)] (by decide +kernel) ?_
  refine And.intro rfl (And.intro (Nat.le_of_ble_eq_true rfl) (And.intro ce_200 (?_)))
  show sg_Wp 200 228 (d + 1) m_M_lives 85 [(0, 2, 200), (1, 0, v1)] [(0, G 200 7), (0, v1)] G Q
  refine sg_icmp_ge (off := 23) (tgt := 108) (by decide +kernel) (by decide) ⟨fun q2 => ?_, fun q2 => ?_⟩
  · refine sg_blk [(7, 0, 0, 0, 0), (25, 0, 0, 1, 0)] (by decide +kernel) ?_
    refine And.intro rfl (And.intro rfl (?_))
    show sg_Wp 200 228 (d + 1) m_M_lives 110 [(0, 2, 200), (1, 0, 0)] [] G Q
    exact (h.1 q2)
  · refine sg_blk [(1, 0, 0, 0, 0), (65, 216, 11, 56, 23), (3, 0, 0, 1, 0), (7, 0, 0, 0, 0), (18, 8, 0, 0, 0), (1, 0, 0, 0, 0), (65, 217, 11, 59, 24), (3, 0, 0, 1, 0), (7, 0, 0, 0, 0), (18, 8, 0, 0, 0), (31, 1, 0, 1, 0)] (by decide +kernel) ?_
    refine And.intro (Nat.le_of_ble_eq_true rfl) (And.intro ce_200 (And.intro rr_200_23 (And.intro rfl (And.intro rfl (And.intro ce_216 (And.intro (h.2 q2).1 (And.intro (Nat.le_of_ble_eq_true rfl) (And.intro ce_200 (And.intro rr_200_24 (And.intro rfl (And.intro rfl (And.intro ce_217 (And.intro (h.2 q2).2.1 (And.intro rfl (?_)))))))))))))))
    show sg_Wp 200 228 (d + 1) m_M_lives 105 [(0, 2, 200), (1, 0, sg_iadd v1 1)] [] (sg_up (sg_up G 216 v1 0) 217 v1 0) Q
    refine sg_goto (off := -25) (tgt := 80) (by decide +kernel) (by decide) ?_
    exact (h.2 q2).2.2
set_option maxRecDepth 100000 in
theorem g_M_lives_110 {d : Nat} {v1 : Int} {G : SgM} {Q : Int → SgM → Prop} (h : (24 ≤ v1 → (Q 0 G)) ∧ (¬ (24 ≤ v1) → (sg_Wp 200 228 d m_M_passes 0 [(0, 2, 200), (1, 0, v1)] [] G (fun r1 G1 => sg_Wp 200 228 (d + 1) m_M_lives 110 [(0, 2, 200), (1, 0, sg_iadd v1 1)] [] G1 Q)))) : sg_Wp 200 228 (d + 1) m_M_lives 110 [(0, 2, 200), (1, 0, v1)] [] G Q := by
  refine sg_blk [(3, 0, 0, 1, 0), (8, 24, 0, 0, 0)] (by decide +kernel) ?_
  refine And.intro rfl (And.intro rfl (And.intro rfl (?_)))
  show sg_Wp 200 228 (d + 1) m_M_lives 113 [(0, 2, 200), (1, 0, v1)] [(0, 24), (0, v1)] G Q
  refine sg_icmp_ge (off := 14) (tgt := 127) (by decide +kernel) (by decide) ⟨fun q3 => ?_, fun q3 => ?_⟩
  · exact sg_vret (by decide +kernel) rfl ((h.1 q3))
  · refine sg_blk [(1, 0, 0, 0, 0), (3, 0, 0, 1, 0)] (by decide +kernel) ?_
    refine And.intro (Nat.le_of_ble_eq_true rfl) (And.intro rfl (?_))
    show sg_Wp 200 228 (d + 1) m_M_lives 118 [(0, 2, 200), (1, 0, v1)] [(0, v1), (2, 200)] G Q
    refine sg_callV (k := d) (y' := m_M_passes) (av := [(0, v1)]) (rest := []) (b := 200) (by decide +kernel) cv_M_passes ml_11_211 ce_200 rfl rfl (Nat.le_of_ble_eq_true rfl) (Nat.lt_succ_self d) (Nat.le_of_ble_eq_true rfl) rfl ?_
    show sg_Wp 200 228 d m_M_passes 0 [(0, 2, 200), (1, 0, v1)] [] G _
    refine sg_Wp.mono ((h.2 q3)) (fun r1 G1 hhr1 => ?_)
    show sg_Wp 200 228 (d + 1) m_M_lives 121 [(0, 2, 200), (1, 0, v1)] [] G1 Q
    refine sg_blk [(31, 1, 0, 1, 0)] (by decide +kernel) ?_
    refine And.intro rfl (?_)
    show sg_Wp 200 228 (d + 1) m_M_lives 124 [(0, 2, 200), (1, 0, sg_iadd v1 1)] [] G1 Q
    refine sg_goto (off := -14) (tgt := 110) (by decide +kernel) (by decide) ?_
    exact hhr1
set_option maxRecDepth 100000 in
theorem g_M_passes_0 {d : Nat} {v1 : Int} {G : SgM} {Q : Int → SgM → Prop} (h : sg_Wp 200 228 (d + 1) m_M_passes 2 [(0, 2, 200), (1, 0, v1), (2, 0, 0)] [] G Q) : sg_Wp 200 228 (d + 1) m_M_passes 0 [(0, 2, 200), (1, 0, v1)] [] G Q := by
  refine sg_blk [(7, 0, 0, 0, 0), (25, 0, 0, 2, 0)] (by decide +kernel) ?_
  refine And.intro rfl (And.intro rfl (?_))
  show sg_Wp 200 228 (d + 1) m_M_passes 2 [(0, 2, 200), (1, 0, v1), (2, 0, 0)] [] G Q
  exact h
set_option maxRecDepth 100000 in
theorem g_M_passes_2 {d : Nat} {v1 v2 : Int} {G : SgM} {Q : Int → SgM → Prop} (h : ((G 200 9) ≤ v2 → (sg_Wp 200 228 (d + 1) m_M_passes 27 [(0, 2, 200), (1, 0, v1), (2, 0, 0)] [] G Q)) ∧ (¬ ((G 200 9) ≤ v2) → ((v1 ≤ 0 → (sg_Wp 200 228 (d + 1) m_M_passes 2 [(0, 2, 200), (1, 0, v1), (2, 0, sg_iadd v2 1)] [] G Q)) ∧ (¬ (v1 ≤ 0) → (sg_Wp 200 228 d m_M_goes 0 [(0, 2, 200), (1, 0, v2)] [] G (fun r1 G1 => sg_Wp 200 228 (d + 1) m_M_passes 2 [(0, 2, 200), (1, 0, v1), (2, 0, sg_iadd v2 1)] [] G1 Q)))))) : sg_Wp 200 228 (d + 1) m_M_passes 2 [(0, 2, 200), (1, 0, v1), (2, 0, v2)] [] G Q := by
  refine sg_blk [(3, 0, 0, 2, 0), (1, 0, 0, 0, 0), (15, 0, 11, 140, 9)] (by decide +kernel) ?_
  refine And.intro rfl (And.intro (Nat.le_of_ble_eq_true rfl) (And.intro ce_200 (?_)))
  show sg_Wp 200 228 (d + 1) m_M_passes 7 [(0, 2, 200), (1, 0, v1), (2, 0, v2)] [(0, G 200 9), (0, v2)] G Q
  refine sg_icmp_ge (off := 18) (tgt := 25) (by decide +kernel) (by decide) ⟨fun q2 => ?_, fun q2 => ?_⟩
  · refine sg_blk [(7, 0, 0, 0, 0), (25, 0, 0, 2, 0)] (by decide +kernel) ?_
    refine And.intro rfl (And.intro rfl (?_))
    show sg_Wp 200 228 (d + 1) m_M_passes 27 [(0, 2, 200), (1, 0, v1), (2, 0, 0)] [] G Q
    exact (h.1 q2)
  · refine sg_blk [(3, 0, 0, 1, 0)] (by decide +kernel) ?_
    refine And.intro rfl (?_)
    show sg_Wp 200 228 (d + 1) m_M_passes 11 [(0, 2, 200), (1, 0, v1), (2, 0, v2)] [(0, v1)] G Q
    refine sg_if_le (off := 8) (tgt := 19) (by decide +kernel) (by decide) ⟨fun q1 => ?_, fun q1 => ?_⟩
    · refine sg_blk [(31, 1, 0, 2, 0)] (by decide +kernel) ?_
      refine And.intro rfl (?_)
      show sg_Wp 200 228 (d + 1) m_M_passes 22 [(0, 2, 200), (1, 0, v1), (2, 0, sg_iadd v2 1)] [] G Q
      refine sg_goto (off := -20) (tgt := 2) (by decide +kernel) (by decide) ?_
      exact ((h.2 q2).1 q1)
    · refine sg_blk [(1, 0, 0, 0, 0), (3, 0, 0, 2, 0)] (by decide +kernel) ?_
      refine And.intro (Nat.le_of_ble_eq_true rfl) (And.intro rfl (?_))
      show sg_Wp 200 228 (d + 1) m_M_passes 16 [(0, 2, 200), (1, 0, v1), (2, 0, v2)] [(0, v2), (2, 200)] G Q
      refine sg_callV (k := d) (y' := m_M_goes) (av := [(0, v2)]) (rest := []) (b := 200) (by decide +kernel) cv_M_goes ml_11_198 ce_200 rfl rfl (Nat.le_of_ble_eq_true rfl) (Nat.lt_succ_self d) (Nat.le_of_ble_eq_true rfl) rfl ?_
      show sg_Wp 200 228 d m_M_goes 0 [(0, 2, 200), (1, 0, v2)] [] G _
      refine sg_Wp.mono (((h.2 q2).2 q1)) (fun r1 G1 hhr1 => ?_)
      show sg_Wp 200 228 (d + 1) m_M_passes 19 [(0, 2, 200), (1, 0, v1), (2, 0, v2)] [] G1 Q
      refine sg_blk [(31, 1, 0, 2, 0)] (by decide +kernel) ?_
      refine And.intro rfl (?_)
      show sg_Wp 200 228 (d + 1) m_M_passes 22 [(0, 2, 200), (1, 0, v1), (2, 0, sg_iadd v2 1)] [] G1 Q
      refine sg_goto (off := -20) (tgt := 2) (by decide +kernel) (by decide) ?_
      exact hhr1
set_option maxRecDepth 100000 in
theorem g_M_passes_27 {d : Nat} {v1 v2 : Int} {G : SgM} {Q : Int → SgM → Prop} (h : ((G 200 9) ≤ v2 → (sg_Wp 200 228 (d + 1) m_M_passes 78 [(0, 2, 200), (1, 0, v1), (2, 0, 0)] [] G Q)) ∧ (¬ ((G 200 9) ≤ v2) → (sg_Wp 200 228 d m_M_isSneezing 0 [(0, 2, 200), (1, 0, v1), (2, 0, v2)] [] G (fun r2 G2 => (0 ≤ v2 ∧ v2 < 6) ∧ (r2 = 0 ∨ r2 = 1) ∧ (0 ≤ v2 ∧ v2 < 6) ∧ (0 ≤ v2 ∧ v2 < 6) ∧ ((((sg_up G2 213 v2 r2) 213 v2) = 0 → ((0 ≤ v2 ∧ v2 < 6) ∧ (sg_Wp 200 228 (d + 1) m_M_passes 27 [(0, 2, 200), (1, 0, v1), (2, 0, sg_iadd v2 1)] [] (sg_up (sg_up G2 213 v2 r2) 214 v2 (sg_iadd (G2 214 v2) 0)) Q))) ∧ (¬ (((sg_up G2 213 v2 r2) 213 v2) = 0) → ((0 ≤ v2 ∧ v2 < 6) ∧ (sg_Wp 200 228 (d + 1) m_M_passes 27 [(0, 2, 200), (1, 0, v1), (2, 0, sg_iadd v2 1)] [] (sg_up (sg_up G2 213 v2 r2) 214 v2 (sg_iadd (G2 214 v2) 1)) Q)))))))) : sg_Wp 200 228 (d + 1) m_M_passes 27 [(0, 2, 200), (1, 0, v1), (2, 0, v2)] [] G Q := by
  refine sg_blk [(3, 0, 0, 2, 0), (1, 0, 0, 0, 0), (15, 0, 11, 140, 9)] (by decide +kernel) ?_
  refine And.intro rfl (And.intro (Nat.le_of_ble_eq_true rfl) (And.intro ce_200 (?_)))
  show sg_Wp 200 228 (d + 1) m_M_passes 32 [(0, 2, 200), (1, 0, v1), (2, 0, v2)] [(0, G 200 9), (0, v2)] G Q
  refine sg_icmp_ge (off := 44) (tgt := 76) (by decide +kernel) (by decide) ⟨fun q4 => ?_, fun q4 => ?_⟩
  · refine sg_blk [(7, 0, 0, 0, 0), (25, 0, 0, 2, 0)] (by decide +kernel) ?_
    refine And.intro rfl (And.intro rfl (?_))
    show sg_Wp 200 228 (d + 1) m_M_passes 78 [(0, 2, 200), (1, 0, v1), (2, 0, 0)] [] G Q
    exact (h.1 q4)
  · refine sg_blk [(1, 0, 0, 0, 0), (65, 213, 11, 46, 20), (3, 0, 0, 2, 0), (1, 0, 0, 0, 0), (3, 0, 0, 1, 0), (3, 0, 0, 2, 0)] (by decide +kernel) ?_
    refine And.intro (Nat.le_of_ble_eq_true rfl) (And.intro ce_200 (And.intro rr_200_20 (And.intro rfl (And.intro (Nat.le_of_ble_eq_true rfl) (And.intro rfl (And.intro rfl (?_)))))))
    show sg_Wp 200 228 (d + 1) m_M_passes 43 [(0, 2, 200), (1, 0, v1), (2, 0, v2)] [(0, v2), (0, v1), (2, 200), (0, v2), (2, 213)] G Q
    refine sg_callV (k := d) (y' := m_M_isSneezing) (av := [(0, v1), (0, v2)]) (rest := [(0, v2), (2, 213)]) (b := 200) (by decide +kernel) cv_M_isSneezing ml_11_202 ce_200 rfl rfl (Nat.le_of_ble_eq_true rfl) (Nat.lt_succ_self d) (Nat.le_of_ble_eq_true rfl) rfl ?_
    show sg_Wp 200 228 d m_M_isSneezing 0 [(0, 2, 200), (1, 0, v1), (2, 0, v2)] [] G _
    refine sg_Wp.mono ((h.2 q4)) (fun r2 G2 hhr2 => ?_)
    show sg_Wp 200 228 (d + 1) m_M_passes 46 [(0, 2, 200), (1, 0, v1), (2, 0, v2)] [(0, r2), (0, v2), (2, 213)] G2 Q
    refine sg_blk [(20, 6, 0, 0, 0), (1, 0, 0, 0, 0), (65, 214, 11, 50, 21), (3, 0, 0, 2, 0), (58, 0, 0, 0, 0), (17, 6, 0, 0, 0), (1, 0, 0, 0, 0), (65, 213, 11, 46, 20), (3, 0, 0, 2, 0), (19, 6, 0, 0, 0)] (by decide +kernel) ?_
    refine And.intro ce_213 (And.intro hhr2.1 (And.intro hhr2.2.1 (And.intro (Nat.le_of_ble_eq_true rfl) (And.intro ce_200 (And.intro rr_200_21 (And.intro rfl (And.intro (And.intro (Nat.ne_of_beq_eq_false rfl) (Nat.ne_of_beq_eq_false rfl)) (And.intro ce_214 (And.intro hhr2.2.2.1 (And.intro (Nat.le_of_ble_eq_true rfl) (And.intro ce_200 (And.intro rr_200_20 (And.intro rfl (And.intro ce_213 (And.intro hhr2.2.2.2.1 (?_))))))))))))))))
    show sg_Wp 200 228 (d + 1) m_M_passes 60 [(0, 2, 200), (1, 0, v1), (2, 0, v2)] [(0, (sg_up G2 213 v2 r2) 213 v2), (0, G2 214 v2), (0, v2), (2, 214)] (sg_up G2 213 v2 r2) Q
    refine sg_if_eq (off := 7) (tgt := 67) (by decide +kernel) (by decide) ⟨fun q3 => ?_, fun q3 => ?_⟩
    · refine sg_blk [(7, 0, 0, 0, 0), (32, 0, 0, 0, 0), (18, 6, 0, 0, 0), (31, 1, 0, 2, 0)] (by decide +kernel) ?_
      refine And.intro rfl (And.intro ce_214 (And.intro (hhr2.2.2.2.2.1 q3).1 (And.intro rfl (?_))))
      show sg_Wp 200 228 (d + 1) m_M_passes 73 [(0, 2, 200), (1, 0, v1), (2, 0, sg_iadd v2 1)] [] (sg_up (sg_up G2 213 v2 r2) 214 v2 (sg_iadd (G2 214 v2) 0)) Q
      refine sg_goto (off := -46) (tgt := 27) (by decide +kernel) (by decide) ?_
      exact (hhr2.2.2.2.2.1 q3).2
    · refine sg_blk [(7, 1, 0, 0, 0)] (by decide +kernel) ?_
      refine And.intro rfl (?_)
      show sg_Wp 200 228 (d + 1) m_M_passes 64 [(0, 2, 200), (1, 0, v1), (2, 0, v2)] [(0, 1), (0, G2 214 v2), (0, v2), (2, 214)] (sg_up G2 213 v2 r2) Q
      refine sg_goto (off := 4) (tgt := 68) (by decide +kernel) (by decide) ?_
      refine sg_blk [(32, 0, 0, 0, 0), (18, 6, 0, 0, 0), (31, 1, 0, 2, 0)] (by decide +kernel) ?_
      refine And.intro ce_214 (And.intro (hhr2.2.2.2.2.2 q3).1 (And.intro rfl (?_)))
      show sg_Wp 200 228 (d + 1) m_M_passes 73 [(0, 2, 200), (1, 0, v1), (2, 0, sg_iadd v2 1)] [] (sg_up (sg_up G2 213 v2 r2) 214 v2 (sg_iadd (G2 214 v2) 1)) Q
      refine sg_goto (off := -46) (tgt := 27) (by decide +kernel) (by decide) ?_
      exact (hhr2.2.2.2.2.2 q3).2
set_option maxRecDepth 100000 in
theorem g_M_passes_78 {d : Nat} {v1 v2 : Int} {G : SgM} {Q : Int → SgM → Prop} (h : ((G 200 7) ≤ v2 → (sg_Wp 200 228 (d + 1) m_M_passes 194 [(0, 2, 200), (1, 0, v1), (2, 0, 0)] [] G Q)) ∧ (¬ ((G 200 7) ≤ v2) → (sg_Wp 200 228 d m_M_heardBy 0 [(0, 2, 200), (1, 0, v2)] [] G (fun r3 G3 => (r3 ≠ ((-1)) → ((0 ≤ v2 ∧ v2 < 8) ∧ ((r3 = ((-1)) → (sg_Wp 200 228 (d + 1) m_M_passes 140 [(0, 2, 200), (1, 0, v1), (2, 0, v2), (3, 0, r3)] [] (sg_up G3 216 v2 0) Q)) ∧ (¬ (r3 = ((-1))) → ((0 ≤ v2 ∧ v2 < 8) ∧ (0 ≤ v2 ∧ v2 < 8) ∧ (0 ≤ r3 ∧ r3 < 6) ∧ (0 ≤ r3 ∧ r3 < 6) ∧ (sg_Wp 200 228 (d + 1) m_M_passes 140 [(0, 2, 200), (1, 0, v1), (2, 0, v2), (3, 0, r3)] [] (sg_up (sg_up (sg_up G3 216 v2 0) 217 v2 (sg_iadd (G3 217 v2) 1)) 215 r3 (sg_iadd (G3 215 r3) 1)) Q)))))) ∧ (¬ (r3 ≠ ((-1))) → ((0 ≤ v2 ∧ v2 < 8) ∧ ((0 ≤ v2 ∧ v2 < 8) ∧ ((r3 = ((-1)) → (sg_Wp 200 228 (d + 1) m_M_passes 140 [(0, 2, 200), (1, 0, v1), (2, 0, v2), (3, 0, r3)] [] (sg_up G3 216 v2 (sg_iadd (G3 216 v2) 1)) Q)) ∧ (¬ (r3 = ((-1))) → ((0 ≤ v2 ∧ v2 < 8) ∧ (0 ≤ v2 ∧ v2 < 8) ∧ (0 ≤ r3 ∧ r3 < 6) ∧ (0 ≤ r3 ∧ r3 < 6) ∧ (sg_Wp 200 228 (d + 1) m_M_passes 140 [(0, 2, 200), (1, 0, v1), (2, 0, v2), (3, 0, r3)] [] (sg_up (sg_up (sg_up G3 216 v2 (sg_iadd (G3 216 v2) 1)) 217 v2 (sg_iadd (G3 217 v2) 1)) 215 r3 (sg_iadd (G3 215 r3) 1)) Q))))))))))) : sg_Wp 200 228 (d + 1) m_M_passes 78 [(0, 2, 200), (1, 0, v1), (2, 0, v2)] [] G Q := by
  refine sg_blk [(3, 0, 0, 2, 0), (1, 0, 0, 0, 0), (15, 0, 11, 134, 7)] (by decide +kernel) ?_
  refine And.intro rfl (And.intro (Nat.le_of_ble_eq_true rfl) (And.intro ce_200 (?_)))
  show sg_Wp 200 228 (d + 1) m_M_passes 83 [(0, 2, 200), (1, 0, v1), (2, 0, v2)] [(0, G 200 7), (0, v2)] G Q
  refine sg_icmp_ge (off := 109) (tgt := 192) (by decide +kernel) (by decide) ⟨fun q8 => ?_, fun q8 => ?_⟩
  · refine sg_blk [(7, 0, 0, 0, 0), (25, 0, 0, 2, 0)] (by decide +kernel) ?_
    refine And.intro rfl (And.intro rfl (?_))
    show sg_Wp 200 228 (d + 1) m_M_passes 194 [(0, 2, 200), (1, 0, v1), (2, 0, 0)] [] G Q
    exact (h.1 q8)
  · refine sg_blk [(1, 0, 0, 0, 0), (3, 0, 0, 2, 0)] (by decide +kernel) ?_
    refine And.intro (Nat.le_of_ble_eq_true rfl) (And.intro rfl (?_))
    show sg_Wp 200 228 (d + 1) m_M_passes 88 [(0, 2, 200), (1, 0, v1), (2, 0, v2)] [(0, v2), (2, 200)] G Q
    refine sg_callV (k := d) (y' := m_M_heardBy) (av := [(0, v2)]) (rest := []) (b := 200) (by decide +kernel) cv_M_heardBy ml_11_205 ce_200 rfl rfl (Nat.le_of_ble_eq_true rfl) (Nat.lt_succ_self d) (Nat.le_of_ble_eq_true rfl) rfl ?_
    show sg_Wp 200 228 d m_M_heardBy 0 [(0, 2, 200), (1, 0, v2)] [] G _
    refine sg_Wp.mono ((h.2 q8)) (fun r3 G3 hhr3 => ?_)
    show sg_Wp 200 228 (d + 1) m_M_passes 91 [(0, 2, 200), (1, 0, v1), (2, 0, v2)] [(0, r3)] G3 Q
    refine sg_blk [(25, 0, 0, 3, 0), (1, 0, 0, 0, 0), (65, 216, 11, 56, 23), (3, 0, 0, 2, 0), (3, 0, 0, 3, 0), (7, (-1), 0, 0, 0)] (by decide +kernel) ?_
    refine And.intro rfl (And.intro (Nat.le_of_ble_eq_true rfl) (And.intro ce_200 (And.intro rr_200_23 (And.intro rfl (And.intro rfl (And.intro rfl (?_)))))))
    show sg_Wp 200 228 (d + 1) m_M_passes 99 [(0, 2, 200), (1, 0, v1), (2, 0, v2), (3, 0, r3)] [(0, (-1)), (0, r3), (0, v2), (2, 216)] G3 Q
    refine sg_icmp_ne (off := 14) (tgt := 113) (by decide +kernel) (by decide) ⟨fun q7 => ?_, fun q7 => ?_⟩
    · refine sg_blk [(7, 0, 0, 0, 0), (18, 8, 0, 0, 0), (3, 0, 0, 3, 0), (7, (-1), 0, 0, 0)] (by decide +kernel) ?_
      refine And.intro rfl (And.intro ce_216 (And.intro (hhr3.1 q7).1 (And.intro rfl (And.intro rfl (?_)))))
      show sg_Wp 200 228 (d + 1) m_M_passes 117 [(0, 2, 200), (1, 0, v1), (2, 0, v2), (3, 0, r3)] [(0, (-1)), (0, r3)] (sg_up G3 216 v2 0) Q
      refine sg_icmp_eq (off := 23) (tgt := 140) (by decide +kernel) (by decide) ⟨fun q5 => ?_, fun q5 => ?_⟩
      · exact ((hhr3.1 q7).2.1 q5)
      · refine sg_blk [(1, 0, 0, 0, 0), (65, 217, 11, 59, 24), (3, 0, 0, 2, 0), (58, 0, 0, 0, 0), (17, 8, 0, 0, 0), (7, 1, 0, 0, 0), (32, 0, 0, 0, 0), (18, 8, 0, 0, 0), (1, 0, 0, 0, 0), (65, 215, 11, 53, 22), (3, 0, 0, 3, 0), (58, 0, 0, 0, 0), (17, 6, 0, 0, 0), (7, 1, 0, 0, 0), (32, 0, 0, 0, 0), (18, 6, 0, 0, 0)] (by decide +kernel) ?_
        refine And.intro (Nat.le_of_ble_eq_true rfl) (And.intro ce_200 (And.intro rr_200_24 (And.intro rfl (And.intro (And.intro (Nat.ne_of_beq_eq_false rfl) (Nat.ne_of_beq_eq_false rfl)) (And.intro ce_217 (And.intro ((hhr3.1 q7).2.2 q5).1 (And.intro rfl (And.intro ce_217 (And.intro ((hhr3.1 q7).2.2 q5).2.1 (And.intro (Nat.le_of_ble_eq_true rfl) (And.intro ce_200 (And.intro rr_200_22 (And.intro rfl (And.intro (And.intro (Nat.ne_of_beq_eq_false rfl) (Nat.ne_of_beq_eq_false rfl)) (And.intro ce_215 (And.intro ((hhr3.1 q7).2.2 q5).2.2.1 (And.intro rfl (And.intro ce_215 (And.intro ((hhr3.1 q7).2.2 q5).2.2.2.1 (?_))))))))))))))))))))
        show sg_Wp 200 228 (d + 1) m_M_passes 140 [(0, 2, 200), (1, 0, v1), (2, 0, v2), (3, 0, r3)] [] (sg_up (sg_up (sg_up G3 216 v2 0) 217 v2 (sg_iadd (G3 217 v2) 1)) 215 r3 (sg_iadd (G3 215 r3) 1)) Q
        exact ((hhr3.1 q7).2.2 q5).2.2.2.2
    · refine sg_blk [(1, 0, 0, 0, 0), (65, 216, 11, 56, 23), (3, 0, 0, 2, 0), (17, 8, 0, 0, 0), (7, 1, 0, 0, 0), (32, 0, 0, 0, 0)] (by decide +kernel) ?_
      refine And.intro (Nat.le_of_ble_eq_true rfl) (And.intro ce_200 (And.intro rr_200_23 (And.intro rfl (And.intro ce_216 (And.intro (hhr3.2 q7).1 (And.intro rfl (?_)))))))
      show sg_Wp 200 228 (d + 1) m_M_passes 110 [(0, 2, 200), (1, 0, v1), (2, 0, v2), (3, 0, r3)] [(0, sg_iadd (G3 216 v2) 1), (0, v2), (2, 216)] G3 Q
      refine sg_goto (off := 4) (tgt := 114) (by decide +kernel) (by decide) ?_
      refine sg_blk [(18, 8, 0, 0, 0), (3, 0, 0, 3, 0), (7, (-1), 0, 0, 0)] (by decide +kernel) ?_
      refine And.intro ce_216 (And.intro (hhr3.2 q7).2.1 (And.intro rfl (And.intro rfl (?_))))
      show sg_Wp 200 228 (d + 1) m_M_passes 117 [(0, 2, 200), (1, 0, v1), (2, 0, v2), (3, 0, r3)] [(0, (-1)), (0, r3)] (sg_up G3 216 v2 (sg_iadd (G3 216 v2) 1)) Q
      refine sg_icmp_eq (off := 23) (tgt := 140) (by decide +kernel) (by decide) ⟨fun q6 => ?_, fun q6 => ?_⟩
      · exact ((hhr3.2 q7).2.2.1 q6)
      · refine sg_blk [(1, 0, 0, 0, 0), (65, 217, 11, 59, 24), (3, 0, 0, 2, 0), (58, 0, 0, 0, 0), (17, 8, 0, 0, 0), (7, 1, 0, 0, 0), (32, 0, 0, 0, 0), (18, 8, 0, 0, 0), (1, 0, 0, 0, 0), (65, 215, 11, 53, 22), (3, 0, 0, 3, 0), (58, 0, 0, 0, 0), (17, 6, 0, 0, 0), (7, 1, 0, 0, 0), (32, 0, 0, 0, 0), (18, 6, 0, 0, 0)] (by decide +kernel) ?_
        refine And.intro (Nat.le_of_ble_eq_true rfl) (And.intro ce_200 (And.intro rr_200_24 (And.intro rfl (And.intro (And.intro (Nat.ne_of_beq_eq_false rfl) (Nat.ne_of_beq_eq_false rfl)) (And.intro ce_217 (And.intro ((hhr3.2 q7).2.2.2 q6).1 (And.intro rfl (And.intro ce_217 (And.intro ((hhr3.2 q7).2.2.2 q6).2.1 (And.intro (Nat.le_of_ble_eq_true rfl) (And.intro ce_200 (And.intro rr_200_22 (And.intro rfl (And.intro (And.intro (Nat.ne_of_beq_eq_false rfl) (Nat.ne_of_beq_eq_false rfl)) (And.intro ce_215 (And.intro ((hhr3.2 q7).2.2.2 q6).2.2.1 (And.intro rfl (And.intro ce_215 (And.intro ((hhr3.2 q7).2.2.2 q6).2.2.2.1 (?_))))))))))))))))))))
        show sg_Wp 200 228 (d + 1) m_M_passes 140 [(0, 2, 200), (1, 0, v1), (2, 0, v2), (3, 0, r3)] [] (sg_up (sg_up (sg_up G3 216 v2 (sg_iadd (G3 216 v2) 1)) 217 v2 (sg_iadd (G3 217 v2) 1)) 215 r3 (sg_iadd (G3 215 r3) 1)) Q
        exact ((hhr3.2 q7).2.2.2 q6).2.2.2.2
set_option maxRecDepth 100000 in
theorem g_M_passes_194 {d : Nat} {v1 v2 : Int} {G : SgM} {Q : Int → SgM → Prop} (h : ((G 200 9) ≤ v2 → (Q 0 G)) ∧ (¬ ((G 200 9) ≤ v2) → ((0 ≤ v2 ∧ v2 < 6) ∧ (sg_Wp 200 228 d m_M_isCaught 0 [(0, 2, 200), (1, 0, v2)] [] G (fun r4 G4 => (r4 = 0 → ((0 ≤ v2 ∧ v2 < 6) ∧ (0 ≤ v2 ∧ v2 < 6) ∧ (0 ≤ (sg_iadd (sg_imul 8 v1) v2) ∧ (sg_iadd (sg_imul 8 v1) v2) < 192) ∧ (0 ≤ v2 ∧ v2 < 6) ∧ (((G4 213 v2) = 0 → ((0 ≤ (sg_iadd (sg_imul 8 v1) v2) ∧ (sg_iadd (sg_imul 8 v1) v2) < 192) ∧ (0 ≤ v2 ∧ v2 < 6) ∧ (0 ≤ (sg_iadd (sg_imul 8 v1) v2) ∧ (sg_iadd (sg_imul 8 v1) v2) < 192) ∧ (0 ≤ v2 ∧ v2 < 6) ∧ (0 ≤ (sg_iadd (sg_imul 8 v1) v2) ∧ (sg_iadd (sg_imul 8 v1) v2) < 192) ∧ (sg_Wp 200 228 (d + 1) m_M_passes 194 [(0, 2, 200), (1, 0, v1), (2, 0, sg_iadd v2 1)] [] (sg_up (sg_up (sg_up (sg_up (sg_up G4 212 v2 (sg_isub (G 212 v2) 0)) 218 (sg_iadd (sg_imul 8 v1) v2) (G4 210 v2)) 219 (sg_iadd (sg_imul 8 v1) v2) 0) 220 (sg_iadd (sg_imul 8 v1) v2) (G4 214 v2)) 221 (sg_iadd (sg_imul 8 v1) v2) ((sg_up G4 212 v2 (sg_isub (G 212 v2) 0)) 212 v2)) Q))) ∧ (¬ ((G4 213 v2) = 0) → ((0 ≤ (sg_iadd (sg_imul 8 v1) v2) ∧ (sg_iadd (sg_imul 8 v1) v2) < 192) ∧ (0 ≤ v2 ∧ v2 < 6) ∧ (0 ≤ (sg_iadd (sg_imul 8 v1) v2) ∧ (sg_iadd (sg_imul 8 v1) v2) < 192) ∧ (0 ≤ v2 ∧ v2 < 6) ∧ (0 ≤ (sg_iadd (sg_imul 8 v1) v2) ∧ (sg_iadd (sg_imul 8 v1) v2) < 192) ∧ (sg_Wp 200 228 (d + 1) m_M_passes 194 [(0, 2, 200), (1, 0, v1), (2, 0, sg_iadd v2 1)] [] (sg_up (sg_up (sg_up (sg_up (sg_up G4 212 v2 (sg_isub (G 212 v2) 0)) 218 (sg_iadd (sg_imul 8 v1) v2) (G4 210 v2)) 219 (sg_iadd (sg_imul 8 v1) v2) 1) 220 (sg_iadd (sg_imul 8 v1) v2) (G4 214 v2)) 221 (sg_iadd (sg_imul 8 v1) v2) ((sg_up G4 212 v2 (sg_isub (G 212 v2) 0)) 212 v2)) Q)))))) ∧ (¬ (r4 = 0) → ((0 ≤ v2 ∧ v2 < 6) ∧ (((G4 212 v2) ≤ 1 → ((0 ≤ v2 ∧ v2 < 6) ∧ (0 ≤ v2 ∧ v2 < 6) ∧ (0 ≤ (sg_iadd (sg_imul 8 v1) v2) ∧ (sg_iadd (sg_imul 8 v1) v2) < 192) ∧ (0 ≤ v2 ∧ v2 < 6) ∧ (((G4 213 v2) = 0 → ((0 ≤ (sg_iadd (sg_imul 8 v1) v2) ∧ (sg_iadd (sg_imul 8 v1) v2) < 192) ∧ (0 ≤ v2 ∧ v2 < 6) ∧ (0 ≤ (sg_iadd (sg_imul 8 v1) v2) ∧ (sg_iadd (sg_imul 8 v1) v2) < 192) ∧ (0 ≤ v2 ∧ v2 < 6) ∧ (0 ≤ (sg_iadd (sg_imul 8 v1) v2) ∧ (sg_iadd (sg_imul 8 v1) v2) < 192) ∧ (sg_Wp 200 228 (d + 1) m_M_passes 194 [(0, 2, 200), (1, 0, v1), (2, 0, sg_iadd v2 1)] [] (sg_up (sg_up (sg_up (sg_up (sg_up G4 212 v2 (sg_isub (G 212 v2) 0)) 218 (sg_iadd (sg_imul 8 v1) v2) (G4 210 v2)) 219 (sg_iadd (sg_imul 8 v1) v2) 0) 220 (sg_iadd (sg_imul 8 v1) v2) (G4 214 v2)) 221 (sg_iadd (sg_imul 8 v1) v2) ((sg_up G4 212 v2 (sg_isub (G 212 v2) 0)) 212 v2)) Q))) ∧ (¬ ((G4 213 v2) = 0) → ((0 ≤ (sg_iadd (sg_imul 8 v1) v2) ∧ (sg_iadd (sg_imul 8 v1) v2) < 192) ∧ (0 ≤ v2 ∧ v2 < 6) ∧ (0 ≤ (sg_iadd (sg_imul 8 v1) v2) ∧ (sg_iadd (sg_imul 8 v1) v2) < 192) ∧ (0 ≤ v2 ∧ v2 < 6) ∧ (0 ≤ (sg_iadd (sg_imul 8 v1) v2) ∧ (sg_iadd (sg_imul 8 v1) v2) < 192) ∧ (sg_Wp 200 228 (d + 1) m_M_passes 194 [(0, 2, 200), (1, 0, v1), (2, 0, sg_iadd v2 1)] [] (sg_up (sg_up (sg_up (sg_up (sg_up G4 212 v2 (sg_isub (G 212 v2) 0)) 218 (sg_iadd (sg_imul 8 v1) v2) (G4 210 v2)) 219 (sg_iadd (sg_imul 8 v1) v2) 1) 220 (sg_iadd (sg_imul 8 v1) v2) (G4 214 v2)) 221 (sg_iadd (sg_imul 8 v1) v2) ((sg_up G4 212 v2 (sg_isub (G 212 v2) 0)) 212 v2)) Q)))))) ∧ (¬ ((G4 212 v2) ≤ 1) → ((0 ≤ v2 ∧ v2 < 6) ∧ (0 ≤ v2 ∧ v2 < 6) ∧ (0 ≤ (sg_iadd (sg_imul 8 v1) v2) ∧ (sg_iadd (sg_imul 8 v1) v2) < 192) ∧ (0 ≤ v2 ∧ v2 < 6) ∧ (((G4 213 v2) = 0 → ((0 ≤ (sg_iadd (sg_imul 8 v1) v2) ∧ (sg_iadd (sg_imul 8 v1) v2) < 192) ∧ (0 ≤ v2 ∧ v2 < 6) ∧ (0 ≤ (sg_iadd (sg_imul 8 v1) v2) ∧ (sg_iadd (sg_imul 8 v1) v2) < 192) ∧ (0 ≤ v2 ∧ v2 < 6) ∧ (0 ≤ (sg_iadd (sg_imul 8 v1) v2) ∧ (sg_iadd (sg_imul 8 v1) v2) < 192) ∧ (sg_Wp 200 228 (d + 1) m_M_passes 194 [(0, 2, 200), (1, 0, v1), (2, 0, sg_iadd v2 1)] [] (sg_up (sg_up (sg_up (sg_up (sg_up G4 212 v2 (sg_isub (G 212 v2) 1)) 218 (sg_iadd (sg_imul 8 v1) v2) (G4 210 v2)) 219 (sg_iadd (sg_imul 8 v1) v2) 0) 220 (sg_iadd (sg_imul 8 v1) v2) (G4 214 v2)) 221 (sg_iadd (sg_imul 8 v1) v2) ((sg_up G4 212 v2 (sg_isub (G 212 v2) 1)) 212 v2)) Q))) ∧ (¬ ((G4 213 v2) = 0) → ((0 ≤ (sg_iadd (sg_imul 8 v1) v2) ∧ (sg_iadd (sg_imul 8 v1) v2) < 192) ∧ (0 ≤ v2 ∧ v2 < 6) ∧ (0 ≤ (sg_iadd (sg_imul 8 v1) v2) ∧ (sg_iadd (sg_imul 8 v1) v2) < 192) ∧ (0 ≤ v2 ∧ v2 < 6) ∧ (0 ≤ (sg_iadd (sg_imul 8 v1) v2) ∧ (sg_iadd (sg_imul 8 v1) v2) < 192) ∧ (sg_Wp 200 228 (d + 1) m_M_passes 194 [(0, 2, 200), (1, 0, v1), (2, 0, sg_iadd v2 1)] [] (sg_up (sg_up (sg_up (sg_up (sg_up G4 212 v2 (sg_isub (G 212 v2) 1)) 218 (sg_iadd (sg_imul 8 v1) v2) (G4 210 v2)) 219 (sg_iadd (sg_imul 8 v1) v2) 1) 220 (sg_iadd (sg_imul 8 v1) v2) (G4 214 v2)) 221 (sg_iadd (sg_imul 8 v1) v2) ((sg_up G4 212 v2 (sg_isub (G 212 v2) 1)) 212 v2)) Q)))))))))))))) : sg_Wp 200 228 (d + 1) m_M_passes 194 [(0, 2, 200), (1, 0, v1), (2, 0, v2)] [] G Q := by
  refine sg_blk [(3, 0, 0, 2, 0), (1, 0, 0, 0, 0), (15, 0, 11, 140, 9)] (by decide +kernel) ?_
  refine And.intro rfl (And.intro (Nat.le_of_ble_eq_true rfl) (And.intro ce_200 (?_)))
  show sg_Wp 200 228 (d + 1) m_M_passes 199 [(0, 2, 200), (1, 0, v1), (2, 0, v2)] [(0, G 200 9), (0, v2)] G Q
  refine sg_icmp_ge (off := 117) (tgt := 316) (by decide +kernel) (by decide) ⟨fun q14 => ?_, fun q14 => ?_⟩
  · exact sg_vret (by decide +kernel) rfl ((h.1 q14))
  · refine sg_blk [(1, 0, 0, 0, 0), (65, 212, 11, 43, 19), (3, 0, 0, 2, 0), (58, 0, 0, 0, 0), (17, 6, 0, 0, 0), (1, 0, 0, 0, 0), (3, 0, 0, 2, 0)] (by decide +kernel) ?_
    refine And.intro (Nat.le_of_ble_eq_true rfl) (And.intro ce_200 (And.intro rr_200_19 (And.intro rfl (And.intro (And.intro (Nat.ne_of_beq_eq_false rfl) (Nat.ne_of_beq_eq_false rfl)) (And.intro ce_212 (And.intro (h.2 q14).1 (And.intro (Nat.le_of_ble_eq_true rfl) (And.intro rfl (?_)))))))))
    show sg_Wp 200 228 (d + 1) m_M_passes 211 [(0, 2, 200), (1, 0, v1), (2, 0, v2)] [(0, v2), (2, 200), (0, G 212 v2), (0, v2), (2, 212)] G Q
    refine sg_callV (k := d) (y' := m_M_isCaught) (av := [(0, v2)]) (rest := [(0, G 212 v2), (0, v2), (2, 212)]) (b := 200) (by decide +kernel) cv_M_isCaught ml_11_208 ce_200 rfl rfl (Nat.le_of_ble_eq_true rfl) (Nat.lt_succ_self d) (Nat.le_of_ble_eq_true rfl) rfl ?_
    show sg_Wp 200 228 d m_M_isCaught 0 [(0, 2, 200), (1, 0, v2)] [] G _
    refine sg_Wp.mono ((h.2 q14).2) (fun r4 G4 hhr4 => ?_)
    show sg_Wp 200 228 (d + 1) m_M_passes 214 [(0, 2, 200), (1, 0, v1), (2, 0, v2)] [(0, r4), (0, G 212 v2), (0, v2), (2, 212)] G4 Q
    refine sg_if_eq (off := 17) (tgt := 231) (by decide +kernel) (by decide) ⟨fun q13 => ?_, fun q13 => ?_⟩
    · refine sg_blk [(7, 0, 0, 0, 0), (33, 0, 0, 0, 0), (18, 6, 0, 0, 0), (1, 0, 0, 0, 0), (65, 218, 11, 62, 25), (8, 8, 0, 0, 0), (3, 0, 0, 1, 0), (34, 0, 0, 0, 0), (3, 0, 0, 2, 0), (32, 0, 0, 0, 0), (1, 0, 0, 0, 0), (65, 210, 11, 37, 17), (3, 0, 0, 2, 0), (17, 6, 0, 0, 0), (18, 192, 0, 0, 0), (1, 0, 0, 0, 0), (65, 219, 11, 65, 26), (8, 8, 0, 0, 0), (3, 0, 0, 1, 0), (34, 0, 0, 0, 0), (3, 0, 0, 2, 0), (32, 0, 0, 0, 0), (1, 0, 0, 0, 0), (65, 213, 11, 46, 20), (3, 0, 0, 2, 0), (19, 6, 0, 0, 0)] (by decide +kernel) ?_
      refine And.intro rfl (And.intro ce_212 (And.intro (hhr4.1 q13).1 (And.intro (Nat.le_of_ble_eq_true rfl) (And.intro ce_200 (And.intro rr_200_25 (And.intro rfl (And.intro rfl (And.intro rfl (And.intro rfl (And.intro (Nat.le_of_ble_eq_true rfl) (And.intro ce_200 (And.intro rr_200_17 (And.intro rfl (And.intro ce_210 (And.intro (hhr4.1 q13).2.1 (And.intro ce_218 (And.intro (hhr4.1 q13).2.2.1 (And.intro (Nat.le_of_ble_eq_true rfl) (And.intro ce_200 (And.intro rr_200_26 (And.intro rfl (And.intro rfl (And.intro rfl (And.intro rfl (And.intro (Nat.le_of_ble_eq_true rfl) (And.intro ce_200 (And.intro rr_200_20 (And.intro rfl (And.intro ce_213 (And.intro (hhr4.1 q13).2.2.2.1 (?_)))))))))))))))))))))))))))))))
      show sg_Wp 200 228 (d + 1) m_M_passes 267 [(0, 2, 200), (1, 0, v1), (2, 0, v2)] [(0, G4 213 v2), (0, sg_iadd (sg_imul 8 v1) v2), (2, 219)] (sg_up (sg_up G4 212 v2 (sg_isub (G 212 v2) 0)) 218 (sg_iadd (sg_imul 8 v1) v2) (G4 210 v2)) Q
      refine sg_if_eq (off := 7) (tgt := 274) (by decide +kernel) (by decide) ⟨fun q9 => ?_, fun q9 => ?_⟩
      · refine sg_blk [(7, 0, 0, 0, 0), (18, 192, 0, 0, 0), (1, 0, 0, 0, 0), (65, 220, 11, 68, 27), (8, 8, 0, 0, 0), (3, 0, 0, 1, 0), (34, 0, 0, 0, 0), (3, 0, 0, 2, 0), (32, 0, 0, 0, 0), (1, 0, 0, 0, 0), (65, 214, 11, 50, 21), (3, 0, 0, 2, 0), (17, 6, 0, 0, 0), (18, 192, 0, 0, 0), (1, 0, 0, 0, 0), (65, 221, 11, 71, 28), (8, 8, 0, 0, 0), (3, 0, 0, 1, 0), (34, 0, 0, 0, 0), (3, 0, 0, 2, 0), (32, 0, 0, 0, 0), (1, 0, 0, 0, 0), (65, 212, 11, 43, 19), (3, 0, 0, 2, 0), (17, 6, 0, 0, 0), (18, 192, 0, 0, 0), (31, 1, 0, 2, 0)] (by decide +kernel) ?_
        refine And.intro rfl (And.intro ce_219 (And.intro ((hhr4.1 q13).2.2.2.2.1 q9).1 (And.intro (Nat.le_of_ble_eq_true rfl) (And.intro ce_200 (And.intro rr_200_27 (And.intro rfl (And.intro rfl (And.intro rfl (And.intro rfl (And.intro (Nat.le_of_ble_eq_true rfl) (And.intro ce_200 (And.intro rr_200_21 (And.intro rfl (And.intro ce_214 (And.intro ((hhr4.1 q13).2.2.2.2.1 q9).2.1 (And.intro ce_220 (And.intro ((hhr4.1 q13).2.2.2.2.1 q9).2.2.1 (And.intro (Nat.le_of_ble_eq_true rfl) (And.intro ce_200 (And.intro rr_200_28 (And.intro rfl (And.intro rfl (And.intro rfl (And.intro rfl (And.intro (Nat.le_of_ble_eq_true rfl) (And.intro ce_200 (And.intro rr_200_19 (And.intro rfl (And.intro ce_212 (And.intro ((hhr4.1 q13).2.2.2.2.1 q9).2.2.2.1 (And.intro ce_221 (And.intro ((hhr4.1 q13).2.2.2.2.1 q9).2.2.2.2.1 (And.intro rfl (?_))))))))))))))))))))))))))))))))))
        show sg_Wp 200 228 (d + 1) m_M_passes 313 [(0, 2, 200), (1, 0, v1), (2, 0, sg_iadd v2 1)] [] (sg_up (sg_up (sg_up (sg_up (sg_up G4 212 v2 (sg_isub (G 212 v2) 0)) 218 (sg_iadd (sg_imul 8 v1) v2) (G4 210 v2)) 219 (sg_iadd (sg_imul 8 v1) v2) 0) 220 (sg_iadd (sg_imul 8 v1) v2) (G4 214 v2)) 221 (sg_iadd (sg_imul 8 v1) v2) ((sg_up G4 212 v2 (sg_isub (G 212 v2) 0)) 212 v2)) Q
        refine sg_goto (off := -119) (tgt := 194) (by decide +kernel) (by decide) ?_
        exact ((hhr4.1 q13).2.2.2.2.1 q9).2.2.2.2.2
      · refine sg_blk [(7, 1, 0, 0, 0)] (by decide +kernel) ?_
        refine And.intro rfl (?_)
        show sg_Wp 200 228 (d + 1) m_M_passes 271 [(0, 2, 200), (1, 0, v1), (2, 0, v2)] [(0, 1), (0, sg_iadd (sg_imul 8 v1) v2), (2, 219)] (sg_up (sg_up G4 212 v2 (sg_isub (G 212 v2) 0)) 218 (sg_iadd (sg_imul 8 v1) v2) (G4 210 v2)) Q
        refine sg_goto (off := 4) (tgt := 275) (by decide +kernel) (by decide) ?_
        refine sg_blk [(18, 192, 0, 0, 0), (1, 0, 0, 0, 0), (65, 220, 11, 68, 27), (8, 8, 0, 0, 0), (3, 0, 0, 1, 0), (34, 0, 0, 0, 0), (3, 0, 0, 2, 0), (32, 0, 0, 0, 0), (1, 0, 0, 0, 0), (65, 214, 11, 50, 21), (3, 0, 0, 2, 0), (17, 6, 0, 0, 0), (18, 192, 0, 0, 0), (1, 0, 0, 0, 0), (65, 221, 11, 71, 28), (8, 8, 0, 0, 0), (3, 0, 0, 1, 0), (34, 0, 0, 0, 0), (3, 0, 0, 2, 0), (32, 0, 0, 0, 0), (1, 0, 0, 0, 0), (65, 212, 11, 43, 19), (3, 0, 0, 2, 0), (17, 6, 0, 0, 0), (18, 192, 0, 0, 0), (31, 1, 0, 2, 0)] (by decide +kernel) ?_
        refine And.intro ce_219 (And.intro ((hhr4.1 q13).2.2.2.2.2 q9).1 (And.intro (Nat.le_of_ble_eq_true rfl) (And.intro ce_200 (And.intro rr_200_27 (And.intro rfl (And.intro rfl (And.intro rfl (And.intro rfl (And.intro (Nat.le_of_ble_eq_true rfl) (And.intro ce_200 (And.intro rr_200_21 (And.intro rfl (And.intro ce_214 (And.intro ((hhr4.1 q13).2.2.2.2.2 q9).2.1 (And.intro ce_220 (And.intro ((hhr4.1 q13).2.2.2.2.2 q9).2.2.1 (And.intro (Nat.le_of_ble_eq_true rfl) (And.intro ce_200 (And.intro rr_200_28 (And.intro rfl (And.intro rfl (And.intro rfl (And.intro rfl (And.intro (Nat.le_of_ble_eq_true rfl) (And.intro ce_200 (And.intro rr_200_19 (And.intro rfl (And.intro ce_212 (And.intro ((hhr4.1 q13).2.2.2.2.2 q9).2.2.2.1 (And.intro ce_221 (And.intro ((hhr4.1 q13).2.2.2.2.2 q9).2.2.2.2.1 (And.intro rfl (?_)))))))))))))))))))))))))))))))))
        show sg_Wp 200 228 (d + 1) m_M_passes 313 [(0, 2, 200), (1, 0, v1), (2, 0, sg_iadd v2 1)] [] (sg_up (sg_up (sg_up (sg_up (sg_up G4 212 v2 (sg_isub (G 212 v2) 0)) 218 (sg_iadd (sg_imul 8 v1) v2) (G4 210 v2)) 219 (sg_iadd (sg_imul 8 v1) v2) 1) 220 (sg_iadd (sg_imul 8 v1) v2) (G4 214 v2)) 221 (sg_iadd (sg_imul 8 v1) v2) ((sg_up G4 212 v2 (sg_isub (G 212 v2) 0)) 212 v2)) Q
        refine sg_goto (off := -119) (tgt := 194) (by decide +kernel) (by decide) ?_
        exact ((hhr4.1 q13).2.2.2.2.2 q9).2.2.2.2.2
    · refine sg_blk [(1, 0, 0, 0, 0), (65, 212, 11, 43, 19), (3, 0, 0, 2, 0), (17, 6, 0, 0, 0), (7, 1, 0, 0, 0)] (by decide +kernel) ?_
      refine And.intro (Nat.le_of_ble_eq_true rfl) (And.intro ce_200 (And.intro rr_200_19 (And.intro rfl (And.intro ce_212 (And.intro (hhr4.2 q13).1 (And.intro rfl (?_)))))))
      show sg_Wp 200 228 (d + 1) m_M_passes 224 [(0, 2, 200), (1, 0, v1), (2, 0, v2)] [(0, 1), (0, G4 212 v2), (0, G 212 v2), (0, v2), (2, 212)] G4 Q
      refine sg_icmp_le (off := 7) (tgt := 231) (by decide +kernel) (by decide) ⟨fun q12 => ?_, fun q12 => ?_⟩
      · refine sg_blk [(7, 0, 0, 0, 0), (33, 0, 0, 0, 0), (18, 6, 0, 0, 0), (1, 0, 0, 0, 0), (65, 218, 11, 62, 25), (8, 8, 0, 0, 0), (3, 0, 0, 1, 0), (34, 0, 0, 0, 0), (3, 0, 0, 2, 0), (32, 0, 0, 0, 0), (1, 0, 0, 0, 0), (65, 210, 11, 37, 17), (3, 0, 0, 2, 0), (17, 6, 0, 0, 0), (18, 192, 0, 0, 0), (1, 0, 0, 0, 0), (65, 219, 11, 65, 26), (8, 8, 0, 0, 0), (3, 0, 0, 1, 0), (34, 0, 0, 0, 0), (3, 0, 0, 2, 0), (32, 0, 0, 0, 0), (1, 0, 0, 0, 0), (65, 213, 11, 46, 20), (3, 0, 0, 2, 0), (19, 6, 0, 0, 0)] (by decide +kernel) ?_
        refine And.intro rfl (And.intro ce_212 (And.intro ((hhr4.2 q13).2.1 q12).1 (And.intro (Nat.le_of_ble_eq_true rfl) (And.intro ce_200 (And.intro rr_200_25 (And.intro rfl (And.intro rfl (And.intro rfl (And.intro rfl (And.intro (Nat.le_of_ble_eq_true rfl) (And.intro ce_200 (And.intro rr_200_17 (And.intro rfl (And.intro ce_210 (And.intro ((hhr4.2 q13).2.1 q12).2.1 (And.intro ce_218 (And.intro ((hhr4.2 q13).2.1 q12).2.2.1 (And.intro (Nat.le_of_ble_eq_true rfl) (And.intro ce_200 (And.intro rr_200_26 (And.intro rfl (And.intro rfl (And.intro rfl (And.intro rfl (And.intro (Nat.le_of_ble_eq_true rfl) (And.intro ce_200 (And.intro rr_200_20 (And.intro rfl (And.intro ce_213 (And.intro ((hhr4.2 q13).2.1 q12).2.2.2.1 (?_)))))))))))))))))))))))))))))))
        show sg_Wp 200 228 (d + 1) m_M_passes 267 [(0, 2, 200), (1, 0, v1), (2, 0, v2)] [(0, G4 213 v2), (0, sg_iadd (sg_imul 8 v1) v2), (2, 219)] (sg_up (sg_up G4 212 v2 (sg_isub (G 212 v2) 0)) 218 (sg_iadd (sg_imul 8 v1) v2) (G4 210 v2)) Q
        refine sg_if_eq (off := 7) (tgt := 274) (by decide +kernel) (by decide) ⟨fun q10 => ?_, fun q10 => ?_⟩
        · refine sg_blk [(7, 0, 0, 0, 0), (18, 192, 0, 0, 0), (1, 0, 0, 0, 0), (65, 220, 11, 68, 27), (8, 8, 0, 0, 0), (3, 0, 0, 1, 0), (34, 0, 0, 0, 0), (3, 0, 0, 2, 0), (32, 0, 0, 0, 0), (1, 0, 0, 0, 0), (65, 214, 11, 50, 21), (3, 0, 0, 2, 0), (17, 6, 0, 0, 0), (18, 192, 0, 0, 0), (1, 0, 0, 0, 0), (65, 221, 11, 71, 28), (8, 8, 0, 0, 0), (3, 0, 0, 1, 0), (34, 0, 0, 0, 0), (3, 0, 0, 2, 0), (32, 0, 0, 0, 0), (1, 0, 0, 0, 0), (65, 212, 11, 43, 19), (3, 0, 0, 2, 0), (17, 6, 0, 0, 0), (18, 192, 0, 0, 0), (31, 1, 0, 2, 0)] (by decide +kernel) ?_
          refine And.intro rfl (And.intro ce_219 (And.intro (((hhr4.2 q13).2.1 q12).2.2.2.2.1 q10).1 (And.intro (Nat.le_of_ble_eq_true rfl) (And.intro ce_200 (And.intro rr_200_27 (And.intro rfl (And.intro rfl (And.intro rfl (And.intro rfl (And.intro (Nat.le_of_ble_eq_true rfl) (And.intro ce_200 (And.intro rr_200_21 (And.intro rfl (And.intro ce_214 (And.intro (((hhr4.2 q13).2.1 q12).2.2.2.2.1 q10).2.1 (And.intro ce_220 (And.intro (((hhr4.2 q13).2.1 q12).2.2.2.2.1 q10).2.2.1 (And.intro (Nat.le_of_ble_eq_true rfl) (And.intro ce_200 (And.intro rr_200_28 (And.intro rfl (And.intro rfl (And.intro rfl (And.intro rfl (And.intro (Nat.le_of_ble_eq_true rfl) (And.intro ce_200 (And.intro rr_200_19 (And.intro rfl (And.intro ce_212 (And.intro (((hhr4.2 q13).2.1 q12).2.2.2.2.1 q10).2.2.2.1 (And.intro ce_221 (And.intro (((hhr4.2 q13).2.1 q12).2.2.2.2.1 q10).2.2.2.2.1 (And.intro rfl (?_))))))))))))))))))))))))))))))))))
          show sg_Wp 200 228 (d + 1) m_M_passes 313 [(0, 2, 200), (1, 0, v1), (2, 0, sg_iadd v2 1)] [] (sg_up (sg_up (sg_up (sg_up (sg_up G4 212 v2 (sg_isub (G 212 v2) 0)) 218 (sg_iadd (sg_imul 8 v1) v2) (G4 210 v2)) 219 (sg_iadd (sg_imul 8 v1) v2) 0) 220 (sg_iadd (sg_imul 8 v1) v2) (G4 214 v2)) 221 (sg_iadd (sg_imul 8 v1) v2) ((sg_up G4 212 v2 (sg_isub (G 212 v2) 0)) 212 v2)) Q
          refine sg_goto (off := -119) (tgt := 194) (by decide +kernel) (by decide) ?_
          exact (((hhr4.2 q13).2.1 q12).2.2.2.2.1 q10).2.2.2.2.2
        · refine sg_blk [(7, 1, 0, 0, 0)] (by decide +kernel) ?_
          refine And.intro rfl (?_)
          show sg_Wp 200 228 (d + 1) m_M_passes 271 [(0, 2, 200), (1, 0, v1), (2, 0, v2)] [(0, 1), (0, sg_iadd (sg_imul 8 v1) v2), (2, 219)] (sg_up (sg_up G4 212 v2 (sg_isub (G 212 v2) 0)) 218 (sg_iadd (sg_imul 8 v1) v2) (G4 210 v2)) Q
          refine sg_goto (off := 4) (tgt := 275) (by decide +kernel) (by decide) ?_
          refine sg_blk [(18, 192, 0, 0, 0), (1, 0, 0, 0, 0), (65, 220, 11, 68, 27), (8, 8, 0, 0, 0), (3, 0, 0, 1, 0), (34, 0, 0, 0, 0), (3, 0, 0, 2, 0), (32, 0, 0, 0, 0), (1, 0, 0, 0, 0), (65, 214, 11, 50, 21), (3, 0, 0, 2, 0), (17, 6, 0, 0, 0), (18, 192, 0, 0, 0), (1, 0, 0, 0, 0), (65, 221, 11, 71, 28), (8, 8, 0, 0, 0), (3, 0, 0, 1, 0), (34, 0, 0, 0, 0), (3, 0, 0, 2, 0), (32, 0, 0, 0, 0), (1, 0, 0, 0, 0), (65, 212, 11, 43, 19), (3, 0, 0, 2, 0), (17, 6, 0, 0, 0), (18, 192, 0, 0, 0), (31, 1, 0, 2, 0)] (by decide +kernel) ?_
          refine And.intro ce_219 (And.intro (((hhr4.2 q13).2.1 q12).2.2.2.2.2 q10).1 (And.intro (Nat.le_of_ble_eq_true rfl) (And.intro ce_200 (And.intro rr_200_27 (And.intro rfl (And.intro rfl (And.intro rfl (And.intro rfl (And.intro (Nat.le_of_ble_eq_true rfl) (And.intro ce_200 (And.intro rr_200_21 (And.intro rfl (And.intro ce_214 (And.intro (((hhr4.2 q13).2.1 q12).2.2.2.2.2 q10).2.1 (And.intro ce_220 (And.intro (((hhr4.2 q13).2.1 q12).2.2.2.2.2 q10).2.2.1 (And.intro (Nat.le_of_ble_eq_true rfl) (And.intro ce_200 (And.intro rr_200_28 (And.intro rfl (And.intro rfl (And.intro rfl (And.intro rfl (And.intro (Nat.le_of_ble_eq_true rfl) (And.intro ce_200 (And.intro rr_200_19 (And.intro rfl (And.intro ce_212 (And.intro (((hhr4.2 q13).2.1 q12).2.2.2.2.2 q10).2.2.2.1 (And.intro ce_221 (And.intro (((hhr4.2 q13).2.1 q12).2.2.2.2.2 q10).2.2.2.2.1 (And.intro rfl (?_)))))))))))))))))))))))))))))))))
          show sg_Wp 200 228 (d + 1) m_M_passes 313 [(0, 2, 200), (1, 0, v1), (2, 0, sg_iadd v2 1)] [] (sg_up (sg_up (sg_up (sg_up (sg_up G4 212 v2 (sg_isub (G 212 v2) 0)) 218 (sg_iadd (sg_imul 8 v1) v2) (G4 210 v2)) 219 (sg_iadd (sg_imul 8 v1) v2) 1) 220 (sg_iadd (sg_imul 8 v1) v2) (G4 214 v2)) 221 (sg_iadd (sg_imul 8 v1) v2) ((sg_up G4 212 v2 (sg_isub (G 212 v2) 0)) 212 v2)) Q
          refine sg_goto (off := -119) (tgt := 194) (by decide +kernel) (by decide) ?_
          exact (((hhr4.2 q13).2.1 q12).2.2.2.2.2 q10).2.2.2.2.2
      · refine sg_blk [(7, 1, 0, 0, 0)] (by decide +kernel) ?_
        refine And.intro rfl (?_)
        show sg_Wp 200 228 (d + 1) m_M_passes 228 [(0, 2, 200), (1, 0, v1), (2, 0, v2)] [(0, 1), (0, G 212 v2), (0, v2), (2, 212)] G4 Q
        refine sg_goto (off := 4) (tgt := 232) (by decide +kernel) (by decide) ?_
        refine sg_blk [(33, 0, 0, 0, 0), (18, 6, 0, 0, 0), (1, 0, 0, 0, 0), (65, 218, 11, 62, 25), (8, 8, 0, 0, 0), (3, 0, 0, 1, 0), (34, 0, 0, 0, 0), (3, 0, 0, 2, 0), (32, 0, 0, 0, 0), (1, 0, 0, 0, 0), (65, 210, 11, 37, 17), (3, 0, 0, 2, 0), (17, 6, 0, 0, 0), (18, 192, 0, 0, 0), (1, 0, 0, 0, 0), (65, 219, 11, 65, 26), (8, 8, 0, 0, 0), (3, 0, 0, 1, 0), (34, 0, 0, 0, 0), (3, 0, 0, 2, 0), (32, 0, 0, 0, 0), (1, 0, 0, 0, 0), (65, 213, 11, 46, 20), (3, 0, 0, 2, 0), (19, 6, 0, 0, 0)] (by decide +kernel) ?_
        refine And.intro ce_212 (And.intro ((hhr4.2 q13).2.2 q12).1 (And.intro (Nat.le_of_ble_eq_true rfl) (And.intro ce_200 (And.intro rr_200_25 (And.intro rfl (And.intro rfl (And.intro rfl (And.intro rfl (And.intro (Nat.le_of_ble_eq_true rfl) (And.intro ce_200 (And.intro rr_200_17 (And.intro rfl (And.intro ce_210 (And.intro ((hhr4.2 q13).2.2 q12).2.1 (And.intro ce_218 (And.intro ((hhr4.2 q13).2.2 q12).2.2.1 (And.intro (Nat.le_of_ble_eq_true rfl) (And.intro ce_200 (And.intro rr_200_26 (And.intro rfl (And.intro rfl (And.intro rfl (And.intro rfl (And.intro (Nat.le_of_ble_eq_true rfl) (And.intro ce_200 (And.intro rr_200_20 (And.intro rfl (And.intro ce_213 (And.intro ((hhr4.2 q13).2.2 q12).2.2.2.1 (?_))))))))))))))))))))))))))))))
        show sg_Wp 200 228 (d + 1) m_M_passes 267 [(0, 2, 200), (1, 0, v1), (2, 0, v2)] [(0, G4 213 v2), (0, sg_iadd (sg_imul 8 v1) v2), (2, 219)] (sg_up (sg_up G4 212 v2 (sg_isub (G 212 v2) 1)) 218 (sg_iadd (sg_imul 8 v1) v2) (G4 210 v2)) Q
        refine sg_if_eq (off := 7) (tgt := 274) (by decide +kernel) (by decide) ⟨fun q11 => ?_, fun q11 => ?_⟩
        · refine sg_blk [(7, 0, 0, 0, 0), (18, 192, 0, 0, 0), (1, 0, 0, 0, 0), (65, 220, 11, 68, 27), (8, 8, 0, 0, 0), (3, 0, 0, 1, 0), (34, 0, 0, 0, 0), (3, 0, 0, 2, 0), (32, 0, 0, 0, 0), (1, 0, 0, 0, 0), (65, 214, 11, 50, 21), (3, 0, 0, 2, 0), (17, 6, 0, 0, 0), (18, 192, 0, 0, 0), (1, 0, 0, 0, 0), (65, 221, 11, 71, 28), (8, 8, 0, 0, 0), (3, 0, 0, 1, 0), (34, 0, 0, 0, 0), (3, 0, 0, 2, 0), (32, 0, 0, 0, 0), (1, 0, 0, 0, 0), (65, 212, 11, 43, 19), (3, 0, 0, 2, 0), (17, 6, 0, 0, 0), (18, 192, 0, 0, 0), (31, 1, 0, 2, 0)] (by decide +kernel) ?_
          refine And.intro rfl (And.intro ce_219 (And.intro (((hhr4.2 q13).2.2 q12).2.2.2.2.1 q11).1 (And.intro (Nat.le_of_ble_eq_true rfl) (And.intro ce_200 (And.intro rr_200_27 (And.intro rfl (And.intro rfl (And.intro rfl (And.intro rfl (And.intro (Nat.le_of_ble_eq_true rfl) (And.intro ce_200 (And.intro rr_200_21 (And.intro rfl (And.intro ce_214 (And.intro (((hhr4.2 q13).2.2 q12).2.2.2.2.1 q11).2.1 (And.intro ce_220 (And.intro (((hhr4.2 q13).2.2 q12).2.2.2.2.1 q11).2.2.1 (And.intro (Nat.le_of_ble_eq_true rfl) (And.intro ce_200 (And.intro rr_200_28 (And.intro rfl (And.intro rfl (And.intro rfl (And.intro rfl (And.intro (Nat.le_of_ble_eq_true rfl) (And.intro ce_200 (And.intro rr_200_19 (And.intro rfl (And.intro ce_212 (And.intro (((hhr4.2 q13).2.2 q12).2.2.2.2.1 q11).2.2.2.1 (And.intro ce_221 (And.intro (((hhr4.2 q13).2.2 q12).2.2.2.2.1 q11).2.2.2.2.1 (And.intro rfl (?_))))))))))))))))))))))))))))))))))
          show sg_Wp 200 228 (d + 1) m_M_passes 313 [(0, 2, 200), (1, 0, v1), (2, 0, sg_iadd v2 1)] [] (sg_up (sg_up (sg_up (sg_up (sg_up G4 212 v2 (sg_isub (G 212 v2) 1)) 218 (sg_iadd (sg_imul 8 v1) v2) (G4 210 v2)) 219 (sg_iadd (sg_imul 8 v1) v2) 0) 220 (sg_iadd (sg_imul 8 v1) v2) (G4 214 v2)) 221 (sg_iadd (sg_imul 8 v1) v2) ((sg_up G4 212 v2 (sg_isub (G 212 v2) 1)) 212 v2)) Q
          refine sg_goto (off := -119) (tgt := 194) (by decide +kernel) (by decide) ?_
          exact (((hhr4.2 q13).2.2 q12).2.2.2.2.1 q11).2.2.2.2.2
        · refine sg_blk [(7, 1, 0, 0, 0)] (by decide +kernel) ?_
          refine And.intro rfl (?_)
          show sg_Wp 200 228 (d + 1) m_M_passes 271 [(0, 2, 200), (1, 0, v1), (2, 0, v2)] [(0, 1), (0, sg_iadd (sg_imul 8 v1) v2), (2, 219)] (sg_up (sg_up G4 212 v2 (sg_isub (G 212 v2) 1)) 218 (sg_iadd (sg_imul 8 v1) v2) (G4 210 v2)) Q
          refine sg_goto (off := 4) (tgt := 275) (by decide +kernel) (by decide) ?_
          refine sg_blk [(18, 192, 0, 0, 0), (1, 0, 0, 0, 0), (65, 220, 11, 68, 27), (8, 8, 0, 0, 0), (3, 0, 0, 1, 0), (34, 0, 0, 0, 0), (3, 0, 0, 2, 0), (32, 0, 0, 0, 0), (1, 0, 0, 0, 0), (65, 214, 11, 50, 21), (3, 0, 0, 2, 0), (17, 6, 0, 0, 0), (18, 192, 0, 0, 0), (1, 0, 0, 0, 0), (65, 221, 11, 71, 28), (8, 8, 0, 0, 0), (3, 0, 0, 1, 0), (34, 0, 0, 0, 0), (3, 0, 0, 2, 0), (32, 0, 0, 0, 0), (1, 0, 0, 0, 0), (65, 212, 11, 43, 19), (3, 0, 0, 2, 0), (17, 6, 0, 0, 0), (18, 192, 0, 0, 0), (31, 1, 0, 2, 0)] (by decide +kernel) ?_
          refine And.intro ce_219 (And.intro (((hhr4.2 q13).2.2 q12).2.2.2.2.2 q11).1 (And.intro (Nat.le_of_ble_eq_true rfl) (And.intro ce_200 (And.intro rr_200_27 (And.intro rfl (And.intro rfl (And.intro rfl (And.intro rfl (And.intro (Nat.le_of_ble_eq_true rfl) (And.intro ce_200 (And.intro rr_200_21 (And.intro rfl (And.intro ce_214 (And.intro (((hhr4.2 q13).2.2 q12).2.2.2.2.2 q11).2.1 (And.intro ce_220 (And.intro (((hhr4.2 q13).2.2 q12).2.2.2.2.2 q11).2.2.1 (And.intro (Nat.le_of_ble_eq_true rfl) (And.intro ce_200 (And.intro rr_200_28 (And.intro rfl (And.intro rfl (And.intro rfl (And.intro rfl (And.intro (Nat.le_of_ble_eq_true rfl) (And.intro ce_200 (And.intro rr_200_19 (And.intro rfl (And.intro ce_212 (And.intro (((hhr4.2 q13).2.2 q12).2.2.2.2.2 q11).2.2.2.1 (And.intro ce_221 (And.intro (((hhr4.2 q13).2.2 q12).2.2.2.2.2 q11).2.2.2.2.1 (And.intro rfl (?_)))))))))))))))))))))))))))))))))
          show sg_Wp 200 228 (d + 1) m_M_passes 313 [(0, 2, 200), (1, 0, v1), (2, 0, sg_iadd v2 1)] [] (sg_up (sg_up (sg_up (sg_up (sg_up G4 212 v2 (sg_isub (G 212 v2) 1)) 218 (sg_iadd (sg_imul 8 v1) v2) (G4 210 v2)) 219 (sg_iadd (sg_imul 8 v1) v2) 1) 220 (sg_iadd (sg_imul 8 v1) v2) (G4 214 v2)) 221 (sg_iadd (sg_imul 8 v1) v2) ((sg_up G4 212 v2 (sg_isub (G 212 v2) 1)) 212 v2)) Q
          refine sg_goto (off := -119) (tgt := 194) (by decide +kernel) (by decide) ?_
          exact (((hhr4.2 q13).2.2 q12).2.2.2.2.2 q11).2.2.2.2.2
set_option maxRecDepth 100000 in
theorem g_M_passes_140 {d : Nat} {v1 v2 v3 : Int} {G : SgM} {Q : Int → SgM → Prop} (h : (0 ≤ v2 ∧ v2 < 8) ∧ (0 ≤ (sg_iadd (sg_imul 8 v1) v2) ∧ (sg_iadd (sg_imul 8 v1) v2) < 192) ∧ (0 ≤ v2 ∧ v2 < 8) ∧ (0 ≤ (sg_iadd (sg_imul 8 v1) v2) ∧ (sg_iadd (sg_imul 8 v1) v2) < 192) ∧ (0 ≤ (sg_iadd (sg_imul 8 v1) v2) ∧ (sg_iadd (sg_imul 8 v1) v2) < 192) ∧ (sg_Wp 200 228 (d + 1) m_M_passes 78 [(0, 2, 200), (1, 0, v1), (2, 0, sg_iadd v2 1)] [] (sg_up (sg_up (sg_up G 222 (sg_iadd (sg_imul 8 v1) v2) (G 216 v2)) 223 (sg_iadd (sg_imul 8 v1) v2) (G 217 v2)) 224 (sg_iadd (sg_imul 8 v1) v2) v3) Q)) : sg_Wp 200 228 (d + 1) m_M_passes 140 [(0, 2, 200), (1, 0, v1), (2, 0, v2), (3, 0, v3)] [] G Q := by
  refine sg_blk [(1, 0, 0, 0, 0), (65, 222, 11, 74, 29), (8, 8, 0, 0, 0), (3, 0, 0, 1, 0), (34, 0, 0, 0, 0), (3, 0, 0, 2, 0), (32, 0, 0, 0, 0), (1, 0, 0, 0, 0), (65, 216, 11, 56, 23), (3, 0, 0, 2, 0), (17, 8, 0, 0, 0), (18, 192, 0, 0, 0), (1, 0, 0, 0, 0), (65, 223, 11, 77, 30), (8, 8, 0, 0, 0), (3, 0, 0, 1, 0), (34, 0, 0, 0, 0), (3, 0, 0, 2, 0), (32, 0, 0, 0, 0), (1, 0, 0, 0, 0), (65, 217, 11, 59, 24), (3, 0, 0, 2, 0), (17, 8, 0, 0, 0), (18, 192, 0, 0, 0), (1, 0, 0, 0, 0), (65, 224, 11, 80, 31), (8, 8, 0, 0, 0), (3, 0, 0, 1, 0), (34, 0, 0, 0, 0), (3, 0, 0, 2, 0), (32, 0, 0, 0, 0), (3, 0, 0, 3, 0), (18, 192, 0, 0, 0), (31, 1, 0, 2, 0)] (by decide +kernel) ?_
  refine And.intro (Nat.le_of_ble_eq_true rfl) (And.intro ce_200 (And.intro rr_200_29 (And.intro rfl (And.intro rfl (And.intro rfl (And.intro rfl (And.intro (Nat.le_of_ble_eq_true rfl) (And.intro ce_200 (And.intro rr_200_23 (And.intro rfl (And.intro ce_216 (And.intro h.1 (And.intro ce_222 (And.intro h.2.1 (And.intro (Nat.le_of_ble_eq_true rfl) (And.intro ce_200 (And.intro rr_200_30 (And.intro rfl (And.intro rfl (And.intro rfl (And.intro rfl (And.intro (Nat.le_of_ble_eq_true rfl) (And.intro ce_200 (And.intro rr_200_24 (And.intro rfl (And.intro ce_217 (And.intro h.2.2.1 (And.intro ce_223 (And.intro h.2.2.2.1 (And.intro (Nat.le_of_ble_eq_true rfl) (And.intro ce_200 (And.intro rr_200_31 (And.intro rfl (And.intro rfl (And.intro rfl (And.intro rfl (And.intro rfl (And.intro ce_224 (And.intro h.2.2.2.2.1 (And.intro rfl (?_)))))))))))))))))))))))))))))))))))))))))
  show sg_Wp 200 228 (d + 1) m_M_passes 189 [(0, 2, 200), (1, 0, v1), (2, 0, sg_iadd v2 1), (3, 0, v3)] [] (sg_up (sg_up (sg_up G 222 (sg_iadd (sg_imul 8 v1) v2) (G 216 v2)) 223 (sg_iadd (sg_imul 8 v1) v2) (G 217 v2)) 224 (sg_iadd (sg_imul 8 v1) v2) v3) Q
  refine sg_goto (off := -111) (tgt := 78) (by decide +kernel) (by decide) ?_
  exact sg_Wp.keepk [0, 1, 2] rfl h.2.2.2.2.2
set_option maxRecDepth 100000 in
theorem g_M_person_0 {d : Nat} {v1 v2 : Int} {G : SgM} {Q : Int → SgM → Prop} (h : sg_Wp 200 228 d m_M_readsPeople 0 [(0, 2, 200)] [] G (fun r1 G1 => sg_Wp 200 228 d m_M_isPerson 0 [(0, 2, 200), (1, 0, v1)] [] G1 (fun r2 G2 => (r2 = 0 → (Q ((-2)) G2)) ∧ (¬ (r2 = 0) → (((0 ≤ v2 ∧ v2 ≤ 3) → ((0 ≤ (sg_iadd (sg_imul 4 v1) v2) ∧ (sg_iadd (sg_imul 4 v1) v2) < 24) ∧ (Q (G2 208 (sg_iadd (sg_imul 4 v1) v2)) G2))) ∧ (¬ (0 ≤ v2 ∧ v2 ≤ 3) → (Q ((-2)) G2))))))) : sg_Wp 200 228 (d + 1) m_M_person 0 [(0, 2, 200), (1, 0, v1), (2, 0, v2)] [] G Q := by
  refine sg_blk [(1, 0, 0, 0, 0)] (by decide +kernel) ?_
  refine And.intro (Nat.le_of_ble_eq_true rfl) (?_)
  show sg_Wp 200 228 (d + 1) m_M_person 1 [(0, 2, 200), (1, 0, v1), (2, 0, v2)] [(2, 200)] G Q
  refine sg_callV (k := d) (y' := m_M_readsPeople) (av := []) (rest := []) (b := 200) (by decide +kernel) cv_M_readsPeople ml_11_150 ce_200 rfl rfl (Nat.le_of_ble_eq_true rfl) (Nat.lt_succ_self d) (Nat.le_of_ble_eq_true rfl) rfl ?_
  show sg_Wp 200 228 d m_M_readsPeople 0 [(0, 2, 200)] [] G _
  refine sg_Wp.mono h (fun r1 G1 hhr1 => ?_)
  show sg_Wp 200 228 (d + 1) m_M_person 4 [(0, 2, 200), (1, 0, v1), (2, 0, v2)] [(0, r1)] G1 Q
  refine sg_blk [(59, 0, 0, 0, 0), (1, 0, 0, 0, 0), (3, 0, 0, 1, 0)] (by decide +kernel) ?_
  refine And.intro (Nat.ne_of_beq_eq_false rfl) (And.intro (Nat.le_of_ble_eq_true rfl) (And.intro rfl (?_)))
  show sg_Wp 200 228 (d + 1) m_M_person 7 [(0, 2, 200), (1, 0, v1), (2, 0, v2)] [(0, v1), (2, 200)] G1 Q
  refine sg_callV (k := d) (y' := m_M_isPerson) (av := [(0, v1)]) (rest := []) (b := 200) (by decide +kernel) cv_M_isPerson ml_11_161 ce_200 rfl rfl (Nat.le_of_ble_eq_true rfl) (Nat.lt_succ_self d) (Nat.le_of_ble_eq_true rfl) rfl ?_
  show sg_Wp 200 228 d m_M_isPerson 0 [(0, 2, 200), (1, 0, v1)] [] G1 _
  refine sg_Wp.mono hhr1 (fun r2 G2 hhr2 => ?_)
  show sg_Wp 200 228 (d + 1) m_M_person 10 [(0, 2, 200), (1, 0, v1), (2, 0, v2)] [(0, r2)] G2 Q
  refine sg_if_eq (off := 28) (tgt := 38) (by decide +kernel) (by decide) ⟨fun q2 => ?_, fun q2 => ?_⟩
  · refine sg_blk [(8, (-2), 0, 0, 0)] (by decide +kernel) ?_
    refine And.intro rfl (And.intro rfl (?_))
    show sg_Wp 200 228 (d + 1) m_M_person 40 [(0, 2, 200), (1, 0, v1), (2, 0, v2)] [(0, (-2))] G2 Q
    exact sg_ret (by decide +kernel) rfl (Or.inl rfl) ((hhr2.1 q2))
  · refine sg_blk [(3, 0, 0, 2, 0), (53, 0, 0, 0, 0), (10, 0, 0, 0, 0), (12, 3, 0, 105, 0)] (by decide +kernel) ?_
    refine And.intro rfl (And.intro rfl (?_))
    show sg_Wp 200 228 (d + 1) m_M_person 19 [(0, 2, 200), (1, 0, v1), (2, 0, v2)] [(1, 3), (1, 0), (1, v2)] G2 Q
    refine sg_callS (k := d) (y' := m_M_in) (av := [(1, v2), (1, 0), (1, 3)]) (rest := []) (by decide +kernel) cs_M_in ml_11_98 rfl (Nat.le_of_ble_eq_true rfl) (Nat.lt_succ_self d) (Nat.le_of_ble_eq_true rfl) rfl ?_
    show sg_Wp 200 228 d m_M_in 0 [(0, 1, v2), (2, 1, 0), (4, 1, 3)] [] G2 _
    refine s_M_in ?_
    show sg_Wp 200 228 (d + 1) m_M_person 22 [(0, 2, 200), (1, 0, v1), (2, 0, v2)] [(0, sg_bo (0 ≤ v2 ∧ v2 ≤ 3))] G2 Q
    refine sg_bif_eq (off := 16) (tgt := 38) (by decide +kernel) (by decide) ⟨fun q1 => ?_, fun q1 => ?_⟩
    · refine sg_blk [(1, 0, 0, 0, 0), (65, 208, 11, 31, 10), (7, 4, 0, 0, 0), (3, 0, 0, 1, 0), (34, 0, 0, 0, 0), (3, 0, 0, 2, 0), (32, 0, 0, 0, 0), (17, 24, 0, 0, 0)] (by decide +kernel) ?_
      refine And.intro (Nat.le_of_ble_eq_true rfl) (And.intro ce_200 (And.intro rr_200_10 (And.intro rfl (And.intro rfl (And.intro rfl (And.intro ce_208 (And.intro ((hhr2.2 q2).1 q1).1 (?_))))))))
      show sg_Wp 200 228 (d + 1) m_M_person 35 [(0, 2, 200), (1, 0, v1), (2, 0, v2)] [(0, G2 208 (sg_iadd (sg_imul 4 v1) v2))] G2 Q
      refine sg_goto (off := 5) (tgt := 40) (by decide +kernel) (by decide) ?_
      exact sg_ret (by decide +kernel) rfl (Or.inl rfl) (((hhr2.2 q2).1 q1).2)
    · refine sg_blk [(8, (-2), 0, 0, 0)] (by decide +kernel) ?_
      refine And.intro rfl (And.intro rfl (?_))
      show sg_Wp 200 228 (d + 1) m_M_person 40 [(0, 2, 200), (1, 0, v1), (2, 0, v2)] [(0, (-2))] G2 Q
      exact sg_ret (by decide +kernel) rfl (Or.inl rfl) (((hhr2.2 q2).2 q1))
set_option maxRecDepth 100000 in
theorem g_M_post_0 {d : Nat} {v1 v2 : Int} {G : SgM} {Q : Int → SgM → Prop} (h : sg_Wp 200 228 (d + 1) m_M_readsPosts 0 [(0, 2, 200)] [] G (fun r1 G1 => sg_Wp 200 228 (d + 1) m_M_isPost 0 [(0, 2, 200), (1, 0, v1)] [] G1 (fun r2 G2 => (r2 = 0 → (Q ((-2)) G2)) ∧ (¬ (r2 = 0) → (((0 ≤ v2 ∧ v2 ≤ 1) → ((0 ≤ (sg_iadd (sg_imul 2 v1) v2) ∧ (sg_iadd (sg_imul 2 v1) v2) < 16) ∧ (Q (G2 207 (sg_iadd (sg_imul 2 v1) v2)) G2))) ∧ (¬ (0 ≤ v2 ∧ v2 ≤ 1) → (Q ((-2)) G2))))))) : sg_Wp 200 228 (d + 2) m_M_post 0 [(0, 2, 200), (1, 0, v1), (2, 0, v2)] [] G Q := by
  refine sg_blk [(1, 0, 0, 0, 0)] (by decide +kernel) ?_
  refine And.intro (Nat.le_of_ble_eq_true rfl) (?_)
  show sg_Wp 200 228 (d + 2) m_M_post 1 [(0, 2, 200), (1, 0, v1), (2, 0, v2)] [(2, 200)] G Q
  refine sg_callV (k := (d + 1)) (y' := m_M_readsPosts) (av := []) (rest := []) (b := 200) (by decide +kernel) cv_M_readsPosts ml_11_146 ce_200 rfl rfl (Nat.le_of_ble_eq_true rfl) (Nat.lt_succ_self (d + 1)) (Nat.le_of_ble_eq_true rfl) rfl ?_
  show sg_Wp 200 228 (d + 1) m_M_readsPosts 0 [(0, 2, 200)] [] G _
  refine sg_Wp.mono h (fun r1 G1 hhr1 => ?_)
  show sg_Wp 200 228 (d + 2) m_M_post 4 [(0, 2, 200), (1, 0, v1), (2, 0, v2)] [(0, r1)] G1 Q
  refine sg_blk [(59, 0, 0, 0, 0), (1, 0, 0, 0, 0), (3, 0, 0, 1, 0)] (by decide +kernel) ?_
  refine And.intro (Nat.ne_of_beq_eq_false rfl) (And.intro (Nat.le_of_ble_eq_true rfl) (And.intro rfl (?_)))
  show sg_Wp 200 228 (d + 2) m_M_post 7 [(0, 2, 200), (1, 0, v1), (2, 0, v2)] [(0, v1), (2, 200)] G1 Q
  refine sg_callV (k := (d + 1)) (y' := m_M_isPost) (av := [(0, v1)]) (rest := []) (b := 200) (by decide +kernel) cv_M_isPost ml_11_158 ce_200 rfl rfl (Nat.le_of_ble_eq_true rfl) (Nat.lt_succ_self (d + 1)) (Nat.le_of_ble_eq_true rfl) rfl ?_
  show sg_Wp 200 228 (d + 1) m_M_isPost 0 [(0, 2, 200), (1, 0, v1)] [] G1 _
  refine sg_Wp.mono hhr1 (fun r2 G2 hhr2 => ?_)
  show sg_Wp 200 228 (d + 2) m_M_post 10 [(0, 2, 200), (1, 0, v1), (2, 0, v2)] [(0, r2)] G2 Q
  refine sg_if_eq (off := 23) (tgt := 33) (by decide +kernel) (by decide) ⟨fun q2 => ?_, fun q2 => ?_⟩
  · refine sg_blk [(8, (-2), 0, 0, 0)] (by decide +kernel) ?_
    refine And.intro rfl (And.intro rfl (?_))
    show sg_Wp 200 228 (d + 2) m_M_post 35 [(0, 2, 200), (1, 0, v1), (2, 0, v2)] [(0, (-2))] G2 Q
    exact sg_ret (by decide +kernel) rfl (Or.inl rfl) ((hhr2.1 q2))
  · refine sg_blk [(3, 0, 0, 2, 0)] (by decide +kernel) ?_
    refine And.intro rfl (?_)
    show sg_Wp 200 228 (d + 2) m_M_post 14 [(0, 2, 200), (1, 0, v1), (2, 0, v2)] [(0, v2)] G2 Q
    refine sg_callS (k := (d + 1)) (y' := m_M_isTwo) (av := [(0, v2)]) (rest := []) (by decide +kernel) cs_M_isTwo ml_11_126 rfl (Nat.le_of_ble_eq_true rfl) (Nat.lt_succ_self (d + 1)) (Nat.le_of_ble_eq_true rfl) rfl ?_
    show sg_Wp 200 228 (d + 1) m_M_isTwo 0 [(0, 0, v2)] [] G2 _
    refine s_M_isTwo ?_
    show sg_Wp 200 228 (d + 2) m_M_post 17 [(0, 2, 200), (1, 0, v1), (2, 0, v2)] [(0, sg_bo (0 ≤ v2 ∧ v2 ≤ 1))] G2 Q
    refine sg_bif_eq (off := 16) (tgt := 33) (by decide +kernel) (by decide) ⟨fun q1 => ?_, fun q1 => ?_⟩
    · refine sg_blk [(1, 0, 0, 0, 0), (65, 207, 11, 28, 8), (7, 2, 0, 0, 0), (3, 0, 0, 1, 0), (34, 0, 0, 0, 0), (3, 0, 0, 2, 0), (32, 0, 0, 0, 0), (17, 16, 0, 0, 0)] (by decide +kernel) ?_
      refine And.intro (Nat.le_of_ble_eq_true rfl) (And.intro ce_200 (And.intro rr_200_8 (And.intro rfl (And.intro rfl (And.intro rfl (And.intro ce_207 (And.intro ((hhr2.2 q2).1 q1).1 (?_))))))))
      show sg_Wp 200 228 (d + 2) m_M_post 30 [(0, 2, 200), (1, 0, v1), (2, 0, v2)] [(0, G2 207 (sg_iadd (sg_imul 2 v1) v2))] G2 Q
      refine sg_goto (off := 5) (tgt := 35) (by decide +kernel) (by decide) ?_
      exact sg_ret (by decide +kernel) rfl (Or.inl rfl) (((hhr2.2 q2).1 q1).2)
    · refine sg_blk [(8, (-2), 0, 0, 0)] (by decide +kernel) ?_
      refine And.intro rfl (And.intro rfl (?_))
      show sg_Wp 200 228 (d + 2) m_M_post 35 [(0, 2, 200), (1, 0, v1), (2, 0, v2)] [(0, (-2))] G2 Q
      exact sg_ret (by decide +kernel) rfl (Or.inl rfl) (((hhr2.2 q2).2 q1))
set_option maxRecDepth 100000 in
theorem g_M_read_0 {d : Nat} {v1 : Int} {G : SgM} {Q : Int → SgM → Prop} (h : ((0 ≤ v1 ∧ v1 ≤ 3) → ((0 ≤ v1 ∧ v1 < 4) ∧ ((0 ≤ (G 201 v1) → (sg_Wp 200 228 (d + 2) m_M_read 29 [(0, 2, 200), (1, 0, v1), (2, 0, 0), (3, 0, 1)] [] G Q)) ∧ (¬ (0 ≤ (G 201 v1)) → (sg_Wp 200 228 (d + 1) m_M_finds 0 [(0, 2, 200), (1, 0, 1)] [] G (fun r1 G1 => Q r1 G1)))))) ∧ (¬ (0 ≤ v1 ∧ v1 ≤ 3) → (Q ((-2)) G))) : sg_Wp 200 228 (d + 2) m_M_read 0 [(0, 2, 200), (1, 0, v1)] [] G Q := by
  refine sg_blk [(3, 0, 0, 1, 0)] (by decide +kernel) ?_
  refine And.intro rfl (?_)
  show sg_Wp 200 228 (d + 2) m_M_read 1 [(0, 2, 200), (1, 0, v1)] [(0, v1)] G Q
  refine sg_callS (k := (d + 1)) (y' := m_M_isSheet) (av := [(0, v1)]) (rest := []) (by decide +kernel) cs_M_isSheet ml_11_107 rfl (Nat.le_of_ble_eq_true rfl) (Nat.lt_succ_self (d + 1)) (Nat.le_of_ble_eq_true rfl) rfl ?_
  show sg_Wp 200 228 (d + 1) m_M_isSheet 0 [(0, 0, v1)] [] G _
  refine s_M_isSheet ?_
  show sg_Wp 200 228 (d + 2) m_M_read 4 [(0, 2, 200), (1, 0, v1)] [(0, sg_bo (0 ≤ v1 ∧ v1 ≤ 3))] G Q
  refine sg_bif_ne (off := 6) (tgt := 10) (by decide +kernel) (by decide) ⟨fun q2 => ?_, fun q2 => ?_⟩
  · refine sg_blk [(1, 0, 0, 0, 0), (65, 201, 11, 7, 0), (3, 0, 0, 1, 0), (17, 4, 0, 0, 0)] (by decide +kernel) ?_
    refine And.intro (Nat.le_of_ble_eq_true rfl) (And.intro ce_200 (And.intro rr_200_0 (And.intro rfl (And.intro ce_201 (And.intro (h.1 q2).1 (?_))))))
    show sg_Wp 200 228 (d + 2) m_M_read 16 [(0, 2, 200), (1, 0, v1)] [(0, G 201 v1)] G Q
    refine sg_if_ge (off := 9) (tgt := 25) (by decide +kernel) (by decide) ⟨fun q1 => ?_, fun q1 => ?_⟩
    · refine sg_blk [(7, 0, 0, 0, 0), (25, 0, 0, 2, 0), (7, 1, 0, 0, 0), (25, 0, 0, 3, 0)] (by decide +kernel) ?_
      refine And.intro rfl (And.intro rfl (And.intro rfl (And.intro rfl (?_))))
      show sg_Wp 200 228 (d + 2) m_M_read 29 [(0, 2, 200), (1, 0, v1), (2, 0, 0), (3, 0, 1)] [] G Q
      exact ((h.1 q2).2.1 q1)
    · refine sg_blk [(1, 0, 0, 0, 0), (7, 1, 0, 0, 0)] (by decide +kernel) ?_
      refine And.intro (Nat.le_of_ble_eq_true rfl) (And.intro rfl (?_))
      show sg_Wp 200 228 (d + 2) m_M_read 21 [(0, 2, 200), (1, 0, v1)] [(0, 1), (2, 200)] G Q
      refine sg_callV (k := (d + 1)) (y' := m_M_finds) (av := [(0, 1)]) (rest := []) (b := 200) (by decide +kernel) cv_M_finds ml_11_113 ce_200 rfl rfl (Nat.le_of_ble_eq_true rfl) (Nat.lt_succ_self (d + 1)) (Nat.le_of_ble_eq_true rfl) rfl ?_
      show sg_Wp 200 228 (d + 1) m_M_finds 0 [(0, 2, 200), (1, 0, 1)] [] G _
      refine sg_Wp.mono (((h.1 q2).2.2 q1)) (fun r1 G1 hhr1 => ?_)
      show sg_Wp 200 228 (d + 2) m_M_read 24 [(0, 2, 200), (1, 0, v1)] [(0, r1)] G1 Q
      exact sg_ret (by decide +kernel) rfl (Or.inl rfl) hhr1
  · refine sg_blk [(8, (-2), 0, 0, 0)] (by decide +kernel) ?_
    refine And.intro rfl (And.intro rfl (?_))
    show sg_Wp 200 228 (d + 2) m_M_read 9 [(0, 2, 200), (1, 0, v1)] [(0, (-2))] G Q
    exact sg_ret (by decide +kernel) rfl (Or.inl rfl) ((h.2 q2))
set_option maxRecDepth 100000 in
theorem g_M_read_29 {d : Nat} {v1 v2 v3 : Int} {G : SgM} {Q : Int → SgM → Prop} (h : (v3 = 0 → (Q v2 G)) ∧ (¬ (v3 = 0) → ((0 ≤ v1 ∧ v1 < 4) ∧ (((G 202 v1) < (sg_iadd (sg_imul 3 v2) 3) → (Q v2 G)) ∧ (¬ ((G 202 v1) < (sg_iadd (sg_imul 3 v2) 3)) → ((0 ≤ (sg_iadd (sg_imul 60 v1) (sg_imul 3 v2)) ∧ (sg_iadd (sg_imul 60 v1) (sg_imul 3 v2)) < 240) ∧ (0 ≤ (sg_iadd (sg_iadd (sg_imul 60 v1) (sg_imul 3 v2)) 1) ∧ (sg_iadd (sg_iadd (sg_imul 60 v1) (sg_imul 3 v2)) 1) < 240) ∧ (0 ≤ (sg_iadd (sg_iadd (sg_imul 60 v1) (sg_imul 3 v2)) 2) ∧ (sg_iadd (sg_iadd (sg_imul 60 v1) (sg_imul 3 v2)) 2) < 240) ∧ (sg_Wp 200 228 (d + 1) m_M_event 0 [(0, 2, 200), (1, 0, G 203 (sg_iadd (sg_imul 60 v1) (sg_imul 3 v2))), (2, 0, G 203 (sg_iadd (sg_iadd (sg_imul 60 v1) (sg_imul 3 v2)) 1)), (3, 0, G 203 (sg_iadd (sg_iadd (sg_imul 60 v1) (sg_imul 3 v2)) 2))] [] G (fun r2 G2 => (r2 < 0 → (sg_Wp 200 228 (d + 2) m_M_read 29 [(0, 2, 200), (1, 0, v1), (2, 0, sg_iadd v2 0), (3, 0, 0)] [] G2 Q)) ∧ (¬ (r2 < 0) → (sg_Wp 200 228 (d + 2) m_M_read 29 [(0, 2, 200), (1, 0, v1), (2, 0, sg_iadd v2 1), (3, 0, 1)] [] G2 Q)))))))))) : sg_Wp 200 228 (d + 2) m_M_read 29 [(0, 2, 200), (1, 0, v1), (2, 0, v2), (3, 0, v3)] [] G Q := by
  refine sg_blk [(3, 0, 0, 3, 0)] (by decide +kernel) ?_
  refine And.intro rfl (?_)
  show sg_Wp 200 228 (d + 2) m_M_read 30 [(0, 2, 200), (1, 0, v1), (2, 0, v2), (3, 0, v3)] [(0, v3)] G Q
  refine sg_if_eq (off := 80) (tgt := 110) (by decide +kernel) (by decide) ⟨fun q5 => ?_, fun q5 => ?_⟩
  · refine sg_blk [(3, 0, 0, 2, 0)] (by decide +kernel) ?_
    refine And.intro rfl (?_)
    show sg_Wp 200 228 (d + 2) m_M_read 111 [(0, 2, 200), (1, 0, v1), (2, 0, v2), (3, 0, v3)] [(0, v2)] G Q
    exact sg_ret (by decide +kernel) rfl (Or.inl rfl) ((h.1 q5))
  · refine sg_blk [(7, 3, 0, 0, 0), (3, 0, 0, 2, 0), (34, 0, 0, 0, 0), (7, 3, 0, 0, 0), (32, 0, 0, 0, 0), (1, 0, 0, 0, 0), (65, 202, 11, 13, 1), (3, 0, 0, 1, 0), (17, 4, 0, 0, 0)] (by decide +kernel) ?_
    refine And.intro rfl (And.intro rfl (And.intro rfl (And.intro (Nat.le_of_ble_eq_true rfl) (And.intro ce_200 (And.intro rr_200_1 (And.intro rfl (And.intro ce_202 (And.intro (h.2 q5).1 (?_)))))))))
    show sg_Wp 200 228 (d + 2) m_M_read 44 [(0, 2, 200), (1, 0, v1), (2, 0, v2), (3, 0, v3)] [(0, G 202 v1), (0, sg_iadd (sg_imul 3 v2) 3)] G Q
    refine sg_icmp_gt (off := 66) (tgt := 110) (by decide +kernel) (by decide) ⟨fun q4 => ?_, fun q4 => ?_⟩
    · refine sg_blk [(3, 0, 0, 2, 0)] (by decide +kernel) ?_
      refine And.intro rfl (?_)
      show sg_Wp 200 228 (d + 2) m_M_read 111 [(0, 2, 200), (1, 0, v1), (2, 0, v2), (3, 0, v3)] [(0, v2)] G Q
      exact sg_ret (by decide +kernel) rfl (Or.inl rfl) (((h.2 q5).2.1 q4))
    · refine sg_blk [(8, 60, 0, 0, 0), (3, 0, 0, 1, 0), (34, 0, 0, 0, 0), (7, 3, 0, 0, 0), (3, 0, 0, 2, 0), (34, 0, 0, 0, 0), (32, 0, 0, 0, 0), (26, 0, 0, 4, 0), (1, 0, 0, 0, 0), (1, 0, 0, 0, 0), (65, 203, 11, 16, 2), (4, 0, 0, 4, 0), (17, 240, 0, 0, 0), (1, 0, 0, 0, 0), (65, 203, 11, 16, 2), (4, 0, 0, 4, 0), (7, 1, 0, 0, 0), (32, 0, 0, 0, 0), (17, 240, 0, 0, 0), (1, 0, 0, 0, 0), (65, 203, 11, 16, 2), (4, 0, 0, 4, 0), (7, 2, 0, 0, 0), (32, 0, 0, 0, 0), (17, 240, 0, 0, 0)] (by decide +kernel) ?_
      refine And.intro rfl (And.intro rfl (And.intro rfl (And.intro rfl (And.intro rfl (And.intro rfl (And.intro (Nat.le_of_ble_eq_true rfl) (And.intro (Nat.le_of_ble_eq_true rfl) (And.intro ce_200 (And.intro rr_200_2 (And.intro rfl (And.intro ce_203 (And.intro ((h.2 q5).2.2 q4).1 (And.intro (Nat.le_of_ble_eq_true rfl) (And.intro ce_200 (And.intro rr_200_2 (And.intro rfl (And.intro rfl (And.intro ce_203 (And.intro ((h.2 q5).2.2 q4).2.1 (And.intro (Nat.le_of_ble_eq_true rfl) (And.intro ce_200 (And.intro rr_200_2 (And.intro rfl (And.intro rfl (And.intro ce_203 (And.intro ((h.2 q5).2.2 q4).2.2.1 (?_)))))))))))))))))))))))))))
      show sg_Wp 200 228 (d + 2) m_M_read 83 [(0, 2, 200), (1, 0, v1), (2, 0, v2), (3, 0, v3), (4, 0, sg_iadd (sg_imul 60 v1) (sg_imul 3 v2))] [(0, G 203 (sg_iadd (sg_iadd (sg_imul 60 v1) (sg_imul 3 v2)) 2)), (0, G 203 (sg_iadd (sg_iadd (sg_imul 60 v1) (sg_imul 3 v2)) 1)), (0, G 203 (sg_iadd (sg_imul 60 v1) (sg_imul 3 v2))), (2, 200)] G Q
      refine sg_callV (k := (d + 1)) (y' := m_M_event) (av := [(0, G 203 (sg_iadd (sg_imul 60 v1) (sg_imul 3 v2))), (0, G 203 (sg_iadd (sg_iadd (sg_imul 60 v1) (sg_imul 3 v2)) 1)), (0, G 203 (sg_iadd (sg_iadd (sg_imul 60 v1) (sg_imul 3 v2)) 2))]) (rest := []) (b := 200) (by decide +kernel) cv_M_event ml_11_176 ce_200 rfl rfl (Nat.le_of_ble_eq_true rfl) (Nat.lt_succ_self (d + 1)) (Nat.le_of_ble_eq_true rfl) rfl ?_
      show sg_Wp 200 228 (d + 1) m_M_event 0 [(0, 2, 200), (1, 0, G 203 (sg_iadd (sg_imul 60 v1) (sg_imul 3 v2))), (2, 0, G 203 (sg_iadd (sg_iadd (sg_imul 60 v1) (sg_imul 3 v2)) 1)), (3, 0, G 203 (sg_iadd (sg_iadd (sg_imul 60 v1) (sg_imul 3 v2)) 2))] [] G _
      refine sg_Wp.mono (((h.2 q5).2.2 q4).2.2.2) (fun r2 G2 hhr2 => ?_)
      show sg_Wp 200 228 (d + 2) m_M_read 86 [(0, 2, 200), (1, 0, v1), (2, 0, v2), (3, 0, v3), (4, 0, sg_iadd (sg_imul 60 v1) (sg_imul 3 v2))] [(0, r2)] G2 Q
      refine sg_if_lt (off := 7) (tgt := 93) (by decide +kernel) (by decide) ⟨fun q3 => ?_, fun q3 => ?_⟩
      · refine sg_blk [(7, 0, 0, 0, 0), (25, 0, 0, 3, 0), (3, 0, 0, 2, 0), (3, 0, 0, 3, 0)] (by decide +kernel) ?_
        refine And.intro rfl (And.intro rfl (And.intro rfl (And.intro rfl (?_))))
        show sg_Wp 200 228 (d + 2) m_M_read 97 [(0, 2, 200), (1, 0, v1), (2, 0, v2), (3, 0, 0), (4, 0, sg_iadd (sg_imul 60 v1) (sg_imul 3 v2))] [(0, 0), (0, v2)] G2 Q
        refine sg_if_eq (off := 7) (tgt := 104) (by decide +kernel) (by decide) ⟨fun _ => ?_, fun q => absurd (by decide) q⟩
        refine sg_blk [(7, 0, 0, 0, 0), (32, 0, 0, 0, 0), (25, 0, 0, 2, 0)] (by decide +kernel) ?_
        refine And.intro rfl (And.intro rfl (?_))
        show sg_Wp 200 228 (d + 2) m_M_read 107 [(0, 2, 200), (1, 0, v1), (2, 0, sg_iadd v2 0), (3, 0, 0), (4, 0, sg_iadd (sg_imul 60 v1) (sg_imul 3 v2))] [] G2 Q
        refine sg_goto (off := -78) (tgt := 29) (by decide +kernel) (by decide) ?_
        exact sg_Wp.keepk [0, 1, 2, 3] rfl ((hhr2.1 q3))
      · refine sg_blk [(7, 1, 0, 0, 0)] (by decide +kernel) ?_
        refine And.intro rfl (?_)
        show sg_Wp 200 228 (d + 2) m_M_read 90 [(0, 2, 200), (1, 0, v1), (2, 0, v2), (3, 0, v3), (4, 0, sg_iadd (sg_imul 60 v1) (sg_imul 3 v2))] [(0, 1)] G2 Q
        refine sg_goto (off := 4) (tgt := 94) (by decide +kernel) (by decide) ?_
        refine sg_blk [(25, 0, 0, 3, 0), (3, 0, 0, 2, 0), (3, 0, 0, 3, 0)] (by decide +kernel) ?_
        refine And.intro rfl (And.intro rfl (And.intro rfl (?_)))
        show sg_Wp 200 228 (d + 2) m_M_read 97 [(0, 2, 200), (1, 0, v1), (2, 0, v2), (3, 0, 1), (4, 0, sg_iadd (sg_imul 60 v1) (sg_imul 3 v2))] [(0, 1), (0, v2)] G2 Q
        refine sg_if_eq (off := 7) (tgt := 104) (by decide +kernel) (by decide) ⟨fun q => absurd q (by decide), fun _ => ?_⟩
        refine sg_blk [(7, 1, 0, 0, 0)] (by decide +kernel) ?_
        refine And.intro rfl (?_)
        show sg_Wp 200 228 (d + 2) m_M_read 101 [(0, 2, 200), (1, 0, v1), (2, 0, v2), (3, 0, 1), (4, 0, sg_iadd (sg_imul 60 v1) (sg_imul 3 v2))] [(0, 1), (0, v2)] G2 Q
        refine sg_goto (off := 4) (tgt := 105) (by decide +kernel) (by decide) ?_
        refine sg_blk [(32, 0, 0, 0, 0), (25, 0, 0, 2, 0)] (by decide +kernel) ?_
        refine And.intro rfl (?_)
        show sg_Wp 200 228 (d + 2) m_M_read 107 [(0, 2, 200), (1, 0, v1), (2, 0, sg_iadd v2 1), (3, 0, 1), (4, 0, sg_iadd (sg_imul 60 v1) (sg_imul 3 v2))] [] G2 Q
        refine sg_goto (off := -78) (tgt := 29) (by decide +kernel) (by decide) ?_
        exact sg_Wp.keepk [0, 1, 2, 3] rfl ((hhr2.2 q3))
