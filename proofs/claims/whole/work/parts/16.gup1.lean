/-! CUT LEMMAS, printed by a program -/
set_option maxRecDepth 100000 in
theorem g_P_planStroll_45_0 {d N : Nat} (hN : 75 ≤ N) {v1 : Int} {G : SgM} {Q : Int → SgM → Prop} (h : ((G 5 0) ≠ 0 → ((0 ≤ v1 ∧ v1 < 6) ∧ (sg_Wp 0 N (d + 1) m_P_planStroll 39 [(0, 2, 45), (1, 0, v1), (2, 0, G 10 v1), (3, 0, 0)] [] (sg_up (sg_up G 45 1 0) 45 2 0) Q))) ∧ (¬ ((G 5 0) ≠ 0) → (Q 0 (sg_up (sg_up G 45 1 0) 45 2 0)))) : sg_Wp 0 N (d + 1) m_P_planStroll 0 [(0, 2, 45), (1, 0, v1)] [] G Q := by
  refine sg_blk [(1, 0, 0, 0, 0), (7, 0, 0, 0, 0), (16, 0, 5, 15, 1), (1, 0, 0, 0, 0), (7, 0, 0, 0, 0), (16, 0, 5, 19, 2), (1, 0, 0, 0, 0), (65, 0, 5, 9, 0), (65, 5, 4, 22, 2), (15, 0, 8, 28, 0)] (by decide +kernel) ?_
  refine And.intro (Nat.le_of_ble_eq_true rfl) (And.intro rfl (And.intro (ce_45 hN) (And.intro (Nat.le_of_ble_eq_true rfl) (And.intro rfl (And.intro (ce_45 hN) (And.intro (Nat.le_of_ble_eq_true rfl) (And.intro (ce_45 hN) (And.intro rr_45_0 (And.intro (ce_0 (Nat.le_trans (by decide) hN)) (And.intro rr_0_2 (And.intro (ce_5 (Nat.le_trans (by decide) hN)) (?_))))))))))))
  show sg_Wp 0 N (d + 1) m_P_planStroll 20 [(0, 2, 45), (1, 0, v1)] [(0, G 5 0)] (sg_up (sg_up G 45 1 0) 45 2 0) Q
  refine sg_if_ne (off := 4) (tgt := 24) (by decide +kernel) (by decide) ⟨fun q1 => ?_, fun q1 => ?_⟩
  · refine sg_blk [(1, 0, 0, 0, 0), (65, 0, 5, 9, 0), (65, 5, 4, 22, 2), (65, 10, 8, 33, 6), (3, 0, 0, 1, 0), (17, 6, 0, 0, 0), (25, 0, 0, 2, 0), (7, 0, 0, 0, 0), (25, 0, 0, 3, 0)] (by decide +kernel) ?_
    refine And.intro (Nat.le_of_ble_eq_true rfl) (And.intro (ce_45 hN) (And.intro rr_45_0 (And.intro (ce_0 (Nat.le_trans (by decide) hN)) (And.intro rr_0_2 (And.intro (ce_5 (Nat.le_trans (by decide) hN)) (And.intro rr_5_6 (And.intro rfl (And.intro (ce_10 (Nat.le_trans (by decide) hN)) (And.intro (h.1 q1).1 (And.intro rfl (And.intro rfl (And.intro rfl (?_)))))))))))))
    show sg_Wp 0 N (d + 1) m_P_planStroll 39 [(0, 2, 45), (1, 0, v1), (2, 0, G 10 v1), (3, 0, 0)] [] (sg_up (sg_up G 45 1 0) 45 2 0) Q
    exact (h.1 q1).2
  · exact sg_vret (by decide +kernel) rfl ((h.2 q1))
set_option maxRecDepth 100000 in
theorem g_P_planStroll_45_39 {d N : Nat} (hN : 75 ≤ N) {v1 v2 v3 : Int} {G : SgM} {Q : Int → SgM → Prop} (h : (10 ≤ v3 → ((0 ≤ v1 ∧ v1 < 6) ∧ (Q 0 (sg_up G 10 v1 v2)))) ∧ (¬ (10 ≤ v3) → ((0 ≤ v1 ∧ v1 < 6) ∧ (sg_Wp 0 N d m_D_pass 0 [(0, 2, 32)] [] (sg_up G 10 v1 v3) (fun r1 G1 => (v3 = 0 → (sg_Wp 0 N (d + 1) m_P_planStroll 39 [(0, 2, 45), (1, 0, v1), (2, 0, v2), (3, 0, sg_iadd v3 1)] [] (sg_up (sg_up G1 45 1 v3) 45 2 (G1 32 14)) Q)) ∧ (¬ (v3 = 0) → (((G1 45 2) ≤ (G1 32 14) → (sg_Wp 0 N (d + 1) m_P_planStroll 39 [(0, 2, 45), (1, 0, v1), (2, 0, v2), (3, 0, sg_iadd v3 1)] [] G1 Q)) ∧ (¬ ((G1 45 2) ≤ (G1 32 14)) → (sg_Wp 0 N (d + 1) m_P_planStroll 39 [(0, 2, 45), (1, 0, v1), (2, 0, v2), (3, 0, sg_iadd v3 1)] [] (sg_up (sg_up G1 45 1 v3) 45 2 (G1 32 14)) Q))))))))) : sg_Wp 0 N (d + 1) m_P_planStroll 39 [(0, 2, 45), (1, 0, v1), (2, 0, v2), (3, 0, v3)] [] G Q := by
  refine sg_blk [(3, 0, 0, 3, 0), (8, 10, 0, 0, 0)] (by decide +kernel) ?_
  refine And.intro rfl (And.intro rfl (And.intro rfl (?_)))
  show sg_Wp 0 N (d + 1) m_P_planStroll 42 [(0, 2, 45), (1, 0, v1), (2, 0, v2), (3, 0, v3)] [(0, 10), (0, v3)] G Q
  refine sg_icmp_ge (off := 72) (tgt := 114) (by decide +kernel) (by decide) ⟨fun q4 => ?_, fun q4 => ?_⟩
  · refine sg_blk [(1, 0, 0, 0, 0), (65, 0, 5, 9, 0), (65, 5, 4, 22, 2), (65, 10, 8, 33, 6), (3, 0, 0, 1, 0), (3, 0, 0, 2, 0), (18, 6, 0, 0, 0)] (by decide +kernel) ?_
    refine And.intro (Nat.le_of_ble_eq_true rfl) (And.intro (ce_45 hN) (And.intro rr_45_0 (And.intro (ce_0 (Nat.le_trans (by decide) hN)) (And.intro rr_0_2 (And.intro (ce_5 (Nat.le_trans (by decide) hN)) (And.intro rr_5_6 (And.intro rfl (And.intro rfl (And.intro (ce_10 (Nat.le_trans (by decide) hN)) (And.intro (h.1 q4).1 (?_)))))))))))
    show sg_Wp 0 N (d + 1) m_P_planStroll 127 [(0, 2, 45), (1, 0, v1), (2, 0, v2), (3, 0, v3)] [] (sg_up G 10 v1 v2) Q
    exact sg_vret (by decide +kernel) rfl ((h.1 q4).2)
  · refine sg_blk [(1, 0, 0, 0, 0), (65, 0, 5, 9, 0), (65, 5, 4, 22, 2), (65, 10, 8, 33, 6), (3, 0, 0, 1, 0), (3, 0, 0, 3, 0), (18, 6, 0, 0, 0), (1, 0, 0, 0, 0), (65, 0, 5, 9, 0), (65, 32, 4, 37, 6)] (by decide +kernel) ?_
    refine And.intro (Nat.le_of_ble_eq_true rfl) (And.intro (ce_45 hN) (And.intro rr_45_0 (And.intro (ce_0 (Nat.le_trans (by decide) hN)) (And.intro rr_0_2 (And.intro (ce_5 (Nat.le_trans (by decide) hN)) (And.intro rr_5_6 (And.intro rfl (And.intro rfl (And.intro (ce_10 (Nat.le_trans (by decide) hN)) (And.intro (h.2 q4).1 (And.intro (Nat.le_of_ble_eq_true rfl) (And.intro (ce_45 hN) (And.intro rr_45_0 (And.intro (ce_0 (Nat.le_trans (by decide) hN)) (And.intro rr_0_6 (?_))))))))))))))))
    show sg_Wp 0 N (d + 1) m_P_planStroll 65 [(0, 2, 45), (1, 0, v1), (2, 0, v2), (3, 0, v3)] [(2, 32)] (sg_up G 10 v1 v3) Q
    refine sg_callV (k := d) (y' := m_D_pass) (av := []) (rest := []) (b := 32) (by decide +kernel) cv_D_pass ml_5_41 (ce_32 (Nat.le_trans (by decide) hN)) rfl rfl (Nat.le_of_ble_eq_true rfl) (Nat.lt_succ_self d) (Nat.le_of_ble_eq_true rfl) rfl ?_
    show sg_Wp 0 N d m_D_pass 0 [(0, 2, 32)] [] (sg_up G 10 v1 v3) _
    refine sg_Wp.mono ((h.2 q4).2) (fun r1 G1 hhr1 => ?_)
    show sg_Wp 0 N (d + 1) m_P_planStroll 68 [(0, 2, 45), (1, 0, v1), (2, 0, v2), (3, 0, v3)] [] G1 Q
    refine sg_blk [(3, 0, 0, 3, 0)] (by decide +kernel) ?_
    refine And.intro rfl (?_)
    show sg_Wp 0 N (d + 1) m_P_planStroll 69 [(0, 2, 45), (1, 0, v1), (2, 0, v2), (3, 0, v3)] [(0, v3)] G1 Q
    refine sg_if_eq (off := 20) (tgt := 89) (by decide +kernel) (by decide) ⟨fun q3 => ?_, fun q3 => ?_⟩
    · refine sg_blk [(1, 0, 0, 0, 0), (3, 0, 0, 3, 0), (16, 0, 5, 15, 1), (1, 0, 0, 0, 0), (1, 0, 0, 0, 0), (65, 0, 5, 9, 0), (65, 32, 4, 37, 6), (15, 0, 1, 46, 14), (16, 0, 5, 19, 2), (31, 1, 0, 3, 0)] (by decide +kernel) ?_
      refine And.intro (Nat.le_of_ble_eq_true rfl) (And.intro rfl (And.intro (ce_45 hN) (And.intro (Nat.le_of_ble_eq_true rfl) (And.intro (Nat.le_of_ble_eq_true rfl) (And.intro (ce_45 hN) (And.intro rr_45_0 (And.intro (ce_0 (Nat.le_trans (by decide) hN)) (And.intro rr_0_6 (And.intro (ce_32 (Nat.le_trans (by decide) hN)) (And.intro (ce_45 hN) (And.intro rfl (?_))))))))))))
      show sg_Wp 0 N (d + 1) m_P_planStroll 111 [(0, 2, 45), (1, 0, v1), (2, 0, v2), (3, 0, sg_iadd v3 1)] [] (sg_up (sg_up G1 45 1 v3) 45 2 (G1 32 14)) Q
      refine sg_goto (off := -72) (tgt := 39) (by decide +kernel) (by decide) ?_
      exact (hhr1.1 q3)
    · refine sg_blk [(1, 0, 0, 0, 0), (65, 0, 5, 9, 0), (65, 32, 4, 37, 6), (15, 0, 1, 46, 14), (1, 0, 0, 0, 0), (15, 0, 5, 19, 2)] (by decide +kernel) ?_
      refine And.intro (Nat.le_of_ble_eq_true rfl) (And.intro (ce_45 hN) (And.intro rr_45_0 (And.intro (ce_0 (Nat.le_trans (by decide) hN)) (And.intro rr_0_6 (And.intro (ce_32 (Nat.le_trans (by decide) hN)) (And.intro (Nat.le_of_ble_eq_true rfl) (And.intro (ce_45 hN) (?_))))))))
      show sg_Wp 0 N (d + 1) m_P_planStroll 86 [(0, 2, 45), (1, 0, v1), (2, 0, v2), (3, 0, v3)] [(0, G1 45 2), (0, G1 32 14)] G1 Q
      refine sg_icmp_ge (off := 22) (tgt := 108) (by decide +kernel) (by decide) ⟨fun q2 => ?_, fun q2 => ?_⟩
      · refine sg_blk [(31, 1, 0, 3, 0)] (by decide +kernel) ?_
        refine And.intro rfl (?_)
        show sg_Wp 0 N (d + 1) m_P_planStroll 111 [(0, 2, 45), (1, 0, v1), (2, 0, v2), (3, 0, sg_iadd v3 1)] [] G1 Q
        refine sg_goto (off := -72) (tgt := 39) (by decide +kernel) (by decide) ?_
        exact ((hhr1.2 q3).1 q2)
      · refine sg_blk [(1, 0, 0, 0, 0), (3, 0, 0, 3, 0), (16, 0, 5, 15, 1), (1, 0, 0, 0, 0), (1, 0, 0, 0, 0), (65, 0, 5, 9, 0), (65, 32, 4, 37, 6), (15, 0, 1, 46, 14), (16, 0, 5, 19, 2), (31, 1, 0, 3, 0)] (by decide +kernel) ?_
        refine And.intro (Nat.le_of_ble_eq_true rfl) (And.intro rfl (And.intro (ce_45 hN) (And.intro (Nat.le_of_ble_eq_true rfl) (And.intro (Nat.le_of_ble_eq_true rfl) (And.intro (ce_45 hN) (And.intro rr_45_0 (And.intro (ce_0 (Nat.le_trans (by decide) hN)) (And.intro rr_0_6 (And.intro (ce_32 (Nat.le_trans (by decide) hN)) (And.intro (ce_45 hN) (And.intro rfl (?_))))))))))))
        show sg_Wp 0 N (d + 1) m_P_planStroll 111 [(0, 2, 45), (1, 0, v1), (2, 0, v2), (3, 0, sg_iadd v3 1)] [] (sg_up (sg_up G1 45 1 v3) 45 2 (G1 32 14)) Q
        refine sg_goto (off := -72) (tgt := 39) (by decide +kernel) (by decide) ?_
        exact ((hhr1.2 q3).2 q2)
set_option maxRecDepth 100000 in
theorem g_P_planDust_45_0 {d N : Nat} (hN : 75 ≤ N) {v1 : Int} {G : SgM} {Q : Int → SgM → Prop} (h : (0 ≤ v1 ∧ v1 < 24) ∧ (sg_Wp 0 N (d + 1) m_P_planDust 15 [(0, 2, 45), (1, 0, v1), (2, 0, G 18 v1), (3, 0, 0)] [] G Q)) : sg_Wp 0 N (d + 1) m_P_planDust 0 [(0, 2, 45), (1, 0, v1)] [] G Q := by
  refine sg_blk [(1, 0, 0, 0, 0), (65, 0, 5, 9, 0), (65, 17, 4, 49, 4), (65, 18, 9, 53, 0), (3, 0, 0, 1, 0), (17, 24, 0, 0, 0), (25, 0, 0, 2, 0), (7, 0, 0, 0, 0), (25, 0, 0, 3, 0)] (by decide +kernel) ?_
  refine And.intro (Nat.le_of_ble_eq_true rfl) (And.intro (ce_45 hN) (And.intro rr_45_0 (And.intro (ce_0 (Nat.le_trans (by decide) hN)) (And.intro rr_0_4 (And.intro (ce_17 (Nat.le_trans (by decide) hN)) (And.intro rr_17_0 (And.intro rfl (And.intro (ce_18 (Nat.le_trans (by decide) hN)) (And.intro h.1 (And.intro rfl (And.intro rfl (And.intro rfl (?_)))))))))))))
  show sg_Wp 0 N (d + 1) m_P_planDust 15 [(0, 2, 45), (1, 0, v1), (2, 0, G 18 v1), (3, 0, 0)] [] G Q
  exact h.2
set_option maxRecDepth 100000 in
theorem g_P_planDust_45_15 {d N : Nat} (hN : 75 ≤ N) {v1 v2 v3 : Int} {G : SgM} {Q : Int → SgM → Prop} (h : (10 ≤ v3 → ((0 ≤ v1 ∧ v1 < 24) ∧ (Q 0 (sg_up G 18 v1 v2)))) ∧ (¬ (10 ≤ v3) → ((0 ≤ v1 ∧ v1 < 24) ∧ (sg_Wp 0 N d m_D_pass 0 [(0, 2, 32)] [] (sg_up G 18 v1 (sg_ior v2 (sg_ishl 1 v3))) (fun r1 G1 => (v3 = 0 → (sg_Wp 0 N (d + 1) m_P_planDust 15 [(0, 2, 45), (1, 0, v1), (2, 0, v2), (3, 0, sg_iadd v3 1)] [] (sg_up (sg_up G1 45 1 v3) 45 2 (G1 32 12)) Q)) ∧ (¬ (v3 = 0) → (((G1 32 12) ≤ (G1 45 2) → (sg_Wp 0 N (d + 1) m_P_planDust 15 [(0, 2, 45), (1, 0, v1), (2, 0, v2), (3, 0, sg_iadd v3 1)] [] G1 Q)) ∧ (¬ ((G1 32 12) ≤ (G1 45 2)) → (sg_Wp 0 N (d + 1) m_P_planDust 15 [(0, 2, 45), (1, 0, v1), (2, 0, v2), (3, 0, sg_iadd v3 1)] [] (sg_up (sg_up G1 45 1 v3) 45 2 (G1 32 12)) Q))))))))) : sg_Wp 0 N (d + 1) m_P_planDust 15 [(0, 2, 45), (1, 0, v1), (2, 0, v2), (3, 0, v3)] [] G Q := by
  refine sg_blk [(3, 0, 0, 3, 0), (8, 10, 0, 0, 0)] (by decide +kernel) ?_
  refine And.intro rfl (And.intro rfl (And.intro rfl (?_)))
  show sg_Wp 0 N (d + 1) m_P_planDust 18 [(0, 2, 45), (1, 0, v1), (2, 0, v2), (3, 0, v3)] [(0, 10), (0, v3)] G Q
  refine sg_icmp_ge (off := 76) (tgt := 94) (by decide +kernel) (by decide) ⟨fun q3 => ?_, fun q3 => ?_⟩
  · refine sg_blk [(1, 0, 0, 0, 0), (65, 0, 5, 9, 0), (65, 17, 4, 49, 4), (65, 18, 9, 53, 0), (3, 0, 0, 1, 0), (3, 0, 0, 2, 0), (18, 24, 0, 0, 0)] (by decide +kernel) ?_
    refine And.intro (Nat.le_of_ble_eq_true rfl) (And.intro (ce_45 hN) (And.intro rr_45_0 (And.intro (ce_0 (Nat.le_trans (by decide) hN)) (And.intro rr_0_4 (And.intro (ce_17 (Nat.le_trans (by decide) hN)) (And.intro rr_17_0 (And.intro rfl (And.intro rfl (And.intro (ce_18 (Nat.le_trans (by decide) hN)) (And.intro (h.1 q3).1 (?_)))))))))))
    show sg_Wp 0 N (d + 1) m_P_planDust 107 [(0, 2, 45), (1, 0, v1), (2, 0, v2), (3, 0, v3)] [] (sg_up G 18 v1 v2) Q
    exact sg_vret (by decide +kernel) rfl ((h.1 q3).2)
  · refine sg_blk [(1, 0, 0, 0, 0), (65, 0, 5, 9, 0), (65, 17, 4, 49, 4), (65, 18, 9, 53, 0), (3, 0, 0, 1, 0), (3, 0, 0, 2, 0), (7, 1, 0, 0, 0), (3, 0, 0, 3, 0), (41, 0, 0, 0, 0), (39, 0, 0, 0, 0), (18, 24, 0, 0, 0), (1, 0, 0, 0, 0), (65, 0, 5, 9, 0), (65, 32, 4, 37, 6)] (by decide +kernel) ?_
    refine And.intro (Nat.le_of_ble_eq_true rfl) (And.intro (ce_45 hN) (And.intro rr_45_0 (And.intro (ce_0 (Nat.le_trans (by decide) hN)) (And.intro rr_0_4 (And.intro (ce_17 (Nat.le_trans (by decide) hN)) (And.intro rr_17_0 (And.intro rfl (And.intro rfl (And.intro rfl (And.intro rfl (And.intro (ce_18 (Nat.le_trans (by decide) hN)) (And.intro (h.2 q3).1 (And.intro (Nat.le_of_ble_eq_true rfl) (And.intro (ce_45 hN) (And.intro rr_45_0 (And.intro (ce_0 (Nat.le_trans (by decide) hN)) (And.intro rr_0_6 (?_))))))))))))))))))
    show sg_Wp 0 N (d + 1) m_P_planDust 45 [(0, 2, 45), (1, 0, v1), (2, 0, v2), (3, 0, v3)] [(2, 32)] (sg_up G 18 v1 (sg_ior v2 (sg_ishl 1 v3))) Q
    refine sg_callV (k := d) (y' := m_D_pass) (av := []) (rest := []) (b := 32) (by decide +kernel) cv_D_pass ml_5_41 (ce_32 (Nat.le_trans (by decide) hN)) rfl rfl (Nat.le_of_ble_eq_true rfl) (Nat.lt_succ_self d) (Nat.le_of_ble_eq_true rfl) rfl ?_
    show sg_Wp 0 N d m_D_pass 0 [(0, 2, 32)] [] (sg_up G 18 v1 (sg_ior v2 (sg_ishl 1 v3))) _
    refine sg_Wp.mono ((h.2 q3).2) (fun r1 G1 hhr1 => ?_)
    show sg_Wp 0 N (d + 1) m_P_planDust 48 [(0, 2, 45), (1, 0, v1), (2, 0, v2), (3, 0, v3)] [] G1 Q
    refine sg_blk [(3, 0, 0, 3, 0)] (by decide +kernel) ?_
    refine And.intro rfl (?_)
    show sg_Wp 0 N (d + 1) m_P_planDust 49 [(0, 2, 45), (1, 0, v1), (2, 0, v2), (3, 0, v3)] [(0, v3)] G1 Q
    refine sg_if_eq (off := 20) (tgt := 69) (by decide +kernel) (by decide) ⟨fun q2 => ?_, fun q2 => ?_⟩
    · refine sg_blk [(1, 0, 0, 0, 0), (3, 0, 0, 3, 0), (16, 0, 5, 15, 1), (1, 0, 0, 0, 0), (1, 0, 0, 0, 0), (65, 0, 5, 9, 0), (65, 32, 4, 37, 6), (15, 0, 1, 58, 12), (16, 0, 5, 19, 2), (31, 1, 0, 3, 0)] (by decide +kernel) ?_
      refine And.intro (Nat.le_of_ble_eq_true rfl) (And.intro rfl (And.intro (ce_45 hN) (And.intro (Nat.le_of_ble_eq_true rfl) (And.intro (Nat.le_of_ble_eq_true rfl) (And.intro (ce_45 hN) (And.intro rr_45_0 (And.intro (ce_0 (Nat.le_trans (by decide) hN)) (And.intro rr_0_6 (And.intro (ce_32 (Nat.le_trans (by decide) hN)) (And.intro (ce_45 hN) (And.intro rfl (?_))))))))))))
      show sg_Wp 0 N (d + 1) m_P_planDust 91 [(0, 2, 45), (1, 0, v1), (2, 0, v2), (3, 0, sg_iadd v3 1)] [] (sg_up (sg_up G1 45 1 v3) 45 2 (G1 32 12)) Q
      refine sg_goto (off := -76) (tgt := 15) (by decide +kernel) (by decide) ?_
      exact (hhr1.1 q2)
    · refine sg_blk [(1, 0, 0, 0, 0), (65, 0, 5, 9, 0), (65, 32, 4, 37, 6), (15, 0, 1, 58, 12), (1, 0, 0, 0, 0), (15, 0, 5, 19, 2)] (by decide +kernel) ?_
      refine And.intro (Nat.le_of_ble_eq_true rfl) (And.intro (ce_45 hN) (And.intro rr_45_0 (And.intro (ce_0 (Nat.le_trans (by decide) hN)) (And.intro rr_0_6 (And.intro (ce_32 (Nat.le_trans (by decide) hN)) (And.intro (Nat.le_of_ble_eq_true rfl) (And.intro (ce_45 hN) (?_))))))))
      show sg_Wp 0 N (d + 1) m_P_planDust 66 [(0, 2, 45), (1, 0, v1), (2, 0, v2), (3, 0, v3)] [(0, G1 45 2), (0, G1 32 12)] G1 Q
      refine sg_icmp_le (off := 22) (tgt := 88) (by decide +kernel) (by decide) ⟨fun q1 => ?_, fun q1 => ?_⟩
      · refine sg_blk [(31, 1, 0, 3, 0)] (by decide +kernel) ?_
        refine And.intro rfl (?_)
        show sg_Wp 0 N (d + 1) m_P_planDust 91 [(0, 2, 45), (1, 0, v1), (2, 0, v2), (3, 0, sg_iadd v3 1)] [] G1 Q
        refine sg_goto (off := -76) (tgt := 15) (by decide +kernel) (by decide) ?_
        exact ((hhr1.2 q2).1 q1)
      · refine sg_blk [(1, 0, 0, 0, 0), (3, 0, 0, 3, 0), (16, 0, 5, 15, 1), (1, 0, 0, 0, 0), (1, 0, 0, 0, 0), (65, 0, 5, 9, 0), (65, 32, 4, 37, 6), (15, 0, 1, 58, 12), (16, 0, 5, 19, 2), (31, 1, 0, 3, 0)] (by decide +kernel) ?_
        refine And.intro (Nat.le_of_ble_eq_true rfl) (And.intro rfl (And.intro (ce_45 hN) (And.intro (Nat.le_of_ble_eq_true rfl) (And.intro (Nat.le_of_ble_eq_true rfl) (And.intro (ce_45 hN) (And.intro rr_45_0 (And.intro (ce_0 (Nat.le_trans (by decide) hN)) (And.intro rr_0_6 (And.intro (ce_32 (Nat.le_trans (by decide) hN)) (And.intro (ce_45 hN) (And.intro rfl (?_))))))))))))
        show sg_Wp 0 N (d + 1) m_P_planDust 91 [(0, 2, 45), (1, 0, v1), (2, 0, v2), (3, 0, sg_iadd v3 1)] [] (sg_up (sg_up G1 45 1 v3) 45 2 (G1 32 12)) Q
        refine sg_goto (off := -76) (tgt := 15) (by decide +kernel) (by decide) ?_
        exact ((hhr1.2 q2).2 q1)
set_option maxRecDepth 100000 in
theorem g_P_planHush_45_0 {d N : Nat} (hN : 75 ≤ N) {v1 : Int} {G : SgM} {Q : Int → SgM → Prop} (h : (0 ≤ v1 ∧ v1 < 24) ∧ (sg_Wp 0 N (d + 1) m_P_planHush 25 [(0, 2, 45), (1, 0, v1), (2, 0, G 19 v1), (3, 0, 0)] [] (sg_up (sg_up G 45 1 ((-1))) 45 2 ((-1))) Q)) : sg_Wp 0 N (d + 1) m_P_planHush 0 [(0, 2, 45), (1, 0, v1)] [] G Q := by
  refine sg_blk [(1, 0, 0, 0, 0), (7, (-1), 0, 0, 0), (16, 0, 5, 15, 1), (1, 0, 0, 0, 0), (7, (-1), 0, 0, 0), (16, 0, 5, 19, 2), (1, 0, 0, 0, 0), (65, 0, 5, 9, 0), (65, 17, 4, 49, 4), (65, 19, 9, 61, 1), (3, 0, 0, 1, 0), (17, 24, 0, 0, 0), (25, 0, 0, 2, 0), (7, 0, 0, 0, 0), (25, 0, 0, 3, 0)] (by decide +kernel) ?_
  refine And.intro (Nat.le_of_ble_eq_true rfl) (And.intro rfl (And.intro (ce_45 hN) (And.intro (Nat.le_of_ble_eq_true rfl) (And.intro rfl (And.intro (ce_45 hN) (And.intro (Nat.le_of_ble_eq_true rfl) (And.intro (ce_45 hN) (And.intro rr_45_0 (And.intro (ce_0 (Nat.le_trans (by decide) hN)) (And.intro rr_0_4 (And.intro (ce_17 (Nat.le_trans (by decide) hN)) (And.intro rr_17_1 (And.intro rfl (And.intro (ce_19 (Nat.le_trans (by decide) hN)) (And.intro h.1 (And.intro rfl (And.intro rfl (And.intro rfl (?_)))))))))))))))))))
  show sg_Wp 0 N (d + 1) m_P_planHush 25 [(0, 2, 45), (1, 0, v1), (2, 0, G 19 v1), (3, 0, 0)] [] (sg_up (sg_up G 45 1 ((-1))) 45 2 ((-1))) Q
  exact h.2
set_option maxRecDepth 100000 in
theorem g_P_planHush_45_25 {d N : Nat} (hN : 75 ≤ N) {v1 v2 v3 : Int} {G : SgM} {Q : Int → SgM → Prop} (h : ((G 5 4) ≤ v3 → ((0 ≤ v1 ∧ v1 < 24) ∧ (Q 0 (sg_up G 19 v1 v2)))) ∧ (¬ ((G 5 4) ≤ v3) → ((0 ≤ v1 ∧ v1 < 24) ∧ (sg_Wp 0 N d m_D_pass 0 [(0, 2, 32)] [] (sg_up G 19 v1 (sg_ior v2 (sg_ishl 1 v3))) (fun r1 G1 => (v3 = 0 → (sg_Wp 0 N (d + 1) m_P_planHush 25 [(0, 2, 45), (1, 0, v1), (2, 0, v2), (3, 0, sg_iadd v3 1)] [] (sg_up (sg_up G1 45 1 v3) 45 2 (G1 32 12)) Q)) ∧ (¬ (v3 = 0) → (((G1 45 2) ≤ (G1 32 12) → (sg_Wp 0 N (d + 1) m_P_planHush 25 [(0, 2, 45), (1, 0, v1), (2, 0, v2), (3, 0, sg_iadd v3 1)] [] G1 Q)) ∧ (¬ ((G1 45 2) ≤ (G1 32 12)) → (sg_Wp 0 N (d + 1) m_P_planHush 25 [(0, 2, 45), (1, 0, v1), (2, 0, v2), (3, 0, sg_iadd v3 1)] [] (sg_up (sg_up G1 45 1 v3) 45 2 (G1 32 12)) Q))))))))) : sg_Wp 0 N (d + 1) m_P_planHush 25 [(0, 2, 45), (1, 0, v1), (2, 0, v2), (3, 0, v3)] [] G Q := by
  refine sg_blk [(3, 0, 0, 3, 0), (1, 0, 0, 0, 0), (65, 0, 5, 9, 0), (65, 5, 4, 22, 2), (15, 0, 8, 64, 4)] (by decide +kernel) ?_
  refine And.intro rfl (And.intro (Nat.le_of_ble_eq_true rfl) (And.intro (ce_45 hN) (And.intro rr_45_0 (And.intro (ce_0 (Nat.le_trans (by decide) hN)) (And.intro rr_0_2 (And.intro (ce_5 (Nat.le_trans (by decide) hN)) (?_)))))))
  show sg_Wp 0 N (d + 1) m_P_planHush 36 [(0, 2, 45), (1, 0, v1), (2, 0, v2), (3, 0, v3)] [(0, G 5 4), (0, v3)] G Q
  refine sg_icmp_ge (off := 76) (tgt := 112) (by decide +kernel) (by decide) ⟨fun q3 => ?_, fun q3 => ?_⟩
  · refine sg_blk [(1, 0, 0, 0, 0), (65, 0, 5, 9, 0), (65, 17, 4, 49, 4), (65, 19, 9, 61, 1), (3, 0, 0, 1, 0), (3, 0, 0, 2, 0), (18, 24, 0, 0, 0)] (by decide +kernel) ?_
    refine And.intro (Nat.le_of_ble_eq_true rfl) (And.intro (ce_45 hN) (And.intro rr_45_0 (And.intro (ce_0 (Nat.le_trans (by decide) hN)) (And.intro rr_0_4 (And.intro (ce_17 (Nat.le_trans (by decide) hN)) (And.intro rr_17_1 (And.intro rfl (And.intro rfl (And.intro (ce_19 (Nat.le_trans (by decide) hN)) (And.intro (h.1 q3).1 (?_)))))))))))
    show sg_Wp 0 N (d + 1) m_P_planHush 125 [(0, 2, 45), (1, 0, v1), (2, 0, v2), (3, 0, v3)] [] (sg_up G 19 v1 v2) Q
    exact sg_vret (by decide +kernel) rfl ((h.1 q3).2)
  · refine sg_blk [(1, 0, 0, 0, 0), (65, 0, 5, 9, 0), (65, 17, 4, 49, 4), (65, 19, 9, 61, 1), (3, 0, 0, 1, 0), (3, 0, 0, 2, 0), (7, 1, 0, 0, 0), (3, 0, 0, 3, 0), (41, 0, 0, 0, 0), (39, 0, 0, 0, 0), (18, 24, 0, 0, 0), (1, 0, 0, 0, 0), (65, 0, 5, 9, 0), (65, 32, 4, 37, 6)] (by decide +kernel) ?_
    refine And.intro (Nat.le_of_ble_eq_true rfl) (And.intro (ce_45 hN) (And.intro rr_45_0 (And.intro (ce_0 (Nat.le_trans (by decide) hN)) (And.intro rr_0_4 (And.intro (ce_17 (Nat.le_trans (by decide) hN)) (And.intro rr_17_1 (And.intro rfl (And.intro rfl (And.intro rfl (And.intro rfl (And.intro (ce_19 (Nat.le_trans (by decide) hN)) (And.intro (h.2 q3).1 (And.intro (Nat.le_of_ble_eq_true rfl) (And.intro (ce_45 hN) (And.intro rr_45_0 (And.intro (ce_0 (Nat.le_trans (by decide) hN)) (And.intro rr_0_6 (?_))))))))))))))))))
    show sg_Wp 0 N (d + 1) m_P_planHush 63 [(0, 2, 45), (1, 0, v1), (2, 0, v2), (3, 0, v3)] [(2, 32)] (sg_up G 19 v1 (sg_ior v2 (sg_ishl 1 v3))) Q
    refine sg_callV (k := d) (y' := m_D_pass) (av := []) (rest := []) (b := 32) (by decide +kernel) cv_D_pass ml_5_41 (ce_32 (Nat.le_trans (by decide) hN)) rfl rfl (Nat.le_of_ble_eq_true rfl) (Nat.lt_succ_self d) (Nat.le_of_ble_eq_true rfl) rfl ?_
    show sg_Wp 0 N d m_D_pass 0 [(0, 2, 32)] [] (sg_up G 19 v1 (sg_ior v2 (sg_ishl 1 v3))) _
    refine sg_Wp.mono ((h.2 q3).2) (fun r1 G1 hhr1 => ?_)
    show sg_Wp 0 N (d + 1) m_P_planHush 66 [(0, 2, 45), (1, 0, v1), (2, 0, v2), (3, 0, v3)] [] G1 Q
    refine sg_blk [(3, 0, 0, 3, 0)] (by decide +kernel) ?_
    refine And.intro rfl (?_)
    show sg_Wp 0 N (d + 1) m_P_planHush 67 [(0, 2, 45), (1, 0, v1), (2, 0, v2), (3, 0, v3)] [(0, v3)] G1 Q
    refine sg_if_eq (off := 20) (tgt := 87) (by decide +kernel) (by decide) ⟨fun q2 => ?_, fun q2 => ?_⟩
    · refine sg_blk [(1, 0, 0, 0, 0), (3, 0, 0, 3, 0), (16, 0, 5, 15, 1), (1, 0, 0, 0, 0), (1, 0, 0, 0, 0), (65, 0, 5, 9, 0), (65, 32, 4, 37, 6), (15, 0, 1, 58, 12), (16, 0, 5, 19, 2), (31, 1, 0, 3, 0)] (by decide +kernel) ?_
      refine And.intro (Nat.le_of_ble_eq_true rfl) (And.intro rfl (And.intro (ce_45 hN) (And.intro (Nat.le_of_ble_eq_true rfl) (And.intro (Nat.le_of_ble_eq_true rfl) (And.intro (ce_45 hN) (And.intro rr_45_0 (And.intro (ce_0 (Nat.le_trans (by decide) hN)) (And.intro rr_0_6 (And.intro (ce_32 (Nat.le_trans (by decide) hN)) (And.intro (ce_45 hN) (And.intro rfl (?_))))))))))))
      show sg_Wp 0 N (d + 1) m_P_planHush 109 [(0, 2, 45), (1, 0, v1), (2, 0, v2), (3, 0, sg_iadd v3 1)] [] (sg_up (sg_up G1 45 1 v3) 45 2 (G1 32 12)) Q
      refine sg_goto (off := -84) (tgt := 25) (by decide +kernel) (by decide) ?_
      exact (hhr1.1 q2)
    · refine sg_blk [(1, 0, 0, 0, 0), (65, 0, 5, 9, 0), (65, 32, 4, 37, 6), (15, 0, 1, 58, 12), (1, 0, 0, 0, 0), (15, 0, 5, 19, 2)] (by decide +kernel) ?_
      refine And.intro (Nat.le_of_ble_eq_true rfl) (And.intro (ce_45 hN) (And.intro rr_45_0 (And.intro (ce_0 (Nat.le_trans (by decide) hN)) (And.intro rr_0_6 (And.intro (ce_32 (Nat.le_trans (by decide) hN)) (And.intro (Nat.le_of_ble_eq_true rfl) (And.intro (ce_45 hN) (?_))))))))
      show sg_Wp 0 N (d + 1) m_P_planHush 84 [(0, 2, 45), (1, 0, v1), (2, 0, v2), (3, 0, v3)] [(0, G1 45 2), (0, G1 32 12)] G1 Q
      refine sg_icmp_ge (off := 22) (tgt := 106) (by decide +kernel) (by decide) ⟨fun q1 => ?_, fun q1 => ?_⟩
      · refine sg_blk [(31, 1, 0, 3, 0)] (by decide +kernel) ?_
        refine And.intro rfl (?_)
        show sg_Wp 0 N (d + 1) m_P_planHush 109 [(0, 2, 45), (1, 0, v1), (2, 0, v2), (3, 0, sg_iadd v3 1)] [] G1 Q
        refine sg_goto (off := -84) (tgt := 25) (by decide +kernel) (by decide) ?_
        exact ((hhr1.2 q2).1 q1)
      · refine sg_blk [(1, 0, 0, 0, 0), (3, 0, 0, 3, 0), (16, 0, 5, 15, 1), (1, 0, 0, 0, 0), (1, 0, 0, 0, 0), (65, 0, 5, 9, 0), (65, 32, 4, 37, 6), (15, 0, 1, 58, 12), (16, 0, 5, 19, 2), (31, 1, 0, 3, 0)] (by decide +kernel) ?_
        refine And.intro (Nat.le_of_ble_eq_true rfl) (And.intro rfl (And.intro (ce_45 hN) (And.intro (Nat.le_of_ble_eq_true rfl) (And.intro (Nat.le_of_ble_eq_true rfl) (And.intro (ce_45 hN) (And.intro rr_45_0 (And.intro (ce_0 (Nat.le_trans (by decide) hN)) (And.intro rr_0_6 (And.intro (ce_32 (Nat.le_trans (by decide) hN)) (And.intro (ce_45 hN) (And.intro rfl (?_))))))))))))
        show sg_Wp 0 N (d + 1) m_P_planHush 109 [(0, 2, 45), (1, 0, v1), (2, 0, v2), (3, 0, sg_iadd v3 1)] [] (sg_up (sg_up G1 45 1 v3) 45 2 (G1 32 12)) Q
        refine sg_goto (off := -84) (tgt := 25) (by decide +kernel) (by decide) ?_
        exact ((hhr1.2 q2).2 q1)
set_option maxRecDepth 100000 in
theorem g_P_planSpare_45_0 {d N : Nat} (hN : 75 ≤ N) {G : SgM} {Q : Int → SgM → Prop} (h : sg_Wp 0 N d m_P_setSpare 0 [(0, 2, 45), (1, 0, (-1)), (2, 0, (-1)), (3, 0, (-1))] [] G (fun r1 G1 => ((G1 21 13) ≠ 0 → (sg_Wp 0 N d m_E_everyBit 0 [(0, 2, 13)] [] G1 (fun r2 G2 => sg_Wp 0 N (d + 1) m_P_planSpare 41 [(0, 2, 45), (1, 0, r2), (2, 0, 0)] [] G2 Q))) ∧ (¬ ((G1 21 13) ≠ 0) → (sg_Wp 0 N d m_P_setSpare 0 [(0, 2, 45), (1, 0, 0), (2, 0, (-1)), (3, 0, (-1))] [] G1 (fun r3 G3 => Q 0 G3))))) : sg_Wp 0 N (d + 1) m_P_planSpare 0 [(0, 2, 45)] [] G Q := by
  refine sg_blk [(1, 0, 0, 0, 0), (7, (-1), 0, 0, 0), (7, (-1), 0, 0, 0), (7, (-1), 0, 0, 0)] (by decide +kernel) ?_
  refine And.intro (Nat.le_of_ble_eq_true rfl) (And.intro rfl (And.intro rfl (And.intro rfl (?_))))
  show sg_Wp 0 N (d + 1) m_P_planSpare 4 [(0, 2, 45)] [(0, (-1)), (0, (-1)), (0, (-1)), (2, 45)] G Q
  refine sg_callV (k := d) (y' := m_P_setSpare) (av := [(0, (-1)), (0, (-1)), (0, (-1))]) (rest := []) (b := 45) (by decide +kernel) cv_P_setSpare ml_5_67 (ce_45 hN) rfl rfl (Nat.le_of_ble_eq_true rfl) (Nat.lt_succ_self d) (Nat.le_of_ble_eq_true rfl) rfl ?_
  show sg_Wp 0 N d m_P_setSpare 0 [(0, 2, 45), (1, 0, (-1)), (2, 0, (-1)), (3, 0, (-1))] [] G _
  refine sg_Wp.mono h (fun r1 G1 hhr1 => ?_)
  show sg_Wp 0 N (d + 1) m_P_planSpare 7 [(0, 2, 45)] [] G1 Q
  refine sg_blk [(1, 0, 0, 0, 0), (65, 0, 5, 9, 0), (65, 21, 4, 71, 5), (15, 0, 1, 74, 13)] (by decide +kernel) ?_
  refine And.intro (Nat.le_of_ble_eq_true rfl) (And.intro (ce_45 hN) (And.intro rr_45_0 (And.intro (ce_0 (Nat.le_trans (by decide) hN)) (And.intro rr_0_5 (And.intro (ce_21 (Nat.le_trans (by decide) hN)) (?_))))))
  show sg_Wp 0 N (d + 1) m_P_planSpare 17 [(0, 2, 45)] [(0, G1 21 13)] G1 Q
  refine sg_if_ne (off := 11) (tgt := 28) (by decide +kernel) (by decide) ⟨fun q1 => ?_, fun q1 => ?_⟩
  · refine sg_blk [(1, 0, 0, 0, 0), (65, 0, 5, 9, 0), (65, 13, 4, 77, 3)] (by decide +kernel) ?_
    refine And.intro (Nat.le_of_ble_eq_true rfl) (And.intro (ce_45 hN) (And.intro rr_45_0 (And.intro (ce_0 (Nat.le_trans (by decide) hN)) (And.intro rr_0_3 (?_)))))
    show sg_Wp 0 N (d + 1) m_P_planSpare 35 [(0, 2, 45)] [(2, 13)] G1 Q
    refine sg_callV (k := d) (y' := m_E_everyBit) (av := []) (rest := []) (b := 13) (by decide +kernel) cv_E_everyBit ml_5_81 (ce_13 (Nat.le_trans (by decide) hN)) rfl rfl (Nat.le_of_ble_eq_true rfl) (Nat.lt_succ_self d) (Nat.le_of_ble_eq_true rfl) rfl ?_
    show sg_Wp 0 N d m_E_everyBit 0 [(0, 2, 13)] [] G1 _
    refine sg_Wp.mono ((hhr1.1 q1)) (fun r2 G2 hhr2 => ?_)
    show sg_Wp 0 N (d + 1) m_P_planSpare 38 [(0, 2, 45)] [(0, r2)] G2 Q
    refine sg_blk [(25, 0, 0, 1, 0), (7, 0, 0, 0, 0), (25, 0, 0, 2, 0)] (by decide +kernel) ?_
    refine And.intro rfl (And.intro rfl (And.intro rfl (?_)))
    show sg_Wp 0 N (d + 1) m_P_planSpare 41 [(0, 2, 45), (1, 0, r2), (2, 0, 0)] [] G2 Q
    exact hhr2
  · refine sg_blk [(1, 0, 0, 0, 0), (7, 0, 0, 0, 0), (7, (-1), 0, 0, 0), (7, (-1), 0, 0, 0)] (by decide +kernel) ?_
    refine And.intro (Nat.le_of_ble_eq_true rfl) (And.intro rfl (And.intro rfl (And.intro rfl (?_))))
    show sg_Wp 0 N (d + 1) m_P_planSpare 24 [(0, 2, 45)] [(0, (-1)), (0, (-1)), (0, 0), (2, 45)] G1 Q
    refine sg_callV (k := d) (y' := m_P_setSpare) (av := [(0, 0), (0, (-1)), (0, (-1))]) (rest := []) (b := 45) (by decide +kernel) cv_P_setSpare ml_5_67 (ce_45 hN) rfl rfl (Nat.le_of_ble_eq_true rfl) (Nat.lt_succ_self d) (Nat.le_of_ble_eq_true rfl) rfl ?_
    show sg_Wp 0 N d m_P_setSpare 0 [(0, 2, 45), (1, 0, 0), (2, 0, (-1)), (3, 0, (-1))] [] G1 _
    refine sg_Wp.mono ((hhr1.2 q1)) (fun r3 G3 hhr3 => ?_)
    show sg_Wp 0 N (d + 1) m_P_planSpare 27 [(0, 2, 45)] [] G3 Q
    exact sg_vret (by decide +kernel) rfl hhr3
set_option maxRecDepth 100000 in
theorem g_P_planSpare_45_41 {d N : Nat} (hN : 75 ≤ N) {v1 v2 : Int} {G : SgM} {Q : Int → SgM → Prop} (h : ((G 13 0) ≤ v2 → (sg_Wp 0 N (d + 1) m_P_planSpare 88 [(0, 2, 45), (1, 0, v1), (2, 0, 0)] [] G Q)) ∧ (¬ ((G 13 0) ≤ v2) → (sg_Wp 0 N d m_K_forgottenWith 0 [(0, 2, 0), (1, 0, sg_iand v1 (sg_ixor (sg_ishl 1 v2) ((-1))))] [] G (fun r4 G4 => (r4 ≠ 0 → (sg_Wp 0 N (d + 1) m_P_planSpare 41 [(0, 2, 45), (1, 0, v1), (2, 0, sg_iadd v2 1)] [] G4 Q)) ∧ (¬ (r4 ≠ 0) → (sg_Wp 0 N d m_P_setSpare 0 [(0, 2, 45), (1, 0, 1), (2, 0, v2), (3, 0, (-1))] [] G4 (fun r5 G5 => Q 0 G5))))))) : sg_Wp 0 N (d + 1) m_P_planSpare 41 [(0, 2, 45), (1, 0, v1), (2, 0, v2)] [] G Q := by
  refine sg_blk [(3, 0, 0, 2, 0), (1, 0, 0, 0, 0), (65, 0, 5, 9, 0), (65, 13, 4, 77, 3), (15, 0, 2, 87, 0)] (by decide +kernel) ?_
  refine And.intro rfl (And.intro (Nat.le_of_ble_eq_true rfl) (And.intro (ce_45 hN) (And.intro rr_45_0 (And.intro (ce_0 (Nat.le_trans (by decide) hN)) (And.intro rr_0_3 (And.intro (ce_13 (Nat.le_trans (by decide) hN)) (?_)))))))
  show sg_Wp 0 N (d + 1) m_P_planSpare 52 [(0, 2, 45), (1, 0, v1), (2, 0, v2)] [(0, G 13 0), (0, v2)] G Q
  refine sg_icmp_ge (off := 34) (tgt := 86) (by decide +kernel) (by decide) ⟨fun q3 => ?_, fun q3 => ?_⟩
  · refine sg_blk [(7, 0, 0, 0, 0), (25, 0, 0, 2, 0)] (by decide +kernel) ?_
    refine And.intro rfl (And.intro rfl (?_))
    show sg_Wp 0 N (d + 1) m_P_planSpare 88 [(0, 2, 45), (1, 0, v1), (2, 0, 0)] [] G Q
    exact (h.1 q3)
  · refine sg_blk [(1, 0, 0, 0, 0), (65, 0, 5, 9, 0), (3, 0, 0, 1, 0), (7, 1, 0, 0, 0), (3, 0, 0, 2, 0), (41, 0, 0, 0, 0), (7, (-1), 0, 0, 0), (40, 0, 0, 0, 0), (38, 0, 0, 0, 0)] (by decide +kernel) ?_
    refine And.intro (Nat.le_of_ble_eq_true rfl) (And.intro (ce_45 hN) (And.intro rr_45_0 (And.intro rfl (And.intro rfl (And.intro rfl (And.intro rfl (?_)))))))
    show sg_Wp 0 N (d + 1) m_P_planSpare 66 [(0, 2, 45), (1, 0, v1), (2, 0, v2)] [(0, sg_iand v1 (sg_ixor (sg_ishl 1 v2) ((-1)))), (2, 0)] G Q
    refine sg_callV (k := d) (y' := m_K_forgottenWith) (av := [(0, sg_iand v1 (sg_ixor (sg_ishl 1 v2) ((-1))))]) (rest := []) (b := 0) (by decide +kernel) cv_K_forgottenWith ml_5_89 (ce_0 (Nat.le_trans (by decide) hN)) rfl rfl (Nat.le_of_ble_eq_true rfl) (Nat.lt_succ_self d) (Nat.le_of_ble_eq_true rfl) rfl ?_
    show sg_Wp 0 N d m_K_forgottenWith 0 [(0, 2, 0), (1, 0, sg_iand v1 (sg_ixor (sg_ishl 1 v2) ((-1))))] [] G _
    refine sg_Wp.mono ((h.2 q3)) (fun r4 G4 hhr4 => ?_)
    show sg_Wp 0 N (d + 1) m_P_planSpare 69 [(0, 2, 45), (1, 0, v1), (2, 0, v2)] [(0, r4)] G4 Q
    refine sg_if_ne (off := 11) (tgt := 80) (by decide +kernel) (by decide) ⟨fun q2 => ?_, fun q2 => ?_⟩
    · refine sg_blk [(31, 1, 0, 2, 0)] (by decide +kernel) ?_
      refine And.intro rfl (?_)
      show sg_Wp 0 N (d + 1) m_P_planSpare 83 [(0, 2, 45), (1, 0, v1), (2, 0, sg_iadd v2 1)] [] G4 Q
      refine sg_goto (off := -42) (tgt := 41) (by decide +kernel) (by decide) ?_
      exact (hhr4.1 q2)
    · refine sg_blk [(1, 0, 0, 0, 0), (7, 1, 0, 0, 0), (3, 0, 0, 2, 0), (7, (-1), 0, 0, 0)] (by decide +kernel) ?_
      refine And.intro (Nat.le_of_ble_eq_true rfl) (And.intro rfl (And.intro rfl (And.intro rfl (?_))))
      show sg_Wp 0 N (d + 1) m_P_planSpare 76 [(0, 2, 45), (1, 0, v1), (2, 0, v2)] [(0, (-1)), (0, v2), (0, 1), (2, 45)] G4 Q
      refine sg_callV (k := d) (y' := m_P_setSpare) (av := [(0, 1), (0, v2), (0, (-1))]) (rest := []) (b := 45) (by decide +kernel) cv_P_setSpare ml_5_67 (ce_45 hN) rfl rfl (Nat.le_of_ble_eq_true rfl) (Nat.lt_succ_self d) (Nat.le_of_ble_eq_true rfl) rfl ?_
      show sg_Wp 0 N d m_P_setSpare 0 [(0, 2, 45), (1, 0, 1), (2, 0, v2), (3, 0, (-1))] [] G4 _
      refine sg_Wp.mono ((hhr4.2 q2)) (fun r5 G5 hhr5 => ?_)
      show sg_Wp 0 N (d + 1) m_P_planSpare 79 [(0, 2, 45), (1, 0, v1), (2, 0, v2)] [] G5 Q
      exact sg_vret (by decide +kernel) rfl hhr5
set_option maxRecDepth 100000 in
theorem g_P_planSpare_45_88 {d N : Nat} (hN : 75 ≤ N) {v1 v2 : Int} {G : SgM} {Q : Int → SgM → Prop} (h : ((G 13 0) ≤ v2 → (Q 0 G)) ∧ (¬ ((G 13 0) ≤ v2) → (sg_Wp 0 N (d + 1) m_P_planSpare 106 [(0, 2, 45), (1, 0, v1), (2, 0, v2), (3, 0, sg_iadd v2 1)] [] G Q))) : sg_Wp 0 N (d + 1) m_P_planSpare 88 [(0, 2, 45), (1, 0, v1), (2, 0, v2)] [] G Q := by
  refine sg_blk [(3, 0, 0, 2, 0), (1, 0, 0, 0, 0), (65, 0, 5, 9, 0), (65, 13, 4, 77, 3), (15, 0, 2, 87, 0)] (by decide +kernel) ?_
  refine And.intro rfl (And.intro (Nat.le_of_ble_eq_true rfl) (And.intro (ce_45 hN) (And.intro rr_45_0 (And.intro (ce_0 (Nat.le_trans (by decide) hN)) (And.intro rr_0_3 (And.intro (ce_13 (Nat.le_trans (by decide) hN)) (?_)))))))
  show sg_Wp 0 N (d + 1) m_P_planSpare 99 [(0, 2, 45), (1, 0, v1), (2, 0, v2)] [(0, G 13 0), (0, v2)] G Q
  refine sg_icmp_ge (off := 62) (tgt := 161) (by decide +kernel) (by decide) ⟨fun q4 => ?_, fun q4 => ?_⟩
  · exact sg_vret (by decide +kernel) rfl ((h.1 q4))
  · refine sg_blk [(3, 0, 0, 2, 0), (7, 1, 0, 0, 0), (32, 0, 0, 0, 0), (25, 0, 0, 3, 0)] (by decide +kernel) ?_
    refine And.intro rfl (And.intro rfl (And.intro rfl (?_)))
    show sg_Wp 0 N (d + 1) m_P_planSpare 106 [(0, 2, 45), (1, 0, v1), (2, 0, v2), (3, 0, sg_iadd v2 1)] [] G Q
    exact (h.2 q4)
set_option maxRecDepth 100000 in
theorem g_P_planSpare_45_106 {d N : Nat} (hN : 75 ≤ N) {v1 v2 v3 : Int} {G : SgM} {Q : Int → SgM → Prop} (h : ((G 13 0) ≤ v3 → (sg_Wp 0 N (d + 1) m_P_planSpare 88 [(0, 2, 45), (1, 0, v1), (2, 0, sg_iadd v2 1)] [] G Q)) ∧ (¬ ((G 13 0) ≤ v3) → (sg_Wp 0 N d m_K_forgottenWith 0 [(0, 2, 0), (1, 0, sg_iand v1 (sg_ixor (sg_ior (sg_ishl 1 v2) (sg_ishl 1 v3)) ((-1))))] [] G (fun r6 G6 => (r6 ≠ 0 → (sg_Wp 0 N (d + 1) m_P_planSpare 106 [(0, 2, 45), (1, 0, v1), (2, 0, v2), (3, 0, sg_iadd v3 1)] [] G6 Q)) ∧ (¬ (r6 ≠ 0) → (sg_Wp 0 N d m_P_setSpare 0 [(0, 2, 45), (1, 0, 2), (2, 0, v2), (3, 0, v3)] [] G6 (fun r7 G7 => Q 0 G7))))))) : sg_Wp 0 N (d + 1) m_P_planSpare 106 [(0, 2, 45), (1, 0, v1), (2, 0, v2), (3, 0, v3)] [] G Q := by
  refine sg_blk [(3, 0, 0, 3, 0), (1, 0, 0, 0, 0), (65, 0, 5, 9, 0), (65, 13, 4, 77, 3), (15, 0, 2, 87, 0)] (by decide +kernel) ?_
  refine And.intro rfl (And.intro (Nat.le_of_ble_eq_true rfl) (And.intro (ce_45 hN) (And.intro rr_45_0 (And.intro (ce_0 (Nat.le_trans (by decide) hN)) (And.intro rr_0_3 (And.intro (ce_13 (Nat.le_trans (by decide) hN)) (?_)))))))
  show sg_Wp 0 N (d + 1) m_P_planSpare 117 [(0, 2, 45), (1, 0, v1), (2, 0, v2), (3, 0, v3)] [(0, G 13 0), (0, v3)] G Q
  refine sg_icmp_ge (off := 38) (tgt := 155) (by decide +kernel) (by decide) ⟨fun q6 => ?_, fun q6 => ?_⟩
  · refine sg_blk [(31, 1, 0, 2, 0)] (by decide +kernel) ?_
    refine And.intro rfl (?_)
    show sg_Wp 0 N (d + 1) m_P_planSpare 158 [(0, 2, 45), (1, 0, v1), (2, 0, sg_iadd v2 1), (3, 0, v3)] [] G Q
    refine sg_goto (off := -70) (tgt := 88) (by decide +kernel) (by decide) ?_
    exact sg_Wp.keepk [0, 1, 2] rfl ((h.1 q6))
  · refine sg_blk [(1, 0, 0, 0, 0), (65, 0, 5, 9, 0), (3, 0, 0, 1, 0), (7, 1, 0, 0, 0), (3, 0, 0, 2, 0), (41, 0, 0, 0, 0), (7, 1, 0, 0, 0), (3, 0, 0, 3, 0), (41, 0, 0, 0, 0), (39, 0, 0, 0, 0), (7, (-1), 0, 0, 0), (40, 0, 0, 0, 0), (38, 0, 0, 0, 0)] (by decide +kernel) ?_
    refine And.intro (Nat.le_of_ble_eq_true rfl) (And.intro (ce_45 hN) (And.intro rr_45_0 (And.intro rfl (And.intro rfl (And.intro rfl (And.intro rfl (And.intro rfl (And.intro rfl (?_)))))))))
    show sg_Wp 0 N (d + 1) m_P_planSpare 135 [(0, 2, 45), (1, 0, v1), (2, 0, v2), (3, 0, v3)] [(0, sg_iand v1 (sg_ixor (sg_ior (sg_ishl 1 v2) (sg_ishl 1 v3)) ((-1)))), (2, 0)] G Q
    refine sg_callV (k := d) (y' := m_K_forgottenWith) (av := [(0, sg_iand v1 (sg_ixor (sg_ior (sg_ishl 1 v2) (sg_ishl 1 v3)) ((-1))))]) (rest := []) (b := 0) (by decide +kernel) cv_K_forgottenWith ml_5_89 (ce_0 (Nat.le_trans (by decide) hN)) rfl rfl (Nat.le_of_ble_eq_true rfl) (Nat.lt_succ_self d) (Nat.le_of_ble_eq_true rfl) rfl ?_
    show sg_Wp 0 N d m_K_forgottenWith 0 [(0, 2, 0), (1, 0, sg_iand v1 (sg_ixor (sg_ior (sg_ishl 1 v2) (sg_ishl 1 v3)) ((-1))))] [] G _
    refine sg_Wp.mono ((h.2 q6)) (fun r6 G6 hhr6 => ?_)
    show sg_Wp 0 N (d + 1) m_P_planSpare 138 [(0, 2, 45), (1, 0, v1), (2, 0, v2), (3, 0, v3)] [(0, r6)] G6 Q
    refine sg_if_ne (off := 11) (tgt := 149) (by decide +kernel) (by decide) ⟨fun q5 => ?_, fun q5 => ?_⟩
    · refine sg_blk [(31, 1, 0, 3, 0)] (by decide +kernel) ?_
      refine And.intro rfl (?_)
      show sg_Wp 0 N (d + 1) m_P_planSpare 152 [(0, 2, 45), (1, 0, v1), (2, 0, v2), (3, 0, sg_iadd v3 1)] [] G6 Q
      refine sg_goto (off := -46) (tgt := 106) (by decide +kernel) (by decide) ?_
      exact (hhr6.1 q5)
    · refine sg_blk [(1, 0, 0, 0, 0), (7, 2, 0, 0, 0), (3, 0, 0, 2, 0), (3, 0, 0, 3, 0)] (by decide +kernel) ?_
      refine And.intro (Nat.le_of_ble_eq_true rfl) (And.intro rfl (And.intro rfl (And.intro rfl (?_))))
      show sg_Wp 0 N (d + 1) m_P_planSpare 145 [(0, 2, 45), (1, 0, v1), (2, 0, v2), (3, 0, v3)] [(0, v3), (0, v2), (0, 2), (2, 45)] G6 Q
      refine sg_callV (k := d) (y' := m_P_setSpare) (av := [(0, 2), (0, v2), (0, v3)]) (rest := []) (b := 45) (by decide +kernel) cv_P_setSpare ml_5_67 (ce_45 hN) rfl rfl (Nat.le_of_ble_eq_true rfl) (Nat.lt_succ_self d) (Nat.le_of_ble_eq_true rfl) rfl ?_
      show sg_Wp 0 N d m_P_setSpare 0 [(0, 2, 45), (1, 0, 2), (2, 0, v2), (3, 0, v3)] [] G6 _
      refine sg_Wp.mono ((hhr6.2 q5)) (fun r7 G7 hhr7 => ?_)
      show sg_Wp 0 N (d + 1) m_P_planSpare 148 [(0, 2, 45), (1, 0, v1), (2, 0, v2), (3, 0, v3)] [] G7 Q
      exact sg_vret (by decide +kernel) rfl hhr7
set_option maxRecDepth 100000 in
theorem g_P_setSpare_45_0 {d N : Nat} (hN : 75 ≤ N) {v1 v2 v3 : Int} {G : SgM} {Q : Int → SgM → Prop} (h : Q 0 (sg_up (sg_up (sg_up G 45 2 v1) 45 3 v2) 45 4 v3)) : sg_Wp 0 N d m_P_setSpare 0 [(0, 2, 45), (1, 0, v1), (2, 0, v2), (3, 0, v3)] [] G Q := by
  refine sg_blk [(1, 0, 0, 0, 0), (3, 0, 0, 1, 0), (16, 0, 5, 19, 2), (1, 0, 0, 0, 0), (3, 0, 0, 2, 0), (16, 0, 5, 93, 3), (1, 0, 0, 0, 0), (3, 0, 0, 3, 0), (16, 0, 5, 96, 4)] (by decide +kernel) ?_
  refine And.intro (Nat.le_of_ble_eq_true rfl) (And.intro rfl (And.intro (ce_45 hN) (And.intro (Nat.le_of_ble_eq_true rfl) (And.intro rfl (And.intro (ce_45 hN) (And.intro (Nat.le_of_ble_eq_true rfl) (And.intro rfl (And.intro (ce_45 hN) (?_)))))))))
  show sg_Wp 0 N d m_P_setSpare 15 [(0, 2, 45), (1, 0, v1), (2, 0, v2), (3, 0, v3)] [] (sg_up (sg_up (sg_up G 45 2 v1) 45 3 v2) 45 4 v3) Q
  exact sg_vret (by decide +kernel) rfl h
set_option maxRecDepth 100000 in
theorem g_H_see_46_0 {d N : Nat} (hN : 75 ≤ N) {v1 v2 v3 : Int} {G : SgM} {Q : Int → SgM → Prop} (h : ((G 46 1) < 8 → ((0 ≤ (G 46 1) ∧ (G 46 1) < 8) ∧ (0 ≤ (G 46 1) ∧ (G 46 1) < 8) ∧ (0 ≤ (G 46 1) ∧ (G 46 1) < 8) ∧ (Q ((sg_up (sg_up (sg_up (sg_up G 47 (G 46 1) v1) 48 (G 46 1) v2) 49 (G 46 1) v3) 46 1 (sg_iadd (G 46 1) 1)) 46 1) (sg_up (sg_up (sg_up (sg_up G 47 (G 46 1) v1) 48 (G 46 1) v2) 49 (G 46 1) v3) 46 1 (sg_iadd (G 46 1) 1))))) ∧ (¬ ((G 46 1) < 8) → (Q ((-4)) G))) : sg_Wp 0 N d m_H_see 0 [(0, 2, 46), (1, 0, v1), (2, 0, v2), (3, 0, v3)] [] G Q := by
  refine sg_blk [(1, 0, 0, 0, 0), (15, 0, 3, 30, 1), (8, 8, 0, 0, 0)] (by decide +kernel) ?_
  refine And.intro (Nat.le_of_ble_eq_true rfl) (And.intro (ce_46 hN) (And.intro rfl (And.intro rfl (?_))))
  show sg_Wp 0 N d m_H_see 6 [(0, 2, 46), (1, 0, v1), (2, 0, v2), (3, 0, v3)] [(0, 8), (0, G 46 1)] G Q
  refine sg_icmp_lt (off := 6) (tgt := 12) (by decide +kernel) (by decide) ⟨fun q1 => ?_, fun q1 => ?_⟩
  · refine sg_blk [(1, 0, 0, 0, 0), (65, 47, 3, 9, 2), (1, 0, 0, 0, 0), (15, 0, 3, 30, 1), (3, 0, 0, 1, 0), (18, 8, 0, 0, 0), (1, 0, 0, 0, 0), (65, 48, 3, 15, 3), (1, 0, 0, 0, 0), (15, 0, 3, 30, 1), (3, 0, 0, 2, 0), (18, 8, 0, 0, 0), (1, 0, 0, 0, 0), (65, 49, 3, 18, 4), (1, 0, 0, 0, 0), (15, 0, 3, 30, 1), (3, 0, 0, 3, 0), (18, 8, 0, 0, 0), (1, 0, 0, 0, 0), (57, 0, 0, 0, 0), (15, 0, 3, 30, 1), (7, 1, 0, 0, 0), (32, 0, 0, 0, 0), (16, 0, 3, 30, 1), (1, 0, 0, 0, 0), (15, 0, 3, 30, 1)] (by decide +kernel) ?_
    refine And.intro (Nat.le_of_ble_eq_true rfl) (And.intro (ce_46 hN) (And.intro rr_46_2 (And.intro (Nat.le_of_ble_eq_true rfl) (And.intro (ce_46 hN) (And.intro rfl (And.intro (ce_47 hN) (And.intro (h.1 q1).1 (And.intro (Nat.le_of_ble_eq_true rfl) (And.intro (ce_46 hN) (And.intro rr_46_3 (And.intro (Nat.le_of_ble_eq_true rfl) (And.intro (ce_46 hN) (And.intro rfl (And.intro (ce_48 hN) (And.intro (h.1 q1).2.1 (And.intro (Nat.le_of_ble_eq_true rfl) (And.intro (ce_46 hN) (And.intro rr_46_4 (And.intro (Nat.le_of_ble_eq_true rfl) (And.intro (ce_46 hN) (And.intro rfl (And.intro (ce_49 hN) (And.intro (h.1 q1).2.2.1 (And.intro (Nat.le_of_ble_eq_true rfl) (And.intro (Nat.ne_of_beq_eq_false rfl) (And.intro (ce_46 hN) (And.intro rfl (And.intro (ce_46 hN) (And.intro (Nat.le_of_ble_eq_true rfl) (And.intro (ce_46 hN) (?_)))))))))))))))))))))))))))))))
    show sg_Wp 0 N d m_H_see 56 [(0, 2, 46), (1, 0, v1), (2, 0, v2), (3, 0, v3)] [(0, (sg_up (sg_up (sg_up (sg_up G 47 (G 46 1) v1) 48 (G 46 1) v2) 49 (G 46 1) v3) 46 1 (sg_iadd (G 46 1) 1)) 46 1)] (sg_up (sg_up (sg_up (sg_up G 47 (G 46 1) v1) 48 (G 46 1) v2) 49 (G 46 1) v3) 46 1 (sg_iadd (G 46 1) 1)) Q
    exact sg_ret (by decide +kernel) rfl (Or.inl rfl) ((h.1 q1).2.2.2)
  · refine sg_blk [(8, (-4), 0, 0, 0)] (by decide +kernel) ?_
    refine And.intro rfl (And.intro rfl (?_))
    show sg_Wp 0 N d m_H_see 11 [(0, 2, 46), (1, 0, v1), (2, 0, v2), (3, 0, v3)] [(0, (-4))] G Q
    exact sg_ret (by decide +kernel) rfl (Or.inl rfl) ((h.2 q1))
set_option maxRecDepth 100000 in
theorem g_H_needless_46_0 {d N : Nat} (hN : 75 ≤ N) {G : SgM} {Q : Int → SgM → Prop} (h : sg_Wp 0 N (d + 1) m_H_needless 4 [(0, 2, 46), (1, 0, 0), (2, 0, 0)] [] G Q) : sg_Wp 0 N (d + 1) m_H_needless 0 [(0, 2, 46)] [] G Q := by
  refine sg_blk [(7, 0, 0, 0, 0), (25, 0, 0, 1, 0), (7, 0, 0, 0, 0), (25, 0, 0, 2, 0)] (by decide +kernel) ?_
  refine And.intro rfl (And.intro rfl (And.intro rfl (And.intro rfl (?_))))
  show sg_Wp 0 N (d + 1) m_H_needless 4 [(0, 2, 46), (1, 0, 0), (2, 0, 0)] [] G Q
  exact h
set_option maxRecDepth 100000 in
theorem g_H_needless_46_4 {d N : Nat} (hN : 75 ≤ N) {v1 v2 : Int} {G : SgM} {Q : Int → SgM → Prop} (h : ((G 13 0) ≤ v2 → (Q v1 G)) ∧ (¬ ((G 13 0) ≤ v2) → (sg_Wp 0 N d m_E_everyBit 0 [(0, 2, 13)] [] G (fun r1 G1 => sg_Wp 0 N d m_K_supposeEvents 0 [(0, 2, 0), (1, 2, 13), (2, 0, sg_iand r1 (sg_ixor (sg_ishl 1 v2) ((-1))))] [] G1 (fun r2 G2 => sg_Wp 0 N d m_H_comesOutSo 0 [(0, 2, 46)] [] G2 (fun r3 G3 => (r3 = 0 → (sg_Wp 0 N (d + 1) m_H_needless 4 [(0, 2, 46), (1, 0, v1), (2, 0, sg_iadd v2 1)] [] G3 Q)) ∧ (¬ (r3 = 0) → (sg_Wp 0 N (d + 1) m_H_needless 4 [(0, 2, 46), (1, 0, sg_ior v1 (sg_ishl 1 v2)), (2, 0, sg_iadd v2 1)] [] G3 Q)))))))) : sg_Wp 0 N (d + 1) m_H_needless 4 [(0, 2, 46), (1, 0, v1), (2, 0, v2)] [] G Q := by
  refine sg_blk [(3, 0, 0, 2, 0), (1, 0, 0, 0, 0), (65, 0, 3, 26, 0), (65, 13, 4, 34, 3), (15, 0, 2, 40, 0)] (by decide +kernel) ?_
  refine And.intro rfl (And.intro (Nat.le_of_ble_eq_true rfl) (And.intro (ce_46 hN) (And.intro rr_46_0 (And.intro (ce_0 (Nat.le_trans (by decide) hN)) (And.intro rr_0_3 (And.intro (ce_13 (Nat.le_trans (by decide) hN)) (?_)))))))
  show sg_Wp 0 N (d + 1) m_H_needless 15 [(0, 2, 46), (1, 0, v1), (2, 0, v2)] [(0, G 13 0), (0, v2)] G Q
  refine sg_icmp_ge (off := 52) (tgt := 67) (by decide +kernel) (by decide) ⟨fun q2 => ?_, fun q2 => ?_⟩
  · refine sg_blk [(3, 0, 0, 1, 0)] (by decide +kernel) ?_
    refine And.intro rfl (?_)
    show sg_Wp 0 N (d + 1) m_H_needless 68 [(0, 2, 46), (1, 0, v1), (2, 0, v2)] [(0, v1)] G Q
    exact sg_ret (by decide +kernel) rfl (Or.inl rfl) ((h.1 q2))
  · refine sg_blk [(1, 0, 0, 0, 0), (65, 0, 3, 26, 0), (1, 0, 0, 0, 0), (65, 0, 3, 26, 0), (65, 13, 4, 34, 3), (1, 0, 0, 0, 0), (65, 0, 3, 26, 0), (65, 13, 4, 34, 3)] (by decide +kernel) ?_
    refine And.intro (Nat.le_of_ble_eq_true rfl) (And.intro (ce_46 hN) (And.intro rr_46_0 (And.intro (Nat.le_of_ble_eq_true rfl) (And.intro (ce_46 hN) (And.intro rr_46_0 (And.intro (ce_0 (Nat.le_trans (by decide) hN)) (And.intro rr_0_3 (And.intro (Nat.le_of_ble_eq_true rfl) (And.intro (ce_46 hN) (And.intro rr_46_0 (And.intro (ce_0 (Nat.le_trans (by decide) hN)) (And.intro rr_0_3 (?_)))))))))))))
    show sg_Wp 0 N (d + 1) m_H_needless 36 [(0, 2, 46), (1, 0, v1), (2, 0, v2)] [(2, 13), (2, 13), (2, 0)] G Q
    refine sg_callV (k := d) (y' := m_E_everyBit) (av := []) (rest := [(2, 13), (2, 0)]) (b := 13) (by decide +kernel) cv_E_everyBit ml_3_44 (ce_13 (Nat.le_trans (by decide) hN)) rfl rfl (Nat.le_of_ble_eq_true rfl) (Nat.lt_succ_self d) (Nat.le_of_ble_eq_true rfl) rfl ?_
    show sg_Wp 0 N d m_E_everyBit 0 [(0, 2, 13)] [] G _
    refine sg_Wp.mono ((h.2 q2)) (fun r1 G1 hhr1 => ?_)
    show sg_Wp 0 N (d + 1) m_H_needless 39 [(0, 2, 46), (1, 0, v1), (2, 0, v2)] [(0, r1), (2, 13), (2, 0)] G1 Q
    refine sg_blk [(7, 1, 0, 0, 0), (3, 0, 0, 2, 0), (41, 0, 0, 0, 0), (7, (-1), 0, 0, 0), (40, 0, 0, 0, 0), (38, 0, 0, 0, 0)] (by decide +kernel) ?_
    refine And.intro rfl (And.intro rfl (And.intro rfl (?_)))
    show sg_Wp 0 N (d + 1) m_H_needless 45 [(0, 2, 46), (1, 0, v1), (2, 0, v2)] [(0, sg_iand r1 (sg_ixor (sg_ishl 1 v2) ((-1)))), (2, 13), (2, 0)] G1 Q
    refine sg_callV (k := d) (y' := m_K_supposeEvents) (av := [(2, 13), (0, sg_iand r1 (sg_ixor (sg_ishl 1 v2) ((-1))))]) (rest := []) (b := 0) (by decide +kernel) cv_K_supposeEvents ml_3_48 (ce_0 (Nat.le_trans (by decide) hN)) rfl rfl (Nat.le_of_ble_eq_true rfl) (Nat.lt_succ_self d) (Nat.le_of_ble_eq_true rfl) rfl ?_
    show sg_Wp 0 N d m_K_supposeEvents 0 [(0, 2, 0), (1, 2, 13), (2, 0, sg_iand r1 (sg_ixor (sg_ishl 1 v2) ((-1))))] [] G1 _
    refine sg_Wp.mono hhr1 (fun r2 G2 hhr2 => ?_)
    show sg_Wp 0 N (d + 1) m_H_needless 48 [(0, 2, 46), (1, 0, v1), (2, 0, v2)] [] G2 Q
    refine sg_blk [(1, 0, 0, 0, 0)] (by decide +kernel) ?_
    refine And.intro (Nat.le_of_ble_eq_true rfl) (?_)
    show sg_Wp 0 N (d + 1) m_H_needless 49 [(0, 2, 46), (1, 0, v1), (2, 0, v2)] [(2, 46)] G2 Q
    refine sg_callV (k := d) (y' := m_H_comesOutSo) (av := []) (rest := []) (b := 46) (by decide +kernel) cv_H_comesOutSo ml_3_52 (ce_46 hN) rfl rfl (Nat.le_of_ble_eq_true rfl) (Nat.lt_succ_self d) (Nat.le_of_ble_eq_true rfl) rfl ?_
    show sg_Wp 0 N d m_H_comesOutSo 0 [(0, 2, 46)] [] G2 _
    refine sg_Wp.mono hhr2 (fun r3 G3 hhr3 => ?_)
    show sg_Wp 0 N (d + 1) m_H_needless 52 [(0, 2, 46), (1, 0, v1), (2, 0, v2)] [(0, r3)] G3 Q
    refine sg_if_eq (off := 9) (tgt := 61) (by decide +kernel) (by decide) ⟨fun q1 => ?_, fun q1 => ?_⟩
    · refine sg_blk [(31, 1, 0, 2, 0)] (by decide +kernel) ?_
      refine And.intro rfl (?_)
      show sg_Wp 0 N (d + 1) m_H_needless 64 [(0, 2, 46), (1, 0, v1), (2, 0, sg_iadd v2 1)] [] G3 Q
      refine sg_goto (off := -60) (tgt := 4) (by decide +kernel) (by decide) ?_
      exact (hhr3.1 q1)
    · refine sg_blk [(3, 0, 0, 1, 0), (7, 1, 0, 0, 0), (3, 0, 0, 2, 0), (41, 0, 0, 0, 0), (39, 0, 0, 0, 0), (25, 0, 0, 1, 0), (31, 1, 0, 2, 0)] (by decide +kernel) ?_
      refine And.intro rfl (And.intro rfl (And.intro rfl (And.intro rfl (And.intro rfl (?_)))))
      show sg_Wp 0 N (d + 1) m_H_needless 64 [(0, 2, 46), (1, 0, sg_ior v1 (sg_ishl 1 v2)), (2, 0, sg_iadd v2 1)] [] G3 Q
      refine sg_goto (off := -60) (tgt := 4) (by decide +kernel) (by decide) ?_
      exact (hhr3.2 q1)
set_option maxRecDepth 100000 in
theorem g_H_sortsOf_46_0 {d N : Nat} (hN : 75 ≤ N) {v1 : Int} {G : SgM} {Q : Int → SgM → Prop} (h : (0 ≤ v1 ∧ v1 < 6) ∧ (sg_Wp 0 N (d + 1) m_H_sortsOf 18 [(0, 2, 46), (1, 0, v1), (2, 0, 0), (3, 0, G 9 v1), (4, 0, 0)] [] G Q)) : sg_Wp 0 N (d + 1) m_H_sortsOf 0 [(0, 2, 46), (1, 0, v1)] [] G Q := by
  refine sg_blk [(7, 0, 0, 0, 0), (25, 0, 0, 2, 0), (1, 0, 0, 0, 0), (65, 0, 3, 26, 0), (65, 5, 4, 56, 2), (65, 9, 8, 60, 5), (3, 0, 0, 1, 0), (17, 6, 0, 0, 0), (25, 0, 0, 3, 0), (7, 0, 0, 0, 0), (26, 0, 0, 4, 0)] (by decide +kernel) ?_
  refine And.intro rfl (And.intro rfl (And.intro (Nat.le_of_ble_eq_true rfl) (And.intro (ce_46 hN) (And.intro rr_46_0 (And.intro (ce_0 (Nat.le_trans (by decide) hN)) (And.intro rr_0_2 (And.intro (ce_5 (Nat.le_trans (by decide) hN)) (And.intro rr_5_5 (And.intro rfl (And.intro (ce_9 (Nat.le_trans (by decide) hN)) (And.intro h.1 (And.intro rfl (And.intro rfl (And.intro rfl (?_)))))))))))))))
  show sg_Wp 0 N (d + 1) m_H_sortsOf 18 [(0, 2, 46), (1, 0, v1), (2, 0, 0), (3, 0, G 9 v1), (4, 0, 0)] [] G Q
  exact h.2
set_option maxRecDepth 100000 in
theorem g_H_sortsOf_46_18 {d N : Nat} (hN : 75 ≤ N) {v1 v2 v3 v4 : Int} {G : SgM} {Q : Int → SgM → Prop} (h : (3 ≤ v4 → ((0 ≤ v1 ∧ v1 < 6) ∧ (Q v2 (sg_up G 9 v1 v3)))) ∧ (¬ (3 ≤ v4) → ((0 ≤ v1 ∧ v1 < 6) ∧ (sg_Wp 0 N d m_D_pass 0 [(0, 2, 32)] [] (sg_up G 9 v1 v4) (fun r1 G1 => sg_Wp 0 N d m_H_comesOutSo 0 [(0, 2, 46)] [] G1 (fun r2 G2 => (r2 = 0 → (sg_Wp 0 N (d + 1) m_H_sortsOf 18 [(0, 2, 46), (1, 0, v1), (2, 0, v2), (3, 0, v3), (4, 0, sg_iadd v4 1)] [] G2 Q)) ∧ (¬ (r2 = 0) → (sg_Wp 0 N (d + 1) m_H_sortsOf 18 [(0, 2, 46), (1, 0, v1), (2, 0, sg_ior v2 (sg_ishl 1 v4)), (3, 0, v3), (4, 0, sg_iadd v4 1)] [] G2 Q)))))))) : sg_Wp 0 N (d + 1) m_H_sortsOf 18 [(0, 2, 46), (1, 0, v1), (2, 0, v2), (3, 0, v3), (4, 0, v4)] [] G Q := by
  refine sg_blk [(4, 0, 0, 4, 0), (7, 3, 0, 0, 0)] (by decide +kernel) ?_
  refine And.intro rfl (And.intro rfl (?_))
  show sg_Wp 0 N (d + 1) m_H_sortsOf 21 [(0, 2, 46), (1, 0, v1), (2, 0, v2), (3, 0, v3), (4, 0, v4)] [(0, 3), (0, v4)] G Q
  refine sg_icmp_ge (off := 47) (tgt := 68) (by decide +kernel) (by decide) ⟨fun q2 => ?_, fun q2 => ?_⟩
  · refine sg_blk [(1, 0, 0, 0, 0), (65, 0, 3, 26, 0), (65, 5, 4, 56, 2), (65, 9, 8, 60, 5), (3, 0, 0, 1, 0), (3, 0, 0, 3, 0), (18, 6, 0, 0, 0), (3, 0, 0, 2, 0)] (by decide +kernel) ?_
    refine And.intro (Nat.le_of_ble_eq_true rfl) (And.intro (ce_46 hN) (And.intro rr_46_0 (And.intro (ce_0 (Nat.le_trans (by decide) hN)) (And.intro rr_0_2 (And.intro (ce_5 (Nat.le_trans (by decide) hN)) (And.intro rr_5_5 (And.intro rfl (And.intro rfl (And.intro (ce_9 (Nat.le_trans (by decide) hN)) (And.intro (h.1 q2).1 (And.intro rfl (?_))))))))))))
    show sg_Wp 0 N (d + 1) m_H_sortsOf 82 [(0, 2, 46), (1, 0, v1), (2, 0, v2), (3, 0, v3), (4, 0, v4)] [(0, v2)] (sg_up G 9 v1 v3) Q
    exact sg_ret (by decide +kernel) rfl (Or.inl rfl) ((h.1 q2).2)
  · refine sg_blk [(1, 0, 0, 0, 0), (65, 0, 3, 26, 0), (65, 5, 4, 56, 2), (65, 9, 8, 60, 5), (3, 0, 0, 1, 0), (4, 0, 0, 4, 0), (18, 6, 0, 0, 0), (1, 0, 0, 0, 0), (65, 0, 3, 26, 0), (65, 32, 4, 65, 6)] (by decide +kernel) ?_
    refine And.intro (Nat.le_of_ble_eq_true rfl) (And.intro (ce_46 hN) (And.intro rr_46_0 (And.intro (ce_0 (Nat.le_trans (by decide) hN)) (And.intro rr_0_2 (And.intro (ce_5 (Nat.le_trans (by decide) hN)) (And.intro rr_5_5 (And.intro rfl (And.intro rfl (And.intro (ce_9 (Nat.le_trans (by decide) hN)) (And.intro (h.2 q2).1 (And.intro (Nat.le_of_ble_eq_true rfl) (And.intro (ce_46 hN) (And.intro rr_46_0 (And.intro (ce_0 (Nat.le_trans (by decide) hN)) (And.intro rr_0_6 (?_))))))))))))))))
    show sg_Wp 0 N (d + 1) m_H_sortsOf 45 [(0, 2, 46), (1, 0, v1), (2, 0, v2), (3, 0, v3), (4, 0, v4)] [(2, 32)] (sg_up G 9 v1 v4) Q
    refine sg_callV (k := d) (y' := m_D_pass) (av := []) (rest := []) (b := 32) (by decide +kernel) cv_D_pass ml_3_69 (ce_32 (Nat.le_trans (by decide) hN)) rfl rfl (Nat.le_of_ble_eq_true rfl) (Nat.lt_succ_self d) (Nat.le_of_ble_eq_true rfl) rfl ?_
    show sg_Wp 0 N d m_D_pass 0 [(0, 2, 32)] [] (sg_up G 9 v1 v4) _
    refine sg_Wp.mono ((h.2 q2).2) (fun r1 G1 hhr1 => ?_)
    show sg_Wp 0 N (d + 1) m_H_sortsOf 48 [(0, 2, 46), (1, 0, v1), (2, 0, v2), (3, 0, v3), (4, 0, v4)] [] G1 Q
    refine sg_blk [(1, 0, 0, 0, 0)] (by decide +kernel) ?_
    refine And.intro (Nat.le_of_ble_eq_true rfl) (?_)
    show sg_Wp 0 N (d + 1) m_H_sortsOf 49 [(0, 2, 46), (1, 0, v1), (2, 0, v2), (3, 0, v3), (4, 0, v4)] [(2, 46)] G1 Q
    refine sg_callV (k := d) (y' := m_H_comesOutSo) (av := []) (rest := []) (b := 46) (by decide +kernel) cv_H_comesOutSo ml_3_52 (ce_46 hN) rfl rfl (Nat.le_of_ble_eq_true rfl) (Nat.lt_succ_self d) (Nat.le_of_ble_eq_true rfl) rfl ?_
    show sg_Wp 0 N d m_H_comesOutSo 0 [(0, 2, 46)] [] G1 _
    refine sg_Wp.mono hhr1 (fun r2 G2 hhr2 => ?_)
    show sg_Wp 0 N (d + 1) m_H_sortsOf 52 [(0, 2, 46), (1, 0, v1), (2, 0, v2), (3, 0, v3), (4, 0, v4)] [(0, r2)] G2 Q
    refine sg_if_eq (off := 10) (tgt := 62) (by decide +kernel) (by decide) ⟨fun q1 => ?_, fun q1 => ?_⟩
    · refine sg_blk [(31, 1, 0, 4, 0)] (by decide +kernel) ?_
      refine And.intro rfl (?_)
      show sg_Wp 0 N (d + 1) m_H_sortsOf 65 [(0, 2, 46), (1, 0, v1), (2, 0, v2), (3, 0, v3), (4, 0, sg_iadd v4 1)] [] G2 Q
      refine sg_goto (off := -47) (tgt := 18) (by decide +kernel) (by decide) ?_
      exact (hhr2.1 q1)
    · refine sg_blk [(3, 0, 0, 2, 0), (7, 1, 0, 0, 0), (4, 0, 0, 4, 0), (41, 0, 0, 0, 0), (39, 0, 0, 0, 0), (25, 0, 0, 2, 0), (31, 1, 0, 4, 0)] (by decide +kernel) ?_
      refine And.intro rfl (And.intro rfl (And.intro rfl (And.intro rfl (And.intro rfl (?_)))))
      show sg_Wp 0 N (d + 1) m_H_sortsOf 65 [(0, 2, 46), (1, 0, v1), (2, 0, sg_ior v2 (sg_ishl 1 v4)), (3, 0, v3), (4, 0, sg_iadd v4 1)] [] G2 Q
      refine sg_goto (off := -47) (tgt := 18) (by decide +kernel) (by decide) ?_
      exact (hhr2.2 q1)
set_option maxRecDepth 100000 in
theorem g_H_coldsOf_46_0 {d N : Nat} (hN : 75 ≤ N) {v1 : Int} {G : SgM} {Q : Int → SgM → Prop} (h : (0 ≤ v1 ∧ v1 < 6) ∧ (sg_Wp 0 N (d + 2) m_H_coldsOf 18 [(0, 2, 46), (1, 0, v1), (2, 0, 0), (3, 0, G 12 v1), (4, 0, 1)] [] G Q)) : sg_Wp 0 N (d + 2) m_H_coldsOf 0 [(0, 2, 46), (1, 0, v1)] [] G Q := by
  refine sg_blk [(7, 0, 0, 0, 0), (25, 0, 0, 2, 0), (1, 0, 0, 0, 0), (65, 0, 3, 26, 0), (65, 5, 4, 56, 2), (65, 12, 8, 74, 8), (3, 0, 0, 1, 0), (17, 6, 0, 0, 0), (25, 0, 0, 3, 0), (7, 1, 0, 0, 0), (26, 0, 0, 4, 0)] (by decide +kernel) ?_
  refine And.intro rfl (And.intro rfl (And.intro (Nat.le_of_ble_eq_true rfl) (And.intro (ce_46 hN) (And.intro rr_46_0 (And.intro (ce_0 (Nat.le_trans (by decide) hN)) (And.intro rr_0_2 (And.intro (ce_5 (Nat.le_trans (by decide) hN)) (And.intro rr_5_8 (And.intro rfl (And.intro (ce_12 (Nat.le_trans (by decide) hN)) (And.intro h.1 (And.intro rfl (And.intro rfl (And.intro rfl (?_)))))))))))))))
  show sg_Wp 0 N (d + 2) m_H_coldsOf 18 [(0, 2, 46), (1, 0, v1), (2, 0, 0), (3, 0, G 12 v1), (4, 0, 1)] [] G Q
  exact h.2
set_option maxRecDepth 100000 in
theorem g_H_coldsOf_46_18 {d N : Nat} (hN : 75 ≤ N) {v1 v2 v3 v4 : Int} {G : SgM} {Q : Int → SgM → Prop} (h : (9 < v4 → ((0 ≤ v1 ∧ v1 < 6) ∧ (Q v2 (sg_up G 12 v1 v3)))) ∧ (¬ (9 < v4) → ((0 ≤ v1 ∧ v1 < 6) ∧ (sg_Wp 0 N (d + 1) m_D_pass 0 [(0, 2, 32)] [] (sg_up G 12 v1 v4) (fun r1 G1 => (0 ≤ v4 ∧ v4 < 10) ∧ ((sg_Ce 0 N (51 + v4) 1 24) ∧ ((0 : Int) ≤ 0 ∧ (0 : Int) ≤ 0 ∧ (0 : Int) ≤ 24 ∧ (0 : Int) + 24 ≤ 24 ∧ (0 : Int) + 24 ≤ 24) ∧ (sg_Wp 0 N (d + 1) m_H_comesOutSo 0 [(0, 2, 46)] [] (sg_cp G1 42 0 (51 + v4) 0 24) (fun r2 G2 => (r2 = 0 → (sg_Wp 0 N (d + 2) m_H_coldsOf 18 [(0, 2, 46), (1, 0, v1), (2, 0, v2), (3, 0, v3), (4, 0, sg_iadd v4 1)] [] G2 Q)) ∧ (¬ (r2 = 0) → (sg_Wp 0 N (d + 2) m_H_coldsOf 18 [(0, 2, 46), (1, 0, v1), (2, 0, sg_ior v2 (sg_ishl 1 v4)), (3, 0, v3), (4, 0, sg_iadd v4 1)] [] G2 Q)))))))))) : sg_Wp 0 N (d + 2) m_H_coldsOf 18 [(0, 2, 46), (1, 0, v1), (2, 0, v2), (3, 0, v3), (4, 0, v4)] [] G Q := by
  refine sg_blk [(4, 0, 0, 4, 0), (8, 9, 0, 0, 0)] (by decide +kernel) ?_
  refine And.intro rfl (And.intro rfl (And.intro rfl (?_)))
  show sg_Wp 0 N (d + 2) m_H_coldsOf 22 [(0, 2, 46), (1, 0, v1), (2, 0, v2), (3, 0, v3), (4, 0, v4)] [(0, 9), (0, v4)] G Q
  refine sg_icmp_gt (off := 71) (tgt := 93) (by decide +kernel) (by decide) ⟨fun q2 => ?_, fun q2 => ?_⟩
  · refine sg_blk [(1, 0, 0, 0, 0), (65, 0, 3, 26, 0), (65, 5, 4, 56, 2), (65, 12, 8, 74, 8), (3, 0, 0, 1, 0), (3, 0, 0, 3, 0), (18, 6, 0, 0, 0), (3, 0, 0, 2, 0)] (by decide +kernel) ?_
    refine And.intro (Nat.le_of_ble_eq_true rfl) (And.intro (ce_46 hN) (And.intro rr_46_0 (And.intro (ce_0 (Nat.le_trans (by decide) hN)) (And.intro rr_0_2 (And.intro (ce_5 (Nat.le_trans (by decide) hN)) (And.intro rr_5_8 (And.intro rfl (And.intro rfl (And.intro (ce_12 (Nat.le_trans (by decide) hN)) (And.intro (h.1 q2).1 (And.intro rfl (?_))))))))))))
    show sg_Wp 0 N (d + 2) m_H_coldsOf 107 [(0, 2, 46), (1, 0, v1), (2, 0, v2), (3, 0, v3), (4, 0, v4)] [(0, v2)] (sg_up G 12 v1 v3) Q
    exact sg_ret (by decide +kernel) rfl (Or.inl rfl) ((h.1 q2).2)
  · refine sg_blk [(1, 0, 0, 0, 0), (65, 0, 3, 26, 0), (65, 5, 4, 56, 2), (65, 12, 8, 74, 8), (3, 0, 0, 1, 0), (4, 0, 0, 4, 0), (18, 6, 0, 0, 0), (1, 0, 0, 0, 0), (65, 0, 3, 26, 0), (65, 32, 4, 65, 6)] (by decide +kernel) ?_
    refine And.intro (Nat.le_of_ble_eq_true rfl) (And.intro (ce_46 hN) (And.intro rr_46_0 (And.intro (ce_0 (Nat.le_trans (by decide) hN)) (And.intro rr_0_2 (And.intro (ce_5 (Nat.le_trans (by decide) hN)) (And.intro rr_5_8 (And.intro rfl (And.intro rfl (And.intro (ce_12 (Nat.le_trans (by decide) hN)) (And.intro (h.2 q2).1 (And.intro (Nat.le_of_ble_eq_true rfl) (And.intro (ce_46 hN) (And.intro rr_46_0 (And.intro (ce_0 (Nat.le_trans (by decide) hN)) (And.intro rr_0_6 (?_))))))))))))))))
    show sg_Wp 0 N (d + 2) m_H_coldsOf 46 [(0, 2, 46), (1, 0, v1), (2, 0, v2), (3, 0, v3), (4, 0, v4)] [(2, 32)] (sg_up G 12 v1 v4) Q
    refine sg_callV (k := (d + 1)) (y' := m_D_pass) (av := []) (rest := []) (b := 32) (by decide +kernel) cv_D_pass ml_3_69 (ce_32 (Nat.le_trans (by decide) hN)) rfl rfl (Nat.le_of_ble_eq_true rfl) (Nat.lt_succ_self (d + 1)) (Nat.le_of_ble_eq_true rfl) rfl ?_
    show sg_Wp 0 N (d + 1) m_D_pass 0 [(0, 2, 32)] [] (sg_up G 12 v1 v4) _
    refine sg_Wp.mono ((h.2 q2).2) (fun r1 G1 hhr1 => ?_)
    show sg_Wp 0 N (d + 2) m_H_coldsOf 49 [(0, 2, 46), (1, 0, v1), (2, 0, v2), (3, 0, v3), (4, 0, v4)] [] G1 Q
    refine sg_blk [(1, 0, 0, 0, 0), (65, 0, 3, 26, 0), (65, 32, 4, 65, 6), (65, 42, 1, 77, 11), (7, 0, 0, 0, 0), (1, 0, 0, 0, 0), (65, 50, 3, 23, 5), (4, 0, 0, 4, 0), (23, 10, 51, 0, 0), (7, 0, 0, 0, 0), (8, 24, 0, 0, 0)] (by decide +kernel) ?_
    refine And.intro (Nat.le_of_ble_eq_true rfl) (And.intro (ce_46 hN) (And.intro rr_46_0 (And.intro (ce_0 (Nat.le_trans (by decide) hN)) (And.intro rr_0_6 (And.intro (ce_32 (Nat.le_trans (by decide) hN)) (And.intro rr_32_11 (And.intro rfl (And.intro (Nat.le_of_ble_eq_true rfl) (And.intro (ce_46 hN) (And.intro rr_46_5 (And.intro rfl (And.intro (And.intro (ce_50 hN) qb_50) (And.intro hhr1.1 (And.intro rfl (And.intro rfl (And.intro rfl (?_)))))))))))))))))
    show sg_Wp 0 N (d + 2) m_H_coldsOf 70 [(0, 2, 46), (1, 0, v1), (2, 0, v2), (3, 0, v3), (4, 0, v4)] [(0, 24), (0, 0), (2, 51 + v4), (0, 0), (2, 42)] G1 Q
    refine sg_acopy (by decide +kernel) ma_3_80 (ce_42 (Nat.le_trans (by decide) hN)) hhr1.2.1 (by omega) (Nat.le_of_ble_eq_true rfl) rfl hhr1.2.2.1 ?_
    show sg_Wp 0 N (d + 2) m_H_coldsOf 73 [(0, 2, 46), (1, 0, v1), (2, 0, v2), (3, 0, v3), (4, 0, v4)] [] (sg_cp G1 42 0 (51 + v4) 0 24) Q
    refine sg_blk [(1, 0, 0, 0, 0)] (by decide +kernel) ?_
    refine And.intro (Nat.le_of_ble_eq_true rfl) (?_)
    show sg_Wp 0 N (d + 2) m_H_coldsOf 74 [(0, 2, 46), (1, 0, v1), (2, 0, v2), (3, 0, v3), (4, 0, v4)] [(2, 46)] (sg_cp G1 42 0 (51 + v4) 0 24) Q
    refine sg_callV (k := (d + 1)) (y' := m_H_comesOutSo) (av := []) (rest := []) (b := 46) (by decide +kernel) cv_H_comesOutSo ml_3_52 (ce_46 hN) rfl rfl (Nat.le_of_ble_eq_true rfl) (Nat.lt_succ_self (d + 1)) (Nat.le_of_ble_eq_true rfl) rfl ?_
    show sg_Wp 0 N (d + 1) m_H_comesOutSo 0 [(0, 2, 46)] [] (sg_cp G1 42 0 (51 + v4) 0 24) _
    refine sg_Wp.mono hhr1.2.2.2 (fun r2 G2 hhr2 => ?_)
    show sg_Wp 0 N (d + 2) m_H_coldsOf 77 [(0, 2, 46), (1, 0, v1), (2, 0, v2), (3, 0, v3), (4, 0, v4)] [(0, r2)] G2 Q
    refine sg_if_eq (off := 10) (tgt := 87) (by decide +kernel) (by decide) ⟨fun q1 => ?_, fun q1 => ?_⟩
    · refine sg_blk [(31, 1, 0, 4, 0)] (by decide +kernel) ?_
      refine And.intro rfl (?_)
      show sg_Wp 0 N (d + 2) m_H_coldsOf 90 [(0, 2, 46), (1, 0, v1), (2, 0, v2), (3, 0, v3), (4, 0, sg_iadd v4 1)] [] G2 Q
      refine sg_goto (off := -72) (tgt := 18) (by decide +kernel) (by decide) ?_
      exact (hhr2.1 q1)
    · refine sg_blk [(3, 0, 0, 2, 0), (7, 1, 0, 0, 0), (4, 0, 0, 4, 0), (41, 0, 0, 0, 0), (39, 0, 0, 0, 0), (25, 0, 0, 2, 0), (31, 1, 0, 4, 0)] (by decide +kernel) ?_
      refine And.intro rfl (And.intro rfl (And.intro rfl (And.intro rfl (And.intro rfl (?_)))))
      show sg_Wp 0 N (d + 2) m_H_coldsOf 90 [(0, 2, 46), (1, 0, v1), (2, 0, sg_ior v2 (sg_ishl 1 v4)), (3, 0, v3), (4, 0, sg_iadd v4 1)] [] G2 Q
      refine sg_goto (off := -72) (tgt := 18) (by decide +kernel) (by decide) ?_
      exact (hhr2.2 q1)
set_option maxRecDepth 100000 in
theorem g_H_hourToAsk_46_0 {d N : Nat} (hN : 75 ≤ N) {v1 : Int} {G : SgM} {Q : Int → SgM → Prop} (h : sg_Wp 0 N d m_H_coldsOf 0 [(0, 2, 46), (1, 0, v1)] [] G (fun r1 G1 => sg_Wp 0 N d m_H_mostAlike 0 [(0, 2, 46), (1, 0, r1), (2, 0, 0)] [] G1 (fun r2 G2 => sg_Wp 0 N (d + 1) m_H_hourToAsk 19 [(0, 2, 46), (2, 0, r1), (3, 0, 0), (4, 0, r2), (5, 0, 1)] [] G2 Q))) : sg_Wp 0 N (d + 1) m_H_hourToAsk 0 [(0, 2, 46), (1, 0, v1)] [] G Q := by
  refine sg_blk [(1, 0, 0, 0, 0), (3, 0, 0, 1, 0)] (by decide +kernel) ?_
  refine And.intro (Nat.le_of_ble_eq_true rfl) (And.intro rfl (?_))
  show sg_Wp 0 N (d + 1) m_H_hourToAsk 2 [(0, 2, 46), (1, 0, v1)] [(0, v1), (2, 46)] G Q
  refine sg_callV (k := d) (y' := m_H_coldsOf) (av := [(0, v1)]) (rest := []) (b := 46) (by decide +kernel) cv_H_coldsOf ml_3_86 (ce_46 hN) rfl rfl (Nat.le_of_ble_eq_true rfl) (Nat.lt_succ_self d) (Nat.le_of_ble_eq_true rfl) rfl ?_
  show sg_Wp 0 N d m_H_coldsOf 0 [(0, 2, 46), (1, 0, v1)] [] G _
  refine sg_Wp.mono h (fun r1 G1 hhr1 => ?_)
  show sg_Wp 0 N (d + 1) m_H_hourToAsk 5 [(0, 2, 46), (1, 0, v1)] [(0, r1)] G1 Q
  refine sg_blk [(25, 0, 0, 2, 0), (7, 0, 0, 0, 0), (25, 0, 0, 3, 0), (1, 0, 0, 0, 0), (3, 0, 0, 2, 0), (7, 0, 0, 0, 0)] (by decide +kernel) ?_
  refine And.intro rfl (And.intro rfl (And.intro rfl (And.intro (Nat.le_of_ble_eq_true rfl) (And.intro rfl (And.intro rfl (?_))))))
  show sg_Wp 0 N (d + 1) m_H_hourToAsk 11 [(0, 2, 46), (1, 0, v1), (2, 0, r1), (3, 0, 0)] [(0, 0), (0, r1), (2, 46)] G1 Q
  refine sg_callV (k := d) (y' := m_H_mostAlike) (av := [(0, r1), (0, 0)]) (rest := []) (b := 46) (by decide +kernel) cv_H_mostAlike ml_3_90 (ce_46 hN) rfl rfl (Nat.le_of_ble_eq_true rfl) (Nat.lt_succ_self d) (Nat.le_of_ble_eq_true rfl) rfl ?_
  show sg_Wp 0 N d m_H_mostAlike 0 [(0, 2, 46), (1, 0, r1), (2, 0, 0)] [] G1 _
  refine sg_Wp.mono hhr1 (fun r2 G2 hhr2 => ?_)
  show sg_Wp 0 N (d + 1) m_H_hourToAsk 14 [(0, 2, 46), (1, 0, v1), (2, 0, r1), (3, 0, 0)] [(0, r2)] G2 Q
  refine sg_blk [(26, 0, 0, 4, 0), (7, 1, 0, 0, 0), (26, 0, 0, 5, 0)] (by decide +kernel) ?_
  refine And.intro rfl (And.intro rfl (And.intro rfl (?_)))
  show sg_Wp 0 N (d + 1) m_H_hourToAsk 19 [(0, 2, 46), (1, 0, v1), (2, 0, r1), (3, 0, 0), (4, 0, r2), (5, 0, 1)] [] G2 Q
  exact sg_Wp.keepk [0, 2, 3, 4, 5] rfl hhr2
set_option maxRecDepth 100000 in
theorem g_H_hourToAsk_46_19 {d N : Nat} (hN : 75 ≤ N) {v2 v3 v4 v5 : Int} {G : SgM} {Q : Int → SgM → Prop} (h : (24 ≤ v5 → (Q v3 G)) ∧ (¬ (24 ≤ v5) → (sg_Wp 0 N d m_H_mostAlike 0 [(0, 2, 46), (1, 0, v2), (2, 0, v5)] [] G (fun r3 G3 => (v4 ≤ r3 → (sg_Wp 0 N (d + 1) m_H_hourToAsk 19 [(0, 2, 46), (2, 0, v2), (3, 0, v3), (4, 0, v4), (5, 0, sg_iadd v5 1)] [] G3 Q)) ∧ (¬ (v4 ≤ r3) → (sg_Wp 0 N (d + 1) m_H_hourToAsk 19 [(0, 2, 46), (2, 0, v2), (3, 0, v5), (4, 0, r3), (5, 0, sg_iadd v5 1)] [] G3 Q)))))) : sg_Wp 0 N (d + 1) m_H_hourToAsk 19 [(0, 2, 46), (2, 0, v2), (3, 0, v3), (4, 0, v4), (5, 0, v5)] [] G Q := by
  refine sg_blk [(4, 0, 0, 5, 0), (8, 24, 0, 0, 0)] (by decide +kernel) ?_
  refine And.intro rfl (And.intro rfl (And.intro rfl (?_)))
  show sg_Wp 0 N (d + 1) m_H_hourToAsk 23 [(0, 2, 46), (2, 0, v2), (3, 0, v3), (4, 0, v4), (5, 0, v5)] [(0, 24), (0, v5)] G Q
  refine sg_icmp_ge (off := 32) (tgt := 55) (by decide +kernel) (by decide) ⟨fun q2 => ?_, fun q2 => ?_⟩
  · refine sg_blk [(3, 0, 0, 3, 0)] (by decide +kernel) ?_
    refine And.intro rfl (?_)
    show sg_Wp 0 N (d + 1) m_H_hourToAsk 56 [(0, 2, 46), (2, 0, v2), (3, 0, v3), (4, 0, v4), (5, 0, v5)] [(0, v3)] G Q
    exact sg_ret (by decide +kernel) rfl (Or.inl rfl) ((h.1 q2))
  · refine sg_blk [(1, 0, 0, 0, 0), (3, 0, 0, 2, 0), (4, 0, 0, 5, 0)] (by decide +kernel) ?_
    refine And.intro (Nat.le_of_ble_eq_true rfl) (And.intro rfl (And.intro rfl (?_)))
    show sg_Wp 0 N (d + 1) m_H_hourToAsk 30 [(0, 2, 46), (2, 0, v2), (3, 0, v3), (4, 0, v4), (5, 0, v5)] [(0, v5), (0, v2), (2, 46)] G Q
    refine sg_callV (k := d) (y' := m_H_mostAlike) (av := [(0, v2), (0, v5)]) (rest := []) (b := 46) (by decide +kernel) cv_H_mostAlike ml_3_90 (ce_46 hN) rfl rfl (Nat.le_of_ble_eq_true rfl) (Nat.lt_succ_self d) (Nat.le_of_ble_eq_true rfl) rfl ?_
    show sg_Wp 0 N d m_H_mostAlike 0 [(0, 2, 46), (1, 0, v2), (2, 0, v5)] [] G _
    refine sg_Wp.mono ((h.2 q2)) (fun r3 G3 hhr3 => ?_)
    show sg_Wp 0 N (d + 1) m_H_hourToAsk 33 [(0, 2, 46), (2, 0, v2), (3, 0, v3), (4, 0, v4), (5, 0, v5)] [(0, r3)] G3 Q
    refine sg_blk [(26, 0, 0, 6, 0), (4, 0, 0, 6, 0), (4, 0, 0, 4, 0)] (by decide +kernel) ?_
    refine And.intro rfl (And.intro rfl (And.intro rfl (?_)))
    show sg_Wp 0 N (d + 1) m_H_hourToAsk 39 [(0, 2, 46), (2, 0, v2), (3, 0, v3), (4, 0, v4), (5, 0, v5), (6, 0, r3)] [(0, v4), (0, r3)] G3 Q
    refine sg_icmp_ge (off := 10) (tgt := 49) (by decide +kernel) (by decide) ⟨fun q1 => ?_, fun q1 => ?_⟩
    · refine sg_blk [(31, 1, 0, 5, 0)] (by decide +kernel) ?_
      refine And.intro rfl (?_)
      show sg_Wp 0 N (d + 1) m_H_hourToAsk 52 [(0, 2, 46), (2, 0, v2), (3, 0, v3), (4, 0, v4), (5, 0, sg_iadd v5 1), (6, 0, r3)] [] G3 Q
      refine sg_goto (off := -33) (tgt := 19) (by decide +kernel) (by decide) ?_
      exact sg_Wp.keepk [0, 1, 2, 3, 4] rfl ((hhr3.1 q1))
    · refine sg_blk [(4, 0, 0, 5, 0), (25, 0, 0, 3, 0), (4, 0, 0, 6, 0), (26, 0, 0, 4, 0), (31, 1, 0, 5, 0)] (by decide +kernel) ?_
      refine And.intro rfl (And.intro rfl (And.intro rfl (And.intro rfl (And.intro rfl (?_)))))
      show sg_Wp 0 N (d + 1) m_H_hourToAsk 52 [(0, 2, 46), (2, 0, v2), (3, 0, v5), (4, 0, r3), (5, 0, sg_iadd v5 1), (6, 0, r3)] [] G3 Q
      refine sg_goto (off := -33) (tgt := 19) (by decide +kernel) (by decide) ?_
      exact sg_Wp.keepk [0, 1, 2, 3, 4] rfl ((hhr3.2 q1))
set_option maxRecDepth 100000 in
theorem g_H_mostAlike_46_0 {d N : Nat} (hN : 75 ≤ N) {v1 v2 : Int} {G : SgM} {Q : Int → SgM → Prop} (h : sg_Wp 0 N (d + 1) m_H_mostAlike 5 [(0, 2, 46), (1, 0, v1), (2, 0, v2), (3, 0, 0), (4, 0, 1)] [] G Q) : sg_Wp 0 N (d + 1) m_H_mostAlike 0 [(0, 2, 46), (1, 0, v1), (2, 0, v2)] [] G Q := by
  refine sg_blk [(7, 0, 0, 0, 0), (25, 0, 0, 3, 0), (7, 1, 0, 0, 0), (26, 0, 0, 4, 0)] (by decide +kernel) ?_
  refine And.intro rfl (And.intro rfl (And.intro rfl (And.intro rfl (?_))))
  show sg_Wp 0 N (d + 1) m_H_mostAlike 5 [(0, 2, 46), (1, 0, v1), (2, 0, v2), (3, 0, 0), (4, 0, 1)] [] G Q
  exact h
set_option maxRecDepth 100000 in
theorem g_H_mostAlike_46_5 {d N : Nat} (hN : 75 ≤ N) {v1 v2 v3 v4 : Int} {G : SgM} {Q : Int → SgM → Prop} (h : (9 < v4 → (Q v3 G)) ∧ (¬ (9 < v4) → (((sg_iand (sg_ishr v1 v4) 1 ≠ 0) → (sg_Wp 0 N (d + 1) m_H_mostAlike 30 [(0, 2, 46), (1, 0, v1), (2, 0, v2), (3, 0, v3), (4, 0, v4), (5, 0, 0), (6, 0, 1)] [] G Q)) ∧ (¬ (sg_iand (sg_ishr v1 v4) 1 ≠ 0) → (sg_Wp 0 N (d + 1) m_H_mostAlike 5 [(0, 2, 46), (1, 0, v1), (2, 0, v2), (3, 0, v3), (4, 0, sg_iadd v4 1)] [] G Q))))) : sg_Wp 0 N (d + 1) m_H_mostAlike 5 [(0, 2, 46), (1, 0, v1), (2, 0, v2), (3, 0, v3), (4, 0, v4)] [] G Q := by
  refine sg_blk [(4, 0, 0, 4, 0), (8, 9, 0, 0, 0)] (by decide +kernel) ?_
  refine And.intro rfl (And.intro rfl (And.intro rfl (?_)))
  show sg_Wp 0 N (d + 1) m_H_mostAlike 9 [(0, 2, 46), (1, 0, v1), (2, 0, v2), (3, 0, v3), (4, 0, v4)] [(0, 9), (0, v4)] G Q
  refine sg_icmp_gt (off := 80) (tgt := 89) (by decide +kernel) (by decide) ⟨fun q2 => ?_, fun q2 => ?_⟩
  · refine sg_blk [(3, 0, 0, 3, 0)] (by decide +kernel) ?_
    refine And.intro rfl (?_)
    show sg_Wp 0 N (d + 1) m_H_mostAlike 90 [(0, 2, 46), (1, 0, v1), (2, 0, v2), (3, 0, v3), (4, 0, v4)] [(0, v3)] G Q
    exact sg_ret (by decide +kernel) rfl (Or.inl rfl) ((h.1 q2))
  · refine sg_blk [(3, 0, 0, 1, 0), (4, 0, 0, 4, 0)] (by decide +kernel) ?_
    refine And.intro rfl (And.intro rfl (?_))
    show sg_Wp 0 N (d + 1) m_H_mostAlike 15 [(0, 2, 46), (1, 0, v1), (2, 0, v2), (3, 0, v3), (4, 0, v4)] [(0, v4), (0, v1)] G Q
    refine sg_callN (k := d) (y' := m_G_hasBit) (av := [(0, v1), (0, v4)]) (rest := []) (idx := 94) (by decide +kernel) cs_G_hasBit (List.mem_of_getElem? (i := 8) rfl) rfl (Nat.le_of_ble_eq_true rfl) (Nat.lt_succ_self d) (Nat.le_of_ble_eq_true rfl) rfl ?_
    show sg_Wp 0 N d m_G_hasBit 0 [(0, 0, v1), (1, 0, v4)] [] G _
    refine s_G_hasBit ?_
    show sg_Wp 0 N (d + 1) m_H_mostAlike 18 [(0, 2, 46), (1, 0, v1), (2, 0, v2), (3, 0, v3), (4, 0, v4)] [(0, sg_bo (sg_iand (sg_ishr v1 v4) 1 ≠ 0))] G Q
    refine sg_bif_ne (off := 6) (tgt := 24) (by decide +kernel) (by decide) ⟨fun q1 => ?_, fun q1 => ?_⟩
    · refine sg_blk [(7, 0, 0, 0, 0), (26, 0, 0, 5, 0), (7, 1, 0, 0, 0), (26, 0, 0, 6, 0)] (by decide +kernel) ?_
      refine And.intro rfl (And.intro rfl (And.intro rfl (And.intro rfl (?_))))
      show sg_Wp 0 N (d + 1) m_H_mostAlike 30 [(0, 2, 46), (1, 0, v1), (2, 0, v2), (3, 0, v3), (4, 0, v4), (5, 0, 0), (6, 0, 1)] [] G Q
      exact ((h.2 q2).1 q1)
    · refine sg_goto (off := 62) (tgt := 83) (by decide +kernel) (by decide) ?_
      refine sg_blk [(31, 1, 0, 4, 0)] (by decide +kernel) ?_
      refine And.intro rfl (?_)
      show sg_Wp 0 N (d + 1) m_H_mostAlike 86 [(0, 2, 46), (1, 0, v1), (2, 0, v2), (3, 0, v3), (4, 0, sg_iadd v4 1)] [] G Q
      refine sg_goto (off := -81) (tgt := 5) (by decide +kernel) (by decide) ?_
      exact ((h.2 q2).2 q1)
set_option maxRecDepth 100000 in
theorem g_H_mostAlike_46_30 {d N : Nat} (hN : 75 ≤ N) {v1 v2 v3 v4 v5 v6 : Int} {G : SgM} {Q : Int → SgM → Prop} (h : (9 < v6 → (sg_Wp 0 N (d + 1) m_H_mostAlike 5 [(0, 2, 46), (1, 0, v1), (2, 0, v2), (3, 0, sg_mx v3 v5), (4, 0, sg_iadd v4 1)] [] G Q)) ∧ (¬ (9 < v6) → (((sg_iand (sg_ishr v1 v6) 1 ≠ 0) → ((0 ≤ v6 ∧ v6 < 10) ∧ (sg_Ce 0 N (51 + v6) 1 24) ∧ (0 ≤ v2 ∧ v2 < 24) ∧ (0 ≤ v4 ∧ v4 < 10) ∧ (sg_Ce 0 N (51 + v4) 1 24) ∧ (0 ≤ v2 ∧ v2 < 24) ∧ (((G (51 + v6) v2) ≠ (G (51 + v4) v2) → (sg_Wp 0 N (d + 1) m_H_mostAlike 30 [(0, 2, 46), (1, 0, v1), (2, 0, v2), (3, 0, v3), (4, 0, v4), (5, 0, v5), (6, 0, sg_iadd v6 1)] [] G Q)) ∧ (¬ ((G (51 + v6) v2) ≠ (G (51 + v4) v2)) → (sg_Wp 0 N (d + 1) m_H_mostAlike 30 [(0, 2, 46), (1, 0, v1), (2, 0, v2), (3, 0, v3), (4, 0, v4), (5, 0, sg_iadd v5 1), (6, 0, sg_iadd v6 1)] [] G Q))))) ∧ (¬ (sg_iand (sg_ishr v1 v6) 1 ≠ 0) → (sg_Wp 0 N (d + 1) m_H_mostAlike 30 [(0, 2, 46), (1, 0, v1), (2, 0, v2), (3, 0, v3), (4, 0, v4), (5, 0, v5), (6, 0, sg_iadd v6 1)] [] G Q))))) : sg_Wp 0 N (d + 1) m_H_mostAlike 30 [(0, 2, 46), (1, 0, v1), (2, 0, v2), (3, 0, v3), (4, 0, v4), (5, 0, v5), (6, 0, v6)] [] G Q := by
  refine sg_blk [(4, 0, 0, 6, 0), (8, 9, 0, 0, 0)] (by decide +kernel) ?_
  refine And.intro rfl (And.intro rfl (And.intro rfl (?_)))
  show sg_Wp 0 N (d + 1) m_H_mostAlike 34 [(0, 2, 46), (1, 0, v1), (2, 0, v2), (3, 0, v3), (4, 0, v4), (5, 0, v5), (6, 0, v6)] [(0, 9), (0, v6)] G Q
  refine sg_icmp_gt (off := 42) (tgt := 76) (by decide +kernel) (by decide) ⟨fun q5 => ?_, fun q5 => ?_⟩
  · refine sg_blk [(3, 0, 0, 3, 0), (4, 0, 0, 5, 0)] (by decide +kernel) ?_
    refine And.intro rfl (And.intro rfl (?_))
    show sg_Wp 0 N (d + 1) m_H_mostAlike 79 [(0, 2, 46), (1, 0, v1), (2, 0, v2), (3, 0, v3), (4, 0, v4), (5, 0, v5), (6, 0, v6)] [(0, v5), (0, v3)] G Q
    refine sg_mmax (by decide +kernel) mx_3_98 (Nat.succ_pos _) (Nat.le_of_ble_eq_true rfl) rfl ?_
    show sg_Wp 0 N (d + 1) m_H_mostAlike 82 [(0, 2, 46), (1, 0, v1), (2, 0, v2), (3, 0, v3), (4, 0, v4), (5, 0, v5), (6, 0, v6)] [(0, sg_mx v3 v5)] G Q
    refine sg_blk [(25, 0, 0, 3, 0), (31, 1, 0, 4, 0)] (by decide +kernel) ?_
    refine And.intro rfl (And.intro rfl (?_))
    show sg_Wp 0 N (d + 1) m_H_mostAlike 86 [(0, 2, 46), (1, 0, v1), (2, 0, v2), (3, 0, sg_mx v3 v5), (4, 0, sg_iadd v4 1), (5, 0, v5), (6, 0, v6)] [] G Q
    refine sg_goto (off := -81) (tgt := 5) (by decide +kernel) (by decide) ?_
    exact sg_Wp.keepk [0, 1, 2, 3, 4] rfl ((h.1 q5))
  · refine sg_blk [(3, 0, 0, 1, 0), (4, 0, 0, 6, 0)] (by decide +kernel) ?_
    refine And.intro rfl (And.intro rfl (?_))
    show sg_Wp 0 N (d + 1) m_H_mostAlike 40 [(0, 2, 46), (1, 0, v1), (2, 0, v2), (3, 0, v3), (4, 0, v4), (5, 0, v5), (6, 0, v6)] [(0, v6), (0, v1)] G Q
    refine sg_callN (k := d) (y' := m_G_hasBit) (av := [(0, v1), (0, v6)]) (rest := []) (idx := 94) (by decide +kernel) cs_G_hasBit (List.mem_of_getElem? (i := 8) rfl) rfl (Nat.le_of_ble_eq_true rfl) (Nat.lt_succ_self d) (Nat.le_of_ble_eq_true rfl) rfl ?_
    show sg_Wp 0 N d m_G_hasBit 0 [(0, 0, v1), (1, 0, v6)] [] G _
    refine s_G_hasBit ?_
    show sg_Wp 0 N (d + 1) m_H_mostAlike 43 [(0, 2, 46), (1, 0, v1), (2, 0, v2), (3, 0, v3), (4, 0, v4), (5, 0, v5), (6, 0, v6)] [(0, sg_bo (sg_iand (sg_ishr v1 v6) 1 ≠ 0))] G Q
    refine sg_bif_eq (off := 27) (tgt := 70) (by decide +kernel) (by decide) ⟨fun q4 => ?_, fun q4 => ?_⟩
    · refine sg_blk [(1, 0, 0, 0, 0), (65, 50, 3, 23, 5), (4, 0, 0, 6, 0), (23, 10, 51, 0, 0), (3, 0, 0, 2, 0), (17, 24, 0, 0, 0), (1, 0, 0, 0, 0), (65, 50, 3, 23, 5), (4, 0, 0, 4, 0), (23, 10, 51, 0, 0), (3, 0, 0, 2, 0), (17, 24, 0, 0, 0)] (by decide +kernel) ?_
      refine And.intro (Nat.le_of_ble_eq_true rfl) (And.intro (ce_46 hN) (And.intro rr_46_5 (And.intro rfl (And.intro (And.intro (ce_50 hN) qb_50) (And.intro ((h.2 q5).1 q4).1 (And.intro rfl (And.intro ((h.2 q5).1 q4).2.1 (And.intro ((h.2 q5).1 q4).2.2.1 (And.intro (Nat.le_of_ble_eq_true rfl) (And.intro (ce_46 hN) (And.intro rr_46_5 (And.intro rfl (And.intro (And.intro (ce_50 hN) qb_50) (And.intro ((h.2 q5).1 q4).2.2.2.1 (And.intro rfl (And.intro ((h.2 q5).1 q4).2.2.2.2.1 (And.intro ((h.2 q5).1 q4).2.2.2.2.2.1 (?_))))))))))))))))))
      show sg_Wp 0 N (d + 1) m_H_mostAlike 64 [(0, 2, 46), (1, 0, v1), (2, 0, v2), (3, 0, v3), (4, 0, v4), (5, 0, v5), (6, 0, v6)] [(0, G (51 + v4) v2), (0, G (51 + v6) v2)] G Q
      refine sg_icmp_ne (off := 6) (tgt := 70) (by decide +kernel) (by decide) ⟨fun q3 => ?_, fun q3 => ?_⟩
      · refine sg_blk [(31, 1, 0, 6, 0)] (by decide +kernel) ?_
        refine And.intro rfl (?_)
        show sg_Wp 0 N (d + 1) m_H_mostAlike 73 [(0, 2, 46), (1, 0, v1), (2, 0, v2), (3, 0, v3), (4, 0, v4), (5, 0, v5), (6, 0, sg_iadd v6 1)] [] G Q
        refine sg_goto (off := -43) (tgt := 30) (by decide +kernel) (by decide) ?_
        exact (((h.2 q5).1 q4).2.2.2.2.2.2.1 q3)
      · refine sg_blk [(31, 1, 0, 5, 0), (31, 1, 0, 6, 0)] (by decide +kernel) ?_
        refine And.intro rfl (And.intro rfl (?_))
        show sg_Wp 0 N (d + 1) m_H_mostAlike 73 [(0, 2, 46), (1, 0, v1), (2, 0, v2), (3, 0, v3), (4, 0, v4), (5, 0, sg_iadd v5 1), (6, 0, sg_iadd v6 1)] [] G Q
        refine sg_goto (off := -43) (tgt := 30) (by decide +kernel) (by decide) ?_
        exact (((h.2 q5).1 q4).2.2.2.2.2.2.2 q3)
    · refine sg_blk [(31, 1, 0, 6, 0)] (by decide +kernel) ?_
      refine And.intro rfl (?_)
      show sg_Wp 0 N (d + 1) m_H_mostAlike 73 [(0, 2, 46), (1, 0, v1), (2, 0, v2), (3, 0, v3), (4, 0, v4), (5, 0, v5), (6, 0, sg_iadd v6 1)] [] G Q
      refine sg_goto (off := -43) (tgt := 30) (by decide +kernel) (by decide) ?_
      exact ((h.2 q5).2 q4)
set_option maxRecDepth 100000 in
theorem g_H_comesOutSo_46_0 {d N : Nat} (hN : 75 ≤ N) {G : SgM} {Q : Int → SgM → Prop} (h : sg_Wp 0 N d m_H_comesOutSo 2 [(0, 2, 46), (1, 0, 0)] [] G Q) : sg_Wp 0 N d m_H_comesOutSo 0 [(0, 2, 46)] [] G Q := by
  refine sg_blk [(7, 0, 0, 0, 0), (25, 0, 0, 1, 0)] (by decide +kernel) ?_
  refine And.intro rfl (And.intro rfl (?_))
  show sg_Wp 0 N d m_H_comesOutSo 2 [(0, 2, 46), (1, 0, 0)] [] G Q
  exact h
set_option maxRecDepth 100000 in
theorem g_H_comesOutSo_46_2 {d N : Nat} (hN : 75 ≤ N) {v1 : Int} {G : SgM} {Q : Int → SgM → Prop} (h : ((G 46 1) ≤ v1 → (Q 1 G)) ∧ (¬ ((G 46 1) ≤ v1) → ((0 ≤ v1 ∧ v1 < 8) ∧ (((G 5 0) ≤ (G 48 v1) → (Q 0 G)) ∧ (¬ ((G 5 0) ≤ (G 48 v1)) → ((0 ≤ v1 ∧ v1 < 8) ∧ (0 ≤ (G 47 v1) ∧ (G 47 v1) < 24) ∧ (0 ≤ v1 ∧ v1 < 8) ∧ (0 ≤ v1 ∧ v1 < 8) ∧ (((sg_iand (sg_ishr (G 42 (G 47 v1)) (G 48 v1)) 1) = (G 49 v1) → (sg_Wp 0 N d m_H_comesOutSo 2 [(0, 2, 46), (1, 0, sg_iadd v1 1)] [] G Q)) ∧ (¬ ((sg_iand (sg_ishr (G 42 (G 47 v1)) (G 48 v1)) 1) = (G 49 v1)) → (Q 0 G))))))))) : sg_Wp 0 N d m_H_comesOutSo 2 [(0, 2, 46), (1, 0, v1)] [] G Q := by
  refine sg_blk [(3, 0, 0, 1, 0), (1, 0, 0, 0, 0), (15, 0, 3, 30, 1)] (by decide +kernel) ?_
  refine And.intro rfl (And.intro (Nat.le_of_ble_eq_true rfl) (And.intro (ce_46 hN) (?_)))
  show sg_Wp 0 N d m_H_comesOutSo 7 [(0, 2, 46), (1, 0, v1)] [(0, G 46 1), (0, v1)] G Q
  refine sg_icmp_ge (off := 75) (tgt := 82) (by decide +kernel) (by decide) ⟨fun q3 => ?_, fun q3 => ?_⟩
  · refine sg_blk [(7, 1, 0, 0, 0)] (by decide +kernel) ?_
    refine And.intro rfl (?_)
    show sg_Wp 0 N d m_H_comesOutSo 83 [(0, 2, 46), (1, 0, v1)] [(0, 1)] G Q
    exact sg_ret (by decide +kernel) rfl (Or.inr ⟨Or.inl rfl, by decide⟩) ((h.1 q3))
  · refine sg_blk [(1, 0, 0, 0, 0), (65, 48, 3, 15, 3), (3, 0, 0, 1, 0), (17, 8, 0, 0, 0), (1, 0, 0, 0, 0), (65, 0, 3, 26, 0), (65, 5, 4, 56, 2), (15, 0, 8, 103, 0)] (by decide +kernel) ?_
    refine And.intro (Nat.le_of_ble_eq_true rfl) (And.intro (ce_46 hN) (And.intro rr_46_3 (And.intro rfl (And.intro (ce_48 hN) (And.intro (h.2 q3).1 (And.intro (Nat.le_of_ble_eq_true rfl) (And.intro (ce_46 hN) (And.intro rr_46_0 (And.intro (ce_0 (Nat.le_trans (by decide) hN)) (And.intro rr_0_2 (And.intro (ce_5 (Nat.le_trans (by decide) hN)) (?_))))))))))))
    show sg_Wp 0 N d m_H_comesOutSo 26 [(0, 2, 46), (1, 0, v1)] [(0, G 5 0), (0, G 48 v1)] G Q
    refine sg_icmp_ge (off := 7) (tgt := 33) (by decide +kernel) (by decide) ⟨fun q2 => ?_, fun q2 => ?_⟩
    · refine sg_blk [(7, 0, 0, 0, 0), (25, 0, 0, 2, 0), (3, 0, 0, 2, 0)] (by decide +kernel) ?_
      refine And.intro rfl (And.intro rfl (And.intro rfl (?_)))
      show sg_Wp 0 N d m_H_comesOutSo 36 [(0, 2, 46), (1, 0, v1), (2, 0, 0)] [(0, 0)] G Q
      refine sg_if_eq (off := 38) (tgt := 74) (by decide +kernel) (by decide) ⟨fun _ => ?_, fun q => absurd (by decide) q⟩
      refine sg_blk [(7, 0, 0, 0, 0)] (by decide +kernel) ?_
      refine And.intro rfl (?_)
      show sg_Wp 0 N d m_H_comesOutSo 75 [(0, 2, 46), (1, 0, v1), (2, 0, 0)] [(0, 0)] G Q
      exact sg_ret (by decide +kernel) rfl (Or.inr ⟨Or.inl rfl, by decide⟩) (((h.2 q3).2.1 q2))
    · refine sg_blk [(7, 1, 0, 0, 0)] (by decide +kernel) ?_
      refine And.intro rfl (?_)
      show sg_Wp 0 N d m_H_comesOutSo 30 [(0, 2, 46), (1, 0, v1)] [(0, 1)] G Q
      refine sg_goto (off := 4) (tgt := 34) (by decide +kernel) (by decide) ?_
      refine sg_blk [(25, 0, 0, 2, 0), (3, 0, 0, 2, 0)] (by decide +kernel) ?_
      refine And.intro rfl (And.intro rfl (?_))
      show sg_Wp 0 N d m_H_comesOutSo 36 [(0, 2, 46), (1, 0, v1), (2, 0, 1)] [(0, 1)] G Q
      refine sg_if_eq (off := 38) (tgt := 74) (by decide +kernel) (by decide) ⟨fun q => absurd q (by decide), fun _ => ?_⟩
      refine sg_blk [(1, 0, 0, 0, 0), (65, 0, 3, 26, 0), (65, 32, 4, 65, 6), (65, 42, 1, 77, 11), (1, 0, 0, 0, 0), (65, 47, 3, 9, 2), (3, 0, 0, 1, 0), (17, 8, 0, 0, 0), (17, 24, 0, 0, 0), (1, 0, 0, 0, 0), (65, 48, 3, 15, 3), (3, 0, 0, 1, 0), (17, 8, 0, 0, 0), (42, 0, 0, 0, 0), (7, 1, 0, 0, 0), (38, 0, 0, 0, 0), (1, 0, 0, 0, 0), (65, 49, 3, 18, 4), (3, 0, 0, 1, 0), (17, 8, 0, 0, 0)] (by decide +kernel) ?_
      refine And.intro (Nat.le_of_ble_eq_true rfl) (And.intro (ce_46 hN) (And.intro rr_46_0 (And.intro (ce_0 (Nat.le_trans (by decide) hN)) (And.intro rr_0_6 (And.intro (ce_32 (Nat.le_trans (by decide) hN)) (And.intro rr_32_11 (And.intro (Nat.le_of_ble_eq_true rfl) (And.intro (ce_46 hN) (And.intro rr_46_2 (And.intro rfl (And.intro (ce_47 hN) (And.intro ((h.2 q3).2.2 q2).1 (And.intro (ce_42 (Nat.le_trans (by decide) hN)) (And.intro ((h.2 q3).2.2 q2).2.1 (And.intro (Nat.le_of_ble_eq_true rfl) (And.intro (ce_46 hN) (And.intro rr_46_3 (And.intro rfl (And.intro (ce_48 hN) (And.intro ((h.2 q3).2.2 q2).2.2.1 (And.intro rfl (And.intro (Nat.le_of_ble_eq_true rfl) (And.intro (ce_46 hN) (And.intro rr_46_4 (And.intro rfl (And.intro (ce_49 hN) (And.intro ((h.2 q3).2.2 q2).2.2.2.1 (?_))))))))))))))))))))))))))))
      show sg_Wp 0 N d m_H_comesOutSo 71 [(0, 2, 46), (1, 0, v1), (2, 0, 1)] [(0, G 49 v1), (0, sg_iand (sg_ishr (G 42 (G 47 v1)) (G 48 v1)) 1)] G Q
      refine sg_icmp_eq (off := 5) (tgt := 76) (by decide +kernel) (by decide) ⟨fun q1 => ?_, fun q1 => ?_⟩
      · refine sg_blk [(31, 1, 0, 1, 0)] (by decide +kernel) ?_
        refine And.intro rfl (?_)
        show sg_Wp 0 N d m_H_comesOutSo 79 [(0, 2, 46), (1, 0, sg_iadd v1 1), (2, 0, 1)] [] G Q
        refine sg_goto (off := -77) (tgt := 2) (by decide +kernel) (by decide) ?_
        exact sg_Wp.keepk [0, 1] rfl ((((h.2 q3).2.2 q2).2.2.2.2.1 q1))
      · refine sg_blk [(7, 0, 0, 0, 0)] (by decide +kernel) ?_
        refine And.intro rfl (?_)
        show sg_Wp 0 N d m_H_comesOutSo 75 [(0, 2, 46), (1, 0, v1), (2, 0, 1)] [(0, 0)] G Q
        exact sg_ret (by decide +kernel) rfl (Or.inr ⟨Or.inl rfl, by decide⟩) ((((h.2 q3).2.2 q2).2.2.2.2.2 q1))
set_option maxRecDepth 100000 in
theorem g_C_fraction_61_0 {d N : Nat} (hN : 75 ≤ N) {v1 v2 v3 : Int} {G : SgM} {Q : Int → SgM → Prop} (h : sg_Wp 0 N d m_C_weigh 0 [(0, 2, 61), (1, 0, v1), (2, 0, G 13 0)] [] G (fun r1 G1 => sg_Wp 0 N (d + 1) m_C_fraction 25 [(0, 2, 61), (2, 0, v2), (3, 0, v3), (4, 0, G 13 0), (5, 1, 0), (7, 0, 0)] [] G1 Q)) : sg_Wp 0 N (d + 1) m_C_fraction 0 [(0, 2, 61), (1, 0, v1), (2, 0, v2), (3, 0, v3)] [] G Q := by
  refine sg_blk [(1, 0, 0, 0, 0), (65, 0, 0, 22, 0), (65, 13, 4, 26, 3), (15, 0, 2, 31, 0), (26, 0, 0, 4, 0), (1, 0, 0, 0, 0), (3, 0, 0, 1, 0), (4, 0, 0, 4, 0)] (by decide +kernel) ?_
  refine And.intro (Nat.le_of_ble_eq_true rfl) (And.intro (ce_61 hN) (And.intro rr_61_0 (And.intro (ce_0 (Nat.le_trans (by decide) hN)) (And.intro rr_0_3 (And.intro (ce_13 (Nat.le_trans (by decide) hN)) (And.intro rfl (And.intro (Nat.le_of_ble_eq_true rfl) (And.intro rfl (And.intro rfl (?_))))))))))
  show sg_Wp 0 N (d + 1) m_C_fraction 16 [(0, 2, 61), (1, 0, v1), (2, 0, v2), (3, 0, v3), (4, 0, G 13 0)] [(0, G 13 0), (0, v1), (2, 61)] G Q
  refine sg_callV (k := d) (y' := m_C_weigh) (av := [(0, v1), (0, G 13 0)]) (rest := []) (b := 61) (by decide +kernel) cv_C_weigh ml_0_34 (ce_61 hN) rfl rfl (Nat.le_of_ble_eq_true rfl) (Nat.lt_succ_self d) (Nat.le_of_ble_eq_true rfl) rfl ?_
  show sg_Wp 0 N d m_C_weigh 0 [(0, 2, 61), (1, 0, v1), (2, 0, G 13 0)] [] G _
  refine sg_Wp.mono h (fun r1 G1 hhr1 => ?_)
  show sg_Wp 0 N (d + 1) m_C_fraction 19 [(0, 2, 61), (1, 0, v1), (2, 0, v2), (3, 0, v3), (4, 0, G 13 0)] [] G1 Q
  refine sg_blk [(10, 0, 0, 0, 0), (28, 0, 0, 5, 0), (7, 0, 0, 0, 0), (26, 0, 0, 7, 0)] (by decide +kernel) ?_
  refine And.intro rfl (And.intro rfl (And.intro rfl (?_)))
  show sg_Wp 0 N (d + 1) m_C_fraction 25 [(0, 2, 61), (1, 0, v1), (2, 0, v2), (3, 0, v3), (4, 0, G 13 0), (5, 1, 0), (7, 0, 0)] [] G1 Q
  exact sg_Wp.keepk [0, 2, 3, 4, 5, 6] rfl hhr1
set_option maxRecDepth 100000 in
theorem g_C_fraction_61_25 {d N : Nat} (hN : 75 ≤ N) {v2 v3 v4 v5 v7 : Int} {G : SgM} {Q : Int → SgM → Prop} (h : sg_Wp 0 N d m_E_everyBit 0 [(0, 2, 13)] [] G (fun r2 G2 => (r2 < v7 → (sg_Wp 0 N (d + 1) m_C_fraction 102 [(3, 0, v3), (5, 1, v5), (7, 1, sg_lshl 1 (sg_imul 4 v4)), (9, 0, 0)] [] G2 Q)) ∧ (¬ (r2 < v7) → ((9 ≤ (sg_ibc v7) → (sg_Wp 0 N (d + 1) m_C_fraction 25 [(0, 2, 61), (2, 0, v2), (3, 0, v3), (4, 0, v4), (5, 1, v5), (7, 0, sg_iadd v7 1)] [] G2 Q)) ∧ (¬ (9 ≤ (sg_ibc v7)) → (sg_Wp 0 N d m_K_forgottenWith 0 [(0, 2, 0), (1, 0, v7)] [] G2 (fun r3 G3 => ((sg_iand (sg_ishr r3 v2) 1 ≠ 0) → ((0 ≤ (sg_ibc v7) ∧ (sg_ibc v7) < 9) ∧ (sg_Wp 0 N (d + 1) m_C_fraction 25 [(0, 2, 61), (2, 0, v2), (3, 0, v3), (4, 0, v4), (5, 1, sg_ladd v5 (G3 62 (sg_ibc v7))), (7, 0, sg_iadd v7 1)] [] G3 Q))) ∧ (¬ (sg_iand (sg_ishr r3 v2) 1 ≠ 0) → (sg_Wp 0 N (d + 1) m_C_fraction 25 [(0, 2, 61), (2, 0, v2), (3, 0, v3), (4, 0, v4), (5, 1, v5), (7, 0, sg_iadd v7 1)] [] G3 Q))))))))) : sg_Wp 0 N (d + 1) m_C_fraction 25 [(0, 2, 61), (2, 0, v2), (3, 0, v3), (4, 0, v4), (5, 1, v5), (7, 0, v7)] [] G Q := by
  refine sg_blk [(4, 0, 0, 7, 0), (1, 0, 0, 0, 0), (65, 0, 0, 22, 0), (65, 13, 4, 26, 3)] (by decide +kernel) ?_
  refine And.intro rfl (And.intro (Nat.le_of_ble_eq_true rfl) (And.intro (ce_61 hN) (And.intro rr_61_0 (And.intro (ce_0 (Nat.le_trans (by decide) hN)) (And.intro rr_0_3 (?_))))))
  show sg_Wp 0 N (d + 1) m_C_fraction 34 [(0, 2, 61), (2, 0, v2), (3, 0, v3), (4, 0, v4), (5, 1, v5), (7, 0, v7)] [(2, 13), (0, v7)] G Q
  refine sg_callV (k := d) (y' := m_E_everyBit) (av := []) (rest := [(0, v7)]) (b := 13) (by decide +kernel) cv_E_everyBit ml_0_38 (ce_13 (Nat.le_trans (by decide) hN)) rfl rfl (Nat.le_of_ble_eq_true rfl) (Nat.lt_succ_self d) (Nat.le_of_ble_eq_true rfl) rfl ?_
  show sg_Wp 0 N d m_E_everyBit 0 [(0, 2, 13)] [] G _
  refine sg_Wp.mono h (fun r2 G2 hhr2 => ?_)
  show sg_Wp 0 N (d + 1) m_C_fraction 37 [(0, 2, 61), (2, 0, v2), (3, 0, v3), (4, 0, v4), (5, 1, v5), (7, 0, v7)] [(0, r2), (0, v7)] G2 Q
  refine sg_icmp_gt (off := 54) (tgt := 91) (by decide +kernel) (by decide) ⟨fun q3 => ?_, fun q3 => ?_⟩
  · refine sg_blk [(10, 0, 0, 1, 0), (7, 4, 0, 0, 0), (4, 0, 0, 4, 0), (34, 0, 0, 0, 0), (50, 0, 0, 0, 0), (28, 0, 0, 7, 0), (7, 0, 0, 0, 0), (26, 0, 0, 9, 0)] (by decide +kernel) ?_
    refine And.intro rfl (And.intro rfl (And.intro rfl (And.intro rfl (And.intro rfl (?_)))))
    show sg_Wp 0 N (d + 1) m_C_fraction 102 [(0, 2, 61), (2, 0, v2), (3, 0, v3), (4, 0, v4), (5, 1, v5), (7, 1, sg_lshl 1 (sg_imul 4 v4)), (9, 0, 0)] [] G2 Q
    exact sg_Wp.keepk [2, 4, 5, 6] rfl ((hhr2.1 q3))
  · refine sg_blk [(4, 0, 0, 7, 0)] (by decide +kernel) ?_
    refine And.intro rfl (?_)
    show sg_Wp 0 N (d + 1) m_C_fraction 42 [(0, 2, 61), (2, 0, v2), (3, 0, v3), (4, 0, v4), (5, 1, v5), (7, 0, v7)] [(0, v7)] G2 Q
    refine sg_callS (k := d) (y' := m_I_bitCount) (av := [(0, v7)]) (rest := []) (by decide +kernel) cs_I_bitCount ml_0_42 rfl (Nat.le_of_ble_eq_true rfl) (Nat.lt_succ_self d) (Nat.le_of_ble_eq_true rfl) rfl ?_
    show sg_Wp 0 N d m_I_bitCount 0 [(0, 0, v7)] [] G2 _
    refine s_I_bitCount ?_
    show sg_Wp 0 N (d + 1) m_C_fraction 45 [(0, 2, 61), (2, 0, v2), (3, 0, v3), (4, 0, v4), (5, 1, v5), (7, 0, v7)] [(0, sg_ibc v7)] G2 Q
    refine sg_blk [(26, 0, 0, 8, 0), (4, 0, 0, 8, 0), (1, 0, 0, 0, 0), (65, 62, 0, 18, 2), (24, 9, 0, 0, 0)] (by decide +kernel) ?_
    refine And.intro rfl (And.intro rfl (And.intro (Nat.le_of_ble_eq_true rfl) (And.intro (ce_61 hN) (And.intro rr_61_2 (And.intro (And.intro (Or.inr (ce_62 hN)) (by decide)) (?_))))))
    show sg_Wp 0 N (d + 1) m_C_fraction 54 [(0, 2, 61), (2, 0, v2), (3, 0, v3), (4, 0, v4), (5, 1, v5), (7, 0, v7), (8, 0, sg_ibc v7)] [(0, 9), (0, sg_ibc v7)] G2 Q
    refine sg_icmp_ge (off := 31) (tgt := 85) (by decide +kernel) (by decide) ⟨fun q2 => ?_, fun q2 => ?_⟩
    · refine sg_blk [(31, 1, 0, 7, 0)] (by decide +kernel) ?_
      refine And.intro rfl (?_)
      show sg_Wp 0 N (d + 1) m_C_fraction 88 [(0, 2, 61), (2, 0, v2), (3, 0, v3), (4, 0, v4), (5, 1, v5), (7, 0, sg_iadd v7 1), (8, 0, sg_ibc v7)] [] G2 Q
      refine sg_goto (off := -63) (tgt := 25) (by decide +kernel) (by decide) ?_
      exact sg_Wp.keepk [0, 1, 2, 3, 4, 5] rfl (((hhr2.2 q3).1 q2))
    · refine sg_blk [(1, 0, 0, 0, 0), (65, 0, 0, 22, 0), (4, 0, 0, 7, 0)] (by decide +kernel) ?_
      refine And.intro (Nat.le_of_ble_eq_true rfl) (And.intro (ce_61 hN) (And.intro rr_61_0 (And.intro rfl (?_))))
      show sg_Wp 0 N (d + 1) m_C_fraction 63 [(0, 2, 61), (2, 0, v2), (3, 0, v3), (4, 0, v4), (5, 1, v5), (7, 0, v7), (8, 0, sg_ibc v7)] [(0, v7), (2, 0)] G2 Q
      refine sg_callV (k := d) (y' := m_K_forgottenWith) (av := [(0, v7)]) (rest := []) (b := 0) (by decide +kernel) cv_K_forgottenWith ml_0_48 (ce_0 (Nat.le_trans (by decide) hN)) rfl rfl (Nat.le_of_ble_eq_true rfl) (Nat.lt_succ_self d) (Nat.le_of_ble_eq_true rfl) rfl ?_
      show sg_Wp 0 N d m_K_forgottenWith 0 [(0, 2, 0), (1, 0, v7)] [] G2 _
      refine sg_Wp.mono (((hhr2.2 q3).2 q2)) (fun r3 G3 hhr3 => ?_)
      show sg_Wp 0 N (d + 1) m_C_fraction 66 [(0, 2, 61), (2, 0, v2), (3, 0, v3), (4, 0, v4), (5, 1, v5), (7, 0, v7), (8, 0, sg_ibc v7)] [(0, r3)] G3 Q
      refine sg_blk [(3, 0, 0, 2, 0)] (by decide +kernel) ?_
      refine And.intro rfl (?_)
      show sg_Wp 0 N (d + 1) m_C_fraction 67 [(0, 2, 61), (2, 0, v2), (3, 0, v3), (4, 0, v4), (5, 1, v5), (7, 0, v7), (8, 0, sg_ibc v7)] [(0, v2), (0, r3)] G3 Q
      refine sg_callN (k := d) (y' := m_G_hasBit) (av := [(0, r3), (0, v2)]) (rest := []) (idx := 51) (by decide +kernel) cs_G_hasBit (List.mem_of_getElem? (i := 9) rfl) rfl (Nat.le_of_ble_eq_true rfl) (Nat.lt_succ_self d) (Nat.le_of_ble_eq_true rfl) rfl ?_
      show sg_Wp 0 N d m_G_hasBit 0 [(0, 0, r3), (1, 0, v2)] [] G3 _
      refine s_G_hasBit ?_
      show sg_Wp 0 N (d + 1) m_C_fraction 70 [(0, 2, 61), (2, 0, v2), (3, 0, v3), (4, 0, v4), (5, 1, v5), (7, 0, v7), (8, 0, sg_ibc v7)] [(0, sg_bo (sg_iand (sg_ishr r3 v2) 1 ≠ 0))] G3 Q
      refine sg_bif_eq (off := 15) (tgt := 85) (by decide +kernel) (by decide) ⟨fun q1 => ?_, fun q1 => ?_⟩
      · refine sg_blk [(6, 0, 0, 5, 0), (1, 0, 0, 0, 0), (65, 62, 0, 18, 2), (4, 0, 0, 8, 0), (21, 9, 0, 0, 0), (44, 0, 0, 0, 0), (28, 0, 0, 5, 0), (31, 1, 0, 7, 0)] (by decide +kernel) ?_
        refine And.intro rfl (And.intro (Nat.le_of_ble_eq_true rfl) (And.intro (ce_61 hN) (And.intro rr_61_2 (And.intro rfl (And.intro (ce_62 hN) (And.intro (hhr3.1 q1).1 (And.intro rfl (And.intro rfl (?_)))))))))
        show sg_Wp 0 N (d + 1) m_C_fraction 88 [(0, 2, 61), (2, 0, v2), (3, 0, v3), (4, 0, v4), (5, 1, sg_ladd v5 (G3 62 (sg_ibc v7))), (7, 0, sg_iadd v7 1), (8, 0, sg_ibc v7)] [] G3 Q
        refine sg_goto (off := -63) (tgt := 25) (by decide +kernel) (by decide) ?_
        exact sg_Wp.keepk [0, 1, 2, 3, 4, 5] rfl ((hhr3.1 q1).2)
      · refine sg_blk [(31, 1, 0, 7, 0)] (by decide +kernel) ?_
        refine And.intro rfl (?_)
        show sg_Wp 0 N (d + 1) m_C_fraction 88 [(0, 2, 61), (2, 0, v2), (3, 0, v3), (4, 0, v4), (5, 1, v5), (7, 0, sg_iadd v7 1), (8, 0, sg_ibc v7)] [] G3 Q
        refine sg_goto (off := -63) (tgt := 25) (by decide +kernel) (by decide) ?_
        exact sg_Wp.keepk [0, 1, 2, 3, 4, 5] rfl ((hhr3.2 q1))
set_option maxRecDepth 100000 in
theorem g_C_fraction_61_102 {d N : Nat} (hN : 75 ≤ N) {v3 v5 v7 v9 : Int} {G : SgM} {Q : Int → SgM → Prop} (h : (64 ≤ v9 → (sg_Wp 0 N (d + 1) m_C_fraction 143 [(3, 0, v3), (5, 1, v5), (7, 1, v7)] [] G Q)) ∧ (¬ (64 ≤ v9) → (((sg_lcmp v7 1) ≤ 0 → (sg_Wp 0 N (d + 1) m_C_fraction 143 [(3, 0, v3), (5, 1, v5), (7, 1, v7)] [] G Q)) ∧ (¬ ((sg_lcmp v7 1) ≤ 0) → (((sg_lcmp (sg_land v5 1) 0) ≠ 0 → (sg_Wp 0 N (d + 1) m_C_fraction 143 [(3, 0, v3), (5, 1, v5), (7, 1, v7)] [] G Q)) ∧ (¬ ((sg_lcmp (sg_land v5 1) 0) ≠ 0) → (sg_Wp 0 N (d + 1) m_C_fraction 102 [(3, 0, v3), (5, 1, sg_lshr v5 1), (7, 1, sg_lshr v7 1), (9, 0, sg_iadd v9 1)] [] G Q))))))) : sg_Wp 0 N (d + 1) m_C_fraction 102 [(3, 0, v3), (5, 1, v5), (7, 1, v7), (9, 0, v9)] [] G Q := by
  refine sg_blk [(4, 0, 0, 9, 0), (8, 64, 0, 0, 0)] (by decide +kernel) ?_
  refine And.intro rfl (And.intro rfl (And.intro rfl (?_)))
  show sg_Wp 0 N (d + 1) m_C_fraction 106 [(3, 0, v3), (5, 1, v5), (7, 1, v7), (9, 0, v9)] [(0, 64), (0, v9)] G Q
  refine sg_icmp_ge (off := 37) (tgt := 143) (by decide +kernel) (by decide) ⟨fun q6 => ?_, fun q6 => ?_⟩
  · exact sg_Wp.keepk [0, 1, 2] rfl ((h.1 q6))
  · refine sg_blk [(6, 0, 0, 7, 0), (10, 0, 0, 1, 0), (52, 0, 0, 0, 0)] (by decide +kernel) ?_
    refine And.intro rfl (?_)
    show sg_Wp 0 N (d + 1) m_C_fraction 113 [(3, 0, v3), (5, 1, v5), (7, 1, v7), (9, 0, v9)] [(0, sg_lcmp v7 1)] G Q
    refine sg_if_le (off := 30) (tgt := 143) (by decide +kernel) (by decide) ⟨fun q5 => ?_, fun q5 => ?_⟩
    · exact sg_Wp.keepk [0, 1, 2] rfl (((h.2 q6).1 q5))
    · refine sg_blk [(6, 0, 0, 5, 0), (10, 0, 0, 1, 0), (49, 0, 0, 0, 0), (10, 0, 0, 0, 0), (52, 0, 0, 0, 0)] (by decide +kernel) ?_
      refine And.intro rfl (?_)
      show sg_Wp 0 N (d + 1) m_C_fraction 122 [(3, 0, v3), (5, 1, v5), (7, 1, v7), (9, 0, v9)] [(0, sg_lcmp (sg_land v5 1) 0)] G Q
      refine sg_if_ne (off := 21) (tgt := 143) (by decide +kernel) (by decide) ⟨fun q4 => ?_, fun q4 => ?_⟩
      · exact sg_Wp.keepk [0, 1, 2] rfl ((((h.2 q6).2 q5).1 q4))
      · refine sg_blk [(6, 0, 0, 5, 0), (7, 1, 0, 0, 0), (51, 0, 0, 0, 0), (28, 0, 0, 5, 0), (6, 0, 0, 7, 0), (7, 1, 0, 0, 0), (51, 0, 0, 0, 0), (28, 0, 0, 7, 0), (31, 1, 0, 9, 0)] (by decide +kernel) ?_
        refine And.intro rfl (And.intro rfl (And.intro rfl (And.intro rfl (And.intro rfl (And.intro rfl (And.intro rfl (?_)))))))
        show sg_Wp 0 N (d + 1) m_C_fraction 140 [(3, 0, v3), (5, 1, sg_lshr v5 1), (7, 1, sg_lshr v7 1), (9, 0, sg_iadd v9 1)] [] G Q
        refine sg_goto (off := -38) (tgt := 102) (by decide +kernel) (by decide) ?_
        exact (((h.2 q6).2 q5).2 q4)
set_option maxRecDepth 100000 in
theorem g_C_fraction_61_143 {d N : Nat} (hN : 75 ≤ N) {v3 v5 v7 : Int} {G : SgM} {Q : Int → SgM → Prop} (h : (v3 ≠ 0 → (Q v7 G)) ∧ (¬ (v3 ≠ 0) → (Q v5 G))) : sg_Wp 0 N (d + 1) m_C_fraction 143 [(3, 0, v3), (5, 1, v5), (7, 1, v7)] [] G Q := by
  refine sg_blk [(3, 0, 0, 3, 0)] (by decide +kernel) ?_
  refine And.intro rfl (?_)
  show sg_Wp 0 N (d + 1) m_C_fraction 144 [(3, 0, v3), (5, 1, v5), (7, 1, v7)] [(0, v3)] G Q
  refine sg_if_ne (off := 8) (tgt := 152) (by decide +kernel) (by decide) ⟨fun q7 => ?_, fun q7 => ?_⟩
  · refine sg_blk [(6, 0, 0, 7, 0)] (by decide +kernel) ?_
    refine And.intro rfl (?_)
    show sg_Wp 0 N (d + 1) m_C_fraction 154 [(3, 0, v3), (5, 1, v5), (7, 1, v7)] [(1, v7)] G Q
    exact sg_lret (by decide +kernel) rfl ((h.1 q7))
  · refine sg_blk [(6, 0, 0, 5, 0)] (by decide +kernel) ?_
    refine And.intro rfl (?_)
    show sg_Wp 0 N (d + 1) m_C_fraction 149 [(3, 0, v3), (5, 1, v5), (7, 1, v7)] [(1, v5)] G Q
    refine sg_goto (off := 5) (tgt := 154) (by decide +kernel) (by decide) ?_
    exact sg_lret (by decide +kernel) rfl ((h.2 q7))
set_option maxRecDepth 100000 in
theorem g_C_weigh_61_0 {d N : Nat} (hN : 75 ≤ N) {v1 v2 : Int} {G : SgM} {Q : Int → SgM → Prop} (h : sg_Wp 0 N d m_C_weigh 2 [(0, 2, 61), (1, 0, v1), (2, 0, v2), (3, 0, 0)] [] G Q) : sg_Wp 0 N d m_C_weigh 0 [(0, 2, 61), (1, 0, v1), (2, 0, v2)] [] G Q := by
  refine sg_blk [(7, 0, 0, 0, 0), (25, 0, 0, 3, 0)] (by decide +kernel) ?_
  refine And.intro rfl (And.intro rfl (?_))
  show sg_Wp 0 N d m_C_weigh 2 [(0, 2, 61), (1, 0, v1), (2, 0, v2), (3, 0, 0)] [] G Q
  exact h
set_option maxRecDepth 100000 in
theorem g_C_weigh_61_2 {d N : Nat} (hN : 75 ≤ N) {v1 v2 v3 : Int} {G : SgM} {Q : Int → SgM → Prop} (h : (v2 < v3 → (Q 0 G)) ∧ (¬ (v2 < v3) → ((9 ≤ v3 → (Q 0 G)) ∧ (¬ (9 ≤ v3) → (sg_Wp 0 N d m_C_weigh 22 [(0, 2, 61), (1, 0, v1), (2, 0, v2), (3, 0, v3), (4, 1, 1), (6, 0, 0)] [] G Q))))) : sg_Wp 0 N d m_C_weigh 2 [(0, 2, 61), (1, 0, v1), (2, 0, v2), (3, 0, v3)] [] G Q := by
  refine sg_blk [(3, 0, 0, 3, 0), (3, 0, 0, 2, 0)] (by decide +kernel) ?_
  refine And.intro rfl (And.intro rfl (?_))
  show sg_Wp 0 N d m_C_weigh 4 [(0, 2, 61), (1, 0, v1), (2, 0, v2), (3, 0, v3)] [(0, v2), (0, v3)] G Q
  refine sg_icmp_gt (off := 65) (tgt := 69) (by decide +kernel) (by decide) ⟨fun q2 => ?_, fun q2 => ?_⟩
  · exact sg_vret (by decide +kernel) rfl ((h.1 q2))
  · refine sg_blk [(3, 0, 0, 3, 0), (1, 0, 0, 0, 0), (65, 62, 0, 18, 2), (24, 9, 0, 0, 0)] (by decide +kernel) ?_
    refine And.intro rfl (And.intro (Nat.le_of_ble_eq_true rfl) (And.intro (ce_61 hN) (And.intro rr_61_2 (And.intro (And.intro (Or.inr (ce_62 hN)) (by decide)) (?_)))))
    show sg_Wp 0 N d m_C_weigh 13 [(0, 2, 61), (1, 0, v1), (2, 0, v2), (3, 0, v3)] [(0, 9), (0, v3)] G Q
    refine sg_icmp_ge (off := 56) (tgt := 69) (by decide +kernel) (by decide) ⟨fun q1 => ?_, fun q1 => ?_⟩
    · exact sg_vret (by decide +kernel) rfl (((h.2 q2).1 q1))
    · refine sg_blk [(10, 0, 0, 1, 0), (28, 0, 0, 4, 0), (7, 0, 0, 0, 0), (26, 0, 0, 6, 0)] (by decide +kernel) ?_
      refine And.intro rfl (And.intro rfl (And.intro rfl (?_)))
      show sg_Wp 0 N d m_C_weigh 22 [(0, 2, 61), (1, 0, v1), (2, 0, v2), (3, 0, v3), (4, 1, 1), (6, 0, 0)] [] G Q
      exact ((h.2 q2).2 q1)
set_option maxRecDepth 100000 in
theorem g_C_weigh_61_22 {d N : Nat} (hN : 75 ≤ N) {v1 v2 v3 v4 v6 : Int} {G : SgM} {Q : Int → SgM → Prop} (h : (v2 ≤ v6 → ((0 ≤ v3 ∧ v3 < 9) ∧ (sg_Wp 0 N d m_C_weigh 2 [(0, 2, 61), (1, 0, v1), (2, 0, v2), (3, 0, sg_iadd v3 1)] [] (sg_up G 62 v3 v4) Q))) ∧ (¬ (v2 ≤ v6) → ((v3 ≤ v6 → (sg_Wp 0 N d m_C_weigh 22 [(0, 2, 61), (1, 0, v1), (2, 0, v2), (3, 0, v3), (4, 1, sg_lmul v4 (sg_isub 16 v1)), (6, 0, sg_iadd v6 1)] [] G Q)) ∧ (¬ (v3 ≤ v6) → (sg_Wp 0 N d m_C_weigh 22 [(0, 2, 61), (1, 0, v1), (2, 0, v2), (3, 0, v3), (4, 1, sg_lmul v4 v1), (6, 0, sg_iadd v6 1)] [] G Q))))) : sg_Wp 0 N d m_C_weigh 22 [(0, 2, 61), (1, 0, v1), (2, 0, v2), (3, 0, v3), (4, 1, v4), (6, 0, v6)] [] G Q := by
  refine sg_blk [(4, 0, 0, 6, 0), (3, 0, 0, 2, 0)] (by decide +kernel) ?_
  refine And.intro rfl (And.intro rfl (?_))
  show sg_Wp 0 N d m_C_weigh 25 [(0, 2, 61), (1, 0, v1), (2, 0, v2), (3, 0, v3), (4, 1, v4), (6, 0, v6)] [(0, v2), (0, v6)] G Q
  refine sg_icmp_ge (off := 30) (tgt := 55) (by decide +kernel) (by decide) ⟨fun q4 => ?_, fun q4 => ?_⟩
  · refine sg_blk [(1, 0, 0, 0, 0), (65, 62, 0, 18, 2), (3, 0, 0, 3, 0), (6, 0, 0, 4, 0), (22, 9, 0, 0, 0), (31, 1, 0, 3, 0)] (by decide +kernel) ?_
    refine And.intro (Nat.le_of_ble_eq_true rfl) (And.intro (ce_61 hN) (And.intro rr_61_2 (And.intro rfl (And.intro rfl (And.intro (ce_62 hN) (And.intro (h.1 q4).1 (And.intro rfl (?_))))))))
    show sg_Wp 0 N d m_C_weigh 66 [(0, 2, 61), (1, 0, v1), (2, 0, v2), (3, 0, sg_iadd v3 1), (4, 1, v4), (6, 0, v6)] [] (sg_up G 62 v3 v4) Q
    refine sg_goto (off := -64) (tgt := 2) (by decide +kernel) (by decide) ?_
    exact sg_Wp.keepk [0, 1, 2, 3] rfl ((h.1 q4).2)
  · refine sg_blk [(6, 0, 0, 4, 0), (4, 0, 0, 6, 0), (3, 0, 0, 3, 0)] (by decide +kernel) ?_
    refine And.intro rfl (And.intro rfl (And.intro rfl (?_)))
    show sg_Wp 0 N d m_C_weigh 33 [(0, 2, 61), (1, 0, v1), (2, 0, v2), (3, 0, v3), (4, 1, v4), (6, 0, v6)] [(0, v3), (0, v6), (1, v4)] G Q
    refine sg_icmp_ge (off := 8) (tgt := 41) (by decide +kernel) (by decide) ⟨fun q3 => ?_, fun q3 => ?_⟩
    · refine sg_blk [(8, 16, 0, 0, 0), (3, 0, 0, 1, 0), (33, 0, 0, 0, 0), (53, 0, 0, 0, 0), (46, 0, 0, 0, 0), (28, 0, 0, 4, 0), (31, 1, 0, 6, 0)] (by decide +kernel) ?_
      refine And.intro rfl (And.intro rfl (And.intro rfl (And.intro rfl (And.intro rfl (?_)))))
      show sg_Wp 0 N d m_C_weigh 52 [(0, 2, 61), (1, 0, v1), (2, 0, v2), (3, 0, v3), (4, 1, sg_lmul v4 (sg_isub 16 v1)), (6, 0, sg_iadd v6 1)] [] G Q
      refine sg_goto (off := -30) (tgt := 22) (by decide +kernel) (by decide) ?_
      exact ((h.2 q4).1 q3)
    · refine sg_blk [(3, 0, 0, 1, 0), (53, 0, 0, 0, 0)] (by decide +kernel) ?_
      refine And.intro rfl (?_)
      show sg_Wp 0 N d m_C_weigh 38 [(0, 2, 61), (1, 0, v1), (2, 0, v2), (3, 0, v3), (4, 1, v4), (6, 0, v6)] [(1, v1), (1, v4)] G Q
      refine sg_goto (off := 8) (tgt := 46) (by decide +kernel) (by decide) ?_
      refine sg_blk [(46, 0, 0, 0, 0), (28, 0, 0, 4, 0), (31, 1, 0, 6, 0)] (by decide +kernel) ?_
      refine And.intro rfl (And.intro rfl (?_))
      show sg_Wp 0 N d m_C_weigh 52 [(0, 2, 61), (1, 0, v1), (2, 0, v2), (3, 0, v3), (4, 1, sg_lmul v4 v1), (6, 0, sg_iadd v6 1)] [] G Q
      refine sg_goto (off := -30) (tgt := 22) (by decide +kernel) (by decide) ?_
      exact ((h.2 q4).2 q3)
set_option maxRecDepth 100000 in
theorem g_C_dayByLots_61_0 {d N : Nat} (hN : 75 ≤ N) {v1 v2 : Int} {G : SgM} {Q : Int → SgM → Prop} (h : sg_Wp 0 N (d + 1) m_C_dayByLots 15 [(0, 2, 61), (2, 0, v2), (3, 0, 0)] [] (sg_up (sg_up G 61 3 v1) 63 0 0) Q) : sg_Wp 0 N (d + 1) m_C_dayByLots 0 [(0, 2, 61), (1, 0, v1), (2, 0, v2)] [] G Q := by
  refine sg_blk [(1, 0, 0, 0, 0), (3, 0, 0, 1, 0), (16, 0, 0, 55, 3), (1, 0, 0, 0, 0), (65, 63, 0, 12, 1), (7, 0, 0, 0, 0), (16, 0, 2, 31, 0), (7, 0, 0, 0, 0), (25, 0, 0, 3, 0)] (by decide +kernel) ?_
  refine And.intro (Nat.le_of_ble_eq_true rfl) (And.intro rfl (And.intro (ce_61 hN) (And.intro (Nat.le_of_ble_eq_true rfl) (And.intro (ce_61 hN) (And.intro rr_61_1 (And.intro rfl (And.intro (ce_63 hN) (And.intro rfl (And.intro rfl (?_))))))))))
  show sg_Wp 0 N (d + 1) m_C_dayByLots 15 [(0, 2, 61), (1, 0, v1), (2, 0, v2), (3, 0, 0)] [] (sg_up (sg_up G 61 3 v1) 63 0 0) Q
  exact sg_Wp.keepk [0, 2, 3] rfl h
set_option maxRecDepth 100000 in
theorem g_C_dayByLots_61_15 {d N : Nat} (hN : 75 ≤ N) {v2 v3 : Int} {G : SgM} {Q : Int → SgM → Prop} (h : (v2 ≤ v3 → (sg_Wp 0 N d m_E_everyBit 0 [(0, 2, 63)] [] G (fun r1 G1 => sg_Wp 0 N d m_K_supposeEvents 0 [(0, 2, 0), (1, 2, 63), (2, 0, r1)] [] G1 (fun r2 G2 => Q 32 G2)))) ∧ (¬ (v2 ≤ v3) → (sg_Wp 0 N d m_C_lotOf 0 [(0, 2, 61), (1, 0, 3)] [] G (fun r3 G3 => sg_Wp 0 N d m_C_lotOf 0 [(0, 2, 61), (1, 0, 24)] [] G3 (fun r4 G4 => sg_Wp 0 N d m_C_lotOf 0 [(0, 2, 61), (1, 0, 10)] [] G4 (fun r5 G5 => sg_Wp 0 N d m_E_add 0 [(0, 2, 63), (1, 0, r3), (2, 0, r4), (3, 0, r5)] [] G5 (fun r6 G6 => sg_Wp 0 N (d + 1) m_C_dayByLots 15 [(0, 2, 61), (2, 0, v2), (3, 0, sg_iadd v3 1)] [] G6 Q))))))) : sg_Wp 0 N (d + 1) m_C_dayByLots 15 [(0, 2, 61), (2, 0, v2), (3, 0, v3)] [] G Q := by
  refine sg_blk [(3, 0, 0, 3, 0), (3, 0, 0, 2, 0)] (by decide +kernel) ?_
  refine And.intro rfl (And.intro rfl (?_))
  show sg_Wp 0 N (d + 1) m_C_dayByLots 17 [(0, 2, 61), (2, 0, v2), (3, 0, v3)] [(0, v2), (0, v3)] G Q
  refine sg_icmp_ge (off := 46) (tgt := 63) (by decide +kernel) (by decide) ⟨fun q1 => ?_, fun q1 => ?_⟩
  · refine sg_blk [(1, 0, 0, 0, 0), (65, 0, 0, 22, 0), (1, 0, 0, 0, 0), (65, 63, 0, 12, 1), (1, 0, 0, 0, 0), (65, 63, 0, 12, 1)] (by decide +kernel) ?_
    refine And.intro (Nat.le_of_ble_eq_true rfl) (And.intro (ce_61 hN) (And.intro rr_61_0 (And.intro (Nat.le_of_ble_eq_true rfl) (And.intro (ce_61 hN) (And.intro rr_61_1 (And.intro (Nat.le_of_ble_eq_true rfl) (And.intro (ce_61 hN) (And.intro rr_61_1 (?_)))))))))
    show sg_Wp 0 N (d + 1) m_C_dayByLots 75 [(0, 2, 61), (2, 0, v2), (3, 0, v3)] [(2, 63), (2, 63), (2, 0)] G Q
    refine sg_callV (k := d) (y' := m_E_everyBit) (av := []) (rest := [(2, 63), (2, 0)]) (b := 63) (by decide +kernel) cv_E_everyBit ml_0_38 (ce_63 hN) rfl rfl (Nat.le_of_ble_eq_true rfl) (Nat.lt_succ_self d) (Nat.le_of_ble_eq_true rfl) rfl ?_
    show sg_Wp 0 N d m_E_everyBit 0 [(0, 2, 63)] [] G _
    refine sg_Wp.mono ((h.1 q1)) (fun r1 G1 hhr1 => ?_)
    show sg_Wp 0 N (d + 1) m_C_dayByLots 78 [(0, 2, 61), (2, 0, v2), (3, 0, v3)] [(0, r1), (2, 63), (2, 0)] G1 Q
    refine sg_callV (k := d) (y' := m_K_supposeEvents) (av := [(2, 63), (0, r1)]) (rest := []) (b := 0) (by decide +kernel) cv_K_supposeEvents ml_0_65 (ce_0 (Nat.le_trans (by decide) hN)) rfl rfl (Nat.le_of_ble_eq_true rfl) (Nat.lt_succ_self d) (Nat.le_of_ble_eq_true rfl) rfl ?_
    show sg_Wp 0 N d m_K_supposeEvents 0 [(0, 2, 0), (1, 2, 63), (2, 0, r1)] [] G1 _
    refine sg_Wp.mono hhr1 (fun r2 G2 hhr2 => ?_)
    show sg_Wp 0 N (d + 1) m_C_dayByLots 81 [(0, 2, 61), (2, 0, v2), (3, 0, v3)] [] G2 Q
    refine sg_blk [(1, 0, 0, 0, 0), (65, 0, 0, 22, 0), (65, 32, 4, 69, 6)] (by decide +kernel) ?_
    refine And.intro (Nat.le_of_ble_eq_true rfl) (And.intro (ce_61 hN) (And.intro rr_61_0 (And.intro (ce_0 (Nat.le_trans (by decide) hN)) (And.intro rr_0_6 (?_)))))
    show sg_Wp 0 N (d + 1) m_C_dayByLots 88 [(0, 2, 61), (2, 0, v2), (3, 0, v3)] [(2, 32)] G2 Q
    exact sg_aret (by decide +kernel) rfl rfl hhr2
  · refine sg_blk [(1, 0, 0, 0, 0), (7, 3, 0, 0, 0)] (by decide +kernel) ?_
    refine And.intro (Nat.le_of_ble_eq_true rfl) (And.intro rfl (?_))
    show sg_Wp 0 N (d + 1) m_C_dayByLots 22 [(0, 2, 61), (2, 0, v2), (3, 0, v3)] [(0, 3), (2, 61)] G Q
    refine sg_callV (k := d) (y' := m_C_lotOf) (av := [(0, 3)]) (rest := []) (b := 61) (by decide +kernel) cv_C_lotOf ml_0_58 (ce_61 hN) rfl rfl (Nat.le_of_ble_eq_true rfl) (Nat.lt_succ_self d) (Nat.le_of_ble_eq_true rfl) rfl ?_
    show sg_Wp 0 N d m_C_lotOf 0 [(0, 2, 61), (1, 0, 3)] [] G _
    refine sg_Wp.mono ((h.2 q1)) (fun r3 G3 hhr3 => ?_)
    show sg_Wp 0 N (d + 1) m_C_dayByLots 25 [(0, 2, 61), (2, 0, v2), (3, 0, v3)] [(0, r3)] G3 Q
    refine sg_blk [(26, 0, 0, 4, 0), (1, 0, 0, 0, 0), (8, 24, 0, 0, 0)] (by decide +kernel) ?_
    refine And.intro rfl (And.intro (Nat.le_of_ble_eq_true rfl) (And.intro rfl (And.intro rfl (?_))))
    show sg_Wp 0 N (d + 1) m_C_dayByLots 30 [(0, 2, 61), (2, 0, v2), (3, 0, v3), (4, 0, r3)] [(0, 24), (2, 61)] G3 Q
    refine sg_callV (k := d) (y' := m_C_lotOf) (av := [(0, 24)]) (rest := []) (b := 61) (by decide +kernel) cv_C_lotOf ml_0_58 (ce_61 hN) rfl rfl (Nat.le_of_ble_eq_true rfl) (Nat.lt_succ_self d) (Nat.le_of_ble_eq_true rfl) rfl ?_
    show sg_Wp 0 N d m_C_lotOf 0 [(0, 2, 61), (1, 0, 24)] [] G3 _
    refine sg_Wp.mono hhr3 (fun r4 G4 hhr4 => ?_)
    show sg_Wp 0 N (d + 1) m_C_dayByLots 33 [(0, 2, 61), (2, 0, v2), (3, 0, v3), (4, 0, r3)] [(0, r4)] G4 Q
    refine sg_blk [(26, 0, 0, 5, 0), (1, 0, 0, 0, 0), (8, 10, 0, 0, 0)] (by decide +kernel) ?_
    refine And.intro rfl (And.intro (Nat.le_of_ble_eq_true rfl) (And.intro rfl (And.intro rfl (?_))))
    show sg_Wp 0 N (d + 1) m_C_dayByLots 38 [(0, 2, 61), (2, 0, v2), (3, 0, v3), (4, 0, r3), (5, 0, r4)] [(0, 10), (2, 61)] G4 Q
    refine sg_callV (k := d) (y' := m_C_lotOf) (av := [(0, 10)]) (rest := []) (b := 61) (by decide +kernel) cv_C_lotOf ml_0_58 (ce_61 hN) rfl rfl (Nat.le_of_ble_eq_true rfl) (Nat.lt_succ_self d) (Nat.le_of_ble_eq_true rfl) rfl ?_
    show sg_Wp 0 N d m_C_lotOf 0 [(0, 2, 61), (1, 0, 10)] [] G4 _
    refine sg_Wp.mono hhr4 (fun r5 G5 hhr5 => ?_)
    show sg_Wp 0 N (d + 1) m_C_dayByLots 41 [(0, 2, 61), (2, 0, v2), (3, 0, v3), (4, 0, r3), (5, 0, r4)] [(0, r5)] G5 Q
    refine sg_blk [(26, 0, 0, 6, 0), (1, 0, 0, 0, 0), (65, 63, 0, 12, 1), (4, 0, 0, 4, 0), (4, 0, 0, 5, 0), (4, 0, 0, 6, 0)] (by decide +kernel) ?_
    refine And.intro rfl (And.intro (Nat.le_of_ble_eq_true rfl) (And.intro (ce_61 hN) (And.intro rr_61_1 (And.intro rfl (And.intro rfl (And.intro rfl (?_)))))))
    show sg_Wp 0 N (d + 1) m_C_dayByLots 53 [(0, 2, 61), (2, 0, v2), (3, 0, v3), (4, 0, r3), (5, 0, r4), (6, 0, r5)] [(0, r5), (0, r4), (0, r3), (2, 63)] G5 Q
    refine sg_callV (k := d) (y' := m_E_add) (av := [(0, r3), (0, r4), (0, r5)]) (rest := []) (b := 63) (by decide +kernel) cv_E_add ml_0_61 (ce_63 hN) rfl rfl (Nat.le_of_ble_eq_true rfl) (Nat.lt_succ_self d) (Nat.le_of_ble_eq_true rfl) rfl ?_
    show sg_Wp 0 N d m_E_add 0 [(0, 2, 63), (1, 0, r3), (2, 0, r4), (3, 0, r5)] [] G5 _
    refine sg_Wp.mono hhr5 (fun r6 G6 hhr6 => ?_)
    show sg_Wp 0 N (d + 1) m_C_dayByLots 56 [(0, 2, 61), (2, 0, v2), (3, 0, v3), (4, 0, r3), (5, 0, r4), (6, 0, r5)] [(0, r6)] G6 Q
    refine sg_blk [(59, 0, 0, 0, 0), (31, 1, 0, 3, 0)] (by decide +kernel) ?_
    refine And.intro (Nat.ne_of_beq_eq_false rfl) (And.intro rfl (?_))
    show sg_Wp 0 N (d + 1) m_C_dayByLots 60 [(0, 2, 61), (2, 0, v2), (3, 0, sg_iadd v3 1), (4, 0, r3), (5, 0, r4), (6, 0, r5)] [] G6 Q
    refine sg_goto (off := -45) (tgt := 15) (by decide +kernel) (by decide) ?_
    exact sg_Wp.keepk [0, 1, 2] rfl hhr6
set_option maxRecDepth 100000 in
theorem g_C_lotOf_61_0 {d N : Nat} (hN : 75 ≤ N) {v1 : Int} {G : SgM} {Q : Int → SgM → Prop} (h : (v1 ≤ 0 → (Q 0 (sg_up G 61 3 (sg_iadd (sg_imul 1103515245 (G 61 3)) 12345)))) ∧ (¬ (v1 ≤ 0) → ((v1 ≠ 0) ∧ (Q (sg_irem (sg_iushr ((sg_up G 61 3 (sg_iadd (sg_imul 1103515245 (G 61 3)) 12345)) 61 3) 16) v1) (sg_up G 61 3 (sg_iadd (sg_imul 1103515245 (G 61 3)) 12345)))))) : sg_Wp 0 N d m_C_lotOf 0 [(0, 2, 61), (1, 0, v1)] [] G Q := by
  refine sg_blk [(1, 0, 0, 0, 0), (11, 1103515245, 0, 73, 0), (1, 0, 0, 0, 0), (15, 0, 0, 55, 3), (34, 0, 0, 0, 0), (9, 12345, 0, 0, 0), (32, 0, 0, 0, 0), (16, 0, 0, 55, 3), (3, 0, 0, 1, 0)] (by decide +kernel) ?_
  refine And.intro (Nat.le_of_ble_eq_true rfl) (And.intro rfl (And.intro (Nat.le_of_ble_eq_true rfl) (And.intro (ce_61 hN) (And.intro rfl (And.intro rfl (And.intro (ce_61 hN) (And.intro rfl (?_))))))))
  show sg_Wp 0 N d m_C_lotOf 16 [(0, 2, 61), (1, 0, v1)] [(0, v1)] (sg_up G 61 3 (sg_iadd (sg_imul 1103515245 (G 61 3)) 12345)) Q
  refine sg_if_le (off := 15) (tgt := 31) (by decide +kernel) (by decide) ⟨fun q1 => ?_, fun q1 => ?_⟩
  · refine sg_blk [(7, 0, 0, 0, 0)] (by decide +kernel) ?_
    refine And.intro rfl (?_)
    show sg_Wp 0 N d m_C_lotOf 32 [(0, 2, 61), (1, 0, v1)] [(0, 0)] (sg_up G 61 3 (sg_iadd (sg_imul 1103515245 (G 61 3)) 12345)) Q
    exact sg_ret (by decide +kernel) rfl (Or.inl rfl) ((h.1 q1))
  · refine sg_blk [(1, 0, 0, 0, 0), (15, 0, 0, 55, 3), (8, 16, 0, 0, 0), (43, 0, 0, 0, 0), (3, 0, 0, 1, 0), (36, 0, 0, 0, 0)] (by decide +kernel) ?_
    refine And.intro (Nat.le_of_ble_eq_true rfl) (And.intro (ce_61 hN) (And.intro rfl (And.intro rfl (And.intro rfl (And.intro (h.2 q1).1 (?_))))))
    show sg_Wp 0 N d m_C_lotOf 28 [(0, 2, 61), (1, 0, v1)] [(0, sg_irem (sg_iushr ((sg_up G 61 3 (sg_iadd (sg_imul 1103515245 (G 61 3)) 12345)) 61 3) 16) v1)] (sg_up G 61 3 (sg_iadd (sg_imul 1103515245 (G 61 3)) 12345)) Q
    refine sg_goto (off := 4) (tgt := 32) (by decide +kernel) (by decide) ?_
    exact sg_ret (by decide +kernel) rfl (Or.inl rfl) ((h.2 q1).2)
