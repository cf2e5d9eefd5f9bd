/-! CUT LEMMAS, printed by a program -/
set_option maxRecDepth 100000 in
theorem g_T_add_1_0 {d N : Nat} (hN : 44 ≤ N) {v1 : Int} {G : SgM} {Q : Int → SgM → Prop} (h : ((G 1 3) < 23 → ((0 ≤ (G 1 3) ∧ (G 1 3) < 23) ∧ (Q ((sg_up (sg_up G 2 (G 1 3) v1) 1 3 (sg_iadd (G 1 3) 1)) 1 3) (sg_up (sg_up G 2 (G 1 3) v1) 1 3 (sg_iadd (G 1 3) 1))))) ∧ (¬ ((G 1 3) < 23) → (Q ((-4)) G))) : sg_Wp 0 N d m_T_add 0 [(0, 2, 1), (1, 0, v1)] [] G Q := by
  refine sg_blk [(1, 0, 0, 0, 0), (15, 0, 7, 23, 3), (1, 0, 0, 0, 0), (65, 2, 7, 19, 2), (24, 23, 0, 0, 0)] (by decide +kernel) ?_
  refine And.intro (Nat.le_of_ble_eq_true rfl) (And.intro (ce_1 hN) (And.intro (Nat.le_of_ble_eq_true rfl) (And.intro (ce_1 hN) (And.intro rr_1_2 (And.intro (And.intro (Or.inl (ce_2 hN)) (by decide)) (?_))))))
  show sg_Wp 0 N d m_T_add 9 [(0, 2, 1), (1, 0, v1)] [(0, 23), (0, G 1 3)] G Q
  refine sg_icmp_lt (off := 6) (tgt := 15) (by decide +kernel) (by decide) ⟨fun q1 => ?_, fun q1 => ?_⟩
  · refine sg_blk [(1, 0, 0, 0, 0), (65, 2, 7, 19, 2), (1, 0, 0, 0, 0), (15, 0, 7, 23, 3), (3, 0, 0, 1, 0), (18, 23, 0, 0, 0), (1, 0, 0, 0, 0), (57, 0, 0, 0, 0), (15, 0, 7, 23, 3), (7, 1, 0, 0, 0), (32, 0, 0, 0, 0), (16, 0, 7, 23, 3), (1, 0, 0, 0, 0), (15, 0, 7, 23, 3)] (by decide +kernel) ?_
    refine And.intro (Nat.le_of_ble_eq_true rfl) (And.intro (ce_1 hN) (And.intro rr_1_2 (And.intro (Nat.le_of_ble_eq_true rfl) (And.intro (ce_1 hN) (And.intro rfl (And.intro (ce_2 hN) (And.intro (h.1 q1).1 (And.intro (Nat.le_of_ble_eq_true rfl) (And.intro (Nat.ne_of_beq_eq_false rfl) (And.intro (ce_1 hN) (And.intro rfl (And.intro (ce_1 hN) (And.intro (Nat.le_of_ble_eq_true rfl) (And.intro (ce_1 hN) (?_)))))))))))))))
    show sg_Wp 0 N d m_T_add 39 [(0, 2, 1), (1, 0, v1)] [(0, (sg_up (sg_up G 2 (G 1 3) v1) 1 3 (sg_iadd (G 1 3) 1)) 1 3)] (sg_up (sg_up G 2 (G 1 3) v1) 1 3 (sg_iadd (G 1 3) 1)) Q
    exact sg_ret (by decide +kernel) rfl (Or.inl rfl) ((h.1 q1).2)
  · refine sg_blk [(8, (-4), 0, 0, 0)] (by decide +kernel) ?_
    refine And.intro rfl (And.intro rfl (?_))
    show sg_Wp 0 N d m_T_add 14 [(0, 2, 1), (1, 0, v1)] [(0, (-4))] G Q
    exact sg_ret (by decide +kernel) rfl (Or.inl rfl) ((h.2 q1))
set_option maxRecDepth 100000 in
theorem g_T_clear_1_0 {d N : Nat} (hN : 44 ≤ N) {G : SgM} {Q : Int → SgM → Prop} (h : Q (G 1 3) (sg_up G 1 3 0)) : sg_Wp 0 N d m_T_clear 0 [(0, 2, 1)] [] G Q := by
  refine sg_blk [(1, 0, 0, 0, 0), (15, 0, 7, 23, 3), (25, 0, 0, 1, 0), (1, 0, 0, 0, 0), (7, 0, 0, 0, 0), (16, 0, 7, 23, 3), (3, 0, 0, 1, 0)] (by decide +kernel) ?_
  refine And.intro (Nat.le_of_ble_eq_true rfl) (And.intro (ce_1 hN) (And.intro rfl (And.intro (Nat.le_of_ble_eq_true rfl) (And.intro rfl (And.intro (ce_1 hN) (And.intro rfl (?_)))))))
  show sg_Wp 0 N d m_T_clear 11 [(0, 2, 1), (1, 0, G 1 3)] [(0, G 1 3)] (sg_up G 1 3 0) Q
  exact sg_ret (by decide +kernel) rfl (Or.inl rfl) h
set_option maxRecDepth 100000 in
theorem g_T_dropLast_1_0 {d N : Nat} (hN : 44 ≤ N) {G : SgM} {Q : Int → SgM → Prop} (h : ((G 1 3) ≠ 0 → (Q ((sg_up G 1 3 (sg_isub (G 1 3) 1)) 1 3) (sg_up G 1 3 (sg_isub (G 1 3) 1)))) ∧ (¬ ((G 1 3) ≠ 0) → (Q ((-3)) G))) : sg_Wp 0 N d m_T_dropLast 0 [(0, 2, 1)] [] G Q := by
  refine sg_blk [(1, 0, 0, 0, 0), (15, 0, 7, 23, 3)] (by decide +kernel) ?_
  refine And.intro (Nat.le_of_ble_eq_true rfl) (And.intro (ce_1 hN) (?_))
  show sg_Wp 0 N d m_T_dropLast 4 [(0, 2, 1)] [(0, G 1 3)] G Q
  refine sg_if_ne (off := 6) (tgt := 10) (by decide +kernel) (by decide) ⟨fun q1 => ?_, fun q1 => ?_⟩
  · refine sg_blk [(1, 0, 0, 0, 0), (57, 0, 0, 0, 0), (15, 0, 7, 23, 3), (7, 1, 0, 0, 0), (33, 0, 0, 0, 0), (16, 0, 7, 23, 3), (1, 0, 0, 0, 0), (15, 0, 7, 23, 3)] (by decide +kernel) ?_
    refine And.intro (Nat.le_of_ble_eq_true rfl) (And.intro (Nat.ne_of_beq_eq_false rfl) (And.intro (ce_1 hN) (And.intro rfl (And.intro (ce_1 hN) (And.intro (Nat.le_of_ble_eq_true rfl) (And.intro (ce_1 hN) (?_)))))))
    show sg_Wp 0 N d m_T_dropLast 24 [(0, 2, 1)] [(0, (sg_up G 1 3 (sg_isub (G 1 3) 1)) 1 3)] (sg_up G 1 3 (sg_isub (G 1 3) 1)) Q
    exact sg_ret (by decide +kernel) rfl (Or.inl rfl) ((h.1 q1))
  · refine sg_blk [(8, (-3), 0, 0, 0)] (by decide +kernel) ?_
    refine And.intro rfl (And.intro rfl (?_))
    show sg_Wp 0 N d m_T_dropLast 9 [(0, 2, 1)] [(0, (-3))] G Q
    exact sg_ret (by decide +kernel) rfl (Or.inl rfl) ((h.2 q1))
set_option maxRecDepth 100000 in
theorem g_T_firstFault_1_0 {d N : Nat} (hN : 44 ≤ N) {G : SgM} {Q : Int → SgM → Prop} (h : sg_Wp 0 N (d + 4) m_T_firstFault 4 [(0, 2, 1), (1, 0, 0), (2, 0, 0)] [] G Q) : sg_Wp 0 N (d + 4) m_T_firstFault 0 [(0, 2, 1)] [] G Q := by
  refine sg_blk [(7, 0, 0, 0, 0), (25, 0, 0, 1, 0), (7, 0, 0, 0, 0), (25, 0, 0, 2, 0)] (by decide +kernel) ?_
  refine And.intro rfl (And.intro rfl (And.intro rfl (And.intro rfl (?_))))
  show sg_Wp 0 N (d + 4) m_T_firstFault 4 [(0, 2, 1), (1, 0, 0), (2, 0, 0)] [] G Q
  exact h
set_option maxRecDepth 100000 in
theorem g_T_firstFault_1_4 {d N : Nat} (hN : 44 ≤ N) {v1 v2 : Int} {G : SgM} {Q : Int → SgM → Prop} (h : ((G 1 3) ≤ v2 → (((G 1 3) = 0 → (Q ((-1)) G)) ∧ (¬ ((G 1 3) = 0) → ((v1 ≠ (sg_isub (G 1 1) 1) → (Q (G 1 3) G)) ∧ (¬ (v1 ≠ (sg_isub (G 1 1) 1)) → (Q ((-1)) G)))))) ∧ (¬ ((G 1 3) ≤ v2) → ((G 1 0 = 1) ∧ ((0 ≤ v2 ∧ v2 < 23) ∧ ((0 ≤ (sg_sgP v1) ∧ (sg_sgP v1) < 6) ∧ ((0 ≤ (sg_sgP v1) ∧ (sg_sgP v1) < 6) ∧ ((0 ≤ (sg_ix (sg_sgP v1) (sg_i2c (G 2 v2))) → (((G 1 1) ≤ (sg_iadd v1 1) → (sg_Wp 0 N (d + 4) m_T_firstFault 4 [(0, 2, 1), (1, 0, 0), (2, 0, sg_iadd v2 1)] [] G Q)) ∧ (¬ ((G 1 1) ≤ (sg_iadd v1 1)) → (sg_Wp 0 N (d + 4) m_T_firstFault 4 [(0, 2, 1), (1, 0, sg_iadd v1 1), (2, 0, sg_iadd v2 1)] [] G Q)))) ∧ (¬ (0 ≤ (sg_ix (sg_sgP v1) (sg_i2c (G 2 v2)))) → (Q v2 G))))))))) : sg_Wp 0 N (d + 4) m_T_firstFault 4 [(0, 2, 1), (1, 0, v1), (2, 0, v2)] [] G Q := by
  refine sg_blk [(3, 0, 0, 2, 0), (1, 0, 0, 0, 0), (15, 0, 7, 23, 3)] (by decide +kernel) ?_
  refine And.intro rfl (And.intro (Nat.le_of_ble_eq_true rfl) (And.intro (ce_1 hN) (?_)))
  show sg_Wp 0 N (d + 4) m_T_firstFault 9 [(0, 2, 1), (1, 0, v1), (2, 0, v2)] [(0, G 1 3), (0, v2)] G Q
  refine sg_icmp_ge (off := 47) (tgt := 56) (by decide +kernel) (by decide) ⟨fun q5 => ?_, fun q5 => ?_⟩
  · refine sg_blk [(1, 0, 0, 0, 0), (15, 0, 7, 23, 3)] (by decide +kernel) ?_
    refine And.intro (Nat.le_of_ble_eq_true rfl) (And.intro (ce_1 hN) (?_))
    show sg_Wp 0 N (d + 4) m_T_firstFault 60 [(0, 2, 1), (1, 0, v1), (2, 0, v2)] [(0, G 1 3)] G Q
    refine sg_if_eq (off := 13) (tgt := 73) (by decide +kernel) (by decide) ⟨fun q2 => ?_, fun q2 => ?_⟩
    · refine sg_blk [(7, (-1), 0, 0, 0)] (by decide +kernel) ?_
      refine And.intro rfl (?_)
      show sg_Wp 0 N (d + 4) m_T_firstFault 74 [(0, 2, 1), (1, 0, v1), (2, 0, v2)] [(0, (-1))] G Q
      refine sg_goto (off := 7) (tgt := 81) (by decide +kernel) (by decide) ?_
      exact sg_ret (by decide +kernel) rfl (Or.inl rfl) (((h.1 q5).1 q2))
    · refine sg_blk [(3, 0, 0, 1, 0), (1, 0, 0, 0, 0), (15, 0, 7, 15, 1), (7, 1, 0, 0, 0), (33, 0, 0, 0, 0)] (by decide +kernel) ?_
      refine And.intro rfl (And.intro (Nat.le_of_ble_eq_true rfl) (And.intro (ce_1 hN) (And.intro rfl (?_))))
      show sg_Wp 0 N (d + 4) m_T_firstFault 70 [(0, 2, 1), (1, 0, v1), (2, 0, v2)] [(0, sg_isub (G 1 1) 1), (0, v1)] G Q
      refine sg_icmp_ne (off := 7) (tgt := 77) (by decide +kernel) (by decide) ⟨fun q1 => ?_, fun q1 => ?_⟩
      · refine sg_blk [(1, 0, 0, 0, 0), (15, 0, 7, 23, 3)] (by decide +kernel) ?_
        refine And.intro (Nat.le_of_ble_eq_true rfl) (And.intro (ce_1 hN) (?_))
        show sg_Wp 0 N (d + 4) m_T_firstFault 81 [(0, 2, 1), (1, 0, v1), (2, 0, v2)] [(0, G 1 3)] G Q
        exact sg_ret (by decide +kernel) rfl (Or.inl rfl) ((((h.1 q5).2 q2).1 q1))
      · refine sg_blk [(7, (-1), 0, 0, 0)] (by decide +kernel) ?_
        refine And.intro rfl (?_)
        show sg_Wp 0 N (d + 4) m_T_firstFault 74 [(0, 2, 1), (1, 0, v1), (2, 0, v2)] [(0, (-1))] G Q
        refine sg_goto (off := 7) (tgt := 81) (by decide +kernel) (by decide) ?_
        exact sg_ret (by decide +kernel) rfl (Or.inl rfl) ((((h.1 q5).2 q2).2 q1))
  · refine sg_blk [(1, 0, 0, 0, 0), (3, 0, 0, 1, 0)] (by decide +kernel) ?_
    refine And.intro (Nat.le_of_ble_eq_true rfl) (And.intro rfl (?_))
    show sg_Wp 0 N (d + 4) m_T_firstFault 14 [(0, 2, 1), (1, 0, v1), (2, 0, v2)] [(0, v1), (2, 1)] G Q
    refine sg_callV (k := (d + 3)) (y' := m_T_signs) (av := [(0, v1)]) (rest := []) (b := 1) (by decide +kernel) cv_T_signs ml_7_26 (ce_1 hN) rfl rfl (Nat.le_of_ble_eq_true rfl) (Nat.lt_succ_self (d + 3)) (Nat.le_of_ble_eq_true rfl) rfl ?_
    show sg_Wp 0 N (d + 3) m_T_signs 0 [(0, 2, 1), (1, 0, v1)] [] G _
    refine s_T_signs_1 hN (h.2 q5).1 ?_
    show sg_Wp 0 N (d + 4) m_T_firstFault 17 [(0, 2, 1), (1, 0, v1), (2, 0, v2)] [(3, sg_sgP v1)] G Q
    refine sg_blk [(1, 0, 0, 0, 0), (65, 2, 7, 19, 2), (3, 0, 0, 2, 0), (17, 23, 0, 0, 0), (56, 0, 0, 0, 0)] (by decide +kernel) ?_
    refine And.intro (Nat.le_of_ble_eq_true rfl) (And.intro (ce_1 hN) (And.intro rr_1_2 (And.intro rfl (And.intro (ce_2 hN) (And.intro (h.2 q5).2.1 (?_))))))
    show sg_Wp 0 N (d + 4) m_T_firstFault 24 [(0, 2, 1), (1, 0, v1), (2, 0, v2)] [(0, sg_i2c (G 2 v2)), (3, sg_sgP v1)] G Q
    refine sg_callT (k := (d + 3)) (y' := m_S_indexOf1) (av := [(0, sg_i2c (G 2 v2))]) (rest := []) (b := sg_sgP v1) (by decide +kernel) cv_S_indexOf1 ml_7_30 (h.2 q5).2.2.1 rfl rfl (Nat.le_of_ble_eq_true rfl) (Nat.lt_succ_self (d + 3)) (Nat.le_of_ble_eq_true rfl) rfl ?_
    show sg_Wp 0 N (d + 3) m_S_indexOf1 0 [(0, 3, sg_sgP v1), (1, 0, sg_i2c (G 2 v2))] [] G _
    refine s_S_indexOf1 (h.2 q5).2.2.2.1 ?_
    show sg_Wp 0 N (d + 4) m_T_firstFault 27 [(0, 2, 1), (1, 0, v1), (2, 0, v2)] [(0, sg_ix (sg_sgP v1) (sg_i2c (G 2 v2)))] G Q
    refine sg_if_ge (off := 5) (tgt := 32) (by decide +kernel) (by decide) ⟨fun q4 => ?_, fun q4 => ?_⟩
    · refine sg_blk [(3, 0, 0, 1, 0), (7, 1, 0, 0, 0), (32, 0, 0, 0, 0), (1, 0, 0, 0, 0), (15, 0, 7, 15, 1)] (by decide +kernel) ?_
      refine And.intro rfl (And.intro rfl (And.intro (Nat.le_of_ble_eq_true rfl) (And.intro (ce_1 hN) (?_))))
      show sg_Wp 0 N (d + 4) m_T_firstFault 39 [(0, 2, 1), (1, 0, v1), (2, 0, v2)] [(0, G 1 1), (0, sg_iadd v1 1)] G Q
      refine sg_icmp_ge (off := 9) (tgt := 48) (by decide +kernel) (by decide) ⟨fun q3 => ?_, fun q3 => ?_⟩
      · refine sg_blk [(7, 0, 0, 0, 0), (25, 0, 0, 1, 0), (31, 1, 0, 2, 0)] (by decide +kernel) ?_
        refine And.intro rfl (And.intro rfl (And.intro rfl (?_)))
        show sg_Wp 0 N (d + 4) m_T_firstFault 53 [(0, 2, 1), (1, 0, 0), (2, 0, sg_iadd v2 1)] [] G Q
        refine sg_goto (off := -49) (tgt := 4) (by decide +kernel) (by decide) ?_
        exact (((h.2 q5).2.2.2.2.1 q4).1 q3)
      · refine sg_blk [(3, 0, 0, 1, 0), (7, 1, 0, 0, 0), (32, 0, 0, 0, 0)] (by decide +kernel) ?_
        refine And.intro rfl (And.intro rfl (?_))
        show sg_Wp 0 N (d + 4) m_T_firstFault 45 [(0, 2, 1), (1, 0, v1), (2, 0, v2)] [(0, sg_iadd v1 1)] G Q
        refine sg_goto (off := 4) (tgt := 49) (by decide +kernel) (by decide) ?_
        refine sg_blk [(25, 0, 0, 1, 0), (31, 1, 0, 2, 0)] (by decide +kernel) ?_
        refine And.intro rfl (And.intro rfl (?_))
        show sg_Wp 0 N (d + 4) m_T_firstFault 53 [(0, 2, 1), (1, 0, sg_iadd v1 1), (2, 0, sg_iadd v2 1)] [] G Q
        refine sg_goto (off := -49) (tgt := 4) (by decide +kernel) (by decide) ?_
        exact (((h.2 q5).2.2.2.2.1 q4).2 q3)
    · refine sg_blk [(3, 0, 0, 2, 0)] (by decide +kernel) ?_
      refine And.intro rfl (?_)
      show sg_Wp 0 N (d + 4) m_T_firstFault 31 [(0, 2, 1), (1, 0, v1), (2, 0, v2)] [(0, v2)] G Q
      exact sg_ret (by decide +kernel) rfl (Or.inl rfl) (((h.2 q5).2.2.2.2.2 q4))
set_option maxRecDepth 100000 in
theorem g_T_things_1_0 {d N : Nat} (hN : 44 ≤ N) {G : SgM} {Q : Int → SgM → Prop} (h : ((G 1 1) ≤ 0 → (Q 0 G)) ∧ (¬ ((G 1 1) ≤ 0) → (sg_Wp 0 N d m_T_firstFault 0 [(0, 2, 1)] [] G (fun r1 G1 => (r1 ≠ ((-1)) → (Q 0 G1)) ∧ (¬ (r1 ≠ ((-1))) → (((G1 1 1) ≠ 0) ∧ (Q (sg_idiv (sg_iadd (G1 1 3) 1) (G1 1 1)) G1))))))) : sg_Wp 0 N (d + 1) m_T_things 0 [(0, 2, 1)] [] G Q := by
  refine sg_blk [(1, 0, 0, 0, 0), (15, 0, 7, 15, 1)] (by decide +kernel) ?_
  refine And.intro (Nat.le_of_ble_eq_true rfl) (And.intro (ce_1 hN) (?_))
  show sg_Wp 0 N (d + 1) m_T_things 4 [(0, 2, 1)] [(0, G 1 1)] G Q
  refine sg_if_le (off := 25) (tgt := 29) (by decide +kernel) (by decide) ⟨fun q2 => ?_, fun q2 => ?_⟩
  · refine sg_blk [(7, 0, 0, 0, 0)] (by decide +kernel) ?_
    refine And.intro rfl (?_)
    show sg_Wp 0 N (d + 1) m_T_things 30 [(0, 2, 1)] [(0, 0)] G Q
    exact sg_ret (by decide +kernel) rfl (Or.inl rfl) ((h.1 q2))
  · refine sg_blk [(1, 0, 0, 0, 0)] (by decide +kernel) ?_
    refine And.intro (Nat.le_of_ble_eq_true rfl) (?_)
    show sg_Wp 0 N (d + 1) m_T_things 8 [(0, 2, 1)] [(2, 1)] G Q
    refine sg_callV (k := d) (y' := m_T_firstFault) (av := []) (rest := []) (b := 1) (by decide +kernel) cv_T_firstFault ml_7_36 (ce_1 hN) rfl rfl (Nat.le_of_ble_eq_true rfl) (Nat.lt_succ_self d) (Nat.le_of_ble_eq_true rfl) rfl ?_
    show sg_Wp 0 N d m_T_firstFault 0 [(0, 2, 1)] [] G _
    refine sg_Wp.mono ((h.2 q2)) (fun r1 G1 hhr1 => ?_)
    show sg_Wp 0 N (d + 1) m_T_things 11 [(0, 2, 1)] [(0, r1)] G1 Q
    refine sg_blk [(7, (-1), 0, 0, 0)] (by decide +kernel) ?_
    refine And.intro rfl (?_)
    show sg_Wp 0 N (d + 1) m_T_things 12 [(0, 2, 1)] [(0, (-1)), (0, r1)] G1 Q
    refine sg_icmp_ne (off := 17) (tgt := 29) (by decide +kernel) (by decide) ⟨fun q1 => ?_, fun q1 => ?_⟩
    · refine sg_blk [(7, 0, 0, 0, 0)] (by decide +kernel) ?_
      refine And.intro rfl (?_)
      show sg_Wp 0 N (d + 1) m_T_things 30 [(0, 2, 1)] [(0, 0)] G1 Q
      exact sg_ret (by decide +kernel) rfl (Or.inl rfl) ((hhr1.1 q1))
    · refine sg_blk [(1, 0, 0, 0, 0), (15, 0, 7, 23, 3), (7, 1, 0, 0, 0), (32, 0, 0, 0, 0), (1, 0, 0, 0, 0), (15, 0, 7, 15, 1), (35, 0, 0, 0, 0)] (by decide +kernel) ?_
      refine And.intro (Nat.le_of_ble_eq_true rfl) (And.intro (ce_1 hN) (And.intro rfl (And.intro (Nat.le_of_ble_eq_true rfl) (And.intro (ce_1 hN) (And.intro (hhr1.2 q1).1 (?_))))))
      show sg_Wp 0 N (d + 1) m_T_things 26 [(0, 2, 1)] [(0, sg_idiv (sg_iadd (G1 1 3) 1) (G1 1 1))] G1 Q
      refine sg_goto (off := 4) (tgt := 30) (by decide +kernel) (by decide) ?_
      exact sg_ret (by decide +kernel) rfl (Or.inl rfl) ((hhr1.2 q1).2)
set_option maxRecDepth 100000 in
theorem g_T_number_1_0 {d N : Nat} (hN : 44 ≤ N) {v1 v2 : Int} {G : SgM} {Q : Int → SgM → Prop} (h : ((0 ≤ (sg_iadd (sg_imul v1 (G 1 1)) v2) ∧ (sg_iadd (sg_imul v1 (G 1 1)) v2) < (G 1 3)) → ((G 1 0 = 1) ∧ ((0 ≤ (sg_iadd (sg_imul v1 (G 1 1)) v2) ∧ (sg_iadd (sg_imul v1 (G 1 1)) v2) < 23) ∧ ((0 ≤ (sg_sgP v2) ∧ (sg_sgP v2) < 6) ∧ ((0 ≤ (sg_sgP v2) ∧ (sg_sgP v2) < 6) ∧ (Q (sg_ix (sg_sgP v2) (sg_i2c (G 2 (sg_iadd (sg_imul v1 (G 1 1)) v2)))) G)))))) ∧ (¬ (0 ≤ (sg_iadd (sg_imul v1 (G 1 1)) v2) ∧ (sg_iadd (sg_imul v1 (G 1 1)) v2) < (G 1 3)) → (Q 0 G))) : sg_Wp 0 N (d + 4) m_T_number 0 [(0, 2, 1), (1, 0, v1), (2, 0, v2)] [] G Q := by
  refine sg_blk [(3, 0, 0, 1, 0), (1, 0, 0, 0, 0), (15, 0, 7, 15, 1), (34, 0, 0, 0, 0), (3, 0, 0, 2, 0), (32, 0, 0, 0, 0), (25, 0, 0, 3, 0), (3, 0, 0, 3, 0), (1, 0, 0, 0, 0), (15, 0, 7, 23, 3)] (by decide +kernel) ?_
  refine And.intro rfl (And.intro (Nat.le_of_ble_eq_true rfl) (And.intro (ce_1 hN) (And.intro rfl (And.intro rfl (And.intro rfl (And.intro (Nat.le_of_ble_eq_true rfl) (And.intro (ce_1 hN) (?_))))))))
  show sg_Wp 0 N (d + 4) m_T_number 14 [(0, 2, 1), (1, 0, v1), (2, 0, v2), (3, 0, sg_iadd (sg_imul v1 (G 1 1)) v2)] [(0, G 1 3), (0, sg_iadd (sg_imul v1 (G 1 1)) v2)] G Q
  refine sg_callN (k := (d + 3)) (y' := m_G_isBelow) (av := [(0, sg_iadd (sg_imul v1 (G 1 1)) v2), (0, G 1 3)]) (rest := []) (idx := 40) (by decide +kernel) cs_G_isBelow (List.mem_of_getElem? (i := 0) rfl) rfl (Nat.le_of_ble_eq_true rfl) (Nat.lt_succ_self (d + 3)) (Nat.le_of_ble_eq_true rfl) rfl ?_
  show sg_Wp 0 N (d + 3) m_G_isBelow 0 [(0, 0, sg_iadd (sg_imul v1 (G 1 1)) v2), (1, 0, G 1 3)] [] G _
  refine s_G_isBelow ?_
  show sg_Wp 0 N (d + 4) m_T_number 17 [(0, 2, 1), (1, 0, v1), (2, 0, v2), (3, 0, sg_iadd (sg_imul v1 (G 1 1)) v2)] [(0, sg_bo (0 ≤ (sg_iadd (sg_imul v1 (G 1 1)) v2) ∧ (sg_iadd (sg_imul v1 (G 1 1)) v2) < (G 1 3)))] G Q
  refine sg_bif_eq (off := 21) (tgt := 38) (by decide +kernel) (by decide) ⟨fun q1 => ?_, fun q1 => ?_⟩
  · refine sg_blk [(1, 0, 0, 0, 0), (3, 0, 0, 2, 0)] (by decide +kernel) ?_
    refine And.intro (Nat.le_of_ble_eq_true rfl) (And.intro rfl (?_))
    show sg_Wp 0 N (d + 4) m_T_number 22 [(0, 2, 1), (1, 0, v1), (2, 0, v2), (3, 0, sg_iadd (sg_imul v1 (G 1 1)) v2)] [(0, v2), (2, 1)] G Q
    refine sg_callV (k := (d + 3)) (y' := m_T_signs) (av := [(0, v2)]) (rest := []) (b := 1) (by decide +kernel) cv_T_signs ml_7_26 (ce_1 hN) rfl rfl (Nat.le_of_ble_eq_true rfl) (Nat.lt_succ_self (d + 3)) (Nat.le_of_ble_eq_true rfl) rfl ?_
    show sg_Wp 0 N (d + 3) m_T_signs 0 [(0, 2, 1), (1, 0, v2)] [] G _
    refine s_T_signs_1 hN (h.1 q1).1 ?_
    show sg_Wp 0 N (d + 4) m_T_number 25 [(0, 2, 1), (1, 0, v1), (2, 0, v2), (3, 0, sg_iadd (sg_imul v1 (G 1 1)) v2)] [(3, sg_sgP v2)] G Q
    refine sg_blk [(1, 0, 0, 0, 0), (65, 2, 7, 19, 2), (3, 0, 0, 3, 0), (17, 23, 0, 0, 0), (56, 0, 0, 0, 0)] (by decide +kernel) ?_
    refine And.intro (Nat.le_of_ble_eq_true rfl) (And.intro (ce_1 hN) (And.intro rr_1_2 (And.intro rfl (And.intro (ce_2 hN) (And.intro (h.1 q1).2.1 (?_))))))
    show sg_Wp 0 N (d + 4) m_T_number 32 [(0, 2, 1), (1, 0, v1), (2, 0, v2), (3, 0, sg_iadd (sg_imul v1 (G 1 1)) v2)] [(0, sg_i2c (G 2 (sg_iadd (sg_imul v1 (G 1 1)) v2))), (3, sg_sgP v2)] G Q
    refine sg_callT (k := (d + 3)) (y' := m_S_indexOf1) (av := [(0, sg_i2c (G 2 (sg_iadd (sg_imul v1 (G 1 1)) v2)))]) (rest := []) (b := sg_sgP v2) (by decide +kernel) cv_S_indexOf1 ml_7_30 (h.1 q1).2.2.1 rfl rfl (Nat.le_of_ble_eq_true rfl) (Nat.lt_succ_self (d + 3)) (Nat.le_of_ble_eq_true rfl) rfl ?_
    show sg_Wp 0 N (d + 3) m_S_indexOf1 0 [(0, 3, sg_sgP v2), (1, 0, sg_i2c (G 2 (sg_iadd (sg_imul v1 (G 1 1)) v2)))] [] G _
    refine s_S_indexOf1 (h.1 q1).2.2.2.1 ?_
    show sg_Wp 0 N (d + 4) m_T_number 35 [(0, 2, 1), (1, 0, v1), (2, 0, v2), (3, 0, sg_iadd (sg_imul v1 (G 1 1)) v2)] [(0, sg_ix (sg_sgP v2) (sg_i2c (G 2 (sg_iadd (sg_imul v1 (G 1 1)) v2))))] G Q
    refine sg_goto (off := 4) (tgt := 39) (by decide +kernel) (by decide) ?_
    exact sg_ret (by decide +kernel) rfl (Or.inl rfl) ((h.1 q1).2.2.2.2)
  · refine sg_blk [(7, 0, 0, 0, 0)] (by decide +kernel) ?_
    refine And.intro rfl (?_)
    show sg_Wp 0 N (d + 4) m_T_number 39 [(0, 2, 1), (1, 0, v1), (2, 0, v2), (3, 0, sg_iadd (sg_imul v1 (G 1 1)) v2)] [(0, 0)] G Q
    exact sg_ret (by decide +kernel) rfl (Or.inl rfl) ((h.2 q1))
set_option maxRecDepth 100000 in
theorem g_T_add_3_0 {d N : Nat} (hN : 44 ≤ N) {v1 : Int} {G : SgM} {Q : Int → SgM → Prop} (h : ((G 3 3) < 29 → ((0 ≤ (G 3 3) ∧ (G 3 3) < 29) ∧ (Q ((sg_up (sg_up G 4 (G 3 3) v1) 3 3 (sg_iadd (G 3 3) 1)) 3 3) (sg_up (sg_up G 4 (G 3 3) v1) 3 3 (sg_iadd (G 3 3) 1))))) ∧ (¬ ((G 3 3) < 29) → (Q ((-4)) G))) : sg_Wp 0 N d m_T_add 0 [(0, 2, 3), (1, 0, v1)] [] G Q := by
  refine sg_blk [(1, 0, 0, 0, 0), (15, 0, 7, 23, 3), (1, 0, 0, 0, 0), (65, 4, 7, 19, 2), (24, 29, 0, 0, 0)] (by decide +kernel) ?_
  refine And.intro (Nat.le_of_ble_eq_true rfl) (And.intro (ce_3 hN) (And.intro (Nat.le_of_ble_eq_true rfl) (And.intro (ce_3 hN) (And.intro rr_3_2 (And.intro (And.intro (Or.inl (ce_4 hN)) (by decide)) (?_))))))
  show sg_Wp 0 N d m_T_add 9 [(0, 2, 3), (1, 0, v1)] [(0, 29), (0, G 3 3)] G Q
  refine sg_icmp_lt (off := 6) (tgt := 15) (by decide +kernel) (by decide) ⟨fun q1 => ?_, fun q1 => ?_⟩
  · refine sg_blk [(1, 0, 0, 0, 0), (65, 4, 7, 19, 2), (1, 0, 0, 0, 0), (15, 0, 7, 23, 3), (3, 0, 0, 1, 0), (18, 29, 0, 0, 0), (1, 0, 0, 0, 0), (57, 0, 0, 0, 0), (15, 0, 7, 23, 3), (7, 1, 0, 0, 0), (32, 0, 0, 0, 0), (16, 0, 7, 23, 3), (1, 0, 0, 0, 0), (15, 0, 7, 23, 3)] (by decide +kernel) ?_
    refine And.intro (Nat.le_of_ble_eq_true rfl) (And.intro (ce_3 hN) (And.intro rr_3_2 (And.intro (Nat.le_of_ble_eq_true rfl) (And.intro (ce_3 hN) (And.intro rfl (And.intro (ce_4 hN) (And.intro (h.1 q1).1 (And.intro (Nat.le_of_ble_eq_true rfl) (And.intro (Nat.ne_of_beq_eq_false rfl) (And.intro (ce_3 hN) (And.intro rfl (And.intro (ce_3 hN) (And.intro (Nat.le_of_ble_eq_true rfl) (And.intro (ce_3 hN) (?_)))))))))))))))
    show sg_Wp 0 N d m_T_add 39 [(0, 2, 3), (1, 0, v1)] [(0, (sg_up (sg_up G 4 (G 3 3) v1) 3 3 (sg_iadd (G 3 3) 1)) 3 3)] (sg_up (sg_up G 4 (G 3 3) v1) 3 3 (sg_iadd (G 3 3) 1)) Q
    exact sg_ret (by decide +kernel) rfl (Or.inl rfl) ((h.1 q1).2)
  · refine sg_blk [(8, (-4), 0, 0, 0)] (by decide +kernel) ?_
    refine And.intro rfl (And.intro rfl (?_))
    show sg_Wp 0 N d m_T_add 14 [(0, 2, 3), (1, 0, v1)] [(0, (-4))] G Q
    exact sg_ret (by decide +kernel) rfl (Or.inl rfl) ((h.2 q1))
set_option maxRecDepth 100000 in
theorem g_T_clear_3_0 {d N : Nat} (hN : 44 ≤ N) {G : SgM} {Q : Int → SgM → Prop} (h : Q (G 3 3) (sg_up G 3 3 0)) : sg_Wp 0 N d m_T_clear 0 [(0, 2, 3)] [] G Q := by
  refine sg_blk [(1, 0, 0, 0, 0), (15, 0, 7, 23, 3), (25, 0, 0, 1, 0), (1, 0, 0, 0, 0), (7, 0, 0, 0, 0), (16, 0, 7, 23, 3), (3, 0, 0, 1, 0)] (by decide +kernel) ?_
  refine And.intro (Nat.le_of_ble_eq_true rfl) (And.intro (ce_3 hN) (And.intro rfl (And.intro (Nat.le_of_ble_eq_true rfl) (And.intro rfl (And.intro (ce_3 hN) (And.intro rfl (?_)))))))
  show sg_Wp 0 N d m_T_clear 11 [(0, 2, 3), (1, 0, G 3 3)] [(0, G 3 3)] (sg_up G 3 3 0) Q
  exact sg_ret (by decide +kernel) rfl (Or.inl rfl) h
set_option maxRecDepth 100000 in
theorem g_T_dropLast_3_0 {d N : Nat} (hN : 44 ≤ N) {G : SgM} {Q : Int → SgM → Prop} (h : ((G 3 3) ≠ 0 → (Q ((sg_up G 3 3 (sg_isub (G 3 3) 1)) 3 3) (sg_up G 3 3 (sg_isub (G 3 3) 1)))) ∧ (¬ ((G 3 3) ≠ 0) → (Q ((-3)) G))) : sg_Wp 0 N d m_T_dropLast 0 [(0, 2, 3)] [] G Q := by
  refine sg_blk [(1, 0, 0, 0, 0), (15, 0, 7, 23, 3)] (by decide +kernel) ?_
  refine And.intro (Nat.le_of_ble_eq_true rfl) (And.intro (ce_3 hN) (?_))
  show sg_Wp 0 N d m_T_dropLast 4 [(0, 2, 3)] [(0, G 3 3)] G Q
  refine sg_if_ne (off := 6) (tgt := 10) (by decide +kernel) (by decide) ⟨fun q1 => ?_, fun q1 => ?_⟩
  · refine sg_blk [(1, 0, 0, 0, 0), (57, 0, 0, 0, 0), (15, 0, 7, 23, 3), (7, 1, 0, 0, 0), (33, 0, 0, 0, 0), (16, 0, 7, 23, 3), (1, 0, 0, 0, 0), (15, 0, 7, 23, 3)] (by decide +kernel) ?_
    refine And.intro (Nat.le_of_ble_eq_true rfl) (And.intro (Nat.ne_of_beq_eq_false rfl) (And.intro (ce_3 hN) (And.intro rfl (And.intro (ce_3 hN) (And.intro (Nat.le_of_ble_eq_true rfl) (And.intro (ce_3 hN) (?_)))))))
    show sg_Wp 0 N d m_T_dropLast 24 [(0, 2, 3)] [(0, (sg_up G 3 3 (sg_isub (G 3 3) 1)) 3 3)] (sg_up G 3 3 (sg_isub (G 3 3) 1)) Q
    exact sg_ret (by decide +kernel) rfl (Or.inl rfl) ((h.1 q1))
  · refine sg_blk [(8, (-3), 0, 0, 0)] (by decide +kernel) ?_
    refine And.intro rfl (And.intro rfl (?_))
    show sg_Wp 0 N d m_T_dropLast 9 [(0, 2, 3)] [(0, (-3))] G Q
    exact sg_ret (by decide +kernel) rfl (Or.inl rfl) ((h.2 q1))
set_option maxRecDepth 100000 in
theorem g_T_firstFault_3_0 {d N : Nat} (hN : 44 ≤ N) {G : SgM} {Q : Int → SgM → Prop} (h : sg_Wp 0 N (d + 4) m_T_firstFault 4 [(0, 2, 3), (1, 0, 0), (2, 0, 0)] [] G Q) : sg_Wp 0 N (d + 4) m_T_firstFault 0 [(0, 2, 3)] [] G Q := by
  refine sg_blk [(7, 0, 0, 0, 0), (25, 0, 0, 1, 0), (7, 0, 0, 0, 0), (25, 0, 0, 2, 0)] (by decide +kernel) ?_
  refine And.intro rfl (And.intro rfl (And.intro rfl (And.intro rfl (?_))))
  show sg_Wp 0 N (d + 4) m_T_firstFault 4 [(0, 2, 3), (1, 0, 0), (2, 0, 0)] [] G Q
  exact h
set_option maxRecDepth 100000 in
theorem g_T_firstFault_3_4 {d N : Nat} (hN : 44 ≤ N) {v1 v2 : Int} {G : SgM} {Q : Int → SgM → Prop} (h : ((G 3 3) ≤ v2 → (((G 3 3) = 0 → (Q ((-1)) G)) ∧ (¬ ((G 3 3) = 0) → ((v1 ≠ (sg_isub (G 3 1) 1) → (Q (G 3 3) G)) ∧ (¬ (v1 ≠ (sg_isub (G 3 1) 1)) → (Q ((-1)) G)))))) ∧ (¬ ((G 3 3) ≤ v2) → ((G 3 0 = 0) ∧ ((0 ≤ v2 ∧ v2 < 29) ∧ ((0 ≤ (sg_sgQ v1) ∧ (sg_sgQ v1) < 6) ∧ ((0 ≤ (sg_sgQ v1) ∧ (sg_sgQ v1) < 6) ∧ ((0 ≤ (sg_ix (sg_sgQ v1) (sg_i2c (G 4 v2))) → (((G 3 1) ≤ (sg_iadd v1 1) → (sg_Wp 0 N (d + 4) m_T_firstFault 4 [(0, 2, 3), (1, 0, 0), (2, 0, sg_iadd v2 1)] [] G Q)) ∧ (¬ ((G 3 1) ≤ (sg_iadd v1 1)) → (sg_Wp 0 N (d + 4) m_T_firstFault 4 [(0, 2, 3), (1, 0, sg_iadd v1 1), (2, 0, sg_iadd v2 1)] [] G Q)))) ∧ (¬ (0 ≤ (sg_ix (sg_sgQ v1) (sg_i2c (G 4 v2)))) → (Q v2 G))))))))) : sg_Wp 0 N (d + 4) m_T_firstFault 4 [(0, 2, 3), (1, 0, v1), (2, 0, v2)] [] G Q := by
  refine sg_blk [(3, 0, 0, 2, 0), (1, 0, 0, 0, 0), (15, 0, 7, 23, 3)] (by decide +kernel) ?_
  refine And.intro rfl (And.intro (Nat.le_of_ble_eq_true rfl) (And.intro (ce_3 hN) (?_)))
  show sg_Wp 0 N (d + 4) m_T_firstFault 9 [(0, 2, 3), (1, 0, v1), (2, 0, v2)] [(0, G 3 3), (0, v2)] G Q
  refine sg_icmp_ge (off := 47) (tgt := 56) (by decide +kernel) (by decide) ⟨fun q5 => ?_, fun q5 => ?_⟩
  · refine sg_blk [(1, 0, 0, 0, 0), (15, 0, 7, 23, 3)] (by decide +kernel) ?_
    refine And.intro (Nat.le_of_ble_eq_true rfl) (And.intro (ce_3 hN) (?_))
    show sg_Wp 0 N (d + 4) m_T_firstFault 60 [(0, 2, 3), (1, 0, v1), (2, 0, v2)] [(0, G 3 3)] G Q
    refine sg_if_eq (off := 13) (tgt := 73) (by decide +kernel) (by decide) ⟨fun q2 => ?_, fun q2 => ?_⟩
    · refine sg_blk [(7, (-1), 0, 0, 0)] (by decide +kernel) ?_
      refine And.intro rfl (?_)
      show sg_Wp 0 N (d + 4) m_T_firstFault 74 [(0, 2, 3), (1, 0, v1), (2, 0, v2)] [(0, (-1))] G Q
      refine sg_goto (off := 7) (tgt := 81) (by decide +kernel) (by decide) ?_
      exact sg_ret (by decide +kernel) rfl (Or.inl rfl) (((h.1 q5).1 q2))
    · refine sg_blk [(3, 0, 0, 1, 0), (1, 0, 0, 0, 0), (15, 0, 7, 15, 1), (7, 1, 0, 0, 0), (33, 0, 0, 0, 0)] (by decide +kernel) ?_
      refine And.intro rfl (And.intro (Nat.le_of_ble_eq_true rfl) (And.intro (ce_3 hN) (And.intro rfl (?_))))
      show sg_Wp 0 N (d + 4) m_T_firstFault 70 [(0, 2, 3), (1, 0, v1), (2, 0, v2)] [(0, sg_isub (G 3 1) 1), (0, v1)] G Q
      refine sg_icmp_ne (off := 7) (tgt := 77) (by decide +kernel) (by decide) ⟨fun q1 => ?_, fun q1 => ?_⟩
      · refine sg_blk [(1, 0, 0, 0, 0), (15, 0, 7, 23, 3)] (by decide +kernel) ?_
        refine And.intro (Nat.le_of_ble_eq_true rfl) (And.intro (ce_3 hN) (?_))
        show sg_Wp 0 N (d + 4) m_T_firstFault 81 [(0, 2, 3), (1, 0, v1), (2, 0, v2)] [(0, G 3 3)] G Q
        exact sg_ret (by decide +kernel) rfl (Or.inl rfl) ((((h.1 q5).2 q2).1 q1))
      · refine sg_blk [(7, (-1), 0, 0, 0)] (by decide +kernel) ?_
        refine And.intro rfl (?_)
        show sg_Wp 0 N (d + 4) m_T_firstFault 74 [(0, 2, 3), (1, 0, v1), (2, 0, v2)] [(0, (-1))] G Q
        refine sg_goto (off := 7) (tgt := 81) (by decide +kernel) (by decide) ?_
        exact sg_ret (by decide +kernel) rfl (Or.inl rfl) ((((h.1 q5).2 q2).2 q1))
  · refine sg_blk [(1, 0, 0, 0, 0), (3, 0, 0, 1, 0)] (by decide +kernel) ?_
    refine And.intro (Nat.le_of_ble_eq_true rfl) (And.intro rfl (?_))
    show sg_Wp 0 N (d + 4) m_T_firstFault 14 [(0, 2, 3), (1, 0, v1), (2, 0, v2)] [(0, v1), (2, 3)] G Q
    refine sg_callV (k := (d + 3)) (y' := m_T_signs) (av := [(0, v1)]) (rest := []) (b := 3) (by decide +kernel) cv_T_signs ml_7_26 (ce_3 hN) rfl rfl (Nat.le_of_ble_eq_true rfl) (Nat.lt_succ_self (d + 3)) (Nat.le_of_ble_eq_true rfl) rfl ?_
    show sg_Wp 0 N (d + 3) m_T_signs 0 [(0, 2, 3), (1, 0, v1)] [] G _
    refine s_T_signs_3 hN (h.2 q5).1 ?_
    show sg_Wp 0 N (d + 4) m_T_firstFault 17 [(0, 2, 3), (1, 0, v1), (2, 0, v2)] [(3, sg_sgQ v1)] G Q
    refine sg_blk [(1, 0, 0, 0, 0), (65, 4, 7, 19, 2), (3, 0, 0, 2, 0), (17, 29, 0, 0, 0), (56, 0, 0, 0, 0)] (by decide +kernel) ?_
    refine And.intro (Nat.le_of_ble_eq_true rfl) (And.intro (ce_3 hN) (And.intro rr_3_2 (And.intro rfl (And.intro (ce_4 hN) (And.intro (h.2 q5).2.1 (?_))))))
    show sg_Wp 0 N (d + 4) m_T_firstFault 24 [(0, 2, 3), (1, 0, v1), (2, 0, v2)] [(0, sg_i2c (G 4 v2)), (3, sg_sgQ v1)] G Q
    refine sg_callT (k := (d + 3)) (y' := m_S_indexOf1) (av := [(0, sg_i2c (G 4 v2))]) (rest := []) (b := sg_sgQ v1) (by decide +kernel) cv_S_indexOf1 ml_7_30 (h.2 q5).2.2.1 rfl rfl (Nat.le_of_ble_eq_true rfl) (Nat.lt_succ_self (d + 3)) (Nat.le_of_ble_eq_true rfl) rfl ?_
    show sg_Wp 0 N (d + 3) m_S_indexOf1 0 [(0, 3, sg_sgQ v1), (1, 0, sg_i2c (G 4 v2))] [] G _
    refine s_S_indexOf1 (h.2 q5).2.2.2.1 ?_
    show sg_Wp 0 N (d + 4) m_T_firstFault 27 [(0, 2, 3), (1, 0, v1), (2, 0, v2)] [(0, sg_ix (sg_sgQ v1) (sg_i2c (G 4 v2)))] G Q
    refine sg_if_ge (off := 5) (tgt := 32) (by decide +kernel) (by decide) ⟨fun q4 => ?_, fun q4 => ?_⟩
    · refine sg_blk [(3, 0, 0, 1, 0), (7, 1, 0, 0, 0), (32, 0, 0, 0, 0), (1, 0, 0, 0, 0), (15, 0, 7, 15, 1)] (by decide +kernel) ?_
      refine And.intro rfl (And.intro rfl (And.intro (Nat.le_of_ble_eq_true rfl) (And.intro (ce_3 hN) (?_))))
      show sg_Wp 0 N (d + 4) m_T_firstFault 39 [(0, 2, 3), (1, 0, v1), (2, 0, v2)] [(0, G 3 1), (0, sg_iadd v1 1)] G Q
      refine sg_icmp_ge (off := 9) (tgt := 48) (by decide +kernel) (by decide) ⟨fun q3 => ?_, fun q3 => ?_⟩
      · refine sg_blk [(7, 0, 0, 0, 0), (25, 0, 0, 1, 0), (31, 1, 0, 2, 0)] (by decide +kernel) ?_
        refine And.intro rfl (And.intro rfl (And.intro rfl (?_)))
        show sg_Wp 0 N (d + 4) m_T_firstFault 53 [(0, 2, 3), (1, 0, 0), (2, 0, sg_iadd v2 1)] [] G Q
        refine sg_goto (off := -49) (tgt := 4) (by decide +kernel) (by decide) ?_
        exact (((h.2 q5).2.2.2.2.1 q4).1 q3)
      · refine sg_blk [(3, 0, 0, 1, 0), (7, 1, 0, 0, 0), (32, 0, 0, 0, 0)] (by decide +kernel) ?_
        refine And.intro rfl (And.intro rfl (?_))
        show sg_Wp 0 N (d + 4) m_T_firstFault 45 [(0, 2, 3), (1, 0, v1), (2, 0, v2)] [(0, sg_iadd v1 1)] G Q
        refine sg_goto (off := 4) (tgt := 49) (by decide +kernel) (by decide) ?_
        refine sg_blk [(25, 0, 0, 1, 0), (31, 1, 0, 2, 0)] (by decide +kernel) ?_
        refine And.intro rfl (And.intro rfl (?_))
        show sg_Wp 0 N (d + 4) m_T_firstFault 53 [(0, 2, 3), (1, 0, sg_iadd v1 1), (2, 0, sg_iadd v2 1)] [] G Q
        refine sg_goto (off := -49) (tgt := 4) (by decide +kernel) (by decide) ?_
        exact (((h.2 q5).2.2.2.2.1 q4).2 q3)
    · refine sg_blk [(3, 0, 0, 2, 0)] (by decide +kernel) ?_
      refine And.intro rfl (?_)
      show sg_Wp 0 N (d + 4) m_T_firstFault 31 [(0, 2, 3), (1, 0, v1), (2, 0, v2)] [(0, v2)] G Q
      exact sg_ret (by decide +kernel) rfl (Or.inl rfl) (((h.2 q5).2.2.2.2.2 q4))
set_option maxRecDepth 100000 in
theorem g_T_things_3_0 {d N : Nat} (hN : 44 ≤ N) {G : SgM} {Q : Int → SgM → Prop} (h : ((G 3 1) ≤ 0 → (Q 0 G)) ∧ (¬ ((G 3 1) ≤ 0) → (sg_Wp 0 N d m_T_firstFault 0 [(0, 2, 3)] [] G (fun r1 G1 => (r1 ≠ ((-1)) → (Q 0 G1)) ∧ (¬ (r1 ≠ ((-1))) → (((G1 3 1) ≠ 0) ∧ (Q (sg_idiv (sg_iadd (G1 3 3) 1) (G1 3 1)) G1))))))) : sg_Wp 0 N (d + 1) m_T_things 0 [(0, 2, 3)] [] G Q := by
  refine sg_blk [(1, 0, 0, 0, 0), (15, 0, 7, 15, 1)] (by decide +kernel) ?_
  refine And.intro (Nat.le_of_ble_eq_true rfl) (And.intro (ce_3 hN) (?_))
  show sg_Wp 0 N (d + 1) m_T_things 4 [(0, 2, 3)] [(0, G 3 1)] G Q
  refine sg_if_le (off := 25) (tgt := 29) (by decide +kernel) (by decide) ⟨fun q2 => ?_, fun q2 => ?_⟩
  · refine sg_blk [(7, 0, 0, 0, 0)] (by decide +kernel) ?_
    refine And.intro rfl (?_)
    show sg_Wp 0 N (d + 1) m_T_things 30 [(0, 2, 3)] [(0, 0)] G Q
    exact sg_ret (by decide +kernel) rfl (Or.inl rfl) ((h.1 q2))
  · refine sg_blk [(1, 0, 0, 0, 0)] (by decide +kernel) ?_
    refine And.intro (Nat.le_of_ble_eq_true rfl) (?_)
    show sg_Wp 0 N (d + 1) m_T_things 8 [(0, 2, 3)] [(2, 3)] G Q
    refine sg_callV (k := d) (y' := m_T_firstFault) (av := []) (rest := []) (b := 3) (by decide +kernel) cv_T_firstFault ml_7_36 (ce_3 hN) rfl rfl (Nat.le_of_ble_eq_true rfl) (Nat.lt_succ_self d) (Nat.le_of_ble_eq_true rfl) rfl ?_
    show sg_Wp 0 N d m_T_firstFault 0 [(0, 2, 3)] [] G _
    refine sg_Wp.mono ((h.2 q2)) (fun r1 G1 hhr1 => ?_)
    show sg_Wp 0 N (d + 1) m_T_things 11 [(0, 2, 3)] [(0, r1)] G1 Q
    refine sg_blk [(7, (-1), 0, 0, 0)] (by decide +kernel) ?_
    refine And.intro rfl (?_)
    show sg_Wp 0 N (d + 1) m_T_things 12 [(0, 2, 3)] [(0, (-1)), (0, r1)] G1 Q
    refine sg_icmp_ne (off := 17) (tgt := 29) (by decide +kernel) (by decide) ⟨fun q1 => ?_, fun q1 => ?_⟩
    · refine sg_blk [(7, 0, 0, 0, 0)] (by decide +kernel) ?_
      refine And.intro rfl (?_)
      show sg_Wp 0 N (d + 1) m_T_things 30 [(0, 2, 3)] [(0, 0)] G1 Q
      exact sg_ret (by decide +kernel) rfl (Or.inl rfl) ((hhr1.1 q1))
    · refine sg_blk [(1, 0, 0, 0, 0), (15, 0, 7, 23, 3), (7, 1, 0, 0, 0), (32, 0, 0, 0, 0), (1, 0, 0, 0, 0), (15, 0, 7, 15, 1), (35, 0, 0, 0, 0)] (by decide +kernel) ?_
      refine And.intro (Nat.le_of_ble_eq_true rfl) (And.intro (ce_3 hN) (And.intro rfl (And.intro (Nat.le_of_ble_eq_true rfl) (And.intro (ce_3 hN) (And.intro (hhr1.2 q1).1 (?_))))))
      show sg_Wp 0 N (d + 1) m_T_things 26 [(0, 2, 3)] [(0, sg_idiv (sg_iadd (G1 3 3) 1) (G1 3 1))] G1 Q
      refine sg_goto (off := 4) (tgt := 30) (by decide +kernel) (by decide) ?_
      exact sg_ret (by decide +kernel) rfl (Or.inl rfl) ((hhr1.2 q1).2)
set_option maxRecDepth 100000 in
theorem g_T_number_3_0 {d N : Nat} (hN : 44 ≤ N) {v1 v2 : Int} {G : SgM} {Q : Int → SgM → Prop} (h : ((0 ≤ (sg_iadd (sg_imul v1 (G 3 1)) v2) ∧ (sg_iadd (sg_imul v1 (G 3 1)) v2) < (G 3 3)) → ((G 3 0 = 0) ∧ ((0 ≤ (sg_iadd (sg_imul v1 (G 3 1)) v2) ∧ (sg_iadd (sg_imul v1 (G 3 1)) v2) < 29) ∧ ((0 ≤ (sg_sgQ v2) ∧ (sg_sgQ v2) < 6) ∧ ((0 ≤ (sg_sgQ v2) ∧ (sg_sgQ v2) < 6) ∧ (Q (sg_ix (sg_sgQ v2) (sg_i2c (G 4 (sg_iadd (sg_imul v1 (G 3 1)) v2)))) G)))))) ∧ (¬ (0 ≤ (sg_iadd (sg_imul v1 (G 3 1)) v2) ∧ (sg_iadd (sg_imul v1 (G 3 1)) v2) < (G 3 3)) → (Q 0 G))) : sg_Wp 0 N (d + 4) m_T_number 0 [(0, 2, 3), (1, 0, v1), (2, 0, v2)] [] G Q := by
  refine sg_blk [(3, 0, 0, 1, 0), (1, 0, 0, 0, 0), (15, 0, 7, 15, 1), (34, 0, 0, 0, 0), (3, 0, 0, 2, 0), (32, 0, 0, 0, 0), (25, 0, 0, 3, 0), (3, 0, 0, 3, 0), (1, 0, 0, 0, 0), (15, 0, 7, 23, 3)] (by decide +kernel) ?_
  refine And.intro rfl (And.intro (Nat.le_of_ble_eq_true rfl) (And.intro (ce_3 hN) (And.intro rfl (And.intro rfl (And.intro rfl (And.intro (Nat.le_of_ble_eq_true rfl) (And.intro (ce_3 hN) (?_))))))))
  show sg_Wp 0 N (d + 4) m_T_number 14 [(0, 2, 3), (1, 0, v1), (2, 0, v2), (3, 0, sg_iadd (sg_imul v1 (G 3 1)) v2)] [(0, G 3 3), (0, sg_iadd (sg_imul v1 (G 3 1)) v2)] G Q
  refine sg_callN (k := (d + 3)) (y' := m_G_isBelow) (av := [(0, sg_iadd (sg_imul v1 (G 3 1)) v2), (0, G 3 3)]) (rest := []) (idx := 40) (by decide +kernel) cs_G_isBelow (List.mem_of_getElem? (i := 0) rfl) rfl (Nat.le_of_ble_eq_true rfl) (Nat.lt_succ_self (d + 3)) (Nat.le_of_ble_eq_true rfl) rfl ?_
  show sg_Wp 0 N (d + 3) m_G_isBelow 0 [(0, 0, sg_iadd (sg_imul v1 (G 3 1)) v2), (1, 0, G 3 3)] [] G _
  refine s_G_isBelow ?_
  show sg_Wp 0 N (d + 4) m_T_number 17 [(0, 2, 3), (1, 0, v1), (2, 0, v2), (3, 0, sg_iadd (sg_imul v1 (G 3 1)) v2)] [(0, sg_bo (0 ≤ (sg_iadd (sg_imul v1 (G 3 1)) v2) ∧ (sg_iadd (sg_imul v1 (G 3 1)) v2) < (G 3 3)))] G Q
  refine sg_bif_eq (off := 21) (tgt := 38) (by decide +kernel) (by decide) ⟨fun q1 => ?_, fun q1 => ?_⟩
  · refine sg_blk [(1, 0, 0, 0, 0), (3, 0, 0, 2, 0)] (by decide +kernel) ?_
    refine And.intro (Nat.le_of_ble_eq_true rfl) (And.intro rfl (?_))
    show sg_Wp 0 N (d + 4) m_T_number 22 [(0, 2, 3), (1, 0, v1), (2, 0, v2), (3, 0, sg_iadd (sg_imul v1 (G 3 1)) v2)] [(0, v2), (2, 3)] G Q
    refine sg_callV (k := (d + 3)) (y' := m_T_signs) (av := [(0, v2)]) (rest := []) (b := 3) (by decide +kernel) cv_T_signs ml_7_26 (ce_3 hN) rfl rfl (Nat.le_of_ble_eq_true rfl) (Nat.lt_succ_self (d + 3)) (Nat.le_of_ble_eq_true rfl) rfl ?_
    show sg_Wp 0 N (d + 3) m_T_signs 0 [(0, 2, 3), (1, 0, v2)] [] G _
    refine s_T_signs_3 hN (h.1 q1).1 ?_
    show sg_Wp 0 N (d + 4) m_T_number 25 [(0, 2, 3), (1, 0, v1), (2, 0, v2), (3, 0, sg_iadd (sg_imul v1 (G 3 1)) v2)] [(3, sg_sgQ v2)] G Q
    refine sg_blk [(1, 0, 0, 0, 0), (65, 4, 7, 19, 2), (3, 0, 0, 3, 0), (17, 29, 0, 0, 0), (56, 0, 0, 0, 0)] (by decide +kernel) ?_
    refine And.intro (Nat.le_of_ble_eq_true rfl) (And.intro (ce_3 hN) (And.intro rr_3_2 (And.intro rfl (And.intro (ce_4 hN) (And.intro (h.1 q1).2.1 (?_))))))
    show sg_Wp 0 N (d + 4) m_T_number 32 [(0, 2, 3), (1, 0, v1), (2, 0, v2), (3, 0, sg_iadd (sg_imul v1 (G 3 1)) v2)] [(0, sg_i2c (G 4 (sg_iadd (sg_imul v1 (G 3 1)) v2))), (3, sg_sgQ v2)] G Q
    refine sg_callT (k := (d + 3)) (y' := m_S_indexOf1) (av := [(0, sg_i2c (G 4 (sg_iadd (sg_imul v1 (G 3 1)) v2)))]) (rest := []) (b := sg_sgQ v2) (by decide +kernel) cv_S_indexOf1 ml_7_30 (h.1 q1).2.2.1 rfl rfl (Nat.le_of_ble_eq_true rfl) (Nat.lt_succ_self (d + 3)) (Nat.le_of_ble_eq_true rfl) rfl ?_
    show sg_Wp 0 N (d + 3) m_S_indexOf1 0 [(0, 3, sg_sgQ v2), (1, 0, sg_i2c (G 4 (sg_iadd (sg_imul v1 (G 3 1)) v2)))] [] G _
    refine s_S_indexOf1 (h.1 q1).2.2.2.1 ?_
    show sg_Wp 0 N (d + 4) m_T_number 35 [(0, 2, 3), (1, 0, v1), (2, 0, v2), (3, 0, sg_iadd (sg_imul v1 (G 3 1)) v2)] [(0, sg_ix (sg_sgQ v2) (sg_i2c (G 4 (sg_iadd (sg_imul v1 (G 3 1)) v2))))] G Q
    refine sg_goto (off := 4) (tgt := 39) (by decide +kernel) (by decide) ?_
    exact sg_ret (by decide +kernel) rfl (Or.inl rfl) ((h.1 q1).2.2.2.2)
  · refine sg_blk [(7, 0, 0, 0, 0)] (by decide +kernel) ?_
    refine And.intro rfl (?_)
    show sg_Wp 0 N (d + 4) m_T_number 39 [(0, 2, 3), (1, 0, v1), (2, 0, v2), (3, 0, sg_iadd (sg_imul v1 (G 3 1)) v2)] [(0, 0)] G Q
    exact sg_ret (by decide +kernel) rfl (Or.inl rfl) ((h.2 q1))
