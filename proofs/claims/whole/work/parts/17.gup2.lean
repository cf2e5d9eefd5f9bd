/-! CUT LEMMAS, printed by a program -/
set_option maxRecDepth 100000 in
theorem g_Z_make_67_0 {d N : Nat} (hN : 75 ≤ N) {v1 v2 v3 : Int} {G : SgM} {Q : Int → SgM → Prop} (h : ((0 ≤ v1 ∧ v1 < 4) → (((0 ≤ v2 ∧ v2 < 3) → ((v3 ≤ 60 → ((0 ≤ v3 → ((0 ≤ v1 ∧ v1 < 4) ∧ (0 ≤ v1 ∧ v1 < 4) ∧ (0 ≤ v1 ∧ v1 < 4) ∧ (sg_Wp 0 N d m_A_fill 0 [(0, 2, 71 + v1), (1, 0, 0)] [] (sg_up (sg_up G 68 v1 v2) 69 v1 v3) (fun r1 G1 => Q v3 G1)))) ∧ (¬ (0 ≤ v3) → (sg_Wp 0 N d m_Z_found 0 [(0, 2, 67), (1, 0, 5)] [] G (fun r2 G2 => Q r2 G2))))) ∧ (¬ (v3 ≤ 60) → (Q ((-2)) G)))) ∧ (¬ (0 ≤ v2 ∧ v2 < 3) → (Q ((-2)) G)))) ∧ (¬ (0 ≤ v1 ∧ v1 < 4) → (Q ((-2)) G))) : sg_Wp 0 N (d + 1) m_Z_make 0 [(0, 2, 67), (1, 0, v1), (2, 0, v2), (3, 0, v3)] [] G Q := by
  refine sg_blk [(3, 0, 0, 1, 0), (7, 4, 0, 0, 0)] (by decide +kernel) ?_
  refine And.intro rfl (And.intro rfl (?_))
  show sg_Wp 0 N (d + 1) m_Z_make 2 [(0, 2, 67), (1, 0, v1), (2, 0, v2), (3, 0, v3)] [(0, 4), (0, v1)] G Q
  refine sg_callN (k := d) (y' := m_G_isBelow) (av := [(0, v1), (0, 4)]) (rest := []) (idx := 29) (by decide +kernel) cs_G_isBelow (List.mem_of_getElem? (i := 6) rfl) rfl (Nat.le_of_ble_eq_true rfl) (Nat.lt_succ_self d) (Nat.le_of_ble_eq_true rfl) rfl ?_
  show sg_Wp 0 N d m_G_isBelow 0 [(0, 0, v1), (1, 0, 4)] [] G _
  refine s_G_isBelow ?_
  show sg_Wp 0 N (d + 1) m_Z_make 5 [(0, 2, 67), (1, 0, v1), (2, 0, v2), (3, 0, v3)] [(0, sg_bo (0 ≤ v1 ∧ v1 < 4))] G Q
  refine sg_bif_eq (off := 17) (tgt := 22) (by decide +kernel) (by decide) ⟨fun q4 => ?_, fun q4 => ?_⟩
  · refine sg_blk [(3, 0, 0, 2, 0), (7, 3, 0, 0, 0)] (by decide +kernel) ?_
    refine And.intro rfl (And.intro rfl (?_))
    show sg_Wp 0 N (d + 1) m_Z_make 10 [(0, 2, 67), (1, 0, v1), (2, 0, v2), (3, 0, v3)] [(0, 3), (0, v2)] G Q
    refine sg_callN (k := d) (y' := m_G_isBelow) (av := [(0, v2), (0, 3)]) (rest := []) (idx := 29) (by decide +kernel) cs_G_isBelow (List.mem_of_getElem? (i := 6) rfl) rfl (Nat.le_of_ble_eq_true rfl) (Nat.lt_succ_self d) (Nat.le_of_ble_eq_true rfl) rfl ?_
    show sg_Wp 0 N d m_G_isBelow 0 [(0, 0, v2), (1, 0, 3)] [] G _
    refine s_G_isBelow ?_
    show sg_Wp 0 N (d + 1) m_Z_make 13 [(0, 2, 67), (1, 0, v1), (2, 0, v2), (3, 0, v3)] [(0, sg_bo (0 ≤ v2 ∧ v2 < 3))] G Q
    refine sg_bif_eq (off := 9) (tgt := 22) (by decide +kernel) (by decide) ⟨fun q3 => ?_, fun q3 => ?_⟩
    · refine sg_blk [(3, 0, 0, 3, 0), (8, 60, 0, 0, 0)] (by decide +kernel) ?_
      refine And.intro rfl (And.intro rfl (And.intro rfl (?_)))
      show sg_Wp 0 N (d + 1) m_Z_make 19 [(0, 2, 67), (1, 0, v1), (2, 0, v2), (3, 0, v3)] [(0, 60), (0, v3)] G Q
      refine sg_icmp_le (off := 6) (tgt := 25) (by decide +kernel) (by decide) ⟨fun q2 => ?_, fun q2 => ?_⟩
      · refine sg_blk [(3, 0, 0, 3, 0)] (by decide +kernel) ?_
        refine And.intro rfl (?_)
        show sg_Wp 0 N (d + 1) m_Z_make 26 [(0, 2, 67), (1, 0, v1), (2, 0, v2), (3, 0, v3)] [(0, v3)] G Q
        refine sg_if_ge (off := 9) (tgt := 35) (by decide +kernel) (by decide) ⟨fun q1 => ?_, fun q1 => ?_⟩
        · refine sg_blk [(1, 0, 0, 0, 0), (65, 68, 6, 11, 0), (3, 0, 0, 1, 0), (3, 0, 0, 2, 0), (18, 4, 0, 0, 0), (1, 0, 0, 0, 0), (65, 69, 6, 15, 1), (3, 0, 0, 1, 0), (3, 0, 0, 3, 0), (18, 4, 0, 0, 0), (1, 0, 0, 0, 0), (65, 70, 6, 20, 2), (3, 0, 0, 1, 0), (23, 4, 71, 0, 0), (7, 0, 0, 0, 0)] (by decide +kernel) ?_
          refine And.intro (Nat.le_of_ble_eq_true rfl) (And.intro (ce_67 hN) (And.intro rr_67_0 (And.intro rfl (And.intro rfl (And.intro (ce_68 hN) (And.intro ((((h.1 q4).1 q3).1 q2).1 q1).1 (And.intro (Nat.le_of_ble_eq_true rfl) (And.intro (ce_67 hN) (And.intro rr_67_1 (And.intro rfl (And.intro rfl (And.intro (ce_69 hN) (And.intro ((((h.1 q4).1 q3).1 q2).1 q1).2.1 (And.intro (Nat.le_of_ble_eq_true rfl) (And.intro (ce_67 hN) (And.intro rr_67_2 (And.intro rfl (And.intro (And.intro (ce_70 hN) qb_70) (And.intro ((((h.1 q4).1 q3).1 q2).1 q1).2.2.1 (And.intro rfl (?_)))))))))))))))))))))
          show sg_Wp 0 N (d + 1) m_Z_make 56 [(0, 2, 67), (1, 0, v1), (2, 0, v2), (3, 0, v3)] [(0, 0), (2, 71 + v1)] (sg_up (sg_up G 68 v1 v2) 69 v1 v3) Q
          refine sg_callS (k := d) (y' := m_A_fill) (av := [(2, 71 + v1), (0, 0)]) (rest := []) (by decide +kernel) cs_A_fill ml_6_23 rfl (Nat.le_of_ble_eq_true rfl) (Nat.lt_succ_self d) (Nat.le_of_ble_eq_true rfl) rfl ?_
          show sg_Wp 0 N d m_A_fill 0 [(0, 2, 71 + v1), (1, 0, 0)] [] (sg_up (sg_up G 68 v1 v2) 69 v1 v3) _
          refine sg_Wp.mono (((((h.1 q4).1 q3).1 q2).1 q1).2.2.2) (fun r1 G1 hhr1 => ?_)
          show sg_Wp 0 N (d + 1) m_Z_make 59 [(0, 2, 67), (1, 0, v1), (2, 0, v2), (3, 0, v3)] [] G1 Q
          refine sg_blk [(3, 0, 0, 3, 0)] (by decide +kernel) ?_
          refine And.intro rfl (?_)
          show sg_Wp 0 N (d + 1) m_Z_make 60 [(0, 2, 67), (1, 0, v1), (2, 0, v2), (3, 0, v3)] [(0, v3)] G1 Q
          exact sg_ret (by decide +kernel) rfl (Or.inl rfl) hhr1
        · refine sg_blk [(1, 0, 0, 0, 0), (7, 5, 0, 0, 0)] (by decide +kernel) ?_
          refine And.intro (Nat.le_of_ble_eq_true rfl) (And.intro rfl (?_))
          show sg_Wp 0 N (d + 1) m_Z_make 31 [(0, 2, 67), (1, 0, v1), (2, 0, v2), (3, 0, v3)] [(0, 5), (2, 67)] G Q
          refine sg_callV (k := d) (y' := m_Z_found) (av := [(0, 5)]) (rest := []) (b := 67) (by decide +kernel) cv_Z_found ml_6_33 (ce_67 hN) rfl rfl (Nat.le_of_ble_eq_true rfl) (Nat.lt_succ_self d) (Nat.le_of_ble_eq_true rfl) rfl ?_
          show sg_Wp 0 N d m_Z_found 0 [(0, 2, 67), (1, 0, 5)] [] G _
          refine sg_Wp.mono (((((h.1 q4).1 q3).1 q2).2 q1)) (fun r2 G2 hhr2 => ?_)
          show sg_Wp 0 N (d + 1) m_Z_make 34 [(0, 2, 67), (1, 0, v1), (2, 0, v2), (3, 0, v3)] [(0, r2)] G2 Q
          exact sg_ret (by decide +kernel) rfl (Or.inl rfl) hhr2
      · refine sg_blk [(8, (-2), 0, 0, 0)] (by decide +kernel) ?_
        refine And.intro rfl (And.intro rfl (?_))
        show sg_Wp 0 N (d + 1) m_Z_make 24 [(0, 2, 67), (1, 0, v1), (2, 0, v2), (3, 0, v3)] [(0, (-2))] G Q
        exact sg_ret (by decide +kernel) rfl (Or.inl rfl) ((((h.1 q4).1 q3).2 q2))
    · refine sg_blk [(8, (-2), 0, 0, 0)] (by decide +kernel) ?_
      refine And.intro rfl (And.intro rfl (?_))
      show sg_Wp 0 N (d + 1) m_Z_make 24 [(0, 2, 67), (1, 0, v1), (2, 0, v2), (3, 0, v3)] [(0, (-2))] G Q
      exact sg_ret (by decide +kernel) rfl (Or.inl rfl) (((h.1 q4).2 q3))
  · refine sg_blk [(8, (-2), 0, 0, 0)] (by decide +kernel) ?_
    refine And.intro rfl (And.intro rfl (?_))
    show sg_Wp 0 N (d + 1) m_Z_make 24 [(0, 2, 67), (1, 0, v1), (2, 0, v2), (3, 0, v3)] [(0, (-2))] G Q
    exact sg_ret (by decide +kernel) rfl (Or.inl rfl) ((h.2 q4))
set_option maxRecDepth 100000 in
theorem g_Z_drop_67_0 {d N : Nat} (hN : 75 ≤ N) {v1 : Int} {G : SgM} {Q : Int → SgM → Prop} (h : sg_Wp 0 N d m_Z_refusalOf 0 [(0, 2, 67), (1, 0, v1)] [] G (fun r1 G1 => (r1 = 0 → ((0 ≤ v1 ∧ v1 < 4) ∧ (0 ≤ v1 ∧ v1 < 4) ∧ (Q (G1 69 v1) (sg_up G1 68 v1 ((-1)))))) ∧ (¬ (r1 = 0) → (Q r1 G1)))) : sg_Wp 0 N (d + 1) m_Z_drop 0 [(0, 2, 67), (1, 0, v1)] [] G Q := by
  refine sg_blk [(1, 0, 0, 0, 0), (3, 0, 0, 1, 0)] (by decide +kernel) ?_
  refine And.intro (Nat.le_of_ble_eq_true rfl) (And.intro rfl (?_))
  show sg_Wp 0 N (d + 1) m_Z_drop 2 [(0, 2, 67), (1, 0, v1)] [(0, v1), (2, 67)] G Q
  refine sg_callV (k := d) (y' := m_Z_refusalOf) (av := [(0, v1)]) (rest := []) (b := 67) (by decide +kernel) cv_Z_refusalOf ml_6_37 (ce_67 hN) rfl rfl (Nat.le_of_ble_eq_true rfl) (Nat.lt_succ_self d) (Nat.le_of_ble_eq_true rfl) rfl ?_
  show sg_Wp 0 N d m_Z_refusalOf 0 [(0, 2, 67), (1, 0, v1)] [] G _
  refine sg_Wp.mono h (fun r1 G1 hhr1 => ?_)
  show sg_Wp 0 N (d + 1) m_Z_drop 5 [(0, 2, 67), (1, 0, v1)] [(0, r1)] G1 Q
  refine sg_blk [(25, 0, 0, 2, 0), (3, 0, 0, 2, 0)] (by decide +kernel) ?_
  refine And.intro rfl (And.intro rfl (?_))
  show sg_Wp 0 N (d + 1) m_Z_drop 7 [(0, 2, 67), (1, 0, v1), (2, 0, r1)] [(0, r1)] G1 Q
  refine sg_if_eq (off := 5) (tgt := 12) (by decide +kernel) (by decide) ⟨fun q1 => ?_, fun q1 => ?_⟩
  · refine sg_blk [(1, 0, 0, 0, 0), (65, 68, 6, 11, 0), (3, 0, 0, 1, 0), (7, (-1), 0, 0, 0), (18, 4, 0, 0, 0), (1, 0, 0, 0, 0), (65, 69, 6, 15, 1), (3, 0, 0, 1, 0), (17, 4, 0, 0, 0)] (by decide +kernel) ?_
    refine And.intro (Nat.le_of_ble_eq_true rfl) (And.intro (ce_67 hN) (And.intro rr_67_0 (And.intro rfl (And.intro rfl (And.intro (ce_68 hN) (And.intro (hhr1.1 q1).1 (And.intro (Nat.le_of_ble_eq_true rfl) (And.intro (ce_67 hN) (And.intro rr_67_1 (And.intro rfl (And.intro (ce_69 hN) (And.intro (hhr1.1 q1).2.1 (?_)))))))))))))
    show sg_Wp 0 N (d + 1) m_Z_drop 25 [(0, 2, 67), (1, 0, v1), (2, 0, r1)] [(0, G1 69 v1)] (sg_up G1 68 v1 ((-1))) Q
    exact sg_ret (by decide +kernel) rfl (Or.inl rfl) ((hhr1.1 q1).2.2)
  · refine sg_blk [(3, 0, 0, 2, 0)] (by decide +kernel) ?_
    refine And.intro rfl (?_)
    show sg_Wp 0 N (d + 1) m_Z_drop 11 [(0, 2, 67), (1, 0, v1), (2, 0, r1)] [(0, r1)] G1 Q
    exact sg_ret (by decide +kernel) rfl (Or.inl rfl) ((hhr1.2 q1))
set_option maxRecDepth 100000 in
theorem g_Z_move_67_0 {d N : Nat} (hN : 75 ≤ N) {v1 v2 v3 v4 v5 : Int} {G : SgM} {Q : Int → SgM → Prop} (h : ((0 ≤ v1 ∧ v1 < 4) → (((0 ≤ v3 ∧ v3 < 4) → ((0 ≤ v1 ∧ v1 < 4) ∧ (((G 68 v1) = ((-1)) → (sg_Wp 0 N (d + 2) m_Z_move 39 [(0, 2, 67)] [] G Q)) ∧ (¬ ((G 68 v1) = ((-1))) → ((0 ≤ v3 ∧ v3 < 4) ∧ (((G 68 v3) ≠ ((-1)) → ((0 ≤ v1 ∧ v1 < 4) ∧ (0 ≤ v3 ∧ v3 < 4) ∧ (((G 68 v1) = (G 68 v3) → ((0 ≤ v1 ∧ v1 < 4) ∧ (((0 ≤ v2 ∧ 0 ≤ v5 ∧ v5 ≤ (G 69 v1) ∧ v2 ≤ sg_isub (G 69 v1) v5) → ((0 ≤ v3 ∧ v3 < 4) ∧ (((0 ≤ v4 ∧ 0 ≤ v5 ∧ v5 ≤ (G 69 v3) ∧ v4 ≤ sg_isub (G 69 v3) v5) → ((0 ≤ v1 ∧ v1 < 4) ∧ (0 ≤ v3 ∧ v3 < 4) ∧ ((sg_Ce 0 N (71 + v1) 1 60) ∧ (sg_Ce 0 N (71 + v3) 1 60) ∧ ((0 : Int) ≤ v2 ∧ (0 : Int) ≤ v4 ∧ (0 : Int) ≤ v5 ∧ (v2 : Int) + v5 ≤ 60 ∧ (v4 : Int) + v5 ≤ 60) ∧ (Q 1 (sg_cp G (71 + v1) v2 (71 + v3) v4 v5))))) ∧ (¬ (0 ≤ v4 ∧ 0 ≤ v5 ∧ v5 ≤ (G 69 v3) ∧ v4 ≤ sg_isub (G 69 v3) v5) → (sg_Wp 0 N (d + 2) m_Z_move 97 [(0, 2, 67)] [] G Q))))) ∧ (¬ (0 ≤ v2 ∧ 0 ≤ v5 ∧ v5 ≤ (G 69 v1) ∧ v2 ≤ sg_isub (G 69 v1) v5) → (sg_Wp 0 N (d + 2) m_Z_move 97 [(0, 2, 67)] [] G Q))))) ∧ (¬ ((G 68 v1) = (G 68 v3)) → (sg_Wp 0 N (d + 1) m_Z_found 0 [(0, 2, 67), (1, 0, 4)] [] G (fun r1 G1 => Q r1 G1)))))) ∧ (¬ ((G 68 v3) ≠ ((-1))) → (sg_Wp 0 N (d + 2) m_Z_move 39 [(0, 2, 67)] [] G Q)))))))) ∧ (¬ (0 ≤ v3 ∧ v3 < 4) → (sg_Wp 0 N (d + 2) m_Z_move 16 [] [] G Q)))) ∧ (¬ (0 ≤ v1 ∧ v1 < 4) → (sg_Wp 0 N (d + 2) m_Z_move 16 [] [] G Q))) : sg_Wp 0 N (d + 2) m_Z_move 0 [(0, 2, 67), (1, 0, v1), (2, 0, v2), (3, 0, v3), (4, 0, v4), (5, 0, v5)] [] G Q := by
  refine sg_blk [(3, 0, 0, 1, 0), (7, 4, 0, 0, 0)] (by decide +kernel) ?_
  refine And.intro rfl (And.intro rfl (?_))
  show sg_Wp 0 N (d + 2) m_Z_move 2 [(0, 2, 67), (1, 0, v1), (2, 0, v2), (3, 0, v3), (4, 0, v4), (5, 0, v5)] [(0, 4), (0, v1)] G Q
  refine sg_callN (k := (d + 1)) (y' := m_G_isBelow) (av := [(0, v1), (0, 4)]) (rest := []) (idx := 29) (by decide +kernel) cs_G_isBelow (List.mem_of_getElem? (i := 6) rfl) rfl (Nat.le_of_ble_eq_true rfl) (Nat.lt_succ_self (d + 1)) (Nat.le_of_ble_eq_true rfl) rfl ?_
  show sg_Wp 0 N (d + 1) m_G_isBelow 0 [(0, 0, v1), (1, 0, 4)] [] G _
  refine s_G_isBelow ?_
  show sg_Wp 0 N (d + 2) m_Z_move 5 [(0, 2, 67), (1, 0, v1), (2, 0, v2), (3, 0, v3), (4, 0, v4), (5, 0, v5)] [(0, sg_bo (0 ≤ v1 ∧ v1 < 4))] G Q
  refine sg_bif_eq (off := 11) (tgt := 16) (by decide +kernel) (by decide) ⟨fun q7 => ?_, fun q7 => ?_⟩
  · refine sg_blk [(3, 0, 0, 3, 0), (7, 4, 0, 0, 0)] (by decide +kernel) ?_
    refine And.intro rfl (And.intro rfl (?_))
    show sg_Wp 0 N (d + 2) m_Z_move 10 [(0, 2, 67), (1, 0, v1), (2, 0, v2), (3, 0, v3), (4, 0, v4), (5, 0, v5)] [(0, 4), (0, v3)] G Q
    refine sg_callN (k := (d + 1)) (y' := m_G_isBelow) (av := [(0, v3), (0, 4)]) (rest := []) (idx := 29) (by decide +kernel) cs_G_isBelow (List.mem_of_getElem? (i := 6) rfl) rfl (Nat.le_of_ble_eq_true rfl) (Nat.lt_succ_self (d + 1)) (Nat.le_of_ble_eq_true rfl) rfl ?_
    show sg_Wp 0 N (d + 1) m_G_isBelow 0 [(0, 0, v3), (1, 0, 4)] [] G _
    refine s_G_isBelow ?_
    show sg_Wp 0 N (d + 2) m_Z_move 13 [(0, 2, 67), (1, 0, v1), (2, 0, v2), (3, 0, v3), (4, 0, v4), (5, 0, v5)] [(0, sg_bo (0 ≤ v3 ∧ v3 < 4))] G Q
    refine sg_bif_ne (off := 6) (tgt := 19) (by decide +kernel) (by decide) ⟨fun q6 => ?_, fun q6 => ?_⟩
    · refine sg_blk [(1, 0, 0, 0, 0), (65, 68, 6, 11, 0), (3, 0, 0, 1, 0), (17, 4, 0, 0, 0), (7, (-1), 0, 0, 0)] (by decide +kernel) ?_
      refine And.intro (Nat.le_of_ble_eq_true rfl) (And.intro (ce_67 hN) (And.intro rr_67_0 (And.intro rfl (And.intro (ce_68 hN) (And.intro ((h.1 q7).1 q6).1 (And.intro rfl (?_)))))))
      show sg_Wp 0 N (d + 2) m_Z_move 26 [(0, 2, 67), (1, 0, v1), (2, 0, v2), (3, 0, v3), (4, 0, v4), (5, 0, v5)] [(0, (-1)), (0, G 68 v1)] G Q
      refine sg_icmp_eq (off := 13) (tgt := 39) (by decide +kernel) (by decide) ⟨fun q5 => ?_, fun q5 => ?_⟩
      · exact sg_Wp.keepk [0] rfl ((((h.1 q7).1 q6).2.1 q5))
      · refine sg_blk [(1, 0, 0, 0, 0), (65, 68, 6, 11, 0), (3, 0, 0, 3, 0), (17, 4, 0, 0, 0), (7, (-1), 0, 0, 0)] (by decide +kernel) ?_
        refine And.intro (Nat.le_of_ble_eq_true rfl) (And.intro (ce_67 hN) (And.intro rr_67_0 (And.intro rfl (And.intro (ce_68 hN) (And.intro (((h.1 q7).1 q6).2.2 q5).1 (And.intro rfl (?_)))))))
        show sg_Wp 0 N (d + 2) m_Z_move 36 [(0, 2, 67), (1, 0, v1), (2, 0, v2), (3, 0, v3), (4, 0, v4), (5, 0, v5)] [(0, (-1)), (0, G 68 v3)] G Q
        refine sg_icmp_ne (off := 9) (tgt := 45) (by decide +kernel) (by decide) ⟨fun q4 => ?_, fun q4 => ?_⟩
        · refine sg_blk [(1, 0, 0, 0, 0), (65, 68, 6, 11, 0), (3, 0, 0, 1, 0), (17, 4, 0, 0, 0), (1, 0, 0, 0, 0), (65, 68, 6, 11, 0), (3, 0, 0, 3, 0), (17, 4, 0, 0, 0)] (by decide +kernel) ?_
          refine And.intro (Nat.le_of_ble_eq_true rfl) (And.intro (ce_67 hN) (And.intro rr_67_0 (And.intro rfl (And.intro (ce_68 hN) (And.intro ((((h.1 q7).1 q6).2.2 q5).2.1 q4).1 (And.intro (Nat.le_of_ble_eq_true rfl) (And.intro (ce_67 hN) (And.intro rr_67_0 (And.intro rfl (And.intro (ce_68 hN) (And.intro ((((h.1 q7).1 q6).2.2 q5).2.1 q4).2.1 (?_))))))))))))
          show sg_Wp 0 N (d + 2) m_Z_move 57 [(0, 2, 67), (1, 0, v1), (2, 0, v2), (3, 0, v3), (4, 0, v4), (5, 0, v5)] [(0, G 68 v3), (0, G 68 v1)] G Q
          refine sg_icmp_eq (off := 9) (tgt := 66) (by decide +kernel) (by decide) ⟨fun q3 => ?_, fun q3 => ?_⟩
          · refine sg_blk [(1, 0, 0, 0, 0), (65, 69, 6, 15, 1), (3, 0, 0, 1, 0), (17, 4, 0, 0, 0), (3, 0, 0, 2, 0), (4, 0, 0, 5, 0)] (by decide +kernel) ?_
            refine And.intro (Nat.le_of_ble_eq_true rfl) (And.intro (ce_67 hN) (And.intro rr_67_1 (And.intro rfl (And.intro (ce_69 hN) (And.intro (((((h.1 q7).1 q6).2.2 q5).2.1 q4).2.2.1 q3).1 (And.intro rfl (And.intro rfl (?_))))))))
            show sg_Wp 0 N (d + 2) m_Z_move 75 [(0, 2, 67), (1, 0, v1), (2, 0, v2), (3, 0, v3), (4, 0, v4), (5, 0, v5)] [(0, v5), (0, v2), (0, G 69 v1)] G Q
            refine sg_callS (k := (d + 1)) (y' := m_Z_hasRoom) (av := [(0, G 69 v1), (0, v2), (0, v5)]) (rest := []) (by decide +kernel) cs_Z_hasRoom ml_6_40 rfl (Nat.le_of_ble_eq_true rfl) (Nat.lt_succ_self (d + 1)) (Nat.le_of_ble_eq_true rfl) rfl ?_
            show sg_Wp 0 N (d + 1) m_Z_hasRoom 0 [(0, 0, G 69 v1), (1, 0, v2), (2, 0, v5)] [] G _
            refine s_Z_hasRoom ?_
            show sg_Wp 0 N (d + 2) m_Z_move 78 [(0, 2, 67), (1, 0, v1), (2, 0, v2), (3, 0, v3), (4, 0, v4), (5, 0, v5)] [(0, sg_bo (0 ≤ v2 ∧ 0 ≤ v5 ∧ v5 ≤ (G 69 v1) ∧ v2 ≤ sg_isub (G 69 v1) v5))] G Q
            refine sg_bif_eq (off := 19) (tgt := 97) (by decide +kernel) (by decide) ⟨fun q2 => ?_, fun q2 => ?_⟩
            · refine sg_blk [(1, 0, 0, 0, 0), (65, 69, 6, 15, 1), (3, 0, 0, 3, 0), (17, 4, 0, 0, 0), (4, 0, 0, 4, 0), (4, 0, 0, 5, 0)] (by decide +kernel) ?_
              refine And.intro (Nat.le_of_ble_eq_true rfl) (And.intro (ce_67 hN) (And.intro rr_67_1 (And.intro rfl (And.intro (ce_69 hN) (And.intro ((((((h.1 q7).1 q6).2.2 q5).2.1 q4).2.2.1 q3).2.1 q2).1 (And.intro rfl (And.intro rfl (?_))))))))
              show sg_Wp 0 N (d + 2) m_Z_move 91 [(0, 2, 67), (1, 0, v1), (2, 0, v2), (3, 0, v3), (4, 0, v4), (5, 0, v5)] [(0, v5), (0, v4), (0, G 69 v3)] G Q
              refine sg_callS (k := (d + 1)) (y' := m_Z_hasRoom) (av := [(0, G 69 v3), (0, v4), (0, v5)]) (rest := []) (by decide +kernel) cs_Z_hasRoom ml_6_40 rfl (Nat.le_of_ble_eq_true rfl) (Nat.lt_succ_self (d + 1)) (Nat.le_of_ble_eq_true rfl) rfl ?_
              show sg_Wp 0 N (d + 1) m_Z_hasRoom 0 [(0, 0, G 69 v3), (1, 0, v4), (2, 0, v5)] [] G _
              refine s_Z_hasRoom ?_
              show sg_Wp 0 N (d + 2) m_Z_move 94 [(0, 2, 67), (1, 0, v1), (2, 0, v2), (3, 0, v3), (4, 0, v4), (5, 0, v5)] [(0, sg_bo (0 ≤ v4 ∧ 0 ≤ v5 ∧ v5 ≤ (G 69 v3) ∧ v4 ≤ sg_isub (G 69 v3) v5))] G Q
              refine sg_bif_ne (off := 9) (tgt := 103) (by decide +kernel) (by decide) ⟨fun q1 => ?_, fun q1 => ?_⟩
              · refine sg_blk [(1, 0, 0, 0, 0), (65, 70, 6, 20, 2), (3, 0, 0, 1, 0), (23, 4, 71, 0, 0), (3, 0, 0, 2, 0), (1, 0, 0, 0, 0), (65, 70, 6, 20, 2), (3, 0, 0, 3, 0), (23, 4, 71, 0, 0), (4, 0, 0, 4, 0), (4, 0, 0, 5, 0)] (by decide +kernel) ?_
                refine And.intro (Nat.le_of_ble_eq_true rfl) (And.intro (ce_67 hN) (And.intro rr_67_2 (And.intro rfl (And.intro (And.intro (ce_70 hN) qb_70) (And.intro (((((((h.1 q7).1 q6).2.2 q5).2.1 q4).2.2.1 q3).2.1 q2).2.1 q1).1 (And.intro rfl (And.intro (Nat.le_of_ble_eq_true rfl) (And.intro (ce_67 hN) (And.intro rr_67_2 (And.intro rfl (And.intro (And.intro (ce_70 hN) qb_70) (And.intro (((((((h.1 q7).1 q6).2.2 q5).2.1 q4).2.2.1 q3).2.1 q2).2.1 q1).2.1 (And.intro rfl (And.intro rfl (?_)))))))))))))))
                show sg_Wp 0 N (d + 2) m_Z_move 120 [(0, 2, 67), (1, 0, v1), (2, 0, v2), (3, 0, v3), (4, 0, v4), (5, 0, v5)] [(0, v5), (0, v4), (2, 71 + v3), (0, v2), (2, 71 + v1)] G Q
                refine sg_acopy (by decide +kernel) ma_6_44 (((((((h.1 q7).1 q6).2.2 q5).2.1 q4).2.2.1 q3).2.1 q2).2.1 q1).2.2.1 (((((((h.1 q7).1 q6).2.2 q5).2.1 q4).2.2.1 q3).2.1 q2).2.1 q1).2.2.2.1 (by omega) (Nat.le_of_ble_eq_true rfl) rfl (((((((h.1 q7).1 q6).2.2 q5).2.1 q4).2.2.1 q3).2.1 q2).2.1 q1).2.2.2.2.1 ?_
                show sg_Wp 0 N (d + 2) m_Z_move 123 [(0, 2, 67), (1, 0, v1), (2, 0, v2), (3, 0, v3), (4, 0, v4), (5, 0, v5)] [] (sg_cp G (71 + v1) v2 (71 + v3) v4 v5) Q
                refine sg_blk [(7, 1, 0, 0, 0)] (by decide +kernel) ?_
                refine And.intro rfl (?_)
                show sg_Wp 0 N (d + 2) m_Z_move 124 [(0, 2, 67), (1, 0, v1), (2, 0, v2), (3, 0, v3), (4, 0, v4), (5, 0, v5)] [(0, 1)] (sg_cp G (71 + v1) v2 (71 + v3) v4 v5) Q
                exact sg_ret (by decide +kernel) rfl (Or.inl rfl) ((((((((h.1 q7).1 q6).2.2 q5).2.1 q4).2.2.1 q3).2.1 q2).2.1 q1).2.2.2.2.2)
              · exact sg_Wp.keepk [0] rfl ((((((((h.1 q7).1 q6).2.2 q5).2.1 q4).2.2.1 q3).2.1 q2).2.2 q1))
            · exact sg_Wp.keepk [0] rfl (((((((h.1 q7).1 q6).2.2 q5).2.1 q4).2.2.1 q3).2.2 q2))
          · refine sg_blk [(1, 0, 0, 0, 0), (7, 4, 0, 0, 0)] (by decide +kernel) ?_
            refine And.intro (Nat.le_of_ble_eq_true rfl) (And.intro rfl (?_))
            show sg_Wp 0 N (d + 2) m_Z_move 62 [(0, 2, 67), (1, 0, v1), (2, 0, v2), (3, 0, v3), (4, 0, v4), (5, 0, v5)] [(0, 4), (2, 67)] G Q
            refine sg_callV (k := (d + 1)) (y' := m_Z_found) (av := [(0, 4)]) (rest := []) (b := 67) (by decide +kernel) cv_Z_found ml_6_33 (ce_67 hN) rfl rfl (Nat.le_of_ble_eq_true rfl) (Nat.lt_succ_self (d + 1)) (Nat.le_of_ble_eq_true rfl) rfl ?_
            show sg_Wp 0 N (d + 1) m_Z_found 0 [(0, 2, 67), (1, 0, 4)] [] G _
            refine sg_Wp.mono ((((((h.1 q7).1 q6).2.2 q5).2.1 q4).2.2.2 q3)) (fun r1 G1 hhr1 => ?_)
            show sg_Wp 0 N (d + 2) m_Z_move 65 [(0, 2, 67), (1, 0, v1), (2, 0, v2), (3, 0, v3), (4, 0, v4), (5, 0, v5)] [(0, r1)] G1 Q
            exact sg_ret (by decide +kernel) rfl (Or.inl rfl) hhr1
        · exact sg_Wp.keepk [0] rfl (((((h.1 q7).1 q6).2.2 q5).2.2 q4))
    · exact sg_Wp.keepk [] rfl (((h.1 q7).2 q6))
  · exact sg_Wp.keepk [] rfl ((h.2 q7))
set_option maxRecDepth 100000 in
theorem g_Z_move_67_16 {d N : Nat} (hN : 75 ≤ N) {G : SgM} {Q : Int → SgM → Prop} (h : Q ((-2)) G) : sg_Wp 0 N (d + 2) m_Z_move 16 [] [] G Q := by
  refine sg_blk [(8, (-2), 0, 0, 0)] (by decide +kernel) ?_
  refine And.intro rfl (And.intro rfl (?_))
  show sg_Wp 0 N (d + 2) m_Z_move 18 [] [(0, (-2))] G Q
  exact sg_ret (by decide +kernel) rfl (Or.inl rfl) h
set_option maxRecDepth 100000 in
theorem g_Z_move_67_39 {d N : Nat} (hN : 75 ≤ N) {G : SgM} {Q : Int → SgM → Prop} (h : sg_Wp 0 N (d + 1) m_Z_found 0 [(0, 2, 67), (1, 0, 1)] [] G (fun r2 G2 => Q r2 G2)) : sg_Wp 0 N (d + 2) m_Z_move 39 [(0, 2, 67)] [] G Q := by
  refine sg_blk [(1, 0, 0, 0, 0), (7, 1, 0, 0, 0)] (by decide +kernel) ?_
  refine And.intro (Nat.le_of_ble_eq_true rfl) (And.intro rfl (?_))
  show sg_Wp 0 N (d + 2) m_Z_move 41 [(0, 2, 67)] [(0, 1), (2, 67)] G Q
  refine sg_callV (k := (d + 1)) (y' := m_Z_found) (av := [(0, 1)]) (rest := []) (b := 67) (by decide +kernel) cv_Z_found ml_6_33 (ce_67 hN) rfl rfl (Nat.le_of_ble_eq_true rfl) (Nat.lt_succ_self (d + 1)) (Nat.le_of_ble_eq_true rfl) rfl ?_
  show sg_Wp 0 N (d + 1) m_Z_found 0 [(0, 2, 67), (1, 0, 1)] [] G _
  refine sg_Wp.mono h (fun r2 G2 hhr2 => ?_)
  show sg_Wp 0 N (d + 2) m_Z_move 44 [(0, 2, 67)] [(0, r2)] G2 Q
  exact sg_ret (by decide +kernel) rfl (Or.inl rfl) hhr2
set_option maxRecDepth 100000 in
theorem g_Z_move_67_97 {d N : Nat} (hN : 75 ≤ N) {G : SgM} {Q : Int → SgM → Prop} (h : sg_Wp 0 N (d + 1) m_Z_found 0 [(0, 2, 67), (1, 0, 2)] [] G (fun r3 G3 => Q r3 G3)) : sg_Wp 0 N (d + 2) m_Z_move 97 [(0, 2, 67)] [] G Q := by
  refine sg_blk [(1, 0, 0, 0, 0), (7, 2, 0, 0, 0)] (by decide +kernel) ?_
  refine And.intro (Nat.le_of_ble_eq_true rfl) (And.intro rfl (?_))
  show sg_Wp 0 N (d + 2) m_Z_move 99 [(0, 2, 67)] [(0, 2), (2, 67)] G Q
  refine sg_callV (k := (d + 1)) (y' := m_Z_found) (av := [(0, 2)]) (rest := []) (b := 67) (by decide +kernel) cv_Z_found ml_6_33 (ce_67 hN) rfl rfl (Nat.le_of_ble_eq_true rfl) (Nat.lt_succ_self (d + 1)) (Nat.le_of_ble_eq_true rfl) rfl ?_
  show sg_Wp 0 N (d + 1) m_Z_found 0 [(0, 2, 67), (1, 0, 2)] [] G _
  refine sg_Wp.mono h (fun r3 G3 hhr3 => ?_)
  show sg_Wp 0 N (d + 2) m_Z_move 102 [(0, 2, 67)] [(0, r3)] G3 Q
  exact sg_ret (by decide +kernel) rfl (Or.inl rfl) hhr3
set_option maxRecDepth 100000 in
theorem g_Z_refusalOf_67_0 {d N : Nat} (hN : 75 ≤ N) {v1 : Int} {G : SgM} {Q : Int → SgM → Prop} (h : ((0 ≤ v1 ∧ v1 < 4) → ((0 ≤ v1 ∧ v1 < 4) ∧ (((G 68 v1) ≠ ((-1)) → (Q 0 G)) ∧ (¬ ((G 68 v1) ≠ ((-1))) → (sg_Wp 0 N d m_Z_found 0 [(0, 2, 67), (1, 0, 1)] [] G (fun r1 G1 => Q r1 G1)))))) ∧ (¬ (0 ≤ v1 ∧ v1 < 4) → (Q ((-2)) G))) : sg_Wp 0 N (d + 1) m_Z_refusalOf 0 [(0, 2, 67), (1, 0, v1)] [] G Q := by
  refine sg_blk [(3, 0, 0, 1, 0), (7, 4, 0, 0, 0)] (by decide +kernel) ?_
  refine And.intro rfl (And.intro rfl (?_))
  show sg_Wp 0 N (d + 1) m_Z_refusalOf 2 [(0, 2, 67), (1, 0, v1)] [(0, 4), (0, v1)] G Q
  refine sg_callN (k := d) (y' := m_G_isBelow) (av := [(0, v1), (0, 4)]) (rest := []) (idx := 29) (by decide +kernel) cs_G_isBelow (List.mem_of_getElem? (i := 6) rfl) rfl (Nat.le_of_ble_eq_true rfl) (Nat.lt_succ_self d) (Nat.le_of_ble_eq_true rfl) rfl ?_
  show sg_Wp 0 N d m_G_isBelow 0 [(0, 0, v1), (1, 0, 4)] [] G _
  refine s_G_isBelow ?_
  show sg_Wp 0 N (d + 1) m_Z_refusalOf 5 [(0, 2, 67), (1, 0, v1)] [(0, sg_bo (0 ≤ v1 ∧ v1 < 4))] G Q
  refine sg_bif_ne (off := 6) (tgt := 11) (by decide +kernel) (by decide) ⟨fun q2 => ?_, fun q2 => ?_⟩
  · refine sg_blk [(1, 0, 0, 0, 0), (65, 68, 6, 11, 0), (3, 0, 0, 1, 0), (17, 4, 0, 0, 0), (7, (-1), 0, 0, 0)] (by decide +kernel) ?_
    refine And.intro (Nat.le_of_ble_eq_true rfl) (And.intro (ce_67 hN) (And.intro rr_67_0 (And.intro rfl (And.intro (ce_68 hN) (And.intro (h.1 q2).1 (And.intro rfl (?_)))))))
    show sg_Wp 0 N (d + 1) m_Z_refusalOf 18 [(0, 2, 67), (1, 0, v1)] [(0, (-1)), (0, G 68 v1)] G Q
    refine sg_icmp_ne (off := 11) (tgt := 29) (by decide +kernel) (by decide) ⟨fun q1 => ?_, fun q1 => ?_⟩
    · refine sg_blk [(7, 0, 0, 0, 0)] (by decide +kernel) ?_
      refine And.intro rfl (?_)
      show sg_Wp 0 N (d + 1) m_Z_refusalOf 30 [(0, 2, 67), (1, 0, v1)] [(0, 0)] G Q
      exact sg_ret (by decide +kernel) rfl (Or.inl rfl) (((h.1 q2).2.1 q1))
    · refine sg_blk [(1, 0, 0, 0, 0), (7, 1, 0, 0, 0)] (by decide +kernel) ?_
      refine And.intro (Nat.le_of_ble_eq_true rfl) (And.intro rfl (?_))
      show sg_Wp 0 N (d + 1) m_Z_refusalOf 23 [(0, 2, 67), (1, 0, v1)] [(0, 1), (2, 67)] G Q
      refine sg_callV (k := d) (y' := m_Z_found) (av := [(0, 1)]) (rest := []) (b := 67) (by decide +kernel) cv_Z_found ml_6_33 (ce_67 hN) rfl rfl (Nat.le_of_ble_eq_true rfl) (Nat.lt_succ_self d) (Nat.le_of_ble_eq_true rfl) rfl ?_
      show sg_Wp 0 N d m_Z_found 0 [(0, 2, 67), (1, 0, 1)] [] G _
      refine sg_Wp.mono (((h.1 q2).2.2 q1)) (fun r1 G1 hhr1 => ?_)
      show sg_Wp 0 N (d + 1) m_Z_refusalOf 26 [(0, 2, 67), (1, 0, v1)] [(0, r1)] G1 Q
      refine sg_goto (off := 4) (tgt := 30) (by decide +kernel) (by decide) ?_
      exact sg_ret (by decide +kernel) rfl (Or.inl rfl) hhr1
  · refine sg_blk [(8, (-2), 0, 0, 0)] (by decide +kernel) ?_
    refine And.intro rfl (And.intro rfl (?_))
    show sg_Wp 0 N (d + 1) m_Z_refusalOf 10 [(0, 2, 67), (1, 0, v1)] [(0, (-2))] G Q
    exact sg_ret (by decide +kernel) rfl (Or.inl rfl) ((h.2 q2))
set_option maxRecDepth 100000 in
theorem g_Z_refusalOfItem_67_0 {d N : Nat} (hN : 75 ≤ N) {v1 v2 v3 : Int} {G : SgM} {Q : Int → SgM → Prop} (h : ((0 ≤ v1 ∧ v1 < 4) → (((0 ≤ v2 ∧ v2 < 3) → ((0 ≤ v1 ∧ v1 < 4) ∧ (((G 68 v1) ≠ ((-1)) → ((0 ≤ v1 ∧ v1 < 4) ∧ (((G 68 v1) = v2 → ((0 ≤ v1 ∧ v1 < 4) ∧ (((0 ≤ v3 ∧ v3 < (G 69 v1)) → (Q 0 G)) ∧ (¬ (0 ≤ v3 ∧ v3 < (G 69 v1)) → (sg_Wp 0 N d m_Z_found 0 [(0, 2, 67), (1, 0, 2)] [] G (fun r1 G1 => Q r1 G1)))))) ∧ (¬ ((G 68 v1) = v2) → (sg_Wp 0 N d m_Z_found 0 [(0, 2, 67), (1, 0, 3)] [] G (fun r2 G2 => Q r2 G2)))))) ∧ (¬ ((G 68 v1) ≠ ((-1))) → (sg_Wp 0 N d m_Z_found 0 [(0, 2, 67), (1, 0, 1)] [] G (fun r3 G3 => Q r3 G3)))))) ∧ (¬ (0 ≤ v2 ∧ v2 < 3) → (Q ((-2)) G)))) ∧ (¬ (0 ≤ v1 ∧ v1 < 4) → (Q ((-2)) G))) : sg_Wp 0 N (d + 1) m_Z_refusalOfItem 0 [(0, 2, 67), (1, 0, v1), (2, 0, v2), (3, 0, v3)] [] G Q := by
  refine sg_blk [(3, 0, 0, 1, 0), (7, 4, 0, 0, 0)] (by decide +kernel) ?_
  refine And.intro rfl (And.intro rfl (?_))
  show sg_Wp 0 N (d + 1) m_Z_refusalOfItem 2 [(0, 2, 67), (1, 0, v1), (2, 0, v2), (3, 0, v3)] [(0, 4), (0, v1)] G Q
  refine sg_callN (k := d) (y' := m_G_isBelow) (av := [(0, v1), (0, 4)]) (rest := []) (idx := 29) (by decide +kernel) cs_G_isBelow (List.mem_of_getElem? (i := 6) rfl) rfl (Nat.le_of_ble_eq_true rfl) (Nat.lt_succ_self d) (Nat.le_of_ble_eq_true rfl) rfl ?_
  show sg_Wp 0 N d m_G_isBelow 0 [(0, 0, v1), (1, 0, 4)] [] G _
  refine s_G_isBelow ?_
  show sg_Wp 0 N (d + 1) m_Z_refusalOfItem 5 [(0, 2, 67), (1, 0, v1), (2, 0, v2), (3, 0, v3)] [(0, sg_bo (0 ≤ v1 ∧ v1 < 4))] G Q
  refine sg_bif_eq (off := 11) (tgt := 16) (by decide +kernel) (by decide) ⟨fun q5 => ?_, fun q5 => ?_⟩
  · refine sg_blk [(3, 0, 0, 2, 0), (7, 3, 0, 0, 0)] (by decide +kernel) ?_
    refine And.intro rfl (And.intro rfl (?_))
    show sg_Wp 0 N (d + 1) m_Z_refusalOfItem 10 [(0, 2, 67), (1, 0, v1), (2, 0, v2), (3, 0, v3)] [(0, 3), (0, v2)] G Q
    refine sg_callN (k := d) (y' := m_G_isBelow) (av := [(0, v2), (0, 3)]) (rest := []) (idx := 29) (by decide +kernel) cs_G_isBelow (List.mem_of_getElem? (i := 6) rfl) rfl (Nat.le_of_ble_eq_true rfl) (Nat.lt_succ_self d) (Nat.le_of_ble_eq_true rfl) rfl ?_
    show sg_Wp 0 N d m_G_isBelow 0 [(0, 0, v2), (1, 0, 3)] [] G _
    refine s_G_isBelow ?_
    show sg_Wp 0 N (d + 1) m_Z_refusalOfItem 13 [(0, 2, 67), (1, 0, v1), (2, 0, v2), (3, 0, v3)] [(0, sg_bo (0 ≤ v2 ∧ v2 < 3))] G Q
    refine sg_bif_ne (off := 6) (tgt := 19) (by decide +kernel) (by decide) ⟨fun q4 => ?_, fun q4 => ?_⟩
    · refine sg_blk [(1, 0, 0, 0, 0), (65, 68, 6, 11, 0), (3, 0, 0, 1, 0), (17, 4, 0, 0, 0), (7, (-1), 0, 0, 0)] (by decide +kernel) ?_
      refine And.intro (Nat.le_of_ble_eq_true rfl) (And.intro (ce_67 hN) (And.intro rr_67_0 (And.intro rfl (And.intro (ce_68 hN) (And.intro ((h.1 q5).1 q4).1 (And.intro rfl (?_)))))))
      show sg_Wp 0 N (d + 1) m_Z_refusalOfItem 26 [(0, 2, 67), (1, 0, v1), (2, 0, v2), (3, 0, v3)] [(0, (-1)), (0, G 68 v1)] G Q
      refine sg_icmp_ne (off := 9) (tgt := 35) (by decide +kernel) (by decide) ⟨fun q3 => ?_, fun q3 => ?_⟩
      · refine sg_blk [(1, 0, 0, 0, 0), (65, 68, 6, 11, 0), (3, 0, 0, 1, 0), (17, 4, 0, 0, 0), (3, 0, 0, 2, 0)] (by decide +kernel) ?_
        refine And.intro (Nat.le_of_ble_eq_true rfl) (And.intro (ce_67 hN) (And.intro rr_67_0 (And.intro rfl (And.intro (ce_68 hN) (And.intro (((h.1 q5).1 q4).2.1 q3).1 (And.intro rfl (?_)))))))
        show sg_Wp 0 N (d + 1) m_Z_refusalOfItem 42 [(0, 2, 67), (1, 0, v1), (2, 0, v2), (3, 0, v3)] [(0, v2), (0, G 68 v1)] G Q
        refine sg_icmp_eq (off := 9) (tgt := 51) (by decide +kernel) (by decide) ⟨fun q2 => ?_, fun q2 => ?_⟩
        · refine sg_blk [(3, 0, 0, 3, 0), (1, 0, 0, 0, 0), (65, 69, 6, 15, 1), (3, 0, 0, 1, 0), (17, 4, 0, 0, 0)] (by decide +kernel) ?_
          refine And.intro rfl (And.intro (Nat.le_of_ble_eq_true rfl) (And.intro (ce_67 hN) (And.intro rr_67_1 (And.intro rfl (And.intro (ce_69 hN) (And.intro ((((h.1 q5).1 q4).2.1 q3).2.1 q2).1 (?_)))))))
          show sg_Wp 0 N (d + 1) m_Z_refusalOfItem 58 [(0, 2, 67), (1, 0, v1), (2, 0, v2), (3, 0, v3)] [(0, G 69 v1), (0, v3)] G Q
          refine sg_callN (k := d) (y' := m_G_isBelow) (av := [(0, v3), (0, G 69 v1)]) (rest := []) (idx := 29) (by decide +kernel) cs_G_isBelow (List.mem_of_getElem? (i := 6) rfl) rfl (Nat.le_of_ble_eq_true rfl) (Nat.lt_succ_self d) (Nat.le_of_ble_eq_true rfl) rfl ?_
          show sg_Wp 0 N d m_G_isBelow 0 [(0, 0, v3), (1, 0, G 69 v1)] [] G _
          refine s_G_isBelow ?_
          show sg_Wp 0 N (d + 1) m_Z_refusalOfItem 61 [(0, 2, 67), (1, 0, v1), (2, 0, v2), (3, 0, v3)] [(0, sg_bo (0 ≤ v3 ∧ v3 < (G 69 v1)))] G Q
          refine sg_bif_eq (off := 7) (tgt := 68) (by decide +kernel) (by decide) ⟨fun q1 => ?_, fun q1 => ?_⟩
          · refine sg_blk [(7, 0, 0, 0, 0)] (by decide +kernel) ?_
            refine And.intro rfl (?_)
            show sg_Wp 0 N (d + 1) m_Z_refusalOfItem 65 [(0, 2, 67), (1, 0, v1), (2, 0, v2), (3, 0, v3)] [(0, 0)] G Q
            refine sg_goto (off := 8) (tgt := 73) (by decide +kernel) (by decide) ?_
            exact sg_ret (by decide +kernel) rfl (Or.inl rfl) ((((((h.1 q5).1 q4).2.1 q3).2.1 q2).2.1 q1))
          · refine sg_blk [(1, 0, 0, 0, 0), (7, 2, 0, 0, 0)] (by decide +kernel) ?_
            refine And.intro (Nat.le_of_ble_eq_true rfl) (And.intro rfl (?_))
            show sg_Wp 0 N (d + 1) m_Z_refusalOfItem 70 [(0, 2, 67), (1, 0, v1), (2, 0, v2), (3, 0, v3)] [(0, 2), (2, 67)] G Q
            refine sg_callV (k := d) (y' := m_Z_found) (av := [(0, 2)]) (rest := []) (b := 67) (by decide +kernel) cv_Z_found ml_6_33 (ce_67 hN) rfl rfl (Nat.le_of_ble_eq_true rfl) (Nat.lt_succ_self d) (Nat.le_of_ble_eq_true rfl) rfl ?_
            show sg_Wp 0 N d m_Z_found 0 [(0, 2, 67), (1, 0, 2)] [] G _
            refine sg_Wp.mono ((((((h.1 q5).1 q4).2.1 q3).2.1 q2).2.2 q1)) (fun r1 G1 hhr1 => ?_)
            show sg_Wp 0 N (d + 1) m_Z_refusalOfItem 73 [(0, 2, 67), (1, 0, v1), (2, 0, v2), (3, 0, v3)] [(0, r1)] G1 Q
            exact sg_ret (by decide +kernel) rfl (Or.inl rfl) hhr1
        · refine sg_blk [(1, 0, 0, 0, 0), (7, 3, 0, 0, 0)] (by decide +kernel) ?_
          refine And.intro (Nat.le_of_ble_eq_true rfl) (And.intro rfl (?_))
          show sg_Wp 0 N (d + 1) m_Z_refusalOfItem 47 [(0, 2, 67), (1, 0, v1), (2, 0, v2), (3, 0, v3)] [(0, 3), (2, 67)] G Q
          refine sg_callV (k := d) (y' := m_Z_found) (av := [(0, 3)]) (rest := []) (b := 67) (by decide +kernel) cv_Z_found ml_6_33 (ce_67 hN) rfl rfl (Nat.le_of_ble_eq_true rfl) (Nat.lt_succ_self d) (Nat.le_of_ble_eq_true rfl) rfl ?_
          show sg_Wp 0 N d m_Z_found 0 [(0, 2, 67), (1, 0, 3)] [] G _
          refine sg_Wp.mono (((((h.1 q5).1 q4).2.1 q3).2.2 q2)) (fun r2 G2 hhr2 => ?_)
          show sg_Wp 0 N (d + 1) m_Z_refusalOfItem 50 [(0, 2, 67), (1, 0, v1), (2, 0, v2), (3, 0, v3)] [(0, r2)] G2 Q
          exact sg_ret (by decide +kernel) rfl (Or.inl rfl) hhr2
      · refine sg_blk [(1, 0, 0, 0, 0), (7, 1, 0, 0, 0)] (by decide +kernel) ?_
        refine And.intro (Nat.le_of_ble_eq_true rfl) (And.intro rfl (?_))
        show sg_Wp 0 N (d + 1) m_Z_refusalOfItem 31 [(0, 2, 67), (1, 0, v1), (2, 0, v2), (3, 0, v3)] [(0, 1), (2, 67)] G Q
        refine sg_callV (k := d) (y' := m_Z_found) (av := [(0, 1)]) (rest := []) (b := 67) (by decide +kernel) cv_Z_found ml_6_33 (ce_67 hN) rfl rfl (Nat.le_of_ble_eq_true rfl) (Nat.lt_succ_self d) (Nat.le_of_ble_eq_true rfl) rfl ?_
        show sg_Wp 0 N d m_Z_found 0 [(0, 2, 67), (1, 0, 1)] [] G _
        refine sg_Wp.mono ((((h.1 q5).1 q4).2.2 q3)) (fun r3 G3 hhr3 => ?_)
        show sg_Wp 0 N (d + 1) m_Z_refusalOfItem 34 [(0, 2, 67), (1, 0, v1), (2, 0, v2), (3, 0, v3)] [(0, r3)] G3 Q
        exact sg_ret (by decide +kernel) rfl (Or.inl rfl) hhr3
    · refine sg_blk [(8, (-2), 0, 0, 0)] (by decide +kernel) ?_
      refine And.intro rfl (And.intro rfl (?_))
      show sg_Wp 0 N (d + 1) m_Z_refusalOfItem 18 [(0, 2, 67), (1, 0, v1), (2, 0, v2), (3, 0, v3)] [(0, (-2))] G Q
      exact sg_ret (by decide +kernel) rfl (Or.inl rfl) (((h.1 q5).2 q4))
  · refine sg_blk [(8, (-2), 0, 0, 0)] (by decide +kernel) ?_
    refine And.intro rfl (And.intro rfl (?_))
    show sg_Wp 0 N (d + 1) m_Z_refusalOfItem 18 [(0, 2, 67), (1, 0, v1), (2, 0, v2), (3, 0, v3)] [(0, (-2))] G Q
    exact sg_ret (by decide +kernel) rfl (Or.inl rfl) ((h.2 q5))
set_option maxRecDepth 100000 in
theorem g_Z_lengthOf_67_0 {d N : Nat} (hN : 75 ≤ N) {v1 : Int} {G : SgM} {Q : Int → SgM → Prop} (h : ((0 ≤ v1 ∧ v1 < 4) → ((0 ≤ v1 ∧ v1 < 4) ∧ (Q (G 69 v1) G))) ∧ (¬ (0 ≤ v1 ∧ v1 < 4) → (Q 0 G))) : sg_Wp 0 N (d + 1) m_Z_lengthOf 0 [(0, 2, 67), (1, 0, v1)] [] G Q := by
  refine sg_blk [(3, 0, 0, 1, 0), (7, 4, 0, 0, 0)] (by decide +kernel) ?_
  refine And.intro rfl (And.intro rfl (?_))
  show sg_Wp 0 N (d + 1) m_Z_lengthOf 2 [(0, 2, 67), (1, 0, v1)] [(0, 4), (0, v1)] G Q
  refine sg_callN (k := d) (y' := m_G_isBelow) (av := [(0, v1), (0, 4)]) (rest := []) (idx := 29) (by decide +kernel) cs_G_isBelow (List.mem_of_getElem? (i := 6) rfl) rfl (Nat.le_of_ble_eq_true rfl) (Nat.lt_succ_self d) (Nat.le_of_ble_eq_true rfl) rfl ?_
  show sg_Wp 0 N d m_G_isBelow 0 [(0, 0, v1), (1, 0, 4)] [] G _
  refine s_G_isBelow ?_
  show sg_Wp 0 N (d + 1) m_Z_lengthOf 5 [(0, 2, 67), (1, 0, v1)] [(0, sg_bo (0 ≤ v1 ∧ v1 < 4))] G Q
  refine sg_bif_eq (off := 12) (tgt := 17) (by decide +kernel) (by decide) ⟨fun q1 => ?_, fun q1 => ?_⟩
  · refine sg_blk [(1, 0, 0, 0, 0), (65, 69, 6, 15, 1), (3, 0, 0, 1, 0), (17, 4, 0, 0, 0)] (by decide +kernel) ?_
    refine And.intro (Nat.le_of_ble_eq_true rfl) (And.intro (ce_67 hN) (And.intro rr_67_1 (And.intro rfl (And.intro (ce_69 hN) (And.intro (h.1 q1).1 (?_))))))
    show sg_Wp 0 N (d + 1) m_Z_lengthOf 14 [(0, 2, 67), (1, 0, v1)] [(0, G 69 v1)] G Q
    refine sg_goto (off := 4) (tgt := 18) (by decide +kernel) (by decide) ?_
    exact sg_ret (by decide +kernel) rfl (Or.inl rfl) ((h.1 q1).2)
  · refine sg_blk [(7, 0, 0, 0, 0)] (by decide +kernel) ?_
    refine And.intro rfl (?_)
    show sg_Wp 0 N (d + 1) m_Z_lengthOf 18 [(0, 2, 67), (1, 0, v1)] [(0, 0)] G Q
    exact sg_ret (by decide +kernel) rfl (Or.inl rfl) ((h.2 q1))
set_option maxRecDepth 100000 in
theorem g_Z_item_67_0 {d N : Nat} (hN : 75 ≤ N) {v1 v2 : Int} {G : SgM} {Q : Int → SgM → Prop} (h : sg_Wp 0 N d m_Z_lengthOf 0 [(0, 2, 67), (1, 0, v1)] [] G (fun r1 G1 => ((0 ≤ v2 ∧ v2 < r1) → ((0 ≤ v1 ∧ v1 < 4) ∧ (sg_Ce 0 N (71 + v1) 1 60) ∧ (0 ≤ v2 ∧ v2 < 60) ∧ (Q (G1 (71 + v1) v2) G1))) ∧ (¬ (0 ≤ v2 ∧ v2 < r1) → (Q 0 G1)))) : sg_Wp 0 N (d + 1) m_Z_item 0 [(0, 2, 67), (1, 0, v1), (2, 0, v2)] [] G Q := by
  refine sg_blk [(3, 0, 0, 2, 0), (1, 0, 0, 0, 0), (3, 0, 0, 1, 0)] (by decide +kernel) ?_
  refine And.intro rfl (And.intro (Nat.le_of_ble_eq_true rfl) (And.intro rfl (?_)))
  show sg_Wp 0 N (d + 1) m_Z_item 3 [(0, 2, 67), (1, 0, v1), (2, 0, v2)] [(0, v1), (2, 67), (0, v2)] G Q
  refine sg_callV (k := d) (y' := m_Z_lengthOf) (av := [(0, v1)]) (rest := [(0, v2)]) (b := 67) (by decide +kernel) cv_Z_lengthOf ml_6_50 (ce_67 hN) rfl rfl (Nat.le_of_ble_eq_true rfl) (Nat.lt_succ_self d) (Nat.le_of_ble_eq_true rfl) rfl ?_
  show sg_Wp 0 N d m_Z_lengthOf 0 [(0, 2, 67), (1, 0, v1)] [] G _
  refine sg_Wp.mono h (fun r1 G1 hhr1 => ?_)
  show sg_Wp 0 N (d + 1) m_Z_item 6 [(0, 2, 67), (1, 0, v1), (2, 0, v2)] [(0, r1), (0, v2)] G1 Q
  refine sg_callN (k := d) (y' := m_G_isBelow) (av := [(0, v2), (0, r1)]) (rest := []) (idx := 29) (by decide +kernel) cs_G_isBelow (List.mem_of_getElem? (i := 6) rfl) rfl (Nat.le_of_ble_eq_true rfl) (Nat.lt_succ_self d) (Nat.le_of_ble_eq_true rfl) rfl ?_
  show sg_Wp 0 N d m_G_isBelow 0 [(0, 0, v2), (1, 0, r1)] [] G1 _
  refine s_G_isBelow ?_
  show sg_Wp 0 N (d + 1) m_Z_item 9 [(0, 2, 67), (1, 0, v1), (2, 0, v2)] [(0, sg_bo (0 ≤ v2 ∧ v2 < r1))] G1 Q
  refine sg_bif_eq (off := 14) (tgt := 23) (by decide +kernel) (by decide) ⟨fun q1 => ?_, fun q1 => ?_⟩
  · refine sg_blk [(1, 0, 0, 0, 0), (65, 70, 6, 20, 2), (3, 0, 0, 1, 0), (23, 4, 71, 0, 0), (3, 0, 0, 2, 0), (17, 60, 0, 0, 0)] (by decide +kernel) ?_
    refine And.intro (Nat.le_of_ble_eq_true rfl) (And.intro (ce_67 hN) (And.intro rr_67_2 (And.intro rfl (And.intro (And.intro (ce_70 hN) qb_70) (And.intro (hhr1.1 q1).1 (And.intro rfl (And.intro (hhr1.1 q1).2.1 (And.intro (hhr1.1 q1).2.2.1 (?_)))))))))
    show sg_Wp 0 N (d + 1) m_Z_item 20 [(0, 2, 67), (1, 0, v1), (2, 0, v2)] [(0, G1 (71 + v1) v2)] G1 Q
    refine sg_goto (off := 4) (tgt := 24) (by decide +kernel) (by decide) ?_
    exact sg_ret (by decide +kernel) rfl (Or.inl rfl) ((hhr1.1 q1).2.2.2)
  · refine sg_blk [(7, 0, 0, 0, 0)] (by decide +kernel) ?_
    refine And.intro rfl (?_)
    show sg_Wp 0 N (d + 1) m_Z_item 24 [(0, 2, 67), (1, 0, v1), (2, 0, v2)] [(0, 0)] G1 Q
    exact sg_ret (by decide +kernel) rfl (Or.inl rfl) ((hhr1.2 q1))
set_option maxRecDepth 100000 in
theorem g_Z_put_67_0 {d N : Nat} (hN : 75 ≤ N) {v1 v2 v3 : Int} {G : SgM} {Q : Int → SgM → Prop} (h : sg_Wp 0 N d m_Z_lengthOf 0 [(0, 2, 67), (1, 0, v1)] [] G (fun r1 G1 => ((0 ≤ v2 ∧ v2 < r1) → ((0 ≤ v1 ∧ v1 < 4) ∧ (((G1 68 v1) ≠ 0 → ((0 ≤ v1 ∧ v1 < 4) ∧ (((G1 68 v1) ≠ 1 → ((0 ≤ v1 ∧ v1 < 4) ∧ (sg_Ce 0 N (71 + v1) 1 60) ∧ (0 ≤ v2 ∧ v2 < 60) ∧ (Q 0 (sg_up G1 (71 + v1) v2 v3)))) ∧ (¬ ((G1 68 v1) ≠ 1) → ((0 ≤ v1 ∧ v1 < 4) ∧ (sg_Ce 0 N (71 + v1) 1 60) ∧ (0 ≤ v2 ∧ v2 < 60) ∧ (Q 0 (sg_up G1 (71 + v1) v2 (sg_i2s v3)))))))) ∧ (¬ ((G1 68 v1) ≠ 0) → ((0 ≤ v1 ∧ v1 < 4) ∧ (sg_Ce 0 N (71 + v1) 1 60) ∧ (0 ≤ v2 ∧ v2 < 60) ∧ (Q 0 (sg_up G1 (71 + v1) v2 (sg_i2b v3)))))))) ∧ (¬ (0 ≤ v2 ∧ v2 < r1) → (Q 0 G1)))) : sg_Wp 0 N (d + 1) m_Z_put 0 [(0, 2, 67), (1, 0, v1), (2, 0, v2), (3, 0, v3)] [] G Q := by
  refine sg_blk [(3, 0, 0, 2, 0), (1, 0, 0, 0, 0), (3, 0, 0, 1, 0)] (by decide +kernel) ?_
  refine And.intro rfl (And.intro (Nat.le_of_ble_eq_true rfl) (And.intro rfl (?_)))
  show sg_Wp 0 N (d + 1) m_Z_put 3 [(0, 2, 67), (1, 0, v1), (2, 0, v2), (3, 0, v3)] [(0, v1), (2, 67), (0, v2)] G Q
  refine sg_callV (k := d) (y' := m_Z_lengthOf) (av := [(0, v1)]) (rest := [(0, v2)]) (b := 67) (by decide +kernel) cv_Z_lengthOf ml_6_50 (ce_67 hN) rfl rfl (Nat.le_of_ble_eq_true rfl) (Nat.lt_succ_self d) (Nat.le_of_ble_eq_true rfl) rfl ?_
  show sg_Wp 0 N d m_Z_lengthOf 0 [(0, 2, 67), (1, 0, v1)] [] G _
  refine sg_Wp.mono h (fun r1 G1 hhr1 => ?_)
  show sg_Wp 0 N (d + 1) m_Z_put 6 [(0, 2, 67), (1, 0, v1), (2, 0, v2), (3, 0, v3)] [(0, r1), (0, v2)] G1 Q
  refine sg_callN (k := d) (y' := m_G_isBelow) (av := [(0, v2), (0, r1)]) (rest := []) (idx := 29) (by decide +kernel) cs_G_isBelow (List.mem_of_getElem? (i := 6) rfl) rfl (Nat.le_of_ble_eq_true rfl) (Nat.lt_succ_self d) (Nat.le_of_ble_eq_true rfl) rfl ?_
  show sg_Wp 0 N d m_G_isBelow 0 [(0, 0, v2), (1, 0, r1)] [] G1 _
  refine s_G_isBelow ?_
  show sg_Wp 0 N (d + 1) m_Z_put 9 [(0, 2, 67), (1, 0, v1), (2, 0, v2), (3, 0, v3)] [(0, sg_bo (0 ≤ v2 ∧ v2 < r1))] G1 Q
  refine sg_bif_ne (off := 4) (tgt := 13) (by decide +kernel) (by decide) ⟨fun q3 => ?_, fun q3 => ?_⟩
  · refine sg_blk [(1, 0, 0, 0, 0), (65, 68, 6, 11, 0), (3, 0, 0, 1, 0), (17, 4, 0, 0, 0)] (by decide +kernel) ?_
    refine And.intro (Nat.le_of_ble_eq_true rfl) (And.intro (ce_67 hN) (And.intro rr_67_0 (And.intro rfl (And.intro (ce_68 hN) (And.intro (hhr1.1 q3).1 (?_))))))
    show sg_Wp 0 N (d + 1) m_Z_put 19 [(0, 2, 67), (1, 0, v1), (2, 0, v2), (3, 0, v3)] [(0, G1 68 v1)] G1 Q
    refine sg_if_ne (off := 16) (tgt := 35) (by decide +kernel) (by decide) ⟨fun q2 => ?_, fun q2 => ?_⟩
    · refine sg_blk [(1, 0, 0, 0, 0), (65, 68, 6, 11, 0), (3, 0, 0, 1, 0), (17, 4, 0, 0, 0), (7, 1, 0, 0, 0)] (by decide +kernel) ?_
      refine And.intro (Nat.le_of_ble_eq_true rfl) (And.intro (ce_67 hN) (And.intro rr_67_0 (And.intro rfl (And.intro (ce_68 hN) (And.intro ((hhr1.1 q3).2.1 q2).1 (And.intro rfl (?_)))))))
      show sg_Wp 0 N (d + 1) m_Z_put 42 [(0, 2, 67), (1, 0, v1), (2, 0, v2), (3, 0, v3)] [(0, 1), (0, G1 68 v1)] G1 Q
      refine sg_icmp_ne (off := 16) (tgt := 58) (by decide +kernel) (by decide) ⟨fun q1 => ?_, fun q1 => ?_⟩
      · refine sg_blk [(1, 0, 0, 0, 0), (65, 70, 6, 20, 2), (3, 0, 0, 1, 0), (23, 4, 71, 0, 0), (3, 0, 0, 2, 0), (3, 0, 0, 3, 0), (18, 60, 0, 0, 0)] (by decide +kernel) ?_
        refine And.intro (Nat.le_of_ble_eq_true rfl) (And.intro (ce_67 hN) (And.intro rr_67_2 (And.intro rfl (And.intro (And.intro (ce_70 hN) qb_70) (And.intro (((hhr1.1 q3).2.1 q2).2.1 q1).1 (And.intro rfl (And.intro rfl (And.intro (((hhr1.1 q3).2.1 q2).2.1 q1).2.1 (And.intro (((hhr1.1 q3).2.1 q2).2.1 q1).2.2.1 (?_))))))))))
        show sg_Wp 0 N (d + 1) m_Z_put 67 [(0, 2, 67), (1, 0, v1), (2, 0, v2), (3, 0, v3)] [] (sg_up G1 (71 + v1) v2 v3) Q
        exact sg_vret (by decide +kernel) rfl ((((hhr1.1 q3).2.1 q2).2.1 q1).2.2.2)
      · refine sg_blk [(1, 0, 0, 0, 0), (65, 70, 6, 20, 2), (3, 0, 0, 1, 0), (23, 4, 71, 0, 0), (3, 0, 0, 2, 0), (3, 0, 0, 3, 0), (55, 0, 0, 0, 0), (18, 60, 0, 0, 0)] (by decide +kernel) ?_
        refine And.intro (Nat.le_of_ble_eq_true rfl) (And.intro (ce_67 hN) (And.intro rr_67_2 (And.intro rfl (And.intro (And.intro (ce_70 hN) qb_70) (And.intro (((hhr1.1 q3).2.1 q2).2.2 q1).1 (And.intro rfl (And.intro rfl (And.intro (((hhr1.1 q3).2.1 q2).2.2 q1).2.1 (And.intro (((hhr1.1 q3).2.1 q2).2.2 q1).2.2.1 (?_))))))))))
        show sg_Wp 0 N (d + 1) m_Z_put 55 [(0, 2, 67), (1, 0, v1), (2, 0, v2), (3, 0, v3)] [] (sg_up G1 (71 + v1) v2 (sg_i2s v3)) Q
        refine sg_goto (off := 12) (tgt := 67) (by decide +kernel) (by decide) ?_
        exact sg_vret (by decide +kernel) rfl ((((hhr1.1 q3).2.1 q2).2.2 q1).2.2.2)
    · refine sg_blk [(1, 0, 0, 0, 0), (65, 70, 6, 20, 2), (3, 0, 0, 1, 0), (23, 4, 71, 0, 0), (3, 0, 0, 2, 0), (3, 0, 0, 3, 0), (54, 0, 0, 0, 0), (18, 60, 0, 0, 0)] (by decide +kernel) ?_
      refine And.intro (Nat.le_of_ble_eq_true rfl) (And.intro (ce_67 hN) (And.intro rr_67_2 (And.intro rfl (And.intro (And.intro (ce_70 hN) qb_70) (And.intro ((hhr1.1 q3).2.2 q2).1 (And.intro rfl (And.intro rfl (And.intro ((hhr1.1 q3).2.2 q2).2.1 (And.intro ((hhr1.1 q3).2.2 q2).2.2.1 (?_))))))))))
      show sg_Wp 0 N (d + 1) m_Z_put 32 [(0, 2, 67), (1, 0, v1), (2, 0, v2), (3, 0, v3)] [] (sg_up G1 (71 + v1) v2 (sg_i2b v3)) Q
      refine sg_goto (off := 35) (tgt := 67) (by decide +kernel) (by decide) ?_
      exact sg_vret (by decide +kernel) rfl (((hhr1.1 q3).2.2 q2).2.2.2)
  · exact sg_vret (by decide +kernel) rfl ((hhr1.2 q3))
set_option maxRecDepth 100000 in
theorem g_Z_found_67_0 {d N : Nat} (hN : 75 ≤ N) {v1 : Int} {G : SgM} {Q : Int → SgM → Prop} (h : Q (sg_isub ((-10)) v1) (sg_up G 67 3 v1)) : sg_Wp 0 N d m_Z_found 0 [(0, 2, 67), (1, 0, v1)] [] G Q := by
  refine sg_blk [(1, 0, 0, 0, 0), (3, 0, 0, 1, 0), (16, 0, 6, 53, 3), (8, (-10), 0, 0, 0), (3, 0, 0, 1, 0), (33, 0, 0, 0, 0)] (by decide +kernel) ?_
  refine And.intro (Nat.le_of_ble_eq_true rfl) (And.intro rfl (And.intro (ce_67 hN) (And.intro rfl (And.intro rfl (And.intro rfl (?_))))))
  show sg_Wp 0 N d m_Z_found 9 [(0, 2, 67), (1, 0, v1)] [(0, sg_isub ((-10)) v1)] (sg_up G 67 3 v1) Q
  exact sg_ret (by decide +kernel) rfl (Or.inl rfl) h
