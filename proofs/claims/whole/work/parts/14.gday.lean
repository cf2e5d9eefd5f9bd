/-! CUT LEMMAS, printed by a program -/
set_option maxRecDepth 100000 in
theorem g_D_pass_21_0 {d N : Nat} (hN : 44 ≤ N) {G : SgM} {Q : Int → SgM → Prop} (h : sg_Wp 0 N d m_D_begin 0 [(0, 2, 21)] [] G (fun r1 G1 => sg_Wp 0 N (d + 1) m_D_pass 6 [(0, 2, 21), (1, 0, 0)] [] G1 Q)) : sg_Wp 0 N (d + 1) m_D_pass 0 [(0, 2, 21)] [] G Q := by
  refine sg_blk [(1, 0, 0, 0, 0)] (by decide +kernel) ?_
  refine And.intro (Nat.le_of_ble_eq_true rfl) (?_)
  show sg_Wp 0 N (d + 1) m_D_pass 1 [(0, 2, 21)] [(2, 21)] G Q
  refine sg_callV (k := d) (y' := m_D_begin) (av := []) (rest := []) (b := 21) (by decide +kernel) cv_D_begin ml_1_50 (ce_21 hN) rfl rfl (Nat.le_of_ble_eq_true rfl) (Nat.lt_succ_self d) (Nat.le_of_ble_eq_true rfl) rfl ?_
  show sg_Wp 0 N d m_D_begin 0 [(0, 2, 21)] [] G _
  refine sg_Wp.mono h (fun r1 G1 hhr1 => ?_)
  show sg_Wp 0 N (d + 1) m_D_pass 4 [(0, 2, 21)] [] G1 Q
  refine sg_blk [(7, 0, 0, 0, 0), (25, 0, 0, 1, 0)] (by decide +kernel) ?_
  refine And.intro rfl (And.intro rfl (?_))
  show sg_Wp 0 N (d + 1) m_D_pass 6 [(0, 2, 21), (1, 0, 0)] [] G1 Q
  exact hhr1
set_option maxRecDepth 100000 in
theorem g_D_pass_21_6 {d N : Nat} (hN : 44 ≤ N) {v1 : Int} {G : SgM} {Q : Int → SgM → Prop} (h : (24 ≤ v1 → (Q 0 G)) ∧ (¬ (24 ≤ v1) → (sg_Wp 0 N d m_D_walk 0 [(0, 2, 21), (1, 0, v1)] [] G (fun r2 G2 => sg_Wp 0 N d m_D_sneeze 0 [(0, 2, 21), (1, 0, v1)] [] G2 (fun r3 G3 => sg_Wp 0 N d m_D_changeGuard 0 [(0, 2, 21), (1, 0, v1)] [] G3 (fun r4 G4 => sg_Wp 0 N d m_D_stand 0 [(0, 2, 21), (1, 0, v1)] [] G4 (fun r5 G5 => sg_Wp 0 N d m_D_spreadColds 0 [(0, 2, 21), (1, 0, v1)] [] G5 (fun r6 G6 => sg_Wp 0 N (d + 1) m_D_pass 6 [(0, 2, 21), (1, 0, sg_iadd v1 1)] [] G6 Q)))))))) : sg_Wp 0 N (d + 1) m_D_pass 6 [(0, 2, 21), (1, 0, v1)] [] G Q := by
  refine sg_blk [(3, 0, 0, 1, 0), (8, 24, 0, 0, 0)] (by decide +kernel) ?_
  refine And.intro rfl (And.intro rfl (And.intro rfl (?_)))
  show sg_Wp 0 N (d + 1) m_D_pass 9 [(0, 2, 21), (1, 0, v1)] [(0, 24), (0, v1)] G Q
  refine sg_icmp_ge (off := 34) (tgt := 43) (by decide +kernel) (by decide) ⟨fun q1 => ?_, fun q1 => ?_⟩
  · exact sg_vret (by decide +kernel) rfl ((h.1 q1))
  · refine sg_blk [(1, 0, 0, 0, 0), (3, 0, 0, 1, 0)] (by decide +kernel) ?_
    refine And.intro (Nat.le_of_ble_eq_true rfl) (And.intro rfl (?_))
    show sg_Wp 0 N (d + 1) m_D_pass 14 [(0, 2, 21), (1, 0, v1)] [(0, v1), (2, 21)] G Q
    refine sg_callV (k := d) (y' := m_D_walk) (av := [(0, v1)]) (rest := []) (b := 21) (by decide +kernel) cv_D_walk ml_1_53 (ce_21 hN) rfl rfl (Nat.le_of_ble_eq_true rfl) (Nat.lt_succ_self d) (Nat.le_of_ble_eq_true rfl) rfl ?_
    show sg_Wp 0 N d m_D_walk 0 [(0, 2, 21), (1, 0, v1)] [] G _
    refine sg_Wp.mono ((h.2 q1)) (fun r2 G2 hhr2 => ?_)
    show sg_Wp 0 N (d + 1) m_D_pass 17 [(0, 2, 21), (1, 0, v1)] [] G2 Q
    refine sg_blk [(1, 0, 0, 0, 0), (3, 0, 0, 1, 0)] (by decide +kernel) ?_
    refine And.intro (Nat.le_of_ble_eq_true rfl) (And.intro rfl (?_))
    show sg_Wp 0 N (d + 1) m_D_pass 19 [(0, 2, 21), (1, 0, v1)] [(0, v1), (2, 21)] G2 Q
    refine sg_callV (k := d) (y' := m_D_sneeze) (av := [(0, v1)]) (rest := []) (b := 21) (by decide +kernel) cv_D_sneeze ml_1_57 (ce_21 hN) rfl rfl (Nat.le_of_ble_eq_true rfl) (Nat.lt_succ_self d) (Nat.le_of_ble_eq_true rfl) rfl ?_
    show sg_Wp 0 N d m_D_sneeze 0 [(0, 2, 21), (1, 0, v1)] [] G2 _
    refine sg_Wp.mono hhr2 (fun r3 G3 hhr3 => ?_)
    show sg_Wp 0 N (d + 1) m_D_pass 22 [(0, 2, 21), (1, 0, v1)] [] G3 Q
    refine sg_blk [(1, 0, 0, 0, 0), (3, 0, 0, 1, 0)] (by decide +kernel) ?_
    refine And.intro (Nat.le_of_ble_eq_true rfl) (And.intro rfl (?_))
    show sg_Wp 0 N (d + 1) m_D_pass 24 [(0, 2, 21), (1, 0, v1)] [(0, v1), (2, 21)] G3 Q
    refine sg_callV (k := d) (y' := m_D_changeGuard) (av := [(0, v1)]) (rest := []) (b := 21) (by decide +kernel) cv_D_changeGuard ml_1_60 (ce_21 hN) rfl rfl (Nat.le_of_ble_eq_true rfl) (Nat.lt_succ_self d) (Nat.le_of_ble_eq_true rfl) rfl ?_
    show sg_Wp 0 N d m_D_changeGuard 0 [(0, 2, 21), (1, 0, v1)] [] G3 _
    refine sg_Wp.mono hhr3 (fun r4 G4 hhr4 => ?_)
    show sg_Wp 0 N (d + 1) m_D_pass 27 [(0, 2, 21), (1, 0, v1)] [] G4 Q
    refine sg_blk [(1, 0, 0, 0, 0), (3, 0, 0, 1, 0)] (by decide +kernel) ?_
    refine And.intro (Nat.le_of_ble_eq_true rfl) (And.intro rfl (?_))
    show sg_Wp 0 N (d + 1) m_D_pass 29 [(0, 2, 21), (1, 0, v1)] [(0, v1), (2, 21)] G4 Q
    refine sg_callV (k := d) (y' := m_D_stand) (av := [(0, v1)]) (rest := []) (b := 21) (by decide +kernel) cv_D_stand ml_1_63 (ce_21 hN) rfl rfl (Nat.le_of_ble_eq_true rfl) (Nat.lt_succ_self d) (Nat.le_of_ble_eq_true rfl) rfl ?_
    show sg_Wp 0 N d m_D_stand 0 [(0, 2, 21), (1, 0, v1)] [] G4 _
    refine sg_Wp.mono hhr4 (fun r5 G5 hhr5 => ?_)
    show sg_Wp 0 N (d + 1) m_D_pass 32 [(0, 2, 21), (1, 0, v1)] [] G5 Q
    refine sg_blk [(1, 0, 0, 0, 0), (3, 0, 0, 1, 0)] (by decide +kernel) ?_
    refine And.intro (Nat.le_of_ble_eq_true rfl) (And.intro rfl (?_))
    show sg_Wp 0 N (d + 1) m_D_pass 34 [(0, 2, 21), (1, 0, v1)] [(0, v1), (2, 21)] G5 Q
    refine sg_callV (k := d) (y' := m_D_spreadColds) (av := [(0, v1)]) (rest := []) (b := 21) (by decide +kernel) cv_D_spreadColds ml_1_66 (ce_21 hN) rfl rfl (Nat.le_of_ble_eq_true rfl) (Nat.lt_succ_self d) (Nat.le_of_ble_eq_true rfl) rfl ?_
    show sg_Wp 0 N d m_D_spreadColds 0 [(0, 2, 21), (1, 0, v1)] [] G5 _
    refine sg_Wp.mono hhr5 (fun r6 G6 hhr6 => ?_)
    show sg_Wp 0 N (d + 1) m_D_pass 37 [(0, 2, 21), (1, 0, v1)] [] G6 Q
    refine sg_blk [(31, 1, 0, 1, 0)] (by decide +kernel) ?_
    refine And.intro rfl (?_)
    show sg_Wp 0 N (d + 1) m_D_pass 40 [(0, 2, 21), (1, 0, sg_iadd v1 1)] [] G6 Q
    refine sg_goto (off := -34) (tgt := 6) (by decide +kernel) (by decide) ?_
    exact hhr6
set_option maxRecDepth 100000 in
theorem g_D_begin_21_0 {d N : Nat} (hN : 44 ≤ N) {G : SgM} {Q : Int → SgM → Prop} (h : sg_Wp 0 N (d + 1) m_D_begin 2 [(0, 2, 21), (1, 0, 0)] [] G Q) : sg_Wp 0 N (d + 1) m_D_begin 0 [(0, 2, 21)] [] G Q := by
  refine sg_blk [(7, 0, 0, 0, 0), (25, 0, 0, 1, 0)] (by decide +kernel) ?_
  refine And.intro rfl (And.intro rfl (?_))
  show sg_Wp 0 N (d + 1) m_D_begin 2 [(0, 2, 21), (1, 0, 0)] [] G Q
  exact h
set_option maxRecDepth 100000 in
theorem g_D_begin_21_2 {d N : Nat} (hN : 44 ≤ N) {v1 : Int} {G : SgM} {Q : Int → SgM → Prop} (h : ((G 5 4) ≤ v1 → (sg_Wp 0 N d m_A_fill 0 [(0, 2, 25), (1, 0, 0)] [] G (fun r1 G1 => Q 0 (sg_up (sg_up (sg_up (sg_up (sg_up G1 21 12 0) 21 13 0) 21 14 ((-1))) 21 15 ((-1))) 21 16 ((-1)))))) ∧ (¬ ((G 5 4) ≤ v1) → ((0 ≤ v1 ∧ v1 < 6) ∧ (0 ≤ v1 ∧ v1 < 6) ∧ (0 ≤ v1 ∧ v1 < 6) ∧ (((G 11 v1) ≠ 0 → ((0 ≤ v1 ∧ v1 < 6) ∧ (0 ≤ v1 ∧ v1 < 6) ∧ (0 ≤ v1 ∧ v1 < 6) ∧ (sg_Wp 0 N (d + 1) m_D_begin 2 [(0, 2, 21), (1, 0, sg_iadd v1 1)] [] (sg_up (sg_up (sg_up G 22 v1 (G 10 v1)) 23 v1 ((-1))) 24 v1 (G 12 v1)) Q))) ∧ (¬ ((G 11 v1) ≠ 0) → ((0 ≤ v1 ∧ v1 < 6) ∧ (0 ≤ v1 ∧ v1 < 6) ∧ (0 ≤ v1 ∧ v1 < 6) ∧ (sg_Wp 0 N (d + 1) m_D_begin 2 [(0, 2, 21), (1, 0, sg_iadd v1 1)] [] (sg_up (sg_up (sg_up G 22 v1 (G 10 v1)) 23 v1 1) 24 v1 (G 12 v1)) Q))))))) : sg_Wp 0 N (d + 1) m_D_begin 2 [(0, 2, 21), (1, 0, v1)] [] G Q := by
  refine sg_blk [(3, 0, 0, 1, 0), (1, 0, 0, 0, 0), (65, 5, 1, 42, 0), (15, 0, 8, 69, 4)] (by decide +kernel) ?_
  refine And.intro rfl (And.intro (Nat.le_of_ble_eq_true rfl) (And.intro (ce_21 hN) (And.intro rr_21_0 (And.intro (ce_5 hN) (?_)))))
  show sg_Wp 0 N (d + 1) m_D_begin 10 [(0, 2, 21), (1, 0, v1)] [(0, G 5 4), (0, v1)] G Q
  refine sg_icmp_ge (off := 62) (tgt := 72) (by decide +kernel) (by decide) ⟨fun q2 => ?_, fun q2 => ?_⟩
  · refine sg_blk [(1, 0, 0, 0, 0), (65, 25, 1, 21, 5), (7, 0, 0, 0, 0)] (by decide +kernel) ?_
    refine And.intro (Nat.le_of_ble_eq_true rfl) (And.intro (ce_21 hN) (And.intro rr_21_5 (And.intro rfl (?_))))
    show sg_Wp 0 N (d + 1) m_D_begin 77 [(0, 2, 21), (1, 0, v1)] [(0, 0), (2, 25)] G Q
    refine sg_callS (k := d) (y' := m_A_fill) (av := [(2, 25), (0, 0)]) (rest := []) (by decide +kernel) cs_A_fill ml_1_80 rfl (Nat.le_of_ble_eq_true rfl) (Nat.lt_succ_self d) (Nat.le_of_ble_eq_true rfl) rfl ?_
    show sg_Wp 0 N d m_A_fill 0 [(0, 2, 25), (1, 0, 0)] [] G _
    refine sg_Wp.mono ((h.1 q2)) (fun r1 G1 hhr1 => ?_)
    show sg_Wp 0 N (d + 1) m_D_begin 80 [(0, 2, 21), (1, 0, v1)] [] G1 Q
    refine sg_blk [(1, 0, 0, 0, 0), (7, 0, 0, 0, 0), (16, 0, 1, 86, 12), (1, 0, 0, 0, 0), (7, 0, 0, 0, 0), (16, 0, 1, 89, 13), (1, 0, 0, 0, 0), (7, (-1), 0, 0, 0), (16, 0, 1, 92, 14), (1, 0, 0, 0, 0), (7, (-1), 0, 0, 0), (16, 0, 1, 95, 15), (1, 0, 0, 0, 0), (7, (-1), 0, 0, 0), (16, 0, 1, 98, 16)] (by decide +kernel) ?_
    refine And.intro (Nat.le_of_ble_eq_true rfl) (And.intro rfl (And.intro (ce_21 hN) (And.intro (Nat.le_of_ble_eq_true rfl) (And.intro rfl (And.intro (ce_21 hN) (And.intro (Nat.le_of_ble_eq_true rfl) (And.intro rfl (And.intro (ce_21 hN) (And.intro (Nat.le_of_ble_eq_true rfl) (And.intro rfl (And.intro (ce_21 hN) (And.intro (Nat.le_of_ble_eq_true rfl) (And.intro rfl (And.intro (ce_21 hN) (?_)))))))))))))))
    show sg_Wp 0 N (d + 1) m_D_begin 105 [(0, 2, 21), (1, 0, v1)] [] (sg_up (sg_up (sg_up (sg_up (sg_up G1 21 12 0) 21 13 0) 21 14 ((-1))) 21 15 ((-1))) 21 16 ((-1))) Q
    exact sg_vret (by decide +kernel) rfl hhr1
  · refine sg_blk [(1, 0, 0, 0, 0), (65, 22, 1, 9, 2), (3, 0, 0, 1, 0), (1, 0, 0, 0, 0), (65, 5, 1, 42, 0), (65, 10, 8, 75, 6), (3, 0, 0, 1, 0), (17, 6, 0, 0, 0), (18, 6, 0, 0, 0), (1, 0, 0, 0, 0), (65, 23, 1, 15, 3), (3, 0, 0, 1, 0), (1, 0, 0, 0, 0), (65, 5, 1, 42, 0), (65, 11, 8, 76, 7), (3, 0, 0, 1, 0), (17, 6, 0, 0, 0)] (by decide +kernel) ?_
    refine And.intro (Nat.le_of_ble_eq_true rfl) (And.intro (ce_21 hN) (And.intro rr_21_2 (And.intro rfl (And.intro (Nat.le_of_ble_eq_true rfl) (And.intro (ce_21 hN) (And.intro rr_21_0 (And.intro (ce_5 hN) (And.intro rr_5_6 (And.intro rfl (And.intro (ce_10 hN) (And.intro (h.2 q2).1 (And.intro (ce_22 hN) (And.intro (h.2 q2).2.1 (And.intro (Nat.le_of_ble_eq_true rfl) (And.intro (ce_21 hN) (And.intro rr_21_3 (And.intro rfl (And.intro (Nat.le_of_ble_eq_true rfl) (And.intro (ce_21 hN) (And.intro rr_21_0 (And.intro (ce_5 hN) (And.intro rr_5_7 (And.intro rfl (And.intro (ce_11 hN) (And.intro (h.2 q2).2.2.1 (?_))))))))))))))))))))))))))
    show sg_Wp 0 N (d + 1) m_D_begin 42 [(0, 2, 21), (1, 0, v1)] [(0, G 11 v1), (0, v1), (2, 23)] (sg_up G 22 v1 (G 10 v1)) Q
    refine sg_if_ne (off := 7) (tgt := 49) (by decide +kernel) (by decide) ⟨fun q1 => ?_, fun q1 => ?_⟩
    · refine sg_blk [(7, (-1), 0, 0, 0), (18, 6, 0, 0, 0), (1, 0, 0, 0, 0), (65, 24, 1, 18, 4), (3, 0, 0, 1, 0), (1, 0, 0, 0, 0), (65, 5, 1, 42, 0), (65, 12, 8, 79, 8), (3, 0, 0, 1, 0), (17, 6, 0, 0, 0), (18, 6, 0, 0, 0), (31, 1, 0, 1, 0)] (by decide +kernel) ?_
      refine And.intro rfl (And.intro (ce_23 hN) (And.intro ((h.2 q2).2.2.2.1 q1).1 (And.intro (Nat.le_of_ble_eq_true rfl) (And.intro (ce_21 hN) (And.intro rr_21_4 (And.intro rfl (And.intro (Nat.le_of_ble_eq_true rfl) (And.intro (ce_21 hN) (And.intro rr_21_0 (And.intro (ce_5 hN) (And.intro rr_5_8 (And.intro rfl (And.intro (ce_12 hN) (And.intro ((h.2 q2).2.2.2.1 q1).2.1 (And.intro (ce_24 hN) (And.intro ((h.2 q2).2.2.2.1 q1).2.2.1 (And.intro rfl (?_))))))))))))))))))
      show sg_Wp 0 N (d + 1) m_D_begin 69 [(0, 2, 21), (1, 0, sg_iadd v1 1)] [] (sg_up (sg_up (sg_up G 22 v1 (G 10 v1)) 23 v1 ((-1))) 24 v1 (G 12 v1)) Q
      refine sg_goto (off := -67) (tgt := 2) (by decide +kernel) (by decide) ?_
      exact ((h.2 q2).2.2.2.1 q1).2.2.2
    · refine sg_blk [(7, 1, 0, 0, 0)] (by decide +kernel) ?_
      refine And.intro rfl (?_)
      show sg_Wp 0 N (d + 1) m_D_begin 46 [(0, 2, 21), (1, 0, v1)] [(0, 1), (0, v1), (2, 23)] (sg_up G 22 v1 (G 10 v1)) Q
      refine sg_goto (off := 4) (tgt := 50) (by decide +kernel) (by decide) ?_
      refine sg_blk [(18, 6, 0, 0, 0), (1, 0, 0, 0, 0), (65, 24, 1, 18, 4), (3, 0, 0, 1, 0), (1, 0, 0, 0, 0), (65, 5, 1, 42, 0), (65, 12, 8, 79, 8), (3, 0, 0, 1, 0), (17, 6, 0, 0, 0), (18, 6, 0, 0, 0), (31, 1, 0, 1, 0)] (by decide +kernel) ?_
      refine And.intro (ce_23 hN) (And.intro ((h.2 q2).2.2.2.2 q1).1 (And.intro (Nat.le_of_ble_eq_true rfl) (And.intro (ce_21 hN) (And.intro rr_21_4 (And.intro rfl (And.intro (Nat.le_of_ble_eq_true rfl) (And.intro (ce_21 hN) (And.intro rr_21_0 (And.intro (ce_5 hN) (And.intro rr_5_8 (And.intro rfl (And.intro (ce_12 hN) (And.intro ((h.2 q2).2.2.2.2 q1).2.1 (And.intro (ce_24 hN) (And.intro ((h.2 q2).2.2.2.2 q1).2.2.1 (And.intro rfl (?_)))))))))))))))))
      show sg_Wp 0 N (d + 1) m_D_begin 69 [(0, 2, 21), (1, 0, sg_iadd v1 1)] [] (sg_up (sg_up (sg_up G 22 v1 (G 10 v1)) 23 v1 1) 24 v1 (G 12 v1)) Q
      refine sg_goto (off := -67) (tgt := 2) (by decide +kernel) (by decide) ?_
      exact ((h.2 q2).2.2.2.2 q1).2.2.2
set_option maxRecDepth 100000 in
theorem g_D_walk_21_0 {d N : Nat} (hN : 44 ≤ N) {v1 : Int} {G : SgM} {Q : Int → SgM → Prop} (h : sg_Wp 0 N (d + 1) m_D_walk 2 [(0, 2, 21), (1, 0, v1), (2, 0, 0)] [] G Q) : sg_Wp 0 N (d + 1) m_D_walk 0 [(0, 2, 21), (1, 0, v1)] [] G Q := by
  refine sg_blk [(7, 0, 0, 0, 0), (25, 0, 0, 2, 0)] (by decide +kernel) ?_
  refine And.intro rfl (And.intro rfl (?_))
  show sg_Wp 0 N (d + 1) m_D_walk 2 [(0, 2, 21), (1, 0, v1), (2, 0, 0)] [] G Q
  exact h
set_option maxRecDepth 100000 in
theorem g_D_walk_21_2 {d N : Nat} (hN : 44 ≤ N) {v1 v2 : Int} {G : SgM} {Q : Int → SgM → Prop} (h : ((G 5 4) ≤ v2 → (Q 0 G)) ∧ (¬ ((G 5 4) ≤ v2) → ((v1 ≤ 0 → ((0 ≤ v2 ∧ v2 < 6) ∧ (0 ≤ (sg_iadd (sg_imul v1 6) v2) ∧ (sg_iadd (sg_imul v1 6) v2) < 144) ∧ (sg_Wp 0 N (d + 1) m_D_walk 2 [(0, 2, 21), (1, 0, v1), (2, 0, sg_iadd v2 1)] [] (sg_up G 26 (sg_iadd (sg_imul v1 6) v2) (G 22 v2)) Q))) ∧ (¬ (v1 ≤ 0) → ((0 ≤ v2 ∧ v2 < 6) ∧ (0 ≤ v2 ∧ v2 < 6) ∧ (((0 ≤ (sg_iadd (G 22 v2) (G 23 v2)) ∧ (sg_iadd (G 22 v2) (G 23 v2)) < 10) → ((0 ≤ v2 ∧ v2 < 6) ∧ (0 ≤ v2 ∧ v2 < 6) ∧ (0 ≤ v2 ∧ v2 < 6) ∧ (0 ≤ v2 ∧ v2 < 6) ∧ (0 ≤ (sg_iadd (sg_imul v1 6) v2) ∧ (sg_iadd (sg_imul v1 6) v2) < 144) ∧ (sg_Wp 0 N (d + 1) m_D_walk 2 [(0, 2, 21), (1, 0, v1), (2, 0, sg_iadd v2 1)] [] (sg_up (sg_up G 22 v2 (sg_iadd (G 22 v2) (G 23 v2))) 26 (sg_iadd (sg_imul v1 6) v2) ((sg_up G 22 v2 (sg_iadd (G 22 v2) (G 23 v2))) 22 v2)) Q))) ∧ (¬ (0 ≤ (sg_iadd (G 22 v2) (G 23 v2)) ∧ (sg_iadd (G 22 v2) (G 23 v2)) < 10) → ((0 ≤ v2 ∧ v2 < 6) ∧ (0 ≤ v2 ∧ v2 < 6) ∧ (0 ≤ v2 ∧ v2 < 6) ∧ (0 ≤ v2 ∧ v2 < 6) ∧ (0 ≤ v2 ∧ v2 < 6) ∧ (0 ≤ v2 ∧ v2 < 6) ∧ (0 ≤ (sg_iadd (sg_imul v1 6) v2) ∧ (sg_iadd (sg_imul v1 6) v2) < 144) ∧ (sg_Wp 0 N (d + 1) m_D_walk 2 [(0, 2, 21), (1, 0, v1), (2, 0, sg_iadd v2 1)] [] (sg_up (sg_up (sg_up G 23 v2 (sg_ineg (G 23 v2))) 22 v2 (sg_iadd (G 22 v2) ((sg_up G 23 v2 (sg_ineg (G 23 v2))) 23 v2))) 26 (sg_iadd (sg_imul v1 6) v2) ((sg_up (sg_up G 23 v2 (sg_ineg (G 23 v2))) 22 v2 (sg_iadd (G 22 v2) ((sg_up G 23 v2 (sg_ineg (G 23 v2))) 23 v2))) 22 v2)) Q))))))))) : sg_Wp 0 N (d + 1) m_D_walk 2 [(0, 2, 21), (1, 0, v1), (2, 0, v2)] [] G Q := by
  refine sg_blk [(3, 0, 0, 2, 0), (1, 0, 0, 0, 0), (65, 5, 1, 42, 0), (15, 0, 8, 69, 4)] (by decide +kernel) ?_
  refine And.intro rfl (And.intro (Nat.le_of_ble_eq_true rfl) (And.intro (ce_21 hN) (And.intro rr_21_0 (And.intro (ce_5 hN) (?_)))))
  show sg_Wp 0 N (d + 1) m_D_walk 10 [(0, 2, 21), (1, 0, v1), (2, 0, v2)] [(0, G 5 4), (0, v2)] G Q
  refine sg_icmp_ge (off := 79) (tgt := 89) (by decide +kernel) (by decide) ⟨fun q3 => ?_, fun q3 => ?_⟩
  · exact sg_vret (by decide +kernel) rfl ((h.1 q3))
  · refine sg_blk [(3, 0, 0, 1, 0)] (by decide +kernel) ?_
    refine And.intro rfl (?_)
    show sg_Wp 0 N (d + 1) m_D_walk 14 [(0, 2, 21), (1, 0, v1), (2, 0, v2)] [(0, v1)] G Q
    refine sg_if_le (off := 52) (tgt := 66) (by decide +kernel) (by decide) ⟨fun q2 => ?_, fun q2 => ?_⟩
    · refine sg_blk [(1, 0, 0, 0, 0), (65, 26, 1, 24, 6), (3, 0, 0, 1, 0), (8, 6, 0, 0, 0), (34, 0, 0, 0, 0), (3, 0, 0, 2, 0), (32, 0, 0, 0, 0), (1, 0, 0, 0, 0), (65, 22, 1, 9, 2), (3, 0, 0, 2, 0), (17, 6, 0, 0, 0), (18, 144, 0, 0, 0), (31, 1, 0, 2, 0)] (by decide +kernel) ?_
      refine And.intro (Nat.le_of_ble_eq_true rfl) (And.intro (ce_21 hN) (And.intro rr_21_6 (And.intro rfl (And.intro rfl (And.intro rfl (And.intro rfl (And.intro (Nat.le_of_ble_eq_true rfl) (And.intro (ce_21 hN) (And.intro rr_21_2 (And.intro rfl (And.intro (ce_22 hN) (And.intro ((h.2 q3).1 q2).1 (And.intro (ce_26 hN) (And.intro ((h.2 q3).1 q2).2.1 (And.intro rfl (?_))))))))))))))))
      show sg_Wp 0 N (d + 1) m_D_walk 86 [(0, 2, 21), (1, 0, v1), (2, 0, sg_iadd v2 1)] [] (sg_up G 26 (sg_iadd (sg_imul v1 6) v2) (G 22 v2)) Q
      refine sg_goto (off := -84) (tgt := 2) (by decide +kernel) (by decide) ?_
      exact ((h.2 q3).1 q2).2.2
    · refine sg_blk [(1, 0, 0, 0, 0), (65, 22, 1, 9, 2), (3, 0, 0, 2, 0), (17, 6, 0, 0, 0), (1, 0, 0, 0, 0), (65, 23, 1, 15, 3), (3, 0, 0, 2, 0), (17, 6, 0, 0, 0), (32, 0, 0, 0, 0), (8, 10, 0, 0, 0)] (by decide +kernel) ?_
      refine And.intro (Nat.le_of_ble_eq_true rfl) (And.intro (ce_21 hN) (And.intro rr_21_2 (And.intro rfl (And.intro (ce_22 hN) (And.intro ((h.2 q3).2 q2).1 (And.intro (Nat.le_of_ble_eq_true rfl) (And.intro (ce_21 hN) (And.intro rr_21_3 (And.intro rfl (And.intro (ce_23 hN) (And.intro ((h.2 q3).2 q2).2.1 (And.intro rfl (And.intro rfl (?_))))))))))))))
      show sg_Wp 0 N (d + 1) m_D_walk 32 [(0, 2, 21), (1, 0, v1), (2, 0, v2)] [(0, 10), (0, sg_iadd (G 22 v2) (G 23 v2))] G Q
      refine sg_callN (k := d) (y' := m_G_isBelow) (av := [(0, sg_iadd (G 22 v2) (G 23 v2)), (0, 10)]) (rest := []) (idx := 101) (by decide +kernel) cs_G_isBelow (List.mem_of_getElem? (i := 3) rfl) rfl (Nat.le_of_ble_eq_true rfl) (Nat.lt_succ_self d) (Nat.le_of_ble_eq_true rfl) rfl ?_
      show sg_Wp 0 N d m_G_isBelow 0 [(0, 0, sg_iadd (G 22 v2) (G 23 v2)), (1, 0, 10)] [] G _
      refine s_G_isBelow ?_
      show sg_Wp 0 N (d + 1) m_D_walk 35 [(0, 2, 21), (1, 0, v1), (2, 0, v2)] [(0, sg_bo (0 ≤ (sg_iadd (G 22 v2) (G 23 v2)) ∧ (sg_iadd (G 22 v2) (G 23 v2)) < 10))] G Q
      refine sg_bif_ne (off := 16) (tgt := 51) (by decide +kernel) (by decide) ⟨fun q1 => ?_, fun q1 => ?_⟩
      · refine sg_blk [(1, 0, 0, 0, 0), (65, 22, 1, 9, 2), (3, 0, 0, 2, 0), (58, 0, 0, 0, 0), (17, 6, 0, 0, 0), (1, 0, 0, 0, 0), (65, 23, 1, 15, 3), (3, 0, 0, 2, 0), (17, 6, 0, 0, 0), (32, 0, 0, 0, 0), (18, 6, 0, 0, 0), (1, 0, 0, 0, 0), (65, 26, 1, 24, 6), (3, 0, 0, 1, 0), (8, 6, 0, 0, 0), (34, 0, 0, 0, 0), (3, 0, 0, 2, 0), (32, 0, 0, 0, 0), (1, 0, 0, 0, 0), (65, 22, 1, 9, 2), (3, 0, 0, 2, 0), (17, 6, 0, 0, 0), (18, 144, 0, 0, 0), (31, 1, 0, 2, 0)] (by decide +kernel) ?_
        refine And.intro (Nat.le_of_ble_eq_true rfl) (And.intro (ce_21 hN) (And.intro rr_21_2 (And.intro rfl (And.intro (And.intro (Nat.ne_of_beq_eq_false rfl) (Nat.ne_of_beq_eq_false rfl)) (And.intro (ce_22 hN) (And.intro (((h.2 q3).2 q2).2.2.1 q1).1 (And.intro (Nat.le_of_ble_eq_true rfl) (And.intro (ce_21 hN) (And.intro rr_21_3 (And.intro rfl (And.intro (ce_23 hN) (And.intro (((h.2 q3).2 q2).2.2.1 q1).2.1 (And.intro (ce_22 hN) (And.intro (((h.2 q3).2 q2).2.2.1 q1).2.2.1 (And.intro (Nat.le_of_ble_eq_true rfl) (And.intro (ce_21 hN) (And.intro rr_21_6 (And.intro rfl (And.intro rfl (And.intro rfl (And.intro rfl (And.intro (Nat.le_of_ble_eq_true rfl) (And.intro (ce_21 hN) (And.intro rr_21_2 (And.intro rfl (And.intro (ce_22 hN) (And.intro (((h.2 q3).2 q2).2.2.1 q1).2.2.2.1 (And.intro (ce_26 hN) (And.intro (((h.2 q3).2 q2).2.2.1 q1).2.2.2.2.1 (And.intro rfl (?_)))))))))))))))))))))))))))))))
        show sg_Wp 0 N (d + 1) m_D_walk 86 [(0, 2, 21), (1, 0, v1), (2, 0, sg_iadd v2 1)] [] (sg_up (sg_up G 22 v2 (sg_iadd (G 22 v2) (G 23 v2))) 26 (sg_iadd (sg_imul v1 6) v2) ((sg_up G 22 v2 (sg_iadd (G 22 v2) (G 23 v2))) 22 v2)) Q
        refine sg_goto (off := -84) (tgt := 2) (by decide +kernel) (by decide) ?_
        exact (((h.2 q3).2 q2).2.2.1 q1).2.2.2.2.2
      · refine sg_blk [(1, 0, 0, 0, 0), (65, 23, 1, 15, 3), (3, 0, 0, 2, 0), (1, 0, 0, 0, 0), (65, 23, 1, 15, 3), (3, 0, 0, 2, 0), (17, 6, 0, 0, 0), (37, 0, 0, 0, 0), (18, 6, 0, 0, 0), (1, 0, 0, 0, 0), (65, 22, 1, 9, 2), (3, 0, 0, 2, 0), (58, 0, 0, 0, 0), (17, 6, 0, 0, 0), (1, 0, 0, 0, 0), (65, 23, 1, 15, 3), (3, 0, 0, 2, 0), (17, 6, 0, 0, 0), (32, 0, 0, 0, 0), (18, 6, 0, 0, 0), (1, 0, 0, 0, 0), (65, 26, 1, 24, 6), (3, 0, 0, 1, 0), (8, 6, 0, 0, 0), (34, 0, 0, 0, 0), (3, 0, 0, 2, 0), (32, 0, 0, 0, 0), (1, 0, 0, 0, 0), (65, 22, 1, 9, 2), (3, 0, 0, 2, 0), (17, 6, 0, 0, 0), (18, 144, 0, 0, 0), (31, 1, 0, 2, 0)] (by decide +kernel) ?_
        refine And.intro (Nat.le_of_ble_eq_true rfl) (And.intro (ce_21 hN) (And.intro rr_21_3 (And.intro rfl (And.intro (Nat.le_of_ble_eq_true rfl) (And.intro (ce_21 hN) (And.intro rr_21_3 (And.intro rfl (And.intro (ce_23 hN) (And.intro (((h.2 q3).2 q2).2.2.2 q1).1 (And.intro (ce_23 hN) (And.intro (((h.2 q3).2 q2).2.2.2 q1).2.1 (And.intro (Nat.le_of_ble_eq_true rfl) (And.intro (ce_21 hN) (And.intro rr_21_2 (And.intro rfl (And.intro (And.intro (Nat.ne_of_beq_eq_false rfl) (Nat.ne_of_beq_eq_false rfl)) (And.intro (ce_22 hN) (And.intro (((h.2 q3).2 q2).2.2.2 q1).2.2.1 (And.intro (Nat.le_of_ble_eq_true rfl) (And.intro (ce_21 hN) (And.intro rr_21_3 (And.intro rfl (And.intro (ce_23 hN) (And.intro (((h.2 q3).2 q2).2.2.2 q1).2.2.2.1 (And.intro (ce_22 hN) (And.intro (((h.2 q3).2 q2).2.2.2 q1).2.2.2.2.1 (And.intro (Nat.le_of_ble_eq_true rfl) (And.intro (ce_21 hN) (And.intro rr_21_6 (And.intro rfl (And.intro rfl (And.intro rfl (And.intro rfl (And.intro (Nat.le_of_ble_eq_true rfl) (And.intro (ce_21 hN) (And.intro rr_21_2 (And.intro rfl (And.intro (ce_22 hN) (And.intro (((h.2 q3).2 q2).2.2.2 q1).2.2.2.2.2.1 (And.intro (ce_26 hN) (And.intro (((h.2 q3).2 q2).2.2.2 q1).2.2.2.2.2.2.1 (And.intro rfl (?_)))))))))))))))))))))))))))))))))))))))))))
        show sg_Wp 0 N (d + 1) m_D_walk 86 [(0, 2, 21), (1, 0, v1), (2, 0, sg_iadd v2 1)] [] (sg_up (sg_up (sg_up G 23 v2 (sg_ineg (G 23 v2))) 22 v2 (sg_iadd (G 22 v2) ((sg_up G 23 v2 (sg_ineg (G 23 v2))) 23 v2))) 26 (sg_iadd (sg_imul v1 6) v2) ((sg_up (sg_up G 23 v2 (sg_ineg (G 23 v2))) 22 v2 (sg_iadd (G 22 v2) ((sg_up G 23 v2 (sg_ineg (G 23 v2))) 23 v2))) 22 v2)) Q
        refine sg_goto (off := -84) (tgt := 2) (by decide +kernel) (by decide) ?_
        exact (((h.2 q3).2 q2).2.2.2 q1).2.2.2.2.2.2.2
set_option maxRecDepth 100000 in
theorem g_D_sneeze_21_0 {d N : Nat} (hN : 44 ≤ N) {v1 : Int} {G : SgM} {Q : Int → SgM → Prop} (h : sg_Wp 0 N (d + 1) m_D_sneeze 4 [(0, 2, 21), (1, 0, v1), (2, 0, 0), (3, 0, 0)] [] G Q) : sg_Wp 0 N (d + 1) m_D_sneeze 0 [(0, 2, 21), (1, 0, v1)] [] G Q := by
  refine sg_blk [(7, 0, 0, 0, 0), (25, 0, 0, 2, 0), (7, 0, 0, 0, 0), (25, 0, 0, 3, 0)] (by decide +kernel) ?_
  refine And.intro rfl (And.intro rfl (And.intro rfl (And.intro rfl (?_))))
  show sg_Wp 0 N (d + 1) m_D_sneeze 4 [(0, 2, 21), (1, 0, v1), (2, 0, 0), (3, 0, 0)] [] G Q
  exact h
set_option maxRecDepth 100000 in
theorem g_D_sneeze_21_4 {d N : Nat} (hN : 44 ≤ N) {v1 v2 v3 : Int} {G : SgM} {Q : Int → SgM → Prop} (h : ((G 5 4) ≤ v3 → ((0 ≤ v1 ∧ v1 < 24) ∧ (0 ≤ v1 ∧ v1 < 24) ∧ (Q 0 (sg_up G 30 v1 (sg_iand v2 (sg_ixor (G 19 v1) ((-1)))))))) ∧ (¬ ((G 5 4) ≤ v3) → ((0 ≤ v1 ∧ v1 < 24) ∧ (((G 20 v1) ≠ 0 → (sg_Wp 0 N (d + 1) m_D_sneeze 4 [(0, 2, 21), (1, 0, v1), (2, 0, sg_ior v2 (sg_ishl 1 v3)), (3, 0, sg_iadd v3 1)] [] G Q)) ∧ (¬ ((G 20 v1) ≠ 0) → ((0 ≤ v1 ∧ v1 < 24) ∧ (0 ≤ v3 ∧ v3 < 6) ∧ (((sg_iand (sg_ishr (G 18 v1) (G 22 v3)) 1 ≠ 0) → (sg_Wp 0 N (d + 1) m_D_sneeze 4 [(0, 2, 21), (1, 0, v1), (2, 0, sg_ior v2 (sg_ishl 1 v3)), (3, 0, sg_iadd v3 1)] [] G Q)) ∧ (¬ (sg_iand (sg_ishr (G 18 v1) (G 22 v3)) 1 ≠ 0) → ((0 ≤ v3 ∧ v3 < 6) ∧ (((0 < (G 24 v3) ∧ sg_irem (sg_iadd v1 1) (G 24 v3) = 0) → (sg_Wp 0 N (d + 1) m_D_sneeze 4 [(0, 2, 21), (1, 0, v1), (2, 0, sg_ior v2 (sg_ishl 1 v3)), (3, 0, sg_iadd v3 1)] [] G Q)) ∧ (¬ (0 < (G 24 v3) ∧ sg_irem (sg_iadd v1 1) (G 24 v3) = 0) → (sg_Wp 0 N (d + 1) m_D_sneeze 4 [(0, 2, 21), (1, 0, v1), (2, 0, v2), (3, 0, sg_iadd v3 1)] [] G Q)))))))))))) : sg_Wp 0 N (d + 1) m_D_sneeze 4 [(0, 2, 21), (1, 0, v1), (2, 0, v2), (3, 0, v3)] [] G Q := by
  refine sg_blk [(3, 0, 0, 3, 0), (1, 0, 0, 0, 0), (65, 5, 1, 42, 0), (15, 0, 8, 69, 4)] (by decide +kernel) ?_
  refine And.intro rfl (And.intro (Nat.le_of_ble_eq_true rfl) (And.intro (ce_21 hN) (And.intro rr_21_0 (And.intro (ce_5 hN) (?_)))))
  show sg_Wp 0 N (d + 1) m_D_sneeze 12 [(0, 2, 21), (1, 0, v1), (2, 0, v2), (3, 0, v3)] [(0, G 5 4), (0, v3)] G Q
  refine sg_icmp_ge (off := 63) (tgt := 75) (by decide +kernel) (by decide) ⟨fun q4 => ?_, fun q4 => ?_⟩
  · refine sg_blk [(1, 0, 0, 0, 0), (65, 30, 1, 36, 10), (3, 0, 0, 1, 0), (3, 0, 0, 2, 0), (1, 0, 0, 0, 0), (65, 17, 1, 46, 1), (65, 19, 9, 120, 1), (3, 0, 0, 1, 0), (17, 24, 0, 0, 0), (7, (-1), 0, 0, 0), (40, 0, 0, 0, 0), (38, 0, 0, 0, 0), (18, 24, 0, 0, 0)] (by decide +kernel) ?_
    refine And.intro (Nat.le_of_ble_eq_true rfl) (And.intro (ce_21 hN) (And.intro rr_21_10 (And.intro rfl (And.intro rfl (And.intro (Nat.le_of_ble_eq_true rfl) (And.intro (ce_21 hN) (And.intro rr_21_1 (And.intro (ce_17 hN) (And.intro rr_17_1 (And.intro rfl (And.intro (ce_19 hN) (And.intro (h.1 q4).1 (And.intro rfl (And.intro (ce_30 hN) (And.intro (h.1 q4).2.1 (?_))))))))))))))))
    show sg_Wp 0 N (d + 1) m_D_sneeze 94 [(0, 2, 21), (1, 0, v1), (2, 0, v2), (3, 0, v3)] [] (sg_up G 30 v1 (sg_iand v2 (sg_ixor (G 19 v1) ((-1))))) Q
    exact sg_vret (by decide +kernel) rfl ((h.1 q4).2.2)
  · refine sg_blk [(1, 0, 0, 0, 0), (65, 17, 1, 46, 1), (65, 20, 9, 105, 2), (3, 0, 0, 1, 0), (19, 24, 0, 0, 0)] (by decide +kernel) ?_
    refine And.intro (Nat.le_of_ble_eq_true rfl) (And.intro (ce_21 hN) (And.intro rr_21_1 (And.intro (ce_17 hN) (And.intro rr_17_2 (And.intro rfl (And.intro (ce_20 hN) (And.intro (h.2 q4).1 (?_))))))))
    show sg_Wp 0 N (d + 1) m_D_sneeze 24 [(0, 2, 21), (1, 0, v1), (2, 0, v2), (3, 0, v3)] [(0, G 20 v1)] G Q
    refine sg_if_ne (off := 39) (tgt := 63) (by decide +kernel) (by decide) ⟨fun q3 => ?_, fun q3 => ?_⟩
    · refine sg_blk [(3, 0, 0, 2, 0), (7, 1, 0, 0, 0), (3, 0, 0, 3, 0), (41, 0, 0, 0, 0), (39, 0, 0, 0, 0), (25, 0, 0, 2, 0), (31, 1, 0, 3, 0)] (by decide +kernel) ?_
      refine And.intro rfl (And.intro rfl (And.intro rfl (And.intro rfl (And.intro rfl (?_)))))
      show sg_Wp 0 N (d + 1) m_D_sneeze 72 [(0, 2, 21), (1, 0, v1), (2, 0, sg_ior v2 (sg_ishl 1 v3)), (3, 0, sg_iadd v3 1)] [] G Q
      refine sg_goto (off := -68) (tgt := 4) (by decide +kernel) (by decide) ?_
      exact ((h.2 q4).2.1 q3)
    · refine sg_blk [(1, 0, 0, 0, 0), (65, 17, 1, 46, 1), (65, 18, 9, 111, 0), (3, 0, 0, 1, 0), (17, 24, 0, 0, 0), (1, 0, 0, 0, 0), (65, 22, 1, 9, 2), (3, 0, 0, 3, 0), (17, 6, 0, 0, 0)] (by decide +kernel) ?_
      refine And.intro (Nat.le_of_ble_eq_true rfl) (And.intro (ce_21 hN) (And.intro rr_21_1 (And.intro (ce_17 hN) (And.intro rr_17_0 (And.intro rfl (And.intro (ce_18 hN) (And.intro ((h.2 q4).2.2 q3).1 (And.intro (Nat.le_of_ble_eq_true rfl) (And.intro (ce_21 hN) (And.intro rr_21_2 (And.intro rfl (And.intro (ce_22 hN) (And.intro ((h.2 q4).2.2 q3).2.1 (?_))))))))))))))
      show sg_Wp 0 N (d + 1) m_D_sneeze 42 [(0, 2, 21), (1, 0, v1), (2, 0, v2), (3, 0, v3)] [(0, G 22 v3), (0, G 18 v1)] G Q
      refine sg_callN (k := d) (y' := m_G_hasBit) (av := [(0, G 18 v1), (0, G 22 v3)]) (rest := []) (idx := 114) (by decide +kernel) cs_G_hasBit (List.mem_of_getElem? (i := 4) rfl) rfl (Nat.le_of_ble_eq_true rfl) (Nat.lt_succ_self d) (Nat.le_of_ble_eq_true rfl) rfl ?_
      show sg_Wp 0 N d m_G_hasBit 0 [(0, 0, G 18 v1), (1, 0, G 22 v3)] [] G _
      refine s_G_hasBit ?_
      show sg_Wp 0 N (d + 1) m_D_sneeze 45 [(0, 2, 21), (1, 0, v1), (2, 0, v2), (3, 0, v3)] [(0, sg_bo (sg_iand (sg_ishr (G 18 v1) (G 22 v3)) 1 ≠ 0))] G Q
      refine sg_bif_ne (off := 18) (tgt := 63) (by decide +kernel) (by decide) ⟨fun q2 => ?_, fun q2 => ?_⟩
      · refine sg_blk [(3, 0, 0, 2, 0), (7, 1, 0, 0, 0), (3, 0, 0, 3, 0), (41, 0, 0, 0, 0), (39, 0, 0, 0, 0), (25, 0, 0, 2, 0), (31, 1, 0, 3, 0)] (by decide +kernel) ?_
        refine And.intro rfl (And.intro rfl (And.intro rfl (And.intro rfl (And.intro rfl (?_)))))
        show sg_Wp 0 N (d + 1) m_D_sneeze 72 [(0, 2, 21), (1, 0, v1), (2, 0, sg_ior v2 (sg_ishl 1 v3)), (3, 0, sg_iadd v3 1)] [] G Q
        refine sg_goto (off := -68) (tgt := 4) (by decide +kernel) (by decide) ?_
        exact (((h.2 q4).2.2 q3).2.2.1 q2)
      · refine sg_blk [(1, 0, 0, 0, 0), (65, 24, 1, 18, 4), (3, 0, 0, 3, 0), (17, 6, 0, 0, 0), (3, 0, 0, 1, 0), (7, 1, 0, 0, 0), (32, 0, 0, 0, 0)] (by decide +kernel) ?_
        refine And.intro (Nat.le_of_ble_eq_true rfl) (And.intro (ce_21 hN) (And.intro rr_21_4 (And.intro rfl (And.intro (ce_24 hN) (And.intro (((h.2 q4).2.2 q3).2.2.2 q2).1 (And.intro rfl (And.intro rfl (?_))))))))
        show sg_Wp 0 N (d + 1) m_D_sneeze 57 [(0, 2, 21), (1, 0, v1), (2, 0, v2), (3, 0, v3)] [(0, sg_iadd v1 1), (0, G 24 v3)] G Q
        refine sg_callS (k := d) (y' := m_D_divides) (av := [(0, G 24 v3), (0, sg_iadd v1 1)]) (rest := []) (by decide +kernel) cs_D_divides ml_1_117 rfl (Nat.le_of_ble_eq_true rfl) (Nat.lt_succ_self d) (Nat.le_of_ble_eq_true rfl) rfl ?_
        show sg_Wp 0 N d m_D_divides 0 [(0, 0, G 24 v3), (1, 0, sg_iadd v1 1)] [] G _
        refine s_D_divides ?_
        show sg_Wp 0 N (d + 1) m_D_sneeze 60 [(0, 2, 21), (1, 0, v1), (2, 0, v2), (3, 0, v3)] [(0, sg_bo (0 < (G 24 v3) ∧ sg_irem (sg_iadd v1 1) (G 24 v3) = 0))] G Q
        refine sg_bif_eq (off := 9) (tgt := 69) (by decide +kernel) (by decide) ⟨fun q1 => ?_, fun q1 => ?_⟩
        · refine sg_blk [(3, 0, 0, 2, 0), (7, 1, 0, 0, 0), (3, 0, 0, 3, 0), (41, 0, 0, 0, 0), (39, 0, 0, 0, 0), (25, 0, 0, 2, 0), (31, 1, 0, 3, 0)] (by decide +kernel) ?_
          refine And.intro rfl (And.intro rfl (And.intro rfl (And.intro rfl (And.intro rfl (?_)))))
          show sg_Wp 0 N (d + 1) m_D_sneeze 72 [(0, 2, 21), (1, 0, v1), (2, 0, sg_ior v2 (sg_ishl 1 v3)), (3, 0, sg_iadd v3 1)] [] G Q
          refine sg_goto (off := -68) (tgt := 4) (by decide +kernel) (by decide) ?_
          exact ((((h.2 q4).2.2 q3).2.2.2 q2).2.1 q1)
        · refine sg_blk [(31, 1, 0, 3, 0)] (by decide +kernel) ?_
          refine And.intro rfl (?_)
          show sg_Wp 0 N (d + 1) m_D_sneeze 72 [(0, 2, 21), (1, 0, v1), (2, 0, v2), (3, 0, sg_iadd v3 1)] [] G Q
          refine sg_goto (off := -68) (tgt := 4) (by decide +kernel) (by decide) ?_
          exact ((((h.2 q4).2.2 q3).2.2.2 q2).2.2 q1)
set_option maxRecDepth 100000 in
theorem g_D_changeGuard_21_0 {d N : Nat} (hN : 44 ≤ N) {v1 : Int} {G : SgM} {Q : Int → SgM → Prop} (h : sg_Wp 0 N (d + 1) m_D_changeGuard 4 [(0, 2, 21), (1, 0, v1), (2, 0, 0), (3, 0, 0)] [] G Q) : sg_Wp 0 N (d + 1) m_D_changeGuard 0 [(0, 2, 21), (1, 0, v1)] [] G Q := by
  refine sg_blk [(7, 0, 0, 0, 0), (25, 0, 0, 2, 0), (7, 0, 0, 0, 0), (25, 0, 0, 3, 0)] (by decide +kernel) ?_
  refine And.intro rfl (And.intro rfl (And.intro rfl (And.intro rfl (?_))))
  show sg_Wp 0 N (d + 1) m_D_changeGuard 4 [(0, 2, 21), (1, 0, v1), (2, 0, 0), (3, 0, 0)] [] G Q
  exact h
set_option maxRecDepth 100000 in
theorem g_D_changeGuard_21_4 {d N : Nat} (hN : 44 ≤ N) {v1 v2 v3 : Int} {G : SgM} {Q : Int → SgM → Prop} (h : ((G 5 4) ≤ v3 → ((0 ≤ v1 ∧ v1 < 24) ∧ (Q 0 (sg_up (sg_up G 31 v1 v2) 21 12 (sg_iadd (G 21 12) (sg_ibc v2)))))) ∧ (¬ ((G 5 4) ≤ v3) → ((0 ≤ v1 ∧ v1 < 24) ∧ (((sg_iand (sg_ishr (G 30 v1) v3) 1 ≠ 0) → ((0 ≤ v3 ∧ v3 < 6) ∧ (0 ≤ v3 ∧ v3 < 6) ∧ (sg_Wp 0 N d m_W_hearersOf 0 [(0, 2, 5), (1, 0, G 9 v3), (2, 0, G 22 v3)] [] G (fun r1 G1 => (0 ≤ (sg_iadd (sg_imul v1 6) v3) ∧ (sg_iadd (sg_imul v1 6) v3) < 144) ∧ (sg_Wp 0 N (d + 1) m_D_changeGuard 4 [(0, 2, 21), (1, 0, v1), (2, 0, sg_ior v2 (sg_iand r1 (sg_ixor v2 ((-1))))), (3, 0, sg_iadd v3 1)] [] (sg_up G1 28 (sg_iadd (sg_imul v1 6) v3) (sg_iand r1 (sg_ixor v2 ((-1))))) Q))))) ∧ (¬ (sg_iand (sg_ishr (G 30 v1) v3) 1 ≠ 0) → ((0 ≤ (sg_iadd (sg_imul v1 6) v3) ∧ (sg_iadd (sg_imul v1 6) v3) < 144) ∧ (sg_Wp 0 N (d + 1) m_D_changeGuard 4 [(0, 2, 21), (1, 0, v1), (2, 0, sg_ior v2 0), (3, 0, sg_iadd v3 1)] [] (sg_up G 28 (sg_iadd (sg_imul v1 6) v3) 0) Q))))))) : sg_Wp 0 N (d + 1) m_D_changeGuard 4 [(0, 2, 21), (1, 0, v1), (2, 0, v2), (3, 0, v3)] [] G Q := by
  refine sg_blk [(3, 0, 0, 3, 0), (1, 0, 0, 0, 0), (65, 5, 1, 42, 0), (15, 0, 8, 69, 4)] (by decide +kernel) ?_
  refine And.intro rfl (And.intro (Nat.le_of_ble_eq_true rfl) (And.intro (ce_21 hN) (And.intro rr_21_0 (And.intro (ce_5 hN) (?_)))))
  show sg_Wp 0 N (d + 1) m_D_changeGuard 12 [(0, 2, 21), (1, 0, v1), (2, 0, v2), (3, 0, v3)] [(0, G 5 4), (0, v3)] G Q
  refine sg_icmp_ge (off := 71) (tgt := 83) (by decide +kernel) (by decide) ⟨fun q2 => ?_, fun q2 => ?_⟩
  · refine sg_blk [(1, 0, 0, 0, 0), (65, 31, 1, 39, 11), (3, 0, 0, 1, 0), (3, 0, 0, 2, 0), (18, 24, 0, 0, 0), (1, 0, 0, 0, 0), (57, 0, 0, 0, 0), (15, 0, 1, 86, 12), (3, 0, 0, 2, 0)] (by decide +kernel) ?_
    refine And.intro (Nat.le_of_ble_eq_true rfl) (And.intro (ce_21 hN) (And.intro rr_21_11 (And.intro rfl (And.intro rfl (And.intro (ce_31 hN) (And.intro (h.1 q2).1 (And.intro (Nat.le_of_ble_eq_true rfl) (And.intro (Nat.ne_of_beq_eq_false rfl) (And.intro (ce_21 hN) (And.intro rfl (?_)))))))))))
    show sg_Wp 0 N (d + 1) m_D_changeGuard 96 [(0, 2, 21), (1, 0, v1), (2, 0, v2), (3, 0, v3)] [(0, v2), (0, G 21 12), (2, 21)] (sg_up G 31 v1 v2) Q
    refine sg_callS (k := d) (y' := m_I_bitCount) (av := [(0, v2)]) (rest := [(0, G 21 12), (2, 21)]) (by decide +kernel) cs_I_bitCount ml_1_130 rfl (Nat.le_of_ble_eq_true rfl) (Nat.lt_succ_self d) (Nat.le_of_ble_eq_true rfl) rfl ?_
    show sg_Wp 0 N d m_I_bitCount 0 [(0, 0, v2)] [] (sg_up G 31 v1 v2) _
    refine s_I_bitCount ?_
    show sg_Wp 0 N (d + 1) m_D_changeGuard 99 [(0, 2, 21), (1, 0, v1), (2, 0, v2), (3, 0, v3)] [(0, sg_ibc v2), (0, G 21 12), (2, 21)] (sg_up G 31 v1 v2) Q
    refine sg_blk [(32, 0, 0, 0, 0), (16, 0, 1, 86, 12)] (by decide +kernel) ?_
    refine And.intro (ce_21 hN) (?_)
    show sg_Wp 0 N (d + 1) m_D_changeGuard 103 [(0, 2, 21), (1, 0, v1), (2, 0, v2), (3, 0, v3)] [] (sg_up (sg_up G 31 v1 v2) 21 12 (sg_iadd (G 21 12) (sg_ibc v2))) Q
    exact sg_vret (by decide +kernel) rfl ((h.1 q2).2)
  · refine sg_blk [(7, 0, 0, 0, 0), (26, 0, 0, 4, 0), (1, 0, 0, 0, 0), (65, 30, 1, 36, 10), (3, 0, 0, 1, 0), (17, 24, 0, 0, 0), (3, 0, 0, 3, 0)] (by decide +kernel) ?_
    refine And.intro rfl (And.intro rfl (And.intro (Nat.le_of_ble_eq_true rfl) (And.intro (ce_21 hN) (And.intro rr_21_10 (And.intro rfl (And.intro (ce_30 hN) (And.intro (h.2 q2).1 (And.intro rfl (?_)))))))))
    show sg_Wp 0 N (d + 1) m_D_changeGuard 25 [(0, 2, 21), (1, 0, v1), (2, 0, v2), (3, 0, v3), (4, 0, 0)] [(0, v3), (0, G 30 v1)] G Q
    refine sg_callN (k := d) (y' := m_G_hasBit) (av := [(0, G 30 v1), (0, v3)]) (rest := []) (idx := 114) (by decide +kernel) cs_G_hasBit (List.mem_of_getElem? (i := 4) rfl) rfl (Nat.le_of_ble_eq_true rfl) (Nat.lt_succ_self d) (Nat.le_of_ble_eq_true rfl) rfl ?_
    show sg_Wp 0 N d m_G_hasBit 0 [(0, 0, G 30 v1), (1, 0, v3)] [] G _
    refine s_G_hasBit ?_
    show sg_Wp 0 N (d + 1) m_D_changeGuard 28 [(0, 2, 21), (1, 0, v1), (2, 0, v2), (3, 0, v3), (4, 0, 0)] [(0, sg_bo (sg_iand (sg_ishr (G 30 v1) v3) 1 ≠ 0))] G Q
    refine sg_bif_eq (off := 31) (tgt := 59) (by decide +kernel) (by decide) ⟨fun q1 => ?_, fun q1 => ?_⟩
    · refine sg_blk [(1, 0, 0, 0, 0), (65, 5, 1, 42, 0), (1, 0, 0, 0, 0), (65, 5, 1, 42, 0), (65, 9, 8, 123, 5), (3, 0, 0, 3, 0), (17, 6, 0, 0, 0), (1, 0, 0, 0, 0), (65, 22, 1, 9, 2), (3, 0, 0, 3, 0), (17, 6, 0, 0, 0)] (by decide +kernel) ?_
      refine And.intro (Nat.le_of_ble_eq_true rfl) (And.intro (ce_21 hN) (And.intro rr_21_0 (And.intro (Nat.le_of_ble_eq_true rfl) (And.intro (ce_21 hN) (And.intro rr_21_0 (And.intro (ce_5 hN) (And.intro rr_5_5 (And.intro rfl (And.intro (ce_9 hN) (And.intro ((h.2 q2).2.1 q1).1 (And.intro (Nat.le_of_ble_eq_true rfl) (And.intro (ce_21 hN) (And.intro rr_21_2 (And.intro rfl (And.intro (ce_22 hN) (And.intro ((h.2 q2).2.1 q1).2.1 (?_)))))))))))))))))
      show sg_Wp 0 N (d + 1) m_D_changeGuard 50 [(0, 2, 21), (1, 0, v1), (2, 0, v2), (3, 0, v3), (4, 0, 0)] [(0, G 22 v3), (0, G 9 v3), (2, 5)] G Q
      refine sg_callV (k := d) (y' := m_W_hearersOf) (av := [(0, G 9 v3), (0, G 22 v3)]) (rest := []) (b := 5) (by decide +kernel) cv_W_hearersOf ml_1_126 (ce_5 hN) rfl rfl (Nat.le_of_ble_eq_true rfl) (Nat.lt_succ_self d) (Nat.le_of_ble_eq_true rfl) rfl ?_
      show sg_Wp 0 N d m_W_hearersOf 0 [(0, 2, 5), (1, 0, G 9 v3), (2, 0, G 22 v3)] [] G _
      refine sg_Wp.mono (((h.2 q2).2.1 q1).2.2) (fun r1 G1 hhr1 => ?_)
      show sg_Wp 0 N (d + 1) m_D_changeGuard 53 [(0, 2, 21), (1, 0, v1), (2, 0, v2), (3, 0, v3), (4, 0, 0)] [(0, r1)] G1 Q
      refine sg_blk [(3, 0, 0, 2, 0), (7, (-1), 0, 0, 0), (40, 0, 0, 0, 0), (38, 0, 0, 0, 0), (26, 0, 0, 4, 0), (1, 0, 0, 0, 0), (65, 28, 1, 30, 8), (3, 0, 0, 1, 0), (8, 6, 0, 0, 0), (34, 0, 0, 0, 0), (3, 0, 0, 3, 0), (32, 0, 0, 0, 0), (4, 0, 0, 4, 0), (18, 144, 0, 0, 0), (3, 0, 0, 2, 0), (4, 0, 0, 4, 0), (39, 0, 0, 0, 0), (25, 0, 0, 2, 0), (31, 1, 0, 3, 0)] (by decide +kernel) ?_
      refine And.intro rfl (And.intro rfl (And.intro rfl (And.intro (Nat.le_of_ble_eq_true rfl) (And.intro (ce_21 hN) (And.intro rr_21_8 (And.intro rfl (And.intro rfl (And.intro rfl (And.intro rfl (And.intro rfl (And.intro (ce_28 hN) (And.intro hhr1.1 (And.intro rfl (And.intro rfl (And.intro rfl (And.intro rfl (?_)))))))))))))))))
      show sg_Wp 0 N (d + 1) m_D_changeGuard 80 [(0, 2, 21), (1, 0, v1), (2, 0, sg_ior v2 (sg_iand r1 (sg_ixor v2 ((-1))))), (3, 0, sg_iadd v3 1), (4, 0, sg_iand r1 (sg_ixor v2 ((-1))))] [] (sg_up G1 28 (sg_iadd (sg_imul v1 6) v3) (sg_iand r1 (sg_ixor v2 ((-1))))) Q
      refine sg_goto (off := -76) (tgt := 4) (by decide +kernel) (by decide) ?_
      exact sg_Wp.keepk [0, 1, 2, 3] rfl hhr1.2
    · refine sg_blk [(1, 0, 0, 0, 0), (65, 28, 1, 30, 8), (3, 0, 0, 1, 0), (8, 6, 0, 0, 0), (34, 0, 0, 0, 0), (3, 0, 0, 3, 0), (32, 0, 0, 0, 0), (4, 0, 0, 4, 0), (18, 144, 0, 0, 0), (3, 0, 0, 2, 0), (4, 0, 0, 4, 0), (39, 0, 0, 0, 0), (25, 0, 0, 2, 0), (31, 1, 0, 3, 0)] (by decide +kernel) ?_
      refine And.intro (Nat.le_of_ble_eq_true rfl) (And.intro (ce_21 hN) (And.intro rr_21_8 (And.intro rfl (And.intro rfl (And.intro rfl (And.intro rfl (And.intro rfl (And.intro (ce_28 hN) (And.intro ((h.2 q2).2.2 q1).1 (And.intro rfl (And.intro rfl (And.intro rfl (And.intro rfl (?_))))))))))))))
      show sg_Wp 0 N (d + 1) m_D_changeGuard 80 [(0, 2, 21), (1, 0, v1), (2, 0, sg_ior v2 0), (3, 0, sg_iadd v3 1), (4, 0, 0)] [] (sg_up G 28 (sg_iadd (sg_imul v1 6) v3) 0) Q
      refine sg_goto (off := -76) (tgt := 4) (by decide +kernel) (by decide) ?_
      exact sg_Wp.keepk [0, 1, 2, 3] rfl (((h.2 q2).2.2 q1).2)
set_option maxRecDepth 100000 in
theorem g_D_stand_21_0 {d N : Nat} (hN : 44 ≤ N) {v1 : Int} {G : SgM} {Q : Int → SgM → Prop} (h : sg_Wp 0 N (d + 1) m_D_stand 2 [(0, 2, 21), (1, 0, v1), (2, 0, 0)] [] G Q) : sg_Wp 0 N (d + 1) m_D_stand 0 [(0, 2, 21), (1, 0, v1)] [] G Q := by
  refine sg_blk [(7, 0, 0, 0, 0), (25, 0, 0, 2, 0)] (by decide +kernel) ?_
  refine And.intro rfl (And.intro rfl (?_))
  show sg_Wp 0 N (d + 1) m_D_stand 2 [(0, 2, 21), (1, 0, v1), (2, 0, 0)] [] G Q
  exact h
set_option maxRecDepth 100000 in
theorem g_D_stand_21_2 {d N : Nat} (hN : 44 ≤ N) {v1 v2 : Int} {G : SgM} {Q : Int → SgM → Prop} (h : ((G 5 0) ≤ v2 → (Q 0 G)) ∧ (¬ ((G 5 0) ≤ v2) → ((0 ≤ v1 ∧ v1 < 24) ∧ (((sg_iand (sg_ishr (G 31 v1) v2) 1 ≠ 0) → ((0 ≤ v2 ∧ v2 < 8) ∧ (0 ≤ v2 ∧ v2 < 8) ∧ (0 ≤ (sg_iadd (sg_imul v1 8) v2) ∧ (sg_iadd (sg_imul v1 8) v2) < 192) ∧ (0 ≤ v2 ∧ v2 < 8) ∧ ((((sg_up G 25 v2 0) 25 v2) < 12 → (sg_Wp 0 N (d + 1) m_D_stand 84 [(0, 2, 21), (1, 0, v1), (2, 0, v2)] [] (sg_up (sg_up G 25 v2 0) 29 (sg_iadd (sg_imul v1 8) v2) ((sg_up G 25 v2 0) 25 v2)) Q)) ∧ (¬ (((sg_up G 25 v2 0) 25 v2) < 12) → (sg_Wp 0 N (d + 1) m_D_stand 84 [(0, 2, 21), (1, 0, v1), (2, 0, v2)] [] (sg_up (sg_up (sg_up G 25 v2 0) 29 (sg_iadd (sg_imul v1 8) v2) ((sg_up G 25 v2 0) 25 v2)) 21 13 (sg_ior (G 21 13) (sg_ishl 1 v2))) Q))))) ∧ (¬ (sg_iand (sg_ishr (G 31 v1) v2) 1 ≠ 0) → ((0 ≤ v2 ∧ v2 < 8) ∧ (0 ≤ v2 ∧ v2 < 8) ∧ (0 ≤ v2 ∧ v2 < 8) ∧ (0 ≤ (sg_iadd (sg_imul v1 8) v2) ∧ (sg_iadd (sg_imul v1 8) v2) < 192) ∧ (0 ≤ v2 ∧ v2 < 8) ∧ ((((sg_up G 25 v2 (sg_iadd (G 25 v2) 1)) 25 v2) < 12 → (sg_Wp 0 N (d + 1) m_D_stand 84 [(0, 2, 21), (1, 0, v1), (2, 0, v2)] [] (sg_up (sg_up G 25 v2 (sg_iadd (G 25 v2) 1)) 29 (sg_iadd (sg_imul v1 8) v2) ((sg_up G 25 v2 (sg_iadd (G 25 v2) 1)) 25 v2)) Q)) ∧ (¬ (((sg_up G 25 v2 (sg_iadd (G 25 v2) 1)) 25 v2) < 12) → (sg_Wp 0 N (d + 1) m_D_stand 84 [(0, 2, 21), (1, 0, v1), (2, 0, v2)] [] (sg_up (sg_up (sg_up G 25 v2 (sg_iadd (G 25 v2) 1)) 29 (sg_iadd (sg_imul v1 8) v2) ((sg_up G 25 v2 (sg_iadd (G 25 v2) 1)) 25 v2)) 21 13 (sg_ior (G 21 13) (sg_ishl 1 v2))) Q))))))))) : sg_Wp 0 N (d + 1) m_D_stand 2 [(0, 2, 21), (1, 0, v1), (2, 0, v2)] [] G Q := by
  refine sg_blk [(3, 0, 0, 2, 0), (1, 0, 0, 0, 0), (65, 5, 1, 42, 0), (15, 0, 8, 136, 0)] (by decide +kernel) ?_
  refine And.intro rfl (And.intro (Nat.le_of_ble_eq_true rfl) (And.intro (ce_21 hN) (And.intro rr_21_0 (And.intro (ce_5 hN) (?_)))))
  show sg_Wp 0 N (d + 1) m_D_stand 10 [(0, 2, 21), (1, 0, v1), (2, 0, v2)] [(0, G 5 0), (0, v2)] G Q
  refine sg_icmp_ge (off := 113) (tgt := 123) (by decide +kernel) (by decide) ⟨fun q4 => ?_, fun q4 => ?_⟩
  · exact sg_vret (by decide +kernel) rfl ((h.1 q4))
  · refine sg_blk [(1, 0, 0, 0, 0), (65, 25, 1, 21, 5), (3, 0, 0, 2, 0), (1, 0, 0, 0, 0), (65, 31, 1, 39, 11), (3, 0, 0, 1, 0), (17, 24, 0, 0, 0), (3, 0, 0, 2, 0)] (by decide +kernel) ?_
    refine And.intro (Nat.le_of_ble_eq_true rfl) (And.intro (ce_21 hN) (And.intro rr_21_5 (And.intro rfl (And.intro (Nat.le_of_ble_eq_true rfl) (And.intro (ce_21 hN) (And.intro rr_21_11 (And.intro rfl (And.intro (ce_31 hN) (And.intro (h.2 q4).1 (And.intro rfl (?_)))))))))))
    show sg_Wp 0 N (d + 1) m_D_stand 25 [(0, 2, 21), (1, 0, v1), (2, 0, v2)] [(0, v2), (0, G 31 v1), (0, v2), (2, 25)] G Q
    refine sg_callN (k := d) (y' := m_G_hasBit) (av := [(0, G 31 v1), (0, v2)]) (rest := [(0, v2), (2, 25)]) (idx := 114) (by decide +kernel) cs_G_hasBit (List.mem_of_getElem? (i := 4) rfl) rfl (Nat.le_of_ble_eq_true rfl) (Nat.lt_succ_self d) (Nat.le_of_ble_eq_true rfl) rfl ?_
    show sg_Wp 0 N d m_G_hasBit 0 [(0, 0, G 31 v1), (1, 0, v2)] [] G _
    refine s_G_hasBit ?_
    show sg_Wp 0 N (d + 1) m_D_stand 28 [(0, 2, 21), (1, 0, v1), (2, 0, v2)] [(0, sg_bo (sg_iand (sg_ishr (G 31 v1) v2) 1 ≠ 0)), (0, v2), (2, 25)] G Q
    refine sg_bif_eq (off := 7) (tgt := 35) (by decide +kernel) (by decide) ⟨fun q3 => ?_, fun q3 => ?_⟩
    · refine sg_blk [(7, 0, 0, 0, 0)] (by decide +kernel) ?_
      refine And.intro rfl (?_)
      show sg_Wp 0 N (d + 1) m_D_stand 32 [(0, 2, 21), (1, 0, v1), (2, 0, v2)] [(0, 0), (0, v2), (2, 25)] G Q
      refine sg_goto (off := 11) (tgt := 43) (by decide +kernel) (by decide) ?_
      refine sg_blk [(18, 8, 0, 0, 0), (1, 0, 0, 0, 0), (65, 29, 1, 33, 9), (3, 0, 0, 1, 0), (8, 8, 0, 0, 0), (34, 0, 0, 0, 0), (3, 0, 0, 2, 0), (32, 0, 0, 0, 0), (1, 0, 0, 0, 0), (65, 25, 1, 21, 5), (3, 0, 0, 2, 0), (17, 8, 0, 0, 0), (18, 192, 0, 0, 0), (1, 0, 0, 0, 0), (65, 25, 1, 21, 5), (3, 0, 0, 2, 0), (17, 8, 0, 0, 0), (8, 12, 0, 0, 0)] (by decide +kernel) ?_
      refine And.intro (ce_25 hN) (And.intro ((h.2 q4).2.1 q3).1 (And.intro (Nat.le_of_ble_eq_true rfl) (And.intro (ce_21 hN) (And.intro rr_21_9 (And.intro rfl (And.intro rfl (And.intro rfl (And.intro rfl (And.intro (Nat.le_of_ble_eq_true rfl) (And.intro (ce_21 hN) (And.intro rr_21_5 (And.intro rfl (And.intro (ce_25 hN) (And.intro ((h.2 q4).2.1 q3).2.1 (And.intro (ce_29 hN) (And.intro ((h.2 q4).2.1 q3).2.2.1 (And.intro (Nat.le_of_ble_eq_true rfl) (And.intro (ce_21 hN) (And.intro rr_21_5 (And.intro rfl (And.intro (ce_25 hN) (And.intro ((h.2 q4).2.1 q3).2.2.2.1 (And.intro rfl (And.intro rfl (?_)))))))))))))))))))))))))
      show sg_Wp 0 N (d + 1) m_D_stand 69 [(0, 2, 21), (1, 0, v1), (2, 0, v2)] [(0, 12), (0, (sg_up G 25 v2 0) 25 v2)] (sg_up (sg_up G 25 v2 0) 29 (sg_iadd (sg_imul v1 8) v2) ((sg_up G 25 v2 0) 25 v2)) Q
      refine sg_icmp_lt (off := 15) (tgt := 84) (by decide +kernel) (by decide) ⟨fun q2 => ?_, fun q2 => ?_⟩
      · exact (((h.2 q4).2.1 q3).2.2.2.2.1 q2)
      · refine sg_blk [(1, 0, 0, 0, 0), (57, 0, 0, 0, 0), (15, 0, 1, 89, 13), (7, 1, 0, 0, 0), (3, 0, 0, 2, 0), (41, 0, 0, 0, 0), (39, 0, 0, 0, 0), (16, 0, 1, 89, 13)] (by decide +kernel) ?_
        refine And.intro (Nat.le_of_ble_eq_true rfl) (And.intro (Nat.ne_of_beq_eq_false rfl) (And.intro (ce_21 hN) (And.intro rfl (And.intro rfl (And.intro (ce_21 hN) (?_))))))
        show sg_Wp 0 N (d + 1) m_D_stand 84 [(0, 2, 21), (1, 0, v1), (2, 0, v2)] [] (sg_up (sg_up (sg_up G 25 v2 0) 29 (sg_iadd (sg_imul v1 8) v2) ((sg_up G 25 v2 0) 25 v2)) 21 13 (sg_ior (G 21 13) (sg_ishl 1 v2))) Q
        exact (((h.2 q4).2.1 q3).2.2.2.2.2 q2)
    · refine sg_blk [(1, 0, 0, 0, 0), (65, 25, 1, 21, 5), (3, 0, 0, 2, 0), (17, 8, 0, 0, 0), (7, 1, 0, 0, 0), (32, 0, 0, 0, 0), (18, 8, 0, 0, 0), (1, 0, 0, 0, 0), (65, 29, 1, 33, 9), (3, 0, 0, 1, 0), (8, 8, 0, 0, 0), (34, 0, 0, 0, 0), (3, 0, 0, 2, 0), (32, 0, 0, 0, 0), (1, 0, 0, 0, 0), (65, 25, 1, 21, 5), (3, 0, 0, 2, 0), (17, 8, 0, 0, 0), (18, 192, 0, 0, 0), (1, 0, 0, 0, 0), (65, 25, 1, 21, 5), (3, 0, 0, 2, 0), (17, 8, 0, 0, 0), (8, 12, 0, 0, 0)] (by decide +kernel) ?_
      refine And.intro (Nat.le_of_ble_eq_true rfl) (And.intro (ce_21 hN) (And.intro rr_21_5 (And.intro rfl (And.intro (ce_25 hN) (And.intro ((h.2 q4).2.2 q3).1 (And.intro rfl (And.intro (ce_25 hN) (And.intro ((h.2 q4).2.2 q3).2.1 (And.intro (Nat.le_of_ble_eq_true rfl) (And.intro (ce_21 hN) (And.intro rr_21_9 (And.intro rfl (And.intro rfl (And.intro rfl (And.intro rfl (And.intro (Nat.le_of_ble_eq_true rfl) (And.intro (ce_21 hN) (And.intro rr_21_5 (And.intro rfl (And.intro (ce_25 hN) (And.intro ((h.2 q4).2.2 q3).2.2.1 (And.intro (ce_29 hN) (And.intro ((h.2 q4).2.2 q3).2.2.2.1 (And.intro (Nat.le_of_ble_eq_true rfl) (And.intro (ce_21 hN) (And.intro rr_21_5 (And.intro rfl (And.intro (ce_25 hN) (And.intro ((h.2 q4).2.2 q3).2.2.2.2.1 (And.intro rfl (And.intro rfl (?_))))))))))))))))))))))))))))))))
      show sg_Wp 0 N (d + 1) m_D_stand 69 [(0, 2, 21), (1, 0, v1), (2, 0, v2)] [(0, 12), (0, (sg_up G 25 v2 (sg_iadd (G 25 v2) 1)) 25 v2)] (sg_up (sg_up G 25 v2 (sg_iadd (G 25 v2) 1)) 29 (sg_iadd (sg_imul v1 8) v2) ((sg_up G 25 v2 (sg_iadd (G 25 v2) 1)) 25 v2)) Q
      refine sg_icmp_lt (off := 15) (tgt := 84) (by decide +kernel) (by decide) ⟨fun q1 => ?_, fun q1 => ?_⟩
      · exact (((h.2 q4).2.2 q3).2.2.2.2.2.1 q1)
      · refine sg_blk [(1, 0, 0, 0, 0), (57, 0, 0, 0, 0), (15, 0, 1, 89, 13), (7, 1, 0, 0, 0), (3, 0, 0, 2, 0), (41, 0, 0, 0, 0), (39, 0, 0, 0, 0), (16, 0, 1, 89, 13)] (by decide +kernel) ?_
        refine And.intro (Nat.le_of_ble_eq_true rfl) (And.intro (Nat.ne_of_beq_eq_false rfl) (And.intro (ce_21 hN) (And.intro rfl (And.intro rfl (And.intro (ce_21 hN) (?_))))))
        show sg_Wp 0 N (d + 1) m_D_stand 84 [(0, 2, 21), (1, 0, v1), (2, 0, v2)] [] (sg_up (sg_up (sg_up G 25 v2 (sg_iadd (G 25 v2) 1)) 29 (sg_iadd (sg_imul v1 8) v2) ((sg_up G 25 v2 (sg_iadd (G 25 v2) 1)) 25 v2)) 21 13 (sg_ior (G 21 13) (sg_ishl 1 v2))) Q
        exact (((h.2 q4).2.2 q3).2.2.2.2.2.2 q1)
set_option maxRecDepth 100000 in
theorem g_D_stand_21_84 {d N : Nat} (hN : 44 ≤ N) {v1 v2 : Int} {G : SgM} {Q : Int → SgM → Prop} (h : (0 ≤ v2 ∧ v2 < 8) ∧ (((G 25 v2) ≤ (G 21 14) → (sg_Wp 0 N (d + 1) m_D_stand 117 [(0, 2, 21), (1, 0, v1), (2, 0, v2)] [] G Q)) ∧ (¬ ((G 25 v2) ≤ (G 21 14)) → ((0 ≤ v2 ∧ v2 < 8) ∧ (sg_Wp 0 N (d + 1) m_D_stand 117 [(0, 2, 21), (1, 0, v1), (2, 0, v2)] [] (sg_up (sg_up (sg_up G 21 14 (G 25 v2)) 21 15 v1) 21 16 v2) Q))))) : sg_Wp 0 N (d + 1) m_D_stand 84 [(0, 2, 21), (1, 0, v1), (2, 0, v2)] [] G Q := by
  refine sg_blk [(1, 0, 0, 0, 0), (65, 25, 1, 21, 5), (3, 0, 0, 2, 0), (17, 8, 0, 0, 0), (1, 0, 0, 0, 0), (15, 0, 1, 92, 14)] (by decide +kernel) ?_
  refine And.intro (Nat.le_of_ble_eq_true rfl) (And.intro (ce_21 hN) (And.intro rr_21_5 (And.intro rfl (And.intro (ce_25 hN) (And.intro h.1 (And.intro (Nat.le_of_ble_eq_true rfl) (And.intro (ce_21 hN) (?_))))))))
  show sg_Wp 0 N (d + 1) m_D_stand 94 [(0, 2, 21), (1, 0, v1), (2, 0, v2)] [(0, G 21 14), (0, G 25 v2)] G Q
  refine sg_icmp_le (off := 23) (tgt := 117) (by decide +kernel) (by decide) ⟨fun q5 => ?_, fun q5 => ?_⟩
  · exact (h.2.1 q5)
  · refine sg_blk [(1, 0, 0, 0, 0), (1, 0, 0, 0, 0), (65, 25, 1, 21, 5), (3, 0, 0, 2, 0), (17, 8, 0, 0, 0), (16, 0, 1, 92, 14), (1, 0, 0, 0, 0), (3, 0, 0, 1, 0), (16, 0, 1, 95, 15), (1, 0, 0, 0, 0), (3, 0, 0, 2, 0), (16, 0, 1, 98, 16)] (by decide +kernel) ?_
    refine And.intro (Nat.le_of_ble_eq_true rfl) (And.intro (Nat.le_of_ble_eq_true rfl) (And.intro (ce_21 hN) (And.intro rr_21_5 (And.intro rfl (And.intro (ce_25 hN) (And.intro (h.2.2 q5).1 (And.intro (ce_21 hN) (And.intro (Nat.le_of_ble_eq_true rfl) (And.intro rfl (And.intro (ce_21 hN) (And.intro (Nat.le_of_ble_eq_true rfl) (And.intro rfl (And.intro (ce_21 hN) (?_))))))))))))))
    show sg_Wp 0 N (d + 1) m_D_stand 117 [(0, 2, 21), (1, 0, v1), (2, 0, v2)] [] (sg_up (sg_up (sg_up G 21 14 (G 25 v2)) 21 15 v1) 21 16 v2) Q
    exact (h.2.2 q5).2
set_option maxRecDepth 100000 in
theorem g_D_stand_21_117 {d N : Nat} (hN : 44 ≤ N) {v1 v2 : Int} {G : SgM} {Q : Int → SgM → Prop} (h : sg_Wp 0 N (d + 1) m_D_stand 2 [(0, 2, 21), (1, 0, v1), (2, 0, sg_iadd v2 1)] [] G Q) : sg_Wp 0 N (d + 1) m_D_stand 117 [(0, 2, 21), (1, 0, v1), (2, 0, v2)] [] G Q := by
  refine sg_blk [(31, 1, 0, 2, 0)] (by decide +kernel) ?_
  refine And.intro rfl (?_)
  show sg_Wp 0 N (d + 1) m_D_stand 120 [(0, 2, 21), (1, 0, v1), (2, 0, sg_iadd v2 1)] [] G Q
  refine sg_goto (off := -118) (tgt := 2) (by decide +kernel) (by decide) ?_
  exact h
set_option maxRecDepth 100000 in
theorem g_D_spreadColds_21_0 {d N : Nat} (hN : 44 ≤ N) {v1 : Int} {G : SgM} {Q : Int → SgM → Prop} (h : sg_Wp 0 N (d + 1) m_D_spreadColds 4 [(0, 2, 21), (1, 0, v1), (2, 0, 0), (3, 0, 0)] [] G Q) : sg_Wp 0 N (d + 1) m_D_spreadColds 0 [(0, 2, 21), (1, 0, v1)] [] G Q := by
  refine sg_blk [(7, 0, 0, 0, 0), (25, 0, 0, 2, 0), (7, 0, 0, 0, 0), (25, 0, 0, 3, 0)] (by decide +kernel) ?_
  refine And.intro rfl (And.intro rfl (And.intro rfl (And.intro rfl (?_))))
  show sg_Wp 0 N (d + 1) m_D_spreadColds 4 [(0, 2, 21), (1, 0, v1), (2, 0, 0), (3, 0, 0)] [] G Q
  exact h
set_option maxRecDepth 100000 in
theorem g_D_spreadColds_21_4 {d N : Nat} (hN : 44 ≤ N) {v1 v2 v3 : Int} {G : SgM} {Q : Int → SgM → Prop} (h : ((G 5 4) ≤ v3 → (sg_Wp 0 N (d + 1) m_D_spreadColds 44 [(0, 2, 21), (1, 0, v1), (2, 0, v2), (3, 0, 0)] [] G Q)) ∧ (¬ ((G 5 4) ≤ v3) → ((0 ≤ v1 ∧ v1 < 24) ∧ (((sg_iand (sg_ishr (G 30 v1) v3) 1 ≠ 0) → (sg_Wp 0 N d m_D_othersInCellOf 0 [(0, 2, 21), (1, 0, v3)] [] G (fun r1 G1 => sg_Wp 0 N (d + 1) m_D_spreadColds 4 [(0, 2, 21), (1, 0, v1), (2, 0, sg_ior v2 r1), (3, 0, sg_iadd v3 1)] [] G1 Q))) ∧ (¬ (sg_iand (sg_ishr (G 30 v1) v3) 1 ≠ 0) → (sg_Wp 0 N (d + 1) m_D_spreadColds 4 [(0, 2, 21), (1, 0, v1), (2, 0, v2), (3, 0, sg_iadd v3 1)] [] G Q)))))) : sg_Wp 0 N (d + 1) m_D_spreadColds 4 [(0, 2, 21), (1, 0, v1), (2, 0, v2), (3, 0, v3)] [] G Q := by
  refine sg_blk [(3, 0, 0, 3, 0), (1, 0, 0, 0, 0), (65, 5, 1, 42, 0), (15, 0, 8, 69, 4)] (by decide +kernel) ?_
  refine And.intro rfl (And.intro (Nat.le_of_ble_eq_true rfl) (And.intro (ce_21 hN) (And.intro rr_21_0 (And.intro (ce_5 hN) (?_)))))
  show sg_Wp 0 N (d + 1) m_D_spreadColds 12 [(0, 2, 21), (1, 0, v1), (2, 0, v2), (3, 0, v3)] [(0, G 5 4), (0, v3)] G Q
  refine sg_icmp_ge (off := 30) (tgt := 42) (by decide +kernel) (by decide) ⟨fun q2 => ?_, fun q2 => ?_⟩
  · refine sg_blk [(7, 0, 0, 0, 0), (25, 0, 0, 3, 0)] (by decide +kernel) ?_
    refine And.intro rfl (And.intro rfl (?_))
    show sg_Wp 0 N (d + 1) m_D_spreadColds 44 [(0, 2, 21), (1, 0, v1), (2, 0, v2), (3, 0, 0)] [] G Q
    exact (h.1 q2)
  · refine sg_blk [(1, 0, 0, 0, 0), (65, 30, 1, 36, 10), (3, 0, 0, 1, 0), (17, 24, 0, 0, 0), (3, 0, 0, 3, 0)] (by decide +kernel) ?_
    refine And.intro (Nat.le_of_ble_eq_true rfl) (And.intro (ce_21 hN) (And.intro rr_21_10 (And.intro rfl (And.intro (ce_30 hN) (And.intro (h.2 q2).1 (And.intro rfl (?_)))))))
    show sg_Wp 0 N (d + 1) m_D_spreadColds 22 [(0, 2, 21), (1, 0, v1), (2, 0, v2), (3, 0, v3)] [(0, v3), (0, G 30 v1)] G Q
    refine sg_callN (k := d) (y' := m_G_hasBit) (av := [(0, G 30 v1), (0, v3)]) (rest := []) (idx := 114) (by decide +kernel) cs_G_hasBit (List.mem_of_getElem? (i := 4) rfl) rfl (Nat.le_of_ble_eq_true rfl) (Nat.lt_succ_self d) (Nat.le_of_ble_eq_true rfl) rfl ?_
    show sg_Wp 0 N d m_G_hasBit 0 [(0, 0, G 30 v1), (1, 0, v3)] [] G _
    refine s_G_hasBit ?_
    show sg_Wp 0 N (d + 1) m_D_spreadColds 25 [(0, 2, 21), (1, 0, v1), (2, 0, v2), (3, 0, v3)] [(0, sg_bo (sg_iand (sg_ishr (G 30 v1) v3) 1 ≠ 0))] G Q
    refine sg_bif_eq (off := 11) (tgt := 36) (by decide +kernel) (by decide) ⟨fun q1 => ?_, fun q1 => ?_⟩
    · refine sg_blk [(3, 0, 0, 2, 0), (1, 0, 0, 0, 0), (3, 0, 0, 3, 0)] (by decide +kernel) ?_
      refine And.intro rfl (And.intro (Nat.le_of_ble_eq_true rfl) (And.intro rfl (?_)))
      show sg_Wp 0 N (d + 1) m_D_spreadColds 31 [(0, 2, 21), (1, 0, v1), (2, 0, v2), (3, 0, v3)] [(0, v3), (2, 21), (0, v2)] G Q
      refine sg_callV (k := d) (y' := m_D_othersInCellOf) (av := [(0, v3)]) (rest := [(0, v2)]) (b := 21) (by decide +kernel) cv_D_othersInCellOf ml_1_139 (ce_21 hN) rfl rfl (Nat.le_of_ble_eq_true rfl) (Nat.lt_succ_self d) (Nat.le_of_ble_eq_true rfl) rfl ?_
      show sg_Wp 0 N d m_D_othersInCellOf 0 [(0, 2, 21), (1, 0, v3)] [] G _
      refine sg_Wp.mono (((h.2 q2).2.1 q1)) (fun r1 G1 hhr1 => ?_)
      show sg_Wp 0 N (d + 1) m_D_spreadColds 34 [(0, 2, 21), (1, 0, v1), (2, 0, v2), (3, 0, v3)] [(0, r1), (0, v2)] G1 Q
      refine sg_blk [(39, 0, 0, 0, 0), (25, 0, 0, 2, 0), (31, 1, 0, 3, 0)] (by decide +kernel) ?_
      refine And.intro rfl (And.intro rfl (?_))
      show sg_Wp 0 N (d + 1) m_D_spreadColds 39 [(0, 2, 21), (1, 0, v1), (2, 0, sg_ior v2 r1), (3, 0, sg_iadd v3 1)] [] G1 Q
      refine sg_goto (off := -35) (tgt := 4) (by decide +kernel) (by decide) ?_
      exact hhr1
    · refine sg_blk [(31, 1, 0, 3, 0)] (by decide +kernel) ?_
      refine And.intro rfl (?_)
      show sg_Wp 0 N (d + 1) m_D_spreadColds 39 [(0, 2, 21), (1, 0, v1), (2, 0, v2), (3, 0, sg_iadd v3 1)] [] G Q
      refine sg_goto (off := -35) (tgt := 4) (by decide +kernel) (by decide) ?_
      exact ((h.2 q2).2.2 q1)
set_option maxRecDepth 100000 in
theorem g_D_spreadColds_21_44 {d N : Nat} (hN : 44 ≤ N) {v1 v2 v3 : Int} {G : SgM} {Q : Int → SgM → Prop} (h : ((G 5 4) ≤ v3 → (Q 0 G)) ∧ (¬ ((G 5 4) ≤ v3) → (((sg_iand (sg_ishr v2 v3) 1 ≠ 0) → ((0 ≤ v3 ∧ v3 < 6) ∧ (((G 24 v3) ≤ 1 → ((0 ≤ v3 ∧ v3 < 6) ∧ (0 ≤ (sg_iadd (sg_imul v1 6) v3) ∧ (sg_iadd (sg_imul v1 6) v3) < 144) ∧ (sg_Wp 0 N (d + 1) m_D_spreadColds 44 [(0, 2, 21), (1, 0, v1), (2, 0, v2), (3, 0, sg_iadd v3 1)] [] (sg_up G 27 (sg_iadd (sg_imul v1 6) v3) (G 24 v3)) Q))) ∧ (¬ ((G 24 v3) ≤ 1) → ((0 ≤ v3 ∧ v3 < 6) ∧ (0 ≤ v3 ∧ v3 < 6) ∧ (0 ≤ v3 ∧ v3 < 6) ∧ (0 ≤ (sg_iadd (sg_imul v1 6) v3) ∧ (sg_iadd (sg_imul v1 6) v3) < 144) ∧ (sg_Wp 0 N (d + 1) m_D_spreadColds 44 [(0, 2, 21), (1, 0, v1), (2, 0, v2), (3, 0, sg_iadd v3 1)] [] (sg_up (sg_up G 24 v3 (sg_isub (G 24 v3) 1)) 27 (sg_iadd (sg_imul v1 6) v3) ((sg_up G 24 v3 (sg_isub (G 24 v3) 1)) 24 v3)) Q)))))) ∧ (¬ (sg_iand (sg_ishr v2 v3) 1 ≠ 0) → ((0 ≤ v3 ∧ v3 < 6) ∧ (0 ≤ (sg_iadd (sg_imul v1 6) v3) ∧ (sg_iadd (sg_imul v1 6) v3) < 144) ∧ (sg_Wp 0 N (d + 1) m_D_spreadColds 44 [(0, 2, 21), (1, 0, v1), (2, 0, v2), (3, 0, sg_iadd v3 1)] [] (sg_up G 27 (sg_iadd (sg_imul v1 6) v3) (G 24 v3)) Q)))))) : sg_Wp 0 N (d + 1) m_D_spreadColds 44 [(0, 2, 21), (1, 0, v1), (2, 0, v2), (3, 0, v3)] [] G Q := by
  refine sg_blk [(3, 0, 0, 3, 0), (1, 0, 0, 0, 0), (65, 5, 1, 42, 0), (15, 0, 8, 69, 4)] (by decide +kernel) ?_
  refine And.intro rfl (And.intro (Nat.le_of_ble_eq_true rfl) (And.intro (ce_21 hN) (And.intro rr_21_0 (And.intro (ce_5 hN) (?_)))))
  show sg_Wp 0 N (d + 1) m_D_spreadColds 52 [(0, 2, 21), (1, 0, v1), (2, 0, v2), (3, 0, v3)] [(0, G 5 4), (0, v3)] G Q
  refine sg_icmp_ge (off := 54) (tgt := 106) (by decide +kernel) (by decide) ⟨fun q5 => ?_, fun q5 => ?_⟩
  · exact sg_vret (by decide +kernel) rfl ((h.1 q5))
  · refine sg_blk [(3, 0, 0, 2, 0), (3, 0, 0, 3, 0)] (by decide +kernel) ?_
    refine And.intro rfl (And.intro rfl (?_))
    show sg_Wp 0 N (d + 1) m_D_spreadColds 57 [(0, 2, 21), (1, 0, v1), (2, 0, v2), (3, 0, v3)] [(0, v3), (0, v2)] G Q
    refine sg_callN (k := d) (y' := m_G_hasBit) (av := [(0, v2), (0, v3)]) (rest := []) (idx := 114) (by decide +kernel) cs_G_hasBit (List.mem_of_getElem? (i := 4) rfl) rfl (Nat.le_of_ble_eq_true rfl) (Nat.lt_succ_self d) (Nat.le_of_ble_eq_true rfl) rfl ?_
    show sg_Wp 0 N d m_G_hasBit 0 [(0, 0, v2), (1, 0, v3)] [] G _
    refine s_G_hasBit ?_
    show sg_Wp 0 N (d + 1) m_D_spreadColds 60 [(0, 2, 21), (1, 0, v1), (2, 0, v2), (3, 0, v3)] [(0, sg_bo (sg_iand (sg_ishr v2 v3) 1 ≠ 0))] G Q
    refine sg_bif_eq (off := 23) (tgt := 83) (by decide +kernel) (by decide) ⟨fun q4 => ?_, fun q4 => ?_⟩
    · refine sg_blk [(1, 0, 0, 0, 0), (65, 24, 1, 18, 4), (3, 0, 0, 3, 0), (17, 6, 0, 0, 0), (7, 1, 0, 0, 0)] (by decide +kernel) ?_
      refine And.intro (Nat.le_of_ble_eq_true rfl) (And.intro (ce_21 hN) (And.intro rr_21_4 (And.intro rfl (And.intro (ce_24 hN) (And.intro ((h.2 q5).1 q4).1 (And.intro rfl (?_)))))))
      show sg_Wp 0 N (d + 1) m_D_spreadColds 70 [(0, 2, 21), (1, 0, v1), (2, 0, v2), (3, 0, v3)] [(0, 1), (0, G 24 v3)] G Q
      refine sg_icmp_le (off := 13) (tgt := 83) (by decide +kernel) (by decide) ⟨fun q3 => ?_, fun q3 => ?_⟩
      · refine sg_blk [(1, 0, 0, 0, 0), (65, 27, 1, 27, 7), (3, 0, 0, 1, 0), (8, 6, 0, 0, 0), (34, 0, 0, 0, 0), (3, 0, 0, 3, 0), (32, 0, 0, 0, 0), (1, 0, 0, 0, 0), (65, 24, 1, 18, 4), (3, 0, 0, 3, 0), (17, 6, 0, 0, 0), (18, 144, 0, 0, 0), (31, 1, 0, 3, 0)] (by decide +kernel) ?_
        refine And.intro (Nat.le_of_ble_eq_true rfl) (And.intro (ce_21 hN) (And.intro rr_21_7 (And.intro rfl (And.intro rfl (And.intro rfl (And.intro rfl (And.intro (Nat.le_of_ble_eq_true rfl) (And.intro (ce_21 hN) (And.intro rr_21_4 (And.intro rfl (And.intro (ce_24 hN) (And.intro (((h.2 q5).1 q4).2.1 q3).1 (And.intro (ce_27 hN) (And.intro (((h.2 q5).1 q4).2.1 q3).2.1 (And.intro rfl (?_))))))))))))))))
        show sg_Wp 0 N (d + 1) m_D_spreadColds 103 [(0, 2, 21), (1, 0, v1), (2, 0, v2), (3, 0, sg_iadd v3 1)] [] (sg_up G 27 (sg_iadd (sg_imul v1 6) v3) (G 24 v3)) Q
        refine sg_goto (off := -59) (tgt := 44) (by decide +kernel) (by decide) ?_
        exact (((h.2 q5).1 q4).2.1 q3).2.2
      · refine sg_blk [(1, 0, 0, 0, 0), (65, 24, 1, 18, 4), (3, 0, 0, 3, 0), (58, 0, 0, 0, 0), (17, 6, 0, 0, 0), (7, 1, 0, 0, 0), (33, 0, 0, 0, 0), (18, 6, 0, 0, 0), (1, 0, 0, 0, 0), (65, 27, 1, 27, 7), (3, 0, 0, 1, 0), (8, 6, 0, 0, 0), (34, 0, 0, 0, 0), (3, 0, 0, 3, 0), (32, 0, 0, 0, 0), (1, 0, 0, 0, 0), (65, 24, 1, 18, 4), (3, 0, 0, 3, 0), (17, 6, 0, 0, 0), (18, 144, 0, 0, 0), (31, 1, 0, 3, 0)] (by decide +kernel) ?_
        refine And.intro (Nat.le_of_ble_eq_true rfl) (And.intro (ce_21 hN) (And.intro rr_21_4 (And.intro rfl (And.intro (And.intro (Nat.ne_of_beq_eq_false rfl) (Nat.ne_of_beq_eq_false rfl)) (And.intro (ce_24 hN) (And.intro (((h.2 q5).1 q4).2.2 q3).1 (And.intro rfl (And.intro (ce_24 hN) (And.intro (((h.2 q5).1 q4).2.2 q3).2.1 (And.intro (Nat.le_of_ble_eq_true rfl) (And.intro (ce_21 hN) (And.intro rr_21_7 (And.intro rfl (And.intro rfl (And.intro rfl (And.intro rfl (And.intro (Nat.le_of_ble_eq_true rfl) (And.intro (ce_21 hN) (And.intro rr_21_4 (And.intro rfl (And.intro (ce_24 hN) (And.intro (((h.2 q5).1 q4).2.2 q3).2.2.1 (And.intro (ce_27 hN) (And.intro (((h.2 q5).1 q4).2.2 q3).2.2.2.1 (And.intro rfl (?_))))))))))))))))))))))))))
        show sg_Wp 0 N (d + 1) m_D_spreadColds 103 [(0, 2, 21), (1, 0, v1), (2, 0, v2), (3, 0, sg_iadd v3 1)] [] (sg_up (sg_up G 24 v3 (sg_isub (G 24 v3) 1)) 27 (sg_iadd (sg_imul v1 6) v3) ((sg_up G 24 v3 (sg_isub (G 24 v3) 1)) 24 v3)) Q
        refine sg_goto (off := -59) (tgt := 44) (by decide +kernel) (by decide) ?_
        exact (((h.2 q5).1 q4).2.2 q3).2.2.2.2
    · refine sg_blk [(1, 0, 0, 0, 0), (65, 27, 1, 27, 7), (3, 0, 0, 1, 0), (8, 6, 0, 0, 0), (34, 0, 0, 0, 0), (3, 0, 0, 3, 0), (32, 0, 0, 0, 0), (1, 0, 0, 0, 0), (65, 24, 1, 18, 4), (3, 0, 0, 3, 0), (17, 6, 0, 0, 0), (18, 144, 0, 0, 0), (31, 1, 0, 3, 0)] (by decide +kernel) ?_
      refine And.intro (Nat.le_of_ble_eq_true rfl) (And.intro (ce_21 hN) (And.intro rr_21_7 (And.intro rfl (And.intro rfl (And.intro rfl (And.intro rfl (And.intro (Nat.le_of_ble_eq_true rfl) (And.intro (ce_21 hN) (And.intro rr_21_4 (And.intro rfl (And.intro (ce_24 hN) (And.intro ((h.2 q5).2 q4).1 (And.intro (ce_27 hN) (And.intro ((h.2 q5).2 q4).2.1 (And.intro rfl (?_))))))))))))))))
      show sg_Wp 0 N (d + 1) m_D_spreadColds 103 [(0, 2, 21), (1, 0, v1), (2, 0, v2), (3, 0, sg_iadd v3 1)] [] (sg_up G 27 (sg_iadd (sg_imul v1 6) v3) (G 24 v3)) Q
      refine sg_goto (off := -59) (tgt := 44) (by decide +kernel) (by decide) ?_
      exact ((h.2 q5).2 q4).2.2
set_option maxRecDepth 100000 in
theorem g_D_othersInCellOf_21_0 {d N : Nat} (hN : 44 ≤ N) {v1 : Int} {G : SgM} {Q : Int → SgM → Prop} (h : sg_Wp 0 N d m_D_othersInCellOf 4 [(0, 2, 21), (1, 0, v1), (2, 0, 0), (3, 0, 0)] [] G Q) : sg_Wp 0 N d m_D_othersInCellOf 0 [(0, 2, 21), (1, 0, v1)] [] G Q := by
  refine sg_blk [(7, 0, 0, 0, 0), (25, 0, 0, 2, 0), (7, 0, 0, 0, 0), (25, 0, 0, 3, 0)] (by decide +kernel) ?_
  refine And.intro rfl (And.intro rfl (And.intro rfl (And.intro rfl (?_))))
  show sg_Wp 0 N d m_D_othersInCellOf 4 [(0, 2, 21), (1, 0, v1), (2, 0, 0), (3, 0, 0)] [] G Q
  exact h
set_option maxRecDepth 100000 in
theorem g_D_othersInCellOf_21_4 {d N : Nat} (hN : 44 ≤ N) {v1 v2 v3 : Int} {G : SgM} {Q : Int → SgM → Prop} (h : ((G 5 4) ≤ v3 → (Q v2 G)) ∧ (¬ ((G 5 4) ≤ v3) → ((v3 = v1 → (sg_Wp 0 N d m_D_othersInCellOf 4 [(0, 2, 21), (1, 0, v1), (2, 0, v2), (3, 0, sg_iadd v3 1)] [] G Q)) ∧ (¬ (v3 = v1) → ((0 ≤ v3 ∧ v3 < 6) ∧ (0 ≤ v1 ∧ v1 < 6) ∧ (((G 22 v3) ≠ (G 22 v1) → (sg_Wp 0 N d m_D_othersInCellOf 4 [(0, 2, 21), (1, 0, v1), (2, 0, v2), (3, 0, sg_iadd v3 1)] [] G Q)) ∧ (¬ ((G 22 v3) ≠ (G 22 v1)) → (sg_Wp 0 N d m_D_othersInCellOf 4 [(0, 2, 21), (1, 0, v1), (2, 0, sg_ior v2 (sg_ishl 1 v3)), (3, 0, sg_iadd v3 1)] [] G Q)))))))) : sg_Wp 0 N d m_D_othersInCellOf 4 [(0, 2, 21), (1, 0, v1), (2, 0, v2), (3, 0, v3)] [] G Q := by
  refine sg_blk [(3, 0, 0, 3, 0), (1, 0, 0, 0, 0), (65, 5, 1, 42, 0), (15, 0, 8, 69, 4)] (by decide +kernel) ?_
  refine And.intro rfl (And.intro (Nat.le_of_ble_eq_true rfl) (And.intro (ce_21 hN) (And.intro rr_21_0 (And.intro (ce_5 hN) (?_)))))
  show sg_Wp 0 N d m_D_othersInCellOf 12 [(0, 2, 21), (1, 0, v1), (2, 0, v2), (3, 0, v3)] [(0, G 5 4), (0, v3)] G Q
  refine sg_icmp_ge (off := 35) (tgt := 47) (by decide +kernel) (by decide) ⟨fun q3 => ?_, fun q3 => ?_⟩
  · refine sg_blk [(3, 0, 0, 2, 0)] (by decide +kernel) ?_
    refine And.intro rfl (?_)
    show sg_Wp 0 N d m_D_othersInCellOf 48 [(0, 2, 21), (1, 0, v1), (2, 0, v2), (3, 0, v3)] [(0, v2)] G Q
    exact sg_ret (by decide +kernel) rfl (Or.inl rfl) ((h.1 q3))
  · refine sg_blk [(3, 0, 0, 3, 0), (3, 0, 0, 1, 0)] (by decide +kernel) ?_
    refine And.intro rfl (And.intro rfl (?_))
    show sg_Wp 0 N d m_D_othersInCellOf 17 [(0, 2, 21), (1, 0, v1), (2, 0, v2), (3, 0, v3)] [(0, v1), (0, v3)] G Q
    refine sg_icmp_eq (off := 24) (tgt := 41) (by decide +kernel) (by decide) ⟨fun q2 => ?_, fun q2 => ?_⟩
    · refine sg_blk [(31, 1, 0, 3, 0)] (by decide +kernel) ?_
      refine And.intro rfl (?_)
      show sg_Wp 0 N d m_D_othersInCellOf 44 [(0, 2, 21), (1, 0, v1), (2, 0, v2), (3, 0, sg_iadd v3 1)] [] G Q
      refine sg_goto (off := -40) (tgt := 4) (by decide +kernel) (by decide) ?_
      exact ((h.2 q3).1 q2)
    · refine sg_blk [(1, 0, 0, 0, 0), (65, 22, 1, 9, 2), (3, 0, 0, 3, 0), (17, 6, 0, 0, 0), (1, 0, 0, 0, 0), (65, 22, 1, 9, 2), (3, 0, 0, 1, 0), (17, 6, 0, 0, 0)] (by decide +kernel) ?_
      refine And.intro (Nat.le_of_ble_eq_true rfl) (And.intro (ce_21 hN) (And.intro rr_21_2 (And.intro rfl (And.intro (ce_22 hN) (And.intro ((h.2 q3).2 q2).1 (And.intro (Nat.le_of_ble_eq_true rfl) (And.intro (ce_21 hN) (And.intro rr_21_2 (And.intro rfl (And.intro (ce_22 hN) (And.intro ((h.2 q3).2 q2).2.1 (?_))))))))))))
      show sg_Wp 0 N d m_D_othersInCellOf 32 [(0, 2, 21), (1, 0, v1), (2, 0, v2), (3, 0, v3)] [(0, G 22 v1), (0, G 22 v3)] G Q
      refine sg_icmp_ne (off := 9) (tgt := 41) (by decide +kernel) (by decide) ⟨fun q1 => ?_, fun q1 => ?_⟩
      · refine sg_blk [(31, 1, 0, 3, 0)] (by decide +kernel) ?_
        refine And.intro rfl (?_)
        show sg_Wp 0 N d m_D_othersInCellOf 44 [(0, 2, 21), (1, 0, v1), (2, 0, v2), (3, 0, sg_iadd v3 1)] [] G Q
        refine sg_goto (off := -40) (tgt := 4) (by decide +kernel) (by decide) ?_
        exact (((h.2 q3).2 q2).2.2.1 q1)
      · refine sg_blk [(3, 0, 0, 2, 0), (7, 1, 0, 0, 0), (3, 0, 0, 3, 0), (41, 0, 0, 0, 0), (39, 0, 0, 0, 0), (25, 0, 0, 2, 0), (31, 1, 0, 3, 0)] (by decide +kernel) ?_
        refine And.intro rfl (And.intro rfl (And.intro rfl (And.intro rfl (And.intro rfl (?_)))))
        show sg_Wp 0 N d m_D_othersInCellOf 44 [(0, 2, 21), (1, 0, v1), (2, 0, sg_ior v2 (sg_ishl 1 v3)), (3, 0, sg_iadd v3 1)] [] G Q
        refine sg_goto (off := -40) (tgt := 4) (by decide +kernel) (by decide) ?_
        exact (((h.2 q3).2 q2).2.2.2 q1)
set_option maxRecDepth 100000 in
theorem g_D_pass_32_0 {d N : Nat} (hN : 44 ≤ N) {G : SgM} {Q : Int → SgM → Prop} (h : sg_Wp 0 N d m_D_begin 0 [(0, 2, 32)] [] G (fun r1 G1 => sg_Wp 0 N (d + 1) m_D_pass 6 [(0, 2, 32), (1, 0, 0)] [] G1 Q)) : sg_Wp 0 N (d + 1) m_D_pass 0 [(0, 2, 32)] [] G Q := by
  refine sg_blk [(1, 0, 0, 0, 0)] (by decide +kernel) ?_
  refine And.intro (Nat.le_of_ble_eq_true rfl) (?_)
  show sg_Wp 0 N (d + 1) m_D_pass 1 [(0, 2, 32)] [(2, 32)] G Q
  refine sg_callV (k := d) (y' := m_D_begin) (av := []) (rest := []) (b := 32) (by decide +kernel) cv_D_begin ml_1_50 (ce_32 hN) rfl rfl (Nat.le_of_ble_eq_true rfl) (Nat.lt_succ_self d) (Nat.le_of_ble_eq_true rfl) rfl ?_
  show sg_Wp 0 N d m_D_begin 0 [(0, 2, 32)] [] G _
  refine sg_Wp.mono h (fun r1 G1 hhr1 => ?_)
  show sg_Wp 0 N (d + 1) m_D_pass 4 [(0, 2, 32)] [] G1 Q
  refine sg_blk [(7, 0, 0, 0, 0), (25, 0, 0, 1, 0)] (by decide +kernel) ?_
  refine And.intro rfl (And.intro rfl (?_))
  show sg_Wp 0 N (d + 1) m_D_pass 6 [(0, 2, 32), (1, 0, 0)] [] G1 Q
  exact hhr1
set_option maxRecDepth 100000 in
theorem g_D_pass_32_6 {d N : Nat} (hN : 44 ≤ N) {v1 : Int} {G : SgM} {Q : Int → SgM → Prop} (h : (24 ≤ v1 → (Q 0 G)) ∧ (¬ (24 ≤ v1) → (sg_Wp 0 N d m_D_walk 0 [(0, 2, 32), (1, 0, v1)] [] G (fun r2 G2 => sg_Wp 0 N d m_D_sneeze 0 [(0, 2, 32), (1, 0, v1)] [] G2 (fun r3 G3 => sg_Wp 0 N d m_D_changeGuard 0 [(0, 2, 32), (1, 0, v1)] [] G3 (fun r4 G4 => sg_Wp 0 N d m_D_stand 0 [(0, 2, 32), (1, 0, v1)] [] G4 (fun r5 G5 => sg_Wp 0 N d m_D_spreadColds 0 [(0, 2, 32), (1, 0, v1)] [] G5 (fun r6 G6 => sg_Wp 0 N (d + 1) m_D_pass 6 [(0, 2, 32), (1, 0, sg_iadd v1 1)] [] G6 Q)))))))) : sg_Wp 0 N (d + 1) m_D_pass 6 [(0, 2, 32), (1, 0, v1)] [] G Q := by
  refine sg_blk [(3, 0, 0, 1, 0), (8, 24, 0, 0, 0)] (by decide +kernel) ?_
  refine And.intro rfl (And.intro rfl (And.intro rfl (?_)))
  show sg_Wp 0 N (d + 1) m_D_pass 9 [(0, 2, 32), (1, 0, v1)] [(0, 24), (0, v1)] G Q
  refine sg_icmp_ge (off := 34) (tgt := 43) (by decide +kernel) (by decide) ⟨fun q1 => ?_, fun q1 => ?_⟩
  · exact sg_vret (by decide +kernel) rfl ((h.1 q1))
  · refine sg_blk [(1, 0, 0, 0, 0), (3, 0, 0, 1, 0)] (by decide +kernel) ?_
    refine And.intro (Nat.le_of_ble_eq_true rfl) (And.intro rfl (?_))
    show sg_Wp 0 N (d + 1) m_D_pass 14 [(0, 2, 32), (1, 0, v1)] [(0, v1), (2, 32)] G Q
    refine sg_callV (k := d) (y' := m_D_walk) (av := [(0, v1)]) (rest := []) (b := 32) (by decide +kernel) cv_D_walk ml_1_53 (ce_32 hN) rfl rfl (Nat.le_of_ble_eq_true rfl) (Nat.lt_succ_self d) (Nat.le_of_ble_eq_true rfl) rfl ?_
    show sg_Wp 0 N d m_D_walk 0 [(0, 2, 32), (1, 0, v1)] [] G _
    refine sg_Wp.mono ((h.2 q1)) (fun r2 G2 hhr2 => ?_)
    show sg_Wp 0 N (d + 1) m_D_pass 17 [(0, 2, 32), (1, 0, v1)] [] G2 Q
    refine sg_blk [(1, 0, 0, 0, 0), (3, 0, 0, 1, 0)] (by decide +kernel) ?_
    refine And.intro (Nat.le_of_ble_eq_true rfl) (And.intro rfl (?_))
    show sg_Wp 0 N (d + 1) m_D_pass 19 [(0, 2, 32), (1, 0, v1)] [(0, v1), (2, 32)] G2 Q
    refine sg_callV (k := d) (y' := m_D_sneeze) (av := [(0, v1)]) (rest := []) (b := 32) (by decide +kernel) cv_D_sneeze ml_1_57 (ce_32 hN) rfl rfl (Nat.le_of_ble_eq_true rfl) (Nat.lt_succ_self d) (Nat.le_of_ble_eq_true rfl) rfl ?_
    show sg_Wp 0 N d m_D_sneeze 0 [(0, 2, 32), (1, 0, v1)] [] G2 _
    refine sg_Wp.mono hhr2 (fun r3 G3 hhr3 => ?_)
    show sg_Wp 0 N (d + 1) m_D_pass 22 [(0, 2, 32), (1, 0, v1)] [] G3 Q
    refine sg_blk [(1, 0, 0, 0, 0), (3, 0, 0, 1, 0)] (by decide +kernel) ?_
    refine And.intro (Nat.le_of_ble_eq_true rfl) (And.intro rfl (?_))
    show sg_Wp 0 N (d + 1) m_D_pass 24 [(0, 2, 32), (1, 0, v1)] [(0, v1), (2, 32)] G3 Q
    refine sg_callV (k := d) (y' := m_D_changeGuard) (av := [(0, v1)]) (rest := []) (b := 32) (by decide +kernel) cv_D_changeGuard ml_1_60 (ce_32 hN) rfl rfl (Nat.le_of_ble_eq_true rfl) (Nat.lt_succ_self d) (Nat.le_of_ble_eq_true rfl) rfl ?_
    show sg_Wp 0 N d m_D_changeGuard 0 [(0, 2, 32), (1, 0, v1)] [] G3 _
    refine sg_Wp.mono hhr3 (fun r4 G4 hhr4 => ?_)
    show sg_Wp 0 N (d + 1) m_D_pass 27 [(0, 2, 32), (1, 0, v1)] [] G4 Q
    refine sg_blk [(1, 0, 0, 0, 0), (3, 0, 0, 1, 0)] (by decide +kernel) ?_
    refine And.intro (Nat.le_of_ble_eq_true rfl) (And.intro rfl (?_))
    show sg_Wp 0 N (d + 1) m_D_pass 29 [(0, 2, 32), (1, 0, v1)] [(0, v1), (2, 32)] G4 Q
    refine sg_callV (k := d) (y' := m_D_stand) (av := [(0, v1)]) (rest := []) (b := 32) (by decide +kernel) cv_D_stand ml_1_63 (ce_32 hN) rfl rfl (Nat.le_of_ble_eq_true rfl) (Nat.lt_succ_self d) (Nat.le_of_ble_eq_true rfl) rfl ?_
    show sg_Wp 0 N d m_D_stand 0 [(0, 2, 32), (1, 0, v1)] [] G4 _
    refine sg_Wp.mono hhr4 (fun r5 G5 hhr5 => ?_)
    show sg_Wp 0 N (d + 1) m_D_pass 32 [(0, 2, 32), (1, 0, v1)] [] G5 Q
    refine sg_blk [(1, 0, 0, 0, 0), (3, 0, 0, 1, 0)] (by decide +kernel) ?_
    refine And.intro (Nat.le_of_ble_eq_true rfl) (And.intro rfl (?_))
    show sg_Wp 0 N (d + 1) m_D_pass 34 [(0, 2, 32), (1, 0, v1)] [(0, v1), (2, 32)] G5 Q
    refine sg_callV (k := d) (y' := m_D_spreadColds) (av := [(0, v1)]) (rest := []) (b := 32) (by decide +kernel) cv_D_spreadColds ml_1_66 (ce_32 hN) rfl rfl (Nat.le_of_ble_eq_true rfl) (Nat.lt_succ_self d) (Nat.le_of_ble_eq_true rfl) rfl ?_
    show sg_Wp 0 N d m_D_spreadColds 0 [(0, 2, 32), (1, 0, v1)] [] G5 _
    refine sg_Wp.mono hhr5 (fun r6 G6 hhr6 => ?_)
    show sg_Wp 0 N (d + 1) m_D_pass 37 [(0, 2, 32), (1, 0, v1)] [] G6 Q
    refine sg_blk [(31, 1, 0, 1, 0)] (by decide +kernel) ?_
    refine And.intro rfl (?_)
    show sg_Wp 0 N (d + 1) m_D_pass 40 [(0, 2, 32), (1, 0, sg_iadd v1 1)] [] G6 Q
    refine sg_goto (off := -34) (tgt := 6) (by decide +kernel) (by decide) ?_
    exact hhr6
set_option maxRecDepth 100000 in
theorem g_D_begin_32_0 {d N : Nat} (hN : 44 ≤ N) {G : SgM} {Q : Int → SgM → Prop} (h : sg_Wp 0 N (d + 1) m_D_begin 2 [(0, 2, 32), (1, 0, 0)] [] G Q) : sg_Wp 0 N (d + 1) m_D_begin 0 [(0, 2, 32)] [] G Q := by
  refine sg_blk [(7, 0, 0, 0, 0), (25, 0, 0, 1, 0)] (by decide +kernel) ?_
  refine And.intro rfl (And.intro rfl (?_))
  show sg_Wp 0 N (d + 1) m_D_begin 2 [(0, 2, 32), (1, 0, 0)] [] G Q
  exact h
set_option maxRecDepth 100000 in
theorem g_D_begin_32_2 {d N : Nat} (hN : 44 ≤ N) {v1 : Int} {G : SgM} {Q : Int → SgM → Prop} (h : ((G 5 4) ≤ v1 → (sg_Wp 0 N d m_A_fill 0 [(0, 2, 36), (1, 0, 0)] [] G (fun r1 G1 => Q 0 (sg_up (sg_up (sg_up (sg_up (sg_up G1 32 12 0) 32 13 0) 32 14 ((-1))) 32 15 ((-1))) 32 16 ((-1)))))) ∧ (¬ ((G 5 4) ≤ v1) → ((0 ≤ v1 ∧ v1 < 6) ∧ (0 ≤ v1 ∧ v1 < 6) ∧ (0 ≤ v1 ∧ v1 < 6) ∧ (((G 11 v1) ≠ 0 → ((0 ≤ v1 ∧ v1 < 6) ∧ (0 ≤ v1 ∧ v1 < 6) ∧ (0 ≤ v1 ∧ v1 < 6) ∧ (sg_Wp 0 N (d + 1) m_D_begin 2 [(0, 2, 32), (1, 0, sg_iadd v1 1)] [] (sg_up (sg_up (sg_up G 33 v1 (G 10 v1)) 34 v1 ((-1))) 35 v1 (G 12 v1)) Q))) ∧ (¬ ((G 11 v1) ≠ 0) → ((0 ≤ v1 ∧ v1 < 6) ∧ (0 ≤ v1 ∧ v1 < 6) ∧ (0 ≤ v1 ∧ v1 < 6) ∧ (sg_Wp 0 N (d + 1) m_D_begin 2 [(0, 2, 32), (1, 0, sg_iadd v1 1)] [] (sg_up (sg_up (sg_up G 33 v1 (G 10 v1)) 34 v1 1) 35 v1 (G 12 v1)) Q))))))) : sg_Wp 0 N (d + 1) m_D_begin 2 [(0, 2, 32), (1, 0, v1)] [] G Q := by
  refine sg_blk [(3, 0, 0, 1, 0), (1, 0, 0, 0, 0), (65, 5, 1, 42, 0), (15, 0, 8, 69, 4)] (by decide +kernel) ?_
  refine And.intro rfl (And.intro (Nat.le_of_ble_eq_true rfl) (And.intro (ce_32 hN) (And.intro rr_32_0 (And.intro (ce_5 hN) (?_)))))
  show sg_Wp 0 N (d + 1) m_D_begin 10 [(0, 2, 32), (1, 0, v1)] [(0, G 5 4), (0, v1)] G Q
  refine sg_icmp_ge (off := 62) (tgt := 72) (by decide +kernel) (by decide) ⟨fun q2 => ?_, fun q2 => ?_⟩
  · refine sg_blk [(1, 0, 0, 0, 0), (65, 36, 1, 21, 5), (7, 0, 0, 0, 0)] (by decide +kernel) ?_
    refine And.intro (Nat.le_of_ble_eq_true rfl) (And.intro (ce_32 hN) (And.intro rr_32_5 (And.intro rfl (?_))))
    show sg_Wp 0 N (d + 1) m_D_begin 77 [(0, 2, 32), (1, 0, v1)] [(0, 0), (2, 36)] G Q
    refine sg_callS (k := d) (y' := m_A_fill) (av := [(2, 36), (0, 0)]) (rest := []) (by decide +kernel) cs_A_fill ml_1_80 rfl (Nat.le_of_ble_eq_true rfl) (Nat.lt_succ_self d) (Nat.le_of_ble_eq_true rfl) rfl ?_
    show sg_Wp 0 N d m_A_fill 0 [(0, 2, 36), (1, 0, 0)] [] G _
    refine sg_Wp.mono ((h.1 q2)) (fun r1 G1 hhr1 => ?_)
    show sg_Wp 0 N (d + 1) m_D_begin 80 [(0, 2, 32), (1, 0, v1)] [] G1 Q
    refine sg_blk [(1, 0, 0, 0, 0), (7, 0, 0, 0, 0), (16, 0, 1, 86, 12), (1, 0, 0, 0, 0), (7, 0, 0, 0, 0), (16, 0, 1, 89, 13), (1, 0, 0, 0, 0), (7, (-1), 0, 0, 0), (16, 0, 1, 92, 14), (1, 0, 0, 0, 0), (7, (-1), 0, 0, 0), (16, 0, 1, 95, 15), (1, 0, 0, 0, 0), (7, (-1), 0, 0, 0), (16, 0, 1, 98, 16)] (by decide +kernel) ?_
    refine And.intro (Nat.le_of_ble_eq_true rfl) (And.intro rfl (And.intro (ce_32 hN) (And.intro (Nat.le_of_ble_eq_true rfl) (And.intro rfl (And.intro (ce_32 hN) (And.intro (Nat.le_of_ble_eq_true rfl) (And.intro rfl (And.intro (ce_32 hN) (And.intro (Nat.le_of_ble_eq_true rfl) (And.intro rfl (And.intro (ce_32 hN) (And.intro (Nat.le_of_ble_eq_true rfl) (And.intro rfl (And.intro (ce_32 hN) (?_)))))))))))))))
    show sg_Wp 0 N (d + 1) m_D_begin 105 [(0, 2, 32), (1, 0, v1)] [] (sg_up (sg_up (sg_up (sg_up (sg_up G1 32 12 0) 32 13 0) 32 14 ((-1))) 32 15 ((-1))) 32 16 ((-1))) Q
    exact sg_vret (by decide +kernel) rfl hhr1
  · refine sg_blk [(1, 0, 0, 0, 0), (65, 33, 1, 9, 2), (3, 0, 0, 1, 0), (1, 0, 0, 0, 0), (65, 5, 1, 42, 0), (65, 10, 8, 75, 6), (3, 0, 0, 1, 0), (17, 6, 0, 0, 0), (18, 6, 0, 0, 0), (1, 0, 0, 0, 0), (65, 34, 1, 15, 3), (3, 0, 0, 1, 0), (1, 0, 0, 0, 0), (65, 5, 1, 42, 0), (65, 11, 8, 76, 7), (3, 0, 0, 1, 0), (17, 6, 0, 0, 0)] (by decide +kernel) ?_
    refine And.intro (Nat.le_of_ble_eq_true rfl) (And.intro (ce_32 hN) (And.intro rr_32_2 (And.intro rfl (And.intro (Nat.le_of_ble_eq_true rfl) (And.intro (ce_32 hN) (And.intro rr_32_0 (And.intro (ce_5 hN) (And.intro rr_5_6 (And.intro rfl (And.intro (ce_10 hN) (And.intro (h.2 q2).1 (And.intro (ce_33 hN) (And.intro (h.2 q2).2.1 (And.intro (Nat.le_of_ble_eq_true rfl) (And.intro (ce_32 hN) (And.intro rr_32_3 (And.intro rfl (And.intro (Nat.le_of_ble_eq_true rfl) (And.intro (ce_32 hN) (And.intro rr_32_0 (And.intro (ce_5 hN) (And.intro rr_5_7 (And.intro rfl (And.intro (ce_11 hN) (And.intro (h.2 q2).2.2.1 (?_))))))))))))))))))))))))))
    show sg_Wp 0 N (d + 1) m_D_begin 42 [(0, 2, 32), (1, 0, v1)] [(0, G 11 v1), (0, v1), (2, 34)] (sg_up G 33 v1 (G 10 v1)) Q
    refine sg_if_ne (off := 7) (tgt := 49) (by decide +kernel) (by decide) ⟨fun q1 => ?_, fun q1 => ?_⟩
    · refine sg_blk [(7, (-1), 0, 0, 0), (18, 6, 0, 0, 0), (1, 0, 0, 0, 0), (65, 35, 1, 18, 4), (3, 0, 0, 1, 0), (1, 0, 0, 0, 0), (65, 5, 1, 42, 0), (65, 12, 8, 79, 8), (3, 0, 0, 1, 0), (17, 6, 0, 0, 0), (18, 6, 0, 0, 0), (31, 1, 0, 1, 0)] (by decide +kernel) ?_
      refine And.intro rfl (And.intro (ce_34 hN) (And.intro ((h.2 q2).2.2.2.1 q1).1 (And.intro (Nat.le_of_ble_eq_true rfl) (And.intro (ce_32 hN) (And.intro rr_32_4 (And.intro rfl (And.intro (Nat.le_of_ble_eq_true rfl) (And.intro (ce_32 hN) (And.intro rr_32_0 (And.intro (ce_5 hN) (And.intro rr_5_8 (And.intro rfl (And.intro (ce_12 hN) (And.intro ((h.2 q2).2.2.2.1 q1).2.1 (And.intro (ce_35 hN) (And.intro ((h.2 q2).2.2.2.1 q1).2.2.1 (And.intro rfl (?_))))))))))))))))))
      show sg_Wp 0 N (d + 1) m_D_begin 69 [(0, 2, 32), (1, 0, sg_iadd v1 1)] [] (sg_up (sg_up (sg_up G 33 v1 (G 10 v1)) 34 v1 ((-1))) 35 v1 (G 12 v1)) Q
      refine sg_goto (off := -67) (tgt := 2) (by decide +kernel) (by decide) ?_
      exact ((h.2 q2).2.2.2.1 q1).2.2.2
    · refine sg_blk [(7, 1, 0, 0, 0)] (by decide +kernel) ?_
      refine And.intro rfl (?_)
      show sg_Wp 0 N (d + 1) m_D_begin 46 [(0, 2, 32), (1, 0, v1)] [(0, 1), (0, v1), (2, 34)] (sg_up G 33 v1 (G 10 v1)) Q
      refine sg_goto (off := 4) (tgt := 50) (by decide +kernel) (by decide) ?_
      refine sg_blk [(18, 6, 0, 0, 0), (1, 0, 0, 0, 0), (65, 35, 1, 18, 4), (3, 0, 0, 1, 0), (1, 0, 0, 0, 0), (65, 5, 1, 42, 0), (65, 12, 8, 79, 8), (3, 0, 0, 1, 0), (17, 6, 0, 0, 0), (18, 6, 0, 0, 0), (31, 1, 0, 1, 0)] (by decide +kernel) ?_
      refine And.intro (ce_34 hN) (And.intro ((h.2 q2).2.2.2.2 q1).1 (And.intro (Nat.le_of_ble_eq_true rfl) (And.intro (ce_32 hN) (And.intro rr_32_4 (And.intro rfl (And.intro (Nat.le_of_ble_eq_true rfl) (And.intro (ce_32 hN) (And.intro rr_32_0 (And.intro (ce_5 hN) (And.intro rr_5_8 (And.intro rfl (And.intro (ce_12 hN) (And.intro ((h.2 q2).2.2.2.2 q1).2.1 (And.intro (ce_35 hN) (And.intro ((h.2 q2).2.2.2.2 q1).2.2.1 (And.intro rfl (?_)))))))))))))))))
      show sg_Wp 0 N (d + 1) m_D_begin 69 [(0, 2, 32), (1, 0, sg_iadd v1 1)] [] (sg_up (sg_up (sg_up G 33 v1 (G 10 v1)) 34 v1 1) 35 v1 (G 12 v1)) Q
      refine sg_goto (off := -67) (tgt := 2) (by decide +kernel) (by decide) ?_
      exact ((h.2 q2).2.2.2.2 q1).2.2.2
set_option maxRecDepth 100000 in
theorem g_D_walk_32_0 {d N : Nat} (hN : 44 ≤ N) {v1 : Int} {G : SgM} {Q : Int → SgM → Prop} (h : sg_Wp 0 N (d + 1) m_D_walk 2 [(0, 2, 32), (1, 0, v1), (2, 0, 0)] [] G Q) : sg_Wp 0 N (d + 1) m_D_walk 0 [(0, 2, 32), (1, 0, v1)] [] G Q := by
  refine sg_blk [(7, 0, 0, 0, 0), (25, 0, 0, 2, 0)] (by decide +kernel) ?_
  refine And.intro rfl (And.intro rfl (?_))
  show sg_Wp 0 N (d + 1) m_D_walk 2 [(0, 2, 32), (1, 0, v1), (2, 0, 0)] [] G Q
  exact h
set_option maxRecDepth 100000 in
theorem g_D_walk_32_2 {d N : Nat} (hN : 44 ≤ N) {v1 v2 : Int} {G : SgM} {Q : Int → SgM → Prop} (h : ((G 5 4) ≤ v2 → (Q 0 G)) ∧ (¬ ((G 5 4) ≤ v2) → ((v1 ≤ 0 → ((0 ≤ v2 ∧ v2 < 6) ∧ (0 ≤ (sg_iadd (sg_imul v1 6) v2) ∧ (sg_iadd (sg_imul v1 6) v2) < 144) ∧ (sg_Wp 0 N (d + 1) m_D_walk 2 [(0, 2, 32), (1, 0, v1), (2, 0, sg_iadd v2 1)] [] (sg_up G 37 (sg_iadd (sg_imul v1 6) v2) (G 33 v2)) Q))) ∧ (¬ (v1 ≤ 0) → ((0 ≤ v2 ∧ v2 < 6) ∧ (0 ≤ v2 ∧ v2 < 6) ∧ (((0 ≤ (sg_iadd (G 33 v2) (G 34 v2)) ∧ (sg_iadd (G 33 v2) (G 34 v2)) < 10) → ((0 ≤ v2 ∧ v2 < 6) ∧ (0 ≤ v2 ∧ v2 < 6) ∧ (0 ≤ v2 ∧ v2 < 6) ∧ (0 ≤ v2 ∧ v2 < 6) ∧ (0 ≤ (sg_iadd (sg_imul v1 6) v2) ∧ (sg_iadd (sg_imul v1 6) v2) < 144) ∧ (sg_Wp 0 N (d + 1) m_D_walk 2 [(0, 2, 32), (1, 0, v1), (2, 0, sg_iadd v2 1)] [] (sg_up (sg_up G 33 v2 (sg_iadd (G 33 v2) (G 34 v2))) 37 (sg_iadd (sg_imul v1 6) v2) ((sg_up G 33 v2 (sg_iadd (G 33 v2) (G 34 v2))) 33 v2)) Q))) ∧ (¬ (0 ≤ (sg_iadd (G 33 v2) (G 34 v2)) ∧ (sg_iadd (G 33 v2) (G 34 v2)) < 10) → ((0 ≤ v2 ∧ v2 < 6) ∧ (0 ≤ v2 ∧ v2 < 6) ∧ (0 ≤ v2 ∧ v2 < 6) ∧ (0 ≤ v2 ∧ v2 < 6) ∧ (0 ≤ v2 ∧ v2 < 6) ∧ (0 ≤ v2 ∧ v2 < 6) ∧ (0 ≤ (sg_iadd (sg_imul v1 6) v2) ∧ (sg_iadd (sg_imul v1 6) v2) < 144) ∧ (sg_Wp 0 N (d + 1) m_D_walk 2 [(0, 2, 32), (1, 0, v1), (2, 0, sg_iadd v2 1)] [] (sg_up (sg_up (sg_up G 34 v2 (sg_ineg (G 34 v2))) 33 v2 (sg_iadd (G 33 v2) ((sg_up G 34 v2 (sg_ineg (G 34 v2))) 34 v2))) 37 (sg_iadd (sg_imul v1 6) v2) ((sg_up (sg_up G 34 v2 (sg_ineg (G 34 v2))) 33 v2 (sg_iadd (G 33 v2) ((sg_up G 34 v2 (sg_ineg (G 34 v2))) 34 v2))) 33 v2)) Q))))))))) : sg_Wp 0 N (d + 1) m_D_walk 2 [(0, 2, 32), (1, 0, v1), (2, 0, v2)] [] G Q := by
  refine sg_blk [(3, 0, 0, 2, 0), (1, 0, 0, 0, 0), (65, 5, 1, 42, 0), (15, 0, 8, 69, 4)] (by decide +kernel) ?_
  refine And.intro rfl (And.intro (Nat.le_of_ble_eq_true rfl) (And.intro (ce_32 hN) (And.intro rr_32_0 (And.intro (ce_5 hN) (?_)))))
  show sg_Wp 0 N (d + 1) m_D_walk 10 [(0, 2, 32), (1, 0, v1), (2, 0, v2)] [(0, G 5 4), (0, v2)] G Q
  refine sg_icmp_ge (off := 79) (tgt := 89) (by decide +kernel) (by decide) ⟨fun q3 => ?_, fun q3 => ?_⟩
  · exact sg_vret (by decide +kernel) rfl ((h.1 q3))
  · refine sg_blk [(3, 0, 0, 1, 0)] (by decide +kernel) ?_
    refine And.intro rfl (?_)
    show sg_Wp 0 N (d + 1) m_D_walk 14 [(0, 2, 32), (1, 0, v1), (2, 0, v2)] [(0, v1)] G Q
    refine sg_if_le (off := 52) (tgt := 66) (by decide +kernel) (by decide) ⟨fun q2 => ?_, fun q2 => ?_⟩
    · refine sg_blk [(1, 0, 0, 0, 0), (65, 37, 1, 24, 6), (3, 0, 0, 1, 0), (8, 6, 0, 0, 0), (34, 0, 0, 0, 0), (3, 0, 0, 2, 0), (32, 0, 0, 0, 0), (1, 0, 0, 0, 0), (65, 33, 1, 9, 2), (3, 0, 0, 2, 0), (17, 6, 0, 0, 0), (18, 144, 0, 0, 0), (31, 1, 0, 2, 0)] (by decide +kernel) ?_
      refine And.intro (Nat.le_of_ble_eq_true rfl) (And.intro (ce_32 hN) (And.intro rr_32_6 (And.intro rfl (And.intro rfl (And.intro rfl (And.intro rfl (And.intro (Nat.le_of_ble_eq_true rfl) (And.intro (ce_32 hN) (And.intro rr_32_2 (And.intro rfl (And.intro (ce_33 hN) (And.intro ((h.2 q3).1 q2).1 (And.intro (ce_37 hN) (And.intro ((h.2 q3).1 q2).2.1 (And.intro rfl (?_))))))))))))))))
      show sg_Wp 0 N (d + 1) m_D_walk 86 [(0, 2, 32), (1, 0, v1), (2, 0, sg_iadd v2 1)] [] (sg_up G 37 (sg_iadd (sg_imul v1 6) v2) (G 33 v2)) Q
      refine sg_goto (off := -84) (tgt := 2) (by decide +kernel) (by decide) ?_
      exact ((h.2 q3).1 q2).2.2
    · refine sg_blk [(1, 0, 0, 0, 0), (65, 33, 1, 9, 2), (3, 0, 0, 2, 0), (17, 6, 0, 0, 0), (1, 0, 0, 0, 0), (65, 34, 1, 15, 3), (3, 0, 0, 2, 0), (17, 6, 0, 0, 0), (32, 0, 0, 0, 0), (8, 10, 0, 0, 0)] (by decide +kernel) ?_
      refine And.intro (Nat.le_of_ble_eq_true rfl) (And.intro (ce_32 hN) (And.intro rr_32_2 (And.intro rfl (And.intro (ce_33 hN) (And.intro ((h.2 q3).2 q2).1 (And.intro (Nat.le_of_ble_eq_true rfl) (And.intro (ce_32 hN) (And.intro rr_32_3 (And.intro rfl (And.intro (ce_34 hN) (And.intro ((h.2 q3).2 q2).2.1 (And.intro rfl (And.intro rfl (?_))))))))))))))
      show sg_Wp 0 N (d + 1) m_D_walk 32 [(0, 2, 32), (1, 0, v1), (2, 0, v2)] [(0, 10), (0, sg_iadd (G 33 v2) (G 34 v2))] G Q
      refine sg_callN (k := d) (y' := m_G_isBelow) (av := [(0, sg_iadd (G 33 v2) (G 34 v2)), (0, 10)]) (rest := []) (idx := 101) (by decide +kernel) cs_G_isBelow (List.mem_of_getElem? (i := 3) rfl) rfl (Nat.le_of_ble_eq_true rfl) (Nat.lt_succ_self d) (Nat.le_of_ble_eq_true rfl) rfl ?_
      show sg_Wp 0 N d m_G_isBelow 0 [(0, 0, sg_iadd (G 33 v2) (G 34 v2)), (1, 0, 10)] [] G _
      refine s_G_isBelow ?_
      show sg_Wp 0 N (d + 1) m_D_walk 35 [(0, 2, 32), (1, 0, v1), (2, 0, v2)] [(0, sg_bo (0 ≤ (sg_iadd (G 33 v2) (G 34 v2)) ∧ (sg_iadd (G 33 v2) (G 34 v2)) < 10))] G Q
      refine sg_bif_ne (off := 16) (tgt := 51) (by decide +kernel) (by decide) ⟨fun q1 => ?_, fun q1 => ?_⟩
      · refine sg_blk [(1, 0, 0, 0, 0), (65, 33, 1, 9, 2), (3, 0, 0, 2, 0), (58, 0, 0, 0, 0), (17, 6, 0, 0, 0), (1, 0, 0, 0, 0), (65, 34, 1, 15, 3), (3, 0, 0, 2, 0), (17, 6, 0, 0, 0), (32, 0, 0, 0, 0), (18, 6, 0, 0, 0), (1, 0, 0, 0, 0), (65, 37, 1, 24, 6), (3, 0, 0, 1, 0), (8, 6, 0, 0, 0), (34, 0, 0, 0, 0), (3, 0, 0, 2, 0), (32, 0, 0, 0, 0), (1, 0, 0, 0, 0), (65, 33, 1, 9, 2), (3, 0, 0, 2, 0), (17, 6, 0, 0, 0), (18, 144, 0, 0, 0), (31, 1, 0, 2, 0)] (by decide +kernel) ?_
        refine And.intro (Nat.le_of_ble_eq_true rfl) (And.intro (ce_32 hN) (And.intro rr_32_2 (And.intro rfl (And.intro (And.intro (Nat.ne_of_beq_eq_false rfl) (Nat.ne_of_beq_eq_false rfl)) (And.intro (ce_33 hN) (And.intro (((h.2 q3).2 q2).2.2.1 q1).1 (And.intro (Nat.le_of_ble_eq_true rfl) (And.intro (ce_32 hN) (And.intro rr_32_3 (And.intro rfl (And.intro (ce_34 hN) (And.intro (((h.2 q3).2 q2).2.2.1 q1).2.1 (And.intro (ce_33 hN) (And.intro (((h.2 q3).2 q2).2.2.1 q1).2.2.1 (And.intro (Nat.le_of_ble_eq_true rfl) (And.intro (ce_32 hN) (And.intro rr_32_6 (And.intro rfl (And.intro rfl (And.intro rfl (And.intro rfl (And.intro (Nat.le_of_ble_eq_true rfl) (And.intro (ce_32 hN) (And.intro rr_32_2 (And.intro rfl (And.intro (ce_33 hN) (And.intro (((h.2 q3).2 q2).2.2.1 q1).2.2.2.1 (And.intro (ce_37 hN) (And.intro (((h.2 q3).2 q2).2.2.1 q1).2.2.2.2.1 (And.intro rfl (?_)))))))))))))))))))))))))))))))
        show sg_Wp 0 N (d + 1) m_D_walk 86 [(0, 2, 32), (1, 0, v1), (2, 0, sg_iadd v2 1)] [] (sg_up (sg_up G 33 v2 (sg_iadd (G 33 v2) (G 34 v2))) 37 (sg_iadd (sg_imul v1 6) v2) ((sg_up G 33 v2 (sg_iadd (G 33 v2) (G 34 v2))) 33 v2)) Q
        refine sg_goto (off := -84) (tgt := 2) (by decide +kernel) (by decide) ?_
        exact (((h.2 q3).2 q2).2.2.1 q1).2.2.2.2.2
      · refine sg_blk [(1, 0, 0, 0, 0), (65, 34, 1, 15, 3), (3, 0, 0, 2, 0), (1, 0, 0, 0, 0), (65, 34, 1, 15, 3), (3, 0, 0, 2, 0), (17, 6, 0, 0, 0), (37, 0, 0, 0, 0), (18, 6, 0, 0, 0), (1, 0, 0, 0, 0), (65, 33, 1, 9, 2), (3, 0, 0, 2, 0), (58, 0, 0, 0, 0), (17, 6, 0, 0, 0), (1, 0, 0, 0, 0), (65, 34, 1, 15, 3), (3, 0, 0, 2, 0), (17, 6, 0, 0, 0), (32, 0, 0, 0, 0), (18, 6, 0, 0, 0), (1, 0, 0, 0, 0), (65, 37, 1, 24, 6), (3, 0, 0, 1, 0), (8, 6, 0, 0, 0), (34, 0, 0, 0, 0), (3, 0, 0, 2, 0), (32, 0, 0, 0, 0), (1, 0, 0, 0, 0), (65, 33, 1, 9, 2), (3, 0, 0, 2, 0), (17, 6, 0, 0, 0), (18, 144, 0, 0, 0), (31, 1, 0, 2, 0)] (by decide +kernel) ?_
        refine And.intro (Nat.le_of_ble_eq_true rfl) (And.intro (ce_32 hN) (And.intro rr_32_3 (And.intro rfl (And.intro (Nat.le_of_ble_eq_true rfl) (And.intro (ce_32 hN) (And.intro rr_32_3 (And.intro rfl (And.intro (ce_34 hN) (And.intro (((h.2 q3).2 q2).2.2.2 q1).1 (And.intro (ce_34 hN) (And.intro (((h.2 q3).2 q2).2.2.2 q1).2.1 (And.intro (Nat.le_of_ble_eq_true rfl) (And.intro (ce_32 hN) (And.intro rr_32_2 (And.intro rfl (And.intro (And.intro (Nat.ne_of_beq_eq_false rfl) (Nat.ne_of_beq_eq_false rfl)) (And.intro (ce_33 hN) (And.intro (((h.2 q3).2 q2).2.2.2 q1).2.2.1 (And.intro (Nat.le_of_ble_eq_true rfl) (And.intro (ce_32 hN) (And.intro rr_32_3 (And.intro rfl (And.intro (ce_34 hN) (And.intro (((h.2 q3).2 q2).2.2.2 q1).2.2.2.1 (And.intro (ce_33 hN) (And.intro (((h.2 q3).2 q2).2.2.2 q1).2.2.2.2.1 (And.intro (Nat.le_of_ble_eq_true rfl) (And.intro (ce_32 hN) (And.intro rr_32_6 (And.intro rfl (And.intro rfl (And.intro rfl (And.intro rfl (And.intro (Nat.le_of_ble_eq_true rfl) (And.intro (ce_32 hN) (And.intro rr_32_2 (And.intro rfl (And.intro (ce_33 hN) (And.intro (((h.2 q3).2 q2).2.2.2 q1).2.2.2.2.2.1 (And.intro (ce_37 hN) (And.intro (((h.2 q3).2 q2).2.2.2 q1).2.2.2.2.2.2.1 (And.intro rfl (?_)))))))))))))))))))))))))))))))))))))))))))
        show sg_Wp 0 N (d + 1) m_D_walk 86 [(0, 2, 32), (1, 0, v1), (2, 0, sg_iadd v2 1)] [] (sg_up (sg_up (sg_up G 34 v2 (sg_ineg (G 34 v2))) 33 v2 (sg_iadd (G 33 v2) ((sg_up G 34 v2 (sg_ineg (G 34 v2))) 34 v2))) 37 (sg_iadd (sg_imul v1 6) v2) ((sg_up (sg_up G 34 v2 (sg_ineg (G 34 v2))) 33 v2 (sg_iadd (G 33 v2) ((sg_up G 34 v2 (sg_ineg (G 34 v2))) 34 v2))) 33 v2)) Q
        refine sg_goto (off := -84) (tgt := 2) (by decide +kernel) (by decide) ?_
        exact (((h.2 q3).2 q2).2.2.2 q1).2.2.2.2.2.2.2
set_option maxRecDepth 100000 in
theorem g_D_sneeze_32_0 {d N : Nat} (hN : 44 ≤ N) {v1 : Int} {G : SgM} {Q : Int → SgM → Prop} (h : sg_Wp 0 N (d + 1) m_D_sneeze 4 [(0, 2, 32), (1, 0, v1), (2, 0, 0), (3, 0, 0)] [] G Q) : sg_Wp 0 N (d + 1) m_D_sneeze 0 [(0, 2, 32), (1, 0, v1)] [] G Q := by
  refine sg_blk [(7, 0, 0, 0, 0), (25, 0, 0, 2, 0), (7, 0, 0, 0, 0), (25, 0, 0, 3, 0)] (by decide +kernel) ?_
  refine And.intro rfl (And.intro rfl (And.intro rfl (And.intro rfl (?_))))
  show sg_Wp 0 N (d + 1) m_D_sneeze 4 [(0, 2, 32), (1, 0, v1), (2, 0, 0), (3, 0, 0)] [] G Q
  exact h
set_option maxRecDepth 100000 in
theorem g_D_sneeze_32_4 {d N : Nat} (hN : 44 ≤ N) {v1 v2 v3 : Int} {G : SgM} {Q : Int → SgM → Prop} (h : ((G 5 4) ≤ v3 → ((0 ≤ v1 ∧ v1 < 24) ∧ (0 ≤ v1 ∧ v1 < 24) ∧ (Q 0 (sg_up G 41 v1 (sg_iand v2 (sg_ixor (G 19 v1) ((-1)))))))) ∧ (¬ ((G 5 4) ≤ v3) → ((0 ≤ v1 ∧ v1 < 24) ∧ (((G 20 v1) ≠ 0 → (sg_Wp 0 N (d + 1) m_D_sneeze 4 [(0, 2, 32), (1, 0, v1), (2, 0, sg_ior v2 (sg_ishl 1 v3)), (3, 0, sg_iadd v3 1)] [] G Q)) ∧ (¬ ((G 20 v1) ≠ 0) → ((0 ≤ v1 ∧ v1 < 24) ∧ (0 ≤ v3 ∧ v3 < 6) ∧ (((sg_iand (sg_ishr (G 18 v1) (G 33 v3)) 1 ≠ 0) → (sg_Wp 0 N (d + 1) m_D_sneeze 4 [(0, 2, 32), (1, 0, v1), (2, 0, sg_ior v2 (sg_ishl 1 v3)), (3, 0, sg_iadd v3 1)] [] G Q)) ∧ (¬ (sg_iand (sg_ishr (G 18 v1) (G 33 v3)) 1 ≠ 0) → ((0 ≤ v3 ∧ v3 < 6) ∧ (((0 < (G 35 v3) ∧ sg_irem (sg_iadd v1 1) (G 35 v3) = 0) → (sg_Wp 0 N (d + 1) m_D_sneeze 4 [(0, 2, 32), (1, 0, v1), (2, 0, sg_ior v2 (sg_ishl 1 v3)), (3, 0, sg_iadd v3 1)] [] G Q)) ∧ (¬ (0 < (G 35 v3) ∧ sg_irem (sg_iadd v1 1) (G 35 v3) = 0) → (sg_Wp 0 N (d + 1) m_D_sneeze 4 [(0, 2, 32), (1, 0, v1), (2, 0, v2), (3, 0, sg_iadd v3 1)] [] G Q)))))))))))) : sg_Wp 0 N (d + 1) m_D_sneeze 4 [(0, 2, 32), (1, 0, v1), (2, 0, v2), (3, 0, v3)] [] G Q := by
  refine sg_blk [(3, 0, 0, 3, 0), (1, 0, 0, 0, 0), (65, 5, 1, 42, 0), (15, 0, 8, 69, 4)] (by decide +kernel) ?_
  refine And.intro rfl (And.intro (Nat.le_of_ble_eq_true rfl) (And.intro (ce_32 hN) (And.intro rr_32_0 (And.intro (ce_5 hN) (?_)))))
  show sg_Wp 0 N (d + 1) m_D_sneeze 12 [(0, 2, 32), (1, 0, v1), (2, 0, v2), (3, 0, v3)] [(0, G 5 4), (0, v3)] G Q
  refine sg_icmp_ge (off := 63) (tgt := 75) (by decide +kernel) (by decide) ⟨fun q4 => ?_, fun q4 => ?_⟩
  · refine sg_blk [(1, 0, 0, 0, 0), (65, 41, 1, 36, 10), (3, 0, 0, 1, 0), (3, 0, 0, 2, 0), (1, 0, 0, 0, 0), (65, 17, 1, 46, 1), (65, 19, 9, 120, 1), (3, 0, 0, 1, 0), (17, 24, 0, 0, 0), (7, (-1), 0, 0, 0), (40, 0, 0, 0, 0), (38, 0, 0, 0, 0), (18, 24, 0, 0, 0)] (by decide +kernel) ?_
    refine And.intro (Nat.le_of_ble_eq_true rfl) (And.intro (ce_32 hN) (And.intro rr_32_10 (And.intro rfl (And.intro rfl (And.intro (Nat.le_of_ble_eq_true rfl) (And.intro (ce_32 hN) (And.intro rr_32_1 (And.intro (ce_17 hN) (And.intro rr_17_1 (And.intro rfl (And.intro (ce_19 hN) (And.intro (h.1 q4).1 (And.intro rfl (And.intro (ce_41 hN) (And.intro (h.1 q4).2.1 (?_))))))))))))))))
    show sg_Wp 0 N (d + 1) m_D_sneeze 94 [(0, 2, 32), (1, 0, v1), (2, 0, v2), (3, 0, v3)] [] (sg_up G 41 v1 (sg_iand v2 (sg_ixor (G 19 v1) ((-1))))) Q
    exact sg_vret (by decide +kernel) rfl ((h.1 q4).2.2)
  · refine sg_blk [(1, 0, 0, 0, 0), (65, 17, 1, 46, 1), (65, 20, 9, 105, 2), (3, 0, 0, 1, 0), (19, 24, 0, 0, 0)] (by decide +kernel) ?_
    refine And.intro (Nat.le_of_ble_eq_true rfl) (And.intro (ce_32 hN) (And.intro rr_32_1 (And.intro (ce_17 hN) (And.intro rr_17_2 (And.intro rfl (And.intro (ce_20 hN) (And.intro (h.2 q4).1 (?_))))))))
    show sg_Wp 0 N (d + 1) m_D_sneeze 24 [(0, 2, 32), (1, 0, v1), (2, 0, v2), (3, 0, v3)] [(0, G 20 v1)] G Q
    refine sg_if_ne (off := 39) (tgt := 63) (by decide +kernel) (by decide) ⟨fun q3 => ?_, fun q3 => ?_⟩
    · refine sg_blk [(3, 0, 0, 2, 0), (7, 1, 0, 0, 0), (3, 0, 0, 3, 0), (41, 0, 0, 0, 0), (39, 0, 0, 0, 0), (25, 0, 0, 2, 0), (31, 1, 0, 3, 0)] (by decide +kernel) ?_
      refine And.intro rfl (And.intro rfl (And.intro rfl (And.intro rfl (And.intro rfl (?_)))))
      show sg_Wp 0 N (d + 1) m_D_sneeze 72 [(0, 2, 32), (1, 0, v1), (2, 0, sg_ior v2 (sg_ishl 1 v3)), (3, 0, sg_iadd v3 1)] [] G Q
      refine sg_goto (off := -68) (tgt := 4) (by decide +kernel) (by decide) ?_
      exact ((h.2 q4).2.1 q3)
    · refine sg_blk [(1, 0, 0, 0, 0), (65, 17, 1, 46, 1), (65, 18, 9, 111, 0), (3, 0, 0, 1, 0), (17, 24, 0, 0, 0), (1, 0, 0, 0, 0), (65, 33, 1, 9, 2), (3, 0, 0, 3, 0), (17, 6, 0, 0, 0)] (by decide +kernel) ?_
      refine And.intro (Nat.le_of_ble_eq_true rfl) (And.intro (ce_32 hN) (And.intro rr_32_1 (And.intro (ce_17 hN) (And.intro rr_17_0 (And.intro rfl (And.intro (ce_18 hN) (And.intro ((h.2 q4).2.2 q3).1 (And.intro (Nat.le_of_ble_eq_true rfl) (And.intro (ce_32 hN) (And.intro rr_32_2 (And.intro rfl (And.intro (ce_33 hN) (And.intro ((h.2 q4).2.2 q3).2.1 (?_))))))))))))))
      show sg_Wp 0 N (d + 1) m_D_sneeze 42 [(0, 2, 32), (1, 0, v1), (2, 0, v2), (3, 0, v3)] [(0, G 33 v3), (0, G 18 v1)] G Q
      refine sg_callN (k := d) (y' := m_G_hasBit) (av := [(0, G 18 v1), (0, G 33 v3)]) (rest := []) (idx := 114) (by decide +kernel) cs_G_hasBit (List.mem_of_getElem? (i := 4) rfl) rfl (Nat.le_of_ble_eq_true rfl) (Nat.lt_succ_self d) (Nat.le_of_ble_eq_true rfl) rfl ?_
      show sg_Wp 0 N d m_G_hasBit 0 [(0, 0, G 18 v1), (1, 0, G 33 v3)] [] G _
      refine s_G_hasBit ?_
      show sg_Wp 0 N (d + 1) m_D_sneeze 45 [(0, 2, 32), (1, 0, v1), (2, 0, v2), (3, 0, v3)] [(0, sg_bo (sg_iand (sg_ishr (G 18 v1) (G 33 v3)) 1 ≠ 0))] G Q
      refine sg_bif_ne (off := 18) (tgt := 63) (by decide +kernel) (by decide) ⟨fun q2 => ?_, fun q2 => ?_⟩
      · refine sg_blk [(3, 0, 0, 2, 0), (7, 1, 0, 0, 0), (3, 0, 0, 3, 0), (41, 0, 0, 0, 0), (39, 0, 0, 0, 0), (25, 0, 0, 2, 0), (31, 1, 0, 3, 0)] (by decide +kernel) ?_
        refine And.intro rfl (And.intro rfl (And.intro rfl (And.intro rfl (And.intro rfl (?_)))))
        show sg_Wp 0 N (d + 1) m_D_sneeze 72 [(0, 2, 32), (1, 0, v1), (2, 0, sg_ior v2 (sg_ishl 1 v3)), (3, 0, sg_iadd v3 1)] [] G Q
        refine sg_goto (off := -68) (tgt := 4) (by decide +kernel) (by decide) ?_
        exact (((h.2 q4).2.2 q3).2.2.1 q2)
      · refine sg_blk [(1, 0, 0, 0, 0), (65, 35, 1, 18, 4), (3, 0, 0, 3, 0), (17, 6, 0, 0, 0), (3, 0, 0, 1, 0), (7, 1, 0, 0, 0), (32, 0, 0, 0, 0)] (by decide +kernel) ?_
        refine And.intro (Nat.le_of_ble_eq_true rfl) (And.intro (ce_32 hN) (And.intro rr_32_4 (And.intro rfl (And.intro (ce_35 hN) (And.intro (((h.2 q4).2.2 q3).2.2.2 q2).1 (And.intro rfl (And.intro rfl (?_))))))))
        show sg_Wp 0 N (d + 1) m_D_sneeze 57 [(0, 2, 32), (1, 0, v1), (2, 0, v2), (3, 0, v3)] [(0, sg_iadd v1 1), (0, G 35 v3)] G Q
        refine sg_callS (k := d) (y' := m_D_divides) (av := [(0, G 35 v3), (0, sg_iadd v1 1)]) (rest := []) (by decide +kernel) cs_D_divides ml_1_117 rfl (Nat.le_of_ble_eq_true rfl) (Nat.lt_succ_self d) (Nat.le_of_ble_eq_true rfl) rfl ?_
        show sg_Wp 0 N d m_D_divides 0 [(0, 0, G 35 v3), (1, 0, sg_iadd v1 1)] [] G _
        refine s_D_divides ?_
        show sg_Wp 0 N (d + 1) m_D_sneeze 60 [(0, 2, 32), (1, 0, v1), (2, 0, v2), (3, 0, v3)] [(0, sg_bo (0 < (G 35 v3) ∧ sg_irem (sg_iadd v1 1) (G 35 v3) = 0))] G Q
        refine sg_bif_eq (off := 9) (tgt := 69) (by decide +kernel) (by decide) ⟨fun q1 => ?_, fun q1 => ?_⟩
        · refine sg_blk [(3, 0, 0, 2, 0), (7, 1, 0, 0, 0), (3, 0, 0, 3, 0), (41, 0, 0, 0, 0), (39, 0, 0, 0, 0), (25, 0, 0, 2, 0), (31, 1, 0, 3, 0)] (by decide +kernel) ?_
          refine And.intro rfl (And.intro rfl (And.intro rfl (And.intro rfl (And.intro rfl (?_)))))
          show sg_Wp 0 N (d + 1) m_D_sneeze 72 [(0, 2, 32), (1, 0, v1), (2, 0, sg_ior v2 (sg_ishl 1 v3)), (3, 0, sg_iadd v3 1)] [] G Q
          refine sg_goto (off := -68) (tgt := 4) (by decide +kernel) (by decide) ?_
          exact ((((h.2 q4).2.2 q3).2.2.2 q2).2.1 q1)
        · refine sg_blk [(31, 1, 0, 3, 0)] (by decide +kernel) ?_
          refine And.intro rfl (?_)
          show sg_Wp 0 N (d + 1) m_D_sneeze 72 [(0, 2, 32), (1, 0, v1), (2, 0, v2), (3, 0, sg_iadd v3 1)] [] G Q
          refine sg_goto (off := -68) (tgt := 4) (by decide +kernel) (by decide) ?_
          exact ((((h.2 q4).2.2 q3).2.2.2 q2).2.2 q1)
set_option maxRecDepth 100000 in
theorem g_D_changeGuard_32_0 {d N : Nat} (hN : 44 ≤ N) {v1 : Int} {G : SgM} {Q : Int → SgM → Prop} (h : sg_Wp 0 N (d + 1) m_D_changeGuard 4 [(0, 2, 32), (1, 0, v1), (2, 0, 0), (3, 0, 0)] [] G Q) : sg_Wp 0 N (d + 1) m_D_changeGuard 0 [(0, 2, 32), (1, 0, v1)] [] G Q := by
  refine sg_blk [(7, 0, 0, 0, 0), (25, 0, 0, 2, 0), (7, 0, 0, 0, 0), (25, 0, 0, 3, 0)] (by decide +kernel) ?_
  refine And.intro rfl (And.intro rfl (And.intro rfl (And.intro rfl (?_))))
  show sg_Wp 0 N (d + 1) m_D_changeGuard 4 [(0, 2, 32), (1, 0, v1), (2, 0, 0), (3, 0, 0)] [] G Q
  exact h
set_option maxRecDepth 100000 in
theorem g_D_changeGuard_32_4 {d N : Nat} (hN : 44 ≤ N) {v1 v2 v3 : Int} {G : SgM} {Q : Int → SgM → Prop} (h : ((G 5 4) ≤ v3 → ((0 ≤ v1 ∧ v1 < 24) ∧ (Q 0 (sg_up (sg_up G 42 v1 v2) 32 12 (sg_iadd (G 32 12) (sg_ibc v2)))))) ∧ (¬ ((G 5 4) ≤ v3) → ((0 ≤ v1 ∧ v1 < 24) ∧ (((sg_iand (sg_ishr (G 41 v1) v3) 1 ≠ 0) → ((0 ≤ v3 ∧ v3 < 6) ∧ (0 ≤ v3 ∧ v3 < 6) ∧ (sg_Wp 0 N d m_W_hearersOf 0 [(0, 2, 5), (1, 0, G 9 v3), (2, 0, G 33 v3)] [] G (fun r1 G1 => (0 ≤ (sg_iadd (sg_imul v1 6) v3) ∧ (sg_iadd (sg_imul v1 6) v3) < 144) ∧ (sg_Wp 0 N (d + 1) m_D_changeGuard 4 [(0, 2, 32), (1, 0, v1), (2, 0, sg_ior v2 (sg_iand r1 (sg_ixor v2 ((-1))))), (3, 0, sg_iadd v3 1)] [] (sg_up G1 39 (sg_iadd (sg_imul v1 6) v3) (sg_iand r1 (sg_ixor v2 ((-1))))) Q))))) ∧ (¬ (sg_iand (sg_ishr (G 41 v1) v3) 1 ≠ 0) → ((0 ≤ (sg_iadd (sg_imul v1 6) v3) ∧ (sg_iadd (sg_imul v1 6) v3) < 144) ∧ (sg_Wp 0 N (d + 1) m_D_changeGuard 4 [(0, 2, 32), (1, 0, v1), (2, 0, sg_ior v2 0), (3, 0, sg_iadd v3 1)] [] (sg_up G 39 (sg_iadd (sg_imul v1 6) v3) 0) Q))))))) : sg_Wp 0 N (d + 1) m_D_changeGuard 4 [(0, 2, 32), (1, 0, v1), (2, 0, v2), (3, 0, v3)] [] G Q := by
  refine sg_blk [(3, 0, 0, 3, 0), (1, 0, 0, 0, 0), (65, 5, 1, 42, 0), (15, 0, 8, 69, 4)] (by decide +kernel) ?_
  refine And.intro rfl (And.intro (Nat.le_of_ble_eq_true rfl) (And.intro (ce_32 hN) (And.intro rr_32_0 (And.intro (ce_5 hN) (?_)))))
  show sg_Wp 0 N (d + 1) m_D_changeGuard 12 [(0, 2, 32), (1, 0, v1), (2, 0, v2), (3, 0, v3)] [(0, G 5 4), (0, v3)] G Q
  refine sg_icmp_ge (off := 71) (tgt := 83) (by decide +kernel) (by decide) ⟨fun q2 => ?_, fun q2 => ?_⟩
  · refine sg_blk [(1, 0, 0, 0, 0), (65, 42, 1, 39, 11), (3, 0, 0, 1, 0), (3, 0, 0, 2, 0), (18, 24, 0, 0, 0), (1, 0, 0, 0, 0), (57, 0, 0, 0, 0), (15, 0, 1, 86, 12), (3, 0, 0, 2, 0)] (by decide +kernel) ?_
    refine And.intro (Nat.le_of_ble_eq_true rfl) (And.intro (ce_32 hN) (And.intro rr_32_11 (And.intro rfl (And.intro rfl (And.intro (ce_42 hN) (And.intro (h.1 q2).1 (And.intro (Nat.le_of_ble_eq_true rfl) (And.intro (Nat.ne_of_beq_eq_false rfl) (And.intro (ce_32 hN) (And.intro rfl (?_)))))))))))
    show sg_Wp 0 N (d + 1) m_D_changeGuard 96 [(0, 2, 32), (1, 0, v1), (2, 0, v2), (3, 0, v3)] [(0, v2), (0, G 32 12), (2, 32)] (sg_up G 42 v1 v2) Q
    refine sg_callS (k := d) (y' := m_I_bitCount) (av := [(0, v2)]) (rest := [(0, G 32 12), (2, 32)]) (by decide +kernel) cs_I_bitCount ml_1_130 rfl (Nat.le_of_ble_eq_true rfl) (Nat.lt_succ_self d) (Nat.le_of_ble_eq_true rfl) rfl ?_
    show sg_Wp 0 N d m_I_bitCount 0 [(0, 0, v2)] [] (sg_up G 42 v1 v2) _
    refine s_I_bitCount ?_
    show sg_Wp 0 N (d + 1) m_D_changeGuard 99 [(0, 2, 32), (1, 0, v1), (2, 0, v2), (3, 0, v3)] [(0, sg_ibc v2), (0, G 32 12), (2, 32)] (sg_up G 42 v1 v2) Q
    refine sg_blk [(32, 0, 0, 0, 0), (16, 0, 1, 86, 12)] (by decide +kernel) ?_
    refine And.intro (ce_32 hN) (?_)
    show sg_Wp 0 N (d + 1) m_D_changeGuard 103 [(0, 2, 32), (1, 0, v1), (2, 0, v2), (3, 0, v3)] [] (sg_up (sg_up G 42 v1 v2) 32 12 (sg_iadd (G 32 12) (sg_ibc v2))) Q
    exact sg_vret (by decide +kernel) rfl ((h.1 q2).2)
  · refine sg_blk [(7, 0, 0, 0, 0), (26, 0, 0, 4, 0), (1, 0, 0, 0, 0), (65, 41, 1, 36, 10), (3, 0, 0, 1, 0), (17, 24, 0, 0, 0), (3, 0, 0, 3, 0)] (by decide +kernel) ?_
    refine And.intro rfl (And.intro rfl (And.intro (Nat.le_of_ble_eq_true rfl) (And.intro (ce_32 hN) (And.intro rr_32_10 (And.intro rfl (And.intro (ce_41 hN) (And.intro (h.2 q2).1 (And.intro rfl (?_)))))))))
    show sg_Wp 0 N (d + 1) m_D_changeGuard 25 [(0, 2, 32), (1, 0, v1), (2, 0, v2), (3, 0, v3), (4, 0, 0)] [(0, v3), (0, G 41 v1)] G Q
    refine sg_callN (k := d) (y' := m_G_hasBit) (av := [(0, G 41 v1), (0, v3)]) (rest := []) (idx := 114) (by decide +kernel) cs_G_hasBit (List.mem_of_getElem? (i := 4) rfl) rfl (Nat.le_of_ble_eq_true rfl) (Nat.lt_succ_self d) (Nat.le_of_ble_eq_true rfl) rfl ?_
    show sg_Wp 0 N d m_G_hasBit 0 [(0, 0, G 41 v1), (1, 0, v3)] [] G _
    refine s_G_hasBit ?_
    show sg_Wp 0 N (d + 1) m_D_changeGuard 28 [(0, 2, 32), (1, 0, v1), (2, 0, v2), (3, 0, v3), (4, 0, 0)] [(0, sg_bo (sg_iand (sg_ishr (G 41 v1) v3) 1 ≠ 0))] G Q
    refine sg_bif_eq (off := 31) (tgt := 59) (by decide +kernel) (by decide) ⟨fun q1 => ?_, fun q1 => ?_⟩
    · refine sg_blk [(1, 0, 0, 0, 0), (65, 5, 1, 42, 0), (1, 0, 0, 0, 0), (65, 5, 1, 42, 0), (65, 9, 8, 123, 5), (3, 0, 0, 3, 0), (17, 6, 0, 0, 0), (1, 0, 0, 0, 0), (65, 33, 1, 9, 2), (3, 0, 0, 3, 0), (17, 6, 0, 0, 0)] (by decide +kernel) ?_
      refine And.intro (Nat.le_of_ble_eq_true rfl) (And.intro (ce_32 hN) (And.intro rr_32_0 (And.intro (Nat.le_of_ble_eq_true rfl) (And.intro (ce_32 hN) (And.intro rr_32_0 (And.intro (ce_5 hN) (And.intro rr_5_5 (And.intro rfl (And.intro (ce_9 hN) (And.intro ((h.2 q2).2.1 q1).1 (And.intro (Nat.le_of_ble_eq_true rfl) (And.intro (ce_32 hN) (And.intro rr_32_2 (And.intro rfl (And.intro (ce_33 hN) (And.intro ((h.2 q2).2.1 q1).2.1 (?_)))))))))))))))))
      show sg_Wp 0 N (d + 1) m_D_changeGuard 50 [(0, 2, 32), (1, 0, v1), (2, 0, v2), (3, 0, v3), (4, 0, 0)] [(0, G 33 v3), (0, G 9 v3), (2, 5)] G Q
      refine sg_callV (k := d) (y' := m_W_hearersOf) (av := [(0, G 9 v3), (0, G 33 v3)]) (rest := []) (b := 5) (by decide +kernel) cv_W_hearersOf ml_1_126 (ce_5 hN) rfl rfl (Nat.le_of_ble_eq_true rfl) (Nat.lt_succ_self d) (Nat.le_of_ble_eq_true rfl) rfl ?_
      show sg_Wp 0 N d m_W_hearersOf 0 [(0, 2, 5), (1, 0, G 9 v3), (2, 0, G 33 v3)] [] G _
      refine sg_Wp.mono (((h.2 q2).2.1 q1).2.2) (fun r1 G1 hhr1 => ?_)
      show sg_Wp 0 N (d + 1) m_D_changeGuard 53 [(0, 2, 32), (1, 0, v1), (2, 0, v2), (3, 0, v3), (4, 0, 0)] [(0, r1)] G1 Q
      refine sg_blk [(3, 0, 0, 2, 0), (7, (-1), 0, 0, 0), (40, 0, 0, 0, 0), (38, 0, 0, 0, 0), (26, 0, 0, 4, 0), (1, 0, 0, 0, 0), (65, 39, 1, 30, 8), (3, 0, 0, 1, 0), (8, 6, 0, 0, 0), (34, 0, 0, 0, 0), (3, 0, 0, 3, 0), (32, 0, 0, 0, 0), (4, 0, 0, 4, 0), (18, 144, 0, 0, 0), (3, 0, 0, 2, 0), (4, 0, 0, 4, 0), (39, 0, 0, 0, 0), (25, 0, 0, 2, 0), (31, 1, 0, 3, 0)] (by decide +kernel) ?_
      refine And.intro rfl (And.intro rfl (And.intro rfl (And.intro (Nat.le_of_ble_eq_true rfl) (And.intro (ce_32 hN) (And.intro rr_32_8 (And.intro rfl (And.intro rfl (And.intro rfl (And.intro rfl (And.intro rfl (And.intro (ce_39 hN) (And.intro hhr1.1 (And.intro rfl (And.intro rfl (And.intro rfl (And.intro rfl (?_)))))))))))))))))
      show sg_Wp 0 N (d + 1) m_D_changeGuard 80 [(0, 2, 32), (1, 0, v1), (2, 0, sg_ior v2 (sg_iand r1 (sg_ixor v2 ((-1))))), (3, 0, sg_iadd v3 1), (4, 0, sg_iand r1 (sg_ixor v2 ((-1))))] [] (sg_up G1 39 (sg_iadd (sg_imul v1 6) v3) (sg_iand r1 (sg_ixor v2 ((-1))))) Q
      refine sg_goto (off := -76) (tgt := 4) (by decide +kernel) (by decide) ?_
      exact sg_Wp.keepk [0, 1, 2, 3] rfl hhr1.2
    · refine sg_blk [(1, 0, 0, 0, 0), (65, 39, 1, 30, 8), (3, 0, 0, 1, 0), (8, 6, 0, 0, 0), (34, 0, 0, 0, 0), (3, 0, 0, 3, 0), (32, 0, 0, 0, 0), (4, 0, 0, 4, 0), (18, 144, 0, 0, 0), (3, 0, 0, 2, 0), (4, 0, 0, 4, 0), (39, 0, 0, 0, 0), (25, 0, 0, 2, 0), (31, 1, 0, 3, 0)] (by decide +kernel) ?_
      refine And.intro (Nat.le_of_ble_eq_true rfl) (And.intro (ce_32 hN) (And.intro rr_32_8 (And.intro rfl (And.intro rfl (And.intro rfl (And.intro rfl (And.intro rfl (And.intro (ce_39 hN) (And.intro ((h.2 q2).2.2 q1).1 (And.intro rfl (And.intro rfl (And.intro rfl (And.intro rfl (?_))))))))))))))
      show sg_Wp 0 N (d + 1) m_D_changeGuard 80 [(0, 2, 32), (1, 0, v1), (2, 0, sg_ior v2 0), (3, 0, sg_iadd v3 1), (4, 0, 0)] [] (sg_up G 39 (sg_iadd (sg_imul v1 6) v3) 0) Q
      refine sg_goto (off := -76) (tgt := 4) (by decide +kernel) (by decide) ?_
      exact sg_Wp.keepk [0, 1, 2, 3] rfl (((h.2 q2).2.2 q1).2)
set_option maxRecDepth 100000 in
theorem g_D_stand_32_0 {d N : Nat} (hN : 44 ≤ N) {v1 : Int} {G : SgM} {Q : Int → SgM → Prop} (h : sg_Wp 0 N (d + 1) m_D_stand 2 [(0, 2, 32), (1, 0, v1), (2, 0, 0)] [] G Q) : sg_Wp 0 N (d + 1) m_D_stand 0 [(0, 2, 32), (1, 0, v1)] [] G Q := by
  refine sg_blk [(7, 0, 0, 0, 0), (25, 0, 0, 2, 0)] (by decide +kernel) ?_
  refine And.intro rfl (And.intro rfl (?_))
  show sg_Wp 0 N (d + 1) m_D_stand 2 [(0, 2, 32), (1, 0, v1), (2, 0, 0)] [] G Q
  exact h
set_option maxRecDepth 100000 in
theorem g_D_stand_32_2 {d N : Nat} (hN : 44 ≤ N) {v1 v2 : Int} {G : SgM} {Q : Int → SgM → Prop} (h : ((G 5 0) ≤ v2 → (Q 0 G)) ∧ (¬ ((G 5 0) ≤ v2) → ((0 ≤ v1 ∧ v1 < 24) ∧ (((sg_iand (sg_ishr (G 42 v1) v2) 1 ≠ 0) → ((0 ≤ v2 ∧ v2 < 8) ∧ (0 ≤ v2 ∧ v2 < 8) ∧ (0 ≤ (sg_iadd (sg_imul v1 8) v2) ∧ (sg_iadd (sg_imul v1 8) v2) < 192) ∧ (0 ≤ v2 ∧ v2 < 8) ∧ ((((sg_up G 36 v2 0) 36 v2) < 12 → (sg_Wp 0 N (d + 1) m_D_stand 84 [(0, 2, 32), (1, 0, v1), (2, 0, v2)] [] (sg_up (sg_up G 36 v2 0) 40 (sg_iadd (sg_imul v1 8) v2) ((sg_up G 36 v2 0) 36 v2)) Q)) ∧ (¬ (((sg_up G 36 v2 0) 36 v2) < 12) → (sg_Wp 0 N (d + 1) m_D_stand 84 [(0, 2, 32), (1, 0, v1), (2, 0, v2)] [] (sg_up (sg_up (sg_up G 36 v2 0) 40 (sg_iadd (sg_imul v1 8) v2) ((sg_up G 36 v2 0) 36 v2)) 32 13 (sg_ior (G 32 13) (sg_ishl 1 v2))) Q))))) ∧ (¬ (sg_iand (sg_ishr (G 42 v1) v2) 1 ≠ 0) → ((0 ≤ v2 ∧ v2 < 8) ∧ (0 ≤ v2 ∧ v2 < 8) ∧ (0 ≤ v2 ∧ v2 < 8) ∧ (0 ≤ (sg_iadd (sg_imul v1 8) v2) ∧ (sg_iadd (sg_imul v1 8) v2) < 192) ∧ (0 ≤ v2 ∧ v2 < 8) ∧ ((((sg_up G 36 v2 (sg_iadd (G 36 v2) 1)) 36 v2) < 12 → (sg_Wp 0 N (d + 1) m_D_stand 84 [(0, 2, 32), (1, 0, v1), (2, 0, v2)] [] (sg_up (sg_up G 36 v2 (sg_iadd (G 36 v2) 1)) 40 (sg_iadd (sg_imul v1 8) v2) ((sg_up G 36 v2 (sg_iadd (G 36 v2) 1)) 36 v2)) Q)) ∧ (¬ (((sg_up G 36 v2 (sg_iadd (G 36 v2) 1)) 36 v2) < 12) → (sg_Wp 0 N (d + 1) m_D_stand 84 [(0, 2, 32), (1, 0, v1), (2, 0, v2)] [] (sg_up (sg_up (sg_up G 36 v2 (sg_iadd (G 36 v2) 1)) 40 (sg_iadd (sg_imul v1 8) v2) ((sg_up G 36 v2 (sg_iadd (G 36 v2) 1)) 36 v2)) 32 13 (sg_ior (G 32 13) (sg_ishl 1 v2))) Q))))))))) : sg_Wp 0 N (d + 1) m_D_stand 2 [(0, 2, 32), (1, 0, v1), (2, 0, v2)] [] G Q := by
  refine sg_blk [(3, 0, 0, 2, 0), (1, 0, 0, 0, 0), (65, 5, 1, 42, 0), (15, 0, 8, 136, 0)] (by decide +kernel) ?_
  refine And.intro rfl (And.intro (Nat.le_of_ble_eq_true rfl) (And.intro (ce_32 hN) (And.intro rr_32_0 (And.intro (ce_5 hN) (?_)))))
  show sg_Wp 0 N (d + 1) m_D_stand 10 [(0, 2, 32), (1, 0, v1), (2, 0, v2)] [(0, G 5 0), (0, v2)] G Q
  refine sg_icmp_ge (off := 113) (tgt := 123) (by decide +kernel) (by decide) ⟨fun q4 => ?_, fun q4 => ?_⟩
  · exact sg_vret (by decide +kernel) rfl ((h.1 q4))
  · refine sg_blk [(1, 0, 0, 0, 0), (65, 36, 1, 21, 5), (3, 0, 0, 2, 0), (1, 0, 0, 0, 0), (65, 42, 1, 39, 11), (3, 0, 0, 1, 0), (17, 24, 0, 0, 0), (3, 0, 0, 2, 0)] (by decide +kernel) ?_
    refine And.intro (Nat.le_of_ble_eq_true rfl) (And.intro (ce_32 hN) (And.intro rr_32_5 (And.intro rfl (And.intro (Nat.le_of_ble_eq_true rfl) (And.intro (ce_32 hN) (And.intro rr_32_11 (And.intro rfl (And.intro (ce_42 hN) (And.intro (h.2 q4).1 (And.intro rfl (?_)))))))))))
    show sg_Wp 0 N (d + 1) m_D_stand 25 [(0, 2, 32), (1, 0, v1), (2, 0, v2)] [(0, v2), (0, G 42 v1), (0, v2), (2, 36)] G Q
    refine sg_callN (k := d) (y' := m_G_hasBit) (av := [(0, G 42 v1), (0, v2)]) (rest := [(0, v2), (2, 36)]) (idx := 114) (by decide +kernel) cs_G_hasBit (List.mem_of_getElem? (i := 4) rfl) rfl (Nat.le_of_ble_eq_true rfl) (Nat.lt_succ_self d) (Nat.le_of_ble_eq_true rfl) rfl ?_
    show sg_Wp 0 N d m_G_hasBit 0 [(0, 0, G 42 v1), (1, 0, v2)] [] G _
    refine s_G_hasBit ?_
    show sg_Wp 0 N (d + 1) m_D_stand 28 [(0, 2, 32), (1, 0, v1), (2, 0, v2)] [(0, sg_bo (sg_iand (sg_ishr (G 42 v1) v2) 1 ≠ 0)), (0, v2), (2, 36)] G Q
    refine sg_bif_eq (off := 7) (tgt := 35) (by decide +kernel) (by decide) ⟨fun q3 => ?_, fun q3 => ?_⟩
    · refine sg_blk [(7, 0, 0, 0, 0)] (by decide +kernel) ?_
      refine And.intro rfl (?_)
      show sg_Wp 0 N (d + 1) m_D_stand 32 [(0, 2, 32), (1, 0, v1), (2, 0, v2)] [(0, 0), (0, v2), (2, 36)] G Q
      refine sg_goto (off := 11) (tgt := 43) (by decide +kernel) (by decide) ?_
      refine sg_blk [(18, 8, 0, 0, 0), (1, 0, 0, 0, 0), (65, 40, 1, 33, 9), (3, 0, 0, 1, 0), (8, 8, 0, 0, 0), (34, 0, 0, 0, 0), (3, 0, 0, 2, 0), (32, 0, 0, 0, 0), (1, 0, 0, 0, 0), (65, 36, 1, 21, 5), (3, 0, 0, 2, 0), (17, 8, 0, 0, 0), (18, 192, 0, 0, 0), (1, 0, 0, 0, 0), (65, 36, 1, 21, 5), (3, 0, 0, 2, 0), (17, 8, 0, 0, 0), (8, 12, 0, 0, 0)] (by decide +kernel) ?_
      refine And.intro (ce_36 hN) (And.intro ((h.2 q4).2.1 q3).1 (And.intro (Nat.le_of_ble_eq_true rfl) (And.intro (ce_32 hN) (And.intro rr_32_9 (And.intro rfl (And.intro rfl (And.intro rfl (And.intro rfl (And.intro (Nat.le_of_ble_eq_true rfl) (And.intro (ce_32 hN) (And.intro rr_32_5 (And.intro rfl (And.intro (ce_36 hN) (And.intro ((h.2 q4).2.1 q3).2.1 (And.intro (ce_40 hN) (And.intro ((h.2 q4).2.1 q3).2.2.1 (And.intro (Nat.le_of_ble_eq_true rfl) (And.intro (ce_32 hN) (And.intro rr_32_5 (And.intro rfl (And.intro (ce_36 hN) (And.intro ((h.2 q4).2.1 q3).2.2.2.1 (And.intro rfl (And.intro rfl (?_)))))))))))))))))))))))))
      show sg_Wp 0 N (d + 1) m_D_stand 69 [(0, 2, 32), (1, 0, v1), (2, 0, v2)] [(0, 12), (0, (sg_up G 36 v2 0) 36 v2)] (sg_up (sg_up G 36 v2 0) 40 (sg_iadd (sg_imul v1 8) v2) ((sg_up G 36 v2 0) 36 v2)) Q
      refine sg_icmp_lt (off := 15) (tgt := 84) (by decide +kernel) (by decide) ⟨fun q2 => ?_, fun q2 => ?_⟩
      · exact (((h.2 q4).2.1 q3).2.2.2.2.1 q2)
      · refine sg_blk [(1, 0, 0, 0, 0), (57, 0, 0, 0, 0), (15, 0, 1, 89, 13), (7, 1, 0, 0, 0), (3, 0, 0, 2, 0), (41, 0, 0, 0, 0), (39, 0, 0, 0, 0), (16, 0, 1, 89, 13)] (by decide +kernel) ?_
        refine And.intro (Nat.le_of_ble_eq_true rfl) (And.intro (Nat.ne_of_beq_eq_false rfl) (And.intro (ce_32 hN) (And.intro rfl (And.intro rfl (And.intro (ce_32 hN) (?_))))))
        show sg_Wp 0 N (d + 1) m_D_stand 84 [(0, 2, 32), (1, 0, v1), (2, 0, v2)] [] (sg_up (sg_up (sg_up G 36 v2 0) 40 (sg_iadd (sg_imul v1 8) v2) ((sg_up G 36 v2 0) 36 v2)) 32 13 (sg_ior (G 32 13) (sg_ishl 1 v2))) Q
        exact (((h.2 q4).2.1 q3).2.2.2.2.2 q2)
    · refine sg_blk [(1, 0, 0, 0, 0), (65, 36, 1, 21, 5), (3, 0, 0, 2, 0), (17, 8, 0, 0, 0), (7, 1, 0, 0, 0), (32, 0, 0, 0, 0), (18, 8, 0, 0, 0), (1, 0, 0, 0, 0), (65, 40, 1, 33, 9), (3, 0, 0, 1, 0), (8, 8, 0, 0, 0), (34, 0, 0, 0, 0), (3, 0, 0, 2, 0), (32, 0, 0, 0, 0), (1, 0, 0, 0, 0), (65, 36, 1, 21, 5), (3, 0, 0, 2, 0), (17, 8, 0, 0, 0), (18, 192, 0, 0, 0), (1, 0, 0, 0, 0), (65, 36, 1, 21, 5), (3, 0, 0, 2, 0), (17, 8, 0, 0, 0), (8, 12, 0, 0, 0)] (by decide +kernel) ?_
      refine And.intro (Nat.le_of_ble_eq_true rfl) (And.intro (ce_32 hN) (And.intro rr_32_5 (And.intro rfl (And.intro (ce_36 hN) (And.intro ((h.2 q4).2.2 q3).1 (And.intro rfl (And.intro (ce_36 hN) (And.intro ((h.2 q4).2.2 q3).2.1 (And.intro (Nat.le_of_ble_eq_true rfl) (And.intro (ce_32 hN) (And.intro rr_32_9 (And.intro rfl (And.intro rfl (And.intro rfl (And.intro rfl (And.intro (Nat.le_of_ble_eq_true rfl) (And.intro (ce_32 hN) (And.intro rr_32_5 (And.intro rfl (And.intro (ce_36 hN) (And.intro ((h.2 q4).2.2 q3).2.2.1 (And.intro (ce_40 hN) (And.intro ((h.2 q4).2.2 q3).2.2.2.1 (And.intro (Nat.le_of_ble_eq_true rfl) (And.intro (ce_32 hN) (And.intro rr_32_5 (And.intro rfl (And.intro (ce_36 hN) (And.intro ((h.2 q4).2.2 q3).2.2.2.2.1 (And.intro rfl (And.intro rfl (?_))))))))))))))))))))))))))))))))
      show sg_Wp 0 N (d + 1) m_D_stand 69 [(0, 2, 32), (1, 0, v1), (2, 0, v2)] [(0, 12), (0, (sg_up G 36 v2 (sg_iadd (G 36 v2) 1)) 36 v2)] (sg_up (sg_up G 36 v2 (sg_iadd (G 36 v2) 1)) 40 (sg_iadd (sg_imul v1 8) v2) ((sg_up G 36 v2 (sg_iadd (G 36 v2) 1)) 36 v2)) Q
      refine sg_icmp_lt (off := 15) (tgt := 84) (by decide +kernel) (by decide) ⟨fun q1 => ?_, fun q1 => ?_⟩
      · exact (((h.2 q4).2.2 q3).2.2.2.2.2.1 q1)
      · refine sg_blk [(1, 0, 0, 0, 0), (57, 0, 0, 0, 0), (15, 0, 1, 89, 13), (7, 1, 0, 0, 0), (3, 0, 0, 2, 0), (41, 0, 0, 0, 0), (39, 0, 0, 0, 0), (16, 0, 1, 89, 13)] (by decide +kernel) ?_
        refine And.intro (Nat.le_of_ble_eq_true rfl) (And.intro (Nat.ne_of_beq_eq_false rfl) (And.intro (ce_32 hN) (And.intro rfl (And.intro rfl (And.intro (ce_32 hN) (?_))))))
        show sg_Wp 0 N (d + 1) m_D_stand 84 [(0, 2, 32), (1, 0, v1), (2, 0, v2)] [] (sg_up (sg_up (sg_up G 36 v2 (sg_iadd (G 36 v2) 1)) 40 (sg_iadd (sg_imul v1 8) v2) ((sg_up G 36 v2 (sg_iadd (G 36 v2) 1)) 36 v2)) 32 13 (sg_ior (G 32 13) (sg_ishl 1 v2))) Q
        exact (((h.2 q4).2.2 q3).2.2.2.2.2.2 q1)
set_option maxRecDepth 100000 in
theorem g_D_stand_32_84 {d N : Nat} (hN : 44 ≤ N) {v1 v2 : Int} {G : SgM} {Q : Int → SgM → Prop} (h : (0 ≤ v2 ∧ v2 < 8) ∧ (((G 36 v2) ≤ (G 32 14) → (sg_Wp 0 N (d + 1) m_D_stand 117 [(0, 2, 32), (1, 0, v1), (2, 0, v2)] [] G Q)) ∧ (¬ ((G 36 v2) ≤ (G 32 14)) → ((0 ≤ v2 ∧ v2 < 8) ∧ (sg_Wp 0 N (d + 1) m_D_stand 117 [(0, 2, 32), (1, 0, v1), (2, 0, v2)] [] (sg_up (sg_up (sg_up G 32 14 (G 36 v2)) 32 15 v1) 32 16 v2) Q))))) : sg_Wp 0 N (d + 1) m_D_stand 84 [(0, 2, 32), (1, 0, v1), (2, 0, v2)] [] G Q := by
  refine sg_blk [(1, 0, 0, 0, 0), (65, 36, 1, 21, 5), (3, 0, 0, 2, 0), (17, 8, 0, 0, 0), (1, 0, 0, 0, 0), (15, 0, 1, 92, 14)] (by decide +kernel) ?_
  refine And.intro (Nat.le_of_ble_eq_true rfl) (And.intro (ce_32 hN) (And.intro rr_32_5 (And.intro rfl (And.intro (ce_36 hN) (And.intro h.1 (And.intro (Nat.le_of_ble_eq_true rfl) (And.intro (ce_32 hN) (?_))))))))
  show sg_Wp 0 N (d + 1) m_D_stand 94 [(0, 2, 32), (1, 0, v1), (2, 0, v2)] [(0, G 32 14), (0, G 36 v2)] G Q
  refine sg_icmp_le (off := 23) (tgt := 117) (by decide +kernel) (by decide) ⟨fun q5 => ?_, fun q5 => ?_⟩
  · exact (h.2.1 q5)
  · refine sg_blk [(1, 0, 0, 0, 0), (1, 0, 0, 0, 0), (65, 36, 1, 21, 5), (3, 0, 0, 2, 0), (17, 8, 0, 0, 0), (16, 0, 1, 92, 14), (1, 0, 0, 0, 0), (3, 0, 0, 1, 0), (16, 0, 1, 95, 15), (1, 0, 0, 0, 0), (3, 0, 0, 2, 0), (16, 0, 1, 98, 16)] (by decide +kernel) ?_
    refine And.intro (Nat.le_of_ble_eq_true rfl) (And.intro (Nat.le_of_ble_eq_true rfl) (And.intro (ce_32 hN) (And.intro rr_32_5 (And.intro rfl (And.intro (ce_36 hN) (And.intro (h.2.2 q5).1 (And.intro (ce_32 hN) (And.intro (Nat.le_of_ble_eq_true rfl) (And.intro rfl (And.intro (ce_32 hN) (And.intro (Nat.le_of_ble_eq_true rfl) (And.intro rfl (And.intro (ce_32 hN) (?_))))))))))))))
    show sg_Wp 0 N (d + 1) m_D_stand 117 [(0, 2, 32), (1, 0, v1), (2, 0, v2)] [] (sg_up (sg_up (sg_up G 32 14 (G 36 v2)) 32 15 v1) 32 16 v2) Q
    exact (h.2.2 q5).2
set_option maxRecDepth 100000 in
theorem g_D_stand_32_117 {d N : Nat} (hN : 44 ≤ N) {v1 v2 : Int} {G : SgM} {Q : Int → SgM → Prop} (h : sg_Wp 0 N (d + 1) m_D_stand 2 [(0, 2, 32), (1, 0, v1), (2, 0, sg_iadd v2 1)] [] G Q) : sg_Wp 0 N (d + 1) m_D_stand 117 [(0, 2, 32), (1, 0, v1), (2, 0, v2)] [] G Q := by
  refine sg_blk [(31, 1, 0, 2, 0)] (by decide +kernel) ?_
  refine And.intro rfl (?_)
  show sg_Wp 0 N (d + 1) m_D_stand 120 [(0, 2, 32), (1, 0, v1), (2, 0, sg_iadd v2 1)] [] G Q
  refine sg_goto (off := -118) (tgt := 2) (by decide +kernel) (by decide) ?_
  exact h
set_option maxRecDepth 100000 in
theorem g_D_spreadColds_32_0 {d N : Nat} (hN : 44 ≤ N) {v1 : Int} {G : SgM} {Q : Int → SgM → Prop} (h : sg_Wp 0 N (d + 1) m_D_spreadColds 4 [(0, 2, 32), (1, 0, v1), (2, 0, 0), (3, 0, 0)] [] G Q) : sg_Wp 0 N (d + 1) m_D_spreadColds 0 [(0, 2, 32), (1, 0, v1)] [] G Q := by
  refine sg_blk [(7, 0, 0, 0, 0), (25, 0, 0, 2, 0), (7, 0, 0, 0, 0), (25, 0, 0, 3, 0)] (by decide +kernel) ?_
  refine And.intro rfl (And.intro rfl (And.intro rfl (And.intro rfl (?_))))
  show sg_Wp 0 N (d + 1) m_D_spreadColds 4 [(0, 2, 32), (1, 0, v1), (2, 0, 0), (3, 0, 0)] [] G Q
  exact h
set_option maxRecDepth 100000 in
theorem g_D_spreadColds_32_4 {d N : Nat} (hN : 44 ≤ N) {v1 v2 v3 : Int} {G : SgM} {Q : Int → SgM → Prop} (h : ((G 5 4) ≤ v3 → (sg_Wp 0 N (d + 1) m_D_spreadColds 44 [(0, 2, 32), (1, 0, v1), (2, 0, v2), (3, 0, 0)] [] G Q)) ∧ (¬ ((G 5 4) ≤ v3) → ((0 ≤ v1 ∧ v1 < 24) ∧ (((sg_iand (sg_ishr (G 41 v1) v3) 1 ≠ 0) → (sg_Wp 0 N d m_D_othersInCellOf 0 [(0, 2, 32), (1, 0, v3)] [] G (fun r1 G1 => sg_Wp 0 N (d + 1) m_D_spreadColds 4 [(0, 2, 32), (1, 0, v1), (2, 0, sg_ior v2 r1), (3, 0, sg_iadd v3 1)] [] G1 Q))) ∧ (¬ (sg_iand (sg_ishr (G 41 v1) v3) 1 ≠ 0) → (sg_Wp 0 N (d + 1) m_D_spreadColds 4 [(0, 2, 32), (1, 0, v1), (2, 0, v2), (3, 0, sg_iadd v3 1)] [] G Q)))))) : sg_Wp 0 N (d + 1) m_D_spreadColds 4 [(0, 2, 32), (1, 0, v1), (2, 0, v2), (3, 0, v3)] [] G Q := by
  refine sg_blk [(3, 0, 0, 3, 0), (1, 0, 0, 0, 0), (65, 5, 1, 42, 0), (15, 0, 8, 69, 4)] (by decide +kernel) ?_
  refine And.intro rfl (And.intro (Nat.le_of_ble_eq_true rfl) (And.intro (ce_32 hN) (And.intro rr_32_0 (And.intro (ce_5 hN) (?_)))))
  show sg_Wp 0 N (d + 1) m_D_spreadColds 12 [(0, 2, 32), (1, 0, v1), (2, 0, v2), (3, 0, v3)] [(0, G 5 4), (0, v3)] G Q
  refine sg_icmp_ge (off := 30) (tgt := 42) (by decide +kernel) (by decide) ⟨fun q2 => ?_, fun q2 => ?_⟩
  · refine sg_blk [(7, 0, 0, 0, 0), (25, 0, 0, 3, 0)] (by decide +kernel) ?_
    refine And.intro rfl (And.intro rfl (?_))
    show sg_Wp 0 N (d + 1) m_D_spreadColds 44 [(0, 2, 32), (1, 0, v1), (2, 0, v2), (3, 0, 0)] [] G Q
    exact (h.1 q2)
  · refine sg_blk [(1, 0, 0, 0, 0), (65, 41, 1, 36, 10), (3, 0, 0, 1, 0), (17, 24, 0, 0, 0), (3, 0, 0, 3, 0)] (by decide +kernel) ?_
    refine And.intro (Nat.le_of_ble_eq_true rfl) (And.intro (ce_32 hN) (And.intro rr_32_10 (And.intro rfl (And.intro (ce_41 hN) (And.intro (h.2 q2).1 (And.intro rfl (?_)))))))
    show sg_Wp 0 N (d + 1) m_D_spreadColds 22 [(0, 2, 32), (1, 0, v1), (2, 0, v2), (3, 0, v3)] [(0, v3), (0, G 41 v1)] G Q
    refine sg_callN (k := d) (y' := m_G_hasBit) (av := [(0, G 41 v1), (0, v3)]) (rest := []) (idx := 114) (by decide +kernel) cs_G_hasBit (List.mem_of_getElem? (i := 4) rfl) rfl (Nat.le_of_ble_eq_true rfl) (Nat.lt_succ_self d) (Nat.le_of_ble_eq_true rfl) rfl ?_
    show sg_Wp 0 N d m_G_hasBit 0 [(0, 0, G 41 v1), (1, 0, v3)] [] G _
    refine s_G_hasBit ?_
    show sg_Wp 0 N (d + 1) m_D_spreadColds 25 [(0, 2, 32), (1, 0, v1), (2, 0, v2), (3, 0, v3)] [(0, sg_bo (sg_iand (sg_ishr (G 41 v1) v3) 1 ≠ 0))] G Q
    refine sg_bif_eq (off := 11) (tgt := 36) (by decide +kernel) (by decide) ⟨fun q1 => ?_, fun q1 => ?_⟩
    · refine sg_blk [(3, 0, 0, 2, 0), (1, 0, 0, 0, 0), (3, 0, 0, 3, 0)] (by decide +kernel) ?_
      refine And.intro rfl (And.intro (Nat.le_of_ble_eq_true rfl) (And.intro rfl (?_)))
      show sg_Wp 0 N (d + 1) m_D_spreadColds 31 [(0, 2, 32), (1, 0, v1), (2, 0, v2), (3, 0, v3)] [(0, v3), (2, 32), (0, v2)] G Q
      refine sg_callV (k := d) (y' := m_D_othersInCellOf) (av := [(0, v3)]) (rest := [(0, v2)]) (b := 32) (by decide +kernel) cv_D_othersInCellOf ml_1_139 (ce_32 hN) rfl rfl (Nat.le_of_ble_eq_true rfl) (Nat.lt_succ_self d) (Nat.le_of_ble_eq_true rfl) rfl ?_
      show sg_Wp 0 N d m_D_othersInCellOf 0 [(0, 2, 32), (1, 0, v3)] [] G _
      refine sg_Wp.mono (((h.2 q2).2.1 q1)) (fun r1 G1 hhr1 => ?_)
      show sg_Wp 0 N (d + 1) m_D_spreadColds 34 [(0, 2, 32), (1, 0, v1), (2, 0, v2), (3, 0, v3)] [(0, r1), (0, v2)] G1 Q
      refine sg_blk [(39, 0, 0, 0, 0), (25, 0, 0, 2, 0), (31, 1, 0, 3, 0)] (by decide +kernel) ?_
      refine And.intro rfl (And.intro rfl (?_))
      show sg_Wp 0 N (d + 1) m_D_spreadColds 39 [(0, 2, 32), (1, 0, v1), (2, 0, sg_ior v2 r1), (3, 0, sg_iadd v3 1)] [] G1 Q
      refine sg_goto (off := -35) (tgt := 4) (by decide +kernel) (by decide) ?_
      exact hhr1
    · refine sg_blk [(31, 1, 0, 3, 0)] (by decide +kernel) ?_
      refine And.intro rfl (?_)
      show sg_Wp 0 N (d + 1) m_D_spreadColds 39 [(0, 2, 32), (1, 0, v1), (2, 0, v2), (3, 0, sg_iadd v3 1)] [] G Q
      refine sg_goto (off := -35) (tgt := 4) (by decide +kernel) (by decide) ?_
      exact ((h.2 q2).2.2 q1)
set_option maxRecDepth 100000 in
theorem g_D_spreadColds_32_44 {d N : Nat} (hN : 44 ≤ N) {v1 v2 v3 : Int} {G : SgM} {Q : Int → SgM → Prop} (h : ((G 5 4) ≤ v3 → (Q 0 G)) ∧ (¬ ((G 5 4) ≤ v3) → (((sg_iand (sg_ishr v2 v3) 1 ≠ 0) → ((0 ≤ v3 ∧ v3 < 6) ∧ (((G 35 v3) ≤ 1 → ((0 ≤ v3 ∧ v3 < 6) ∧ (0 ≤ (sg_iadd (sg_imul v1 6) v3) ∧ (sg_iadd (sg_imul v1 6) v3) < 144) ∧ (sg_Wp 0 N (d + 1) m_D_spreadColds 44 [(0, 2, 32), (1, 0, v1), (2, 0, v2), (3, 0, sg_iadd v3 1)] [] (sg_up G 38 (sg_iadd (sg_imul v1 6) v3) (G 35 v3)) Q))) ∧ (¬ ((G 35 v3) ≤ 1) → ((0 ≤ v3 ∧ v3 < 6) ∧ (0 ≤ v3 ∧ v3 < 6) ∧ (0 ≤ v3 ∧ v3 < 6) ∧ (0 ≤ (sg_iadd (sg_imul v1 6) v3) ∧ (sg_iadd (sg_imul v1 6) v3) < 144) ∧ (sg_Wp 0 N (d + 1) m_D_spreadColds 44 [(0, 2, 32), (1, 0, v1), (2, 0, v2), (3, 0, sg_iadd v3 1)] [] (sg_up (sg_up G 35 v3 (sg_isub (G 35 v3) 1)) 38 (sg_iadd (sg_imul v1 6) v3) ((sg_up G 35 v3 (sg_isub (G 35 v3) 1)) 35 v3)) Q)))))) ∧ (¬ (sg_iand (sg_ishr v2 v3) 1 ≠ 0) → ((0 ≤ v3 ∧ v3 < 6) ∧ (0 ≤ (sg_iadd (sg_imul v1 6) v3) ∧ (sg_iadd (sg_imul v1 6) v3) < 144) ∧ (sg_Wp 0 N (d + 1) m_D_spreadColds 44 [(0, 2, 32), (1, 0, v1), (2, 0, v2), (3, 0, sg_iadd v3 1)] [] (sg_up G 38 (sg_iadd (sg_imul v1 6) v3) (G 35 v3)) Q)))))) : sg_Wp 0 N (d + 1) m_D_spreadColds 44 [(0, 2, 32), (1, 0, v1), (2, 0, v2), (3, 0, v3)] [] G Q := by
  refine sg_blk [(3, 0, 0, 3, 0), (1, 0, 0, 0, 0), (65, 5, 1, 42, 0), (15, 0, 8, 69, 4)] (by decide +kernel) ?_
  refine And.intro rfl (And.intro (Nat.le_of_ble_eq_true rfl) (And.intro (ce_32 hN) (And.intro rr_32_0 (And.intro (ce_5 hN) (?_)))))
  show sg_Wp 0 N (d + 1) m_D_spreadColds 52 [(0, 2, 32), (1, 0, v1), (2, 0, v2), (3, 0, v3)] [(0, G 5 4), (0, v3)] G Q
  refine sg_icmp_ge (off := 54) (tgt := 106) (by decide +kernel) (by decide) ⟨fun q5 => ?_, fun q5 => ?_⟩
  · exact sg_vret (by decide +kernel) rfl ((h.1 q5))
  · refine sg_blk [(3, 0, 0, 2, 0), (3, 0, 0, 3, 0)] (by decide +kernel) ?_
    refine And.intro rfl (And.intro rfl (?_))
    show sg_Wp 0 N (d + 1) m_D_spreadColds 57 [(0, 2, 32), (1, 0, v1), (2, 0, v2), (3, 0, v3)] [(0, v3), (0, v2)] G Q
    refine sg_callN (k := d) (y' := m_G_hasBit) (av := [(0, v2), (0, v3)]) (rest := []) (idx := 114) (by decide +kernel) cs_G_hasBit (List.mem_of_getElem? (i := 4) rfl) rfl (Nat.le_of_ble_eq_true rfl) (Nat.lt_succ_self d) (Nat.le_of_ble_eq_true rfl) rfl ?_
    show sg_Wp 0 N d m_G_hasBit 0 [(0, 0, v2), (1, 0, v3)] [] G _
    refine s_G_hasBit ?_
    show sg_Wp 0 N (d + 1) m_D_spreadColds 60 [(0, 2, 32), (1, 0, v1), (2, 0, v2), (3, 0, v3)] [(0, sg_bo (sg_iand (sg_ishr v2 v3) 1 ≠ 0))] G Q
    refine sg_bif_eq (off := 23) (tgt := 83) (by decide +kernel) (by decide) ⟨fun q4 => ?_, fun q4 => ?_⟩
    · refine sg_blk [(1, 0, 0, 0, 0), (65, 35, 1, 18, 4), (3, 0, 0, 3, 0), (17, 6, 0, 0, 0), (7, 1, 0, 0, 0)] (by decide +kernel) ?_
      refine And.intro (Nat.le_of_ble_eq_true rfl) (And.intro (ce_32 hN) (And.intro rr_32_4 (And.intro rfl (And.intro (ce_35 hN) (And.intro ((h.2 q5).1 q4).1 (And.intro rfl (?_)))))))
      show sg_Wp 0 N (d + 1) m_D_spreadColds 70 [(0, 2, 32), (1, 0, v1), (2, 0, v2), (3, 0, v3)] [(0, 1), (0, G 35 v3)] G Q
      refine sg_icmp_le (off := 13) (tgt := 83) (by decide +kernel) (by decide) ⟨fun q3 => ?_, fun q3 => ?_⟩
      · refine sg_blk [(1, 0, 0, 0, 0), (65, 38, 1, 27, 7), (3, 0, 0, 1, 0), (8, 6, 0, 0, 0), (34, 0, 0, 0, 0), (3, 0, 0, 3, 0), (32, 0, 0, 0, 0), (1, 0, 0, 0, 0), (65, 35, 1, 18, 4), (3, 0, 0, 3, 0), (17, 6, 0, 0, 0), (18, 144, 0, 0, 0), (31, 1, 0, 3, 0)] (by decide +kernel) ?_
        refine And.intro (Nat.le_of_ble_eq_true rfl) (And.intro (ce_32 hN) (And.intro rr_32_7 (And.intro rfl (And.intro rfl (And.intro rfl (And.intro rfl (And.intro (Nat.le_of_ble_eq_true rfl) (And.intro (ce_32 hN) (And.intro rr_32_4 (And.intro rfl (And.intro (ce_35 hN) (And.intro (((h.2 q5).1 q4).2.1 q3).1 (And.intro (ce_38 hN) (And.intro (((h.2 q5).1 q4).2.1 q3).2.1 (And.intro rfl (?_))))))))))))))))
        show sg_Wp 0 N (d + 1) m_D_spreadColds 103 [(0, 2, 32), (1, 0, v1), (2, 0, v2), (3, 0, sg_iadd v3 1)] [] (sg_up G 38 (sg_iadd (sg_imul v1 6) v3) (G 35 v3)) Q
        refine sg_goto (off := -59) (tgt := 44) (by decide +kernel) (by decide) ?_
        exact (((h.2 q5).1 q4).2.1 q3).2.2
      · refine sg_blk [(1, 0, 0, 0, 0), (65, 35, 1, 18, 4), (3, 0, 0, 3, 0), (58, 0, 0, 0, 0), (17, 6, 0, 0, 0), (7, 1, 0, 0, 0), (33, 0, 0, 0, 0), (18, 6, 0, 0, 0), (1, 0, 0, 0, 0), (65, 38, 1, 27, 7), (3, 0, 0, 1, 0), (8, 6, 0, 0, 0), (34, 0, 0, 0, 0), (3, 0, 0, 3, 0), (32, 0, 0, 0, 0), (1, 0, 0, 0, 0), (65, 35, 1, 18, 4), (3, 0, 0, 3, 0), (17, 6, 0, 0, 0), (18, 144, 0, 0, 0), (31, 1, 0, 3, 0)] (by decide +kernel) ?_
        refine And.intro (Nat.le_of_ble_eq_true rfl) (And.intro (ce_32 hN) (And.intro rr_32_4 (And.intro rfl (And.intro (And.intro (Nat.ne_of_beq_eq_false rfl) (Nat.ne_of_beq_eq_false rfl)) (And.intro (ce_35 hN) (And.intro (((h.2 q5).1 q4).2.2 q3).1 (And.intro rfl (And.intro (ce_35 hN) (And.intro (((h.2 q5).1 q4).2.2 q3).2.1 (And.intro (Nat.le_of_ble_eq_true rfl) (And.intro (ce_32 hN) (And.intro rr_32_7 (And.intro rfl (And.intro rfl (And.intro rfl (And.intro rfl (And.intro (Nat.le_of_ble_eq_true rfl) (And.intro (ce_32 hN) (And.intro rr_32_4 (And.intro rfl (And.intro (ce_35 hN) (And.intro (((h.2 q5).1 q4).2.2 q3).2.2.1 (And.intro (ce_38 hN) (And.intro (((h.2 q5).1 q4).2.2 q3).2.2.2.1 (And.intro rfl (?_))))))))))))))))))))))))))
        show sg_Wp 0 N (d + 1) m_D_spreadColds 103 [(0, 2, 32), (1, 0, v1), (2, 0, v2), (3, 0, sg_iadd v3 1)] [] (sg_up (sg_up G 35 v3 (sg_isub (G 35 v3) 1)) 38 (sg_iadd (sg_imul v1 6) v3) ((sg_up G 35 v3 (sg_isub (G 35 v3) 1)) 35 v3)) Q
        refine sg_goto (off := -59) (tgt := 44) (by decide +kernel) (by decide) ?_
        exact (((h.2 q5).1 q4).2.2 q3).2.2.2.2
    · refine sg_blk [(1, 0, 0, 0, 0), (65, 38, 1, 27, 7), (3, 0, 0, 1, 0), (8, 6, 0, 0, 0), (34, 0, 0, 0, 0), (3, 0, 0, 3, 0), (32, 0, 0, 0, 0), (1, 0, 0, 0, 0), (65, 35, 1, 18, 4), (3, 0, 0, 3, 0), (17, 6, 0, 0, 0), (18, 144, 0, 0, 0), (31, 1, 0, 3, 0)] (by decide +kernel) ?_
      refine And.intro (Nat.le_of_ble_eq_true rfl) (And.intro (ce_32 hN) (And.intro rr_32_7 (And.intro rfl (And.intro rfl (And.intro rfl (And.intro rfl (And.intro (Nat.le_of_ble_eq_true rfl) (And.intro (ce_32 hN) (And.intro rr_32_4 (And.intro rfl (And.intro (ce_35 hN) (And.intro ((h.2 q5).2 q4).1 (And.intro (ce_38 hN) (And.intro ((h.2 q5).2 q4).2.1 (And.intro rfl (?_))))))))))))))))
      show sg_Wp 0 N (d + 1) m_D_spreadColds 103 [(0, 2, 32), (1, 0, v1), (2, 0, v2), (3, 0, sg_iadd v3 1)] [] (sg_up G 38 (sg_iadd (sg_imul v1 6) v3) (G 35 v3)) Q
      refine sg_goto (off := -59) (tgt := 44) (by decide +kernel) (by decide) ?_
      exact ((h.2 q5).2 q4).2.2
set_option maxRecDepth 100000 in
theorem g_D_othersInCellOf_32_0 {d N : Nat} (hN : 44 ≤ N) {v1 : Int} {G : SgM} {Q : Int → SgM → Prop} (h : sg_Wp 0 N d m_D_othersInCellOf 4 [(0, 2, 32), (1, 0, v1), (2, 0, 0), (3, 0, 0)] [] G Q) : sg_Wp 0 N d m_D_othersInCellOf 0 [(0, 2, 32), (1, 0, v1)] [] G Q := by
  refine sg_blk [(7, 0, 0, 0, 0), (25, 0, 0, 2, 0), (7, 0, 0, 0, 0), (25, 0, 0, 3, 0)] (by decide +kernel) ?_
  refine And.intro rfl (And.intro rfl (And.intro rfl (And.intro rfl (?_))))
  show sg_Wp 0 N d m_D_othersInCellOf 4 [(0, 2, 32), (1, 0, v1), (2, 0, 0), (3, 0, 0)] [] G Q
  exact h
set_option maxRecDepth 100000 in
theorem g_D_othersInCellOf_32_4 {d N : Nat} (hN : 44 ≤ N) {v1 v2 v3 : Int} {G : SgM} {Q : Int → SgM → Prop} (h : ((G 5 4) ≤ v3 → (Q v2 G)) ∧ (¬ ((G 5 4) ≤ v3) → ((v3 = v1 → (sg_Wp 0 N d m_D_othersInCellOf 4 [(0, 2, 32), (1, 0, v1), (2, 0, v2), (3, 0, sg_iadd v3 1)] [] G Q)) ∧ (¬ (v3 = v1) → ((0 ≤ v3 ∧ v3 < 6) ∧ (0 ≤ v1 ∧ v1 < 6) ∧ (((G 33 v3) ≠ (G 33 v1) → (sg_Wp 0 N d m_D_othersInCellOf 4 [(0, 2, 32), (1, 0, v1), (2, 0, v2), (3, 0, sg_iadd v3 1)] [] G Q)) ∧ (¬ ((G 33 v3) ≠ (G 33 v1)) → (sg_Wp 0 N d m_D_othersInCellOf 4 [(0, 2, 32), (1, 0, v1), (2, 0, sg_ior v2 (sg_ishl 1 v3)), (3, 0, sg_iadd v3 1)] [] G Q)))))))) : sg_Wp 0 N d m_D_othersInCellOf 4 [(0, 2, 32), (1, 0, v1), (2, 0, v2), (3, 0, v3)] [] G Q := by
  refine sg_blk [(3, 0, 0, 3, 0), (1, 0, 0, 0, 0), (65, 5, 1, 42, 0), (15, 0, 8, 69, 4)] (by decide +kernel) ?_
  refine And.intro rfl (And.intro (Nat.le_of_ble_eq_true rfl) (And.intro (ce_32 hN) (And.intro rr_32_0 (And.intro (ce_5 hN) (?_)))))
  show sg_Wp 0 N d m_D_othersInCellOf 12 [(0, 2, 32), (1, 0, v1), (2, 0, v2), (3, 0, v3)] [(0, G 5 4), (0, v3)] G Q
  refine sg_icmp_ge (off := 35) (tgt := 47) (by decide +kernel) (by decide) ⟨fun q3 => ?_, fun q3 => ?_⟩
  · refine sg_blk [(3, 0, 0, 2, 0)] (by decide +kernel) ?_
    refine And.intro rfl (?_)
    show sg_Wp 0 N d m_D_othersInCellOf 48 [(0, 2, 32), (1, 0, v1), (2, 0, v2), (3, 0, v3)] [(0, v2)] G Q
    exact sg_ret (by decide +kernel) rfl (Or.inl rfl) ((h.1 q3))
  · refine sg_blk [(3, 0, 0, 3, 0), (3, 0, 0, 1, 0)] (by decide +kernel) ?_
    refine And.intro rfl (And.intro rfl (?_))
    show sg_Wp 0 N d m_D_othersInCellOf 17 [(0, 2, 32), (1, 0, v1), (2, 0, v2), (3, 0, v3)] [(0, v1), (0, v3)] G Q
    refine sg_icmp_eq (off := 24) (tgt := 41) (by decide +kernel) (by decide) ⟨fun q2 => ?_, fun q2 => ?_⟩
    · refine sg_blk [(31, 1, 0, 3, 0)] (by decide +kernel) ?_
      refine And.intro rfl (?_)
      show sg_Wp 0 N d m_D_othersInCellOf 44 [(0, 2, 32), (1, 0, v1), (2, 0, v2), (3, 0, sg_iadd v3 1)] [] G Q
      refine sg_goto (off := -40) (tgt := 4) (by decide +kernel) (by decide) ?_
      exact ((h.2 q3).1 q2)
    · refine sg_blk [(1, 0, 0, 0, 0), (65, 33, 1, 9, 2), (3, 0, 0, 3, 0), (17, 6, 0, 0, 0), (1, 0, 0, 0, 0), (65, 33, 1, 9, 2), (3, 0, 0, 1, 0), (17, 6, 0, 0, 0)] (by decide +kernel) ?_
      refine And.intro (Nat.le_of_ble_eq_true rfl) (And.intro (ce_32 hN) (And.intro rr_32_2 (And.intro rfl (And.intro (ce_33 hN) (And.intro ((h.2 q3).2 q2).1 (And.intro (Nat.le_of_ble_eq_true rfl) (And.intro (ce_32 hN) (And.intro rr_32_2 (And.intro rfl (And.intro (ce_33 hN) (And.intro ((h.2 q3).2 q2).2.1 (?_))))))))))))
      show sg_Wp 0 N d m_D_othersInCellOf 32 [(0, 2, 32), (1, 0, v1), (2, 0, v2), (3, 0, v3)] [(0, G 33 v1), (0, G 33 v3)] G Q
      refine sg_icmp_ne (off := 9) (tgt := 41) (by decide +kernel) (by decide) ⟨fun q1 => ?_, fun q1 => ?_⟩
      · refine sg_blk [(31, 1, 0, 3, 0)] (by decide +kernel) ?_
        refine And.intro rfl (?_)
        show sg_Wp 0 N d m_D_othersInCellOf 44 [(0, 2, 32), (1, 0, v1), (2, 0, v2), (3, 0, sg_iadd v3 1)] [] G Q
        refine sg_goto (off := -40) (tgt := 4) (by decide +kernel) (by decide) ?_
        exact (((h.2 q3).2 q2).2.2.1 q1)
      · refine sg_blk [(3, 0, 0, 2, 0), (7, 1, 0, 0, 0), (3, 0, 0, 3, 0), (41, 0, 0, 0, 0), (39, 0, 0, 0, 0), (25, 0, 0, 2, 0), (31, 1, 0, 3, 0)] (by decide +kernel) ?_
        refine And.intro rfl (And.intro rfl (And.intro rfl (And.intro rfl (And.intro rfl (?_)))))
        show sg_Wp 0 N d m_D_othersInCellOf 44 [(0, 2, 32), (1, 0, v1), (2, 0, sg_ior v2 (sg_ishl 1 v3)), (3, 0, sg_iadd v3 1)] [] G Q
        refine sg_goto (off := -40) (tgt := 4) (by decide +kernel) (by decide) ?_
        exact (((h.2 q3).2 q2).2.2.2 q1)
set_option maxRecDepth 100000 in
theorem g_D_changerOf_21_0 {d N : Nat} (hN : 44 ≤ N) {v1 v2 : Int} {G : SgM} {Q : Int → SgM → Prop} (h : sg_Wp 0 N (d + 1) m_D_changerOf 2 [(0, 2, 21), (1, 0, v1), (2, 0, v2), (3, 0, 0)] [] G Q) : sg_Wp 0 N (d + 1) m_D_changerOf 0 [(0, 2, 21), (1, 0, v1), (2, 0, v2)] [] G Q := by
  refine sg_blk [(7, 0, 0, 0, 0), (25, 0, 0, 3, 0)] (by decide +kernel) ?_
  refine And.intro rfl (And.intro rfl (?_))
  show sg_Wp 0 N (d + 1) m_D_changerOf 2 [(0, 2, 21), (1, 0, v1), (2, 0, v2), (3, 0, 0)] [] G Q
  exact h
set_option maxRecDepth 100000 in
theorem g_D_changerOf_21_2 {d N : Nat} (hN : 44 ≤ N) {v1 v2 v3 : Int} {G : SgM} {Q : Int → SgM → Prop} (h : ((G 5 4) ≤ v3 → (Q ((-1)) G)) ∧ (¬ ((G 5 4) ≤ v3) → ((0 ≤ (sg_iadd (sg_imul v1 6) v3) ∧ (sg_iadd (sg_imul v1 6) v3) < 144) ∧ (((sg_iand (sg_ishr (G 28 (sg_iadd (sg_imul v1 6) v3)) v2) 1 ≠ 0) → (Q v3 G)) ∧ (¬ (sg_iand (sg_ishr (G 28 (sg_iadd (sg_imul v1 6) v3)) v2) 1 ≠ 0) → (sg_Wp 0 N (d + 1) m_D_changerOf 2 [(0, 2, 21), (1, 0, v1), (2, 0, v2), (3, 0, sg_iadd v3 1)] [] G Q)))))) : sg_Wp 0 N (d + 1) m_D_changerOf 2 [(0, 2, 21), (1, 0, v1), (2, 0, v2), (3, 0, v3)] [] G Q := by
  refine sg_blk [(3, 0, 0, 3, 0), (1, 0, 0, 0, 0), (65, 5, 1, 42, 0), (15, 0, 8, 69, 4)] (by decide +kernel) ?_
  refine And.intro rfl (And.intro (Nat.le_of_ble_eq_true rfl) (And.intro (ce_21 hN) (And.intro rr_21_0 (And.intro (ce_5 hN) (?_)))))
  show sg_Wp 0 N (d + 1) m_D_changerOf 10 [(0, 2, 21), (1, 0, v1), (2, 0, v2), (3, 0, v3)] [(0, G 5 4), (0, v3)] G Q
  refine sg_icmp_ge (off := 29) (tgt := 39) (by decide +kernel) (by decide) ⟨fun q2 => ?_, fun q2 => ?_⟩
  · refine sg_blk [(7, (-1), 0, 0, 0)] (by decide +kernel) ?_
    refine And.intro rfl (?_)
    show sg_Wp 0 N (d + 1) m_D_changerOf 40 [(0, 2, 21), (1, 0, v1), (2, 0, v2), (3, 0, v3)] [(0, (-1))] G Q
    exact sg_ret (by decide +kernel) rfl (Or.inl rfl) ((h.1 q2))
  · refine sg_blk [(1, 0, 0, 0, 0), (65, 28, 1, 30, 8), (3, 0, 0, 1, 0), (8, 6, 0, 0, 0), (34, 0, 0, 0, 0), (3, 0, 0, 3, 0), (32, 0, 0, 0, 0), (17, 144, 0, 0, 0), (3, 0, 0, 2, 0)] (by decide +kernel) ?_
    refine And.intro (Nat.le_of_ble_eq_true rfl) (And.intro (ce_21 hN) (And.intro rr_21_8 (And.intro rfl (And.intro rfl (And.intro rfl (And.intro rfl (And.intro (ce_28 hN) (And.intro (h.2 q2).1 (And.intro rfl (?_))))))))))
    show sg_Wp 0 N (d + 1) m_D_changerOf 25 [(0, 2, 21), (1, 0, v1), (2, 0, v2), (3, 0, v3)] [(0, v2), (0, G 28 (sg_iadd (sg_imul v1 6) v3))] G Q
    refine sg_callN (k := d) (y' := m_G_hasBit) (av := [(0, G 28 (sg_iadd (sg_imul v1 6) v3)), (0, v2)]) (rest := []) (idx := 114) (by decide +kernel) cs_G_hasBit (List.mem_of_getElem? (i := 4) rfl) rfl (Nat.le_of_ble_eq_true rfl) (Nat.lt_succ_self d) (Nat.le_of_ble_eq_true rfl) rfl ?_
    show sg_Wp 0 N d m_G_hasBit 0 [(0, 0, G 28 (sg_iadd (sg_imul v1 6) v3)), (1, 0, v2)] [] G _
    refine s_G_hasBit ?_
    show sg_Wp 0 N (d + 1) m_D_changerOf 28 [(0, 2, 21), (1, 0, v1), (2, 0, v2), (3, 0, v3)] [(0, sg_bo (sg_iand (sg_ishr (G 28 (sg_iadd (sg_imul v1 6) v3)) v2) 1 ≠ 0))] G Q
    refine sg_bif_eq (off := 5) (tgt := 33) (by decide +kernel) (by decide) ⟨fun q1 => ?_, fun q1 => ?_⟩
    · refine sg_blk [(3, 0, 0, 3, 0)] (by decide +kernel) ?_
      refine And.intro rfl (?_)
      show sg_Wp 0 N (d + 1) m_D_changerOf 32 [(0, 2, 21), (1, 0, v1), (2, 0, v2), (3, 0, v3)] [(0, v3)] G Q
      exact sg_ret (by decide +kernel) rfl (Or.inl rfl) (((h.2 q2).2.1 q1))
    · refine sg_blk [(31, 1, 0, 3, 0)] (by decide +kernel) ?_
      refine And.intro rfl (?_)
      show sg_Wp 0 N (d + 1) m_D_changerOf 36 [(0, 2, 21), (1, 0, v1), (2, 0, v2), (3, 0, sg_iadd v3 1)] [] G Q
      refine sg_goto (off := -34) (tgt := 2) (by decide +kernel) (by decide) ?_
      exact ((h.2 q2).2.2 q1)
set_option maxRecDepth 100000 in
theorem g_D_busiest_21_0 {d N : Nat} (hN : 44 ≤ N) {G : SgM} {Q : Int → SgM → Prop} (h : sg_Wp 0 N (d + 1) m_D_busiest 6 [(0, 2, 21), (1, 0, (-1)), (2, 0, 0), (3, 0, 0)] [] G Q) : sg_Wp 0 N (d + 1) m_D_busiest 0 [(0, 2, 21)] [] G Q := by
  refine sg_blk [(7, (-1), 0, 0, 0), (25, 0, 0, 1, 0), (7, 0, 0, 0, 0), (25, 0, 0, 2, 0), (7, 0, 0, 0, 0), (25, 0, 0, 3, 0)] (by decide +kernel) ?_
  refine And.intro rfl (And.intro rfl (And.intro rfl (And.intro rfl (And.intro rfl (And.intro rfl (?_))))))
  show sg_Wp 0 N (d + 1) m_D_busiest 6 [(0, 2, 21), (1, 0, (-1)), (2, 0, 0), (3, 0, 0)] [] G Q
  exact h
set_option maxRecDepth 100000 in
theorem g_D_busiest_21_6 {d N : Nat} (hN : 44 ≤ N) {v1 v2 v3 : Int} {G : SgM} {Q : Int → SgM → Prop} (h : ((G 5 4) ≤ v3 → (Q v1 G)) ∧ (¬ ((G 5 4) ≤ v3) → (sg_Wp 0 N (d + 1) m_D_busiest 23 [(0, 2, 21), (1, 0, v1), (2, 0, v2), (3, 0, v3), (4, 0, 0), (5, 0, 0)] [] G Q))) : sg_Wp 0 N (d + 1) m_D_busiest 6 [(0, 2, 21), (1, 0, v1), (2, 0, v2), (3, 0, v3)] [] G Q := by
  refine sg_blk [(3, 0, 0, 3, 0), (1, 0, 0, 0, 0), (65, 5, 1, 42, 0), (15, 0, 8, 69, 4)] (by decide +kernel) ?_
  refine And.intro rfl (And.intro (Nat.le_of_ble_eq_true rfl) (And.intro (ce_21 hN) (And.intro rr_21_0 (And.intro (ce_5 hN) (?_)))))
  show sg_Wp 0 N (d + 1) m_D_busiest 14 [(0, 2, 21), (1, 0, v1), (2, 0, v2), (3, 0, v3)] [(0, G 5 4), (0, v3)] G Q
  refine sg_icmp_ge (off := 59) (tgt := 73) (by decide +kernel) (by decide) ⟨fun q1 => ?_, fun q1 => ?_⟩
  · refine sg_blk [(3, 0, 0, 1, 0)] (by decide +kernel) ?_
    refine And.intro rfl (?_)
    show sg_Wp 0 N (d + 1) m_D_busiest 74 [(0, 2, 21), (1, 0, v1), (2, 0, v2), (3, 0, v3)] [(0, v1)] G Q
    exact sg_ret (by decide +kernel) rfl (Or.inl rfl) ((h.1 q1))
  · refine sg_blk [(7, 0, 0, 0, 0), (26, 0, 0, 4, 0), (7, 0, 0, 0, 0), (26, 0, 0, 5, 0)] (by decide +kernel) ?_
    refine And.intro rfl (And.intro rfl (And.intro rfl (And.intro rfl (?_))))
    show sg_Wp 0 N (d + 1) m_D_busiest 23 [(0, 2, 21), (1, 0, v1), (2, 0, v2), (3, 0, v3), (4, 0, 0), (5, 0, 0)] [] G Q
    exact (h.2 q1)
set_option maxRecDepth 100000 in
theorem g_D_busiest_21_23 {d N : Nat} (hN : 44 ≤ N) {v1 v2 v3 v4 v5 : Int} {G : SgM} {Q : Int → SgM → Prop} (h : (24 ≤ v5 → ((v4 ≤ v2 → (sg_Wp 0 N (d + 1) m_D_busiest 6 [(0, 2, 21), (1, 0, v1), (2, 0, v2), (3, 0, sg_iadd v3 1)] [] G Q)) ∧ (¬ (v4 ≤ v2) → (sg_Wp 0 N (d + 1) m_D_busiest 6 [(0, 2, 21), (1, 0, v3), (2, 0, v4), (3, 0, sg_iadd v3 1)] [] G Q)))) ∧ (¬ (24 ≤ v5) → ((0 ≤ (sg_iadd (sg_imul v5 6) v3) ∧ (sg_iadd (sg_imul v5 6) v3) < 144) ∧ (sg_Wp 0 N (d + 1) m_D_busiest 23 [(0, 2, 21), (1, 0, v1), (2, 0, v2), (3, 0, v3), (4, 0, sg_iadd v4 (sg_ibc (G 28 (sg_iadd (sg_imul v5 6) v3)))), (5, 0, sg_iadd v5 1)] [] G Q)))) : sg_Wp 0 N (d + 1) m_D_busiest 23 [(0, 2, 21), (1, 0, v1), (2, 0, v2), (3, 0, v3), (4, 0, v4), (5, 0, v5)] [] G Q := by
  refine sg_blk [(4, 0, 0, 5, 0), (8, 24, 0, 0, 0)] (by decide +kernel) ?_
  refine And.intro rfl (And.intro rfl (And.intro rfl (?_)))
  show sg_Wp 0 N (d + 1) m_D_busiest 27 [(0, 2, 21), (1, 0, v1), (2, 0, v2), (3, 0, v3), (4, 0, v4), (5, 0, v5)] [(0, 24), (0, v5)] G Q
  refine sg_icmp_ge (off := 29) (tgt := 56) (by decide +kernel) (by decide) ⟨fun q3 => ?_, fun q3 => ?_⟩
  · refine sg_blk [(4, 0, 0, 4, 0), (3, 0, 0, 2, 0)] (by decide +kernel) ?_
    refine And.intro rfl (And.intro rfl (?_))
    show sg_Wp 0 N (d + 1) m_D_busiest 59 [(0, 2, 21), (1, 0, v1), (2, 0, v2), (3, 0, v3), (4, 0, v4), (5, 0, v5)] [(0, v2), (0, v4)] G Q
    refine sg_icmp_le (off := 8) (tgt := 67) (by decide +kernel) (by decide) ⟨fun q2 => ?_, fun q2 => ?_⟩
    · refine sg_blk [(31, 1, 0, 3, 0)] (by decide +kernel) ?_
      refine And.intro rfl (?_)
      show sg_Wp 0 N (d + 1) m_D_busiest 70 [(0, 2, 21), (1, 0, v1), (2, 0, v2), (3, 0, sg_iadd v3 1), (4, 0, v4), (5, 0, v5)] [] G Q
      refine sg_goto (off := -64) (tgt := 6) (by decide +kernel) (by decide) ?_
      exact sg_Wp.keepk [0, 1, 2, 3] rfl (((h.1 q3).1 q2))
    · refine sg_blk [(4, 0, 0, 4, 0), (25, 0, 0, 2, 0), (3, 0, 0, 3, 0), (25, 0, 0, 1, 0), (31, 1, 0, 3, 0)] (by decide +kernel) ?_
      refine And.intro rfl (And.intro rfl (And.intro rfl (And.intro rfl (And.intro rfl (?_)))))
      show sg_Wp 0 N (d + 1) m_D_busiest 70 [(0, 2, 21), (1, 0, v3), (2, 0, v4), (3, 0, sg_iadd v3 1), (4, 0, v4), (5, 0, v5)] [] G Q
      refine sg_goto (off := -64) (tgt := 6) (by decide +kernel) (by decide) ?_
      exact sg_Wp.keepk [0, 1, 2, 3] rfl (((h.1 q3).2 q2))
  · refine sg_blk [(4, 0, 0, 4, 0), (1, 0, 0, 0, 0), (65, 28, 1, 30, 8), (4, 0, 0, 5, 0), (8, 6, 0, 0, 0), (34, 0, 0, 0, 0), (3, 0, 0, 3, 0), (32, 0, 0, 0, 0), (17, 144, 0, 0, 0)] (by decide +kernel) ?_
    refine And.intro rfl (And.intro (Nat.le_of_ble_eq_true rfl) (And.intro (ce_21 hN) (And.intro rr_21_8 (And.intro rfl (And.intro rfl (And.intro rfl (And.intro rfl (And.intro (ce_28 hN) (And.intro (h.2 q3).1 (?_))))))))))
    show sg_Wp 0 N (d + 1) m_D_busiest 44 [(0, 2, 21), (1, 0, v1), (2, 0, v2), (3, 0, v3), (4, 0, v4), (5, 0, v5)] [(0, G 28 (sg_iadd (sg_imul v5 6) v3)), (0, v4)] G Q
    refine sg_callS (k := d) (y' := m_I_bitCount) (av := [(0, G 28 (sg_iadd (sg_imul v5 6) v3))]) (rest := [(0, v4)]) (by decide +kernel) cs_I_bitCount ml_1_130 rfl (Nat.le_of_ble_eq_true rfl) (Nat.lt_succ_self d) (Nat.le_of_ble_eq_true rfl) rfl ?_
    show sg_Wp 0 N d m_I_bitCount 0 [(0, 0, G 28 (sg_iadd (sg_imul v5 6) v3))] [] G _
    refine s_I_bitCount ?_
    show sg_Wp 0 N (d + 1) m_D_busiest 47 [(0, 2, 21), (1, 0, v1), (2, 0, v2), (3, 0, v3), (4, 0, v4), (5, 0, v5)] [(0, sg_ibc (G 28 (sg_iadd (sg_imul v5 6) v3))), (0, v4)] G Q
    refine sg_blk [(32, 0, 0, 0, 0), (26, 0, 0, 4, 0), (31, 1, 0, 5, 0)] (by decide +kernel) ?_
    refine And.intro rfl (And.intro rfl (?_))
    show sg_Wp 0 N (d + 1) m_D_busiest 53 [(0, 2, 21), (1, 0, v1), (2, 0, v2), (3, 0, v3), (4, 0, sg_iadd v4 (sg_ibc (G 28 (sg_iadd (sg_imul v5 6) v3)))), (5, 0, sg_iadd v5 1)] [] G Q
    refine sg_goto (off := -30) (tgt := 23) (by decide +kernel) (by decide) ?_
    exact (h.2 q3).2
set_option maxRecDepth 100000 in
theorem g_D_silent_21_0 {d N : Nat} (hN : 44 ≤ N) {G : SgM} {Q : Int → SgM → Prop} (h : sg_Wp 0 N d m_D_silent 14 [(0, 2, 21), (1, 0, sg_isub (sg_ishl 1 (G 5 4)) 1), (2, 0, 0)] [] G Q) : sg_Wp 0 N d m_D_silent 0 [(0, 2, 21)] [] G Q := by
  refine sg_blk [(7, 1, 0, 0, 0), (1, 0, 0, 0, 0), (65, 5, 1, 42, 0), (15, 0, 8, 69, 4), (41, 0, 0, 0, 0), (7, 1, 0, 0, 0), (33, 0, 0, 0, 0), (25, 0, 0, 1, 0), (7, 0, 0, 0, 0), (25, 0, 0, 2, 0)] (by decide +kernel) ?_
  refine And.intro rfl (And.intro (Nat.le_of_ble_eq_true rfl) (And.intro (ce_21 hN) (And.intro rr_21_0 (And.intro (ce_5 hN) (And.intro rfl (And.intro rfl (And.intro rfl (And.intro rfl (?_)))))))))
  show sg_Wp 0 N d m_D_silent 14 [(0, 2, 21), (1, 0, sg_isub (sg_ishl 1 (G 5 4)) 1), (2, 0, 0)] [] G Q
  exact h
set_option maxRecDepth 100000 in
theorem g_D_silent_21_14 {d N : Nat} (hN : 44 ≤ N) {v1 v2 : Int} {G : SgM} {Q : Int → SgM → Prop} (h : (24 ≤ v2 → (Q v1 G)) ∧ (¬ (24 ≤ v2) → ((0 ≤ v2 ∧ v2 < 24) ∧ (sg_Wp 0 N d m_D_silent 14 [(0, 2, 21), (1, 0, sg_iand v1 (sg_ixor (G 30 v2) ((-1)))), (2, 0, sg_iadd v2 1)] [] G Q)))) : sg_Wp 0 N d m_D_silent 14 [(0, 2, 21), (1, 0, v1), (2, 0, v2)] [] G Q := by
  refine sg_blk [(3, 0, 0, 2, 0), (8, 24, 0, 0, 0)] (by decide +kernel) ?_
  refine And.intro rfl (And.intro rfl (And.intro rfl (?_)))
  show sg_Wp 0 N d m_D_silent 17 [(0, 2, 21), (1, 0, v1), (2, 0, v2)] [(0, 24), (0, v2)] G Q
  refine sg_icmp_ge (off := 20) (tgt := 37) (by decide +kernel) (by decide) ⟨fun q1 => ?_, fun q1 => ?_⟩
  · refine sg_blk [(3, 0, 0, 1, 0)] (by decide +kernel) ?_
    refine And.intro rfl (?_)
    show sg_Wp 0 N d m_D_silent 38 [(0, 2, 21), (1, 0, v1), (2, 0, v2)] [(0, v1)] G Q
    exact sg_ret (by decide +kernel) rfl (Or.inl rfl) ((h.1 q1))
  · refine sg_blk [(3, 0, 0, 1, 0), (1, 0, 0, 0, 0), (65, 30, 1, 36, 10), (3, 0, 0, 2, 0), (17, 24, 0, 0, 0), (7, (-1), 0, 0, 0), (40, 0, 0, 0, 0), (38, 0, 0, 0, 0), (25, 0, 0, 1, 0), (31, 1, 0, 2, 0)] (by decide +kernel) ?_
    refine And.intro rfl (And.intro (Nat.le_of_ble_eq_true rfl) (And.intro (ce_21 hN) (And.intro rr_21_10 (And.intro rfl (And.intro (ce_30 hN) (And.intro (h.2 q1).1 (And.intro rfl (And.intro rfl (And.intro rfl (?_))))))))))
    show sg_Wp 0 N d m_D_silent 34 [(0, 2, 21), (1, 0, sg_iand v1 (sg_ixor (G 30 v2) ((-1)))), (2, 0, sg_iadd v2 1)] [] G Q
    refine sg_goto (off := -20) (tgt := 14) (by decide +kernel) (by decide) ?_
    exact (h.2 q1).2
