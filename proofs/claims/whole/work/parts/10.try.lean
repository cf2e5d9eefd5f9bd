theorem g_G_isBelow_0 {d N : Nat} (hN : 44 ≤ N) {v0 v1 : Int} {G : SgM} {Q : Int → SgM → Prop} (h : (v0 < 0 → (Q 0 G)) ∧ (¬ (v0 < 0) → ((v1 ≤ v0 → (Q 0 G)) ∧ (¬ (v1 ≤ v0) → (Q 1 G))))) : sg_Wp 0 N (d + 1) m_G_isBelow 0 [(0, 0, v0), (1, 0, v1)] [] G Q := by
  refine sg_blk [(3, 0, 0, 0, 0)] (by decide +kernel) ?_
  refine And.intro rfl (?_)
  show sg_Wp 0 N (d + 1) m_G_isBelow 1 [(0, 0, v0), (1, 0, v1)] [(0, v0)] G Q
  refine sg_if_lt (off := 12) (tgt := 13) (by decide +kernel) (by decide) ⟨fun q2 => ?_, fun q2 => ?_⟩
  · refine sg_blk [(7, 0, 0, 0, 0)] (by decide +kernel) ?_
    refine And.intro rfl (?_)
    show sg_Wp 0 N (d + 1) m_G_isBelow 14 [(0, 0, v0), (1, 0, v1)] [(0, 0)] G Q
    exact sg_ret (by decide +kernel) rfl (Or.inr ⟨Or.inl rfl, by decide⟩) ((h.1 q2))
  · refine sg_blk [(3, 0, 0, 0, 0), (3, 0, 0, 1, 0)] (by decide +kernel) ?_
    refine And.intro rfl (And.intro rfl (?_))
    show sg_Wp 0 N (d + 1) m_G_isBelow 6 [(0, 0, v0), (1, 0, v1)] [(0, v1), (0, v0)] G Q
    refine sg_icmp_ge (off := 7) (tgt := 13) (by decide +kernel) (by decide) ⟨fun q1 => ?_, fun q1 => ?_⟩
    · refine sg_blk [(7, 0, 0, 0, 0)] (by decide +kernel) ?_
      refine And.intro rfl (?_)
      show sg_Wp 0 N (d + 1) m_G_isBelow 14 [(0, 0, v0), (1, 0, v1)] [(0, 0)] G Q
      exact sg_ret (by decide +kernel) rfl (Or.inr ⟨Or.inl rfl, by decide⟩) (((h.2 q2).1 q1))
    · refine sg_blk [(7, 1, 0, 0, 0)] (by decide +kernel) ?_
      refine And.intro rfl (?_)
      show sg_Wp 0 N (d + 1) m_G_isBelow 10 [(0, 0, v0), (1, 0, v1)] [(0, 1)] G Q
      refine sg_goto (off := 4) (tgt := 14) (by decide +kernel) (by decide) ?_
      exact sg_ret (by decide +kernel) rfl (Or.inr ⟨Or.inl rfl, by decide⟩) (((h.2 q2).2 q1))
theorem g_G_hasBit_0 {d N : Nat} (hN : 44 ≤ N) {v0 v1 : Int} {G : SgM} {Q : Int → SgM → Prop} (h : ((sg_iand (sg_ishr v0 v1) 1) = 0 → (Q 0 G)) ∧ (¬ ((sg_iand (sg_ishr v0 v1) 1) = 0) → (Q 1 G))) : sg_Wp 0 N (d + 1) m_G_hasBit 0 [(0, 0, v0), (1, 0, v1)] [] G Q := by
  refine sg_blk [(3, 0, 0, 0, 0), (3, 0, 0, 1, 0), (42, 0, 0, 0, 0), (7, 1, 0, 0, 0), (38, 0, 0, 0, 0)] (by decide +kernel) ?_
  refine And.intro rfl (And.intro rfl (And.intro rfl (?_)))
  show sg_Wp 0 N (d + 1) m_G_hasBit 5 [(0, 0, v0), (1, 0, v1)] [(0, sg_iand (sg_ishr v0 v1) 1)] G Q
  refine sg_if_eq (off := 7) (tgt := 12) (by decide +kernel) (by decide) ⟨fun q1 => ?_, fun q1 => ?_⟩
  · refine sg_blk [(7, 0, 0, 0, 0)] (by decide +kernel) ?_
    refine And.intro rfl (?_)
    show sg_Wp 0 N (d + 1) m_G_hasBit 13 [(0, 0, v0), (1, 0, v1)] [(0, 0)] G Q
    exact sg_ret (by decide +kernel) rfl (Or.inr ⟨Or.inl rfl, by decide⟩) ((h.1 q1))
  · refine sg_blk [(7, 1, 0, 0, 0)] (by decide +kernel) ?_
    refine And.intro rfl (?_)
    show sg_Wp 0 N (d + 1) m_G_hasBit 9 [(0, 0, v0), (1, 0, v1)] [(0, 1)] G Q
    refine sg_goto (off := 4) (tgt := 13) (by decide +kernel) (by decide) ?_
    exact sg_ret (by decide +kernel) rfl (Or.inr ⟨Or.inl rfl, by decide⟩) ((h.2 q1))
theorem g_D_divides_0 {d N : Nat} (hN : 44 ≤ N) {v0 v1 : Int} {G : SgM} {Q : Int → SgM → Prop} (h : (v0 ≤ 0 → (Q 0 G)) ∧ (¬ (v0 ≤ 0) → ((v0 ≠ 0) ∧ (((sg_irem v1 v0) ≠ 0 → (Q 0 G)) ∧ (¬ ((sg_irem v1 v0) ≠ 0) → (Q 1 G)))))) : sg_Wp 0 N (d + 1) m_D_divides 0 [(0, 0, v0), (1, 0, v1)] [] G Q := by
  refine sg_blk [(3, 0, 0, 0, 0)] (by decide +kernel) ?_
  refine And.intro rfl (?_)
  show sg_Wp 0 N (d + 1) m_D_divides 1 [(0, 0, v0), (1, 0, v1)] [(0, v0)] G Q
  refine sg_if_le (off := 13) (tgt := 14) (by decide +kernel) (by decide) ⟨fun q2 => ?_, fun q2 => ?_⟩
  · refine sg_blk [(7, 0, 0, 0, 0)] (by decide +kernel) ?_
    refine And.intro rfl (?_)
    show sg_Wp 0 N (d + 1) m_D_divides 15 [(0, 0, v0), (1, 0, v1)] [(0, 0)] G Q
    exact sg_ret (by decide +kernel) rfl (Or.inr ⟨Or.inl rfl, by decide⟩) ((h.1 q2))
  · refine sg_blk [(3, 0, 0, 1, 0), (3, 0, 0, 0, 0), (36, 0, 0, 0, 0)] (by decide +kernel) ?_
    refine And.intro rfl (And.intro rfl (And.intro (h.2 q2).1 (?_)))
    show sg_Wp 0 N (d + 1) m_D_divides 7 [(0, 0, v0), (1, 0, v1)] [(0, sg_irem v1 v0)] G Q
    refine sg_if_ne (off := 7) (tgt := 14) (by decide +kernel) (by decide) ⟨fun q1 => ?_, fun q1 => ?_⟩
    · refine sg_blk [(7, 0, 0, 0, 0)] (by decide +kernel) ?_
      refine And.intro rfl (?_)
      show sg_Wp 0 N (d + 1) m_D_divides 15 [(0, 0, v0), (1, 0, v1)] [(0, 0)] G Q
      exact sg_ret (by decide +kernel) rfl (Or.inr ⟨Or.inl rfl, by decide⟩) (((h.2 q2).2.1 q1))
    · refine sg_blk [(7, 1, 0, 0, 0)] (by decide +kernel) ?_
      refine And.intro rfl (?_)
      show sg_Wp 0 N (d + 1) m_D_divides 11 [(0, 0, v0), (1, 0, v1)] [(0, 1)] G Q
      refine sg_goto (off := 4) (tgt := 15) (by decide +kernel) (by decide) ?_
      exact sg_ret (by decide +kernel) rfl (Or.inr ⟨Or.inl rfl, by decide⟩) (((h.2 q2).2.2 q1))
theorem g_D_walk_21_0 {d N : Nat} (hN : 44 ≤ N) {v1 : Int} {G : SgM} {Q : Int → SgM → Prop} (h : sg_Wp 0 N (d + 1) m_D_walk 2 [(0, 2, 21), (1, 0, v1), (2, 0, 0)] [] G Q) : sg_Wp 0 N (d + 1) m_D_walk 0 [(0, 2, 21), (1, 0, v1)] [] G Q := by
  refine sg_blk [(7, 0, 0, 0, 0), (25, 0, 0, 2, 0)] (by decide +kernel) ?_
  refine And.intro rfl (And.intro rfl (?_))
  show sg_Wp 0 N (d + 1) m_D_walk 2 [(0, 2, 21), (1, 0, v1), (2, 0, 0)] [] G Q
  exact h
theorem g_D_walk_21_2 {d N : Nat} (hN : 44 ≤ N) {v1 v2 : Int} {G : SgM} {Q : Int → SgM → Prop} (h : ((G 5 4) ≤ v2 → (Q 0 G)) ∧ (¬ ((G 5 4) ≤ v2) → ((v1 ≤ 0 → ((0 ≤ v2 ∧ v2 < 6) ∧ (0 ≤ (sg_iadd (sg_imul v1 6) v2) ∧ (sg_iadd (sg_imul v1 6) v2) < 144) ∧ (sg_Wp 0 N (d + 1) m_D_walk 2 [(0, 2, 21), (1, 0, v1), (2, 0, sg_iadd v2 1)] [] (sg_up G 26 (sg_iadd (sg_imul v1 6) v2) (G 22 v2)) Q))) ∧ (¬ (v1 ≤ 0) → ((0 ≤ v2 ∧ v2 < 6) ∧ (0 ≤ v2 ∧ v2 < 6) ∧ (sg_Wp 0 N d m_G_isBelow 0 [(0, 0, sg_iadd (G 22 v2) (G 23 v2)), (1, 0, 10)] [] G (fun r1 G1 => (r1 ≠ 0 → ((0 ≤ v2 ∧ v2 < 6) ∧ (0 ≤ v2 ∧ v2 < 6) ∧ (0 ≤ v2 ∧ v2 < 6) ∧ (0 ≤ v2 ∧ v2 < 6) ∧ (0 ≤ (sg_iadd (sg_imul v1 6) v2) ∧ (sg_iadd (sg_imul v1 6) v2) < 144) ∧ (sg_Wp 0 N (d + 1) m_D_walk 2 [(0, 2, 21), (1, 0, v1), (2, 0, sg_iadd v2 1)] [] (sg_up (sg_up G1 22 v2 (sg_iadd (G1 22 v2) (G1 23 v2))) 26 (sg_iadd (sg_imul v1 6) v2) ((sg_up G1 22 v2 (sg_iadd (G1 22 v2) (G1 23 v2))) 22 v2)) Q))) ∧ (¬ (r1 ≠ 0) → ((0 ≤ v2 ∧ v2 < 6) ∧ (0 ≤ v2 ∧ v2 < 6) ∧ (0 ≤ v2 ∧ v2 < 6) ∧ (0 ≤ v2 ∧ v2 < 6) ∧ (0 ≤ v2 ∧ v2 < 6) ∧ (0 ≤ v2 ∧ v2 < 6) ∧ (0 ≤ (sg_iadd (sg_imul v1 6) v2) ∧ (sg_iadd (sg_imul v1 6) v2) < 144) ∧ (sg_Wp 0 N (d + 1) m_D_walk 2 [(0, 2, 21), (1, 0, v1), (2, 0, sg_iadd v2 1)] [] (sg_up (sg_up (sg_up G1 23 v2 (sg_ineg (G1 23 v2))) 22 v2 (sg_iadd (G1 22 v2) ((sg_up G1 23 v2 (sg_ineg (G1 23 v2))) 23 v2))) 26 (sg_iadd (sg_imul v1 6) v2) ((sg_up (sg_up G1 23 v2 (sg_ineg (G1 23 v2))) 22 v2 (sg_iadd (G1 22 v2) ((sg_up G1 23 v2 (sg_ineg (G1 23 v2))) 23 v2))) 22 v2)) Q)))))))))) : sg_Wp 0 N (d + 1) m_D_walk 2 [(0, 2, 21), (1, 0, v1), (2, 0, v2)] [] G Q := by
  refine sg_blk [(3, 0, 0, 2, 0), (1, 0, 0, 0, 0), (65, 5, 1, 42, 0), (15, 0, 8, 69, 4)] (by decide +kernel) ?_
  refine And.intro rfl (And.intro (Nat.le_of_ble_eq_true rfl) (And.intro (ce_21 hN) (And.intro rr_21_0 (And.intro (ce_5 hN) (?_)))))
  show sg_Wp 0 N (d + 1) m_D_walk 10 [(0, 2, 21), (1, 0, v1), (2, 0, v2)] [(0, G 5 4), (0, v2)] G Q
  refine sg_icmp_ge (off := 79) (tgt := 89) (by decide +kernel) (by decide) ⟨fun q3 => ?_, fun q3 => ?_⟩
  · exact sg_vret (by decide +kernel) rfl ((h.1 q3))
  · refine sg_blk [(3, 0, 0, 1, 0)] (by decide +kernel) ?_
    refine And.intro rfl (?_)
    show sg_Wp 0 N (d + 1) m_D_walk 14 [(0, 2, 21), (1, 0, v1), (2, 0, v2)] [(0, v1)] G Q
    refine sg_if_le (off := 52) (tgt := 66) (by decide +kernel) (by decide) ⟨fun q2 => ?_, fun q2 => ?_⟩
    · refine sg_blk [(1, 0, 0, 0, 0), (65, 26, 1, 24, 6), (3, 0, 0, 1, 0), (8, 6, 0, 0, 0), (34, 0, 0, 0, 0), (3, 0, 0, 2, 0), (32, 0, 0, 0, 0), (1, 0, 0, 0, 0), (65, 22, 1, 9, 2), (3, 0, 0, 2, 0), (17, 6, 0, 0, 0), (18, 144, 0, 0, 0), (31, 1, 0, 2, 0)] (by decide +kernel) ?_
      refine And.intro (Nat.le_of_ble_eq_true rfl) (And.intro (ce_21 hN) (And.intro rr_21_6 (And.intro rfl (And.intro rfl (And.intro rfl (And.intro rfl (And.intro (Nat.le_of_ble_eq_true rfl) (And.intro (ce_21 hN) (And.intro rr_21_2 (And.intro rfl (And.intro (ce_22 hN) (And.intro ((h.2 q3).1 q2).1 (And.intro (ce_26 hN) (And.intro ((h.2 q3).1 q2).2.1 (And.intro rfl (?_))))))))))))))))
      show sg_Wp 0 N (d + 1) m_D_walk 86 [(0, 2, 21), (1, 0, v1), (2, 0, sg_iadd v2 1)] [] (sg_up G 26 (sg_iadd (sg_imul v1 6) v2) (G 22 v2)) Q
      refine sg_goto (off := -84) (tgt := 2) (by decide +kernel) (by decide) ?_
      exact ((h.2 q3).1 q2).2.2
    · refine sg_blk [(1, 0, 0, 0, 0), (65, 22, 1, 9, 2), (3, 0, 0, 2, 0), (17, 6, 0, 0, 0), (1, 0, 0, 0, 0), (65, 23, 1, 15, 3), (3, 0, 0, 2, 0), (17, 6, 0, 0, 0), (32, 0, 0, 0, 0), (8, 10, 0, 0, 0)] (by decide +kernel) ?_
      refine And.intro (Nat.le_of_ble_eq_true rfl) (And.intro (ce_21 hN) (And.intro rr_21_2 (And.intro rfl (And.intro (ce_22 hN) (And.intro ((h.2 q3).2 q2).1 (And.intro (Nat.le_of_ble_eq_true rfl) (And.intro (ce_21 hN) (And.intro rr_21_3 (And.intro rfl (And.intro (ce_23 hN) (And.intro ((h.2 q3).2 q2).2.1 (And.intro rfl (And.intro rfl (?_))))))))))))))
      show sg_Wp 0 N (d + 1) m_D_walk 32 [(0, 2, 21), (1, 0, v1), (2, 0, v2)] [(0, 10), (0, sg_iadd (G 22 v2) (G 23 v2))] G Q
      refine sg_callN (k := d) (y' := m_G_isBelow) (av := [(0, sg_iadd (G 22 v2) (G 23 v2)), (0, 10)]) (rest := []) (idx := 101) (by decide +kernel) cs_G_isBelow (List.mem_of_getElem? (i := 3) rfl) rfl (Nat.le_of_ble_eq_true rfl) (Nat.lt_succ_self d) (Nat.le_of_ble_eq_true rfl) rfl ?_
      show sg_Wp 0 N d m_G_isBelow 0 [(0, 0, sg_iadd (G 22 v2) (G 23 v2)), (1, 0, 10)] [] G _
      refine sg_Wp.mono (((h.2 q3).2 q2).2.2) (fun r1 G1 hhr1 => ?_)
      show sg_Wp 0 N (d + 1) m_D_walk 35 [(0, 2, 21), (1, 0, v1), (2, 0, v2)] [(0, r1)] G1 Q
      refine sg_if_ne (off := 16) (tgt := 51) (by decide +kernel) (by decide) ⟨fun q1 => ?_, fun q1 => ?_⟩
      · refine sg_blk [(1, 0, 0, 0, 0), (65, 22, 1, 9, 2), (3, 0, 0, 2, 0), (58, 0, 0, 0, 0), (17, 6, 0, 0, 0), (1, 0, 0, 0, 0), (65, 23, 1, 15, 3), (3, 0, 0, 2, 0), (17, 6, 0, 0, 0), (32, 0, 0, 0, 0), (18, 6, 0, 0, 0), (1, 0, 0, 0, 0), (65, 26, 1, 24, 6), (3, 0, 0, 1, 0), (8, 6, 0, 0, 0), (34, 0, 0, 0, 0), (3, 0, 0, 2, 0), (32, 0, 0, 0, 0), (1, 0, 0, 0, 0), (65, 22, 1, 9, 2), (3, 0, 0, 2, 0), (17, 6, 0, 0, 0), (18, 144, 0, 0, 0), (31, 1, 0, 2, 0)] (by decide +kernel) ?_
        refine And.intro (Nat.le_of_ble_eq_true rfl) (And.intro (ce_21 hN) (And.intro rr_21_2 (And.intro rfl (And.intro (And.intro (Nat.ne_of_beq_eq_false rfl) (Nat.ne_of_beq_eq_false rfl)) (And.intro (ce_22 hN) (And.intro (hhr1.1 q1).1 (And.intro (Nat.le_of_ble_eq_true rfl) (And.intro (ce_21 hN) (And.intro rr_21_3 (And.intro rfl (And.intro (ce_23 hN) (And.intro (hhr1.1 q1).2.1 (And.intro (ce_22 hN) (And.intro (hhr1.1 q1).2.2.1 (And.intro (Nat.le_of_ble_eq_true rfl) (And.intro (ce_21 hN) (And.intro rr_21_6 (And.intro rfl (And.intro rfl (And.intro rfl (And.intro rfl (And.intro (Nat.le_of_ble_eq_true rfl) (And.intro (ce_21 hN) (And.intro rr_21_2 (And.intro rfl (And.intro (ce_22 hN) (And.intro (hhr1.1 q1).2.2.2.1 (And.intro (ce_26 hN) (And.intro (hhr1.1 q1).2.2.2.2.1 (And.intro rfl (?_)))))))))))))))))))))))))))))))
        show sg_Wp 0 N (d + 1) m_D_walk 86 [(0, 2, 21), (1, 0, v1), (2, 0, sg_iadd v2 1)] [] (sg_up (sg_up G1 22 v2 (sg_iadd (G1 22 v2) (G1 23 v2))) 26 (sg_iadd (sg_imul v1 6) v2) ((sg_up G1 22 v2 (sg_iadd (G1 22 v2) (G1 23 v2))) 22 v2)) Q
        refine sg_goto (off := -84) (tgt := 2) (by decide +kernel) (by decide) ?_
        exact (hhr1.1 q1).2.2.2.2.2
      · refine sg_blk [(1, 0, 0, 0, 0), (65, 23, 1, 15, 3), (3, 0, 0, 2, 0), (1, 0, 0, 0, 0), (65, 23, 1, 15, 3), (3, 0, 0, 2, 0), (17, 6, 0, 0, 0), (37, 0, 0, 0, 0), (18, 6, 0, 0, 0), (1, 0, 0, 0, 0), (65, 22, 1, 9, 2), (3, 0, 0, 2, 0), (58, 0, 0, 0, 0), (17, 6, 0, 0, 0), (1, 0, 0, 0, 0), (65, 23, 1, 15, 3), (3, 0, 0, 2, 0), (17, 6, 0, 0, 0), (32, 0, 0, 0, 0), (18, 6, 0, 0, 0), (1, 0, 0, 0, 0), (65, 26, 1, 24, 6), (3, 0, 0, 1, 0), (8, 6, 0, 0, 0), (34, 0, 0, 0, 0), (3, 0, 0, 2, 0), (32, 0, 0, 0, 0), (1, 0, 0, 0, 0), (65, 22, 1, 9, 2), (3, 0, 0, 2, 0), (17, 6, 0, 0, 0), (18, 144, 0, 0, 0), (31, 1, 0, 2, 0)] (by decide +kernel) ?_
        refine And.intro (Nat.le_of_ble_eq_true rfl) (And.intro (ce_21 hN) (And.intro rr_21_3 (And.intro rfl (And.intro (Nat.le_of_ble_eq_true rfl) (And.intro (ce_21 hN) (And.intro rr_21_3 (And.intro rfl (And.intro (ce_23 hN) (And.intro (hhr1.2 q1).1 (And.intro (ce_23 hN) (And.intro (hhr1.2 q1).2.1 (And.intro (Nat.le_of_ble_eq_true rfl) (And.intro (ce_21 hN) (And.intro rr_21_2 (And.intro rfl (And.intro (And.intro (Nat.ne_of_beq_eq_false rfl) (Nat.ne_of_beq_eq_false rfl)) (And.intro (ce_22 hN) (And.intro (hhr1.2 q1).2.2.1 (And.intro (Nat.le_of_ble_eq_true rfl) (And.intro (ce_21 hN) (And.intro rr_21_3 (And.intro rfl (And.intro (ce_23 hN) (And.intro (hhr1.2 q1).2.2.2.1 (And.intro (ce_22 hN) (And.intro (hhr1.2 q1).2.2.2.2.1 (And.intro (Nat.le_of_ble_eq_true rfl) (And.intro (ce_21 hN) (And.intro rr_21_6 (And.intro rfl (And.intro rfl (And.intro rfl (And.intro rfl (And.intro (Nat.le_of_ble_eq_true rfl) (And.intro (ce_21 hN) (And.intro rr_21_2 (And.intro rfl (And.intro (ce_22 hN) (And.intro (hhr1.2 q1).2.2.2.2.2.1 (And.intro (ce_26 hN) (And.intro (hhr1.2 q1).2.2.2.2.2.2.1 (And.intro rfl (?_)))))))))))))))))))))))))))))))))))))))))))
        show sg_Wp 0 N (d + 1) m_D_walk 86 [(0, 2, 21), (1, 0, v1), (2, 0, sg_iadd v2 1)] [] (sg_up (sg_up (sg_up G1 23 v2 (sg_ineg (G1 23 v2))) 22 v2 (sg_iadd (G1 22 v2) ((sg_up G1 23 v2 (sg_ineg (G1 23 v2))) 23 v2))) 26 (sg_iadd (sg_imul v1 6) v2) ((sg_up (sg_up G1 23 v2 (sg_ineg (G1 23 v2))) 22 v2 (sg_iadd (G1 22 v2) ((sg_up G1 23 v2 (sg_ineg (G1 23 v2))) 23 v2))) 22 v2)) Q
        refine sg_goto (off := -84) (tgt := 2) (by decide +kernel) (by decide) ?_
        exact (hhr1.2 q1).2.2.2.2.2.2.2
