/-! CUT LEMMAS, printed by a program -/
set_option maxRecDepth 100000 in
theorem g_G_timesOfBit_30_0 {d N : Nat} (hN : 44 ≤ N) {v1 v2 : Int} {G : SgM} {Q : Int → SgM → Prop} (h : sg_Wp 0 N d m_G_timesOfBit 5 [(0, 2, 30), (1, 0, v1), (2, 0, v2), (3, 0, 0), (4, 0, 0)] [] G Q) : sg_Wp 0 N d m_G_timesOfBit 0 [(0, 2, 30), (1, 0, v1), (2, 0, v2)] [] G Q := by
  refine sg_blk [(7, 0, 0, 0, 0), (25, 0, 0, 3, 0), (7, 0, 0, 0, 0), (26, 0, 0, 4, 0)] (by decide +kernel) ?_
  refine And.intro rfl (And.intro rfl (And.intro rfl (And.intro rfl (?_))))
  show sg_Wp 0 N d m_G_timesOfBit 5 [(0, 2, 30), (1, 0, v1), (2, 0, v2), (3, 0, 0), (4, 0, 0)] [] G Q
  exact h
set_option maxRecDepth 100000 in
theorem g_G_timesOfBit_30_5 {d N : Nat} (hN : 44 ≤ N) {v1 v2 v3 v4 : Int} {G : SgM} {Q : Int → SgM → Prop} (h : (v2 < v4 → (Q v3 G)) ∧ (¬ (v2 < v4) → ((24 ≤ v4 → (Q v3 G)) ∧ (¬ (24 ≤ v4) → ((0 ≤ v4 ∧ v4 < 24) ∧ (sg_Wp 0 N d m_G_timesOfBit 5 [(0, 2, 30), (1, 0, v1), (2, 0, v2), (3, 0, sg_iadd v3 (sg_iand (sg_ishr (G 30 v4) v1) 1)), (4, 0, sg_iadd v4 1)] [] G Q)))))) : sg_Wp 0 N d m_G_timesOfBit 5 [(0, 2, 30), (1, 0, v1), (2, 0, v2), (3, 0, v3), (4, 0, v4)] [] G Q := by
  refine sg_blk [(4, 0, 0, 4, 0), (3, 0, 0, 2, 0)] (by decide +kernel) ?_
  refine And.intro rfl (And.intro rfl (?_))
  show sg_Wp 0 N d m_G_timesOfBit 8 [(0, 2, 30), (1, 0, v1), (2, 0, v2), (3, 0, v3), (4, 0, v4)] [(0, v2), (0, v4)] G Q
  refine sg_icmp_gt (off := 27) (tgt := 35) (by decide +kernel) (by decide) ⟨fun q2 => ?_, fun q2 => ?_⟩
  · refine sg_blk [(3, 0, 0, 3, 0)] (by decide +kernel) ?_
    refine And.intro rfl (?_)
    show sg_Wp 0 N d m_G_timesOfBit 36 [(0, 2, 30), (1, 0, v1), (2, 0, v2), (3, 0, v3), (4, 0, v4)] [(0, v3)] G Q
    exact sg_ret (by decide +kernel) rfl (Or.inl rfl) ((h.1 q2))
  · refine sg_blk [(4, 0, 0, 4, 0), (1, 0, 0, 0, 0), (24, 24, 0, 0, 0)] (by decide +kernel) ?_
    refine And.intro rfl (And.intro (Nat.le_of_ble_eq_true rfl) (And.intro (And.intro (Or.inl (ce_30 hN)) (by decide)) (?_)))
    show sg_Wp 0 N d m_G_timesOfBit 15 [(0, 2, 30), (1, 0, v1), (2, 0, v2), (3, 0, v3), (4, 0, v4)] [(0, 24), (0, v4)] G Q
    refine sg_icmp_ge (off := 20) (tgt := 35) (by decide +kernel) (by decide) ⟨fun q1 => ?_, fun q1 => ?_⟩
    · refine sg_blk [(3, 0, 0, 3, 0)] (by decide +kernel) ?_
      refine And.intro rfl (?_)
      show sg_Wp 0 N d m_G_timesOfBit 36 [(0, 2, 30), (1, 0, v1), (2, 0, v2), (3, 0, v3), (4, 0, v4)] [(0, v3)] G Q
      exact sg_ret (by decide +kernel) rfl (Or.inl rfl) (((h.2 q2).1 q1))
    · refine sg_blk [(3, 0, 0, 3, 0), (1, 0, 0, 0, 0), (4, 0, 0, 4, 0), (17, 24, 0, 0, 0), (3, 0, 0, 1, 0), (42, 0, 0, 0, 0), (7, 1, 0, 0, 0), (38, 0, 0, 0, 0), (32, 0, 0, 0, 0), (25, 0, 0, 3, 0), (31, 1, 0, 4, 0)] (by decide +kernel) ?_
      refine And.intro rfl (And.intro (Nat.le_of_ble_eq_true rfl) (And.intro rfl (And.intro (ce_30 hN) (And.intro ((h.2 q2).2 q1).1 (And.intro rfl (And.intro rfl (And.intro rfl (And.intro rfl (?_)))))))))
      show sg_Wp 0 N d m_G_timesOfBit 32 [(0, 2, 30), (1, 0, v1), (2, 0, v2), (3, 0, sg_iadd v3 (sg_iand (sg_ishr (G 30 v4) v1) 1)), (4, 0, sg_iadd v4 1)] [] G Q
      refine sg_goto (off := -27) (tgt := 5) (by decide +kernel) (by decide) ?_
      exact ((h.2 q2).2 q1).2
set_option maxRecDepth 100000 in
theorem g_G_timesOfBit_31_0 {d N : Nat} (hN : 44 ≤ N) {v1 v2 : Int} {G : SgM} {Q : Int → SgM → Prop} (h : sg_Wp 0 N d m_G_timesOfBit 5 [(0, 2, 31), (1, 0, v1), (2, 0, v2), (3, 0, 0), (4, 0, 0)] [] G Q) : sg_Wp 0 N d m_G_timesOfBit 0 [(0, 2, 31), (1, 0, v1), (2, 0, v2)] [] G Q := by
  refine sg_blk [(7, 0, 0, 0, 0), (25, 0, 0, 3, 0), (7, 0, 0, 0, 0), (26, 0, 0, 4, 0)] (by decide +kernel) ?_
  refine And.intro rfl (And.intro rfl (And.intro rfl (And.intro rfl (?_))))
  show sg_Wp 0 N d m_G_timesOfBit 5 [(0, 2, 31), (1, 0, v1), (2, 0, v2), (3, 0, 0), (4, 0, 0)] [] G Q
  exact h
set_option maxRecDepth 100000 in
theorem g_G_timesOfBit_31_5 {d N : Nat} (hN : 44 ≤ N) {v1 v2 v3 v4 : Int} {G : SgM} {Q : Int → SgM → Prop} (h : (v2 < v4 → (Q v3 G)) ∧ (¬ (v2 < v4) → ((24 ≤ v4 → (Q v3 G)) ∧ (¬ (24 ≤ v4) → ((0 ≤ v4 ∧ v4 < 24) ∧ (sg_Wp 0 N d m_G_timesOfBit 5 [(0, 2, 31), (1, 0, v1), (2, 0, v2), (3, 0, sg_iadd v3 (sg_iand (sg_ishr (G 31 v4) v1) 1)), (4, 0, sg_iadd v4 1)] [] G Q)))))) : sg_Wp 0 N d m_G_timesOfBit 5 [(0, 2, 31), (1, 0, v1), (2, 0, v2), (3, 0, v3), (4, 0, v4)] [] G Q := by
  refine sg_blk [(4, 0, 0, 4, 0), (3, 0, 0, 2, 0)] (by decide +kernel) ?_
  refine And.intro rfl (And.intro rfl (?_))
  show sg_Wp 0 N d m_G_timesOfBit 8 [(0, 2, 31), (1, 0, v1), (2, 0, v2), (3, 0, v3), (4, 0, v4)] [(0, v2), (0, v4)] G Q
  refine sg_icmp_gt (off := 27) (tgt := 35) (by decide +kernel) (by decide) ⟨fun q2 => ?_, fun q2 => ?_⟩
  · refine sg_blk [(3, 0, 0, 3, 0)] (by decide +kernel) ?_
    refine And.intro rfl (?_)
    show sg_Wp 0 N d m_G_timesOfBit 36 [(0, 2, 31), (1, 0, v1), (2, 0, v2), (3, 0, v3), (4, 0, v4)] [(0, v3)] G Q
    exact sg_ret (by decide +kernel) rfl (Or.inl rfl) ((h.1 q2))
  · refine sg_blk [(4, 0, 0, 4, 0), (1, 0, 0, 0, 0), (24, 24, 0, 0, 0)] (by decide +kernel) ?_
    refine And.intro rfl (And.intro (Nat.le_of_ble_eq_true rfl) (And.intro (And.intro (Or.inl (ce_31 hN)) (by decide)) (?_)))
    show sg_Wp 0 N d m_G_timesOfBit 15 [(0, 2, 31), (1, 0, v1), (2, 0, v2), (3, 0, v3), (4, 0, v4)] [(0, 24), (0, v4)] G Q
    refine sg_icmp_ge (off := 20) (tgt := 35) (by decide +kernel) (by decide) ⟨fun q1 => ?_, fun q1 => ?_⟩
    · refine sg_blk [(3, 0, 0, 3, 0)] (by decide +kernel) ?_
      refine And.intro rfl (?_)
      show sg_Wp 0 N d m_G_timesOfBit 36 [(0, 2, 31), (1, 0, v1), (2, 0, v2), (3, 0, v3), (4, 0, v4)] [(0, v3)] G Q
      exact sg_ret (by decide +kernel) rfl (Or.inl rfl) (((h.2 q2).1 q1))
    · refine sg_blk [(3, 0, 0, 3, 0), (1, 0, 0, 0, 0), (4, 0, 0, 4, 0), (17, 24, 0, 0, 0), (3, 0, 0, 1, 0), (42, 0, 0, 0, 0), (7, 1, 0, 0, 0), (38, 0, 0, 0, 0), (32, 0, 0, 0, 0), (25, 0, 0, 3, 0), (31, 1, 0, 4, 0)] (by decide +kernel) ?_
      refine And.intro rfl (And.intro (Nat.le_of_ble_eq_true rfl) (And.intro rfl (And.intro (ce_31 hN) (And.intro ((h.2 q2).2 q1).1 (And.intro rfl (And.intro rfl (And.intro rfl (And.intro rfl (?_)))))))))
      show sg_Wp 0 N d m_G_timesOfBit 32 [(0, 2, 31), (1, 0, v1), (2, 0, v2), (3, 0, sg_iadd v3 (sg_iand (sg_ishr (G 31 v4) v1) 1)), (4, 0, sg_iadd v4 1)] [] G Q
      refine sg_goto (off := -27) (tgt := 5) (by decide +kernel) (by decide) ?_
      exact ((h.2 q2).2 q1).2
set_option maxRecDepth 100000 in
theorem g_G_all_44_0 {d N : Nat} (hN : 75 ≤ N) {G : SgM} {Q : Int → SgM → Prop} (h : Q (G 21 12) G) : sg_Wp 0 N d m_G_all 0 [(0, 2, 44)] [] G Q := by
  refine sg_blk [(1, 0, 0, 0, 0), (65, 0, 10, 10, 0), (65, 21, 4, 130, 5), (15, 0, 1, 166, 12)] (by decide +kernel) ?_
  refine And.intro (Nat.le_of_ble_eq_true rfl) (And.intro (ce_44 hN) (And.intro rr_44_0 (And.intro (ce_0 (Nat.le_trans (by decide) hN)) (And.intro rr_0_5 (And.intro (ce_21 (Nat.le_trans (by decide) hN)) (?_))))))
  show sg_Wp 0 N d m_G_all 10 [(0, 2, 44)] [(0, G 21 12)] G Q
  exact sg_ret (by decide +kernel) rfl (Or.inl rfl) h
set_option maxRecDepth 100000 in
theorem g_G_ask_44_0 {d N : Nat} (hN : 75 ≤ N) {v1 : Int} {G : SgM} {Q : Int → SgM → Prop} (h : sg_Wp 0 N d m_G_isPerson 0 [(0, 2, 44), (1, 0, v1)] [] G (fun r1 G1 => (r1 = 0 → (Q ((-2)) G1)) ∧ (¬ (r1 = 0) → (sg_Wp 0 N d m_H_hourToAsk 0 [(0, 2, 46), (1, 0, v1)] [] G1 (fun r2 G2 => Q r2 G2))))) : sg_Wp 0 N (d + 1) m_G_ask 0 [(0, 2, 44), (1, 0, v1)] [] G Q := by
  refine sg_blk [(1, 0, 0, 0, 0), (3, 0, 0, 1, 0)] (by decide +kernel) ?_
  refine And.intro (Nat.le_of_ble_eq_true rfl) (And.intro rfl (?_))
  show sg_Wp 0 N (d + 1) m_G_ask 2 [(0, 2, 44), (1, 0, v1)] [(0, v1), (2, 44)] G Q
  refine sg_callV (k := d) (y' := m_G_isPerson) (av := [(0, v1)]) (rest := []) (b := 44) (by decide +kernel) cv_G_isPerson ml_10_90 (ce_44 hN) rfl rfl (Nat.le_of_ble_eq_true rfl) (Nat.lt_succ_self d) (Nat.le_of_ble_eq_true rfl) rfl ?_
  show sg_Wp 0 N d m_G_isPerson 0 [(0, 2, 44), (1, 0, v1)] [] G _
  refine sg_Wp.mono h (fun r1 G1 hhr1 => ?_)
  show sg_Wp 0 N (d + 1) m_G_ask 5 [(0, 2, 44), (1, 0, v1)] [(0, r1)] G1 Q
  refine sg_if_eq (off := 14) (tgt := 19) (by decide +kernel) (by decide) ⟨fun q1 => ?_, fun q1 => ?_⟩
  · refine sg_blk [(8, (-2), 0, 0, 0)] (by decide +kernel) ?_
    refine And.intro rfl (And.intro rfl (?_))
    show sg_Wp 0 N (d + 1) m_G_ask 21 [(0, 2, 44), (1, 0, v1)] [(0, (-2))] G1 Q
    exact sg_ret (by decide +kernel) rfl (Or.inl rfl) ((hhr1.1 q1))
  · refine sg_blk [(1, 0, 0, 0, 0), (65, 46, 10, 28, 2), (3, 0, 0, 1, 0)] (by decide +kernel) ?_
    refine And.intro (Nat.le_of_ble_eq_true rfl) (And.intro (ce_44 hN) (And.intro rr_44_2 (And.intro rfl (?_))))
    show sg_Wp 0 N (d + 1) m_G_ask 13 [(0, 2, 44), (1, 0, v1)] [(0, v1), (2, 46)] G1 Q
    refine sg_callV (k := d) (y' := m_H_hourToAsk) (av := [(0, v1)]) (rest := []) (b := 46) (by decide +kernel) cv_H_hourToAsk ml_10_216 (ce_46 hN) rfl rfl (Nat.le_of_ble_eq_true rfl) (Nat.lt_succ_self d) (Nat.le_of_ble_eq_true rfl) rfl ?_
    show sg_Wp 0 N d m_H_hourToAsk 0 [(0, 2, 46), (1, 0, v1)] [] G1 _
    refine sg_Wp.mono ((hhr1.2 q1)) (fun r2 G2 hhr2 => ?_)
    show sg_Wp 0 N (d + 1) m_G_ask 16 [(0, 2, 44), (1, 0, v1)] [(0, r2)] G2 Q
    refine sg_goto (off := 5) (tgt := 21) (by decide +kernel) (by decide) ?_
    exact sg_ret (by decide +kernel) rfl (Or.inl rfl) hhr2
set_option maxRecDepth 100000 in
theorem g_G_at_44_0 {d N : Nat} (hN : 75 ≤ N) {v1 v2 v3 : Int} {G : SgM} {Q : Int → SgM → Prop} (h : ((0 ≤ v1 ∧ v1 < 24) → (sg_Wp 0 N d m_G_isPerson 0 [(0, 2, 44), (1, 0, v2)] [] G (fun r1 G1 => (r1 ≠ 0 → ((v3 = 0 → ((0 ≤ (sg_iadd (sg_imul v1 6) v2) ∧ (sg_iadd (sg_imul v1 6) v2) < 144) ∧ (Q (G1 26 (sg_iadd (sg_imul v1 6) v2)) G1))) ∧ (v3 ≠ 0 → ((v3 = 1 → ((0 ≤ v1 ∧ v1 < 24) ∧ (Q (sg_iand (sg_ishr (G1 30 v1) v2) 1) G1))) ∧ (v3 ≠ 1 → ((v3 = 2 → (sg_Wp 0 N d m_G_timesOfBit 0 [(0, 2, 30), (1, 0, v2), (2, 0, v1)] [] G1 (fun r2 G2 => Q r2 G2))) ∧ (v3 ≠ 2 → ((v3 = 3 → ((0 ≤ (sg_iadd (sg_imul v1 6) v2) ∧ (sg_iadd (sg_imul v1 6) v2) < 144) ∧ (Q (G1 27 (sg_iadd (sg_imul v1 6) v2)) G1))) ∧ (v3 ≠ 3 → (Q ((-2)) G1)))))))))) ∧ (¬ (r1 ≠ 0) → (sg_Wp 0 N (d + 1) m_G_at 17 [] [] G1 Q))))) ∧ (¬ (0 ≤ v1 ∧ v1 < 24) → (sg_Wp 0 N (d + 1) m_G_at 17 [] [] G Q))) : sg_Wp 0 N (d + 1) m_G_at 0 [(0, 2, 44), (1, 0, v1), (2, 0, v2), (3, 0, v3)] [] G Q := by
  refine sg_blk [(3, 0, 0, 1, 0), (8, 24, 0, 0, 0)] (by decide +kernel) ?_
  refine And.intro rfl (And.intro rfl (And.intro rfl (?_)))
  show sg_Wp 0 N (d + 1) m_G_at 3 [(0, 2, 44), (1, 0, v1), (2, 0, v2), (3, 0, v3)] [(0, 24), (0, v1)] G Q
  refine sg_callS (k := d) (y' := m_G_isBelow) (av := [(0, v1), (0, 24)]) (rest := []) (by decide +kernel) cs_G_isBelow ml_10_46 rfl (Nat.le_of_ble_eq_true rfl) (Nat.lt_succ_self d) (Nat.le_of_ble_eq_true rfl) rfl ?_
  show sg_Wp 0 N d m_G_isBelow 0 [(0, 0, v1), (1, 0, 24)] [] G _
  refine s_G_isBelow ?_
  show sg_Wp 0 N (d + 1) m_G_at 6 [(0, 2, 44), (1, 0, v1), (2, 0, v2), (3, 0, v3)] [(0, sg_bo (0 ≤ v1 ∧ v1 < 24))] G Q
  refine sg_bif_eq (off := 11) (tgt := 17) (by decide +kernel) (by decide) ⟨fun q6 => ?_, fun q6 => ?_⟩
  · refine sg_blk [(1, 0, 0, 0, 0), (3, 0, 0, 2, 0)] (by decide +kernel) ?_
    refine And.intro (Nat.le_of_ble_eq_true rfl) (And.intro rfl (?_))
    show sg_Wp 0 N (d + 1) m_G_at 11 [(0, 2, 44), (1, 0, v1), (2, 0, v2), (3, 0, v3)] [(0, v2), (2, 44)] G Q
    refine sg_callV (k := d) (y' := m_G_isPerson) (av := [(0, v2)]) (rest := []) (b := 44) (by decide +kernel) cv_G_isPerson ml_10_90 (ce_44 hN) rfl rfl (Nat.le_of_ble_eq_true rfl) (Nat.lt_succ_self d) (Nat.le_of_ble_eq_true rfl) rfl ?_
    show sg_Wp 0 N d m_G_isPerson 0 [(0, 2, 44), (1, 0, v2)] [] G _
    refine sg_Wp.mono ((h.1 q6)) (fun r1 G1 hhr1 => ?_)
    show sg_Wp 0 N (d + 1) m_G_at 14 [(0, 2, 44), (1, 0, v1), (2, 0, v2), (3, 0, v3)] [(0, r1)] G1 Q
    refine sg_if_ne (off := 6) (tgt := 20) (by decide +kernel) (by decide) ⟨fun q5 => ?_, fun q5 => ?_⟩
    · refine sg_blk [(3, 0, 0, 3, 0)] (by decide +kernel) ?_
      refine And.intro rfl (?_)
      show sg_Wp 0 N (d + 1) m_G_at 21 [(0, 2, 44), (1, 0, v1), (2, 0, v2), (3, 0, v3)] [(0, v3)] G1 Q
      refine sg_tsw (dflt := 100) (low := 0) (high := 3) (offs := #[31, 49, 66, 82]) (len := 31) (dt := 121) (ts := [52, 70, 87, 103]) (by decide +kernel) (by decide) (by decide) (by decide) ?_
      refine ⟨fun q4 => ?_, fun q4 => ?_⟩
      · refine sg_blk [(1, 0, 0, 0, 0), (65, 0, 10, 10, 0), (65, 21, 4, 130, 5), (65, 26, 1, 134, 6), (3, 0, 0, 1, 0), (8, 6, 0, 0, 0), (34, 0, 0, 0, 0), (3, 0, 0, 2, 0), (32, 0, 0, 0, 0), (17, 144, 0, 0, 0)] (by decide +kernel) ?_
        refine And.intro (Nat.le_of_ble_eq_true rfl) (And.intro (ce_44 hN) (And.intro rr_44_0 (And.intro (ce_0 (Nat.le_trans (by decide) hN)) (And.intro rr_0_5 (And.intro (ce_21 (Nat.le_trans (by decide) hN)) (And.intro rr_21_6 (And.intro rfl (And.intro rfl (And.intro rfl (And.intro rfl (And.intro (ce_26 (Nat.le_trans (by decide) hN)) (And.intro ((hhr1.1 q5).1 q4).1 (?_)))))))))))))
        show sg_Wp 0 N (d + 1) m_G_at 69 [(0, 2, 44), (1, 0, v1), (2, 0, v2), (3, 0, v3)] [(0, G1 26 (sg_iadd (sg_imul v1 6) v2))] G1 Q
        exact sg_ret (by decide +kernel) rfl (Or.inl rfl) (((hhr1.1 q5).1 q4).2)
      · refine ⟨fun q3 => ?_, fun q3 => ?_⟩
        · refine sg_blk [(1, 0, 0, 0, 0), (65, 0, 10, 10, 0), (65, 21, 4, 130, 5), (65, 30, 1, 137, 10), (3, 0, 0, 1, 0), (17, 24, 0, 0, 0), (3, 0, 0, 2, 0), (42, 0, 0, 0, 0), (7, 1, 0, 0, 0), (38, 0, 0, 0, 0)] (by decide +kernel) ?_
          refine And.intro (Nat.le_of_ble_eq_true rfl) (And.intro (ce_44 hN) (And.intro rr_44_0 (And.intro (ce_0 (Nat.le_trans (by decide) hN)) (And.intro rr_0_5 (And.intro (ce_21 (Nat.le_trans (by decide) hN)) (And.intro rr_21_10 (And.intro rfl (And.intro (ce_30 (Nat.le_trans (by decide) hN)) (And.intro (((hhr1.1 q5).2 q4).1 q3).1 (And.intro rfl (And.intro rfl (?_))))))))))))
          show sg_Wp 0 N (d + 1) m_G_at 86 [(0, 2, 44), (1, 0, v1), (2, 0, v2), (3, 0, v3)] [(0, sg_iand (sg_ishr (G1 30 v1) v2) 1)] G1 Q
          exact sg_ret (by decide +kernel) rfl (Or.inl rfl) ((((hhr1.1 q5).2 q4).1 q3).2)
        · refine ⟨fun q2 => ?_, fun q2 => ?_⟩
          · refine sg_blk [(1, 0, 0, 0, 0), (65, 0, 10, 10, 0), (65, 21, 4, 130, 5), (65, 30, 1, 137, 10), (3, 0, 0, 2, 0), (3, 0, 0, 1, 0)] (by decide +kernel) ?_
            refine And.intro (Nat.le_of_ble_eq_true rfl) (And.intro (ce_44 hN) (And.intro rr_44_0 (And.intro (ce_0 (Nat.le_trans (by decide) hN)) (And.intro rr_0_5 (And.intro (ce_21 (Nat.le_trans (by decide) hN)) (And.intro rr_21_10 (And.intro rfl (And.intro rfl (?_)))))))))
            show sg_Wp 0 N (d + 1) m_G_at 99 [(0, 2, 44), (1, 0, v1), (2, 0, v2), (3, 0, v3)] [(0, v1), (0, v2), (2, 30)] G1 Q
            refine sg_callS (k := d) (y' := m_G_timesOfBit) (av := [(2, 30), (0, v2), (0, v1)]) (rest := []) (by decide +kernel) cs_G_timesOfBit ml_10_140 rfl (Nat.le_of_ble_eq_true rfl) (Nat.lt_succ_self d) (Nat.le_of_ble_eq_true rfl) rfl ?_
            show sg_Wp 0 N d m_G_timesOfBit 0 [(0, 2, 30), (1, 0, v2), (2, 0, v1)] [] G1 _
            refine sg_Wp.mono (((((hhr1.1 q5).2 q4).2 q3).1 q2)) (fun r2 G2 hhr2 => ?_)
            show sg_Wp 0 N (d + 1) m_G_at 102 [(0, 2, 44), (1, 0, v1), (2, 0, v2), (3, 0, v3)] [(0, r2)] G2 Q
            exact sg_ret (by decide +kernel) rfl (Or.inl rfl) hhr2
          · refine ⟨fun q1 => ?_, fun q1 => ?_⟩
            · refine sg_blk [(1, 0, 0, 0, 0), (65, 0, 10, 10, 0), (65, 21, 4, 130, 5), (65, 27, 1, 144, 7), (3, 0, 0, 1, 0), (8, 6, 0, 0, 0), (34, 0, 0, 0, 0), (3, 0, 0, 2, 0), (32, 0, 0, 0, 0), (17, 144, 0, 0, 0)] (by decide +kernel) ?_
              refine And.intro (Nat.le_of_ble_eq_true rfl) (And.intro (ce_44 hN) (And.intro rr_44_0 (And.intro (ce_0 (Nat.le_trans (by decide) hN)) (And.intro rr_0_5 (And.intro (ce_21 (Nat.le_trans (by decide) hN)) (And.intro rr_21_7 (And.intro rfl (And.intro rfl (And.intro rfl (And.intro rfl (And.intro (ce_27 (Nat.le_trans (by decide) hN)) (And.intro (((((hhr1.1 q5).2 q4).2 q3).2 q2).1 q1).1 (?_)))))))))))))
              show sg_Wp 0 N (d + 1) m_G_at 120 [(0, 2, 44), (1, 0, v1), (2, 0, v2), (3, 0, v3)] [(0, G1 27 (sg_iadd (sg_imul v1 6) v2))] G1 Q
              exact sg_ret (by decide +kernel) rfl (Or.inl rfl) ((((((hhr1.1 q5).2 q4).2 q3).2 q2).1 q1).2)
            · refine sg_blk [(8, (-2), 0, 0, 0)] (by decide +kernel) ?_
              refine And.intro rfl (And.intro rfl (?_))
              show sg_Wp 0 N (d + 1) m_G_at 123 [(0, 2, 44), (1, 0, v1), (2, 0, v2), (3, 0, v3)] [(0, (-2))] G1 Q
              exact sg_ret (by decide +kernel) rfl (Or.inl rfl) ((((((hhr1.1 q5).2 q4).2 q3).2 q2).2 q1))
    · exact sg_Wp.keepk [] rfl ((hhr1.2 q5))
  · exact sg_Wp.keepk [] rfl ((h.2 q6))
set_option maxRecDepth 100000 in
theorem g_G_at_44_17 {d N : Nat} (hN : 75 ≤ N) {G : SgM} {Q : Int → SgM → Prop} (h : Q ((-2)) G) : sg_Wp 0 N (d + 1) m_G_at 17 [] [] G Q := by
  refine sg_blk [(8, (-2), 0, 0, 0)] (by decide +kernel) ?_
  refine And.intro rfl (And.intro rfl (?_))
  show sg_Wp 0 N (d + 1) m_G_at 19 [] [(0, (-2))] G Q
  exact sg_ret (by decide +kernel) rfl (Or.inl rfl) h
set_option maxRecDepth 100000 in
theorem g_G_back_44_0 {d N : Nat} (hN : 75 ≤ N) {G : SgM} {Q : Int → SgM → Prop} (h : ((G 13 0) ≠ 0 → (sg_Wp 0 N d m_K_tellAnew 0 [(0, 2, 0)] [] (sg_up G 13 0 (sg_isub (G 13 0) 1)) (fun r1 G1 => Q (G1 13 0) G1))) ∧ (¬ ((G 13 0) ≠ 0) → (Q ((-3)) G))) : sg_Wp 0 N (d + 1) m_G_back 0 [(0, 2, 44)] [] G Q := by
  refine sg_blk [(1, 0, 0, 0, 0), (65, 0, 10, 10, 0), (65, 13, 4, 111, 3), (15, 0, 2, 117, 0)] (by decide +kernel) ?_
  refine And.intro (Nat.le_of_ble_eq_true rfl) (And.intro (ce_44 hN) (And.intro rr_44_0 (And.intro (ce_0 (Nat.le_trans (by decide) hN)) (And.intro rr_0_3 (And.intro (ce_13 (Nat.le_trans (by decide) hN)) (?_))))))
  show sg_Wp 0 N (d + 1) m_G_back 10 [(0, 2, 44)] [(0, G 13 0)] G Q
  refine sg_if_ne (off := 6) (tgt := 16) (by decide +kernel) (by decide) ⟨fun q1 => ?_, fun q1 => ?_⟩
  · refine sg_blk [(1, 0, 0, 0, 0), (65, 0, 10, 10, 0), (65, 13, 4, 111, 3), (57, 0, 0, 0, 0), (15, 0, 2, 117, 0), (7, 1, 0, 0, 0), (33, 0, 0, 0, 0), (16, 0, 2, 117, 0), (1, 0, 0, 0, 0), (65, 0, 10, 10, 0)] (by decide +kernel) ?_
    refine And.intro (Nat.le_of_ble_eq_true rfl) (And.intro (ce_44 hN) (And.intro rr_44_0 (And.intro (ce_0 (Nat.le_trans (by decide) hN)) (And.intro rr_0_3 (And.intro (Nat.ne_of_beq_eq_false rfl) (And.intro (ce_13 (Nat.le_trans (by decide) hN)) (And.intro rfl (And.intro (ce_13 (Nat.le_trans (by decide) hN)) (And.intro (Nat.le_of_ble_eq_true rfl) (And.intro (ce_44 hN) (And.intro rr_44_0 (?_))))))))))))
    show sg_Wp 0 N (d + 1) m_G_back 36 [(0, 2, 44)] [(2, 0)] (sg_up G 13 0 (sg_isub (G 13 0) 1)) Q
    refine sg_callV (k := d) (y' := m_K_tellAnew) (av := []) (rest := []) (b := 0) (by decide +kernel) cv_K_tellAnew ml_10_60 (ce_0 (Nat.le_trans (by decide) hN)) rfl rfl (Nat.le_of_ble_eq_true rfl) (Nat.lt_succ_self d) (Nat.le_of_ble_eq_true rfl) rfl ?_
    show sg_Wp 0 N d m_K_tellAnew 0 [(0, 2, 0)] [] (sg_up G 13 0 (sg_isub (G 13 0) 1)) _
    refine sg_Wp.mono ((h.1 q1)) (fun r1 G1 hhr1 => ?_)
    show sg_Wp 0 N (d + 1) m_G_back 39 [(0, 2, 44)] [] G1 Q
    refine sg_blk [(1, 0, 0, 0, 0), (65, 0, 10, 10, 0), (65, 13, 4, 111, 3), (15, 0, 2, 117, 0)] (by decide +kernel) ?_
    refine And.intro (Nat.le_of_ble_eq_true rfl) (And.intro (ce_44 hN) (And.intro rr_44_0 (And.intro (ce_0 (Nat.le_trans (by decide) hN)) (And.intro rr_0_3 (And.intro (ce_13 (Nat.le_trans (by decide) hN)) (?_))))))
    show sg_Wp 0 N (d + 1) m_G_back 49 [(0, 2, 44)] [(0, G1 13 0)] G1 Q
    exact sg_ret (by decide +kernel) rfl (Or.inl rfl) hhr1
  · refine sg_blk [(8, (-3), 0, 0, 0)] (by decide +kernel) ?_
    refine And.intro rfl (And.intro rfl (?_))
    show sg_Wp 0 N (d + 1) m_G_back 15 [(0, 2, 44)] [(0, (-3))] G Q
    exact sg_ret (by decide +kernel) rfl (Or.inl rfl) ((h.2 q1))
set_option maxRecDepth 100000 in
theorem g_G_busy_44_0 {d N : Nat} (hN : 75 ≤ N) {G : SgM} {Q : Int → SgM → Prop} (h : sg_Wp 0 N d m_D_busiest 0 [(0, 2, 21)] [] G (fun r1 G1 => Q r1 G1)) : sg_Wp 0 N (d + 1) m_G_busy 0 [(0, 2, 44)] [] G Q := by
  refine sg_blk [(1, 0, 0, 0, 0), (65, 0, 10, 10, 0), (65, 21, 4, 130, 5)] (by decide +kernel) ?_
  refine And.intro (Nat.le_of_ble_eq_true rfl) (And.intro (ce_44 hN) (And.intro rr_44_0 (And.intro (ce_0 (Nat.le_trans (by decide) hN)) (And.intro rr_0_5 (?_)))))
  show sg_Wp 0 N (d + 1) m_G_busy 7 [(0, 2, 44)] [(2, 21)] G Q
  refine sg_callV (k := d) (y' := m_D_busiest) (av := []) (rest := []) (b := 21) (by decide +kernel) cv_D_busiest ml_10_169 (ce_21 (Nat.le_trans (by decide) hN)) rfl rfl (Nat.le_of_ble_eq_true rfl) (Nat.lt_succ_self d) (Nat.le_of_ble_eq_true rfl) rfl ?_
  show sg_Wp 0 N d m_D_busiest 0 [(0, 2, 21)] [] G _
  refine sg_Wp.mono h (fun r1 G1 hhr1 => ?_)
  show sg_Wp 0 N (d + 1) m_G_busy 10 [(0, 2, 44)] [(0, r1)] G1 Q
  exact sg_ret (by decide +kernel) rfl (Or.inl rfl) hhr1
set_option maxRecDepth 100000 in
theorem g_G_chance_44_0 {d N : Nat} (hN : 75 ≤ N) {v1 v2 v3 : Int} {G : SgM} {Q : Int → SgM → Prop} (h : ((0 ≤ v1 ∧ v1 < 17) → (sg_Wp 0 N d m_G_isPost 0 [(0, 2, 44), (1, 0, v2)] [] G (fun r1 G1 => (r1 = 0 → (Q ((-9223372036854775806)) G1)) ∧ (¬ (r1 = 0) → (((0 ≤ v3 ∧ v3 < 2) → (sg_Wp 0 N d m_C_fraction 0 [(0, 2, 61), (1, 0, v1), (2, 0, v2), (3, 0, v3)] [] G1 (fun r2 G2 => Q r2 G2))) ∧ (¬ (0 ≤ v3 ∧ v3 < 2) → (Q ((-9223372036854775806)) G1))))))) ∧ (¬ (0 ≤ v1 ∧ v1 < 17) → (Q ((-9223372036854775806)) G))) : sg_Wp 0 N (d + 1) m_G_chance 0 [(0, 2, 44), (1, 0, v1), (2, 0, v2), (3, 0, v3)] [] G Q := by
  refine sg_blk [(3, 0, 0, 1, 0), (8, 17, 0, 0, 0)] (by decide +kernel) ?_
  refine And.intro rfl (And.intro rfl (And.intro rfl (?_)))
  show sg_Wp 0 N (d + 1) m_G_chance 3 [(0, 2, 44), (1, 0, v1), (2, 0, v2), (3, 0, v3)] [(0, 17), (0, v1)] G Q
  refine sg_callS (k := d) (y' := m_G_isBelow) (av := [(0, v1), (0, 17)]) (rest := []) (by decide +kernel) cs_G_isBelow ml_10_46 rfl (Nat.le_of_ble_eq_true rfl) (Nat.lt_succ_self d) (Nat.le_of_ble_eq_true rfl) rfl ?_
  show sg_Wp 0 N d m_G_isBelow 0 [(0, 0, v1), (1, 0, 17)] [] G _
  refine s_G_isBelow ?_
  show sg_Wp 0 N (d + 1) m_G_chance 6 [(0, 2, 44), (1, 0, v1), (2, 0, v2), (3, 0, v3)] [(0, sg_bo (0 ≤ v1 ∧ v1 < 17))] G Q
  refine sg_bif_eq (off := 19) (tgt := 25) (by decide +kernel) (by decide) ⟨fun q3 => ?_, fun q3 => ?_⟩
  · refine sg_blk [(1, 0, 0, 0, 0), (3, 0, 0, 2, 0)] (by decide +kernel) ?_
    refine And.intro (Nat.le_of_ble_eq_true rfl) (And.intro rfl (?_))
    show sg_Wp 0 N (d + 1) m_G_chance 11 [(0, 2, 44), (1, 0, v1), (2, 0, v2), (3, 0, v3)] [(0, v2), (2, 44)] G Q
    refine sg_callV (k := d) (y' := m_G_isPost) (av := [(0, v2)]) (rest := []) (b := 44) (by decide +kernel) cv_G_isPost ml_10_73 (ce_44 hN) rfl rfl (Nat.le_of_ble_eq_true rfl) (Nat.lt_succ_self d) (Nat.le_of_ble_eq_true rfl) rfl ?_
    show sg_Wp 0 N d m_G_isPost 0 [(0, 2, 44), (1, 0, v2)] [] G _
    refine sg_Wp.mono ((h.1 q3)) (fun r1 G1 hhr1 => ?_)
    show sg_Wp 0 N (d + 1) m_G_chance 14 [(0, 2, 44), (1, 0, v1), (2, 0, v2), (3, 0, v3)] [(0, r1)] G1 Q
    refine sg_if_eq (off := 11) (tgt := 25) (by decide +kernel) (by decide) ⟨fun q2 => ?_, fun q2 => ?_⟩
    · refine sg_blk [(12, (-9223372036854775806), 0, 221, 0)] (by decide +kernel) ?_
      refine And.intro rfl (?_)
      show sg_Wp 0 N (d + 1) m_G_chance 28 [(0, 2, 44), (1, 0, v1), (2, 0, v2), (3, 0, v3)] [(1, (-9223372036854775806))] G1 Q
      exact sg_lret (by decide +kernel) rfl ((hhr1.1 q2))
    · refine sg_blk [(3, 0, 0, 3, 0), (7, 2, 0, 0, 0)] (by decide +kernel) ?_
      refine And.intro rfl (And.intro rfl (?_))
      show sg_Wp 0 N (d + 1) m_G_chance 19 [(0, 2, 44), (1, 0, v1), (2, 0, v2), (3, 0, v3)] [(0, 2), (0, v3)] G1 Q
      refine sg_callS (k := d) (y' := m_G_isBelow) (av := [(0, v3), (0, 2)]) (rest := []) (by decide +kernel) cs_G_isBelow ml_10_46 rfl (Nat.le_of_ble_eq_true rfl) (Nat.lt_succ_self d) (Nat.le_of_ble_eq_true rfl) rfl ?_
      show sg_Wp 0 N d m_G_isBelow 0 [(0, 0, v3), (1, 0, 2)] [] G1 _
      refine s_G_isBelow ?_
      show sg_Wp 0 N (d + 1) m_G_chance 22 [(0, 2, 44), (1, 0, v1), (2, 0, v2), (3, 0, v3)] [(0, sg_bo (0 ≤ v3 ∧ v3 < 2))] G1 Q
      refine sg_bif_ne (off := 7) (tgt := 29) (by decide +kernel) (by decide) ⟨fun q1 => ?_, fun q1 => ?_⟩
      · refine sg_blk [(1, 0, 0, 0, 0), (65, 61, 10, 35, 3), (3, 0, 0, 1, 0), (3, 0, 0, 2, 0), (3, 0, 0, 3, 0)] (by decide +kernel) ?_
        refine And.intro (Nat.le_of_ble_eq_true rfl) (And.intro (ce_44 hN) (And.intro rr_44_3 (And.intro rfl (And.intro rfl (And.intro rfl (?_))))))
        show sg_Wp 0 N (d + 1) m_G_chance 36 [(0, 2, 44), (1, 0, v1), (2, 0, v2), (3, 0, v3)] [(0, v3), (0, v2), (0, v1), (2, 61)] G1 Q
        refine sg_callV (k := d) (y' := m_C_fraction) (av := [(0, v1), (0, v2), (0, v3)]) (rest := []) (b := 61) (by decide +kernel) cv_C_fraction ml_10_223 (ce_61 hN) rfl rfl (Nat.le_of_ble_eq_true rfl) (Nat.lt_succ_self d) (Nat.le_of_ble_eq_true rfl) rfl ?_
        show sg_Wp 0 N d m_C_fraction 0 [(0, 2, 61), (1, 0, v1), (2, 0, v2), (3, 0, v3)] [] G1 _
        refine sg_Wp.mono (((hhr1.2 q2).1 q1)) (fun r2 G2 hhr2 => ?_)
        show sg_Wp 0 N (d + 1) m_G_chance 39 [(0, 2, 44), (1, 0, v1), (2, 0, v2), (3, 0, v3)] [(1, r2)] G2 Q
        exact sg_lret (by decide +kernel) rfl hhr2
      · refine sg_blk [(12, (-9223372036854775806), 0, 221, 0)] (by decide +kernel) ?_
        refine And.intro rfl (?_)
        show sg_Wp 0 N (d + 1) m_G_chance 28 [(0, 2, 44), (1, 0, v1), (2, 0, v2), (3, 0, v3)] [(1, (-9223372036854775806))] G1 Q
        exact sg_lret (by decide +kernel) rfl (((hhr1.2 q2).2 q1))
  · refine sg_blk [(12, (-9223372036854775806), 0, 221, 0)] (by decide +kernel) ?_
    refine And.intro rfl (?_)
    show sg_Wp 0 N (d + 1) m_G_chance 28 [(0, 2, 44), (1, 0, v1), (2, 0, v2), (3, 0, v3)] [(1, (-9223372036854775806))] G Q
    exact sg_lret (by decide +kernel) rfl ((h.2 q3))
set_option maxRecDepth 100000 in
theorem g_G_changes_44_0 {d N : Nat} (hN : 75 ≤ N) {v1 : Int} {G : SgM} {Q : Int → SgM → Prop} (h : ((0 ≤ v1 ∧ v1 < 24) → ((0 ≤ v1 ∧ v1 < 24) ∧ (Q (G 31 v1) G))) ∧ (¬ (0 ≤ v1 ∧ v1 < 24) → (Q ((-2)) G))) : sg_Wp 0 N (d + 1) m_G_changes 0 [(0, 2, 44), (1, 0, v1)] [] G Q := by
  refine sg_blk [(3, 0, 0, 1, 0), (8, 24, 0, 0, 0)] (by decide +kernel) ?_
  refine And.intro rfl (And.intro rfl (And.intro rfl (?_)))
  show sg_Wp 0 N (d + 1) m_G_changes 3 [(0, 2, 44), (1, 0, v1)] [(0, 24), (0, v1)] G Q
  refine sg_callS (k := d) (y' := m_G_isBelow) (av := [(0, v1), (0, 24)]) (rest := []) (by decide +kernel) cs_G_isBelow ml_10_46 rfl (Nat.le_of_ble_eq_true rfl) (Nat.lt_succ_self d) (Nat.le_of_ble_eq_true rfl) rfl ?_
  show sg_Wp 0 N d m_G_isBelow 0 [(0, 0, v1), (1, 0, 24)] [] G _
  refine s_G_isBelow ?_
  show sg_Wp 0 N (d + 1) m_G_changes 6 [(0, 2, 44), (1, 0, v1)] [(0, sg_bo (0 ≤ v1 ∧ v1 < 24))] G Q
  refine sg_bif_eq (off := 18) (tgt := 24) (by decide +kernel) (by decide) ⟨fun q1 => ?_, fun q1 => ?_⟩
  · refine sg_blk [(1, 0, 0, 0, 0), (65, 0, 10, 10, 0), (65, 21, 4, 130, 5), (65, 31, 1, 148, 11), (3, 0, 0, 1, 0), (17, 24, 0, 0, 0)] (by decide +kernel) ?_
    refine And.intro (Nat.le_of_ble_eq_true rfl) (And.intro (ce_44 hN) (And.intro rr_44_0 (And.intro (ce_0 (Nat.le_trans (by decide) hN)) (And.intro rr_0_5 (And.intro (ce_21 (Nat.le_trans (by decide) hN)) (And.intro rr_21_11 (And.intro rfl (And.intro (ce_31 (Nat.le_trans (by decide) hN)) (And.intro (h.1 q1).1 (?_))))))))))
    show sg_Wp 0 N (d + 1) m_G_changes 21 [(0, 2, 44), (1, 0, v1)] [(0, G 31 v1)] G Q
    refine sg_goto (off := 5) (tgt := 26) (by decide +kernel) (by decide) ?_
    exact sg_ret (by decide +kernel) rfl (Or.inl rfl) ((h.1 q1).2)
  · refine sg_blk [(8, (-2), 0, 0, 0)] (by decide +kernel) ?_
    refine And.intro rfl (And.intro rfl (?_))
    show sg_Wp 0 N (d + 1) m_G_changes 26 [(0, 2, 44), (1, 0, v1)] [(0, (-2))] G Q
    exact sg_ret (by decide +kernel) rfl (Or.inl rfl) ((h.2 q1))
set_option maxRecDepth 100000 in
theorem g_G_copy_44_0 {d N : Nat} (hN : 75 ≤ N) {v1 v2 v3 v4 v5 : Int} {G : SgM} {Q : Int → SgM → Prop} (h : sg_Wp 0 N d m_Z_move 0 [(0, 2, 67), (1, 0, v1), (2, 0, v2), (3, 0, v3), (4, 0, v4), (5, 0, v5)] [] G (fun r1 G1 => Q r1 G1)) : sg_Wp 0 N (d + 1) m_G_copy 0 [(0, 2, 44), (1, 0, v1), (2, 0, v2), (3, 0, v3), (4, 0, v4), (5, 0, v5)] [] G Q := by
  refine sg_blk [(1, 0, 0, 0, 0), (65, 67, 10, 42, 4), (3, 0, 0, 1, 0), (3, 0, 0, 2, 0), (3, 0, 0, 3, 0), (4, 0, 0, 4, 0), (4, 0, 0, 5, 0)] (by decide +kernel) ?_
  refine And.intro (Nat.le_of_ble_eq_true rfl) (And.intro (ce_44 hN) (And.intro rr_44_4 (And.intro rfl (And.intro rfl (And.intro rfl (And.intro rfl (And.intro rfl (?_))))))))
  show sg_Wp 0 N (d + 1) m_G_copy 11 [(0, 2, 44), (1, 0, v1), (2, 0, v2), (3, 0, v3), (4, 0, v4), (5, 0, v5)] [(0, v5), (0, v4), (0, v3), (0, v2), (0, v1), (2, 67)] G Q
  refine sg_callV (k := d) (y' := m_Z_move) (av := [(0, v1), (0, v2), (0, v3), (0, v4), (0, v5)]) (rest := []) (b := 67) (by decide +kernel) cv_Z_move ml_10_250 (ce_67 hN) rfl rfl (Nat.le_of_ble_eq_true rfl) (Nat.lt_succ_self d) (Nat.le_of_ble_eq_true rfl) rfl ?_
  show sg_Wp 0 N d m_Z_move 0 [(0, 2, 67), (1, 0, v1), (2, 0, v2), (3, 0, v3), (4, 0, v4), (5, 0, v5)] [] G _
  refine sg_Wp.mono h (fun r1 G1 hhr1 => ?_)
  show sg_Wp 0 N (d + 1) m_G_copy 14 [(0, 2, 44), (1, 0, v1), (2, 0, v2), (3, 0, v3), (4, 0, v4), (5, 0, v5)] [(0, r1)] G1 Q
  exact sg_ret (by decide +kernel) rfl (Or.inl rfl) hhr1
set_option maxRecDepth 100000 in
theorem g_G_count_44_0 {d N : Nat} (hN : 75 ≤ N) {v1 : Int} {G : SgM} {Q : Int → SgM → Prop} (h : (v1 = 0 → (Q (G 5 0) G)) ∧ (v1 ≠ 0 → ((v1 = 1 → (Q (G 5 4) G)) ∧ (v1 ≠ 1 → ((v1 = 2 → (Q (G 1 3) G)) ∧ (v1 ≠ 2 → ((v1 = 3 → (Q (G 3 3) G)) ∧ (v1 ≠ 3 → ((v1 = 4 → (Q (G 13 0) G)) ∧ (v1 ≠ 4 → ((v1 = 5 → (Q (G 21 12) G)) ∧ (v1 ≠ 5 → ((v1 = 6 → (Q (sg_ibc (G 21 13)) G)) ∧ (v1 ≠ 6 → ((v1 = 7 → (Q (G 46 1) G)) ∧ (v1 ≠ 7 → ((v1 = 8 → (Q (G 67 3) G)) ∧ (v1 ≠ 8 → (Q ((-2)) G))))))))))))))))))) : sg_Wp 0 N (d + 1) m_G_count 0 [(0, 2, 44), (1, 0, v1)] [] G Q := by
  refine sg_blk [(3, 0, 0, 1, 0)] (by decide +kernel) ?_
  refine And.intro rfl (?_)
  show sg_Wp 0 N (d + 1) m_G_count 1 [(0, 2, 44), (1, 0, v1)] [(0, v1)] G Q
  refine sg_tsw (dflt := 147) (low := 0) (high := 8) (offs := #[51, 62, 73, 84, 95, 106, 117, 131, 139]) (len := 51) (dt := 148) (ts := [52, 63, 74, 85, 96, 107, 118, 132, 140]) (by decide +kernel) (by decide) (by decide) (by decide) ?_
  refine ⟨fun q9 => ?_, fun q9 => ?_⟩
  · refine sg_blk [(1, 0, 0, 0, 0), (65, 0, 10, 10, 0), (65, 5, 4, 77, 2), (15, 0, 8, 259, 0)] (by decide +kernel) ?_
    refine And.intro (Nat.le_of_ble_eq_true rfl) (And.intro (ce_44 hN) (And.intro rr_44_0 (And.intro (ce_0 (Nat.le_trans (by decide) hN)) (And.intro rr_0_2 (And.intro (ce_5 (Nat.le_trans (by decide) hN)) (?_))))))
    show sg_Wp 0 N (d + 1) m_G_count 62 [(0, 2, 44), (1, 0, v1)] [(0, G 5 0)] G Q
    exact sg_ret (by decide +kernel) rfl (Or.inl rfl) ((h.1 q9))
  · refine ⟨fun q8 => ?_, fun q8 => ?_⟩
    · refine sg_blk [(1, 0, 0, 0, 0), (65, 0, 10, 10, 0), (65, 5, 4, 77, 2), (15, 0, 8, 262, 4)] (by decide +kernel) ?_
      refine And.intro (Nat.le_of_ble_eq_true rfl) (And.intro (ce_44 hN) (And.intro rr_44_0 (And.intro (ce_0 (Nat.le_trans (by decide) hN)) (And.intro rr_0_2 (And.intro (ce_5 (Nat.le_trans (by decide) hN)) (?_))))))
      show sg_Wp 0 N (d + 1) m_G_count 73 [(0, 2, 44), (1, 0, v1)] [(0, G 5 4)] G Q
      exact sg_ret (by decide +kernel) rfl (Or.inl rfl) (((h.2 q9).1 q8))
    · refine ⟨fun q7 => ?_, fun q7 => ?_⟩
      · refine sg_blk [(1, 0, 0, 0, 0), (65, 0, 10, 10, 0), (65, 1, 4, 265, 0), (15, 0, 7, 269, 3)] (by decide +kernel) ?_
        refine And.intro (Nat.le_of_ble_eq_true rfl) (And.intro (ce_44 hN) (And.intro rr_44_0 (And.intro (ce_0 (Nat.le_trans (by decide) hN)) (And.intro rr_0_0 (And.intro (ce_1 (Nat.le_trans (by decide) hN)) (?_))))))
        show sg_Wp 0 N (d + 1) m_G_count 84 [(0, 2, 44), (1, 0, v1)] [(0, G 1 3)] G Q
        exact sg_ret (by decide +kernel) rfl (Or.inl rfl) ((((h.2 q9).2 q8).1 q7))
      · refine ⟨fun q6 => ?_, fun q6 => ?_⟩
        · refine sg_blk [(1, 0, 0, 0, 0), (65, 0, 10, 10, 0), (65, 3, 4, 272, 1), (15, 0, 7, 269, 3)] (by decide +kernel) ?_
          refine And.intro (Nat.le_of_ble_eq_true rfl) (And.intro (ce_44 hN) (And.intro rr_44_0 (And.intro (ce_0 (Nat.le_trans (by decide) hN)) (And.intro rr_0_1 (And.intro (ce_3 (Nat.le_trans (by decide) hN)) (?_))))))
          show sg_Wp 0 N (d + 1) m_G_count 95 [(0, 2, 44), (1, 0, v1)] [(0, G 3 3)] G Q
          exact sg_ret (by decide +kernel) rfl (Or.inl rfl) (((((h.2 q9).2 q8).2 q7).1 q6))
        · refine ⟨fun q5 => ?_, fun q5 => ?_⟩
          · refine sg_blk [(1, 0, 0, 0, 0), (65, 0, 10, 10, 0), (65, 13, 4, 111, 3), (15, 0, 2, 117, 0)] (by decide +kernel) ?_
            refine And.intro (Nat.le_of_ble_eq_true rfl) (And.intro (ce_44 hN) (And.intro rr_44_0 (And.intro (ce_0 (Nat.le_trans (by decide) hN)) (And.intro rr_0_3 (And.intro (ce_13 (Nat.le_trans (by decide) hN)) (?_))))))
            show sg_Wp 0 N (d + 1) m_G_count 106 [(0, 2, 44), (1, 0, v1)] [(0, G 13 0)] G Q
            exact sg_ret (by decide +kernel) rfl (Or.inl rfl) ((((((h.2 q9).2 q8).2 q7).2 q6).1 q5))
          · refine ⟨fun q4 => ?_, fun q4 => ?_⟩
            · refine sg_blk [(1, 0, 0, 0, 0), (65, 0, 10, 10, 0), (65, 21, 4, 130, 5), (15, 0, 1, 166, 12)] (by decide +kernel) ?_
              refine And.intro (Nat.le_of_ble_eq_true rfl) (And.intro (ce_44 hN) (And.intro rr_44_0 (And.intro (ce_0 (Nat.le_trans (by decide) hN)) (And.intro rr_0_5 (And.intro (ce_21 (Nat.le_trans (by decide) hN)) (?_))))))
              show sg_Wp 0 N (d + 1) m_G_count 117 [(0, 2, 44), (1, 0, v1)] [(0, G 21 12)] G Q
              exact sg_ret (by decide +kernel) rfl (Or.inl rfl) (((((((h.2 q9).2 q8).2 q7).2 q6).2 q5).1 q4))
            · refine ⟨fun q3 => ?_, fun q3 => ?_⟩
              · refine sg_blk [(1, 0, 0, 0, 0), (65, 0, 10, 10, 0), (65, 21, 4, 130, 5), (15, 0, 1, 154, 13)] (by decide +kernel) ?_
                refine And.intro (Nat.le_of_ble_eq_true rfl) (And.intro (ce_44 hN) (And.intro rr_44_0 (And.intro (ce_0 (Nat.le_trans (by decide) hN)) (And.intro rr_0_5 (And.intro (ce_21 (Nat.le_trans (by decide) hN)) (?_))))))
                show sg_Wp 0 N (d + 1) m_G_count 128 [(0, 2, 44), (1, 0, v1)] [(0, G 21 13)] G Q
                refine sg_callS (k := d) (y' := m_I_bitCount) (av := [(0, G 21 13)]) (rest := []) (by decide +kernel) cs_I_bitCount ml_10_231 rfl (Nat.le_of_ble_eq_true rfl) (Nat.lt_succ_self d) (Nat.le_of_ble_eq_true rfl) rfl ?_
                show sg_Wp 0 N d m_I_bitCount 0 [(0, 0, G 21 13)] [] G _
                refine s_I_bitCount ?_
                show sg_Wp 0 N (d + 1) m_G_count 131 [(0, 2, 44), (1, 0, v1)] [(0, sg_ibc (G 21 13))] G Q
                exact sg_ret (by decide +kernel) rfl (Or.inl rfl) ((((((((h.2 q9).2 q8).2 q7).2 q6).2 q5).2 q4).1 q3))
              · refine ⟨fun q2 => ?_, fun q2 => ?_⟩
                · refine sg_blk [(1, 0, 0, 0, 0), (65, 46, 10, 28, 2), (15, 0, 3, 204, 1)] (by decide +kernel) ?_
                  refine And.intro (Nat.le_of_ble_eq_true rfl) (And.intro (ce_44 hN) (And.intro rr_44_2 (And.intro (ce_46 hN) (?_))))
                  show sg_Wp 0 N (d + 1) m_G_count 139 [(0, 2, 44), (1, 0, v1)] [(0, G 46 1)] G Q
                  exact sg_ret (by decide +kernel) rfl (Or.inl rfl) (((((((((h.2 q9).2 q8).2 q7).2 q6).2 q5).2 q4).2 q3).1 q2))
                · refine ⟨fun q1 => ?_, fun q1 => ?_⟩
                  · refine sg_blk [(1, 0, 0, 0, 0), (65, 67, 10, 42, 4), (15, 0, 6, 275, 3)] (by decide +kernel) ?_
                    refine And.intro (Nat.le_of_ble_eq_true rfl) (And.intro (ce_44 hN) (And.intro rr_44_4 (And.intro (ce_67 hN) (?_))))
                    show sg_Wp 0 N (d + 1) m_G_count 147 [(0, 2, 44), (1, 0, v1)] [(0, G 67 3)] G Q
                    exact sg_ret (by decide +kernel) rfl (Or.inl rfl) ((((((((((h.2 q9).2 q8).2 q7).2 q6).2 q5).2 q4).2 q3).2 q2).1 q1))
                  · refine sg_blk [(8, (-2), 0, 0, 0)] (by decide +kernel) ?_
                    refine And.intro rfl (And.intro rfl (?_))
                    show sg_Wp 0 N (d + 1) m_G_count 150 [(0, 2, 44), (1, 0, v1)] [(0, (-2))] G Q
                    exact sg_ret (by decide +kernel) rfl (Or.inl rfl) ((((((((((h.2 q9).2 q8).2 q7).2 q6).2 q5).2 q4).2 q3).2 q2).2 q1))
set_option maxRecDepth 100000 in
theorem g_G_decades_44_0 {d N : Nat} (hN : 75 ≤ N) {v1 v2 v3 : Int} {G : SgM} {Q : Int → SgM → Prop} (h : ((0 ≤ v2 ∧ v2 < 9) → (((0 ≤ v3 ∧ v3 < 2) → (sg_Wp 0 N d m_C_dayByLots 0 [(0, 2, 61), (1, 0, v1), (2, 0, v2)] [] G (fun r1 G1 => (r1 = 32 ∧ ((v3 ≠ 0 → (Q (sg_ibc (G1 32 13)) G1)) ∧ (¬ (v3 ≠ 0) → (Q (G1 32 12) G1))))))) ∧ (¬ (0 ≤ v3 ∧ v3 < 2) → (Q ((-2)) G)))) ∧ (¬ (0 ≤ v2 ∧ v2 < 9) → (Q ((-2)) G))) : sg_Wp 0 N (d + 1) m_G_decades 0 [(0, 2, 44), (1, 0, v1), (2, 0, v2), (3, 0, v3)] [] G Q := by
  refine sg_blk [(3, 0, 0, 2, 0), (8, 9, 0, 0, 0)] (by decide +kernel) ?_
  refine And.intro rfl (And.intro rfl (And.intro rfl (?_)))
  show sg_Wp 0 N (d + 1) m_G_decades 3 [(0, 2, 44), (1, 0, v1), (2, 0, v2), (3, 0, v3)] [(0, 9), (0, v2)] G Q
  refine sg_callS (k := d) (y' := m_G_isBelow) (av := [(0, v2), (0, 9)]) (rest := []) (by decide +kernel) cs_G_isBelow ml_10_46 rfl (Nat.le_of_ble_eq_true rfl) (Nat.lt_succ_self d) (Nat.le_of_ble_eq_true rfl) rfl ?_
  show sg_Wp 0 N d m_G_isBelow 0 [(0, 0, v2), (1, 0, 9)] [] G _
  refine s_G_isBelow ?_
  show sg_Wp 0 N (d + 1) m_G_decades 6 [(0, 2, 44), (1, 0, v1), (2, 0, v2), (3, 0, v3)] [(0, sg_bo (0 ≤ v2 ∧ v2 < 9))] G Q
  refine sg_bif_eq (off := 11) (tgt := 17) (by decide +kernel) (by decide) ⟨fun q3 => ?_, fun q3 => ?_⟩
  · refine sg_blk [(3, 0, 0, 3, 0), (7, 2, 0, 0, 0)] (by decide +kernel) ?_
    refine And.intro rfl (And.intro rfl (?_))
    show sg_Wp 0 N (d + 1) m_G_decades 11 [(0, 2, 44), (1, 0, v1), (2, 0, v2), (3, 0, v3)] [(0, 2), (0, v3)] G Q
    refine sg_callS (k := d) (y' := m_G_isBelow) (av := [(0, v3), (0, 2)]) (rest := []) (by decide +kernel) cs_G_isBelow ml_10_46 rfl (Nat.le_of_ble_eq_true rfl) (Nat.lt_succ_self d) (Nat.le_of_ble_eq_true rfl) rfl ?_
    show sg_Wp 0 N d m_G_isBelow 0 [(0, 0, v3), (1, 0, 2)] [] G _
    refine s_G_isBelow ?_
    show sg_Wp 0 N (d + 1) m_G_decades 14 [(0, 2, 44), (1, 0, v1), (2, 0, v2), (3, 0, v3)] [(0, sg_bo (0 ≤ v3 ∧ v3 < 2))] G Q
    refine sg_bif_ne (off := 6) (tgt := 20) (by decide +kernel) (by decide) ⟨fun q2 => ?_, fun q2 => ?_⟩
    · refine sg_blk [(1, 0, 0, 0, 0), (65, 61, 10, 35, 3), (3, 0, 0, 1, 0), (3, 0, 0, 2, 0)] (by decide +kernel) ?_
      refine And.intro (Nat.le_of_ble_eq_true rfl) (And.intro (ce_44 hN) (And.intro rr_44_3 (And.intro rfl (And.intro rfl (?_)))))
      show sg_Wp 0 N (d + 1) m_G_decades 26 [(0, 2, 44), (1, 0, v1), (2, 0, v2), (3, 0, v3)] [(0, v2), (0, v1), (2, 61)] G Q
      refine sg_callV (k := d) (y' := m_C_dayByLots) (av := [(0, v1), (0, v2)]) (rest := []) (b := 61) (by decide +kernel) cv_C_dayByLots ml_10_227 (ce_61 hN) rfl rfl (Nat.le_of_ble_eq_true rfl) (Nat.lt_succ_self d) (Nat.le_of_ble_eq_true rfl) rfl ?_
      show sg_Wp 0 N d m_C_dayByLots 0 [(0, 2, 61), (1, 0, v1), (2, 0, v2)] [] G _
      refine sg_Wp.mono (((h.1 q3).1 q2)) (fun r1 G1 hhr1 => ?_)
      rcases hhr1 with ⟨er1, hhr1⟩
      · subst er1
        show sg_Wp 0 N (d + 1) m_G_decades 29 [(0, 2, 44), (1, 0, v1), (2, 0, v2), (3, 0, v3)] [(2, 32)] G1 Q
        refine sg_blk [(30, 0, 0, 4, 0), (3, 0, 0, 3, 0)] (by decide +kernel) ?_
        refine And.intro (Nat.le_of_ble_eq_true rfl) (And.intro rfl (?_))
        show sg_Wp 0 N (d + 1) m_G_decades 32 [(0, 2, 44), (1, 0, v1), (2, 0, v2), (3, 0, v3), (4, 2, 32)] [(0, v3)] G1 Q
        refine sg_if_ne (off := 11) (tgt := 43) (by decide +kernel) (by decide) ⟨fun q1 => ?_, fun q1 => ?_⟩
        · refine sg_blk [(2, 0, 0, 4, 0), (15, 0, 1, 154, 13)] (by decide +kernel) ?_
          refine And.intro (Nat.le_of_ble_eq_true rfl) (And.intro (ce_32 (Nat.le_trans (by decide) hN)) (?_))
          show sg_Wp 0 N (d + 1) m_G_decades 48 [(0, 2, 44), (1, 0, v1), (2, 0, v2), (3, 0, v3), (4, 2, 32)] [(0, G1 32 13)] G1 Q
          refine sg_callS (k := d) (y' := m_I_bitCount) (av := [(0, G1 32 13)]) (rest := []) (by decide +kernel) cs_I_bitCount ml_10_231 rfl (Nat.le_of_ble_eq_true rfl) (Nat.lt_succ_self d) (Nat.le_of_ble_eq_true rfl) rfl ?_
          show sg_Wp 0 N d m_I_bitCount 0 [(0, 0, G1 32 13)] [] G1 _
          refine s_I_bitCount ?_
          show sg_Wp 0 N (d + 1) m_G_decades 51 [(0, 2, 44), (1, 0, v1), (2, 0, v2), (3, 0, v3), (4, 2, 32)] [(0, sg_ibc (G1 32 13))] G1 Q
          exact sg_ret (by decide +kernel) rfl (Or.inl rfl) ((hhr1.1 q1))
        · refine sg_blk [(2, 0, 0, 4, 0), (15, 0, 1, 166, 12)] (by decide +kernel) ?_
          refine And.intro (Nat.le_of_ble_eq_true rfl) (And.intro (ce_32 (Nat.le_trans (by decide) hN)) (?_))
          show sg_Wp 0 N (d + 1) m_G_decades 40 [(0, 2, 44), (1, 0, v1), (2, 0, v2), (3, 0, v3), (4, 2, 32)] [(0, G1 32 12)] G1 Q
          refine sg_goto (off := 11) (tgt := 51) (by decide +kernel) (by decide) ?_
          exact sg_ret (by decide +kernel) rfl (Or.inl rfl) ((hhr1.2 q1))
    · refine sg_blk [(8, (-2), 0, 0, 0)] (by decide +kernel) ?_
      refine And.intro rfl (And.intro rfl (?_))
      show sg_Wp 0 N (d + 1) m_G_decades 19 [(0, 2, 44), (1, 0, v1), (2, 0, v2), (3, 0, v3)] [(0, (-2))] G Q
      exact sg_ret (by decide +kernel) rfl (Or.inl rfl) (((h.1 q3).2 q2))
  · refine sg_blk [(8, (-2), 0, 0, 0)] (by decide +kernel) ?_
    refine And.intro rfl (And.intro rfl (?_))
    show sg_Wp 0 N (d + 1) m_G_decades 19 [(0, 2, 44), (1, 0, v1), (2, 0, v2), (3, 0, v3)] [(0, (-2))] G Q
    exact sg_ret (by decide +kernel) rfl (Or.inl rfl) ((h.2 q3))
set_option maxRecDepth 100000 in
theorem g_G_digest_44_0 {d N : Nat} (hN : 75 ≤ N) {G : SgM} {Q : Int → SgM → Prop} (h : sg_Wp 0 N (d + 1) m_G_digest 6 [(0, 2, 44), (1, 1, 17), (3, 0, 0)] [] G Q) : sg_Wp 0 N (d + 1) m_G_digest 0 [(0, 2, 44)] [] G Q := by
  refine sg_blk [(12, 17, 0, 278, 0), (27, 0, 0, 1, 0), (7, 0, 0, 0, 0), (25, 0, 0, 3, 0)] (by decide +kernel) ?_
  refine And.intro rfl (And.intro rfl (And.intro rfl (And.intro rfl (?_))))
  show sg_Wp 0 N (d + 1) m_G_digest 6 [(0, 2, 44), (1, 1, 17), (3, 0, 0)] [] G Q
  exact h
set_option maxRecDepth 100000 in
theorem g_G_digest_44_6 {d N : Nat} (hN : 75 ≤ N) {v1 v3 : Int} {G : SgM} {Q : Int → SgM → Prop} (h : (8 ≤ v3 → (sg_Wp 0 N (d + 1) m_G_digest 33 [(0, 2, 44), (1, 1, v1), (3, 0, 0)] [] G Q)) ∧ (¬ (8 ≤ v3) → (sg_Wp 0 N d m_G_count 0 [(0, 2, 44), (1, 0, v3)] [] G (fun r1 G1 => sg_Wp 0 N (d + 1) m_G_digest 6 [(0, 2, 44), (1, 1, sg_ladd (sg_lmul 31 v1) r1), (3, 0, sg_iadd v3 1)] [] G1 Q)))) : sg_Wp 0 N (d + 1) m_G_digest 6 [(0, 2, 44), (1, 1, v1), (3, 0, v3)] [] G Q := by
  refine sg_blk [(3, 0, 0, 3, 0), (8, 8, 0, 0, 0)] (by decide +kernel) ?_
  refine And.intro rfl (And.intro rfl (And.intro rfl (?_)))
  show sg_Wp 0 N (d + 1) m_G_digest 9 [(0, 2, 44), (1, 1, v1), (3, 0, v3)] [(0, 8), (0, v3)] G Q
  refine sg_icmp_ge (off := 22) (tgt := 31) (by decide +kernel) (by decide) ⟨fun q1 => ?_, fun q1 => ?_⟩
  · refine sg_blk [(7, 0, 0, 0, 0), (25, 0, 0, 3, 0)] (by decide +kernel) ?_
    refine And.intro rfl (And.intro rfl (?_))
    show sg_Wp 0 N (d + 1) m_G_digest 33 [(0, 2, 44), (1, 1, v1), (3, 0, 0)] [] G Q
    exact (h.1 q1)
  · refine sg_blk [(12, 31, 0, 280, 0), (5, 0, 0, 1, 0), (46, 0, 0, 0, 0), (1, 0, 0, 0, 0), (3, 0, 0, 3, 0)] (by decide +kernel) ?_
    refine And.intro rfl (And.intro rfl (And.intro (Nat.le_of_ble_eq_true rfl) (And.intro rfl (?_))))
    show sg_Wp 0 N (d + 1) m_G_digest 19 [(0, 2, 44), (1, 1, v1), (3, 0, v3)] [(0, v3), (2, 44), (1, sg_lmul 31 v1)] G Q
    refine sg_callV (k := d) (y' := m_G_count) (av := [(0, v3)]) (rest := [(1, sg_lmul 31 v1)]) (b := 44) (by decide +kernel) cv_G_count ml_10_282 (ce_44 hN) rfl rfl (Nat.le_of_ble_eq_true rfl) (Nat.lt_succ_self d) (Nat.le_of_ble_eq_true rfl) rfl ?_
    show sg_Wp 0 N d m_G_count 0 [(0, 2, 44), (1, 0, v3)] [] G _
    refine sg_Wp.mono ((h.2 q1)) (fun r1 G1 hhr1 => ?_)
    show sg_Wp 0 N (d + 1) m_G_digest 22 [(0, 2, 44), (1, 1, v1), (3, 0, v3)] [(0, r1), (1, sg_lmul 31 v1)] G1 Q
    refine sg_blk [(53, 0, 0, 0, 0), (44, 0, 0, 0, 0), (27, 0, 0, 1, 0), (31, 1, 0, 3, 0)] (by decide +kernel) ?_
    refine And.intro rfl (And.intro rfl (?_))
    show sg_Wp 0 N (d + 1) m_G_digest 28 [(0, 2, 44), (1, 1, sg_ladd (sg_lmul 31 v1) r1), (3, 0, sg_iadd v3 1)] [] G1 Q
    refine sg_goto (off := -22) (tgt := 6) (by decide +kernel) (by decide) ?_
    exact hhr1
set_option maxRecDepth 100000 in
theorem g_G_digest_44_33 {d N : Nat} (hN : 75 ≤ N) {v1 v3 : Int} {G : SgM} {Q : Int → SgM → Prop} (h : (2 ≤ v3 → (sg_Wp 0 N (d + 1) m_G_digest 59 [(0, 2, 44), (1, 1, v1), (3, 0, 0)] [] G Q)) ∧ (¬ (2 ≤ v3) → (sg_Wp 0 N d m_G_fault 0 [(0, 2, 44), (1, 0, v3)] [] G (fun r2 G2 => sg_Wp 0 N (d + 1) m_G_digest 33 [(0, 2, 44), (1, 1, sg_ladd (sg_lmul 31 v1) r2), (3, 0, sg_iadd v3 1)] [] G2 Q)))) : sg_Wp 0 N (d + 1) m_G_digest 33 [(0, 2, 44), (1, 1, v1), (3, 0, v3)] [] G Q := by
  refine sg_blk [(3, 0, 0, 3, 0), (7, 2, 0, 0, 0)] (by decide +kernel) ?_
  refine And.intro rfl (And.intro rfl (?_))
  show sg_Wp 0 N (d + 1) m_G_digest 35 [(0, 2, 44), (1, 1, v1), (3, 0, v3)] [(0, 2), (0, v3)] G Q
  refine sg_icmp_ge (off := 22) (tgt := 57) (by decide +kernel) (by decide) ⟨fun q2 => ?_, fun q2 => ?_⟩
  · refine sg_blk [(7, 0, 0, 0, 0), (25, 0, 0, 3, 0)] (by decide +kernel) ?_
    refine And.intro rfl (And.intro rfl (?_))
    show sg_Wp 0 N (d + 1) m_G_digest 59 [(0, 2, 44), (1, 1, v1), (3, 0, 0)] [] G Q
    exact (h.1 q2)
  · refine sg_blk [(12, 31, 0, 280, 0), (5, 0, 0, 1, 0), (46, 0, 0, 0, 0), (1, 0, 0, 0, 0), (3, 0, 0, 3, 0)] (by decide +kernel) ?_
    refine And.intro rfl (And.intro rfl (And.intro (Nat.le_of_ble_eq_true rfl) (And.intro rfl (?_))))
    show sg_Wp 0 N (d + 1) m_G_digest 45 [(0, 2, 44), (1, 1, v1), (3, 0, v3)] [(0, v3), (2, 44), (1, sg_lmul 31 v1)] G Q
    refine sg_callV (k := d) (y' := m_G_fault) (av := [(0, v3)]) (rest := [(1, sg_lmul 31 v1)]) (b := 44) (by decide +kernel) cv_G_fault ml_10_285 (ce_44 hN) rfl rfl (Nat.le_of_ble_eq_true rfl) (Nat.lt_succ_self d) (Nat.le_of_ble_eq_true rfl) rfl ?_
    show sg_Wp 0 N d m_G_fault 0 [(0, 2, 44), (1, 0, v3)] [] G _
    refine sg_Wp.mono ((h.2 q2)) (fun r2 G2 hhr2 => ?_)
    show sg_Wp 0 N (d + 1) m_G_digest 48 [(0, 2, 44), (1, 1, v1), (3, 0, v3)] [(0, r2), (1, sg_lmul 31 v1)] G2 Q
    refine sg_blk [(53, 0, 0, 0, 0), (44, 0, 0, 0, 0), (27, 0, 0, 1, 0), (31, 1, 0, 3, 0)] (by decide +kernel) ?_
    refine And.intro rfl (And.intro rfl (?_))
    show sg_Wp 0 N (d + 1) m_G_digest 54 [(0, 2, 44), (1, 1, sg_ladd (sg_lmul 31 v1) r2), (3, 0, sg_iadd v3 1)] [] G2 Q
    refine sg_goto (off := -21) (tgt := 33) (by decide +kernel) (by decide) ?_
    exact hhr2
set_option maxRecDepth 100000 in
theorem g_G_digest_44_59 {d N : Nat} (hN : 75 ≤ N) {v1 v3 : Int} {G : SgM} {Q : Int → SgM → Prop} (h : ((G 5 0) ≤ v3 → (sg_Wp 0 N (d + 1) m_G_digest 88 [(0, 2, 44), (1, 1, v1), (3, 0, 0)] [] G Q)) ∧ (¬ ((G 5 0) ≤ v3) → (sg_Wp 0 N d m_G_digestPost 0 [(0, 2, 44), (1, 1, v1), (3, 0, v3)] [] G (fun r3 G3 => sg_Wp 0 N (d + 1) m_G_digest 59 [(0, 2, 44), (1, 1, r3), (3, 0, sg_iadd v3 1)] [] G3 Q)))) : sg_Wp 0 N (d + 1) m_G_digest 59 [(0, 2, 44), (1, 1, v1), (3, 0, v3)] [] G Q := by
  refine sg_blk [(3, 0, 0, 3, 0), (1, 0, 0, 0, 0), (65, 0, 10, 10, 0), (65, 5, 4, 77, 2), (15, 0, 8, 259, 0)] (by decide +kernel) ?_
  refine And.intro rfl (And.intro (Nat.le_of_ble_eq_true rfl) (And.intro (ce_44 hN) (And.intro rr_44_0 (And.intro (ce_0 (Nat.le_trans (by decide) hN)) (And.intro rr_0_2 (And.intro (ce_5 (Nat.le_trans (by decide) hN)) (?_)))))))
  show sg_Wp 0 N (d + 1) m_G_digest 70 [(0, 2, 44), (1, 1, v1), (3, 0, v3)] [(0, G 5 0), (0, v3)] G Q
  refine sg_icmp_ge (off := 16) (tgt := 86) (by decide +kernel) (by decide) ⟨fun q3 => ?_, fun q3 => ?_⟩
  · refine sg_blk [(7, 0, 0, 0, 0), (25, 0, 0, 3, 0)] (by decide +kernel) ?_
    refine And.intro rfl (And.intro rfl (?_))
    show sg_Wp 0 N (d + 1) m_G_digest 88 [(0, 2, 44), (1, 1, v1), (3, 0, 0)] [] G Q
    exact (h.1 q3)
  · refine sg_blk [(1, 0, 0, 0, 0), (5, 0, 0, 1, 0), (3, 0, 0, 3, 0)] (by decide +kernel) ?_
    refine And.intro (Nat.le_of_ble_eq_true rfl) (And.intro rfl (And.intro rfl (?_)))
    show sg_Wp 0 N (d + 1) m_G_digest 76 [(0, 2, 44), (1, 1, v1), (3, 0, v3)] [(0, v3), (1, v1), (2, 44)] G Q
    refine sg_callV (k := d) (y' := m_G_digestPost) (av := [(1, v1), (0, v3)]) (rest := []) (b := 44) (by decide +kernel) cv_G_digestPost ml_10_288 (ce_44 hN) rfl rfl (Nat.le_of_ble_eq_true rfl) (Nat.lt_succ_self d) (Nat.le_of_ble_eq_true rfl) rfl ?_
    show sg_Wp 0 N d m_G_digestPost 0 [(0, 2, 44), (1, 1, v1), (3, 0, v3)] [] G _
    refine sg_Wp.mono ((h.2 q3)) (fun r3 G3 hhr3 => ?_)
    show sg_Wp 0 N (d + 1) m_G_digest 79 [(0, 2, 44), (1, 1, v1), (3, 0, v3)] [(1, r3)] G3 Q
    refine sg_blk [(27, 0, 0, 1, 0), (31, 1, 0, 3, 0)] (by decide +kernel) ?_
    refine And.intro rfl (And.intro rfl (?_))
    show sg_Wp 0 N (d + 1) m_G_digest 83 [(0, 2, 44), (1, 1, r3), (3, 0, sg_iadd v3 1)] [] G3 Q
    refine sg_goto (off := -24) (tgt := 59) (by decide +kernel) (by decide) ?_
    exact hhr3
set_option maxRecDepth 100000 in
theorem g_G_digest_44_88 {d N : Nat} (hN : 75 ≤ N) {v1 v3 : Int} {G : SgM} {Q : Int → SgM → Prop} (h : ((G 5 4) ≤ v3 → (sg_Wp 0 N (d + 1) m_G_digest 117 [(0, 2, 44), (1, 1, v1), (3, 0, 0)] [] G Q)) ∧ (¬ ((G 5 4) ≤ v3) → (sg_Wp 0 N d m_G_digestPerson 0 [(0, 2, 44), (1, 1, v1), (3, 0, v3)] [] G (fun r4 G4 => sg_Wp 0 N (d + 1) m_G_digest 88 [(0, 2, 44), (1, 1, r4), (3, 0, sg_iadd v3 1)] [] G4 Q)))) : sg_Wp 0 N (d + 1) m_G_digest 88 [(0, 2, 44), (1, 1, v1), (3, 0, v3)] [] G Q := by
  refine sg_blk [(3, 0, 0, 3, 0), (1, 0, 0, 0, 0), (65, 0, 10, 10, 0), (65, 5, 4, 77, 2), (15, 0, 8, 262, 4)] (by decide +kernel) ?_
  refine And.intro rfl (And.intro (Nat.le_of_ble_eq_true rfl) (And.intro (ce_44 hN) (And.intro rr_44_0 (And.intro (ce_0 (Nat.le_trans (by decide) hN)) (And.intro rr_0_2 (And.intro (ce_5 (Nat.le_trans (by decide) hN)) (?_)))))))
  show sg_Wp 0 N (d + 1) m_G_digest 99 [(0, 2, 44), (1, 1, v1), (3, 0, v3)] [(0, G 5 4), (0, v3)] G Q
  refine sg_icmp_ge (off := 16) (tgt := 115) (by decide +kernel) (by decide) ⟨fun q4 => ?_, fun q4 => ?_⟩
  · refine sg_blk [(7, 0, 0, 0, 0), (25, 0, 0, 3, 0)] (by decide +kernel) ?_
    refine And.intro rfl (And.intro rfl (?_))
    show sg_Wp 0 N (d + 1) m_G_digest 117 [(0, 2, 44), (1, 1, v1), (3, 0, 0)] [] G Q
    exact (h.1 q4)
  · refine sg_blk [(1, 0, 0, 0, 0), (5, 0, 0, 1, 0), (3, 0, 0, 3, 0)] (by decide +kernel) ?_
    refine And.intro (Nat.le_of_ble_eq_true rfl) (And.intro rfl (And.intro rfl (?_)))
    show sg_Wp 0 N (d + 1) m_G_digest 105 [(0, 2, 44), (1, 1, v1), (3, 0, v3)] [(0, v3), (1, v1), (2, 44)] G Q
    refine sg_callV (k := d) (y' := m_G_digestPerson) (av := [(1, v1), (0, v3)]) (rest := []) (b := 44) (by decide +kernel) cv_G_digestPerson ml_10_292 (ce_44 hN) rfl rfl (Nat.le_of_ble_eq_true rfl) (Nat.lt_succ_self d) (Nat.le_of_ble_eq_true rfl) rfl ?_
    show sg_Wp 0 N d m_G_digestPerson 0 [(0, 2, 44), (1, 1, v1), (3, 0, v3)] [] G _
    refine sg_Wp.mono ((h.2 q4)) (fun r4 G4 hhr4 => ?_)
    show sg_Wp 0 N (d + 1) m_G_digest 108 [(0, 2, 44), (1, 1, v1), (3, 0, v3)] [(1, r4)] G4 Q
    refine sg_blk [(27, 0, 0, 1, 0), (31, 1, 0, 3, 0)] (by decide +kernel) ?_
    refine And.intro rfl (And.intro rfl (?_))
    show sg_Wp 0 N (d + 1) m_G_digest 112 [(0, 2, 44), (1, 1, r4), (3, 0, sg_iadd v3 1)] [] G4 Q
    refine sg_goto (off := -24) (tgt := 88) (by decide +kernel) (by decide) ?_
    exact hhr4
set_option maxRecDepth 100000 in
theorem g_G_digest_44_117 {d N : Nat} (hN : 75 ≤ N) {v1 v3 : Int} {G : SgM} {Q : Int → SgM → Prop} (h : (24 ≤ v3 → (sg_Wp 0 N d m_G_digestRest 0 [(0, 2, 44), (1, 1, v1)] [] G (fun r5 G5 => Q r5 G5))) ∧ (¬ (24 ≤ v3) → (sg_Wp 0 N d m_G_changes 0 [(0, 2, 44), (1, 0, v3)] [] G (fun r6 G6 => sg_Wp 0 N (d + 1) m_G_digest 117 [(0, 2, 44), (1, 1, sg_ladd (sg_lmul 31 v1) r6), (3, 0, sg_iadd v3 1)] [] G6 Q)))) : sg_Wp 0 N (d + 1) m_G_digest 117 [(0, 2, 44), (1, 1, v1), (3, 0, v3)] [] G Q := by
  refine sg_blk [(3, 0, 0, 3, 0), (8, 24, 0, 0, 0)] (by decide +kernel) ?_
  refine And.intro rfl (And.intro rfl (And.intro rfl (?_)))
  show sg_Wp 0 N (d + 1) m_G_digest 120 [(0, 2, 44), (1, 1, v1), (3, 0, v3)] [(0, 24), (0, v3)] G Q
  refine sg_icmp_ge (off := 22) (tgt := 142) (by decide +kernel) (by decide) ⟨fun q5 => ?_, fun q5 => ?_⟩
  · refine sg_blk [(1, 0, 0, 0, 0), (5, 0, 0, 1, 0)] (by decide +kernel) ?_
    refine And.intro (Nat.le_of_ble_eq_true rfl) (And.intro rfl (?_))
    show sg_Wp 0 N (d + 1) m_G_digest 144 [(0, 2, 44), (1, 1, v1), (3, 0, v3)] [(1, v1), (2, 44)] G Q
    refine sg_callV (k := d) (y' := m_G_digestRest) (av := [(1, v1)]) (rest := []) (b := 44) (by decide +kernel) cv_G_digestRest ml_10_297 (ce_44 hN) rfl rfl (Nat.le_of_ble_eq_true rfl) (Nat.lt_succ_self d) (Nat.le_of_ble_eq_true rfl) rfl ?_
    show sg_Wp 0 N d m_G_digestRest 0 [(0, 2, 44), (1, 1, v1)] [] G _
    refine sg_Wp.mono ((h.1 q5)) (fun r5 G5 hhr5 => ?_)
    show sg_Wp 0 N (d + 1) m_G_digest 147 [(0, 2, 44), (1, 1, v1), (3, 0, v3)] [(1, r5)] G5 Q
    exact sg_lret (by decide +kernel) rfl hhr5
  · refine sg_blk [(12, 31, 0, 280, 0), (5, 0, 0, 1, 0), (46, 0, 0, 0, 0), (1, 0, 0, 0, 0), (3, 0, 0, 3, 0)] (by decide +kernel) ?_
    refine And.intro rfl (And.intro rfl (And.intro (Nat.le_of_ble_eq_true rfl) (And.intro rfl (?_))))
    show sg_Wp 0 N (d + 1) m_G_digest 130 [(0, 2, 44), (1, 1, v1), (3, 0, v3)] [(0, v3), (2, 44), (1, sg_lmul 31 v1)] G Q
    refine sg_callV (k := d) (y' := m_G_changes) (av := [(0, v3)]) (rest := [(1, sg_lmul 31 v1)]) (b := 44) (by decide +kernel) cv_G_changes ml_10_295 (ce_44 hN) rfl rfl (Nat.le_of_ble_eq_true rfl) (Nat.lt_succ_self d) (Nat.le_of_ble_eq_true rfl) rfl ?_
    show sg_Wp 0 N d m_G_changes 0 [(0, 2, 44), (1, 0, v3)] [] G _
    refine sg_Wp.mono ((h.2 q5)) (fun r6 G6 hhr6 => ?_)
    show sg_Wp 0 N (d + 1) m_G_digest 133 [(0, 2, 44), (1, 1, v1), (3, 0, v3)] [(0, r6), (1, sg_lmul 31 v1)] G6 Q
    refine sg_blk [(53, 0, 0, 0, 0), (44, 0, 0, 0, 0), (27, 0, 0, 1, 0), (31, 1, 0, 3, 0)] (by decide +kernel) ?_
    refine And.intro rfl (And.intro rfl (?_))
    show sg_Wp 0 N (d + 1) m_G_digest 139 [(0, 2, 44), (1, 1, sg_ladd (sg_lmul 31 v1) r6), (3, 0, sg_iadd v3 1)] [] G6 Q
    refine sg_goto (off := -22) (tgt := 117) (by decide +kernel) (by decide) ?_
    exact hhr6
set_option maxRecDepth 100000 in
theorem g_G_digestPerson_44_0 {d N : Nat} (hN : 75 ≤ N) {v1 v3 : Int} {G : SgM} {Q : Int → SgM → Prop} (h : sg_Wp 0 N (d + 1) m_G_digestPerson 6 [(0, 2, 44), (3, 0, v3), (4, 1, v1), (6, 0, 0)] [] G Q) : sg_Wp 0 N (d + 1) m_G_digestPerson 0 [(0, 2, 44), (1, 1, v1), (3, 0, v3)] [] G Q := by
  refine sg_blk [(5, 0, 0, 1, 0), (28, 0, 0, 4, 0), (7, 0, 0, 0, 0), (26, 0, 0, 6, 0)] (by decide +kernel) ?_
  refine And.intro rfl (And.intro rfl (And.intro rfl (And.intro rfl (?_))))
  show sg_Wp 0 N (d + 1) m_G_digestPerson 6 [(0, 2, 44), (1, 1, v1), (3, 0, v3), (4, 1, v1), (6, 0, 0)] [] G Q
  exact sg_Wp.keepk [0, 2, 3, 4] rfl h
set_option maxRecDepth 100000 in
theorem g_G_digestPerson_44_6 {d N : Nat} (hN : 75 ≤ N) {v3 v4 v6 : Int} {G : SgM} {Q : Int → SgM → Prop} (h : (4 ≤ v6 → (sg_Wp 0 N (d + 1) m_G_digestPerson 38 [(0, 2, 44), (3, 0, v3), (4, 1, v4), (6, 0, 0)] [] G Q)) ∧ (¬ (4 ≤ v6) → (sg_Wp 0 N d m_G_person 0 [(0, 2, 44), (1, 0, v3), (2, 0, v6)] [] G (fun r1 G1 => sg_Wp 0 N (d + 1) m_G_digestPerson 6 [(0, 2, 44), (3, 0, v3), (4, 1, sg_ladd (sg_lmul 31 v4) r1), (6, 0, sg_iadd v6 1)] [] G1 Q)))) : sg_Wp 0 N (d + 1) m_G_digestPerson 6 [(0, 2, 44), (3, 0, v3), (4, 1, v4), (6, 0, v6)] [] G Q := by
  refine sg_blk [(4, 0, 0, 6, 0), (7, 4, 0, 0, 0)] (by decide +kernel) ?_
  refine And.intro rfl (And.intro rfl (?_))
  show sg_Wp 0 N (d + 1) m_G_digestPerson 9 [(0, 2, 44), (3, 0, v3), (4, 1, v4), (6, 0, v6)] [(0, 4), (0, v6)] G Q
  refine sg_icmp_ge (off := 26) (tgt := 35) (by decide +kernel) (by decide) ⟨fun q1 => ?_, fun q1 => ?_⟩
  · refine sg_blk [(7, 0, 0, 0, 0), (26, 0, 0, 6, 0)] (by decide +kernel) ?_
    refine And.intro rfl (And.intro rfl (?_))
    show sg_Wp 0 N (d + 1) m_G_digestPerson 38 [(0, 2, 44), (3, 0, v3), (4, 1, v4), (6, 0, 0)] [] G Q
    exact (h.1 q1)
  · refine sg_blk [(12, 31, 0, 280, 0), (6, 0, 0, 4, 0), (46, 0, 0, 0, 0), (1, 0, 0, 0, 0), (3, 0, 0, 3, 0), (4, 0, 0, 6, 0)] (by decide +kernel) ?_
    refine And.intro rfl (And.intro rfl (And.intro (Nat.le_of_ble_eq_true rfl) (And.intro rfl (And.intro rfl (?_)))))
    show sg_Wp 0 N (d + 1) m_G_digestPerson 22 [(0, 2, 44), (3, 0, v3), (4, 1, v4), (6, 0, v6)] [(0, v6), (0, v3), (2, 44), (1, sg_lmul 31 v4)] G Q
    refine sg_callV (k := d) (y' := m_G_person) (av := [(0, v3), (0, v6)]) (rest := [(1, sg_lmul 31 v4)]) (b := 44) (by decide +kernel) cv_G_person ml_10_309 (ce_44 hN) rfl rfl (Nat.le_of_ble_eq_true rfl) (Nat.lt_succ_self d) (Nat.le_of_ble_eq_true rfl) rfl ?_
    show sg_Wp 0 N d m_G_person 0 [(0, 2, 44), (1, 0, v3), (2, 0, v6)] [] G _
    refine sg_Wp.mono ((h.2 q1)) (fun r1 G1 hhr1 => ?_)
    show sg_Wp 0 N (d + 1) m_G_digestPerson 25 [(0, 2, 44), (3, 0, v3), (4, 1, v4), (6, 0, v6)] [(0, r1), (1, sg_lmul 31 v4)] G1 Q
    refine sg_blk [(53, 0, 0, 0, 0), (44, 0, 0, 0, 0), (28, 0, 0, 4, 0), (31, 1, 0, 6, 0)] (by decide +kernel) ?_
    refine And.intro rfl (And.intro rfl (?_))
    show sg_Wp 0 N (d + 1) m_G_digestPerson 32 [(0, 2, 44), (3, 0, v3), (4, 1, sg_ladd (sg_lmul 31 v4) r1), (6, 0, sg_iadd v6 1)] [] G1 Q
    refine sg_goto (off := -26) (tgt := 6) (by decide +kernel) (by decide) ?_
    exact hhr1
set_option maxRecDepth 100000 in
theorem g_G_digestPerson_44_38 {d N : Nat} (hN : 75 ≤ N) {v3 v4 v6 : Int} {G : SgM} {Q : Int → SgM → Prop} (h : (4 ≤ v6 → (sg_Wp 0 N d m_G_stroll 0 [(0, 2, 44), (1, 0, v3), (2, 0, 0)] [] G (fun r2 G2 => sg_Wp 0 N d m_G_stroll 0 [(0, 2, 44), (1, 0, v3), (2, 0, 1)] [] G2 (fun r3 G3 => sg_Wp 0 N d m_G_was 0 [(0, 2, 44), (1, 0, v3), (2, 0, 0)] [] G3 (fun r4 G4 => sg_Wp 0 N d m_G_was 0 [(0, 2, 44), (1, 0, v3), (2, 0, 1)] [] G4 (fun r5 G5 => sg_Wp 0 N d m_H_hourToAsk 0 [(0, 2, 46), (1, 0, v3)] [] G5 (fun r6 G6 => Q (sg_ladd (sg_lmul 31 (sg_ladd (sg_lmul 31 (sg_ladd (sg_lmul 31 (sg_ladd (sg_lmul 31 (sg_ladd (sg_lmul 31 v4) r2)) r3)) r4)) r5)) r6) G6))))))) ∧ (¬ (4 ≤ v6) → (sg_Wp 0 N (d + 1) m_G_digestPerson 47 [(0, 2, 44), (3, 0, v3), (4, 1, v4), (6, 0, v6), (7, 0, 0)] [] G Q))) : sg_Wp 0 N (d + 1) m_G_digestPerson 38 [(0, 2, 44), (3, 0, v3), (4, 1, v4), (6, 0, v6)] [] G Q := by
  refine sg_blk [(4, 0, 0, 6, 0), (7, 4, 0, 0, 0)] (by decide +kernel) ?_
  refine And.intro rfl (And.intro rfl (?_))
  show sg_Wp 0 N (d + 1) m_G_digestPerson 41 [(0, 2, 44), (3, 0, v3), (4, 1, v4), (6, 0, v6)] [(0, 4), (0, v6)] G Q
  refine sg_icmp_ge (off := 46) (tgt := 87) (by decide +kernel) (by decide) ⟨fun q2 => ?_, fun q2 => ?_⟩
  · refine sg_blk [(12, 31, 0, 280, 0), (6, 0, 0, 4, 0), (46, 0, 0, 0, 0), (1, 0, 0, 0, 0), (3, 0, 0, 3, 0), (7, 0, 0, 0, 0)] (by decide +kernel) ?_
    refine And.intro rfl (And.intro rfl (And.intro (Nat.le_of_ble_eq_true rfl) (And.intro rfl (And.intro rfl (?_)))))
    show sg_Wp 0 N (d + 1) m_G_digestPerson 96 [(0, 2, 44), (3, 0, v3), (4, 1, v4), (6, 0, v6)] [(0, 0), (0, v3), (2, 44), (1, sg_lmul 31 v4)] G Q
    refine sg_callV (k := d) (y' := m_G_stroll) (av := [(0, v3), (0, 0)]) (rest := [(1, sg_lmul 31 v4)]) (b := 44) (by decide +kernel) cv_G_stroll ml_10_315 (ce_44 hN) rfl rfl (Nat.le_of_ble_eq_true rfl) (Nat.lt_succ_self d) (Nat.le_of_ble_eq_true rfl) rfl ?_
    show sg_Wp 0 N d m_G_stroll 0 [(0, 2, 44), (1, 0, v3), (2, 0, 0)] [] G _
    refine sg_Wp.mono ((h.1 q2)) (fun r2 G2 hhr2 => ?_)
    show sg_Wp 0 N (d + 1) m_G_digestPerson 99 [(0, 2, 44), (3, 0, v3), (4, 1, v4), (6, 0, v6)] [(0, r2), (1, sg_lmul 31 v4)] G2 Q
    refine sg_blk [(53, 0, 0, 0, 0), (44, 0, 0, 0, 0), (28, 0, 0, 4, 0), (12, 31, 0, 280, 0), (6, 0, 0, 4, 0), (46, 0, 0, 0, 0), (1, 0, 0, 0, 0), (3, 0, 0, 3, 0), (7, 1, 0, 0, 0)] (by decide +kernel) ?_
    refine And.intro rfl (And.intro rfl (And.intro rfl (And.intro (Nat.le_of_ble_eq_true rfl) (And.intro rfl (And.intro rfl (?_))))))
    show sg_Wp 0 N (d + 1) m_G_digestPerson 112 [(0, 2, 44), (3, 0, v3), (4, 1, sg_ladd (sg_lmul 31 v4) r2), (6, 0, v6)] [(0, 1), (0, v3), (2, 44), (1, sg_lmul 31 (sg_ladd (sg_lmul 31 v4) r2))] G2 Q
    refine sg_callV (k := d) (y' := m_G_stroll) (av := [(0, v3), (0, 1)]) (rest := [(1, sg_lmul 31 (sg_ladd (sg_lmul 31 v4) r2))]) (b := 44) (by decide +kernel) cv_G_stroll ml_10_315 (ce_44 hN) rfl rfl (Nat.le_of_ble_eq_true rfl) (Nat.lt_succ_self d) (Nat.le_of_ble_eq_true rfl) rfl ?_
    show sg_Wp 0 N d m_G_stroll 0 [(0, 2, 44), (1, 0, v3), (2, 0, 1)] [] G2 _
    refine sg_Wp.mono hhr2 (fun r3 G3 hhr3 => ?_)
    show sg_Wp 0 N (d + 1) m_G_digestPerson 115 [(0, 2, 44), (3, 0, v3), (4, 1, sg_ladd (sg_lmul 31 v4) r2), (6, 0, v6)] [(0, r3), (1, sg_lmul 31 (sg_ladd (sg_lmul 31 v4) r2))] G3 Q
    refine sg_blk [(53, 0, 0, 0, 0), (44, 0, 0, 0, 0), (28, 0, 0, 4, 0), (12, 31, 0, 280, 0), (6, 0, 0, 4, 0), (46, 0, 0, 0, 0), (1, 0, 0, 0, 0), (3, 0, 0, 3, 0), (7, 0, 0, 0, 0)] (by decide +kernel) ?_
    refine And.intro rfl (And.intro rfl (And.intro rfl (And.intro (Nat.le_of_ble_eq_true rfl) (And.intro rfl (And.intro rfl (?_))))))
    show sg_Wp 0 N (d + 1) m_G_digestPerson 128 [(0, 2, 44), (3, 0, v3), (4, 1, sg_ladd (sg_lmul 31 (sg_ladd (sg_lmul 31 v4) r2)) r3), (6, 0, v6)] [(0, 0), (0, v3), (2, 44), (1, sg_lmul 31 (sg_ladd (sg_lmul 31 (sg_ladd (sg_lmul 31 v4) r2)) r3))] G3 Q
    refine sg_callV (k := d) (y' := m_G_was) (av := [(0, v3), (0, 0)]) (rest := [(1, sg_lmul 31 (sg_ladd (sg_lmul 31 (sg_ladd (sg_lmul 31 v4) r2)) r3))]) (b := 44) (by decide +kernel) cv_G_was ml_10_318 (ce_44 hN) rfl rfl (Nat.le_of_ble_eq_true rfl) (Nat.lt_succ_self d) (Nat.le_of_ble_eq_true rfl) rfl ?_
    show sg_Wp 0 N d m_G_was 0 [(0, 2, 44), (1, 0, v3), (2, 0, 0)] [] G3 _
    refine sg_Wp.mono hhr3 (fun r4 G4 hhr4 => ?_)
    show sg_Wp 0 N (d + 1) m_G_digestPerson 131 [(0, 2, 44), (3, 0, v3), (4, 1, sg_ladd (sg_lmul 31 (sg_ladd (sg_lmul 31 v4) r2)) r3), (6, 0, v6)] [(0, r4), (1, sg_lmul 31 (sg_ladd (sg_lmul 31 (sg_ladd (sg_lmul 31 v4) r2)) r3))] G4 Q
    refine sg_blk [(53, 0, 0, 0, 0), (44, 0, 0, 0, 0), (28, 0, 0, 4, 0), (12, 31, 0, 280, 0), (6, 0, 0, 4, 0), (46, 0, 0, 0, 0), (1, 0, 0, 0, 0), (3, 0, 0, 3, 0), (7, 1, 0, 0, 0)] (by decide +kernel) ?_
    refine And.intro rfl (And.intro rfl (And.intro rfl (And.intro (Nat.le_of_ble_eq_true rfl) (And.intro rfl (And.intro rfl (?_))))))
    show sg_Wp 0 N (d + 1) m_G_digestPerson 144 [(0, 2, 44), (3, 0, v3), (4, 1, sg_ladd (sg_lmul 31 (sg_ladd (sg_lmul 31 (sg_ladd (sg_lmul 31 v4) r2)) r3)) r4), (6, 0, v6)] [(0, 1), (0, v3), (2, 44), (1, sg_lmul 31 (sg_ladd (sg_lmul 31 (sg_ladd (sg_lmul 31 (sg_ladd (sg_lmul 31 v4) r2)) r3)) r4))] G4 Q
    refine sg_callV (k := d) (y' := m_G_was) (av := [(0, v3), (0, 1)]) (rest := [(1, sg_lmul 31 (sg_ladd (sg_lmul 31 (sg_ladd (sg_lmul 31 (sg_ladd (sg_lmul 31 v4) r2)) r3)) r4))]) (b := 44) (by decide +kernel) cv_G_was ml_10_318 (ce_44 hN) rfl rfl (Nat.le_of_ble_eq_true rfl) (Nat.lt_succ_self d) (Nat.le_of_ble_eq_true rfl) rfl ?_
    show sg_Wp 0 N d m_G_was 0 [(0, 2, 44), (1, 0, v3), (2, 0, 1)] [] G4 _
    refine sg_Wp.mono hhr4 (fun r5 G5 hhr5 => ?_)
    show sg_Wp 0 N (d + 1) m_G_digestPerson 147 [(0, 2, 44), (3, 0, v3), (4, 1, sg_ladd (sg_lmul 31 (sg_ladd (sg_lmul 31 (sg_ladd (sg_lmul 31 v4) r2)) r3)) r4), (6, 0, v6)] [(0, r5), (1, sg_lmul 31 (sg_ladd (sg_lmul 31 (sg_ladd (sg_lmul 31 (sg_ladd (sg_lmul 31 v4) r2)) r3)) r4))] G5 Q
    refine sg_blk [(53, 0, 0, 0, 0), (44, 0, 0, 0, 0), (28, 0, 0, 4, 0), (12, 31, 0, 280, 0), (6, 0, 0, 4, 0), (46, 0, 0, 0, 0), (1, 0, 0, 0, 0), (65, 46, 10, 28, 2), (3, 0, 0, 3, 0)] (by decide +kernel) ?_
    refine And.intro rfl (And.intro rfl (And.intro rfl (And.intro (Nat.le_of_ble_eq_true rfl) (And.intro (ce_44 hN) (And.intro rr_44_2 (And.intro rfl (?_)))))))
    show sg_Wp 0 N (d + 1) m_G_digestPerson 162 [(0, 2, 44), (3, 0, v3), (4, 1, sg_ladd (sg_lmul 31 (sg_ladd (sg_lmul 31 (sg_ladd (sg_lmul 31 (sg_ladd (sg_lmul 31 v4) r2)) r3)) r4)) r5), (6, 0, v6)] [(0, v3), (2, 46), (1, sg_lmul 31 (sg_ladd (sg_lmul 31 (sg_ladd (sg_lmul 31 (sg_ladd (sg_lmul 31 (sg_ladd (sg_lmul 31 v4) r2)) r3)) r4)) r5))] G5 Q
    refine sg_callV (k := d) (y' := m_H_hourToAsk) (av := [(0, v3)]) (rest := [(1, sg_lmul 31 (sg_ladd (sg_lmul 31 (sg_ladd (sg_lmul 31 (sg_ladd (sg_lmul 31 (sg_ladd (sg_lmul 31 v4) r2)) r3)) r4)) r5))]) (b := 46) (by decide +kernel) cv_H_hourToAsk ml_10_216 (ce_46 hN) rfl rfl (Nat.le_of_ble_eq_true rfl) (Nat.lt_succ_self d) (Nat.le_of_ble_eq_true rfl) rfl ?_
    show sg_Wp 0 N d m_H_hourToAsk 0 [(0, 2, 46), (1, 0, v3)] [] G5 _
    refine sg_Wp.mono hhr5 (fun r6 G6 hhr6 => ?_)
    show sg_Wp 0 N (d + 1) m_G_digestPerson 165 [(0, 2, 44), (3, 0, v3), (4, 1, sg_ladd (sg_lmul 31 (sg_ladd (sg_lmul 31 (sg_ladd (sg_lmul 31 (sg_ladd (sg_lmul 31 v4) r2)) r3)) r4)) r5), (6, 0, v6)] [(0, r6), (1, sg_lmul 31 (sg_ladd (sg_lmul 31 (sg_ladd (sg_lmul 31 (sg_ladd (sg_lmul 31 (sg_ladd (sg_lmul 31 v4) r2)) r3)) r4)) r5))] G6 Q
    refine sg_blk [(53, 0, 0, 0, 0), (44, 0, 0, 0, 0)] (by decide +kernel) ?_
    show sg_Wp 0 N (d + 1) m_G_digestPerson 167 [(0, 2, 44), (3, 0, v3), (4, 1, sg_ladd (sg_lmul 31 (sg_ladd (sg_lmul 31 (sg_ladd (sg_lmul 31 (sg_ladd (sg_lmul 31 v4) r2)) r3)) r4)) r5), (6, 0, v6)] [(1, sg_ladd (sg_lmul 31 (sg_ladd (sg_lmul 31 (sg_ladd (sg_lmul 31 (sg_ladd (sg_lmul 31 (sg_ladd (sg_lmul 31 v4) r2)) r3)) r4)) r5)) r6)] G6 Q
    exact sg_lret (by decide +kernel) rfl hhr6
  · refine sg_blk [(7, 0, 0, 0, 0), (26, 0, 0, 7, 0)] (by decide +kernel) ?_
    refine And.intro rfl (And.intro rfl (?_))
    show sg_Wp 0 N (d + 1) m_G_digestPerson 47 [(0, 2, 44), (3, 0, v3), (4, 1, v4), (6, 0, v6), (7, 0, 0)] [] G Q
    exact (h.2 q2)
set_option maxRecDepth 100000 in
theorem g_G_digestPerson_44_47 {d N : Nat} (hN : 75 ≤ N) {v3 v4 v6 v7 : Int} {G : SgM} {Q : Int → SgM → Prop} (h : (4 ≤ v7 → (sg_Wp 0 N (d + 1) m_G_digestPerson 38 [(0, 2, 44), (3, 0, v3), (4, 1, v4), (6, 0, sg_iadd v6 1)] [] G Q)) ∧ (¬ (4 ≤ v7) → (sg_Wp 0 N d m_G_at 0 [(0, 2, 44), (1, 0, sg_dh v6), (2, 0, v3), (3, 0, v7)] [] G (fun r7 G7 => sg_Wp 0 N (d + 1) m_G_digestPerson 47 [(0, 2, 44), (3, 0, v3), (4, 1, sg_ladd (sg_lmul 31 v4) r7), (6, 0, v6), (7, 0, sg_iadd v7 1)] [] G7 Q)))) : sg_Wp 0 N (d + 1) m_G_digestPerson 47 [(0, 2, 44), (3, 0, v3), (4, 1, v4), (6, 0, v6), (7, 0, v7)] [] G Q := by
  refine sg_blk [(4, 0, 0, 7, 0), (7, 4, 0, 0, 0)] (by decide +kernel) ?_
  refine And.intro rfl (And.intro rfl (?_))
  show sg_Wp 0 N (d + 1) m_G_digestPerson 50 [(0, 2, 44), (3, 0, v3), (4, 1, v4), (6, 0, v6), (7, 0, v7)] [(0, 4), (0, v7)] G Q
  refine sg_icmp_ge (off := 31) (tgt := 81) (by decide +kernel) (by decide) ⟨fun q3 => ?_, fun q3 => ?_⟩
  · refine sg_blk [(31, 1, 0, 6, 0)] (by decide +kernel) ?_
    refine And.intro rfl (?_)
    show sg_Wp 0 N (d + 1) m_G_digestPerson 84 [(0, 2, 44), (3, 0, v3), (4, 1, v4), (6, 0, sg_iadd v6 1), (7, 0, v7)] [] G Q
    refine sg_goto (off := -46) (tgt := 38) (by decide +kernel) (by decide) ?_
    exact sg_Wp.keepk [0, 1, 2, 3] rfl ((h.1 q3))
  · refine sg_blk [(12, 31, 0, 280, 0), (6, 0, 0, 4, 0), (46, 0, 0, 0, 0), (1, 0, 0, 0, 0), (4, 0, 0, 6, 0)] (by decide +kernel) ?_
    refine And.intro rfl (And.intro rfl (And.intro (Nat.le_of_ble_eq_true rfl) (And.intro rfl (?_))))
    show sg_Wp 0 N (d + 1) m_G_digestPerson 62 [(0, 2, 44), (3, 0, v3), (4, 1, v4), (6, 0, v6), (7, 0, v7)] [(0, v6), (2, 44), (1, sg_lmul 31 v4)] G Q
    refine sg_callS (k := d) (y' := m_G_digestHour) (av := [(0, v6)]) (rest := [(2, 44), (1, sg_lmul 31 v4)]) (by decide +kernel) cs_G_digestHour ml_10_304 rfl (Nat.le_of_ble_eq_true rfl) (Nat.lt_succ_self d) (Nat.le_of_ble_eq_true rfl) rfl ?_
    show sg_Wp 0 N d m_G_digestHour 0 [(0, 0, v6)] [] G _
    refine s_G_digestHour ?_
    show sg_Wp 0 N (d + 1) m_G_digestPerson 65 [(0, 2, 44), (3, 0, v3), (4, 1, v4), (6, 0, v6), (7, 0, v7)] [(0, sg_dh v6), (2, 44), (1, sg_lmul 31 v4)] G Q
    refine sg_blk [(3, 0, 0, 3, 0), (4, 0, 0, 7, 0)] (by decide +kernel) ?_
    refine And.intro rfl (And.intro rfl (?_))
    show sg_Wp 0 N (d + 1) m_G_digestPerson 68 [(0, 2, 44), (3, 0, v3), (4, 1, v4), (6, 0, v6), (7, 0, v7)] [(0, v7), (0, v3), (0, sg_dh v6), (2, 44), (1, sg_lmul 31 v4)] G Q
    refine sg_callV (k := d) (y' := m_G_at) (av := [(0, sg_dh v6), (0, v3), (0, v7)]) (rest := [(1, sg_lmul 31 v4)]) (b := 44) (by decide +kernel) cv_G_at ml_10_312 (ce_44 hN) rfl rfl (Nat.le_of_ble_eq_true rfl) (Nat.lt_succ_self d) (Nat.le_of_ble_eq_true rfl) rfl ?_
    show sg_Wp 0 N d m_G_at 0 [(0, 2, 44), (1, 0, sg_dh v6), (2, 0, v3), (3, 0, v7)] [] G _
    refine sg_Wp.mono ((h.2 q3)) (fun r7 G7 hhr7 => ?_)
    show sg_Wp 0 N (d + 1) m_G_digestPerson 71 [(0, 2, 44), (3, 0, v3), (4, 1, v4), (6, 0, v6), (7, 0, v7)] [(0, r7), (1, sg_lmul 31 v4)] G7 Q
    refine sg_blk [(53, 0, 0, 0, 0), (44, 0, 0, 0, 0), (28, 0, 0, 4, 0), (31, 1, 0, 7, 0)] (by decide +kernel) ?_
    refine And.intro rfl (And.intro rfl (?_))
    show sg_Wp 0 N (d + 1) m_G_digestPerson 78 [(0, 2, 44), (3, 0, v3), (4, 1, sg_ladd (sg_lmul 31 v4) r7), (6, 0, v6), (7, 0, sg_iadd v7 1)] [] G7 Q
    refine sg_goto (off := -31) (tgt := 47) (by decide +kernel) (by decide) ?_
    exact hhr7
set_option maxRecDepth 100000 in
theorem g_G_digestPost_44_0 {d N : Nat} (hN : 75 ≤ N) {v1 v3 : Int} {G : SgM} {Q : Int → SgM → Prop} (h : sg_Wp 0 N (d + 1) m_G_digestPost 6 [(0, 2, 44), (3, 0, v3), (4, 1, v1), (6, 0, 0)] [] G Q) : sg_Wp 0 N (d + 1) m_G_digestPost 0 [(0, 2, 44), (1, 1, v1), (3, 0, v3)] [] G Q := by
  refine sg_blk [(5, 0, 0, 1, 0), (28, 0, 0, 4, 0), (7, 0, 0, 0, 0), (26, 0, 0, 6, 0)] (by decide +kernel) ?_
  refine And.intro rfl (And.intro rfl (And.intro rfl (And.intro rfl (?_))))
  show sg_Wp 0 N (d + 1) m_G_digestPost 6 [(0, 2, 44), (1, 1, v1), (3, 0, v3), (4, 1, v1), (6, 0, 0)] [] G Q
  exact sg_Wp.keepk [0, 2, 3, 4] rfl h
set_option maxRecDepth 100000 in
theorem g_G_digestPost_44_6 {d N : Nat} (hN : 75 ≤ N) {v3 v4 v6 : Int} {G : SgM} {Q : Int → SgM → Prop} (h : (2 ≤ v6 → (sg_Wp 0 N (d + 1) m_G_digestPost 38 [(0, 2, 44), (3, 0, v3), (4, 1, v4), (6, 0, 0)] [] G Q)) ∧ (¬ (2 ≤ v6) → (sg_Wp 0 N d m_G_post 0 [(0, 2, 44), (1, 0, v3), (2, 0, v6)] [] G (fun r1 G1 => sg_Wp 0 N (d + 1) m_G_digestPost 6 [(0, 2, 44), (3, 0, v3), (4, 1, sg_ladd (sg_lmul 31 v4) r1), (6, 0, sg_iadd v6 1)] [] G1 Q)))) : sg_Wp 0 N (d + 1) m_G_digestPost 6 [(0, 2, 44), (3, 0, v3), (4, 1, v4), (6, 0, v6)] [] G Q := by
  refine sg_blk [(4, 0, 0, 6, 0), (7, 2, 0, 0, 0)] (by decide +kernel) ?_
  refine And.intro rfl (And.intro rfl (?_))
  show sg_Wp 0 N (d + 1) m_G_digestPost 9 [(0, 2, 44), (3, 0, v3), (4, 1, v4), (6, 0, v6)] [(0, 2), (0, v6)] G Q
  refine sg_icmp_ge (off := 26) (tgt := 35) (by decide +kernel) (by decide) ⟨fun q1 => ?_, fun q1 => ?_⟩
  · refine sg_blk [(7, 0, 0, 0, 0), (26, 0, 0, 6, 0)] (by decide +kernel) ?_
    refine And.intro rfl (And.intro rfl (?_))
    show sg_Wp 0 N (d + 1) m_G_digestPost 38 [(0, 2, 44), (3, 0, v3), (4, 1, v4), (6, 0, 0)] [] G Q
    exact (h.1 q1)
  · refine sg_blk [(12, 31, 0, 280, 0), (6, 0, 0, 4, 0), (46, 0, 0, 0, 0), (1, 0, 0, 0, 0), (3, 0, 0, 3, 0), (4, 0, 0, 6, 0)] (by decide +kernel) ?_
    refine And.intro rfl (And.intro rfl (And.intro (Nat.le_of_ble_eq_true rfl) (And.intro rfl (And.intro rfl (?_)))))
    show sg_Wp 0 N (d + 1) m_G_digestPost 22 [(0, 2, 44), (3, 0, v3), (4, 1, v4), (6, 0, v6)] [(0, v6), (0, v3), (2, 44), (1, sg_lmul 31 v4)] G Q
    refine sg_callV (k := d) (y' := m_G_post) (av := [(0, v3), (0, v6)]) (rest := [(1, sg_lmul 31 v4)]) (b := 44) (by decide +kernel) cv_G_post ml_10_301 (ce_44 hN) rfl rfl (Nat.le_of_ble_eq_true rfl) (Nat.lt_succ_self d) (Nat.le_of_ble_eq_true rfl) rfl ?_
    show sg_Wp 0 N d m_G_post 0 [(0, 2, 44), (1, 0, v3), (2, 0, v6)] [] G _
    refine sg_Wp.mono ((h.2 q1)) (fun r1 G1 hhr1 => ?_)
    show sg_Wp 0 N (d + 1) m_G_digestPost 25 [(0, 2, 44), (3, 0, v3), (4, 1, v4), (6, 0, v6)] [(0, r1), (1, sg_lmul 31 v4)] G1 Q
    refine sg_blk [(53, 0, 0, 0, 0), (44, 0, 0, 0, 0), (28, 0, 0, 4, 0), (31, 1, 0, 6, 0)] (by decide +kernel) ?_
    refine And.intro rfl (And.intro rfl (?_))
    show sg_Wp 0 N (d + 1) m_G_digestPost 32 [(0, 2, 44), (3, 0, v3), (4, 1, sg_ladd (sg_lmul 31 v4) r1), (6, 0, sg_iadd v6 1)] [] G1 Q
    refine sg_goto (off := -26) (tgt := 6) (by decide +kernel) (by decide) ?_
    exact hhr1
set_option maxRecDepth 100000 in
theorem g_G_digestPost_44_38 {d N : Nat} (hN : 75 ≤ N) {v3 v4 v6 : Int} {G : SgM} {Q : Int → SgM → Prop} (h : (4 ≤ v6 → (sg_Wp 0 N d m_C_fraction 0 [(0, 2, 61), (1, 0, 5), (2, 0, v3), (3, 0, 0)] [] G (fun r2 G2 => sg_Wp 0 N d m_C_fraction 0 [(0, 2, 61), (1, 0, 5), (2, 0, v3), (3, 0, 1)] [] G2 (fun r3 G3 => Q (sg_ladd (sg_lmul 31 (sg_ladd (sg_lmul 31 v4) r2)) r3) G3)))) ∧ (¬ (4 ≤ v6) → (sg_Wp 0 N (d + 1) m_G_digestPost 47 [(0, 2, 44), (3, 0, v3), (4, 1, v4), (6, 0, v6), (7, 0, 0)] [] G Q))) : sg_Wp 0 N (d + 1) m_G_digestPost 38 [(0, 2, 44), (3, 0, v3), (4, 1, v4), (6, 0, v6)] [] G Q := by
  refine sg_blk [(4, 0, 0, 6, 0), (7, 4, 0, 0, 0)] (by decide +kernel) ?_
  refine And.intro rfl (And.intro rfl (?_))
  show sg_Wp 0 N (d + 1) m_G_digestPost 41 [(0, 2, 44), (3, 0, v3), (4, 1, v4), (6, 0, v6)] [(0, 4), (0, v6)] G Q
  refine sg_icmp_ge (off := 46) (tgt := 87) (by decide +kernel) (by decide) ⟨fun q2 => ?_, fun q2 => ?_⟩
  · refine sg_blk [(12, 31, 0, 280, 0), (6, 0, 0, 4, 0), (46, 0, 0, 0, 0), (1, 0, 0, 0, 0), (65, 61, 10, 35, 3), (7, 5, 0, 0, 0), (3, 0, 0, 3, 0), (7, 0, 0, 0, 0)] (by decide +kernel) ?_
    refine And.intro rfl (And.intro rfl (And.intro (Nat.le_of_ble_eq_true rfl) (And.intro (ce_44 hN) (And.intro rr_44_3 (And.intro rfl (And.intro rfl (And.intro rfl (?_))))))))
    show sg_Wp 0 N (d + 1) m_G_digestPost 100 [(0, 2, 44), (3, 0, v3), (4, 1, v4), (6, 0, v6)] [(0, 0), (0, v3), (0, 5), (2, 61), (1, sg_lmul 31 v4)] G Q
    refine sg_callV (k := d) (y' := m_C_fraction) (av := [(0, 5), (0, v3), (0, 0)]) (rest := [(1, sg_lmul 31 v4)]) (b := 61) (by decide +kernel) cv_C_fraction ml_10_223 (ce_61 hN) rfl rfl (Nat.le_of_ble_eq_true rfl) (Nat.lt_succ_self d) (Nat.le_of_ble_eq_true rfl) rfl ?_
    show sg_Wp 0 N d m_C_fraction 0 [(0, 2, 61), (1, 0, 5), (2, 0, v3), (3, 0, 0)] [] G _
    refine sg_Wp.mono ((h.1 q2)) (fun r2 G2 hhr2 => ?_)
    show sg_Wp 0 N (d + 1) m_G_digestPost 103 [(0, 2, 44), (3, 0, v3), (4, 1, v4), (6, 0, v6)] [(1, r2), (1, sg_lmul 31 v4)] G2 Q
    refine sg_blk [(44, 0, 0, 0, 0), (28, 0, 0, 4, 0), (12, 31, 0, 280, 0), (6, 0, 0, 4, 0), (46, 0, 0, 0, 0), (1, 0, 0, 0, 0), (65, 61, 10, 35, 3), (7, 5, 0, 0, 0), (3, 0, 0, 3, 0), (7, 1, 0, 0, 0)] (by decide +kernel) ?_
    refine And.intro rfl (And.intro rfl (And.intro rfl (And.intro (Nat.le_of_ble_eq_true rfl) (And.intro (ce_44 hN) (And.intro rr_44_3 (And.intro rfl (And.intro rfl (And.intro rfl (?_)))))))))
    show sg_Wp 0 N (d + 1) m_G_digestPost 119 [(0, 2, 44), (3, 0, v3), (4, 1, sg_ladd (sg_lmul 31 v4) r2), (6, 0, v6)] [(0, 1), (0, v3), (0, 5), (2, 61), (1, sg_lmul 31 (sg_ladd (sg_lmul 31 v4) r2))] G2 Q
    refine sg_callV (k := d) (y' := m_C_fraction) (av := [(0, 5), (0, v3), (0, 1)]) (rest := [(1, sg_lmul 31 (sg_ladd (sg_lmul 31 v4) r2))]) (b := 61) (by decide +kernel) cv_C_fraction ml_10_223 (ce_61 hN) rfl rfl (Nat.le_of_ble_eq_true rfl) (Nat.lt_succ_self d) (Nat.le_of_ble_eq_true rfl) rfl ?_
    show sg_Wp 0 N d m_C_fraction 0 [(0, 2, 61), (1, 0, 5), (2, 0, v3), (3, 0, 1)] [] G2 _
    refine sg_Wp.mono hhr2 (fun r3 G3 hhr3 => ?_)
    show sg_Wp 0 N (d + 1) m_G_digestPost 122 [(0, 2, 44), (3, 0, v3), (4, 1, sg_ladd (sg_lmul 31 v4) r2), (6, 0, v6)] [(1, r3), (1, sg_lmul 31 (sg_ladd (sg_lmul 31 v4) r2))] G3 Q
    refine sg_blk [(44, 0, 0, 0, 0)] (by decide +kernel) ?_
    show sg_Wp 0 N (d + 1) m_G_digestPost 123 [(0, 2, 44), (3, 0, v3), (4, 1, sg_ladd (sg_lmul 31 v4) r2), (6, 0, v6)] [(1, sg_ladd (sg_lmul 31 (sg_ladd (sg_lmul 31 v4) r2)) r3)] G3 Q
    exact sg_lret (by decide +kernel) rfl hhr3
  · refine sg_blk [(7, 0, 0, 0, 0), (26, 0, 0, 7, 0)] (by decide +kernel) ?_
    refine And.intro rfl (And.intro rfl (?_))
    show sg_Wp 0 N (d + 1) m_G_digestPost 47 [(0, 2, 44), (3, 0, v3), (4, 1, v4), (6, 0, v6), (7, 0, 0)] [] G Q
    exact (h.2 q2)
set_option maxRecDepth 100000 in
theorem g_G_digestPost_44_47 {d N : Nat} (hN : 75 ≤ N) {v3 v4 v6 v7 : Int} {G : SgM} {Q : Int → SgM → Prop} (h : (3 ≤ v7 → (sg_Wp 0 N (d + 1) m_G_digestPost 38 [(0, 2, 44), (3, 0, v3), (4, 1, v4), (6, 0, sg_iadd v6 1)] [] G Q)) ∧ (¬ (3 ≤ v7) → (sg_Wp 0 N d m_G_stood 0 [(0, 2, 44), (1, 0, sg_dh v6), (2, 0, v3), (3, 0, v7)] [] G (fun r4 G4 => sg_Wp 0 N (d + 1) m_G_digestPost 47 [(0, 2, 44), (3, 0, v3), (4, 1, sg_ladd (sg_lmul 31 v4) r4), (6, 0, v6), (7, 0, sg_iadd v7 1)] [] G4 Q)))) : sg_Wp 0 N (d + 1) m_G_digestPost 47 [(0, 2, 44), (3, 0, v3), (4, 1, v4), (6, 0, v6), (7, 0, v7)] [] G Q := by
  refine sg_blk [(4, 0, 0, 7, 0), (7, 3, 0, 0, 0)] (by decide +kernel) ?_
  refine And.intro rfl (And.intro rfl (?_))
  show sg_Wp 0 N (d + 1) m_G_digestPost 50 [(0, 2, 44), (3, 0, v3), (4, 1, v4), (6, 0, v6), (7, 0, v7)] [(0, 3), (0, v7)] G Q
  refine sg_icmp_ge (off := 31) (tgt := 81) (by decide +kernel) (by decide) ⟨fun q3 => ?_, fun q3 => ?_⟩
  · refine sg_blk [(31, 1, 0, 6, 0)] (by decide +kernel) ?_
    refine And.intro rfl (?_)
    show sg_Wp 0 N (d + 1) m_G_digestPost 84 [(0, 2, 44), (3, 0, v3), (4, 1, v4), (6, 0, sg_iadd v6 1), (7, 0, v7)] [] G Q
    refine sg_goto (off := -46) (tgt := 38) (by decide +kernel) (by decide) ?_
    exact sg_Wp.keepk [0, 1, 2, 3] rfl ((h.1 q3))
  · refine sg_blk [(12, 31, 0, 280, 0), (6, 0, 0, 4, 0), (46, 0, 0, 0, 0), (1, 0, 0, 0, 0), (4, 0, 0, 6, 0)] (by decide +kernel) ?_
    refine And.intro rfl (And.intro rfl (And.intro (Nat.le_of_ble_eq_true rfl) (And.intro rfl (?_))))
    show sg_Wp 0 N (d + 1) m_G_digestPost 62 [(0, 2, 44), (3, 0, v3), (4, 1, v4), (6, 0, v6), (7, 0, v7)] [(0, v6), (2, 44), (1, sg_lmul 31 v4)] G Q
    refine sg_callS (k := d) (y' := m_G_digestHour) (av := [(0, v6)]) (rest := [(2, 44), (1, sg_lmul 31 v4)]) (by decide +kernel) cs_G_digestHour ml_10_304 rfl (Nat.le_of_ble_eq_true rfl) (Nat.lt_succ_self d) (Nat.le_of_ble_eq_true rfl) rfl ?_
    show sg_Wp 0 N d m_G_digestHour 0 [(0, 0, v6)] [] G _
    refine s_G_digestHour ?_
    show sg_Wp 0 N (d + 1) m_G_digestPost 65 [(0, 2, 44), (3, 0, v3), (4, 1, v4), (6, 0, v6), (7, 0, v7)] [(0, sg_dh v6), (2, 44), (1, sg_lmul 31 v4)] G Q
    refine sg_blk [(3, 0, 0, 3, 0), (4, 0, 0, 7, 0)] (by decide +kernel) ?_
    refine And.intro rfl (And.intro rfl (?_))
    show sg_Wp 0 N (d + 1) m_G_digestPost 68 [(0, 2, 44), (3, 0, v3), (4, 1, v4), (6, 0, v6), (7, 0, v7)] [(0, v7), (0, v3), (0, sg_dh v6), (2, 44), (1, sg_lmul 31 v4)] G Q
    refine sg_callV (k := d) (y' := m_G_stood) (av := [(0, sg_dh v6), (0, v3), (0, v7)]) (rest := [(1, sg_lmul 31 v4)]) (b := 44) (by decide +kernel) cv_G_stood ml_10_307 (ce_44 hN) rfl rfl (Nat.le_of_ble_eq_true rfl) (Nat.lt_succ_self d) (Nat.le_of_ble_eq_true rfl) rfl ?_
    show sg_Wp 0 N d m_G_stood 0 [(0, 2, 44), (1, 0, sg_dh v6), (2, 0, v3), (3, 0, v7)] [] G _
    refine sg_Wp.mono ((h.2 q3)) (fun r4 G4 hhr4 => ?_)
    show sg_Wp 0 N (d + 1) m_G_digestPost 71 [(0, 2, 44), (3, 0, v3), (4, 1, v4), (6, 0, v6), (7, 0, v7)] [(0, r4), (1, sg_lmul 31 v4)] G4 Q
    refine sg_blk [(53, 0, 0, 0, 0), (44, 0, 0, 0, 0), (28, 0, 0, 4, 0), (31, 1, 0, 7, 0)] (by decide +kernel) ?_
    refine And.intro rfl (And.intro rfl (?_))
    show sg_Wp 0 N (d + 1) m_G_digestPost 78 [(0, 2, 44), (3, 0, v3), (4, 1, sg_ladd (sg_lmul 31 v4) r4), (6, 0, v6), (7, 0, sg_iadd v7 1)] [] G4 Q
    refine sg_goto (off := -31) (tgt := 47) (by decide +kernel) (by decide) ?_
    exact hhr4
set_option maxRecDepth 100000 in
theorem g_G_digestRest_44_0 {d N : Nat} (hN : 75 ≤ N) {v1 : Int} {G : SgM} {Q : Int → SgM → Prop} (h : sg_Wp 0 N d m_G_forgotten 0 [(0, 2, 44)] [] G (fun r1 G1 => sg_Wp 0 N (d + 1) m_G_digestRest 15 [(0, 2, 44), (3, 1, sg_ladd (sg_lmul 31 v1) r1), (5, 0, 0)] [] G1 Q)) : sg_Wp 0 N (d + 1) m_G_digestRest 0 [(0, 2, 44), (1, 1, v1)] [] G Q := by
  refine sg_blk [(12, 31, 0, 280, 0), (5, 0, 0, 1, 0), (46, 0, 0, 0, 0), (1, 0, 0, 0, 0)] (by decide +kernel) ?_
  refine And.intro rfl (And.intro rfl (And.intro (Nat.le_of_ble_eq_true rfl) (?_)))
  show sg_Wp 0 N (d + 1) m_G_digestRest 6 [(0, 2, 44), (1, 1, v1)] [(2, 44), (1, sg_lmul 31 v1)] G Q
  refine sg_callV (k := d) (y' := m_G_forgotten) (av := []) (rest := [(1, sg_lmul 31 v1)]) (b := 44) (by decide +kernel) cv_G_forgotten ml_10_321 (ce_44 hN) rfl rfl (Nat.le_of_ble_eq_true rfl) (Nat.lt_succ_self d) (Nat.le_of_ble_eq_true rfl) rfl ?_
  show sg_Wp 0 N d m_G_forgotten 0 [(0, 2, 44)] [] G _
  refine sg_Wp.mono h (fun r1 G1 hhr1 => ?_)
  show sg_Wp 0 N (d + 1) m_G_digestRest 9 [(0, 2, 44), (1, 1, v1)] [(0, r1), (1, sg_lmul 31 v1)] G1 Q
  refine sg_blk [(53, 0, 0, 0, 0), (44, 0, 0, 0, 0), (27, 0, 0, 3, 0), (7, 0, 0, 0, 0), (26, 0, 0, 5, 0)] (by decide +kernel) ?_
  refine And.intro rfl (And.intro rfl (And.intro rfl (?_)))
  show sg_Wp 0 N (d + 1) m_G_digestRest 15 [(0, 2, 44), (1, 1, v1), (3, 1, sg_ladd (sg_lmul 31 v1) r1), (5, 0, 0)] [] G1 Q
  exact sg_Wp.keepk [0, 2, 3] rfl hhr1
set_option maxRecDepth 100000 in
theorem g_G_digestRest_44_15 {d N : Nat} (hN : 75 ≤ N) {v3 v5 : Int} {G : SgM} {Q : Int → SgM → Prop} (h : (3 ≤ v5 → (sg_Wp 0 N d m_G_busy 0 [(0, 2, 44)] [] G (fun r2 G2 => sg_Wp 0 N d m_G_quiet 0 [(0, 2, 44)] [] G2 (fun r3 G3 => sg_Wp 0 N d m_G_dust 0 [(0, 2, 44), (1, 0, 8), (2, 0, 0)] [] G3 (fun r4 G4 => sg_Wp 0 N d m_G_dust 0 [(0, 2, 44), (1, 0, 8), (2, 0, 1)] [] G4 (fun r5 G5 => sg_Wp 0 N d m_G_hush 0 [(0, 2, 44), (1, 0, 8), (2, 0, 0)] [] G5 (fun r6 G6 => sg_Wp 0 N d m_G_hush 0 [(0, 2, 44), (1, 0, 8), (2, 0, 1)] [] G6 (fun r7 G7 => sg_Wp 0 N d m_G_spare 0 [(0, 2, 44), (1, 0, (-1))] [] G7 (fun r8 G8 => sg_Wp 0 N d m_G_spare 0 [(0, 2, 44), (1, 0, 0)] [] G8 (fun r9 G9 => sg_Wp 0 N d m_G_never 0 [(0, 2, 44)] [] G9 (fun r10 G10 => sg_Wp 0 N d m_G_decades 0 [(0, 2, 44), (1, 0, 7), (2, 0, 6), (3, 0, 0)] [] G10 (fun r11 G11 => sg_Wp 0 N d m_G_decades 0 [(0, 2, 44), (1, 0, 7), (2, 0, 6), (3, 0, 1)] [] G11 (fun r12 G12 => Q (sg_ladd (sg_lmul 31 (sg_ladd (sg_lmul 31 (sg_ladd (sg_lmul 31 (sg_ladd (sg_lmul 31 (sg_ladd (sg_lmul 31 (sg_ladd (sg_lmul 31 (sg_ladd (sg_lmul 31 (sg_ladd (sg_lmul 31 (sg_ladd (sg_lmul 31 (sg_ladd (sg_lmul 31 (sg_ladd (sg_lmul 31 v3) r2)) r3)) r4)) r5)) r6)) r7)) r8)) r9)) r10)) r11)) r12) G12))))))))))))) ∧ (¬ (3 ≤ v5) → (sg_Wp 0 N d m_G_longest 0 [(0, 2, 44), (1, 0, v5)] [] G (fun r13 G13 => sg_Wp 0 N (d + 1) m_G_digestRest 15 [(0, 2, 44), (3, 1, sg_ladd (sg_lmul 31 v3) r13), (5, 0, sg_iadd v5 1)] [] G13 Q)))) : sg_Wp 0 N (d + 1) m_G_digestRest 15 [(0, 2, 44), (3, 1, v3), (5, 0, v5)] [] G Q := by
  refine sg_blk [(4, 0, 0, 5, 0), (7, 3, 0, 0, 0)] (by decide +kernel) ?_
  refine And.intro rfl (And.intro rfl (?_))
  show sg_Wp 0 N (d + 1) m_G_digestRest 18 [(0, 2, 44), (3, 1, v3), (5, 0, v5)] [(0, 3), (0, v5)] G Q
  refine sg_icmp_ge (off := 23) (tgt := 41) (by decide +kernel) (by decide) ⟨fun q1 => ?_, fun q1 => ?_⟩
  · refine sg_blk [(12, 31, 0, 280, 0), (5, 0, 0, 3, 0), (46, 0, 0, 0, 0), (1, 0, 0, 0, 0)] (by decide +kernel) ?_
    refine And.intro rfl (And.intro rfl (And.intro (Nat.le_of_ble_eq_true rfl) (?_)))
    show sg_Wp 0 N (d + 1) m_G_digestRest 47 [(0, 2, 44), (3, 1, v3), (5, 0, v5)] [(2, 44), (1, sg_lmul 31 v3)] G Q
    refine sg_callV (k := d) (y' := m_G_busy) (av := []) (rest := [(1, sg_lmul 31 v3)]) (b := 44) (by decide +kernel) cv_G_busy ml_10_325 (ce_44 hN) rfl rfl (Nat.le_of_ble_eq_true rfl) (Nat.lt_succ_self d) (Nat.le_of_ble_eq_true rfl) rfl ?_
    show sg_Wp 0 N d m_G_busy 0 [(0, 2, 44)] [] G _
    refine sg_Wp.mono ((h.1 q1)) (fun r2 G2 hhr2 => ?_)
    show sg_Wp 0 N (d + 1) m_G_digestRest 50 [(0, 2, 44), (3, 1, v3), (5, 0, v5)] [(0, r2), (1, sg_lmul 31 v3)] G2 Q
    refine sg_blk [(53, 0, 0, 0, 0), (44, 0, 0, 0, 0), (27, 0, 0, 3, 0), (12, 31, 0, 280, 0), (5, 0, 0, 3, 0), (46, 0, 0, 0, 0), (1, 0, 0, 0, 0)] (by decide +kernel) ?_
    refine And.intro rfl (And.intro rfl (And.intro rfl (And.intro (Nat.le_of_ble_eq_true rfl) (?_))))
    show sg_Wp 0 N (d + 1) m_G_digestRest 59 [(0, 2, 44), (3, 1, sg_ladd (sg_lmul 31 v3) r2), (5, 0, v5)] [(2, 44), (1, sg_lmul 31 (sg_ladd (sg_lmul 31 v3) r2))] G2 Q
    refine sg_callV (k := d) (y' := m_G_quiet) (av := []) (rest := [(1, sg_lmul 31 (sg_ladd (sg_lmul 31 v3) r2))]) (b := 44) (by decide +kernel) cv_G_quiet ml_10_328 (ce_44 hN) rfl rfl (Nat.le_of_ble_eq_true rfl) (Nat.lt_succ_self d) (Nat.le_of_ble_eq_true rfl) rfl ?_
    show sg_Wp 0 N d m_G_quiet 0 [(0, 2, 44)] [] G2 _
    refine sg_Wp.mono hhr2 (fun r3 G3 hhr3 => ?_)
    show sg_Wp 0 N (d + 1) m_G_digestRest 62 [(0, 2, 44), (3, 1, sg_ladd (sg_lmul 31 v3) r2), (5, 0, v5)] [(0, r3), (1, sg_lmul 31 (sg_ladd (sg_lmul 31 v3) r2))] G3 Q
    refine sg_blk [(53, 0, 0, 0, 0), (44, 0, 0, 0, 0), (27, 0, 0, 3, 0), (12, 31, 0, 280, 0), (5, 0, 0, 3, 0), (46, 0, 0, 0, 0), (1, 0, 0, 0, 0), (8, 8, 0, 0, 0), (7, 0, 0, 0, 0)] (by decide +kernel) ?_
    refine And.intro rfl (And.intro rfl (And.intro rfl (And.intro (Nat.le_of_ble_eq_true rfl) (And.intro rfl (And.intro rfl (And.intro rfl (?_)))))))
    show sg_Wp 0 N (d + 1) m_G_digestRest 74 [(0, 2, 44), (3, 1, sg_ladd (sg_lmul 31 (sg_ladd (sg_lmul 31 v3) r2)) r3), (5, 0, v5)] [(0, 0), (0, 8), (2, 44), (1, sg_lmul 31 (sg_ladd (sg_lmul 31 (sg_ladd (sg_lmul 31 v3) r2)) r3))] G3 Q
    refine sg_callV (k := d) (y' := m_G_dust) (av := [(0, 8), (0, 0)]) (rest := [(1, sg_lmul 31 (sg_ladd (sg_lmul 31 (sg_ladd (sg_lmul 31 v3) r2)) r3))]) (b := 44) (by decide +kernel) cv_G_dust ml_10_331 (ce_44 hN) rfl rfl (Nat.le_of_ble_eq_true rfl) (Nat.lt_succ_self d) (Nat.le_of_ble_eq_true rfl) rfl ?_
    show sg_Wp 0 N d m_G_dust 0 [(0, 2, 44), (1, 0, 8), (2, 0, 0)] [] G3 _
    refine sg_Wp.mono hhr3 (fun r4 G4 hhr4 => ?_)
    show sg_Wp 0 N (d + 1) m_G_digestRest 77 [(0, 2, 44), (3, 1, sg_ladd (sg_lmul 31 (sg_ladd (sg_lmul 31 v3) r2)) r3), (5, 0, v5)] [(0, r4), (1, sg_lmul 31 (sg_ladd (sg_lmul 31 (sg_ladd (sg_lmul 31 v3) r2)) r3))] G4 Q
    refine sg_blk [(53, 0, 0, 0, 0), (44, 0, 0, 0, 0), (27, 0, 0, 3, 0), (12, 31, 0, 280, 0), (5, 0, 0, 3, 0), (46, 0, 0, 0, 0), (1, 0, 0, 0, 0), (8, 8, 0, 0, 0), (7, 1, 0, 0, 0)] (by decide +kernel) ?_
    refine And.intro rfl (And.intro rfl (And.intro rfl (And.intro (Nat.le_of_ble_eq_true rfl) (And.intro rfl (And.intro rfl (And.intro rfl (?_)))))))
    show sg_Wp 0 N (d + 1) m_G_digestRest 89 [(0, 2, 44), (3, 1, sg_ladd (sg_lmul 31 (sg_ladd (sg_lmul 31 (sg_ladd (sg_lmul 31 v3) r2)) r3)) r4), (5, 0, v5)] [(0, 1), (0, 8), (2, 44), (1, sg_lmul 31 (sg_ladd (sg_lmul 31 (sg_ladd (sg_lmul 31 (sg_ladd (sg_lmul 31 v3) r2)) r3)) r4))] G4 Q
    refine sg_callV (k := d) (y' := m_G_dust) (av := [(0, 8), (0, 1)]) (rest := [(1, sg_lmul 31 (sg_ladd (sg_lmul 31 (sg_ladd (sg_lmul 31 (sg_ladd (sg_lmul 31 v3) r2)) r3)) r4))]) (b := 44) (by decide +kernel) cv_G_dust ml_10_331 (ce_44 hN) rfl rfl (Nat.le_of_ble_eq_true rfl) (Nat.lt_succ_self d) (Nat.le_of_ble_eq_true rfl) rfl ?_
    show sg_Wp 0 N d m_G_dust 0 [(0, 2, 44), (1, 0, 8), (2, 0, 1)] [] G4 _
    refine sg_Wp.mono hhr4 (fun r5 G5 hhr5 => ?_)
    show sg_Wp 0 N (d + 1) m_G_digestRest 92 [(0, 2, 44), (3, 1, sg_ladd (sg_lmul 31 (sg_ladd (sg_lmul 31 (sg_ladd (sg_lmul 31 v3) r2)) r3)) r4), (5, 0, v5)] [(0, r5), (1, sg_lmul 31 (sg_ladd (sg_lmul 31 (sg_ladd (sg_lmul 31 (sg_ladd (sg_lmul 31 v3) r2)) r3)) r4))] G5 Q
    refine sg_blk [(53, 0, 0, 0, 0), (44, 0, 0, 0, 0), (27, 0, 0, 3, 0), (12, 31, 0, 280, 0), (5, 0, 0, 3, 0), (46, 0, 0, 0, 0), (1, 0, 0, 0, 0), (8, 8, 0, 0, 0), (7, 0, 0, 0, 0)] (by decide +kernel) ?_
    refine And.intro rfl (And.intro rfl (And.intro rfl (And.intro (Nat.le_of_ble_eq_true rfl) (And.intro rfl (And.intro rfl (And.intro rfl (?_)))))))
    show sg_Wp 0 N (d + 1) m_G_digestRest 104 [(0, 2, 44), (3, 1, sg_ladd (sg_lmul 31 (sg_ladd (sg_lmul 31 (sg_ladd (sg_lmul 31 (sg_ladd (sg_lmul 31 v3) r2)) r3)) r4)) r5), (5, 0, v5)] [(0, 0), (0, 8), (2, 44), (1, sg_lmul 31 (sg_ladd (sg_lmul 31 (sg_ladd (sg_lmul 31 (sg_ladd (sg_lmul 31 (sg_ladd (sg_lmul 31 v3) r2)) r3)) r4)) r5))] G5 Q
    refine sg_callV (k := d) (y' := m_G_hush) (av := [(0, 8), (0, 0)]) (rest := [(1, sg_lmul 31 (sg_ladd (sg_lmul 31 (sg_ladd (sg_lmul 31 (sg_ladd (sg_lmul 31 (sg_ladd (sg_lmul 31 v3) r2)) r3)) r4)) r5))]) (b := 44) (by decide +kernel) cv_G_hush ml_10_334 (ce_44 hN) rfl rfl (Nat.le_of_ble_eq_true rfl) (Nat.lt_succ_self d) (Nat.le_of_ble_eq_true rfl) rfl ?_
    show sg_Wp 0 N d m_G_hush 0 [(0, 2, 44), (1, 0, 8), (2, 0, 0)] [] G5 _
    refine sg_Wp.mono hhr5 (fun r6 G6 hhr6 => ?_)
    show sg_Wp 0 N (d + 1) m_G_digestRest 107 [(0, 2, 44), (3, 1, sg_ladd (sg_lmul 31 (sg_ladd (sg_lmul 31 (sg_ladd (sg_lmul 31 (sg_ladd (sg_lmul 31 v3) r2)) r3)) r4)) r5), (5, 0, v5)] [(0, r6), (1, sg_lmul 31 (sg_ladd (sg_lmul 31 (sg_ladd (sg_lmul 31 (sg_ladd (sg_lmul 31 (sg_ladd (sg_lmul 31 v3) r2)) r3)) r4)) r5))] G6 Q
    refine sg_blk [(53, 0, 0, 0, 0), (44, 0, 0, 0, 0), (27, 0, 0, 3, 0), (12, 31, 0, 280, 0), (5, 0, 0, 3, 0), (46, 0, 0, 0, 0), (1, 0, 0, 0, 0), (8, 8, 0, 0, 0), (7, 1, 0, 0, 0)] (by decide +kernel) ?_
    refine And.intro rfl (And.intro rfl (And.intro rfl (And.intro (Nat.le_of_ble_eq_true rfl) (And.intro rfl (And.intro rfl (And.intro rfl (?_)))))))
    show sg_Wp 0 N (d + 1) m_G_digestRest 119 [(0, 2, 44), (3, 1, sg_ladd (sg_lmul 31 (sg_ladd (sg_lmul 31 (sg_ladd (sg_lmul 31 (sg_ladd (sg_lmul 31 (sg_ladd (sg_lmul 31 v3) r2)) r3)) r4)) r5)) r6), (5, 0, v5)] [(0, 1), (0, 8), (2, 44), (1, sg_lmul 31 (sg_ladd (sg_lmul 31 (sg_ladd (sg_lmul 31 (sg_ladd (sg_lmul 31 (sg_ladd (sg_lmul 31 (sg_ladd (sg_lmul 31 v3) r2)) r3)) r4)) r5)) r6))] G6 Q
    refine sg_callV (k := d) (y' := m_G_hush) (av := [(0, 8), (0, 1)]) (rest := [(1, sg_lmul 31 (sg_ladd (sg_lmul 31 (sg_ladd (sg_lmul 31 (sg_ladd (sg_lmul 31 (sg_ladd (sg_lmul 31 (sg_ladd (sg_lmul 31 v3) r2)) r3)) r4)) r5)) r6))]) (b := 44) (by decide +kernel) cv_G_hush ml_10_334 (ce_44 hN) rfl rfl (Nat.le_of_ble_eq_true rfl) (Nat.lt_succ_self d) (Nat.le_of_ble_eq_true rfl) rfl ?_
    show sg_Wp 0 N d m_G_hush 0 [(0, 2, 44), (1, 0, 8), (2, 0, 1)] [] G6 _
    refine sg_Wp.mono hhr6 (fun r7 G7 hhr7 => ?_)
    show sg_Wp 0 N (d + 1) m_G_digestRest 122 [(0, 2, 44), (3, 1, sg_ladd (sg_lmul 31 (sg_ladd (sg_lmul 31 (sg_ladd (sg_lmul 31 (sg_ladd (sg_lmul 31 (sg_ladd (sg_lmul 31 v3) r2)) r3)) r4)) r5)) r6), (5, 0, v5)] [(0, r7), (1, sg_lmul 31 (sg_ladd (sg_lmul 31 (sg_ladd (sg_lmul 31 (sg_ladd (sg_lmul 31 (sg_ladd (sg_lmul 31 (sg_ladd (sg_lmul 31 v3) r2)) r3)) r4)) r5)) r6))] G7 Q
    refine sg_blk [(53, 0, 0, 0, 0), (44, 0, 0, 0, 0), (27, 0, 0, 3, 0), (12, 31, 0, 280, 0), (5, 0, 0, 3, 0), (46, 0, 0, 0, 0), (1, 0, 0, 0, 0), (7, (-1), 0, 0, 0)] (by decide +kernel) ?_
    refine And.intro rfl (And.intro rfl (And.intro rfl (And.intro (Nat.le_of_ble_eq_true rfl) (And.intro rfl (?_)))))
    show sg_Wp 0 N (d + 1) m_G_digestRest 132 [(0, 2, 44), (3, 1, sg_ladd (sg_lmul 31 (sg_ladd (sg_lmul 31 (sg_ladd (sg_lmul 31 (sg_ladd (sg_lmul 31 (sg_ladd (sg_lmul 31 (sg_ladd (sg_lmul 31 v3) r2)) r3)) r4)) r5)) r6)) r7), (5, 0, v5)] [(0, (-1)), (2, 44), (1, sg_lmul 31 (sg_ladd (sg_lmul 31 (sg_ladd (sg_lmul 31 (sg_ladd (sg_lmul 31 (sg_ladd (sg_lmul 31 (sg_ladd (sg_lmul 31 (sg_ladd (sg_lmul 31 v3) r2)) r3)) r4)) r5)) r6)) r7))] G7 Q
    refine sg_callV (k := d) (y' := m_G_spare) (av := [(0, (-1))]) (rest := [(1, sg_lmul 31 (sg_ladd (sg_lmul 31 (sg_ladd (sg_lmul 31 (sg_ladd (sg_lmul 31 (sg_ladd (sg_lmul 31 (sg_ladd (sg_lmul 31 (sg_ladd (sg_lmul 31 v3) r2)) r3)) r4)) r5)) r6)) r7))]) (b := 44) (by decide +kernel) cv_G_spare ml_10_337 (ce_44 hN) rfl rfl (Nat.le_of_ble_eq_true rfl) (Nat.lt_succ_self d) (Nat.le_of_ble_eq_true rfl) rfl ?_
    show sg_Wp 0 N d m_G_spare 0 [(0, 2, 44), (1, 0, (-1))] [] G7 _
    refine sg_Wp.mono hhr7 (fun r8 G8 hhr8 => ?_)
    show sg_Wp 0 N (d + 1) m_G_digestRest 135 [(0, 2, 44), (3, 1, sg_ladd (sg_lmul 31 (sg_ladd (sg_lmul 31 (sg_ladd (sg_lmul 31 (sg_ladd (sg_lmul 31 (sg_ladd (sg_lmul 31 (sg_ladd (sg_lmul 31 v3) r2)) r3)) r4)) r5)) r6)) r7), (5, 0, v5)] [(0, r8), (1, sg_lmul 31 (sg_ladd (sg_lmul 31 (sg_ladd (sg_lmul 31 (sg_ladd (sg_lmul 31 (sg_ladd (sg_lmul 31 (sg_ladd (sg_lmul 31 (sg_ladd (sg_lmul 31 v3) r2)) r3)) r4)) r5)) r6)) r7))] G8 Q
    refine sg_blk [(53, 0, 0, 0, 0), (44, 0, 0, 0, 0), (27, 0, 0, 3, 0), (12, 31, 0, 280, 0), (5, 0, 0, 3, 0), (46, 0, 0, 0, 0), (1, 0, 0, 0, 0), (7, 0, 0, 0, 0)] (by decide +kernel) ?_
    refine And.intro rfl (And.intro rfl (And.intro rfl (And.intro (Nat.le_of_ble_eq_true rfl) (And.intro rfl (?_)))))
    show sg_Wp 0 N (d + 1) m_G_digestRest 145 [(0, 2, 44), (3, 1, sg_ladd (sg_lmul 31 (sg_ladd (sg_lmul 31 (sg_ladd (sg_lmul 31 (sg_ladd (sg_lmul 31 (sg_ladd (sg_lmul 31 (sg_ladd (sg_lmul 31 (sg_ladd (sg_lmul 31 v3) r2)) r3)) r4)) r5)) r6)) r7)) r8), (5, 0, v5)] [(0, 0), (2, 44), (1, sg_lmul 31 (sg_ladd (sg_lmul 31 (sg_ladd (sg_lmul 31 (sg_ladd (sg_lmul 31 (sg_ladd (sg_lmul 31 (sg_ladd (sg_lmul 31 (sg_ladd (sg_lmul 31 (sg_ladd (sg_lmul 31 v3) r2)) r3)) r4)) r5)) r6)) r7)) r8))] G8 Q
    refine sg_callV (k := d) (y' := m_G_spare) (av := [(0, 0)]) (rest := [(1, sg_lmul 31 (sg_ladd (sg_lmul 31 (sg_ladd (sg_lmul 31 (sg_ladd (sg_lmul 31 (sg_ladd (sg_lmul 31 (sg_ladd (sg_lmul 31 (sg_ladd (sg_lmul 31 (sg_ladd (sg_lmul 31 v3) r2)) r3)) r4)) r5)) r6)) r7)) r8))]) (b := 44) (by decide +kernel) cv_G_spare ml_10_337 (ce_44 hN) rfl rfl (Nat.le_of_ble_eq_true rfl) (Nat.lt_succ_self d) (Nat.le_of_ble_eq_true rfl) rfl ?_
    show sg_Wp 0 N d m_G_spare 0 [(0, 2, 44), (1, 0, 0)] [] G8 _
    refine sg_Wp.mono hhr8 (fun r9 G9 hhr9 => ?_)
    show sg_Wp 0 N (d + 1) m_G_digestRest 148 [(0, 2, 44), (3, 1, sg_ladd (sg_lmul 31 (sg_ladd (sg_lmul 31 (sg_ladd (sg_lmul 31 (sg_ladd (sg_lmul 31 (sg_ladd (sg_lmul 31 (sg_ladd (sg_lmul 31 (sg_ladd (sg_lmul 31 v3) r2)) r3)) r4)) r5)) r6)) r7)) r8), (5, 0, v5)] [(0, r9), (1, sg_lmul 31 (sg_ladd (sg_lmul 31 (sg_ladd (sg_lmul 31 (sg_ladd (sg_lmul 31 (sg_ladd (sg_lmul 31 (sg_ladd (sg_lmul 31 (sg_ladd (sg_lmul 31 (sg_ladd (sg_lmul 31 v3) r2)) r3)) r4)) r5)) r6)) r7)) r8))] G9 Q
    refine sg_blk [(53, 0, 0, 0, 0), (44, 0, 0, 0, 0), (27, 0, 0, 3, 0), (12, 31, 0, 280, 0), (5, 0, 0, 3, 0), (46, 0, 0, 0, 0), (1, 0, 0, 0, 0)] (by decide +kernel) ?_
    refine And.intro rfl (And.intro rfl (And.intro rfl (And.intro (Nat.le_of_ble_eq_true rfl) (?_))))
    show sg_Wp 0 N (d + 1) m_G_digestRest 157 [(0, 2, 44), (3, 1, sg_ladd (sg_lmul 31 (sg_ladd (sg_lmul 31 (sg_ladd (sg_lmul 31 (sg_ladd (sg_lmul 31 (sg_ladd (sg_lmul 31 (sg_ladd (sg_lmul 31 (sg_ladd (sg_lmul 31 (sg_ladd (sg_lmul 31 v3) r2)) r3)) r4)) r5)) r6)) r7)) r8)) r9), (5, 0, v5)] [(2, 44), (1, sg_lmul 31 (sg_ladd (sg_lmul 31 (sg_ladd (sg_lmul 31 (sg_ladd (sg_lmul 31 (sg_ladd (sg_lmul 31 (sg_ladd (sg_lmul 31 (sg_ladd (sg_lmul 31 (sg_ladd (sg_lmul 31 (sg_ladd (sg_lmul 31 v3) r2)) r3)) r4)) r5)) r6)) r7)) r8)) r9))] G9 Q
    refine sg_callV (k := d) (y' := m_G_never) (av := []) (rest := [(1, sg_lmul 31 (sg_ladd (sg_lmul 31 (sg_ladd (sg_lmul 31 (sg_ladd (sg_lmul 31 (sg_ladd (sg_lmul 31 (sg_ladd (sg_lmul 31 (sg_ladd (sg_lmul 31 (sg_ladd (sg_lmul 31 (sg_ladd (sg_lmul 31 v3) r2)) r3)) r4)) r5)) r6)) r7)) r8)) r9))]) (b := 44) (by decide +kernel) cv_G_never ml_10_340 (ce_44 hN) rfl rfl (Nat.le_of_ble_eq_true rfl) (Nat.lt_succ_self d) (Nat.le_of_ble_eq_true rfl) rfl ?_
    show sg_Wp 0 N d m_G_never 0 [(0, 2, 44)] [] G9 _
    refine sg_Wp.mono hhr9 (fun r10 G10 hhr10 => ?_)
    show sg_Wp 0 N (d + 1) m_G_digestRest 160 [(0, 2, 44), (3, 1, sg_ladd (sg_lmul 31 (sg_ladd (sg_lmul 31 (sg_ladd (sg_lmul 31 (sg_ladd (sg_lmul 31 (sg_ladd (sg_lmul 31 (sg_ladd (sg_lmul 31 (sg_ladd (sg_lmul 31 (sg_ladd (sg_lmul 31 v3) r2)) r3)) r4)) r5)) r6)) r7)) r8)) r9), (5, 0, v5)] [(0, r10), (1, sg_lmul 31 (sg_ladd (sg_lmul 31 (sg_ladd (sg_lmul 31 (sg_ladd (sg_lmul 31 (sg_ladd (sg_lmul 31 (sg_ladd (sg_lmul 31 (sg_ladd (sg_lmul 31 (sg_ladd (sg_lmul 31 (sg_ladd (sg_lmul 31 v3) r2)) r3)) r4)) r5)) r6)) r7)) r8)) r9))] G10 Q
    refine sg_blk [(53, 0, 0, 0, 0), (44, 0, 0, 0, 0), (27, 0, 0, 3, 0), (12, 31, 0, 280, 0), (5, 0, 0, 3, 0), (46, 0, 0, 0, 0), (1, 0, 0, 0, 0), (8, 7, 0, 0, 0), (8, 6, 0, 0, 0), (7, 0, 0, 0, 0)] (by decide +kernel) ?_
    refine And.intro rfl (And.intro rfl (And.intro rfl (And.intro (Nat.le_of_ble_eq_true rfl) (And.intro rfl (And.intro rfl (And.intro rfl (And.intro rfl (And.intro rfl (?_)))))))))
    show sg_Wp 0 N (d + 1) m_G_digestRest 174 [(0, 2, 44), (3, 1, sg_ladd (sg_lmul 31 (sg_ladd (sg_lmul 31 (sg_ladd (sg_lmul 31 (sg_ladd (sg_lmul 31 (sg_ladd (sg_lmul 31 (sg_ladd (sg_lmul 31 (sg_ladd (sg_lmul 31 (sg_ladd (sg_lmul 31 (sg_ladd (sg_lmul 31 v3) r2)) r3)) r4)) r5)) r6)) r7)) r8)) r9)) r10), (5, 0, v5)] [(0, 0), (0, 6), (0, 7), (2, 44), (1, sg_lmul 31 (sg_ladd (sg_lmul 31 (sg_ladd (sg_lmul 31 (sg_ladd (sg_lmul 31 (sg_ladd (sg_lmul 31 (sg_ladd (sg_lmul 31 (sg_ladd (sg_lmul 31 (sg_ladd (sg_lmul 31 (sg_ladd (sg_lmul 31 (sg_ladd (sg_lmul 31 v3) r2)) r3)) r4)) r5)) r6)) r7)) r8)) r9)) r10))] G10 Q
    refine sg_callV (k := d) (y' := m_G_decades) (av := [(0, 7), (0, 6), (0, 0)]) (rest := [(1, sg_lmul 31 (sg_ladd (sg_lmul 31 (sg_ladd (sg_lmul 31 (sg_ladd (sg_lmul 31 (sg_ladd (sg_lmul 31 (sg_ladd (sg_lmul 31 (sg_ladd (sg_lmul 31 (sg_ladd (sg_lmul 31 (sg_ladd (sg_lmul 31 (sg_ladd (sg_lmul 31 v3) r2)) r3)) r4)) r5)) r6)) r7)) r8)) r9)) r10))]) (b := 44) (by decide +kernel) cv_G_decades ml_10_343 (ce_44 hN) rfl rfl (Nat.le_of_ble_eq_true rfl) (Nat.lt_succ_self d) (Nat.le_of_ble_eq_true rfl) rfl ?_
    show sg_Wp 0 N d m_G_decades 0 [(0, 2, 44), (1, 0, 7), (2, 0, 6), (3, 0, 0)] [] G10 _
    refine sg_Wp.mono hhr10 (fun r11 G11 hhr11 => ?_)
    show sg_Wp 0 N (d + 1) m_G_digestRest 177 [(0, 2, 44), (3, 1, sg_ladd (sg_lmul 31 (sg_ladd (sg_lmul 31 (sg_ladd (sg_lmul 31 (sg_ladd (sg_lmul 31 (sg_ladd (sg_lmul 31 (sg_ladd (sg_lmul 31 (sg_ladd (sg_lmul 31 (sg_ladd (sg_lmul 31 (sg_ladd (sg_lmul 31 v3) r2)) r3)) r4)) r5)) r6)) r7)) r8)) r9)) r10), (5, 0, v5)] [(0, r11), (1, sg_lmul 31 (sg_ladd (sg_lmul 31 (sg_ladd (sg_lmul 31 (sg_ladd (sg_lmul 31 (sg_ladd (sg_lmul 31 (sg_ladd (sg_lmul 31 (sg_ladd (sg_lmul 31 (sg_ladd (sg_lmul 31 (sg_ladd (sg_lmul 31 (sg_ladd (sg_lmul 31 v3) r2)) r3)) r4)) r5)) r6)) r7)) r8)) r9)) r10))] G11 Q
    refine sg_blk [(53, 0, 0, 0, 0), (44, 0, 0, 0, 0), (27, 0, 0, 3, 0), (12, 31, 0, 280, 0), (5, 0, 0, 3, 0), (46, 0, 0, 0, 0), (1, 0, 0, 0, 0), (8, 7, 0, 0, 0), (8, 6, 0, 0, 0), (7, 1, 0, 0, 0)] (by decide +kernel) ?_
    refine And.intro rfl (And.intro rfl (And.intro rfl (And.intro (Nat.le_of_ble_eq_true rfl) (And.intro rfl (And.intro rfl (And.intro rfl (And.intro rfl (And.intro rfl (?_)))))))))
    show sg_Wp 0 N (d + 1) m_G_digestRest 191 [(0, 2, 44), (3, 1, sg_ladd (sg_lmul 31 (sg_ladd (sg_lmul 31 (sg_ladd (sg_lmul 31 (sg_ladd (sg_lmul 31 (sg_ladd (sg_lmul 31 (sg_ladd (sg_lmul 31 (sg_ladd (sg_lmul 31 (sg_ladd (sg_lmul 31 (sg_ladd (sg_lmul 31 (sg_ladd (sg_lmul 31 v3) r2)) r3)) r4)) r5)) r6)) r7)) r8)) r9)) r10)) r11), (5, 0, v5)] [(0, 1), (0, 6), (0, 7), (2, 44), (1, sg_lmul 31 (sg_ladd (sg_lmul 31 (sg_ladd (sg_lmul 31 (sg_ladd (sg_lmul 31 (sg_ladd (sg_lmul 31 (sg_ladd (sg_lmul 31 (sg_ladd (sg_lmul 31 (sg_ladd (sg_lmul 31 (sg_ladd (sg_lmul 31 (sg_ladd (sg_lmul 31 (sg_ladd (sg_lmul 31 v3) r2)) r3)) r4)) r5)) r6)) r7)) r8)) r9)) r10)) r11))] G11 Q
    refine sg_callV (k := d) (y' := m_G_decades) (av := [(0, 7), (0, 6), (0, 1)]) (rest := [(1, sg_lmul 31 (sg_ladd (sg_lmul 31 (sg_ladd (sg_lmul 31 (sg_ladd (sg_lmul 31 (sg_ladd (sg_lmul 31 (sg_ladd (sg_lmul 31 (sg_ladd (sg_lmul 31 (sg_ladd (sg_lmul 31 (sg_ladd (sg_lmul 31 (sg_ladd (sg_lmul 31 (sg_ladd (sg_lmul 31 v3) r2)) r3)) r4)) r5)) r6)) r7)) r8)) r9)) r10)) r11))]) (b := 44) (by decide +kernel) cv_G_decades ml_10_343 (ce_44 hN) rfl rfl (Nat.le_of_ble_eq_true rfl) (Nat.lt_succ_self d) (Nat.le_of_ble_eq_true rfl) rfl ?_
    show sg_Wp 0 N d m_G_decades 0 [(0, 2, 44), (1, 0, 7), (2, 0, 6), (3, 0, 1)] [] G11 _
    refine sg_Wp.mono hhr11 (fun r12 G12 hhr12 => ?_)
    show sg_Wp 0 N (d + 1) m_G_digestRest 194 [(0, 2, 44), (3, 1, sg_ladd (sg_lmul 31 (sg_ladd (sg_lmul 31 (sg_ladd (sg_lmul 31 (sg_ladd (sg_lmul 31 (sg_ladd (sg_lmul 31 (sg_ladd (sg_lmul 31 (sg_ladd (sg_lmul 31 (sg_ladd (sg_lmul 31 (sg_ladd (sg_lmul 31 (sg_ladd (sg_lmul 31 v3) r2)) r3)) r4)) r5)) r6)) r7)) r8)) r9)) r10)) r11), (5, 0, v5)] [(0, r12), (1, sg_lmul 31 (sg_ladd (sg_lmul 31 (sg_ladd (sg_lmul 31 (sg_ladd (sg_lmul 31 (sg_ladd (sg_lmul 31 (sg_ladd (sg_lmul 31 (sg_ladd (sg_lmul 31 (sg_ladd (sg_lmul 31 (sg_ladd (sg_lmul 31 (sg_ladd (sg_lmul 31 (sg_ladd (sg_lmul 31 v3) r2)) r3)) r4)) r5)) r6)) r7)) r8)) r9)) r10)) r11))] G12 Q
    refine sg_blk [(53, 0, 0, 0, 0), (44, 0, 0, 0, 0)] (by decide +kernel) ?_
    show sg_Wp 0 N (d + 1) m_G_digestRest 196 [(0, 2, 44), (3, 1, sg_ladd (sg_lmul 31 (sg_ladd (sg_lmul 31 (sg_ladd (sg_lmul 31 (sg_ladd (sg_lmul 31 (sg_ladd (sg_lmul 31 (sg_ladd (sg_lmul 31 (sg_ladd (sg_lmul 31 (sg_ladd (sg_lmul 31 (sg_ladd (sg_lmul 31 (sg_ladd (sg_lmul 31 v3) r2)) r3)) r4)) r5)) r6)) r7)) r8)) r9)) r10)) r11), (5, 0, v5)] [(1, sg_ladd (sg_lmul 31 (sg_ladd (sg_lmul 31 (sg_ladd (sg_lmul 31 (sg_ladd (sg_lmul 31 (sg_ladd (sg_lmul 31 (sg_ladd (sg_lmul 31 (sg_ladd (sg_lmul 31 (sg_ladd (sg_lmul 31 (sg_ladd (sg_lmul 31 (sg_ladd (sg_lmul 31 (sg_ladd (sg_lmul 31 v3) r2)) r3)) r4)) r5)) r6)) r7)) r8)) r9)) r10)) r11)) r12)] G12 Q
    exact sg_lret (by decide +kernel) rfl hhr12
  · refine sg_blk [(12, 31, 0, 280, 0), (5, 0, 0, 3, 0), (46, 0, 0, 0, 0), (1, 0, 0, 0, 0), (4, 0, 0, 5, 0)] (by decide +kernel) ?_
    refine And.intro rfl (And.intro rfl (And.intro (Nat.le_of_ble_eq_true rfl) (And.intro rfl (?_))))
    show sg_Wp 0 N (d + 1) m_G_digestRest 29 [(0, 2, 44), (3, 1, v3), (5, 0, v5)] [(0, v5), (2, 44), (1, sg_lmul 31 v3)] G Q
    refine sg_callV (k := d) (y' := m_G_longest) (av := [(0, v5)]) (rest := [(1, sg_lmul 31 v3)]) (b := 44) (by decide +kernel) cv_G_longest ml_10_323 (ce_44 hN) rfl rfl (Nat.le_of_ble_eq_true rfl) (Nat.lt_succ_self d) (Nat.le_of_ble_eq_true rfl) rfl ?_
    show sg_Wp 0 N d m_G_longest 0 [(0, 2, 44), (1, 0, v5)] [] G _
    refine sg_Wp.mono ((h.2 q1)) (fun r13 G13 hhr13 => ?_)
    show sg_Wp 0 N (d + 1) m_G_digestRest 32 [(0, 2, 44), (3, 1, v3), (5, 0, v5)] [(0, r13), (1, sg_lmul 31 v3)] G13 Q
    refine sg_blk [(53, 0, 0, 0, 0), (44, 0, 0, 0, 0), (27, 0, 0, 3, 0), (31, 1, 0, 5, 0)] (by decide +kernel) ?_
    refine And.intro rfl (And.intro rfl (?_))
    show sg_Wp 0 N (d + 1) m_G_digestRest 38 [(0, 2, 44), (3, 1, sg_ladd (sg_lmul 31 v3) r13), (5, 0, sg_iadd v5 1)] [] G13 Q
    refine sg_goto (off := -23) (tgt := 15) (by decide +kernel) (by decide) ?_
    exact hhr13
set_option maxRecDepth 100000 in
theorem g_G_dust_44_0 {d N : Nat} (hN : 75 ≤ N) {v1 v2 : Int} {G : SgM} {Q : Int → SgM → Prop} (h : ((0 ≤ v1 ∧ v1 < 24) → (((0 ≤ v2 ∧ v2 < 2) → (sg_Wp 0 N d m_P_planDust 0 [(0, 2, 45), (1, 0, v1)] [] G (fun r1 G1 => (v2 ≠ 0 → (Q (G1 45 2) G1)) ∧ (¬ (v2 ≠ 0) → (Q (G1 45 1) G1))))) ∧ (¬ (0 ≤ v2 ∧ v2 < 2) → (Q ((-2)) G)))) ∧ (¬ (0 ≤ v1 ∧ v1 < 24) → (Q ((-2)) G))) : sg_Wp 0 N (d + 1) m_G_dust 0 [(0, 2, 44), (1, 0, v1), (2, 0, v2)] [] G Q := by
  refine sg_blk [(3, 0, 0, 1, 0), (8, 24, 0, 0, 0)] (by decide +kernel) ?_
  refine And.intro rfl (And.intro rfl (And.intro rfl (?_)))
  show sg_Wp 0 N (d + 1) m_G_dust 3 [(0, 2, 44), (1, 0, v1), (2, 0, v2)] [(0, 24), (0, v1)] G Q
  refine sg_callS (k := d) (y' := m_G_isBelow) (av := [(0, v1), (0, 24)]) (rest := []) (by decide +kernel) cs_G_isBelow ml_10_46 rfl (Nat.le_of_ble_eq_true rfl) (Nat.lt_succ_self d) (Nat.le_of_ble_eq_true rfl) rfl ?_
  show sg_Wp 0 N d m_G_isBelow 0 [(0, 0, v1), (1, 0, 24)] [] G _
  refine s_G_isBelow ?_
  show sg_Wp 0 N (d + 1) m_G_dust 6 [(0, 2, 44), (1, 0, v1), (2, 0, v2)] [(0, sg_bo (0 ≤ v1 ∧ v1 < 24))] G Q
  refine sg_bif_eq (off := 11) (tgt := 17) (by decide +kernel) (by decide) ⟨fun q3 => ?_, fun q3 => ?_⟩
  · refine sg_blk [(3, 0, 0, 2, 0), (7, 2, 0, 0, 0)] (by decide +kernel) ?_
    refine And.intro rfl (And.intro rfl (?_))
    show sg_Wp 0 N (d + 1) m_G_dust 11 [(0, 2, 44), (1, 0, v1), (2, 0, v2)] [(0, 2), (0, v2)] G Q
    refine sg_callS (k := d) (y' := m_G_isBelow) (av := [(0, v2), (0, 2)]) (rest := []) (by decide +kernel) cs_G_isBelow ml_10_46 rfl (Nat.le_of_ble_eq_true rfl) (Nat.lt_succ_self d) (Nat.le_of_ble_eq_true rfl) rfl ?_
    show sg_Wp 0 N d m_G_isBelow 0 [(0, 0, v2), (1, 0, 2)] [] G _
    refine s_G_isBelow ?_
    show sg_Wp 0 N (d + 1) m_G_dust 14 [(0, 2, 44), (1, 0, v1), (2, 0, v2)] [(0, sg_bo (0 ≤ v2 ∧ v2 < 2))] G Q
    refine sg_bif_ne (off := 6) (tgt := 20) (by decide +kernel) (by decide) ⟨fun q2 => ?_, fun q2 => ?_⟩
    · refine sg_blk [(1, 0, 0, 0, 0), (65, 45, 10, 21, 1), (3, 0, 0, 1, 0)] (by decide +kernel) ?_
      refine And.intro (Nat.le_of_ble_eq_true rfl) (And.intro (ce_44 hN) (And.intro rr_44_1 (And.intro rfl (?_))))
      show sg_Wp 0 N (d + 1) m_G_dust 25 [(0, 2, 44), (1, 0, v1), (2, 0, v2)] [(0, v1), (2, 45)] G Q
      refine sg_callV (k := d) (y' := m_P_planDust) (av := [(0, v1)]) (rest := []) (b := 45) (by decide +kernel) cv_P_planDust ml_10_185 (ce_45 hN) rfl rfl (Nat.le_of_ble_eq_true rfl) (Nat.lt_succ_self d) (Nat.le_of_ble_eq_true rfl) rfl ?_
      show sg_Wp 0 N d m_P_planDust 0 [(0, 2, 45), (1, 0, v1)] [] G _
      refine sg_Wp.mono (((h.1 q3).1 q2)) (fun r1 G1 hhr1 => ?_)
      show sg_Wp 0 N (d + 1) m_G_dust 28 [(0, 2, 44), (1, 0, v1), (2, 0, v2)] [] G1 Q
      refine sg_blk [(3, 0, 0, 2, 0)] (by decide +kernel) ?_
      refine And.intro rfl (?_)
      show sg_Wp 0 N (d + 1) m_G_dust 29 [(0, 2, 44), (1, 0, v1), (2, 0, v2)] [(0, v2)] G1 Q
      refine sg_if_ne (off := 13) (tgt := 42) (by decide +kernel) (by decide) ⟨fun q1 => ?_, fun q1 => ?_⟩
      · refine sg_blk [(1, 0, 0, 0, 0), (65, 45, 10, 21, 1), (15, 0, 5, 182, 2)] (by decide +kernel) ?_
        refine And.intro (Nat.le_of_ble_eq_true rfl) (And.intro (ce_44 hN) (And.intro rr_44_1 (And.intro (ce_45 hN) (?_))))
        show sg_Wp 0 N (d + 1) m_G_dust 49 [(0, 2, 44), (1, 0, v1), (2, 0, v2)] [(0, G1 45 2)] G1 Q
        exact sg_ret (by decide +kernel) rfl (Or.inl rfl) ((hhr1.1 q1))
      · refine sg_blk [(1, 0, 0, 0, 0), (65, 45, 10, 21, 1), (15, 0, 5, 179, 1)] (by decide +kernel) ?_
        refine And.intro (Nat.le_of_ble_eq_true rfl) (And.intro (ce_44 hN) (And.intro rr_44_1 (And.intro (ce_45 hN) (?_))))
        show sg_Wp 0 N (d + 1) m_G_dust 39 [(0, 2, 44), (1, 0, v1), (2, 0, v2)] [(0, G1 45 1)] G1 Q
        refine sg_goto (off := 10) (tgt := 49) (by decide +kernel) (by decide) ?_
        exact sg_ret (by decide +kernel) rfl (Or.inl rfl) ((hhr1.2 q1))
    · refine sg_blk [(8, (-2), 0, 0, 0)] (by decide +kernel) ?_
      refine And.intro rfl (And.intro rfl (?_))
      show sg_Wp 0 N (d + 1) m_G_dust 19 [(0, 2, 44), (1, 0, v1), (2, 0, v2)] [(0, (-2))] G Q
      exact sg_ret (by decide +kernel) rfl (Or.inl rfl) (((h.1 q3).2 q2))
  · refine sg_blk [(8, (-2), 0, 0, 0)] (by decide +kernel) ?_
    refine And.intro rfl (And.intro rfl (?_))
    show sg_Wp 0 N (d + 1) m_G_dust 19 [(0, 2, 44), (1, 0, v1), (2, 0, v2)] [(0, (-2))] G Q
    exact sg_ret (by decide +kernel) rfl (Or.inl rfl) ((h.2 q3))
set_option maxRecDepth 100000 in
theorem g_G_event_44_0 {d N : Nat} (hN : 75 ≤ N) {v1 v2 v3 : Int} {G : SgM} {Q : Int → SgM → Prop} (h : (((0 ≤ v1 ∧ v1 < 3) ∧ (0 ≤ v2 ∧ v2 < 24) ∧ (0 ≤ v3 ∧ v3 < 10)) → (sg_Wp 0 N (d + 1) m_E_add 0 [(0, 2, 13), (1, 0, v1), (2, 0, v2), (3, 0, v3)] [] G (fun r1 G1 => (r1 ≠ 0 → (sg_Wp 0 N (d + 1) m_K_tellAnew 0 [(0, 2, 0)] [] G1 (fun r2 G2 => Q (G2 13 0) G2))) ∧ (¬ (r1 ≠ 0) → (Q ((-4)) G1))))) ∧ (¬ ((0 ≤ v1 ∧ v1 < 3) ∧ (0 ≤ v2 ∧ v2 < 24) ∧ (0 ≤ v3 ∧ v3 < 10)) → (Q ((-2)) G))) : sg_Wp 0 N (d + 2) m_G_event 0 [(0, 2, 44), (1, 0, v1), (2, 0, v2), (3, 0, v3)] [] G Q := by
  refine sg_blk [(3, 0, 0, 1, 0), (3, 0, 0, 2, 0), (3, 0, 0, 3, 0)] (by decide +kernel) ?_
  refine And.intro rfl (And.intro rfl (And.intro rfl (?_)))
  show sg_Wp 0 N (d + 2) m_G_event 3 [(0, 2, 44), (1, 0, v1), (2, 0, v2), (3, 0, v3)] [(0, v3), (0, v2), (0, v1)] G Q
  refine sg_callS (k := (d + 1)) (y' := m_E_mayBe) (av := [(0, v1), (0, v2), (0, v3)]) (rest := []) (by decide +kernel) cs_E_mayBe ml_10_105 rfl (Nat.le_of_ble_eq_true rfl) (Nat.lt_succ_self (d + 1)) (Nat.le_of_ble_eq_true rfl) rfl ?_
  show sg_Wp 0 N (d + 1) m_E_mayBe 0 [(0, 0, v1), (1, 0, v2), (2, 0, v3)] [] G _
  refine s_E_mayBe ?_
  show sg_Wp 0 N (d + 2) m_G_event 6 [(0, 2, 44), (1, 0, v1), (2, 0, v2), (3, 0, v3)] [(0, sg_bo ((0 ≤ v1 ∧ v1 < 3) ∧ (0 ≤ v2 ∧ v2 < 24) ∧ (0 ≤ v3 ∧ v3 < 10)))] G Q
  refine sg_bif_ne (off := 6) (tgt := 12) (by decide +kernel) (by decide) ⟨fun q2 => ?_, fun q2 => ?_⟩
  · refine sg_blk [(1, 0, 0, 0, 0), (65, 0, 10, 10, 0), (65, 13, 4, 111, 3), (3, 0, 0, 1, 0), (3, 0, 0, 2, 0), (3, 0, 0, 3, 0)] (by decide +kernel) ?_
    refine And.intro (Nat.le_of_ble_eq_true rfl) (And.intro (ce_44 hN) (And.intro rr_44_0 (And.intro (ce_0 (Nat.le_trans (by decide) hN)) (And.intro rr_0_3 (And.intro rfl (And.intro rfl (And.intro rfl (?_))))))))
    show sg_Wp 0 N (d + 2) m_G_event 22 [(0, 2, 44), (1, 0, v1), (2, 0, v2), (3, 0, v3)] [(0, v3), (0, v2), (0, v1), (2, 13)] G Q
    refine sg_callV (k := (d + 1)) (y' := m_E_add) (av := [(0, v1), (0, v2), (0, v3)]) (rest := []) (b := 13) (by decide +kernel) cv_E_add ml_10_115 (ce_13 (Nat.le_trans (by decide) hN)) rfl rfl (Nat.le_of_ble_eq_true rfl) (Nat.lt_succ_self (d + 1)) (Nat.le_of_ble_eq_true rfl) rfl ?_
    show sg_Wp 0 N (d + 1) m_E_add 0 [(0, 2, 13), (1, 0, v1), (2, 0, v2), (3, 0, v3)] [] G _
    refine sg_Wp.mono ((h.1 q2)) (fun r1 G1 hhr1 => ?_)
    show sg_Wp 0 N (d + 2) m_G_event 25 [(0, 2, 44), (1, 0, v1), (2, 0, v2), (3, 0, v3)] [(0, r1)] G1 Q
    refine sg_if_ne (off := 6) (tgt := 31) (by decide +kernel) (by decide) ⟨fun q1 => ?_, fun q1 => ?_⟩
    · refine sg_blk [(1, 0, 0, 0, 0), (65, 0, 10, 10, 0)] (by decide +kernel) ?_
      refine And.intro (Nat.le_of_ble_eq_true rfl) (And.intro (ce_44 hN) (And.intro rr_44_0 (?_)))
      show sg_Wp 0 N (d + 2) m_G_event 35 [(0, 2, 44), (1, 0, v1), (2, 0, v2), (3, 0, v3)] [(2, 0)] G1 Q
      refine sg_callV (k := (d + 1)) (y' := m_K_tellAnew) (av := []) (rest := []) (b := 0) (by decide +kernel) cv_K_tellAnew ml_10_60 (ce_0 (Nat.le_trans (by decide) hN)) rfl rfl (Nat.le_of_ble_eq_true rfl) (Nat.lt_succ_self (d + 1)) (Nat.le_of_ble_eq_true rfl) rfl ?_
      show sg_Wp 0 N (d + 1) m_K_tellAnew 0 [(0, 2, 0)] [] G1 _
      refine sg_Wp.mono ((hhr1.1 q1)) (fun r2 G2 hhr2 => ?_)
      show sg_Wp 0 N (d + 2) m_G_event 38 [(0, 2, 44), (1, 0, v1), (2, 0, v2), (3, 0, v3)] [] G2 Q
      refine sg_blk [(1, 0, 0, 0, 0), (65, 0, 10, 10, 0), (65, 13, 4, 111, 3), (15, 0, 2, 117, 0)] (by decide +kernel) ?_
      refine And.intro (Nat.le_of_ble_eq_true rfl) (And.intro (ce_44 hN) (And.intro rr_44_0 (And.intro (ce_0 (Nat.le_trans (by decide) hN)) (And.intro rr_0_3 (And.intro (ce_13 (Nat.le_trans (by decide) hN)) (?_))))))
      show sg_Wp 0 N (d + 2) m_G_event 48 [(0, 2, 44), (1, 0, v1), (2, 0, v2), (3, 0, v3)] [(0, G2 13 0)] G2 Q
      exact sg_ret (by decide +kernel) rfl (Or.inl rfl) hhr2
    · refine sg_blk [(8, (-4), 0, 0, 0)] (by decide +kernel) ?_
      refine And.intro rfl (And.intro rfl (?_))
      show sg_Wp 0 N (d + 2) m_G_event 30 [(0, 2, 44), (1, 0, v1), (2, 0, v2), (3, 0, v3)] [(0, (-4))] G1 Q
      exact sg_ret (by decide +kernel) rfl (Or.inl rfl) ((hhr1.2 q1))
  · refine sg_blk [(8, (-2), 0, 0, 0)] (by decide +kernel) ?_
    refine And.intro rfl (And.intro rfl (?_))
    show sg_Wp 0 N (d + 2) m_G_event 11 [(0, 2, 44), (1, 0, v1), (2, 0, v2), (3, 0, v3)] [(0, (-2))] G Q
    exact sg_ret (by decide +kernel) rfl (Or.inl rfl) ((h.2 q2))
set_option maxRecDepth 100000 in
theorem g_G_fault_44_0 {d N : Nat} (hN : 75 ≤ N) {v1 : Int} {G : SgM} {Q : Int → SgM → Prop} (h : ((0 ≤ v1 ∧ v1 < 2) → (sg_Wp 0 N d m_K_textOf 0 [(0, 2, 0), (1, 0, v1)] [] G (fun r1 G1 => (r1 = 1 ∧ (sg_Wp 0 N d m_T_firstFault 0 [(0, 2, 1)] [] G1 (fun r2 G2 => Q r2 G2))) ∨ (r1 = 3 ∧ (sg_Wp 0 N d m_T_firstFault 0 [(0, 2, 3)] [] G1 (fun r3 G3 => Q r3 G3)))))) ∧ (¬ (0 ≤ v1 ∧ v1 < 2) → (Q ((-2)) G))) : sg_Wp 0 N (d + 1) m_G_fault 0 [(0, 2, 44), (1, 0, v1)] [] G Q := by
  refine sg_blk [(3, 0, 0, 1, 0), (7, 2, 0, 0, 0)] (by decide +kernel) ?_
  refine And.intro rfl (And.intro rfl (?_))
  show sg_Wp 0 N (d + 1) m_G_fault 2 [(0, 2, 44), (1, 0, v1)] [(0, 2), (0, v1)] G Q
  refine sg_callS (k := d) (y' := m_G_isBelow) (av := [(0, v1), (0, 2)]) (rest := []) (by decide +kernel) cs_G_isBelow ml_10_46 rfl (Nat.le_of_ble_eq_true rfl) (Nat.lt_succ_self d) (Nat.le_of_ble_eq_true rfl) rfl ?_
  show sg_Wp 0 N d m_G_isBelow 0 [(0, 0, v1), (1, 0, 2)] [] G _
  refine s_G_isBelow ?_
  show sg_Wp 0 N (d + 1) m_G_fault 5 [(0, 2, 44), (1, 0, v1)] [(0, sg_bo (0 ≤ v1 ∧ v1 < 2))] G Q
  refine sg_bif_eq (off := 17) (tgt := 22) (by decide +kernel) (by decide) ⟨fun q1 => ?_, fun q1 => ?_⟩
  · refine sg_blk [(1, 0, 0, 0, 0), (65, 0, 10, 10, 0), (3, 0, 0, 1, 0)] (by decide +kernel) ?_
    refine And.intro (Nat.le_of_ble_eq_true rfl) (And.intro (ce_44 hN) (And.intro rr_44_0 (And.intro rfl (?_))))
    show sg_Wp 0 N (d + 1) m_G_fault 13 [(0, 2, 44), (1, 0, v1)] [(0, v1), (2, 0)] G Q
    refine sg_callV (k := d) (y' := m_K_textOf) (av := [(0, v1)]) (rest := []) (b := 0) (by decide +kernel) cv_K_textOf ml_10_50 (ce_0 (Nat.le_trans (by decide) hN)) rfl rfl (Nat.le_of_ble_eq_true rfl) (Nat.lt_succ_self d) (Nat.le_of_ble_eq_true rfl) rfl ?_
    show sg_Wp 0 N d m_K_textOf 0 [(0, 2, 0), (1, 0, v1)] [] G _
    refine sg_Wp.mono ((h.1 q1)) (fun r1 G1 hhr1 => ?_)
    rcases hhr1 with ⟨er1, hhr1⟩ | ⟨er1, hhr1⟩
    · subst er1
      show sg_Wp 0 N (d + 1) m_G_fault 16 [(0, 2, 44), (1, 0, v1)] [(2, 1)] G1 Q
      refine sg_callV (k := d) (y' := m_T_firstFault) (av := []) (rest := []) (b := 1) (by decide +kernel) cv_T_firstFault ml_10_70 (ce_1 (Nat.le_trans (by decide) hN)) rfl rfl (Nat.le_of_ble_eq_true rfl) (Nat.lt_succ_self d) (Nat.le_of_ble_eq_true rfl) rfl ?_
      show sg_Wp 0 N d m_T_firstFault 0 [(0, 2, 1)] [] G1 _
      refine sg_Wp.mono hhr1 (fun r2 G2 hhr2 => ?_)
      show sg_Wp 0 N (d + 1) m_G_fault 19 [(0, 2, 44), (1, 0, v1)] [(0, r2)] G2 Q
      refine sg_goto (off := 5) (tgt := 24) (by decide +kernel) (by decide) ?_
      exact sg_ret (by decide +kernel) rfl (Or.inl rfl) hhr2
    · subst er1
      show sg_Wp 0 N (d + 1) m_G_fault 16 [(0, 2, 44), (1, 0, v1)] [(2, 3)] G1 Q
      refine sg_callV (k := d) (y' := m_T_firstFault) (av := []) (rest := []) (b := 3) (by decide +kernel) cv_T_firstFault ml_10_70 (ce_3 (Nat.le_trans (by decide) hN)) rfl rfl (Nat.le_of_ble_eq_true rfl) (Nat.lt_succ_self d) (Nat.le_of_ble_eq_true rfl) rfl ?_
      show sg_Wp 0 N d m_T_firstFault 0 [(0, 2, 3)] [] G1 _
      refine sg_Wp.mono hhr1 (fun r3 G3 hhr3 => ?_)
      show sg_Wp 0 N (d + 1) m_G_fault 19 [(0, 2, 44), (1, 0, v1)] [(0, r3)] G3 Q
      refine sg_goto (off := 5) (tgt := 24) (by decide +kernel) (by decide) ?_
      exact sg_ret (by decide +kernel) rfl (Or.inl rfl) hhr3
  · refine sg_blk [(8, (-2), 0, 0, 0)] (by decide +kernel) ?_
    refine And.intro rfl (And.intro rfl (?_))
    show sg_Wp 0 N (d + 1) m_G_fault 24 [(0, 2, 44), (1, 0, v1)] [(0, (-2))] G Q
    exact sg_ret (by decide +kernel) rfl (Or.inl rfl) ((h.2 q1))
set_option maxRecDepth 100000 in
theorem g_G_forget_44_0 {d N : Nat} (hN : 75 ≤ N) {G : SgM} {Q : Int → SgM → Prop} (h : Q (G 46 1) (sg_up G 46 1 0)) : sg_Wp 0 N d m_G_forget 0 [(0, 2, 44)] [] G Q := by
  refine sg_blk [(1, 0, 0, 0, 0), (65, 46, 10, 28, 2), (15, 0, 3, 204, 1), (25, 0, 0, 1, 0), (1, 0, 0, 0, 0), (65, 46, 10, 28, 2), (7, 0, 0, 0, 0), (16, 0, 3, 204, 1), (3, 0, 0, 1, 0)] (by decide +kernel) ?_
  refine And.intro (Nat.le_of_ble_eq_true rfl) (And.intro (ce_44 hN) (And.intro rr_44_2 (And.intro (ce_46 hN) (And.intro rfl (And.intro (Nat.le_of_ble_eq_true rfl) (And.intro (ce_44 hN) (And.intro rr_44_2 (And.intro rfl (And.intro (ce_46 hN) (And.intro rfl (?_)))))))))))
  show sg_Wp 0 N d m_G_forget 17 [(0, 2, 44), (1, 0, G 46 1)] [(0, G 46 1)] (sg_up G 46 1 0) Q
  exact sg_ret (by decide +kernel) rfl (Or.inl rfl) h
set_option maxRecDepth 100000 in
theorem g_G_forgotten_44_0 {d N : Nat} (hN : 75 ≤ N) {G : SgM} {Q : Int → SgM → Prop} (h : Q (G 21 13) G) : sg_Wp 0 N d m_G_forgotten 0 [(0, 2, 44)] [] G Q := by
  refine sg_blk [(1, 0, 0, 0, 0), (65, 0, 10, 10, 0), (65, 21, 4, 130, 5), (15, 0, 1, 154, 13)] (by decide +kernel) ?_
  refine And.intro (Nat.le_of_ble_eq_true rfl) (And.intro (ce_44 hN) (And.intro rr_44_0 (And.intro (ce_0 (Nat.le_trans (by decide) hN)) (And.intro rr_0_5 (And.intro (ce_21 (Nat.le_trans (by decide) hN)) (?_))))))
  show sg_Wp 0 N d m_G_forgotten 10 [(0, 2, 44)] [(0, G 21 13)] G Q
  exact sg_ret (by decide +kernel) rfl (Or.inl rfl) h
set_option maxRecDepth 100000 in
theorem g_G_get_44_0 {d N : Nat} (hN : 75 ≤ N) {v1 v2 v3 : Int} {G : SgM} {Q : Int → SgM → Prop} (h : sg_Wp 0 N d m_Z_refusalOfItem 0 [(0, 2, 67), (1, 0, v1), (2, 0, v2), (3, 0, v3)] [] G (fun r1 G1 => (r1 = 0 → (sg_Wp 0 N d m_Z_item 0 [(0, 2, 67), (1, 0, v1), (2, 0, v3)] [] G1 (fun r2 G2 => Q r2 G2))) ∧ (¬ (r1 = 0) → (Q ((-2147483648)) G1)))) : sg_Wp 0 N (d + 1) m_G_get 0 [(0, 2, 44), (1, 0, v1), (2, 0, v2), (3, 0, v3)] [] G Q := by
  refine sg_blk [(1, 0, 0, 0, 0), (65, 67, 10, 42, 4), (3, 0, 0, 1, 0), (3, 0, 0, 2, 0), (3, 0, 0, 3, 0)] (by decide +kernel) ?_
  refine And.intro (Nat.le_of_ble_eq_true rfl) (And.intro (ce_44 hN) (And.intro rr_44_4 (And.intro rfl (And.intro rfl (And.intro rfl (?_))))))
  show sg_Wp 0 N (d + 1) m_G_get 7 [(0, 2, 44), (1, 0, v1), (2, 0, v2), (3, 0, v3)] [(0, v3), (0, v2), (0, v1), (2, 67)] G Q
  refine sg_callV (k := d) (y' := m_Z_refusalOfItem) (av := [(0, v1), (0, v2), (0, v3)]) (rest := []) (b := 67) (by decide +kernel) cv_Z_refusalOfItem ml_10_242 (ce_67 hN) rfl rfl (Nat.le_of_ble_eq_true rfl) (Nat.lt_succ_self d) (Nat.le_of_ble_eq_true rfl) rfl ?_
  show sg_Wp 0 N d m_Z_refusalOfItem 0 [(0, 2, 67), (1, 0, v1), (2, 0, v2), (3, 0, v3)] [] G _
  refine sg_Wp.mono h (fun r1 G1 hhr1 => ?_)
  show sg_Wp 0 N (d + 1) m_G_get 10 [(0, 2, 44), (1, 0, v1), (2, 0, v2), (3, 0, v3)] [(0, r1)] G1 Q
  refine sg_if_eq (off := 8) (tgt := 18) (by decide +kernel) (by decide) ⟨fun q1 => ?_, fun q1 => ?_⟩
  · refine sg_blk [(1, 0, 0, 0, 0), (65, 67, 10, 42, 4), (3, 0, 0, 1, 0), (3, 0, 0, 3, 0)] (by decide +kernel) ?_
    refine And.intro (Nat.le_of_ble_eq_true rfl) (And.intro (ce_44 hN) (And.intro rr_44_4 (And.intro rfl (And.intro rfl (?_)))))
    show sg_Wp 0 N (d + 1) m_G_get 24 [(0, 2, 44), (1, 0, v1), (2, 0, v2), (3, 0, v3)] [(0, v3), (0, v1), (2, 67)] G1 Q
    refine sg_callV (k := d) (y' := m_Z_item) (av := [(0, v1), (0, v3)]) (rest := []) (b := 67) (by decide +kernel) cv_Z_item ml_10_126 (ce_67 hN) rfl rfl (Nat.le_of_ble_eq_true rfl) (Nat.lt_succ_self d) (Nat.le_of_ble_eq_true rfl) rfl ?_
    show sg_Wp 0 N d m_Z_item 0 [(0, 2, 67), (1, 0, v1), (2, 0, v3)] [] G1 _
    refine sg_Wp.mono ((hhr1.1 q1)) (fun r2 G2 hhr2 => ?_)
    show sg_Wp 0 N (d + 1) m_G_get 27 [(0, 2, 44), (1, 0, v1), (2, 0, v2), (3, 0, v3)] [(0, r2)] G2 Q
    exact sg_ret (by decide +kernel) rfl (Or.inl rfl) hhr2
  · refine sg_blk [(11, (-2147483648), 0, 249, 0)] (by decide +kernel) ?_
    refine And.intro rfl (?_)
    show sg_Wp 0 N (d + 1) m_G_get 15 [(0, 2, 44), (1, 0, v1), (2, 0, v2), (3, 0, v3)] [(0, (-2147483648))] G1 Q
    refine sg_goto (off := 12) (tgt := 27) (by decide +kernel) (by decide) ?_
    exact sg_ret (by decide +kernel) rfl (Or.inl rfl) ((hhr1.2 q1))
set_option maxRecDepth 100000 in
theorem g_G_hush_44_0 {d N : Nat} (hN : 75 ≤ N) {v1 v2 : Int} {G : SgM} {Q : Int → SgM → Prop} (h : ((0 ≤ v1 ∧ v1 < 24) → (((0 ≤ v2 ∧ v2 < 2) → (sg_Wp 0 N d m_P_planHush 0 [(0, 2, 45), (1, 0, v1)] [] G (fun r1 G1 => (v2 ≠ 0 → (Q (G1 45 2) G1)) ∧ (¬ (v2 ≠ 0) → (Q (G1 45 1) G1))))) ∧ (¬ (0 ≤ v2 ∧ v2 < 2) → (Q ((-2)) G)))) ∧ (¬ (0 ≤ v1 ∧ v1 < 24) → (Q ((-2)) G))) : sg_Wp 0 N (d + 1) m_G_hush 0 [(0, 2, 44), (1, 0, v1), (2, 0, v2)] [] G Q := by
  refine sg_blk [(3, 0, 0, 1, 0), (8, 24, 0, 0, 0)] (by decide +kernel) ?_
  refine And.intro rfl (And.intro rfl (And.intro rfl (?_)))
  show sg_Wp 0 N (d + 1) m_G_hush 3 [(0, 2, 44), (1, 0, v1), (2, 0, v2)] [(0, 24), (0, v1)] G Q
  refine sg_callS (k := d) (y' := m_G_isBelow) (av := [(0, v1), (0, 24)]) (rest := []) (by decide +kernel) cs_G_isBelow ml_10_46 rfl (Nat.le_of_ble_eq_true rfl) (Nat.lt_succ_self d) (Nat.le_of_ble_eq_true rfl) rfl ?_
  show sg_Wp 0 N d m_G_isBelow 0 [(0, 0, v1), (1, 0, 24)] [] G _
  refine s_G_isBelow ?_
  show sg_Wp 0 N (d + 1) m_G_hush 6 [(0, 2, 44), (1, 0, v1), (2, 0, v2)] [(0, sg_bo (0 ≤ v1 ∧ v1 < 24))] G Q
  refine sg_bif_eq (off := 11) (tgt := 17) (by decide +kernel) (by decide) ⟨fun q3 => ?_, fun q3 => ?_⟩
  · refine sg_blk [(3, 0, 0, 2, 0), (7, 2, 0, 0, 0)] (by decide +kernel) ?_
    refine And.intro rfl (And.intro rfl (?_))
    show sg_Wp 0 N (d + 1) m_G_hush 11 [(0, 2, 44), (1, 0, v1), (2, 0, v2)] [(0, 2), (0, v2)] G Q
    refine sg_callS (k := d) (y' := m_G_isBelow) (av := [(0, v2), (0, 2)]) (rest := []) (by decide +kernel) cs_G_isBelow ml_10_46 rfl (Nat.le_of_ble_eq_true rfl) (Nat.lt_succ_self d) (Nat.le_of_ble_eq_true rfl) rfl ?_
    show sg_Wp 0 N d m_G_isBelow 0 [(0, 0, v2), (1, 0, 2)] [] G _
    refine s_G_isBelow ?_
    show sg_Wp 0 N (d + 1) m_G_hush 14 [(0, 2, 44), (1, 0, v1), (2, 0, v2)] [(0, sg_bo (0 ≤ v2 ∧ v2 < 2))] G Q
    refine sg_bif_ne (off := 6) (tgt := 20) (by decide +kernel) (by decide) ⟨fun q2 => ?_, fun q2 => ?_⟩
    · refine sg_blk [(1, 0, 0, 0, 0), (65, 45, 10, 21, 1), (3, 0, 0, 1, 0)] (by decide +kernel) ?_
      refine And.intro (Nat.le_of_ble_eq_true rfl) (And.intro (ce_44 hN) (And.intro rr_44_1 (And.intro rfl (?_))))
      show sg_Wp 0 N (d + 1) m_G_hush 25 [(0, 2, 44), (1, 0, v1), (2, 0, v2)] [(0, v1), (2, 45)] G Q
      refine sg_callV (k := d) (y' := m_P_planHush) (av := [(0, v1)]) (rest := []) (b := 45) (by decide +kernel) cv_P_planHush ml_10_188 (ce_45 hN) rfl rfl (Nat.le_of_ble_eq_true rfl) (Nat.lt_succ_self d) (Nat.le_of_ble_eq_true rfl) rfl ?_
      show sg_Wp 0 N d m_P_planHush 0 [(0, 2, 45), (1, 0, v1)] [] G _
      refine sg_Wp.mono (((h.1 q3).1 q2)) (fun r1 G1 hhr1 => ?_)
      show sg_Wp 0 N (d + 1) m_G_hush 28 [(0, 2, 44), (1, 0, v1), (2, 0, v2)] [] G1 Q
      refine sg_blk [(3, 0, 0, 2, 0)] (by decide +kernel) ?_
      refine And.intro rfl (?_)
      show sg_Wp 0 N (d + 1) m_G_hush 29 [(0, 2, 44), (1, 0, v1), (2, 0, v2)] [(0, v2)] G1 Q
      refine sg_if_ne (off := 13) (tgt := 42) (by decide +kernel) (by decide) ⟨fun q1 => ?_, fun q1 => ?_⟩
      · refine sg_blk [(1, 0, 0, 0, 0), (65, 45, 10, 21, 1), (15, 0, 5, 182, 2)] (by decide +kernel) ?_
        refine And.intro (Nat.le_of_ble_eq_true rfl) (And.intro (ce_44 hN) (And.intro rr_44_1 (And.intro (ce_45 hN) (?_))))
        show sg_Wp 0 N (d + 1) m_G_hush 49 [(0, 2, 44), (1, 0, v1), (2, 0, v2)] [(0, G1 45 2)] G1 Q
        exact sg_ret (by decide +kernel) rfl (Or.inl rfl) ((hhr1.1 q1))
      · refine sg_blk [(1, 0, 0, 0, 0), (65, 45, 10, 21, 1), (15, 0, 5, 179, 1)] (by decide +kernel) ?_
        refine And.intro (Nat.le_of_ble_eq_true rfl) (And.intro (ce_44 hN) (And.intro rr_44_1 (And.intro (ce_45 hN) (?_))))
        show sg_Wp 0 N (d + 1) m_G_hush 39 [(0, 2, 44), (1, 0, v1), (2, 0, v2)] [(0, G1 45 1)] G1 Q
        refine sg_goto (off := 10) (tgt := 49) (by decide +kernel) (by decide) ?_
        exact sg_ret (by decide +kernel) rfl (Or.inl rfl) ((hhr1.2 q1))
    · refine sg_blk [(8, (-2), 0, 0, 0)] (by decide +kernel) ?_
      refine And.intro rfl (And.intro rfl (?_))
      show sg_Wp 0 N (d + 1) m_G_hush 19 [(0, 2, 44), (1, 0, v1), (2, 0, v2)] [(0, (-2))] G Q
      exact sg_ret (by decide +kernel) rfl (Or.inl rfl) (((h.1 q3).2 q2))
  · refine sg_blk [(8, (-2), 0, 0, 0)] (by decide +kernel) ?_
    refine And.intro rfl (And.intro rfl (?_))
    show sg_Wp 0 N (d + 1) m_G_hush 19 [(0, 2, 44), (1, 0, v1), (2, 0, v2)] [(0, (-2))] G Q
    exact sg_ret (by decide +kernel) rfl (Or.inl rfl) ((h.2 q3))
set_option maxRecDepth 100000 in
theorem g_G_isPerson_44_0 {d N : Nat} (hN : 75 ≤ N) {v1 : Int} {G : SgM} {Q : Int → SgM → Prop} (h : Q (sg_bo (0 ≤ v1 ∧ v1 < (G 5 4))) G) : sg_Wp 0 N (d + 1) m_G_isPerson 0 [(0, 2, 44), (1, 0, v1)] [] G Q := by
  refine sg_blk [(3, 0, 0, 1, 0), (1, 0, 0, 0, 0), (65, 0, 10, 10, 0), (65, 5, 4, 77, 2), (15, 0, 8, 262, 4)] (by decide +kernel) ?_
  refine And.intro rfl (And.intro (Nat.le_of_ble_eq_true rfl) (And.intro (ce_44 hN) (And.intro rr_44_0 (And.intro (ce_0 (Nat.le_trans (by decide) hN)) (And.intro rr_0_2 (And.intro (ce_5 (Nat.le_trans (by decide) hN)) (?_)))))))
  show sg_Wp 0 N (d + 1) m_G_isPerson 11 [(0, 2, 44), (1, 0, v1)] [(0, G 5 4), (0, v1)] G Q
  refine sg_callS (k := d) (y' := m_G_isBelow) (av := [(0, v1), (0, G 5 4)]) (rest := []) (by decide +kernel) cs_G_isBelow ml_10_46 rfl (Nat.le_of_ble_eq_true rfl) (Nat.lt_succ_self d) (Nat.le_of_ble_eq_true rfl) rfl ?_
  show sg_Wp 0 N d m_G_isBelow 0 [(0, 0, v1), (1, 0, G 5 4)] [] G _
  refine s_G_isBelow ?_
  show sg_Wp 0 N (d + 1) m_G_isPerson 14 [(0, 2, 44), (1, 0, v1)] [(0, sg_bo (0 ≤ v1 ∧ v1 < (G 5 4)))] G Q
  exact sg_ret (by decide +kernel) rfl (Or.inr ⟨Or.inl rfl, sg_bo01 _⟩) h
set_option maxRecDepth 100000 in
theorem g_G_isPost_44_0 {d N : Nat} (hN : 75 ≤ N) {v1 : Int} {G : SgM} {Q : Int → SgM → Prop} (h : Q (sg_bo (0 ≤ v1 ∧ v1 < (G 5 0))) G) : sg_Wp 0 N (d + 1) m_G_isPost 0 [(0, 2, 44), (1, 0, v1)] [] G Q := by
  refine sg_blk [(3, 0, 0, 1, 0), (1, 0, 0, 0, 0), (65, 0, 10, 10, 0), (65, 5, 4, 77, 2), (15, 0, 8, 259, 0)] (by decide +kernel) ?_
  refine And.intro rfl (And.intro (Nat.le_of_ble_eq_true rfl) (And.intro (ce_44 hN) (And.intro rr_44_0 (And.intro (ce_0 (Nat.le_trans (by decide) hN)) (And.intro rr_0_2 (And.intro (ce_5 (Nat.le_trans (by decide) hN)) (?_)))))))
  show sg_Wp 0 N (d + 1) m_G_isPost 11 [(0, 2, 44), (1, 0, v1)] [(0, G 5 0), (0, v1)] G Q
  refine sg_callS (k := d) (y' := m_G_isBelow) (av := [(0, v1), (0, G 5 0)]) (rest := []) (by decide +kernel) cs_G_isBelow ml_10_46 rfl (Nat.le_of_ble_eq_true rfl) (Nat.lt_succ_self d) (Nat.le_of_ble_eq_true rfl) rfl ?_
  show sg_Wp 0 N d m_G_isBelow 0 [(0, 0, v1), (1, 0, G 5 0)] [] G _
  refine s_G_isBelow ?_
  show sg_Wp 0 N (d + 1) m_G_isPost 14 [(0, 2, 44), (1, 0, v1)] [(0, sg_bo (0 ≤ v1 ∧ v1 < (G 5 0)))] G Q
  exact sg_ret (by decide +kernel) rfl (Or.inr ⟨Or.inl rfl, sg_bo01 _⟩) h
set_option maxRecDepth 100000 in
theorem g_G_lay_44_0 {d N : Nat} (hN : 75 ≤ N) {v1 v2 v3 v4 : Int} {G : SgM} {Q : Int → SgM → Prop} (h : sg_Wp 0 N d m_Z_refusalOfItem 0 [(0, 2, 67), (1, 0, v1), (2, 0, v2), (3, 0, v3)] [] G (fun r1 G1 => (r1 = 0 → (sg_Wp 0 N d m_Z_put 0 [(0, 2, 67), (1, 0, v1), (2, 0, v3), (3, 0, v4)] [] G1 (fun r2 G2 => Q 1 G2))) ∧ (¬ (r1 = 0) → (Q r1 G1)))) : sg_Wp 0 N (d + 1) m_G_lay 0 [(0, 2, 44), (1, 0, v1), (2, 0, v2), (3, 0, v3), (4, 0, v4)] [] G Q := by
  refine sg_blk [(1, 0, 0, 0, 0), (65, 67, 10, 42, 4), (3, 0, 0, 1, 0), (3, 0, 0, 2, 0), (3, 0, 0, 3, 0)] (by decide +kernel) ?_
  refine And.intro (Nat.le_of_ble_eq_true rfl) (And.intro (ce_44 hN) (And.intro rr_44_4 (And.intro rfl (And.intro rfl (And.intro rfl (?_))))))
  show sg_Wp 0 N (d + 1) m_G_lay 7 [(0, 2, 44), (1, 0, v1), (2, 0, v2), (3, 0, v3), (4, 0, v4)] [(0, v3), (0, v2), (0, v1), (2, 67)] G Q
  refine sg_callV (k := d) (y' := m_Z_refusalOfItem) (av := [(0, v1), (0, v2), (0, v3)]) (rest := []) (b := 67) (by decide +kernel) cv_Z_refusalOfItem ml_10_242 (ce_67 hN) rfl rfl (Nat.le_of_ble_eq_true rfl) (Nat.lt_succ_self d) (Nat.le_of_ble_eq_true rfl) rfl ?_
  show sg_Wp 0 N d m_Z_refusalOfItem 0 [(0, 2, 67), (1, 0, v1), (2, 0, v2), (3, 0, v3)] [] G _
  refine sg_Wp.mono h (fun r1 G1 hhr1 => ?_)
  show sg_Wp 0 N (d + 1) m_G_lay 10 [(0, 2, 44), (1, 0, v1), (2, 0, v2), (3, 0, v3), (4, 0, v4)] [(0, r1)] G1 Q
  refine sg_blk [(26, 0, 0, 5, 0), (4, 0, 0, 5, 0)] (by decide +kernel) ?_
  refine And.intro rfl (And.intro rfl (?_))
  show sg_Wp 0 N (d + 1) m_G_lay 14 [(0, 2, 44), (1, 0, v1), (2, 0, v2), (3, 0, v3), (4, 0, v4), (5, 0, r1)] [(0, r1)] G1 Q
  refine sg_if_eq (off := 6) (tgt := 20) (by decide +kernel) (by decide) ⟨fun q1 => ?_, fun q1 => ?_⟩
  · refine sg_blk [(1, 0, 0, 0, 0), (65, 67, 10, 42, 4), (3, 0, 0, 1, 0), (3, 0, 0, 3, 0), (4, 0, 0, 4, 0)] (by decide +kernel) ?_
    refine And.intro (Nat.le_of_ble_eq_true rfl) (And.intro (ce_44 hN) (And.intro rr_44_4 (And.intro rfl (And.intro rfl (And.intro rfl (?_))))))
    show sg_Wp 0 N (d + 1) m_G_lay 28 [(0, 2, 44), (1, 0, v1), (2, 0, v2), (3, 0, v3), (4, 0, v4), (5, 0, r1)] [(0, v4), (0, v3), (0, v1), (2, 67)] G1 Q
    refine sg_callV (k := d) (y' := m_Z_put) (av := [(0, v1), (0, v3), (0, v4)]) (rest := []) (b := 67) (by decide +kernel) cv_Z_put ml_10_245 (ce_67 hN) rfl rfl (Nat.le_of_ble_eq_true rfl) (Nat.lt_succ_self d) (Nat.le_of_ble_eq_true rfl) rfl ?_
    show sg_Wp 0 N d m_Z_put 0 [(0, 2, 67), (1, 0, v1), (2, 0, v3), (3, 0, v4)] [] G1 _
    refine sg_Wp.mono ((hhr1.1 q1)) (fun r2 G2 hhr2 => ?_)
    show sg_Wp 0 N (d + 1) m_G_lay 31 [(0, 2, 44), (1, 0, v1), (2, 0, v2), (3, 0, v3), (4, 0, v4), (5, 0, r1)] [] G2 Q
    refine sg_blk [(7, 1, 0, 0, 0)] (by decide +kernel) ?_
    refine And.intro rfl (?_)
    show sg_Wp 0 N (d + 1) m_G_lay 32 [(0, 2, 44), (1, 0, v1), (2, 0, v2), (3, 0, v3), (4, 0, v4), (5, 0, r1)] [(0, 1)] G2 Q
    exact sg_ret (by decide +kernel) rfl (Or.inl rfl) hhr2
  · refine sg_blk [(4, 0, 0, 5, 0)] (by decide +kernel) ?_
    refine And.intro rfl (?_)
    show sg_Wp 0 N (d + 1) m_G_lay 19 [(0, 2, 44), (1, 0, v1), (2, 0, v2), (3, 0, v3), (4, 0, v4), (5, 0, r1)] [(0, r1)] G1 Q
    exact sg_ret (by decide +kernel) rfl (Or.inl rfl) ((hhr1.2 q1))
set_option maxRecDepth 100000 in
theorem g_G_longest_44_0 {d N : Nat} (hN : 75 ≤ N) {v1 : Int} {G : SgM} {Q : Int → SgM → Prop} (h : (v1 = 0 → (Q (G 21 15) G)) ∧ (v1 ≠ 0 → ((v1 = 1 → (Q (G 21 16) G)) ∧ (v1 ≠ 1 → ((v1 = 2 → (Q (G 21 14) G)) ∧ (v1 ≠ 2 → (Q ((-2)) G))))))) : sg_Wp 0 N d m_G_longest 0 [(0, 2, 44), (1, 0, v1)] [] G Q := by
  refine sg_blk [(3, 0, 0, 1, 0)] (by decide +kernel) ?_
  refine And.intro rfl (?_)
  show sg_Wp 0 N d m_G_longest 1 [(0, 2, 44), (1, 0, v1)] [(0, v1)] G Q
  refine sg_tsw (dflt := 60) (low := 0) (high := 2) (offs := #[27, 38, 49]) (len := 27) (dt := 61) (ts := [28, 39, 50]) (by decide +kernel) (by decide) (by decide) (by decide) ?_
  refine ⟨fun q3 => ?_, fun q3 => ?_⟩
  · refine sg_blk [(1, 0, 0, 0, 0), (65, 0, 10, 10, 0), (65, 21, 4, 130, 5), (15, 0, 1, 157, 15)] (by decide +kernel) ?_
    refine And.intro (Nat.le_of_ble_eq_true rfl) (And.intro (ce_44 hN) (And.intro rr_44_0 (And.intro (ce_0 (Nat.le_trans (by decide) hN)) (And.intro rr_0_5 (And.intro (ce_21 (Nat.le_trans (by decide) hN)) (?_))))))
    show sg_Wp 0 N d m_G_longest 38 [(0, 2, 44), (1, 0, v1)] [(0, G 21 15)] G Q
    exact sg_ret (by decide +kernel) rfl (Or.inl rfl) ((h.1 q3))
  · refine ⟨fun q2 => ?_, fun q2 => ?_⟩
    · refine sg_blk [(1, 0, 0, 0, 0), (65, 0, 10, 10, 0), (65, 21, 4, 130, 5), (15, 0, 1, 160, 16)] (by decide +kernel) ?_
      refine And.intro (Nat.le_of_ble_eq_true rfl) (And.intro (ce_44 hN) (And.intro rr_44_0 (And.intro (ce_0 (Nat.le_trans (by decide) hN)) (And.intro rr_0_5 (And.intro (ce_21 (Nat.le_trans (by decide) hN)) (?_))))))
      show sg_Wp 0 N d m_G_longest 49 [(0, 2, 44), (1, 0, v1)] [(0, G 21 16)] G Q
      exact sg_ret (by decide +kernel) rfl (Or.inl rfl) (((h.2 q3).1 q2))
    · refine ⟨fun q1 => ?_, fun q1 => ?_⟩
      · refine sg_blk [(1, 0, 0, 0, 0), (65, 0, 10, 10, 0), (65, 21, 4, 130, 5), (15, 0, 1, 163, 14)] (by decide +kernel) ?_
        refine And.intro (Nat.le_of_ble_eq_true rfl) (And.intro (ce_44 hN) (And.intro rr_44_0 (And.intro (ce_0 (Nat.le_trans (by decide) hN)) (And.intro rr_0_5 (And.intro (ce_21 (Nat.le_trans (by decide) hN)) (?_))))))
        show sg_Wp 0 N d m_G_longest 60 [(0, 2, 44), (1, 0, v1)] [(0, G 21 14)] G Q
        exact sg_ret (by decide +kernel) rfl (Or.inl rfl) ((((h.2 q3).2 q2).1 q1))
      · refine sg_blk [(8, (-2), 0, 0, 0)] (by decide +kernel) ?_
        refine And.intro rfl (And.intro rfl (?_))
        show sg_Wp 0 N d m_G_longest 63 [(0, 2, 44), (1, 0, v1)] [(0, (-2))] G Q
        exact sg_ret (by decide +kernel) rfl (Or.inl rfl) ((((h.2 q3).2 q2).2 q1))
set_option maxRecDepth 100000 in
theorem g_G_lose_44_0 {d N : Nat} (hN : 75 ≤ N) {v1 : Int} {G : SgM} {Q : Int → SgM → Prop} (h : sg_Wp 0 N d m_Z_drop 0 [(0, 2, 67), (1, 0, v1)] [] G (fun r1 G1 => Q r1 G1)) : sg_Wp 0 N (d + 1) m_G_lose 0 [(0, 2, 44), (1, 0, v1)] [] G Q := by
  refine sg_blk [(1, 0, 0, 0, 0), (65, 67, 10, 42, 4), (3, 0, 0, 1, 0)] (by decide +kernel) ?_
  refine And.intro (Nat.le_of_ble_eq_true rfl) (And.intro (ce_44 hN) (And.intro rr_44_4 (And.intro rfl (?_))))
  show sg_Wp 0 N (d + 1) m_G_lose 5 [(0, 2, 44), (1, 0, v1)] [(0, v1), (2, 67)] G Q
  refine sg_callV (k := d) (y' := m_Z_drop) (av := [(0, v1)]) (rest := []) (b := 67) (by decide +kernel) cv_Z_drop ml_10_239 (ce_67 hN) rfl rfl (Nat.le_of_ble_eq_true rfl) (Nat.lt_succ_self d) (Nat.le_of_ble_eq_true rfl) rfl ?_
  show sg_Wp 0 N d m_Z_drop 0 [(0, 2, 67), (1, 0, v1)] [] G _
  refine sg_Wp.mono h (fun r1 G1 hhr1 => ?_)
  show sg_Wp 0 N (d + 1) m_G_lose 8 [(0, 2, 44), (1, 0, v1)] [(0, r1)] G1 Q
  exact sg_ret (by decide +kernel) rfl (Or.inl rfl) hhr1
set_option maxRecDepth 100000 in
theorem g_G_never_44_0 {d N : Nat} (hN : 75 ≤ N) {G : SgM} {Q : Int → SgM → Prop} (h : sg_Wp 0 N d m_H_needless 0 [(0, 2, 46)] [] G (fun r1 G1 => Q r1 G1)) : sg_Wp 0 N (d + 1) m_G_never 0 [(0, 2, 44)] [] G Q := by
  refine sg_blk [(1, 0, 0, 0, 0), (65, 46, 10, 28, 2)] (by decide +kernel) ?_
  refine And.intro (Nat.le_of_ble_eq_true rfl) (And.intro (ce_44 hN) (And.intro rr_44_2 (?_)))
  show sg_Wp 0 N (d + 1) m_G_never 4 [(0, 2, 44)] [(2, 46)] G Q
  refine sg_callV (k := d) (y' := m_H_needless) (av := []) (rest := []) (b := 46) (by decide +kernel) cv_H_needless ml_10_207 (ce_46 hN) rfl rfl (Nat.le_of_ble_eq_true rfl) (Nat.lt_succ_self d) (Nat.le_of_ble_eq_true rfl) rfl ?_
  show sg_Wp 0 N d m_H_needless 0 [(0, 2, 46)] [] G _
  refine sg_Wp.mono h (fun r1 G1 hhr1 => ?_)
  show sg_Wp 0 N (d + 1) m_G_never 7 [(0, 2, 44)] [(0, r1)] G1 Q
  exact sg_ret (by decide +kernel) rfl (Or.inl rfl) hhr1
set_option maxRecDepth 100000 in
theorem g_G_person_44_0 {d N : Nat} (hN : 75 ≤ N) {v1 v2 : Int} {G : SgM} {Q : Int → SgM → Prop} (h : sg_Wp 0 N d m_G_isPerson 0 [(0, 2, 44), (1, 0, v1)] [] G (fun r1 G1 => (r1 ≠ 0 → ((v2 = 0 → ((0 ≤ v1 ∧ v1 < 6) ∧ (Q (G1 9 v1) G1))) ∧ (v2 ≠ 0 → ((v2 = 1 → ((0 ≤ v1 ∧ v1 < 6) ∧ (Q (G1 10 v1) G1))) ∧ (v2 ≠ 1 → ((v2 = 2 → ((0 ≤ v1 ∧ v1 < 6) ∧ (Q (G1 11 v1) G1))) ∧ (v2 ≠ 2 → ((v2 = 3 → ((0 ≤ v1 ∧ v1 < 6) ∧ (Q (G1 12 v1) G1))) ∧ (v2 ≠ 3 → (Q ((-2)) G1)))))))))) ∧ (¬ (r1 ≠ 0) → (Q ((-2)) G1)))) : sg_Wp 0 N (d + 1) m_G_person 0 [(0, 2, 44), (1, 0, v1), (2, 0, v2)] [] G Q := by
  refine sg_blk [(1, 0, 0, 0, 0), (3, 0, 0, 1, 0)] (by decide +kernel) ?_
  refine And.intro (Nat.le_of_ble_eq_true rfl) (And.intro rfl (?_))
  show sg_Wp 0 N (d + 1) m_G_person 2 [(0, 2, 44), (1, 0, v1), (2, 0, v2)] [(0, v1), (2, 44)] G Q
  refine sg_callV (k := d) (y' := m_G_isPerson) (av := [(0, v1)]) (rest := []) (b := 44) (by decide +kernel) cv_G_isPerson ml_10_90 (ce_44 hN) rfl rfl (Nat.le_of_ble_eq_true rfl) (Nat.lt_succ_self d) (Nat.le_of_ble_eq_true rfl) rfl ?_
  show sg_Wp 0 N d m_G_isPerson 0 [(0, 2, 44), (1, 0, v1)] [] G _
  refine sg_Wp.mono h (fun r1 G1 hhr1 => ?_)
  show sg_Wp 0 N (d + 1) m_G_person 5 [(0, 2, 44), (1, 0, v1), (2, 0, v2)] [(0, r1)] G1 Q
  refine sg_if_ne (off := 6) (tgt := 11) (by decide +kernel) (by decide) ⟨fun q5 => ?_, fun q5 => ?_⟩
  · refine sg_blk [(3, 0, 0, 2, 0)] (by decide +kernel) ?_
    refine And.intro rfl (?_)
    show sg_Wp 0 N (d + 1) m_G_person 12 [(0, 2, 44), (1, 0, v1), (2, 0, v2)] [(0, v2)] G1 Q
    refine sg_tsw (dflt := 84) (low := 0) (high := 3) (offs := #[32, 45, 58, 71]) (len := 32) (dt := 96) (ts := [44, 57, 70, 83]) (by decide +kernel) (by decide) (by decide) (by decide) ?_
    refine ⟨fun q4 => ?_, fun q4 => ?_⟩
    · refine sg_blk [(1, 0, 0, 0, 0), (65, 0, 10, 10, 0), (65, 5, 4, 77, 2), (65, 9, 8, 93, 5), (3, 0, 0, 1, 0), (17, 6, 0, 0, 0)] (by decide +kernel) ?_
      refine And.intro (Nat.le_of_ble_eq_true rfl) (And.intro (ce_44 hN) (And.intro rr_44_0 (And.intro (ce_0 (Nat.le_trans (by decide) hN)) (And.intro rr_0_2 (And.intro (ce_5 (Nat.le_trans (by decide) hN)) (And.intro rr_5_5 (And.intro rfl (And.intro (ce_9 (Nat.le_trans (by decide) hN)) (And.intro ((hhr1.1 q5).1 q4).1 (?_))))))))))
      show sg_Wp 0 N (d + 1) m_G_person 56 [(0, 2, 44), (1, 0, v1), (2, 0, v2)] [(0, G1 9 v1)] G1 Q
      exact sg_ret (by decide +kernel) rfl (Or.inl rfl) (((hhr1.1 q5).1 q4).2)
    · refine ⟨fun q3 => ?_, fun q3 => ?_⟩
      · refine sg_blk [(1, 0, 0, 0, 0), (65, 0, 10, 10, 0), (65, 5, 4, 77, 2), (65, 10, 8, 96, 6), (3, 0, 0, 1, 0), (17, 6, 0, 0, 0)] (by decide +kernel) ?_
        refine And.intro (Nat.le_of_ble_eq_true rfl) (And.intro (ce_44 hN) (And.intro rr_44_0 (And.intro (ce_0 (Nat.le_trans (by decide) hN)) (And.intro rr_0_2 (And.intro (ce_5 (Nat.le_trans (by decide) hN)) (And.intro rr_5_6 (And.intro rfl (And.intro (ce_10 (Nat.le_trans (by decide) hN)) (And.intro (((hhr1.1 q5).2 q4).1 q3).1 (?_))))))))))
        show sg_Wp 0 N (d + 1) m_G_person 69 [(0, 2, 44), (1, 0, v1), (2, 0, v2)] [(0, G1 10 v1)] G1 Q
        exact sg_ret (by decide +kernel) rfl (Or.inl rfl) ((((hhr1.1 q5).2 q4).1 q3).2)
      · refine ⟨fun q2 => ?_, fun q2 => ?_⟩
        · refine sg_blk [(1, 0, 0, 0, 0), (65, 0, 10, 10, 0), (65, 5, 4, 77, 2), (65, 11, 8, 99, 7), (3, 0, 0, 1, 0), (17, 6, 0, 0, 0)] (by decide +kernel) ?_
          refine And.intro (Nat.le_of_ble_eq_true rfl) (And.intro (ce_44 hN) (And.intro rr_44_0 (And.intro (ce_0 (Nat.le_trans (by decide) hN)) (And.intro rr_0_2 (And.intro (ce_5 (Nat.le_trans (by decide) hN)) (And.intro rr_5_7 (And.intro rfl (And.intro (ce_11 (Nat.le_trans (by decide) hN)) (And.intro ((((hhr1.1 q5).2 q4).2 q3).1 q2).1 (?_))))))))))
          show sg_Wp 0 N (d + 1) m_G_person 82 [(0, 2, 44), (1, 0, v1), (2, 0, v2)] [(0, G1 11 v1)] G1 Q
          exact sg_ret (by decide +kernel) rfl (Or.inl rfl) (((((hhr1.1 q5).2 q4).2 q3).1 q2).2)
        · refine ⟨fun q1 => ?_, fun q1 => ?_⟩
          · refine sg_blk [(1, 0, 0, 0, 0), (65, 0, 10, 10, 0), (65, 5, 4, 77, 2), (65, 12, 8, 102, 8), (3, 0, 0, 1, 0), (17, 6, 0, 0, 0)] (by decide +kernel) ?_
            refine And.intro (Nat.le_of_ble_eq_true rfl) (And.intro (ce_44 hN) (And.intro rr_44_0 (And.intro (ce_0 (Nat.le_trans (by decide) hN)) (And.intro rr_0_2 (And.intro (ce_5 (Nat.le_trans (by decide) hN)) (And.intro rr_5_8 (And.intro rfl (And.intro (ce_12 (Nat.le_trans (by decide) hN)) (And.intro (((((hhr1.1 q5).2 q4).2 q3).2 q2).1 q1).1 (?_))))))))))
            show sg_Wp 0 N (d + 1) m_G_person 95 [(0, 2, 44), (1, 0, v1), (2, 0, v2)] [(0, G1 12 v1)] G1 Q
            exact sg_ret (by decide +kernel) rfl (Or.inl rfl) ((((((hhr1.1 q5).2 q4).2 q3).2 q2).1 q1).2)
          · refine sg_blk [(8, (-2), 0, 0, 0)] (by decide +kernel) ?_
            refine And.intro rfl (And.intro rfl (?_))
            show sg_Wp 0 N (d + 1) m_G_person 98 [(0, 2, 44), (1, 0, v1), (2, 0, v2)] [(0, (-2))] G1 Q
            exact sg_ret (by decide +kernel) rfl (Or.inl rfl) ((((((hhr1.1 q5).2 q4).2 q3).2 q2).2 q1))
  · refine sg_blk [(8, (-2), 0, 0, 0)] (by decide +kernel) ?_
    refine And.intro rfl (And.intro rfl (?_))
    show sg_Wp 0 N (d + 1) m_G_person 10 [(0, 2, 44), (1, 0, v1), (2, 0, v2)] [(0, (-2))] G1 Q
    exact sg_ret (by decide +kernel) rfl (Or.inl rfl) ((hhr1.2 q5))
set_option maxRecDepth 100000 in
theorem g_G_post_44_0 {d N : Nat} (hN : 75 ≤ N) {v1 v2 : Int} {G : SgM} {Q : Int → SgM → Prop} (h : sg_Wp 0 N d m_G_isPost 0 [(0, 2, 44), (1, 0, v1)] [] G (fun r1 G1 => (r1 = 0 → (Q ((-2)) G1)) ∧ (¬ (r1 = 0) → (((0 ≤ v2 ∧ v2 < 2) → ((v2 ≠ 0 → ((0 ≤ v1 ∧ v1 < 8) ∧ (Q (G1 7 v1) G1))) ∧ (¬ (v2 ≠ 0) → ((0 ≤ v1 ∧ v1 < 8) ∧ (Q (G1 6 v1) G1))))) ∧ (¬ (0 ≤ v2 ∧ v2 < 2) → (Q ((-2)) G1)))))) : sg_Wp 0 N (d + 1) m_G_post 0 [(0, 2, 44), (1, 0, v1), (2, 0, v2)] [] G Q := by
  refine sg_blk [(1, 0, 0, 0, 0), (3, 0, 0, 1, 0)] (by decide +kernel) ?_
  refine And.intro (Nat.le_of_ble_eq_true rfl) (And.intro rfl (?_))
  show sg_Wp 0 N (d + 1) m_G_post 2 [(0, 2, 44), (1, 0, v1), (2, 0, v2)] [(0, v1), (2, 44)] G Q
  refine sg_callV (k := d) (y' := m_G_isPost) (av := [(0, v1)]) (rest := []) (b := 44) (by decide +kernel) cv_G_isPost ml_10_73 (ce_44 hN) rfl rfl (Nat.le_of_ble_eq_true rfl) (Nat.lt_succ_self d) (Nat.le_of_ble_eq_true rfl) rfl ?_
  show sg_Wp 0 N d m_G_isPost 0 [(0, 2, 44), (1, 0, v1)] [] G _
  refine sg_Wp.mono h (fun r1 G1 hhr1 => ?_)
  show sg_Wp 0 N (d + 1) m_G_post 5 [(0, 2, 44), (1, 0, v1), (2, 0, v2)] [(0, r1)] G1 Q
  refine sg_if_eq (off := 11) (tgt := 16) (by decide +kernel) (by decide) ⟨fun q3 => ?_, fun q3 => ?_⟩
  · refine sg_blk [(8, (-2), 0, 0, 0)] (by decide +kernel) ?_
    refine And.intro rfl (And.intro rfl (?_))
    show sg_Wp 0 N (d + 1) m_G_post 18 [(0, 2, 44), (1, 0, v1), (2, 0, v2)] [(0, (-2))] G1 Q
    exact sg_ret (by decide +kernel) rfl (Or.inl rfl) ((hhr1.1 q3))
  · refine sg_blk [(3, 0, 0, 2, 0), (7, 2, 0, 0, 0)] (by decide +kernel) ?_
    refine And.intro rfl (And.intro rfl (?_))
    show sg_Wp 0 N (d + 1) m_G_post 10 [(0, 2, 44), (1, 0, v1), (2, 0, v2)] [(0, 2), (0, v2)] G1 Q
    refine sg_callS (k := d) (y' := m_G_isBelow) (av := [(0, v2), (0, 2)]) (rest := []) (by decide +kernel) cs_G_isBelow ml_10_46 rfl (Nat.le_of_ble_eq_true rfl) (Nat.lt_succ_self d) (Nat.le_of_ble_eq_true rfl) rfl ?_
    show sg_Wp 0 N d m_G_isBelow 0 [(0, 0, v2), (1, 0, 2)] [] G1 _
    refine s_G_isBelow ?_
    show sg_Wp 0 N (d + 1) m_G_post 13 [(0, 2, 44), (1, 0, v1), (2, 0, v2)] [(0, sg_bo (0 ≤ v2 ∧ v2 < 2))] G1 Q
    refine sg_bif_ne (off := 6) (tgt := 19) (by decide +kernel) (by decide) ⟨fun q2 => ?_, fun q2 => ?_⟩
    · refine sg_blk [(3, 0, 0, 2, 0)] (by decide +kernel) ?_
      refine And.intro rfl (?_)
      show sg_Wp 0 N (d + 1) m_G_post 20 [(0, 2, 44), (1, 0, v1), (2, 0, v2)] [(0, v2)] G1 Q
      refine sg_if_ne (off := 18) (tgt := 38) (by decide +kernel) (by decide) ⟨fun q1 => ?_, fun q1 => ?_⟩
      · refine sg_blk [(1, 0, 0, 0, 0), (65, 0, 10, 10, 0), (65, 5, 4, 77, 2), (65, 7, 8, 87, 2), (3, 0, 0, 1, 0), (17, 8, 0, 0, 0)] (by decide +kernel) ?_
        refine And.intro (Nat.le_of_ble_eq_true rfl) (And.intro (ce_44 hN) (And.intro rr_44_0 (And.intro (ce_0 (Nat.le_trans (by decide) hN)) (And.intro rr_0_2 (And.intro (ce_5 (Nat.le_trans (by decide) hN)) (And.intro rr_5_2 (And.intro rfl (And.intro (ce_7 (Nat.le_trans (by decide) hN)) (And.intro (((hhr1.2 q3).1 q2).1 q1).1 (?_))))))))))
        show sg_Wp 0 N (d + 1) m_G_post 50 [(0, 2, 44), (1, 0, v1), (2, 0, v2)] [(0, G1 7 v1)] G1 Q
        exact sg_ret (by decide +kernel) rfl (Or.inl rfl) ((((hhr1.2 q3).1 q2).1 q1).2)
      · refine sg_blk [(1, 0, 0, 0, 0), (65, 0, 10, 10, 0), (65, 5, 4, 77, 2), (65, 6, 8, 81, 1), (3, 0, 0, 1, 0), (17, 8, 0, 0, 0)] (by decide +kernel) ?_
        refine And.intro (Nat.le_of_ble_eq_true rfl) (And.intro (ce_44 hN) (And.intro rr_44_0 (And.intro (ce_0 (Nat.le_trans (by decide) hN)) (And.intro rr_0_2 (And.intro (ce_5 (Nat.le_trans (by decide) hN)) (And.intro rr_5_1 (And.intro rfl (And.intro (ce_6 (Nat.le_trans (by decide) hN)) (And.intro (((hhr1.2 q3).1 q2).2 q1).1 (?_))))))))))
        show sg_Wp 0 N (d + 1) m_G_post 35 [(0, 2, 44), (1, 0, v1), (2, 0, v2)] [(0, G1 6 v1)] G1 Q
        refine sg_goto (off := 15) (tgt := 50) (by decide +kernel) (by decide) ?_
        exact sg_ret (by decide +kernel) rfl (Or.inl rfl) ((((hhr1.2 q3).1 q2).2 q1).2)
    · refine sg_blk [(8, (-2), 0, 0, 0)] (by decide +kernel) ?_
      refine And.intro rfl (And.intro rfl (?_))
      show sg_Wp 0 N (d + 1) m_G_post 18 [(0, 2, 44), (1, 0, v1), (2, 0, v2)] [(0, (-2))] G1 Q
      exact sg_ret (by decide +kernel) rfl (Or.inl rfl) (((hhr1.2 q3).2 q2))
set_option maxRecDepth 100000 in
theorem g_G_quiet_44_0 {d N : Nat} (hN : 75 ≤ N) {G : SgM} {Q : Int → SgM → Prop} (h : sg_Wp 0 N d m_D_silent 0 [(0, 2, 21)] [] G (fun r1 G1 => Q r1 G1)) : sg_Wp 0 N (d + 1) m_G_quiet 0 [(0, 2, 44)] [] G Q := by
  refine sg_blk [(1, 0, 0, 0, 0), (65, 0, 10, 10, 0), (65, 21, 4, 130, 5)] (by decide +kernel) ?_
  refine And.intro (Nat.le_of_ble_eq_true rfl) (And.intro (ce_44 hN) (And.intro rr_44_0 (And.intro (ce_0 (Nat.le_trans (by decide) hN)) (And.intro rr_0_5 (?_)))))
  show sg_Wp 0 N (d + 1) m_G_quiet 7 [(0, 2, 44)] [(2, 21)] G Q
  refine sg_callV (k := d) (y' := m_D_silent) (av := []) (rest := []) (b := 21) (by decide +kernel) cv_D_silent ml_10_172 (ce_21 (Nat.le_trans (by decide) hN)) rfl rfl (Nat.le_of_ble_eq_true rfl) (Nat.lt_succ_self d) (Nat.le_of_ble_eq_true rfl) rfl ?_
  show sg_Wp 0 N d m_D_silent 0 [(0, 2, 21)] [] G _
  refine sg_Wp.mono h (fun r1 G1 hhr1 => ?_)
  show sg_Wp 0 N (d + 1) m_G_quiet 10 [(0, 2, 44)] [(0, r1)] G1 Q
  exact sg_ret (by decide +kernel) rfl (Or.inl rfl) hhr1
set_option maxRecDepth 100000 in
theorem g_G_read_44_0 {d N : Nat} (hN : 75 ≤ N) {v1 : Int} {G : SgM} {Q : Int → SgM → Prop} (h : sg_Wp 0 N (d + 1) m_Z_refusalOf 0 [(0, 2, 67), (1, 0, v1)] [] G (fun r1 G1 => (r1 = 0 → (sg_Wp 0 N (d + 2) m_G_read 20 [(0, 2, 44), (1, 0, v1), (3, 0, 0), (4, 0, 0)] [] G1 Q)) ∧ (¬ (r1 = 0) → (Q r1 G1)))) : sg_Wp 0 N (d + 2) m_G_read 0 [(0, 2, 44), (1, 0, v1)] [] G Q := by
  refine sg_blk [(1, 0, 0, 0, 0), (65, 67, 10, 42, 4), (3, 0, 0, 1, 0)] (by decide +kernel) ?_
  refine And.intro (Nat.le_of_ble_eq_true rfl) (And.intro (ce_44 hN) (And.intro rr_44_4 (And.intro rfl (?_))))
  show sg_Wp 0 N (d + 2) m_G_read 5 [(0, 2, 44), (1, 0, v1)] [(0, v1), (2, 67)] G Q
  refine sg_callV (k := (d + 1)) (y' := m_Z_refusalOf) (av := [(0, v1)]) (rest := []) (b := 67) (by decide +kernel) cv_Z_refusalOf ml_10_120 (ce_67 hN) rfl rfl (Nat.le_of_ble_eq_true rfl) (Nat.lt_succ_self (d + 1)) (Nat.le_of_ble_eq_true rfl) rfl ?_
  show sg_Wp 0 N (d + 1) m_Z_refusalOf 0 [(0, 2, 67), (1, 0, v1)] [] G _
  refine sg_Wp.mono h (fun r1 G1 hhr1 => ?_)
  show sg_Wp 0 N (d + 2) m_G_read 8 [(0, 2, 44), (1, 0, v1)] [(0, r1)] G1 Q
  refine sg_blk [(25, 0, 0, 2, 0), (3, 0, 0, 2, 0)] (by decide +kernel) ?_
  refine And.intro rfl (And.intro rfl (?_))
  show sg_Wp 0 N (d + 2) m_G_read 10 [(0, 2, 44), (1, 0, v1), (2, 0, r1)] [(0, r1)] G1 Q
  refine sg_if_eq (off := 5) (tgt := 15) (by decide +kernel) (by decide) ⟨fun q1 => ?_, fun q1 => ?_⟩
  · refine sg_blk [(7, 0, 0, 0, 0), (25, 0, 0, 3, 0), (7, 0, 0, 0, 0), (26, 0, 0, 4, 0)] (by decide +kernel) ?_
    refine And.intro rfl (And.intro rfl (And.intro rfl (And.intro rfl (?_))))
    show sg_Wp 0 N (d + 2) m_G_read 20 [(0, 2, 44), (1, 0, v1), (2, 0, r1), (3, 0, 0), (4, 0, 0)] [] G1 Q
    exact sg_Wp.keepk [0, 1, 3, 4] rfl ((hhr1.1 q1))
  · refine sg_blk [(3, 0, 0, 2, 0)] (by decide +kernel) ?_
    refine And.intro rfl (?_)
    show sg_Wp 0 N (d + 2) m_G_read 14 [(0, 2, 44), (1, 0, v1), (2, 0, r1)] [(0, r1)] G1 Q
    exact sg_ret (by decide +kernel) rfl (Or.inl rfl) ((hhr1.2 q1))
set_option maxRecDepth 100000 in
theorem g_G_read_44_20 {d N : Nat} (hN : 75 ≤ N) {v1 v3 v4 : Int} {G : SgM} {Q : Int → SgM → Prop} (h : sg_Wp 0 N (d + 1) m_Z_lengthOf 0 [(0, 2, 67), (1, 0, v1)] [] G (fun r2 G2 => (r2 ≤ (sg_iadd v4 2) → (sg_Wp 0 N (d + 1) m_K_tellAnew 0 [(0, 2, 0)] [] G2 (fun r3 G3 => Q v3 G3))) ∧ (¬ (r2 ≤ (sg_iadd v4 2)) → (sg_Wp 0 N (d + 1) m_Z_item 0 [(0, 2, 67), (1, 0, v1), (2, 0, v4)] [] G2 (fun r4 G4 => sg_Wp 0 N (d + 1) m_Z_item 0 [(0, 2, 67), (1, 0, v1), (2, 0, sg_iadd v4 1)] [] G4 (fun r5 G5 => sg_Wp 0 N (d + 1) m_Z_item 0 [(0, 2, 67), (1, 0, v1), (2, 0, sg_iadd v4 2)] [] G5 (fun r6 G6 => (((0 ≤ r4 ∧ r4 < 3) ∧ (0 ≤ r5 ∧ r5 < 24) ∧ (0 ≤ r6 ∧ r6 < 10)) → (sg_Wp 0 N (d + 1) m_E_add 0 [(0, 2, 13), (1, 0, r4), (2, 0, r5), (3, 0, r6)] [] G6 (fun r8 G8 => (r8 ≠ 0 → (sg_Wp 0 N (d + 2) m_G_read 20 [(0, 2, 44), (1, 0, v1), (3, 0, sg_iadd v3 1), (4, 0, sg_iadd v4 3)] [] G8 Q)) ∧ (¬ (r8 ≠ 0) → (sg_Wp 0 N (d + 1) m_K_tellAnew 0 [(0, 2, 0)] [] G8 (fun r9 G9 => Q v3 G9)))))) ∧ (¬ ((0 ≤ r4 ∧ r4 < 3) ∧ (0 ≤ r5 ∧ r5 < 24) ∧ (0 ≤ r6 ∧ r6 < 10)) → (sg_Wp 0 N (d + 1) m_K_tellAnew 0 [(0, 2, 0)] [] G6 (fun r7 G7 => Q v3 G7)))))))))) : sg_Wp 0 N (d + 2) m_G_read 20 [(0, 2, 44), (1, 0, v1), (3, 0, v3), (4, 0, v4)] [] G Q := by
  refine sg_blk [(4, 0, 0, 4, 0), (7, 2, 0, 0, 0), (32, 0, 0, 0, 0), (1, 0, 0, 0, 0), (65, 67, 10, 42, 4), (3, 0, 0, 1, 0)] (by decide +kernel) ?_
  refine And.intro rfl (And.intro rfl (And.intro (Nat.le_of_ble_eq_true rfl) (And.intro (ce_44 hN) (And.intro rr_44_4 (And.intro rfl (?_))))))
  show sg_Wp 0 N (d + 2) m_G_read 29 [(0, 2, 44), (1, 0, v1), (3, 0, v3), (4, 0, v4)] [(0, v1), (2, 67), (0, sg_iadd v4 2)] G Q
  refine sg_callV (k := (d + 1)) (y' := m_Z_lengthOf) (av := [(0, v1)]) (rest := [(0, sg_iadd v4 2)]) (b := 67) (by decide +kernel) cv_Z_lengthOf ml_10_123 (ce_67 hN) rfl rfl (Nat.le_of_ble_eq_true rfl) (Nat.lt_succ_self (d + 1)) (Nat.le_of_ble_eq_true rfl) rfl ?_
  show sg_Wp 0 N (d + 1) m_Z_lengthOf 0 [(0, 2, 67), (1, 0, v1)] [] G _
  refine sg_Wp.mono h (fun r2 G2 hhr2 => ?_)
  show sg_Wp 0 N (d + 2) m_G_read 32 [(0, 2, 44), (1, 0, v1), (3, 0, v3), (4, 0, v4)] [(0, r2), (0, sg_iadd v4 2)] G2 Q
  refine sg_icmp_ge (off := 86) (tgt := 118) (by decide +kernel) (by decide) ⟨fun q4 => ?_, fun q4 => ?_⟩
  · refine sg_blk [(1, 0, 0, 0, 0), (65, 0, 10, 10, 0)] (by decide +kernel) ?_
    refine And.intro (Nat.le_of_ble_eq_true rfl) (And.intro (ce_44 hN) (And.intro rr_44_0 (?_)))
    show sg_Wp 0 N (d + 2) m_G_read 122 [(0, 2, 44), (1, 0, v1), (3, 0, v3), (4, 0, v4)] [(2, 0)] G2 Q
    refine sg_callV (k := (d + 1)) (y' := m_K_tellAnew) (av := []) (rest := []) (b := 0) (by decide +kernel) cv_K_tellAnew ml_10_60 (ce_0 (Nat.le_trans (by decide) hN)) rfl rfl (Nat.le_of_ble_eq_true rfl) (Nat.lt_succ_self (d + 1)) (Nat.le_of_ble_eq_true rfl) rfl ?_
    show sg_Wp 0 N (d + 1) m_K_tellAnew 0 [(0, 2, 0)] [] G2 _
    refine sg_Wp.mono ((hhr2.1 q4)) (fun r3 G3 hhr3 => ?_)
    show sg_Wp 0 N (d + 2) m_G_read 125 [(0, 2, 44), (1, 0, v1), (3, 0, v3), (4, 0, v4)] [] G3 Q
    refine sg_blk [(3, 0, 0, 3, 0)] (by decide +kernel) ?_
    refine And.intro rfl (?_)
    show sg_Wp 0 N (d + 2) m_G_read 126 [(0, 2, 44), (1, 0, v1), (3, 0, v3), (4, 0, v4)] [(0, v3)] G3 Q
    exact sg_ret (by decide +kernel) rfl (Or.inl rfl) hhr3
  · refine sg_blk [(1, 0, 0, 0, 0), (65, 67, 10, 42, 4), (3, 0, 0, 1, 0), (4, 0, 0, 4, 0)] (by decide +kernel) ?_
    refine And.intro (Nat.le_of_ble_eq_true rfl) (And.intro (ce_44 hN) (And.intro rr_44_4 (And.intro rfl (And.intro rfl (?_)))))
    show sg_Wp 0 N (d + 2) m_G_read 42 [(0, 2, 44), (1, 0, v1), (3, 0, v3), (4, 0, v4)] [(0, v4), (0, v1), (2, 67)] G2 Q
    refine sg_callV (k := (d + 1)) (y' := m_Z_item) (av := [(0, v1), (0, v4)]) (rest := []) (b := 67) (by decide +kernel) cv_Z_item ml_10_126 (ce_67 hN) rfl rfl (Nat.le_of_ble_eq_true rfl) (Nat.lt_succ_self (d + 1)) (Nat.le_of_ble_eq_true rfl) rfl ?_
    show sg_Wp 0 N (d + 1) m_Z_item 0 [(0, 2, 67), (1, 0, v1), (2, 0, v4)] [] G2 _
    refine sg_Wp.mono ((hhr2.2 q4)) (fun r4 G4 hhr4 => ?_)
    show sg_Wp 0 N (d + 2) m_G_read 45 [(0, 2, 44), (1, 0, v1), (3, 0, v3), (4, 0, v4)] [(0, r4)] G4 Q
    refine sg_blk [(26, 0, 0, 5, 0), (1, 0, 0, 0, 0), (65, 67, 10, 42, 4), (3, 0, 0, 1, 0), (4, 0, 0, 4, 0), (7, 1, 0, 0, 0), (32, 0, 0, 0, 0)] (by decide +kernel) ?_
    refine And.intro rfl (And.intro (Nat.le_of_ble_eq_true rfl) (And.intro (ce_44 hN) (And.intro rr_44_4 (And.intro rfl (And.intro rfl (And.intro rfl (?_)))))))
    show sg_Wp 0 N (d + 2) m_G_read 56 [(0, 2, 44), (1, 0, v1), (3, 0, v3), (4, 0, v4), (5, 0, r4)] [(0, sg_iadd v4 1), (0, v1), (2, 67)] G4 Q
    refine sg_callV (k := (d + 1)) (y' := m_Z_item) (av := [(0, v1), (0, sg_iadd v4 1)]) (rest := []) (b := 67) (by decide +kernel) cv_Z_item ml_10_126 (ce_67 hN) rfl rfl (Nat.le_of_ble_eq_true rfl) (Nat.lt_succ_self (d + 1)) (Nat.le_of_ble_eq_true rfl) rfl ?_
    show sg_Wp 0 N (d + 1) m_Z_item 0 [(0, 2, 67), (1, 0, v1), (2, 0, sg_iadd v4 1)] [] G4 _
    refine sg_Wp.mono hhr4 (fun r5 G5 hhr5 => ?_)
    show sg_Wp 0 N (d + 2) m_G_read 59 [(0, 2, 44), (1, 0, v1), (3, 0, v3), (4, 0, v4), (5, 0, r4)] [(0, r5)] G5 Q
    refine sg_blk [(26, 0, 0, 6, 0), (1, 0, 0, 0, 0), (65, 67, 10, 42, 4), (3, 0, 0, 1, 0), (4, 0, 0, 4, 0), (7, 2, 0, 0, 0), (32, 0, 0, 0, 0)] (by decide +kernel) ?_
    refine And.intro rfl (And.intro (Nat.le_of_ble_eq_true rfl) (And.intro (ce_44 hN) (And.intro rr_44_4 (And.intro rfl (And.intro rfl (And.intro rfl (?_)))))))
    show sg_Wp 0 N (d + 2) m_G_read 70 [(0, 2, 44), (1, 0, v1), (3, 0, v3), (4, 0, v4), (5, 0, r4), (6, 0, r5)] [(0, sg_iadd v4 2), (0, v1), (2, 67)] G5 Q
    refine sg_callV (k := (d + 1)) (y' := m_Z_item) (av := [(0, v1), (0, sg_iadd v4 2)]) (rest := []) (b := 67) (by decide +kernel) cv_Z_item ml_10_126 (ce_67 hN) rfl rfl (Nat.le_of_ble_eq_true rfl) (Nat.lt_succ_self (d + 1)) (Nat.le_of_ble_eq_true rfl) rfl ?_
    show sg_Wp 0 N (d + 1) m_Z_item 0 [(0, 2, 67), (1, 0, v1), (2, 0, sg_iadd v4 2)] [] G5 _
    refine sg_Wp.mono hhr5 (fun r6 G6 hhr6 => ?_)
    show sg_Wp 0 N (d + 2) m_G_read 73 [(0, 2, 44), (1, 0, v1), (3, 0, v3), (4, 0, v4), (5, 0, r4), (6, 0, r5)] [(0, r6)] G6 Q
    refine sg_blk [(26, 0, 0, 7, 0), (4, 0, 0, 5, 0), (4, 0, 0, 6, 0), (4, 0, 0, 7, 0)] (by decide +kernel) ?_
    refine And.intro rfl (And.intro rfl (And.intro rfl (And.intro rfl (?_))))
    show sg_Wp 0 N (d + 2) m_G_read 81 [(0, 2, 44), (1, 0, v1), (3, 0, v3), (4, 0, v4), (5, 0, r4), (6, 0, r5), (7, 0, r6)] [(0, r6), (0, r5), (0, r4)] G6 Q
    refine sg_callS (k := (d + 1)) (y' := m_E_mayBe) (av := [(0, r4), (0, r5), (0, r6)]) (rest := []) (by decide +kernel) cs_E_mayBe ml_10_105 rfl (Nat.le_of_ble_eq_true rfl) (Nat.lt_succ_self (d + 1)) (Nat.le_of_ble_eq_true rfl) rfl ?_
    show sg_Wp 0 N (d + 1) m_E_mayBe 0 [(0, 0, r4), (1, 0, r5), (2, 0, r6)] [] G6 _
    refine s_E_mayBe ?_
    show sg_Wp 0 N (d + 2) m_G_read 84 [(0, 2, 44), (1, 0, v1), (3, 0, v3), (4, 0, v4), (5, 0, r4), (6, 0, r5), (7, 0, r6)] [(0, sg_bo ((0 ≤ r4 ∧ r4 < 3) ∧ (0 ≤ r5 ∧ r5 < 24) ∧ (0 ≤ r6 ∧ r6 < 10)))] G6 Q
    refine sg_bif_eq (off := 34) (tgt := 118) (by decide +kernel) (by decide) ⟨fun q3 => ?_, fun q3 => ?_⟩
    · refine sg_blk [(1, 0, 0, 0, 0), (65, 0, 10, 10, 0), (65, 13, 4, 111, 3), (4, 0, 0, 5, 0), (4, 0, 0, 6, 0), (4, 0, 0, 7, 0)] (by decide +kernel) ?_
      refine And.intro (Nat.le_of_ble_eq_true rfl) (And.intro (ce_44 hN) (And.intro rr_44_0 (And.intro (ce_0 (Nat.le_trans (by decide) hN)) (And.intro rr_0_3 (And.intro rfl (And.intro rfl (And.intro rfl (?_))))))))
      show sg_Wp 0 N (d + 2) m_G_read 100 [(0, 2, 44), (1, 0, v1), (3, 0, v3), (4, 0, v4), (5, 0, r4), (6, 0, r5), (7, 0, r6)] [(0, r6), (0, r5), (0, r4), (2, 13)] G6 Q
      refine sg_callV (k := (d + 1)) (y' := m_E_add) (av := [(0, r4), (0, r5), (0, r6)]) (rest := []) (b := 13) (by decide +kernel) cv_E_add ml_10_115 (ce_13 (Nat.le_trans (by decide) hN)) rfl rfl (Nat.le_of_ble_eq_true rfl) (Nat.lt_succ_self (d + 1)) (Nat.le_of_ble_eq_true rfl) rfl ?_
      show sg_Wp 0 N (d + 1) m_E_add 0 [(0, 2, 13), (1, 0, r4), (2, 0, r5), (3, 0, r6)] [] G6 _
      refine sg_Wp.mono ((hhr6.1 q3)) (fun r8 G8 hhr8 => ?_)
      show sg_Wp 0 N (d + 2) m_G_read 103 [(0, 2, 44), (1, 0, v1), (3, 0, v3), (4, 0, v4), (5, 0, r4), (6, 0, r5), (7, 0, r6)] [(0, r8)] G8 Q
      refine sg_if_ne (off := 6) (tgt := 109) (by decide +kernel) (by decide) ⟨fun q2 => ?_, fun q2 => ?_⟩
      · refine sg_blk [(31, 1, 0, 3, 0), (31, 3, 0, 4, 0)] (by decide +kernel) ?_
        refine And.intro rfl (And.intro rfl (?_))
        show sg_Wp 0 N (d + 2) m_G_read 115 [(0, 2, 44), (1, 0, v1), (3, 0, sg_iadd v3 1), (4, 0, sg_iadd v4 3), (5, 0, r4), (6, 0, r5), (7, 0, r6)] [] G8 Q
        refine sg_goto (off := -95) (tgt := 20) (by decide +kernel) (by decide) ?_
        exact sg_Wp.keepk [0, 1, 2, 3] rfl ((hhr8.1 q2))
      · refine sg_goto (off := 12) (tgt := 118) (by decide +kernel) (by decide) ?_
        refine sg_blk [(1, 0, 0, 0, 0), (65, 0, 10, 10, 0)] (by decide +kernel) ?_
        refine And.intro (Nat.le_of_ble_eq_true rfl) (And.intro (ce_44 hN) (And.intro rr_44_0 (?_)))
        show sg_Wp 0 N (d + 2) m_G_read 122 [(0, 2, 44), (1, 0, v1), (3, 0, v3), (4, 0, v4), (5, 0, r4), (6, 0, r5), (7, 0, r6)] [(2, 0)] G8 Q
        refine sg_callV (k := (d + 1)) (y' := m_K_tellAnew) (av := []) (rest := []) (b := 0) (by decide +kernel) cv_K_tellAnew ml_10_60 (ce_0 (Nat.le_trans (by decide) hN)) rfl rfl (Nat.le_of_ble_eq_true rfl) (Nat.lt_succ_self (d + 1)) (Nat.le_of_ble_eq_true rfl) rfl ?_
        show sg_Wp 0 N (d + 1) m_K_tellAnew 0 [(0, 2, 0)] [] G8 _
        refine sg_Wp.mono ((hhr8.2 q2)) (fun r9 G9 hhr9 => ?_)
        show sg_Wp 0 N (d + 2) m_G_read 125 [(0, 2, 44), (1, 0, v1), (3, 0, v3), (4, 0, v4), (5, 0, r4), (6, 0, r5), (7, 0, r6)] [] G9 Q
        refine sg_blk [(3, 0, 0, 3, 0)] (by decide +kernel) ?_
        refine And.intro rfl (?_)
        show sg_Wp 0 N (d + 2) m_G_read 126 [(0, 2, 44), (1, 0, v1), (3, 0, v3), (4, 0, v4), (5, 0, r4), (6, 0, r5), (7, 0, r6)] [(0, v3)] G9 Q
        exact sg_ret (by decide +kernel) rfl (Or.inl rfl) hhr9
    · refine sg_blk [(1, 0, 0, 0, 0), (65, 0, 10, 10, 0)] (by decide +kernel) ?_
      refine And.intro (Nat.le_of_ble_eq_true rfl) (And.intro (ce_44 hN) (And.intro rr_44_0 (?_)))
      show sg_Wp 0 N (d + 2) m_G_read 122 [(0, 2, 44), (1, 0, v1), (3, 0, v3), (4, 0, v4), (5, 0, r4), (6, 0, r5), (7, 0, r6)] [(2, 0)] G6 Q
      refine sg_callV (k := (d + 1)) (y' := m_K_tellAnew) (av := []) (rest := []) (b := 0) (by decide +kernel) cv_K_tellAnew ml_10_60 (ce_0 (Nat.le_trans (by decide) hN)) rfl rfl (Nat.le_of_ble_eq_true rfl) (Nat.lt_succ_self (d + 1)) (Nat.le_of_ble_eq_true rfl) rfl ?_
      show sg_Wp 0 N (d + 1) m_K_tellAnew 0 [(0, 2, 0)] [] G6 _
      refine sg_Wp.mono ((hhr6.2 q3)) (fun r7 G7 hhr7 => ?_)
      show sg_Wp 0 N (d + 2) m_G_read 125 [(0, 2, 44), (1, 0, v1), (3, 0, v3), (4, 0, v4), (5, 0, r4), (6, 0, r5), (7, 0, r6)] [] G7 Q
      refine sg_blk [(3, 0, 0, 3, 0)] (by decide +kernel) ?_
      refine And.intro rfl (?_)
      show sg_Wp 0 N (d + 2) m_G_read 126 [(0, 2, 44), (1, 0, v1), (3, 0, v3), (4, 0, v4), (5, 0, r4), (6, 0, r5), (7, 0, r6)] [(0, v3)] G7 Q
      exact sg_ret (by decide +kernel) rfl (Or.inl rfl) hhr7
set_option maxRecDepth 100000 in
theorem g_G_seen_44_0 {d N : Nat} (hN : 75 ≤ N) {v1 v2 v3 : Int} {G : SgM} {Q : Int → SgM → Prop} (h : ((0 ≤ v1 ∧ v1 < 24) → (((0 ≤ v2 ∧ v2 < 8) → (((0 ≤ v3 ∧ v3 < 2) → (sg_Wp 0 N d m_H_see 0 [(0, 2, 46), (1, 0, v1), (2, 0, v2), (3, 0, v3)] [] G (fun r1 G1 => Q r1 G1))) ∧ (¬ (0 ≤ v3 ∧ v3 < 2) → (Q ((-2)) G)))) ∧ (¬ (0 ≤ v2 ∧ v2 < 8) → (Q ((-2)) G)))) ∧ (¬ (0 ≤ v1 ∧ v1 < 24) → (Q ((-2)) G))) : sg_Wp 0 N (d + 1) m_G_seen 0 [(0, 2, 44), (1, 0, v1), (2, 0, v2), (3, 0, v3)] [] G Q := by
  refine sg_blk [(3, 0, 0, 1, 0), (8, 24, 0, 0, 0)] (by decide +kernel) ?_
  refine And.intro rfl (And.intro rfl (And.intro rfl (?_)))
  show sg_Wp 0 N (d + 1) m_G_seen 3 [(0, 2, 44), (1, 0, v1), (2, 0, v2), (3, 0, v3)] [(0, 24), (0, v1)] G Q
  refine sg_callS (k := d) (y' := m_G_isBelow) (av := [(0, v1), (0, 24)]) (rest := []) (by decide +kernel) cs_G_isBelow ml_10_46 rfl (Nat.le_of_ble_eq_true rfl) (Nat.lt_succ_self d) (Nat.le_of_ble_eq_true rfl) rfl ?_
  show sg_Wp 0 N d m_G_isBelow 0 [(0, 0, v1), (1, 0, 24)] [] G _
  refine s_G_isBelow ?_
  show sg_Wp 0 N (d + 1) m_G_seen 6 [(0, 2, 44), (1, 0, v1), (2, 0, v2), (3, 0, v3)] [(0, sg_bo (0 ≤ v1 ∧ v1 < 24))] G Q
  refine sg_bif_eq (off := 20) (tgt := 26) (by decide +kernel) (by decide) ⟨fun q3 => ?_, fun q3 => ?_⟩
  · refine sg_blk [(3, 0, 0, 2, 0), (8, 8, 0, 0, 0)] (by decide +kernel) ?_
    refine And.intro rfl (And.intro rfl (And.intro rfl (?_)))
    show sg_Wp 0 N (d + 1) m_G_seen 12 [(0, 2, 44), (1, 0, v1), (2, 0, v2), (3, 0, v3)] [(0, 8), (0, v2)] G Q
    refine sg_callS (k := d) (y' := m_G_isBelow) (av := [(0, v2), (0, 8)]) (rest := []) (by decide +kernel) cs_G_isBelow ml_10_46 rfl (Nat.le_of_ble_eq_true rfl) (Nat.lt_succ_self d) (Nat.le_of_ble_eq_true rfl) rfl ?_
    show sg_Wp 0 N d m_G_isBelow 0 [(0, 0, v2), (1, 0, 8)] [] G _
    refine s_G_isBelow ?_
    show sg_Wp 0 N (d + 1) m_G_seen 15 [(0, 2, 44), (1, 0, v1), (2, 0, v2), (3, 0, v3)] [(0, sg_bo (0 ≤ v2 ∧ v2 < 8))] G Q
    refine sg_bif_eq (off := 11) (tgt := 26) (by decide +kernel) (by decide) ⟨fun q2 => ?_, fun q2 => ?_⟩
    · refine sg_blk [(3, 0, 0, 3, 0), (7, 2, 0, 0, 0)] (by decide +kernel) ?_
      refine And.intro rfl (And.intro rfl (?_))
      show sg_Wp 0 N (d + 1) m_G_seen 20 [(0, 2, 44), (1, 0, v1), (2, 0, v2), (3, 0, v3)] [(0, 2), (0, v3)] G Q
      refine sg_callS (k := d) (y' := m_G_isBelow) (av := [(0, v3), (0, 2)]) (rest := []) (by decide +kernel) cs_G_isBelow ml_10_46 rfl (Nat.le_of_ble_eq_true rfl) (Nat.lt_succ_self d) (Nat.le_of_ble_eq_true rfl) rfl ?_
      show sg_Wp 0 N d m_G_isBelow 0 [(0, 0, v3), (1, 0, 2)] [] G _
      refine s_G_isBelow ?_
      show sg_Wp 0 N (d + 1) m_G_seen 23 [(0, 2, 44), (1, 0, v1), (2, 0, v2), (3, 0, v3)] [(0, sg_bo (0 ≤ v3 ∧ v3 < 2))] G Q
      refine sg_bif_ne (off := 6) (tgt := 29) (by decide +kernel) (by decide) ⟨fun q1 => ?_, fun q1 => ?_⟩
      · refine sg_blk [(1, 0, 0, 0, 0), (65, 46, 10, 28, 2), (3, 0, 0, 1, 0), (3, 0, 0, 2, 0), (3, 0, 0, 3, 0)] (by decide +kernel) ?_
        refine And.intro (Nat.le_of_ble_eq_true rfl) (And.intro (ce_44 hN) (And.intro rr_44_2 (And.intro rfl (And.intro rfl (And.intro rfl (?_))))))
        show sg_Wp 0 N (d + 1) m_G_seen 36 [(0, 2, 44), (1, 0, v1), (2, 0, v2), (3, 0, v3)] [(0, v3), (0, v2), (0, v1), (2, 46)] G Q
        refine sg_callV (k := d) (y' := m_H_see) (av := [(0, v1), (0, v2), (0, v3)]) (rest := []) (b := 46) (by decide +kernel) cv_H_see ml_10_200 (ce_46 hN) rfl rfl (Nat.le_of_ble_eq_true rfl) (Nat.lt_succ_self d) (Nat.le_of_ble_eq_true rfl) rfl ?_
        show sg_Wp 0 N d m_H_see 0 [(0, 2, 46), (1, 0, v1), (2, 0, v2), (3, 0, v3)] [] G _
        refine sg_Wp.mono ((((h.1 q3).1 q2).1 q1)) (fun r1 G1 hhr1 => ?_)
        show sg_Wp 0 N (d + 1) m_G_seen 39 [(0, 2, 44), (1, 0, v1), (2, 0, v2), (3, 0, v3)] [(0, r1)] G1 Q
        exact sg_ret (by decide +kernel) rfl (Or.inl rfl) hhr1
      · refine sg_blk [(8, (-2), 0, 0, 0)] (by decide +kernel) ?_
        refine And.intro rfl (And.intro rfl (?_))
        show sg_Wp 0 N (d + 1) m_G_seen 28 [(0, 2, 44), (1, 0, v1), (2, 0, v2), (3, 0, v3)] [(0, (-2))] G Q
        exact sg_ret (by decide +kernel) rfl (Or.inl rfl) ((((h.1 q3).1 q2).2 q1))
    · refine sg_blk [(8, (-2), 0, 0, 0)] (by decide +kernel) ?_
      refine And.intro rfl (And.intro rfl (?_))
      show sg_Wp 0 N (d + 1) m_G_seen 28 [(0, 2, 44), (1, 0, v1), (2, 0, v2), (3, 0, v3)] [(0, (-2))] G Q
      exact sg_ret (by decide +kernel) rfl (Or.inl rfl) (((h.1 q3).2 q2))
  · refine sg_blk [(8, (-2), 0, 0, 0)] (by decide +kernel) ?_
    refine And.intro rfl (And.intro rfl (?_))
    show sg_Wp 0 N (d + 1) m_G_seen 28 [(0, 2, 44), (1, 0, v1), (2, 0, v2), (3, 0, v3)] [(0, (-2))] G Q
    exact sg_ret (by decide +kernel) rfl (Or.inl rfl) ((h.2 q3))
set_option maxRecDepth 100000 in
theorem g_G_sheet_44_0 {d N : Nat} (hN : 75 ≤ N) {v1 v2 v3 : Int} {G : SgM} {Q : Int → SgM → Prop} (h : sg_Wp 0 N d m_Z_make 0 [(0, 2, 67), (1, 0, v1), (2, 0, v2), (3, 0, v3)] [] G (fun r1 G1 => Q r1 G1)) : sg_Wp 0 N (d + 1) m_G_sheet 0 [(0, 2, 44), (1, 0, v1), (2, 0, v2), (3, 0, v3)] [] G Q := by
  refine sg_blk [(1, 0, 0, 0, 0), (65, 67, 10, 42, 4), (3, 0, 0, 1, 0), (3, 0, 0, 2, 0), (3, 0, 0, 3, 0)] (by decide +kernel) ?_
  refine And.intro (Nat.le_of_ble_eq_true rfl) (And.intro (ce_44 hN) (And.intro rr_44_4 (And.intro rfl (And.intro rfl (And.intro rfl (?_))))))
  show sg_Wp 0 N (d + 1) m_G_sheet 7 [(0, 2, 44), (1, 0, v1), (2, 0, v2), (3, 0, v3)] [(0, v3), (0, v2), (0, v1), (2, 67)] G Q
  refine sg_callV (k := d) (y' := m_Z_make) (av := [(0, v1), (0, v2), (0, v3)]) (rest := []) (b := 67) (by decide +kernel) cv_Z_make ml_10_236 (ce_67 hN) rfl rfl (Nat.le_of_ble_eq_true rfl) (Nat.lt_succ_self d) (Nat.le_of_ble_eq_true rfl) rfl ?_
  show sg_Wp 0 N d m_Z_make 0 [(0, 2, 67), (1, 0, v1), (2, 0, v2), (3, 0, v3)] [] G _
  refine sg_Wp.mono h (fun r1 G1 hhr1 => ?_)
  show sg_Wp 0 N (d + 1) m_G_sheet 10 [(0, 2, 44), (1, 0, v1), (2, 0, v2), (3, 0, v3)] [(0, r1)] G1 Q
  exact sg_ret (by decide +kernel) rfl (Or.inl rfl) hhr1
set_option maxRecDepth 100000 in
theorem g_G_spare_44_0 {d N : Nat} (hN : 75 ≤ N) {v1 : Int} {G : SgM} {Q : Int → SgM → Prop} (h : (v1 < ((-1)) → (Q ((-2)) G)) ∧ (¬ (v1 < ((-1))) → ((v1 ≤ 1 → (sg_Wp 0 N d m_P_planSpare 0 [(0, 2, 45)] [] G (fun r1 G1 => (v1 ≠ ((-1)) → ((v1 ≠ 0 → (Q (G1 45 4) G1)) ∧ (¬ (v1 ≠ 0) → (Q (G1 45 3) G1)))) ∧ (¬ (v1 ≠ ((-1))) → (Q (G1 45 2) G1))))) ∧ (¬ (v1 ≤ 1) → (Q ((-2)) G))))) : sg_Wp 0 N (d + 1) m_G_spare 0 [(0, 2, 44), (1, 0, v1)] [] G Q := by
  refine sg_blk [(3, 0, 0, 1, 0), (7, (-1), 0, 0, 0)] (by decide +kernel) ?_
  refine And.intro rfl (And.intro rfl (?_))
  show sg_Wp 0 N (d + 1) m_G_spare 2 [(0, 2, 44), (1, 0, v1)] [(0, (-1)), (0, v1)] G Q
  refine sg_icmp_lt (off := 8) (tgt := 10) (by decide +kernel) (by decide) ⟨fun q4 => ?_, fun q4 => ?_⟩
  · refine sg_blk [(8, (-2), 0, 0, 0)] (by decide +kernel) ?_
    refine And.intro rfl (And.intro rfl (?_))
    show sg_Wp 0 N (d + 1) m_G_spare 12 [(0, 2, 44), (1, 0, v1)] [(0, (-2))] G Q
    exact sg_ret (by decide +kernel) rfl (Or.inl rfl) ((h.1 q4))
  · refine sg_blk [(3, 0, 0, 1, 0), (7, 1, 0, 0, 0)] (by decide +kernel) ?_
    refine And.intro rfl (And.intro rfl (?_))
    show sg_Wp 0 N (d + 1) m_G_spare 7 [(0, 2, 44), (1, 0, v1)] [(0, 1), (0, v1)] G Q
    refine sg_icmp_le (off := 6) (tgt := 13) (by decide +kernel) (by decide) ⟨fun q3 => ?_, fun q3 => ?_⟩
    · refine sg_blk [(1, 0, 0, 0, 0), (65, 45, 10, 21, 1)] (by decide +kernel) ?_
      refine And.intro (Nat.le_of_ble_eq_true rfl) (And.intro (ce_44 hN) (And.intro rr_44_1 (?_)))
      show sg_Wp 0 N (d + 1) m_G_spare 17 [(0, 2, 44), (1, 0, v1)] [(2, 45)] G Q
      refine sg_callV (k := d) (y' := m_P_planSpare) (av := []) (rest := []) (b := 45) (by decide +kernel) cv_P_planSpare ml_10_191 (ce_45 hN) rfl rfl (Nat.le_of_ble_eq_true rfl) (Nat.lt_succ_self d) (Nat.le_of_ble_eq_true rfl) rfl ?_
      show sg_Wp 0 N d m_P_planSpare 0 [(0, 2, 45)] [] G _
      refine sg_Wp.mono (((h.2 q4).1 q3)) (fun r1 G1 hhr1 => ?_)
      show sg_Wp 0 N (d + 1) m_G_spare 20 [(0, 2, 44), (1, 0, v1)] [] G1 Q
      refine sg_blk [(3, 0, 0, 1, 0), (7, (-1), 0, 0, 0)] (by decide +kernel) ?_
      refine And.intro rfl (And.intro rfl (?_))
      show sg_Wp 0 N (d + 1) m_G_spare 22 [(0, 2, 44), (1, 0, v1)] [(0, (-1)), (0, v1)] G1 Q
      refine sg_icmp_ne (off := 11) (tgt := 33) (by decide +kernel) (by decide) ⟨fun q2 => ?_, fun q2 => ?_⟩
      · refine sg_blk [(3, 0, 0, 1, 0)] (by decide +kernel) ?_
        refine And.intro rfl (?_)
        show sg_Wp 0 N (d + 1) m_G_spare 34 [(0, 2, 44), (1, 0, v1)] [(0, v1)] G1 Q
        refine sg_if_ne (off := 13) (tgt := 47) (by decide +kernel) (by decide) ⟨fun q1 => ?_, fun q1 => ?_⟩
        · refine sg_blk [(1, 0, 0, 0, 0), (65, 45, 10, 21, 1), (15, 0, 5, 197, 4)] (by decide +kernel) ?_
          refine And.intro (Nat.le_of_ble_eq_true rfl) (And.intro (ce_44 hN) (And.intro rr_44_1 (And.intro (ce_45 hN) (?_))))
          show sg_Wp 0 N (d + 1) m_G_spare 54 [(0, 2, 44), (1, 0, v1)] [(0, G1 45 4)] G1 Q
          exact sg_ret (by decide +kernel) rfl (Or.inl rfl) (((hhr1.1 q2).1 q1))
        · refine sg_blk [(1, 0, 0, 0, 0), (65, 45, 10, 21, 1), (15, 0, 5, 194, 3)] (by decide +kernel) ?_
          refine And.intro (Nat.le_of_ble_eq_true rfl) (And.intro (ce_44 hN) (And.intro rr_44_1 (And.intro (ce_45 hN) (?_))))
          show sg_Wp 0 N (d + 1) m_G_spare 44 [(0, 2, 44), (1, 0, v1)] [(0, G1 45 3)] G1 Q
          refine sg_goto (off := 10) (tgt := 54) (by decide +kernel) (by decide) ?_
          exact sg_ret (by decide +kernel) rfl (Or.inl rfl) (((hhr1.1 q2).2 q1))
      · refine sg_blk [(1, 0, 0, 0, 0), (65, 45, 10, 21, 1), (15, 0, 5, 182, 2)] (by decide +kernel) ?_
        refine And.intro (Nat.le_of_ble_eq_true rfl) (And.intro (ce_44 hN) (And.intro rr_44_1 (And.intro (ce_45 hN) (?_))))
        show sg_Wp 0 N (d + 1) m_G_spare 32 [(0, 2, 44), (1, 0, v1)] [(0, G1 45 2)] G1 Q
        exact sg_ret (by decide +kernel) rfl (Or.inl rfl) ((hhr1.2 q2))
    · refine sg_blk [(8, (-2), 0, 0, 0)] (by decide +kernel) ?_
      refine And.intro rfl (And.intro rfl (?_))
      show sg_Wp 0 N (d + 1) m_G_spare 12 [(0, 2, 44), (1, 0, v1)] [(0, (-2))] G Q
      exact sg_ret (by decide +kernel) rfl (Or.inl rfl) (((h.2 q4).2 q3))
set_option maxRecDepth 100000 in
theorem g_G_stood_44_0 {d N : Nat} (hN : 75 ≤ N) {v1 v2 v3 : Int} {G : SgM} {Q : Int → SgM → Prop} (h : ((0 ≤ v1 ∧ v1 < 24) → (sg_Wp 0 N d m_G_isPost 0 [(0, 2, 44), (1, 0, v2)] [] G (fun r1 G1 => (r1 ≠ 0 → ((v3 = 0 → ((0 ≤ (sg_iadd (sg_imul v1 8) v2) ∧ (sg_iadd (sg_imul v1 8) v2) < 192) ∧ (Q (G1 29 (sg_iadd (sg_imul v1 8) v2)) G1))) ∧ (v3 ≠ 0 → ((v3 = 1 → (sg_Wp 0 N d m_G_timesOfBit 0 [(0, 2, 31), (1, 0, v2), (2, 0, v1)] [] G1 (fun r2 G2 => Q r2 G2))) ∧ (v3 ≠ 1 → ((v3 = 2 → (sg_Wp 0 N d m_D_changerOf 0 [(0, 2, 21), (1, 0, v1), (2, 0, v2)] [] G1 (fun r3 G3 => Q r3 G3))) ∧ (v3 ≠ 2 → (Q ((-2)) G1)))))))) ∧ (¬ (r1 ≠ 0) → (Q ((-2)) G1))))) ∧ (¬ (0 ≤ v1 ∧ v1 < 24) → (Q ((-2)) G))) : sg_Wp 0 N (d + 1) m_G_stood 0 [(0, 2, 44), (1, 0, v1), (2, 0, v2), (3, 0, v3)] [] G Q := by
  refine sg_blk [(3, 0, 0, 1, 0), (8, 24, 0, 0, 0)] (by decide +kernel) ?_
  refine And.intro rfl (And.intro rfl (And.intro rfl (?_)))
  show sg_Wp 0 N (d + 1) m_G_stood 3 [(0, 2, 44), (1, 0, v1), (2, 0, v2), (3, 0, v3)] [(0, 24), (0, v1)] G Q
  refine sg_callS (k := d) (y' := m_G_isBelow) (av := [(0, v1), (0, 24)]) (rest := []) (by decide +kernel) cs_G_isBelow ml_10_46 rfl (Nat.le_of_ble_eq_true rfl) (Nat.lt_succ_self d) (Nat.le_of_ble_eq_true rfl) rfl ?_
  show sg_Wp 0 N d m_G_isBelow 0 [(0, 0, v1), (1, 0, 24)] [] G _
  refine s_G_isBelow ?_
  show sg_Wp 0 N (d + 1) m_G_stood 6 [(0, 2, 44), (1, 0, v1), (2, 0, v2), (3, 0, v3)] [(0, sg_bo (0 ≤ v1 ∧ v1 < 24))] G Q
  refine sg_bif_eq (off := 11) (tgt := 17) (by decide +kernel) (by decide) ⟨fun q5 => ?_, fun q5 => ?_⟩
  · refine sg_blk [(1, 0, 0, 0, 0), (3, 0, 0, 2, 0)] (by decide +kernel) ?_
    refine And.intro (Nat.le_of_ble_eq_true rfl) (And.intro rfl (?_))
    show sg_Wp 0 N (d + 1) m_G_stood 11 [(0, 2, 44), (1, 0, v1), (2, 0, v2), (3, 0, v3)] [(0, v2), (2, 44)] G Q
    refine sg_callV (k := d) (y' := m_G_isPost) (av := [(0, v2)]) (rest := []) (b := 44) (by decide +kernel) cv_G_isPost ml_10_73 (ce_44 hN) rfl rfl (Nat.le_of_ble_eq_true rfl) (Nat.lt_succ_self d) (Nat.le_of_ble_eq_true rfl) rfl ?_
    show sg_Wp 0 N d m_G_isPost 0 [(0, 2, 44), (1, 0, v2)] [] G _
    refine sg_Wp.mono ((h.1 q5)) (fun r1 G1 hhr1 => ?_)
    show sg_Wp 0 N (d + 1) m_G_stood 14 [(0, 2, 44), (1, 0, v1), (2, 0, v2), (3, 0, v3)] [(0, r1)] G1 Q
    refine sg_if_ne (off := 6) (tgt := 20) (by decide +kernel) (by decide) ⟨fun q4 => ?_, fun q4 => ?_⟩
    · refine sg_blk [(3, 0, 0, 3, 0)] (by decide +kernel) ?_
      refine And.intro rfl (?_)
      show sg_Wp 0 N (d + 1) m_G_stood 21 [(0, 2, 44), (1, 0, v1), (2, 0, v2), (3, 0, v3)] [(0, v3)] G1 Q
      refine sg_tsw (dflt := 74) (low := 0) (high := 2) (offs := #[27, 45, 61]) (len := 27) (dt := 95) (ts := [48, 66, 82]) (by decide +kernel) (by decide) (by decide) (by decide) ?_
      refine ⟨fun q3 => ?_, fun q3 => ?_⟩
      · refine sg_blk [(1, 0, 0, 0, 0), (65, 0, 10, 10, 0), (65, 21, 4, 130, 5), (65, 29, 1, 145, 9), (3, 0, 0, 1, 0), (8, 8, 0, 0, 0), (34, 0, 0, 0, 0), (3, 0, 0, 2, 0), (32, 0, 0, 0, 0), (17, 192, 0, 0, 0)] (by decide +kernel) ?_
        refine And.intro (Nat.le_of_ble_eq_true rfl) (And.intro (ce_44 hN) (And.intro rr_44_0 (And.intro (ce_0 (Nat.le_trans (by decide) hN)) (And.intro rr_0_5 (And.intro (ce_21 (Nat.le_trans (by decide) hN)) (And.intro rr_21_9 (And.intro rfl (And.intro rfl (And.intro rfl (And.intro rfl (And.intro (ce_29 (Nat.le_trans (by decide) hN)) (And.intro ((hhr1.1 q4).1 q3).1 (?_)))))))))))))
        show sg_Wp 0 N (d + 1) m_G_stood 65 [(0, 2, 44), (1, 0, v1), (2, 0, v2), (3, 0, v3)] [(0, G1 29 (sg_iadd (sg_imul v1 8) v2))] G1 Q
        exact sg_ret (by decide +kernel) rfl (Or.inl rfl) (((hhr1.1 q4).1 q3).2)
      · refine ⟨fun q2 => ?_, fun q2 => ?_⟩
        · refine sg_blk [(1, 0, 0, 0, 0), (65, 0, 10, 10, 0), (65, 21, 4, 130, 5), (65, 31, 1, 148, 11), (3, 0, 0, 2, 0), (3, 0, 0, 1, 0)] (by decide +kernel) ?_
          refine And.intro (Nat.le_of_ble_eq_true rfl) (And.intro (ce_44 hN) (And.intro rr_44_0 (And.intro (ce_0 (Nat.le_trans (by decide) hN)) (And.intro rr_0_5 (And.intro (ce_21 (Nat.le_trans (by decide) hN)) (And.intro rr_21_11 (And.intro rfl (And.intro rfl (?_)))))))))
          show sg_Wp 0 N (d + 1) m_G_stood 78 [(0, 2, 44), (1, 0, v1), (2, 0, v2), (3, 0, v3)] [(0, v1), (0, v2), (2, 31)] G1 Q
          refine sg_callS (k := d) (y' := m_G_timesOfBit) (av := [(2, 31), (0, v2), (0, v1)]) (rest := []) (by decide +kernel) cs_G_timesOfBit ml_10_140 rfl (Nat.le_of_ble_eq_true rfl) (Nat.lt_succ_self d) (Nat.le_of_ble_eq_true rfl) rfl ?_
          show sg_Wp 0 N d m_G_timesOfBit 0 [(0, 2, 31), (1, 0, v2), (2, 0, v1)] [] G1 _
          refine sg_Wp.mono ((((hhr1.1 q4).2 q3).1 q2)) (fun r2 G2 hhr2 => ?_)
          show sg_Wp 0 N (d + 1) m_G_stood 81 [(0, 2, 44), (1, 0, v1), (2, 0, v2), (3, 0, v3)] [(0, r2)] G2 Q
          exact sg_ret (by decide +kernel) rfl (Or.inl rfl) hhr2
        · refine ⟨fun q1 => ?_, fun q1 => ?_⟩
          · refine sg_blk [(1, 0, 0, 0, 0), (65, 0, 10, 10, 0), (65, 21, 4, 130, 5), (3, 0, 0, 1, 0), (3, 0, 0, 2, 0)] (by decide +kernel) ?_
            refine And.intro (Nat.le_of_ble_eq_true rfl) (And.intro (ce_44 hN) (And.intro rr_44_0 (And.intro (ce_0 (Nat.le_trans (by decide) hN)) (And.intro rr_0_5 (And.intro rfl (And.intro rfl (?_)))))))
            show sg_Wp 0 N (d + 1) m_G_stood 91 [(0, 2, 44), (1, 0, v1), (2, 0, v2), (3, 0, v3)] [(0, v2), (0, v1), (2, 21)] G1 Q
            refine sg_callV (k := d) (y' := m_D_changerOf) (av := [(0, v1), (0, v2)]) (rest := []) (b := 21) (by decide +kernel) cv_D_changerOf ml_10_151 (ce_21 (Nat.le_trans (by decide) hN)) rfl rfl (Nat.le_of_ble_eq_true rfl) (Nat.lt_succ_self d) (Nat.le_of_ble_eq_true rfl) rfl ?_
            show sg_Wp 0 N d m_D_changerOf 0 [(0, 2, 21), (1, 0, v1), (2, 0, v2)] [] G1 _
            refine sg_Wp.mono (((((hhr1.1 q4).2 q3).2 q2).1 q1)) (fun r3 G3 hhr3 => ?_)
            show sg_Wp 0 N (d + 1) m_G_stood 94 [(0, 2, 44), (1, 0, v1), (2, 0, v2), (3, 0, v3)] [(0, r3)] G3 Q
            exact sg_ret (by decide +kernel) rfl (Or.inl rfl) hhr3
          · refine sg_blk [(8, (-2), 0, 0, 0)] (by decide +kernel) ?_
            refine And.intro rfl (And.intro rfl (?_))
            show sg_Wp 0 N (d + 1) m_G_stood 97 [(0, 2, 44), (1, 0, v1), (2, 0, v2), (3, 0, v3)] [(0, (-2))] G1 Q
            exact sg_ret (by decide +kernel) rfl (Or.inl rfl) (((((hhr1.1 q4).2 q3).2 q2).2 q1))
    · refine sg_blk [(8, (-2), 0, 0, 0)] (by decide +kernel) ?_
      refine And.intro rfl (And.intro rfl (?_))
      show sg_Wp 0 N (d + 1) m_G_stood 19 [(0, 2, 44), (1, 0, v1), (2, 0, v2), (3, 0, v3)] [(0, (-2))] G1 Q
      exact sg_ret (by decide +kernel) rfl (Or.inl rfl) ((hhr1.2 q4))
  · refine sg_blk [(8, (-2), 0, 0, 0)] (by decide +kernel) ?_
    refine And.intro rfl (And.intro rfl (?_))
    show sg_Wp 0 N (d + 1) m_G_stood 19 [(0, 2, 44), (1, 0, v1), (2, 0, v2), (3, 0, v3)] [(0, (-2))] G Q
    exact sg_ret (by decide +kernel) rfl (Or.inl rfl) ((h.2 q5))
set_option maxRecDepth 100000 in
theorem g_G_stroll_44_0 {d N : Nat} (hN : 75 ≤ N) {v1 v2 : Int} {G : SgM} {Q : Int → SgM → Prop} (h : sg_Wp 0 N d m_G_isPerson 0 [(0, 2, 44), (1, 0, v1)] [] G (fun r1 G1 => (r1 = 0 → (Q ((-2)) G1)) ∧ (¬ (r1 = 0) → (((0 ≤ v2 ∧ v2 < 2) → (sg_Wp 0 N d m_P_planStroll 0 [(0, 2, 45), (1, 0, v1)] [] G1 (fun r2 G2 => (v2 ≠ 0 → (Q (G2 45 2) G2)) ∧ (¬ (v2 ≠ 0) → (Q (G2 45 1) G2))))) ∧ (¬ (0 ≤ v2 ∧ v2 < 2) → (Q ((-2)) G1)))))) : sg_Wp 0 N (d + 1) m_G_stroll 0 [(0, 2, 44), (1, 0, v1), (2, 0, v2)] [] G Q := by
  refine sg_blk [(1, 0, 0, 0, 0), (3, 0, 0, 1, 0)] (by decide +kernel) ?_
  refine And.intro (Nat.le_of_ble_eq_true rfl) (And.intro rfl (?_))
  show sg_Wp 0 N (d + 1) m_G_stroll 2 [(0, 2, 44), (1, 0, v1), (2, 0, v2)] [(0, v1), (2, 44)] G Q
  refine sg_callV (k := d) (y' := m_G_isPerson) (av := [(0, v1)]) (rest := []) (b := 44) (by decide +kernel) cv_G_isPerson ml_10_90 (ce_44 hN) rfl rfl (Nat.le_of_ble_eq_true rfl) (Nat.lt_succ_self d) (Nat.le_of_ble_eq_true rfl) rfl ?_
  show sg_Wp 0 N d m_G_isPerson 0 [(0, 2, 44), (1, 0, v1)] [] G _
  refine sg_Wp.mono h (fun r1 G1 hhr1 => ?_)
  show sg_Wp 0 N (d + 1) m_G_stroll 5 [(0, 2, 44), (1, 0, v1), (2, 0, v2)] [(0, r1)] G1 Q
  refine sg_if_eq (off := 11) (tgt := 16) (by decide +kernel) (by decide) ⟨fun q3 => ?_, fun q3 => ?_⟩
  · refine sg_blk [(8, (-2), 0, 0, 0)] (by decide +kernel) ?_
    refine And.intro rfl (And.intro rfl (?_))
    show sg_Wp 0 N (d + 1) m_G_stroll 18 [(0, 2, 44), (1, 0, v1), (2, 0, v2)] [(0, (-2))] G1 Q
    exact sg_ret (by decide +kernel) rfl (Or.inl rfl) ((hhr1.1 q3))
  · refine sg_blk [(3, 0, 0, 2, 0), (7, 2, 0, 0, 0)] (by decide +kernel) ?_
    refine And.intro rfl (And.intro rfl (?_))
    show sg_Wp 0 N (d + 1) m_G_stroll 10 [(0, 2, 44), (1, 0, v1), (2, 0, v2)] [(0, 2), (0, v2)] G1 Q
    refine sg_callS (k := d) (y' := m_G_isBelow) (av := [(0, v2), (0, 2)]) (rest := []) (by decide +kernel) cs_G_isBelow ml_10_46 rfl (Nat.le_of_ble_eq_true rfl) (Nat.lt_succ_self d) (Nat.le_of_ble_eq_true rfl) rfl ?_
    show sg_Wp 0 N d m_G_isBelow 0 [(0, 0, v2), (1, 0, 2)] [] G1 _
    refine s_G_isBelow ?_
    show sg_Wp 0 N (d + 1) m_G_stroll 13 [(0, 2, 44), (1, 0, v1), (2, 0, v2)] [(0, sg_bo (0 ≤ v2 ∧ v2 < 2))] G1 Q
    refine sg_bif_ne (off := 6) (tgt := 19) (by decide +kernel) (by decide) ⟨fun q2 => ?_, fun q2 => ?_⟩
    · refine sg_blk [(1, 0, 0, 0, 0), (65, 45, 10, 21, 1), (3, 0, 0, 1, 0)] (by decide +kernel) ?_
      refine And.intro (Nat.le_of_ble_eq_true rfl) (And.intro (ce_44 hN) (And.intro rr_44_1 (And.intro rfl (?_))))
      show sg_Wp 0 N (d + 1) m_G_stroll 24 [(0, 2, 44), (1, 0, v1), (2, 0, v2)] [(0, v1), (2, 45)] G1 Q
      refine sg_callV (k := d) (y' := m_P_planStroll) (av := [(0, v1)]) (rest := []) (b := 45) (by decide +kernel) cv_P_planStroll ml_10_175 (ce_45 hN) rfl rfl (Nat.le_of_ble_eq_true rfl) (Nat.lt_succ_self d) (Nat.le_of_ble_eq_true rfl) rfl ?_
      show sg_Wp 0 N d m_P_planStroll 0 [(0, 2, 45), (1, 0, v1)] [] G1 _
      refine sg_Wp.mono (((hhr1.2 q3).1 q2)) (fun r2 G2 hhr2 => ?_)
      show sg_Wp 0 N (d + 1) m_G_stroll 27 [(0, 2, 44), (1, 0, v1), (2, 0, v2)] [] G2 Q
      refine sg_blk [(3, 0, 0, 2, 0)] (by decide +kernel) ?_
      refine And.intro rfl (?_)
      show sg_Wp 0 N (d + 1) m_G_stroll 28 [(0, 2, 44), (1, 0, v1), (2, 0, v2)] [(0, v2)] G2 Q
      refine sg_if_ne (off := 13) (tgt := 41) (by decide +kernel) (by decide) ⟨fun q1 => ?_, fun q1 => ?_⟩
      · refine sg_blk [(1, 0, 0, 0, 0), (65, 45, 10, 21, 1), (15, 0, 5, 182, 2)] (by decide +kernel) ?_
        refine And.intro (Nat.le_of_ble_eq_true rfl) (And.intro (ce_44 hN) (And.intro rr_44_1 (And.intro (ce_45 hN) (?_))))
        show sg_Wp 0 N (d + 1) m_G_stroll 48 [(0, 2, 44), (1, 0, v1), (2, 0, v2)] [(0, G2 45 2)] G2 Q
        exact sg_ret (by decide +kernel) rfl (Or.inl rfl) ((hhr2.1 q1))
      · refine sg_blk [(1, 0, 0, 0, 0), (65, 45, 10, 21, 1), (15, 0, 5, 179, 1)] (by decide +kernel) ?_
        refine And.intro (Nat.le_of_ble_eq_true rfl) (And.intro (ce_44 hN) (And.intro rr_44_1 (And.intro (ce_45 hN) (?_))))
        show sg_Wp 0 N (d + 1) m_G_stroll 38 [(0, 2, 44), (1, 0, v1), (2, 0, v2)] [(0, G2 45 1)] G2 Q
        refine sg_goto (off := 10) (tgt := 48) (by decide +kernel) (by decide) ?_
        exact sg_ret (by decide +kernel) rfl (Or.inl rfl) ((hhr2.2 q1))
    · refine sg_blk [(8, (-2), 0, 0, 0)] (by decide +kernel) ?_
      refine And.intro rfl (And.intro rfl (?_))
      show sg_Wp 0 N (d + 1) m_G_stroll 18 [(0, 2, 44), (1, 0, v1), (2, 0, v2)] [(0, (-2))] G1 Q
      exact sg_ret (by decide +kernel) rfl (Or.inl rfl) (((hhr1.2 q3).2 q2))
set_option maxRecDepth 100000 in
theorem g_G_type_44_0 {d N : Nat} (hN : 75 ≤ N) {v1 v2 : Int} {G : SgM} {Q : Int → SgM → Prop} (h : ((0 ≤ v1 ∧ v1 < 2) → (((0 ≤ v2 ∧ v2 < 256) → (sg_Wp 0 N d m_K_textOf 0 [(0, 2, 0), (1, 0, v1)] [] G (fun r1 G1 => (r1 = 1 ∧ (sg_Wp 0 N d m_T_add 0 [(0, 2, 1), (1, 0, v2)] [] G1 (fun r2 G2 => sg_Wp 0 N d m_K_tellAnew 0 [(0, 2, 0)] [] G2 (fun r3 G3 => Q r2 G3)))) ∨ (r1 = 3 ∧ (sg_Wp 0 N d m_T_add 0 [(0, 2, 3), (1, 0, v2)] [] G1 (fun r4 G4 => sg_Wp 0 N d m_K_tellAnew 0 [(0, 2, 0)] [] G4 (fun r5 G5 => Q r4 G5))))))) ∧ (¬ (0 ≤ v2 ∧ v2 < 256) → (Q ((-2)) G)))) ∧ (¬ (0 ≤ v1 ∧ v1 < 2) → (Q ((-2)) G))) : sg_Wp 0 N (d + 1) m_G_type 0 [(0, 2, 44), (1, 0, v1), (2, 0, v2)] [] G Q := by
  refine sg_blk [(3, 0, 0, 1, 0), (7, 2, 0, 0, 0)] (by decide +kernel) ?_
  refine And.intro rfl (And.intro rfl (?_))
  show sg_Wp 0 N (d + 1) m_G_type 2 [(0, 2, 44), (1, 0, v1), (2, 0, v2)] [(0, 2), (0, v1)] G Q
  refine sg_callS (k := d) (y' := m_G_isBelow) (av := [(0, v1), (0, 2)]) (rest := []) (by decide +kernel) cs_G_isBelow ml_10_46 rfl (Nat.le_of_ble_eq_true rfl) (Nat.lt_succ_self d) (Nat.le_of_ble_eq_true rfl) rfl ?_
  show sg_Wp 0 N d m_G_isBelow 0 [(0, 0, v1), (1, 0, 2)] [] G _
  refine s_G_isBelow ?_
  show sg_Wp 0 N (d + 1) m_G_type 5 [(0, 2, 44), (1, 0, v1), (2, 0, v2)] [(0, sg_bo (0 ≤ v1 ∧ v1 < 2))] G Q
  refine sg_bif_eq (off := 13) (tgt := 18) (by decide +kernel) (by decide) ⟨fun q2 => ?_, fun q2 => ?_⟩
  · refine sg_blk [(3, 0, 0, 2, 0), (9, 256, 0, 0, 0)] (by decide +kernel) ?_
    refine And.intro rfl (And.intro rfl (And.intro rfl (?_)))
    show sg_Wp 0 N (d + 1) m_G_type 12 [(0, 2, 44), (1, 0, v1), (2, 0, v2)] [(0, 256), (0, v2)] G Q
    refine sg_callS (k := d) (y' := m_G_isBelow) (av := [(0, v2), (0, 256)]) (rest := []) (by decide +kernel) cs_G_isBelow ml_10_46 rfl (Nat.le_of_ble_eq_true rfl) (Nat.lt_succ_self d) (Nat.le_of_ble_eq_true rfl) rfl ?_
    show sg_Wp 0 N d m_G_isBelow 0 [(0, 0, v2), (1, 0, 256)] [] G _
    refine s_G_isBelow ?_
    show sg_Wp 0 N (d + 1) m_G_type 15 [(0, 2, 44), (1, 0, v1), (2, 0, v2)] [(0, sg_bo (0 ≤ v2 ∧ v2 < 256))] G Q
    refine sg_bif_ne (off := 6) (tgt := 21) (by decide +kernel) (by decide) ⟨fun q1 => ?_, fun q1 => ?_⟩
    · refine sg_blk [(1, 0, 0, 0, 0), (65, 0, 10, 10, 0), (3, 0, 0, 1, 0)] (by decide +kernel) ?_
      refine And.intro (Nat.le_of_ble_eq_true rfl) (And.intro (ce_44 hN) (And.intro rr_44_0 (And.intro rfl (?_))))
      show sg_Wp 0 N (d + 1) m_G_type 26 [(0, 2, 44), (1, 0, v1), (2, 0, v2)] [(0, v1), (2, 0)] G Q
      refine sg_callV (k := d) (y' := m_K_textOf) (av := [(0, v1)]) (rest := []) (b := 0) (by decide +kernel) cv_K_textOf ml_10_50 (ce_0 (Nat.le_trans (by decide) hN)) rfl rfl (Nat.le_of_ble_eq_true rfl) (Nat.lt_succ_self d) (Nat.le_of_ble_eq_true rfl) rfl ?_
      show sg_Wp 0 N d m_K_textOf 0 [(0, 2, 0), (1, 0, v1)] [] G _
      refine sg_Wp.mono (((h.1 q2).1 q1)) (fun r1 G1 hhr1 => ?_)
      rcases hhr1 with ⟨er1, hhr1⟩ | ⟨er1, hhr1⟩
      · subst er1
        show sg_Wp 0 N (d + 1) m_G_type 29 [(0, 2, 44), (1, 0, v1), (2, 0, v2)] [(2, 1)] G1 Q
        refine sg_blk [(3, 0, 0, 2, 0)] (by decide +kernel) ?_
        refine And.intro rfl (?_)
        show sg_Wp 0 N (d + 1) m_G_type 30 [(0, 2, 44), (1, 0, v1), (2, 0, v2)] [(0, v2), (2, 1)] G1 Q
        refine sg_callV (k := d) (y' := m_T_add) (av := [(0, v2)]) (rest := []) (b := 1) (by decide +kernel) cv_T_add ml_10_54 (ce_1 (Nat.le_trans (by decide) hN)) rfl rfl (Nat.le_of_ble_eq_true rfl) (Nat.lt_succ_self d) (Nat.le_of_ble_eq_true rfl) rfl ?_
        show sg_Wp 0 N d m_T_add 0 [(0, 2, 1), (1, 0, v2)] [] G1 _
        refine sg_Wp.mono hhr1 (fun r2 G2 hhr2 => ?_)
        show sg_Wp 0 N (d + 1) m_G_type 33 [(0, 2, 44), (1, 0, v1), (2, 0, v2)] [(0, r2)] G2 Q
        refine sg_blk [(25, 0, 0, 3, 0), (1, 0, 0, 0, 0), (65, 0, 10, 10, 0)] (by decide +kernel) ?_
        refine And.intro rfl (And.intro (Nat.le_of_ble_eq_true rfl) (And.intro (ce_44 hN) (And.intro rr_44_0 (?_))))
        show sg_Wp 0 N (d + 1) m_G_type 38 [(0, 2, 44), (1, 0, v1), (2, 0, v2), (3, 0, r2)] [(2, 0)] G2 Q
        refine sg_callV (k := d) (y' := m_K_tellAnew) (av := []) (rest := []) (b := 0) (by decide +kernel) cv_K_tellAnew ml_10_60 (ce_0 (Nat.le_trans (by decide) hN)) rfl rfl (Nat.le_of_ble_eq_true rfl) (Nat.lt_succ_self d) (Nat.le_of_ble_eq_true rfl) rfl ?_
        show sg_Wp 0 N d m_K_tellAnew 0 [(0, 2, 0)] [] G2 _
        refine sg_Wp.mono hhr2 (fun r3 G3 hhr3 => ?_)
        show sg_Wp 0 N (d + 1) m_G_type 41 [(0, 2, 44), (1, 0, v1), (2, 0, v2), (3, 0, r2)] [] G3 Q
        refine sg_blk [(3, 0, 0, 3, 0)] (by decide +kernel) ?_
        refine And.intro rfl (?_)
        show sg_Wp 0 N (d + 1) m_G_type 42 [(0, 2, 44), (1, 0, v1), (2, 0, v2), (3, 0, r2)] [(0, r2)] G3 Q
        exact sg_ret (by decide +kernel) rfl (Or.inl rfl) hhr3
      · subst er1
        show sg_Wp 0 N (d + 1) m_G_type 29 [(0, 2, 44), (1, 0, v1), (2, 0, v2)] [(2, 3)] G1 Q
        refine sg_blk [(3, 0, 0, 2, 0)] (by decide +kernel) ?_
        refine And.intro rfl (?_)
        show sg_Wp 0 N (d + 1) m_G_type 30 [(0, 2, 44), (1, 0, v1), (2, 0, v2)] [(0, v2), (2, 3)] G1 Q
        refine sg_callV (k := d) (y' := m_T_add) (av := [(0, v2)]) (rest := []) (b := 3) (by decide +kernel) cv_T_add ml_10_54 (ce_3 (Nat.le_trans (by decide) hN)) rfl rfl (Nat.le_of_ble_eq_true rfl) (Nat.lt_succ_self d) (Nat.le_of_ble_eq_true rfl) rfl ?_
        show sg_Wp 0 N d m_T_add 0 [(0, 2, 3), (1, 0, v2)] [] G1 _
        refine sg_Wp.mono hhr1 (fun r4 G4 hhr4 => ?_)
        show sg_Wp 0 N (d + 1) m_G_type 33 [(0, 2, 44), (1, 0, v1), (2, 0, v2)] [(0, r4)] G4 Q
        refine sg_blk [(25, 0, 0, 3, 0), (1, 0, 0, 0, 0), (65, 0, 10, 10, 0)] (by decide +kernel) ?_
        refine And.intro rfl (And.intro (Nat.le_of_ble_eq_true rfl) (And.intro (ce_44 hN) (And.intro rr_44_0 (?_))))
        show sg_Wp 0 N (d + 1) m_G_type 38 [(0, 2, 44), (1, 0, v1), (2, 0, v2), (3, 0, r4)] [(2, 0)] G4 Q
        refine sg_callV (k := d) (y' := m_K_tellAnew) (av := []) (rest := []) (b := 0) (by decide +kernel) cv_K_tellAnew ml_10_60 (ce_0 (Nat.le_trans (by decide) hN)) rfl rfl (Nat.le_of_ble_eq_true rfl) (Nat.lt_succ_self d) (Nat.le_of_ble_eq_true rfl) rfl ?_
        show sg_Wp 0 N d m_K_tellAnew 0 [(0, 2, 0)] [] G4 _
        refine sg_Wp.mono hhr4 (fun r5 G5 hhr5 => ?_)
        show sg_Wp 0 N (d + 1) m_G_type 41 [(0, 2, 44), (1, 0, v1), (2, 0, v2), (3, 0, r4)] [] G5 Q
        refine sg_blk [(3, 0, 0, 3, 0)] (by decide +kernel) ?_
        refine And.intro rfl (?_)
        show sg_Wp 0 N (d + 1) m_G_type 42 [(0, 2, 44), (1, 0, v1), (2, 0, v2), (3, 0, r4)] [(0, r4)] G5 Q
        exact sg_ret (by decide +kernel) rfl (Or.inl rfl) hhr5
    · refine sg_blk [(8, (-2), 0, 0, 0)] (by decide +kernel) ?_
      refine And.intro rfl (And.intro rfl (?_))
      show sg_Wp 0 N (d + 1) m_G_type 20 [(0, 2, 44), (1, 0, v1), (2, 0, v2)] [(0, (-2))] G Q
      exact sg_ret (by decide +kernel) rfl (Or.inl rfl) (((h.1 q2).2 q1))
  · refine sg_blk [(8, (-2), 0, 0, 0)] (by decide +kernel) ?_
    refine And.intro rfl (And.intro rfl (?_))
    show sg_Wp 0 N (d + 1) m_G_type 20 [(0, 2, 44), (1, 0, v1), (2, 0, v2)] [(0, (-2))] G Q
    exact sg_ret (by decide +kernel) rfl (Or.inl rfl) ((h.2 q2))
set_option maxRecDepth 100000 in
theorem g_G_undo_44_0 {d N : Nat} (hN : 75 ≤ N) {v1 : Int} {G : SgM} {Q : Int → SgM → Prop} (h : ((0 ≤ v1 ∧ v1 < 2) → (sg_Wp 0 N d m_K_textOf 0 [(0, 2, 0), (1, 0, v1)] [] G (fun r1 G1 => (r1 = 1 ∧ (sg_Wp 0 N d m_T_dropLast 0 [(0, 2, 1)] [] G1 (fun r2 G2 => sg_Wp 0 N d m_K_tellAnew 0 [(0, 2, 0)] [] G2 (fun r3 G3 => Q r2 G3)))) ∨ (r1 = 3 ∧ (sg_Wp 0 N d m_T_dropLast 0 [(0, 2, 3)] [] G1 (fun r4 G4 => sg_Wp 0 N d m_K_tellAnew 0 [(0, 2, 0)] [] G4 (fun r5 G5 => Q r4 G5))))))) ∧ (¬ (0 ≤ v1 ∧ v1 < 2) → (Q ((-2)) G))) : sg_Wp 0 N (d + 1) m_G_undo 0 [(0, 2, 44), (1, 0, v1)] [] G Q := by
  refine sg_blk [(3, 0, 0, 1, 0), (7, 2, 0, 0, 0)] (by decide +kernel) ?_
  refine And.intro rfl (And.intro rfl (?_))
  show sg_Wp 0 N (d + 1) m_G_undo 2 [(0, 2, 44), (1, 0, v1)] [(0, 2), (0, v1)] G Q
  refine sg_callS (k := d) (y' := m_G_isBelow) (av := [(0, v1), (0, 2)]) (rest := []) (by decide +kernel) cs_G_isBelow ml_10_46 rfl (Nat.le_of_ble_eq_true rfl) (Nat.lt_succ_self d) (Nat.le_of_ble_eq_true rfl) rfl ?_
  show sg_Wp 0 N d m_G_isBelow 0 [(0, 0, v1), (1, 0, 2)] [] G _
  refine s_G_isBelow ?_
  show sg_Wp 0 N (d + 1) m_G_undo 5 [(0, 2, 44), (1, 0, v1)] [(0, sg_bo (0 ≤ v1 ∧ v1 < 2))] G Q
  refine sg_bif_ne (off := 6) (tgt := 11) (by decide +kernel) (by decide) ⟨fun q1 => ?_, fun q1 => ?_⟩
  · refine sg_blk [(1, 0, 0, 0, 0), (65, 0, 10, 10, 0), (3, 0, 0, 1, 0)] (by decide +kernel) ?_
    refine And.intro (Nat.le_of_ble_eq_true rfl) (And.intro (ce_44 hN) (And.intro rr_44_0 (And.intro rfl (?_))))
    show sg_Wp 0 N (d + 1) m_G_undo 16 [(0, 2, 44), (1, 0, v1)] [(0, v1), (2, 0)] G Q
    refine sg_callV (k := d) (y' := m_K_textOf) (av := [(0, v1)]) (rest := []) (b := 0) (by decide +kernel) cv_K_textOf ml_10_50 (ce_0 (Nat.le_trans (by decide) hN)) rfl rfl (Nat.le_of_ble_eq_true rfl) (Nat.lt_succ_self d) (Nat.le_of_ble_eq_true rfl) rfl ?_
    show sg_Wp 0 N d m_K_textOf 0 [(0, 2, 0), (1, 0, v1)] [] G _
    refine sg_Wp.mono ((h.1 q1)) (fun r1 G1 hhr1 => ?_)
    rcases hhr1 with ⟨er1, hhr1⟩ | ⟨er1, hhr1⟩
    · subst er1
      show sg_Wp 0 N (d + 1) m_G_undo 19 [(0, 2, 44), (1, 0, v1)] [(2, 1)] G1 Q
      refine sg_callV (k := d) (y' := m_T_dropLast) (av := []) (rest := []) (b := 1) (by decide +kernel) cv_T_dropLast ml_10_67 (ce_1 (Nat.le_trans (by decide) hN)) rfl rfl (Nat.le_of_ble_eq_true rfl) (Nat.lt_succ_self d) (Nat.le_of_ble_eq_true rfl) rfl ?_
      show sg_Wp 0 N d m_T_dropLast 0 [(0, 2, 1)] [] G1 _
      refine sg_Wp.mono hhr1 (fun r2 G2 hhr2 => ?_)
      show sg_Wp 0 N (d + 1) m_G_undo 22 [(0, 2, 44), (1, 0, v1)] [(0, r2)] G2 Q
      refine sg_blk [(25, 0, 0, 2, 0), (1, 0, 0, 0, 0), (65, 0, 10, 10, 0)] (by decide +kernel) ?_
      refine And.intro rfl (And.intro (Nat.le_of_ble_eq_true rfl) (And.intro (ce_44 hN) (And.intro rr_44_0 (?_))))
      show sg_Wp 0 N (d + 1) m_G_undo 27 [(0, 2, 44), (1, 0, v1), (2, 0, r2)] [(2, 0)] G2 Q
      refine sg_callV (k := d) (y' := m_K_tellAnew) (av := []) (rest := []) (b := 0) (by decide +kernel) cv_K_tellAnew ml_10_60 (ce_0 (Nat.le_trans (by decide) hN)) rfl rfl (Nat.le_of_ble_eq_true rfl) (Nat.lt_succ_self d) (Nat.le_of_ble_eq_true rfl) rfl ?_
      show sg_Wp 0 N d m_K_tellAnew 0 [(0, 2, 0)] [] G2 _
      refine sg_Wp.mono hhr2 (fun r3 G3 hhr3 => ?_)
      show sg_Wp 0 N (d + 1) m_G_undo 30 [(0, 2, 44), (1, 0, v1), (2, 0, r2)] [] G3 Q
      refine sg_blk [(3, 0, 0, 2, 0)] (by decide +kernel) ?_
      refine And.intro rfl (?_)
      show sg_Wp 0 N (d + 1) m_G_undo 31 [(0, 2, 44), (1, 0, v1), (2, 0, r2)] [(0, r2)] G3 Q
      exact sg_ret (by decide +kernel) rfl (Or.inl rfl) hhr3
    · subst er1
      show sg_Wp 0 N (d + 1) m_G_undo 19 [(0, 2, 44), (1, 0, v1)] [(2, 3)] G1 Q
      refine sg_callV (k := d) (y' := m_T_dropLast) (av := []) (rest := []) (b := 3) (by decide +kernel) cv_T_dropLast ml_10_67 (ce_3 (Nat.le_trans (by decide) hN)) rfl rfl (Nat.le_of_ble_eq_true rfl) (Nat.lt_succ_self d) (Nat.le_of_ble_eq_true rfl) rfl ?_
      show sg_Wp 0 N d m_T_dropLast 0 [(0, 2, 3)] [] G1 _
      refine sg_Wp.mono hhr1 (fun r4 G4 hhr4 => ?_)
      show sg_Wp 0 N (d + 1) m_G_undo 22 [(0, 2, 44), (1, 0, v1)] [(0, r4)] G4 Q
      refine sg_blk [(25, 0, 0, 2, 0), (1, 0, 0, 0, 0), (65, 0, 10, 10, 0)] (by decide +kernel) ?_
      refine And.intro rfl (And.intro (Nat.le_of_ble_eq_true rfl) (And.intro (ce_44 hN) (And.intro rr_44_0 (?_))))
      show sg_Wp 0 N (d + 1) m_G_undo 27 [(0, 2, 44), (1, 0, v1), (2, 0, r4)] [(2, 0)] G4 Q
      refine sg_callV (k := d) (y' := m_K_tellAnew) (av := []) (rest := []) (b := 0) (by decide +kernel) cv_K_tellAnew ml_10_60 (ce_0 (Nat.le_trans (by decide) hN)) rfl rfl (Nat.le_of_ble_eq_true rfl) (Nat.lt_succ_self d) (Nat.le_of_ble_eq_true rfl) rfl ?_
      show sg_Wp 0 N d m_K_tellAnew 0 [(0, 2, 0)] [] G4 _
      refine sg_Wp.mono hhr4 (fun r5 G5 hhr5 => ?_)
      show sg_Wp 0 N (d + 1) m_G_undo 30 [(0, 2, 44), (1, 0, v1), (2, 0, r4)] [] G5 Q
      refine sg_blk [(3, 0, 0, 2, 0)] (by decide +kernel) ?_
      refine And.intro rfl (?_)
      show sg_Wp 0 N (d + 1) m_G_undo 31 [(0, 2, 44), (1, 0, v1), (2, 0, r4)] [(0, r4)] G5 Q
      exact sg_ret (by decide +kernel) rfl (Or.inl rfl) hhr5
  · refine sg_blk [(8, (-2), 0, 0, 0)] (by decide +kernel) ?_
    refine And.intro rfl (And.intro rfl (?_))
    show sg_Wp 0 N (d + 1) m_G_undo 10 [(0, 2, 44), (1, 0, v1)] [(0, (-2))] G Q
    exact sg_ret (by decide +kernel) rfl (Or.inl rfl) ((h.2 q1))
set_option maxRecDepth 100000 in
theorem g_G_was_44_0 {d N : Nat} (hN : 75 ≤ N) {v1 v2 : Int} {G : SgM} {Q : Int → SgM → Prop} (h : sg_Wp 0 N d m_G_isPerson 0 [(0, 2, 44), (1, 0, v1)] [] G (fun r1 G1 => (r1 = 0 → (Q ((-2)) G1)) ∧ (¬ (r1 = 0) → (((0 ≤ v2 ∧ v2 < 2) → ((v2 ≠ 0 → (sg_Wp 0 N d m_H_coldsOf 0 [(0, 2, 46), (1, 0, v1)] [] G1 (fun r2 G2 => Q r2 G2))) ∧ (¬ (v2 ≠ 0) → (sg_Wp 0 N d m_H_sortsOf 0 [(0, 2, 46), (1, 0, v1)] [] G1 (fun r3 G3 => Q r3 G3))))) ∧ (¬ (0 ≤ v2 ∧ v2 < 2) → (Q ((-2)) G1)))))) : sg_Wp 0 N (d + 1) m_G_was 0 [(0, 2, 44), (1, 0, v1), (2, 0, v2)] [] G Q := by
  refine sg_blk [(1, 0, 0, 0, 0), (3, 0, 0, 1, 0)] (by decide +kernel) ?_
  refine And.intro (Nat.le_of_ble_eq_true rfl) (And.intro rfl (?_))
  show sg_Wp 0 N (d + 1) m_G_was 2 [(0, 2, 44), (1, 0, v1), (2, 0, v2)] [(0, v1), (2, 44)] G Q
  refine sg_callV (k := d) (y' := m_G_isPerson) (av := [(0, v1)]) (rest := []) (b := 44) (by decide +kernel) cv_G_isPerson ml_10_90 (ce_44 hN) rfl rfl (Nat.le_of_ble_eq_true rfl) (Nat.lt_succ_self d) (Nat.le_of_ble_eq_true rfl) rfl ?_
  show sg_Wp 0 N d m_G_isPerson 0 [(0, 2, 44), (1, 0, v1)] [] G _
  refine sg_Wp.mono h (fun r1 G1 hhr1 => ?_)
  show sg_Wp 0 N (d + 1) m_G_was 5 [(0, 2, 44), (1, 0, v1), (2, 0, v2)] [(0, r1)] G1 Q
  refine sg_if_eq (off := 11) (tgt := 16) (by decide +kernel) (by decide) ⟨fun q3 => ?_, fun q3 => ?_⟩
  · refine sg_blk [(8, (-2), 0, 0, 0)] (by decide +kernel) ?_
    refine And.intro rfl (And.intro rfl (?_))
    show sg_Wp 0 N (d + 1) m_G_was 18 [(0, 2, 44), (1, 0, v1), (2, 0, v2)] [(0, (-2))] G1 Q
    exact sg_ret (by decide +kernel) rfl (Or.inl rfl) ((hhr1.1 q3))
  · refine sg_blk [(3, 0, 0, 2, 0), (7, 2, 0, 0, 0)] (by decide +kernel) ?_
    refine And.intro rfl (And.intro rfl (?_))
    show sg_Wp 0 N (d + 1) m_G_was 10 [(0, 2, 44), (1, 0, v1), (2, 0, v2)] [(0, 2), (0, v2)] G1 Q
    refine sg_callS (k := d) (y' := m_G_isBelow) (av := [(0, v2), (0, 2)]) (rest := []) (by decide +kernel) cs_G_isBelow ml_10_46 rfl (Nat.le_of_ble_eq_true rfl) (Nat.lt_succ_self d) (Nat.le_of_ble_eq_true rfl) rfl ?_
    show sg_Wp 0 N d m_G_isBelow 0 [(0, 0, v2), (1, 0, 2)] [] G1 _
    refine s_G_isBelow ?_
    show sg_Wp 0 N (d + 1) m_G_was 13 [(0, 2, 44), (1, 0, v1), (2, 0, v2)] [(0, sg_bo (0 ≤ v2 ∧ v2 < 2))] G1 Q
    refine sg_bif_ne (off := 6) (tgt := 19) (by decide +kernel) (by decide) ⟨fun q2 => ?_, fun q2 => ?_⟩
    · refine sg_blk [(3, 0, 0, 2, 0)] (by decide +kernel) ?_
      refine And.intro rfl (?_)
      show sg_Wp 0 N (d + 1) m_G_was 20 [(0, 2, 44), (1, 0, v1), (2, 0, v2)] [(0, v2)] G1 Q
      refine sg_if_ne (off := 14) (tgt := 34) (by decide +kernel) (by decide) ⟨fun q1 => ?_, fun q1 => ?_⟩
      · refine sg_blk [(1, 0, 0, 0, 0), (65, 46, 10, 28, 2), (3, 0, 0, 1, 0)] (by decide +kernel) ?_
        refine And.intro (Nat.le_of_ble_eq_true rfl) (And.intro (ce_44 hN) (And.intro rr_44_2 (And.intro rfl (?_))))
        show sg_Wp 0 N (d + 1) m_G_was 39 [(0, 2, 44), (1, 0, v1), (2, 0, v2)] [(0, v1), (2, 46)] G1 Q
        refine sg_callV (k := d) (y' := m_H_coldsOf) (av := [(0, v1)]) (rest := []) (b := 46) (by decide +kernel) cv_H_coldsOf ml_10_213 (ce_46 hN) rfl rfl (Nat.le_of_ble_eq_true rfl) (Nat.lt_succ_self d) (Nat.le_of_ble_eq_true rfl) rfl ?_
        show sg_Wp 0 N d m_H_coldsOf 0 [(0, 2, 46), (1, 0, v1)] [] G1 _
        refine sg_Wp.mono ((((hhr1.2 q3).1 q2).1 q1)) (fun r2 G2 hhr2 => ?_)
        show sg_Wp 0 N (d + 1) m_G_was 42 [(0, 2, 44), (1, 0, v1), (2, 0, v2)] [(0, r2)] G2 Q
        exact sg_ret (by decide +kernel) rfl (Or.inl rfl) hhr2
      · refine sg_blk [(1, 0, 0, 0, 0), (65, 46, 10, 28, 2), (3, 0, 0, 1, 0)] (by decide +kernel) ?_
        refine And.intro (Nat.le_of_ble_eq_true rfl) (And.intro (ce_44 hN) (And.intro rr_44_2 (And.intro rfl (?_))))
        show sg_Wp 0 N (d + 1) m_G_was 28 [(0, 2, 44), (1, 0, v1), (2, 0, v2)] [(0, v1), (2, 46)] G1 Q
        refine sg_callV (k := d) (y' := m_H_sortsOf) (av := [(0, v1)]) (rest := []) (b := 46) (by decide +kernel) cv_H_sortsOf ml_10_210 (ce_46 hN) rfl rfl (Nat.le_of_ble_eq_true rfl) (Nat.lt_succ_self d) (Nat.le_of_ble_eq_true rfl) rfl ?_
        show sg_Wp 0 N d m_H_sortsOf 0 [(0, 2, 46), (1, 0, v1)] [] G1 _
        refine sg_Wp.mono ((((hhr1.2 q3).1 q2).2 q1)) (fun r3 G3 hhr3 => ?_)
        show sg_Wp 0 N (d + 1) m_G_was 31 [(0, 2, 44), (1, 0, v1), (2, 0, v2)] [(0, r3)] G3 Q
        refine sg_goto (off := 11) (tgt := 42) (by decide +kernel) (by decide) ?_
        exact sg_ret (by decide +kernel) rfl (Or.inl rfl) hhr3
    · refine sg_blk [(8, (-2), 0, 0, 0)] (by decide +kernel) ?_
      refine And.intro rfl (And.intro rfl (?_))
      show sg_Wp 0 N (d + 1) m_G_was 18 [(0, 2, 44), (1, 0, v1), (2, 0, v2)] [(0, (-2))] G1 Q
      exact sg_ret (by decide +kernel) rfl (Or.inl rfl) (((hhr1.2 q3).2 q2))
set_option maxRecDepth 100000 in
theorem g_G_wipe_44_0 {d N : Nat} (hN : 75 ≤ N) {v1 : Int} {G : SgM} {Q : Int → SgM → Prop} (h : ((0 ≤ v1 ∧ v1 < 2) → (sg_Wp 0 N d m_K_textOf 0 [(0, 2, 0), (1, 0, v1)] [] G (fun r1 G1 => (r1 = 1 ∧ (sg_Wp 0 N d m_T_clear 0 [(0, 2, 1)] [] G1 (fun r2 G2 => sg_Wp 0 N d m_K_tellAnew 0 [(0, 2, 0)] [] G2 (fun r3 G3 => Q r2 G3)))) ∨ (r1 = 3 ∧ (sg_Wp 0 N d m_T_clear 0 [(0, 2, 3)] [] G1 (fun r4 G4 => sg_Wp 0 N d m_K_tellAnew 0 [(0, 2, 0)] [] G4 (fun r5 G5 => Q r4 G5))))))) ∧ (¬ (0 ≤ v1 ∧ v1 < 2) → (Q ((-2)) G))) : sg_Wp 0 N (d + 1) m_G_wipe 0 [(0, 2, 44), (1, 0, v1)] [] G Q := by
  refine sg_blk [(3, 0, 0, 1, 0), (7, 2, 0, 0, 0)] (by decide +kernel) ?_
  refine And.intro rfl (And.intro rfl (?_))
  show sg_Wp 0 N (d + 1) m_G_wipe 2 [(0, 2, 44), (1, 0, v1)] [(0, 2), (0, v1)] G Q
  refine sg_callS (k := d) (y' := m_G_isBelow) (av := [(0, v1), (0, 2)]) (rest := []) (by decide +kernel) cs_G_isBelow ml_10_46 rfl (Nat.le_of_ble_eq_true rfl) (Nat.lt_succ_self d) (Nat.le_of_ble_eq_true rfl) rfl ?_
  show sg_Wp 0 N d m_G_isBelow 0 [(0, 0, v1), (1, 0, 2)] [] G _
  refine s_G_isBelow ?_
  show sg_Wp 0 N (d + 1) m_G_wipe 5 [(0, 2, 44), (1, 0, v1)] [(0, sg_bo (0 ≤ v1 ∧ v1 < 2))] G Q
  refine sg_bif_ne (off := 6) (tgt := 11) (by decide +kernel) (by decide) ⟨fun q1 => ?_, fun q1 => ?_⟩
  · refine sg_blk [(1, 0, 0, 0, 0), (65, 0, 10, 10, 0), (3, 0, 0, 1, 0)] (by decide +kernel) ?_
    refine And.intro (Nat.le_of_ble_eq_true rfl) (And.intro (ce_44 hN) (And.intro rr_44_0 (And.intro rfl (?_))))
    show sg_Wp 0 N (d + 1) m_G_wipe 16 [(0, 2, 44), (1, 0, v1)] [(0, v1), (2, 0)] G Q
    refine sg_callV (k := d) (y' := m_K_textOf) (av := [(0, v1)]) (rest := []) (b := 0) (by decide +kernel) cv_K_textOf ml_10_50 (ce_0 (Nat.le_trans (by decide) hN)) rfl rfl (Nat.le_of_ble_eq_true rfl) (Nat.lt_succ_self d) (Nat.le_of_ble_eq_true rfl) rfl ?_
    show sg_Wp 0 N d m_K_textOf 0 [(0, 2, 0), (1, 0, v1)] [] G _
    refine sg_Wp.mono ((h.1 q1)) (fun r1 G1 hhr1 => ?_)
    rcases hhr1 with ⟨er1, hhr1⟩ | ⟨er1, hhr1⟩
    · subst er1
      show sg_Wp 0 N (d + 1) m_G_wipe 19 [(0, 2, 44), (1, 0, v1)] [(2, 1)] G1 Q
      refine sg_callV (k := d) (y' := m_T_clear) (av := []) (rest := []) (b := 1) (by decide +kernel) cv_T_clear ml_10_63 (ce_1 (Nat.le_trans (by decide) hN)) rfl rfl (Nat.le_of_ble_eq_true rfl) (Nat.lt_succ_self d) (Nat.le_of_ble_eq_true rfl) rfl ?_
      show sg_Wp 0 N d m_T_clear 0 [(0, 2, 1)] [] G1 _
      refine sg_Wp.mono hhr1 (fun r2 G2 hhr2 => ?_)
      show sg_Wp 0 N (d + 1) m_G_wipe 22 [(0, 2, 44), (1, 0, v1)] [(0, r2)] G2 Q
      refine sg_blk [(25, 0, 0, 2, 0), (1, 0, 0, 0, 0), (65, 0, 10, 10, 0)] (by decide +kernel) ?_
      refine And.intro rfl (And.intro (Nat.le_of_ble_eq_true rfl) (And.intro (ce_44 hN) (And.intro rr_44_0 (?_))))
      show sg_Wp 0 N (d + 1) m_G_wipe 27 [(0, 2, 44), (1, 0, v1), (2, 0, r2)] [(2, 0)] G2 Q
      refine sg_callV (k := d) (y' := m_K_tellAnew) (av := []) (rest := []) (b := 0) (by decide +kernel) cv_K_tellAnew ml_10_60 (ce_0 (Nat.le_trans (by decide) hN)) rfl rfl (Nat.le_of_ble_eq_true rfl) (Nat.lt_succ_self d) (Nat.le_of_ble_eq_true rfl) rfl ?_
      show sg_Wp 0 N d m_K_tellAnew 0 [(0, 2, 0)] [] G2 _
      refine sg_Wp.mono hhr2 (fun r3 G3 hhr3 => ?_)
      show sg_Wp 0 N (d + 1) m_G_wipe 30 [(0, 2, 44), (1, 0, v1), (2, 0, r2)] [] G3 Q
      refine sg_blk [(3, 0, 0, 2, 0)] (by decide +kernel) ?_
      refine And.intro rfl (?_)
      show sg_Wp 0 N (d + 1) m_G_wipe 31 [(0, 2, 44), (1, 0, v1), (2, 0, r2)] [(0, r2)] G3 Q
      exact sg_ret (by decide +kernel) rfl (Or.inl rfl) hhr3
    · subst er1
      show sg_Wp 0 N (d + 1) m_G_wipe 19 [(0, 2, 44), (1, 0, v1)] [(2, 3)] G1 Q
      refine sg_callV (k := d) (y' := m_T_clear) (av := []) (rest := []) (b := 3) (by decide +kernel) cv_T_clear ml_10_63 (ce_3 (Nat.le_trans (by decide) hN)) rfl rfl (Nat.le_of_ble_eq_true rfl) (Nat.lt_succ_self d) (Nat.le_of_ble_eq_true rfl) rfl ?_
      show sg_Wp 0 N d m_T_clear 0 [(0, 2, 3)] [] G1 _
      refine sg_Wp.mono hhr1 (fun r4 G4 hhr4 => ?_)
      show sg_Wp 0 N (d + 1) m_G_wipe 22 [(0, 2, 44), (1, 0, v1)] [(0, r4)] G4 Q
      refine sg_blk [(25, 0, 0, 2, 0), (1, 0, 0, 0, 0), (65, 0, 10, 10, 0)] (by decide +kernel) ?_
      refine And.intro rfl (And.intro (Nat.le_of_ble_eq_true rfl) (And.intro (ce_44 hN) (And.intro rr_44_0 (?_))))
      show sg_Wp 0 N (d + 1) m_G_wipe 27 [(0, 2, 44), (1, 0, v1), (2, 0, r4)] [(2, 0)] G4 Q
      refine sg_callV (k := d) (y' := m_K_tellAnew) (av := []) (rest := []) (b := 0) (by decide +kernel) cv_K_tellAnew ml_10_60 (ce_0 (Nat.le_trans (by decide) hN)) rfl rfl (Nat.le_of_ble_eq_true rfl) (Nat.lt_succ_self d) (Nat.le_of_ble_eq_true rfl) rfl ?_
      show sg_Wp 0 N d m_K_tellAnew 0 [(0, 2, 0)] [] G4 _
      refine sg_Wp.mono hhr4 (fun r5 G5 hhr5 => ?_)
      show sg_Wp 0 N (d + 1) m_G_wipe 30 [(0, 2, 44), (1, 0, v1), (2, 0, r4)] [] G5 Q
      refine sg_blk [(3, 0, 0, 2, 0)] (by decide +kernel) ?_
      refine And.intro rfl (?_)
      show sg_Wp 0 N (d + 1) m_G_wipe 31 [(0, 2, 44), (1, 0, v1), (2, 0, r4)] [(0, r4)] G5 Q
      exact sg_ret (by decide +kernel) rfl (Or.inl rfl) hhr5
  · refine sg_blk [(8, (-2), 0, 0, 0)] (by decide +kernel) ?_
    refine And.intro rfl (And.intro rfl (?_))
    show sg_Wp 0 N (d + 1) m_G_wipe 10 [(0, 2, 44), (1, 0, v1)] [(0, (-2))] G Q
    exact sg_ret (by decide +kernel) rfl (Or.inl rfl) ((h.2 q1))
set_option maxRecDepth 100000 in
theorem g_G_write_44_0 {d N : Nat} (hN : 75 ≤ N) {v1 v2 : Int} {G : SgM} {Q : Int → SgM → Prop} (h : sg_Wp 0 N d m_G_isPost 0 [(0, 2, 44), (1, 0, v1)] [] G (fun r1 G1 => (r1 ≠ 0 → (sg_Wp 0 N d m_Z_refusalOf 0 [(0, 2, 67), (1, 0, v2)] [] G1 (fun r2 G2 => (r2 = 0 → (sg_Wp 0 N d m_Z_lengthOf 0 [(0, 2, 67), (1, 0, v2)] [] G2 (fun r3 G3 => sg_Wp 0 N (d + 1) m_G_write 44 [(0, 2, 44), (1, 0, v1), (2, 0, v2), (4, 0, sg_mn r3 24), (5, 0, 0)] [] G3 Q))) ∧ (¬ (r2 = 0) → (Q r2 G2))))) ∧ (¬ (r1 ≠ 0) → (Q ((-2)) G1)))) : sg_Wp 0 N (d + 1) m_G_write 0 [(0, 2, 44), (1, 0, v1), (2, 0, v2)] [] G Q := by
  refine sg_blk [(1, 0, 0, 0, 0), (3, 0, 0, 1, 0)] (by decide +kernel) ?_
  refine And.intro (Nat.le_of_ble_eq_true rfl) (And.intro rfl (?_))
  show sg_Wp 0 N (d + 1) m_G_write 2 [(0, 2, 44), (1, 0, v1), (2, 0, v2)] [(0, v1), (2, 44)] G Q
  refine sg_callV (k := d) (y' := m_G_isPost) (av := [(0, v1)]) (rest := []) (b := 44) (by decide +kernel) cv_G_isPost ml_10_73 (ce_44 hN) rfl rfl (Nat.le_of_ble_eq_true rfl) (Nat.lt_succ_self d) (Nat.le_of_ble_eq_true rfl) rfl ?_
  show sg_Wp 0 N d m_G_isPost 0 [(0, 2, 44), (1, 0, v1)] [] G _
  refine sg_Wp.mono h (fun r1 G1 hhr1 => ?_)
  show sg_Wp 0 N (d + 1) m_G_write 5 [(0, 2, 44), (1, 0, v1), (2, 0, v2)] [(0, r1)] G1 Q
  refine sg_if_ne (off := 6) (tgt := 11) (by decide +kernel) (by decide) ⟨fun q2 => ?_, fun q2 => ?_⟩
  · refine sg_blk [(1, 0, 0, 0, 0), (65, 67, 10, 42, 4), (3, 0, 0, 2, 0)] (by decide +kernel) ?_
    refine And.intro (Nat.le_of_ble_eq_true rfl) (And.intro (ce_44 hN) (And.intro rr_44_4 (And.intro rfl (?_))))
    show sg_Wp 0 N (d + 1) m_G_write 16 [(0, 2, 44), (1, 0, v1), (2, 0, v2)] [(0, v2), (2, 67)] G1 Q
    refine sg_callV (k := d) (y' := m_Z_refusalOf) (av := [(0, v2)]) (rest := []) (b := 67) (by decide +kernel) cv_Z_refusalOf ml_10_120 (ce_67 hN) rfl rfl (Nat.le_of_ble_eq_true rfl) (Nat.lt_succ_self d) (Nat.le_of_ble_eq_true rfl) rfl ?_
    show sg_Wp 0 N d m_Z_refusalOf 0 [(0, 2, 67), (1, 0, v2)] [] G1 _
    refine sg_Wp.mono ((hhr1.1 q2)) (fun r2 G2 hhr2 => ?_)
    show sg_Wp 0 N (d + 1) m_G_write 19 [(0, 2, 44), (1, 0, v1), (2, 0, v2)] [(0, r2)] G2 Q
    refine sg_blk [(25, 0, 0, 3, 0), (3, 0, 0, 3, 0)] (by decide +kernel) ?_
    refine And.intro rfl (And.intro rfl (?_))
    show sg_Wp 0 N (d + 1) m_G_write 21 [(0, 2, 44), (1, 0, v1), (2, 0, v2), (3, 0, r2)] [(0, r2)] G2 Q
    refine sg_if_eq (off := 5) (tgt := 26) (by decide +kernel) (by decide) ⟨fun q1 => ?_, fun q1 => ?_⟩
    · refine sg_blk [(1, 0, 0, 0, 0), (65, 67, 10, 42, 4), (3, 0, 0, 2, 0)] (by decide +kernel) ?_
      refine And.intro (Nat.le_of_ble_eq_true rfl) (And.intro (ce_44 hN) (And.intro rr_44_4 (And.intro rfl (?_))))
      show sg_Wp 0 N (d + 1) m_G_write 31 [(0, 2, 44), (1, 0, v1), (2, 0, v2), (3, 0, r2)] [(0, v2), (2, 67)] G2 Q
      refine sg_callV (k := d) (y' := m_Z_lengthOf) (av := [(0, v2)]) (rest := []) (b := 67) (by decide +kernel) cv_Z_lengthOf ml_10_123 (ce_67 hN) rfl rfl (Nat.le_of_ble_eq_true rfl) (Nat.lt_succ_self d) (Nat.le_of_ble_eq_true rfl) rfl ?_
      show sg_Wp 0 N d m_Z_lengthOf 0 [(0, 2, 67), (1, 0, v2)] [] G2 _
      refine sg_Wp.mono ((hhr2.1 q1)) (fun r3 G3 hhr3 => ?_)
      show sg_Wp 0 N (d + 1) m_G_write 34 [(0, 2, 44), (1, 0, v1), (2, 0, v2), (3, 0, r2)] [(0, r3)] G3 Q
      refine sg_blk [(8, 24, 0, 0, 0)] (by decide +kernel) ?_
      refine And.intro rfl (And.intro rfl (?_))
      show sg_Wp 0 N (d + 1) m_G_write 36 [(0, 2, 44), (1, 0, v1), (2, 0, v2), (3, 0, r2)] [(0, 24), (0, r3)] G3 Q
      refine sg_mmin (by decide +kernel) mx_10_254 (Nat.succ_pos _) (Nat.le_of_ble_eq_true rfl) rfl ?_
      show sg_Wp 0 N (d + 1) m_G_write 39 [(0, 2, 44), (1, 0, v1), (2, 0, v2), (3, 0, r2)] [(0, sg_mn r3 24)] G3 Q
      refine sg_blk [(26, 0, 0, 4, 0), (7, 0, 0, 0, 0), (26, 0, 0, 5, 0)] (by decide +kernel) ?_
      refine And.intro rfl (And.intro rfl (And.intro rfl (?_)))
      show sg_Wp 0 N (d + 1) m_G_write 44 [(0, 2, 44), (1, 0, v1), (2, 0, v2), (3, 0, r2), (4, 0, sg_mn r3 24), (5, 0, 0)] [] G3 Q
      exact sg_Wp.keepk [0, 1, 2, 4, 5] rfl hhr3
    · refine sg_blk [(3, 0, 0, 3, 0)] (by decide +kernel) ?_
      refine And.intro rfl (?_)
      show sg_Wp 0 N (d + 1) m_G_write 25 [(0, 2, 44), (1, 0, v1), (2, 0, v2), (3, 0, r2)] [(0, r2)] G2 Q
      exact sg_ret (by decide +kernel) rfl (Or.inl rfl) ((hhr2.2 q1))
  · refine sg_blk [(8, (-2), 0, 0, 0)] (by decide +kernel) ?_
    refine And.intro rfl (And.intro rfl (?_))
    show sg_Wp 0 N (d + 1) m_G_write 10 [(0, 2, 44), (1, 0, v1), (2, 0, v2)] [(0, (-2))] G1 Q
    exact sg_ret (by decide +kernel) rfl (Or.inl rfl) ((hhr1.2 q2))
set_option maxRecDepth 100000 in
theorem g_G_write_44_44 {d N : Nat} (hN : 75 ≤ N) {v1 v2 v4 v5 : Int} {G : SgM} {Q : Int → SgM → Prop} (h : (v4 ≤ v5 → (Q v4 G)) ∧ (¬ (v4 ≤ v5) → ((0 ≤ (sg_iadd (sg_imul v5 8) v1) ∧ (sg_iadd (sg_imul v5 8) v1) < 192) ∧ (sg_Wp 0 N d m_Z_put 0 [(0, 2, 67), (1, 0, v2), (2, 0, v5), (3, 0, G 29 (sg_iadd (sg_imul v5 8) v1))] [] G (fun r4 G4 => sg_Wp 0 N (d + 1) m_G_write 44 [(0, 2, 44), (1, 0, v1), (2, 0, v2), (4, 0, v4), (5, 0, sg_iadd v5 1)] [] G4 Q))))) : sg_Wp 0 N (d + 1) m_G_write 44 [(0, 2, 44), (1, 0, v1), (2, 0, v2), (4, 0, v4), (5, 0, v5)] [] G Q := by
  refine sg_blk [(4, 0, 0, 5, 0), (4, 0, 0, 4, 0)] (by decide +kernel) ?_
  refine And.intro rfl (And.intro rfl (?_))
  show sg_Wp 0 N (d + 1) m_G_write 48 [(0, 2, 44), (1, 0, v1), (2, 0, v2), (4, 0, v4), (5, 0, v5)] [(0, v4), (0, v5)] G Q
  refine sg_icmp_ge (off := 37) (tgt := 85) (by decide +kernel) (by decide) ⟨fun q3 => ?_, fun q3 => ?_⟩
  · refine sg_blk [(4, 0, 0, 4, 0)] (by decide +kernel) ?_
    refine And.intro rfl (?_)
    show sg_Wp 0 N (d + 1) m_G_write 87 [(0, 2, 44), (1, 0, v1), (2, 0, v2), (4, 0, v4), (5, 0, v5)] [(0, v4)] G Q
    exact sg_ret (by decide +kernel) rfl (Or.inl rfl) ((h.1 q3))
  · refine sg_blk [(1, 0, 0, 0, 0), (65, 67, 10, 42, 4), (3, 0, 0, 2, 0), (4, 0, 0, 5, 0), (1, 0, 0, 0, 0), (65, 0, 10, 10, 0), (65, 21, 4, 130, 5), (65, 29, 1, 145, 9), (4, 0, 0, 5, 0), (8, 8, 0, 0, 0), (34, 0, 0, 0, 0), (3, 0, 0, 1, 0), (32, 0, 0, 0, 0), (17, 192, 0, 0, 0)] (by decide +kernel) ?_
    refine And.intro (Nat.le_of_ble_eq_true rfl) (And.intro (ce_44 hN) (And.intro rr_44_4 (And.intro rfl (And.intro rfl (And.intro (Nat.le_of_ble_eq_true rfl) (And.intro (ce_44 hN) (And.intro rr_44_0 (And.intro (ce_0 (Nat.le_trans (by decide) hN)) (And.intro rr_0_5 (And.intro (ce_21 (Nat.le_trans (by decide) hN)) (And.intro rr_21_9 (And.intro rfl (And.intro rfl (And.intro rfl (And.intro rfl (And.intro (ce_29 (Nat.le_trans (by decide) hN)) (And.intro (h.2 q3).1 (?_))))))))))))))))))
    show sg_Wp 0 N (d + 1) m_G_write 76 [(0, 2, 44), (1, 0, v1), (2, 0, v2), (4, 0, v4), (5, 0, v5)] [(0, G 29 (sg_iadd (sg_imul v5 8) v1)), (0, v5), (0, v2), (2, 67)] G Q
    refine sg_callV (k := d) (y' := m_Z_put) (av := [(0, v2), (0, v5), (0, G 29 (sg_iadd (sg_imul v5 8) v1))]) (rest := []) (b := 67) (by decide +kernel) cv_Z_put ml_10_245 (ce_67 hN) rfl rfl (Nat.le_of_ble_eq_true rfl) (Nat.lt_succ_self d) (Nat.le_of_ble_eq_true rfl) rfl ?_
    show sg_Wp 0 N d m_Z_put 0 [(0, 2, 67), (1, 0, v2), (2, 0, v5), (3, 0, G 29 (sg_iadd (sg_imul v5 8) v1))] [] G _
    refine sg_Wp.mono ((h.2 q3).2) (fun r4 G4 hhr4 => ?_)
    show sg_Wp 0 N (d + 1) m_G_write 79 [(0, 2, 44), (1, 0, v1), (2, 0, v2), (4, 0, v4), (5, 0, v5)] [] G4 Q
    refine sg_blk [(31, 1, 0, 5, 0)] (by decide +kernel) ?_
    refine And.intro rfl (?_)
    show sg_Wp 0 N (d + 1) m_G_write 82 [(0, 2, 44), (1, 0, v1), (2, 0, v2), (4, 0, v4), (5, 0, sg_iadd v5 1)] [] G4 Q
    refine sg_goto (off := -38) (tgt := 44) (by decide +kernel) (by decide) ?_
    exact hhr4
