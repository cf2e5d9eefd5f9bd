/-! CUT LEMMAS, printed by a program -/
set_option maxRecDepth 100000 in
theorem g_M_alike_0 {d : Nat} {v1 v2 : Int} {G : SgM} {Q : Int → SgM → Prop} (h : sg_Wp 200 228 (d + 1) m_M_alike 5 [(0, 2, 200), (1, 0, v1), (2, 0, v2), (3, 0, 0), (4, 0, 1)] [] G Q) : sg_Wp 200 228 (d + 1) m_M_alike 0 [(0, 2, 200), (1, 0, v1), (2, 0, v2)] [] G Q := by
  refine sg_blk [(7, 0, 0, 0, 0), (25, 0, 0, 3, 0), (7, 1, 0, 0, 0), (26, 0, 0, 4, 0)] (by decide +kernel) ?_
  refine And.intro rfl (And.intro rfl (And.intro rfl (And.intro rfl (?_))))
  show sg_Wp 200 228 (d + 1) m_M_alike 5 [(0, 2, 200), (1, 0, v1), (2, 0, v2), (3, 0, 0), (4, 0, 1)] [] G Q
  exact h
set_option maxRecDepth 100000 in
theorem g_M_alike_5 {d : Nat} {v1 v2 v3 v4 : Int} {G : SgM} {Q : Int → SgM → Prop} (h : (10 ≤ v4 → (Q v3 G)) ∧ (¬ (10 ≤ v4) → (sg_Wp 200 228 (d + 1) m_M_alike 18 [(0, 2, 200), (1, 0, v1), (2, 0, v2), (3, 0, v3), (4, 0, v4), (5, 0, 0), (6, 0, 1)] [] G Q))) : sg_Wp 200 228 (d + 1) m_M_alike 5 [(0, 2, 200), (1, 0, v1), (2, 0, v2), (3, 0, v3), (4, 0, v4)] [] G Q := by
  refine sg_blk [(4, 0, 0, 4, 0), (8, 10, 0, 0, 0)] (by decide +kernel) ?_
  refine And.intro rfl (And.intro rfl (And.intro rfl (?_)))
  show sg_Wp 200 228 (d + 1) m_M_alike 9 [(0, 2, 200), (1, 0, v1), (2, 0, v2), (3, 0, v3), (4, 0, v4)] [(0, 10), (0, v4)] G Q
  refine sg_icmp_ge (off := 90) (tgt := 99) (by decide +kernel) (by decide) ⟨fun q1 => ?_, fun q1 => ?_⟩
  · refine sg_blk [(3, 0, 0, 3, 0)] (by decide +kernel) ?_
    refine And.intro rfl (?_)
    show sg_Wp 200 228 (d + 1) m_M_alike 100 [(0, 2, 200), (1, 0, v1), (2, 0, v2), (3, 0, v3), (4, 0, v4)] [(0, v3)] G Q
    exact sg_ret (by decide +kernel) rfl (Or.inl rfl) ((h.1 q1))
  · refine sg_blk [(7, 0, 0, 0, 0), (26, 0, 0, 5, 0), (7, 1, 0, 0, 0), (26, 0, 0, 6, 0)] (by decide +kernel) ?_
    refine And.intro rfl (And.intro rfl (And.intro rfl (And.intro rfl (?_))))
    show sg_Wp 200 228 (d + 1) m_M_alike 18 [(0, 2, 200), (1, 0, v1), (2, 0, v2), (3, 0, v3), (4, 0, v4), (5, 0, 0), (6, 0, 1)] [] G Q
    exact (h.2 q1)
set_option maxRecDepth 100000 in
theorem g_M_alike_18 {d : Nat} {v1 v2 v3 v4 v5 v6 : Int} {G : SgM} {Q : Int → SgM → Prop} (h : (10 ≤ v6 → (sg_Wp 200 228 (d + 1) m_M_alike 5 [(0, 2, 200), (1, 0, v1), (2, 0, v2), (3, 0, sg_grt v5 v3), (4, 0, sg_iadd v4 1)] [] G Q)) ∧ (¬ (10 ≤ v6) → (((sg_iand (sg_ishr v1 v4) 1 = 1) → (((sg_iand (sg_ishr v1 v6) 1 = 1) → ((0 ≤ (sg_iadd (sg_imul 24 v4) v2) ∧ (sg_iadd (sg_imul 24 v4) v2) < 240) ∧ (0 ≤ (sg_iadd (sg_imul 24 v6) v2) ∧ (sg_iadd (sg_imul 24 v6) v2) < 240) ∧ (((G 226 (sg_iadd (sg_imul 24 v4) v2)) ≠ (G 226 (sg_iadd (sg_imul 24 v6) v2)) → (sg_Wp 200 228 (d + 1) m_M_alike 18 [(0, 2, 200), (1, 0, v1), (2, 0, v2), (3, 0, v3), (4, 0, v4), (5, 0, sg_iadd v5 0), (6, 0, sg_iadd v6 1)] [] G Q)) ∧ (¬ ((G 226 (sg_iadd (sg_imul 24 v4) v2)) ≠ (G 226 (sg_iadd (sg_imul 24 v6) v2))) → (sg_Wp 200 228 (d + 1) m_M_alike 18 [(0, 2, 200), (1, 0, v1), (2, 0, v2), (3, 0, v3), (4, 0, v4), (5, 0, sg_iadd v5 1), (6, 0, sg_iadd v6 1)] [] G Q))))) ∧ (¬ (sg_iand (sg_ishr v1 v6) 1 = 1) → (sg_Wp 200 228 (d + 1) m_M_alike 18 [(0, 2, 200), (1, 0, v1), (2, 0, v2), (3, 0, v3), (4, 0, v4), (5, 0, sg_iadd v5 0), (6, 0, sg_iadd v6 1)] [] G Q)))) ∧ (¬ (sg_iand (sg_ishr v1 v4) 1 = 1) → (sg_Wp 200 228 (d + 1) m_M_alike 18 [(0, 2, 200), (1, 0, v1), (2, 0, v2), (3, 0, v3), (4, 0, v4), (5, 0, sg_iadd v5 0), (6, 0, sg_iadd v6 1)] [] G Q))))) : sg_Wp 200 228 (d + 1) m_M_alike 18 [(0, 2, 200), (1, 0, v1), (2, 0, v2), (3, 0, v3), (4, 0, v4), (5, 0, v5), (6, 0, v6)] [] G Q := by
  refine sg_blk [(4, 0, 0, 6, 0), (8, 10, 0, 0, 0)] (by decide +kernel) ?_
  refine And.intro rfl (And.intro rfl (And.intro rfl (?_)))
  show sg_Wp 200 228 (d + 1) m_M_alike 22 [(0, 2, 200), (1, 0, v1), (2, 0, v2), (3, 0, v3), (4, 0, v4), (5, 0, v5), (6, 0, v6)] [(0, 10), (0, v6)] G Q
  refine sg_icmp_ge (off := 64) (tgt := 86) (by decide +kernel) (by decide) ⟨fun q5 => ?_, fun q5 => ?_⟩
  · refine sg_blk [(4, 0, 0, 5, 0), (3, 0, 0, 3, 0)] (by decide +kernel) ?_
    refine And.intro rfl (And.intro rfl (?_))
    show sg_Wp 200 228 (d + 1) m_M_alike 89 [(0, 2, 200), (1, 0, v1), (2, 0, v2), (3, 0, v3), (4, 0, v4), (5, 0, v5), (6, 0, v6)] [(0, v3), (0, v5)] G Q
    refine sg_callS (k := d) (y' := m_M_greater) (av := [(0, v5), (0, v3)]) (rest := []) (by decide +kernel) cs_M_greater ml_11_232 rfl (Nat.le_of_ble_eq_true rfl) (Nat.lt_succ_self d) (Nat.le_of_ble_eq_true rfl) rfl ?_
    show sg_Wp 200 228 d m_M_greater 0 [(0, 0, v5), (1, 0, v3)] [] G _
    refine s_M_greater ?_
    show sg_Wp 200 228 (d + 1) m_M_alike 92 [(0, 2, 200), (1, 0, v1), (2, 0, v2), (3, 0, v3), (4, 0, v4), (5, 0, v5), (6, 0, v6)] [(0, sg_grt v5 v3)] G Q
    refine sg_blk [(25, 0, 0, 3, 0), (31, 1, 0, 4, 0)] (by decide +kernel) ?_
    refine And.intro rfl (And.intro rfl (?_))
    show sg_Wp 200 228 (d + 1) m_M_alike 96 [(0, 2, 200), (1, 0, v1), (2, 0, v2), (3, 0, sg_grt v5 v3), (4, 0, sg_iadd v4 1), (5, 0, v5), (6, 0, v6)] [] G Q
    refine sg_goto (off := -91) (tgt := 5) (by decide +kernel) (by decide) ?_
    exact sg_Wp.keepk [0, 1, 2, 3, 4] rfl ((h.1 q5))
  · refine sg_blk [(4, 0, 0, 5, 0), (3, 0, 0, 1, 0), (4, 0, 0, 4, 0)] (by decide +kernel) ?_
    refine And.intro rfl (And.intro rfl (And.intro rfl (?_)))
    show sg_Wp 200 228 (d + 1) m_M_alike 30 [(0, 2, 200), (1, 0, v1), (2, 0, v2), (3, 0, v3), (4, 0, v4), (5, 0, v5), (6, 0, v6)] [(0, v4), (0, v1), (0, v5)] G Q
    refine sg_callS (k := d) (y' := m_M_isIn) (av := [(0, v1), (0, v4)]) (rest := [(0, v5)]) (by decide +kernel) cs_M_isIn ml_11_187 rfl (Nat.le_of_ble_eq_true rfl) (Nat.lt_succ_self d) (Nat.le_of_ble_eq_true rfl) rfl ?_
    show sg_Wp 200 228 d m_M_isIn 0 [(0, 0, v1), (1, 0, v4)] [] G _
    refine s_M_isIn ?_
    show sg_Wp 200 228 (d + 1) m_M_alike 33 [(0, 2, 200), (1, 0, v1), (2, 0, v2), (3, 0, v3), (4, 0, v4), (5, 0, v5), (6, 0, v6)] [(0, sg_bo (sg_iand (sg_ishr v1 v4) 1 = 1)), (0, v5)] G Q
    refine sg_bif_eq (off := 43) (tgt := 76) (by decide +kernel) (by decide) ⟨fun q4 => ?_, fun q4 => ?_⟩
    · refine sg_blk [(3, 0, 0, 1, 0), (4, 0, 0, 6, 0)] (by decide +kernel) ?_
      refine And.intro rfl (And.intro rfl (?_))
      show sg_Wp 200 228 (d + 1) m_M_alike 39 [(0, 2, 200), (1, 0, v1), (2, 0, v2), (3, 0, v3), (4, 0, v4), (5, 0, v5), (6, 0, v6)] [(0, v6), (0, v1), (0, v5)] G Q
      refine sg_callS (k := d) (y' := m_M_isIn) (av := [(0, v1), (0, v6)]) (rest := [(0, v5)]) (by decide +kernel) cs_M_isIn ml_11_187 rfl (Nat.le_of_ble_eq_true rfl) (Nat.lt_succ_self d) (Nat.le_of_ble_eq_true rfl) rfl ?_
      show sg_Wp 200 228 d m_M_isIn 0 [(0, 0, v1), (1, 0, v6)] [] G _
      refine s_M_isIn ?_
      show sg_Wp 200 228 (d + 1) m_M_alike 42 [(0, 2, 200), (1, 0, v1), (2, 0, v2), (3, 0, v3), (4, 0, v4), (5, 0, v5), (6, 0, v6)] [(0, sg_bo (sg_iand (sg_ishr v1 v6) 1 = 1)), (0, v5)] G Q
      refine sg_bif_eq (off := 34) (tgt := 76) (by decide +kernel) (by decide) ⟨fun q3 => ?_, fun q3 => ?_⟩
      · refine sg_blk [(1, 0, 0, 0, 0), (65, 226, 11, 86, 34), (8, 24, 0, 0, 0), (4, 0, 0, 4, 0), (34, 0, 0, 0, 0), (3, 0, 0, 2, 0), (32, 0, 0, 0, 0), (17, 240, 0, 0, 0), (1, 0, 0, 0, 0), (65, 226, 11, 86, 34), (8, 24, 0, 0, 0), (4, 0, 0, 6, 0), (34, 0, 0, 0, 0), (3, 0, 0, 2, 0), (32, 0, 0, 0, 0), (17, 240, 0, 0, 0)] (by decide +kernel) ?_
        refine And.intro (Nat.le_of_ble_eq_true rfl) (And.intro ce_200 (And.intro rr_200_34 (And.intro rfl (And.intro rfl (And.intro rfl (And.intro rfl (And.intro ce_226 (And.intro (((h.2 q5).1 q4).1 q3).1 (And.intro (Nat.le_of_ble_eq_true rfl) (And.intro ce_200 (And.intro rr_200_34 (And.intro rfl (And.intro rfl (And.intro rfl (And.intro rfl (And.intro ce_226 (And.intro (((h.2 q5).1 q4).1 q3).2.1 (?_))))))))))))))))))
        show sg_Wp 200 228 (d + 1) m_M_alike 69 [(0, 2, 200), (1, 0, v1), (2, 0, v2), (3, 0, v3), (4, 0, v4), (5, 0, v5), (6, 0, v6)] [(0, G 226 (sg_iadd (sg_imul 24 v6) v2)), (0, G 226 (sg_iadd (sg_imul 24 v4) v2)), (0, v5)] G Q
        refine sg_icmp_ne (off := 7) (tgt := 76) (by decide +kernel) (by decide) ⟨fun q2 => ?_, fun q2 => ?_⟩
        · refine sg_blk [(7, 0, 0, 0, 0), (32, 0, 0, 0, 0), (26, 0, 0, 5, 0), (31, 1, 0, 6, 0)] (by decide +kernel) ?_
          refine And.intro rfl (And.intro rfl (And.intro rfl (?_)))
          show sg_Wp 200 228 (d + 1) m_M_alike 83 [(0, 2, 200), (1, 0, v1), (2, 0, v2), (3, 0, v3), (4, 0, v4), (5, 0, sg_iadd v5 0), (6, 0, sg_iadd v6 1)] [] G Q
          refine sg_goto (off := -65) (tgt := 18) (by decide +kernel) (by decide) ?_
          exact ((((h.2 q5).1 q4).1 q3).2.2.1 q2)
        · refine sg_blk [(7, 1, 0, 0, 0)] (by decide +kernel) ?_
          refine And.intro rfl (?_)
          show sg_Wp 200 228 (d + 1) m_M_alike 73 [(0, 2, 200), (1, 0, v1), (2, 0, v2), (3, 0, v3), (4, 0, v4), (5, 0, v5), (6, 0, v6)] [(0, 1), (0, v5)] G Q
          refine sg_goto (off := 4) (tgt := 77) (by decide +kernel) (by decide) ?_
          refine sg_blk [(32, 0, 0, 0, 0), (26, 0, 0, 5, 0), (31, 1, 0, 6, 0)] (by decide +kernel) ?_
          refine And.intro rfl (And.intro rfl (?_))
          show sg_Wp 200 228 (d + 1) m_M_alike 83 [(0, 2, 200), (1, 0, v1), (2, 0, v2), (3, 0, v3), (4, 0, v4), (5, 0, sg_iadd v5 1), (6, 0, sg_iadd v6 1)] [] G Q
          refine sg_goto (off := -65) (tgt := 18) (by decide +kernel) (by decide) ?_
          exact ((((h.2 q5).1 q4).1 q3).2.2.2 q2)
      · refine sg_blk [(7, 0, 0, 0, 0), (32, 0, 0, 0, 0), (26, 0, 0, 5, 0), (31, 1, 0, 6, 0)] (by decide +kernel) ?_
        refine And.intro rfl (And.intro rfl (And.intro rfl (?_)))
        show sg_Wp 200 228 (d + 1) m_M_alike 83 [(0, 2, 200), (1, 0, v1), (2, 0, v2), (3, 0, v3), (4, 0, v4), (5, 0, sg_iadd v5 0), (6, 0, sg_iadd v6 1)] [] G Q
        refine sg_goto (off := -65) (tgt := 18) (by decide +kernel) (by decide) ?_
        exact (((h.2 q5).1 q4).2 q3)
    · refine sg_blk [(7, 0, 0, 0, 0), (32, 0, 0, 0, 0), (26, 0, 0, 5, 0), (31, 1, 0, 6, 0)] (by decide +kernel) ?_
      refine And.intro rfl (And.intro rfl (And.intro rfl (?_)))
      show sg_Wp 200 228 (d + 1) m_M_alike 83 [(0, 2, 200), (1, 0, v1), (2, 0, v2), (3, 0, v3), (4, 0, v4), (5, 0, sg_iadd v5 0), (6, 0, sg_iadd v6 1)] [] G Q
      refine sg_goto (off := -65) (tgt := 18) (by decide +kernel) (by decide) ?_
      exact ((h.2 q5).2 q4)
set_option maxRecDepth 100000 in
theorem g_M_ask_0 {d : Nat} {v1 : Int} {G : SgM} {Q : Int → SgM → Prop} (h : sg_Wp 200 228 d m_M_find 0 [(0, 2, 200)] [] G (fun r1 G1 => sg_Wp 200 228 d m_M_isPerson 0 [(0, 2, 200), (1, 0, v1)] [] G1 (fun r2 G2 => (r2 = 0 → (Q ((-2)) G2)) ∧ (¬ (r2 = 0) → (sg_Wp 200 228 d m_M_askOf 0 [(0, 2, 200), (1, 0, v1)] [] G2 (fun r3 G3 => Q r3 G3)))))) : sg_Wp 200 228 (d + 1) m_M_ask 0 [(0, 2, 200), (1, 0, v1)] [] G Q := by
  refine sg_blk [(1, 0, 0, 0, 0)] (by decide +kernel) ?_
  refine And.intro (Nat.le_of_ble_eq_true rfl) (?_)
  show sg_Wp 200 228 (d + 1) m_M_ask 1 [(0, 2, 200), (1, 0, v1)] [(2, 200)] G Q
  refine sg_callV (k := d) (y' := m_M_find) (av := []) (rest := []) (b := 200) (by decide +kernel) cv_M_find ml_11_217 ce_200 rfl rfl (Nat.le_of_ble_eq_true rfl) (Nat.lt_succ_self d) (Nat.le_of_ble_eq_true rfl) rfl ?_
  show sg_Wp 200 228 d m_M_find 0 [(0, 2, 200)] [] G _
  refine sg_Wp.mono h (fun r1 G1 hhr1 => ?_)
  show sg_Wp 200 228 (d + 1) m_M_ask 4 [(0, 2, 200), (1, 0, v1)] [] G1 Q
  refine sg_blk [(1, 0, 0, 0, 0), (3, 0, 0, 1, 0)] (by decide +kernel) ?_
  refine And.intro (Nat.le_of_ble_eq_true rfl) (And.intro rfl (?_))
  show sg_Wp 200 228 (d + 1) m_M_ask 6 [(0, 2, 200), (1, 0, v1)] [(0, v1), (2, 200)] G1 Q
  refine sg_callV (k := d) (y' := m_M_isPerson) (av := [(0, v1)]) (rest := []) (b := 200) (by decide +kernel) cv_M_isPerson ml_11_161 ce_200 rfl rfl (Nat.le_of_ble_eq_true rfl) (Nat.lt_succ_self d) (Nat.le_of_ble_eq_true rfl) rfl ?_
  show sg_Wp 200 228 d m_M_isPerson 0 [(0, 2, 200), (1, 0, v1)] [] G1 _
  refine sg_Wp.mono hhr1 (fun r2 G2 hhr2 => ?_)
  show sg_Wp 200 228 (d + 1) m_M_ask 9 [(0, 2, 200), (1, 0, v1)] [(0, r2)] G2 Q
  refine sg_if_eq (off := 11) (tgt := 20) (by decide +kernel) (by decide) ⟨fun q1 => ?_, fun q1 => ?_⟩
  · refine sg_blk [(8, (-2), 0, 0, 0)] (by decide +kernel) ?_
    refine And.intro rfl (And.intro rfl (?_))
    show sg_Wp 200 228 (d + 1) m_M_ask 22 [(0, 2, 200), (1, 0, v1)] [(0, (-2))] G2 Q
    exact sg_ret (by decide +kernel) rfl (Or.inl rfl) ((hhr2.1 q1))
  · refine sg_blk [(1, 0, 0, 0, 0), (3, 0, 0, 1, 0)] (by decide +kernel) ?_
    refine And.intro (Nat.le_of_ble_eq_true rfl) (And.intro rfl (?_))
    show sg_Wp 200 228 (d + 1) m_M_ask 14 [(0, 2, 200), (1, 0, v1)] [(0, v1), (2, 200)] G2 Q
    refine sg_callV (k := d) (y' := m_M_askOf) (av := [(0, v1)]) (rest := []) (b := 200) (by decide +kernel) cv_M_askOf ml_11_291 ce_200 rfl rfl (Nat.le_of_ble_eq_true rfl) (Nat.lt_succ_self d) (Nat.le_of_ble_eq_true rfl) rfl ?_
    show sg_Wp 200 228 d m_M_askOf 0 [(0, 2, 200), (1, 0, v1)] [] G2 _
    refine sg_Wp.mono ((hhr2.2 q1)) (fun r3 G3 hhr3 => ?_)
    show sg_Wp 200 228 (d + 1) m_M_ask 17 [(0, 2, 200), (1, 0, v1)] [(0, r3)] G3 Q
    refine sg_goto (off := 5) (tgt := 22) (by decide +kernel) (by decide) ?_
    exact sg_ret (by decide +kernel) rfl (Or.inl rfl) hhr3
set_option maxRecDepth 100000 in
theorem g_M_askOf_0 {d : Nat} {v1 : Int} {G : SgM} {Q : Int → SgM → Prop} (h : sg_Wp 200 228 d m_M_coldsOf 0 [(0, 2, 200), (1, 0, v1)] [] G (fun r1 G1 => sg_Wp 200 228 (d + 1) m_M_askOf 11 [(0, 2, 200), (2, 0, r1), (3, 0, 0), (4, 0, 1)] [] G1 Q)) : sg_Wp 200 228 (d + 1) m_M_askOf 0 [(0, 2, 200), (1, 0, v1)] [] G Q := by
  refine sg_blk [(1, 0, 0, 0, 0), (3, 0, 0, 1, 0)] (by decide +kernel) ?_
  refine And.intro (Nat.le_of_ble_eq_true rfl) (And.intro rfl (?_))
  show sg_Wp 200 228 (d + 1) m_M_askOf 2 [(0, 2, 200), (1, 0, v1)] [(0, v1), (2, 200)] G Q
  refine sg_callV (k := d) (y' := m_M_coldsOf) (av := [(0, v1)]) (rest := []) (b := 200) (by decide +kernel) cv_M_coldsOf ml_11_282 ce_200 rfl rfl (Nat.le_of_ble_eq_true rfl) (Nat.lt_succ_self d) (Nat.le_of_ble_eq_true rfl) rfl ?_
  show sg_Wp 200 228 d m_M_coldsOf 0 [(0, 2, 200), (1, 0, v1)] [] G _
  refine sg_Wp.mono h (fun r1 G1 hhr1 => ?_)
  show sg_Wp 200 228 (d + 1) m_M_askOf 5 [(0, 2, 200), (1, 0, v1)] [(0, r1)] G1 Q
  refine sg_blk [(25, 0, 0, 2, 0), (7, 0, 0, 0, 0), (25, 0, 0, 3, 0), (7, 1, 0, 0, 0), (26, 0, 0, 4, 0)] (by decide +kernel) ?_
  refine And.intro rfl (And.intro rfl (And.intro rfl (And.intro rfl (And.intro rfl (?_)))))
  show sg_Wp 200 228 (d + 1) m_M_askOf 11 [(0, 2, 200), (1, 0, v1), (2, 0, r1), (3, 0, 0), (4, 0, 1)] [] G1 Q
  exact sg_Wp.keepk [0, 2, 3, 4] rfl hhr1
set_option maxRecDepth 100000 in
theorem g_M_askOf_11 {d : Nat} {v2 v3 v4 : Int} {G : SgM} {Q : Int → SgM → Prop} (h : (24 ≤ v4 → (Q v3 G)) ∧ (¬ (24 ≤ v4) → (sg_Wp 200 228 d m_M_alike 0 [(0, 2, 200), (1, 0, v2), (2, 0, v4)] [] G (fun r2 G2 => sg_Wp 200 228 d m_M_alike 0 [(0, 2, 200), (1, 0, v2), (2, 0, v3)] [] G2 (fun r3 G3 => (r3 ≤ r2 → (sg_Wp 200 228 (d + 1) m_M_askOf 11 [(0, 2, 200), (2, 0, v2), (3, 0, v3), (4, 0, sg_iadd v4 1)] [] G3 Q)) ∧ (¬ (r3 ≤ r2) → (sg_Wp 200 228 (d + 1) m_M_askOf 11 [(0, 2, 200), (2, 0, v2), (3, 0, v4), (4, 0, sg_iadd v4 1)] [] G3 Q))))))) : sg_Wp 200 228 (d + 1) m_M_askOf 11 [(0, 2, 200), (2, 0, v2), (3, 0, v3), (4, 0, v4)] [] G Q := by
  refine sg_blk [(4, 0, 0, 4, 0), (8, 24, 0, 0, 0)] (by decide +kernel) ?_
  refine And.intro rfl (And.intro rfl (And.intro rfl (?_)))
  show sg_Wp 200 228 (d + 1) m_M_askOf 15 [(0, 2, 200), (2, 0, v2), (3, 0, v3), (4, 0, v4)] [(0, 24), (0, v4)] G Q
  refine sg_icmp_ge (off := 32) (tgt := 47) (by decide +kernel) (by decide) ⟨fun q2 => ?_, fun q2 => ?_⟩
  · refine sg_blk [(3, 0, 0, 3, 0)] (by decide +kernel) ?_
    refine And.intro rfl (?_)
    show sg_Wp 200 228 (d + 1) m_M_askOf 48 [(0, 2, 200), (2, 0, v2), (3, 0, v3), (4, 0, v4)] [(0, v3)] G Q
    exact sg_ret (by decide +kernel) rfl (Or.inl rfl) ((h.1 q2))
  · refine sg_blk [(1, 0, 0, 0, 0), (3, 0, 0, 2, 0), (4, 0, 0, 4, 0)] (by decide +kernel) ?_
    refine And.intro (Nat.le_of_ble_eq_true rfl) (And.intro rfl (And.intro rfl (?_)))
    show sg_Wp 200 228 (d + 1) m_M_askOf 22 [(0, 2, 200), (2, 0, v2), (3, 0, v3), (4, 0, v4)] [(0, v4), (0, v2), (2, 200)] G Q
    refine sg_callV (k := d) (y' := m_M_alike) (av := [(0, v2), (0, v4)]) (rest := []) (b := 200) (by decide +kernel) cv_M_alike ml_11_288 ce_200 rfl rfl (Nat.le_of_ble_eq_true rfl) (Nat.lt_succ_self d) (Nat.le_of_ble_eq_true rfl) rfl ?_
    show sg_Wp 200 228 d m_M_alike 0 [(0, 2, 200), (1, 0, v2), (2, 0, v4)] [] G _
    refine sg_Wp.mono ((h.2 q2)) (fun r2 G2 hhr2 => ?_)
    show sg_Wp 200 228 (d + 1) m_M_askOf 25 [(0, 2, 200), (2, 0, v2), (3, 0, v3), (4, 0, v4)] [(0, r2)] G2 Q
    refine sg_blk [(1, 0, 0, 0, 0), (3, 0, 0, 2, 0), (3, 0, 0, 3, 0)] (by decide +kernel) ?_
    refine And.intro (Nat.le_of_ble_eq_true rfl) (And.intro rfl (And.intro rfl (?_)))
    show sg_Wp 200 228 (d + 1) m_M_askOf 28 [(0, 2, 200), (2, 0, v2), (3, 0, v3), (4, 0, v4)] [(0, v3), (0, v2), (2, 200), (0, r2)] G2 Q
    refine sg_callV (k := d) (y' := m_M_alike) (av := [(0, v2), (0, v3)]) (rest := [(0, r2)]) (b := 200) (by decide +kernel) cv_M_alike ml_11_288 ce_200 rfl rfl (Nat.le_of_ble_eq_true rfl) (Nat.lt_succ_self d) (Nat.le_of_ble_eq_true rfl) rfl ?_
    show sg_Wp 200 228 d m_M_alike 0 [(0, 2, 200), (1, 0, v2), (2, 0, v3)] [] G2 _
    refine sg_Wp.mono hhr2 (fun r3 G3 hhr3 => ?_)
    show sg_Wp 200 228 (d + 1) m_M_askOf 31 [(0, 2, 200), (2, 0, v2), (3, 0, v3), (4, 0, v4)] [(0, r3), (0, r2)] G3 Q
    refine sg_icmp_ge (off := 8) (tgt := 39) (by decide +kernel) (by decide) ⟨fun q1 => ?_, fun q1 => ?_⟩
    · refine sg_blk [(3, 0, 0, 3, 0), (25, 0, 0, 3, 0), (31, 1, 0, 4, 0)] (by decide +kernel) ?_
      refine And.intro rfl (And.intro rfl (And.intro rfl (?_)))
      show sg_Wp 200 228 (d + 1) m_M_askOf 44 [(0, 2, 200), (2, 0, v2), (3, 0, v3), (4, 0, sg_iadd v4 1)] [] G3 Q
      refine sg_goto (off := -33) (tgt := 11) (by decide +kernel) (by decide) ?_
      exact (hhr3.1 q1)
    · refine sg_blk [(4, 0, 0, 4, 0)] (by decide +kernel) ?_
      refine And.intro rfl (?_)
      show sg_Wp 200 228 (d + 1) m_M_askOf 36 [(0, 2, 200), (2, 0, v2), (3, 0, v3), (4, 0, v4)] [(0, v4)] G3 Q
      refine sg_goto (off := 4) (tgt := 40) (by decide +kernel) (by decide) ?_
      refine sg_blk [(25, 0, 0, 3, 0), (31, 1, 0, 4, 0)] (by decide +kernel) ?_
      refine And.intro rfl (And.intro rfl (?_))
      show sg_Wp 200 228 (d + 1) m_M_askOf 44 [(0, 2, 200), (2, 0, v2), (3, 0, v4), (4, 0, sg_iadd v4 1)] [] G3 Q
      refine sg_goto (off := -33) (tgt := 11) (by decide +kernel) (by decide) ?_
      exact (hhr3.2 q1)
set_option maxRecDepth 100000 in
theorem g_M_chance_0 {d : Nat} {v1 v2 v3 : Int} {G : SgM} {Q : Int → SgM → Prop} (h : sg_Wp 200 228 (d + 1) m_M_find 0 [(0, 2, 200)] [] G (fun r1 G1 => ((0 ≤ v1 ∧ v1 ≤ 16) → (sg_Wp 200 228 (d + 1) m_M_isPost 0 [(0, 2, 200), (1, 0, v2)] [] G1 (fun r2 G2 => (r2 = 0 → (Q (sg_lsub (-9223372036854775808) ((-2))) G2)) ∧ (¬ (r2 = 0) → (((0 ≤ v3 ∧ v3 ≤ 1) → (sg_Wp 200 228 (d + 1) m_M_chanceOf 0 [(0, 2, 200), (1, 0, v1), (2, 0, v2), (3, 0, v3)] [] G2 (fun r3 G3 => Q r3 G3))) ∧ (¬ (0 ≤ v3 ∧ v3 ≤ 1) → (Q (sg_lsub (-9223372036854775808) ((-2))) G2))))))) ∧ (¬ (0 ≤ v1 ∧ v1 ≤ 16) → (Q (sg_lsub (-9223372036854775808) ((-2))) G1)))) : sg_Wp 200 228 (d + 2) m_M_chance 0 [(0, 2, 200), (1, 0, v1), (2, 0, v2), (3, 0, v3)] [] G Q := by
  refine sg_blk [(1, 0, 0, 0, 0)] (by decide +kernel) ?_
  refine And.intro (Nat.le_of_ble_eq_true rfl) (?_)
  show sg_Wp 200 228 (d + 2) m_M_chance 1 [(0, 2, 200), (1, 0, v1), (2, 0, v2), (3, 0, v3)] [(2, 200)] G Q
  refine sg_callV (k := (d + 1)) (y' := m_M_find) (av := []) (rest := []) (b := 200) (by decide +kernel) cv_M_find ml_11_217 ce_200 rfl rfl (Nat.le_of_ble_eq_true rfl) (Nat.lt_succ_self (d + 1)) (Nat.le_of_ble_eq_true rfl) rfl ?_
  show sg_Wp 200 228 (d + 1) m_M_find 0 [(0, 2, 200)] [] G _
  refine sg_Wp.mono h (fun r1 G1 hhr1 => ?_)
  show sg_Wp 200 228 (d + 2) m_M_chance 4 [(0, 2, 200), (1, 0, v1), (2, 0, v2), (3, 0, v3)] [] G1 Q
  refine sg_blk [(3, 0, 0, 1, 0), (53, 0, 0, 0, 0), (10, 0, 0, 0, 0), (12, 16, 0, 298, 0)] (by decide +kernel) ?_
  refine And.intro rfl (And.intro rfl (?_))
  show sg_Wp 200 228 (d + 2) m_M_chance 10 [(0, 2, 200), (1, 0, v1), (2, 0, v2), (3, 0, v3)] [(1, 16), (1, 0), (1, v1)] G1 Q
  refine sg_callS (k := (d + 1)) (y' := m_M_in) (av := [(1, v1), (1, 0), (1, 16)]) (rest := []) (by decide +kernel) cs_M_in ml_11_98 rfl (Nat.le_of_ble_eq_true rfl) (Nat.lt_succ_self (d + 1)) (Nat.le_of_ble_eq_true rfl) rfl ?_
  show sg_Wp 200 228 (d + 1) m_M_in 0 [(0, 1, v1), (2, 1, 0), (4, 1, 16)] [] G1 _
  refine s_M_in ?_
  show sg_Wp 200 228 (d + 2) m_M_chance 13 [(0, 2, 200), (1, 0, v1), (2, 0, v2), (3, 0, v3)] [(0, sg_bo (0 ≤ v1 ∧ v1 ≤ 16))] G1 Q
  refine sg_bif_eq (off := 28) (tgt := 41) (by decide +kernel) (by decide) ⟨fun q3 => ?_, fun q3 => ?_⟩
  · refine sg_blk [(1, 0, 0, 0, 0), (3, 0, 0, 2, 0)] (by decide +kernel) ?_
    refine And.intro (Nat.le_of_ble_eq_true rfl) (And.intro rfl (?_))
    show sg_Wp 200 228 (d + 2) m_M_chance 18 [(0, 2, 200), (1, 0, v1), (2, 0, v2), (3, 0, v3)] [(0, v2), (2, 200)] G1 Q
    refine sg_callV (k := (d + 1)) (y' := m_M_isPost) (av := [(0, v2)]) (rest := []) (b := 200) (by decide +kernel) cv_M_isPost ml_11_158 ce_200 rfl rfl (Nat.le_of_ble_eq_true rfl) (Nat.lt_succ_self (d + 1)) (Nat.le_of_ble_eq_true rfl) rfl ?_
    show sg_Wp 200 228 (d + 1) m_M_isPost 0 [(0, 2, 200), (1, 0, v2)] [] G1 _
    refine sg_Wp.mono ((hhr1.1 q3)) (fun r2 G2 hhr2 => ?_)
    show sg_Wp 200 228 (d + 2) m_M_chance 21 [(0, 2, 200), (1, 0, v1), (2, 0, v2), (3, 0, v3)] [(0, r2)] G2 Q
    refine sg_if_eq (off := 20) (tgt := 41) (by decide +kernel) (by decide) ⟨fun q2 => ?_, fun q2 => ?_⟩
    · refine sg_blk [(8, (-2), 0, 0, 0)] (by decide +kernel) ?_
      refine And.intro rfl (And.intro rfl (?_))
      show sg_Wp 200 228 (d + 2) m_M_chance 43 [(0, 2, 200), (1, 0, v1), (2, 0, v2), (3, 0, v3)] [(0, (-2))] G2 Q
      refine sg_callS (k := (d + 1)) (y' := m_M_no) (av := [(0, (-2))]) (rest := []) (by decide +kernel) cs_M_no ml_11_304 rfl (Nat.le_of_ble_eq_true rfl) (Nat.lt_succ_self (d + 1)) (Nat.le_of_ble_eq_true rfl) rfl ?_
      show sg_Wp 200 228 (d + 1) m_M_no 0 [(0, 0, (-2))] [] G2 _
      refine s_M_no ?_
      show sg_Wp 200 228 (d + 2) m_M_chance 46 [(0, 2, 200), (1, 0, v1), (2, 0, v2), (3, 0, v3)] [(1, sg_lsub (-9223372036854775808) ((-2)))] G2 Q
      exact sg_lret (by decide +kernel) rfl ((hhr2.1 q2))
    · refine sg_blk [(3, 0, 0, 3, 0)] (by decide +kernel) ?_
      refine And.intro rfl (?_)
      show sg_Wp 200 228 (d + 2) m_M_chance 25 [(0, 2, 200), (1, 0, v1), (2, 0, v2), (3, 0, v3)] [(0, v3)] G2 Q
      refine sg_callS (k := (d + 1)) (y' := m_M_isTwo) (av := [(0, v3)]) (rest := []) (by decide +kernel) cs_M_isTwo ml_11_126 rfl (Nat.le_of_ble_eq_true rfl) (Nat.lt_succ_self (d + 1)) (Nat.le_of_ble_eq_true rfl) rfl ?_
      show sg_Wp 200 228 (d + 1) m_M_isTwo 0 [(0, 0, v3)] [] G2 _
      refine s_M_isTwo ?_
      show sg_Wp 200 228 (d + 2) m_M_chance 28 [(0, 2, 200), (1, 0, v1), (2, 0, v2), (3, 0, v3)] [(0, sg_bo (0 ≤ v3 ∧ v3 ≤ 1))] G2 Q
      refine sg_bif_eq (off := 13) (tgt := 41) (by decide +kernel) (by decide) ⟨fun q1 => ?_, fun q1 => ?_⟩
      · refine sg_blk [(1, 0, 0, 0, 0), (3, 0, 0, 1, 0), (3, 0, 0, 2, 0), (3, 0, 0, 3, 0)] (by decide +kernel) ?_
        refine And.intro (Nat.le_of_ble_eq_true rfl) (And.intro rfl (And.intro rfl (And.intro rfl (?_))))
        show sg_Wp 200 228 (d + 2) m_M_chance 35 [(0, 2, 200), (1, 0, v1), (2, 0, v2), (3, 0, v3)] [(0, v3), (0, v2), (0, v1), (2, 200)] G2 Q
        refine sg_callV (k := (d + 1)) (y' := m_M_chanceOf) (av := [(0, v1), (0, v2), (0, v3)]) (rest := []) (b := 200) (by decide +kernel) cv_M_chanceOf ml_11_300 ce_200 rfl rfl (Nat.le_of_ble_eq_true rfl) (Nat.lt_succ_self (d + 1)) (Nat.le_of_ble_eq_true rfl) rfl ?_
        show sg_Wp 200 228 (d + 1) m_M_chanceOf 0 [(0, 2, 200), (1, 0, v1), (2, 0, v2), (3, 0, v3)] [] G2 _
        refine sg_Wp.mono (((hhr2.2 q2).1 q1)) (fun r3 G3 hhr3 => ?_)
        show sg_Wp 200 228 (d + 2) m_M_chance 38 [(0, 2, 200), (1, 0, v1), (2, 0, v2), (3, 0, v3)] [(1, r3)] G3 Q
        refine sg_goto (off := 8) (tgt := 46) (by decide +kernel) (by decide) ?_
        exact sg_lret (by decide +kernel) rfl hhr3
      · refine sg_blk [(8, (-2), 0, 0, 0)] (by decide +kernel) ?_
        refine And.intro rfl (And.intro rfl (?_))
        show sg_Wp 200 228 (d + 2) m_M_chance 43 [(0, 2, 200), (1, 0, v1), (2, 0, v2), (3, 0, v3)] [(0, (-2))] G2 Q
        refine sg_callS (k := (d + 1)) (y' := m_M_no) (av := [(0, (-2))]) (rest := []) (by decide +kernel) cs_M_no ml_11_304 rfl (Nat.le_of_ble_eq_true rfl) (Nat.lt_succ_self (d + 1)) (Nat.le_of_ble_eq_true rfl) rfl ?_
        show sg_Wp 200 228 (d + 1) m_M_no 0 [(0, 0, (-2))] [] G2 _
        refine s_M_no ?_
        show sg_Wp 200 228 (d + 2) m_M_chance 46 [(0, 2, 200), (1, 0, v1), (2, 0, v2), (3, 0, v3)] [(1, sg_lsub (-9223372036854775808) ((-2)))] G2 Q
        exact sg_lret (by decide +kernel) rfl (((hhr2.2 q2).2 q1))
  · refine sg_blk [(8, (-2), 0, 0, 0)] (by decide +kernel) ?_
    refine And.intro rfl (And.intro rfl (?_))
    show sg_Wp 200 228 (d + 2) m_M_chance 43 [(0, 2, 200), (1, 0, v1), (2, 0, v2), (3, 0, v3)] [(0, (-2))] G1 Q
    refine sg_callS (k := (d + 1)) (y' := m_M_no) (av := [(0, (-2))]) (rest := []) (by decide +kernel) cs_M_no ml_11_304 rfl (Nat.le_of_ble_eq_true rfl) (Nat.lt_succ_self (d + 1)) (Nat.le_of_ble_eq_true rfl) rfl ?_
    show sg_Wp 200 228 (d + 1) m_M_no 0 [(0, 0, (-2))] [] G1 _
    refine s_M_no ?_
    show sg_Wp 200 228 (d + 2) m_M_chance 46 [(0, 2, 200), (1, 0, v1), (2, 0, v2), (3, 0, v3)] [(1, sg_lsub (-9223372036854775808) ((-2)))] G1 Q
    exact sg_lret (by decide +kernel) rfl ((hhr1.2 q3))
set_option maxRecDepth 100000 in
theorem g_M_chanceOf_0 {d : Nat} {v1 v2 v3 : Int} {G : SgM} {Q : Int → SgM → Prop} (h : sg_Wp 200 228 (d + 1) m_M_chanceOf 6 [(0, 2, 200), (1, 0, v1), (2, 0, v2), (3, 0, v3), (4, 1, 0), (6, 0, 0)] [] G Q) : sg_Wp 200 228 (d + 1) m_M_chanceOf 0 [(0, 2, 200), (1, 0, v1), (2, 0, v2), (3, 0, v3)] [] G Q := by
  refine sg_blk [(10, 0, 0, 0, 0), (28, 0, 0, 4, 0), (7, 0, 0, 0, 0), (26, 0, 0, 6, 0)] (by decide +kernel) ?_
  refine And.intro rfl (And.intro rfl (And.intro rfl (?_)))
  show sg_Wp 200 228 (d + 1) m_M_chanceOf 6 [(0, 2, 200), (1, 0, v1), (2, 0, v2), (3, 0, v3), (4, 1, 0), (6, 0, 0)] [] G Q
  exact h
set_option maxRecDepth 100000 in
theorem g_M_chanceOf_6 {d : Nat} {v1 v2 v3 v4 v6 : Int} {G : SgM} {Q : Int → SgM → Prop} (h : ((sg_ishl 1 (G 200 11)) ≤ v6 → (sg_Wp 200 228 d m_M_part 0 [(0, 1, v4), (2, 1, sg_lshl 1 (sg_imul 4 ((sg_up G 200 13 0) 200 11))), (4, 0, v3)] [] (sg_up G 200 13 0) (fun r1 G1 => Q r1 G1))) ∧ (¬ ((sg_ishl 1 (G 200 11)) ≤ v6) → (sg_Wp 200 228 d m_M_lives 0 [(0, 2, 200)] [] (sg_up G 200 13 v6) (fun r2 G2 => sg_Wp 200 228 d m_M_forgottenNow 0 [(0, 2, 200)] [] G2 (fun r3 G3 => ((sg_iand (sg_ishr r3 v2) 1 = 1) → (sg_Wp 200 228 (d + 1) m_M_chanceOf 48 [(0, 2, 200), (1, 0, v1), (2, 0, v2), (3, 0, v3), (4, 1, v4), (6, 0, v6), (7, 1, 1), (9, 0, 0)] [] G3 Q)) ∧ (¬ (sg_iand (sg_ishr r3 v2) 1 = 1) → (sg_Wp 200 228 (d + 1) m_M_chanceOf 48 [(0, 2, 200), (1, 0, v1), (2, 0, v2), (3, 0, v3), (4, 1, v4), (6, 0, v6), (7, 1, 0), (9, 0, 0)] [] G3 Q))))))) : sg_Wp 200 228 (d + 1) m_M_chanceOf 6 [(0, 2, 200), (1, 0, v1), (2, 0, v2), (3, 0, v3), (4, 1, v4), (6, 0, v6)] [] G Q := by
  refine sg_blk [(4, 0, 0, 6, 0), (7, 1, 0, 0, 0), (1, 0, 0, 0, 0), (15, 0, 11, 164, 11), (41, 0, 0, 0, 0)] (by decide +kernel) ?_
  refine And.intro rfl (And.intro rfl (And.intro (Nat.le_of_ble_eq_true rfl) (And.intro ce_200 (?_))))
  show sg_Wp 200 228 (d + 1) m_M_chanceOf 14 [(0, 2, 200), (1, 0, v1), (2, 0, v2), (3, 0, v3), (4, 1, v4), (6, 0, v6)] [(0, sg_ishl 1 (G 200 11)), (0, v6)] G Q
  refine sg_icmp_ge (off := 87) (tgt := 101) (by decide +kernel) (by decide) ⟨fun q2 => ?_, fun q2 => ?_⟩
  · refine sg_blk [(1, 0, 0, 0, 0), (7, 0, 0, 0, 0), (16, 0, 11, 184, 13), (6, 0, 0, 4, 0), (10, 0, 0, 1, 0), (7, 4, 0, 0, 0), (1, 0, 0, 0, 0), (15, 0, 11, 164, 11), (34, 0, 0, 0, 0), (50, 0, 0, 0, 0), (3, 0, 0, 3, 0)] (by decide +kernel) ?_
    refine And.intro (Nat.le_of_ble_eq_true rfl) (And.intro rfl (And.intro ce_200 (And.intro rfl (And.intro rfl (And.intro (Nat.le_of_ble_eq_true rfl) (And.intro ce_200 (And.intro rfl (?_))))))))
    show sg_Wp 200 228 (d + 1) m_M_chanceOf 117 [(0, 2, 200), (1, 0, v1), (2, 0, v2), (3, 0, v3), (4, 1, v4), (6, 0, v6)] [(0, v3), (1, sg_lshl 1 (sg_imul 4 ((sg_up G 200 13 0) 200 11))), (1, v4)] (sg_up G 200 13 0) Q
    refine sg_callS (k := d) (y' := m_M_part) (av := [(1, v4), (1, sg_lshl 1 (sg_imul 4 ((sg_up G 200 13 0) 200 11))), (0, v3)]) (rest := []) (by decide +kernel) cs_M_part ml_11_294 rfl (Nat.le_of_ble_eq_true rfl) (Nat.lt_succ_self d) (Nat.le_of_ble_eq_true rfl) rfl ?_
    show sg_Wp 200 228 d m_M_part 0 [(0, 1, v4), (2, 1, sg_lshl 1 (sg_imul 4 ((sg_up G 200 13 0) 200 11))), (4, 0, v3)] [] (sg_up G 200 13 0) _
    refine sg_Wp.mono ((h.1 q2)) (fun r1 G1 hhr1 => ?_)
    show sg_Wp 200 228 (d + 1) m_M_chanceOf 120 [(0, 2, 200), (1, 0, v1), (2, 0, v2), (3, 0, v3), (4, 1, v4), (6, 0, v6)] [(1, r1)] G1 Q
    exact sg_lret (by decide +kernel) rfl hhr1
  · refine sg_blk [(1, 0, 0, 0, 0), (4, 0, 0, 6, 0), (16, 0, 11, 184, 13), (1, 0, 0, 0, 0)] (by decide +kernel) ?_
    refine And.intro (Nat.le_of_ble_eq_true rfl) (And.intro rfl (And.intro ce_200 (And.intro (Nat.le_of_ble_eq_true rfl) (?_))))
    show sg_Wp 200 228 (d + 1) m_M_chanceOf 24 [(0, 2, 200), (1, 0, v1), (2, 0, v2), (3, 0, v3), (4, 1, v4), (6, 0, v6)] [(2, 200)] (sg_up G 200 13 v6) Q
    refine sg_callV (k := d) (y' := m_M_lives) (av := []) (rest := []) (b := 200) (by decide +kernel) cv_M_lives ml_11_214 ce_200 rfl rfl (Nat.le_of_ble_eq_true rfl) (Nat.lt_succ_self d) (Nat.le_of_ble_eq_true rfl) rfl ?_
    show sg_Wp 200 228 d m_M_lives 0 [(0, 2, 200)] [] (sg_up G 200 13 v6) _
    refine sg_Wp.mono ((h.2 q2)) (fun r2 G2 hhr2 => ?_)
    show sg_Wp 200 228 (d + 1) m_M_chanceOf 27 [(0, 2, 200), (1, 0, v1), (2, 0, v2), (3, 0, v3), (4, 1, v4), (6, 0, v6)] [] G2 Q
    refine sg_blk [(1, 0, 0, 0, 0)] (by decide +kernel) ?_
    refine And.intro (Nat.le_of_ble_eq_true rfl) (?_)
    show sg_Wp 200 228 (d + 1) m_M_chanceOf 28 [(0, 2, 200), (1, 0, v1), (2, 0, v2), (3, 0, v3), (4, 1, v4), (6, 0, v6)] [(2, 200)] G2 Q
    refine sg_callV (k := d) (y' := m_M_forgottenNow) (av := []) (rest := []) (b := 200) (by decide +kernel) cv_M_forgottenNow ml_11_229 ce_200 rfl rfl (Nat.le_of_ble_eq_true rfl) (Nat.lt_succ_self d) (Nat.le_of_ble_eq_true rfl) rfl ?_
    show sg_Wp 200 228 d m_M_forgottenNow 0 [(0, 2, 200)] [] G2 _
    refine sg_Wp.mono hhr2 (fun r3 G3 hhr3 => ?_)
    show sg_Wp 200 228 (d + 1) m_M_chanceOf 31 [(0, 2, 200), (1, 0, v1), (2, 0, v2), (3, 0, v3), (4, 1, v4), (6, 0, v6)] [(0, r3)] G3 Q
    refine sg_blk [(3, 0, 0, 2, 0)] (by decide +kernel) ?_
    refine And.intro rfl (?_)
    show sg_Wp 200 228 (d + 1) m_M_chanceOf 32 [(0, 2, 200), (1, 0, v1), (2, 0, v2), (3, 0, v3), (4, 1, v4), (6, 0, v6)] [(0, v2), (0, r3)] G3 Q
    refine sg_callS (k := d) (y' := m_M_isIn) (av := [(0, r3), (0, v2)]) (rest := []) (by decide +kernel) cs_M_isIn ml_11_187 rfl (Nat.le_of_ble_eq_true rfl) (Nat.lt_succ_self d) (Nat.le_of_ble_eq_true rfl) rfl ?_
    show sg_Wp 200 228 d m_M_isIn 0 [(0, 0, r3), (1, 0, v2)] [] G3 _
    refine s_M_isIn ?_
    show sg_Wp 200 228 (d + 1) m_M_chanceOf 35 [(0, 2, 200), (1, 0, v1), (2, 0, v2), (3, 0, v3), (4, 1, v4), (6, 0, v6)] [(0, sg_bo (sg_iand (sg_ishr r3 v2) 1 = 1))] G3 Q
    refine sg_bif_eq (off := 7) (tgt := 42) (by decide +kernel) (by decide) ⟨fun q1 => ?_, fun q1 => ?_⟩
    · refine sg_blk [(10, 0, 0, 1, 0)] (by decide +kernel) ?_
      show sg_Wp 200 228 (d + 1) m_M_chanceOf 39 [(0, 2, 200), (1, 0, v1), (2, 0, v2), (3, 0, v3), (4, 1, v4), (6, 0, v6)] [(1, 1)] G3 Q
      refine sg_goto (off := 4) (tgt := 43) (by decide +kernel) (by decide) ?_
      refine sg_blk [(28, 0, 0, 7, 0), (7, 0, 0, 0, 0), (26, 0, 0, 9, 0)] (by decide +kernel) ?_
      refine And.intro rfl (And.intro rfl (And.intro rfl (?_)))
      show sg_Wp 200 228 (d + 1) m_M_chanceOf 48 [(0, 2, 200), (1, 0, v1), (2, 0, v2), (3, 0, v3), (4, 1, v4), (6, 0, v6), (7, 1, 1), (9, 0, 0)] [] G3 Q
      exact (hhr3.1 q1)
    · refine sg_blk [(10, 0, 0, 0, 0), (28, 0, 0, 7, 0), (7, 0, 0, 0, 0), (26, 0, 0, 9, 0)] (by decide +kernel) ?_
      refine And.intro rfl (And.intro rfl (And.intro rfl (?_)))
      show sg_Wp 200 228 (d + 1) m_M_chanceOf 48 [(0, 2, 200), (1, 0, v1), (2, 0, v2), (3, 0, v3), (4, 1, v4), (6, 0, v6), (7, 1, 0), (9, 0, 0)] [] G3 Q
      exact (hhr3.2 q1)
set_option maxRecDepth 100000 in
theorem g_M_chanceOf_48 {d : Nat} {v1 v2 v3 v4 v6 v7 v9 : Int} {G : SgM} {Q : Int → SgM → Prop} (h : ((G 200 11) ≤ v9 → (sg_Wp 200 228 (d + 1) m_M_chanceOf 6 [(0, 2, 200), (1, 0, v1), (2, 0, v2), (3, 0, v3), (4, 1, sg_ladd v4 v7), (6, 0, sg_iadd v6 1)] [] G Q)) ∧ (¬ ((G 200 11) ≤ v9) → (((sg_iand (sg_ishr v6 v9) 1 = 1) → (sg_Wp 200 228 (d + 1) m_M_chanceOf 48 [(0, 2, 200), (1, 0, v1), (2, 0, v2), (3, 0, v3), (4, 1, v4), (6, 0, v6), (7, 1, sg_lmul v7 (sg_isub 16 v1)), (9, 0, sg_iadd v9 1)] [] G Q)) ∧ (¬ (sg_iand (sg_ishr v6 v9) 1 = 1) → (sg_Wp 200 228 (d + 1) m_M_chanceOf 48 [(0, 2, 200), (1, 0, v1), (2, 0, v2), (3, 0, v3), (4, 1, v4), (6, 0, v6), (7, 1, sg_lmul v7 v1), (9, 0, sg_iadd v9 1)] [] G Q))))) : sg_Wp 200 228 (d + 1) m_M_chanceOf 48 [(0, 2, 200), (1, 0, v1), (2, 0, v2), (3, 0, v3), (4, 1, v4), (6, 0, v6), (7, 1, v7), (9, 0, v9)] [] G Q := by
  refine sg_blk [(4, 0, 0, 9, 0), (1, 0, 0, 0, 0), (15, 0, 11, 164, 11)] (by decide +kernel) ?_
  refine And.intro rfl (And.intro (Nat.le_of_ble_eq_true rfl) (And.intro ce_200 (?_)))
  show sg_Wp 200 228 (d + 1) m_M_chanceOf 54 [(0, 2, 200), (1, 0, v1), (2, 0, v2), (3, 0, v3), (4, 1, v4), (6, 0, v6), (7, 1, v7), (9, 0, v9)] [(0, G 200 11), (0, v9)] G Q
  refine sg_icmp_ge (off := 34) (tgt := 88) (by decide +kernel) (by decide) ⟨fun q4 => ?_, fun q4 => ?_⟩
  · refine sg_blk [(6, 0, 0, 4, 0), (6, 0, 0, 7, 0), (44, 0, 0, 0, 0), (28, 0, 0, 4, 0), (31, 1, 0, 6, 0)] (by decide +kernel) ?_
    refine And.intro rfl (And.intro rfl (And.intro rfl (And.intro rfl (?_))))
    show sg_Wp 200 228 (d + 1) m_M_chanceOf 98 [(0, 2, 200), (1, 0, v1), (2, 0, v2), (3, 0, v3), (4, 1, sg_ladd v4 v7), (6, 0, sg_iadd v6 1), (7, 1, v7), (9, 0, v9)] [] G Q
    refine sg_goto (off := -92) (tgt := 6) (by decide +kernel) (by decide) ?_
    exact sg_Wp.keepk [0, 1, 2, 3, 4, 5] rfl ((h.1 q4))
  · refine sg_blk [(6, 0, 0, 7, 0), (4, 0, 0, 6, 0), (4, 0, 0, 9, 0)] (by decide +kernel) ?_
    refine And.intro rfl (And.intro rfl (And.intro rfl (?_)))
    show sg_Wp 200 228 (d + 1) m_M_chanceOf 63 [(0, 2, 200), (1, 0, v1), (2, 0, v2), (3, 0, v3), (4, 1, v4), (6, 0, v6), (7, 1, v7), (9, 0, v9)] [(0, v9), (0, v6), (1, v7)] G Q
    refine sg_callS (k := d) (y' := m_M_isIn) (av := [(0, v6), (0, v9)]) (rest := [(1, v7)]) (by decide +kernel) cs_M_isIn ml_11_187 rfl (Nat.le_of_ble_eq_true rfl) (Nat.lt_succ_self d) (Nat.le_of_ble_eq_true rfl) rfl ?_
    show sg_Wp 200 228 d m_M_isIn 0 [(0, 0, v6), (1, 0, v9)] [] G _
    refine s_M_isIn ?_
    show sg_Wp 200 228 (d + 1) m_M_chanceOf 66 [(0, 2, 200), (1, 0, v1), (2, 0, v2), (3, 0, v3), (4, 1, v4), (6, 0, v6), (7, 1, v7), (9, 0, v9)] [(0, sg_bo (sg_iand (sg_ishr v6 v9) 1 = 1)), (1, v7)] G Q
    refine sg_bif_eq (off := 11) (tgt := 77) (by decide +kernel) (by decide) ⟨fun q3 => ?_, fun q3 => ?_⟩
    · refine sg_blk [(8, 16, 0, 0, 0), (3, 0, 0, 1, 0), (33, 0, 0, 0, 0), (53, 0, 0, 0, 0)] (by decide +kernel) ?_
      refine And.intro rfl (And.intro rfl (And.intro rfl (?_)))
      show sg_Wp 200 228 (d + 1) m_M_chanceOf 74 [(0, 2, 200), (1, 0, v1), (2, 0, v2), (3, 0, v3), (4, 1, v4), (6, 0, v6), (7, 1, v7), (9, 0, v9)] [(1, sg_isub 16 v1), (1, v7)] G Q
      refine sg_goto (off := 5) (tgt := 79) (by decide +kernel) (by decide) ?_
      refine sg_blk [(46, 0, 0, 0, 0), (28, 0, 0, 7, 0), (31, 1, 0, 9, 0)] (by decide +kernel) ?_
      refine And.intro rfl (And.intro rfl (?_))
      show sg_Wp 200 228 (d + 1) m_M_chanceOf 85 [(0, 2, 200), (1, 0, v1), (2, 0, v2), (3, 0, v3), (4, 1, v4), (6, 0, v6), (7, 1, sg_lmul v7 (sg_isub 16 v1)), (9, 0, sg_iadd v9 1)] [] G Q
      refine sg_goto (off := -37) (tgt := 48) (by decide +kernel) (by decide) ?_
      exact ((h.2 q4).1 q3)
    · refine sg_blk [(3, 0, 0, 1, 0), (53, 0, 0, 0, 0), (46, 0, 0, 0, 0), (28, 0, 0, 7, 0), (31, 1, 0, 9, 0)] (by decide +kernel) ?_
      refine And.intro rfl (And.intro rfl (And.intro rfl (?_)))
      show sg_Wp 200 228 (d + 1) m_M_chanceOf 85 [(0, 2, 200), (1, 0, v1), (2, 0, v2), (3, 0, v3), (4, 1, v4), (6, 0, v6), (7, 1, sg_lmul v7 v1), (9, 0, sg_iadd v9 1)] [] G Q
      refine sg_goto (off := -37) (tgt := 48) (by decide +kernel) (by decide) ?_
      exact ((h.2 q4).2 q3)
set_option maxRecDepth 100000 in
theorem g_M_coldsOf_0 {d : Nat} {v1 : Int} {G : SgM} {Q : Int → SgM → Prop} (h : (0 ≤ (sg_iadd (sg_imul 4 v1) 3) ∧ (sg_iadd (sg_imul 4 v1) 3) < 24) ∧ (sg_Wp 200 228 (d + 1) m_M_coldsOf 16 [(0, 2, 200), (1, 0, v1), (2, 0, G 208 (sg_iadd (sg_imul 4 v1) 3)), (3, 0, 0), (4, 0, 1)] [] G Q)) : sg_Wp 200 228 (d + 1) m_M_coldsOf 0 [(0, 2, 200), (1, 0, v1)] [] G Q := by
  refine sg_blk [(1, 0, 0, 0, 0), (65, 208, 11, 31, 10), (7, 4, 0, 0, 0), (3, 0, 0, 1, 0), (34, 0, 0, 0, 0), (7, 3, 0, 0, 0), (32, 0, 0, 0, 0), (17, 24, 0, 0, 0), (25, 0, 0, 2, 0), (7, 0, 0, 0, 0), (25, 0, 0, 3, 0), (7, 1, 0, 0, 0), (26, 0, 0, 4, 0)] (by decide +kernel) ?_
  refine And.intro (Nat.le_of_ble_eq_true rfl) (And.intro ce_200 (And.intro rr_200_10 (And.intro rfl (And.intro rfl (And.intro rfl (And.intro ce_208 (And.intro h.1 (And.intro rfl (And.intro rfl (And.intro rfl (And.intro rfl (And.intro rfl (?_)))))))))))))
  show sg_Wp 200 228 (d + 1) m_M_coldsOf 16 [(0, 2, 200), (1, 0, v1), (2, 0, G 208 (sg_iadd (sg_imul 4 v1) 3)), (3, 0, 0), (4, 0, 1)] [] G Q
  exact h.2
set_option maxRecDepth 100000 in
theorem g_M_coldsOf_16 {d : Nat} {v1 v2 v3 v4 : Int} {G : SgM} {Q : Int → SgM → Prop} (h : (10 ≤ v4 → ((0 ≤ (sg_iadd (sg_imul 4 v1) 3) ∧ (sg_iadd (sg_imul 4 v1) 3) < 24) ∧ (Q v3 (sg_up G 208 (sg_iadd (sg_imul 4 v1) 3) v2)))) ∧ (¬ (10 ≤ v4) → ((0 ≤ (sg_iadd (sg_imul 4 v1) 3) ∧ (sg_iadd (sg_imul 4 v1) 3) < 24) ∧ (sg_Wp 200 228 d m_M_isSeen 0 [(0, 2, 200)] [] (sg_up G 208 (sg_iadd (sg_imul 4 v1) 3) v4) (fun r1 G1 => (r1 = 0 → (sg_Wp 200 228 (d + 1) m_M_coldsOf 56 [(0, 2, 200), (1, 0, v1), (2, 0, v2), (3, 0, sg_ior v3 0), (4, 0, v4), (5, 0, 0)] [] G1 Q)) ∧ (¬ (r1 = 0) → (sg_Wp 200 228 (d + 1) m_M_coldsOf 56 [(0, 2, 200), (1, 0, v1), (2, 0, v2), (3, 0, sg_ior v3 (sg_ishl 1 v4)), (4, 0, v4), (5, 0, 0)] [] G1 Q))))))) : sg_Wp 200 228 (d + 1) m_M_coldsOf 16 [(0, 2, 200), (1, 0, v1), (2, 0, v2), (3, 0, v3), (4, 0, v4)] [] G Q := by
  refine sg_blk [(4, 0, 0, 4, 0), (8, 10, 0, 0, 0)] (by decide +kernel) ?_
  refine And.intro rfl (And.intro rfl (And.intro rfl (?_)))
  show sg_Wp 200 228 (d + 1) m_M_coldsOf 20 [(0, 2, 200), (1, 0, v1), (2, 0, v2), (3, 0, v3), (4, 0, v4)] [(0, 10), (0, v4)] G Q
  refine sg_icmp_ge (off := 74) (tgt := 94) (by decide +kernel) (by decide) ⟨fun q2 => ?_, fun q2 => ?_⟩
  · refine sg_blk [(1, 0, 0, 0, 0), (65, 208, 11, 31, 10), (7, 4, 0, 0, 0), (3, 0, 0, 1, 0), (34, 0, 0, 0, 0), (7, 3, 0, 0, 0), (32, 0, 0, 0, 0), (3, 0, 0, 2, 0), (18, 24, 0, 0, 0), (3, 0, 0, 3, 0)] (by decide +kernel) ?_
    refine And.intro (Nat.le_of_ble_eq_true rfl) (And.intro ce_200 (And.intro rr_200_10 (And.intro rfl (And.intro rfl (And.intro rfl (And.intro rfl (And.intro ce_208 (And.intro (h.1 q2).1 (And.intro rfl (?_))))))))))
    show sg_Wp 200 228 (d + 1) m_M_coldsOf 106 [(0, 2, 200), (1, 0, v1), (2, 0, v2), (3, 0, v3), (4, 0, v4)] [(0, v3)] (sg_up G 208 (sg_iadd (sg_imul 4 v1) 3) v2) Q
    exact sg_ret (by decide +kernel) rfl (Or.inl rfl) ((h.1 q2).2)
  · refine sg_blk [(1, 0, 0, 0, 0), (65, 208, 11, 31, 10), (7, 4, 0, 0, 0), (3, 0, 0, 1, 0), (34, 0, 0, 0, 0), (7, 3, 0, 0, 0), (32, 0, 0, 0, 0), (4, 0, 0, 4, 0), (18, 24, 0, 0, 0), (3, 0, 0, 3, 0), (1, 0, 0, 0, 0)] (by decide +kernel) ?_
    refine And.intro (Nat.le_of_ble_eq_true rfl) (And.intro ce_200 (And.intro rr_200_10 (And.intro rfl (And.intro rfl (And.intro rfl (And.intro rfl (And.intro ce_208 (And.intro (h.2 q2).1 (And.intro rfl (And.intro (Nat.le_of_ble_eq_true rfl) (?_)))))))))))
    show sg_Wp 200 228 (d + 1) m_M_coldsOf 37 [(0, 2, 200), (1, 0, v1), (2, 0, v2), (3, 0, v3), (4, 0, v4)] [(2, 200), (0, v3)] (sg_up G 208 (sg_iadd (sg_imul 4 v1) 3) v4) Q
    refine sg_callV (k := d) (y' := m_M_isSeen) (av := []) (rest := [(0, v3)]) (b := 200) (by decide +kernel) cv_M_isSeen ml_11_272 ce_200 rfl rfl (Nat.le_of_ble_eq_true rfl) (Nat.lt_succ_self d) (Nat.le_of_ble_eq_true rfl) rfl ?_
    show sg_Wp 200 228 d m_M_isSeen 0 [(0, 2, 200)] [] (sg_up G 208 (sg_iadd (sg_imul 4 v1) 3) v4) _
    refine sg_Wp.mono ((h.2 q2).2) (fun r1 G1 hhr1 => ?_)
    show sg_Wp 200 228 (d + 1) m_M_coldsOf 40 [(0, 2, 200), (1, 0, v1), (2, 0, v2), (3, 0, v3), (4, 0, v4)] [(0, r1), (0, v3)] G1 Q
    refine sg_if_eq (off := 10) (tgt := 50) (by decide +kernel) (by decide) ⟨fun q1 => ?_, fun q1 => ?_⟩
    · refine sg_blk [(7, 0, 0, 0, 0), (39, 0, 0, 0, 0), (25, 0, 0, 3, 0), (7, 0, 0, 0, 0), (26, 0, 0, 5, 0)] (by decide +kernel) ?_
      refine And.intro rfl (And.intro rfl (And.intro rfl (And.intro rfl (?_))))
      show sg_Wp 200 228 (d + 1) m_M_coldsOf 56 [(0, 2, 200), (1, 0, v1), (2, 0, v2), (3, 0, sg_ior v3 0), (4, 0, v4), (5, 0, 0)] [] G1 Q
      exact (hhr1.1 q1)
    · refine sg_blk [(7, 1, 0, 0, 0), (4, 0, 0, 4, 0), (41, 0, 0, 0, 0)] (by decide +kernel) ?_
      refine And.intro rfl (And.intro rfl (?_))
      show sg_Wp 200 228 (d + 1) m_M_coldsOf 47 [(0, 2, 200), (1, 0, v1), (2, 0, v2), (3, 0, v3), (4, 0, v4)] [(0, sg_ishl 1 v4), (0, v3)] G1 Q
      refine sg_goto (off := 4) (tgt := 51) (by decide +kernel) (by decide) ?_
      refine sg_blk [(39, 0, 0, 0, 0), (25, 0, 0, 3, 0), (7, 0, 0, 0, 0), (26, 0, 0, 5, 0)] (by decide +kernel) ?_
      refine And.intro rfl (And.intro rfl (And.intro rfl (?_)))
      show sg_Wp 200 228 (d + 1) m_M_coldsOf 56 [(0, 2, 200), (1, 0, v1), (2, 0, v2), (3, 0, sg_ior v3 (sg_ishl 1 v4)), (4, 0, v4), (5, 0, 0)] [] G1 Q
      exact (hhr1.2 q1)
set_option maxRecDepth 100000 in
theorem g_M_coldsOf_56 {d : Nat} {v1 v2 v3 v4 v5 : Int} {G : SgM} {Q : Int → SgM → Prop} (h : (24 ≤ v5 → (sg_Wp 200 228 (d + 1) m_M_coldsOf 16 [(0, 2, 200), (1, 0, v1), (2, 0, v2), (3, 0, v3), (4, 0, sg_iadd v4 1)] [] G Q)) ∧ (¬ (24 ≤ v5) → (sg_Wp 200 228 d m_M_changesIn 0 [(0, 2, 200), (1, 0, v5)] [] G (fun r2 G2 => (0 ≤ (sg_iadd (sg_imul 24 v4) v5) ∧ (sg_iadd (sg_imul 24 v4) v5) < 240) ∧ (sg_Wp 200 228 (d + 1) m_M_coldsOf 56 [(0, 2, 200), (1, 0, v1), (2, 0, v2), (3, 0, v3), (4, 0, v4), (5, 0, sg_iadd v5 1)] [] (sg_up G2 226 (sg_iadd (sg_imul 24 v4) v5) r2) Q))))) : sg_Wp 200 228 (d + 1) m_M_coldsOf 56 [(0, 2, 200), (1, 0, v1), (2, 0, v2), (3, 0, v3), (4, 0, v4), (5, 0, v5)] [] G Q := by
  refine sg_blk [(4, 0, 0, 5, 0), (8, 24, 0, 0, 0)] (by decide +kernel) ?_
  refine And.intro rfl (And.intro rfl (And.intro rfl (?_)))
  show sg_Wp 200 228 (d + 1) m_M_coldsOf 60 [(0, 2, 200), (1, 0, v1), (2, 0, v2), (3, 0, v3), (4, 0, v4), (5, 0, v5)] [(0, 24), (0, v5)] G Q
  refine sg_icmp_ge (off := 28) (tgt := 88) (by decide +kernel) (by decide) ⟨fun q3 => ?_, fun q3 => ?_⟩
  · refine sg_blk [(31, 1, 0, 4, 0)] (by decide +kernel) ?_
    refine And.intro rfl (?_)
    show sg_Wp 200 228 (d + 1) m_M_coldsOf 91 [(0, 2, 200), (1, 0, v1), (2, 0, v2), (3, 0, v3), (4, 0, sg_iadd v4 1), (5, 0, v5)] [] G Q
    refine sg_goto (off := -75) (tgt := 16) (by decide +kernel) (by decide) ?_
    exact sg_Wp.keepk [0, 1, 2, 3, 4] rfl ((h.1 q3))
  · refine sg_blk [(1, 0, 0, 0, 0), (65, 226, 11, 86, 34), (8, 24, 0, 0, 0), (4, 0, 0, 4, 0), (34, 0, 0, 0, 0), (4, 0, 0, 5, 0), (32, 0, 0, 0, 0), (1, 0, 0, 0, 0), (4, 0, 0, 5, 0)] (by decide +kernel) ?_
    refine And.intro (Nat.le_of_ble_eq_true rfl) (And.intro ce_200 (And.intro rr_200_34 (And.intro rfl (And.intro rfl (And.intro rfl (And.intro rfl (And.intro (Nat.le_of_ble_eq_true rfl) (And.intro rfl (?_)))))))))
    show sg_Wp 200 228 (d + 1) m_M_coldsOf 78 [(0, 2, 200), (1, 0, v1), (2, 0, v2), (3, 0, v3), (4, 0, v4), (5, 0, v5)] [(0, v5), (2, 200), (0, sg_iadd (sg_imul 24 v4) v5), (2, 226)] G Q
    refine sg_callV (k := d) (y' := m_M_changesIn) (av := [(0, v5)]) (rest := [(0, sg_iadd (sg_imul 24 v4) v5), (2, 226)]) (b := 200) (by decide +kernel) cv_M_changesIn ml_11_226 ce_200 rfl rfl (Nat.le_of_ble_eq_true rfl) (Nat.lt_succ_self d) (Nat.le_of_ble_eq_true rfl) rfl ?_
    show sg_Wp 200 228 d m_M_changesIn 0 [(0, 2, 200), (1, 0, v5)] [] G _
    refine sg_Wp.mono ((h.2 q3)) (fun r2 G2 hhr2 => ?_)
    show sg_Wp 200 228 (d + 1) m_M_coldsOf 81 [(0, 2, 200), (1, 0, v1), (2, 0, v2), (3, 0, v3), (4, 0, v4), (5, 0, v5)] [(0, r2), (0, sg_iadd (sg_imul 24 v4) v5), (2, 226)] G2 Q
    refine sg_blk [(18, 240, 0, 0, 0), (31, 1, 0, 5, 0)] (by decide +kernel) ?_
    refine And.intro ce_226 (And.intro hhr2.1 (And.intro rfl (?_)))
    show sg_Wp 200 228 (d + 1) m_M_coldsOf 85 [(0, 2, 200), (1, 0, v1), (2, 0, v2), (3, 0, v3), (4, 0, v4), (5, 0, sg_iadd v5 1)] [] (sg_up G2 226 (sg_iadd (sg_imul 24 v4) v5) r2) Q
    refine sg_goto (off := -29) (tgt := 56) (by decide +kernel) (by decide) ?_
    exact hhr2.2
set_option maxRecDepth 100000 in
theorem g_M_count_0 {d : Nat} {v1 : Int} {G : SgM} {Q : Int → SgM → Prop} (h : sg_Wp 200 228 d m_M_find 0 [(0, 2, 200)] [] G (fun r1 G1 => (v1 = 0 → (Q (G1 200 7) G1)) ∧ (v1 ≠ 0 → ((v1 = 1 → (Q (G1 200 9) G1)) ∧ (v1 ≠ 1 → ((v1 = 2 → ((0 ≤ (sg_isub v1 2) ∧ (sg_isub v1 2) < 2) ∧ (Q (G1 206 (sg_isub v1 2)) G1))) ∧ (v1 ≠ 2 → ((v1 = 3 → ((0 ≤ (sg_isub v1 2) ∧ (sg_isub v1 2) < 2) ∧ (Q (G1 206 (sg_isub v1 2)) G1))) ∧ (v1 ≠ 3 → ((v1 = 4 → (Q (G1 200 11) G1)) ∧ (v1 ≠ 4 → ((v1 = 5 → (sg_Wp 200 228 d m_M_allNow 0 [(0, 2, 200)] [] G1 (fun r2 G2 => Q r2 G2))) ∧ (v1 ≠ 5 → ((v1 = 6 → (sg_Wp 200 228 d m_M_forgottenNow 0 [(0, 2, 200)] [] G1 (fun r3 G3 => sg_Wp 200 228 d m_M_ones 0 [(0, 0, r3)] [] G3 (fun r4 G4 => Q r4 G4)))) ∧ (v1 ≠ 6 → ((v1 = 7 → (Q (G1 200 32) G1)) ∧ (v1 ≠ 7 → ((v1 = 8 → (Q (G1 200 4) G1)) ∧ (v1 ≠ 8 → (Q ((-2)) G1)))))))))))))))))))) : sg_Wp 200 228 (d + 1) m_M_count 0 [(0, 2, 200), (1, 0, v1)] [] G Q := by
  refine sg_blk [(1, 0, 0, 0, 0)] (by decide +kernel) ?_
  refine And.intro (Nat.le_of_ble_eq_true rfl) (?_)
  show sg_Wp 200 228 (d + 1) m_M_count 1 [(0, 2, 200), (1, 0, v1)] [(2, 200)] G Q
  refine sg_callV (k := d) (y' := m_M_find) (av := []) (rest := []) (b := 200) (by decide +kernel) cv_M_find ml_11_217 ce_200 rfl rfl (Nat.le_of_ble_eq_true rfl) (Nat.lt_succ_self d) (Nat.le_of_ble_eq_true rfl) rfl ?_
  show sg_Wp 200 228 d m_M_find 0 [(0, 2, 200)] [] G _
  refine sg_Wp.mono h (fun r1 G1 hhr1 => ?_)
  show sg_Wp 200 228 (d + 1) m_M_count 4 [(0, 2, 200), (1, 0, v1)] [] G1 Q
  refine sg_blk [(3, 0, 0, 1, 0)] (by decide +kernel) ?_
  refine And.intro rfl (?_)
  show sg_Wp 200 228 (d + 1) m_M_count 5 [(0, 2, 200), (1, 0, v1)] [(0, v1)] G1 Q
  refine sg_tsw (dflt := 98) (low := 0) (high := 8) (offs := #[51, 56, 61, 61, 70, 75, 80, 88, 93]) (len := 51) (dt := 103) (ts := [56, 61, 66, 66, 75, 80, 85, 93, 98]) (by decide +kernel) (by decide) (by decide) (by decide) ?_
  refine ⟨fun q9 => ?_, fun q9 => ?_⟩
  · refine sg_blk [(1, 0, 0, 0, 0), (15, 0, 11, 134, 7)] (by decide +kernel) ?_
    refine And.intro (Nat.le_of_ble_eq_true rfl) (And.intro ce_200 (?_))
    show sg_Wp 200 228 (d + 1) m_M_count 60 [(0, 2, 200), (1, 0, v1)] [(0, G1 200 7)] G1 Q
    exact sg_ret (by decide +kernel) rfl (Or.inl rfl) ((hhr1.1 q9))
  · refine ⟨fun q8 => ?_, fun q8 => ?_⟩
    · refine sg_blk [(1, 0, 0, 0, 0), (15, 0, 11, 140, 9)] (by decide +kernel) ?_
      refine And.intro (Nat.le_of_ble_eq_true rfl) (And.intro ce_200 (?_))
      show sg_Wp 200 228 (d + 1) m_M_count 65 [(0, 2, 200), (1, 0, v1)] [(0, G1 200 9)] G1 Q
      exact sg_ret (by decide +kernel) rfl (Or.inl rfl) (((hhr1.2 q9).1 q8))
    · refine ⟨fun q7 => ?_, fun q7 => ?_⟩
      · refine sg_blk [(1, 0, 0, 0, 0), (65, 206, 11, 25, 6), (3, 0, 0, 1, 0), (7, 2, 0, 0, 0), (33, 0, 0, 0, 0), (17, 2, 0, 0, 0)] (by decide +kernel) ?_
        refine And.intro (Nat.le_of_ble_eq_true rfl) (And.intro ce_200 (And.intro rr_200_6 (And.intro rfl (And.intro rfl (And.intro ce_206 (And.intro (((hhr1.2 q9).2 q8).1 q7).1 (?_)))))))
        show sg_Wp 200 228 (d + 1) m_M_count 74 [(0, 2, 200), (1, 0, v1)] [(0, G1 206 (sg_isub v1 2))] G1 Q
        exact sg_ret (by decide +kernel) rfl (Or.inl rfl) ((((hhr1.2 q9).2 q8).1 q7).2)
      · refine ⟨fun q6 => ?_, fun q6 => ?_⟩
        · refine sg_blk [(1, 0, 0, 0, 0), (65, 206, 11, 25, 6), (3, 0, 0, 1, 0), (7, 2, 0, 0, 0), (33, 0, 0, 0, 0), (17, 2, 0, 0, 0)] (by decide +kernel) ?_
          refine And.intro (Nat.le_of_ble_eq_true rfl) (And.intro ce_200 (And.intro rr_200_6 (And.intro rfl (And.intro rfl (And.intro ce_206 (And.intro ((((hhr1.2 q9).2 q8).2 q7).1 q6).1 (?_)))))))
          show sg_Wp 200 228 (d + 1) m_M_count 74 [(0, 2, 200), (1, 0, v1)] [(0, G1 206 (sg_isub v1 2))] G1 Q
          exact sg_ret (by decide +kernel) rfl (Or.inl rfl) (((((hhr1.2 q9).2 q8).2 q7).1 q6).2)
        · refine ⟨fun q5 => ?_, fun q5 => ?_⟩
          · refine sg_blk [(1, 0, 0, 0, 0), (15, 0, 11, 164, 11)] (by decide +kernel) ?_
            refine And.intro (Nat.le_of_ble_eq_true rfl) (And.intro ce_200 (?_))
            show sg_Wp 200 228 (d + 1) m_M_count 79 [(0, 2, 200), (1, 0, v1)] [(0, G1 200 11)] G1 Q
            exact sg_ret (by decide +kernel) rfl (Or.inl rfl) ((((((hhr1.2 q9).2 q8).2 q7).2 q6).1 q5))
          · refine ⟨fun q4 => ?_, fun q4 => ?_⟩
            · refine sg_blk [(1, 0, 0, 0, 0)] (by decide +kernel) ?_
              refine And.intro (Nat.le_of_ble_eq_true rfl) (?_)
              show sg_Wp 200 228 (d + 1) m_M_count 81 [(0, 2, 200), (1, 0, v1)] [(2, 200)] G1 Q
              refine sg_callV (k := d) (y' := m_M_allNow) (av := []) (rest := []) (b := 200) (by decide +kernel) cv_M_allNow ml_11_238 ce_200 rfl rfl (Nat.le_of_ble_eq_true rfl) (Nat.lt_succ_self d) (Nat.le_of_ble_eq_true rfl) rfl ?_
              show sg_Wp 200 228 d m_M_allNow 0 [(0, 2, 200)] [] G1 _
              refine sg_Wp.mono (((((((hhr1.2 q9).2 q8).2 q7).2 q6).2 q5).1 q4)) (fun r2 G2 hhr2 => ?_)
              show sg_Wp 200 228 (d + 1) m_M_count 84 [(0, 2, 200), (1, 0, v1)] [(0, r2)] G2 Q
              exact sg_ret (by decide +kernel) rfl (Or.inl rfl) hhr2
            · refine ⟨fun q3 => ?_, fun q3 => ?_⟩
              · refine sg_blk [(1, 0, 0, 0, 0)] (by decide +kernel) ?_
                refine And.intro (Nat.le_of_ble_eq_true rfl) (?_)
                show sg_Wp 200 228 (d + 1) m_M_count 86 [(0, 2, 200), (1, 0, v1)] [(2, 200)] G1 Q
                refine sg_callV (k := d) (y' := m_M_forgottenNow) (av := []) (rest := []) (b := 200) (by decide +kernel) cv_M_forgottenNow ml_11_229 ce_200 rfl rfl (Nat.le_of_ble_eq_true rfl) (Nat.lt_succ_self d) (Nat.le_of_ble_eq_true rfl) rfl ?_
                show sg_Wp 200 228 d m_M_forgottenNow 0 [(0, 2, 200)] [] G1 _
                refine sg_Wp.mono ((((((((hhr1.2 q9).2 q8).2 q7).2 q6).2 q5).2 q4).1 q3)) (fun r3 G3 hhr3 => ?_)
                show sg_Wp 200 228 (d + 1) m_M_count 89 [(0, 2, 200), (1, 0, v1)] [(0, r3)] G3 Q
                refine sg_callS (k := d) (y' := m_M_ones) (av := [(0, r3)]) (rest := []) (by decide +kernel) cs_M_ones ml_11_315 rfl (Nat.le_of_ble_eq_true rfl) (Nat.lt_succ_self d) (Nat.le_of_ble_eq_true rfl) rfl ?_
                show sg_Wp 200 228 d m_M_ones 0 [(0, 0, r3)] [] G3 _
                refine sg_Wp.mono hhr3 (fun r4 G4 hhr4 => ?_)
                show sg_Wp 200 228 (d + 1) m_M_count 92 [(0, 2, 200), (1, 0, v1)] [(0, r4)] G4 Q
                exact sg_ret (by decide +kernel) rfl (Or.inl rfl) hhr4
              · refine ⟨fun q2 => ?_, fun q2 => ?_⟩
                · refine sg_blk [(1, 0, 0, 0, 0), (15, 0, 11, 269, 32)] (by decide +kernel) ?_
                  refine And.intro (Nat.le_of_ble_eq_true rfl) (And.intro ce_200 (?_))
                  show sg_Wp 200 228 (d + 1) m_M_count 97 [(0, 2, 200), (1, 0, v1)] [(0, G1 200 32)] G1 Q
                  exact sg_ret (by decide +kernel) rfl (Or.inl rfl) (((((((((hhr1.2 q9).2 q8).2 q7).2 q6).2 q5).2 q4).2 q3).1 q2))
                · refine ⟨fun q1 => ?_, fun q1 => ?_⟩
                  · refine sg_blk [(1, 0, 0, 0, 0), (15, 0, 11, 102, 4)] (by decide +kernel) ?_
                    refine And.intro (Nat.le_of_ble_eq_true rfl) (And.intro ce_200 (?_))
                    show sg_Wp 200 228 (d + 1) m_M_count 102 [(0, 2, 200), (1, 0, v1)] [(0, G1 200 4)] G1 Q
                    exact sg_ret (by decide +kernel) rfl (Or.inl rfl) ((((((((((hhr1.2 q9).2 q8).2 q7).2 q6).2 q5).2 q4).2 q3).2 q2).1 q1))
                  · refine sg_blk [(8, (-2), 0, 0, 0)] (by decide +kernel) ?_
                    refine And.intro rfl (And.intro rfl (?_))
                    show sg_Wp 200 228 (d + 1) m_M_count 105 [(0, 2, 200), (1, 0, v1)] [(0, (-2))] G1 Q
                    exact sg_ret (by decide +kernel) rfl (Or.inl rfl) ((((((((((hhr1.2 q9).2 q8).2 q7).2 q6).2 q5).2 q4).2 q3).2 q2).2 q1))
set_option maxRecDepth 100000 in
theorem g_M_decades_0 {d : Nat} {v1 v2 v3 : Int} {G : SgM} {Q : Int → SgM → Prop} (h : sg_Wp 200 228 (d + 1) m_M_find 0 [(0, 2, 200)] [] G (fun r1 G1 => ((0 ≤ v2 ∧ v2 ≤ 8) → (((0 ≤ v3 ∧ v3 ≤ 1) → (sg_Wp 200 228 (d + 1) m_M_decadesOf 0 [(0, 2, 200), (1, 0, v1), (2, 0, v2), (3, 0, v3)] [] G1 (fun r2 G2 => Q r2 G2))) ∧ (¬ (0 ≤ v3 ∧ v3 ≤ 1) → (Q ((-2)) G1)))) ∧ (¬ (0 ≤ v2 ∧ v2 ≤ 8) → (Q ((-2)) G1)))) : sg_Wp 200 228 (d + 2) m_M_decades 0 [(0, 2, 200), (1, 0, v1), (2, 0, v2), (3, 0, v3)] [] G Q := by
  refine sg_blk [(1, 0, 0, 0, 0)] (by decide +kernel) ?_
  refine And.intro (Nat.le_of_ble_eq_true rfl) (?_)
  show sg_Wp 200 228 (d + 2) m_M_decades 1 [(0, 2, 200), (1, 0, v1), (2, 0, v2), (3, 0, v3)] [(2, 200)] G Q
  refine sg_callV (k := (d + 1)) (y' := m_M_find) (av := []) (rest := []) (b := 200) (by decide +kernel) cv_M_find ml_11_217 ce_200 rfl rfl (Nat.le_of_ble_eq_true rfl) (Nat.lt_succ_self (d + 1)) (Nat.le_of_ble_eq_true rfl) rfl ?_
  show sg_Wp 200 228 (d + 1) m_M_find 0 [(0, 2, 200)] [] G _
  refine sg_Wp.mono h (fun r1 G1 hhr1 => ?_)
  show sg_Wp 200 228 (d + 2) m_M_decades 4 [(0, 2, 200), (1, 0, v1), (2, 0, v2), (3, 0, v3)] [] G1 Q
  refine sg_blk [(3, 0, 0, 2, 0), (53, 0, 0, 0, 0), (10, 0, 0, 0, 0), (12, 8, 0, 318, 0)] (by decide +kernel) ?_
  refine And.intro rfl (And.intro rfl (?_))
  show sg_Wp 200 228 (d + 2) m_M_decades 10 [(0, 2, 200), (1, 0, v1), (2, 0, v2), (3, 0, v3)] [(1, 8), (1, 0), (1, v2)] G1 Q
  refine sg_callS (k := (d + 1)) (y' := m_M_in) (av := [(1, v2), (1, 0), (1, 8)]) (rest := []) (by decide +kernel) cs_M_in ml_11_98 rfl (Nat.le_of_ble_eq_true rfl) (Nat.lt_succ_self (d + 1)) (Nat.le_of_ble_eq_true rfl) rfl ?_
  show sg_Wp 200 228 (d + 1) m_M_in 0 [(0, 1, v2), (2, 1, 0), (4, 1, 8)] [] G1 _
  refine s_M_in ?_
  show sg_Wp 200 228 (d + 2) m_M_decades 13 [(0, 2, 200), (1, 0, v1), (2, 0, v2), (3, 0, v3)] [(0, sg_bo (0 ≤ v2 ∧ v2 ≤ 8))] G1 Q
  refine sg_bif_eq (off := 20) (tgt := 33) (by decide +kernel) (by decide) ⟨fun q2 => ?_, fun q2 => ?_⟩
  · refine sg_blk [(3, 0, 0, 3, 0)] (by decide +kernel) ?_
    refine And.intro rfl (?_)
    show sg_Wp 200 228 (d + 2) m_M_decades 17 [(0, 2, 200), (1, 0, v1), (2, 0, v2), (3, 0, v3)] [(0, v3)] G1 Q
    refine sg_callS (k := (d + 1)) (y' := m_M_isTwo) (av := [(0, v3)]) (rest := []) (by decide +kernel) cs_M_isTwo ml_11_126 rfl (Nat.le_of_ble_eq_true rfl) (Nat.lt_succ_self (d + 1)) (Nat.le_of_ble_eq_true rfl) rfl ?_
    show sg_Wp 200 228 (d + 1) m_M_isTwo 0 [(0, 0, v3)] [] G1 _
    refine s_M_isTwo ?_
    show sg_Wp 200 228 (d + 2) m_M_decades 20 [(0, 2, 200), (1, 0, v1), (2, 0, v2), (3, 0, v3)] [(0, sg_bo (0 ≤ v3 ∧ v3 ≤ 1))] G1 Q
    refine sg_bif_eq (off := 13) (tgt := 33) (by decide +kernel) (by decide) ⟨fun q1 => ?_, fun q1 => ?_⟩
    · refine sg_blk [(1, 0, 0, 0, 0), (3, 0, 0, 1, 0), (3, 0, 0, 2, 0), (3, 0, 0, 3, 0)] (by decide +kernel) ?_
      refine And.intro (Nat.le_of_ble_eq_true rfl) (And.intro rfl (And.intro rfl (And.intro rfl (?_))))
      show sg_Wp 200 228 (d + 2) m_M_decades 27 [(0, 2, 200), (1, 0, v1), (2, 0, v2), (3, 0, v3)] [(0, v3), (0, v2), (0, v1), (2, 200)] G1 Q
      refine sg_callV (k := (d + 1)) (y' := m_M_decadesOf) (av := [(0, v1), (0, v2), (0, v3)]) (rest := []) (b := 200) (by decide +kernel) cv_M_decadesOf ml_11_320 ce_200 rfl rfl (Nat.le_of_ble_eq_true rfl) (Nat.lt_succ_self (d + 1)) (Nat.le_of_ble_eq_true rfl) rfl ?_
      show sg_Wp 200 228 (d + 1) m_M_decadesOf 0 [(0, 2, 200), (1, 0, v1), (2, 0, v2), (3, 0, v3)] [] G1 _
      refine sg_Wp.mono (((hhr1.1 q2).1 q1)) (fun r2 G2 hhr2 => ?_)
      show sg_Wp 200 228 (d + 2) m_M_decades 30 [(0, 2, 200), (1, 0, v1), (2, 0, v2), (3, 0, v3)] [(0, r2)] G2 Q
      refine sg_goto (off := 5) (tgt := 35) (by decide +kernel) (by decide) ?_
      exact sg_ret (by decide +kernel) rfl (Or.inl rfl) hhr2
    · refine sg_blk [(8, (-2), 0, 0, 0)] (by decide +kernel) ?_
      refine And.intro rfl (And.intro rfl (?_))
      show sg_Wp 200 228 (d + 2) m_M_decades 35 [(0, 2, 200), (1, 0, v1), (2, 0, v2), (3, 0, v3)] [(0, (-2))] G1 Q
      exact sg_ret (by decide +kernel) rfl (Or.inl rfl) (((hhr1.1 q2).2 q1))
  · refine sg_blk [(8, (-2), 0, 0, 0)] (by decide +kernel) ?_
    refine And.intro rfl (And.intro rfl (?_))
    show sg_Wp 200 228 (d + 2) m_M_decades 35 [(0, 2, 200), (1, 0, v1), (2, 0, v2), (3, 0, v3)] [(0, (-2))] G1 Q
    exact sg_ret (by decide +kernel) rfl (Or.inl rfl) ((hhr1.2 q2))
set_option maxRecDepth 100000 in
theorem g_M_decadesOf_0 {d : Nat} {v1 v2 v3 : Int} {G : SgM} {Q : Int → SgM → Prop} (h : sg_Wp 200 228 (d + 1) m_M_decadesOf 9 [(0, 2, 200), (1, 0, v1), (2, 0, v2), (3, 0, v3), (4, 0, G 200 11), (5, 0, 0)] [] G Q) : sg_Wp 200 228 (d + 1) m_M_decadesOf 0 [(0, 2, 200), (1, 0, v1), (2, 0, v2), (3, 0, v3)] [] G Q := by
  refine sg_blk [(1, 0, 0, 0, 0), (15, 0, 11, 164, 11), (26, 0, 0, 4, 0), (7, 0, 0, 0, 0), (26, 0, 0, 5, 0)] (by decide +kernel) ?_
  refine And.intro (Nat.le_of_ble_eq_true rfl) (And.intro ce_200 (And.intro rfl (And.intro rfl (And.intro rfl (?_)))))
  show sg_Wp 200 228 (d + 1) m_M_decadesOf 9 [(0, 2, 200), (1, 0, v1), (2, 0, v2), (3, 0, v3), (4, 0, G 200 11), (5, 0, 0)] [] G Q
  exact h
set_option maxRecDepth 100000 in
theorem g_M_decadesOf_9 {d : Nat} {v1 v2 v3 v4 v5 : Int} {G : SgM} {Q : Int → SgM → Prop} (h : (24 ≤ v5 → (sg_Wp 200 228 (d + 1) m_M_decadesOf 49 [(0, 2, 200), (2, 0, v2), (3, 0, v3), (4, 0, v4), (5, 0, 0)] [] (sg_up (sg_up G 200 35 v1) 200 11 0) Q)) ∧ (¬ (24 ≤ v5) → ((0 ≤ v5 ∧ v5 < 24) ∧ (0 ≤ v5 ∧ v5 < 24) ∧ (sg_Wp 200 228 (d + 1) m_M_decadesOf 9 [(0, 2, 200), (1, 0, v1), (2, 0, v2), (3, 0, v3), (4, 0, v4), (5, 0, sg_iadd v5 1)] [] (sg_up G 227 v5 (G 209 v5)) Q)))) : sg_Wp 200 228 (d + 1) m_M_decadesOf 9 [(0, 2, 200), (1, 0, v1), (2, 0, v2), (3, 0, v3), (4, 0, v4), (5, 0, v5)] [] G Q := by
  refine sg_blk [(4, 0, 0, 5, 0), (8, 24, 0, 0, 0)] (by decide +kernel) ?_
  refine And.intro rfl (And.intro rfl (And.intro rfl (?_)))
  show sg_Wp 200 228 (d + 1) m_M_decadesOf 13 [(0, 2, 200), (1, 0, v1), (2, 0, v2), (3, 0, v3), (4, 0, v4), (5, 0, v5)] [(0, 24), (0, v5)] G Q
  refine sg_icmp_ge (off := 23) (tgt := 36) (by decide +kernel) (by decide) ⟨fun q1 => ?_, fun q1 => ?_⟩
  · refine sg_blk [(1, 0, 0, 0, 0), (3, 0, 0, 1, 0), (16, 0, 11, 309, 35), (1, 0, 0, 0, 0), (7, 0, 0, 0, 0), (16, 0, 11, 164, 11), (7, 0, 0, 0, 0), (26, 0, 0, 5, 0)] (by decide +kernel) ?_
    refine And.intro (Nat.le_of_ble_eq_true rfl) (And.intro rfl (And.intro ce_200 (And.intro (Nat.le_of_ble_eq_true rfl) (And.intro rfl (And.intro ce_200 (And.intro rfl (And.intro rfl (?_))))))))
    show sg_Wp 200 228 (d + 1) m_M_decadesOf 49 [(0, 2, 200), (1, 0, v1), (2, 0, v2), (3, 0, v3), (4, 0, v4), (5, 0, 0)] [] (sg_up (sg_up G 200 35 v1) 200 11 0) Q
    exact sg_Wp.keepk [0, 2, 3, 4, 5] rfl ((h.1 q1))
  · refine sg_blk [(1, 0, 0, 0, 0), (65, 227, 11, 89, 36), (4, 0, 0, 5, 0), (1, 0, 0, 0, 0), (65, 209, 11, 34, 12), (4, 0, 0, 5, 0), (17, 24, 0, 0, 0), (18, 24, 0, 0, 0), (31, 1, 0, 5, 0)] (by decide +kernel) ?_
    refine And.intro (Nat.le_of_ble_eq_true rfl) (And.intro ce_200 (And.intro rr_200_36 (And.intro rfl (And.intro (Nat.le_of_ble_eq_true rfl) (And.intro ce_200 (And.intro rr_200_12 (And.intro rfl (And.intro ce_209 (And.intro (h.2 q1).1 (And.intro ce_227 (And.intro (h.2 q1).2.1 (And.intro rfl (?_)))))))))))))
    show sg_Wp 200 228 (d + 1) m_M_decadesOf 33 [(0, 2, 200), (1, 0, v1), (2, 0, v2), (3, 0, v3), (4, 0, v4), (5, 0, sg_iadd v5 1)] [] (sg_up G 227 v5 (G 209 v5)) Q
    refine sg_goto (off := -24) (tgt := 9) (by decide +kernel) (by decide) ?_
    exact (h.2 q1).2.2
set_option maxRecDepth 100000 in
theorem g_M_decadesOf_49 {d : Nat} {v2 v3 v4 v5 : Int} {G : SgM} {Q : Int → SgM → Prop} (h : (v2 ≤ v5 → (sg_Wp 200 228 d m_M_lives 0 [(0, 2, 200)] [] G (fun r1 G1 => sg_Wp 200 228 (d + 1) m_M_decadesOf 97 [(0, 2, 200), (3, 0, v3), (4, 0, v4), (5, 0, 0)] [] G1 Q))) ∧ (¬ (v2 ≤ v5) → (sg_Wp 200 228 d m_M_lot 0 [(0, 2, 200), (1, 0, 3)] [] G (fun r2 G2 => sg_Wp 200 228 d m_M_lot 0 [(0, 2, 200), (1, 0, 24)] [] G2 (fun r3 G3 => sg_Wp 200 228 d m_M_lot 0 [(0, 2, 200), (1, 0, 10)] [] G3 (fun r4 G4 => sg_Wp 200 228 d m_M_keeps 0 [(0, 2, 200), (1, 0, r2), (2, 0, r3), (3, 0, r4)] [] G4 (fun r5 G5 => sg_Wp 200 228 (d + 1) m_M_decadesOf 49 [(0, 2, 200), (2, 0, v2), (3, 0, v3), (4, 0, v4), (5, 0, sg_iadd v5 1)] [] G5 Q))))))) : sg_Wp 200 228 (d + 1) m_M_decadesOf 49 [(0, 2, 200), (2, 0, v2), (3, 0, v3), (4, 0, v4), (5, 0, v5)] [] G Q := by
  refine sg_blk [(4, 0, 0, 5, 0), (3, 0, 0, 2, 0)] (by decide +kernel) ?_
  refine And.intro rfl (And.intro rfl (?_))
  show sg_Wp 200 228 (d + 1) m_M_decadesOf 52 [(0, 2, 200), (2, 0, v2), (3, 0, v3), (4, 0, v4), (5, 0, v5)] [(0, v2), (0, v5)] G Q
  refine sg_icmp_ge (off := 38) (tgt := 90) (by decide +kernel) (by decide) ⟨fun q2 => ?_, fun q2 => ?_⟩
  · refine sg_blk [(1, 0, 0, 0, 0)] (by decide +kernel) ?_
    refine And.intro (Nat.le_of_ble_eq_true rfl) (?_)
    show sg_Wp 200 228 (d + 1) m_M_decadesOf 91 [(0, 2, 200), (2, 0, v2), (3, 0, v3), (4, 0, v4), (5, 0, v5)] [(2, 200)] G Q
    refine sg_callV (k := d) (y' := m_M_lives) (av := []) (rest := []) (b := 200) (by decide +kernel) cv_M_lives ml_11_214 ce_200 rfl rfl (Nat.le_of_ble_eq_true rfl) (Nat.lt_succ_self d) (Nat.le_of_ble_eq_true rfl) rfl ?_
    show sg_Wp 200 228 d m_M_lives 0 [(0, 2, 200)] [] G _
    refine sg_Wp.mono ((h.1 q2)) (fun r1 G1 hhr1 => ?_)
    show sg_Wp 200 228 (d + 1) m_M_decadesOf 94 [(0, 2, 200), (2, 0, v2), (3, 0, v3), (4, 0, v4), (5, 0, v5)] [] G1 Q
    refine sg_blk [(7, 0, 0, 0, 0), (26, 0, 0, 5, 0)] (by decide +kernel) ?_
    refine And.intro rfl (And.intro rfl (?_))
    show sg_Wp 200 228 (d + 1) m_M_decadesOf 97 [(0, 2, 200), (2, 0, v2), (3, 0, v3), (4, 0, v4), (5, 0, 0)] [] G1 Q
    exact sg_Wp.keepk [0, 2, 3, 4] rfl hhr1
  · refine sg_blk [(1, 0, 0, 0, 0), (7, 3, 0, 0, 0)] (by decide +kernel) ?_
    refine And.intro (Nat.le_of_ble_eq_true rfl) (And.intro rfl (?_))
    show sg_Wp 200 228 (d + 1) m_M_decadesOf 57 [(0, 2, 200), (2, 0, v2), (3, 0, v3), (4, 0, v4), (5, 0, v5)] [(0, 3), (2, 200)] G Q
    refine sg_callV (k := d) (y' := m_M_lot) (av := [(0, 3)]) (rest := []) (b := 200) (by decide +kernel) cv_M_lot ml_11_312 ce_200 rfl rfl (Nat.le_of_ble_eq_true rfl) (Nat.lt_succ_self d) (Nat.le_of_ble_eq_true rfl) rfl ?_
    show sg_Wp 200 228 d m_M_lot 0 [(0, 2, 200), (1, 0, 3)] [] G _
    refine sg_Wp.mono ((h.2 q2)) (fun r2 G2 hhr2 => ?_)
    show sg_Wp 200 228 (d + 1) m_M_decadesOf 60 [(0, 2, 200), (2, 0, v2), (3, 0, v3), (4, 0, v4), (5, 0, v5)] [(0, r2)] G2 Q
    refine sg_blk [(26, 0, 0, 6, 0), (1, 0, 0, 0, 0), (8, 24, 0, 0, 0)] (by decide +kernel) ?_
    refine And.intro rfl (And.intro (Nat.le_of_ble_eq_true rfl) (And.intro rfl (And.intro rfl (?_))))
    show sg_Wp 200 228 (d + 1) m_M_decadesOf 65 [(0, 2, 200), (2, 0, v2), (3, 0, v3), (4, 0, v4), (5, 0, v5), (6, 0, r2)] [(0, 24), (2, 200)] G2 Q
    refine sg_callV (k := d) (y' := m_M_lot) (av := [(0, 24)]) (rest := []) (b := 200) (by decide +kernel) cv_M_lot ml_11_312 ce_200 rfl rfl (Nat.le_of_ble_eq_true rfl) (Nat.lt_succ_self d) (Nat.le_of_ble_eq_true rfl) rfl ?_
    show sg_Wp 200 228 d m_M_lot 0 [(0, 2, 200), (1, 0, 24)] [] G2 _
    refine sg_Wp.mono hhr2 (fun r3 G3 hhr3 => ?_)
    show sg_Wp 200 228 (d + 1) m_M_decadesOf 68 [(0, 2, 200), (2, 0, v2), (3, 0, v3), (4, 0, v4), (5, 0, v5), (6, 0, r2)] [(0, r3)] G3 Q
    refine sg_blk [(26, 0, 0, 7, 0), (1, 0, 0, 0, 0), (4, 0, 0, 6, 0), (4, 0, 0, 7, 0), (1, 0, 0, 0, 0), (8, 10, 0, 0, 0)] (by decide +kernel) ?_
    refine And.intro rfl (And.intro (Nat.le_of_ble_eq_true rfl) (And.intro rfl (And.intro rfl (And.intro (Nat.le_of_ble_eq_true rfl) (And.intro rfl (And.intro rfl (?_)))))))
    show sg_Wp 200 228 (d + 1) m_M_decadesOf 78 [(0, 2, 200), (2, 0, v2), (3, 0, v3), (4, 0, v4), (5, 0, v5), (6, 0, r2), (7, 0, r3)] [(0, 10), (2, 200), (0, r3), (0, r2), (2, 200)] G3 Q
    refine sg_callV (k := d) (y' := m_M_lot) (av := [(0, 10)]) (rest := [(0, r3), (0, r2), (2, 200)]) (b := 200) (by decide +kernel) cv_M_lot ml_11_312 ce_200 rfl rfl (Nat.le_of_ble_eq_true rfl) (Nat.lt_succ_self d) (Nat.le_of_ble_eq_true rfl) rfl ?_
    show sg_Wp 200 228 d m_M_lot 0 [(0, 2, 200), (1, 0, 10)] [] G3 _
    refine sg_Wp.mono hhr3 (fun r4 G4 hhr4 => ?_)
    show sg_Wp 200 228 (d + 1) m_M_decadesOf 81 [(0, 2, 200), (2, 0, v2), (3, 0, v3), (4, 0, v4), (5, 0, v5), (6, 0, r2), (7, 0, r3)] [(0, r4), (0, r3), (0, r2), (2, 200)] G4 Q
    refine sg_callV (k := d) (y' := m_M_keeps) (av := [(0, r2), (0, r3), (0, r4)]) (rest := []) (b := 200) (by decide +kernel) cv_M_keeps ml_11_172 ce_200 rfl rfl (Nat.le_of_ble_eq_true rfl) (Nat.lt_succ_self d) (Nat.le_of_ble_eq_true rfl) rfl ?_
    show sg_Wp 200 228 d m_M_keeps 0 [(0, 2, 200), (1, 0, r2), (2, 0, r3), (3, 0, r4)] [] G4 _
    refine sg_Wp.mono hhr4 (fun r5 G5 hhr5 => ?_)
    show sg_Wp 200 228 (d + 1) m_M_decadesOf 84 [(0, 2, 200), (2, 0, v2), (3, 0, v3), (4, 0, v4), (5, 0, v5), (6, 0, r2), (7, 0, r3)] [] G5 Q
    refine sg_blk [(31, 1, 0, 5, 0)] (by decide +kernel) ?_
    refine And.intro rfl (?_)
    show sg_Wp 200 228 (d + 1) m_M_decadesOf 87 [(0, 2, 200), (2, 0, v2), (3, 0, v3), (4, 0, v4), (5, 0, sg_iadd v5 1), (6, 0, r2), (7, 0, r3)] [] G5 Q
    refine sg_goto (off := -38) (tgt := 49) (by decide +kernel) (by decide) ?_
    exact sg_Wp.keepk [0, 1, 2, 3, 4] rfl hhr5
set_option maxRecDepth 100000 in
theorem g_M_decadesOf_97 {d : Nat} {v3 v4 v5 : Int} {G : SgM} {Q : Int → SgM → Prop} (h : (24 ≤ v5 → ((v3 ≠ 0 → (sg_Wp 200 228 d m_M_forgottenNow 0 [(0, 2, 200)] [] (sg_up G 200 11 v4) (fun r6 G6 => sg_Wp 200 228 d m_M_ones 0 [(0, 0, r6)] [] G6 (fun r7 G7 => Q r7 G7)))) ∧ (¬ (v3 ≠ 0) → (sg_Wp 200 228 d m_M_allNow 0 [(0, 2, 200)] [] (sg_up G 200 11 v4) (fun r8 G8 => Q r8 G8))))) ∧ (¬ (24 ≤ v5) → ((0 ≤ v5 ∧ v5 < 24) ∧ (0 ≤ v5 ∧ v5 < 24) ∧ (sg_Wp 200 228 (d + 1) m_M_decadesOf 97 [(0, 2, 200), (3, 0, v3), (4, 0, v4), (5, 0, sg_iadd v5 1)] [] (sg_up G 209 v5 (G 227 v5)) Q)))) : sg_Wp 200 228 (d + 1) m_M_decadesOf 97 [(0, 2, 200), (3, 0, v3), (4, 0, v4), (5, 0, v5)] [] G Q := by
  refine sg_blk [(4, 0, 0, 5, 0), (8, 24, 0, 0, 0)] (by decide +kernel) ?_
  refine And.intro rfl (And.intro rfl (And.intro rfl (?_)))
  show sg_Wp 200 228 (d + 1) m_M_decadesOf 101 [(0, 2, 200), (3, 0, v3), (4, 0, v4), (5, 0, v5)] [(0, 24), (0, v5)] G Q
  refine sg_icmp_ge (off := 23) (tgt := 124) (by decide +kernel) (by decide) ⟨fun q4 => ?_, fun q4 => ?_⟩
  · refine sg_blk [(1, 0, 0, 0, 0), (4, 0, 0, 4, 0), (16, 0, 11, 164, 11), (3, 0, 0, 3, 0)] (by decide +kernel) ?_
    refine And.intro (Nat.le_of_ble_eq_true rfl) (And.intro rfl (And.intro ce_200 (And.intro rfl (?_))))
    show sg_Wp 200 228 (d + 1) m_M_decadesOf 131 [(0, 2, 200), (3, 0, v3), (4, 0, v4), (5, 0, v5)] [(0, v3)] (sg_up G 200 11 v4) Q
    refine sg_if_ne (off := 10) (tgt := 141) (by decide +kernel) (by decide) ⟨fun q3 => ?_, fun q3 => ?_⟩
    · refine sg_blk [(1, 0, 0, 0, 0)] (by decide +kernel) ?_
      refine And.intro (Nat.le_of_ble_eq_true rfl) (?_)
      show sg_Wp 200 228 (d + 1) m_M_decadesOf 142 [(0, 2, 200), (3, 0, v3), (4, 0, v4), (5, 0, v5)] [(2, 200)] (sg_up G 200 11 v4) Q
      refine sg_callV (k := d) (y' := m_M_forgottenNow) (av := []) (rest := []) (b := 200) (by decide +kernel) cv_M_forgottenNow ml_11_229 ce_200 rfl rfl (Nat.le_of_ble_eq_true rfl) (Nat.lt_succ_self d) (Nat.le_of_ble_eq_true rfl) rfl ?_
      show sg_Wp 200 228 d m_M_forgottenNow 0 [(0, 2, 200)] [] (sg_up G 200 11 v4) _
      refine sg_Wp.mono (((h.1 q4).1 q3)) (fun r6 G6 hhr6 => ?_)
      show sg_Wp 200 228 (d + 1) m_M_decadesOf 145 [(0, 2, 200), (3, 0, v3), (4, 0, v4), (5, 0, v5)] [(0, r6)] G6 Q
      refine sg_callS (k := d) (y' := m_M_ones) (av := [(0, r6)]) (rest := []) (by decide +kernel) cs_M_ones ml_11_315 rfl (Nat.le_of_ble_eq_true rfl) (Nat.lt_succ_self d) (Nat.le_of_ble_eq_true rfl) rfl ?_
      show sg_Wp 200 228 d m_M_ones 0 [(0, 0, r6)] [] G6 _
      refine sg_Wp.mono hhr6 (fun r7 G7 hhr7 => ?_)
      show sg_Wp 200 228 (d + 1) m_M_decadesOf 148 [(0, 2, 200), (3, 0, v3), (4, 0, v4), (5, 0, v5)] [(0, r7)] G7 Q
      exact sg_ret (by decide +kernel) rfl (Or.inl rfl) hhr7
    · refine sg_blk [(1, 0, 0, 0, 0)] (by decide +kernel) ?_
      refine And.intro (Nat.le_of_ble_eq_true rfl) (?_)
      show sg_Wp 200 228 (d + 1) m_M_decadesOf 135 [(0, 2, 200), (3, 0, v3), (4, 0, v4), (5, 0, v5)] [(2, 200)] (sg_up G 200 11 v4) Q
      refine sg_callV (k := d) (y' := m_M_allNow) (av := []) (rest := []) (b := 200) (by decide +kernel) cv_M_allNow ml_11_238 ce_200 rfl rfl (Nat.le_of_ble_eq_true rfl) (Nat.lt_succ_self d) (Nat.le_of_ble_eq_true rfl) rfl ?_
      show sg_Wp 200 228 d m_M_allNow 0 [(0, 2, 200)] [] (sg_up G 200 11 v4) _
      refine sg_Wp.mono (((h.1 q4).2 q3)) (fun r8 G8 hhr8 => ?_)
      show sg_Wp 200 228 (d + 1) m_M_decadesOf 138 [(0, 2, 200), (3, 0, v3), (4, 0, v4), (5, 0, v5)] [(0, r8)] G8 Q
      refine sg_goto (off := 10) (tgt := 148) (by decide +kernel) (by decide) ?_
      exact sg_ret (by decide +kernel) rfl (Or.inl rfl) hhr8
  · refine sg_blk [(1, 0, 0, 0, 0), (65, 209, 11, 34, 12), (4, 0, 0, 5, 0), (1, 0, 0, 0, 0), (65, 227, 11, 89, 36), (4, 0, 0, 5, 0), (17, 24, 0, 0, 0), (18, 24, 0, 0, 0), (31, 1, 0, 5, 0)] (by decide +kernel) ?_
    refine And.intro (Nat.le_of_ble_eq_true rfl) (And.intro ce_200 (And.intro rr_200_12 (And.intro rfl (And.intro (Nat.le_of_ble_eq_true rfl) (And.intro ce_200 (And.intro rr_200_36 (And.intro rfl (And.intro ce_227 (And.intro (h.2 q4).1 (And.intro ce_209 (And.intro (h.2 q4).2.1 (And.intro rfl (?_)))))))))))))
    show sg_Wp 200 228 (d + 1) m_M_decadesOf 121 [(0, 2, 200), (3, 0, v3), (4, 0, v4), (5, 0, sg_iadd v5 1)] [] (sg_up G 209 v5 (G 227 v5)) Q
    refine sg_goto (off := -24) (tgt := 97) (by decide +kernel) (by decide) ?_
    exact (h.2 q4).2.2
set_option maxRecDepth 100000 in
theorem g_M_digest_0 {d : Nat} {G : SgM} {Q : Int → SgM → Prop} (h : sg_Wp 200 228 (d + 1) m_M_digest 6 [(0, 2, 200), (1, 1, 17), (3, 0, 0)] [] G Q) : sg_Wp 200 228 (d + 1) m_M_digest 0 [(0, 2, 200)] [] G Q := by
  refine sg_blk [(12, 17, 0, 332, 0), (27, 0, 0, 1, 0), (7, 0, 0, 0, 0), (25, 0, 0, 3, 0)] (by decide +kernel) ?_
  refine And.intro rfl (And.intro rfl (And.intro rfl (And.intro rfl (?_))))
  show sg_Wp 200 228 (d + 1) m_M_digest 6 [(0, 2, 200), (1, 1, 17), (3, 0, 0)] [] G Q
  exact h
set_option maxRecDepth 100000 in
theorem g_M_digest_6 {d : Nat} {v1 v3 : Int} {G : SgM} {Q : Int → SgM → Prop} (h : (8 ≤ v3 → (sg_Wp 200 228 (d + 1) m_M_digest 33 [(0, 2, 200), (1, 1, v1), (3, 0, 0)] [] G Q)) ∧ (¬ (8 ≤ v3) → (sg_Wp 200 228 d m_M_count 0 [(0, 2, 200), (1, 0, v3)] [] G (fun r1 G1 => sg_Wp 200 228 (d + 1) m_M_digest 6 [(0, 2, 200), (1, 1, sg_ladd (sg_lmul 31 v1) r1), (3, 0, sg_iadd v3 1)] [] G1 Q)))) : sg_Wp 200 228 (d + 1) m_M_digest 6 [(0, 2, 200), (1, 1, v1), (3, 0, v3)] [] G Q := by
  refine sg_blk [(3, 0, 0, 3, 0), (8, 8, 0, 0, 0)] (by decide +kernel) ?_
  refine And.intro rfl (And.intro rfl (And.intro rfl (?_)))
  show sg_Wp 200 228 (d + 1) m_M_digest 9 [(0, 2, 200), (1, 1, v1), (3, 0, v3)] [(0, 8), (0, v3)] G Q
  refine sg_icmp_ge (off := 22) (tgt := 31) (by decide +kernel) (by decide) ⟨fun q1 => ?_, fun q1 => ?_⟩
  · refine sg_blk [(7, 0, 0, 0, 0), (25, 0, 0, 3, 0)] (by decide +kernel) ?_
    refine And.intro rfl (And.intro rfl (?_))
    show sg_Wp 200 228 (d + 1) m_M_digest 33 [(0, 2, 200), (1, 1, v1), (3, 0, 0)] [] G Q
    exact (h.1 q1)
  · refine sg_blk [(12, 31, 0, 323, 0), (5, 0, 0, 1, 0), (46, 0, 0, 0, 0), (1, 0, 0, 0, 0), (3, 0, 0, 3, 0)] (by decide +kernel) ?_
    refine And.intro rfl (And.intro rfl (And.intro (Nat.le_of_ble_eq_true rfl) (And.intro rfl (?_))))
    show sg_Wp 200 228 (d + 1) m_M_digest 19 [(0, 2, 200), (1, 1, v1), (3, 0, v3)] [(0, v3), (2, 200), (1, sg_lmul 31 v1)] G Q
    refine sg_callV (k := d) (y' := m_M_count) (av := [(0, v3)]) (rest := [(1, sg_lmul 31 v1)]) (b := 200) (by decide +kernel) cv_M_count ml_11_334 ce_200 rfl rfl (Nat.le_of_ble_eq_true rfl) (Nat.lt_succ_self d) (Nat.le_of_ble_eq_true rfl) rfl ?_
    show sg_Wp 200 228 d m_M_count 0 [(0, 2, 200), (1, 0, v3)] [] G _
    refine sg_Wp.mono ((h.2 q1)) (fun r1 G1 hhr1 => ?_)
    show sg_Wp 200 228 (d + 1) m_M_digest 22 [(0, 2, 200), (1, 1, v1), (3, 0, v3)] [(0, r1), (1, sg_lmul 31 v1)] G1 Q
    refine sg_blk [(53, 0, 0, 0, 0), (44, 0, 0, 0, 0), (27, 0, 0, 1, 0), (31, 1, 0, 3, 0)] (by decide +kernel) ?_
    refine And.intro rfl (And.intro rfl (?_))
    show sg_Wp 200 228 (d + 1) m_M_digest 28 [(0, 2, 200), (1, 1, sg_ladd (sg_lmul 31 v1) r1), (3, 0, sg_iadd v3 1)] [] G1 Q
    refine sg_goto (off := -22) (tgt := 6) (by decide +kernel) (by decide) ?_
    exact hhr1
set_option maxRecDepth 100000 in
theorem g_M_digest_33 {d : Nat} {v1 v3 : Int} {G : SgM} {Q : Int → SgM → Prop} (h : (2 ≤ v3 → (sg_Wp 200 228 (d + 1) m_M_digest 59 [(0, 2, 200), (1, 1, v1), (3, 0, 0)] [] G Q)) ∧ (¬ (2 ≤ v3) → (sg_Wp 200 228 d m_M_readsText 0 [(0, 2, 200), (1, 0, v3)] [] G (fun r2 G2 => sg_Wp 200 228 (d + 1) m_M_digest 33 [(0, 2, 200), (1, 1, sg_ladd (sg_lmul 31 v1) r2), (3, 0, sg_iadd v3 1)] [] G2 Q)))) : sg_Wp 200 228 (d + 1) m_M_digest 33 [(0, 2, 200), (1, 1, v1), (3, 0, v3)] [] G Q := by
  refine sg_blk [(3, 0, 0, 3, 0), (7, 2, 0, 0, 0)] (by decide +kernel) ?_
  refine And.intro rfl (And.intro rfl (?_))
  show sg_Wp 200 228 (d + 1) m_M_digest 35 [(0, 2, 200), (1, 1, v1), (3, 0, v3)] [(0, 2), (0, v3)] G Q
  refine sg_icmp_ge (off := 22) (tgt := 57) (by decide +kernel) (by decide) ⟨fun q2 => ?_, fun q2 => ?_⟩
  · refine sg_blk [(7, 0, 0, 0, 0), (25, 0, 0, 3, 0)] (by decide +kernel) ?_
    refine And.intro rfl (And.intro rfl (?_))
    show sg_Wp 200 228 (d + 1) m_M_digest 59 [(0, 2, 200), (1, 1, v1), (3, 0, 0)] [] G Q
    exact (h.1 q2)
  · refine sg_blk [(12, 31, 0, 323, 0), (5, 0, 0, 1, 0), (46, 0, 0, 0, 0), (1, 0, 0, 0, 0), (3, 0, 0, 3, 0)] (by decide +kernel) ?_
    refine And.intro rfl (And.intro rfl (And.intro (Nat.le_of_ble_eq_true rfl) (And.intro rfl (?_))))
    show sg_Wp 200 228 (d + 1) m_M_digest 45 [(0, 2, 200), (1, 1, v1), (3, 0, v3)] [(0, v3), (2, 200), (1, sg_lmul 31 v1)] G Q
    refine sg_callV (k := d) (y' := m_M_readsText) (av := [(0, v3)]) (rest := [(1, sg_lmul 31 v1)]) (b := 200) (by decide +kernel) cv_M_readsText ml_11_153 ce_200 rfl rfl (Nat.le_of_ble_eq_true rfl) (Nat.lt_succ_self d) (Nat.le_of_ble_eq_true rfl) rfl ?_
    show sg_Wp 200 228 d m_M_readsText 0 [(0, 2, 200), (1, 0, v3)] [] G _
    refine sg_Wp.mono ((h.2 q2)) (fun r2 G2 hhr2 => ?_)
    show sg_Wp 200 228 (d + 1) m_M_digest 48 [(0, 2, 200), (1, 1, v1), (3, 0, v3)] [(0, r2), (1, sg_lmul 31 v1)] G2 Q
    refine sg_blk [(53, 0, 0, 0, 0), (44, 0, 0, 0, 0), (27, 0, 0, 1, 0), (31, 1, 0, 3, 0)] (by decide +kernel) ?_
    refine And.intro rfl (And.intro rfl (?_))
    show sg_Wp 200 228 (d + 1) m_M_digest 54 [(0, 2, 200), (1, 1, sg_ladd (sg_lmul 31 v1) r2), (3, 0, sg_iadd v3 1)] [] G2 Q
    refine sg_goto (off := -21) (tgt := 33) (by decide +kernel) (by decide) ?_
    exact hhr2
set_option maxRecDepth 100000 in
theorem g_M_digest_59 {d : Nat} {v1 v3 : Int} {G : SgM} {Q : Int → SgM → Prop} (h : ((G 200 7) ≤ v3 → (sg_Wp 200 228 (d + 1) m_M_digest 82 [(0, 2, 200), (1, 1, v1), (3, 0, 0)] [] G Q)) ∧ (¬ ((G 200 7) ≤ v3) → (sg_Wp 200 228 d m_M_tellsPost 0 [(0, 2, 200), (1, 1, v1), (3, 0, v3)] [] G (fun r3 G3 => sg_Wp 200 228 (d + 1) m_M_digest 59 [(0, 2, 200), (1, 1, r3), (3, 0, sg_iadd v3 1)] [] G3 Q)))) : sg_Wp 200 228 (d + 1) m_M_digest 59 [(0, 2, 200), (1, 1, v1), (3, 0, v3)] [] G Q := by
  refine sg_blk [(3, 0, 0, 3, 0), (1, 0, 0, 0, 0), (15, 0, 11, 134, 7)] (by decide +kernel) ?_
  refine And.intro rfl (And.intro (Nat.le_of_ble_eq_true rfl) (And.intro ce_200 (?_)))
  show sg_Wp 200 228 (d + 1) m_M_digest 64 [(0, 2, 200), (1, 1, v1), (3, 0, v3)] [(0, G 200 7), (0, v3)] G Q
  refine sg_icmp_ge (off := 16) (tgt := 80) (by decide +kernel) (by decide) ⟨fun q3 => ?_, fun q3 => ?_⟩
  · refine sg_blk [(7, 0, 0, 0, 0), (25, 0, 0, 3, 0)] (by decide +kernel) ?_
    refine And.intro rfl (And.intro rfl (?_))
    show sg_Wp 200 228 (d + 1) m_M_digest 82 [(0, 2, 200), (1, 1, v1), (3, 0, 0)] [] G Q
    exact (h.1 q3)
  · refine sg_blk [(1, 0, 0, 0, 0), (5, 0, 0, 1, 0), (3, 0, 0, 3, 0)] (by decide +kernel) ?_
    refine And.intro (Nat.le_of_ble_eq_true rfl) (And.intro rfl (And.intro rfl (?_)))
    show sg_Wp 200 228 (d + 1) m_M_digest 70 [(0, 2, 200), (1, 1, v1), (3, 0, v3)] [(0, v3), (1, v1), (2, 200)] G Q
    refine sg_callV (k := d) (y' := m_M_tellsPost) (av := [(1, v1), (0, v3)]) (rest := []) (b := 200) (by decide +kernel) cv_M_tellsPost ml_11_337 ce_200 rfl rfl (Nat.le_of_ble_eq_true rfl) (Nat.lt_succ_self d) (Nat.le_of_ble_eq_true rfl) rfl ?_
    show sg_Wp 200 228 d m_M_tellsPost 0 [(0, 2, 200), (1, 1, v1), (3, 0, v3)] [] G _
    refine sg_Wp.mono ((h.2 q3)) (fun r3 G3 hhr3 => ?_)
    show sg_Wp 200 228 (d + 1) m_M_digest 73 [(0, 2, 200), (1, 1, v1), (3, 0, v3)] [(1, r3)] G3 Q
    refine sg_blk [(27, 0, 0, 1, 0), (31, 1, 0, 3, 0)] (by decide +kernel) ?_
    refine And.intro rfl (And.intro rfl (?_))
    show sg_Wp 200 228 (d + 1) m_M_digest 77 [(0, 2, 200), (1, 1, r3), (3, 0, sg_iadd v3 1)] [] G3 Q
    refine sg_goto (off := -18) (tgt := 59) (by decide +kernel) (by decide) ?_
    exact hhr3
set_option maxRecDepth 100000 in
theorem g_M_digest_82 {d : Nat} {v1 v3 : Int} {G : SgM} {Q : Int → SgM → Prop} (h : ((G 200 9) ≤ v3 → (sg_Wp 200 228 d m_M_lives 0 [(0, 2, 200)] [] G (fun r4 G4 => sg_Wp 200 228 (d + 1) m_M_digest 109 [(0, 2, 200), (1, 1, v1), (3, 0, 0)] [] G4 Q))) ∧ (¬ ((G 200 9) ≤ v3) → (sg_Wp 200 228 d m_M_tellsPerson 0 [(0, 2, 200), (1, 1, v1), (3, 0, v3)] [] G (fun r5 G5 => sg_Wp 200 228 (d + 1) m_M_digest 82 [(0, 2, 200), (1, 1, r5), (3, 0, sg_iadd v3 1)] [] G5 Q)))) : sg_Wp 200 228 (d + 1) m_M_digest 82 [(0, 2, 200), (1, 1, v1), (3, 0, v3)] [] G Q := by
  refine sg_blk [(3, 0, 0, 3, 0), (1, 0, 0, 0, 0), (15, 0, 11, 140, 9)] (by decide +kernel) ?_
  refine And.intro rfl (And.intro (Nat.le_of_ble_eq_true rfl) (And.intro ce_200 (?_)))
  show sg_Wp 200 228 (d + 1) m_M_digest 87 [(0, 2, 200), (1, 1, v1), (3, 0, v3)] [(0, G 200 9), (0, v3)] G Q
  refine sg_icmp_ge (off := 16) (tgt := 103) (by decide +kernel) (by decide) ⟨fun q4 => ?_, fun q4 => ?_⟩
  · refine sg_blk [(1, 0, 0, 0, 0)] (by decide +kernel) ?_
    refine And.intro (Nat.le_of_ble_eq_true rfl) (?_)
    show sg_Wp 200 228 (d + 1) m_M_digest 104 [(0, 2, 200), (1, 1, v1), (3, 0, v3)] [(2, 200)] G Q
    refine sg_callV (k := d) (y' := m_M_lives) (av := []) (rest := []) (b := 200) (by decide +kernel) cv_M_lives ml_11_214 ce_200 rfl rfl (Nat.le_of_ble_eq_true rfl) (Nat.lt_succ_self d) (Nat.le_of_ble_eq_true rfl) rfl ?_
    show sg_Wp 200 228 d m_M_lives 0 [(0, 2, 200)] [] G _
    refine sg_Wp.mono ((h.1 q4)) (fun r4 G4 hhr4 => ?_)
    show sg_Wp 200 228 (d + 1) m_M_digest 107 [(0, 2, 200), (1, 1, v1), (3, 0, v3)] [] G4 Q
    refine sg_blk [(7, 0, 0, 0, 0), (25, 0, 0, 3, 0)] (by decide +kernel) ?_
    refine And.intro rfl (And.intro rfl (?_))
    show sg_Wp 200 228 (d + 1) m_M_digest 109 [(0, 2, 200), (1, 1, v1), (3, 0, 0)] [] G4 Q
    exact hhr4
  · refine sg_blk [(1, 0, 0, 0, 0), (5, 0, 0, 1, 0), (3, 0, 0, 3, 0)] (by decide +kernel) ?_
    refine And.intro (Nat.le_of_ble_eq_true rfl) (And.intro rfl (And.intro rfl (?_)))
    show sg_Wp 200 228 (d + 1) m_M_digest 93 [(0, 2, 200), (1, 1, v1), (3, 0, v3)] [(0, v3), (1, v1), (2, 200)] G Q
    refine sg_callV (k := d) (y' := m_M_tellsPerson) (av := [(1, v1), (0, v3)]) (rest := []) (b := 200) (by decide +kernel) cv_M_tellsPerson ml_11_341 ce_200 rfl rfl (Nat.le_of_ble_eq_true rfl) (Nat.lt_succ_self d) (Nat.le_of_ble_eq_true rfl) rfl ?_
    show sg_Wp 200 228 d m_M_tellsPerson 0 [(0, 2, 200), (1, 1, v1), (3, 0, v3)] [] G _
    refine sg_Wp.mono ((h.2 q4)) (fun r5 G5 hhr5 => ?_)
    show sg_Wp 200 228 (d + 1) m_M_digest 96 [(0, 2, 200), (1, 1, v1), (3, 0, v3)] [(1, r5)] G5 Q
    refine sg_blk [(27, 0, 0, 1, 0), (31, 1, 0, 3, 0)] (by decide +kernel) ?_
    refine And.intro rfl (And.intro rfl (?_))
    show sg_Wp 200 228 (d + 1) m_M_digest 100 [(0, 2, 200), (1, 1, r5), (3, 0, sg_iadd v3 1)] [] G5 Q
    refine sg_goto (off := -18) (tgt := 82) (by decide +kernel) (by decide) ?_
    exact hhr5
set_option maxRecDepth 100000 in
theorem g_M_digest_109 {d : Nat} {v1 v3 : Int} {G : SgM} {Q : Int → SgM → Prop} (h : (24 ≤ v3 → (sg_Wp 200 228 d m_M_forgottenNow 0 [(0, 2, 200)] [] G (fun r6 G6 => sg_Wp 200 228 (d + 1) m_M_digest 148 [(0, 2, 200), (1, 1, sg_ladd (sg_lmul 31 v1) r6), (3, 0, 0)] [] G6 Q))) ∧ (¬ (24 ≤ v3) → (sg_Wp 200 228 d m_M_changesIn 0 [(0, 2, 200), (1, 0, v3)] [] G (fun r7 G7 => sg_Wp 200 228 (d + 1) m_M_digest 109 [(0, 2, 200), (1, 1, sg_ladd (sg_lmul 31 v1) r7), (3, 0, sg_iadd v3 1)] [] G7 Q)))) : sg_Wp 200 228 (d + 1) m_M_digest 109 [(0, 2, 200), (1, 1, v1), (3, 0, v3)] [] G Q := by
  refine sg_blk [(3, 0, 0, 3, 0), (8, 24, 0, 0, 0)] (by decide +kernel) ?_
  refine And.intro rfl (And.intro rfl (And.intro rfl (?_)))
  show sg_Wp 200 228 (d + 1) m_M_digest 112 [(0, 2, 200), (1, 1, v1), (3, 0, v3)] [(0, 24), (0, v3)] G Q
  refine sg_icmp_ge (off := 22) (tgt := 134) (by decide +kernel) (by decide) ⟨fun q5 => ?_, fun q5 => ?_⟩
  · refine sg_blk [(12, 31, 0, 323, 0), (5, 0, 0, 1, 0), (46, 0, 0, 0, 0), (1, 0, 0, 0, 0)] (by decide +kernel) ?_
    refine And.intro rfl (And.intro rfl (And.intro (Nat.le_of_ble_eq_true rfl) (?_)))
    show sg_Wp 200 228 (d + 1) m_M_digest 140 [(0, 2, 200), (1, 1, v1), (3, 0, v3)] [(2, 200), (1, sg_lmul 31 v1)] G Q
    refine sg_callV (k := d) (y' := m_M_forgottenNow) (av := []) (rest := [(1, sg_lmul 31 v1)]) (b := 200) (by decide +kernel) cv_M_forgottenNow ml_11_229 ce_200 rfl rfl (Nat.le_of_ble_eq_true rfl) (Nat.lt_succ_self d) (Nat.le_of_ble_eq_true rfl) rfl ?_
    show sg_Wp 200 228 d m_M_forgottenNow 0 [(0, 2, 200)] [] G _
    refine sg_Wp.mono ((h.1 q5)) (fun r6 G6 hhr6 => ?_)
    show sg_Wp 200 228 (d + 1) m_M_digest 143 [(0, 2, 200), (1, 1, v1), (3, 0, v3)] [(0, r6), (1, sg_lmul 31 v1)] G6 Q
    refine sg_blk [(53, 0, 0, 0, 0), (44, 0, 0, 0, 0), (27, 0, 0, 1, 0), (7, 0, 0, 0, 0), (25, 0, 0, 3, 0)] (by decide +kernel) ?_
    refine And.intro rfl (And.intro rfl (And.intro rfl (?_)))
    show sg_Wp 200 228 (d + 1) m_M_digest 148 [(0, 2, 200), (1, 1, sg_ladd (sg_lmul 31 v1) r6), (3, 0, 0)] [] G6 Q
    exact hhr6
  · refine sg_blk [(12, 31, 0, 323, 0), (5, 0, 0, 1, 0), (46, 0, 0, 0, 0), (1, 0, 0, 0, 0), (3, 0, 0, 3, 0)] (by decide +kernel) ?_
    refine And.intro rfl (And.intro rfl (And.intro (Nat.le_of_ble_eq_true rfl) (And.intro rfl (?_))))
    show sg_Wp 200 228 (d + 1) m_M_digest 122 [(0, 2, 200), (1, 1, v1), (3, 0, v3)] [(0, v3), (2, 200), (1, sg_lmul 31 v1)] G Q
    refine sg_callV (k := d) (y' := m_M_changesIn) (av := [(0, v3)]) (rest := [(1, sg_lmul 31 v1)]) (b := 200) (by decide +kernel) cv_M_changesIn ml_11_226 ce_200 rfl rfl (Nat.le_of_ble_eq_true rfl) (Nat.lt_succ_self d) (Nat.le_of_ble_eq_true rfl) rfl ?_
    show sg_Wp 200 228 d m_M_changesIn 0 [(0, 2, 200), (1, 0, v3)] [] G _
    refine sg_Wp.mono ((h.2 q5)) (fun r7 G7 hhr7 => ?_)
    show sg_Wp 200 228 (d + 1) m_M_digest 125 [(0, 2, 200), (1, 1, v1), (3, 0, v3)] [(0, r7), (1, sg_lmul 31 v1)] G7 Q
    refine sg_blk [(53, 0, 0, 0, 0), (44, 0, 0, 0, 0), (27, 0, 0, 1, 0), (31, 1, 0, 3, 0)] (by decide +kernel) ?_
    refine And.intro rfl (And.intro rfl (?_))
    show sg_Wp 200 228 (d + 1) m_M_digest 131 [(0, 2, 200), (1, 1, sg_ladd (sg_lmul 31 v1) r7), (3, 0, sg_iadd v3 1)] [] G7 Q
    refine sg_goto (off := -22) (tgt := 109) (by decide +kernel) (by decide) ?_
    exact hhr7
set_option maxRecDepth 100000 in
theorem g_M_digest_148 {d : Nat} {v1 v3 : Int} {G : SgM} {Q : Int → SgM → Prop} (h : (3 ≤ v3 → (sg_Wp 200 228 d m_M_busyNow 0 [(0, 2, 200)] [] G (fun r8 G8 => sg_Wp 200 228 d m_M_quietNow 0 [(0, 2, 200)] [] G8 (fun r9 G9 => sg_Wp 200 228 d m_M_dustOf 0 [(0, 2, 200), (1, 0, 8), (2, 0, 0)] [] G9 (fun r10 G10 => sg_Wp 200 228 d m_M_dustOf 0 [(0, 2, 200), (1, 0, 8), (2, 0, 1)] [] G10 (fun r11 G11 => sg_Wp 200 228 d m_M_hushOf 0 [(0, 2, 200), (1, 0, 8), (2, 0, 0)] [] G11 (fun r12 G12 => sg_Wp 200 228 d m_M_hushOf 0 [(0, 2, 200), (1, 0, 8), (2, 0, 1)] [] G12 (fun r13 G13 => sg_Wp 200 228 d m_M_spareBy 0 [(0, 2, 200), (1, 0, (-1))] [] G13 (fun r14 G14 => sg_Wp 200 228 d m_M_spareBy 0 [(0, 2, 200), (1, 0, 0)] [] G14 (fun r15 G15 => sg_Wp 200 228 d m_M_neverNow 0 [(0, 2, 200)] [] G15 (fun r16 G16 => sg_Wp 200 228 d m_M_decadesOf 0 [(0, 2, 200), (1, 0, 7), (2, 0, 6), (3, 0, 0)] [] G16 (fun r17 G17 => sg_Wp 200 228 d m_M_decadesOf 0 [(0, 2, 200), (1, 0, 7), (2, 0, 6), (3, 0, 1)] [] G17 (fun r18 G18 => Q (sg_ladd (sg_lmul 31 (sg_ladd (sg_lmul 31 (sg_ladd (sg_lmul 31 (sg_ladd (sg_lmul 31 (sg_ladd (sg_lmul 31 (sg_ladd (sg_lmul 31 (sg_ladd (sg_lmul 31 (sg_ladd (sg_lmul 31 (sg_ladd (sg_lmul 31 (sg_ladd (sg_lmul 31 (sg_ladd (sg_lmul 31 v1) r8)) r9)) r10)) r11)) r12)) r13)) r14)) r15)) r16)) r17)) r18) G18))))))))))))) ∧ (¬ (3 ≤ v3) → (sg_Wp 200 228 d m_M_longestBy 0 [(0, 2, 200), (1, 0, v3)] [] G (fun r19 G19 => sg_Wp 200 228 (d + 1) m_M_digest 148 [(0, 2, 200), (1, 1, sg_ladd (sg_lmul 31 v1) r19), (3, 0, sg_iadd v3 1)] [] G19 Q)))) : sg_Wp 200 228 (d + 1) m_M_digest 148 [(0, 2, 200), (1, 1, v1), (3, 0, v3)] [] G Q := by
  refine sg_blk [(3, 0, 0, 3, 0), (7, 3, 0, 0, 0)] (by decide +kernel) ?_
  refine And.intro rfl (And.intro rfl (?_))
  show sg_Wp 200 228 (d + 1) m_M_digest 150 [(0, 2, 200), (1, 1, v1), (3, 0, v3)] [(0, 3), (0, v3)] G Q
  refine sg_icmp_ge (off := 22) (tgt := 172) (by decide +kernel) (by decide) ⟨fun q6 => ?_, fun q6 => ?_⟩
  · refine sg_blk [(12, 31, 0, 323, 0), (5, 0, 0, 1, 0), (46, 0, 0, 0, 0), (1, 0, 0, 0, 0)] (by decide +kernel) ?_
    refine And.intro rfl (And.intro rfl (And.intro (Nat.le_of_ble_eq_true rfl) (?_)))
    show sg_Wp 200 228 (d + 1) m_M_digest 178 [(0, 2, 200), (1, 1, v1), (3, 0, v3)] [(2, 200), (1, sg_lmul 31 v1)] G Q
    refine sg_callV (k := d) (y' := m_M_busyNow) (av := []) (rest := [(1, sg_lmul 31 v1)]) (b := 200) (by decide +kernel) cv_M_busyNow ml_11_241 ce_200 rfl rfl (Nat.le_of_ble_eq_true rfl) (Nat.lt_succ_self d) (Nat.le_of_ble_eq_true rfl) rfl ?_
    show sg_Wp 200 228 d m_M_busyNow 0 [(0, 2, 200)] [] G _
    refine sg_Wp.mono ((h.1 q6)) (fun r8 G8 hhr8 => ?_)
    show sg_Wp 200 228 (d + 1) m_M_digest 181 [(0, 2, 200), (1, 1, v1), (3, 0, v3)] [(0, r8), (1, sg_lmul 31 v1)] G8 Q
    refine sg_blk [(53, 0, 0, 0, 0), (44, 0, 0, 0, 0), (27, 0, 0, 1, 0), (12, 31, 0, 323, 0), (5, 0, 0, 1, 0), (46, 0, 0, 0, 0), (1, 0, 0, 0, 0)] (by decide +kernel) ?_
    refine And.intro rfl (And.intro rfl (And.intro rfl (And.intro (Nat.le_of_ble_eq_true rfl) (?_))))
    show sg_Wp 200 228 (d + 1) m_M_digest 190 [(0, 2, 200), (1, 1, sg_ladd (sg_lmul 31 v1) r8), (3, 0, v3)] [(2, 200), (1, sg_lmul 31 (sg_ladd (sg_lmul 31 v1) r8))] G8 Q
    refine sg_callV (k := d) (y' := m_M_quietNow) (av := []) (rest := [(1, sg_lmul 31 (sg_ladd (sg_lmul 31 v1) r8))]) (b := 200) (by decide +kernel) cv_M_quietNow ml_11_244 ce_200 rfl rfl (Nat.le_of_ble_eq_true rfl) (Nat.lt_succ_self d) (Nat.le_of_ble_eq_true rfl) rfl ?_
    show sg_Wp 200 228 d m_M_quietNow 0 [(0, 2, 200)] [] G8 _
    refine sg_Wp.mono hhr8 (fun r9 G9 hhr9 => ?_)
    show sg_Wp 200 228 (d + 1) m_M_digest 193 [(0, 2, 200), (1, 1, sg_ladd (sg_lmul 31 v1) r8), (3, 0, v3)] [(0, r9), (1, sg_lmul 31 (sg_ladd (sg_lmul 31 v1) r8))] G9 Q
    refine sg_blk [(53, 0, 0, 0, 0), (44, 0, 0, 0, 0), (27, 0, 0, 1, 0), (12, 31, 0, 323, 0), (5, 0, 0, 1, 0), (46, 0, 0, 0, 0), (1, 0, 0, 0, 0), (8, 8, 0, 0, 0), (7, 0, 0, 0, 0)] (by decide +kernel) ?_
    refine And.intro rfl (And.intro rfl (And.intro rfl (And.intro (Nat.le_of_ble_eq_true rfl) (And.intro rfl (And.intro rfl (And.intro rfl (?_)))))))
    show sg_Wp 200 228 (d + 1) m_M_digest 205 [(0, 2, 200), (1, 1, sg_ladd (sg_lmul 31 (sg_ladd (sg_lmul 31 v1) r8)) r9), (3, 0, v3)] [(0, 0), (0, 8), (2, 200), (1, sg_lmul 31 (sg_ladd (sg_lmul 31 (sg_ladd (sg_lmul 31 v1) r8)) r9))] G9 Q
    refine sg_callV (k := d) (y' := m_M_dustOf) (av := [(0, 8), (0, 0)]) (rest := [(1, sg_lmul 31 (sg_ladd (sg_lmul 31 (sg_ladd (sg_lmul 31 v1) r8)) r9))]) (b := 200) (by decide +kernel) cv_M_dustOf ml_11_253 ce_200 rfl rfl (Nat.le_of_ble_eq_true rfl) (Nat.lt_succ_self d) (Nat.le_of_ble_eq_true rfl) rfl ?_
    show sg_Wp 200 228 d m_M_dustOf 0 [(0, 2, 200), (1, 0, 8), (2, 0, 0)] [] G9 _
    refine sg_Wp.mono hhr9 (fun r10 G10 hhr10 => ?_)
    show sg_Wp 200 228 (d + 1) m_M_digest 208 [(0, 2, 200), (1, 1, sg_ladd (sg_lmul 31 (sg_ladd (sg_lmul 31 v1) r8)) r9), (3, 0, v3)] [(0, r10), (1, sg_lmul 31 (sg_ladd (sg_lmul 31 (sg_ladd (sg_lmul 31 v1) r8)) r9))] G10 Q
    refine sg_blk [(53, 0, 0, 0, 0), (44, 0, 0, 0, 0), (27, 0, 0, 1, 0), (12, 31, 0, 323, 0), (5, 0, 0, 1, 0), (46, 0, 0, 0, 0), (1, 0, 0, 0, 0), (8, 8, 0, 0, 0), (7, 1, 0, 0, 0)] (by decide +kernel) ?_
    refine And.intro rfl (And.intro rfl (And.intro rfl (And.intro (Nat.le_of_ble_eq_true rfl) (And.intro rfl (And.intro rfl (And.intro rfl (?_)))))))
    show sg_Wp 200 228 (d + 1) m_M_digest 220 [(0, 2, 200), (1, 1, sg_ladd (sg_lmul 31 (sg_ladd (sg_lmul 31 (sg_ladd (sg_lmul 31 v1) r8)) r9)) r10), (3, 0, v3)] [(0, 1), (0, 8), (2, 200), (1, sg_lmul 31 (sg_ladd (sg_lmul 31 (sg_ladd (sg_lmul 31 (sg_ladd (sg_lmul 31 v1) r8)) r9)) r10))] G10 Q
    refine sg_callV (k := d) (y' := m_M_dustOf) (av := [(0, 8), (0, 1)]) (rest := [(1, sg_lmul 31 (sg_ladd (sg_lmul 31 (sg_ladd (sg_lmul 31 (sg_ladd (sg_lmul 31 v1) r8)) r9)) r10))]) (b := 200) (by decide +kernel) cv_M_dustOf ml_11_253 ce_200 rfl rfl (Nat.le_of_ble_eq_true rfl) (Nat.lt_succ_self d) (Nat.le_of_ble_eq_true rfl) rfl ?_
    show sg_Wp 200 228 d m_M_dustOf 0 [(0, 2, 200), (1, 0, 8), (2, 0, 1)] [] G10 _
    refine sg_Wp.mono hhr10 (fun r11 G11 hhr11 => ?_)
    show sg_Wp 200 228 (d + 1) m_M_digest 223 [(0, 2, 200), (1, 1, sg_ladd (sg_lmul 31 (sg_ladd (sg_lmul 31 (sg_ladd (sg_lmul 31 v1) r8)) r9)) r10), (3, 0, v3)] [(0, r11), (1, sg_lmul 31 (sg_ladd (sg_lmul 31 (sg_ladd (sg_lmul 31 (sg_ladd (sg_lmul 31 v1) r8)) r9)) r10))] G11 Q
    refine sg_blk [(53, 0, 0, 0, 0), (44, 0, 0, 0, 0), (27, 0, 0, 1, 0), (12, 31, 0, 323, 0), (5, 0, 0, 1, 0), (46, 0, 0, 0, 0), (1, 0, 0, 0, 0), (8, 8, 0, 0, 0), (7, 0, 0, 0, 0)] (by decide +kernel) ?_
    refine And.intro rfl (And.intro rfl (And.intro rfl (And.intro (Nat.le_of_ble_eq_true rfl) (And.intro rfl (And.intro rfl (And.intro rfl (?_)))))))
    show sg_Wp 200 228 (d + 1) m_M_digest 235 [(0, 2, 200), (1, 1, sg_ladd (sg_lmul 31 (sg_ladd (sg_lmul 31 (sg_ladd (sg_lmul 31 (sg_ladd (sg_lmul 31 v1) r8)) r9)) r10)) r11), (3, 0, v3)] [(0, 0), (0, 8), (2, 200), (1, sg_lmul 31 (sg_ladd (sg_lmul 31 (sg_ladd (sg_lmul 31 (sg_ladd (sg_lmul 31 (sg_ladd (sg_lmul 31 v1) r8)) r9)) r10)) r11))] G11 Q
    refine sg_callV (k := d) (y' := m_M_hushOf) (av := [(0, 8), (0, 0)]) (rest := [(1, sg_lmul 31 (sg_ladd (sg_lmul 31 (sg_ladd (sg_lmul 31 (sg_ladd (sg_lmul 31 (sg_ladd (sg_lmul 31 v1) r8)) r9)) r10)) r11))]) (b := 200) (by decide +kernel) cv_M_hushOf ml_11_256 ce_200 rfl rfl (Nat.le_of_ble_eq_true rfl) (Nat.lt_succ_self d) (Nat.le_of_ble_eq_true rfl) rfl ?_
    show sg_Wp 200 228 d m_M_hushOf 0 [(0, 2, 200), (1, 0, 8), (2, 0, 0)] [] G11 _
    refine sg_Wp.mono hhr11 (fun r12 G12 hhr12 => ?_)
    show sg_Wp 200 228 (d + 1) m_M_digest 238 [(0, 2, 200), (1, 1, sg_ladd (sg_lmul 31 (sg_ladd (sg_lmul 31 (sg_ladd (sg_lmul 31 (sg_ladd (sg_lmul 31 v1) r8)) r9)) r10)) r11), (3, 0, v3)] [(0, r12), (1, sg_lmul 31 (sg_ladd (sg_lmul 31 (sg_ladd (sg_lmul 31 (sg_ladd (sg_lmul 31 (sg_ladd (sg_lmul 31 v1) r8)) r9)) r10)) r11))] G12 Q
    refine sg_blk [(53, 0, 0, 0, 0), (44, 0, 0, 0, 0), (27, 0, 0, 1, 0), (12, 31, 0, 323, 0), (5, 0, 0, 1, 0), (46, 0, 0, 0, 0), (1, 0, 0, 0, 0), (8, 8, 0, 0, 0), (7, 1, 0, 0, 0)] (by decide +kernel) ?_
    refine And.intro rfl (And.intro rfl (And.intro rfl (And.intro (Nat.le_of_ble_eq_true rfl) (And.intro rfl (And.intro rfl (And.intro rfl (?_)))))))
    show sg_Wp 200 228 (d + 1) m_M_digest 250 [(0, 2, 200), (1, 1, sg_ladd (sg_lmul 31 (sg_ladd (sg_lmul 31 (sg_ladd (sg_lmul 31 (sg_ladd (sg_lmul 31 (sg_ladd (sg_lmul 31 v1) r8)) r9)) r10)) r11)) r12), (3, 0, v3)] [(0, 1), (0, 8), (2, 200), (1, sg_lmul 31 (sg_ladd (sg_lmul 31 (sg_ladd (sg_lmul 31 (sg_ladd (sg_lmul 31 (sg_ladd (sg_lmul 31 (sg_ladd (sg_lmul 31 v1) r8)) r9)) r10)) r11)) r12))] G12 Q
    refine sg_callV (k := d) (y' := m_M_hushOf) (av := [(0, 8), (0, 1)]) (rest := [(1, sg_lmul 31 (sg_ladd (sg_lmul 31 (sg_ladd (sg_lmul 31 (sg_ladd (sg_lmul 31 (sg_ladd (sg_lmul 31 (sg_ladd (sg_lmul 31 v1) r8)) r9)) r10)) r11)) r12))]) (b := 200) (by decide +kernel) cv_M_hushOf ml_11_256 ce_200 rfl rfl (Nat.le_of_ble_eq_true rfl) (Nat.lt_succ_self d) (Nat.le_of_ble_eq_true rfl) rfl ?_
    show sg_Wp 200 228 d m_M_hushOf 0 [(0, 2, 200), (1, 0, 8), (2, 0, 1)] [] G12 _
    refine sg_Wp.mono hhr12 (fun r13 G13 hhr13 => ?_)
    show sg_Wp 200 228 (d + 1) m_M_digest 253 [(0, 2, 200), (1, 1, sg_ladd (sg_lmul 31 (sg_ladd (sg_lmul 31 (sg_ladd (sg_lmul 31 (sg_ladd (sg_lmul 31 (sg_ladd (sg_lmul 31 v1) r8)) r9)) r10)) r11)) r12), (3, 0, v3)] [(0, r13), (1, sg_lmul 31 (sg_ladd (sg_lmul 31 (sg_ladd (sg_lmul 31 (sg_ladd (sg_lmul 31 (sg_ladd (sg_lmul 31 (sg_ladd (sg_lmul 31 v1) r8)) r9)) r10)) r11)) r12))] G13 Q
    refine sg_blk [(53, 0, 0, 0, 0), (44, 0, 0, 0, 0), (27, 0, 0, 1, 0), (12, 31, 0, 323, 0), (5, 0, 0, 1, 0), (46, 0, 0, 0, 0), (1, 0, 0, 0, 0), (7, (-1), 0, 0, 0)] (by decide +kernel) ?_
    refine And.intro rfl (And.intro rfl (And.intro rfl (And.intro (Nat.le_of_ble_eq_true rfl) (And.intro rfl (?_)))))
    show sg_Wp 200 228 (d + 1) m_M_digest 263 [(0, 2, 200), (1, 1, sg_ladd (sg_lmul 31 (sg_ladd (sg_lmul 31 (sg_ladd (sg_lmul 31 (sg_ladd (sg_lmul 31 (sg_ladd (sg_lmul 31 (sg_ladd (sg_lmul 31 v1) r8)) r9)) r10)) r11)) r12)) r13), (3, 0, v3)] [(0, (-1)), (2, 200), (1, sg_lmul 31 (sg_ladd (sg_lmul 31 (sg_ladd (sg_lmul 31 (sg_ladd (sg_lmul 31 (sg_ladd (sg_lmul 31 (sg_ladd (sg_lmul 31 (sg_ladd (sg_lmul 31 v1) r8)) r9)) r10)) r11)) r12)) r13))] G13 Q
    refine sg_callV (k := d) (y' := m_M_spareBy) (av := [(0, (-1))]) (rest := [(1, sg_lmul 31 (sg_ladd (sg_lmul 31 (sg_ladd (sg_lmul 31 (sg_ladd (sg_lmul 31 (sg_ladd (sg_lmul 31 (sg_ladd (sg_lmul 31 (sg_ladd (sg_lmul 31 v1) r8)) r9)) r10)) r11)) r12)) r13))]) (b := 200) (by decide +kernel) cv_M_spareBy ml_11_264 ce_200 rfl rfl (Nat.le_of_ble_eq_true rfl) (Nat.lt_succ_self d) (Nat.le_of_ble_eq_true rfl) rfl ?_
    show sg_Wp 200 228 d m_M_spareBy 0 [(0, 2, 200), (1, 0, (-1))] [] G13 _
    refine sg_Wp.mono hhr13 (fun r14 G14 hhr14 => ?_)
    show sg_Wp 200 228 (d + 1) m_M_digest 266 [(0, 2, 200), (1, 1, sg_ladd (sg_lmul 31 (sg_ladd (sg_lmul 31 (sg_ladd (sg_lmul 31 (sg_ladd (sg_lmul 31 (sg_ladd (sg_lmul 31 (sg_ladd (sg_lmul 31 v1) r8)) r9)) r10)) r11)) r12)) r13), (3, 0, v3)] [(0, r14), (1, sg_lmul 31 (sg_ladd (sg_lmul 31 (sg_ladd (sg_lmul 31 (sg_ladd (sg_lmul 31 (sg_ladd (sg_lmul 31 (sg_ladd (sg_lmul 31 (sg_ladd (sg_lmul 31 v1) r8)) r9)) r10)) r11)) r12)) r13))] G14 Q
    refine sg_blk [(53, 0, 0, 0, 0), (44, 0, 0, 0, 0), (27, 0, 0, 1, 0), (12, 31, 0, 323, 0), (5, 0, 0, 1, 0), (46, 0, 0, 0, 0), (1, 0, 0, 0, 0), (7, 0, 0, 0, 0)] (by decide +kernel) ?_
    refine And.intro rfl (And.intro rfl (And.intro rfl (And.intro (Nat.le_of_ble_eq_true rfl) (And.intro rfl (?_)))))
    show sg_Wp 200 228 (d + 1) m_M_digest 276 [(0, 2, 200), (1, 1, sg_ladd (sg_lmul 31 (sg_ladd (sg_lmul 31 (sg_ladd (sg_lmul 31 (sg_ladd (sg_lmul 31 (sg_ladd (sg_lmul 31 (sg_ladd (sg_lmul 31 (sg_ladd (sg_lmul 31 v1) r8)) r9)) r10)) r11)) r12)) r13)) r14), (3, 0, v3)] [(0, 0), (2, 200), (1, sg_lmul 31 (sg_ladd (sg_lmul 31 (sg_ladd (sg_lmul 31 (sg_ladd (sg_lmul 31 (sg_ladd (sg_lmul 31 (sg_ladd (sg_lmul 31 (sg_ladd (sg_lmul 31 (sg_ladd (sg_lmul 31 v1) r8)) r9)) r10)) r11)) r12)) r13)) r14))] G14 Q
    refine sg_callV (k := d) (y' := m_M_spareBy) (av := [(0, 0)]) (rest := [(1, sg_lmul 31 (sg_ladd (sg_lmul 31 (sg_ladd (sg_lmul 31 (sg_ladd (sg_lmul 31 (sg_ladd (sg_lmul 31 (sg_ladd (sg_lmul 31 (sg_ladd (sg_lmul 31 (sg_ladd (sg_lmul 31 v1) r8)) r9)) r10)) r11)) r12)) r13)) r14))]) (b := 200) (by decide +kernel) cv_M_spareBy ml_11_264 ce_200 rfl rfl (Nat.le_of_ble_eq_true rfl) (Nat.lt_succ_self d) (Nat.le_of_ble_eq_true rfl) rfl ?_
    show sg_Wp 200 228 d m_M_spareBy 0 [(0, 2, 200), (1, 0, 0)] [] G14 _
    refine sg_Wp.mono hhr14 (fun r15 G15 hhr15 => ?_)
    show sg_Wp 200 228 (d + 1) m_M_digest 279 [(0, 2, 200), (1, 1, sg_ladd (sg_lmul 31 (sg_ladd (sg_lmul 31 (sg_ladd (sg_lmul 31 (sg_ladd (sg_lmul 31 (sg_ladd (sg_lmul 31 (sg_ladd (sg_lmul 31 (sg_ladd (sg_lmul 31 v1) r8)) r9)) r10)) r11)) r12)) r13)) r14), (3, 0, v3)] [(0, r15), (1, sg_lmul 31 (sg_ladd (sg_lmul 31 (sg_ladd (sg_lmul 31 (sg_ladd (sg_lmul 31 (sg_ladd (sg_lmul 31 (sg_ladd (sg_lmul 31 (sg_ladd (sg_lmul 31 (sg_ladd (sg_lmul 31 v1) r8)) r9)) r10)) r11)) r12)) r13)) r14))] G15 Q
    refine sg_blk [(53, 0, 0, 0, 0), (44, 0, 0, 0, 0), (27, 0, 0, 1, 0), (12, 31, 0, 323, 0), (5, 0, 0, 1, 0), (46, 0, 0, 0, 0), (1, 0, 0, 0, 0)] (by decide +kernel) ?_
    refine And.intro rfl (And.intro rfl (And.intro rfl (And.intro (Nat.le_of_ble_eq_true rfl) (?_))))
    show sg_Wp 200 228 (d + 1) m_M_digest 288 [(0, 2, 200), (1, 1, sg_ladd (sg_lmul 31 (sg_ladd (sg_lmul 31 (sg_ladd (sg_lmul 31 (sg_ladd (sg_lmul 31 (sg_ladd (sg_lmul 31 (sg_ladd (sg_lmul 31 (sg_ladd (sg_lmul 31 (sg_ladd (sg_lmul 31 v1) r8)) r9)) r10)) r11)) r12)) r13)) r14)) r15), (3, 0, v3)] [(2, 200), (1, sg_lmul 31 (sg_ladd (sg_lmul 31 (sg_ladd (sg_lmul 31 (sg_ladd (sg_lmul 31 (sg_ladd (sg_lmul 31 (sg_ladd (sg_lmul 31 (sg_ladd (sg_lmul 31 (sg_ladd (sg_lmul 31 (sg_ladd (sg_lmul 31 v1) r8)) r9)) r10)) r11)) r12)) r13)) r14)) r15))] G15 Q
    refine sg_callV (k := d) (y' := m_M_neverNow) (av := []) (rest := [(1, sg_lmul 31 (sg_ladd (sg_lmul 31 (sg_ladd (sg_lmul 31 (sg_ladd (sg_lmul 31 (sg_ladd (sg_lmul 31 (sg_ladd (sg_lmul 31 (sg_ladd (sg_lmul 31 (sg_ladd (sg_lmul 31 (sg_ladd (sg_lmul 31 v1) r8)) r9)) r10)) r11)) r12)) r13)) r14)) r15))]) (b := 200) (by decide +kernel) cv_M_neverNow ml_11_276 ce_200 rfl rfl (Nat.le_of_ble_eq_true rfl) (Nat.lt_succ_self d) (Nat.le_of_ble_eq_true rfl) rfl ?_
    show sg_Wp 200 228 d m_M_neverNow 0 [(0, 2, 200)] [] G15 _
    refine sg_Wp.mono hhr15 (fun r16 G16 hhr16 => ?_)
    show sg_Wp 200 228 (d + 1) m_M_digest 291 [(0, 2, 200), (1, 1, sg_ladd (sg_lmul 31 (sg_ladd (sg_lmul 31 (sg_ladd (sg_lmul 31 (sg_ladd (sg_lmul 31 (sg_ladd (sg_lmul 31 (sg_ladd (sg_lmul 31 (sg_ladd (sg_lmul 31 (sg_ladd (sg_lmul 31 v1) r8)) r9)) r10)) r11)) r12)) r13)) r14)) r15), (3, 0, v3)] [(0, r16), (1, sg_lmul 31 (sg_ladd (sg_lmul 31 (sg_ladd (sg_lmul 31 (sg_ladd (sg_lmul 31 (sg_ladd (sg_lmul 31 (sg_ladd (sg_lmul 31 (sg_ladd (sg_lmul 31 (sg_ladd (sg_lmul 31 (sg_ladd (sg_lmul 31 v1) r8)) r9)) r10)) r11)) r12)) r13)) r14)) r15))] G16 Q
    refine sg_blk [(53, 0, 0, 0, 0), (44, 0, 0, 0, 0), (27, 0, 0, 1, 0), (12, 31, 0, 323, 0), (5, 0, 0, 1, 0), (46, 0, 0, 0, 0), (1, 0, 0, 0, 0), (8, 7, 0, 0, 0), (8, 6, 0, 0, 0), (7, 0, 0, 0, 0)] (by decide +kernel) ?_
    refine And.intro rfl (And.intro rfl (And.intro rfl (And.intro (Nat.le_of_ble_eq_true rfl) (And.intro rfl (And.intro rfl (And.intro rfl (And.intro rfl (And.intro rfl (?_)))))))))
    show sg_Wp 200 228 (d + 1) m_M_digest 305 [(0, 2, 200), (1, 1, sg_ladd (sg_lmul 31 (sg_ladd (sg_lmul 31 (sg_ladd (sg_lmul 31 (sg_ladd (sg_lmul 31 (sg_ladd (sg_lmul 31 (sg_ladd (sg_lmul 31 (sg_ladd (sg_lmul 31 (sg_ladd (sg_lmul 31 (sg_ladd (sg_lmul 31 v1) r8)) r9)) r10)) r11)) r12)) r13)) r14)) r15)) r16), (3, 0, v3)] [(0, 0), (0, 6), (0, 7), (2, 200), (1, sg_lmul 31 (sg_ladd (sg_lmul 31 (sg_ladd (sg_lmul 31 (sg_ladd (sg_lmul 31 (sg_ladd (sg_lmul 31 (sg_ladd (sg_lmul 31 (sg_ladd (sg_lmul 31 (sg_ladd (sg_lmul 31 (sg_ladd (sg_lmul 31 (sg_ladd (sg_lmul 31 v1) r8)) r9)) r10)) r11)) r12)) r13)) r14)) r15)) r16))] G16 Q
    refine sg_callV (k := d) (y' := m_M_decadesOf) (av := [(0, 7), (0, 6), (0, 0)]) (rest := [(1, sg_lmul 31 (sg_ladd (sg_lmul 31 (sg_ladd (sg_lmul 31 (sg_ladd (sg_lmul 31 (sg_ladd (sg_lmul 31 (sg_ladd (sg_lmul 31 (sg_ladd (sg_lmul 31 (sg_ladd (sg_lmul 31 (sg_ladd (sg_lmul 31 (sg_ladd (sg_lmul 31 v1) r8)) r9)) r10)) r11)) r12)) r13)) r14)) r15)) r16))]) (b := 200) (by decide +kernel) cv_M_decadesOf ml_11_320 ce_200 rfl rfl (Nat.le_of_ble_eq_true rfl) (Nat.lt_succ_self d) (Nat.le_of_ble_eq_true rfl) rfl ?_
    show sg_Wp 200 228 d m_M_decadesOf 0 [(0, 2, 200), (1, 0, 7), (2, 0, 6), (3, 0, 0)] [] G16 _
    refine sg_Wp.mono hhr16 (fun r17 G17 hhr17 => ?_)
    show sg_Wp 200 228 (d + 1) m_M_digest 308 [(0, 2, 200), (1, 1, sg_ladd (sg_lmul 31 (sg_ladd (sg_lmul 31 (sg_ladd (sg_lmul 31 (sg_ladd (sg_lmul 31 (sg_ladd (sg_lmul 31 (sg_ladd (sg_lmul 31 (sg_ladd (sg_lmul 31 (sg_ladd (sg_lmul 31 (sg_ladd (sg_lmul 31 v1) r8)) r9)) r10)) r11)) r12)) r13)) r14)) r15)) r16), (3, 0, v3)] [(0, r17), (1, sg_lmul 31 (sg_ladd (sg_lmul 31 (sg_ladd (sg_lmul 31 (sg_ladd (sg_lmul 31 (sg_ladd (sg_lmul 31 (sg_ladd (sg_lmul 31 (sg_ladd (sg_lmul 31 (sg_ladd (sg_lmul 31 (sg_ladd (sg_lmul 31 (sg_ladd (sg_lmul 31 v1) r8)) r9)) r10)) r11)) r12)) r13)) r14)) r15)) r16))] G17 Q
    refine sg_blk [(53, 0, 0, 0, 0), (44, 0, 0, 0, 0), (27, 0, 0, 1, 0), (12, 31, 0, 323, 0), (5, 0, 0, 1, 0), (46, 0, 0, 0, 0), (1, 0, 0, 0, 0), (8, 7, 0, 0, 0), (8, 6, 0, 0, 0), (7, 1, 0, 0, 0)] (by decide +kernel) ?_
    refine And.intro rfl (And.intro rfl (And.intro rfl (And.intro (Nat.le_of_ble_eq_true rfl) (And.intro rfl (And.intro rfl (And.intro rfl (And.intro rfl (And.intro rfl (?_)))))))))
    show sg_Wp 200 228 (d + 1) m_M_digest 322 [(0, 2, 200), (1, 1, sg_ladd (sg_lmul 31 (sg_ladd (sg_lmul 31 (sg_ladd (sg_lmul 31 (sg_ladd (sg_lmul 31 (sg_ladd (sg_lmul 31 (sg_ladd (sg_lmul 31 (sg_ladd (sg_lmul 31 (sg_ladd (sg_lmul 31 (sg_ladd (sg_lmul 31 (sg_ladd (sg_lmul 31 v1) r8)) r9)) r10)) r11)) r12)) r13)) r14)) r15)) r16)) r17), (3, 0, v3)] [(0, 1), (0, 6), (0, 7), (2, 200), (1, sg_lmul 31 (sg_ladd (sg_lmul 31 (sg_ladd (sg_lmul 31 (sg_ladd (sg_lmul 31 (sg_ladd (sg_lmul 31 (sg_ladd (sg_lmul 31 (sg_ladd (sg_lmul 31 (sg_ladd (sg_lmul 31 (sg_ladd (sg_lmul 31 (sg_ladd (sg_lmul 31 (sg_ladd (sg_lmul 31 v1) r8)) r9)) r10)) r11)) r12)) r13)) r14)) r15)) r16)) r17))] G17 Q
    refine sg_callV (k := d) (y' := m_M_decadesOf) (av := [(0, 7), (0, 6), (0, 1)]) (rest := [(1, sg_lmul 31 (sg_ladd (sg_lmul 31 (sg_ladd (sg_lmul 31 (sg_ladd (sg_lmul 31 (sg_ladd (sg_lmul 31 (sg_ladd (sg_lmul 31 (sg_ladd (sg_lmul 31 (sg_ladd (sg_lmul 31 (sg_ladd (sg_lmul 31 (sg_ladd (sg_lmul 31 (sg_ladd (sg_lmul 31 v1) r8)) r9)) r10)) r11)) r12)) r13)) r14)) r15)) r16)) r17))]) (b := 200) (by decide +kernel) cv_M_decadesOf ml_11_320 ce_200 rfl rfl (Nat.le_of_ble_eq_true rfl) (Nat.lt_succ_self d) (Nat.le_of_ble_eq_true rfl) rfl ?_
    show sg_Wp 200 228 d m_M_decadesOf 0 [(0, 2, 200), (1, 0, 7), (2, 0, 6), (3, 0, 1)] [] G17 _
    refine sg_Wp.mono hhr17 (fun r18 G18 hhr18 => ?_)
    show sg_Wp 200 228 (d + 1) m_M_digest 325 [(0, 2, 200), (1, 1, sg_ladd (sg_lmul 31 (sg_ladd (sg_lmul 31 (sg_ladd (sg_lmul 31 (sg_ladd (sg_lmul 31 (sg_ladd (sg_lmul 31 (sg_ladd (sg_lmul 31 (sg_ladd (sg_lmul 31 (sg_ladd (sg_lmul 31 (sg_ladd (sg_lmul 31 (sg_ladd (sg_lmul 31 v1) r8)) r9)) r10)) r11)) r12)) r13)) r14)) r15)) r16)) r17), (3, 0, v3)] [(0, r18), (1, sg_lmul 31 (sg_ladd (sg_lmul 31 (sg_ladd (sg_lmul 31 (sg_ladd (sg_lmul 31 (sg_ladd (sg_lmul 31 (sg_ladd (sg_lmul 31 (sg_ladd (sg_lmul 31 (sg_ladd (sg_lmul 31 (sg_ladd (sg_lmul 31 (sg_ladd (sg_lmul 31 (sg_ladd (sg_lmul 31 v1) r8)) r9)) r10)) r11)) r12)) r13)) r14)) r15)) r16)) r17))] G18 Q
    refine sg_blk [(53, 0, 0, 0, 0), (44, 0, 0, 0, 0)] (by decide +kernel) ?_
    show sg_Wp 200 228 (d + 1) m_M_digest 327 [(0, 2, 200), (1, 1, sg_ladd (sg_lmul 31 (sg_ladd (sg_lmul 31 (sg_ladd (sg_lmul 31 (sg_ladd (sg_lmul 31 (sg_ladd (sg_lmul 31 (sg_ladd (sg_lmul 31 (sg_ladd (sg_lmul 31 (sg_ladd (sg_lmul 31 (sg_ladd (sg_lmul 31 (sg_ladd (sg_lmul 31 v1) r8)) r9)) r10)) r11)) r12)) r13)) r14)) r15)) r16)) r17), (3, 0, v3)] [(1, sg_ladd (sg_lmul 31 (sg_ladd (sg_lmul 31 (sg_ladd (sg_lmul 31 (sg_ladd (sg_lmul 31 (sg_ladd (sg_lmul 31 (sg_ladd (sg_lmul 31 (sg_ladd (sg_lmul 31 (sg_ladd (sg_lmul 31 (sg_ladd (sg_lmul 31 (sg_ladd (sg_lmul 31 (sg_ladd (sg_lmul 31 v1) r8)) r9)) r10)) r11)) r12)) r13)) r14)) r15)) r16)) r17)) r18)] G18 Q
    exact sg_lret (by decide +kernel) rfl hhr18
  · refine sg_blk [(12, 31, 0, 323, 0), (5, 0, 0, 1, 0), (46, 0, 0, 0, 0), (1, 0, 0, 0, 0), (3, 0, 0, 3, 0)] (by decide +kernel) ?_
    refine And.intro rfl (And.intro rfl (And.intro (Nat.le_of_ble_eq_true rfl) (And.intro rfl (?_))))
    show sg_Wp 200 228 (d + 1) m_M_digest 160 [(0, 2, 200), (1, 1, v1), (3, 0, v3)] [(0, v3), (2, 200), (1, sg_lmul 31 v1)] G Q
    refine sg_callV (k := d) (y' := m_M_longestBy) (av := [(0, v3)]) (rest := [(1, sg_lmul 31 v1)]) (b := 200) (by decide +kernel) cv_M_longestBy ml_11_235 ce_200 rfl rfl (Nat.le_of_ble_eq_true rfl) (Nat.lt_succ_self d) (Nat.le_of_ble_eq_true rfl) rfl ?_
    show sg_Wp 200 228 d m_M_longestBy 0 [(0, 2, 200), (1, 0, v3)] [] G _
    refine sg_Wp.mono ((h.2 q6)) (fun r19 G19 hhr19 => ?_)
    show sg_Wp 200 228 (d + 1) m_M_digest 163 [(0, 2, 200), (1, 1, v1), (3, 0, v3)] [(0, r19), (1, sg_lmul 31 v1)] G19 Q
    refine sg_blk [(53, 0, 0, 0, 0), (44, 0, 0, 0, 0), (27, 0, 0, 1, 0), (31, 1, 0, 3, 0)] (by decide +kernel) ?_
    refine And.intro rfl (And.intro rfl (?_))
    show sg_Wp 200 228 (d + 1) m_M_digest 169 [(0, 2, 200), (1, 1, sg_ladd (sg_lmul 31 v1) r19), (3, 0, sg_iadd v3 1)] [] G19 Q
    refine sg_goto (off := -21) (tgt := 148) (by decide +kernel) (by decide) ?_
    exact hhr19
set_option maxRecDepth 100000 in
theorem g_M_isSeen_0 {d : Nat} {G : SgM} {Q : Int → SgM → Prop} (h : sg_Wp 200 228 d m_M_lives 0 [(0, 2, 200)] [] G (fun r1 G1 => sg_Wp 200 228 (d + 1) m_M_isSeen 8 [(0, 2, 200), (1, 0, 1), (2, 0, 0)] [] G1 Q)) : sg_Wp 200 228 (d + 1) m_M_isSeen 0 [(0, 2, 200)] [] G Q := by
  refine sg_blk [(1, 0, 0, 0, 0)] (by decide +kernel) ?_
  refine And.intro (Nat.le_of_ble_eq_true rfl) (?_)
  show sg_Wp 200 228 (d + 1) m_M_isSeen 1 [(0, 2, 200)] [(2, 200)] G Q
  refine sg_callV (k := d) (y' := m_M_lives) (av := []) (rest := []) (b := 200) (by decide +kernel) cv_M_lives ml_11_214 ce_200 rfl rfl (Nat.le_of_ble_eq_true rfl) (Nat.lt_succ_self d) (Nat.le_of_ble_eq_true rfl) rfl ?_
  show sg_Wp 200 228 d m_M_lives 0 [(0, 2, 200)] [] G _
  refine sg_Wp.mono h (fun r1 G1 hhr1 => ?_)
  show sg_Wp 200 228 (d + 1) m_M_isSeen 4 [(0, 2, 200)] [] G1 Q
  refine sg_blk [(7, 1, 0, 0, 0), (25, 0, 0, 1, 0), (7, 0, 0, 0, 0), (25, 0, 0, 2, 0)] (by decide +kernel) ?_
  refine And.intro rfl (And.intro rfl (And.intro rfl (And.intro rfl (?_))))
  show sg_Wp 200 228 (d + 1) m_M_isSeen 8 [(0, 2, 200), (1, 0, 1), (2, 0, 0)] [] G1 Q
  exact hhr1
set_option maxRecDepth 100000 in
theorem g_M_isSeen_8 {d : Nat} {v1 v2 : Int} {G : SgM} {Q : Int → SgM → Prop} (h : ((G 200 32) ≤ v2 → ((v1 = 0 ∨ v1 = 1) ∧ Q v1 G)) ∧ (¬ ((G 200 32) ≤ v2) → ((0 ≤ (sg_iadd (sg_imul 3 v2) 1) ∧ (sg_iadd (sg_imul 3 v2) 1) < 24) ∧ ((v1 = 0 → (sg_Wp 200 228 (d + 1) m_M_isSeen 81 [(0, 2, 200), (2, 0, v2)] [] G Q)) ∧ (¬ (v1 = 0) → (sg_Wp 200 228 d m_M_isPost 0 [(0, 2, 200), (1, 0, G 225 (sg_iadd (sg_imul 3 v2) 1))] [] G (fun r2 G2 => (r2 = 0 → (sg_Wp 200 228 (d + 1) m_M_isSeen 81 [(0, 2, 200), (2, 0, v2)] [] G2 Q)) ∧ (¬ (r2 = 0) → ((0 ≤ (sg_imul 3 v2) ∧ (sg_imul 3 v2) < 24) ∧ (sg_Wp 200 228 d m_M_changesIn 0 [(0, 2, 200), (1, 0, G2 225 (sg_imul 3 v2))] [] G2 (fun r3 G3 => (0 ≤ (sg_iadd (sg_imul 3 v2) 2) ∧ (sg_iadd (sg_imul 3 v2) 2) < 24) ∧ (((G3 225 (sg_iadd (sg_imul 3 v2) 2)) ≠ 1 → (((sg_bo (sg_iand (sg_ishr r3 (G 225 (sg_iadd (sg_imul 3 v2) 1))) 1 = 1)) ≠ 0 → (sg_Wp 200 228 (d + 1) m_M_isSeen 81 [(0, 2, 200), (2, 0, v2)] [] G3 Q)) ∧ (¬ ((sg_bo (sg_iand (sg_ishr r3 (G 225 (sg_iadd (sg_imul 3 v2) 1))) 1 = 1)) ≠ 0) → (sg_Wp 200 228 (d + 1) m_M_isSeen 8 [(0, 2, 200), (1, 0, 1), (2, 0, sg_iadd v2 1)] [] G3 Q)))) ∧ (¬ ((G3 225 (sg_iadd (sg_imul 3 v2) 2)) ≠ 1) → (((sg_bo (sg_iand (sg_ishr r3 (G 225 (sg_iadd (sg_imul 3 v2) 1))) 1 = 1)) ≠ 1 → (sg_Wp 200 228 (d + 1) m_M_isSeen 81 [(0, 2, 200), (2, 0, v2)] [] G3 Q)) ∧ (¬ ((sg_bo (sg_iand (sg_ishr r3 (G 225 (sg_iadd (sg_imul 3 v2) 1))) 1 = 1)) ≠ 1) → (sg_Wp 200 228 (d + 1) m_M_isSeen 8 [(0, 2, 200), (1, 0, 1), (2, 0, sg_iadd v2 1)] [] G3 Q)))))))))))))))) : sg_Wp 200 228 (d + 1) m_M_isSeen 8 [(0, 2, 200), (1, 0, v1), (2, 0, v2)] [] G Q := by
  refine sg_blk [(3, 0, 0, 2, 0), (1, 0, 0, 0, 0), (15, 0, 11, 269, 32)] (by decide +kernel) ?_
  refine And.intro rfl (And.intro (Nat.le_of_ble_eq_true rfl) (And.intro ce_200 (?_)))
  show sg_Wp 200 228 (d + 1) m_M_isSeen 13 [(0, 2, 200), (1, 0, v1), (2, 0, v2)] [(0, G 200 32), (0, v2)] G Q
  refine sg_icmp_ge (off := 76) (tgt := 89) (by decide +kernel) (by decide) ⟨fun q6 => ?_, fun q6 => ?_⟩
  · refine sg_blk [(3, 0, 0, 1, 0)] (by decide +kernel) ?_
    refine And.intro rfl (?_)
    show sg_Wp 200 228 (d + 1) m_M_isSeen 90 [(0, 2, 200), (1, 0, v1), (2, 0, v2)] [(0, v1)] G Q
    exact sg_ret (by decide +kernel) rfl (Or.inr ⟨Or.inl rfl, (h.1 q6).1⟩) (h.1 q6).2
  · refine sg_blk [(1, 0, 0, 0, 0), (65, 225, 11, 83, 33), (7, 3, 0, 0, 0), (3, 0, 0, 2, 0), (34, 0, 0, 0, 0), (7, 1, 0, 0, 0), (32, 0, 0, 0, 0), (17, 24, 0, 0, 0), (25, 0, 0, 3, 0), (3, 0, 0, 1, 0)] (by decide +kernel) ?_
    refine And.intro (Nat.le_of_ble_eq_true rfl) (And.intro ce_200 (And.intro rr_200_33 (And.intro rfl (And.intro rfl (And.intro rfl (And.intro ce_225 (And.intro (h.2 q6).1 (And.intro rfl (And.intro rfl (?_))))))))))
    show sg_Wp 200 228 (d + 1) m_M_isSeen 28 [(0, 2, 200), (1, 0, v1), (2, 0, v2), (3, 0, G 225 (sg_iadd (sg_imul 3 v2) 1))] [(0, v1)] G Q
    refine sg_if_eq (off := 53) (tgt := 81) (by decide +kernel) (by decide) ⟨fun q5 => ?_, fun q5 => ?_⟩
    · exact sg_Wp.keepk [0, 2] rfl (((h.2 q6).2.1 q5))
    · refine sg_blk [(1, 0, 0, 0, 0), (3, 0, 0, 3, 0)] (by decide +kernel) ?_
      refine And.intro (Nat.le_of_ble_eq_true rfl) (And.intro rfl (?_))
      show sg_Wp 200 228 (d + 1) m_M_isSeen 33 [(0, 2, 200), (1, 0, v1), (2, 0, v2), (3, 0, G 225 (sg_iadd (sg_imul 3 v2) 1))] [(0, G 225 (sg_iadd (sg_imul 3 v2) 1)), (2, 200)] G Q
      refine sg_callV (k := d) (y' := m_M_isPost) (av := [(0, G 225 (sg_iadd (sg_imul 3 v2) 1))]) (rest := []) (b := 200) (by decide +kernel) cv_M_isPost ml_11_158 ce_200 rfl rfl (Nat.le_of_ble_eq_true rfl) (Nat.lt_succ_self d) (Nat.le_of_ble_eq_true rfl) rfl ?_
      show sg_Wp 200 228 d m_M_isPost 0 [(0, 2, 200), (1, 0, G 225 (sg_iadd (sg_imul 3 v2) 1))] [] G _
      refine sg_Wp.mono (((h.2 q6).2.2 q5)) (fun r2 G2 hhr2 => ?_)
      show sg_Wp 200 228 (d + 1) m_M_isSeen 36 [(0, 2, 200), (1, 0, v1), (2, 0, v2), (3, 0, G 225 (sg_iadd (sg_imul 3 v2) 1))] [(0, r2)] G2 Q
      refine sg_if_eq (off := 45) (tgt := 81) (by decide +kernel) (by decide) ⟨fun q4 => ?_, fun q4 => ?_⟩
      · exact sg_Wp.keepk [0, 2] rfl ((hhr2.1 q4))
      · refine sg_blk [(1, 0, 0, 0, 0), (1, 0, 0, 0, 0), (65, 225, 11, 83, 33), (7, 3, 0, 0, 0), (3, 0, 0, 2, 0), (34, 0, 0, 0, 0), (17, 24, 0, 0, 0)] (by decide +kernel) ?_
        refine And.intro (Nat.le_of_ble_eq_true rfl) (And.intro (Nat.le_of_ble_eq_true rfl) (And.intro ce_200 (And.intro rr_200_33 (And.intro rfl (And.intro rfl (And.intro ce_225 (And.intro (hhr2.2 q4).1 (?_))))))))
        show sg_Wp 200 228 (d + 1) m_M_isSeen 48 [(0, 2, 200), (1, 0, v1), (2, 0, v2), (3, 0, G 225 (sg_iadd (sg_imul 3 v2) 1))] [(0, G2 225 (sg_imul 3 v2)), (2, 200)] G2 Q
        refine sg_callV (k := d) (y' := m_M_changesIn) (av := [(0, G2 225 (sg_imul 3 v2))]) (rest := []) (b := 200) (by decide +kernel) cv_M_changesIn ml_11_226 ce_200 rfl rfl (Nat.le_of_ble_eq_true rfl) (Nat.lt_succ_self d) (Nat.le_of_ble_eq_true rfl) rfl ?_
        show sg_Wp 200 228 d m_M_changesIn 0 [(0, 2, 200), (1, 0, G2 225 (sg_imul 3 v2))] [] G2 _
        refine sg_Wp.mono ((hhr2.2 q4).2) (fun r3 G3 hhr3 => ?_)
        show sg_Wp 200 228 (d + 1) m_M_isSeen 51 [(0, 2, 200), (1, 0, v1), (2, 0, v2), (3, 0, G 225 (sg_iadd (sg_imul 3 v2) 1))] [(0, r3)] G3 Q
        refine sg_blk [(3, 0, 0, 3, 0)] (by decide +kernel) ?_
        refine And.intro rfl (?_)
        show sg_Wp 200 228 (d + 1) m_M_isSeen 52 [(0, 2, 200), (1, 0, v1), (2, 0, v2), (3, 0, G 225 (sg_iadd (sg_imul 3 v2) 1))] [(0, G 225 (sg_iadd (sg_imul 3 v2) 1)), (0, r3)] G3 Q
        refine sg_callS (k := d) (y' := m_M_isIn) (av := [(0, r3), (0, G 225 (sg_iadd (sg_imul 3 v2) 1))]) (rest := []) (by decide +kernel) cs_M_isIn ml_11_187 rfl (Nat.le_of_ble_eq_true rfl) (Nat.lt_succ_self d) (Nat.le_of_ble_eq_true rfl) rfl ?_
        show sg_Wp 200 228 d m_M_isIn 0 [(0, 0, r3), (1, 0, G 225 (sg_iadd (sg_imul 3 v2) 1))] [] G3 _
        refine s_M_isIn ?_
        show sg_Wp 200 228 (d + 1) m_M_isSeen 55 [(0, 2, 200), (1, 0, v1), (2, 0, v2), (3, 0, G 225 (sg_iadd (sg_imul 3 v2) 1))] [(0, sg_bo (sg_iand (sg_ishr r3 (G 225 (sg_iadd (sg_imul 3 v2) 1))) 1 = 1))] G3 Q
        refine sg_blk [(1, 0, 0, 0, 0), (65, 225, 11, 83, 33), (7, 3, 0, 0, 0), (3, 0, 0, 2, 0), (34, 0, 0, 0, 0), (7, 2, 0, 0, 0), (32, 0, 0, 0, 0), (17, 24, 0, 0, 0), (7, 1, 0, 0, 0)] (by decide +kernel) ?_
        refine And.intro (Nat.le_of_ble_eq_true rfl) (And.intro ce_200 (And.intro rr_200_33 (And.intro rfl (And.intro rfl (And.intro rfl (And.intro ce_225 (And.intro hhr3.1 (And.intro rfl (?_)))))))))
        show sg_Wp 200 228 (d + 1) m_M_isSeen 66 [(0, 2, 200), (1, 0, v1), (2, 0, v2), (3, 0, G 225 (sg_iadd (sg_imul 3 v2) 1))] [(0, 1), (0, G3 225 (sg_iadd (sg_imul 3 v2) 2)), (0, sg_bo (sg_iand (sg_ishr r3 (G 225 (sg_iadd (sg_imul 3 v2) 1))) 1 = 1))] G3 Q
        refine sg_icmp_ne (off := 7) (tgt := 73) (by decide +kernel) (by decide) ⟨fun q3 => ?_, fun q3 => ?_⟩
        · refine sg_blk [(7, 0, 0, 0, 0)] (by decide +kernel) ?_
          refine And.intro rfl (?_)
          show sg_Wp 200 228 (d + 1) m_M_isSeen 74 [(0, 2, 200), (1, 0, v1), (2, 0, v2), (3, 0, G 225 (sg_iadd (sg_imul 3 v2) 1))] [(0, 0), (0, sg_bo (sg_iand (sg_ishr r3 (G 225 (sg_iadd (sg_imul 3 v2) 1))) 1 = 1))] G3 Q
          refine sg_icmp_ne (off := 7) (tgt := 81) (by decide +kernel) (by decide) ⟨fun q1 => ?_, fun q1 => ?_⟩
          · exact sg_Wp.keepk [0, 2] rfl (((hhr3.2.1 q3).1 q1))
          · refine sg_blk [(7, 1, 0, 0, 0)] (by decide +kernel) ?_
            refine And.intro rfl (?_)
            show sg_Wp 200 228 (d + 1) m_M_isSeen 78 [(0, 2, 200), (1, 0, v1), (2, 0, v2), (3, 0, G 225 (sg_iadd (sg_imul 3 v2) 1))] [(0, 1)] G3 Q
            refine sg_goto (off := 4) (tgt := 82) (by decide +kernel) (by decide) ?_
            refine sg_blk [(25, 0, 0, 1, 0), (31, 1, 0, 2, 0)] (by decide +kernel) ?_
            refine And.intro rfl (And.intro rfl (?_))
            show sg_Wp 200 228 (d + 1) m_M_isSeen 86 [(0, 2, 200), (1, 0, 1), (2, 0, sg_iadd v2 1), (3, 0, G 225 (sg_iadd (sg_imul 3 v2) 1))] [] G3 Q
            refine sg_goto (off := -78) (tgt := 8) (by decide +kernel) (by decide) ?_
            exact sg_Wp.keepk [0, 1, 2] rfl (((hhr3.2.1 q3).2 q1))
        · refine sg_blk [(7, 1, 0, 0, 0)] (by decide +kernel) ?_
          refine And.intro rfl (?_)
          show sg_Wp 200 228 (d + 1) m_M_isSeen 70 [(0, 2, 200), (1, 0, v1), (2, 0, v2), (3, 0, G 225 (sg_iadd (sg_imul 3 v2) 1))] [(0, 1), (0, sg_bo (sg_iand (sg_ishr r3 (G 225 (sg_iadd (sg_imul 3 v2) 1))) 1 = 1))] G3 Q
          refine sg_goto (off := 4) (tgt := 74) (by decide +kernel) (by decide) ?_
          refine sg_icmp_ne (off := 7) (tgt := 81) (by decide +kernel) (by decide) ⟨fun q2 => ?_, fun q2 => ?_⟩
          · exact sg_Wp.keepk [0, 2] rfl (((hhr3.2.2 q3).1 q2))
          · refine sg_blk [(7, 1, 0, 0, 0)] (by decide +kernel) ?_
            refine And.intro rfl (?_)
            show sg_Wp 200 228 (d + 1) m_M_isSeen 78 [(0, 2, 200), (1, 0, v1), (2, 0, v2), (3, 0, G 225 (sg_iadd (sg_imul 3 v2) 1))] [(0, 1)] G3 Q
            refine sg_goto (off := 4) (tgt := 82) (by decide +kernel) (by decide) ?_
            refine sg_blk [(25, 0, 0, 1, 0), (31, 1, 0, 2, 0)] (by decide +kernel) ?_
            refine And.intro rfl (And.intro rfl (?_))
            show sg_Wp 200 228 (d + 1) m_M_isSeen 86 [(0, 2, 200), (1, 0, 1), (2, 0, sg_iadd v2 1), (3, 0, G 225 (sg_iadd (sg_imul 3 v2) 1))] [] G3 Q
            refine sg_goto (off := -78) (tgt := 8) (by decide +kernel) (by decide) ?_
            exact sg_Wp.keepk [0, 1, 2] rfl (((hhr3.2.2 q3).2 q2))
set_option maxRecDepth 100000 in
theorem g_M_isSeen_81 {d : Nat} {v2 : Int} {G : SgM} {Q : Int → SgM → Prop} (h : sg_Wp 200 228 (d + 1) m_M_isSeen 8 [(0, 2, 200), (1, 0, 0), (2, 0, sg_iadd v2 1)] [] G Q) : sg_Wp 200 228 (d + 1) m_M_isSeen 81 [(0, 2, 200), (2, 0, v2)] [] G Q := by
  refine sg_blk [(7, 0, 0, 0, 0), (25, 0, 0, 1, 0), (31, 1, 0, 2, 0)] (by decide +kernel) ?_
  refine And.intro rfl (And.intro rfl (And.intro rfl (?_)))
  show sg_Wp 200 228 (d + 1) m_M_isSeen 86 [(0, 2, 200), (2, 0, sg_iadd v2 1), (1, 0, 0)] [] G Q
  refine sg_goto (off := -78) (tgt := 8) (by decide +kernel) (by decide) ?_
  exact sg_Wp.keepk [0, 2, 1] rfl h
set_option maxRecDepth 100000 in
theorem g_M_lot_0 {d : Nat} {v1 : Int} {G : SgM} {Q : Int → SgM → Prop} (h : (v1 ≠ 0) ∧ (Q (sg_irem (sg_iushr ((sg_up G 200 35 (sg_iadd (sg_imul 1103515245 (G 200 35)) 12345)) 200 35) 16) v1) (sg_up G 200 35 (sg_iadd (sg_imul 1103515245 (G 200 35)) 12345)))) : sg_Wp 200 228 d m_M_lot 0 [(0, 2, 200), (1, 0, v1)] [] G Q := by
  refine sg_blk [(1, 0, 0, 0, 0), (14, 1103515245, 0, 308, 0), (1, 0, 0, 0, 0), (15, 0, 11, 309, 35), (34, 0, 0, 0, 0), (9, 12345, 0, 0, 0), (32, 0, 0, 0, 0), (16, 0, 11, 309, 35), (1, 0, 0, 0, 0), (15, 0, 11, 309, 35), (8, 16, 0, 0, 0), (43, 0, 0, 0, 0), (3, 0, 0, 1, 0), (36, 0, 0, 0, 0)] (by decide +kernel) ?_
  refine And.intro (Nat.le_of_ble_eq_true rfl) (And.intro rfl (And.intro (Nat.le_of_ble_eq_true rfl) (And.intro ce_200 (And.intro rfl (And.intro rfl (And.intro ce_200 (And.intro (Nat.le_of_ble_eq_true rfl) (And.intro ce_200 (And.intro rfl (And.intro rfl (And.intro rfl (And.intro h.1 (?_)))))))))))))
  show sg_Wp 200 228 d m_M_lot 25 [(0, 2, 200), (1, 0, v1)] [(0, sg_irem (sg_iushr ((sg_up G 200 35 (sg_iadd (sg_imul 1103515245 (G 200 35)) 12345)) 200 35) 16) v1)] (sg_up G 200 35 (sg_iadd (sg_imul 1103515245 (G 200 35)) 12345)) Q
  exact sg_ret (by decide +kernel) rfl (Or.inl rfl) h.2
set_option maxRecDepth 100000 in
theorem g_M_never_0 {d : Nat} {G : SgM} {Q : Int → SgM → Prop} (h : sg_Wp 200 228 d m_M_find 0 [(0, 2, 200)] [] G (fun r1 G1 => sg_Wp 200 228 d m_M_neverNow 0 [(0, 2, 200)] [] G1 (fun r2 G2 => Q r2 G2))) : sg_Wp 200 228 (d + 1) m_M_never 0 [(0, 2, 200)] [] G Q := by
  refine sg_blk [(1, 0, 0, 0, 0)] (by decide +kernel) ?_
  refine And.intro (Nat.le_of_ble_eq_true rfl) (?_)
  show sg_Wp 200 228 (d + 1) m_M_never 1 [(0, 2, 200)] [(2, 200)] G Q
  refine sg_callV (k := d) (y' := m_M_find) (av := []) (rest := []) (b := 200) (by decide +kernel) cv_M_find ml_11_217 ce_200 rfl rfl (Nat.le_of_ble_eq_true rfl) (Nat.lt_succ_self d) (Nat.le_of_ble_eq_true rfl) rfl ?_
  show sg_Wp 200 228 d m_M_find 0 [(0, 2, 200)] [] G _
  refine sg_Wp.mono h (fun r1 G1 hhr1 => ?_)
  show sg_Wp 200 228 (d + 1) m_M_never 4 [(0, 2, 200)] [] G1 Q
  refine sg_blk [(1, 0, 0, 0, 0)] (by decide +kernel) ?_
  refine And.intro (Nat.le_of_ble_eq_true rfl) (?_)
  show sg_Wp 200 228 (d + 1) m_M_never 5 [(0, 2, 200)] [(2, 200)] G1 Q
  refine sg_callV (k := d) (y' := m_M_neverNow) (av := []) (rest := []) (b := 200) (by decide +kernel) cv_M_neverNow ml_11_276 ce_200 rfl rfl (Nat.le_of_ble_eq_true rfl) (Nat.lt_succ_self d) (Nat.le_of_ble_eq_true rfl) rfl ?_
  show sg_Wp 200 228 d m_M_neverNow 0 [(0, 2, 200)] [] G1 _
  refine sg_Wp.mono hhr1 (fun r2 G2 hhr2 => ?_)
  show sg_Wp 200 228 (d + 1) m_M_never 8 [(0, 2, 200)] [(0, r2)] G2 Q
  exact sg_ret (by decide +kernel) rfl (Or.inl rfl) hhr2
set_option maxRecDepth 100000 in
theorem g_M_neverNow_0 {d : Nat} {G : SgM} {Q : Int → SgM → Prop} (h : sg_Wp 200 228 (d + 1) m_M_neverNow 4 [(0, 2, 200), (1, 0, 0), (2, 0, 0)] [] G Q) : sg_Wp 200 228 (d + 1) m_M_neverNow 0 [(0, 2, 200)] [] G Q := by
  refine sg_blk [(7, 0, 0, 0, 0), (25, 0, 0, 1, 0), (7, 0, 0, 0, 0), (25, 0, 0, 2, 0)] (by decide +kernel) ?_
  refine And.intro rfl (And.intro rfl (And.intro rfl (And.intro rfl (?_))))
  show sg_Wp 200 228 (d + 1) m_M_neverNow 4 [(0, 2, 200), (1, 0, 0), (2, 0, 0)] [] G Q
  exact h
set_option maxRecDepth 100000 in
theorem g_M_neverNow_4 {d : Nat} {v1 v2 : Int} {G : SgM} {Q : Int → SgM → Prop} (h : ((G 200 11) ≤ v2 → (Q v1 (sg_up G 200 13 0))) ∧ (¬ ((G 200 11) ≤ v2) → (sg_Wp 200 228 d m_M_isSeen 0 [(0, 2, 200)] [] (sg_up G 200 13 (sg_ishl 1 v2)) (fun r1 G1 => (r1 = 0 → (sg_Wp 200 228 (d + 1) m_M_neverNow 4 [(0, 2, 200), (1, 0, sg_ior v1 0), (2, 0, sg_iadd v2 1)] [] G1 Q)) ∧ (¬ (r1 = 0) → (sg_Wp 200 228 (d + 1) m_M_neverNow 4 [(0, 2, 200), (1, 0, sg_ior v1 (sg_ishl 1 v2)), (2, 0, sg_iadd v2 1)] [] G1 Q)))))) : sg_Wp 200 228 (d + 1) m_M_neverNow 4 [(0, 2, 200), (1, 0, v1), (2, 0, v2)] [] G Q := by
  refine sg_blk [(3, 0, 0, 2, 0), (1, 0, 0, 0, 0), (15, 0, 11, 164, 11)] (by decide +kernel) ?_
  refine And.intro rfl (And.intro (Nat.le_of_ble_eq_true rfl) (And.intro ce_200 (?_)))
  show sg_Wp 200 228 (d + 1) m_M_neverNow 9 [(0, 2, 200), (1, 0, v1), (2, 0, v2)] [(0, G 200 11), (0, v2)] G Q
  refine sg_icmp_ge (off := 33) (tgt := 42) (by decide +kernel) (by decide) ⟨fun q2 => ?_, fun q2 => ?_⟩
  · refine sg_blk [(1, 0, 0, 0, 0), (7, 0, 0, 0, 0), (16, 0, 11, 184, 13), (3, 0, 0, 1, 0)] (by decide +kernel) ?_
    refine And.intro (Nat.le_of_ble_eq_true rfl) (And.intro rfl (And.intro ce_200 (And.intro rfl (?_))))
    show sg_Wp 200 228 (d + 1) m_M_neverNow 48 [(0, 2, 200), (1, 0, v1), (2, 0, v2)] [(0, v1)] (sg_up G 200 13 0) Q
    exact sg_ret (by decide +kernel) rfl (Or.inl rfl) ((h.1 q2))
  · refine sg_blk [(1, 0, 0, 0, 0), (7, 1, 0, 0, 0), (3, 0, 0, 2, 0), (41, 0, 0, 0, 0), (16, 0, 11, 184, 13), (3, 0, 0, 1, 0), (1, 0, 0, 0, 0)] (by decide +kernel) ?_
    refine And.intro (Nat.le_of_ble_eq_true rfl) (And.intro rfl (And.intro rfl (And.intro ce_200 (And.intro rfl (And.intro (Nat.le_of_ble_eq_true rfl) (?_))))))
    show sg_Wp 200 228 (d + 1) m_M_neverNow 21 [(0, 2, 200), (1, 0, v1), (2, 0, v2)] [(2, 200), (0, v1)] (sg_up G 200 13 (sg_ishl 1 v2)) Q
    refine sg_callV (k := d) (y' := m_M_isSeen) (av := []) (rest := [(0, v1)]) (b := 200) (by decide +kernel) cv_M_isSeen ml_11_272 ce_200 rfl rfl (Nat.le_of_ble_eq_true rfl) (Nat.lt_succ_self d) (Nat.le_of_ble_eq_true rfl) rfl ?_
    show sg_Wp 200 228 d m_M_isSeen 0 [(0, 2, 200)] [] (sg_up G 200 13 (sg_ishl 1 v2)) _
    refine sg_Wp.mono ((h.2 q2)) (fun r1 G1 hhr1 => ?_)
    show sg_Wp 200 228 (d + 1) m_M_neverNow 24 [(0, 2, 200), (1, 0, v1), (2, 0, v2)] [(0, r1), (0, v1)] G1 Q
    refine sg_if_eq (off := 9) (tgt := 33) (by decide +kernel) (by decide) ⟨fun q1 => ?_, fun q1 => ?_⟩
    · refine sg_blk [(7, 0, 0, 0, 0), (39, 0, 0, 0, 0), (25, 0, 0, 1, 0), (31, 1, 0, 2, 0)] (by decide +kernel) ?_
      refine And.intro rfl (And.intro rfl (And.intro rfl (?_)))
      show sg_Wp 200 228 (d + 1) m_M_neverNow 39 [(0, 2, 200), (1, 0, sg_ior v1 0), (2, 0, sg_iadd v2 1)] [] G1 Q
      refine sg_goto (off := -35) (tgt := 4) (by decide +kernel) (by decide) ?_
      exact (hhr1.1 q1)
    · refine sg_blk [(7, 1, 0, 0, 0), (3, 0, 0, 2, 0), (41, 0, 0, 0, 0)] (by decide +kernel) ?_
      refine And.intro rfl (And.intro rfl (?_))
      show sg_Wp 200 228 (d + 1) m_M_neverNow 30 [(0, 2, 200), (1, 0, v1), (2, 0, v2)] [(0, sg_ishl 1 v2), (0, v1)] G1 Q
      refine sg_goto (off := 4) (tgt := 34) (by decide +kernel) (by decide) ?_
      refine sg_blk [(39, 0, 0, 0, 0), (25, 0, 0, 1, 0), (31, 1, 0, 2, 0)] (by decide +kernel) ?_
      refine And.intro rfl (And.intro rfl (?_))
      show sg_Wp 200 228 (d + 1) m_M_neverNow 39 [(0, 2, 200), (1, 0, sg_ior v1 (sg_ishl 1 v2)), (2, 0, sg_iadd v2 1)] [] G1 Q
      refine sg_goto (off := -35) (tgt := 4) (by decide +kernel) (by decide) ?_
      exact (hhr1.2 q1)
set_option maxRecDepth 100000 in
theorem g_M_sortOf_0 {d : Nat} {v1 : Int} {G : SgM} {Q : Int → SgM → Prop} (h : (0 ≤ (sg_imul 4 v1) ∧ (sg_imul 4 v1) < 24) ∧ (sg_Wp 200 228 (d + 1) m_M_sortOf 14 [(0, 2, 200), (1, 0, v1), (2, 0, G 208 (sg_imul 4 v1)), (3, 0, 0), (4, 0, 0)] [] G Q)) : sg_Wp 200 228 (d + 1) m_M_sortOf 0 [(0, 2, 200), (1, 0, v1)] [] G Q := by
  refine sg_blk [(1, 0, 0, 0, 0), (65, 208, 11, 31, 10), (7, 4, 0, 0, 0), (3, 0, 0, 1, 0), (34, 0, 0, 0, 0), (17, 24, 0, 0, 0), (25, 0, 0, 2, 0), (7, 0, 0, 0, 0), (25, 0, 0, 3, 0), (7, 0, 0, 0, 0), (26, 0, 0, 4, 0)] (by decide +kernel) ?_
  refine And.intro (Nat.le_of_ble_eq_true rfl) (And.intro ce_200 (And.intro rr_200_10 (And.intro rfl (And.intro rfl (And.intro ce_208 (And.intro h.1 (And.intro rfl (And.intro rfl (And.intro rfl (And.intro rfl (And.intro rfl (?_))))))))))))
  show sg_Wp 200 228 (d + 1) m_M_sortOf 14 [(0, 2, 200), (1, 0, v1), (2, 0, G 208 (sg_imul 4 v1)), (3, 0, 0), (4, 0, 0)] [] G Q
  exact h.2
set_option maxRecDepth 100000 in
theorem g_M_sortOf_14 {d : Nat} {v1 v2 v3 v4 : Int} {G : SgM} {Q : Int → SgM → Prop} (h : (3 ≤ v4 → ((0 ≤ (sg_imul 4 v1) ∧ (sg_imul 4 v1) < 24) ∧ (Q v3 (sg_up G 208 (sg_imul 4 v1) v2)))) ∧ (¬ (3 ≤ v4) → ((0 ≤ (sg_imul 4 v1) ∧ (sg_imul 4 v1) < 24) ∧ (sg_Wp 200 228 d m_M_isSeen 0 [(0, 2, 200)] [] (sg_up G 208 (sg_imul 4 v1) v4) (fun r1 G1 => (r1 = 0 → (sg_Wp 200 228 (d + 1) m_M_sortOf 14 [(0, 2, 200), (1, 0, v1), (2, 0, v2), (3, 0, sg_ior v3 0), (4, 0, sg_iadd v4 1)] [] G1 Q)) ∧ (¬ (r1 = 0) → (sg_Wp 200 228 (d + 1) m_M_sortOf 14 [(0, 2, 200), (1, 0, v1), (2, 0, v2), (3, 0, sg_ior v3 (sg_ishl 1 v4)), (4, 0, sg_iadd v4 1)] [] G1 Q))))))) : sg_Wp 200 228 (d + 1) m_M_sortOf 14 [(0, 2, 200), (1, 0, v1), (2, 0, v2), (3, 0, v3), (4, 0, v4)] [] G Q := by
  refine sg_blk [(4, 0, 0, 4, 0), (7, 3, 0, 0, 0)] (by decide +kernel) ?_
  refine And.intro rfl (And.intro rfl (?_))
  show sg_Wp 200 228 (d + 1) m_M_sortOf 17 [(0, 2, 200), (1, 0, v1), (2, 0, v2), (3, 0, v3), (4, 0, v4)] [(0, 3), (0, v4)] G Q
  refine sg_icmp_ge (off := 37) (tgt := 54) (by decide +kernel) (by decide) ⟨fun q2 => ?_, fun q2 => ?_⟩
  · refine sg_blk [(1, 0, 0, 0, 0), (65, 208, 11, 31, 10), (7, 4, 0, 0, 0), (3, 0, 0, 1, 0), (34, 0, 0, 0, 0), (3, 0, 0, 2, 0), (18, 24, 0, 0, 0), (3, 0, 0, 3, 0)] (by decide +kernel) ?_
    refine And.intro (Nat.le_of_ble_eq_true rfl) (And.intro ce_200 (And.intro rr_200_10 (And.intro rfl (And.intro rfl (And.intro rfl (And.intro ce_208 (And.intro (h.1 q2).1 (And.intro rfl (?_)))))))))
    show sg_Wp 200 228 (d + 1) m_M_sortOf 64 [(0, 2, 200), (1, 0, v1), (2, 0, v2), (3, 0, v3), (4, 0, v4)] [(0, v3)] (sg_up G 208 (sg_imul 4 v1) v2) Q
    exact sg_ret (by decide +kernel) rfl (Or.inl rfl) ((h.1 q2).2)
  · refine sg_blk [(1, 0, 0, 0, 0), (65, 208, 11, 31, 10), (7, 4, 0, 0, 0), (3, 0, 0, 1, 0), (34, 0, 0, 0, 0), (4, 0, 0, 4, 0), (18, 24, 0, 0, 0), (3, 0, 0, 3, 0), (1, 0, 0, 0, 0)] (by decide +kernel) ?_
    refine And.intro (Nat.le_of_ble_eq_true rfl) (And.intro ce_200 (And.intro rr_200_10 (And.intro rfl (And.intro rfl (And.intro rfl (And.intro ce_208 (And.intro (h.2 q2).1 (And.intro rfl (And.intro (Nat.le_of_ble_eq_true rfl) (?_))))))))))
    show sg_Wp 200 228 (d + 1) m_M_sortOf 32 [(0, 2, 200), (1, 0, v1), (2, 0, v2), (3, 0, v3), (4, 0, v4)] [(2, 200), (0, v3)] (sg_up G 208 (sg_imul 4 v1) v4) Q
    refine sg_callV (k := d) (y' := m_M_isSeen) (av := []) (rest := [(0, v3)]) (b := 200) (by decide +kernel) cv_M_isSeen ml_11_272 ce_200 rfl rfl (Nat.le_of_ble_eq_true rfl) (Nat.lt_succ_self d) (Nat.le_of_ble_eq_true rfl) rfl ?_
    show sg_Wp 200 228 d m_M_isSeen 0 [(0, 2, 200)] [] (sg_up G 208 (sg_imul 4 v1) v4) _
    refine sg_Wp.mono ((h.2 q2).2) (fun r1 G1 hhr1 => ?_)
    show sg_Wp 200 228 (d + 1) m_M_sortOf 35 [(0, 2, 200), (1, 0, v1), (2, 0, v2), (3, 0, v3), (4, 0, v4)] [(0, r1), (0, v3)] G1 Q
    refine sg_if_eq (off := 10) (tgt := 45) (by decide +kernel) (by decide) ⟨fun q1 => ?_, fun q1 => ?_⟩
    · refine sg_blk [(7, 0, 0, 0, 0), (39, 0, 0, 0, 0), (25, 0, 0, 3, 0), (31, 1, 0, 4, 0)] (by decide +kernel) ?_
      refine And.intro rfl (And.intro rfl (And.intro rfl (?_)))
      show sg_Wp 200 228 (d + 1) m_M_sortOf 51 [(0, 2, 200), (1, 0, v1), (2, 0, v2), (3, 0, sg_ior v3 0), (4, 0, sg_iadd v4 1)] [] G1 Q
      refine sg_goto (off := -37) (tgt := 14) (by decide +kernel) (by decide) ?_
      exact (hhr1.1 q1)
    · refine sg_blk [(7, 1, 0, 0, 0), (4, 0, 0, 4, 0), (41, 0, 0, 0, 0)] (by decide +kernel) ?_
      refine And.intro rfl (And.intro rfl (?_))
      show sg_Wp 200 228 (d + 1) m_M_sortOf 42 [(0, 2, 200), (1, 0, v1), (2, 0, v2), (3, 0, v3), (4, 0, v4)] [(0, sg_ishl 1 v4), (0, v3)] G1 Q
      refine sg_goto (off := 4) (tgt := 46) (by decide +kernel) (by decide) ?_
      refine sg_blk [(39, 0, 0, 0, 0), (25, 0, 0, 3, 0), (31, 1, 0, 4, 0)] (by decide +kernel) ?_
      refine And.intro rfl (And.intro rfl (?_))
      show sg_Wp 200 228 (d + 1) m_M_sortOf 51 [(0, 2, 200), (1, 0, v1), (2, 0, v2), (3, 0, sg_ior v3 (sg_ishl 1 v4)), (4, 0, sg_iadd v4 1)] [] G1 Q
      refine sg_goto (off := -37) (tgt := 14) (by decide +kernel) (by decide) ?_
      exact (hhr1.2 q1)
set_option maxRecDepth 100000 in
theorem g_M_tellsHour_0 {d : Nat} {v1 v3 v4 : Int} {G : SgM} {Q : Int → SgM → Prop} (h : sg_Wp 200 228 (d + 1) m_M_tellsHour 6 [(0, 2, 200), (3, 0, v3), (4, 0, v4), (5, 1, v1), (7, 0, 0)] [] G Q) : sg_Wp 200 228 (d + 1) m_M_tellsHour 0 [(0, 2, 200), (1, 1, v1), (3, 0, v3), (4, 0, v4)] [] G Q := by
  refine sg_blk [(5, 0, 0, 1, 0), (28, 0, 0, 5, 0), (7, 0, 0, 0, 0), (26, 0, 0, 7, 0)] (by decide +kernel) ?_
  refine And.intro rfl (And.intro rfl (And.intro rfl (And.intro rfl (?_))))
  show sg_Wp 200 228 (d + 1) m_M_tellsHour 6 [(0, 2, 200), (1, 1, v1), (3, 0, v3), (4, 0, v4), (5, 1, v1), (7, 0, 0)] [] G Q
  exact sg_Wp.keepk [0, 2, 3, 4, 5] rfl h
set_option maxRecDepth 100000 in
theorem g_M_tellsHour_6 {d : Nat} {v3 v4 v5 v7 : Int} {G : SgM} {Q : Int → SgM → Prop} (h : (4 ≤ v7 → (Q v5 G)) ∧ (¬ (4 ≤ v7) → (sg_Wp 200 228 d m_M_atBy 0 [(0, 2, 200), (1, 0, v3), (2, 0, v4), (3, 0, v7)] [] G (fun r1 G1 => sg_Wp 200 228 (d + 1) m_M_tellsHour 6 [(0, 2, 200), (3, 0, v3), (4, 0, v4), (5, 1, sg_ladd (sg_lmul 31 v5) r1), (7, 0, sg_iadd v7 1)] [] G1 Q)))) : sg_Wp 200 228 (d + 1) m_M_tellsHour 6 [(0, 2, 200), (3, 0, v3), (4, 0, v4), (5, 1, v5), (7, 0, v7)] [] G Q := by
  refine sg_blk [(4, 0, 0, 7, 0), (7, 4, 0, 0, 0)] (by decide +kernel) ?_
  refine And.intro rfl (And.intro rfl (?_))
  show sg_Wp 200 228 (d + 1) m_M_tellsHour 9 [(0, 2, 200), (3, 0, v3), (4, 0, v4), (5, 1, v5), (7, 0, v7)] [(0, 4), (0, v7)] G Q
  refine sg_icmp_ge (off := 28) (tgt := 37) (by decide +kernel) (by decide) ⟨fun q1 => ?_, fun q1 => ?_⟩
  · refine sg_blk [(6, 0, 0, 5, 0)] (by decide +kernel) ?_
    refine And.intro rfl (?_)
    show sg_Wp 200 228 (d + 1) m_M_tellsHour 39 [(0, 2, 200), (3, 0, v3), (4, 0, v4), (5, 1, v5), (7, 0, v7)] [(1, v5)] G Q
    exact sg_lret (by decide +kernel) rfl ((h.1 q1))
  · refine sg_blk [(12, 31, 0, 323, 0), (6, 0, 0, 5, 0), (46, 0, 0, 0, 0), (1, 0, 0, 0, 0), (3, 0, 0, 3, 0), (4, 0, 0, 4, 0), (4, 0, 0, 7, 0)] (by decide +kernel) ?_
    refine And.intro rfl (And.intro rfl (And.intro (Nat.le_of_ble_eq_true rfl) (And.intro rfl (And.intro rfl (And.intro rfl (?_))))))
    show sg_Wp 200 228 (d + 1) m_M_tellsHour 24 [(0, 2, 200), (3, 0, v3), (4, 0, v4), (5, 1, v5), (7, 0, v7)] [(0, v7), (0, v4), (0, v3), (2, 200), (1, sg_lmul 31 v5)] G Q
    refine sg_callV (k := d) (y' := m_M_atBy) (av := [(0, v3), (0, v4), (0, v7)]) (rest := [(1, sg_lmul 31 v5)]) (b := 200) (by decide +kernel) cv_M_atBy ml_11_220 ce_200 rfl rfl (Nat.le_of_ble_eq_true rfl) (Nat.lt_succ_self d) (Nat.le_of_ble_eq_true rfl) rfl ?_
    show sg_Wp 200 228 d m_M_atBy 0 [(0, 2, 200), (1, 0, v3), (2, 0, v4), (3, 0, v7)] [] G _
    refine sg_Wp.mono ((h.2 q1)) (fun r1 G1 hhr1 => ?_)
    show sg_Wp 200 228 (d + 1) m_M_tellsHour 27 [(0, 2, 200), (3, 0, v3), (4, 0, v4), (5, 1, v5), (7, 0, v7)] [(0, r1), (1, sg_lmul 31 v5)] G1 Q
    refine sg_blk [(53, 0, 0, 0, 0), (44, 0, 0, 0, 0), (28, 0, 0, 5, 0), (31, 1, 0, 7, 0)] (by decide +kernel) ?_
    refine And.intro rfl (And.intro rfl (?_))
    show sg_Wp 200 228 (d + 1) m_M_tellsHour 34 [(0, 2, 200), (3, 0, v3), (4, 0, v4), (5, 1, sg_ladd (sg_lmul 31 v5) r1), (7, 0, sg_iadd v7 1)] [] G1 Q
    refine sg_goto (off := -28) (tgt := 6) (by decide +kernel) (by decide) ?_
    exact hhr1
set_option maxRecDepth 100000 in
theorem g_M_tellsPerson_0 {d : Nat} {v1 v3 : Int} {G : SgM} {Q : Int → SgM → Prop} (h : sg_Wp 200 228 d m_M_lives 0 [(0, 2, 200)] [] G (fun r1 G1 => sg_Wp 200 228 (d + 1) m_M_tellsPerson 10 [(0, 2, 200), (3, 0, v3), (4, 1, v1), (6, 0, 0)] [] G1 Q)) : sg_Wp 200 228 (d + 1) m_M_tellsPerson 0 [(0, 2, 200), (1, 1, v1), (3, 0, v3)] [] G Q := by
  refine sg_blk [(1, 0, 0, 0, 0)] (by decide +kernel) ?_
  refine And.intro (Nat.le_of_ble_eq_true rfl) (?_)
  show sg_Wp 200 228 (d + 1) m_M_tellsPerson 1 [(0, 2, 200), (1, 1, v1), (3, 0, v3)] [(2, 200)] G Q
  refine sg_callV (k := d) (y' := m_M_lives) (av := []) (rest := []) (b := 200) (by decide +kernel) cv_M_lives ml_11_214 ce_200 rfl rfl (Nat.le_of_ble_eq_true rfl) (Nat.lt_succ_self d) (Nat.le_of_ble_eq_true rfl) rfl ?_
  show sg_Wp 200 228 d m_M_lives 0 [(0, 2, 200)] [] G _
  refine sg_Wp.mono h (fun r1 G1 hhr1 => ?_)
  show sg_Wp 200 228 (d + 1) m_M_tellsPerson 4 [(0, 2, 200), (1, 1, v1), (3, 0, v3)] [] G1 Q
  refine sg_blk [(5, 0, 0, 1, 0), (28, 0, 0, 4, 0), (7, 0, 0, 0, 0), (26, 0, 0, 6, 0)] (by decide +kernel) ?_
  refine And.intro rfl (And.intro rfl (And.intro rfl (And.intro rfl (?_))))
  show sg_Wp 200 228 (d + 1) m_M_tellsPerson 10 [(0, 2, 200), (1, 1, v1), (3, 0, v3), (4, 1, v1), (6, 0, 0)] [] G1 Q
  exact sg_Wp.keepk [0, 2, 3, 4] rfl hhr1
set_option maxRecDepth 100000 in
theorem g_M_tellsPerson_10 {d : Nat} {v3 v4 v6 : Int} {G : SgM} {Q : Int → SgM → Prop} (h : (4 ≤ v6 → (sg_Wp 200 228 d m_M_tellsHour 0 [(0, 2, 200), (1, 1, v4), (3, 0, 0), (4, 0, v3)] [] G (fun r2 G2 => sg_Wp 200 228 d m_M_tellsHour 0 [(0, 2, 200), (1, 1, r2), (3, 0, 7), (4, 0, v3)] [] G2 (fun r3 G3 => sg_Wp 200 228 d m_M_tellsHour 0 [(0, 2, 200), (1, 1, r3), (3, 0, 15), (4, 0, v3)] [] G3 (fun r4 G4 => sg_Wp 200 228 d m_M_tellsHour 0 [(0, 2, 200), (1, 1, r4), (3, 0, 23), (4, 0, v3)] [] G4 (fun r5 G5 => sg_Wp 200 228 d m_M_strollOf 0 [(0, 2, 200), (1, 0, v3), (2, 0, 0)] [] G5 (fun r6 G6 => sg_Wp 200 228 d m_M_strollOf 0 [(0, 2, 200), (1, 0, v3), (2, 0, 1)] [] G6 (fun r7 G7 => sg_Wp 200 228 d m_M_sortOf 0 [(0, 2, 200), (1, 0, v3)] [] G7 (fun r8 G8 => sg_Wp 200 228 d m_M_coldsOf 0 [(0, 2, 200), (1, 0, v3)] [] G8 (fun r9 G9 => sg_Wp 200 228 d m_M_askOf 0 [(0, 2, 200), (1, 0, v3)] [] G9 (fun r10 G10 => Q (sg_ladd (sg_lmul 31 (sg_ladd (sg_lmul 31 (sg_ladd (sg_lmul 31 (sg_ladd (sg_lmul 31 (sg_ladd (sg_lmul 31 r5) r6)) r7)) r8)) r9)) r10) G10))))))))))) ∧ (¬ (4 ≤ v6) → ((0 ≤ (sg_iadd (sg_imul 4 v3) v6) ∧ (sg_iadd (sg_imul 4 v3) v6) < 24) ∧ (sg_Wp 200 228 (d + 1) m_M_tellsPerson 10 [(0, 2, 200), (3, 0, v3), (4, 1, sg_ladd (sg_lmul 31 v4) (G 208 (sg_iadd (sg_imul 4 v3) v6))), (6, 0, sg_iadd v6 1)] [] G Q)))) : sg_Wp 200 228 (d + 1) m_M_tellsPerson 10 [(0, 2, 200), (3, 0, v3), (4, 1, v4), (6, 0, v6)] [] G Q := by
  refine sg_blk [(4, 0, 0, 6, 0), (7, 4, 0, 0, 0)] (by decide +kernel) ?_
  refine And.intro rfl (And.intro rfl (?_))
  show sg_Wp 200 228 (d + 1) m_M_tellsPerson 13 [(0, 2, 200), (3, 0, v3), (4, 1, v4), (6, 0, v6)] [(0, 4), (0, v6)] G Q
  refine sg_icmp_ge (off := 30) (tgt := 43) (by decide +kernel) (by decide) ⟨fun q1 => ?_, fun q1 => ?_⟩
  · refine sg_blk [(1, 0, 0, 0, 0), (1, 0, 0, 0, 0), (1, 0, 0, 0, 0), (1, 0, 0, 0, 0), (6, 0, 0, 4, 0), (7, 0, 0, 0, 0), (3, 0, 0, 3, 0)] (by decide +kernel) ?_
    refine And.intro (Nat.le_of_ble_eq_true rfl) (And.intro (Nat.le_of_ble_eq_true rfl) (And.intro (Nat.le_of_ble_eq_true rfl) (And.intro (Nat.le_of_ble_eq_true rfl) (And.intro rfl (And.intro rfl (And.intro rfl (?_)))))))
    show sg_Wp 200 228 (d + 1) m_M_tellsPerson 51 [(0, 2, 200), (3, 0, v3), (4, 1, v4), (6, 0, v6)] [(0, v3), (0, 0), (1, v4), (2, 200), (2, 200), (2, 200), (2, 200)] G Q
    refine sg_callV (k := d) (y' := m_M_tellsHour) (av := [(1, v4), (0, 0), (0, v3)]) (rest := [(2, 200), (2, 200), (2, 200)]) (b := 200) (by decide +kernel) cv_M_tellsHour ml_11_329 ce_200 rfl rfl (Nat.le_of_ble_eq_true rfl) (Nat.lt_succ_self d) (Nat.le_of_ble_eq_true rfl) rfl ?_
    show sg_Wp 200 228 d m_M_tellsHour 0 [(0, 2, 200), (1, 1, v4), (3, 0, 0), (4, 0, v3)] [] G _
    refine sg_Wp.mono ((h.1 q1)) (fun r2 G2 hhr2 => ?_)
    show sg_Wp 200 228 (d + 1) m_M_tellsPerson 54 [(0, 2, 200), (3, 0, v3), (4, 1, v4), (6, 0, v6)] [(1, r2), (2, 200), (2, 200), (2, 200)] G2 Q
    refine sg_blk [(8, 7, 0, 0, 0), (3, 0, 0, 3, 0)] (by decide +kernel) ?_
    refine And.intro rfl (And.intro rfl (And.intro rfl (?_)))
    show sg_Wp 200 228 (d + 1) m_M_tellsPerson 57 [(0, 2, 200), (3, 0, v3), (4, 1, v4), (6, 0, v6)] [(0, v3), (0, 7), (1, r2), (2, 200), (2, 200), (2, 200)] G2 Q
    refine sg_callV (k := d) (y' := m_M_tellsHour) (av := [(1, r2), (0, 7), (0, v3)]) (rest := [(2, 200), (2, 200)]) (b := 200) (by decide +kernel) cv_M_tellsHour ml_11_329 ce_200 rfl rfl (Nat.le_of_ble_eq_true rfl) (Nat.lt_succ_self d) (Nat.le_of_ble_eq_true rfl) rfl ?_
    show sg_Wp 200 228 d m_M_tellsHour 0 [(0, 2, 200), (1, 1, r2), (3, 0, 7), (4, 0, v3)] [] G2 _
    refine sg_Wp.mono hhr2 (fun r3 G3 hhr3 => ?_)
    show sg_Wp 200 228 (d + 1) m_M_tellsPerson 60 [(0, 2, 200), (3, 0, v3), (4, 1, v4), (6, 0, v6)] [(1, r3), (2, 200), (2, 200)] G3 Q
    refine sg_blk [(8, 15, 0, 0, 0), (3, 0, 0, 3, 0)] (by decide +kernel) ?_
    refine And.intro rfl (And.intro rfl (And.intro rfl (?_)))
    show sg_Wp 200 228 (d + 1) m_M_tellsPerson 63 [(0, 2, 200), (3, 0, v3), (4, 1, v4), (6, 0, v6)] [(0, v3), (0, 15), (1, r3), (2, 200), (2, 200)] G3 Q
    refine sg_callV (k := d) (y' := m_M_tellsHour) (av := [(1, r3), (0, 15), (0, v3)]) (rest := [(2, 200)]) (b := 200) (by decide +kernel) cv_M_tellsHour ml_11_329 ce_200 rfl rfl (Nat.le_of_ble_eq_true rfl) (Nat.lt_succ_self d) (Nat.le_of_ble_eq_true rfl) rfl ?_
    show sg_Wp 200 228 d m_M_tellsHour 0 [(0, 2, 200), (1, 1, r3), (3, 0, 15), (4, 0, v3)] [] G3 _
    refine sg_Wp.mono hhr3 (fun r4 G4 hhr4 => ?_)
    show sg_Wp 200 228 (d + 1) m_M_tellsPerson 66 [(0, 2, 200), (3, 0, v3), (4, 1, v4), (6, 0, v6)] [(1, r4), (2, 200)] G4 Q
    refine sg_blk [(8, 23, 0, 0, 0), (3, 0, 0, 3, 0)] (by decide +kernel) ?_
    refine And.intro rfl (And.intro rfl (And.intro rfl (?_)))
    show sg_Wp 200 228 (d + 1) m_M_tellsPerson 69 [(0, 2, 200), (3, 0, v3), (4, 1, v4), (6, 0, v6)] [(0, v3), (0, 23), (1, r4), (2, 200)] G4 Q
    refine sg_callV (k := d) (y' := m_M_tellsHour) (av := [(1, r4), (0, 23), (0, v3)]) (rest := []) (b := 200) (by decide +kernel) cv_M_tellsHour ml_11_329 ce_200 rfl rfl (Nat.le_of_ble_eq_true rfl) (Nat.lt_succ_self d) (Nat.le_of_ble_eq_true rfl) rfl ?_
    show sg_Wp 200 228 d m_M_tellsHour 0 [(0, 2, 200), (1, 1, r4), (3, 0, 23), (4, 0, v3)] [] G4 _
    refine sg_Wp.mono hhr4 (fun r5 G5 hhr5 => ?_)
    show sg_Wp 200 228 (d + 1) m_M_tellsPerson 72 [(0, 2, 200), (3, 0, v3), (4, 1, v4), (6, 0, v6)] [(1, r5)] G5 Q
    refine sg_blk [(28, 0, 0, 4, 0), (12, 31, 0, 323, 0), (6, 0, 0, 4, 0), (46, 0, 0, 0, 0), (1, 0, 0, 0, 0), (3, 0, 0, 3, 0), (7, 0, 0, 0, 0)] (by decide +kernel) ?_
    refine And.intro rfl (And.intro rfl (And.intro rfl (And.intro (Nat.le_of_ble_eq_true rfl) (And.intro rfl (And.intro rfl (?_))))))
    show sg_Wp 200 228 (d + 1) m_M_tellsPerson 83 [(0, 2, 200), (3, 0, v3), (4, 1, r5), (6, 0, v6)] [(0, 0), (0, v3), (2, 200), (1, sg_lmul 31 r5)] G5 Q
    refine sg_callV (k := d) (y' := m_M_strollOf) (av := [(0, v3), (0, 0)]) (rest := [(1, sg_lmul 31 r5)]) (b := 200) (by decide +kernel) cv_M_strollOf ml_11_250 ce_200 rfl rfl (Nat.le_of_ble_eq_true rfl) (Nat.lt_succ_self d) (Nat.le_of_ble_eq_true rfl) rfl ?_
    show sg_Wp 200 228 d m_M_strollOf 0 [(0, 2, 200), (1, 0, v3), (2, 0, 0)] [] G5 _
    refine sg_Wp.mono hhr5 (fun r6 G6 hhr6 => ?_)
    show sg_Wp 200 228 (d + 1) m_M_tellsPerson 86 [(0, 2, 200), (3, 0, v3), (4, 1, r5), (6, 0, v6)] [(0, r6), (1, sg_lmul 31 r5)] G6 Q
    refine sg_blk [(53, 0, 0, 0, 0), (44, 0, 0, 0, 0), (28, 0, 0, 4, 0), (12, 31, 0, 323, 0), (6, 0, 0, 4, 0), (46, 0, 0, 0, 0), (1, 0, 0, 0, 0), (3, 0, 0, 3, 0), (7, 1, 0, 0, 0)] (by decide +kernel) ?_
    refine And.intro rfl (And.intro rfl (And.intro rfl (And.intro (Nat.le_of_ble_eq_true rfl) (And.intro rfl (And.intro rfl (?_))))))
    show sg_Wp 200 228 (d + 1) m_M_tellsPerson 99 [(0, 2, 200), (3, 0, v3), (4, 1, sg_ladd (sg_lmul 31 r5) r6), (6, 0, v6)] [(0, 1), (0, v3), (2, 200), (1, sg_lmul 31 (sg_ladd (sg_lmul 31 r5) r6))] G6 Q
    refine sg_callV (k := d) (y' := m_M_strollOf) (av := [(0, v3), (0, 1)]) (rest := [(1, sg_lmul 31 (sg_ladd (sg_lmul 31 r5) r6))]) (b := 200) (by decide +kernel) cv_M_strollOf ml_11_250 ce_200 rfl rfl (Nat.le_of_ble_eq_true rfl) (Nat.lt_succ_self d) (Nat.le_of_ble_eq_true rfl) rfl ?_
    show sg_Wp 200 228 d m_M_strollOf 0 [(0, 2, 200), (1, 0, v3), (2, 0, 1)] [] G6 _
    refine sg_Wp.mono hhr6 (fun r7 G7 hhr7 => ?_)
    show sg_Wp 200 228 (d + 1) m_M_tellsPerson 102 [(0, 2, 200), (3, 0, v3), (4, 1, sg_ladd (sg_lmul 31 r5) r6), (6, 0, v6)] [(0, r7), (1, sg_lmul 31 (sg_ladd (sg_lmul 31 r5) r6))] G7 Q
    refine sg_blk [(53, 0, 0, 0, 0), (44, 0, 0, 0, 0), (28, 0, 0, 4, 0), (12, 31, 0, 323, 0), (6, 0, 0, 4, 0), (46, 0, 0, 0, 0), (1, 0, 0, 0, 0), (3, 0, 0, 3, 0)] (by decide +kernel) ?_
    refine And.intro rfl (And.intro rfl (And.intro rfl (And.intro (Nat.le_of_ble_eq_true rfl) (And.intro rfl (?_)))))
    show sg_Wp 200 228 (d + 1) m_M_tellsPerson 114 [(0, 2, 200), (3, 0, v3), (4, 1, sg_ladd (sg_lmul 31 (sg_ladd (sg_lmul 31 r5) r6)) r7), (6, 0, v6)] [(0, v3), (2, 200), (1, sg_lmul 31 (sg_ladd (sg_lmul 31 (sg_ladd (sg_lmul 31 r5) r6)) r7))] G7 Q
    refine sg_callV (k := d) (y' := m_M_sortOf) (av := [(0, v3)]) (rest := [(1, sg_lmul 31 (sg_ladd (sg_lmul 31 (sg_ladd (sg_lmul 31 r5) r6)) r7))]) (b := 200) (by decide +kernel) cv_M_sortOf ml_11_279 ce_200 rfl rfl (Nat.le_of_ble_eq_true rfl) (Nat.lt_succ_self d) (Nat.le_of_ble_eq_true rfl) rfl ?_
    show sg_Wp 200 228 d m_M_sortOf 0 [(0, 2, 200), (1, 0, v3)] [] G7 _
    refine sg_Wp.mono hhr7 (fun r8 G8 hhr8 => ?_)
    show sg_Wp 200 228 (d + 1) m_M_tellsPerson 117 [(0, 2, 200), (3, 0, v3), (4, 1, sg_ladd (sg_lmul 31 (sg_ladd (sg_lmul 31 r5) r6)) r7), (6, 0, v6)] [(0, r8), (1, sg_lmul 31 (sg_ladd (sg_lmul 31 (sg_ladd (sg_lmul 31 r5) r6)) r7))] G8 Q
    refine sg_blk [(53, 0, 0, 0, 0), (44, 0, 0, 0, 0), (28, 0, 0, 4, 0), (12, 31, 0, 323, 0), (6, 0, 0, 4, 0), (46, 0, 0, 0, 0), (1, 0, 0, 0, 0), (3, 0, 0, 3, 0)] (by decide +kernel) ?_
    refine And.intro rfl (And.intro rfl (And.intro rfl (And.intro (Nat.le_of_ble_eq_true rfl) (And.intro rfl (?_)))))
    show sg_Wp 200 228 (d + 1) m_M_tellsPerson 129 [(0, 2, 200), (3, 0, v3), (4, 1, sg_ladd (sg_lmul 31 (sg_ladd (sg_lmul 31 (sg_ladd (sg_lmul 31 r5) r6)) r7)) r8), (6, 0, v6)] [(0, v3), (2, 200), (1, sg_lmul 31 (sg_ladd (sg_lmul 31 (sg_ladd (sg_lmul 31 (sg_ladd (sg_lmul 31 r5) r6)) r7)) r8))] G8 Q
    refine sg_callV (k := d) (y' := m_M_coldsOf) (av := [(0, v3)]) (rest := [(1, sg_lmul 31 (sg_ladd (sg_lmul 31 (sg_ladd (sg_lmul 31 (sg_ladd (sg_lmul 31 r5) r6)) r7)) r8))]) (b := 200) (by decide +kernel) cv_M_coldsOf ml_11_282 ce_200 rfl rfl (Nat.le_of_ble_eq_true rfl) (Nat.lt_succ_self d) (Nat.le_of_ble_eq_true rfl) rfl ?_
    show sg_Wp 200 228 d m_M_coldsOf 0 [(0, 2, 200), (1, 0, v3)] [] G8 _
    refine sg_Wp.mono hhr8 (fun r9 G9 hhr9 => ?_)
    show sg_Wp 200 228 (d + 1) m_M_tellsPerson 132 [(0, 2, 200), (3, 0, v3), (4, 1, sg_ladd (sg_lmul 31 (sg_ladd (sg_lmul 31 (sg_ladd (sg_lmul 31 r5) r6)) r7)) r8), (6, 0, v6)] [(0, r9), (1, sg_lmul 31 (sg_ladd (sg_lmul 31 (sg_ladd (sg_lmul 31 (sg_ladd (sg_lmul 31 r5) r6)) r7)) r8))] G9 Q
    refine sg_blk [(53, 0, 0, 0, 0), (44, 0, 0, 0, 0), (28, 0, 0, 4, 0), (12, 31, 0, 323, 0), (6, 0, 0, 4, 0), (46, 0, 0, 0, 0), (1, 0, 0, 0, 0), (3, 0, 0, 3, 0)] (by decide +kernel) ?_
    refine And.intro rfl (And.intro rfl (And.intro rfl (And.intro (Nat.le_of_ble_eq_true rfl) (And.intro rfl (?_)))))
    show sg_Wp 200 228 (d + 1) m_M_tellsPerson 144 [(0, 2, 200), (3, 0, v3), (4, 1, sg_ladd (sg_lmul 31 (sg_ladd (sg_lmul 31 (sg_ladd (sg_lmul 31 (sg_ladd (sg_lmul 31 r5) r6)) r7)) r8)) r9), (6, 0, v6)] [(0, v3), (2, 200), (1, sg_lmul 31 (sg_ladd (sg_lmul 31 (sg_ladd (sg_lmul 31 (sg_ladd (sg_lmul 31 (sg_ladd (sg_lmul 31 r5) r6)) r7)) r8)) r9))] G9 Q
    refine sg_callV (k := d) (y' := m_M_askOf) (av := [(0, v3)]) (rest := [(1, sg_lmul 31 (sg_ladd (sg_lmul 31 (sg_ladd (sg_lmul 31 (sg_ladd (sg_lmul 31 (sg_ladd (sg_lmul 31 r5) r6)) r7)) r8)) r9))]) (b := 200) (by decide +kernel) cv_M_askOf ml_11_291 ce_200 rfl rfl (Nat.le_of_ble_eq_true rfl) (Nat.lt_succ_self d) (Nat.le_of_ble_eq_true rfl) rfl ?_
    show sg_Wp 200 228 d m_M_askOf 0 [(0, 2, 200), (1, 0, v3)] [] G9 _
    refine sg_Wp.mono hhr9 (fun r10 G10 hhr10 => ?_)
    show sg_Wp 200 228 (d + 1) m_M_tellsPerson 147 [(0, 2, 200), (3, 0, v3), (4, 1, sg_ladd (sg_lmul 31 (sg_ladd (sg_lmul 31 (sg_ladd (sg_lmul 31 (sg_ladd (sg_lmul 31 r5) r6)) r7)) r8)) r9), (6, 0, v6)] [(0, r10), (1, sg_lmul 31 (sg_ladd (sg_lmul 31 (sg_ladd (sg_lmul 31 (sg_ladd (sg_lmul 31 (sg_ladd (sg_lmul 31 r5) r6)) r7)) r8)) r9))] G10 Q
    refine sg_blk [(53, 0, 0, 0, 0), (44, 0, 0, 0, 0)] (by decide +kernel) ?_
    show sg_Wp 200 228 (d + 1) m_M_tellsPerson 149 [(0, 2, 200), (3, 0, v3), (4, 1, sg_ladd (sg_lmul 31 (sg_ladd (sg_lmul 31 (sg_ladd (sg_lmul 31 (sg_ladd (sg_lmul 31 r5) r6)) r7)) r8)) r9), (6, 0, v6)] [(1, sg_ladd (sg_lmul 31 (sg_ladd (sg_lmul 31 (sg_ladd (sg_lmul 31 (sg_ladd (sg_lmul 31 (sg_ladd (sg_lmul 31 r5) r6)) r7)) r8)) r9)) r10)] G10 Q
    exact sg_lret (by decide +kernel) rfl hhr10
  · refine sg_blk [(12, 31, 0, 323, 0), (6, 0, 0, 4, 0), (46, 0, 0, 0, 0), (1, 0, 0, 0, 0), (65, 208, 11, 31, 10), (7, 4, 0, 0, 0), (3, 0, 0, 3, 0), (34, 0, 0, 0, 0), (4, 0, 0, 6, 0), (32, 0, 0, 0, 0), (17, 24, 0, 0, 0), (53, 0, 0, 0, 0), (44, 0, 0, 0, 0), (28, 0, 0, 4, 0), (31, 1, 0, 6, 0)] (by decide +kernel) ?_
    refine And.intro rfl (And.intro rfl (And.intro (Nat.le_of_ble_eq_true rfl) (And.intro ce_200 (And.intro rr_200_10 (And.intro rfl (And.intro rfl (And.intro rfl (And.intro ce_208 (And.intro (h.2 q1).1 (And.intro rfl (And.intro rfl (?_))))))))))))
    show sg_Wp 200 228 (d + 1) m_M_tellsPerson 40 [(0, 2, 200), (3, 0, v3), (4, 1, sg_ladd (sg_lmul 31 v4) (G 208 (sg_iadd (sg_imul 4 v3) v6))), (6, 0, sg_iadd v6 1)] [] G Q
    refine sg_goto (off := -30) (tgt := 10) (by decide +kernel) (by decide) ?_
    exact (h.2 q1).2
set_option maxRecDepth 100000 in
theorem g_M_tellsPost_0 {d : Nat} {v1 v3 : Int} {G : SgM} {Q : Int → SgM → Prop} (h : sg_Wp 200 228 d m_M_lives 0 [(0, 2, 200)] [] G (fun r1 G1 => (0 ≤ (sg_imul 2 v3) ∧ (sg_imul 2 v3) < 16) ∧ (0 ≤ (sg_iadd (sg_imul 2 v3) 1) ∧ (sg_iadd (sg_imul 2 v3) 1) < 16) ∧ (sg_Wp 200 228 d m_M_tellsStood 0 [(0, 2, 200), (1, 1, sg_ladd (sg_lmul 31 (sg_ladd (sg_lmul 31 v1) (G1 207 (sg_imul 2 v3)))) (G1 207 (sg_iadd (sg_imul 2 v3) 1))), (3, 0, 0), (4, 0, v3)] [] G1 (fun r2 G2 => sg_Wp 200 228 d m_M_tellsStood 0 [(0, 2, 200), (1, 1, r2), (3, 0, 7), (4, 0, v3)] [] G2 (fun r3 G3 => sg_Wp 200 228 d m_M_tellsStood 0 [(0, 2, 200), (1, 1, r3), (3, 0, 15), (4, 0, v3)] [] G3 (fun r4 G4 => sg_Wp 200 228 d m_M_tellsStood 0 [(0, 2, 200), (1, 1, r4), (3, 0, 23), (4, 0, v3)] [] G4 (fun r5 G5 => sg_Wp 200 228 d m_M_chanceOf 0 [(0, 2, 200), (1, 0, 5), (2, 0, v3), (3, 0, 0)] [] G5 (fun r6 G6 => sg_Wp 200 228 d m_M_chanceOf 0 [(0, 2, 200), (1, 0, 5), (2, 0, v3), (3, 0, 1)] [] G6 (fun r7 G7 => Q (sg_ladd (sg_lmul 31 (sg_ladd (sg_lmul 31 r5) r6)) r7) G7))))))))) : sg_Wp 200 228 (d + 1) m_M_tellsPost 0 [(0, 2, 200), (1, 1, v1), (3, 0, v3)] [] G Q := by
  refine sg_blk [(1, 0, 0, 0, 0)] (by decide +kernel) ?_
  refine And.intro (Nat.le_of_ble_eq_true rfl) (?_)
  show sg_Wp 200 228 (d + 1) m_M_tellsPost 1 [(0, 2, 200), (1, 1, v1), (3, 0, v3)] [(2, 200)] G Q
  refine sg_callV (k := d) (y' := m_M_lives) (av := []) (rest := []) (b := 200) (by decide +kernel) cv_M_lives ml_11_214 ce_200 rfl rfl (Nat.le_of_ble_eq_true rfl) (Nat.lt_succ_self d) (Nat.le_of_ble_eq_true rfl) rfl ?_
  show sg_Wp 200 228 d m_M_lives 0 [(0, 2, 200)] [] G _
  refine sg_Wp.mono h (fun r1 G1 hhr1 => ?_)
  show sg_Wp 200 228 (d + 1) m_M_tellsPost 4 [(0, 2, 200), (1, 1, v1), (3, 0, v3)] [] G1 Q
  refine sg_blk [(12, 31, 0, 323, 0), (5, 0, 0, 1, 0), (46, 0, 0, 0, 0), (1, 0, 0, 0, 0), (65, 207, 11, 28, 8), (7, 2, 0, 0, 0), (3, 0, 0, 3, 0), (34, 0, 0, 0, 0), (17, 16, 0, 0, 0), (53, 0, 0, 0, 0), (44, 0, 0, 0, 0), (28, 0, 0, 4, 0), (12, 31, 0, 323, 0), (6, 0, 0, 4, 0), (46, 0, 0, 0, 0), (1, 0, 0, 0, 0), (65, 207, 11, 28, 8), (7, 2, 0, 0, 0), (3, 0, 0, 3, 0), (34, 0, 0, 0, 0), (7, 1, 0, 0, 0), (32, 0, 0, 0, 0), (17, 16, 0, 0, 0), (53, 0, 0, 0, 0), (44, 0, 0, 0, 0), (28, 0, 0, 4, 0), (1, 0, 0, 0, 0), (1, 0, 0, 0, 0), (1, 0, 0, 0, 0), (1, 0, 0, 0, 0), (6, 0, 0, 4, 0), (7, 0, 0, 0, 0), (3, 0, 0, 3, 0)] (by decide +kernel) ?_
  refine And.intro rfl (And.intro rfl (And.intro (Nat.le_of_ble_eq_true rfl) (And.intro ce_200 (And.intro rr_200_8 (And.intro rfl (And.intro rfl (And.intro ce_207 (And.intro hhr1.1 (And.intro rfl (And.intro rfl (And.intro rfl (And.intro (Nat.le_of_ble_eq_true rfl) (And.intro ce_200 (And.intro rr_200_8 (And.intro rfl (And.intro rfl (And.intro rfl (And.intro ce_207 (And.intro hhr1.2.1 (And.intro rfl (And.intro (Nat.le_of_ble_eq_true rfl) (And.intro (Nat.le_of_ble_eq_true rfl) (And.intro (Nat.le_of_ble_eq_true rfl) (And.intro (Nat.le_of_ble_eq_true rfl) (And.intro rfl (And.intro rfl (And.intro rfl (?_))))))))))))))))))))))))))))
  show sg_Wp 200 228 (d + 1) m_M_tellsPost 49 [(0, 2, 200), (1, 1, v1), (3, 0, v3), (4, 1, sg_ladd (sg_lmul 31 (sg_ladd (sg_lmul 31 v1) (G1 207 (sg_imul 2 v3)))) (G1 207 (sg_iadd (sg_imul 2 v3) 1)))] [(0, v3), (0, 0), (1, sg_ladd (sg_lmul 31 (sg_ladd (sg_lmul 31 v1) (G1 207 (sg_imul 2 v3)))) (G1 207 (sg_iadd (sg_imul 2 v3) 1))), (2, 200), (2, 200), (2, 200), (2, 200)] G1 Q
  refine sg_callV (k := d) (y' := m_M_tellsStood) (av := [(1, sg_ladd (sg_lmul 31 (sg_ladd (sg_lmul 31 v1) (G1 207 (sg_imul 2 v3)))) (G1 207 (sg_iadd (sg_imul 2 v3) 1))), (0, 0), (0, v3)]) (rest := [(2, 200), (2, 200), (2, 200)]) (b := 200) (by decide +kernel) cv_M_tellsStood ml_11_325 ce_200 rfl rfl (Nat.le_of_ble_eq_true rfl) (Nat.lt_succ_self d) (Nat.le_of_ble_eq_true rfl) rfl ?_
  show sg_Wp 200 228 d m_M_tellsStood 0 [(0, 2, 200), (1, 1, sg_ladd (sg_lmul 31 (sg_ladd (sg_lmul 31 v1) (G1 207 (sg_imul 2 v3)))) (G1 207 (sg_iadd (sg_imul 2 v3) 1))), (3, 0, 0), (4, 0, v3)] [] G1 _
  refine sg_Wp.mono hhr1.2.2 (fun r2 G2 hhr2 => ?_)
  show sg_Wp 200 228 (d + 1) m_M_tellsPost 52 [(0, 2, 200), (1, 1, v1), (3, 0, v3), (4, 1, sg_ladd (sg_lmul 31 (sg_ladd (sg_lmul 31 v1) (G1 207 (sg_imul 2 v3)))) (G1 207 (sg_iadd (sg_imul 2 v3) 1)))] [(1, r2), (2, 200), (2, 200), (2, 200)] G2 Q
  refine sg_blk [(8, 7, 0, 0, 0), (3, 0, 0, 3, 0)] (by decide +kernel) ?_
  refine And.intro rfl (And.intro rfl (And.intro rfl (?_)))
  show sg_Wp 200 228 (d + 1) m_M_tellsPost 55 [(0, 2, 200), (1, 1, v1), (3, 0, v3), (4, 1, sg_ladd (sg_lmul 31 (sg_ladd (sg_lmul 31 v1) (G1 207 (sg_imul 2 v3)))) (G1 207 (sg_iadd (sg_imul 2 v3) 1)))] [(0, v3), (0, 7), (1, r2), (2, 200), (2, 200), (2, 200)] G2 Q
  refine sg_callV (k := d) (y' := m_M_tellsStood) (av := [(1, r2), (0, 7), (0, v3)]) (rest := [(2, 200), (2, 200)]) (b := 200) (by decide +kernel) cv_M_tellsStood ml_11_325 ce_200 rfl rfl (Nat.le_of_ble_eq_true rfl) (Nat.lt_succ_self d) (Nat.le_of_ble_eq_true rfl) rfl ?_
  show sg_Wp 200 228 d m_M_tellsStood 0 [(0, 2, 200), (1, 1, r2), (3, 0, 7), (4, 0, v3)] [] G2 _
  refine sg_Wp.mono hhr2 (fun r3 G3 hhr3 => ?_)
  show sg_Wp 200 228 (d + 1) m_M_tellsPost 58 [(0, 2, 200), (1, 1, v1), (3, 0, v3), (4, 1, sg_ladd (sg_lmul 31 (sg_ladd (sg_lmul 31 v1) (G1 207 (sg_imul 2 v3)))) (G1 207 (sg_iadd (sg_imul 2 v3) 1)))] [(1, r3), (2, 200), (2, 200)] G3 Q
  refine sg_blk [(8, 15, 0, 0, 0), (3, 0, 0, 3, 0)] (by decide +kernel) ?_
  refine And.intro rfl (And.intro rfl (And.intro rfl (?_)))
  show sg_Wp 200 228 (d + 1) m_M_tellsPost 61 [(0, 2, 200), (1, 1, v1), (3, 0, v3), (4, 1, sg_ladd (sg_lmul 31 (sg_ladd (sg_lmul 31 v1) (G1 207 (sg_imul 2 v3)))) (G1 207 (sg_iadd (sg_imul 2 v3) 1)))] [(0, v3), (0, 15), (1, r3), (2, 200), (2, 200)] G3 Q
  refine sg_callV (k := d) (y' := m_M_tellsStood) (av := [(1, r3), (0, 15), (0, v3)]) (rest := [(2, 200)]) (b := 200) (by decide +kernel) cv_M_tellsStood ml_11_325 ce_200 rfl rfl (Nat.le_of_ble_eq_true rfl) (Nat.lt_succ_self d) (Nat.le_of_ble_eq_true rfl) rfl ?_
  show sg_Wp 200 228 d m_M_tellsStood 0 [(0, 2, 200), (1, 1, r3), (3, 0, 15), (4, 0, v3)] [] G3 _
  refine sg_Wp.mono hhr3 (fun r4 G4 hhr4 => ?_)
  show sg_Wp 200 228 (d + 1) m_M_tellsPost 64 [(0, 2, 200), (1, 1, v1), (3, 0, v3), (4, 1, sg_ladd (sg_lmul 31 (sg_ladd (sg_lmul 31 v1) (G1 207 (sg_imul 2 v3)))) (G1 207 (sg_iadd (sg_imul 2 v3) 1)))] [(1, r4), (2, 200)] G4 Q
  refine sg_blk [(8, 23, 0, 0, 0), (3, 0, 0, 3, 0)] (by decide +kernel) ?_
  refine And.intro rfl (And.intro rfl (And.intro rfl (?_)))
  show sg_Wp 200 228 (d + 1) m_M_tellsPost 67 [(0, 2, 200), (1, 1, v1), (3, 0, v3), (4, 1, sg_ladd (sg_lmul 31 (sg_ladd (sg_lmul 31 v1) (G1 207 (sg_imul 2 v3)))) (G1 207 (sg_iadd (sg_imul 2 v3) 1)))] [(0, v3), (0, 23), (1, r4), (2, 200)] G4 Q
  refine sg_callV (k := d) (y' := m_M_tellsStood) (av := [(1, r4), (0, 23), (0, v3)]) (rest := []) (b := 200) (by decide +kernel) cv_M_tellsStood ml_11_325 ce_200 rfl rfl (Nat.le_of_ble_eq_true rfl) (Nat.lt_succ_self d) (Nat.le_of_ble_eq_true rfl) rfl ?_
  show sg_Wp 200 228 d m_M_tellsStood 0 [(0, 2, 200), (1, 1, r4), (3, 0, 23), (4, 0, v3)] [] G4 _
  refine sg_Wp.mono hhr4 (fun r5 G5 hhr5 => ?_)
  show sg_Wp 200 228 (d + 1) m_M_tellsPost 70 [(0, 2, 200), (1, 1, v1), (3, 0, v3), (4, 1, sg_ladd (sg_lmul 31 (sg_ladd (sg_lmul 31 v1) (G1 207 (sg_imul 2 v3)))) (G1 207 (sg_iadd (sg_imul 2 v3) 1)))] [(1, r5)] G5 Q
  refine sg_blk [(28, 0, 0, 4, 0), (12, 31, 0, 323, 0), (6, 0, 0, 4, 0), (46, 0, 0, 0, 0), (1, 0, 0, 0, 0), (7, 5, 0, 0, 0), (3, 0, 0, 3, 0), (7, 0, 0, 0, 0)] (by decide +kernel) ?_
  refine And.intro rfl (And.intro rfl (And.intro rfl (And.intro (Nat.le_of_ble_eq_true rfl) (And.intro rfl (And.intro rfl (And.intro rfl (?_)))))))
  show sg_Wp 200 228 (d + 1) m_M_tellsPost 82 [(0, 2, 200), (1, 1, v1), (3, 0, v3), (4, 1, r5)] [(0, 0), (0, v3), (0, 5), (2, 200), (1, sg_lmul 31 r5)] G5 Q
  refine sg_callV (k := d) (y' := m_M_chanceOf) (av := [(0, 5), (0, v3), (0, 0)]) (rest := [(1, sg_lmul 31 r5)]) (b := 200) (by decide +kernel) cv_M_chanceOf ml_11_300 ce_200 rfl rfl (Nat.le_of_ble_eq_true rfl) (Nat.lt_succ_self d) (Nat.le_of_ble_eq_true rfl) rfl ?_
  show sg_Wp 200 228 d m_M_chanceOf 0 [(0, 2, 200), (1, 0, 5), (2, 0, v3), (3, 0, 0)] [] G5 _
  refine sg_Wp.mono hhr5 (fun r6 G6 hhr6 => ?_)
  show sg_Wp 200 228 (d + 1) m_M_tellsPost 85 [(0, 2, 200), (1, 1, v1), (3, 0, v3), (4, 1, r5)] [(1, r6), (1, sg_lmul 31 r5)] G6 Q
  refine sg_blk [(44, 0, 0, 0, 0), (28, 0, 0, 4, 0), (12, 31, 0, 323, 0), (6, 0, 0, 4, 0), (46, 0, 0, 0, 0), (1, 0, 0, 0, 0), (7, 5, 0, 0, 0), (3, 0, 0, 3, 0), (7, 1, 0, 0, 0)] (by decide +kernel) ?_
  refine And.intro rfl (And.intro rfl (And.intro rfl (And.intro (Nat.le_of_ble_eq_true rfl) (And.intro rfl (And.intro rfl (And.intro rfl (?_)))))))
  show sg_Wp 200 228 (d + 1) m_M_tellsPost 98 [(0, 2, 200), (1, 1, v1), (3, 0, v3), (4, 1, sg_ladd (sg_lmul 31 r5) r6)] [(0, 1), (0, v3), (0, 5), (2, 200), (1, sg_lmul 31 (sg_ladd (sg_lmul 31 r5) r6))] G6 Q
  refine sg_callV (k := d) (y' := m_M_chanceOf) (av := [(0, 5), (0, v3), (0, 1)]) (rest := [(1, sg_lmul 31 (sg_ladd (sg_lmul 31 r5) r6))]) (b := 200) (by decide +kernel) cv_M_chanceOf ml_11_300 ce_200 rfl rfl (Nat.le_of_ble_eq_true rfl) (Nat.lt_succ_self d) (Nat.le_of_ble_eq_true rfl) rfl ?_
  show sg_Wp 200 228 d m_M_chanceOf 0 [(0, 2, 200), (1, 0, 5), (2, 0, v3), (3, 0, 1)] [] G6 _
  refine sg_Wp.mono hhr6 (fun r7 G7 hhr7 => ?_)
  show sg_Wp 200 228 (d + 1) m_M_tellsPost 101 [(0, 2, 200), (1, 1, v1), (3, 0, v3), (4, 1, sg_ladd (sg_lmul 31 r5) r6)] [(1, r7), (1, sg_lmul 31 (sg_ladd (sg_lmul 31 r5) r6))] G7 Q
  refine sg_blk [(44, 0, 0, 0, 0)] (by decide +kernel) ?_
  show sg_Wp 200 228 (d + 1) m_M_tellsPost 102 [(0, 2, 200), (1, 1, v1), (3, 0, v3), (4, 1, sg_ladd (sg_lmul 31 r5) r6)] [(1, sg_ladd (sg_lmul 31 (sg_ladd (sg_lmul 31 r5) r6)) r7)] G7 Q
  exact sg_lret (by decide +kernel) rfl hhr7
set_option maxRecDepth 100000 in
theorem g_M_tellsStood_0 {d : Nat} {v1 v3 v4 : Int} {G : SgM} {Q : Int → SgM → Prop} (h : sg_Wp 200 228 (d + 1) m_M_tellsStood 6 [(0, 2, 200), (3, 0, v3), (4, 0, v4), (5, 1, v1), (7, 0, 0)] [] G Q) : sg_Wp 200 228 (d + 1) m_M_tellsStood 0 [(0, 2, 200), (1, 1, v1), (3, 0, v3), (4, 0, v4)] [] G Q := by
  refine sg_blk [(5, 0, 0, 1, 0), (28, 0, 0, 5, 0), (7, 0, 0, 0, 0), (26, 0, 0, 7, 0)] (by decide +kernel) ?_
  refine And.intro rfl (And.intro rfl (And.intro rfl (And.intro rfl (?_))))
  show sg_Wp 200 228 (d + 1) m_M_tellsStood 6 [(0, 2, 200), (1, 1, v1), (3, 0, v3), (4, 0, v4), (5, 1, v1), (7, 0, 0)] [] G Q
  exact sg_Wp.keepk [0, 2, 3, 4, 5] rfl h
set_option maxRecDepth 100000 in
theorem g_M_tellsStood_6 {d : Nat} {v3 v4 v5 v7 : Int} {G : SgM} {Q : Int → SgM → Prop} (h : (3 ≤ v7 → (Q v5 G)) ∧ (¬ (3 ≤ v7) → (sg_Wp 200 228 d m_M_stoodOf 0 [(0, 2, 200), (1, 0, v3), (2, 0, v4), (3, 0, v7)] [] G (fun r1 G1 => sg_Wp 200 228 (d + 1) m_M_tellsStood 6 [(0, 2, 200), (3, 0, v3), (4, 0, v4), (5, 1, sg_ladd (sg_lmul 31 v5) r1), (7, 0, sg_iadd v7 1)] [] G1 Q)))) : sg_Wp 200 228 (d + 1) m_M_tellsStood 6 [(0, 2, 200), (3, 0, v3), (4, 0, v4), (5, 1, v5), (7, 0, v7)] [] G Q := by
  refine sg_blk [(4, 0, 0, 7, 0), (7, 3, 0, 0, 0)] (by decide +kernel) ?_
  refine And.intro rfl (And.intro rfl (?_))
  show sg_Wp 200 228 (d + 1) m_M_tellsStood 9 [(0, 2, 200), (3, 0, v3), (4, 0, v4), (5, 1, v5), (7, 0, v7)] [(0, 3), (0, v7)] G Q
  refine sg_icmp_ge (off := 28) (tgt := 37) (by decide +kernel) (by decide) ⟨fun q1 => ?_, fun q1 => ?_⟩
  · refine sg_blk [(6, 0, 0, 5, 0)] (by decide +kernel) ?_
    refine And.intro rfl (?_)
    show sg_Wp 200 228 (d + 1) m_M_tellsStood 39 [(0, 2, 200), (3, 0, v3), (4, 0, v4), (5, 1, v5), (7, 0, v7)] [(1, v5)] G Q
    exact sg_lret (by decide +kernel) rfl ((h.1 q1))
  · refine sg_blk [(12, 31, 0, 323, 0), (6, 0, 0, 5, 0), (46, 0, 0, 0, 0), (1, 0, 0, 0, 0), (3, 0, 0, 3, 0), (4, 0, 0, 4, 0), (4, 0, 0, 7, 0)] (by decide +kernel) ?_
    refine And.intro rfl (And.intro rfl (And.intro (Nat.le_of_ble_eq_true rfl) (And.intro rfl (And.intro rfl (And.intro rfl (?_))))))
    show sg_Wp 200 228 (d + 1) m_M_tellsStood 24 [(0, 2, 200), (3, 0, v3), (4, 0, v4), (5, 1, v5), (7, 0, v7)] [(0, v7), (0, v4), (0, v3), (2, 200), (1, sg_lmul 31 v5)] G Q
    refine sg_callV (k := d) (y' := m_M_stoodOf) (av := [(0, v3), (0, v4), (0, v7)]) (rest := [(1, sg_lmul 31 v5)]) (b := 200) (by decide +kernel) cv_M_stoodOf ml_11_223 ce_200 rfl rfl (Nat.le_of_ble_eq_true rfl) (Nat.lt_succ_self d) (Nat.le_of_ble_eq_true rfl) rfl ?_
    show sg_Wp 200 228 d m_M_stoodOf 0 [(0, 2, 200), (1, 0, v3), (2, 0, v4), (3, 0, v7)] [] G _
    refine sg_Wp.mono ((h.2 q1)) (fun r1 G1 hhr1 => ?_)
    show sg_Wp 200 228 (d + 1) m_M_tellsStood 27 [(0, 2, 200), (3, 0, v3), (4, 0, v4), (5, 1, v5), (7, 0, v7)] [(0, r1), (1, sg_lmul 31 v5)] G1 Q
    refine sg_blk [(53, 0, 0, 0, 0), (44, 0, 0, 0, 0), (28, 0, 0, 5, 0), (31, 1, 0, 7, 0)] (by decide +kernel) ?_
    refine And.intro rfl (And.intro rfl (?_))
    show sg_Wp 200 228 (d + 1) m_M_tellsStood 34 [(0, 2, 200), (3, 0, v3), (4, 0, v4), (5, 1, sg_ladd (sg_lmul 31 v5) r1), (7, 0, sg_iadd v7 1)] [] G1 Q
    refine sg_goto (off := -28) (tgt := 6) (by decide +kernel) (by decide) ?_
    exact hhr1
set_option maxRecDepth 100000 in
theorem g_M_was_0 {d : Nat} {v1 v2 : Int} {G : SgM} {Q : Int → SgM → Prop} (h : sg_Wp 200 228 (d + 1) m_M_find 0 [(0, 2, 200)] [] G (fun r1 G1 => sg_Wp 200 228 (d + 1) m_M_isPerson 0 [(0, 2, 200), (1, 0, v1)] [] G1 (fun r2 G2 => (r2 = 0 → (Q ((-2)) G2)) ∧ (¬ (r2 = 0) → (((0 ≤ v2 ∧ v2 ≤ 1) → (sg_Wp 200 228 (d + 1) m_M_wasOf 0 [(0, 2, 200), (1, 0, v1), (2, 0, v2)] [] G2 (fun r3 G3 => Q r3 G3))) ∧ (¬ (0 ≤ v2 ∧ v2 ≤ 1) → (Q ((-2)) G2))))))) : sg_Wp 200 228 (d + 2) m_M_was 0 [(0, 2, 200), (1, 0, v1), (2, 0, v2)] [] G Q := by
  refine sg_blk [(1, 0, 0, 0, 0)] (by decide +kernel) ?_
  refine And.intro (Nat.le_of_ble_eq_true rfl) (?_)
  show sg_Wp 200 228 (d + 2) m_M_was 1 [(0, 2, 200), (1, 0, v1), (2, 0, v2)] [(2, 200)] G Q
  refine sg_callV (k := (d + 1)) (y' := m_M_find) (av := []) (rest := []) (b := 200) (by decide +kernel) cv_M_find ml_11_217 ce_200 rfl rfl (Nat.le_of_ble_eq_true rfl) (Nat.lt_succ_self (d + 1)) (Nat.le_of_ble_eq_true rfl) rfl ?_
  show sg_Wp 200 228 (d + 1) m_M_find 0 [(0, 2, 200)] [] G _
  refine sg_Wp.mono h (fun r1 G1 hhr1 => ?_)
  show sg_Wp 200 228 (d + 2) m_M_was 4 [(0, 2, 200), (1, 0, v1), (2, 0, v2)] [] G1 Q
  refine sg_blk [(1, 0, 0, 0, 0), (3, 0, 0, 1, 0)] (by decide +kernel) ?_
  refine And.intro (Nat.le_of_ble_eq_true rfl) (And.intro rfl (?_))
  show sg_Wp 200 228 (d + 2) m_M_was 6 [(0, 2, 200), (1, 0, v1), (2, 0, v2)] [(0, v1), (2, 200)] G1 Q
  refine sg_callV (k := (d + 1)) (y' := m_M_isPerson) (av := [(0, v1)]) (rest := []) (b := 200) (by decide +kernel) cv_M_isPerson ml_11_161 ce_200 rfl rfl (Nat.le_of_ble_eq_true rfl) (Nat.lt_succ_self (d + 1)) (Nat.le_of_ble_eq_true rfl) rfl ?_
  show sg_Wp 200 228 (d + 1) m_M_isPerson 0 [(0, 2, 200), (1, 0, v1)] [] G1 _
  refine sg_Wp.mono hhr1 (fun r2 G2 hhr2 => ?_)
  show sg_Wp 200 228 (d + 2) m_M_was 9 [(0, 2, 200), (1, 0, v1), (2, 0, v2)] [(0, r2)] G2 Q
  refine sg_if_eq (off := 19) (tgt := 28) (by decide +kernel) (by decide) ⟨fun q2 => ?_, fun q2 => ?_⟩
  · refine sg_blk [(8, (-2), 0, 0, 0)] (by decide +kernel) ?_
    refine And.intro rfl (And.intro rfl (?_))
    show sg_Wp 200 228 (d + 2) m_M_was 30 [(0, 2, 200), (1, 0, v1), (2, 0, v2)] [(0, (-2))] G2 Q
    exact sg_ret (by decide +kernel) rfl (Or.inl rfl) ((hhr2.1 q2))
  · refine sg_blk [(3, 0, 0, 2, 0)] (by decide +kernel) ?_
    refine And.intro rfl (?_)
    show sg_Wp 200 228 (d + 2) m_M_was 13 [(0, 2, 200), (1, 0, v1), (2, 0, v2)] [(0, v2)] G2 Q
    refine sg_callS (k := (d + 1)) (y' := m_M_isTwo) (av := [(0, v2)]) (rest := []) (by decide +kernel) cs_M_isTwo ml_11_126 rfl (Nat.le_of_ble_eq_true rfl) (Nat.lt_succ_self (d + 1)) (Nat.le_of_ble_eq_true rfl) rfl ?_
    show sg_Wp 200 228 (d + 1) m_M_isTwo 0 [(0, 0, v2)] [] G2 _
    refine s_M_isTwo ?_
    show sg_Wp 200 228 (d + 2) m_M_was 16 [(0, 2, 200), (1, 0, v1), (2, 0, v2)] [(0, sg_bo (0 ≤ v2 ∧ v2 ≤ 1))] G2 Q
    refine sg_bif_eq (off := 12) (tgt := 28) (by decide +kernel) (by decide) ⟨fun q1 => ?_, fun q1 => ?_⟩
    · refine sg_blk [(1, 0, 0, 0, 0), (3, 0, 0, 1, 0), (3, 0, 0, 2, 0)] (by decide +kernel) ?_
      refine And.intro (Nat.le_of_ble_eq_true rfl) (And.intro rfl (And.intro rfl (?_)))
      show sg_Wp 200 228 (d + 2) m_M_was 22 [(0, 2, 200), (1, 0, v1), (2, 0, v2)] [(0, v2), (0, v1), (2, 200)] G2 Q
      refine sg_callV (k := (d + 1)) (y' := m_M_wasOf) (av := [(0, v1), (0, v2)]) (rest := []) (b := 200) (by decide +kernel) cv_M_wasOf ml_11_285 ce_200 rfl rfl (Nat.le_of_ble_eq_true rfl) (Nat.lt_succ_self (d + 1)) (Nat.le_of_ble_eq_true rfl) rfl ?_
      show sg_Wp 200 228 (d + 1) m_M_wasOf 0 [(0, 2, 200), (1, 0, v1), (2, 0, v2)] [] G2 _
      refine sg_Wp.mono (((hhr2.2 q2).1 q1)) (fun r3 G3 hhr3 => ?_)
      show sg_Wp 200 228 (d + 2) m_M_was 25 [(0, 2, 200), (1, 0, v1), (2, 0, v2)] [(0, r3)] G3 Q
      refine sg_goto (off := 5) (tgt := 30) (by decide +kernel) (by decide) ?_
      exact sg_ret (by decide +kernel) rfl (Or.inl rfl) hhr3
    · refine sg_blk [(8, (-2), 0, 0, 0)] (by decide +kernel) ?_
      refine And.intro rfl (And.intro rfl (?_))
      show sg_Wp 200 228 (d + 2) m_M_was 30 [(0, 2, 200), (1, 0, v1), (2, 0, v2)] [(0, (-2))] G2 Q
      exact sg_ret (by decide +kernel) rfl (Or.inl rfl) (((hhr2.2 q2).2 q1))
set_option maxRecDepth 100000 in
theorem g_M_wasOf_0 {d : Nat} {v1 v2 : Int} {G : SgM} {Q : Int → SgM → Prop} (h : (v2 ≠ 0 → (sg_Wp 200 228 d m_M_coldsOf 0 [(0, 2, 200), (1, 0, v1)] [] G (fun r1 G1 => Q r1 G1))) ∧ (¬ (v2 ≠ 0) → (sg_Wp 200 228 d m_M_sortOf 0 [(0, 2, 200), (1, 0, v1)] [] G (fun r2 G2 => Q r2 G2)))) : sg_Wp 200 228 (d + 1) m_M_wasOf 0 [(0, 2, 200), (1, 0, v1), (2, 0, v2)] [] G Q := by
  refine sg_blk [(3, 0, 0, 2, 0)] (by decide +kernel) ?_
  refine And.intro rfl (?_)
  show sg_Wp 200 228 (d + 1) m_M_wasOf 1 [(0, 2, 200), (1, 0, v1), (2, 0, v2)] [(0, v2)] G Q
  refine sg_if_ne (off := 11) (tgt := 12) (by decide +kernel) (by decide) ⟨fun q1 => ?_, fun q1 => ?_⟩
  · refine sg_blk [(1, 0, 0, 0, 0), (3, 0, 0, 1, 0)] (by decide +kernel) ?_
    refine And.intro (Nat.le_of_ble_eq_true rfl) (And.intro rfl (?_))
    show sg_Wp 200 228 (d + 1) m_M_wasOf 14 [(0, 2, 200), (1, 0, v1), (2, 0, v2)] [(0, v1), (2, 200)] G Q
    refine sg_callV (k := d) (y' := m_M_coldsOf) (av := [(0, v1)]) (rest := []) (b := 200) (by decide +kernel) cv_M_coldsOf ml_11_282 ce_200 rfl rfl (Nat.le_of_ble_eq_true rfl) (Nat.lt_succ_self d) (Nat.le_of_ble_eq_true rfl) rfl ?_
    show sg_Wp 200 228 d m_M_coldsOf 0 [(0, 2, 200), (1, 0, v1)] [] G _
    refine sg_Wp.mono ((h.1 q1)) (fun r1 G1 hhr1 => ?_)
    show sg_Wp 200 228 (d + 1) m_M_wasOf 17 [(0, 2, 200), (1, 0, v1), (2, 0, v2)] [(0, r1)] G1 Q
    exact sg_ret (by decide +kernel) rfl (Or.inl rfl) hhr1
  · refine sg_blk [(1, 0, 0, 0, 0), (3, 0, 0, 1, 0)] (by decide +kernel) ?_
    refine And.intro (Nat.le_of_ble_eq_true rfl) (And.intro rfl (?_))
    show sg_Wp 200 228 (d + 1) m_M_wasOf 6 [(0, 2, 200), (1, 0, v1), (2, 0, v2)] [(0, v1), (2, 200)] G Q
    refine sg_callV (k := d) (y' := m_M_sortOf) (av := [(0, v1)]) (rest := []) (b := 200) (by decide +kernel) cv_M_sortOf ml_11_279 ce_200 rfl rfl (Nat.le_of_ble_eq_true rfl) (Nat.lt_succ_self d) (Nat.le_of_ble_eq_true rfl) rfl ?_
    show sg_Wp 200 228 d m_M_sortOf 0 [(0, 2, 200), (1, 0, v1)] [] G _
    refine sg_Wp.mono ((h.2 q1)) (fun r2 G2 hhr2 => ?_)
    show sg_Wp 200 228 (d + 1) m_M_wasOf 9 [(0, 2, 200), (1, 0, v1), (2, 0, v2)] [(0, r2)] G2 Q
    refine sg_goto (off := 8) (tgt := 17) (by decide +kernel) (by decide) ?_
    exact sg_ret (by decide +kernel) rfl (Or.inl rfl) hhr2
set_option maxRecDepth 100000 in
theorem g_M_write_0 {d : Nat} {v1 v2 : Int} {G : SgM} {Q : Int → SgM → Prop} (h : sg_Wp 200 228 (d + 1) m_M_find 0 [(0, 2, 200)] [] G (fun r1 G1 => sg_Wp 200 228 (d + 1) m_M_isPost 0 [(0, 2, 200), (1, 0, v1)] [] G1 (fun r2 G2 => (r2 = 0 → (Q ((-2)) G2)) ∧ (¬ (r2 = 0) → (((0 ≤ v2 ∧ v2 ≤ 3) → ((0 ≤ v2 ∧ v2 < 4) ∧ ((0 ≤ (G2 201 v2) → ((0 ≤ v2 ∧ v2 < 4) ∧ (sg_Wp 200 228 (d + 2) m_M_write 52 [(0, 2, 200), (1, 0, v1), (2, 0, v2), (3, 0, sg_lss (G2 202 v2) 24), (4, 0, 0)] [] G2 Q))) ∧ (¬ (0 ≤ (G2 201 v2)) → (sg_Wp 200 228 (d + 1) m_M_finds 0 [(0, 2, 200), (1, 0, 1)] [] G2 (fun r3 G3 => Q r3 G3)))))) ∧ (¬ (0 ≤ v2 ∧ v2 ≤ 3) → (Q ((-2)) G2))))))) : sg_Wp 200 228 (d + 2) m_M_write 0 [(0, 2, 200), (1, 0, v1), (2, 0, v2)] [] G Q := by
  refine sg_blk [(1, 0, 0, 0, 0)] (by decide +kernel) ?_
  refine And.intro (Nat.le_of_ble_eq_true rfl) (?_)
  show sg_Wp 200 228 (d + 2) m_M_write 1 [(0, 2, 200), (1, 0, v1), (2, 0, v2)] [(2, 200)] G Q
  refine sg_callV (k := (d + 1)) (y' := m_M_find) (av := []) (rest := []) (b := 200) (by decide +kernel) cv_M_find ml_11_217 ce_200 rfl rfl (Nat.le_of_ble_eq_true rfl) (Nat.lt_succ_self (d + 1)) (Nat.le_of_ble_eq_true rfl) rfl ?_
  show sg_Wp 200 228 (d + 1) m_M_find 0 [(0, 2, 200)] [] G _
  refine sg_Wp.mono h (fun r1 G1 hhr1 => ?_)
  show sg_Wp 200 228 (d + 2) m_M_write 4 [(0, 2, 200), (1, 0, v1), (2, 0, v2)] [] G1 Q
  refine sg_blk [(1, 0, 0, 0, 0), (3, 0, 0, 1, 0)] (by decide +kernel) ?_
  refine And.intro (Nat.le_of_ble_eq_true rfl) (And.intro rfl (?_))
  show sg_Wp 200 228 (d + 2) m_M_write 6 [(0, 2, 200), (1, 0, v1), (2, 0, v2)] [(0, v1), (2, 200)] G1 Q
  refine sg_callV (k := (d + 1)) (y' := m_M_isPost) (av := [(0, v1)]) (rest := []) (b := 200) (by decide +kernel) cv_M_isPost ml_11_158 ce_200 rfl rfl (Nat.le_of_ble_eq_true rfl) (Nat.lt_succ_self (d + 1)) (Nat.le_of_ble_eq_true rfl) rfl ?_
  show sg_Wp 200 228 (d + 1) m_M_isPost 0 [(0, 2, 200), (1, 0, v1)] [] G1 _
  refine sg_Wp.mono hhr1 (fun r2 G2 hhr2 => ?_)
  show sg_Wp 200 228 (d + 2) m_M_write 9 [(0, 2, 200), (1, 0, v1), (2, 0, v2)] [(0, r2)] G2 Q
  refine sg_if_eq (off := 10) (tgt := 19) (by decide +kernel) (by decide) ⟨fun q3 => ?_, fun q3 => ?_⟩
  · refine sg_blk [(8, (-2), 0, 0, 0)] (by decide +kernel) ?_
    refine And.intro rfl (And.intro rfl (?_))
    show sg_Wp 200 228 (d + 2) m_M_write 21 [(0, 2, 200), (1, 0, v1), (2, 0, v2)] [(0, (-2))] G2 Q
    exact sg_ret (by decide +kernel) rfl (Or.inl rfl) ((hhr2.1 q3))
  · refine sg_blk [(3, 0, 0, 2, 0)] (by decide +kernel) ?_
    refine And.intro rfl (?_)
    show sg_Wp 200 228 (d + 2) m_M_write 13 [(0, 2, 200), (1, 0, v1), (2, 0, v2)] [(0, v2)] G2 Q
    refine sg_callS (k := (d + 1)) (y' := m_M_isSheet) (av := [(0, v2)]) (rest := []) (by decide +kernel) cs_M_isSheet ml_11_107 rfl (Nat.le_of_ble_eq_true rfl) (Nat.lt_succ_self (d + 1)) (Nat.le_of_ble_eq_true rfl) rfl ?_
    show sg_Wp 200 228 (d + 1) m_M_isSheet 0 [(0, 0, v2)] [] G2 _
    refine s_M_isSheet ?_
    show sg_Wp 200 228 (d + 2) m_M_write 16 [(0, 2, 200), (1, 0, v1), (2, 0, v2)] [(0, sg_bo (0 ≤ v2 ∧ v2 ≤ 3))] G2 Q
    refine sg_bif_ne (off := 6) (tgt := 22) (by decide +kernel) (by decide) ⟨fun q2 => ?_, fun q2 => ?_⟩
    · refine sg_blk [(1, 0, 0, 0, 0), (65, 201, 11, 7, 0), (3, 0, 0, 2, 0), (17, 4, 0, 0, 0)] (by decide +kernel) ?_
      refine And.intro (Nat.le_of_ble_eq_true rfl) (And.intro ce_200 (And.intro rr_200_0 (And.intro rfl (And.intro ce_201 (And.intro ((hhr2.2 q3).1 q2).1 (?_))))))
      show sg_Wp 200 228 (d + 2) m_M_write 28 [(0, 2, 200), (1, 0, v1), (2, 0, v2)] [(0, G2 201 v2)] G2 Q
      refine sg_if_ge (off := 9) (tgt := 37) (by decide +kernel) (by decide) ⟨fun q1 => ?_, fun q1 => ?_⟩
      · refine sg_blk [(1, 0, 0, 0, 0), (65, 202, 11, 13, 1), (3, 0, 0, 2, 0), (17, 4, 0, 0, 0), (8, 24, 0, 0, 0)] (by decide +kernel) ?_
        refine And.intro (Nat.le_of_ble_eq_true rfl) (And.intro ce_200 (And.intro rr_200_1 (And.intro rfl (And.intro ce_202 (And.intro (((hhr2.2 q3).1 q2).2.1 q1).1 (And.intro rfl (And.intro rfl (?_))))))))
        show sg_Wp 200 228 (d + 2) m_M_write 45 [(0, 2, 200), (1, 0, v1), (2, 0, v2)] [(0, 24), (0, G2 202 v2)] G2 Q
        refine sg_callS (k := (d + 1)) (y' := m_M_lesser) (av := [(0, G2 202 v2), (0, 24)]) (rest := []) (by decide +kernel) cs_M_lesser ml_11_247 rfl (Nat.le_of_ble_eq_true rfl) (Nat.lt_succ_self (d + 1)) (Nat.le_of_ble_eq_true rfl) rfl ?_
        show sg_Wp 200 228 (d + 1) m_M_lesser 0 [(0, 0, G2 202 v2), (1, 0, 24)] [] G2 _
        refine s_M_lesser ?_
        show sg_Wp 200 228 (d + 2) m_M_write 48 [(0, 2, 200), (1, 0, v1), (2, 0, v2)] [(0, sg_lss (G2 202 v2) 24)] G2 Q
        refine sg_blk [(25, 0, 0, 3, 0), (7, 0, 0, 0, 0), (26, 0, 0, 4, 0)] (by decide +kernel) ?_
        refine And.intro rfl (And.intro rfl (And.intro rfl (?_)))
        show sg_Wp 200 228 (d + 2) m_M_write 52 [(0, 2, 200), (1, 0, v1), (2, 0, v2), (3, 0, sg_lss (G2 202 v2) 24), (4, 0, 0)] [] G2 Q
        exact (((hhr2.2 q3).1 q2).2.1 q1).2
      · refine sg_blk [(1, 0, 0, 0, 0), (7, 1, 0, 0, 0)] (by decide +kernel) ?_
        refine And.intro (Nat.le_of_ble_eq_true rfl) (And.intro rfl (?_))
        show sg_Wp 200 228 (d + 2) m_M_write 33 [(0, 2, 200), (1, 0, v1), (2, 0, v2)] [(0, 1), (2, 200)] G2 Q
        refine sg_callV (k := (d + 1)) (y' := m_M_finds) (av := [(0, 1)]) (rest := []) (b := 200) (by decide +kernel) cv_M_finds ml_11_113 ce_200 rfl rfl (Nat.le_of_ble_eq_true rfl) (Nat.lt_succ_self (d + 1)) (Nat.le_of_ble_eq_true rfl) rfl ?_
        show sg_Wp 200 228 (d + 1) m_M_finds 0 [(0, 2, 200), (1, 0, 1)] [] G2 _
        refine sg_Wp.mono ((((hhr2.2 q3).1 q2).2.2 q1)) (fun r3 G3 hhr3 => ?_)
        show sg_Wp 200 228 (d + 2) m_M_write 36 [(0, 2, 200), (1, 0, v1), (2, 0, v2)] [(0, r3)] G3 Q
        exact sg_ret (by decide +kernel) rfl (Or.inl rfl) hhr3
    · refine sg_blk [(8, (-2), 0, 0, 0)] (by decide +kernel) ?_
      refine And.intro rfl (And.intro rfl (?_))
      show sg_Wp 200 228 (d + 2) m_M_write 21 [(0, 2, 200), (1, 0, v1), (2, 0, v2)] [(0, (-2))] G2 Q
      exact sg_ret (by decide +kernel) rfl (Or.inl rfl) (((hhr2.2 q3).2 q2))
set_option maxRecDepth 100000 in
theorem g_M_write_52 {d : Nat} {v1 v2 v3 v4 : Int} {G : SgM} {Q : Int → SgM → Prop} (h : (v3 ≤ v4 → (Q v3 G)) ∧ (¬ (v3 ≤ v4) → ((0 ≤ v2 ∧ v2 < 4) ∧ (0 ≤ (sg_iadd (sg_imul 8 v4) v1) ∧ (sg_iadd (sg_imul 8 v4) v1) < 192) ∧ ((0 ≤ (sg_iadd (sg_imul 60 v2) v4) ∧ (sg_iadd (sg_imul 60 v2) v4) < 240) ∧ (sg_Wp 200 228 (d + 2) m_M_write 52 [(0, 2, 200), (1, 0, v1), (2, 0, v2), (3, 0, v3), (4, 0, sg_iadd v4 1)] [] (sg_up G 203 (sg_iadd (sg_imul 60 v2) v4) (sg_cut (G 201 v2) (G 222 (sg_iadd (sg_imul 8 v4) v1)))) Q))))) : sg_Wp 200 228 (d + 2) m_M_write 52 [(0, 2, 200), (1, 0, v1), (2, 0, v2), (3, 0, v3), (4, 0, v4)] [] G Q := by
  refine sg_blk [(4, 0, 0, 4, 0), (3, 0, 0, 3, 0)] (by decide +kernel) ?_
  refine And.intro rfl (And.intro rfl (?_))
  show sg_Wp 200 228 (d + 2) m_M_write 55 [(0, 2, 200), (1, 0, v1), (2, 0, v2), (3, 0, v3), (4, 0, v4)] [(0, v3), (0, v4)] G Q
  refine sg_icmp_ge (off := 42) (tgt := 97) (by decide +kernel) (by decide) ⟨fun q4 => ?_, fun q4 => ?_⟩
  · refine sg_blk [(3, 0, 0, 3, 0)] (by decide +kernel) ?_
    refine And.intro rfl (?_)
    show sg_Wp 200 228 (d + 2) m_M_write 98 [(0, 2, 200), (1, 0, v1), (2, 0, v2), (3, 0, v3), (4, 0, v4)] [(0, v3)] G Q
    exact sg_ret (by decide +kernel) rfl (Or.inl rfl) ((h.1 q4))
  · refine sg_blk [(1, 0, 0, 0, 0), (65, 203, 11, 16, 2), (8, 60, 0, 0, 0), (3, 0, 0, 2, 0), (34, 0, 0, 0, 0), (4, 0, 0, 4, 0), (32, 0, 0, 0, 0), (1, 0, 0, 0, 0), (65, 201, 11, 7, 0), (3, 0, 0, 2, 0), (17, 4, 0, 0, 0), (1, 0, 0, 0, 0), (65, 222, 11, 74, 29), (8, 8, 0, 0, 0), (4, 0, 0, 4, 0), (34, 0, 0, 0, 0), (3, 0, 0, 1, 0), (32, 0, 0, 0, 0), (17, 192, 0, 0, 0)] (by decide +kernel) ?_
    refine And.intro (Nat.le_of_ble_eq_true rfl) (And.intro ce_200 (And.intro rr_200_2 (And.intro rfl (And.intro rfl (And.intro rfl (And.intro rfl (And.intro (Nat.le_of_ble_eq_true rfl) (And.intro ce_200 (And.intro rr_200_0 (And.intro rfl (And.intro ce_201 (And.intro (h.2 q4).1 (And.intro (Nat.le_of_ble_eq_true rfl) (And.intro ce_200 (And.intro rr_200_29 (And.intro rfl (And.intro rfl (And.intro rfl (And.intro rfl (And.intro ce_222 (And.intro (h.2 q4).2.1 (?_))))))))))))))))))))))
    show sg_Wp 200 228 (d + 2) m_M_write 87 [(0, 2, 200), (1, 0, v1), (2, 0, v2), (3, 0, v3), (4, 0, v4)] [(0, G 222 (sg_iadd (sg_imul 8 v4) v1)), (0, G 201 v2), (0, sg_iadd (sg_imul 60 v2) v4), (2, 203)] G Q
    refine sg_callS (k := (d + 1)) (y' := m_M_cut) (av := [(0, G 201 v2), (0, G 222 (sg_iadd (sg_imul 8 v4) v1))]) (rest := [(0, sg_iadd (sg_imul 60 v2) v4), (2, 203)]) (by decide +kernel) cs_M_cut ml_11_121 rfl (Nat.le_of_ble_eq_true rfl) (Nat.lt_succ_self (d + 1)) (Nat.le_of_ble_eq_true rfl) rfl ?_
    show sg_Wp 200 228 (d + 1) m_M_cut 0 [(0, 0, G 201 v2), (1, 0, G 222 (sg_iadd (sg_imul 8 v4) v1))] [] G _
    refine s_M_cut ?_
    show sg_Wp 200 228 (d + 2) m_M_write 90 [(0, 2, 200), (1, 0, v1), (2, 0, v2), (3, 0, v3), (4, 0, v4)] [(0, sg_cut (G 201 v2) (G 222 (sg_iadd (sg_imul 8 v4) v1))), (0, sg_iadd (sg_imul 60 v2) v4), (2, 203)] G Q
    refine sg_blk [(18, 240, 0, 0, 0), (31, 1, 0, 4, 0)] (by decide +kernel) ?_
    refine And.intro ce_203 (And.intro (h.2 q4).2.2.1 (And.intro rfl (?_)))
    show sg_Wp 200 228 (d + 2) m_M_write 94 [(0, 2, 200), (1, 0, v1), (2, 0, v2), (3, 0, v3), (4, 0, sg_iadd v4 1)] [] (sg_up G 203 (sg_iadd (sg_imul 60 v2) v4) (sg_cut (G 201 v2) (G 222 (sg_iadd (sg_imul 8 v4) v1)))) Q
    refine sg_goto (off := -42) (tgt := 52) (by decide +kernel) (by decide) ?_
    exact (h.2 q4).2.2.2
