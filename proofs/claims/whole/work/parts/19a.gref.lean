/-! CUT LEMMAS, printed by a program -/
set_option maxRecDepth 100000 in
theorem g_M_copy_0 {d : Nat} {v1 v2 v3 v4 v5 : Int} {G : SgM} {Q : Int → SgM → Prop} (h : ((0 ≤ v1 ∧ v1 ≤ 3) → (((0 ≤ v3 ∧ v3 ≤ 3) → ((0 ≤ v1 ∧ v1 < 4) ∧ (((G 201 v1) < 0 → (sg_Wp 200 228 (d + 2) m_M_copy 35 [(0, 2, 200)] [] G Q)) ∧ (¬ ((G 201 v1) < 0) → ((0 ≤ v3 ∧ v3 < 4) ∧ ((0 ≤ (G 201 v3) → ((0 ≤ v1 ∧ v1 < 4) ∧ (0 ≤ v3 ∧ v3 < 4) ∧ (((G 201 v1) = (G 201 v3) → ((v2 < 0 → (sg_Wp 200 228 (d + 2) m_M_copy 111 [(0, 2, 200)] [] G Q)) ∧ (¬ (v2 < 0) → ((v4 < 0 → (sg_Wp 200 228 (d + 2) m_M_copy 111 [(0, 2, 200)] [] G Q)) ∧ (¬ (v4 < 0) → ((v5 < 0 → (sg_Wp 200 228 (d + 2) m_M_copy 111 [(0, 2, 200)] [] G Q)) ∧ (¬ (v5 < 0) → ((0 ≤ v1 ∧ v1 < 4) ∧ ((0 < (sg_lcmp (sg_ladd v2 v5) (G 202 v1)) → (sg_Wp 200 228 (d + 2) m_M_copy 111 [(0, 2, 200)] [] G Q)) ∧ (¬ (0 < (sg_lcmp (sg_ladd v2 v5) (G 202 v1))) → ((0 ≤ v3 ∧ v3 < 4) ∧ (((sg_lcmp (sg_ladd v4 v5) (G 202 v3)) ≤ 0 → (sg_Wp 200 228 (d + 2) m_M_copy 120 [(0, 2, 200), (1, 0, v1), (2, 0, v2), (3, 0, v3), (4, 0, v4), (5, 0, v5), (6, 0, 0)] [] G Q)) ∧ (¬ ((sg_lcmp (sg_ladd v4 v5) (G 202 v3)) ≤ 0) → (sg_Wp 200 228 (d + 2) m_M_copy 111 [(0, 2, 200)] [] G Q)))))))))))))) ∧ (¬ ((G 201 v1) = (G 201 v3)) → (sg_Wp 200 228 (d + 1) m_M_finds 0 [(0, 2, 200), (1, 0, 4)] [] G (fun r1 G1 => Q r1 G1)))))) ∧ (¬ (0 ≤ (G 201 v3)) → (sg_Wp 200 228 (d + 2) m_M_copy 35 [(0, 2, 200)] [] G Q)))))))) ∧ (¬ (0 ≤ v3 ∧ v3 ≤ 3) → (sg_Wp 200 228 (d + 2) m_M_copy 14 [] [] G Q)))) ∧ (¬ (0 ≤ v1 ∧ v1 ≤ 3) → (sg_Wp 200 228 (d + 2) m_M_copy 14 [] [] G Q))) : sg_Wp 200 228 (d + 2) m_M_copy 0 [(0, 2, 200), (1, 0, v1), (2, 0, v2), (3, 0, v3), (4, 0, v4), (5, 0, v5)] [] G Q := by
  refine sg_blk [(3, 0, 0, 1, 0)] (by decide +kernel) ?_
  refine And.intro rfl (?_)
  show sg_Wp 200 228 (d + 2) m_M_copy 1 [(0, 2, 200), (1, 0, v1), (2, 0, v2), (3, 0, v3), (4, 0, v4), (5, 0, v5)] [(0, v1)] G Q
  refine sg_callS (k := (d + 1)) (y' := m_M_isSheet) (av := [(0, v1)]) (rest := []) (by decide +kernel) cs_M_isSheet ml_11_107 rfl (Nat.le_of_ble_eq_true rfl) (Nat.lt_succ_self (d + 1)) (Nat.le_of_ble_eq_true rfl) rfl ?_
  show sg_Wp 200 228 (d + 1) m_M_isSheet 0 [(0, 0, v1)] [] G _
  refine s_M_isSheet ?_
  show sg_Wp 200 228 (d + 2) m_M_copy 4 [(0, 2, 200), (1, 0, v1), (2, 0, v2), (3, 0, v3), (4, 0, v4), (5, 0, v5)] [(0, sg_bo (0 ≤ v1 ∧ v1 ≤ 3))] G Q
  refine sg_bif_eq (off := 10) (tgt := 14) (by decide +kernel) (by decide) ⟨fun q10 => ?_, fun q10 => ?_⟩
  · refine sg_blk [(3, 0, 0, 3, 0)] (by decide +kernel) ?_
    refine And.intro rfl (?_)
    show sg_Wp 200 228 (d + 2) m_M_copy 8 [(0, 2, 200), (1, 0, v1), (2, 0, v2), (3, 0, v3), (4, 0, v4), (5, 0, v5)] [(0, v3)] G Q
    refine sg_callS (k := (d + 1)) (y' := m_M_isSheet) (av := [(0, v3)]) (rest := []) (by decide +kernel) cs_M_isSheet ml_11_107 rfl (Nat.le_of_ble_eq_true rfl) (Nat.lt_succ_self (d + 1)) (Nat.le_of_ble_eq_true rfl) rfl ?_
    show sg_Wp 200 228 (d + 1) m_M_isSheet 0 [(0, 0, v3)] [] G _
    refine s_M_isSheet ?_
    show sg_Wp 200 228 (d + 2) m_M_copy 11 [(0, 2, 200), (1, 0, v1), (2, 0, v2), (3, 0, v3), (4, 0, v4), (5, 0, v5)] [(0, sg_bo (0 ≤ v3 ∧ v3 ≤ 3))] G Q
    refine sg_bif_ne (off := 6) (tgt := 17) (by decide +kernel) (by decide) ⟨fun q9 => ?_, fun q9 => ?_⟩
    · refine sg_blk [(1, 0, 0, 0, 0), (65, 201, 11, 7, 0), (3, 0, 0, 1, 0), (17, 4, 0, 0, 0)] (by decide +kernel) ?_
      refine And.intro (Nat.le_of_ble_eq_true rfl) (And.intro ce_200 (And.intro rr_200_0 (And.intro rfl (And.intro ce_201 (And.intro ((h.1 q10).1 q9).1 (?_))))))
      show sg_Wp 200 228 (d + 2) m_M_copy 23 [(0, 2, 200), (1, 0, v1), (2, 0, v2), (3, 0, v3), (4, 0, v4), (5, 0, v5)] [(0, G 201 v1)] G Q
      refine sg_if_lt (off := 12) (tgt := 35) (by decide +kernel) (by decide) ⟨fun q8 => ?_, fun q8 => ?_⟩
      · exact sg_Wp.keepk [0] rfl ((((h.1 q10).1 q9).2.1 q8))
      · refine sg_blk [(1, 0, 0, 0, 0), (65, 201, 11, 7, 0), (3, 0, 0, 3, 0), (17, 4, 0, 0, 0)] (by decide +kernel) ?_
        refine And.intro (Nat.le_of_ble_eq_true rfl) (And.intro ce_200 (And.intro rr_200_0 (And.intro rfl (And.intro ce_201 (And.intro (((h.1 q10).1 q9).2.2 q8).1 (?_))))))
        show sg_Wp 200 228 (d + 2) m_M_copy 32 [(0, 2, 200), (1, 0, v1), (2, 0, v2), (3, 0, v3), (4, 0, v4), (5, 0, v5)] [(0, G 201 v3)] G Q
        refine sg_if_ge (off := 9) (tgt := 41) (by decide +kernel) (by decide) ⟨fun q7 => ?_, fun q7 => ?_⟩
        · refine sg_blk [(1, 0, 0, 0, 0), (65, 201, 11, 7, 0), (3, 0, 0, 1, 0), (17, 4, 0, 0, 0), (1, 0, 0, 0, 0), (65, 201, 11, 7, 0), (3, 0, 0, 3, 0), (17, 4, 0, 0, 0)] (by decide +kernel) ?_
          refine And.intro (Nat.le_of_ble_eq_true rfl) (And.intro ce_200 (And.intro rr_200_0 (And.intro rfl (And.intro ce_201 (And.intro ((((h.1 q10).1 q9).2.2 q8).2.1 q7).1 (And.intro (Nat.le_of_ble_eq_true rfl) (And.intro ce_200 (And.intro rr_200_0 (And.intro rfl (And.intro ce_201 (And.intro ((((h.1 q10).1 q9).2.2 q8).2.1 q7).2.1 (?_))))))))))))
          show sg_Wp 200 228 (d + 2) m_M_copy 53 [(0, 2, 200), (1, 0, v1), (2, 0, v2), (3, 0, v3), (4, 0, v4), (5, 0, v5)] [(0, G 201 v3), (0, G 201 v1)] G Q
          refine sg_icmp_eq (off := 9) (tgt := 62) (by decide +kernel) (by decide) ⟨fun q6 => ?_, fun q6 => ?_⟩
          · refine sg_blk [(3, 0, 0, 2, 0)] (by decide +kernel) ?_
            refine And.intro rfl (?_)
            show sg_Wp 200 228 (d + 2) m_M_copy 63 [(0, 2, 200), (1, 0, v1), (2, 0, v2), (3, 0, v3), (4, 0, v4), (5, 0, v5)] [(0, v2)] G Q
            refine sg_if_lt (off := 48) (tgt := 111) (by decide +kernel) (by decide) ⟨fun q5 => ?_, fun q5 => ?_⟩
            · exact sg_Wp.keepk [0] rfl (((((((h.1 q10).1 q9).2.2 q8).2.1 q7).2.2.1 q6).1 q5))
            · refine sg_blk [(4, 0, 0, 4, 0)] (by decide +kernel) ?_
              refine And.intro rfl (?_)
              show sg_Wp 200 228 (d + 2) m_M_copy 68 [(0, 2, 200), (1, 0, v1), (2, 0, v2), (3, 0, v3), (4, 0, v4), (5, 0, v5)] [(0, v4)] G Q
              refine sg_if_lt (off := 43) (tgt := 111) (by decide +kernel) (by decide) ⟨fun q4 => ?_, fun q4 => ?_⟩
              · exact sg_Wp.keepk [0] rfl ((((((((h.1 q10).1 q9).2.2 q8).2.1 q7).2.2.1 q6).2 q5).1 q4))
              · refine sg_blk [(4, 0, 0, 5, 0)] (by decide +kernel) ?_
                refine And.intro rfl (?_)
                show sg_Wp 200 228 (d + 2) m_M_copy 73 [(0, 2, 200), (1, 0, v1), (2, 0, v2), (3, 0, v3), (4, 0, v4), (5, 0, v5)] [(0, v5)] G Q
                refine sg_if_lt (off := 38) (tgt := 111) (by decide +kernel) (by decide) ⟨fun q3 => ?_, fun q3 => ?_⟩
                · exact sg_Wp.keepk [0] rfl (((((((((h.1 q10).1 q9).2.2 q8).2.1 q7).2.2.1 q6).2 q5).2 q4).1 q3))
                · refine sg_blk [(3, 0, 0, 2, 0), (53, 0, 0, 0, 0), (4, 0, 0, 5, 0), (53, 0, 0, 0, 0), (44, 0, 0, 0, 0), (1, 0, 0, 0, 0), (65, 202, 11, 13, 1), (3, 0, 0, 1, 0), (17, 4, 0, 0, 0), (53, 0, 0, 0, 0), (52, 0, 0, 0, 0)] (by decide +kernel) ?_
                  refine And.intro rfl (And.intro rfl (And.intro (Nat.le_of_ble_eq_true rfl) (And.intro ce_200 (And.intro rr_200_1 (And.intro rfl (And.intro ce_202 (And.intro ((((((((h.1 q10).1 q9).2.2 q8).2.1 q7).2.2.1 q6).2 q5).2 q4).2 q3).1 (?_))))))))
                  show sg_Wp 200 228 (d + 2) m_M_copy 90 [(0, 2, 200), (1, 0, v1), (2, 0, v2), (3, 0, v3), (4, 0, v4), (5, 0, v5)] [(0, sg_lcmp (sg_ladd v2 v5) (G 202 v1))] G Q
                  refine sg_if_gt (off := 21) (tgt := 111) (by decide +kernel) (by decide) ⟨fun q2 => ?_, fun q2 => ?_⟩
                  · exact sg_Wp.keepk [0] rfl ((((((((((h.1 q10).1 q9).2.2 q8).2.1 q7).2.2.1 q6).2 q5).2 q4).2 q3).2.1 q2))
                  · refine sg_blk [(4, 0, 0, 4, 0), (53, 0, 0, 0, 0), (4, 0, 0, 5, 0), (53, 0, 0, 0, 0), (44, 0, 0, 0, 0), (1, 0, 0, 0, 0), (65, 202, 11, 13, 1), (3, 0, 0, 3, 0), (17, 4, 0, 0, 0), (53, 0, 0, 0, 0), (52, 0, 0, 0, 0)] (by decide +kernel) ?_
                    refine And.intro rfl (And.intro rfl (And.intro (Nat.le_of_ble_eq_true rfl) (And.intro ce_200 (And.intro rr_200_1 (And.intro rfl (And.intro ce_202 (And.intro (((((((((h.1 q10).1 q9).2.2 q8).2.1 q7).2.2.1 q6).2 q5).2 q4).2 q3).2.2 q2).1 (?_))))))))
                    show sg_Wp 200 228 (d + 2) m_M_copy 108 [(0, 2, 200), (1, 0, v1), (2, 0, v2), (3, 0, v3), (4, 0, v4), (5, 0, v5)] [(0, sg_lcmp (sg_ladd v4 v5) (G 202 v3))] G Q
                    refine sg_if_le (off := 9) (tgt := 117) (by decide +kernel) (by decide) ⟨fun q1 => ?_, fun q1 => ?_⟩
                    · refine sg_blk [(7, 0, 0, 0, 0), (26, 0, 0, 6, 0)] (by decide +kernel) ?_
                      refine And.intro rfl (And.intro rfl (?_))
                      show sg_Wp 200 228 (d + 2) m_M_copy 120 [(0, 2, 200), (1, 0, v1), (2, 0, v2), (3, 0, v3), (4, 0, v4), (5, 0, v5), (6, 0, 0)] [] G Q
                      exact ((((((((((h.1 q10).1 q9).2.2 q8).2.1 q7).2.2.1 q6).2 q5).2 q4).2 q3).2.2 q2).2.1 q1)
                    · exact sg_Wp.keepk [0] rfl (((((((((((h.1 q10).1 q9).2.2 q8).2.1 q7).2.2.1 q6).2 q5).2 q4).2 q3).2.2 q2).2.2 q1))
          · refine sg_blk [(1, 0, 0, 0, 0), (7, 4, 0, 0, 0)] (by decide +kernel) ?_
            refine And.intro (Nat.le_of_ble_eq_true rfl) (And.intro rfl (?_))
            show sg_Wp 200 228 (d + 2) m_M_copy 58 [(0, 2, 200), (1, 0, v1), (2, 0, v2), (3, 0, v3), (4, 0, v4), (5, 0, v5)] [(0, 4), (2, 200)] G Q
            refine sg_callV (k := (d + 1)) (y' := m_M_finds) (av := [(0, 4)]) (rest := []) (b := 200) (by decide +kernel) cv_M_finds ml_11_113 ce_200 rfl rfl (Nat.le_of_ble_eq_true rfl) (Nat.lt_succ_self (d + 1)) (Nat.le_of_ble_eq_true rfl) rfl ?_
            show sg_Wp 200 228 (d + 1) m_M_finds 0 [(0, 2, 200), (1, 0, 4)] [] G _
            refine sg_Wp.mono ((((((h.1 q10).1 q9).2.2 q8).2.1 q7).2.2.2 q6)) (fun r1 G1 hhr1 => ?_)
            show sg_Wp 200 228 (d + 2) m_M_copy 61 [(0, 2, 200), (1, 0, v1), (2, 0, v2), (3, 0, v3), (4, 0, v4), (5, 0, v5)] [(0, r1)] G1 Q
            exact sg_ret (by decide +kernel) rfl (Or.inl rfl) hhr1
        · exact sg_Wp.keepk [0] rfl (((((h.1 q10).1 q9).2.2 q8).2.2 q7))
    · exact sg_Wp.keepk [] rfl (((h.1 q10).2 q9))
  · exact sg_Wp.keepk [] rfl ((h.2 q10))
set_option maxRecDepth 100000 in
theorem g_M_copy_14 {d : Nat} {G : SgM} {Q : Int → SgM → Prop} (h : Q ((-2)) G) : sg_Wp 200 228 (d + 2) m_M_copy 14 [] [] G Q := by
  refine sg_blk [(8, (-2), 0, 0, 0)] (by decide +kernel) ?_
  refine And.intro rfl (And.intro rfl (?_))
  show sg_Wp 200 228 (d + 2) m_M_copy 16 [] [(0, (-2))] G Q
  exact sg_ret (by decide +kernel) rfl (Or.inl rfl) h
set_option maxRecDepth 100000 in
theorem g_M_copy_35 {d : Nat} {G : SgM} {Q : Int → SgM → Prop} (h : sg_Wp 200 228 (d + 1) m_M_finds 0 [(0, 2, 200), (1, 0, 1)] [] G (fun r2 G2 => Q r2 G2)) : sg_Wp 200 228 (d + 2) m_M_copy 35 [(0, 2, 200)] [] G Q := by
  refine sg_blk [(1, 0, 0, 0, 0), (7, 1, 0, 0, 0)] (by decide +kernel) ?_
  refine And.intro (Nat.le_of_ble_eq_true rfl) (And.intro rfl (?_))
  show sg_Wp 200 228 (d + 2) m_M_copy 37 [(0, 2, 200)] [(0, 1), (2, 200)] G Q
  refine sg_callV (k := (d + 1)) (y' := m_M_finds) (av := [(0, 1)]) (rest := []) (b := 200) (by decide +kernel) cv_M_finds ml_11_113 ce_200 rfl rfl (Nat.le_of_ble_eq_true rfl) (Nat.lt_succ_self (d + 1)) (Nat.le_of_ble_eq_true rfl) rfl ?_
  show sg_Wp 200 228 (d + 1) m_M_finds 0 [(0, 2, 200), (1, 0, 1)] [] G _
  refine sg_Wp.mono h (fun r2 G2 hhr2 => ?_)
  show sg_Wp 200 228 (d + 2) m_M_copy 40 [(0, 2, 200)] [(0, r2)] G2 Q
  exact sg_ret (by decide +kernel) rfl (Or.inl rfl) hhr2
set_option maxRecDepth 100000 in
theorem g_M_copy_111 {d : Nat} {G : SgM} {Q : Int → SgM → Prop} (h : sg_Wp 200 228 (d + 1) m_M_finds 0 [(0, 2, 200), (1, 0, 2)] [] G (fun r3 G3 => Q r3 G3)) : sg_Wp 200 228 (d + 2) m_M_copy 111 [(0, 2, 200)] [] G Q := by
  refine sg_blk [(1, 0, 0, 0, 0), (7, 2, 0, 0, 0)] (by decide +kernel) ?_
  refine And.intro (Nat.le_of_ble_eq_true rfl) (And.intro rfl (?_))
  show sg_Wp 200 228 (d + 2) m_M_copy 113 [(0, 2, 200)] [(0, 2), (2, 200)] G Q
  refine sg_callV (k := (d + 1)) (y' := m_M_finds) (av := [(0, 2)]) (rest := []) (b := 200) (by decide +kernel) cv_M_finds ml_11_113 ce_200 rfl rfl (Nat.le_of_ble_eq_true rfl) (Nat.lt_succ_self (d + 1)) (Nat.le_of_ble_eq_true rfl) rfl ?_
  show sg_Wp 200 228 (d + 1) m_M_finds 0 [(0, 2, 200), (1, 0, 2)] [] G _
  refine sg_Wp.mono h (fun r3 G3 hhr3 => ?_)
  show sg_Wp 200 228 (d + 2) m_M_copy 116 [(0, 2, 200)] [(0, r3)] G3 Q
  exact sg_ret (by decide +kernel) rfl (Or.inl rfl) hhr3
set_option maxRecDepth 100000 in
theorem g_M_copy_120 {d : Nat} {v1 v2 v3 v4 v5 v6 : Int} {G : SgM} {Q : Int → SgM → Prop} (h : (v5 ≤ v6 → (sg_Wp 200 228 (d + 2) m_M_copy 157 [(0, 2, 200), (3, 0, v3), (4, 0, v4), (5, 0, v5), (6, 0, 0)] [] G Q)) ∧ (¬ (v5 ≤ v6) → ((0 ≤ (sg_iadd (sg_iadd (sg_imul 60 v1) v2) v6) ∧ (sg_iadd (sg_iadd (sg_imul 60 v1) v2) v6) < 240) ∧ (0 ≤ v6 ∧ v6 < 60) ∧ (sg_Wp 200 228 (d + 2) m_M_copy 120 [(0, 2, 200), (1, 0, v1), (2, 0, v2), (3, 0, v3), (4, 0, v4), (5, 0, v5), (6, 0, sg_iadd v6 1)] [] (sg_up G 204 v6 (G 203 (sg_iadd (sg_iadd (sg_imul 60 v1) v2) v6))) Q)))) : sg_Wp 200 228 (d + 2) m_M_copy 120 [(0, 2, 200), (1, 0, v1), (2, 0, v2), (3, 0, v3), (4, 0, v4), (5, 0, v5), (6, 0, v6)] [] G Q := by
  refine sg_blk [(4, 0, 0, 6, 0), (4, 0, 0, 5, 0)] (by decide +kernel) ?_
  refine And.intro rfl (And.intro rfl (?_))
  show sg_Wp 200 228 (d + 2) m_M_copy 124 [(0, 2, 200), (1, 0, v1), (2, 0, v2), (3, 0, v3), (4, 0, v4), (5, 0, v5), (6, 0, v6)] [(0, v5), (0, v6)] G Q
  refine sg_icmp_ge (off := 30) (tgt := 154) (by decide +kernel) (by decide) ⟨fun q11 => ?_, fun q11 => ?_⟩
  · refine sg_blk [(7, 0, 0, 0, 0), (26, 0, 0, 6, 0)] (by decide +kernel) ?_
    refine And.intro rfl (And.intro rfl (?_))
    show sg_Wp 200 228 (d + 2) m_M_copy 157 [(0, 2, 200), (1, 0, v1), (2, 0, v2), (3, 0, v3), (4, 0, v4), (5, 0, v5), (6, 0, 0)] [] G Q
    exact sg_Wp.keepk [0, 3, 4, 5, 6] rfl ((h.1 q11))
  · refine sg_blk [(1, 0, 0, 0, 0), (65, 204, 11, 19, 3), (4, 0, 0, 6, 0), (1, 0, 0, 0, 0), (65, 203, 11, 16, 2), (8, 60, 0, 0, 0), (3, 0, 0, 1, 0), (34, 0, 0, 0, 0), (3, 0, 0, 2, 0), (32, 0, 0, 0, 0), (4, 0, 0, 6, 0), (32, 0, 0, 0, 0), (17, 240, 0, 0, 0), (18, 60, 0, 0, 0), (31, 1, 0, 6, 0)] (by decide +kernel) ?_
    refine And.intro (Nat.le_of_ble_eq_true rfl) (And.intro ce_200 (And.intro rr_200_3 (And.intro rfl (And.intro (Nat.le_of_ble_eq_true rfl) (And.intro ce_200 (And.intro rr_200_2 (And.intro rfl (And.intro rfl (And.intro rfl (And.intro rfl (And.intro rfl (And.intro ce_203 (And.intro (h.2 q11).1 (And.intro ce_204 (And.intro (h.2 q11).2.1 (And.intro rfl (?_)))))))))))))))))
    show sg_Wp 200 228 (d + 2) m_M_copy 151 [(0, 2, 200), (1, 0, v1), (2, 0, v2), (3, 0, v3), (4, 0, v4), (5, 0, v5), (6, 0, sg_iadd v6 1)] [] (sg_up G 204 v6 (G 203 (sg_iadd (sg_iadd (sg_imul 60 v1) v2) v6))) Q
    refine sg_goto (off := -31) (tgt := 120) (by decide +kernel) (by decide) ?_
    exact (h.2 q11).2.2
set_option maxRecDepth 100000 in
theorem g_M_copy_157 {d : Nat} {v3 v4 v5 v6 : Int} {G : SgM} {Q : Int → SgM → Prop} (h : (v5 ≤ v6 → (Q 1 G)) ∧ (¬ (v5 ≤ v6) → ((0 ≤ v6 ∧ v6 < 60) ∧ (0 ≤ (sg_iadd (sg_iadd (sg_imul 60 v3) v4) v6) ∧ (sg_iadd (sg_iadd (sg_imul 60 v3) v4) v6) < 240) ∧ (sg_Wp 200 228 (d + 2) m_M_copy 157 [(0, 2, 200), (3, 0, v3), (4, 0, v4), (5, 0, v5), (6, 0, sg_iadd v6 1)] [] (sg_up G 203 (sg_iadd (sg_iadd (sg_imul 60 v3) v4) v6) (G 204 v6)) Q)))) : sg_Wp 200 228 (d + 2) m_M_copy 157 [(0, 2, 200), (3, 0, v3), (4, 0, v4), (5, 0, v5), (6, 0, v6)] [] G Q := by
  refine sg_blk [(4, 0, 0, 6, 0), (4, 0, 0, 5, 0)] (by decide +kernel) ?_
  refine And.intro rfl (And.intro rfl (?_))
  show sg_Wp 200 228 (d + 2) m_M_copy 161 [(0, 2, 200), (3, 0, v3), (4, 0, v4), (5, 0, v5), (6, 0, v6)] [(0, v5), (0, v6)] G Q
  refine sg_icmp_ge (off := 31) (tgt := 192) (by decide +kernel) (by decide) ⟨fun q12 => ?_, fun q12 => ?_⟩
  · refine sg_blk [(7, 1, 0, 0, 0)] (by decide +kernel) ?_
    refine And.intro rfl (?_)
    show sg_Wp 200 228 (d + 2) m_M_copy 193 [(0, 2, 200), (3, 0, v3), (4, 0, v4), (5, 0, v5), (6, 0, v6)] [(0, 1)] G Q
    exact sg_ret (by decide +kernel) rfl (Or.inl rfl) ((h.1 q12))
  · refine sg_blk [(1, 0, 0, 0, 0), (65, 203, 11, 16, 2), (8, 60, 0, 0, 0), (3, 0, 0, 3, 0), (34, 0, 0, 0, 0), (4, 0, 0, 4, 0), (32, 0, 0, 0, 0), (4, 0, 0, 6, 0), (32, 0, 0, 0, 0), (1, 0, 0, 0, 0), (65, 204, 11, 19, 3), (4, 0, 0, 6, 0), (17, 60, 0, 0, 0), (18, 240, 0, 0, 0), (31, 1, 0, 6, 0)] (by decide +kernel) ?_
    refine And.intro (Nat.le_of_ble_eq_true rfl) (And.intro ce_200 (And.intro rr_200_2 (And.intro rfl (And.intro rfl (And.intro rfl (And.intro rfl (And.intro rfl (And.intro (Nat.le_of_ble_eq_true rfl) (And.intro ce_200 (And.intro rr_200_3 (And.intro rfl (And.intro ce_204 (And.intro (h.2 q12).1 (And.intro ce_203 (And.intro (h.2 q12).2.1 (And.intro rfl (?_)))))))))))))))))
    show sg_Wp 200 228 (d + 2) m_M_copy 189 [(0, 2, 200), (3, 0, v3), (4, 0, v4), (5, 0, v5), (6, 0, sg_iadd v6 1)] [] (sg_up G 203 (sg_iadd (sg_iadd (sg_imul 60 v3) v4) v6) (G 204 v6)) Q
    refine sg_goto (off := -32) (tgt := 157) (by decide +kernel) (by decide) ?_
    exact (h.2 q12).2.2
set_option maxRecDepth 100000 in
theorem g_M_fault_0 {d : Nat} {v1 : Int} {G : SgM} {Q : Int → SgM → Prop} (h : ((0 ≤ v1 ∧ v1 ≤ 1) → (sg_Wp 200 228 (d + 1) m_M_readsText 0 [(0, 2, 200), (1, 0, v1)] [] G (fun r1 G1 => Q r1 G1))) ∧ (¬ (0 ≤ v1 ∧ v1 ≤ 1) → (Q ((-2)) G))) : sg_Wp 200 228 (d + 2) m_M_fault 0 [(0, 2, 200), (1, 0, v1)] [] G Q := by
  refine sg_blk [(3, 0, 0, 1, 0)] (by decide +kernel) ?_
  refine And.intro rfl (?_)
  show sg_Wp 200 228 (d + 2) m_M_fault 1 [(0, 2, 200), (1, 0, v1)] [(0, v1)] G Q
  refine sg_callS (k := (d + 1)) (y' := m_M_isTwo) (av := [(0, v1)]) (rest := []) (by decide +kernel) cs_M_isTwo ml_11_126 rfl (Nat.le_of_ble_eq_true rfl) (Nat.lt_succ_self (d + 1)) (Nat.le_of_ble_eq_true rfl) rfl ?_
  show sg_Wp 200 228 (d + 1) m_M_isTwo 0 [(0, 0, v1)] [] G _
  refine s_M_isTwo ?_
  show sg_Wp 200 228 (d + 2) m_M_fault 4 [(0, 2, 200), (1, 0, v1)] [(0, sg_bo (0 ≤ v1 ∧ v1 ≤ 1))] G Q
  refine sg_bif_eq (off := 11) (tgt := 15) (by decide +kernel) (by decide) ⟨fun q1 => ?_, fun q1 => ?_⟩
  · refine sg_blk [(1, 0, 0, 0, 0), (3, 0, 0, 1, 0)] (by decide +kernel) ?_
    refine And.intro (Nat.le_of_ble_eq_true rfl) (And.intro rfl (?_))
    show sg_Wp 200 228 (d + 2) m_M_fault 9 [(0, 2, 200), (1, 0, v1)] [(0, v1), (2, 200)] G Q
    refine sg_callV (k := (d + 1)) (y' := m_M_readsText) (av := [(0, v1)]) (rest := []) (b := 200) (by decide +kernel) cv_M_readsText ml_11_153 ce_200 rfl rfl (Nat.le_of_ble_eq_true rfl) (Nat.lt_succ_self (d + 1)) (Nat.le_of_ble_eq_true rfl) rfl ?_
    show sg_Wp 200 228 (d + 1) m_M_readsText 0 [(0, 2, 200), (1, 0, v1)] [] G _
    refine sg_Wp.mono ((h.1 q1)) (fun r1 G1 hhr1 => ?_)
    show sg_Wp 200 228 (d + 2) m_M_fault 12 [(0, 2, 200), (1, 0, v1)] [(0, r1)] G1 Q
    refine sg_goto (off := 5) (tgt := 17) (by decide +kernel) (by decide) ?_
    exact sg_ret (by decide +kernel) rfl (Or.inl rfl) hhr1
  · refine sg_blk [(8, (-2), 0, 0, 0)] (by decide +kernel) ?_
    refine And.intro rfl (And.intro rfl (?_))
    show sg_Wp 200 228 (d + 2) m_M_fault 17 [(0, 2, 200), (1, 0, v1)] [(0, (-2))] G Q
    exact sg_ret (by decide +kernel) rfl (Or.inl rfl) ((h.2 q1))
set_option maxRecDepth 100000 in
theorem g_M_finds_0 {d : Nat} {v1 : Int} {G : SgM} {Q : Int → SgM → Prop} (h : Q (sg_isub ((-10)) v1) (sg_up G 200 4 v1)) : sg_Wp 200 228 d m_M_finds 0 [(0, 2, 200), (1, 0, v1)] [] G Q := by
  refine sg_blk [(1, 0, 0, 0, 0), (3, 0, 0, 1, 0), (16, 0, 11, 102, 4), (8, (-10), 0, 0, 0), (3, 0, 0, 1, 0), (33, 0, 0, 0, 0)] (by decide +kernel) ?_
  refine And.intro (Nat.le_of_ble_eq_true rfl) (And.intro rfl (And.intro ce_200 (And.intro rfl (And.intro rfl (And.intro rfl (?_))))))
  show sg_Wp 200 228 d m_M_finds 9 [(0, 2, 200), (1, 0, v1)] [(0, sg_isub ((-10)) v1)] (sg_up G 200 4 v1) Q
  exact sg_ret (by decide +kernel) rfl (Or.inl rfl) h
set_option maxRecDepth 100000 in
theorem g_M_get_0 {d : Nat} {v1 v2 v3 : Int} {G : SgM} {Q : Int → SgM → Prop} (h : ((0 ≤ v1 ∧ v1 ≤ 3) → (((0 ≤ v2 ∧ v2 ≤ 2) → (sg_Wp 200 228 (d + 1) m_M_lacks 0 [(0, 2, 200), (1, 0, v1), (2, 0, v2), (3, 0, v3)] [] G (fun r1 G1 => (r1 = 0 → ((0 ≤ (sg_iadd (sg_imul 60 v1) v3) ∧ (sg_iadd (sg_imul 60 v1) v3) < 240) ∧ (Q (G1 203 (sg_iadd (sg_imul 60 v1) v3)) G1))) ∧ (¬ (r1 = 0) → (Q ((-2147483648)) G1))))) ∧ (¬ (0 ≤ v2 ∧ v2 ≤ 2) → (Q ((-2147483648)) G)))) ∧ (¬ (0 ≤ v1 ∧ v1 ≤ 3) → (Q ((-2147483648)) G))) : sg_Wp 200 228 (d + 2) m_M_get 0 [(0, 2, 200), (1, 0, v1), (2, 0, v2), (3, 0, v3)] [] G Q := by
  refine sg_blk [(3, 0, 0, 1, 0)] (by decide +kernel) ?_
  refine And.intro rfl (?_)
  show sg_Wp 200 228 (d + 2) m_M_get 1 [(0, 2, 200), (1, 0, v1), (2, 0, v2), (3, 0, v3)] [(0, v1)] G Q
  refine sg_callS (k := (d + 1)) (y' := m_M_isSheet) (av := [(0, v1)]) (rest := []) (by decide +kernel) cs_M_isSheet ml_11_107 rfl (Nat.le_of_ble_eq_true rfl) (Nat.lt_succ_self (d + 1)) (Nat.le_of_ble_eq_true rfl) rfl ?_
  show sg_Wp 200 228 (d + 1) m_M_isSheet 0 [(0, 0, v1)] [] G _
  refine s_M_isSheet ?_
  show sg_Wp 200 228 (d + 2) m_M_get 4 [(0, 2, 200), (1, 0, v1), (2, 0, v2), (3, 0, v3)] [(0, sg_bo (0 ≤ v1 ∧ v1 ≤ 3))] G Q
  refine sg_bif_eq (off := 25) (tgt := 29) (by decide +kernel) (by decide) ⟨fun q3 => ?_, fun q3 => ?_⟩
  · refine sg_blk [(3, 0, 0, 2, 0), (53, 0, 0, 0, 0), (10, 0, 0, 0, 0), (12, 2, 0, 111, 0)] (by decide +kernel) ?_
    refine And.intro rfl (And.intro rfl (?_))
    show sg_Wp 200 228 (d + 2) m_M_get 13 [(0, 2, 200), (1, 0, v1), (2, 0, v2), (3, 0, v3)] [(1, 2), (1, 0), (1, v2)] G Q
    refine sg_callS (k := (d + 1)) (y' := m_M_in) (av := [(1, v2), (1, 0), (1, 2)]) (rest := []) (by decide +kernel) cs_M_in ml_11_98 rfl (Nat.le_of_ble_eq_true rfl) (Nat.lt_succ_self (d + 1)) (Nat.le_of_ble_eq_true rfl) rfl ?_
    show sg_Wp 200 228 (d + 1) m_M_in 0 [(0, 1, v2), (2, 1, 0), (4, 1, 2)] [] G _
    refine s_M_in ?_
    show sg_Wp 200 228 (d + 2) m_M_get 16 [(0, 2, 200), (1, 0, v1), (2, 0, v2), (3, 0, v3)] [(0, sg_bo (0 ≤ v2 ∧ v2 ≤ 2))] G Q
    refine sg_bif_eq (off := 13) (tgt := 29) (by decide +kernel) (by decide) ⟨fun q2 => ?_, fun q2 => ?_⟩
    · refine sg_blk [(1, 0, 0, 0, 0), (3, 0, 0, 1, 0), (3, 0, 0, 2, 0), (3, 0, 0, 3, 0)] (by decide +kernel) ?_
      refine And.intro (Nat.le_of_ble_eq_true rfl) (And.intro rfl (And.intro rfl (And.intro rfl (?_))))
      show sg_Wp 200 228 (d + 2) m_M_get 23 [(0, 2, 200), (1, 0, v1), (2, 0, v2), (3, 0, v3)] [(0, v3), (0, v2), (0, v1), (2, 200)] G Q
      refine sg_callV (k := (d + 1)) (y' := m_M_lacks) (av := [(0, v1), (0, v2), (0, v3)]) (rest := []) (b := 200) (by decide +kernel) cv_M_lacks ml_11_117 ce_200 rfl rfl (Nat.le_of_ble_eq_true rfl) (Nat.lt_succ_self (d + 1)) (Nat.le_of_ble_eq_true rfl) rfl ?_
      show sg_Wp 200 228 (d + 1) m_M_lacks 0 [(0, 2, 200), (1, 0, v1), (2, 0, v2), (3, 0, v3)] [] G _
      refine sg_Wp.mono (((h.1 q3).1 q2)) (fun r1 G1 hhr1 => ?_)
      show sg_Wp 200 228 (d + 2) m_M_get 26 [(0, 2, 200), (1, 0, v1), (2, 0, v2), (3, 0, v3)] [(0, r1)] G1 Q
      refine sg_if_eq (off := 6) (tgt := 32) (by decide +kernel) (by decide) ⟨fun q1 => ?_, fun q1 => ?_⟩
      · refine sg_blk [(1, 0, 0, 0, 0), (65, 203, 11, 16, 2), (8, 60, 0, 0, 0), (3, 0, 0, 1, 0), (34, 0, 0, 0, 0), (3, 0, 0, 3, 0), (32, 0, 0, 0, 0), (17, 240, 0, 0, 0)] (by decide +kernel) ?_
        refine And.intro (Nat.le_of_ble_eq_true rfl) (And.intro ce_200 (And.intro rr_200_2 (And.intro rfl (And.intro rfl (And.intro rfl (And.intro rfl (And.intro ce_203 (And.intro (hhr1.1 q1).1 (?_)))))))))
        show sg_Wp 200 228 (d + 2) m_M_get 43 [(0, 2, 200), (1, 0, v1), (2, 0, v2), (3, 0, v3)] [(0, G1 203 (sg_iadd (sg_imul 60 v1) v3))] G1 Q
        exact sg_ret (by decide +kernel) rfl (Or.inl rfl) ((hhr1.1 q1).2)
      · refine sg_blk [(11, (-2147483648), 0, 125, 0)] (by decide +kernel) ?_
        refine And.intro rfl (?_)
        show sg_Wp 200 228 (d + 2) m_M_get 31 [(0, 2, 200), (1, 0, v1), (2, 0, v2), (3, 0, v3)] [(0, (-2147483648))] G1 Q
        exact sg_ret (by decide +kernel) rfl (Or.inl rfl) ((hhr1.2 q1))
    · refine sg_blk [(11, (-2147483648), 0, 125, 0)] (by decide +kernel) ?_
      refine And.intro rfl (?_)
      show sg_Wp 200 228 (d + 2) m_M_get 31 [(0, 2, 200), (1, 0, v1), (2, 0, v2), (3, 0, v3)] [(0, (-2147483648))] G Q
      exact sg_ret (by decide +kernel) rfl (Or.inl rfl) (((h.1 q3).2 q2))
  · refine sg_blk [(11, (-2147483648), 0, 125, 0)] (by decide +kernel) ?_
    refine And.intro rfl (?_)
    show sg_Wp 200 228 (d + 2) m_M_get 31 [(0, 2, 200), (1, 0, v1), (2, 0, v2), (3, 0, v3)] [(0, (-2147483648))] G Q
    exact sg_ret (by decide +kernel) rfl (Or.inl rfl) ((h.2 q3))
set_option maxRecDepth 100000 in
theorem g_M_lacks_0 {d : Nat} {v1 v2 v3 : Int} {G : SgM} {Q : Int → SgM → Prop} (h : (0 ≤ v1 ∧ v1 < 4) ∧ ((0 ≤ (G 201 v1) → ((0 ≤ v1 ∧ v1 < 4) ∧ (((G 201 v1) = v2 → ((0 ≤ v1 ∧ v1 < 4) ∧ (((0 ≤ v3 ∧ v3 ≤ (sg_isub (G 202 v1) 1)) → (Q 0 G)) ∧ (¬ (0 ≤ v3 ∧ v3 ≤ (sg_isub (G 202 v1) 1)) → (sg_Wp 200 228 d m_M_finds 0 [(0, 2, 200), (1, 0, 2)] [] G (fun r1 G1 => Q r1 G1)))))) ∧ (¬ ((G 201 v1) = v2) → (sg_Wp 200 228 d m_M_finds 0 [(0, 2, 200), (1, 0, 3)] [] G (fun r2 G2 => Q r2 G2)))))) ∧ (¬ (0 ≤ (G 201 v1)) → (sg_Wp 200 228 d m_M_finds 0 [(0, 2, 200), (1, 0, 1)] [] G (fun r3 G3 => Q r3 G3))))) : sg_Wp 200 228 (d + 1) m_M_lacks 0 [(0, 2, 200), (1, 0, v1), (2, 0, v2), (3, 0, v3)] [] G Q := by
  refine sg_blk [(1, 0, 0, 0, 0), (65, 201, 11, 7, 0), (3, 0, 0, 1, 0), (17, 4, 0, 0, 0)] (by decide +kernel) ?_
  refine And.intro (Nat.le_of_ble_eq_true rfl) (And.intro ce_200 (And.intro rr_200_0 (And.intro rfl (And.intro ce_201 (And.intro h.1 (?_))))))
  show sg_Wp 200 228 (d + 1) m_M_lacks 6 [(0, 2, 200), (1, 0, v1), (2, 0, v2), (3, 0, v3)] [(0, G 201 v1)] G Q
  refine sg_if_ge (off := 9) (tgt := 15) (by decide +kernel) (by decide) ⟨fun q3 => ?_, fun q3 => ?_⟩
  · refine sg_blk [(1, 0, 0, 0, 0), (65, 201, 11, 7, 0), (3, 0, 0, 1, 0), (17, 4, 0, 0, 0), (3, 0, 0, 2, 0)] (by decide +kernel) ?_
    refine And.intro (Nat.le_of_ble_eq_true rfl) (And.intro ce_200 (And.intro rr_200_0 (And.intro rfl (And.intro ce_201 (And.intro (h.2.1 q3).1 (And.intro rfl (?_)))))))
    show sg_Wp 200 228 (d + 1) m_M_lacks 22 [(0, 2, 200), (1, 0, v1), (2, 0, v2), (3, 0, v3)] [(0, v2), (0, G 201 v1)] G Q
    refine sg_icmp_eq (off := 9) (tgt := 31) (by decide +kernel) (by decide) ⟨fun q2 => ?_, fun q2 => ?_⟩
    · refine sg_blk [(3, 0, 0, 3, 0), (53, 0, 0, 0, 0), (10, 0, 0, 0, 0), (1, 0, 0, 0, 0), (65, 202, 11, 13, 1), (3, 0, 0, 1, 0), (17, 4, 0, 0, 0), (7, 1, 0, 0, 0), (33, 0, 0, 0, 0), (53, 0, 0, 0, 0)] (by decide +kernel) ?_
      refine And.intro rfl (And.intro (Nat.le_of_ble_eq_true rfl) (And.intro ce_200 (And.intro rr_200_1 (And.intro rfl (And.intro ce_202 (And.intro ((h.2.1 q3).2.1 q2).1 (And.intro rfl (?_))))))))
      show sg_Wp 200 228 (d + 1) m_M_lacks 43 [(0, 2, 200), (1, 0, v1), (2, 0, v2), (3, 0, v3)] [(1, sg_isub (G 202 v1) 1), (1, 0), (1, v3)] G Q
      refine sg_callS (k := d) (y' := m_M_in) (av := [(1, v3), (1, 0), (1, sg_isub (G 202 v1) 1)]) (rest := []) (by decide +kernel) cs_M_in ml_11_98 rfl (Nat.le_of_ble_eq_true rfl) (Nat.lt_succ_self d) (Nat.le_of_ble_eq_true rfl) rfl ?_
      show sg_Wp 200 228 d m_M_in 0 [(0, 1, v3), (2, 1, 0), (4, 1, sg_isub (G 202 v1) 1)] [] G _
      refine s_M_in ?_
      show sg_Wp 200 228 (d + 1) m_M_lacks 46 [(0, 2, 200), (1, 0, v1), (2, 0, v2), (3, 0, v3)] [(0, sg_bo (0 ≤ v3 ∧ v3 ≤ (sg_isub (G 202 v1) 1)))] G Q
      refine sg_bif_eq (off := 7) (tgt := 53) (by decide +kernel) (by decide) ⟨fun q1 => ?_, fun q1 => ?_⟩
      · refine sg_blk [(7, 0, 0, 0, 0)] (by decide +kernel) ?_
        refine And.intro rfl (?_)
        show sg_Wp 200 228 (d + 1) m_M_lacks 50 [(0, 2, 200), (1, 0, v1), (2, 0, v2), (3, 0, v3)] [(0, 0)] G Q
        refine sg_goto (off := 8) (tgt := 58) (by decide +kernel) (by decide) ?_
        exact sg_ret (by decide +kernel) rfl (Or.inl rfl) ((((h.2.1 q3).2.1 q2).2.1 q1))
      · refine sg_blk [(1, 0, 0, 0, 0), (7, 2, 0, 0, 0)] (by decide +kernel) ?_
        refine And.intro (Nat.le_of_ble_eq_true rfl) (And.intro rfl (?_))
        show sg_Wp 200 228 (d + 1) m_M_lacks 55 [(0, 2, 200), (1, 0, v1), (2, 0, v2), (3, 0, v3)] [(0, 2), (2, 200)] G Q
        refine sg_callV (k := d) (y' := m_M_finds) (av := [(0, 2)]) (rest := []) (b := 200) (by decide +kernel) cv_M_finds ml_11_113 ce_200 rfl rfl (Nat.le_of_ble_eq_true rfl) (Nat.lt_succ_self d) (Nat.le_of_ble_eq_true rfl) rfl ?_
        show sg_Wp 200 228 d m_M_finds 0 [(0, 2, 200), (1, 0, 2)] [] G _
        refine sg_Wp.mono ((((h.2.1 q3).2.1 q2).2.2 q1)) (fun r1 G1 hhr1 => ?_)
        show sg_Wp 200 228 (d + 1) m_M_lacks 58 [(0, 2, 200), (1, 0, v1), (2, 0, v2), (3, 0, v3)] [(0, r1)] G1 Q
        exact sg_ret (by decide +kernel) rfl (Or.inl rfl) hhr1
    · refine sg_blk [(1, 0, 0, 0, 0), (7, 3, 0, 0, 0)] (by decide +kernel) ?_
      refine And.intro (Nat.le_of_ble_eq_true rfl) (And.intro rfl (?_))
      show sg_Wp 200 228 (d + 1) m_M_lacks 27 [(0, 2, 200), (1, 0, v1), (2, 0, v2), (3, 0, v3)] [(0, 3), (2, 200)] G Q
      refine sg_callV (k := d) (y' := m_M_finds) (av := [(0, 3)]) (rest := []) (b := 200) (by decide +kernel) cv_M_finds ml_11_113 ce_200 rfl rfl (Nat.le_of_ble_eq_true rfl) (Nat.lt_succ_self d) (Nat.le_of_ble_eq_true rfl) rfl ?_
      show sg_Wp 200 228 d m_M_finds 0 [(0, 2, 200), (1, 0, 3)] [] G _
      refine sg_Wp.mono (((h.2.1 q3).2.2 q2)) (fun r2 G2 hhr2 => ?_)
      show sg_Wp 200 228 (d + 1) m_M_lacks 30 [(0, 2, 200), (1, 0, v1), (2, 0, v2), (3, 0, v3)] [(0, r2)] G2 Q
      exact sg_ret (by decide +kernel) rfl (Or.inl rfl) hhr2
  · refine sg_blk [(1, 0, 0, 0, 0), (7, 1, 0, 0, 0)] (by decide +kernel) ?_
    refine And.intro (Nat.le_of_ble_eq_true rfl) (And.intro rfl (?_))
    show sg_Wp 200 228 (d + 1) m_M_lacks 11 [(0, 2, 200), (1, 0, v1), (2, 0, v2), (3, 0, v3)] [(0, 1), (2, 200)] G Q
    refine sg_callV (k := d) (y' := m_M_finds) (av := [(0, 1)]) (rest := []) (b := 200) (by decide +kernel) cv_M_finds ml_11_113 ce_200 rfl rfl (Nat.le_of_ble_eq_true rfl) (Nat.lt_succ_self d) (Nat.le_of_ble_eq_true rfl) rfl ?_
    show sg_Wp 200 228 d m_M_finds 0 [(0, 2, 200), (1, 0, 1)] [] G _
    refine sg_Wp.mono ((h.2.2 q3)) (fun r3 G3 hhr3 => ?_)
    show sg_Wp 200 228 (d + 1) m_M_lacks 14 [(0, 2, 200), (1, 0, v1), (2, 0, v2), (3, 0, v3)] [(0, r3)] G3 Q
    exact sg_ret (by decide +kernel) rfl (Or.inl rfl) hhr3
set_option maxRecDepth 100000 in
theorem g_M_lay_0 {d : Nat} {v1 v2 v3 v4 : Int} {G : SgM} {Q : Int → SgM → Prop} (h : ((0 ≤ v1 ∧ v1 ≤ 3) → (((0 ≤ v2 ∧ v2 ≤ 2) → (sg_Wp 200 228 (d + 1) m_M_lacks 0 [(0, 2, 200), (1, 0, v1), (2, 0, v2), (3, 0, v3)] [] G (fun r1 G1 => (r1 = 0 → ((0 ≤ (sg_iadd (sg_imul 60 v1) v3) ∧ (sg_iadd (sg_imul 60 v1) v3) < 240) ∧ (Q 1 (sg_up G1 203 (sg_iadd (sg_imul 60 v1) v3) (sg_cut v2 v4))))) ∧ (¬ (r1 = 0) → (Q r1 G1))))) ∧ (¬ (0 ≤ v2 ∧ v2 ≤ 2) → (Q ((-2)) G)))) ∧ (¬ (0 ≤ v1 ∧ v1 ≤ 3) → (Q ((-2)) G))) : sg_Wp 200 228 (d + 2) m_M_lay 0 [(0, 2, 200), (1, 0, v1), (2, 0, v2), (3, 0, v3), (4, 0, v4)] [] G Q := by
  refine sg_blk [(3, 0, 0, 1, 0)] (by decide +kernel) ?_
  refine And.intro rfl (?_)
  show sg_Wp 200 228 (d + 2) m_M_lay 1 [(0, 2, 200), (1, 0, v1), (2, 0, v2), (3, 0, v3), (4, 0, v4)] [(0, v1)] G Q
  refine sg_callS (k := (d + 1)) (y' := m_M_isSheet) (av := [(0, v1)]) (rest := []) (by decide +kernel) cs_M_isSheet ml_11_107 rfl (Nat.le_of_ble_eq_true rfl) (Nat.lt_succ_self (d + 1)) (Nat.le_of_ble_eq_true rfl) rfl ?_
  show sg_Wp 200 228 (d + 1) m_M_isSheet 0 [(0, 0, v1)] [] G _
  refine s_M_isSheet ?_
  show sg_Wp 200 228 (d + 2) m_M_lay 4 [(0, 2, 200), (1, 0, v1), (2, 0, v2), (3, 0, v3), (4, 0, v4)] [(0, sg_bo (0 ≤ v1 ∧ v1 ≤ 3))] G Q
  refine sg_bif_eq (off := 15) (tgt := 19) (by decide +kernel) (by decide) ⟨fun q3 => ?_, fun q3 => ?_⟩
  · refine sg_blk [(3, 0, 0, 2, 0), (53, 0, 0, 0, 0), (10, 0, 0, 0, 0), (12, 2, 0, 111, 0)] (by decide +kernel) ?_
    refine And.intro rfl (And.intro rfl (?_))
    show sg_Wp 200 228 (d + 2) m_M_lay 13 [(0, 2, 200), (1, 0, v1), (2, 0, v2), (3, 0, v3), (4, 0, v4)] [(1, 2), (1, 0), (1, v2)] G Q
    refine sg_callS (k := (d + 1)) (y' := m_M_in) (av := [(1, v2), (1, 0), (1, 2)]) (rest := []) (by decide +kernel) cs_M_in ml_11_98 rfl (Nat.le_of_ble_eq_true rfl) (Nat.lt_succ_self (d + 1)) (Nat.le_of_ble_eq_true rfl) rfl ?_
    show sg_Wp 200 228 (d + 1) m_M_in 0 [(0, 1, v2), (2, 1, 0), (4, 1, 2)] [] G _
    refine s_M_in ?_
    show sg_Wp 200 228 (d + 2) m_M_lay 16 [(0, 2, 200), (1, 0, v1), (2, 0, v2), (3, 0, v3), (4, 0, v4)] [(0, sg_bo (0 ≤ v2 ∧ v2 ≤ 2))] G Q
    refine sg_bif_ne (off := 6) (tgt := 22) (by decide +kernel) (by decide) ⟨fun q2 => ?_, fun q2 => ?_⟩
    · refine sg_blk [(1, 0, 0, 0, 0), (3, 0, 0, 1, 0), (3, 0, 0, 2, 0), (3, 0, 0, 3, 0)] (by decide +kernel) ?_
      refine And.intro (Nat.le_of_ble_eq_true rfl) (And.intro rfl (And.intro rfl (And.intro rfl (?_))))
      show sg_Wp 200 228 (d + 2) m_M_lay 26 [(0, 2, 200), (1, 0, v1), (2, 0, v2), (3, 0, v3), (4, 0, v4)] [(0, v3), (0, v2), (0, v1), (2, 200)] G Q
      refine sg_callV (k := (d + 1)) (y' := m_M_lacks) (av := [(0, v1), (0, v2), (0, v3)]) (rest := []) (b := 200) (by decide +kernel) cv_M_lacks ml_11_117 ce_200 rfl rfl (Nat.le_of_ble_eq_true rfl) (Nat.lt_succ_self (d + 1)) (Nat.le_of_ble_eq_true rfl) rfl ?_
      show sg_Wp 200 228 (d + 1) m_M_lacks 0 [(0, 2, 200), (1, 0, v1), (2, 0, v2), (3, 0, v3)] [] G _
      refine sg_Wp.mono (((h.1 q3).1 q2)) (fun r1 G1 hhr1 => ?_)
      show sg_Wp 200 228 (d + 2) m_M_lay 29 [(0, 2, 200), (1, 0, v1), (2, 0, v2), (3, 0, v3), (4, 0, v4)] [(0, r1)] G1 Q
      refine sg_blk [(26, 0, 0, 5, 0), (4, 0, 0, 5, 0)] (by decide +kernel) ?_
      refine And.intro rfl (And.intro rfl (?_))
      show sg_Wp 200 228 (d + 2) m_M_lay 33 [(0, 2, 200), (1, 0, v1), (2, 0, v2), (3, 0, v3), (4, 0, v4), (5, 0, r1)] [(0, r1)] G1 Q
      refine sg_if_eq (off := 6) (tgt := 39) (by decide +kernel) (by decide) ⟨fun q1 => ?_, fun q1 => ?_⟩
      · refine sg_blk [(1, 0, 0, 0, 0), (65, 203, 11, 16, 2), (8, 60, 0, 0, 0), (3, 0, 0, 1, 0), (34, 0, 0, 0, 0), (3, 0, 0, 3, 0), (32, 0, 0, 0, 0), (3, 0, 0, 2, 0), (4, 0, 0, 4, 0)] (by decide +kernel) ?_
        refine And.intro (Nat.le_of_ble_eq_true rfl) (And.intro ce_200 (And.intro rr_200_2 (And.intro rfl (And.intro rfl (And.intro rfl (And.intro rfl (And.intro rfl (And.intro rfl (?_)))))))))
        show sg_Wp 200 228 (d + 2) m_M_lay 52 [(0, 2, 200), (1, 0, v1), (2, 0, v2), (3, 0, v3), (4, 0, v4), (5, 0, r1)] [(0, v4), (0, v2), (0, sg_iadd (sg_imul 60 v1) v3), (2, 203)] G1 Q
        refine sg_callS (k := (d + 1)) (y' := m_M_cut) (av := [(0, v2), (0, v4)]) (rest := [(0, sg_iadd (sg_imul 60 v1) v3), (2, 203)]) (by decide +kernel) cs_M_cut ml_11_121 rfl (Nat.le_of_ble_eq_true rfl) (Nat.lt_succ_self (d + 1)) (Nat.le_of_ble_eq_true rfl) rfl ?_
        show sg_Wp 200 228 (d + 1) m_M_cut 0 [(0, 0, v2), (1, 0, v4)] [] G1 _
        refine s_M_cut ?_
        show sg_Wp 200 228 (d + 2) m_M_lay 55 [(0, 2, 200), (1, 0, v1), (2, 0, v2), (3, 0, v3), (4, 0, v4), (5, 0, r1)] [(0, sg_cut v2 v4), (0, sg_iadd (sg_imul 60 v1) v3), (2, 203)] G1 Q
        refine sg_blk [(18, 240, 0, 0, 0), (7, 1, 0, 0, 0)] (by decide +kernel) ?_
        refine And.intro ce_203 (And.intro (hhr1.1 q1).1 (And.intro rfl (?_)))
        show sg_Wp 200 228 (d + 2) m_M_lay 57 [(0, 2, 200), (1, 0, v1), (2, 0, v2), (3, 0, v3), (4, 0, v4), (5, 0, r1)] [(0, 1)] (sg_up G1 203 (sg_iadd (sg_imul 60 v1) v3) (sg_cut v2 v4)) Q
        exact sg_ret (by decide +kernel) rfl (Or.inl rfl) ((hhr1.1 q1).2)
      · refine sg_blk [(4, 0, 0, 5, 0)] (by decide +kernel) ?_
        refine And.intro rfl (?_)
        show sg_Wp 200 228 (d + 2) m_M_lay 38 [(0, 2, 200), (1, 0, v1), (2, 0, v2), (3, 0, v3), (4, 0, v4), (5, 0, r1)] [(0, r1)] G1 Q
        exact sg_ret (by decide +kernel) rfl (Or.inl rfl) ((hhr1.2 q1))
    · refine sg_blk [(8, (-2), 0, 0, 0)] (by decide +kernel) ?_
      refine And.intro rfl (And.intro rfl (?_))
      show sg_Wp 200 228 (d + 2) m_M_lay 21 [(0, 2, 200), (1, 0, v1), (2, 0, v2), (3, 0, v3), (4, 0, v4)] [(0, (-2))] G Q
      exact sg_ret (by decide +kernel) rfl (Or.inl rfl) (((h.1 q3).2 q2))
  · refine sg_blk [(8, (-2), 0, 0, 0)] (by decide +kernel) ?_
    refine And.intro rfl (And.intro rfl (?_))
    show sg_Wp 200 228 (d + 2) m_M_lay 21 [(0, 2, 200), (1, 0, v1), (2, 0, v2), (3, 0, v3), (4, 0, v4)] [(0, (-2))] G Q
    exact sg_ret (by decide +kernel) rfl (Or.inl rfl) ((h.2 q3))
set_option maxRecDepth 100000 in
theorem g_M_lose_0 {d : Nat} {v1 : Int} {G : SgM} {Q : Int → SgM → Prop} (h : ((0 ≤ v1 ∧ v1 ≤ 3) → ((0 ≤ v1 ∧ v1 < 4) ∧ ((0 ≤ (G 201 v1) → ((0 ≤ v1 ∧ v1 < 4) ∧ (0 ≤ v1 ∧ v1 < 4) ∧ (Q (G 202 v1) (sg_up G 201 v1 ((-1)))))) ∧ (¬ (0 ≤ (G 201 v1)) → (sg_Wp 200 228 (d + 1) m_M_finds 0 [(0, 2, 200), (1, 0, 1)] [] G (fun r1 G1 => Q r1 G1)))))) ∧ (¬ (0 ≤ v1 ∧ v1 ≤ 3) → (Q ((-2)) G))) : sg_Wp 200 228 (d + 2) m_M_lose 0 [(0, 2, 200), (1, 0, v1)] [] G Q := by
  refine sg_blk [(3, 0, 0, 1, 0)] (by decide +kernel) ?_
  refine And.intro rfl (?_)
  show sg_Wp 200 228 (d + 2) m_M_lose 1 [(0, 2, 200), (1, 0, v1)] [(0, v1)] G Q
  refine sg_callS (k := (d + 1)) (y' := m_M_isSheet) (av := [(0, v1)]) (rest := []) (by decide +kernel) cs_M_isSheet ml_11_107 rfl (Nat.le_of_ble_eq_true rfl) (Nat.lt_succ_self (d + 1)) (Nat.le_of_ble_eq_true rfl) rfl ?_
  show sg_Wp 200 228 (d + 1) m_M_isSheet 0 [(0, 0, v1)] [] G _
  refine s_M_isSheet ?_
  show sg_Wp 200 228 (d + 2) m_M_lose 4 [(0, 2, 200), (1, 0, v1)] [(0, sg_bo (0 ≤ v1 ∧ v1 ≤ 3))] G Q
  refine sg_bif_ne (off := 6) (tgt := 10) (by decide +kernel) (by decide) ⟨fun q2 => ?_, fun q2 => ?_⟩
  · refine sg_blk [(1, 0, 0, 0, 0), (65, 201, 11, 7, 0), (3, 0, 0, 1, 0), (17, 4, 0, 0, 0)] (by decide +kernel) ?_
    refine And.intro (Nat.le_of_ble_eq_true rfl) (And.intro ce_200 (And.intro rr_200_0 (And.intro rfl (And.intro ce_201 (And.intro (h.1 q2).1 (?_))))))
    show sg_Wp 200 228 (d + 2) m_M_lose 16 [(0, 2, 200), (1, 0, v1)] [(0, G 201 v1)] G Q
    refine sg_if_ge (off := 9) (tgt := 25) (by decide +kernel) (by decide) ⟨fun q1 => ?_, fun q1 => ?_⟩
    · refine sg_blk [(1, 0, 0, 0, 0), (65, 201, 11, 7, 0), (3, 0, 0, 1, 0), (7, (-1), 0, 0, 0), (18, 4, 0, 0, 0), (1, 0, 0, 0, 0), (65, 202, 11, 13, 1), (3, 0, 0, 1, 0), (17, 4, 0, 0, 0)] (by decide +kernel) ?_
      refine And.intro (Nat.le_of_ble_eq_true rfl) (And.intro ce_200 (And.intro rr_200_0 (And.intro rfl (And.intro rfl (And.intro ce_201 (And.intro ((h.1 q2).2.1 q1).1 (And.intro (Nat.le_of_ble_eq_true rfl) (And.intro ce_200 (And.intro rr_200_1 (And.intro rfl (And.intro ce_202 (And.intro ((h.1 q2).2.1 q1).2.1 (?_)))))))))))))
      show sg_Wp 200 228 (d + 2) m_M_lose 38 [(0, 2, 200), (1, 0, v1)] [(0, G 202 v1)] (sg_up G 201 v1 ((-1))) Q
      exact sg_ret (by decide +kernel) rfl (Or.inl rfl) (((h.1 q2).2.1 q1).2.2)
    · refine sg_blk [(1, 0, 0, 0, 0), (7, 1, 0, 0, 0)] (by decide +kernel) ?_
      refine And.intro (Nat.le_of_ble_eq_true rfl) (And.intro rfl (?_))
      show sg_Wp 200 228 (d + 2) m_M_lose 21 [(0, 2, 200), (1, 0, v1)] [(0, 1), (2, 200)] G Q
      refine sg_callV (k := (d + 1)) (y' := m_M_finds) (av := [(0, 1)]) (rest := []) (b := 200) (by decide +kernel) cv_M_finds ml_11_113 ce_200 rfl rfl (Nat.le_of_ble_eq_true rfl) (Nat.lt_succ_self (d + 1)) (Nat.le_of_ble_eq_true rfl) rfl ?_
      show sg_Wp 200 228 (d + 1) m_M_finds 0 [(0, 2, 200), (1, 0, 1)] [] G _
      refine sg_Wp.mono (((h.1 q2).2.2 q1)) (fun r1 G1 hhr1 => ?_)
      show sg_Wp 200 228 (d + 2) m_M_lose 24 [(0, 2, 200), (1, 0, v1)] [(0, r1)] G1 Q
      exact sg_ret (by decide +kernel) rfl (Or.inl rfl) hhr1
  · refine sg_blk [(8, (-2), 0, 0, 0)] (by decide +kernel) ?_
    refine And.intro rfl (And.intro rfl (?_))
    show sg_Wp 200 228 (d + 2) m_M_lose 9 [(0, 2, 200), (1, 0, v1)] [(0, (-2))] G Q
    exact sg_ret (by decide +kernel) rfl (Or.inl rfl) ((h.2 q2))
set_option maxRecDepth 100000 in
theorem g_M_ones_0 {d : Nat} {v0 : Int} {G : SgM} {Q : Int → SgM → Prop} (h : sg_Wp 200 228 d m_M_ones 4 [(1, 0, 0), (2, 0, v0)] [] G Q) : sg_Wp 200 228 d m_M_ones 0 [(0, 0, v0)] [] G Q := by
  refine sg_blk [(7, 0, 0, 0, 0), (25, 0, 0, 1, 0), (3, 0, 0, 0, 0), (25, 0, 0, 2, 0)] (by decide +kernel) ?_
  refine And.intro rfl (And.intro rfl (And.intro rfl (And.intro rfl (?_))))
  show sg_Wp 200 228 d m_M_ones 4 [(0, 0, v0), (1, 0, 0), (2, 0, v0)] [] G Q
  exact sg_Wp.keepk [1, 2] rfl h
set_option maxRecDepth 100000 in
theorem g_M_ones_4 {d : Nat} {v1 v2 : Int} {G : SgM} {Q : Int → SgM → Prop} (h : (v2 = 0 → (Q v1 G)) ∧ (¬ (v2 = 0) → (sg_Wp 200 228 d m_M_ones 4 [(1, 0, sg_iadd v1 1), (2, 0, sg_iand v2 (sg_isub v2 1))] [] G Q))) : sg_Wp 200 228 d m_M_ones 4 [(1, 0, v1), (2, 0, v2)] [] G Q := by
  refine sg_blk [(3, 0, 0, 2, 0)] (by decide +kernel) ?_
  refine And.intro rfl (?_)
  show sg_Wp 200 228 d m_M_ones 5 [(1, 0, v1), (2, 0, v2)] [(0, v2)] G Q
  refine sg_if_eq (off := 15) (tgt := 20) (by decide +kernel) (by decide) ⟨fun q1 => ?_, fun q1 => ?_⟩
  · refine sg_blk [(3, 0, 0, 1, 0)] (by decide +kernel) ?_
    refine And.intro rfl (?_)
    show sg_Wp 200 228 d m_M_ones 21 [(1, 0, v1), (2, 0, v2)] [(0, v1)] G Q
    exact sg_ret (by decide +kernel) rfl (Or.inl rfl) ((h.1 q1))
  · refine sg_blk [(31, 1, 0, 1, 0), (3, 0, 0, 2, 0), (3, 0, 0, 2, 0), (7, 1, 0, 0, 0), (33, 0, 0, 0, 0), (38, 0, 0, 0, 0), (25, 0, 0, 2, 0)] (by decide +kernel) ?_
    refine And.intro rfl (And.intro rfl (And.intro rfl (And.intro rfl (And.intro rfl (?_)))))
    show sg_Wp 200 228 d m_M_ones 17 [(1, 0, sg_iadd v1 1), (2, 0, sg_iand v2 (sg_isub v2 1))] [] G Q
    refine sg_goto (off := -13) (tgt := 4) (by decide +kernel) (by decide) ?_
    exact (h.2 q1)
set_option maxRecDepth 100000 in
theorem g_M_part_0 {d : Nat} {v0 v2 v4 : Int} {G : SgM} {Q : Int → SgM → Prop} (h : sg_Wp 200 228 d m_M_part 6 [(0, 1, v0), (2, 1, v2), (4, 0, v4), (5, 1, v0), (7, 1, v2)] [] G Q) : sg_Wp 200 228 d m_M_part 0 [(0, 1, v0), (2, 1, v2), (4, 0, v4)] [] G Q := by
  refine sg_blk [(5, 0, 0, 0, 0), (28, 0, 0, 5, 0), (5, 0, 0, 2, 0), (28, 0, 0, 7, 0)] (by decide +kernel) ?_
  refine And.intro rfl (And.intro rfl (And.intro rfl (And.intro rfl (?_))))
  show sg_Wp 200 228 d m_M_part 6 [(0, 1, v0), (2, 1, v2), (4, 0, v4), (5, 1, v0), (7, 1, v2)] [] G Q
  exact h
set_option maxRecDepth 100000 in
theorem g_M_part_6 {d : Nat} {v0 v2 v4 v5 v7 : Int} {G : SgM} {Q : Int → SgM → Prop} (h : ((sg_lcmp v7 0) = 0 → ((v4 ≠ 0 → ((v5 ≠ 0) ∧ (Q (sg_ldiv v2 v5) G))) ∧ (¬ (v4 ≠ 0) → ((v5 ≠ 0) ∧ (Q (sg_ldiv v0 v5) G))))) ∧ (¬ ((sg_lcmp v7 0) = 0) → ((v7 ≠ 0) ∧ (sg_Wp 200 228 d m_M_part 6 [(0, 1, v0), (2, 1, v2), (4, 0, v4), (5, 1, v7), (7, 1, sg_lrem v5 v7)] [] G Q)))) : sg_Wp 200 228 d m_M_part 6 [(0, 1, v0), (2, 1, v2), (4, 0, v4), (5, 1, v5), (7, 1, v7)] [] G Q := by
  refine sg_blk [(6, 0, 0, 7, 0), (10, 0, 0, 0, 0), (52, 0, 0, 0, 0)] (by decide +kernel) ?_
  refine And.intro rfl (?_)
  show sg_Wp 200 228 d m_M_part 10 [(0, 1, v0), (2, 1, v2), (4, 0, v4), (5, 1, v5), (7, 1, v7)] [(0, sg_lcmp v7 0)] G Q
  refine sg_if_eq (off := 21) (tgt := 31) (by decide +kernel) (by decide) ⟨fun q2 => ?_, fun q2 => ?_⟩
  · refine sg_blk [(4, 0, 0, 4, 0)] (by decide +kernel) ?_
    refine And.intro rfl (?_)
    show sg_Wp 200 228 d m_M_part 33 [(0, 1, v0), (2, 1, v2), (4, 0, v4), (5, 1, v5), (7, 1, v7)] [(0, v4)] G Q
    refine sg_if_ne (off := 7) (tgt := 40) (by decide +kernel) (by decide) ⟨fun q1 => ?_, fun q1 => ?_⟩
    · refine sg_blk [(5, 0, 0, 2, 0), (6, 0, 0, 5, 0), (47, 0, 0, 0, 0)] (by decide +kernel) ?_
      refine And.intro rfl (And.intro rfl (And.intro ((h.1 q2).1 q1).1 (?_)))
      show sg_Wp 200 228 d m_M_part 44 [(0, 1, v0), (2, 1, v2), (4, 0, v4), (5, 1, v5), (7, 1, v7)] [(1, sg_ldiv v2 v5)] G Q
      exact sg_lret (by decide +kernel) rfl (((h.1 q2).1 q1).2)
    · refine sg_blk [(5, 0, 0, 0, 0)] (by decide +kernel) ?_
      refine And.intro rfl (?_)
      show sg_Wp 200 228 d m_M_part 37 [(0, 1, v0), (2, 1, v2), (4, 0, v4), (5, 1, v5), (7, 1, v7)] [(1, v0)] G Q
      refine sg_goto (off := 4) (tgt := 41) (by decide +kernel) (by decide) ?_
      refine sg_blk [(6, 0, 0, 5, 0), (47, 0, 0, 0, 0)] (by decide +kernel) ?_
      refine And.intro rfl (And.intro ((h.1 q2).2 q1).1 (?_))
      show sg_Wp 200 228 d m_M_part 44 [(0, 1, v0), (2, 1, v2), (4, 0, v4), (5, 1, v5), (7, 1, v7)] [(1, sg_ldiv v0 v5)] G Q
      exact sg_lret (by decide +kernel) rfl (((h.1 q2).2 q1).2)
  · refine sg_blk [(6, 0, 0, 5, 0), (6, 0, 0, 7, 0), (48, 0, 0, 0, 0), (28, 0, 0, 9, 0), (6, 0, 0, 7, 0), (28, 0, 0, 5, 0), (6, 0, 0, 9, 0), (28, 0, 0, 7, 0)] (by decide +kernel) ?_
    refine And.intro rfl (And.intro rfl (And.intro (h.2 q2).1 (And.intro rfl (And.intro rfl (And.intro rfl (And.intro rfl (And.intro rfl (?_))))))))
    show sg_Wp 200 228 d m_M_part 28 [(0, 1, v0), (2, 1, v2), (4, 0, v4), (5, 1, v7), (7, 1, sg_lrem v5 v7), (9, 1, sg_lrem v5 v7)] [] G Q
    refine sg_goto (off := -22) (tgt := 6) (by decide +kernel) (by decide) ?_
    exact sg_Wp.keepk [0, 1, 2, 3, 4] rfl ((h.2 q2).2)
set_option maxRecDepth 100000 in
theorem g_M_readsPeople_0 {d : Nat} {G : SgM} {Q : Int → SgM → Prop} (h : sg_Wp 200 228 (d + 3) m_M_readsPeople 14 [(0, 2, 200), (1, 0, G 206 1), (2, 0, 0)] [] (sg_up G 200 9 0) Q) : sg_Wp 200 228 (d + 3) m_M_readsPeople 0 [(0, 2, 200)] [] G Q := by
  refine sg_blk [(1, 0, 0, 0, 0), (7, 0, 0, 0, 0), (16, 0, 11, 140, 9), (1, 0, 0, 0, 0), (65, 206, 11, 25, 6), (7, 1, 0, 0, 0), (17, 2, 0, 0, 0), (25, 0, 0, 1, 0), (7, 0, 0, 0, 0), (25, 0, 0, 2, 0)] (by decide +kernel) ?_
  refine And.intro (Nat.le_of_ble_eq_true rfl) (And.intro rfl (And.intro ce_200 (And.intro (Nat.le_of_ble_eq_true rfl) (And.intro ce_200 (And.intro rr_200_6 (And.intro rfl (And.intro ce_206 (And.intro (by decide) (And.intro rfl (And.intro rfl (And.intro rfl (?_))))))))))))
  show sg_Wp 200 228 (d + 3) m_M_readsPeople 14 [(0, 2, 200), (1, 0, G 206 1), (2, 0, 0)] [] (sg_up G 200 9 0) Q
  exact h
set_option maxRecDepth 100000 in
theorem g_M_readsPeople_14 {d : Nat} {v1 v2 : Int} {G : SgM} {Q : Int → SgM → Prop} (h : (v1 ≤ v2 → ((v1 ≤ 0 → (sg_Wp 200 228 (d + 3) m_M_readsPeople 114 [] [] G Q)) ∧ (¬ (v1 ≤ 0) → (((sg_irem v1 5) = 4 → (sg_Wp 200 228 (d + 3) m_M_readsPeople 114 [] [] G Q)) ∧ (¬ ((sg_irem v1 5) = 4) → (Q v1 (sg_up G 200 9 0))))))) ∧ (¬ (v1 ≤ v2) → ((0 ≤ (sg_iadd 32 v2) ∧ (sg_iadd 32 v2) < 64) ∧ (((sg_qof (sg_irem v2 5) (G 205 (sg_iadd 32 v2))) ≠ ((-9)) → ((4 ≤ (sg_irem v2 5) → (sg_Wp 200 228 (d + 3) m_M_readsPeople 71 [(0, 2, 200), (1, 0, v1), (2, 0, v2), (3, 0, sg_irem v2 5)] [] G Q)) ∧ (¬ (4 ≤ (sg_irem v2 5)) → ((0 ≤ (sg_iadd (sg_imul 4 (sg_idiv v2 5)) (sg_irem v2 5)) ∧ (sg_iadd (sg_imul 4 (sg_idiv v2 5)) (sg_irem v2 5)) < 24) ∧ (sg_Wp 200 228 (d + 3) m_M_readsPeople 71 [(0, 2, 200), (1, 0, v1), (2, 0, v2), (3, 0, sg_irem v2 5)] [] (sg_up G 208 (sg_iadd (sg_imul 4 (sg_idiv v2 5)) (sg_irem v2 5)) (sg_qof (sg_irem v2 5) (G 205 (sg_iadd 32 v2)))) Q))))) ∧ (¬ ((sg_qof (sg_irem v2 5) (G 205 (sg_iadd 32 v2))) ≠ ((-9))) → (Q v2 (sg_up G 200 9 0))))))) : sg_Wp 200 228 (d + 3) m_M_readsPeople 14 [(0, 2, 200), (1, 0, v1), (2, 0, v2)] [] G Q := by
  refine sg_blk [(3, 0, 0, 2, 0), (3, 0, 0, 1, 0)] (by decide +kernel) ?_
  refine And.intro rfl (And.intro rfl (?_))
  show sg_Wp 200 228 (d + 3) m_M_readsPeople 16 [(0, 2, 200), (1, 0, v1), (2, 0, v2)] [(0, v1), (0, v2)] G Q
  refine sg_icmp_ge (off := 80) (tgt := 96) (by decide +kernel) (by decide) ⟨fun q5 => ?_, fun q5 => ?_⟩
  · refine sg_blk [(3, 0, 0, 1, 0)] (by decide +kernel) ?_
    refine And.intro rfl (?_)
    show sg_Wp 200 228 (d + 3) m_M_readsPeople 97 [(0, 2, 200), (1, 0, v1), (2, 0, v2)] [(0, v1)] G Q
    refine sg_if_le (off := 17) (tgt := 114) (by decide +kernel) (by decide) ⟨fun q2 => ?_, fun q2 => ?_⟩
    · exact sg_Wp.keepk [] rfl (((h.1 q5).1 q2))
    · refine sg_blk [(3, 0, 0, 1, 0), (7, 5, 0, 0, 0), (36, 0, 0, 0, 0), (7, 4, 0, 0, 0)] (by decide +kernel) ?_
      refine And.intro rfl (And.intro rfl (And.intro (by decide) (And.intro rfl (?_))))
      show sg_Wp 200 228 (d + 3) m_M_readsPeople 104 [(0, 2, 200), (1, 0, v1), (2, 0, v2)] [(0, 4), (0, sg_irem v1 5)] G Q
      refine sg_icmp_eq (off := 10) (tgt := 114) (by decide +kernel) (by decide) ⟨fun q1 => ?_, fun q1 => ?_⟩
      · exact sg_Wp.keepk [] rfl ((((h.1 q5).2 q2).1 q1))
      · refine sg_blk [(1, 0, 0, 0, 0), (7, 0, 0, 0, 0), (16, 0, 11, 140, 9), (3, 0, 0, 1, 0)] (by decide +kernel) ?_
        refine And.intro (Nat.le_of_ble_eq_true rfl) (And.intro rfl (And.intro ce_200 (And.intro rfl (?_))))
        show sg_Wp 200 228 (d + 3) m_M_readsPeople 113 [(0, 2, 200), (1, 0, v1), (2, 0, v2)] [(0, v1)] (sg_up G 200 9 0) Q
        exact sg_ret (by decide +kernel) rfl (Or.inl rfl) ((((h.1 q5).2 q2).2 q1))
  · refine sg_blk [(3, 0, 0, 2, 0), (7, 5, 0, 0, 0), (36, 0, 0, 0, 0), (25, 0, 0, 3, 0), (3, 0, 0, 3, 0), (1, 0, 0, 0, 0), (65, 205, 11, 22, 5), (8, 32, 0, 0, 0), (3, 0, 0, 2, 0), (32, 0, 0, 0, 0), (17, 64, 0, 0, 0)] (by decide +kernel) ?_
    refine And.intro rfl (And.intro rfl (And.intro (by decide) (And.intro rfl (And.intro rfl (And.intro (Nat.le_of_ble_eq_true rfl) (And.intro ce_200 (And.intro rr_200_5 (And.intro rfl (And.intro rfl (And.intro rfl (And.intro ce_205 (And.intro (h.2 q5).1 (?_)))))))))))))
    show sg_Wp 200 228 (d + 3) m_M_readsPeople 33 [(0, 2, 200), (1, 0, v1), (2, 0, v2), (3, 0, sg_irem v2 5)] [(0, G 205 (sg_iadd 32 v2)), (0, sg_irem v2 5)] G Q
    refine sg_callS (k := (d + 2)) (y' := m_M_personOf) (av := [(0, sg_irem v2 5), (0, G 205 (sg_iadd 32 v2))]) (rest := []) (by decide +kernel) cs_M_personOf ml_11_143 rfl (Nat.le_of_ble_eq_true rfl) (Nat.lt_succ_self (d + 2)) (Nat.le_of_ble_eq_true rfl) rfl ?_
    show sg_Wp 200 228 (d + 2) m_M_personOf 0 [(0, 0, sg_irem v2 5), (1, 0, G 205 (sg_iadd 32 v2))] [] G _
    refine s_M_personOf ?_
    show sg_Wp 200 228 (d + 3) m_M_readsPeople 36 [(0, 2, 200), (1, 0, v1), (2, 0, v2), (3, 0, sg_irem v2 5)] [(0, sg_qof (sg_irem v2 5) (G 205 (sg_iadd 32 v2)))] G Q
    refine sg_blk [(26, 0, 0, 4, 0), (4, 0, 0, 4, 0), (8, (-9), 0, 0, 0)] (by decide +kernel) ?_
    refine And.intro rfl (And.intro rfl (And.intro rfl (And.intro rfl (?_))))
    show sg_Wp 200 228 (d + 3) m_M_readsPeople 42 [(0, 2, 200), (1, 0, v1), (2, 0, v2), (3, 0, sg_irem v2 5), (4, 0, sg_qof (sg_irem v2 5) (G 205 (sg_iadd 32 v2)))] [(0, (-9)), (0, sg_qof (sg_irem v2 5) (G 205 (sg_iadd 32 v2)))] G Q
    refine sg_icmp_ne (off := 10) (tgt := 52) (by decide +kernel) (by decide) ⟨fun q4 => ?_, fun q4 => ?_⟩
    · refine sg_blk [(3, 0, 0, 3, 0), (7, 4, 0, 0, 0)] (by decide +kernel) ?_
      refine And.intro rfl (And.intro rfl (?_))
      show sg_Wp 200 228 (d + 3) m_M_readsPeople 54 [(0, 2, 200), (1, 0, v1), (2, 0, v2), (3, 0, sg_irem v2 5), (4, 0, sg_qof (sg_irem v2 5) (G 205 (sg_iadd 32 v2)))] [(0, 4), (0, sg_irem v2 5)] G Q
      refine sg_icmp_ge (off := 17) (tgt := 71) (by decide +kernel) (by decide) ⟨fun q3 => ?_, fun q3 => ?_⟩
      · exact sg_Wp.keepk [0, 1, 2, 3] rfl ((((h.2 q5).2.1 q4).1 q3))
      · refine sg_blk [(1, 0, 0, 0, 0), (65, 208, 11, 31, 10), (7, 4, 0, 0, 0), (3, 0, 0, 2, 0), (7, 5, 0, 0, 0), (35, 0, 0, 0, 0), (34, 0, 0, 0, 0), (3, 0, 0, 3, 0), (32, 0, 0, 0, 0), (4, 0, 0, 4, 0), (18, 24, 0, 0, 0)] (by decide +kernel) ?_
        refine And.intro (Nat.le_of_ble_eq_true rfl) (And.intro ce_200 (And.intro rr_200_10 (And.intro rfl (And.intro rfl (And.intro rfl (And.intro (by decide) (And.intro rfl (And.intro rfl (And.intro ce_208 (And.intro (((h.2 q5).2.1 q4).2 q3).1 (?_)))))))))))
        show sg_Wp 200 228 (d + 3) m_M_readsPeople 71 [(0, 2, 200), (1, 0, v1), (2, 0, v2), (3, 0, sg_irem v2 5), (4, 0, sg_qof (sg_irem v2 5) (G 205 (sg_iadd 32 v2)))] [] (sg_up G 208 (sg_iadd (sg_imul 4 (sg_idiv v2 5)) (sg_irem v2 5)) (sg_qof (sg_irem v2 5) (G 205 (sg_iadd 32 v2)))) Q
        exact sg_Wp.keepk [0, 1, 2, 3] rfl ((((h.2 q5).2.1 q4).2 q3).2)
    · refine sg_blk [(1, 0, 0, 0, 0), (7, 0, 0, 0, 0), (16, 0, 11, 140, 9), (3, 0, 0, 2, 0)] (by decide +kernel) ?_
      refine And.intro (Nat.le_of_ble_eq_true rfl) (And.intro rfl (And.intro ce_200 (And.intro rfl (?_))))
      show sg_Wp 200 228 (d + 3) m_M_readsPeople 51 [(0, 2, 200), (1, 0, v1), (2, 0, v2), (3, 0, sg_irem v2 5), (4, 0, sg_qof (sg_irem v2 5) (G 205 (sg_iadd 32 v2)))] [(0, v2)] (sg_up G 200 9 0) Q
      exact sg_ret (by decide +kernel) rfl (Or.inl rfl) (((h.2 q5).2.2 q4))
set_option maxRecDepth 100000 in
theorem g_M_readsPeople_114 {d : Nat} {G : SgM} {Q : Int → SgM → Prop} (h : Q ((-1)) G) : sg_Wp 200 228 (d + 3) m_M_readsPeople 114 [] [] G Q := by
  refine sg_blk [(7, (-1), 0, 0, 0)] (by decide +kernel) ?_
  refine And.intro rfl (?_)
  show sg_Wp 200 228 (d + 3) m_M_readsPeople 115 [] [(0, (-1))] G Q
  exact sg_ret (by decide +kernel) rfl (Or.inl rfl) h
set_option maxRecDepth 100000 in
theorem g_M_readsPeople_71 {d : Nat} {v1 v2 v3 : Int} {G : SgM} {Q : Int → SgM → Prop} (h : (v3 ≠ 3 → (sg_Wp 200 228 (d + 3) m_M_readsPeople 14 [(0, 2, 200), (1, 0, v1), (2, 0, sg_iadd v2 1)] [] (sg_up G 200 9 (sg_iadd (G 200 9) 0)) Q)) ∧ (¬ (v3 ≠ 3) → (sg_Wp 200 228 (d + 3) m_M_readsPeople 14 [(0, 2, 200), (1, 0, v1), (2, 0, sg_iadd v2 1)] [] (sg_up G 200 9 (sg_iadd (G 200 9) 1)) Q))) : sg_Wp 200 228 (d + 3) m_M_readsPeople 71 [(0, 2, 200), (1, 0, v1), (2, 0, v2), (3, 0, v3)] [] G Q := by
  refine sg_blk [(1, 0, 0, 0, 0), (57, 0, 0, 0, 0), (15, 0, 11, 140, 9), (3, 0, 0, 3, 0), (7, 3, 0, 0, 0)] (by decide +kernel) ?_
  refine And.intro (Nat.le_of_ble_eq_true rfl) (And.intro (Nat.ne_of_beq_eq_false rfl) (And.intro ce_200 (And.intro rfl (And.intro rfl (?_)))))
  show sg_Wp 200 228 (d + 3) m_M_readsPeople 78 [(0, 2, 200), (1, 0, v1), (2, 0, v2), (3, 0, v3)] [(0, 3), (0, v3), (0, G 200 9), (2, 200)] G Q
  refine sg_icmp_ne (off := 7) (tgt := 85) (by decide +kernel) (by decide) ⟨fun q6 => ?_, fun q6 => ?_⟩
  · refine sg_blk [(7, 0, 0, 0, 0), (32, 0, 0, 0, 0), (16, 0, 11, 140, 9), (31, 1, 0, 2, 0)] (by decide +kernel) ?_
    refine And.intro rfl (And.intro ce_200 (And.intro rfl (?_)))
    show sg_Wp 200 228 (d + 3) m_M_readsPeople 93 [(0, 2, 200), (1, 0, v1), (2, 0, sg_iadd v2 1), (3, 0, v3)] [] (sg_up G 200 9 (sg_iadd (G 200 9) 0)) Q
    refine sg_goto (off := -79) (tgt := 14) (by decide +kernel) (by decide) ?_
    exact sg_Wp.keepk [0, 1, 2] rfl ((h.1 q6))
  · refine sg_blk [(7, 1, 0, 0, 0)] (by decide +kernel) ?_
    refine And.intro rfl (?_)
    show sg_Wp 200 228 (d + 3) m_M_readsPeople 82 [(0, 2, 200), (1, 0, v1), (2, 0, v2), (3, 0, v3)] [(0, 1), (0, G 200 9), (2, 200)] G Q
    refine sg_goto (off := 4) (tgt := 86) (by decide +kernel) (by decide) ?_
    refine sg_blk [(32, 0, 0, 0, 0), (16, 0, 11, 140, 9), (31, 1, 0, 2, 0)] (by decide +kernel) ?_
    refine And.intro ce_200 (And.intro rfl (?_))
    show sg_Wp 200 228 (d + 3) m_M_readsPeople 93 [(0, 2, 200), (1, 0, v1), (2, 0, sg_iadd v2 1), (3, 0, v3)] [] (sg_up G 200 9 (sg_iadd (G 200 9) 1)) Q
    refine sg_goto (off := -79) (tgt := 14) (by decide +kernel) (by decide) ?_
    exact sg_Wp.keepk [0, 1, 2] rfl ((h.2 q6))
set_option maxRecDepth 100000 in
theorem g_M_readsPosts_0 {d : Nat} {G : SgM} {Q : Int → SgM → Prop} (h : sg_Wp 200 228 (d + 3) m_M_readsPosts 14 [(0, 2, 200), (1, 0, G 206 0), (2, 0, 0)] [] (sg_up G 200 7 0) Q) : sg_Wp 200 228 (d + 3) m_M_readsPosts 0 [(0, 2, 200)] [] G Q := by
  refine sg_blk [(1, 0, 0, 0, 0), (7, 0, 0, 0, 0), (16, 0, 11, 134, 7), (1, 0, 0, 0, 0), (65, 206, 11, 25, 6), (7, 0, 0, 0, 0), (17, 2, 0, 0, 0), (25, 0, 0, 1, 0), (7, 0, 0, 0, 0), (25, 0, 0, 2, 0)] (by decide +kernel) ?_
  refine And.intro (Nat.le_of_ble_eq_true rfl) (And.intro rfl (And.intro ce_200 (And.intro (Nat.le_of_ble_eq_true rfl) (And.intro ce_200 (And.intro rr_200_6 (And.intro rfl (And.intro ce_206 (And.intro (by decide) (And.intro rfl (And.intro rfl (And.intro rfl (?_))))))))))))
  show sg_Wp 200 228 (d + 3) m_M_readsPosts 14 [(0, 2, 200), (1, 0, G 206 0), (2, 0, 0)] [] (sg_up G 200 7 0) Q
  exact h
set_option maxRecDepth 100000 in
theorem g_M_readsPosts_14 {d : Nat} {v1 v2 : Int} {G : SgM} {Q : Int → SgM → Prop} (h : (v1 ≤ v2 → ((v1 ≤ 0 → (sg_Wp 200 228 (d + 3) m_M_readsPosts 111 [] [] G Q)) ∧ (¬ (v1 ≤ 0) → (((sg_irem v1 3) = 2 → (sg_Wp 200 228 (d + 3) m_M_readsPosts 111 [] [] G Q)) ∧ (¬ ((sg_irem v1 3) = 2) → (Q v1 (sg_up G 200 7 0))))))) ∧ (¬ (v1 ≤ v2) → ((0 ≤ v2 ∧ v2 < 64) ∧ (((sg_pof (sg_irem v2 3) (G 205 v2)) ≠ ((-9)) → ((2 ≤ (sg_irem v2 3) → (sg_Wp 200 228 (d + 3) m_M_readsPosts 68 [(0, 2, 200), (1, 0, v1), (2, 0, v2), (3, 0, sg_irem v2 3)] [] G Q)) ∧ (¬ (2 ≤ (sg_irem v2 3)) → ((0 ≤ (sg_iadd (sg_imul 2 (sg_idiv v2 3)) (sg_irem v2 3)) ∧ (sg_iadd (sg_imul 2 (sg_idiv v2 3)) (sg_irem v2 3)) < 16) ∧ (sg_Wp 200 228 (d + 3) m_M_readsPosts 68 [(0, 2, 200), (1, 0, v1), (2, 0, v2), (3, 0, sg_irem v2 3)] [] (sg_up G 207 (sg_iadd (sg_imul 2 (sg_idiv v2 3)) (sg_irem v2 3)) (sg_pof (sg_irem v2 3) (G 205 v2))) Q))))) ∧ (¬ ((sg_pof (sg_irem v2 3) (G 205 v2)) ≠ ((-9))) → (Q v2 (sg_up G 200 7 0))))))) : sg_Wp 200 228 (d + 3) m_M_readsPosts 14 [(0, 2, 200), (1, 0, v1), (2, 0, v2)] [] G Q := by
  refine sg_blk [(3, 0, 0, 2, 0), (3, 0, 0, 1, 0)] (by decide +kernel) ?_
  refine And.intro rfl (And.intro rfl (?_))
  show sg_Wp 200 228 (d + 3) m_M_readsPosts 16 [(0, 2, 200), (1, 0, v1), (2, 0, v2)] [(0, v1), (0, v2)] G Q
  refine sg_icmp_ge (off := 77) (tgt := 93) (by decide +kernel) (by decide) ⟨fun q5 => ?_, fun q5 => ?_⟩
  · refine sg_blk [(3, 0, 0, 1, 0)] (by decide +kernel) ?_
    refine And.intro rfl (?_)
    show sg_Wp 200 228 (d + 3) m_M_readsPosts 94 [(0, 2, 200), (1, 0, v1), (2, 0, v2)] [(0, v1)] G Q
    refine sg_if_le (off := 17) (tgt := 111) (by decide +kernel) (by decide) ⟨fun q2 => ?_, fun q2 => ?_⟩
    · exact sg_Wp.keepk [] rfl (((h.1 q5).1 q2))
    · refine sg_blk [(3, 0, 0, 1, 0), (7, 3, 0, 0, 0), (36, 0, 0, 0, 0), (7, 2, 0, 0, 0)] (by decide +kernel) ?_
      refine And.intro rfl (And.intro rfl (And.intro (by decide) (And.intro rfl (?_))))
      show sg_Wp 200 228 (d + 3) m_M_readsPosts 101 [(0, 2, 200), (1, 0, v1), (2, 0, v2)] [(0, 2), (0, sg_irem v1 3)] G Q
      refine sg_icmp_eq (off := 10) (tgt := 111) (by decide +kernel) (by decide) ⟨fun q1 => ?_, fun q1 => ?_⟩
      · exact sg_Wp.keepk [] rfl ((((h.1 q5).2 q2).1 q1))
      · refine sg_blk [(1, 0, 0, 0, 0), (7, 0, 0, 0, 0), (16, 0, 11, 134, 7), (3, 0, 0, 1, 0)] (by decide +kernel) ?_
        refine And.intro (Nat.le_of_ble_eq_true rfl) (And.intro rfl (And.intro ce_200 (And.intro rfl (?_))))
        show sg_Wp 200 228 (d + 3) m_M_readsPosts 110 [(0, 2, 200), (1, 0, v1), (2, 0, v2)] [(0, v1)] (sg_up G 200 7 0) Q
        exact sg_ret (by decide +kernel) rfl (Or.inl rfl) ((((h.1 q5).2 q2).2 q1))
  · refine sg_blk [(3, 0, 0, 2, 0), (7, 3, 0, 0, 0), (36, 0, 0, 0, 0), (25, 0, 0, 3, 0), (3, 0, 0, 3, 0), (1, 0, 0, 0, 0), (65, 205, 11, 22, 5), (3, 0, 0, 2, 0), (17, 64, 0, 0, 0)] (by decide +kernel) ?_
    refine And.intro rfl (And.intro rfl (And.intro (by decide) (And.intro rfl (And.intro rfl (And.intro (Nat.le_of_ble_eq_true rfl) (And.intro ce_200 (And.intro rr_200_5 (And.intro rfl (And.intro ce_205 (And.intro (h.2 q5).1 (?_)))))))))))
    show sg_Wp 200 228 (d + 3) m_M_readsPosts 30 [(0, 2, 200), (1, 0, v1), (2, 0, v2), (3, 0, sg_irem v2 3)] [(0, G 205 v2), (0, sg_irem v2 3)] G Q
    refine sg_callS (k := (d + 2)) (y' := m_M_postOf) (av := [(0, sg_irem v2 3), (0, G 205 v2)]) (rest := []) (by decide +kernel) cs_M_postOf ml_11_137 rfl (Nat.le_of_ble_eq_true rfl) (Nat.lt_succ_self (d + 2)) (Nat.le_of_ble_eq_true rfl) rfl ?_
    show sg_Wp 200 228 (d + 2) m_M_postOf 0 [(0, 0, sg_irem v2 3), (1, 0, G 205 v2)] [] G _
    refine s_M_postOf ?_
    show sg_Wp 200 228 (d + 3) m_M_readsPosts 33 [(0, 2, 200), (1, 0, v1), (2, 0, v2), (3, 0, sg_irem v2 3)] [(0, sg_pof (sg_irem v2 3) (G 205 v2))] G Q
    refine sg_blk [(26, 0, 0, 4, 0), (4, 0, 0, 4, 0), (8, (-9), 0, 0, 0)] (by decide +kernel) ?_
    refine And.intro rfl (And.intro rfl (And.intro rfl (And.intro rfl (?_))))
    show sg_Wp 200 228 (d + 3) m_M_readsPosts 39 [(0, 2, 200), (1, 0, v1), (2, 0, v2), (3, 0, sg_irem v2 3), (4, 0, sg_pof (sg_irem v2 3) (G 205 v2))] [(0, (-9)), (0, sg_pof (sg_irem v2 3) (G 205 v2))] G Q
    refine sg_icmp_ne (off := 10) (tgt := 49) (by decide +kernel) (by decide) ⟨fun q4 => ?_, fun q4 => ?_⟩
    · refine sg_blk [(3, 0, 0, 3, 0), (7, 2, 0, 0, 0)] (by decide +kernel) ?_
      refine And.intro rfl (And.intro rfl (?_))
      show sg_Wp 200 228 (d + 3) m_M_readsPosts 51 [(0, 2, 200), (1, 0, v1), (2, 0, v2), (3, 0, sg_irem v2 3), (4, 0, sg_pof (sg_irem v2 3) (G 205 v2))] [(0, 2), (0, sg_irem v2 3)] G Q
      refine sg_icmp_ge (off := 17) (tgt := 68) (by decide +kernel) (by decide) ⟨fun q3 => ?_, fun q3 => ?_⟩
      · exact sg_Wp.keepk [0, 1, 2, 3] rfl ((((h.2 q5).2.1 q4).1 q3))
      · refine sg_blk [(1, 0, 0, 0, 0), (65, 207, 11, 28, 8), (7, 2, 0, 0, 0), (3, 0, 0, 2, 0), (7, 3, 0, 0, 0), (35, 0, 0, 0, 0), (34, 0, 0, 0, 0), (3, 0, 0, 3, 0), (32, 0, 0, 0, 0), (4, 0, 0, 4, 0), (18, 16, 0, 0, 0)] (by decide +kernel) ?_
        refine And.intro (Nat.le_of_ble_eq_true rfl) (And.intro ce_200 (And.intro rr_200_8 (And.intro rfl (And.intro rfl (And.intro rfl (And.intro (by decide) (And.intro rfl (And.intro rfl (And.intro ce_207 (And.intro (((h.2 q5).2.1 q4).2 q3).1 (?_)))))))))))
        show sg_Wp 200 228 (d + 3) m_M_readsPosts 68 [(0, 2, 200), (1, 0, v1), (2, 0, v2), (3, 0, sg_irem v2 3), (4, 0, sg_pof (sg_irem v2 3) (G 205 v2))] [] (sg_up G 207 (sg_iadd (sg_imul 2 (sg_idiv v2 3)) (sg_irem v2 3)) (sg_pof (sg_irem v2 3) (G 205 v2))) Q
        exact sg_Wp.keepk [0, 1, 2, 3] rfl ((((h.2 q5).2.1 q4).2 q3).2)
    · refine sg_blk [(1, 0, 0, 0, 0), (7, 0, 0, 0, 0), (16, 0, 11, 134, 7), (3, 0, 0, 2, 0)] (by decide +kernel) ?_
      refine And.intro (Nat.le_of_ble_eq_true rfl) (And.intro rfl (And.intro ce_200 (And.intro rfl (?_))))
      show sg_Wp 200 228 (d + 3) m_M_readsPosts 48 [(0, 2, 200), (1, 0, v1), (2, 0, v2), (3, 0, sg_irem v2 3), (4, 0, sg_pof (sg_irem v2 3) (G 205 v2))] [(0, v2)] (sg_up G 200 7 0) Q
      exact sg_ret (by decide +kernel) rfl (Or.inl rfl) (((h.2 q5).2.2 q4))
set_option maxRecDepth 100000 in
theorem g_M_readsPosts_111 {d : Nat} {G : SgM} {Q : Int → SgM → Prop} (h : Q ((-1)) G) : sg_Wp 200 228 (d + 3) m_M_readsPosts 111 [] [] G Q := by
  refine sg_blk [(7, (-1), 0, 0, 0)] (by decide +kernel) ?_
  refine And.intro rfl (?_)
  show sg_Wp 200 228 (d + 3) m_M_readsPosts 112 [] [(0, (-1))] G Q
  exact sg_ret (by decide +kernel) rfl (Or.inl rfl) h
set_option maxRecDepth 100000 in
theorem g_M_readsPosts_68 {d : Nat} {v1 v2 v3 : Int} {G : SgM} {Q : Int → SgM → Prop} (h : (v3 ≠ 1 → (sg_Wp 200 228 (d + 3) m_M_readsPosts 14 [(0, 2, 200), (1, 0, v1), (2, 0, sg_iadd v2 1)] [] (sg_up G 200 7 (sg_iadd (G 200 7) 0)) Q)) ∧ (¬ (v3 ≠ 1) → (sg_Wp 200 228 (d + 3) m_M_readsPosts 14 [(0, 2, 200), (1, 0, v1), (2, 0, sg_iadd v2 1)] [] (sg_up G 200 7 (sg_iadd (G 200 7) 1)) Q))) : sg_Wp 200 228 (d + 3) m_M_readsPosts 68 [(0, 2, 200), (1, 0, v1), (2, 0, v2), (3, 0, v3)] [] G Q := by
  refine sg_blk [(1, 0, 0, 0, 0), (57, 0, 0, 0, 0), (15, 0, 11, 134, 7), (3, 0, 0, 3, 0), (7, 1, 0, 0, 0)] (by decide +kernel) ?_
  refine And.intro (Nat.le_of_ble_eq_true rfl) (And.intro (Nat.ne_of_beq_eq_false rfl) (And.intro ce_200 (And.intro rfl (And.intro rfl (?_)))))
  show sg_Wp 200 228 (d + 3) m_M_readsPosts 75 [(0, 2, 200), (1, 0, v1), (2, 0, v2), (3, 0, v3)] [(0, 1), (0, v3), (0, G 200 7), (2, 200)] G Q
  refine sg_icmp_ne (off := 7) (tgt := 82) (by decide +kernel) (by decide) ⟨fun q6 => ?_, fun q6 => ?_⟩
  · refine sg_blk [(7, 0, 0, 0, 0), (32, 0, 0, 0, 0), (16, 0, 11, 134, 7), (31, 1, 0, 2, 0)] (by decide +kernel) ?_
    refine And.intro rfl (And.intro ce_200 (And.intro rfl (?_)))
    show sg_Wp 200 228 (d + 3) m_M_readsPosts 90 [(0, 2, 200), (1, 0, v1), (2, 0, sg_iadd v2 1), (3, 0, v3)] [] (sg_up G 200 7 (sg_iadd (G 200 7) 0)) Q
    refine sg_goto (off := -76) (tgt := 14) (by decide +kernel) (by decide) ?_
    exact sg_Wp.keepk [0, 1, 2] rfl ((h.1 q6))
  · refine sg_blk [(7, 1, 0, 0, 0)] (by decide +kernel) ?_
    refine And.intro rfl (?_)
    show sg_Wp 200 228 (d + 3) m_M_readsPosts 79 [(0, 2, 200), (1, 0, v1), (2, 0, v2), (3, 0, v3)] [(0, 1), (0, G 200 7), (2, 200)] G Q
    refine sg_goto (off := 4) (tgt := 83) (by decide +kernel) (by decide) ?_
    refine sg_blk [(32, 0, 0, 0, 0), (16, 0, 11, 134, 7), (31, 1, 0, 2, 0)] (by decide +kernel) ?_
    refine And.intro ce_200 (And.intro rfl (?_))
    show sg_Wp 200 228 (d + 3) m_M_readsPosts 90 [(0, 2, 200), (1, 0, v1), (2, 0, sg_iadd v2 1), (3, 0, v3)] [] (sg_up G 200 7 (sg_iadd (G 200 7) 1)) Q
    refine sg_goto (off := -76) (tgt := 14) (by decide +kernel) (by decide) ?_
    exact sg_Wp.keepk [0, 1, 2] rfl ((h.2 q6))
set_option maxRecDepth 100000 in
theorem g_M_readsText_0 {d : Nat} {v1 : Int} {G : SgM} {Q : Int → SgM → Prop} (h : (v1 ≠ 0 → (sg_Wp 200 228 d m_M_readsPeople 0 [(0, 2, 200)] [] G (fun r1 G1 => Q r1 G1))) ∧ (¬ (v1 ≠ 0) → (sg_Wp 200 228 d m_M_readsPosts 0 [(0, 2, 200)] [] G (fun r2 G2 => Q r2 G2)))) : sg_Wp 200 228 (d + 1) m_M_readsText 0 [(0, 2, 200), (1, 0, v1)] [] G Q := by
  refine sg_blk [(3, 0, 0, 1, 0)] (by decide +kernel) ?_
  refine And.intro rfl (?_)
  show sg_Wp 200 228 (d + 1) m_M_readsText 1 [(0, 2, 200), (1, 0, v1)] [(0, v1)] G Q
  refine sg_if_ne (off := 10) (tgt := 11) (by decide +kernel) (by decide) ⟨fun q1 => ?_, fun q1 => ?_⟩
  · refine sg_blk [(1, 0, 0, 0, 0)] (by decide +kernel) ?_
    refine And.intro (Nat.le_of_ble_eq_true rfl) (?_)
    show sg_Wp 200 228 (d + 1) m_M_readsText 12 [(0, 2, 200), (1, 0, v1)] [(2, 200)] G Q
    refine sg_callV (k := d) (y' := m_M_readsPeople) (av := []) (rest := []) (b := 200) (by decide +kernel) cv_M_readsPeople ml_11_150 ce_200 rfl rfl (Nat.le_of_ble_eq_true rfl) (Nat.lt_succ_self d) (Nat.le_of_ble_eq_true rfl) rfl ?_
    show sg_Wp 200 228 d m_M_readsPeople 0 [(0, 2, 200)] [] G _
    refine sg_Wp.mono ((h.1 q1)) (fun r1 G1 hhr1 => ?_)
    show sg_Wp 200 228 (d + 1) m_M_readsText 15 [(0, 2, 200), (1, 0, v1)] [(0, r1)] G1 Q
    exact sg_ret (by decide +kernel) rfl (Or.inl rfl) hhr1
  · refine sg_blk [(1, 0, 0, 0, 0)] (by decide +kernel) ?_
    refine And.intro (Nat.le_of_ble_eq_true rfl) (?_)
    show sg_Wp 200 228 (d + 1) m_M_readsText 5 [(0, 2, 200), (1, 0, v1)] [(2, 200)] G Q
    refine sg_callV (k := d) (y' := m_M_readsPosts) (av := []) (rest := []) (b := 200) (by decide +kernel) cv_M_readsPosts ml_11_146 ce_200 rfl rfl (Nat.le_of_ble_eq_true rfl) (Nat.lt_succ_self d) (Nat.le_of_ble_eq_true rfl) rfl ?_
    show sg_Wp 200 228 d m_M_readsPosts 0 [(0, 2, 200)] [] G _
    refine sg_Wp.mono ((h.2 q1)) (fun r2 G2 hhr2 => ?_)
    show sg_Wp 200 228 (d + 1) m_M_readsText 8 [(0, 2, 200), (1, 0, v1)] [(0, r2)] G2 Q
    refine sg_goto (off := 7) (tgt := 15) (by decide +kernel) (by decide) ?_
    exact sg_ret (by decide +kernel) rfl (Or.inl rfl) hhr2
set_option maxRecDepth 100000 in
theorem g_M_sheet_0 {d : Nat} {v1 v2 v3 : Int} {G : SgM} {Q : Int → SgM → Prop} (h : ((0 ≤ v1 ∧ v1 ≤ 3) → (((0 ≤ v2 ∧ v2 ≤ 2) → ((v3 ≤ 60 → ((0 ≤ v3 → ((0 ≤ v1 ∧ v1 < 4) ∧ (0 ≤ v1 ∧ v1 < 4) ∧ (sg_Wp 200 228 (d + 2) m_M_sheet 55 [(0, 2, 200), (1, 0, v1), (3, 0, v3), (4, 0, 0)] [] (sg_up (sg_up G 201 v1 v2) 202 v1 v3) Q))) ∧ (¬ (0 ≤ v3) → (sg_Wp 200 228 (d + 1) m_M_finds 0 [(0, 2, 200), (1, 0, 5)] [] G (fun r1 G1 => Q r1 G1))))) ∧ (¬ (v3 ≤ 60) → (Q ((-2)) G)))) ∧ (¬ (0 ≤ v2 ∧ v2 ≤ 2) → (Q ((-2)) G)))) ∧ (¬ (0 ≤ v1 ∧ v1 ≤ 3) → (Q ((-2)) G))) : sg_Wp 200 228 (d + 2) m_M_sheet 0 [(0, 2, 200), (1, 0, v1), (2, 0, v2), (3, 0, v3)] [] G Q := by
  refine sg_blk [(3, 0, 0, 1, 0)] (by decide +kernel) ?_
  refine And.intro rfl (?_)
  show sg_Wp 200 228 (d + 2) m_M_sheet 1 [(0, 2, 200), (1, 0, v1), (2, 0, v2), (3, 0, v3)] [(0, v1)] G Q
  refine sg_callS (k := (d + 1)) (y' := m_M_isSheet) (av := [(0, v1)]) (rest := []) (by decide +kernel) cs_M_isSheet ml_11_107 rfl (Nat.le_of_ble_eq_true rfl) (Nat.lt_succ_self (d + 1)) (Nat.le_of_ble_eq_true rfl) rfl ?_
  show sg_Wp 200 228 (d + 1) m_M_isSheet 0 [(0, 0, v1)] [] G _
  refine s_M_isSheet ?_
  show sg_Wp 200 228 (d + 2) m_M_sheet 4 [(0, 2, 200), (1, 0, v1), (2, 0, v2), (3, 0, v3)] [(0, sg_bo (0 ≤ v1 ∧ v1 ≤ 3))] G Q
  refine sg_bif_eq (off := 21) (tgt := 25) (by decide +kernel) (by decide) ⟨fun q4 => ?_, fun q4 => ?_⟩
  · refine sg_blk [(3, 0, 0, 2, 0), (53, 0, 0, 0, 0), (10, 0, 0, 0, 0), (12, 2, 0, 111, 0)] (by decide +kernel) ?_
    refine And.intro rfl (And.intro rfl (?_))
    show sg_Wp 200 228 (d + 2) m_M_sheet 13 [(0, 2, 200), (1, 0, v1), (2, 0, v2), (3, 0, v3)] [(1, 2), (1, 0), (1, v2)] G Q
    refine sg_callS (k := (d + 1)) (y' := m_M_in) (av := [(1, v2), (1, 0), (1, 2)]) (rest := []) (by decide +kernel) cs_M_in ml_11_98 rfl (Nat.le_of_ble_eq_true rfl) (Nat.lt_succ_self (d + 1)) (Nat.le_of_ble_eq_true rfl) rfl ?_
    show sg_Wp 200 228 (d + 1) m_M_in 0 [(0, 1, v2), (2, 1, 0), (4, 1, 2)] [] G _
    refine s_M_in ?_
    show sg_Wp 200 228 (d + 2) m_M_sheet 16 [(0, 2, 200), (1, 0, v1), (2, 0, v2), (3, 0, v3)] [(0, sg_bo (0 ≤ v2 ∧ v2 ≤ 2))] G Q
    refine sg_bif_eq (off := 9) (tgt := 25) (by decide +kernel) (by decide) ⟨fun q3 => ?_, fun q3 => ?_⟩
    · refine sg_blk [(3, 0, 0, 3, 0), (8, 60, 0, 0, 0)] (by decide +kernel) ?_
      refine And.intro rfl (And.intro rfl (And.intro rfl (?_)))
      show sg_Wp 200 228 (d + 2) m_M_sheet 22 [(0, 2, 200), (1, 0, v1), (2, 0, v2), (3, 0, v3)] [(0, 60), (0, v3)] G Q
      refine sg_icmp_le (off := 6) (tgt := 28) (by decide +kernel) (by decide) ⟨fun q2 => ?_, fun q2 => ?_⟩
      · refine sg_blk [(3, 0, 0, 3, 0)] (by decide +kernel) ?_
        refine And.intro rfl (?_)
        show sg_Wp 200 228 (d + 2) m_M_sheet 29 [(0, 2, 200), (1, 0, v1), (2, 0, v2), (3, 0, v3)] [(0, v3)] G Q
        refine sg_if_ge (off := 9) (tgt := 38) (by decide +kernel) (by decide) ⟨fun q1 => ?_, fun q1 => ?_⟩
        · refine sg_blk [(1, 0, 0, 0, 0), (65, 201, 11, 7, 0), (3, 0, 0, 1, 0), (3, 0, 0, 2, 0), (18, 4, 0, 0, 0), (1, 0, 0, 0, 0), (65, 202, 11, 13, 1), (3, 0, 0, 1, 0), (3, 0, 0, 3, 0), (18, 4, 0, 0, 0), (7, 0, 0, 0, 0), (26, 0, 0, 4, 0)] (by decide +kernel) ?_
          refine And.intro (Nat.le_of_ble_eq_true rfl) (And.intro ce_200 (And.intro rr_200_0 (And.intro rfl (And.intro rfl (And.intro ce_201 (And.intro ((((h.1 q4).1 q3).1 q2).1 q1).1 (And.intro (Nat.le_of_ble_eq_true rfl) (And.intro ce_200 (And.intro rr_200_1 (And.intro rfl (And.intro rfl (And.intro ce_202 (And.intro ((((h.1 q4).1 q3).1 q2).1 q1).2.1 (And.intro rfl (And.intro rfl (?_))))))))))))))))
          show sg_Wp 200 228 (d + 2) m_M_sheet 55 [(0, 2, 200), (1, 0, v1), (2, 0, v2), (3, 0, v3), (4, 0, 0)] [] (sg_up (sg_up G 201 v1 v2) 202 v1 v3) Q
          exact sg_Wp.keepk [0, 1, 3, 4] rfl (((((h.1 q4).1 q3).1 q2).1 q1).2.2)
        · refine sg_blk [(1, 0, 0, 0, 0), (7, 5, 0, 0, 0)] (by decide +kernel) ?_
          refine And.intro (Nat.le_of_ble_eq_true rfl) (And.intro rfl (?_))
          show sg_Wp 200 228 (d + 2) m_M_sheet 34 [(0, 2, 200), (1, 0, v1), (2, 0, v2), (3, 0, v3)] [(0, 5), (2, 200)] G Q
          refine sg_callV (k := (d + 1)) (y' := m_M_finds) (av := [(0, 5)]) (rest := []) (b := 200) (by decide +kernel) cv_M_finds ml_11_113 ce_200 rfl rfl (Nat.le_of_ble_eq_true rfl) (Nat.lt_succ_self (d + 1)) (Nat.le_of_ble_eq_true rfl) rfl ?_
          show sg_Wp 200 228 (d + 1) m_M_finds 0 [(0, 2, 200), (1, 0, 5)] [] G _
          refine sg_Wp.mono (((((h.1 q4).1 q3).1 q2).2 q1)) (fun r1 G1 hhr1 => ?_)
          show sg_Wp 200 228 (d + 2) m_M_sheet 37 [(0, 2, 200), (1, 0, v1), (2, 0, v2), (3, 0, v3)] [(0, r1)] G1 Q
          exact sg_ret (by decide +kernel) rfl (Or.inl rfl) hhr1
      · refine sg_blk [(8, (-2), 0, 0, 0)] (by decide +kernel) ?_
        refine And.intro rfl (And.intro rfl (?_))
        show sg_Wp 200 228 (d + 2) m_M_sheet 27 [(0, 2, 200), (1, 0, v1), (2, 0, v2), (3, 0, v3)] [(0, (-2))] G Q
        exact sg_ret (by decide +kernel) rfl (Or.inl rfl) ((((h.1 q4).1 q3).2 q2))
    · refine sg_blk [(8, (-2), 0, 0, 0)] (by decide +kernel) ?_
      refine And.intro rfl (And.intro rfl (?_))
      show sg_Wp 200 228 (d + 2) m_M_sheet 27 [(0, 2, 200), (1, 0, v1), (2, 0, v2), (3, 0, v3)] [(0, (-2))] G Q
      exact sg_ret (by decide +kernel) rfl (Or.inl rfl) (((h.1 q4).2 q3))
  · refine sg_blk [(8, (-2), 0, 0, 0)] (by decide +kernel) ?_
    refine And.intro rfl (And.intro rfl (?_))
    show sg_Wp 200 228 (d + 2) m_M_sheet 27 [(0, 2, 200), (1, 0, v1), (2, 0, v2), (3, 0, v3)] [(0, (-2))] G Q
    exact sg_ret (by decide +kernel) rfl (Or.inl rfl) ((h.2 q4))
set_option maxRecDepth 100000 in
theorem g_M_sheet_55 {d : Nat} {v1 v3 v4 : Int} {G : SgM} {Q : Int → SgM → Prop} (h : (v3 ≤ v4 → (Q v3 G)) ∧ (¬ (v3 ≤ v4) → ((0 ≤ (sg_iadd (sg_imul 60 v1) v4) ∧ (sg_iadd (sg_imul 60 v1) v4) < 240) ∧ (sg_Wp 200 228 (d + 2) m_M_sheet 55 [(0, 2, 200), (1, 0, v1), (3, 0, v3), (4, 0, sg_iadd v4 1)] [] (sg_up G 203 (sg_iadd (sg_imul 60 v1) v4) 0) Q)))) : sg_Wp 200 228 (d + 2) m_M_sheet 55 [(0, 2, 200), (1, 0, v1), (3, 0, v3), (4, 0, v4)] [] G Q := by
  refine sg_blk [(4, 0, 0, 4, 0), (3, 0, 0, 3, 0)] (by decide +kernel) ?_
  refine And.intro rfl (And.intro rfl (?_))
  show sg_Wp 200 228 (d + 2) m_M_sheet 58 [(0, 2, 200), (1, 0, v1), (3, 0, v3), (4, 0, v4)] [(0, v3), (0, v4)] G Q
  refine sg_icmp_ge (off := 22) (tgt := 80) (by decide +kernel) (by decide) ⟨fun q5 => ?_, fun q5 => ?_⟩
  · refine sg_blk [(3, 0, 0, 3, 0)] (by decide +kernel) ?_
    refine And.intro rfl (?_)
    show sg_Wp 200 228 (d + 2) m_M_sheet 81 [(0, 2, 200), (1, 0, v1), (3, 0, v3), (4, 0, v4)] [(0, v3)] G Q
    exact sg_ret (by decide +kernel) rfl (Or.inl rfl) ((h.1 q5))
  · refine sg_blk [(1, 0, 0, 0, 0), (65, 203, 11, 16, 2), (8, 60, 0, 0, 0), (3, 0, 0, 1, 0), (34, 0, 0, 0, 0), (4, 0, 0, 4, 0), (32, 0, 0, 0, 0), (7, 0, 0, 0, 0), (18, 240, 0, 0, 0), (31, 1, 0, 4, 0)] (by decide +kernel) ?_
    refine And.intro (Nat.le_of_ble_eq_true rfl) (And.intro ce_200 (And.intro rr_200_2 (And.intro rfl (And.intro rfl (And.intro rfl (And.intro rfl (And.intro rfl (And.intro ce_203 (And.intro (h.2 q5).1 (And.intro rfl (?_)))))))))))
    show sg_Wp 200 228 (d + 2) m_M_sheet 77 [(0, 2, 200), (1, 0, v1), (3, 0, v3), (4, 0, sg_iadd v4 1)] [] (sg_up G 203 (sg_iadd (sg_imul 60 v1) v4) 0) Q
    refine sg_goto (off := -22) (tgt := 55) (by decide +kernel) (by decide) ?_
    exact (h.2 q5).2
set_option maxRecDepth 100000 in
theorem g_M_type_0 {d : Nat} {v1 v2 : Int} {G : SgM} {Q : Int → SgM → Prop} (h : ((0 ≤ v1 ∧ v1 ≤ 1) → (((0 ≤ v2 ∧ v2 ≤ 255) → ((0 ≤ v1 ∧ v1 < 2) ∧ ((v1 ≠ 0 → (((G 206 v1) ≠ 29 → ((0 ≤ v1 ∧ v1 < 2) ∧ (0 ≤ (sg_iadd (sg_imul 32 v1) (G 206 v1)) ∧ (sg_iadd (sg_imul 32 v1) (G 206 v1)) < 64) ∧ (0 ≤ v1 ∧ v1 < 2) ∧ (0 ≤ v1 ∧ v1 < 2) ∧ (0 ≤ v1 ∧ v1 < 2) ∧ (Q ((sg_up (sg_up G 205 (sg_iadd (sg_imul 32 v1) (G 206 v1)) v2) 206 v1 (sg_iadd (G 206 v1) 1)) 206 v1) (sg_up (sg_up G 205 (sg_iadd (sg_imul 32 v1) (G 206 v1)) v2) 206 v1 (sg_iadd (G 206 v1) 1))))) ∧ (¬ ((G 206 v1) ≠ 29) → (Q ((-4)) G)))) ∧ (¬ (v1 ≠ 0) → (((G 206 v1) ≠ 23 → ((0 ≤ v1 ∧ v1 < 2) ∧ (0 ≤ (sg_iadd (sg_imul 32 v1) (G 206 v1)) ∧ (sg_iadd (sg_imul 32 v1) (G 206 v1)) < 64) ∧ (0 ≤ v1 ∧ v1 < 2) ∧ (0 ≤ v1 ∧ v1 < 2) ∧ (0 ≤ v1 ∧ v1 < 2) ∧ (Q ((sg_up (sg_up G 205 (sg_iadd (sg_imul 32 v1) (G 206 v1)) v2) 206 v1 (sg_iadd (G 206 v1) 1)) 206 v1) (sg_up (sg_up G 205 (sg_iadd (sg_imul 32 v1) (G 206 v1)) v2) 206 v1 (sg_iadd (G 206 v1) 1))))) ∧ (¬ ((G 206 v1) ≠ 23) → (Q ((-4)) G))))))) ∧ (¬ (0 ≤ v2 ∧ v2 ≤ 255) → (Q ((-2)) G)))) ∧ (¬ (0 ≤ v1 ∧ v1 ≤ 1) → (Q ((-2)) G))) : sg_Wp 200 228 (d + 2) m_M_type 0 [(0, 2, 200), (1, 0, v1), (2, 0, v2)] [] G Q := by
  refine sg_blk [(3, 0, 0, 1, 0)] (by decide +kernel) ?_
  refine And.intro rfl (?_)
  show sg_Wp 200 228 (d + 2) m_M_type 1 [(0, 2, 200), (1, 0, v1), (2, 0, v2)] [(0, v1)] G Q
  refine sg_callS (k := (d + 1)) (y' := m_M_isTwo) (av := [(0, v1)]) (rest := []) (by decide +kernel) cs_M_isTwo ml_11_126 rfl (Nat.le_of_ble_eq_true rfl) (Nat.lt_succ_self (d + 1)) (Nat.le_of_ble_eq_true rfl) rfl ?_
  show sg_Wp 200 228 (d + 1) m_M_isTwo 0 [(0, 0, v1)] [] G _
  refine s_M_isTwo ?_
  show sg_Wp 200 228 (d + 2) m_M_type 4 [(0, 2, 200), (1, 0, v1), (2, 0, v2)] [(0, sg_bo (0 ≤ v1 ∧ v1 ≤ 1))] G Q
  refine sg_bif_eq (off := 15) (tgt := 19) (by decide +kernel) (by decide) ⟨fun q5 => ?_, fun q5 => ?_⟩
  · refine sg_blk [(3, 0, 0, 2, 0), (53, 0, 0, 0, 0), (10, 0, 0, 0, 0), (12, 255, 0, 129, 0)] (by decide +kernel) ?_
    refine And.intro rfl (And.intro rfl (?_))
    show sg_Wp 200 228 (d + 2) m_M_type 13 [(0, 2, 200), (1, 0, v1), (2, 0, v2)] [(1, 255), (1, 0), (1, v2)] G Q
    refine sg_callS (k := (d + 1)) (y' := m_M_in) (av := [(1, v2), (1, 0), (1, 255)]) (rest := []) (by decide +kernel) cs_M_in ml_11_98 rfl (Nat.le_of_ble_eq_true rfl) (Nat.lt_succ_self (d + 1)) (Nat.le_of_ble_eq_true rfl) rfl ?_
    show sg_Wp 200 228 (d + 1) m_M_in 0 [(0, 1, v2), (2, 1, 0), (4, 1, 255)] [] G _
    refine s_M_in ?_
    show sg_Wp 200 228 (d + 2) m_M_type 16 [(0, 2, 200), (1, 0, v1), (2, 0, v2)] [(0, sg_bo (0 ≤ v2 ∧ v2 ≤ 255))] G Q
    refine sg_bif_ne (off := 6) (tgt := 22) (by decide +kernel) (by decide) ⟨fun q4 => ?_, fun q4 => ?_⟩
    · refine sg_blk [(1, 0, 0, 0, 0), (65, 206, 11, 25, 6), (3, 0, 0, 1, 0), (17, 2, 0, 0, 0), (3, 0, 0, 1, 0)] (by decide +kernel) ?_
      refine And.intro (Nat.le_of_ble_eq_true rfl) (And.intro ce_200 (And.intro rr_200_6 (And.intro rfl (And.intro ce_206 (And.intro ((h.1 q5).1 q4).1 (And.intro rfl (?_)))))))
      show sg_Wp 200 228 (d + 2) m_M_type 29 [(0, 2, 200), (1, 0, v1), (2, 0, v2)] [(0, v1), (0, G 206 v1)] G Q
      refine sg_if_ne (off := 8) (tgt := 37) (by decide +kernel) (by decide) ⟨fun q3 => ?_, fun q3 => ?_⟩
      · refine sg_blk [(8, 29, 0, 0, 0)] (by decide +kernel) ?_
        refine And.intro rfl (And.intro rfl (?_))
        show sg_Wp 200 228 (d + 2) m_M_type 39 [(0, 2, 200), (1, 0, v1), (2, 0, v2)] [(0, 29), (0, G 206 v1)] G Q
        refine sg_icmp_ne (off := 6) (tgt := 45) (by decide +kernel) (by decide) ⟨fun q1 => ?_, fun q1 => ?_⟩
        · refine sg_blk [(1, 0, 0, 0, 0), (65, 205, 11, 22, 5), (8, 32, 0, 0, 0), (3, 0, 0, 1, 0), (34, 0, 0, 0, 0), (1, 0, 0, 0, 0), (65, 206, 11, 25, 6), (3, 0, 0, 1, 0), (17, 2, 0, 0, 0), (32, 0, 0, 0, 0), (3, 0, 0, 2, 0), (18, 64, 0, 0, 0), (1, 0, 0, 0, 0), (65, 206, 11, 25, 6), (3, 0, 0, 1, 0), (58, 0, 0, 0, 0), (17, 2, 0, 0, 0), (7, 1, 0, 0, 0), (32, 0, 0, 0, 0), (18, 2, 0, 0, 0), (1, 0, 0, 0, 0), (65, 206, 11, 25, 6), (3, 0, 0, 1, 0), (17, 2, 0, 0, 0)] (by decide +kernel) ?_
          refine And.intro (Nat.le_of_ble_eq_true rfl) (And.intro ce_200 (And.intro rr_200_5 (And.intro rfl (And.intro rfl (And.intro rfl (And.intro (Nat.le_of_ble_eq_true rfl) (And.intro ce_200 (And.intro rr_200_6 (And.intro rfl (And.intro ce_206 (And.intro ((((h.1 q5).1 q4).2.1 q3).1 q1).1 (And.intro rfl (And.intro ce_205 (And.intro ((((h.1 q5).1 q4).2.1 q3).1 q1).2.1 (And.intro (Nat.le_of_ble_eq_true rfl) (And.intro ce_200 (And.intro rr_200_6 (And.intro rfl (And.intro (And.intro (Nat.ne_of_beq_eq_false rfl) (Nat.ne_of_beq_eq_false rfl)) (And.intro ce_206 (And.intro ((((h.1 q5).1 q4).2.1 q3).1 q1).2.2.1 (And.intro rfl (And.intro ce_206 (And.intro ((((h.1 q5).1 q4).2.1 q3).1 q1).2.2.2.1 (And.intro (Nat.le_of_ble_eq_true rfl) (And.intro ce_200 (And.intro rr_200_6 (And.intro rfl (And.intro ce_206 (And.intro ((((h.1 q5).1 q4).2.1 q3).1 q1).2.2.2.2.1 (?_)))))))))))))))))))))))))))))))
          show sg_Wp 200 228 (d + 2) m_M_type 78 [(0, 2, 200), (1, 0, v1), (2, 0, v2)] [(0, (sg_up (sg_up G 205 (sg_iadd (sg_imul 32 v1) (G 206 v1)) v2) 206 v1 (sg_iadd (G 206 v1) 1)) 206 v1)] (sg_up (sg_up G 205 (sg_iadd (sg_imul 32 v1) (G 206 v1)) v2) 206 v1 (sg_iadd (G 206 v1) 1)) Q
          exact sg_ret (by decide +kernel) rfl (Or.inl rfl) (((((h.1 q5).1 q4).2.1 q3).1 q1).2.2.2.2.2)
        · refine sg_blk [(8, (-4), 0, 0, 0)] (by decide +kernel) ?_
          refine And.intro rfl (And.intro rfl (?_))
          show sg_Wp 200 228 (d + 2) m_M_type 44 [(0, 2, 200), (1, 0, v1), (2, 0, v2)] [(0, (-4))] G Q
          exact sg_ret (by decide +kernel) rfl (Or.inl rfl) (((((h.1 q5).1 q4).2.1 q3).2 q1))
      · refine sg_blk [(8, 23, 0, 0, 0)] (by decide +kernel) ?_
        refine And.intro rfl (And.intro rfl (?_))
        show sg_Wp 200 228 (d + 2) m_M_type 34 [(0, 2, 200), (1, 0, v1), (2, 0, v2)] [(0, 23), (0, G 206 v1)] G Q
        refine sg_goto (off := 5) (tgt := 39) (by decide +kernel) (by decide) ?_
        refine sg_icmp_ne (off := 6) (tgt := 45) (by decide +kernel) (by decide) ⟨fun q2 => ?_, fun q2 => ?_⟩
        · refine sg_blk [(1, 0, 0, 0, 0), (65, 205, 11, 22, 5), (8, 32, 0, 0, 0), (3, 0, 0, 1, 0), (34, 0, 0, 0, 0), (1, 0, 0, 0, 0), (65, 206, 11, 25, 6), (3, 0, 0, 1, 0), (17, 2, 0, 0, 0), (32, 0, 0, 0, 0), (3, 0, 0, 2, 0), (18, 64, 0, 0, 0), (1, 0, 0, 0, 0), (65, 206, 11, 25, 6), (3, 0, 0, 1, 0), (58, 0, 0, 0, 0), (17, 2, 0, 0, 0), (7, 1, 0, 0, 0), (32, 0, 0, 0, 0), (18, 2, 0, 0, 0), (1, 0, 0, 0, 0), (65, 206, 11, 25, 6), (3, 0, 0, 1, 0), (17, 2, 0, 0, 0)] (by decide +kernel) ?_
          refine And.intro (Nat.le_of_ble_eq_true rfl) (And.intro ce_200 (And.intro rr_200_5 (And.intro rfl (And.intro rfl (And.intro rfl (And.intro (Nat.le_of_ble_eq_true rfl) (And.intro ce_200 (And.intro rr_200_6 (And.intro rfl (And.intro ce_206 (And.intro ((((h.1 q5).1 q4).2.2 q3).1 q2).1 (And.intro rfl (And.intro ce_205 (And.intro ((((h.1 q5).1 q4).2.2 q3).1 q2).2.1 (And.intro (Nat.le_of_ble_eq_true rfl) (And.intro ce_200 (And.intro rr_200_6 (And.intro rfl (And.intro (And.intro (Nat.ne_of_beq_eq_false rfl) (Nat.ne_of_beq_eq_false rfl)) (And.intro ce_206 (And.intro ((((h.1 q5).1 q4).2.2 q3).1 q2).2.2.1 (And.intro rfl (And.intro ce_206 (And.intro ((((h.1 q5).1 q4).2.2 q3).1 q2).2.2.2.1 (And.intro (Nat.le_of_ble_eq_true rfl) (And.intro ce_200 (And.intro rr_200_6 (And.intro rfl (And.intro ce_206 (And.intro ((((h.1 q5).1 q4).2.2 q3).1 q2).2.2.2.2.1 (?_)))))))))))))))))))))))))))))))
          show sg_Wp 200 228 (d + 2) m_M_type 78 [(0, 2, 200), (1, 0, v1), (2, 0, v2)] [(0, (sg_up (sg_up G 205 (sg_iadd (sg_imul 32 v1) (G 206 v1)) v2) 206 v1 (sg_iadd (G 206 v1) 1)) 206 v1)] (sg_up (sg_up G 205 (sg_iadd (sg_imul 32 v1) (G 206 v1)) v2) 206 v1 (sg_iadd (G 206 v1) 1)) Q
          exact sg_ret (by decide +kernel) rfl (Or.inl rfl) (((((h.1 q5).1 q4).2.2 q3).1 q2).2.2.2.2.2)
        · refine sg_blk [(8, (-4), 0, 0, 0)] (by decide +kernel) ?_
          refine And.intro rfl (And.intro rfl (?_))
          show sg_Wp 200 228 (d + 2) m_M_type 44 [(0, 2, 200), (1, 0, v1), (2, 0, v2)] [(0, (-4))] G Q
          exact sg_ret (by decide +kernel) rfl (Or.inl rfl) (((((h.1 q5).1 q4).2.2 q3).2 q2))
    · refine sg_blk [(8, (-2), 0, 0, 0)] (by decide +kernel) ?_
      refine And.intro rfl (And.intro rfl (?_))
      show sg_Wp 200 228 (d + 2) m_M_type 21 [(0, 2, 200), (1, 0, v1), (2, 0, v2)] [(0, (-2))] G Q
      exact sg_ret (by decide +kernel) rfl (Or.inl rfl) (((h.1 q5).2 q4))
  · refine sg_blk [(8, (-2), 0, 0, 0)] (by decide +kernel) ?_
    refine And.intro rfl (And.intro rfl (?_))
    show sg_Wp 200 228 (d + 2) m_M_type 21 [(0, 2, 200), (1, 0, v1), (2, 0, v2)] [(0, (-2))] G Q
    exact sg_ret (by decide +kernel) rfl (Or.inl rfl) ((h.2 q5))
set_option maxRecDepth 100000 in
theorem g_M_undo_0 {d : Nat} {v1 : Int} {G : SgM} {Q : Int → SgM → Prop} (h : ((0 ≤ v1 ∧ v1 ≤ 1) → ((0 ≤ v1 ∧ v1 < 2) ∧ (((G 206 v1) ≠ 0 → ((0 ≤ v1 ∧ v1 < 2) ∧ (0 ≤ v1 ∧ v1 < 2) ∧ (0 ≤ v1 ∧ v1 < 2) ∧ (Q ((sg_up G 206 v1 (sg_isub (G 206 v1) 1)) 206 v1) (sg_up G 206 v1 (sg_isub (G 206 v1) 1))))) ∧ (¬ ((G 206 v1) ≠ 0) → (Q ((-3)) G))))) ∧ (¬ (0 ≤ v1 ∧ v1 ≤ 1) → (Q ((-2)) G))) : sg_Wp 200 228 (d + 2) m_M_undo 0 [(0, 2, 200), (1, 0, v1)] [] G Q := by
  refine sg_blk [(3, 0, 0, 1, 0)] (by decide +kernel) ?_
  refine And.intro rfl (?_)
  show sg_Wp 200 228 (d + 2) m_M_undo 1 [(0, 2, 200), (1, 0, v1)] [(0, v1)] G Q
  refine sg_callS (k := (d + 1)) (y' := m_M_isTwo) (av := [(0, v1)]) (rest := []) (by decide +kernel) cs_M_isTwo ml_11_126 rfl (Nat.le_of_ble_eq_true rfl) (Nat.lt_succ_self (d + 1)) (Nat.le_of_ble_eq_true rfl) rfl ?_
  show sg_Wp 200 228 (d + 1) m_M_isTwo 0 [(0, 0, v1)] [] G _
  refine s_M_isTwo ?_
  show sg_Wp 200 228 (d + 2) m_M_undo 4 [(0, 2, 200), (1, 0, v1)] [(0, sg_bo (0 ≤ v1 ∧ v1 ≤ 1))] G Q
  refine sg_bif_ne (off := 6) (tgt := 10) (by decide +kernel) (by decide) ⟨fun q2 => ?_, fun q2 => ?_⟩
  · refine sg_blk [(1, 0, 0, 0, 0), (65, 206, 11, 25, 6), (3, 0, 0, 1, 0), (17, 2, 0, 0, 0)] (by decide +kernel) ?_
    refine And.intro (Nat.le_of_ble_eq_true rfl) (And.intro ce_200 (And.intro rr_200_6 (And.intro rfl (And.intro ce_206 (And.intro (h.1 q2).1 (?_))))))
    show sg_Wp 200 228 (d + 2) m_M_undo 16 [(0, 2, 200), (1, 0, v1)] [(0, G 206 v1)] G Q
    refine sg_if_ne (off := 6) (tgt := 22) (by decide +kernel) (by decide) ⟨fun q1 => ?_, fun q1 => ?_⟩
    · refine sg_blk [(1, 0, 0, 0, 0), (65, 206, 11, 25, 6), (3, 0, 0, 1, 0), (58, 0, 0, 0, 0), (17, 2, 0, 0, 0), (7, 1, 0, 0, 0), (33, 0, 0, 0, 0), (18, 2, 0, 0, 0), (1, 0, 0, 0, 0), (65, 206, 11, 25, 6), (3, 0, 0, 1, 0), (17, 2, 0, 0, 0)] (by decide +kernel) ?_
      refine And.intro (Nat.le_of_ble_eq_true rfl) (And.intro ce_200 (And.intro rr_200_6 (And.intro rfl (And.intro (And.intro (Nat.ne_of_beq_eq_false rfl) (Nat.ne_of_beq_eq_false rfl)) (And.intro ce_206 (And.intro ((h.1 q2).2.1 q1).1 (And.intro rfl (And.intro ce_206 (And.intro ((h.1 q2).2.1 q1).2.1 (And.intro (Nat.le_of_ble_eq_true rfl) (And.intro ce_200 (And.intro rr_200_6 (And.intro rfl (And.intro ce_206 (And.intro ((h.1 q2).2.1 q1).2.2.1 (?_))))))))))))))))
      show sg_Wp 200 228 (d + 2) m_M_undo 38 [(0, 2, 200), (1, 0, v1)] [(0, (sg_up G 206 v1 (sg_isub (G 206 v1) 1)) 206 v1)] (sg_up G 206 v1 (sg_isub (G 206 v1) 1)) Q
      exact sg_ret (by decide +kernel) rfl (Or.inl rfl) (((h.1 q2).2.1 q1).2.2.2)
    · refine sg_blk [(8, (-3), 0, 0, 0)] (by decide +kernel) ?_
      refine And.intro rfl (And.intro rfl (?_))
      show sg_Wp 200 228 (d + 2) m_M_undo 21 [(0, 2, 200), (1, 0, v1)] [(0, (-3))] G Q
      exact sg_ret (by decide +kernel) rfl (Or.inl rfl) (((h.1 q2).2.2 q1))
  · refine sg_blk [(8, (-2), 0, 0, 0)] (by decide +kernel) ?_
    refine And.intro rfl (And.intro rfl (?_))
    show sg_Wp 200 228 (d + 2) m_M_undo 9 [(0, 2, 200), (1, 0, v1)] [(0, (-2))] G Q
    exact sg_ret (by decide +kernel) rfl (Or.inl rfl) ((h.2 q2))
set_option maxRecDepth 100000 in
theorem g_M_wipe_0 {d : Nat} {v1 : Int} {G : SgM} {Q : Int → SgM → Prop} (h : ((0 ≤ v1 ∧ v1 ≤ 1) → ((0 ≤ v1 ∧ v1 < 2) ∧ (0 ≤ v1 ∧ v1 < 2) ∧ (Q (G 206 v1) (sg_up G 206 v1 0)))) ∧ (¬ (0 ≤ v1 ∧ v1 ≤ 1) → (Q ((-2)) G))) : sg_Wp 200 228 (d + 2) m_M_wipe 0 [(0, 2, 200), (1, 0, v1)] [] G Q := by
  refine sg_blk [(3, 0, 0, 1, 0)] (by decide +kernel) ?_
  refine And.intro rfl (?_)
  show sg_Wp 200 228 (d + 2) m_M_wipe 1 [(0, 2, 200), (1, 0, v1)] [(0, v1)] G Q
  refine sg_callS (k := (d + 1)) (y' := m_M_isTwo) (av := [(0, v1)]) (rest := []) (by decide +kernel) cs_M_isTwo ml_11_126 rfl (Nat.le_of_ble_eq_true rfl) (Nat.lt_succ_self (d + 1)) (Nat.le_of_ble_eq_true rfl) rfl ?_
  show sg_Wp 200 228 (d + 1) m_M_isTwo 0 [(0, 0, v1)] [] G _
  refine s_M_isTwo ?_
  show sg_Wp 200 228 (d + 2) m_M_wipe 4 [(0, 2, 200), (1, 0, v1)] [(0, sg_bo (0 ≤ v1 ∧ v1 ≤ 1))] G Q
  refine sg_bif_ne (off := 6) (tgt := 10) (by decide +kernel) (by decide) ⟨fun q1 => ?_, fun q1 => ?_⟩
  · refine sg_blk [(1, 0, 0, 0, 0), (65, 206, 11, 25, 6), (3, 0, 0, 1, 0), (17, 2, 0, 0, 0), (25, 0, 0, 2, 0), (1, 0, 0, 0, 0), (65, 206, 11, 25, 6), (3, 0, 0, 1, 0), (7, 0, 0, 0, 0), (18, 2, 0, 0, 0), (3, 0, 0, 2, 0)] (by decide +kernel) ?_
    refine And.intro (Nat.le_of_ble_eq_true rfl) (And.intro ce_200 (And.intro rr_200_6 (And.intro rfl (And.intro ce_206 (And.intro (h.1 q1).1 (And.intro rfl (And.intro (Nat.le_of_ble_eq_true rfl) (And.intro ce_200 (And.intro rr_200_6 (And.intro rfl (And.intro rfl (And.intro ce_206 (And.intro (h.1 q1).2.1 (And.intro rfl (?_)))))))))))))))
    show sg_Wp 200 228 (d + 2) m_M_wipe 25 [(0, 2, 200), (1, 0, v1), (2, 0, G 206 v1)] [(0, G 206 v1)] (sg_up G 206 v1 0) Q
    exact sg_ret (by decide +kernel) rfl (Or.inl rfl) ((h.1 q1).2.2)
  · refine sg_blk [(8, (-2), 0, 0, 0)] (by decide +kernel) ?_
    refine And.intro rfl (And.intro rfl (?_))
    show sg_Wp 200 228 (d + 2) m_M_wipe 9 [(0, 2, 200), (1, 0, v1)] [(0, (-2))] G Q
    exact sg_ret (by decide +kernel) rfl (Or.inl rfl) ((h.2 q1))
