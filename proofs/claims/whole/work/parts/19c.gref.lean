/-! CUT LEMMAS, printed by a program -/
set_option maxRecDepth 100000 in
theorem g_M_all_0 {d : Nat} {G : SgM} {Q : Int → SgM → Prop} (h : sg_Wp 200 228 d m_M_find 0 [(0, 2, 200)] [] G (fun r1 G1 => sg_Wp 200 228 d m_M_allNow 0 [(0, 2, 200)] [] G1 (fun r2 G2 => Q r2 G2))) : sg_Wp 200 228 (d + 1) m_M_all 0 [(0, 2, 200)] [] G Q := by
  refine sg_blk [(1, 0, 0, 0, 0)] (by decide +kernel) ?_
  refine And.intro (Nat.le_of_ble_eq_true rfl) (?_)
  show sg_Wp 200 228 (d + 1) m_M_all 1 [(0, 2, 200)] [(2, 200)] G Q
  refine sg_callV (k := d) (y' := m_M_find) (av := []) (rest := []) (b := 200) (by decide +kernel) cv_M_find ml_11_217 ce_200 rfl rfl (Nat.le_of_ble_eq_true rfl) (Nat.lt_succ_self d) (Nat.le_of_ble_eq_true rfl) rfl ?_
  show sg_Wp 200 228 d m_M_find 0 [(0, 2, 200)] [] G _
  refine sg_Wp.mono h (fun r1 G1 hhr1 => ?_)
  show sg_Wp 200 228 (d + 1) m_M_all 4 [(0, 2, 200)] [] G1 Q
  refine sg_blk [(1, 0, 0, 0, 0)] (by decide +kernel) ?_
  refine And.intro (Nat.le_of_ble_eq_true rfl) (?_)
  show sg_Wp 200 228 (d + 1) m_M_all 5 [(0, 2, 200)] [(2, 200)] G1 Q
  refine sg_callV (k := d) (y' := m_M_allNow) (av := []) (rest := []) (b := 200) (by decide +kernel) cv_M_allNow ml_11_238 ce_200 rfl rfl (Nat.le_of_ble_eq_true rfl) (Nat.lt_succ_self d) (Nat.le_of_ble_eq_true rfl) rfl ?_
  show sg_Wp 200 228 d m_M_allNow 0 [(0, 2, 200)] [] G1 _
  refine sg_Wp.mono hhr1 (fun r2 G2 hhr2 => ?_)
  show sg_Wp 200 228 (d + 1) m_M_all 8 [(0, 2, 200)] [(0, r2)] G2 Q
  exact sg_ret (by decide +kernel) rfl (Or.inl rfl) hhr2
set_option maxRecDepth 100000 in
theorem g_M_allNow_0 {d : Nat} {G : SgM} {Q : Int → SgM → Prop} (h : sg_Wp 200 228 d m_M_allNow 4 [(0, 2, 200), (1, 0, 0), (2, 0, 0)] [] G Q) : sg_Wp 200 228 d m_M_allNow 0 [(0, 2, 200)] [] G Q := by
  refine sg_blk [(7, 0, 0, 0, 0), (25, 0, 0, 1, 0), (7, 0, 0, 0, 0), (25, 0, 0, 2, 0)] (by decide +kernel) ?_
  refine And.intro rfl (And.intro rfl (And.intro rfl (And.intro rfl (?_))))
  show sg_Wp 200 228 d m_M_allNow 4 [(0, 2, 200), (1, 0, 0), (2, 0, 0)] [] G Q
  exact h
set_option maxRecDepth 100000 in
theorem g_M_allNow_4 {d : Nat} {v1 v2 : Int} {G : SgM} {Q : Int → SgM → Prop} (h : ((G 200 7) ≤ v2 → (Q v1 G)) ∧ (¬ ((G 200 7) ≤ v2) → ((0 ≤ v2 ∧ v2 < 8) ∧ (sg_Wp 200 228 d m_M_allNow 4 [(0, 2, 200), (1, 0, sg_iadd v1 (G 217 v2)), (2, 0, sg_iadd v2 1)] [] G Q)))) : sg_Wp 200 228 d m_M_allNow 4 [(0, 2, 200), (1, 0, v1), (2, 0, v2)] [] G Q := by
  refine sg_blk [(3, 0, 0, 2, 0), (1, 0, 0, 0, 0), (15, 0, 11, 134, 7)] (by decide +kernel) ?_
  refine And.intro rfl (And.intro (Nat.le_of_ble_eq_true rfl) (And.intro ce_200 (?_)))
  show sg_Wp 200 228 d m_M_allNow 9 [(0, 2, 200), (1, 0, v1), (2, 0, v2)] [(0, G 200 7), (0, v2)] G Q
  refine sg_icmp_ge (off := 18) (tgt := 27) (by decide +kernel) (by decide) ⟨fun q1 => ?_, fun q1 => ?_⟩
  · refine sg_blk [(3, 0, 0, 1, 0)] (by decide +kernel) ?_
    refine And.intro rfl (?_)
    show sg_Wp 200 228 d m_M_allNow 28 [(0, 2, 200), (1, 0, v1), (2, 0, v2)] [(0, v1)] G Q
    exact sg_ret (by decide +kernel) rfl (Or.inl rfl) ((h.1 q1))
  · refine sg_blk [(3, 0, 0, 1, 0), (1, 0, 0, 0, 0), (65, 217, 11, 59, 24), (3, 0, 0, 2, 0), (17, 8, 0, 0, 0), (32, 0, 0, 0, 0), (25, 0, 0, 1, 0), (31, 1, 0, 2, 0)] (by decide +kernel) ?_
    refine And.intro rfl (And.intro (Nat.le_of_ble_eq_true rfl) (And.intro ce_200 (And.intro rr_200_24 (And.intro rfl (And.intro ce_217 (And.intro (h.2 q1).1 (And.intro rfl (And.intro rfl (?_)))))))))
    show sg_Wp 200 228 d m_M_allNow 24 [(0, 2, 200), (1, 0, sg_iadd v1 (G 217 v2)), (2, 0, sg_iadd v2 1)] [] G Q
    refine sg_goto (off := -20) (tgt := 4) (by decide +kernel) (by decide) ?_
    exact (h.2 q1).2
set_option maxRecDepth 100000 in
theorem g_M_busy_0 {d : Nat} {G : SgM} {Q : Int → SgM → Prop} (h : sg_Wp 200 228 d m_M_find 0 [(0, 2, 200)] [] G (fun r1 G1 => sg_Wp 200 228 d m_M_busyNow 0 [(0, 2, 200)] [] G1 (fun r2 G2 => Q r2 G2))) : sg_Wp 200 228 (d + 1) m_M_busy 0 [(0, 2, 200)] [] G Q := by
  refine sg_blk [(1, 0, 0, 0, 0)] (by decide +kernel) ?_
  refine And.intro (Nat.le_of_ble_eq_true rfl) (?_)
  show sg_Wp 200 228 (d + 1) m_M_busy 1 [(0, 2, 200)] [(2, 200)] G Q
  refine sg_callV (k := d) (y' := m_M_find) (av := []) (rest := []) (b := 200) (by decide +kernel) cv_M_find ml_11_217 ce_200 rfl rfl (Nat.le_of_ble_eq_true rfl) (Nat.lt_succ_self d) (Nat.le_of_ble_eq_true rfl) rfl ?_
  show sg_Wp 200 228 d m_M_find 0 [(0, 2, 200)] [] G _
  refine sg_Wp.mono h (fun r1 G1 hhr1 => ?_)
  show sg_Wp 200 228 (d + 1) m_M_busy 4 [(0, 2, 200)] [] G1 Q
  refine sg_blk [(1, 0, 0, 0, 0)] (by decide +kernel) ?_
  refine And.intro (Nat.le_of_ble_eq_true rfl) (?_)
  show sg_Wp 200 228 (d + 1) m_M_busy 5 [(0, 2, 200)] [(2, 200)] G1 Q
  refine sg_callV (k := d) (y' := m_M_busyNow) (av := []) (rest := []) (b := 200) (by decide +kernel) cv_M_busyNow ml_11_241 ce_200 rfl rfl (Nat.le_of_ble_eq_true rfl) (Nat.lt_succ_self d) (Nat.le_of_ble_eq_true rfl) rfl ?_
  show sg_Wp 200 228 d m_M_busyNow 0 [(0, 2, 200)] [] G1 _
  refine sg_Wp.mono hhr1 (fun r2 G2 hhr2 => ?_)
  show sg_Wp 200 228 (d + 1) m_M_busy 8 [(0, 2, 200)] [(0, r2)] G2 Q
  exact sg_ret (by decide +kernel) rfl (Or.inl rfl) hhr2
set_option maxRecDepth 100000 in
theorem g_M_busyNow_0 {d : Nat} {G : SgM} {Q : Int → SgM → Prop} (h : sg_Wp 200 228 (d + 1) m_M_busyNow 6 [(0, 2, 200), (1, 0, (-1)), (2, 0, 0), (3, 0, 0)] [] G Q) : sg_Wp 200 228 (d + 1) m_M_busyNow 0 [(0, 2, 200)] [] G Q := by
  refine sg_blk [(7, (-1), 0, 0, 0), (25, 0, 0, 1, 0), (7, 0, 0, 0, 0), (25, 0, 0, 2, 0), (7, 0, 0, 0, 0), (25, 0, 0, 3, 0)] (by decide +kernel) ?_
  refine And.intro rfl (And.intro rfl (And.intro rfl (And.intro rfl (And.intro rfl (And.intro rfl (?_))))))
  show sg_Wp 200 228 (d + 1) m_M_busyNow 6 [(0, 2, 200), (1, 0, (-1)), (2, 0, 0), (3, 0, 0)] [] G Q
  exact h
set_option maxRecDepth 100000 in
theorem g_M_busyNow_6 {d : Nat} {v1 v2 v3 : Int} {G : SgM} {Q : Int → SgM → Prop} (h : ((G 200 9) ≤ v3 → (Q v1 G)) ∧ (¬ ((G 200 9) ≤ v3) → ((0 ≤ v3 ∧ v3 < 6) ∧ (((G 215 v3) ≤ v2 → ((0 ≤ v3 ∧ v3 < 6) ∧ (sg_Wp 200 228 (d + 1) m_M_busyNow 6 [(0, 2, 200), (1, 0, v1), (2, 0, sg_grt (G 215 v3) v2), (3, 0, sg_iadd v3 1)] [] G Q))) ∧ (¬ ((G 215 v3) ≤ v2) → ((0 ≤ v3 ∧ v3 < 6) ∧ (sg_Wp 200 228 (d + 1) m_M_busyNow 6 [(0, 2, 200), (1, 0, v3), (2, 0, sg_grt (G 215 v3) v2), (3, 0, sg_iadd v3 1)] [] G Q))))))) : sg_Wp 200 228 (d + 1) m_M_busyNow 6 [(0, 2, 200), (1, 0, v1), (2, 0, v2), (3, 0, v3)] [] G Q := by
  refine sg_blk [(3, 0, 0, 3, 0), (1, 0, 0, 0, 0), (15, 0, 11, 140, 9)] (by decide +kernel) ?_
  refine And.intro rfl (And.intro (Nat.le_of_ble_eq_true rfl) (And.intro ce_200 (?_)))
  show sg_Wp 200 228 (d + 1) m_M_busyNow 11 [(0, 2, 200), (1, 0, v1), (2, 0, v2), (3, 0, v3)] [(0, G 200 9), (0, v3)] G Q
  refine sg_icmp_ge (off := 36) (tgt := 47) (by decide +kernel) (by decide) ⟨fun q2 => ?_, fun q2 => ?_⟩
  · refine sg_blk [(3, 0, 0, 1, 0)] (by decide +kernel) ?_
    refine And.intro rfl (?_)
    show sg_Wp 200 228 (d + 1) m_M_busyNow 48 [(0, 2, 200), (1, 0, v1), (2, 0, v2), (3, 0, v3)] [(0, v1)] G Q
    exact sg_ret (by decide +kernel) rfl (Or.inl rfl) ((h.1 q2))
  · refine sg_blk [(1, 0, 0, 0, 0), (65, 215, 11, 53, 22), (3, 0, 0, 3, 0), (17, 6, 0, 0, 0), (3, 0, 0, 2, 0)] (by decide +kernel) ?_
    refine And.intro (Nat.le_of_ble_eq_true rfl) (And.intro ce_200 (And.intro rr_200_22 (And.intro rfl (And.intro ce_215 (And.intro (h.2 q2).1 (And.intro rfl (?_)))))))
    show sg_Wp 200 228 (d + 1) m_M_busyNow 21 [(0, 2, 200), (1, 0, v1), (2, 0, v2), (3, 0, v3)] [(0, v2), (0, G 215 v3)] G Q
    refine sg_icmp_le (off := 7) (tgt := 28) (by decide +kernel) (by decide) ⟨fun q1 => ?_, fun q1 => ?_⟩
    · refine sg_blk [(3, 0, 0, 1, 0), (25, 0, 0, 1, 0), (1, 0, 0, 0, 0), (65, 215, 11, 53, 22), (3, 0, 0, 3, 0), (17, 6, 0, 0, 0), (3, 0, 0, 2, 0)] (by decide +kernel) ?_
      refine And.intro rfl (And.intro rfl (And.intro (Nat.le_of_ble_eq_true rfl) (And.intro ce_200 (And.intro rr_200_22 (And.intro rfl (And.intro ce_215 (And.intro ((h.2 q2).2.1 q1).1 (And.intro rfl (?_)))))))))
      show sg_Wp 200 228 (d + 1) m_M_busyNow 37 [(0, 2, 200), (1, 0, v1), (2, 0, v2), (3, 0, v3)] [(0, v2), (0, G 215 v3)] G Q
      refine sg_callS (k := d) (y' := m_M_greater) (av := [(0, G 215 v3), (0, v2)]) (rest := []) (by decide +kernel) cs_M_greater ml_11_232 rfl (Nat.le_of_ble_eq_true rfl) (Nat.lt_succ_self d) (Nat.le_of_ble_eq_true rfl) rfl ?_
      show sg_Wp 200 228 d m_M_greater 0 [(0, 0, G 215 v3), (1, 0, v2)] [] G _
      refine s_M_greater ?_
      show sg_Wp 200 228 (d + 1) m_M_busyNow 40 [(0, 2, 200), (1, 0, v1), (2, 0, v2), (3, 0, v3)] [(0, sg_grt (G 215 v3) v2)] G Q
      refine sg_blk [(25, 0, 0, 2, 0), (31, 1, 0, 3, 0)] (by decide +kernel) ?_
      refine And.intro rfl (And.intro rfl (?_))
      show sg_Wp 200 228 (d + 1) m_M_busyNow 44 [(0, 2, 200), (1, 0, v1), (2, 0, sg_grt (G 215 v3) v2), (3, 0, sg_iadd v3 1)] [] G Q
      refine sg_goto (off := -38) (tgt := 6) (by decide +kernel) (by decide) ?_
      exact ((h.2 q2).2.1 q1).2
    · refine sg_blk [(3, 0, 0, 3, 0)] (by decide +kernel) ?_
      refine And.intro rfl (?_)
      show sg_Wp 200 228 (d + 1) m_M_busyNow 25 [(0, 2, 200), (1, 0, v1), (2, 0, v2), (3, 0, v3)] [(0, v3)] G Q
      refine sg_goto (off := 4) (tgt := 29) (by decide +kernel) (by decide) ?_
      refine sg_blk [(25, 0, 0, 1, 0), (1, 0, 0, 0, 0), (65, 215, 11, 53, 22), (3, 0, 0, 3, 0), (17, 6, 0, 0, 0), (3, 0, 0, 2, 0)] (by decide +kernel) ?_
      refine And.intro rfl (And.intro (Nat.le_of_ble_eq_true rfl) (And.intro ce_200 (And.intro rr_200_22 (And.intro rfl (And.intro ce_215 (And.intro ((h.2 q2).2.2 q1).1 (And.intro rfl (?_))))))))
      show sg_Wp 200 228 (d + 1) m_M_busyNow 37 [(0, 2, 200), (1, 0, v3), (2, 0, v2), (3, 0, v3)] [(0, v2), (0, G 215 v3)] G Q
      refine sg_callS (k := d) (y' := m_M_greater) (av := [(0, G 215 v3), (0, v2)]) (rest := []) (by decide +kernel) cs_M_greater ml_11_232 rfl (Nat.le_of_ble_eq_true rfl) (Nat.lt_succ_self d) (Nat.le_of_ble_eq_true rfl) rfl ?_
      show sg_Wp 200 228 d m_M_greater 0 [(0, 0, G 215 v3), (1, 0, v2)] [] G _
      refine s_M_greater ?_
      show sg_Wp 200 228 (d + 1) m_M_busyNow 40 [(0, 2, 200), (1, 0, v3), (2, 0, v2), (3, 0, v3)] [(0, sg_grt (G 215 v3) v2)] G Q
      refine sg_blk [(25, 0, 0, 2, 0), (31, 1, 0, 3, 0)] (by decide +kernel) ?_
      refine And.intro rfl (And.intro rfl (?_))
      show sg_Wp 200 228 (d + 1) m_M_busyNow 44 [(0, 2, 200), (1, 0, v3), (2, 0, sg_grt (G 215 v3) v2), (3, 0, sg_iadd v3 1)] [] G Q
      refine sg_goto (off := -38) (tgt := 6) (by decide +kernel) (by decide) ?_
      exact ((h.2 q2).2.2 q1).2
set_option maxRecDepth 100000 in
theorem g_M_changes_0 {d : Nat} {v1 : Int} {G : SgM} {Q : Int → SgM → Prop} (h : sg_Wp 200 228 (d + 1) m_M_find 0 [(0, 2, 200)] [] G (fun r1 G1 => ((0 ≤ v1 ∧ v1 ≤ 23) → (sg_Wp 200 228 (d + 1) m_M_changesIn 0 [(0, 2, 200), (1, 0, v1)] [] G1 (fun r2 G2 => Q r2 G2))) ∧ (¬ (0 ≤ v1 ∧ v1 ≤ 23) → (Q ((-2)) G1)))) : sg_Wp 200 228 (d + 2) m_M_changes 0 [(0, 2, 200), (1, 0, v1)] [] G Q := by
  refine sg_blk [(1, 0, 0, 0, 0)] (by decide +kernel) ?_
  refine And.intro (Nat.le_of_ble_eq_true rfl) (?_)
  show sg_Wp 200 228 (d + 2) m_M_changes 1 [(0, 2, 200), (1, 0, v1)] [(2, 200)] G Q
  refine sg_callV (k := (d + 1)) (y' := m_M_find) (av := []) (rest := []) (b := 200) (by decide +kernel) cv_M_find ml_11_217 ce_200 rfl rfl (Nat.le_of_ble_eq_true rfl) (Nat.lt_succ_self (d + 1)) (Nat.le_of_ble_eq_true rfl) rfl ?_
  show sg_Wp 200 228 (d + 1) m_M_find 0 [(0, 2, 200)] [] G _
  refine sg_Wp.mono h (fun r1 G1 hhr1 => ?_)
  show sg_Wp 200 228 (d + 2) m_M_changes 4 [(0, 2, 200), (1, 0, v1)] [] G1 Q
  refine sg_blk [(3, 0, 0, 1, 0)] (by decide +kernel) ?_
  refine And.intro rfl (?_)
  show sg_Wp 200 228 (d + 2) m_M_changes 5 [(0, 2, 200), (1, 0, v1)] [(0, v1)] G1 Q
  refine sg_callS (k := (d + 1)) (y' := m_M_isHour) (av := [(0, v1)]) (rest := []) (by decide +kernel) cs_M_isHour ml_11_167 rfl (Nat.le_of_ble_eq_true rfl) (Nat.lt_succ_self (d + 1)) (Nat.le_of_ble_eq_true rfl) rfl ?_
  show sg_Wp 200 228 (d + 1) m_M_isHour 0 [(0, 0, v1)] [] G1 _
  refine s_M_isHour ?_
  show sg_Wp 200 228 (d + 2) m_M_changes 8 [(0, 2, 200), (1, 0, v1)] [(0, sg_bo (0 ≤ v1 ∧ v1 ≤ 23))] G1 Q
  refine sg_bif_eq (off := 11) (tgt := 19) (by decide +kernel) (by decide) ⟨fun q1 => ?_, fun q1 => ?_⟩
  · refine sg_blk [(1, 0, 0, 0, 0), (3, 0, 0, 1, 0)] (by decide +kernel) ?_
    refine And.intro (Nat.le_of_ble_eq_true rfl) (And.intro rfl (?_))
    show sg_Wp 200 228 (d + 2) m_M_changes 13 [(0, 2, 200), (1, 0, v1)] [(0, v1), (2, 200)] G1 Q
    refine sg_callV (k := (d + 1)) (y' := m_M_changesIn) (av := [(0, v1)]) (rest := []) (b := 200) (by decide +kernel) cv_M_changesIn ml_11_226 ce_200 rfl rfl (Nat.le_of_ble_eq_true rfl) (Nat.lt_succ_self (d + 1)) (Nat.le_of_ble_eq_true rfl) rfl ?_
    show sg_Wp 200 228 (d + 1) m_M_changesIn 0 [(0, 2, 200), (1, 0, v1)] [] G1 _
    refine sg_Wp.mono ((hhr1.1 q1)) (fun r2 G2 hhr2 => ?_)
    show sg_Wp 200 228 (d + 2) m_M_changes 16 [(0, 2, 200), (1, 0, v1)] [(0, r2)] G2 Q
    refine sg_goto (off := 5) (tgt := 21) (by decide +kernel) (by decide) ?_
    exact sg_ret (by decide +kernel) rfl (Or.inl rfl) hhr2
  · refine sg_blk [(8, (-2), 0, 0, 0)] (by decide +kernel) ?_
    refine And.intro rfl (And.intro rfl (?_))
    show sg_Wp 200 228 (d + 2) m_M_changes 21 [(0, 2, 200), (1, 0, v1)] [(0, (-2))] G1 Q
    exact sg_ret (by decide +kernel) rfl (Or.inl rfl) ((hhr1.2 q1))
set_option maxRecDepth 100000 in
theorem g_M_changesIn_0 {d : Nat} {v1 : Int} {G : SgM} {Q : Int → SgM → Prop} (h : sg_Wp 200 228 d m_M_changesIn 4 [(0, 2, 200), (1, 0, v1), (2, 0, 0), (3, 0, 0)] [] G Q) : sg_Wp 200 228 d m_M_changesIn 0 [(0, 2, 200), (1, 0, v1)] [] G Q := by
  refine sg_blk [(7, 0, 0, 0, 0), (25, 0, 0, 2, 0), (7, 0, 0, 0, 0), (25, 0, 0, 3, 0)] (by decide +kernel) ?_
  refine And.intro rfl (And.intro rfl (And.intro rfl (And.intro rfl (?_))))
  show sg_Wp 200 228 d m_M_changesIn 4 [(0, 2, 200), (1, 0, v1), (2, 0, 0), (3, 0, 0)] [] G Q
  exact h
set_option maxRecDepth 100000 in
theorem g_M_changesIn_4 {d : Nat} {v1 v2 v3 : Int} {G : SgM} {Q : Int → SgM → Prop} (h : ((G 200 7) ≤ v3 → (Q v2 G)) ∧ (¬ ((G 200 7) ≤ v3) → ((0 ≤ (sg_iadd (sg_imul 8 v1) v3) ∧ (sg_iadd (sg_imul 8 v1) v3) < 192) ∧ (((G 224 (sg_iadd (sg_imul 8 v1) v3)) = ((-1)) → (sg_Wp 200 228 d m_M_changesIn 4 [(0, 2, 200), (1, 0, v1), (2, 0, sg_ior v2 0), (3, 0, sg_iadd v3 1)] [] G Q)) ∧ (¬ ((G 224 (sg_iadd (sg_imul 8 v1) v3)) = ((-1))) → (sg_Wp 200 228 d m_M_changesIn 4 [(0, 2, 200), (1, 0, v1), (2, 0, sg_ior v2 (sg_ishl 1 v3)), (3, 0, sg_iadd v3 1)] [] G Q)))))) : sg_Wp 200 228 d m_M_changesIn 4 [(0, 2, 200), (1, 0, v1), (2, 0, v2), (3, 0, v3)] [] G Q := by
  refine sg_blk [(3, 0, 0, 3, 0), (1, 0, 0, 0, 0), (15, 0, 11, 134, 7)] (by decide +kernel) ?_
  refine And.intro rfl (And.intro (Nat.le_of_ble_eq_true rfl) (And.intro ce_200 (?_)))
  show sg_Wp 200 228 d m_M_changesIn 9 [(0, 2, 200), (1, 0, v1), (2, 0, v2), (3, 0, v3)] [(0, G 200 7), (0, v3)] G Q
  refine sg_icmp_ge (off := 34) (tgt := 43) (by decide +kernel) (by decide) ⟨fun q2 => ?_, fun q2 => ?_⟩
  · refine sg_blk [(3, 0, 0, 2, 0)] (by decide +kernel) ?_
    refine And.intro rfl (?_)
    show sg_Wp 200 228 d m_M_changesIn 44 [(0, 2, 200), (1, 0, v1), (2, 0, v2), (3, 0, v3)] [(0, v2)] G Q
    exact sg_ret (by decide +kernel) rfl (Or.inl rfl) ((h.1 q2))
  · refine sg_blk [(3, 0, 0, 2, 0), (1, 0, 0, 0, 0), (65, 224, 11, 80, 31), (8, 8, 0, 0, 0), (3, 0, 0, 1, 0), (34, 0, 0, 0, 0), (3, 0, 0, 3, 0), (32, 0, 0, 0, 0), (17, 192, 0, 0, 0), (7, (-1), 0, 0, 0)] (by decide +kernel) ?_
    refine And.intro rfl (And.intro (Nat.le_of_ble_eq_true rfl) (And.intro ce_200 (And.intro rr_200_31 (And.intro rfl (And.intro rfl (And.intro rfl (And.intro rfl (And.intro ce_224 (And.intro (h.2 q2).1 (And.intro rfl (?_)))))))))))
    show sg_Wp 200 228 d m_M_changesIn 25 [(0, 2, 200), (1, 0, v1), (2, 0, v2), (3, 0, v3)] [(0, (-1)), (0, G 224 (sg_iadd (sg_imul 8 v1) v3)), (0, v2)] G Q
    refine sg_icmp_eq (off := 9) (tgt := 34) (by decide +kernel) (by decide) ⟨fun q1 => ?_, fun q1 => ?_⟩
    · refine sg_blk [(7, 0, 0, 0, 0), (39, 0, 0, 0, 0), (25, 0, 0, 2, 0), (31, 1, 0, 3, 0)] (by decide +kernel) ?_
      refine And.intro rfl (And.intro rfl (And.intro rfl (?_)))
      show sg_Wp 200 228 d m_M_changesIn 40 [(0, 2, 200), (1, 0, v1), (2, 0, sg_ior v2 0), (3, 0, sg_iadd v3 1)] [] G Q
      refine sg_goto (off := -36) (tgt := 4) (by decide +kernel) (by decide) ?_
      exact ((h.2 q2).2.1 q1)
    · refine sg_blk [(7, 1, 0, 0, 0), (3, 0, 0, 3, 0), (41, 0, 0, 0, 0)] (by decide +kernel) ?_
      refine And.intro rfl (And.intro rfl (?_))
      show sg_Wp 200 228 d m_M_changesIn 31 [(0, 2, 200), (1, 0, v1), (2, 0, v2), (3, 0, v3)] [(0, sg_ishl 1 v3), (0, v2)] G Q
      refine sg_goto (off := 4) (tgt := 35) (by decide +kernel) (by decide) ?_
      refine sg_blk [(39, 0, 0, 0, 0), (25, 0, 0, 2, 0), (31, 1, 0, 3, 0)] (by decide +kernel) ?_
      refine And.intro rfl (And.intro rfl (?_))
      show sg_Wp 200 228 d m_M_changesIn 40 [(0, 2, 200), (1, 0, v1), (2, 0, sg_ior v2 (sg_ishl 1 v3)), (3, 0, sg_iadd v3 1)] [] G Q
      refine sg_goto (off := -36) (tgt := 4) (by decide +kernel) (by decide) ?_
      exact ((h.2 q2).2.2 q1)
set_option maxRecDepth 100000 in
theorem g_M_dust_0 {d : Nat} {v1 v2 : Int} {G : SgM} {Q : Int → SgM → Prop} (h : sg_Wp 200 228 (d + 1) m_M_find 0 [(0, 2, 200)] [] G (fun r1 G1 => ((0 ≤ v1 ∧ v1 ≤ 23) → (((0 ≤ v2 ∧ v2 ≤ 1) → (sg_Wp 200 228 (d + 1) m_M_dustOf 0 [(0, 2, 200), (1, 0, v1), (2, 0, v2)] [] G1 (fun r2 G2 => Q r2 G2))) ∧ (¬ (0 ≤ v2 ∧ v2 ≤ 1) → (Q ((-2)) G1)))) ∧ (¬ (0 ≤ v1 ∧ v1 ≤ 23) → (Q ((-2)) G1)))) : sg_Wp 200 228 (d + 2) m_M_dust 0 [(0, 2, 200), (1, 0, v1), (2, 0, v2)] [] G Q := by
  refine sg_blk [(1, 0, 0, 0, 0)] (by decide +kernel) ?_
  refine And.intro (Nat.le_of_ble_eq_true rfl) (?_)
  show sg_Wp 200 228 (d + 2) m_M_dust 1 [(0, 2, 200), (1, 0, v1), (2, 0, v2)] [(2, 200)] G Q
  refine sg_callV (k := (d + 1)) (y' := m_M_find) (av := []) (rest := []) (b := 200) (by decide +kernel) cv_M_find ml_11_217 ce_200 rfl rfl (Nat.le_of_ble_eq_true rfl) (Nat.lt_succ_self (d + 1)) (Nat.le_of_ble_eq_true rfl) rfl ?_
  show sg_Wp 200 228 (d + 1) m_M_find 0 [(0, 2, 200)] [] G _
  refine sg_Wp.mono h (fun r1 G1 hhr1 => ?_)
  show sg_Wp 200 228 (d + 2) m_M_dust 4 [(0, 2, 200), (1, 0, v1), (2, 0, v2)] [] G1 Q
  refine sg_blk [(3, 0, 0, 1, 0)] (by decide +kernel) ?_
  refine And.intro rfl (?_)
  show sg_Wp 200 228 (d + 2) m_M_dust 5 [(0, 2, 200), (1, 0, v1), (2, 0, v2)] [(0, v1)] G1 Q
  refine sg_callS (k := (d + 1)) (y' := m_M_isHour) (av := [(0, v1)]) (rest := []) (by decide +kernel) cs_M_isHour ml_11_167 rfl (Nat.le_of_ble_eq_true rfl) (Nat.lt_succ_self (d + 1)) (Nat.le_of_ble_eq_true rfl) rfl ?_
  show sg_Wp 200 228 (d + 1) m_M_isHour 0 [(0, 0, v1)] [] G1 _
  refine s_M_isHour ?_
  show sg_Wp 200 228 (d + 2) m_M_dust 8 [(0, 2, 200), (1, 0, v1), (2, 0, v2)] [(0, sg_bo (0 ≤ v1 ∧ v1 ≤ 23))] G1 Q
  refine sg_bif_eq (off := 19) (tgt := 27) (by decide +kernel) (by decide) ⟨fun q2 => ?_, fun q2 => ?_⟩
  · refine sg_blk [(3, 0, 0, 2, 0)] (by decide +kernel) ?_
    refine And.intro rfl (?_)
    show sg_Wp 200 228 (d + 2) m_M_dust 12 [(0, 2, 200), (1, 0, v1), (2, 0, v2)] [(0, v2)] G1 Q
    refine sg_callS (k := (d + 1)) (y' := m_M_isTwo) (av := [(0, v2)]) (rest := []) (by decide +kernel) cs_M_isTwo ml_11_126 rfl (Nat.le_of_ble_eq_true rfl) (Nat.lt_succ_self (d + 1)) (Nat.le_of_ble_eq_true rfl) rfl ?_
    show sg_Wp 200 228 (d + 1) m_M_isTwo 0 [(0, 0, v2)] [] G1 _
    refine s_M_isTwo ?_
    show sg_Wp 200 228 (d + 2) m_M_dust 15 [(0, 2, 200), (1, 0, v1), (2, 0, v2)] [(0, sg_bo (0 ≤ v2 ∧ v2 ≤ 1))] G1 Q
    refine sg_bif_eq (off := 12) (tgt := 27) (by decide +kernel) (by decide) ⟨fun q1 => ?_, fun q1 => ?_⟩
    · refine sg_blk [(1, 0, 0, 0, 0), (3, 0, 0, 1, 0), (3, 0, 0, 2, 0)] (by decide +kernel) ?_
      refine And.intro (Nat.le_of_ble_eq_true rfl) (And.intro rfl (And.intro rfl (?_)))
      show sg_Wp 200 228 (d + 2) m_M_dust 21 [(0, 2, 200), (1, 0, v1), (2, 0, v2)] [(0, v2), (0, v1), (2, 200)] G1 Q
      refine sg_callV (k := (d + 1)) (y' := m_M_dustOf) (av := [(0, v1), (0, v2)]) (rest := []) (b := 200) (by decide +kernel) cv_M_dustOf ml_11_253 ce_200 rfl rfl (Nat.le_of_ble_eq_true rfl) (Nat.lt_succ_self (d + 1)) (Nat.le_of_ble_eq_true rfl) rfl ?_
      show sg_Wp 200 228 (d + 1) m_M_dustOf 0 [(0, 2, 200), (1, 0, v1), (2, 0, v2)] [] G1 _
      refine sg_Wp.mono (((hhr1.1 q2).1 q1)) (fun r2 G2 hhr2 => ?_)
      show sg_Wp 200 228 (d + 2) m_M_dust 24 [(0, 2, 200), (1, 0, v1), (2, 0, v2)] [(0, r2)] G2 Q
      refine sg_goto (off := 5) (tgt := 29) (by decide +kernel) (by decide) ?_
      exact sg_ret (by decide +kernel) rfl (Or.inl rfl) hhr2
    · refine sg_blk [(8, (-2), 0, 0, 0)] (by decide +kernel) ?_
      refine And.intro rfl (And.intro rfl (?_))
      show sg_Wp 200 228 (d + 2) m_M_dust 29 [(0, 2, 200), (1, 0, v1), (2, 0, v2)] [(0, (-2))] G1 Q
      exact sg_ret (by decide +kernel) rfl (Or.inl rfl) (((hhr1.1 q2).2 q1))
  · refine sg_blk [(8, (-2), 0, 0, 0)] (by decide +kernel) ?_
    refine And.intro rfl (And.intro rfl (?_))
    show sg_Wp 200 228 (d + 2) m_M_dust 29 [(0, 2, 200), (1, 0, v1), (2, 0, v2)] [(0, (-2))] G1 Q
    exact sg_ret (by decide +kernel) rfl (Or.inl rfl) ((hhr1.2 q2))
set_option maxRecDepth 100000 in
theorem g_M_dustOf_0 {d : Nat} {v1 v2 : Int} {G : SgM} {Q : Int → SgM → Prop} (h : sg_Wp 200 228 (d + 1) m_M_dustOf 18 [(0, 2, 200), (2, 0, v2), (3, 0, (-1)), (4, 0, (-1)), (5, 0, 0)] [] (sg_up (sg_up G 200 14 v1) 200 15 0) Q) : sg_Wp 200 228 (d + 1) m_M_dustOf 0 [(0, 2, 200), (1, 0, v1), (2, 0, v2)] [] G Q := by
  refine sg_blk [(7, (-1), 0, 0, 0), (25, 0, 0, 3, 0), (7, (-1), 0, 0, 0), (26, 0, 0, 4, 0), (1, 0, 0, 0, 0), (3, 0, 0, 1, 0), (16, 0, 11, 92, 14), (1, 0, 0, 0, 0), (7, 0, 0, 0, 0), (16, 0, 11, 178, 15), (7, 0, 0, 0, 0), (26, 0, 0, 5, 0)] (by decide +kernel) ?_
  refine And.intro rfl (And.intro rfl (And.intro rfl (And.intro rfl (And.intro (Nat.le_of_ble_eq_true rfl) (And.intro rfl (And.intro ce_200 (And.intro (Nat.le_of_ble_eq_true rfl) (And.intro rfl (And.intro ce_200 (And.intro rfl (And.intro rfl (?_))))))))))))
  show sg_Wp 200 228 (d + 1) m_M_dustOf 18 [(0, 2, 200), (1, 0, v1), (2, 0, v2), (3, 0, (-1)), (4, 0, (-1)), (5, 0, 0)] [] (sg_up (sg_up G 200 14 v1) 200 15 0) Q
  exact sg_Wp.keepk [0, 2, 3, 4, 5] rfl h
set_option maxRecDepth 100000 in
theorem g_M_dustOf_18 {d : Nat} {v2 v3 v4 v5 : Int} {G : SgM} {Q : Int → SgM → Prop} (h : (10 ≤ v5 → ((v2 ≠ 0 → (Q v4 (sg_up G 200 14 ((-1))))) ∧ (¬ (v2 ≠ 0) → (Q v3 (sg_up G 200 14 ((-1))))))) ∧ (¬ (10 ≤ v5) → (sg_Wp 200 228 d m_M_lives 0 [(0, 2, 200)] [] (sg_up G 200 16 v5) (fun r1 G1 => sg_Wp 200 228 d m_M_allNow 0 [(0, 2, 200)] [] G1 (fun r2 G2 => (r2 ≤ v4 → (sg_Wp 200 228 (d + 1) m_M_dustOf 18 [(0, 2, 200), (2, 0, v2), (3, 0, v3), (4, 0, sg_grt r2 v4), (5, 0, sg_iadd v5 1)] [] G2 Q)) ∧ (¬ (r2 ≤ v4) → (sg_Wp 200 228 (d + 1) m_M_dustOf 18 [(0, 2, 200), (2, 0, v2), (3, 0, v5), (4, 0, sg_grt r2 v4), (5, 0, sg_iadd v5 1)] [] G2 Q))))))) : sg_Wp 200 228 (d + 1) m_M_dustOf 18 [(0, 2, 200), (2, 0, v2), (3, 0, v3), (4, 0, v4), (5, 0, v5)] [] G Q := by
  refine sg_blk [(4, 0, 0, 5, 0), (8, 10, 0, 0, 0)] (by decide +kernel) ?_
  refine And.intro rfl (And.intro rfl (And.intro rfl (?_)))
  show sg_Wp 200 228 (d + 1) m_M_dustOf 22 [(0, 2, 200), (2, 0, v2), (3, 0, v3), (4, 0, v4), (5, 0, v5)] [(0, 10), (0, v5)] G Q
  refine sg_icmp_ge (off := 48) (tgt := 70) (by decide +kernel) (by decide) ⟨fun q3 => ?_, fun q3 => ?_⟩
  · refine sg_blk [(1, 0, 0, 0, 0), (7, (-1), 0, 0, 0), (16, 0, 11, 92, 14), (3, 0, 0, 2, 0)] (by decide +kernel) ?_
    refine And.intro (Nat.le_of_ble_eq_true rfl) (And.intro rfl (And.intro ce_200 (And.intro rfl (?_))))
    show sg_Wp 200 228 (d + 1) m_M_dustOf 76 [(0, 2, 200), (2, 0, v2), (3, 0, v3), (4, 0, v4), (5, 0, v5)] [(0, v2)] (sg_up G 200 14 ((-1))) Q
    refine sg_if_ne (off := 7) (tgt := 83) (by decide +kernel) (by decide) ⟨fun q1 => ?_, fun q1 => ?_⟩
    · refine sg_blk [(4, 0, 0, 4, 0)] (by decide +kernel) ?_
      refine And.intro rfl (?_)
      show sg_Wp 200 228 (d + 1) m_M_dustOf 85 [(0, 2, 200), (2, 0, v2), (3, 0, v3), (4, 0, v4), (5, 0, v5)] [(0, v4)] (sg_up G 200 14 ((-1))) Q
      exact sg_ret (by decide +kernel) rfl (Or.inl rfl) (((h.1 q3).1 q1))
    · refine sg_blk [(3, 0, 0, 3, 0)] (by decide +kernel) ?_
      refine And.intro rfl (?_)
      show sg_Wp 200 228 (d + 1) m_M_dustOf 80 [(0, 2, 200), (2, 0, v2), (3, 0, v3), (4, 0, v4), (5, 0, v5)] [(0, v3)] (sg_up G 200 14 ((-1))) Q
      refine sg_goto (off := 5) (tgt := 85) (by decide +kernel) (by decide) ?_
      exact sg_ret (by decide +kernel) rfl (Or.inl rfl) (((h.1 q3).2 q1))
  · refine sg_blk [(1, 0, 0, 0, 0), (4, 0, 0, 5, 0), (16, 0, 11, 181, 16), (1, 0, 0, 0, 0)] (by decide +kernel) ?_
    refine And.intro (Nat.le_of_ble_eq_true rfl) (And.intro rfl (And.intro ce_200 (And.intro (Nat.le_of_ble_eq_true rfl) (?_))))
    show sg_Wp 200 228 (d + 1) m_M_dustOf 32 [(0, 2, 200), (2, 0, v2), (3, 0, v3), (4, 0, v4), (5, 0, v5)] [(2, 200)] (sg_up G 200 16 v5) Q
    refine sg_callV (k := d) (y' := m_M_lives) (av := []) (rest := []) (b := 200) (by decide +kernel) cv_M_lives ml_11_214 ce_200 rfl rfl (Nat.le_of_ble_eq_true rfl) (Nat.lt_succ_self d) (Nat.le_of_ble_eq_true rfl) rfl ?_
    show sg_Wp 200 228 d m_M_lives 0 [(0, 2, 200)] [] (sg_up G 200 16 v5) _
    refine sg_Wp.mono ((h.2 q3)) (fun r1 G1 hhr1 => ?_)
    show sg_Wp 200 228 (d + 1) m_M_dustOf 35 [(0, 2, 200), (2, 0, v2), (3, 0, v3), (4, 0, v4), (5, 0, v5)] [] G1 Q
    refine sg_blk [(1, 0, 0, 0, 0)] (by decide +kernel) ?_
    refine And.intro (Nat.le_of_ble_eq_true rfl) (?_)
    show sg_Wp 200 228 (d + 1) m_M_dustOf 36 [(0, 2, 200), (2, 0, v2), (3, 0, v3), (4, 0, v4), (5, 0, v5)] [(2, 200)] G1 Q
    refine sg_callV (k := d) (y' := m_M_allNow) (av := []) (rest := []) (b := 200) (by decide +kernel) cv_M_allNow ml_11_238 ce_200 rfl rfl (Nat.le_of_ble_eq_true rfl) (Nat.lt_succ_self d) (Nat.le_of_ble_eq_true rfl) rfl ?_
    show sg_Wp 200 228 d m_M_allNow 0 [(0, 2, 200)] [] G1 _
    refine sg_Wp.mono hhr1 (fun r2 G2 hhr2 => ?_)
    show sg_Wp 200 228 (d + 1) m_M_dustOf 39 [(0, 2, 200), (2, 0, v2), (3, 0, v3), (4, 0, v4), (5, 0, v5)] [(0, r2)] G2 Q
    refine sg_blk [(26, 0, 0, 6, 0), (4, 0, 0, 6, 0), (4, 0, 0, 4, 0)] (by decide +kernel) ?_
    refine And.intro rfl (And.intro rfl (And.intro rfl (?_)))
    show sg_Wp 200 228 (d + 1) m_M_dustOf 45 [(0, 2, 200), (2, 0, v2), (3, 0, v3), (4, 0, v4), (5, 0, v5), (6, 0, r2)] [(0, v4), (0, r2)] G2 Q
    refine sg_icmp_le (off := 8) (tgt := 53) (by decide +kernel) (by decide) ⟨fun q2 => ?_, fun q2 => ?_⟩
    · refine sg_blk [(3, 0, 0, 3, 0), (25, 0, 0, 3, 0), (4, 0, 0, 6, 0), (4, 0, 0, 4, 0)] (by decide +kernel) ?_
      refine And.intro rfl (And.intro rfl (And.intro rfl (And.intro rfl (?_))))
      show sg_Wp 200 228 (d + 1) m_M_dustOf 59 [(0, 2, 200), (2, 0, v2), (3, 0, v3), (4, 0, v4), (5, 0, v5), (6, 0, r2)] [(0, v4), (0, r2)] G2 Q
      refine sg_callS (k := d) (y' := m_M_greater) (av := [(0, r2), (0, v4)]) (rest := []) (by decide +kernel) cs_M_greater ml_11_232 rfl (Nat.le_of_ble_eq_true rfl) (Nat.lt_succ_self d) (Nat.le_of_ble_eq_true rfl) rfl ?_
      show sg_Wp 200 228 d m_M_greater 0 [(0, 0, r2), (1, 0, v4)] [] G2 _
      refine s_M_greater ?_
      show sg_Wp 200 228 (d + 1) m_M_dustOf 62 [(0, 2, 200), (2, 0, v2), (3, 0, v3), (4, 0, v4), (5, 0, v5), (6, 0, r2)] [(0, sg_grt r2 v4)] G2 Q
      refine sg_blk [(26, 0, 0, 4, 0), (31, 1, 0, 5, 0)] (by decide +kernel) ?_
      refine And.intro rfl (And.intro rfl (?_))
      show sg_Wp 200 228 (d + 1) m_M_dustOf 67 [(0, 2, 200), (2, 0, v2), (3, 0, v3), (4, 0, sg_grt r2 v4), (5, 0, sg_iadd v5 1), (6, 0, r2)] [] G2 Q
      refine sg_goto (off := -49) (tgt := 18) (by decide +kernel) (by decide) ?_
      exact sg_Wp.keepk [0, 1, 2, 3, 4] rfl ((hhr2.1 q2))
    · refine sg_blk [(4, 0, 0, 5, 0)] (by decide +kernel) ?_
      refine And.intro rfl (?_)
      show sg_Wp 200 228 (d + 1) m_M_dustOf 50 [(0, 2, 200), (2, 0, v2), (3, 0, v3), (4, 0, v4), (5, 0, v5), (6, 0, r2)] [(0, v5)] G2 Q
      refine sg_goto (off := 4) (tgt := 54) (by decide +kernel) (by decide) ?_
      refine sg_blk [(25, 0, 0, 3, 0), (4, 0, 0, 6, 0), (4, 0, 0, 4, 0)] (by decide +kernel) ?_
      refine And.intro rfl (And.intro rfl (And.intro rfl (?_)))
      show sg_Wp 200 228 (d + 1) m_M_dustOf 59 [(0, 2, 200), (2, 0, v2), (3, 0, v5), (4, 0, v4), (5, 0, v5), (6, 0, r2)] [(0, v4), (0, r2)] G2 Q
      refine sg_callS (k := d) (y' := m_M_greater) (av := [(0, r2), (0, v4)]) (rest := []) (by decide +kernel) cs_M_greater ml_11_232 rfl (Nat.le_of_ble_eq_true rfl) (Nat.lt_succ_self d) (Nat.le_of_ble_eq_true rfl) rfl ?_
      show sg_Wp 200 228 d m_M_greater 0 [(0, 0, r2), (1, 0, v4)] [] G2 _
      refine s_M_greater ?_
      show sg_Wp 200 228 (d + 1) m_M_dustOf 62 [(0, 2, 200), (2, 0, v2), (3, 0, v5), (4, 0, v4), (5, 0, v5), (6, 0, r2)] [(0, sg_grt r2 v4)] G2 Q
      refine sg_blk [(26, 0, 0, 4, 0), (31, 1, 0, 5, 0)] (by decide +kernel) ?_
      refine And.intro rfl (And.intro rfl (?_))
      show sg_Wp 200 228 (d + 1) m_M_dustOf 67 [(0, 2, 200), (2, 0, v2), (3, 0, v5), (4, 0, sg_grt r2 v4), (5, 0, sg_iadd v5 1), (6, 0, r2)] [] G2 Q
      refine sg_goto (off := -49) (tgt := 18) (by decide +kernel) (by decide) ?_
      exact sg_Wp.keepk [0, 1, 2, 3, 4] rfl ((hhr2.2 q2))
set_option maxRecDepth 100000 in
theorem g_M_forget_0 {d : Nat} {G : SgM} {Q : Int → SgM → Prop} (h : Q (G 200 32) (sg_up G 200 32 0)) : sg_Wp 200 228 d m_M_forget 0 [(0, 2, 200)] [] G Q := by
  refine sg_blk [(1, 0, 0, 0, 0), (15, 0, 11, 269, 32), (25, 0, 0, 1, 0), (1, 0, 0, 0, 0), (7, 0, 0, 0, 0), (16, 0, 11, 269, 32), (3, 0, 0, 1, 0)] (by decide +kernel) ?_
  refine And.intro (Nat.le_of_ble_eq_true rfl) (And.intro ce_200 (And.intro rfl (And.intro (Nat.le_of_ble_eq_true rfl) (And.intro rfl (And.intro ce_200 (And.intro rfl (?_)))))))
  show sg_Wp 200 228 d m_M_forget 11 [(0, 2, 200), (1, 0, G 200 32)] [(0, G 200 32)] (sg_up G 200 32 0) Q
  exact sg_ret (by decide +kernel) rfl (Or.inl rfl) h
set_option maxRecDepth 100000 in
theorem g_M_forgotten_0 {d : Nat} {G : SgM} {Q : Int → SgM → Prop} (h : sg_Wp 200 228 d m_M_find 0 [(0, 2, 200)] [] G (fun r1 G1 => sg_Wp 200 228 d m_M_forgottenNow 0 [(0, 2, 200)] [] G1 (fun r2 G2 => Q r2 G2))) : sg_Wp 200 228 (d + 1) m_M_forgotten 0 [(0, 2, 200)] [] G Q := by
  refine sg_blk [(1, 0, 0, 0, 0)] (by decide +kernel) ?_
  refine And.intro (Nat.le_of_ble_eq_true rfl) (?_)
  show sg_Wp 200 228 (d + 1) m_M_forgotten 1 [(0, 2, 200)] [(2, 200)] G Q
  refine sg_callV (k := d) (y' := m_M_find) (av := []) (rest := []) (b := 200) (by decide +kernel) cv_M_find ml_11_217 ce_200 rfl rfl (Nat.le_of_ble_eq_true rfl) (Nat.lt_succ_self d) (Nat.le_of_ble_eq_true rfl) rfl ?_
  show sg_Wp 200 228 d m_M_find 0 [(0, 2, 200)] [] G _
  refine sg_Wp.mono h (fun r1 G1 hhr1 => ?_)
  show sg_Wp 200 228 (d + 1) m_M_forgotten 4 [(0, 2, 200)] [] G1 Q
  refine sg_blk [(1, 0, 0, 0, 0)] (by decide +kernel) ?_
  refine And.intro (Nat.le_of_ble_eq_true rfl) (?_)
  show sg_Wp 200 228 (d + 1) m_M_forgotten 5 [(0, 2, 200)] [(2, 200)] G1 Q
  refine sg_callV (k := d) (y' := m_M_forgottenNow) (av := []) (rest := []) (b := 200) (by decide +kernel) cv_M_forgottenNow ml_11_229 ce_200 rfl rfl (Nat.le_of_ble_eq_true rfl) (Nat.lt_succ_self d) (Nat.le_of_ble_eq_true rfl) rfl ?_
  show sg_Wp 200 228 d m_M_forgottenNow 0 [(0, 2, 200)] [] G1 _
  refine sg_Wp.mono hhr1 (fun r2 G2 hhr2 => ?_)
  show sg_Wp 200 228 (d + 1) m_M_forgotten 8 [(0, 2, 200)] [(0, r2)] G2 Q
  exact sg_ret (by decide +kernel) rfl (Or.inl rfl) hhr2
set_option maxRecDepth 100000 in
theorem g_M_forgottenNow_0 {d : Nat} {G : SgM} {Q : Int → SgM → Prop} (h : sg_Wp 200 228 d m_M_forgottenNow 4 [(0, 2, 200), (1, 0, 0), (2, 0, 0)] [] G Q) : sg_Wp 200 228 d m_M_forgottenNow 0 [(0, 2, 200)] [] G Q := by
  refine sg_blk [(7, 0, 0, 0, 0), (25, 0, 0, 1, 0), (7, 0, 0, 0, 0), (25, 0, 0, 2, 0)] (by decide +kernel) ?_
  refine And.intro rfl (And.intro rfl (And.intro rfl (And.intro rfl (?_))))
  show sg_Wp 200 228 d m_M_forgottenNow 4 [(0, 2, 200), (1, 0, 0), (2, 0, 0)] [] G Q
  exact h
set_option maxRecDepth 100000 in
theorem g_M_forgottenNow_4 {d : Nat} {v1 v2 : Int} {G : SgM} {Q : Int → SgM → Prop} (h : (24 ≤ v2 → (Q v1 G)) ∧ (¬ (24 ≤ v2) → (sg_Wp 200 228 d m_M_forgottenNow 12 [(0, 2, 200), (1, 0, v1), (2, 0, v2), (3, 0, 0)] [] G Q))) : sg_Wp 200 228 d m_M_forgottenNow 4 [(0, 2, 200), (1, 0, v1), (2, 0, v2)] [] G Q := by
  refine sg_blk [(3, 0, 0, 2, 0), (8, 24, 0, 0, 0)] (by decide +kernel) ?_
  refine And.intro rfl (And.intro rfl (And.intro rfl (?_)))
  show sg_Wp 200 228 d m_M_forgottenNow 7 [(0, 2, 200), (1, 0, v1), (2, 0, v2)] [(0, 24), (0, v2)] G Q
  refine sg_icmp_ge (off := 51) (tgt := 58) (by decide +kernel) (by decide) ⟨fun q1 => ?_, fun q1 => ?_⟩
  · refine sg_blk [(3, 0, 0, 1, 0)] (by decide +kernel) ?_
    refine And.intro rfl (?_)
    show sg_Wp 200 228 d m_M_forgottenNow 59 [(0, 2, 200), (1, 0, v1), (2, 0, v2)] [(0, v1)] G Q
    exact sg_ret (by decide +kernel) rfl (Or.inl rfl) ((h.1 q1))
  · refine sg_blk [(7, 0, 0, 0, 0), (25, 0, 0, 3, 0)] (by decide +kernel) ?_
    refine And.intro rfl (And.intro rfl (?_))
    show sg_Wp 200 228 d m_M_forgottenNow 12 [(0, 2, 200), (1, 0, v1), (2, 0, v2), (3, 0, 0)] [] G Q
    exact (h.2 q1)
set_option maxRecDepth 100000 in
theorem g_M_forgottenNow_12 {d : Nat} {v1 v2 v3 : Int} {G : SgM} {Q : Int → SgM → Prop} (h : ((G 200 7) ≤ v3 → (sg_Wp 200 228 d m_M_forgottenNow 4 [(0, 2, 200), (1, 0, v1), (2, 0, sg_iadd v2 1)] [] G Q)) ∧ (¬ ((G 200 7) ≤ v3) → ((0 ≤ (sg_iadd (sg_imul 8 v2) v3) ∧ (sg_iadd (sg_imul 8 v2) v3) < 192) ∧ (((G 222 (sg_iadd (sg_imul 8 v2) v3)) < 12 → (sg_Wp 200 228 d m_M_forgottenNow 12 [(0, 2, 200), (1, 0, sg_ior v1 0), (2, 0, v2), (3, 0, sg_iadd v3 1)] [] G Q)) ∧ (¬ ((G 222 (sg_iadd (sg_imul 8 v2) v3)) < 12) → (sg_Wp 200 228 d m_M_forgottenNow 12 [(0, 2, 200), (1, 0, sg_ior v1 (sg_ishl 1 v3)), (2, 0, v2), (3, 0, sg_iadd v3 1)] [] G Q)))))) : sg_Wp 200 228 d m_M_forgottenNow 12 [(0, 2, 200), (1, 0, v1), (2, 0, v2), (3, 0, v3)] [] G Q := by
  refine sg_blk [(3, 0, 0, 3, 0), (1, 0, 0, 0, 0), (15, 0, 11, 134, 7)] (by decide +kernel) ?_
  refine And.intro rfl (And.intro (Nat.le_of_ble_eq_true rfl) (And.intro ce_200 (?_)))
  show sg_Wp 200 228 d m_M_forgottenNow 17 [(0, 2, 200), (1, 0, v1), (2, 0, v2), (3, 0, v3)] [(0, G 200 7), (0, v3)] G Q
  refine sg_icmp_ge (off := 35) (tgt := 52) (by decide +kernel) (by decide) ⟨fun q3 => ?_, fun q3 => ?_⟩
  · refine sg_blk [(31, 1, 0, 2, 0)] (by decide +kernel) ?_
    refine And.intro rfl (?_)
    show sg_Wp 200 228 d m_M_forgottenNow 55 [(0, 2, 200), (1, 0, v1), (2, 0, sg_iadd v2 1), (3, 0, v3)] [] G Q
    refine sg_goto (off := -51) (tgt := 4) (by decide +kernel) (by decide) ?_
    exact sg_Wp.keepk [0, 1, 2] rfl ((h.1 q3))
  · refine sg_blk [(3, 0, 0, 1, 0), (1, 0, 0, 0, 0), (65, 222, 11, 74, 29), (8, 8, 0, 0, 0), (3, 0, 0, 2, 0), (34, 0, 0, 0, 0), (3, 0, 0, 3, 0), (32, 0, 0, 0, 0), (17, 192, 0, 0, 0), (8, 12, 0, 0, 0)] (by decide +kernel) ?_
    refine And.intro rfl (And.intro (Nat.le_of_ble_eq_true rfl) (And.intro ce_200 (And.intro rr_200_29 (And.intro rfl (And.intro rfl (And.intro rfl (And.intro rfl (And.intro ce_222 (And.intro (h.2 q3).1 (And.intro rfl (And.intro rfl (?_))))))))))))
    show sg_Wp 200 228 d m_M_forgottenNow 34 [(0, 2, 200), (1, 0, v1), (2, 0, v2), (3, 0, v3)] [(0, 12), (0, G 222 (sg_iadd (sg_imul 8 v2) v3)), (0, v1)] G Q
    refine sg_icmp_lt (off := 9) (tgt := 43) (by decide +kernel) (by decide) ⟨fun q2 => ?_, fun q2 => ?_⟩
    · refine sg_blk [(7, 0, 0, 0, 0), (39, 0, 0, 0, 0), (25, 0, 0, 1, 0), (31, 1, 0, 3, 0)] (by decide +kernel) ?_
      refine And.intro rfl (And.intro rfl (And.intro rfl (?_)))
      show sg_Wp 200 228 d m_M_forgottenNow 49 [(0, 2, 200), (1, 0, sg_ior v1 0), (2, 0, v2), (3, 0, sg_iadd v3 1)] [] G Q
      refine sg_goto (off := -37) (tgt := 12) (by decide +kernel) (by decide) ?_
      exact ((h.2 q3).2.1 q2)
    · refine sg_blk [(7, 1, 0, 0, 0), (3, 0, 0, 3, 0), (41, 0, 0, 0, 0)] (by decide +kernel) ?_
      refine And.intro rfl (And.intro rfl (?_))
      show sg_Wp 200 228 d m_M_forgottenNow 40 [(0, 2, 200), (1, 0, v1), (2, 0, v2), (3, 0, v3)] [(0, sg_ishl 1 v3), (0, v1)] G Q
      refine sg_goto (off := 4) (tgt := 44) (by decide +kernel) (by decide) ?_
      refine sg_blk [(39, 0, 0, 0, 0), (25, 0, 0, 1, 0), (31, 1, 0, 3, 0)] (by decide +kernel) ?_
      refine And.intro rfl (And.intro rfl (?_))
      show sg_Wp 200 228 d m_M_forgottenNow 49 [(0, 2, 200), (1, 0, sg_ior v1 (sg_ishl 1 v3)), (2, 0, v2), (3, 0, sg_iadd v3 1)] [] G Q
      refine sg_goto (off := -37) (tgt := 12) (by decide +kernel) (by decide) ?_
      exact ((h.2 q3).2.2 q2)
set_option maxRecDepth 100000 in
theorem g_M_hush_0 {d : Nat} {v1 v2 : Int} {G : SgM} {Q : Int → SgM → Prop} (h : sg_Wp 200 228 (d + 1) m_M_find 0 [(0, 2, 200)] [] G (fun r1 G1 => ((0 ≤ v1 ∧ v1 ≤ 23) → (((0 ≤ v2 ∧ v2 ≤ 1) → (sg_Wp 200 228 (d + 1) m_M_hushOf 0 [(0, 2, 200), (1, 0, v1), (2, 0, v2)] [] G1 (fun r2 G2 => Q r2 G2))) ∧ (¬ (0 ≤ v2 ∧ v2 ≤ 1) → (Q ((-2)) G1)))) ∧ (¬ (0 ≤ v1 ∧ v1 ≤ 23) → (Q ((-2)) G1)))) : sg_Wp 200 228 (d + 2) m_M_hush 0 [(0, 2, 200), (1, 0, v1), (2, 0, v2)] [] G Q := by
  refine sg_blk [(1, 0, 0, 0, 0)] (by decide +kernel) ?_
  refine And.intro (Nat.le_of_ble_eq_true rfl) (?_)
  show sg_Wp 200 228 (d + 2) m_M_hush 1 [(0, 2, 200), (1, 0, v1), (2, 0, v2)] [(2, 200)] G Q
  refine sg_callV (k := (d + 1)) (y' := m_M_find) (av := []) (rest := []) (b := 200) (by decide +kernel) cv_M_find ml_11_217 ce_200 rfl rfl (Nat.le_of_ble_eq_true rfl) (Nat.lt_succ_self (d + 1)) (Nat.le_of_ble_eq_true rfl) rfl ?_
  show sg_Wp 200 228 (d + 1) m_M_find 0 [(0, 2, 200)] [] G _
  refine sg_Wp.mono h (fun r1 G1 hhr1 => ?_)
  show sg_Wp 200 228 (d + 2) m_M_hush 4 [(0, 2, 200), (1, 0, v1), (2, 0, v2)] [] G1 Q
  refine sg_blk [(3, 0, 0, 1, 0)] (by decide +kernel) ?_
  refine And.intro rfl (?_)
  show sg_Wp 200 228 (d + 2) m_M_hush 5 [(0, 2, 200), (1, 0, v1), (2, 0, v2)] [(0, v1)] G1 Q
  refine sg_callS (k := (d + 1)) (y' := m_M_isHour) (av := [(0, v1)]) (rest := []) (by decide +kernel) cs_M_isHour ml_11_167 rfl (Nat.le_of_ble_eq_true rfl) (Nat.lt_succ_self (d + 1)) (Nat.le_of_ble_eq_true rfl) rfl ?_
  show sg_Wp 200 228 (d + 1) m_M_isHour 0 [(0, 0, v1)] [] G1 _
  refine s_M_isHour ?_
  show sg_Wp 200 228 (d + 2) m_M_hush 8 [(0, 2, 200), (1, 0, v1), (2, 0, v2)] [(0, sg_bo (0 ≤ v1 ∧ v1 ≤ 23))] G1 Q
  refine sg_bif_eq (off := 19) (tgt := 27) (by decide +kernel) (by decide) ⟨fun q2 => ?_, fun q2 => ?_⟩
  · refine sg_blk [(3, 0, 0, 2, 0)] (by decide +kernel) ?_
    refine And.intro rfl (?_)
    show sg_Wp 200 228 (d + 2) m_M_hush 12 [(0, 2, 200), (1, 0, v1), (2, 0, v2)] [(0, v2)] G1 Q
    refine sg_callS (k := (d + 1)) (y' := m_M_isTwo) (av := [(0, v2)]) (rest := []) (by decide +kernel) cs_M_isTwo ml_11_126 rfl (Nat.le_of_ble_eq_true rfl) (Nat.lt_succ_self (d + 1)) (Nat.le_of_ble_eq_true rfl) rfl ?_
    show sg_Wp 200 228 (d + 1) m_M_isTwo 0 [(0, 0, v2)] [] G1 _
    refine s_M_isTwo ?_
    show sg_Wp 200 228 (d + 2) m_M_hush 15 [(0, 2, 200), (1, 0, v1), (2, 0, v2)] [(0, sg_bo (0 ≤ v2 ∧ v2 ≤ 1))] G1 Q
    refine sg_bif_eq (off := 12) (tgt := 27) (by decide +kernel) (by decide) ⟨fun q1 => ?_, fun q1 => ?_⟩
    · refine sg_blk [(1, 0, 0, 0, 0), (3, 0, 0, 1, 0), (3, 0, 0, 2, 0)] (by decide +kernel) ?_
      refine And.intro (Nat.le_of_ble_eq_true rfl) (And.intro rfl (And.intro rfl (?_)))
      show sg_Wp 200 228 (d + 2) m_M_hush 21 [(0, 2, 200), (1, 0, v1), (2, 0, v2)] [(0, v2), (0, v1), (2, 200)] G1 Q
      refine sg_callV (k := (d + 1)) (y' := m_M_hushOf) (av := [(0, v1), (0, v2)]) (rest := []) (b := 200) (by decide +kernel) cv_M_hushOf ml_11_256 ce_200 rfl rfl (Nat.le_of_ble_eq_true rfl) (Nat.lt_succ_self (d + 1)) (Nat.le_of_ble_eq_true rfl) rfl ?_
      show sg_Wp 200 228 (d + 1) m_M_hushOf 0 [(0, 2, 200), (1, 0, v1), (2, 0, v2)] [] G1 _
      refine sg_Wp.mono (((hhr1.1 q2).1 q1)) (fun r2 G2 hhr2 => ?_)
      show sg_Wp 200 228 (d + 2) m_M_hush 24 [(0, 2, 200), (1, 0, v1), (2, 0, v2)] [(0, r2)] G2 Q
      refine sg_goto (off := 5) (tgt := 29) (by decide +kernel) (by decide) ?_
      exact sg_ret (by decide +kernel) rfl (Or.inl rfl) hhr2
    · refine sg_blk [(8, (-2), 0, 0, 0)] (by decide +kernel) ?_
      refine And.intro rfl (And.intro rfl (?_))
      show sg_Wp 200 228 (d + 2) m_M_hush 29 [(0, 2, 200), (1, 0, v1), (2, 0, v2)] [(0, (-2))] G1 Q
      exact sg_ret (by decide +kernel) rfl (Or.inl rfl) (((hhr1.1 q2).2 q1))
  · refine sg_blk [(8, (-2), 0, 0, 0)] (by decide +kernel) ?_
    refine And.intro rfl (And.intro rfl (?_))
    show sg_Wp 200 228 (d + 2) m_M_hush 29 [(0, 2, 200), (1, 0, v1), (2, 0, v2)] [(0, (-2))] G1 Q
    exact sg_ret (by decide +kernel) rfl (Or.inl rfl) ((hhr1.2 q2))
set_option maxRecDepth 100000 in
theorem g_M_hushOf_0 {d : Nat} {v1 v2 : Int} {G : SgM} {Q : Int → SgM → Prop} (h : sg_Wp 200 228 (d + 1) m_M_hushOf 20 [(0, 2, 200), (2, 0, v2), (3, 0, (-1)), (4, 0, 999), (5, 0, 0)] [] (sg_up (sg_up G 200 14 v1) 200 15 1) Q) : sg_Wp 200 228 (d + 1) m_M_hushOf 0 [(0, 2, 200), (1, 0, v1), (2, 0, v2)] [] G Q := by
  refine sg_blk [(7, (-1), 0, 0, 0), (25, 0, 0, 3, 0), (9, 999, 0, 0, 0), (26, 0, 0, 4, 0), (1, 0, 0, 0, 0), (3, 0, 0, 1, 0), (16, 0, 11, 92, 14), (1, 0, 0, 0, 0), (7, 1, 0, 0, 0), (16, 0, 11, 178, 15), (7, 0, 0, 0, 0), (26, 0, 0, 5, 0)] (by decide +kernel) ?_
  refine And.intro rfl (And.intro rfl (And.intro rfl (And.intro rfl (And.intro rfl (And.intro (Nat.le_of_ble_eq_true rfl) (And.intro rfl (And.intro ce_200 (And.intro (Nat.le_of_ble_eq_true rfl) (And.intro rfl (And.intro ce_200 (And.intro rfl (And.intro rfl (?_)))))))))))))
  show sg_Wp 200 228 (d + 1) m_M_hushOf 20 [(0, 2, 200), (1, 0, v1), (2, 0, v2), (3, 0, (-1)), (4, 0, 999), (5, 0, 0)] [] (sg_up (sg_up G 200 14 v1) 200 15 1) Q
  exact sg_Wp.keepk [0, 2, 3, 4, 5] rfl h
set_option maxRecDepth 100000 in
theorem g_M_hushOf_20 {d : Nat} {v2 v3 v4 v5 : Int} {G : SgM} {Q : Int → SgM → Prop} (h : ((G 200 9) ≤ v5 → ((v3 = ((-1)) → (Q v3 (sg_up G 200 14 ((-1))))) ∧ (¬ (v3 = ((-1))) → ((v2 ≠ 0 → (Q v4 (sg_up G 200 14 ((-1))))) ∧ (¬ (v2 ≠ 0) → (Q v3 (sg_up G 200 14 ((-1))))))))) ∧ (¬ ((G 200 9) ≤ v5) → (sg_Wp 200 228 d m_M_lives 0 [(0, 2, 200)] [] (sg_up G 200 16 v5) (fun r1 G1 => sg_Wp 200 228 d m_M_allNow 0 [(0, 2, 200)] [] G1 (fun r2 G2 => (v4 ≤ r2 → (sg_Wp 200 228 (d + 1) m_M_hushOf 20 [(0, 2, 200), (2, 0, v2), (3, 0, v3), (4, 0, sg_lss r2 v4), (5, 0, sg_iadd v5 1)] [] G2 Q)) ∧ (¬ (v4 ≤ r2) → (sg_Wp 200 228 (d + 1) m_M_hushOf 20 [(0, 2, 200), (2, 0, v2), (3, 0, v5), (4, 0, sg_lss r2 v4), (5, 0, sg_iadd v5 1)] [] G2 Q))))))) : sg_Wp 200 228 (d + 1) m_M_hushOf 20 [(0, 2, 200), (2, 0, v2), (3, 0, v3), (4, 0, v4), (5, 0, v5)] [] G Q := by
  refine sg_blk [(4, 0, 0, 5, 0), (1, 0, 0, 0, 0), (15, 0, 11, 140, 9)] (by decide +kernel) ?_
  refine And.intro rfl (And.intro (Nat.le_of_ble_eq_true rfl) (And.intro ce_200 (?_)))
  show sg_Wp 200 228 (d + 1) m_M_hushOf 26 [(0, 2, 200), (2, 0, v2), (3, 0, v3), (4, 0, v4), (5, 0, v5)] [(0, G 200 9), (0, v5)] G Q
  refine sg_icmp_ge (off := 48) (tgt := 74) (by decide +kernel) (by decide) ⟨fun q4 => ?_, fun q4 => ?_⟩
  · refine sg_blk [(1, 0, 0, 0, 0), (7, (-1), 0, 0, 0), (16, 0, 11, 92, 14), (3, 0, 0, 3, 0), (7, (-1), 0, 0, 0)] (by decide +kernel) ?_
    refine And.intro (Nat.le_of_ble_eq_true rfl) (And.intro rfl (And.intro ce_200 (And.intro rfl (And.intro rfl (?_)))))
    show sg_Wp 200 228 (d + 1) m_M_hushOf 81 [(0, 2, 200), (2, 0, v2), (3, 0, v3), (4, 0, v4), (5, 0, v5)] [(0, (-1)), (0, v3)] (sg_up G 200 14 ((-1))) Q
    refine sg_icmp_eq (off := 7) (tgt := 88) (by decide +kernel) (by decide) ⟨fun q2 => ?_, fun q2 => ?_⟩
    · refine sg_blk [(3, 0, 0, 3, 0)] (by decide +kernel) ?_
      refine And.intro rfl (?_)
      show sg_Wp 200 228 (d + 1) m_M_hushOf 89 [(0, 2, 200), (2, 0, v2), (3, 0, v3), (4, 0, v4), (5, 0, v5)] [(0, v3)] (sg_up G 200 14 ((-1))) Q
      refine sg_goto (off := 5) (tgt := 94) (by decide +kernel) (by decide) ?_
      exact sg_ret (by decide +kernel) rfl (Or.inl rfl) (((h.1 q4).1 q2))
    · refine sg_blk [(3, 0, 0, 2, 0)] (by decide +kernel) ?_
      refine And.intro rfl (?_)
      show sg_Wp 200 228 (d + 1) m_M_hushOf 85 [(0, 2, 200), (2, 0, v2), (3, 0, v3), (4, 0, v4), (5, 0, v5)] [(0, v2)] (sg_up G 200 14 ((-1))) Q
      refine sg_if_ne (off := 7) (tgt := 92) (by decide +kernel) (by decide) ⟨fun q1 => ?_, fun q1 => ?_⟩
      · refine sg_blk [(4, 0, 0, 4, 0)] (by decide +kernel) ?_
        refine And.intro rfl (?_)
        show sg_Wp 200 228 (d + 1) m_M_hushOf 94 [(0, 2, 200), (2, 0, v2), (3, 0, v3), (4, 0, v4), (5, 0, v5)] [(0, v4)] (sg_up G 200 14 ((-1))) Q
        exact sg_ret (by decide +kernel) rfl (Or.inl rfl) ((((h.1 q4).2 q2).1 q1))
      · refine sg_blk [(3, 0, 0, 3, 0)] (by decide +kernel) ?_
        refine And.intro rfl (?_)
        show sg_Wp 200 228 (d + 1) m_M_hushOf 89 [(0, 2, 200), (2, 0, v2), (3, 0, v3), (4, 0, v4), (5, 0, v5)] [(0, v3)] (sg_up G 200 14 ((-1))) Q
        refine sg_goto (off := 5) (tgt := 94) (by decide +kernel) (by decide) ?_
        exact sg_ret (by decide +kernel) rfl (Or.inl rfl) ((((h.1 q4).2 q2).2 q1))
  · refine sg_blk [(1, 0, 0, 0, 0), (4, 0, 0, 5, 0), (16, 0, 11, 181, 16), (1, 0, 0, 0, 0)] (by decide +kernel) ?_
    refine And.intro (Nat.le_of_ble_eq_true rfl) (And.intro rfl (And.intro ce_200 (And.intro (Nat.le_of_ble_eq_true rfl) (?_))))
    show sg_Wp 200 228 (d + 1) m_M_hushOf 36 [(0, 2, 200), (2, 0, v2), (3, 0, v3), (4, 0, v4), (5, 0, v5)] [(2, 200)] (sg_up G 200 16 v5) Q
    refine sg_callV (k := d) (y' := m_M_lives) (av := []) (rest := []) (b := 200) (by decide +kernel) cv_M_lives ml_11_214 ce_200 rfl rfl (Nat.le_of_ble_eq_true rfl) (Nat.lt_succ_self d) (Nat.le_of_ble_eq_true rfl) rfl ?_
    show sg_Wp 200 228 d m_M_lives 0 [(0, 2, 200)] [] (sg_up G 200 16 v5) _
    refine sg_Wp.mono ((h.2 q4)) (fun r1 G1 hhr1 => ?_)
    show sg_Wp 200 228 (d + 1) m_M_hushOf 39 [(0, 2, 200), (2, 0, v2), (3, 0, v3), (4, 0, v4), (5, 0, v5)] [] G1 Q
    refine sg_blk [(1, 0, 0, 0, 0)] (by decide +kernel) ?_
    refine And.intro (Nat.le_of_ble_eq_true rfl) (?_)
    show sg_Wp 200 228 (d + 1) m_M_hushOf 40 [(0, 2, 200), (2, 0, v2), (3, 0, v3), (4, 0, v4), (5, 0, v5)] [(2, 200)] G1 Q
    refine sg_callV (k := d) (y' := m_M_allNow) (av := []) (rest := []) (b := 200) (by decide +kernel) cv_M_allNow ml_11_238 ce_200 rfl rfl (Nat.le_of_ble_eq_true rfl) (Nat.lt_succ_self d) (Nat.le_of_ble_eq_true rfl) rfl ?_
    show sg_Wp 200 228 d m_M_allNow 0 [(0, 2, 200)] [] G1 _
    refine sg_Wp.mono hhr1 (fun r2 G2 hhr2 => ?_)
    show sg_Wp 200 228 (d + 1) m_M_hushOf 43 [(0, 2, 200), (2, 0, v2), (3, 0, v3), (4, 0, v4), (5, 0, v5)] [(0, r2)] G2 Q
    refine sg_blk [(26, 0, 0, 6, 0), (4, 0, 0, 6, 0), (4, 0, 0, 4, 0)] (by decide +kernel) ?_
    refine And.intro rfl (And.intro rfl (And.intro rfl (?_)))
    show sg_Wp 200 228 (d + 1) m_M_hushOf 49 [(0, 2, 200), (2, 0, v2), (3, 0, v3), (4, 0, v4), (5, 0, v5), (6, 0, r2)] [(0, v4), (0, r2)] G2 Q
    refine sg_icmp_ge (off := 8) (tgt := 57) (by decide +kernel) (by decide) ⟨fun q3 => ?_, fun q3 => ?_⟩
    · refine sg_blk [(3, 0, 0, 3, 0), (25, 0, 0, 3, 0), (4, 0, 0, 6, 0), (4, 0, 0, 4, 0)] (by decide +kernel) ?_
      refine And.intro rfl (And.intro rfl (And.intro rfl (And.intro rfl (?_))))
      show sg_Wp 200 228 (d + 1) m_M_hushOf 63 [(0, 2, 200), (2, 0, v2), (3, 0, v3), (4, 0, v4), (5, 0, v5), (6, 0, r2)] [(0, v4), (0, r2)] G2 Q
      refine sg_callS (k := d) (y' := m_M_lesser) (av := [(0, r2), (0, v4)]) (rest := []) (by decide +kernel) cs_M_lesser ml_11_247 rfl (Nat.le_of_ble_eq_true rfl) (Nat.lt_succ_self d) (Nat.le_of_ble_eq_true rfl) rfl ?_
      show sg_Wp 200 228 d m_M_lesser 0 [(0, 0, r2), (1, 0, v4)] [] G2 _
      refine s_M_lesser ?_
      show sg_Wp 200 228 (d + 1) m_M_hushOf 66 [(0, 2, 200), (2, 0, v2), (3, 0, v3), (4, 0, v4), (5, 0, v5), (6, 0, r2)] [(0, sg_lss r2 v4)] G2 Q
      refine sg_blk [(26, 0, 0, 4, 0), (31, 1, 0, 5, 0)] (by decide +kernel) ?_
      refine And.intro rfl (And.intro rfl (?_))
      show sg_Wp 200 228 (d + 1) m_M_hushOf 71 [(0, 2, 200), (2, 0, v2), (3, 0, v3), (4, 0, sg_lss r2 v4), (5, 0, sg_iadd v5 1), (6, 0, r2)] [] G2 Q
      refine sg_goto (off := -51) (tgt := 20) (by decide +kernel) (by decide) ?_
      exact sg_Wp.keepk [0, 1, 2, 3, 4] rfl ((hhr2.1 q3))
    · refine sg_blk [(4, 0, 0, 5, 0)] (by decide +kernel) ?_
      refine And.intro rfl (?_)
      show sg_Wp 200 228 (d + 1) m_M_hushOf 54 [(0, 2, 200), (2, 0, v2), (3, 0, v3), (4, 0, v4), (5, 0, v5), (6, 0, r2)] [(0, v5)] G2 Q
      refine sg_goto (off := 4) (tgt := 58) (by decide +kernel) (by decide) ?_
      refine sg_blk [(25, 0, 0, 3, 0), (4, 0, 0, 6, 0), (4, 0, 0, 4, 0)] (by decide +kernel) ?_
      refine And.intro rfl (And.intro rfl (And.intro rfl (?_)))
      show sg_Wp 200 228 (d + 1) m_M_hushOf 63 [(0, 2, 200), (2, 0, v2), (3, 0, v5), (4, 0, v4), (5, 0, v5), (6, 0, r2)] [(0, v4), (0, r2)] G2 Q
      refine sg_callS (k := d) (y' := m_M_lesser) (av := [(0, r2), (0, v4)]) (rest := []) (by decide +kernel) cs_M_lesser ml_11_247 rfl (Nat.le_of_ble_eq_true rfl) (Nat.lt_succ_self d) (Nat.le_of_ble_eq_true rfl) rfl ?_
      show sg_Wp 200 228 d m_M_lesser 0 [(0, 0, r2), (1, 0, v4)] [] G2 _
      refine s_M_lesser ?_
      show sg_Wp 200 228 (d + 1) m_M_hushOf 66 [(0, 2, 200), (2, 0, v2), (3, 0, v5), (4, 0, v4), (5, 0, v5), (6, 0, r2)] [(0, sg_lss r2 v4)] G2 Q
      refine sg_blk [(26, 0, 0, 4, 0), (31, 1, 0, 5, 0)] (by decide +kernel) ?_
      refine And.intro rfl (And.intro rfl (?_))
      show sg_Wp 200 228 (d + 1) m_M_hushOf 71 [(0, 2, 200), (2, 0, v2), (3, 0, v5), (4, 0, sg_lss r2 v4), (5, 0, sg_iadd v5 1), (6, 0, r2)] [] G2 Q
      refine sg_goto (off := -51) (tgt := 20) (by decide +kernel) (by decide) ?_
      exact sg_Wp.keepk [0, 1, 2, 3, 4] rfl ((hhr2.2 q3))
set_option maxRecDepth 100000 in
theorem g_M_isSpared_0 {d : Nat} {v1 : Int} {G : SgM} {Q : Int → SgM → Prop} (h : sg_Wp 200 228 d m_M_lives 0 [(0, 2, 200)] [] (sg_up G 200 13 v1) (fun r1 G1 => sg_Wp 200 228 d m_M_forgottenNow 0 [(0, 2, 200)] [] (sg_up G1 200 13 0) (fun r2 G2 => (r2 ≠ 0 → (Q 0 G2)) ∧ (¬ (r2 ≠ 0) → (Q 1 G2))))) : sg_Wp 200 228 (d + 1) m_M_isSpared 0 [(0, 2, 200), (1, 0, v1)] [] G Q := by
  refine sg_blk [(1, 0, 0, 0, 0), (3, 0, 0, 1, 0), (16, 0, 11, 184, 13), (1, 0, 0, 0, 0)] (by decide +kernel) ?_
  refine And.intro (Nat.le_of_ble_eq_true rfl) (And.intro rfl (And.intro ce_200 (And.intro (Nat.le_of_ble_eq_true rfl) (?_))))
  show sg_Wp 200 228 (d + 1) m_M_isSpared 6 [(0, 2, 200), (1, 0, v1)] [(2, 200)] (sg_up G 200 13 v1) Q
  refine sg_callV (k := d) (y' := m_M_lives) (av := []) (rest := []) (b := 200) (by decide +kernel) cv_M_lives ml_11_214 ce_200 rfl rfl (Nat.le_of_ble_eq_true rfl) (Nat.lt_succ_self d) (Nat.le_of_ble_eq_true rfl) rfl ?_
  show sg_Wp 200 228 d m_M_lives 0 [(0, 2, 200)] [] (sg_up G 200 13 v1) _
  refine sg_Wp.mono h (fun r1 G1 hhr1 => ?_)
  show sg_Wp 200 228 (d + 1) m_M_isSpared 9 [(0, 2, 200), (1, 0, v1)] [] G1 Q
  refine sg_blk [(1, 0, 0, 0, 0), (7, 0, 0, 0, 0), (16, 0, 11, 184, 13), (1, 0, 0, 0, 0)] (by decide +kernel) ?_
  refine And.intro (Nat.le_of_ble_eq_true rfl) (And.intro rfl (And.intro ce_200 (And.intro (Nat.le_of_ble_eq_true rfl) (?_))))
  show sg_Wp 200 228 (d + 1) m_M_isSpared 15 [(0, 2, 200), (1, 0, v1)] [(2, 200)] (sg_up G1 200 13 0) Q
  refine sg_callV (k := d) (y' := m_M_forgottenNow) (av := []) (rest := []) (b := 200) (by decide +kernel) cv_M_forgottenNow ml_11_229 ce_200 rfl rfl (Nat.le_of_ble_eq_true rfl) (Nat.lt_succ_self d) (Nat.le_of_ble_eq_true rfl) rfl ?_
  show sg_Wp 200 228 d m_M_forgottenNow 0 [(0, 2, 200)] [] (sg_up G1 200 13 0) _
  refine sg_Wp.mono hhr1 (fun r2 G2 hhr2 => ?_)
  show sg_Wp 200 228 (d + 1) m_M_isSpared 18 [(0, 2, 200), (1, 0, v1)] [(0, r2)] G2 Q
  refine sg_if_ne (off := 7) (tgt := 25) (by decide +kernel) (by decide) ⟨fun q1 => ?_, fun q1 => ?_⟩
  · refine sg_blk [(7, 0, 0, 0, 0)] (by decide +kernel) ?_
    refine And.intro rfl (?_)
    show sg_Wp 200 228 (d + 1) m_M_isSpared 26 [(0, 2, 200), (1, 0, v1)] [(0, 0)] G2 Q
    exact sg_ret (by decide +kernel) rfl (Or.inr ⟨Or.inl rfl, by decide⟩) ((hhr2.1 q1))
  · refine sg_blk [(7, 1, 0, 0, 0)] (by decide +kernel) ?_
    refine And.intro rfl (?_)
    show sg_Wp 200 228 (d + 1) m_M_isSpared 22 [(0, 2, 200), (1, 0, v1)] [(0, 1)] G2 Q
    refine sg_goto (off := 4) (tgt := 26) (by decide +kernel) (by decide) ?_
    exact sg_ret (by decide +kernel) rfl (Or.inr ⟨Or.inl rfl, by decide⟩) ((hhr2.2 q1))
set_option maxRecDepth 100000 in
theorem g_M_longest_0 {d : Nat} {v1 : Int} {G : SgM} {Q : Int → SgM → Prop} (h : sg_Wp 200 228 d m_M_find 0 [(0, 2, 200)] [] G (fun r1 G1 => ((0 ≤ v1 ∧ v1 ≤ 2) → (sg_Wp 200 228 d m_M_longestBy 0 [(0, 2, 200), (1, 0, v1)] [] G1 (fun r2 G2 => Q r2 G2))) ∧ (¬ (0 ≤ v1 ∧ v1 ≤ 2) → (Q ((-2)) G1)))) : sg_Wp 200 228 (d + 1) m_M_longest 0 [(0, 2, 200), (1, 0, v1)] [] G Q := by
  refine sg_blk [(1, 0, 0, 0, 0)] (by decide +kernel) ?_
  refine And.intro (Nat.le_of_ble_eq_true rfl) (?_)
  show sg_Wp 200 228 (d + 1) m_M_longest 1 [(0, 2, 200), (1, 0, v1)] [(2, 200)] G Q
  refine sg_callV (k := d) (y' := m_M_find) (av := []) (rest := []) (b := 200) (by decide +kernel) cv_M_find ml_11_217 ce_200 rfl rfl (Nat.le_of_ble_eq_true rfl) (Nat.lt_succ_self d) (Nat.le_of_ble_eq_true rfl) rfl ?_
  show sg_Wp 200 228 d m_M_find 0 [(0, 2, 200)] [] G _
  refine sg_Wp.mono h (fun r1 G1 hhr1 => ?_)
  show sg_Wp 200 228 (d + 1) m_M_longest 4 [(0, 2, 200), (1, 0, v1)] [] G1 Q
  refine sg_blk [(3, 0, 0, 1, 0), (53, 0, 0, 0, 0), (10, 0, 0, 0, 0), (12, 2, 0, 111, 0)] (by decide +kernel) ?_
  refine And.intro rfl (And.intro rfl (?_))
  show sg_Wp 200 228 (d + 1) m_M_longest 10 [(0, 2, 200), (1, 0, v1)] [(1, 2), (1, 0), (1, v1)] G1 Q
  refine sg_callS (k := d) (y' := m_M_in) (av := [(1, v1), (1, 0), (1, 2)]) (rest := []) (by decide +kernel) cs_M_in ml_11_98 rfl (Nat.le_of_ble_eq_true rfl) (Nat.lt_succ_self d) (Nat.le_of_ble_eq_true rfl) rfl ?_
  show sg_Wp 200 228 d m_M_in 0 [(0, 1, v1), (2, 1, 0), (4, 1, 2)] [] G1 _
  refine s_M_in ?_
  show sg_Wp 200 228 (d + 1) m_M_longest 13 [(0, 2, 200), (1, 0, v1)] [(0, sg_bo (0 ≤ v1 ∧ v1 ≤ 2))] G1 Q
  refine sg_bif_eq (off := 11) (tgt := 24) (by decide +kernel) (by decide) ⟨fun q1 => ?_, fun q1 => ?_⟩
  · refine sg_blk [(1, 0, 0, 0, 0), (3, 0, 0, 1, 0)] (by decide +kernel) ?_
    refine And.intro (Nat.le_of_ble_eq_true rfl) (And.intro rfl (?_))
    show sg_Wp 200 228 (d + 1) m_M_longest 18 [(0, 2, 200), (1, 0, v1)] [(0, v1), (2, 200)] G1 Q
    refine sg_callV (k := d) (y' := m_M_longestBy) (av := [(0, v1)]) (rest := []) (b := 200) (by decide +kernel) cv_M_longestBy ml_11_235 ce_200 rfl rfl (Nat.le_of_ble_eq_true rfl) (Nat.lt_succ_self d) (Nat.le_of_ble_eq_true rfl) rfl ?_
    show sg_Wp 200 228 d m_M_longestBy 0 [(0, 2, 200), (1, 0, v1)] [] G1 _
    refine sg_Wp.mono ((hhr1.1 q1)) (fun r2 G2 hhr2 => ?_)
    show sg_Wp 200 228 (d + 1) m_M_longest 21 [(0, 2, 200), (1, 0, v1)] [(0, r2)] G2 Q
    refine sg_goto (off := 5) (tgt := 26) (by decide +kernel) (by decide) ?_
    exact sg_ret (by decide +kernel) rfl (Or.inl rfl) hhr2
  · refine sg_blk [(8, (-2), 0, 0, 0)] (by decide +kernel) ?_
    refine And.intro rfl (And.intro rfl (?_))
    show sg_Wp 200 228 (d + 1) m_M_longest 26 [(0, 2, 200), (1, 0, v1)] [(0, (-2))] G1 Q
    exact sg_ret (by decide +kernel) rfl (Or.inl rfl) ((hhr1.2 q1))
set_option maxRecDepth 100000 in
theorem g_M_longestBy_0 {d : Nat} {v1 : Int} {G : SgM} {Q : Int → SgM → Prop} (h : sg_Wp 200 228 (d + 1) m_M_longestBy 7 [(0, 2, 200), (1, 0, v1), (2, 0, (-1)), (3, 0, (-1)), (4, 0, 0)] [] G Q) : sg_Wp 200 228 (d + 1) m_M_longestBy 0 [(0, 2, 200), (1, 0, v1)] [] G Q := by
  refine sg_blk [(7, (-1), 0, 0, 0), (25, 0, 0, 2, 0), (7, (-1), 0, 0, 0), (25, 0, 0, 3, 0), (7, 0, 0, 0, 0), (26, 0, 0, 4, 0)] (by decide +kernel) ?_
  refine And.intro rfl (And.intro rfl (And.intro rfl (And.intro rfl (And.intro rfl (And.intro rfl (?_))))))
  show sg_Wp 200 228 (d + 1) m_M_longestBy 7 [(0, 2, 200), (1, 0, v1), (2, 0, (-1)), (3, 0, (-1)), (4, 0, 0)] [] G Q
  exact h
set_option maxRecDepth 100000 in
theorem g_M_longestBy_7 {d : Nat} {v1 v2 v3 v4 : Int} {G : SgM} {Q : Int → SgM → Prop} (h : (24 ≤ v4 → ((v2 ≠ ((-1)) → ((v1 ≠ 0 → ((v1 ≠ 1 → (Q v3 G)) ∧ (¬ (v1 ≠ 1) → (Q (sg_irem v2 8) G)))) ∧ (¬ (v1 ≠ 0) → (Q (sg_idiv v2 8) G)))) ∧ (¬ (v2 ≠ ((-1))) → (Q ((-1)) G)))) ∧ (¬ (24 ≤ v4) → (sg_Wp 200 228 (d + 1) m_M_longestBy 17 [(0, 2, 200), (1, 0, v1), (2, 0, v2), (3, 0, v3), (4, 0, v4), (5, 0, 0)] [] G Q))) : sg_Wp 200 228 (d + 1) m_M_longestBy 7 [(0, 2, 200), (1, 0, v1), (2, 0, v2), (3, 0, v3), (4, 0, v4)] [] G Q := by
  refine sg_blk [(4, 0, 0, 4, 0), (8, 24, 0, 0, 0)] (by decide +kernel) ?_
  refine And.intro rfl (And.intro rfl (And.intro rfl (?_)))
  show sg_Wp 200 228 (d + 1) m_M_longestBy 11 [(0, 2, 200), (1, 0, v1), (2, 0, v2), (3, 0, v3), (4, 0, v4)] [(0, 24), (0, v4)] G Q
  refine sg_icmp_ge (off := 68) (tgt := 79) (by decide +kernel) (by decide) ⟨fun q4 => ?_, fun q4 => ?_⟩
  · refine sg_blk [(3, 0, 0, 2, 0), (7, (-1), 0, 0, 0)] (by decide +kernel) ?_
    refine And.intro rfl (And.intro rfl (?_))
    show sg_Wp 200 228 (d + 1) m_M_longestBy 81 [(0, 2, 200), (1, 0, v1), (2, 0, v2), (3, 0, v3), (4, 0, v4)] [(0, (-1)), (0, v2)] G Q
    refine sg_icmp_ne (off := 7) (tgt := 88) (by decide +kernel) (by decide) ⟨fun q3 => ?_, fun q3 => ?_⟩
    · refine sg_blk [(3, 0, 0, 1, 0)] (by decide +kernel) ?_
      refine And.intro rfl (?_)
      show sg_Wp 200 228 (d + 1) m_M_longestBy 89 [(0, 2, 200), (1, 0, v1), (2, 0, v2), (3, 0, v3), (4, 0, v4)] [(0, v1)] G Q
      refine sg_if_ne (off := 10) (tgt := 99) (by decide +kernel) (by decide) ⟨fun q2 => ?_, fun q2 => ?_⟩
      · refine sg_blk [(3, 0, 0, 1, 0), (7, 1, 0, 0, 0)] (by decide +kernel) ?_
        refine And.intro rfl (And.intro rfl (?_))
        show sg_Wp 200 228 (d + 1) m_M_longestBy 101 [(0, 2, 200), (1, 0, v1), (2, 0, v2), (3, 0, v3), (4, 0, v4)] [(0, 1), (0, v1)] G Q
        refine sg_icmp_ne (off := 10) (tgt := 111) (by decide +kernel) (by decide) ⟨fun q1 => ?_, fun q1 => ?_⟩
        · refine sg_blk [(3, 0, 0, 3, 0)] (by decide +kernel) ?_
          refine And.intro rfl (?_)
          show sg_Wp 200 228 (d + 1) m_M_longestBy 112 [(0, 2, 200), (1, 0, v1), (2, 0, v2), (3, 0, v3), (4, 0, v4)] [(0, v3)] G Q
          exact sg_ret (by decide +kernel) rfl (Or.inl rfl) (((((h.1 q4).1 q3).1 q2).1 q1))
        · refine sg_blk [(3, 0, 0, 2, 0), (8, 8, 0, 0, 0), (36, 0, 0, 0, 0)] (by decide +kernel) ?_
          refine And.intro rfl (And.intro rfl (And.intro rfl (And.intro (by decide) (?_))))
          show sg_Wp 200 228 (d + 1) m_M_longestBy 108 [(0, 2, 200), (1, 0, v1), (2, 0, v2), (3, 0, v3), (4, 0, v4)] [(0, sg_irem v2 8)] G Q
          refine sg_goto (off := 4) (tgt := 112) (by decide +kernel) (by decide) ?_
          exact sg_ret (by decide +kernel) rfl (Or.inl rfl) (((((h.1 q4).1 q3).1 q2).2 q1))
      · refine sg_blk [(3, 0, 0, 2, 0), (8, 8, 0, 0, 0), (35, 0, 0, 0, 0)] (by decide +kernel) ?_
        refine And.intro rfl (And.intro rfl (And.intro rfl (And.intro (by decide) (?_))))
        show sg_Wp 200 228 (d + 1) m_M_longestBy 96 [(0, 2, 200), (1, 0, v1), (2, 0, v2), (3, 0, v3), (4, 0, v4)] [(0, sg_idiv v2 8)] G Q
        refine sg_goto (off := 16) (tgt := 112) (by decide +kernel) (by decide) ?_
        exact sg_ret (by decide +kernel) rfl (Or.inl rfl) ((((h.1 q4).1 q3).2 q2))
    · refine sg_blk [(7, (-1), 0, 0, 0)] (by decide +kernel) ?_
      refine And.intro rfl (?_)
      show sg_Wp 200 228 (d + 1) m_M_longestBy 85 [(0, 2, 200), (1, 0, v1), (2, 0, v2), (3, 0, v3), (4, 0, v4)] [(0, (-1))] G Q
      refine sg_goto (off := 27) (tgt := 112) (by decide +kernel) (by decide) ?_
      exact sg_ret (by decide +kernel) rfl (Or.inl rfl) (((h.1 q4).2 q3))
  · refine sg_blk [(7, 0, 0, 0, 0), (26, 0, 0, 5, 0)] (by decide +kernel) ?_
    refine And.intro rfl (And.intro rfl (?_))
    show sg_Wp 200 228 (d + 1) m_M_longestBy 17 [(0, 2, 200), (1, 0, v1), (2, 0, v2), (3, 0, v3), (4, 0, v4), (5, 0, 0)] [] G Q
    exact (h.2 q4)
set_option maxRecDepth 100000 in
theorem g_M_longestBy_17 {d : Nat} {v1 v2 v3 v4 v5 : Int} {G : SgM} {Q : Int → SgM → Prop} (h : ((G 200 7) ≤ v5 → (sg_Wp 200 228 (d + 1) m_M_longestBy 7 [(0, 2, 200), (1, 0, v1), (2, 0, v2), (3, 0, v3), (4, 0, sg_iadd v4 1)] [] G Q)) ∧ (¬ ((G 200 7) ≤ v5) → ((0 ≤ (sg_iadd (sg_imul 8 v4) v5) ∧ (sg_iadd (sg_imul 8 v4) v5) < 192) ∧ (((G 222 (sg_iadd (sg_imul 8 v4) v5)) ≤ v3 → (sg_Wp 200 228 (d + 1) m_M_longestBy 17 [(0, 2, 200), (1, 0, v1), (2, 0, v2), (3, 0, sg_grt (G 222 (sg_iadd (sg_imul 8 v4) v5)) v3), (4, 0, v4), (5, 0, sg_iadd v5 1)] [] G Q)) ∧ (¬ ((G 222 (sg_iadd (sg_imul 8 v4) v5)) ≤ v3) → (sg_Wp 200 228 (d + 1) m_M_longestBy 17 [(0, 2, 200), (1, 0, v1), (2, 0, sg_iadd (sg_imul 8 v4) v5), (3, 0, sg_grt (G 222 (sg_iadd (sg_imul 8 v4) v5)) v3), (4, 0, v4), (5, 0, sg_iadd v5 1)] [] G Q)))))) : sg_Wp 200 228 (d + 1) m_M_longestBy 17 [(0, 2, 200), (1, 0, v1), (2, 0, v2), (3, 0, v3), (4, 0, v4), (5, 0, v5)] [] G Q := by
  refine sg_blk [(4, 0, 0, 5, 0), (1, 0, 0, 0, 0), (15, 0, 11, 134, 7)] (by decide +kernel) ?_
  refine And.intro rfl (And.intro (Nat.le_of_ble_eq_true rfl) (And.intro ce_200 (?_)))
  show sg_Wp 200 228 (d + 1) m_M_longestBy 23 [(0, 2, 200), (1, 0, v1), (2, 0, v2), (3, 0, v3), (4, 0, v4), (5, 0, v5)] [(0, G 200 7), (0, v5)] G Q
  refine sg_icmp_ge (off := 50) (tgt := 73) (by decide +kernel) (by decide) ⟨fun q6 => ?_, fun q6 => ?_⟩
  · refine sg_blk [(31, 1, 0, 4, 0)] (by decide +kernel) ?_
    refine And.intro rfl (?_)
    show sg_Wp 200 228 (d + 1) m_M_longestBy 76 [(0, 2, 200), (1, 0, v1), (2, 0, v2), (3, 0, v3), (4, 0, sg_iadd v4 1), (5, 0, v5)] [] G Q
    refine sg_goto (off := -69) (tgt := 7) (by decide +kernel) (by decide) ?_
    exact sg_Wp.keepk [0, 1, 2, 3, 4] rfl ((h.1 q6))
  · refine sg_blk [(1, 0, 0, 0, 0), (65, 222, 11, 74, 29), (8, 8, 0, 0, 0), (4, 0, 0, 4, 0), (34, 0, 0, 0, 0), (4, 0, 0, 5, 0), (32, 0, 0, 0, 0), (17, 192, 0, 0, 0), (26, 0, 0, 6, 0), (4, 0, 0, 6, 0), (3, 0, 0, 3, 0)] (by decide +kernel) ?_
    refine And.intro (Nat.le_of_ble_eq_true rfl) (And.intro ce_200 (And.intro rr_200_29 (And.intro rfl (And.intro rfl (And.intro rfl (And.intro rfl (And.intro ce_222 (And.intro (h.2 q6).1 (And.intro rfl (And.intro rfl (And.intro rfl (?_))))))))))))
    show sg_Wp 200 228 (d + 1) m_M_longestBy 44 [(0, 2, 200), (1, 0, v1), (2, 0, v2), (3, 0, v3), (4, 0, v4), (5, 0, v5), (6, 0, G 222 (sg_iadd (sg_imul 8 v4) v5))] [(0, v3), (0, G 222 (sg_iadd (sg_imul 8 v4) v5))] G Q
    refine sg_icmp_le (off := 14) (tgt := 58) (by decide +kernel) (by decide) ⟨fun q5 => ?_, fun q5 => ?_⟩
    · refine sg_blk [(3, 0, 0, 2, 0), (25, 0, 0, 2, 0), (4, 0, 0, 6, 0), (3, 0, 0, 3, 0)] (by decide +kernel) ?_
      refine And.intro rfl (And.intro rfl (And.intro rfl (And.intro rfl (?_))))
      show sg_Wp 200 228 (d + 1) m_M_longestBy 63 [(0, 2, 200), (1, 0, v1), (2, 0, v2), (3, 0, v3), (4, 0, v4), (5, 0, v5), (6, 0, G 222 (sg_iadd (sg_imul 8 v4) v5))] [(0, v3), (0, G 222 (sg_iadd (sg_imul 8 v4) v5))] G Q
      refine sg_callS (k := d) (y' := m_M_greater) (av := [(0, G 222 (sg_iadd (sg_imul 8 v4) v5)), (0, v3)]) (rest := []) (by decide +kernel) cs_M_greater ml_11_232 rfl (Nat.le_of_ble_eq_true rfl) (Nat.lt_succ_self d) (Nat.le_of_ble_eq_true rfl) rfl ?_
      show sg_Wp 200 228 d m_M_greater 0 [(0, 0, G 222 (sg_iadd (sg_imul 8 v4) v5)), (1, 0, v3)] [] G _
      refine s_M_greater ?_
      show sg_Wp 200 228 (d + 1) m_M_longestBy 66 [(0, 2, 200), (1, 0, v1), (2, 0, v2), (3, 0, v3), (4, 0, v4), (5, 0, v5), (6, 0, G 222 (sg_iadd (sg_imul 8 v4) v5))] [(0, sg_grt (G 222 (sg_iadd (sg_imul 8 v4) v5)) v3)] G Q
      refine sg_blk [(25, 0, 0, 3, 0), (31, 1, 0, 5, 0)] (by decide +kernel) ?_
      refine And.intro rfl (And.intro rfl (?_))
      show sg_Wp 200 228 (d + 1) m_M_longestBy 70 [(0, 2, 200), (1, 0, v1), (2, 0, v2), (3, 0, sg_grt (G 222 (sg_iadd (sg_imul 8 v4) v5)) v3), (4, 0, v4), (5, 0, sg_iadd v5 1), (6, 0, G 222 (sg_iadd (sg_imul 8 v4) v5))] [] G Q
      refine sg_goto (off := -53) (tgt := 17) (by decide +kernel) (by decide) ?_
      exact sg_Wp.keepk [0, 1, 2, 3, 4, 5] rfl (((h.2 q6).2.1 q5))
    · refine sg_blk [(8, 8, 0, 0, 0), (4, 0, 0, 4, 0), (34, 0, 0, 0, 0), (4, 0, 0, 5, 0), (32, 0, 0, 0, 0)] (by decide +kernel) ?_
      refine And.intro rfl (And.intro rfl (And.intro rfl (And.intro rfl (?_))))
      show sg_Wp 200 228 (d + 1) m_M_longestBy 55 [(0, 2, 200), (1, 0, v1), (2, 0, v2), (3, 0, v3), (4, 0, v4), (5, 0, v5), (6, 0, G 222 (sg_iadd (sg_imul 8 v4) v5))] [(0, sg_iadd (sg_imul 8 v4) v5)] G Q
      refine sg_goto (off := 4) (tgt := 59) (by decide +kernel) (by decide) ?_
      refine sg_blk [(25, 0, 0, 2, 0), (4, 0, 0, 6, 0), (3, 0, 0, 3, 0)] (by decide +kernel) ?_
      refine And.intro rfl (And.intro rfl (And.intro rfl (?_)))
      show sg_Wp 200 228 (d + 1) m_M_longestBy 63 [(0, 2, 200), (1, 0, v1), (2, 0, sg_iadd (sg_imul 8 v4) v5), (3, 0, v3), (4, 0, v4), (5, 0, v5), (6, 0, G 222 (sg_iadd (sg_imul 8 v4) v5))] [(0, v3), (0, G 222 (sg_iadd (sg_imul 8 v4) v5))] G Q
      refine sg_callS (k := d) (y' := m_M_greater) (av := [(0, G 222 (sg_iadd (sg_imul 8 v4) v5)), (0, v3)]) (rest := []) (by decide +kernel) cs_M_greater ml_11_232 rfl (Nat.le_of_ble_eq_true rfl) (Nat.lt_succ_self d) (Nat.le_of_ble_eq_true rfl) rfl ?_
      show sg_Wp 200 228 d m_M_greater 0 [(0, 0, G 222 (sg_iadd (sg_imul 8 v4) v5)), (1, 0, v3)] [] G _
      refine s_M_greater ?_
      show sg_Wp 200 228 (d + 1) m_M_longestBy 66 [(0, 2, 200), (1, 0, v1), (2, 0, sg_iadd (sg_imul 8 v4) v5), (3, 0, v3), (4, 0, v4), (5, 0, v5), (6, 0, G 222 (sg_iadd (sg_imul 8 v4) v5))] [(0, sg_grt (G 222 (sg_iadd (sg_imul 8 v4) v5)) v3)] G Q
      refine sg_blk [(25, 0, 0, 3, 0), (31, 1, 0, 5, 0)] (by decide +kernel) ?_
      refine And.intro rfl (And.intro rfl (?_))
      show sg_Wp 200 228 (d + 1) m_M_longestBy 70 [(0, 2, 200), (1, 0, v1), (2, 0, sg_iadd (sg_imul 8 v4) v5), (3, 0, sg_grt (G 222 (sg_iadd (sg_imul 8 v4) v5)) v3), (4, 0, v4), (5, 0, sg_iadd v5 1), (6, 0, G 222 (sg_iadd (sg_imul 8 v4) v5))] [] G Q
      refine sg_goto (off := -53) (tgt := 17) (by decide +kernel) (by decide) ?_
      exact sg_Wp.keepk [0, 1, 2, 3, 4, 5] rfl (((h.2 q6).2.2 q5))
set_option maxRecDepth 100000 in
theorem g_M_quiet_0 {d : Nat} {G : SgM} {Q : Int → SgM → Prop} (h : sg_Wp 200 228 d m_M_find 0 [(0, 2, 200)] [] G (fun r1 G1 => sg_Wp 200 228 d m_M_quietNow 0 [(0, 2, 200)] [] G1 (fun r2 G2 => Q r2 G2))) : sg_Wp 200 228 (d + 1) m_M_quiet 0 [(0, 2, 200)] [] G Q := by
  refine sg_blk [(1, 0, 0, 0, 0)] (by decide +kernel) ?_
  refine And.intro (Nat.le_of_ble_eq_true rfl) (?_)
  show sg_Wp 200 228 (d + 1) m_M_quiet 1 [(0, 2, 200)] [(2, 200)] G Q
  refine sg_callV (k := d) (y' := m_M_find) (av := []) (rest := []) (b := 200) (by decide +kernel) cv_M_find ml_11_217 ce_200 rfl rfl (Nat.le_of_ble_eq_true rfl) (Nat.lt_succ_self d) (Nat.le_of_ble_eq_true rfl) rfl ?_
  show sg_Wp 200 228 d m_M_find 0 [(0, 2, 200)] [] G _
  refine sg_Wp.mono h (fun r1 G1 hhr1 => ?_)
  show sg_Wp 200 228 (d + 1) m_M_quiet 4 [(0, 2, 200)] [] G1 Q
  refine sg_blk [(1, 0, 0, 0, 0)] (by decide +kernel) ?_
  refine And.intro (Nat.le_of_ble_eq_true rfl) (?_)
  show sg_Wp 200 228 (d + 1) m_M_quiet 5 [(0, 2, 200)] [(2, 200)] G1 Q
  refine sg_callV (k := d) (y' := m_M_quietNow) (av := []) (rest := []) (b := 200) (by decide +kernel) cv_M_quietNow ml_11_244 ce_200 rfl rfl (Nat.le_of_ble_eq_true rfl) (Nat.lt_succ_self d) (Nat.le_of_ble_eq_true rfl) rfl ?_
  show sg_Wp 200 228 d m_M_quietNow 0 [(0, 2, 200)] [] G1 _
  refine sg_Wp.mono hhr1 (fun r2 G2 hhr2 => ?_)
  show sg_Wp 200 228 (d + 1) m_M_quiet 8 [(0, 2, 200)] [(0, r2)] G2 Q
  exact sg_ret (by decide +kernel) rfl (Or.inl rfl) hhr2
set_option maxRecDepth 100000 in
theorem g_M_quietNow_0 {d : Nat} {G : SgM} {Q : Int → SgM → Prop} (h : sg_Wp 200 228 d m_M_quietNow 4 [(0, 2, 200), (1, 0, 0), (2, 0, 0)] [] G Q) : sg_Wp 200 228 d m_M_quietNow 0 [(0, 2, 200)] [] G Q := by
  refine sg_blk [(7, 0, 0, 0, 0), (25, 0, 0, 1, 0), (7, 0, 0, 0, 0), (25, 0, 0, 2, 0)] (by decide +kernel) ?_
  refine And.intro rfl (And.intro rfl (And.intro rfl (And.intro rfl (?_))))
  show sg_Wp 200 228 d m_M_quietNow 4 [(0, 2, 200), (1, 0, 0), (2, 0, 0)] [] G Q
  exact h
set_option maxRecDepth 100000 in
theorem g_M_quietNow_4 {d : Nat} {v1 v2 : Int} {G : SgM} {Q : Int → SgM → Prop} (h : ((G 200 9) ≤ v2 → (Q v1 G)) ∧ (¬ ((G 200 9) ≤ v2) → ((0 ≤ v2 ∧ v2 < 6) ∧ (((G 214 v2) ≠ 0 → (sg_Wp 200 228 d m_M_quietNow 4 [(0, 2, 200), (1, 0, sg_ior v1 0), (2, 0, sg_iadd v2 1)] [] G Q)) ∧ (¬ ((G 214 v2) ≠ 0) → (sg_Wp 200 228 d m_M_quietNow 4 [(0, 2, 200), (1, 0, sg_ior v1 (sg_ishl 1 v2)), (2, 0, sg_iadd v2 1)] [] G Q)))))) : sg_Wp 200 228 d m_M_quietNow 4 [(0, 2, 200), (1, 0, v1), (2, 0, v2)] [] G Q := by
  refine sg_blk [(3, 0, 0, 2, 0), (1, 0, 0, 0, 0), (15, 0, 11, 140, 9)] (by decide +kernel) ?_
  refine And.intro rfl (And.intro (Nat.le_of_ble_eq_true rfl) (And.intro ce_200 (?_)))
  show sg_Wp 200 228 d m_M_quietNow 9 [(0, 2, 200), (1, 0, v1), (2, 0, v2)] [(0, G 200 9), (0, v2)] G Q
  refine sg_icmp_ge (off := 28) (tgt := 37) (by decide +kernel) (by decide) ⟨fun q2 => ?_, fun q2 => ?_⟩
  · refine sg_blk [(3, 0, 0, 1, 0)] (by decide +kernel) ?_
    refine And.intro rfl (?_)
    show sg_Wp 200 228 d m_M_quietNow 38 [(0, 2, 200), (1, 0, v1), (2, 0, v2)] [(0, v1)] G Q
    exact sg_ret (by decide +kernel) rfl (Or.inl rfl) ((h.1 q2))
  · refine sg_blk [(3, 0, 0, 1, 0), (1, 0, 0, 0, 0), (65, 214, 11, 50, 21), (3, 0, 0, 2, 0), (17, 6, 0, 0, 0)] (by decide +kernel) ?_
    refine And.intro rfl (And.intro (Nat.le_of_ble_eq_true rfl) (And.intro ce_200 (And.intro rr_200_21 (And.intro rfl (And.intro ce_214 (And.intro (h.2 q2).1 (?_)))))))
    show sg_Wp 200 228 d m_M_quietNow 19 [(0, 2, 200), (1, 0, v1), (2, 0, v2)] [(0, G 214 v2), (0, v1)] G Q
    refine sg_if_ne (off := 9) (tgt := 28) (by decide +kernel) (by decide) ⟨fun q1 => ?_, fun q1 => ?_⟩
    · refine sg_blk [(7, 0, 0, 0, 0), (39, 0, 0, 0, 0), (25, 0, 0, 1, 0), (31, 1, 0, 2, 0)] (by decide +kernel) ?_
      refine And.intro rfl (And.intro rfl (And.intro rfl (?_)))
      show sg_Wp 200 228 d m_M_quietNow 34 [(0, 2, 200), (1, 0, sg_ior v1 0), (2, 0, sg_iadd v2 1)] [] G Q
      refine sg_goto (off := -30) (tgt := 4) (by decide +kernel) (by decide) ?_
      exact ((h.2 q2).2.1 q1)
    · refine sg_blk [(7, 1, 0, 0, 0), (3, 0, 0, 2, 0), (41, 0, 0, 0, 0)] (by decide +kernel) ?_
      refine And.intro rfl (And.intro rfl (?_))
      show sg_Wp 200 228 d m_M_quietNow 25 [(0, 2, 200), (1, 0, v1), (2, 0, v2)] [(0, sg_ishl 1 v2), (0, v1)] G Q
      refine sg_goto (off := 4) (tgt := 29) (by decide +kernel) (by decide) ?_
      refine sg_blk [(39, 0, 0, 0, 0), (25, 0, 0, 1, 0), (31, 1, 0, 2, 0)] (by decide +kernel) ?_
      refine And.intro rfl (And.intro rfl (?_))
      show sg_Wp 200 228 d m_M_quietNow 34 [(0, 2, 200), (1, 0, sg_ior v1 (sg_ishl 1 v2)), (2, 0, sg_iadd v2 1)] [] G Q
      refine sg_goto (off := -30) (tgt := 4) (by decide +kernel) (by decide) ?_
      exact ((h.2 q2).2.2 q1)
set_option maxRecDepth 100000 in
theorem g_M_seen_0 {d : Nat} {v1 v2 v3 : Int} {G : SgM} {Q : Int → SgM → Prop} (h : ((0 ≤ v1 ∧ v1 ≤ 23) → (((0 ≤ v2 ∧ v2 ≤ 7) → (((0 ≤ v3 ∧ v3 ≤ 1) → (((G 200 32) ≠ 8 → ((0 ≤ (sg_imul 3 (G 200 32)) ∧ (sg_imul 3 (G 200 32)) < 24) ∧ (0 ≤ (sg_iadd (sg_imul 3 (G 200 32)) 1) ∧ (sg_iadd (sg_imul 3 (G 200 32)) 1) < 24) ∧ (0 ≤ (sg_iadd (sg_imul 3 (G 200 32)) 2) ∧ (sg_iadd (sg_imul 3 (G 200 32)) 2) < 24) ∧ (Q ((sg_up (sg_up (sg_up (sg_up G 225 (sg_imul 3 (G 200 32)) v1) 225 (sg_iadd (sg_imul 3 (G 200 32)) 1) v2) 225 (sg_iadd (sg_imul 3 (G 200 32)) 2) v3) 200 32 (sg_iadd (G 200 32) 1)) 200 32) (sg_up (sg_up (sg_up (sg_up G 225 (sg_imul 3 (G 200 32)) v1) 225 (sg_iadd (sg_imul 3 (G 200 32)) 1) v2) 225 (sg_iadd (sg_imul 3 (G 200 32)) 2) v3) 200 32 (sg_iadd (G 200 32) 1))))) ∧ (¬ ((G 200 32) ≠ 8) → (Q ((-4)) G)))) ∧ (¬ (0 ≤ v3 ∧ v3 ≤ 1) → (Q ((-2)) G)))) ∧ (¬ (0 ≤ v2 ∧ v2 ≤ 7) → (Q ((-2)) G)))) ∧ (¬ (0 ≤ v1 ∧ v1 ≤ 23) → (Q ((-2)) G))) : sg_Wp 200 228 (d + 2) m_M_seen 0 [(0, 2, 200), (1, 0, v1), (2, 0, v2), (3, 0, v3)] [] G Q := by
  refine sg_blk [(3, 0, 0, 1, 0)] (by decide +kernel) ?_
  refine And.intro rfl (?_)
  show sg_Wp 200 228 (d + 2) m_M_seen 1 [(0, 2, 200), (1, 0, v1), (2, 0, v2), (3, 0, v3)] [(0, v1)] G Q
  refine sg_callS (k := (d + 1)) (y' := m_M_isHour) (av := [(0, v1)]) (rest := []) (by decide +kernel) cs_M_isHour ml_11_167 rfl (Nat.le_of_ble_eq_true rfl) (Nat.lt_succ_self (d + 1)) (Nat.le_of_ble_eq_true rfl) rfl ?_
  show sg_Wp 200 228 (d + 1) m_M_isHour 0 [(0, 0, v1)] [] G _
  refine s_M_isHour ?_
  show sg_Wp 200 228 (d + 2) m_M_seen 4 [(0, 2, 200), (1, 0, v1), (2, 0, v2), (3, 0, v3)] [(0, sg_bo (0 ≤ v1 ∧ v1 ≤ 23))] G Q
  refine sg_bif_eq (off := 22) (tgt := 26) (by decide +kernel) (by decide) ⟨fun q4 => ?_, fun q4 => ?_⟩
  · refine sg_blk [(3, 0, 0, 2, 0), (53, 0, 0, 0, 0), (10, 0, 0, 0, 0), (12, 7, 0, 267, 0)] (by decide +kernel) ?_
    refine And.intro rfl (And.intro rfl (?_))
    show sg_Wp 200 228 (d + 2) m_M_seen 13 [(0, 2, 200), (1, 0, v1), (2, 0, v2), (3, 0, v3)] [(1, 7), (1, 0), (1, v2)] G Q
    refine sg_callS (k := (d + 1)) (y' := m_M_in) (av := [(1, v2), (1, 0), (1, 7)]) (rest := []) (by decide +kernel) cs_M_in ml_11_98 rfl (Nat.le_of_ble_eq_true rfl) (Nat.lt_succ_self (d + 1)) (Nat.le_of_ble_eq_true rfl) rfl ?_
    show sg_Wp 200 228 (d + 1) m_M_in 0 [(0, 1, v2), (2, 1, 0), (4, 1, 7)] [] G _
    refine s_M_in ?_
    show sg_Wp 200 228 (d + 2) m_M_seen 16 [(0, 2, 200), (1, 0, v1), (2, 0, v2), (3, 0, v3)] [(0, sg_bo (0 ≤ v2 ∧ v2 ≤ 7))] G Q
    refine sg_bif_eq (off := 10) (tgt := 26) (by decide +kernel) (by decide) ⟨fun q3 => ?_, fun q3 => ?_⟩
    · refine sg_blk [(3, 0, 0, 3, 0)] (by decide +kernel) ?_
      refine And.intro rfl (?_)
      show sg_Wp 200 228 (d + 2) m_M_seen 20 [(0, 2, 200), (1, 0, v1), (2, 0, v2), (3, 0, v3)] [(0, v3)] G Q
      refine sg_callS (k := (d + 1)) (y' := m_M_isTwo) (av := [(0, v3)]) (rest := []) (by decide +kernel) cs_M_isTwo ml_11_126 rfl (Nat.le_of_ble_eq_true rfl) (Nat.lt_succ_self (d + 1)) (Nat.le_of_ble_eq_true rfl) rfl ?_
      show sg_Wp 200 228 (d + 1) m_M_isTwo 0 [(0, 0, v3)] [] G _
      refine s_M_isTwo ?_
      show sg_Wp 200 228 (d + 2) m_M_seen 23 [(0, 2, 200), (1, 0, v1), (2, 0, v2), (3, 0, v3)] [(0, sg_bo (0 ≤ v3 ∧ v3 ≤ 1))] G Q
      refine sg_bif_ne (off := 6) (tgt := 29) (by decide +kernel) (by decide) ⟨fun q2 => ?_, fun q2 => ?_⟩
      · refine sg_blk [(1, 0, 0, 0, 0), (15, 0, 11, 269, 32), (8, 8, 0, 0, 0)] (by decide +kernel) ?_
        refine And.intro (Nat.le_of_ble_eq_true rfl) (And.intro ce_200 (And.intro rfl (And.intro rfl (?_))))
        show sg_Wp 200 228 (d + 2) m_M_seen 35 [(0, 2, 200), (1, 0, v1), (2, 0, v2), (3, 0, v3)] [(0, 8), (0, G 200 32)] G Q
        refine sg_icmp_ne (off := 6) (tgt := 41) (by decide +kernel) (by decide) ⟨fun q1 => ?_, fun q1 => ?_⟩
        · refine sg_blk [(1, 0, 0, 0, 0), (65, 225, 11, 83, 33), (7, 3, 0, 0, 0), (1, 0, 0, 0, 0), (15, 0, 11, 269, 32), (34, 0, 0, 0, 0), (3, 0, 0, 1, 0), (18, 24, 0, 0, 0), (1, 0, 0, 0, 0), (65, 225, 11, 83, 33), (7, 3, 0, 0, 0), (1, 0, 0, 0, 0), (15, 0, 11, 269, 32), (34, 0, 0, 0, 0), (7, 1, 0, 0, 0), (32, 0, 0, 0, 0), (3, 0, 0, 2, 0), (18, 24, 0, 0, 0), (1, 0, 0, 0, 0), (65, 225, 11, 83, 33), (7, 3, 0, 0, 0), (1, 0, 0, 0, 0), (15, 0, 11, 269, 32), (34, 0, 0, 0, 0), (7, 2, 0, 0, 0), (32, 0, 0, 0, 0), (3, 0, 0, 3, 0), (18, 24, 0, 0, 0), (1, 0, 0, 0, 0), (57, 0, 0, 0, 0), (15, 0, 11, 269, 32), (7, 1, 0, 0, 0), (32, 0, 0, 0, 0), (16, 0, 11, 269, 32), (1, 0, 0, 0, 0), (15, 0, 11, 269, 32)] (by decide +kernel) ?_
          refine And.intro (Nat.le_of_ble_eq_true rfl) (And.intro ce_200 (And.intro rr_200_33 (And.intro rfl (And.intro (Nat.le_of_ble_eq_true rfl) (And.intro ce_200 (And.intro rfl (And.intro ce_225 (And.intro ((((h.1 q4).1 q3).1 q2).1 q1).1 (And.intro (Nat.le_of_ble_eq_true rfl) (And.intro ce_200 (And.intro rr_200_33 (And.intro rfl (And.intro (Nat.le_of_ble_eq_true rfl) (And.intro ce_200 (And.intro rfl (And.intro rfl (And.intro ce_225 (And.intro ((((h.1 q4).1 q3).1 q2).1 q1).2.1 (And.intro (Nat.le_of_ble_eq_true rfl) (And.intro ce_200 (And.intro rr_200_33 (And.intro rfl (And.intro (Nat.le_of_ble_eq_true rfl) (And.intro ce_200 (And.intro rfl (And.intro rfl (And.intro ce_225 (And.intro ((((h.1 q4).1 q3).1 q2).1 q1).2.2.1 (And.intro (Nat.le_of_ble_eq_true rfl) (And.intro (Nat.ne_of_beq_eq_false rfl) (And.intro ce_200 (And.intro rfl (And.intro ce_200 (And.intro (Nat.le_of_ble_eq_true rfl) (And.intro ce_200 (?_))))))))))))))))))))))))))))))))))))
          show sg_Wp 200 228 (d + 2) m_M_seen 95 [(0, 2, 200), (1, 0, v1), (2, 0, v2), (3, 0, v3)] [(0, (sg_up (sg_up (sg_up (sg_up G 225 (sg_imul 3 (G 200 32)) v1) 225 (sg_iadd (sg_imul 3 (G 200 32)) 1) v2) 225 (sg_iadd (sg_imul 3 (G 200 32)) 2) v3) 200 32 (sg_iadd (G 200 32) 1)) 200 32)] (sg_up (sg_up (sg_up (sg_up G 225 (sg_imul 3 (G 200 32)) v1) 225 (sg_iadd (sg_imul 3 (G 200 32)) 1) v2) 225 (sg_iadd (sg_imul 3 (G 200 32)) 2) v3) 200 32 (sg_iadd (G 200 32) 1)) Q
          exact sg_ret (by decide +kernel) rfl (Or.inl rfl) (((((h.1 q4).1 q3).1 q2).1 q1).2.2.2)
        · refine sg_blk [(8, (-4), 0, 0, 0)] (by decide +kernel) ?_
          refine And.intro rfl (And.intro rfl (?_))
          show sg_Wp 200 228 (d + 2) m_M_seen 40 [(0, 2, 200), (1, 0, v1), (2, 0, v2), (3, 0, v3)] [(0, (-4))] G Q
          exact sg_ret (by decide +kernel) rfl (Or.inl rfl) (((((h.1 q4).1 q3).1 q2).2 q1))
      · refine sg_blk [(8, (-2), 0, 0, 0)] (by decide +kernel) ?_
        refine And.intro rfl (And.intro rfl (?_))
        show sg_Wp 200 228 (d + 2) m_M_seen 28 [(0, 2, 200), (1, 0, v1), (2, 0, v2), (3, 0, v3)] [(0, (-2))] G Q
        exact sg_ret (by decide +kernel) rfl (Or.inl rfl) ((((h.1 q4).1 q3).2 q2))
    · refine sg_blk [(8, (-2), 0, 0, 0)] (by decide +kernel) ?_
      refine And.intro rfl (And.intro rfl (?_))
      show sg_Wp 200 228 (d + 2) m_M_seen 28 [(0, 2, 200), (1, 0, v1), (2, 0, v2), (3, 0, v3)] [(0, (-2))] G Q
      exact sg_ret (by decide +kernel) rfl (Or.inl rfl) (((h.1 q4).2 q3))
  · refine sg_blk [(8, (-2), 0, 0, 0)] (by decide +kernel) ?_
    refine And.intro rfl (And.intro rfl (?_))
    show sg_Wp 200 228 (d + 2) m_M_seen 28 [(0, 2, 200), (1, 0, v1), (2, 0, v2), (3, 0, v3)] [(0, (-2))] G Q
    exact sg_ret (by decide +kernel) rfl (Or.inl rfl) ((h.2 q4))
set_option maxRecDepth 100000 in
theorem g_M_spare_0 {d : Nat} {v1 : Int} {G : SgM} {Q : Int → SgM → Prop} (h : sg_Wp 200 228 d m_M_find 0 [(0, 2, 200)] [] G (fun r1 G1 => ((((-1)) ≤ v1 ∧ v1 ≤ 1) → (sg_Wp 200 228 d m_M_spareBy 0 [(0, 2, 200), (1, 0, v1)] [] G1 (fun r2 G2 => Q r2 G2))) ∧ (¬ (((-1)) ≤ v1 ∧ v1 ≤ 1) → (Q ((-2)) G1)))) : sg_Wp 200 228 (d + 1) m_M_spare 0 [(0, 2, 200), (1, 0, v1)] [] G Q := by
  refine sg_blk [(1, 0, 0, 0, 0)] (by decide +kernel) ?_
  refine And.intro (Nat.le_of_ble_eq_true rfl) (?_)
  show sg_Wp 200 228 (d + 1) m_M_spare 1 [(0, 2, 200), (1, 0, v1)] [(2, 200)] G Q
  refine sg_callV (k := d) (y' := m_M_find) (av := []) (rest := []) (b := 200) (by decide +kernel) cv_M_find ml_11_217 ce_200 rfl rfl (Nat.le_of_ble_eq_true rfl) (Nat.lt_succ_self d) (Nat.le_of_ble_eq_true rfl) rfl ?_
  show sg_Wp 200 228 d m_M_find 0 [(0, 2, 200)] [] G _
  refine sg_Wp.mono h (fun r1 G1 hhr1 => ?_)
  show sg_Wp 200 228 (d + 1) m_M_spare 4 [(0, 2, 200), (1, 0, v1)] [] G1 Q
  refine sg_blk [(3, 0, 0, 1, 0), (53, 0, 0, 0, 0), (12, (-1), 0, 262, 0), (10, 0, 0, 1, 0)] (by decide +kernel) ?_
  refine And.intro rfl (And.intro rfl (?_))
  show sg_Wp 200 228 (d + 1) m_M_spare 10 [(0, 2, 200), (1, 0, v1)] [(1, 1), (1, (-1)), (1, v1)] G1 Q
  refine sg_callS (k := d) (y' := m_M_in) (av := [(1, v1), (1, (-1)), (1, 1)]) (rest := []) (by decide +kernel) cs_M_in ml_11_98 rfl (Nat.le_of_ble_eq_true rfl) (Nat.lt_succ_self d) (Nat.le_of_ble_eq_true rfl) rfl ?_
  show sg_Wp 200 228 d m_M_in 0 [(0, 1, v1), (2, 1, (-1)), (4, 1, 1)] [] G1 _
  refine s_M_in ?_
  show sg_Wp 200 228 (d + 1) m_M_spare 13 [(0, 2, 200), (1, 0, v1)] [(0, sg_bo (((-1)) ≤ v1 ∧ v1 ≤ 1))] G1 Q
  refine sg_bif_eq (off := 11) (tgt := 24) (by decide +kernel) (by decide) ⟨fun q1 => ?_, fun q1 => ?_⟩
  · refine sg_blk [(1, 0, 0, 0, 0), (3, 0, 0, 1, 0)] (by decide +kernel) ?_
    refine And.intro (Nat.le_of_ble_eq_true rfl) (And.intro rfl (?_))
    show sg_Wp 200 228 (d + 1) m_M_spare 18 [(0, 2, 200), (1, 0, v1)] [(0, v1), (2, 200)] G1 Q
    refine sg_callV (k := d) (y' := m_M_spareBy) (av := [(0, v1)]) (rest := []) (b := 200) (by decide +kernel) cv_M_spareBy ml_11_264 ce_200 rfl rfl (Nat.le_of_ble_eq_true rfl) (Nat.lt_succ_self d) (Nat.le_of_ble_eq_true rfl) rfl ?_
    show sg_Wp 200 228 d m_M_spareBy 0 [(0, 2, 200), (1, 0, v1)] [] G1 _
    refine sg_Wp.mono ((hhr1.1 q1)) (fun r2 G2 hhr2 => ?_)
    show sg_Wp 200 228 (d + 1) m_M_spare 21 [(0, 2, 200), (1, 0, v1)] [(0, r2)] G2 Q
    refine sg_goto (off := 5) (tgt := 26) (by decide +kernel) (by decide) ?_
    exact sg_ret (by decide +kernel) rfl (Or.inl rfl) hhr2
  · refine sg_blk [(8, (-2), 0, 0, 0)] (by decide +kernel) ?_
    refine And.intro rfl (And.intro rfl (?_))
    show sg_Wp 200 228 (d + 1) m_M_spare 26 [(0, 2, 200), (1, 0, v1)] [(0, (-2))] G1 Q
    exact sg_ret (by decide +kernel) rfl (Or.inl rfl) ((hhr1.2 q1))
set_option maxRecDepth 100000 in
theorem g_M_spareBy_0 {d : Nat} {v1 : Int} {G : SgM} {Q : Int → SgM → Prop} (h : sg_Wp 200 228 d m_M_isSpared 0 [(0, 2, 200), (1, 0, 0)] [] G (fun r1 G1 => (r1 = 0 → (sg_Wp 200 228 (d + 1) m_M_spareBy 21 [(0, 2, 200), (1, 0, v1), (2, 0, 0)] [] G1 Q)) ∧ (¬ (r1 = 0) → ((v1 ≠ ((-1)) → (Q ((-1)) G1)) ∧ (¬ (v1 ≠ ((-1))) → (Q 0 G1)))))) : sg_Wp 200 228 (d + 1) m_M_spareBy 0 [(0, 2, 200), (1, 0, v1)] [] G Q := by
  refine sg_blk [(1, 0, 0, 0, 0), (7, 0, 0, 0, 0)] (by decide +kernel) ?_
  refine And.intro (Nat.le_of_ble_eq_true rfl) (And.intro rfl (?_))
  show sg_Wp 200 228 (d + 1) m_M_spareBy 2 [(0, 2, 200), (1, 0, v1)] [(0, 0), (2, 200)] G Q
  refine sg_callV (k := d) (y' := m_M_isSpared) (av := [(0, 0)]) (rest := []) (b := 200) (by decide +kernel) cv_M_isSpared ml_11_259 ce_200 rfl rfl (Nat.le_of_ble_eq_true rfl) (Nat.lt_succ_self d) (Nat.le_of_ble_eq_true rfl) rfl ?_
  show sg_Wp 200 228 d m_M_isSpared 0 [(0, 2, 200), (1, 0, 0)] [] G _
  refine sg_Wp.mono h (fun r1 G1 hhr1 => ?_)
  show sg_Wp 200 228 (d + 1) m_M_spareBy 5 [(0, 2, 200), (1, 0, v1)] [(0, r1)] G1 Q
  refine sg_if_eq (off := 14) (tgt := 19) (by decide +kernel) (by decide) ⟨fun q2 => ?_, fun q2 => ?_⟩
  · refine sg_blk [(7, 0, 0, 0, 0), (25, 0, 0, 2, 0)] (by decide +kernel) ?_
    refine And.intro rfl (And.intro rfl (?_))
    show sg_Wp 200 228 (d + 1) m_M_spareBy 21 [(0, 2, 200), (1, 0, v1), (2, 0, 0)] [] G1 Q
    exact (hhr1.1 q2)
  · refine sg_blk [(3, 0, 0, 1, 0), (7, (-1), 0, 0, 0)] (by decide +kernel) ?_
    refine And.intro rfl (And.intro rfl (?_))
    show sg_Wp 200 228 (d + 1) m_M_spareBy 10 [(0, 2, 200), (1, 0, v1)] [(0, (-1)), (0, v1)] G1 Q
    refine sg_icmp_ne (off := 7) (tgt := 17) (by decide +kernel) (by decide) ⟨fun q1 => ?_, fun q1 => ?_⟩
    · refine sg_blk [(7, (-1), 0, 0, 0)] (by decide +kernel) ?_
      refine And.intro rfl (?_)
      show sg_Wp 200 228 (d + 1) m_M_spareBy 18 [(0, 2, 200), (1, 0, v1)] [(0, (-1))] G1 Q
      exact sg_ret (by decide +kernel) rfl (Or.inl rfl) (((hhr1.2 q2).1 q1))
    · refine sg_blk [(7, 0, 0, 0, 0)] (by decide +kernel) ?_
      refine And.intro rfl (?_)
      show sg_Wp 200 228 (d + 1) m_M_spareBy 14 [(0, 2, 200), (1, 0, v1)] [(0, 0)] G1 Q
      refine sg_goto (off := 4) (tgt := 18) (by decide +kernel) (by decide) ?_
      exact sg_ret (by decide +kernel) rfl (Or.inl rfl) (((hhr1.2 q2).2 q1))
set_option maxRecDepth 100000 in
theorem g_M_spareBy_21 {d : Nat} {v1 v2 : Int} {G : SgM} {Q : Int → SgM → Prop} (h : ((G 200 11) ≤ v2 → (sg_Wp 200 228 (d + 1) m_M_spareBy 66 [(0, 2, 200), (1, 0, v1), (2, 0, 0)] [] G Q)) ∧ (¬ ((G 200 11) ≤ v2) → (sg_Wp 200 228 d m_M_isSpared 0 [(0, 2, 200), (1, 0, sg_ishl 1 v2)] [] G (fun r2 G2 => (r2 = 0 → (sg_Wp 200 228 (d + 1) m_M_spareBy 21 [(0, 2, 200), (1, 0, v1), (2, 0, sg_iadd v2 1)] [] G2 Q)) ∧ (¬ (r2 = 0) → ((v1 ≠ ((-1)) → ((v1 ≠ 0 → (Q ((-1)) G2)) ∧ (¬ (v1 ≠ 0) → (Q v2 G2)))) ∧ (¬ (v1 ≠ ((-1))) → (Q 1 G2)))))))) : sg_Wp 200 228 (d + 1) m_M_spareBy 21 [(0, 2, 200), (1, 0, v1), (2, 0, v2)] [] G Q := by
  refine sg_blk [(3, 0, 0, 2, 0), (1, 0, 0, 0, 0), (15, 0, 11, 164, 11)] (by decide +kernel) ?_
  refine And.intro rfl (And.intro (Nat.le_of_ble_eq_true rfl) (And.intro ce_200 (?_)))
  show sg_Wp 200 228 (d + 1) m_M_spareBy 26 [(0, 2, 200), (1, 0, v1), (2, 0, v2)] [(0, G 200 11), (0, v2)] G Q
  refine sg_icmp_ge (off := 38) (tgt := 64) (by decide +kernel) (by decide) ⟨fun q6 => ?_, fun q6 => ?_⟩
  · refine sg_blk [(7, 0, 0, 0, 0), (25, 0, 0, 2, 0)] (by decide +kernel) ?_
    refine And.intro rfl (And.intro rfl (?_))
    show sg_Wp 200 228 (d + 1) m_M_spareBy 66 [(0, 2, 200), (1, 0, v1), (2, 0, 0)] [] G Q
    exact (h.1 q6)
  · refine sg_blk [(1, 0, 0, 0, 0), (7, 1, 0, 0, 0), (3, 0, 0, 2, 0), (41, 0, 0, 0, 0)] (by decide +kernel) ?_
    refine And.intro (Nat.le_of_ble_eq_true rfl) (And.intro rfl (And.intro rfl (?_)))
    show sg_Wp 200 228 (d + 1) m_M_spareBy 33 [(0, 2, 200), (1, 0, v1), (2, 0, v2)] [(0, sg_ishl 1 v2), (2, 200)] G Q
    refine sg_callV (k := d) (y' := m_M_isSpared) (av := [(0, sg_ishl 1 v2)]) (rest := []) (b := 200) (by decide +kernel) cv_M_isSpared ml_11_259 ce_200 rfl rfl (Nat.le_of_ble_eq_true rfl) (Nat.lt_succ_self d) (Nat.le_of_ble_eq_true rfl) rfl ?_
    show sg_Wp 200 228 d m_M_isSpared 0 [(0, 2, 200), (1, 0, sg_ishl 1 v2)] [] G _
    refine sg_Wp.mono ((h.2 q6)) (fun r2 G2 hhr2 => ?_)
    show sg_Wp 200 228 (d + 1) m_M_spareBy 36 [(0, 2, 200), (1, 0, v1), (2, 0, v2)] [(0, r2)] G2 Q
    refine sg_if_eq (off := 22) (tgt := 58) (by decide +kernel) (by decide) ⟨fun q5 => ?_, fun q5 => ?_⟩
    · refine sg_blk [(31, 1, 0, 2, 0)] (by decide +kernel) ?_
      refine And.intro rfl (?_)
      show sg_Wp 200 228 (d + 1) m_M_spareBy 61 [(0, 2, 200), (1, 0, v1), (2, 0, sg_iadd v2 1)] [] G2 Q
      refine sg_goto (off := -40) (tgt := 21) (by decide +kernel) (by decide) ?_
      exact (hhr2.1 q5)
    · refine sg_blk [(3, 0, 0, 1, 0), (7, (-1), 0, 0, 0)] (by decide +kernel) ?_
      refine And.intro rfl (And.intro rfl (?_))
      show sg_Wp 200 228 (d + 1) m_M_spareBy 41 [(0, 2, 200), (1, 0, v1), (2, 0, v2)] [(0, (-1)), (0, v1)] G2 Q
      refine sg_icmp_ne (off := 7) (tgt := 48) (by decide +kernel) (by decide) ⟨fun q4 => ?_, fun q4 => ?_⟩
      · refine sg_blk [(3, 0, 0, 1, 0)] (by decide +kernel) ?_
        refine And.intro rfl (?_)
        show sg_Wp 200 228 (d + 1) m_M_spareBy 49 [(0, 2, 200), (1, 0, v1), (2, 0, v2)] [(0, v1)] G2 Q
        refine sg_if_ne (off := 7) (tgt := 56) (by decide +kernel) (by decide) ⟨fun q3 => ?_, fun q3 => ?_⟩
        · refine sg_blk [(7, (-1), 0, 0, 0)] (by decide +kernel) ?_
          refine And.intro rfl (?_)
          show sg_Wp 200 228 (d + 1) m_M_spareBy 57 [(0, 2, 200), (1, 0, v1), (2, 0, v2)] [(0, (-1))] G2 Q
          exact sg_ret (by decide +kernel) rfl (Or.inl rfl) ((((hhr2.2 q5).1 q4).1 q3))
        · refine sg_blk [(3, 0, 0, 2, 0)] (by decide +kernel) ?_
          refine And.intro rfl (?_)
          show sg_Wp 200 228 (d + 1) m_M_spareBy 53 [(0, 2, 200), (1, 0, v1), (2, 0, v2)] [(0, v2)] G2 Q
          refine sg_goto (off := 4) (tgt := 57) (by decide +kernel) (by decide) ?_
          exact sg_ret (by decide +kernel) rfl (Or.inl rfl) ((((hhr2.2 q5).1 q4).2 q3))
      · refine sg_blk [(7, 1, 0, 0, 0)] (by decide +kernel) ?_
        refine And.intro rfl (?_)
        show sg_Wp 200 228 (d + 1) m_M_spareBy 45 [(0, 2, 200), (1, 0, v1), (2, 0, v2)] [(0, 1)] G2 Q
        refine sg_goto (off := 12) (tgt := 57) (by decide +kernel) (by decide) ?_
        exact sg_ret (by decide +kernel) rfl (Or.inl rfl) (((hhr2.2 q5).2 q4))
set_option maxRecDepth 100000 in
theorem g_M_spareBy_66 {d : Nat} {v1 v2 : Int} {G : SgM} {Q : Int → SgM → Prop} (h : ((G 200 11) ≤ v2 → (Q ((-1)) G)) ∧ (¬ ((G 200 11) ≤ v2) → (sg_Wp 200 228 (d + 1) m_M_spareBy 78 [(0, 2, 200), (1, 0, v1), (2, 0, v2), (3, 0, sg_iadd v2 1)] [] G Q))) : sg_Wp 200 228 (d + 1) m_M_spareBy 66 [(0, 2, 200), (1, 0, v1), (2, 0, v2)] [] G Q := by
  refine sg_blk [(3, 0, 0, 2, 0), (1, 0, 0, 0, 0), (15, 0, 11, 164, 11)] (by decide +kernel) ?_
  refine And.intro rfl (And.intro (Nat.le_of_ble_eq_true rfl) (And.intro ce_200 (?_)))
  show sg_Wp 200 228 (d + 1) m_M_spareBy 71 [(0, 2, 200), (1, 0, v1), (2, 0, v2)] [(0, G 200 11), (0, v2)] G Q
  refine sg_icmp_ge (off := 60) (tgt := 131) (by decide +kernel) (by decide) ⟨fun q7 => ?_, fun q7 => ?_⟩
  · refine sg_blk [(7, (-1), 0, 0, 0)] (by decide +kernel) ?_
    refine And.intro rfl (?_)
    show sg_Wp 200 228 (d + 1) m_M_spareBy 132 [(0, 2, 200), (1, 0, v1), (2, 0, v2)] [(0, (-1))] G Q
    exact sg_ret (by decide +kernel) rfl (Or.inl rfl) ((h.1 q7))
  · refine sg_blk [(3, 0, 0, 2, 0), (7, 1, 0, 0, 0), (32, 0, 0, 0, 0), (25, 0, 0, 3, 0)] (by decide +kernel) ?_
    refine And.intro rfl (And.intro rfl (And.intro rfl (?_)))
    show sg_Wp 200 228 (d + 1) m_M_spareBy 78 [(0, 2, 200), (1, 0, v1), (2, 0, v2), (3, 0, sg_iadd v2 1)] [] G Q
    exact (h.2 q7)
set_option maxRecDepth 100000 in
theorem g_M_spareBy_78 {d : Nat} {v1 v2 v3 : Int} {G : SgM} {Q : Int → SgM → Prop} (h : ((G 200 11) ≤ v3 → (sg_Wp 200 228 (d + 1) m_M_spareBy 66 [(0, 2, 200), (1, 0, v1), (2, 0, sg_iadd v2 1)] [] G Q)) ∧ (¬ ((G 200 11) ≤ v3) → (sg_Wp 200 228 d m_M_isSpared 0 [(0, 2, 200), (1, 0, sg_ior (sg_ishl 1 v2) (sg_ishl 1 v3))] [] G (fun r3 G3 => (r3 = 0 → (sg_Wp 200 228 (d + 1) m_M_spareBy 78 [(0, 2, 200), (1, 0, v1), (2, 0, v2), (3, 0, sg_iadd v3 1)] [] G3 Q)) ∧ (¬ (r3 = 0) → ((v1 ≠ ((-1)) → ((v1 ≠ 0 → (Q v3 G3)) ∧ (¬ (v1 ≠ 0) → (Q v2 G3)))) ∧ (¬ (v1 ≠ ((-1))) → (Q 2 G3)))))))) : sg_Wp 200 228 (d + 1) m_M_spareBy 78 [(0, 2, 200), (1, 0, v1), (2, 0, v2), (3, 0, v3)] [] G Q := by
  refine sg_blk [(3, 0, 0, 3, 0), (1, 0, 0, 0, 0), (15, 0, 11, 164, 11)] (by decide +kernel) ?_
  refine And.intro rfl (And.intro (Nat.le_of_ble_eq_true rfl) (And.intro ce_200 (?_)))
  show sg_Wp 200 228 (d + 1) m_M_spareBy 83 [(0, 2, 200), (1, 0, v1), (2, 0, v2), (3, 0, v3)] [(0, G 200 11), (0, v3)] G Q
  refine sg_icmp_ge (off := 42) (tgt := 125) (by decide +kernel) (by decide) ⟨fun q11 => ?_, fun q11 => ?_⟩
  · refine sg_blk [(31, 1, 0, 2, 0)] (by decide +kernel) ?_
    refine And.intro rfl (?_)
    show sg_Wp 200 228 (d + 1) m_M_spareBy 128 [(0, 2, 200), (1, 0, v1), (2, 0, sg_iadd v2 1), (3, 0, v3)] [] G Q
    refine sg_goto (off := -62) (tgt := 66) (by decide +kernel) (by decide) ?_
    exact sg_Wp.keepk [0, 1, 2] rfl ((h.1 q11))
  · refine sg_blk [(1, 0, 0, 0, 0), (7, 1, 0, 0, 0), (3, 0, 0, 2, 0), (41, 0, 0, 0, 0), (7, 1, 0, 0, 0), (3, 0, 0, 3, 0), (41, 0, 0, 0, 0), (39, 0, 0, 0, 0)] (by decide +kernel) ?_
    refine And.intro (Nat.le_of_ble_eq_true rfl) (And.intro rfl (And.intro rfl (And.intro rfl (And.intro rfl (?_)))))
    show sg_Wp 200 228 (d + 1) m_M_spareBy 94 [(0, 2, 200), (1, 0, v1), (2, 0, v2), (3, 0, v3)] [(0, sg_ior (sg_ishl 1 v2) (sg_ishl 1 v3)), (2, 200)] G Q
    refine sg_callV (k := d) (y' := m_M_isSpared) (av := [(0, sg_ior (sg_ishl 1 v2) (sg_ishl 1 v3))]) (rest := []) (b := 200) (by decide +kernel) cv_M_isSpared ml_11_259 ce_200 rfl rfl (Nat.le_of_ble_eq_true rfl) (Nat.lt_succ_self d) (Nat.le_of_ble_eq_true rfl) rfl ?_
    show sg_Wp 200 228 d m_M_isSpared 0 [(0, 2, 200), (1, 0, sg_ior (sg_ishl 1 v2) (sg_ishl 1 v3))] [] G _
    refine sg_Wp.mono ((h.2 q11)) (fun r3 G3 hhr3 => ?_)
    show sg_Wp 200 228 (d + 1) m_M_spareBy 97 [(0, 2, 200), (1, 0, v1), (2, 0, v2), (3, 0, v3)] [(0, r3)] G3 Q
    refine sg_if_eq (off := 22) (tgt := 119) (by decide +kernel) (by decide) ⟨fun q10 => ?_, fun q10 => ?_⟩
    · refine sg_blk [(31, 1, 0, 3, 0)] (by decide +kernel) ?_
      refine And.intro rfl (?_)
      show sg_Wp 200 228 (d + 1) m_M_spareBy 122 [(0, 2, 200), (1, 0, v1), (2, 0, v2), (3, 0, sg_iadd v3 1)] [] G3 Q
      refine sg_goto (off := -44) (tgt := 78) (by decide +kernel) (by decide) ?_
      exact (hhr3.1 q10)
    · refine sg_blk [(3, 0, 0, 1, 0), (7, (-1), 0, 0, 0)] (by decide +kernel) ?_
      refine And.intro rfl (And.intro rfl (?_))
      show sg_Wp 200 228 (d + 1) m_M_spareBy 102 [(0, 2, 200), (1, 0, v1), (2, 0, v2), (3, 0, v3)] [(0, (-1)), (0, v1)] G3 Q
      refine sg_icmp_ne (off := 7) (tgt := 109) (by decide +kernel) (by decide) ⟨fun q9 => ?_, fun q9 => ?_⟩
      · refine sg_blk [(3, 0, 0, 1, 0)] (by decide +kernel) ?_
        refine And.intro rfl (?_)
        show sg_Wp 200 228 (d + 1) m_M_spareBy 110 [(0, 2, 200), (1, 0, v1), (2, 0, v2), (3, 0, v3)] [(0, v1)] G3 Q
        refine sg_if_ne (off := 7) (tgt := 117) (by decide +kernel) (by decide) ⟨fun q8 => ?_, fun q8 => ?_⟩
        · refine sg_blk [(3, 0, 0, 3, 0)] (by decide +kernel) ?_
          refine And.intro rfl (?_)
          show sg_Wp 200 228 (d + 1) m_M_spareBy 118 [(0, 2, 200), (1, 0, v1), (2, 0, v2), (3, 0, v3)] [(0, v3)] G3 Q
          exact sg_ret (by decide +kernel) rfl (Or.inl rfl) ((((hhr3.2 q10).1 q9).1 q8))
        · refine sg_blk [(3, 0, 0, 2, 0)] (by decide +kernel) ?_
          refine And.intro rfl (?_)
          show sg_Wp 200 228 (d + 1) m_M_spareBy 114 [(0, 2, 200), (1, 0, v1), (2, 0, v2), (3, 0, v3)] [(0, v2)] G3 Q
          refine sg_goto (off := 4) (tgt := 118) (by decide +kernel) (by decide) ?_
          exact sg_ret (by decide +kernel) rfl (Or.inl rfl) ((((hhr3.2 q10).1 q9).2 q8))
      · refine sg_blk [(7, 2, 0, 0, 0)] (by decide +kernel) ?_
        refine And.intro rfl (?_)
        show sg_Wp 200 228 (d + 1) m_M_spareBy 106 [(0, 2, 200), (1, 0, v1), (2, 0, v2), (3, 0, v3)] [(0, 2)] G3 Q
        refine sg_goto (off := 12) (tgt := 118) (by decide +kernel) (by decide) ?_
        exact sg_ret (by decide +kernel) rfl (Or.inl rfl) (((hhr3.2 q10).2 q9))
set_option maxRecDepth 100000 in
theorem g_M_stood_0 {d : Nat} {v1 v2 v3 : Int} {G : SgM} {Q : Int → SgM → Prop} (h : sg_Wp 200 228 (d + 1) m_M_find 0 [(0, 2, 200)] [] G (fun r1 G1 => ((0 ≤ v1 ∧ v1 ≤ 23) → (sg_Wp 200 228 (d + 1) m_M_isPost 0 [(0, 2, 200), (1, 0, v2)] [] G1 (fun r2 G2 => (r2 = 0 → (Q ((-2)) G2)) ∧ (¬ (r2 = 0) → (((0 ≤ v3 ∧ v3 ≤ 2) → (sg_Wp 200 228 (d + 1) m_M_stoodOf 0 [(0, 2, 200), (1, 0, v1), (2, 0, v2), (3, 0, v3)] [] G2 (fun r3 G3 => Q r3 G3))) ∧ (¬ (0 ≤ v3 ∧ v3 ≤ 2) → (Q ((-2)) G2))))))) ∧ (¬ (0 ≤ v1 ∧ v1 ≤ 23) → (Q ((-2)) G1)))) : sg_Wp 200 228 (d + 2) m_M_stood 0 [(0, 2, 200), (1, 0, v1), (2, 0, v2), (3, 0, v3)] [] G Q := by
  refine sg_blk [(1, 0, 0, 0, 0)] (by decide +kernel) ?_
  refine And.intro (Nat.le_of_ble_eq_true rfl) (?_)
  show sg_Wp 200 228 (d + 2) m_M_stood 1 [(0, 2, 200), (1, 0, v1), (2, 0, v2), (3, 0, v3)] [(2, 200)] G Q
  refine sg_callV (k := (d + 1)) (y' := m_M_find) (av := []) (rest := []) (b := 200) (by decide +kernel) cv_M_find ml_11_217 ce_200 rfl rfl (Nat.le_of_ble_eq_true rfl) (Nat.lt_succ_self (d + 1)) (Nat.le_of_ble_eq_true rfl) rfl ?_
  show sg_Wp 200 228 (d + 1) m_M_find 0 [(0, 2, 200)] [] G _
  refine sg_Wp.mono h (fun r1 G1 hhr1 => ?_)
  show sg_Wp 200 228 (d + 2) m_M_stood 4 [(0, 2, 200), (1, 0, v1), (2, 0, v2), (3, 0, v3)] [] G1 Q
  refine sg_blk [(3, 0, 0, 1, 0)] (by decide +kernel) ?_
  refine And.intro rfl (?_)
  show sg_Wp 200 228 (d + 2) m_M_stood 5 [(0, 2, 200), (1, 0, v1), (2, 0, v2), (3, 0, v3)] [(0, v1)] G1 Q
  refine sg_callS (k := (d + 1)) (y' := m_M_isHour) (av := [(0, v1)]) (rest := []) (by decide +kernel) cs_M_isHour ml_11_167 rfl (Nat.le_of_ble_eq_true rfl) (Nat.lt_succ_self (d + 1)) (Nat.le_of_ble_eq_true rfl) rfl ?_
  show sg_Wp 200 228 (d + 1) m_M_isHour 0 [(0, 0, v1)] [] G1 _
  refine s_M_isHour ?_
  show sg_Wp 200 228 (d + 2) m_M_stood 8 [(0, 2, 200), (1, 0, v1), (2, 0, v2), (3, 0, v3)] [(0, sg_bo (0 ≤ v1 ∧ v1 ≤ 23))] G1 Q
  refine sg_bif_eq (off := 33) (tgt := 41) (by decide +kernel) (by decide) ⟨fun q3 => ?_, fun q3 => ?_⟩
  · refine sg_blk [(1, 0, 0, 0, 0), (3, 0, 0, 2, 0)] (by decide +kernel) ?_
    refine And.intro (Nat.le_of_ble_eq_true rfl) (And.intro rfl (?_))
    show sg_Wp 200 228 (d + 2) m_M_stood 13 [(0, 2, 200), (1, 0, v1), (2, 0, v2), (3, 0, v3)] [(0, v2), (2, 200)] G1 Q
    refine sg_callV (k := (d + 1)) (y' := m_M_isPost) (av := [(0, v2)]) (rest := []) (b := 200) (by decide +kernel) cv_M_isPost ml_11_158 ce_200 rfl rfl (Nat.le_of_ble_eq_true rfl) (Nat.lt_succ_self (d + 1)) (Nat.le_of_ble_eq_true rfl) rfl ?_
    show sg_Wp 200 228 (d + 1) m_M_isPost 0 [(0, 2, 200), (1, 0, v2)] [] G1 _
    refine sg_Wp.mono ((hhr1.1 q3)) (fun r2 G2 hhr2 => ?_)
    show sg_Wp 200 228 (d + 2) m_M_stood 16 [(0, 2, 200), (1, 0, v1), (2, 0, v2), (3, 0, v3)] [(0, r2)] G2 Q
    refine sg_if_eq (off := 25) (tgt := 41) (by decide +kernel) (by decide) ⟨fun q2 => ?_, fun q2 => ?_⟩
    · refine sg_blk [(8, (-2), 0, 0, 0)] (by decide +kernel) ?_
      refine And.intro rfl (And.intro rfl (?_))
      show sg_Wp 200 228 (d + 2) m_M_stood 43 [(0, 2, 200), (1, 0, v1), (2, 0, v2), (3, 0, v3)] [(0, (-2))] G2 Q
      exact sg_ret (by decide +kernel) rfl (Or.inl rfl) ((hhr2.1 q2))
    · refine sg_blk [(3, 0, 0, 3, 0), (53, 0, 0, 0, 0), (10, 0, 0, 0, 0), (12, 2, 0, 111, 0)] (by decide +kernel) ?_
      refine And.intro rfl (And.intro rfl (?_))
      show sg_Wp 200 228 (d + 2) m_M_stood 25 [(0, 2, 200), (1, 0, v1), (2, 0, v2), (3, 0, v3)] [(1, 2), (1, 0), (1, v3)] G2 Q
      refine sg_callS (k := (d + 1)) (y' := m_M_in) (av := [(1, v3), (1, 0), (1, 2)]) (rest := []) (by decide +kernel) cs_M_in ml_11_98 rfl (Nat.le_of_ble_eq_true rfl) (Nat.lt_succ_self (d + 1)) (Nat.le_of_ble_eq_true rfl) rfl ?_
      show sg_Wp 200 228 (d + 1) m_M_in 0 [(0, 1, v3), (2, 1, 0), (4, 1, 2)] [] G2 _
      refine s_M_in ?_
      show sg_Wp 200 228 (d + 2) m_M_stood 28 [(0, 2, 200), (1, 0, v1), (2, 0, v2), (3, 0, v3)] [(0, sg_bo (0 ≤ v3 ∧ v3 ≤ 2))] G2 Q
      refine sg_bif_eq (off := 13) (tgt := 41) (by decide +kernel) (by decide) ⟨fun q1 => ?_, fun q1 => ?_⟩
      · refine sg_blk [(1, 0, 0, 0, 0), (3, 0, 0, 1, 0), (3, 0, 0, 2, 0), (3, 0, 0, 3, 0)] (by decide +kernel) ?_
        refine And.intro (Nat.le_of_ble_eq_true rfl) (And.intro rfl (And.intro rfl (And.intro rfl (?_))))
        show sg_Wp 200 228 (d + 2) m_M_stood 35 [(0, 2, 200), (1, 0, v1), (2, 0, v2), (3, 0, v3)] [(0, v3), (0, v2), (0, v1), (2, 200)] G2 Q
        refine sg_callV (k := (d + 1)) (y' := m_M_stoodOf) (av := [(0, v1), (0, v2), (0, v3)]) (rest := []) (b := 200) (by decide +kernel) cv_M_stoodOf ml_11_223 ce_200 rfl rfl (Nat.le_of_ble_eq_true rfl) (Nat.lt_succ_self (d + 1)) (Nat.le_of_ble_eq_true rfl) rfl ?_
        show sg_Wp 200 228 (d + 1) m_M_stoodOf 0 [(0, 2, 200), (1, 0, v1), (2, 0, v2), (3, 0, v3)] [] G2 _
        refine sg_Wp.mono (((hhr2.2 q2).1 q1)) (fun r3 G3 hhr3 => ?_)
        show sg_Wp 200 228 (d + 2) m_M_stood 38 [(0, 2, 200), (1, 0, v1), (2, 0, v2), (3, 0, v3)] [(0, r3)] G3 Q
        refine sg_goto (off := 5) (tgt := 43) (by decide +kernel) (by decide) ?_
        exact sg_ret (by decide +kernel) rfl (Or.inl rfl) hhr3
      · refine sg_blk [(8, (-2), 0, 0, 0)] (by decide +kernel) ?_
        refine And.intro rfl (And.intro rfl (?_))
        show sg_Wp 200 228 (d + 2) m_M_stood 43 [(0, 2, 200), (1, 0, v1), (2, 0, v2), (3, 0, v3)] [(0, (-2))] G2 Q
        exact sg_ret (by decide +kernel) rfl (Or.inl rfl) (((hhr2.2 q2).2 q1))
  · refine sg_blk [(8, (-2), 0, 0, 0)] (by decide +kernel) ?_
    refine And.intro rfl (And.intro rfl (?_))
    show sg_Wp 200 228 (d + 2) m_M_stood 43 [(0, 2, 200), (1, 0, v1), (2, 0, v2), (3, 0, v3)] [(0, (-2))] G1 Q
    exact sg_ret (by decide +kernel) rfl (Or.inl rfl) ((hhr1.2 q3))
set_option maxRecDepth 100000 in
theorem g_M_stoodOf_0 {d : Nat} {v1 v2 v3 : Int} {G : SgM} {Q : Int → SgM → Prop} (h : (v3 ≠ 0 → ((v3 ≠ 1 → ((0 ≤ (sg_iadd (sg_imul 8 v1) v2) ∧ (sg_iadd (sg_imul 8 v1) v2) < 192) ∧ (Q (G 224 (sg_iadd (sg_imul 8 v1) v2)) G))) ∧ (¬ (v3 ≠ 1) → ((0 ≤ (sg_iadd (sg_imul 8 v1) v2) ∧ (sg_iadd (sg_imul 8 v1) v2) < 192) ∧ (Q (G 223 (sg_iadd (sg_imul 8 v1) v2)) G))))) ∧ (¬ (v3 ≠ 0) → ((0 ≤ (sg_iadd (sg_imul 8 v1) v2) ∧ (sg_iadd (sg_imul 8 v1) v2) < 192) ∧ (Q (G 222 (sg_iadd (sg_imul 8 v1) v2)) G)))) : sg_Wp 200 228 d m_M_stoodOf 0 [(0, 2, 200), (1, 0, v1), (2, 0, v2), (3, 0, v3)] [] G Q := by
  refine sg_blk [(8, 8, 0, 0, 0), (3, 0, 0, 1, 0), (34, 0, 0, 0, 0), (3, 0, 0, 2, 0), (32, 0, 0, 0, 0), (26, 0, 0, 4, 0), (3, 0, 0, 3, 0)] (by decide +kernel) ?_
  refine And.intro rfl (And.intro rfl (And.intro rfl (And.intro rfl (And.intro rfl (And.intro rfl (?_))))))
  show sg_Wp 200 228 d m_M_stoodOf 9 [(0, 2, 200), (1, 0, v1), (2, 0, v2), (3, 0, v3), (4, 0, sg_iadd (sg_imul 8 v1) v2)] [(0, v3)] G Q
  refine sg_if_ne (off := 13) (tgt := 22) (by decide +kernel) (by decide) ⟨fun q2 => ?_, fun q2 => ?_⟩
  · refine sg_blk [(3, 0, 0, 3, 0), (7, 1, 0, 0, 0)] (by decide +kernel) ?_
    refine And.intro rfl (And.intro rfl (?_))
    show sg_Wp 200 228 d m_M_stoodOf 24 [(0, 2, 200), (1, 0, v1), (2, 0, v2), (3, 0, v3), (4, 0, sg_iadd (sg_imul 8 v1) v2)] [(0, 1), (0, v3)] G Q
    refine sg_icmp_ne (off := 13) (tgt := 37) (by decide +kernel) (by decide) ⟨fun q1 => ?_, fun q1 => ?_⟩
    · refine sg_blk [(1, 0, 0, 0, 0), (65, 224, 11, 80, 31), (4, 0, 0, 4, 0), (17, 192, 0, 0, 0)] (by decide +kernel) ?_
      refine And.intro (Nat.le_of_ble_eq_true rfl) (And.intro ce_200 (And.intro rr_200_31 (And.intro rfl (And.intro ce_224 (And.intro ((h.1 q2).1 q1).1 (?_))))))
      show sg_Wp 200 228 d m_M_stoodOf 44 [(0, 2, 200), (1, 0, v1), (2, 0, v2), (3, 0, v3), (4, 0, sg_iadd (sg_imul 8 v1) v2)] [(0, G 224 (sg_iadd (sg_imul 8 v1) v2))] G Q
      exact sg_ret (by decide +kernel) rfl (Or.inl rfl) (((h.1 q2).1 q1).2)
    · refine sg_blk [(1, 0, 0, 0, 0), (65, 223, 11, 77, 30), (4, 0, 0, 4, 0), (17, 192, 0, 0, 0)] (by decide +kernel) ?_
      refine And.intro (Nat.le_of_ble_eq_true rfl) (And.intro ce_200 (And.intro rr_200_30 (And.intro rfl (And.intro ce_223 (And.intro ((h.1 q2).2 q1).1 (?_))))))
      show sg_Wp 200 228 d m_M_stoodOf 34 [(0, 2, 200), (1, 0, v1), (2, 0, v2), (3, 0, v3), (4, 0, sg_iadd (sg_imul 8 v1) v2)] [(0, G 223 (sg_iadd (sg_imul 8 v1) v2))] G Q
      refine sg_goto (off := 10) (tgt := 44) (by decide +kernel) (by decide) ?_
      exact sg_ret (by decide +kernel) rfl (Or.inl rfl) (((h.1 q2).2 q1).2)
  · refine sg_blk [(1, 0, 0, 0, 0), (65, 222, 11, 74, 29), (4, 0, 0, 4, 0), (17, 192, 0, 0, 0)] (by decide +kernel) ?_
    refine And.intro (Nat.le_of_ble_eq_true rfl) (And.intro ce_200 (And.intro rr_200_29 (And.intro rfl (And.intro ce_222 (And.intro (h.2 q2).1 (?_))))))
    show sg_Wp 200 228 d m_M_stoodOf 19 [(0, 2, 200), (1, 0, v1), (2, 0, v2), (3, 0, v3), (4, 0, sg_iadd (sg_imul 8 v1) v2)] [(0, G 222 (sg_iadd (sg_imul 8 v1) v2))] G Q
    refine sg_goto (off := 25) (tgt := 44) (by decide +kernel) (by decide) ?_
    exact sg_ret (by decide +kernel) rfl (Or.inl rfl) ((h.2 q2).2)
set_option maxRecDepth 100000 in
theorem g_M_stroll_0 {d : Nat} {v1 v2 : Int} {G : SgM} {Q : Int → SgM → Prop} (h : sg_Wp 200 228 (d + 1) m_M_find 0 [(0, 2, 200)] [] G (fun r1 G1 => sg_Wp 200 228 (d + 1) m_M_isPerson 0 [(0, 2, 200), (1, 0, v1)] [] G1 (fun r2 G2 => (r2 = 0 → (Q ((-2)) G2)) ∧ (¬ (r2 = 0) → (((0 ≤ v2 ∧ v2 ≤ 1) → (sg_Wp 200 228 (d + 1) m_M_strollOf 0 [(0, 2, 200), (1, 0, v1), (2, 0, v2)] [] G2 (fun r3 G3 => Q r3 G3))) ∧ (¬ (0 ≤ v2 ∧ v2 ≤ 1) → (Q ((-2)) G2))))))) : sg_Wp 200 228 (d + 2) m_M_stroll 0 [(0, 2, 200), (1, 0, v1), (2, 0, v2)] [] G Q := by
  refine sg_blk [(1, 0, 0, 0, 0)] (by decide +kernel) ?_
  refine And.intro (Nat.le_of_ble_eq_true rfl) (?_)
  show sg_Wp 200 228 (d + 2) m_M_stroll 1 [(0, 2, 200), (1, 0, v1), (2, 0, v2)] [(2, 200)] G Q
  refine sg_callV (k := (d + 1)) (y' := m_M_find) (av := []) (rest := []) (b := 200) (by decide +kernel) cv_M_find ml_11_217 ce_200 rfl rfl (Nat.le_of_ble_eq_true rfl) (Nat.lt_succ_self (d + 1)) (Nat.le_of_ble_eq_true rfl) rfl ?_
  show sg_Wp 200 228 (d + 1) m_M_find 0 [(0, 2, 200)] [] G _
  refine sg_Wp.mono h (fun r1 G1 hhr1 => ?_)
  show sg_Wp 200 228 (d + 2) m_M_stroll 4 [(0, 2, 200), (1, 0, v1), (2, 0, v2)] [] G1 Q
  refine sg_blk [(1, 0, 0, 0, 0), (3, 0, 0, 1, 0)] (by decide +kernel) ?_
  refine And.intro (Nat.le_of_ble_eq_true rfl) (And.intro rfl (?_))
  show sg_Wp 200 228 (d + 2) m_M_stroll 6 [(0, 2, 200), (1, 0, v1), (2, 0, v2)] [(0, v1), (2, 200)] G1 Q
  refine sg_callV (k := (d + 1)) (y' := m_M_isPerson) (av := [(0, v1)]) (rest := []) (b := 200) (by decide +kernel) cv_M_isPerson ml_11_161 ce_200 rfl rfl (Nat.le_of_ble_eq_true rfl) (Nat.lt_succ_self (d + 1)) (Nat.le_of_ble_eq_true rfl) rfl ?_
  show sg_Wp 200 228 (d + 1) m_M_isPerson 0 [(0, 2, 200), (1, 0, v1)] [] G1 _
  refine sg_Wp.mono hhr1 (fun r2 G2 hhr2 => ?_)
  show sg_Wp 200 228 (d + 2) m_M_stroll 9 [(0, 2, 200), (1, 0, v1), (2, 0, v2)] [(0, r2)] G2 Q
  refine sg_if_eq (off := 19) (tgt := 28) (by decide +kernel) (by decide) ⟨fun q2 => ?_, fun q2 => ?_⟩
  · refine sg_blk [(8, (-2), 0, 0, 0)] (by decide +kernel) ?_
    refine And.intro rfl (And.intro rfl (?_))
    show sg_Wp 200 228 (d + 2) m_M_stroll 30 [(0, 2, 200), (1, 0, v1), (2, 0, v2)] [(0, (-2))] G2 Q
    exact sg_ret (by decide +kernel) rfl (Or.inl rfl) ((hhr2.1 q2))
  · refine sg_blk [(3, 0, 0, 2, 0)] (by decide +kernel) ?_
    refine And.intro rfl (?_)
    show sg_Wp 200 228 (d + 2) m_M_stroll 13 [(0, 2, 200), (1, 0, v1), (2, 0, v2)] [(0, v2)] G2 Q
    refine sg_callS (k := (d + 1)) (y' := m_M_isTwo) (av := [(0, v2)]) (rest := []) (by decide +kernel) cs_M_isTwo ml_11_126 rfl (Nat.le_of_ble_eq_true rfl) (Nat.lt_succ_self (d + 1)) (Nat.le_of_ble_eq_true rfl) rfl ?_
    show sg_Wp 200 228 (d + 1) m_M_isTwo 0 [(0, 0, v2)] [] G2 _
    refine s_M_isTwo ?_
    show sg_Wp 200 228 (d + 2) m_M_stroll 16 [(0, 2, 200), (1, 0, v1), (2, 0, v2)] [(0, sg_bo (0 ≤ v2 ∧ v2 ≤ 1))] G2 Q
    refine sg_bif_eq (off := 12) (tgt := 28) (by decide +kernel) (by decide) ⟨fun q1 => ?_, fun q1 => ?_⟩
    · refine sg_blk [(1, 0, 0, 0, 0), (3, 0, 0, 1, 0), (3, 0, 0, 2, 0)] (by decide +kernel) ?_
      refine And.intro (Nat.le_of_ble_eq_true rfl) (And.intro rfl (And.intro rfl (?_)))
      show sg_Wp 200 228 (d + 2) m_M_stroll 22 [(0, 2, 200), (1, 0, v1), (2, 0, v2)] [(0, v2), (0, v1), (2, 200)] G2 Q
      refine sg_callV (k := (d + 1)) (y' := m_M_strollOf) (av := [(0, v1), (0, v2)]) (rest := []) (b := 200) (by decide +kernel) cv_M_strollOf ml_11_250 ce_200 rfl rfl (Nat.le_of_ble_eq_true rfl) (Nat.lt_succ_self (d + 1)) (Nat.le_of_ble_eq_true rfl) rfl ?_
      show sg_Wp 200 228 (d + 1) m_M_strollOf 0 [(0, 2, 200), (1, 0, v1), (2, 0, v2)] [] G2 _
      refine sg_Wp.mono (((hhr2.2 q2).1 q1)) (fun r3 G3 hhr3 => ?_)
      show sg_Wp 200 228 (d + 2) m_M_stroll 25 [(0, 2, 200), (1, 0, v1), (2, 0, v2)] [(0, r3)] G3 Q
      refine sg_goto (off := 5) (tgt := 30) (by decide +kernel) (by decide) ?_
      exact sg_ret (by decide +kernel) rfl (Or.inl rfl) hhr3
    · refine sg_blk [(8, (-2), 0, 0, 0)] (by decide +kernel) ?_
      refine And.intro rfl (And.intro rfl (?_))
      show sg_Wp 200 228 (d + 2) m_M_stroll 30 [(0, 2, 200), (1, 0, v1), (2, 0, v2)] [(0, (-2))] G2 Q
      exact sg_ret (by decide +kernel) rfl (Or.inl rfl) (((hhr2.2 q2).2 q1))
set_option maxRecDepth 100000 in
theorem g_M_strollOf_0 {d : Nat} {v1 v2 : Int} {G : SgM} {Q : Int → SgM → Prop} (h : (0 ≤ (sg_iadd (sg_imul 4 v1) 1) ∧ (sg_iadd (sg_imul 4 v1) 1) < 24) ∧ (sg_Wp 200 228 (d + 1) m_M_strollOf 22 [(0, 2, 200), (1, 0, v1), (2, 0, v2), (3, 0, G 208 (sg_iadd (sg_imul 4 v1) 1)), (4, 0, (-1)), (5, 0, 999), (6, 0, 0)] [] G Q)) : sg_Wp 200 228 (d + 1) m_M_strollOf 0 [(0, 2, 200), (1, 0, v1), (2, 0, v2)] [] G Q := by
  refine sg_blk [(1, 0, 0, 0, 0), (65, 208, 11, 31, 10), (7, 4, 0, 0, 0), (3, 0, 0, 1, 0), (34, 0, 0, 0, 0), (7, 1, 0, 0, 0), (32, 0, 0, 0, 0), (17, 24, 0, 0, 0), (25, 0, 0, 3, 0), (7, (-1), 0, 0, 0), (26, 0, 0, 4, 0), (9, 999, 0, 0, 0), (26, 0, 0, 5, 0), (7, 0, 0, 0, 0), (26, 0, 0, 6, 0)] (by decide +kernel) ?_
  refine And.intro (Nat.le_of_ble_eq_true rfl) (And.intro ce_200 (And.intro rr_200_10 (And.intro rfl (And.intro rfl (And.intro rfl (And.intro ce_208 (And.intro h.1 (And.intro rfl (And.intro rfl (And.intro rfl (And.intro rfl (And.intro rfl (And.intro rfl (And.intro rfl (And.intro rfl (?_))))))))))))))))
  show sg_Wp 200 228 (d + 1) m_M_strollOf 22 [(0, 2, 200), (1, 0, v1), (2, 0, v2), (3, 0, G 208 (sg_iadd (sg_imul 4 v1) 1)), (4, 0, (-1)), (5, 0, 999), (6, 0, 0)] [] G Q
  exact h.2
set_option maxRecDepth 100000 in
theorem g_M_strollOf_22 {d : Nat} {v1 v2 v3 v4 v5 v6 : Int} {G : SgM} {Q : Int → SgM → Prop} (h : (10 ≤ v6 → ((0 ≤ (sg_iadd (sg_imul 4 v1) 1) ∧ (sg_iadd (sg_imul 4 v1) 1) < 24) ∧ ((v2 ≠ 0 → (Q v5 (sg_up G 208 (sg_iadd (sg_imul 4 v1) 1) v3))) ∧ (¬ (v2 ≠ 0) → (Q v4 (sg_up G 208 (sg_iadd (sg_imul 4 v1) 1) v3)))))) ∧ (¬ (10 ≤ v6) → ((0 ≤ (sg_iadd (sg_imul 4 v1) 1) ∧ (sg_iadd (sg_imul 4 v1) 1) < 24) ∧ (sg_Wp 200 228 d m_M_lives 0 [(0, 2, 200)] [] (sg_up G 208 (sg_iadd (sg_imul 4 v1) 1) v6) (fun r1 G1 => sg_Wp 200 228 d m_M_longestBy 0 [(0, 2, 200), (1, 0, 2)] [] G1 (fun r2 G2 => (v5 ≤ (sg_grt r2 0) → (sg_Wp 200 228 (d + 1) m_M_strollOf 22 [(0, 2, 200), (1, 0, v1), (2, 0, v2), (3, 0, v3), (4, 0, v4), (5, 0, sg_lss (sg_grt r2 0) v5), (6, 0, sg_iadd v6 1)] [] G2 Q)) ∧ (¬ (v5 ≤ (sg_grt r2 0)) → (sg_Wp 200 228 (d + 1) m_M_strollOf 22 [(0, 2, 200), (1, 0, v1), (2, 0, v2), (3, 0, v3), (4, 0, v6), (5, 0, sg_lss (sg_grt r2 0) v5), (6, 0, sg_iadd v6 1)] [] G2 Q)))))))) : sg_Wp 200 228 (d + 1) m_M_strollOf 22 [(0, 2, 200), (1, 0, v1), (2, 0, v2), (3, 0, v3), (4, 0, v4), (5, 0, v5), (6, 0, v6)] [] G Q := by
  refine sg_blk [(4, 0, 0, 6, 0), (8, 10, 0, 0, 0)] (by decide +kernel) ?_
  refine And.intro rfl (And.intro rfl (And.intro rfl (?_)))
  show sg_Wp 200 228 (d + 1) m_M_strollOf 26 [(0, 2, 200), (1, 0, v1), (2, 0, v2), (3, 0, v3), (4, 0, v4), (5, 0, v5), (6, 0, v6)] [(0, 10), (0, v6)] G Q
  refine sg_icmp_ge (off := 61) (tgt := 87) (by decide +kernel) (by decide) ⟨fun q3 => ?_, fun q3 => ?_⟩
  · refine sg_blk [(1, 0, 0, 0, 0), (65, 208, 11, 31, 10), (7, 4, 0, 0, 0), (3, 0, 0, 1, 0), (34, 0, 0, 0, 0), (7, 1, 0, 0, 0), (32, 0, 0, 0, 0), (3, 0, 0, 3, 0), (18, 24, 0, 0, 0), (3, 0, 0, 2, 0)] (by decide +kernel) ?_
    refine And.intro (Nat.le_of_ble_eq_true rfl) (And.intro ce_200 (And.intro rr_200_10 (And.intro rfl (And.intro rfl (And.intro rfl (And.intro rfl (And.intro ce_208 (And.intro (h.1 q3).1 (And.intro rfl (?_))))))))))
    show sg_Wp 200 228 (d + 1) m_M_strollOf 99 [(0, 2, 200), (1, 0, v1), (2, 0, v2), (3, 0, v3), (4, 0, v4), (5, 0, v5), (6, 0, v6)] [(0, v2)] (sg_up G 208 (sg_iadd (sg_imul 4 v1) 1) v3) Q
    refine sg_if_ne (off := 8) (tgt := 107) (by decide +kernel) (by decide) ⟨fun q1 => ?_, fun q1 => ?_⟩
    · refine sg_blk [(4, 0, 0, 5, 0)] (by decide +kernel) ?_
      refine And.intro rfl (?_)
      show sg_Wp 200 228 (d + 1) m_M_strollOf 109 [(0, 2, 200), (1, 0, v1), (2, 0, v2), (3, 0, v3), (4, 0, v4), (5, 0, v5), (6, 0, v6)] [(0, v5)] (sg_up G 208 (sg_iadd (sg_imul 4 v1) 1) v3) Q
      exact sg_ret (by decide +kernel) rfl (Or.inl rfl) (((h.1 q3).2.1 q1))
    · refine sg_blk [(4, 0, 0, 4, 0)] (by decide +kernel) ?_
      refine And.intro rfl (?_)
      show sg_Wp 200 228 (d + 1) m_M_strollOf 104 [(0, 2, 200), (1, 0, v1), (2, 0, v2), (3, 0, v3), (4, 0, v4), (5, 0, v5), (6, 0, v6)] [(0, v4)] (sg_up G 208 (sg_iadd (sg_imul 4 v1) 1) v3) Q
      refine sg_goto (off := 5) (tgt := 109) (by decide +kernel) (by decide) ?_
      exact sg_ret (by decide +kernel) rfl (Or.inl rfl) (((h.1 q3).2.2 q1))
  · refine sg_blk [(1, 0, 0, 0, 0), (65, 208, 11, 31, 10), (7, 4, 0, 0, 0), (3, 0, 0, 1, 0), (34, 0, 0, 0, 0), (7, 1, 0, 0, 0), (32, 0, 0, 0, 0), (4, 0, 0, 6, 0), (18, 24, 0, 0, 0), (1, 0, 0, 0, 0)] (by decide +kernel) ?_
    refine And.intro (Nat.le_of_ble_eq_true rfl) (And.intro ce_200 (And.intro rr_200_10 (And.intro rfl (And.intro rfl (And.intro rfl (And.intro rfl (And.intro ce_208 (And.intro (h.2 q3).1 (And.intro (Nat.le_of_ble_eq_true rfl) (?_))))))))))
    show sg_Wp 200 228 (d + 1) m_M_strollOf 42 [(0, 2, 200), (1, 0, v1), (2, 0, v2), (3, 0, v3), (4, 0, v4), (5, 0, v5), (6, 0, v6)] [(2, 200)] (sg_up G 208 (sg_iadd (sg_imul 4 v1) 1) v6) Q
    refine sg_callV (k := d) (y' := m_M_lives) (av := []) (rest := []) (b := 200) (by decide +kernel) cv_M_lives ml_11_214 ce_200 rfl rfl (Nat.le_of_ble_eq_true rfl) (Nat.lt_succ_self d) (Nat.le_of_ble_eq_true rfl) rfl ?_
    show sg_Wp 200 228 d m_M_lives 0 [(0, 2, 200)] [] (sg_up G 208 (sg_iadd (sg_imul 4 v1) 1) v6) _
    refine sg_Wp.mono ((h.2 q3).2) (fun r1 G1 hhr1 => ?_)
    show sg_Wp 200 228 (d + 1) m_M_strollOf 45 [(0, 2, 200), (1, 0, v1), (2, 0, v2), (3, 0, v3), (4, 0, v4), (5, 0, v5), (6, 0, v6)] [] G1 Q
    refine sg_blk [(1, 0, 0, 0, 0), (7, 2, 0, 0, 0)] (by decide +kernel) ?_
    refine And.intro (Nat.le_of_ble_eq_true rfl) (And.intro rfl (?_))
    show sg_Wp 200 228 (d + 1) m_M_strollOf 47 [(0, 2, 200), (1, 0, v1), (2, 0, v2), (3, 0, v3), (4, 0, v4), (5, 0, v5), (6, 0, v6)] [(0, 2), (2, 200)] G1 Q
    refine sg_callV (k := d) (y' := m_M_longestBy) (av := [(0, 2)]) (rest := []) (b := 200) (by decide +kernel) cv_M_longestBy ml_11_235 ce_200 rfl rfl (Nat.le_of_ble_eq_true rfl) (Nat.lt_succ_self d) (Nat.le_of_ble_eq_true rfl) rfl ?_
    show sg_Wp 200 228 d m_M_longestBy 0 [(0, 2, 200), (1, 0, 2)] [] G1 _
    refine sg_Wp.mono hhr1 (fun r2 G2 hhr2 => ?_)
    show sg_Wp 200 228 (d + 1) m_M_strollOf 50 [(0, 2, 200), (1, 0, v1), (2, 0, v2), (3, 0, v3), (4, 0, v4), (5, 0, v5), (6, 0, v6)] [(0, r2)] G2 Q
    refine sg_blk [(7, 0, 0, 0, 0)] (by decide +kernel) ?_
    refine And.intro rfl (?_)
    show sg_Wp 200 228 (d + 1) m_M_strollOf 51 [(0, 2, 200), (1, 0, v1), (2, 0, v2), (3, 0, v3), (4, 0, v4), (5, 0, v5), (6, 0, v6)] [(0, 0), (0, r2)] G2 Q
    refine sg_callS (k := d) (y' := m_M_greater) (av := [(0, r2), (0, 0)]) (rest := []) (by decide +kernel) cs_M_greater ml_11_232 rfl (Nat.le_of_ble_eq_true rfl) (Nat.lt_succ_self d) (Nat.le_of_ble_eq_true rfl) rfl ?_
    show sg_Wp 200 228 d m_M_greater 0 [(0, 0, r2), (1, 0, 0)] [] G2 _
    refine s_M_greater ?_
    show sg_Wp 200 228 (d + 1) m_M_strollOf 54 [(0, 2, 200), (1, 0, v1), (2, 0, v2), (3, 0, v3), (4, 0, v4), (5, 0, v5), (6, 0, v6)] [(0, sg_grt r2 0)] G2 Q
    refine sg_blk [(26, 0, 0, 7, 0), (4, 0, 0, 7, 0), (4, 0, 0, 5, 0)] (by decide +kernel) ?_
    refine And.intro rfl (And.intro rfl (And.intro rfl (?_)))
    show sg_Wp 200 228 (d + 1) m_M_strollOf 60 [(0, 2, 200), (1, 0, v1), (2, 0, v2), (3, 0, v3), (4, 0, v4), (5, 0, v5), (6, 0, v6), (7, 0, sg_grt r2 0)] [(0, v5), (0, sg_grt r2 0)] G2 Q
    refine sg_icmp_ge (off := 8) (tgt := 68) (by decide +kernel) (by decide) ⟨fun q2 => ?_, fun q2 => ?_⟩
    · refine sg_blk [(4, 0, 0, 4, 0), (26, 0, 0, 4, 0), (4, 0, 0, 7, 0), (4, 0, 0, 5, 0)] (by decide +kernel) ?_
      refine And.intro rfl (And.intro rfl (And.intro rfl (And.intro rfl (?_))))
      show sg_Wp 200 228 (d + 1) m_M_strollOf 76 [(0, 2, 200), (1, 0, v1), (2, 0, v2), (3, 0, v3), (4, 0, v4), (5, 0, v5), (6, 0, v6), (7, 0, sg_grt r2 0)] [(0, v5), (0, sg_grt r2 0)] G2 Q
      refine sg_callS (k := d) (y' := m_M_lesser) (av := [(0, sg_grt r2 0), (0, v5)]) (rest := []) (by decide +kernel) cs_M_lesser ml_11_247 rfl (Nat.le_of_ble_eq_true rfl) (Nat.lt_succ_self d) (Nat.le_of_ble_eq_true rfl) rfl ?_
      show sg_Wp 200 228 d m_M_lesser 0 [(0, 0, sg_grt r2 0), (1, 0, v5)] [] G2 _
      refine s_M_lesser ?_
      show sg_Wp 200 228 (d + 1) m_M_strollOf 79 [(0, 2, 200), (1, 0, v1), (2, 0, v2), (3, 0, v3), (4, 0, v4), (5, 0, v5), (6, 0, v6), (7, 0, sg_grt r2 0)] [(0, sg_lss (sg_grt r2 0) v5)] G2 Q
      refine sg_blk [(26, 0, 0, 5, 0), (31, 1, 0, 6, 0)] (by decide +kernel) ?_
      refine And.intro rfl (And.intro rfl (?_))
      show sg_Wp 200 228 (d + 1) m_M_strollOf 84 [(0, 2, 200), (1, 0, v1), (2, 0, v2), (3, 0, v3), (4, 0, v4), (5, 0, sg_lss (sg_grt r2 0) v5), (6, 0, sg_iadd v6 1), (7, 0, sg_grt r2 0)] [] G2 Q
      refine sg_goto (off := -62) (tgt := 22) (by decide +kernel) (by decide) ?_
      exact sg_Wp.keepk [0, 1, 2, 3, 4, 5, 6] rfl ((hhr2.1 q2))
    · refine sg_blk [(4, 0, 0, 6, 0)] (by decide +kernel) ?_
      refine And.intro rfl (?_)
      show sg_Wp 200 228 (d + 1) m_M_strollOf 65 [(0, 2, 200), (1, 0, v1), (2, 0, v2), (3, 0, v3), (4, 0, v4), (5, 0, v5), (6, 0, v6), (7, 0, sg_grt r2 0)] [(0, v6)] G2 Q
      refine sg_goto (off := 5) (tgt := 70) (by decide +kernel) (by decide) ?_
      refine sg_blk [(26, 0, 0, 4, 0), (4, 0, 0, 7, 0), (4, 0, 0, 5, 0)] (by decide +kernel) ?_
      refine And.intro rfl (And.intro rfl (And.intro rfl (?_)))
      show sg_Wp 200 228 (d + 1) m_M_strollOf 76 [(0, 2, 200), (1, 0, v1), (2, 0, v2), (3, 0, v3), (4, 0, v6), (5, 0, v5), (6, 0, v6), (7, 0, sg_grt r2 0)] [(0, v5), (0, sg_grt r2 0)] G2 Q
      refine sg_callS (k := d) (y' := m_M_lesser) (av := [(0, sg_grt r2 0), (0, v5)]) (rest := []) (by decide +kernel) cs_M_lesser ml_11_247 rfl (Nat.le_of_ble_eq_true rfl) (Nat.lt_succ_self d) (Nat.le_of_ble_eq_true rfl) rfl ?_
      show sg_Wp 200 228 d m_M_lesser 0 [(0, 0, sg_grt r2 0), (1, 0, v5)] [] G2 _
      refine s_M_lesser ?_
      show sg_Wp 200 228 (d + 1) m_M_strollOf 79 [(0, 2, 200), (1, 0, v1), (2, 0, v2), (3, 0, v3), (4, 0, v6), (5, 0, v5), (6, 0, v6), (7, 0, sg_grt r2 0)] [(0, sg_lss (sg_grt r2 0) v5)] G2 Q
      refine sg_blk [(26, 0, 0, 5, 0), (31, 1, 0, 6, 0)] (by decide +kernel) ?_
      refine And.intro rfl (And.intro rfl (?_))
      show sg_Wp 200 228 (d + 1) m_M_strollOf 84 [(0, 2, 200), (1, 0, v1), (2, 0, v2), (3, 0, v3), (4, 0, v6), (5, 0, sg_lss (sg_grt r2 0) v5), (6, 0, sg_iadd v6 1), (7, 0, sg_grt r2 0)] [] G2 Q
      refine sg_goto (off := -62) (tgt := 22) (by decide +kernel) (by decide) ?_
      exact sg_Wp.keepk [0, 1, 2, 3, 4, 5, 6] rfl ((hhr2.2 q2))
