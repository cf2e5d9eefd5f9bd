/-! CUT LEMMAS, printed by a program -/
set_option maxRecDepth 100000 in
theorem g_A_fill_25_0 {d N : Nat} (hN : 44 ≤ N) {v1 : Int} {G : SgM} {Q : Int → SgM → Prop} (h : sg_Wp 0 N d m_A_fill 5 [(0, 2, 25), (1, 0, v1), (2, 0, 0), (3, 0, 8)] [] G Q) : sg_Wp 0 N d m_A_fill 0 [(0, 2, 25), (1, 0, v1)] [] G Q := by
  refine sg_blk [(7, 0, 0, 0, 0), (25, 0, 0, 2, 0), (1, 0, 0, 0, 0), (24, 8, 0, 0, 0), (25, 0, 0, 3, 0)] (by decide +kernel) ?_
  refine And.intro rfl (And.intro rfl (And.intro (Nat.le_of_ble_eq_true rfl) (And.intro (And.intro (Or.inl (ce_25 hN)) (by decide)) (And.intro rfl (?_)))))
  show sg_Wp 0 N d m_A_fill 5 [(0, 2, 25), (1, 0, v1), (2, 0, 0), (3, 0, 8)] [] G Q
  exact h
set_option maxRecDepth 100000 in
theorem g_A_fill_25_5 {d N : Nat} (hN : 44 ≤ N) {v1 v2 v3 : Int} {G : SgM} {Q : Int → SgM → Prop} (h : (v3 ≤ v2 → (Q 0 G)) ∧ (¬ (v3 ≤ v2) → ((0 ≤ v2 ∧ v2 < 8) ∧ (sg_Wp 0 N d m_A_fill 5 [(0, 2, 25), (1, 0, v1), (2, 0, sg_iadd v2 1), (3, 0, v3)] [] (sg_up G 25 v2 v1) Q)))) : sg_Wp 0 N d m_A_fill 5 [(0, 2, 25), (1, 0, v1), (2, 0, v2), (3, 0, v3)] [] G Q := by
  refine sg_blk [(3, 0, 0, 2, 0), (3, 0, 0, 3, 0)] (by decide +kernel) ?_
  refine And.intro rfl (And.intro rfl (?_))
  show sg_Wp 0 N d m_A_fill 7 [(0, 2, 25), (1, 0, v1), (2, 0, v2), (3, 0, v3)] [(0, v3), (0, v2)] G Q
  refine sg_icmp_ge (off := 13) (tgt := 20) (by decide +kernel) (by decide) ⟨fun q1 => ?_, fun q1 => ?_⟩
  · exact sg_vret (by decide +kernel) rfl ((h.1 q1))
  · refine sg_blk [(1, 0, 0, 0, 0), (3, 0, 0, 2, 0), (3, 0, 0, 1, 0), (18, 8, 0, 0, 0), (31, 1, 0, 2, 0)] (by decide +kernel) ?_
    refine And.intro (Nat.le_of_ble_eq_true rfl) (And.intro rfl (And.intro rfl (And.intro (ce_25 hN) (And.intro (h.2 q1).1 (And.intro rfl (?_))))))
    show sg_Wp 0 N d m_A_fill 17 [(0, 2, 25), (1, 0, v1), (2, 0, sg_iadd v2 1), (3, 0, v3)] [] (sg_up G 25 v2 v1) Q
    refine sg_goto (off := -12) (tgt := 5) (by decide +kernel) (by decide) ?_
    exact (h.2 q1).2
set_option maxRecDepth 100000 in
theorem g_A_fill_36_0 {d N : Nat} (hN : 44 ≤ N) {v1 : Int} {G : SgM} {Q : Int → SgM → Prop} (h : sg_Wp 0 N d m_A_fill 5 [(0, 2, 36), (1, 0, v1), (2, 0, 0), (3, 0, 8)] [] G Q) : sg_Wp 0 N d m_A_fill 0 [(0, 2, 36), (1, 0, v1)] [] G Q := by
  refine sg_blk [(7, 0, 0, 0, 0), (25, 0, 0, 2, 0), (1, 0, 0, 0, 0), (24, 8, 0, 0, 0), (25, 0, 0, 3, 0)] (by decide +kernel) ?_
  refine And.intro rfl (And.intro rfl (And.intro (Nat.le_of_ble_eq_true rfl) (And.intro (And.intro (Or.inl (ce_36 hN)) (by decide)) (And.intro rfl (?_)))))
  show sg_Wp 0 N d m_A_fill 5 [(0, 2, 36), (1, 0, v1), (2, 0, 0), (3, 0, 8)] [] G Q
  exact h
set_option maxRecDepth 100000 in
theorem g_A_fill_36_5 {d N : Nat} (hN : 44 ≤ N) {v1 v2 v3 : Int} {G : SgM} {Q : Int → SgM → Prop} (h : (v3 ≤ v2 → (Q 0 G)) ∧ (¬ (v3 ≤ v2) → ((0 ≤ v2 ∧ v2 < 8) ∧ (sg_Wp 0 N d m_A_fill 5 [(0, 2, 36), (1, 0, v1), (2, 0, sg_iadd v2 1), (3, 0, v3)] [] (sg_up G 36 v2 v1) Q)))) : sg_Wp 0 N d m_A_fill 5 [(0, 2, 36), (1, 0, v1), (2, 0, v2), (3, 0, v3)] [] G Q := by
  refine sg_blk [(3, 0, 0, 2, 0), (3, 0, 0, 3, 0)] (by decide +kernel) ?_
  refine And.intro rfl (And.intro rfl (?_))
  show sg_Wp 0 N d m_A_fill 7 [(0, 2, 36), (1, 0, v1), (2, 0, v2), (3, 0, v3)] [(0, v3), (0, v2)] G Q
  refine sg_icmp_ge (off := 13) (tgt := 20) (by decide +kernel) (by decide) ⟨fun q1 => ?_, fun q1 => ?_⟩
  · exact sg_vret (by decide +kernel) rfl ((h.1 q1))
  · refine sg_blk [(1, 0, 0, 0, 0), (3, 0, 0, 2, 0), (3, 0, 0, 1, 0), (18, 8, 0, 0, 0), (31, 1, 0, 2, 0)] (by decide +kernel) ?_
    refine And.intro (Nat.le_of_ble_eq_true rfl) (And.intro rfl (And.intro rfl (And.intro (ce_36 hN) (And.intro (h.2 q1).1 (And.intro rfl (?_))))))
    show sg_Wp 0 N d m_A_fill 17 [(0, 2, 36), (1, 0, v1), (2, 0, sg_iadd v2 1), (3, 0, v3)] [] (sg_up G 36 v2 v1) Q
    refine sg_goto (off := -12) (tgt := 5) (by decide +kernel) (by decide) ?_
    exact (h.2 q1).2
set_option maxRecDepth 100000 in
theorem g_A_fill_43_0 {d N : Nat} (hN : 44 ≤ N) {v1 : Int} {G : SgM} {Q : Int → SgM → Prop} (h : sg_Wp 0 N d m_A_fill 5 [(0, 2, 43), (1, 0, v1), (2, 0, 0), (3, 0, 256)] [] G Q) : sg_Wp 0 N d m_A_fill 0 [(0, 2, 43), (1, 0, v1)] [] G Q := by
  refine sg_blk [(7, 0, 0, 0, 0), (25, 0, 0, 2, 0), (1, 0, 0, 0, 0), (24, 256, 0, 0, 0), (25, 0, 0, 3, 0)] (by decide +kernel) ?_
  refine And.intro rfl (And.intro rfl (And.intro (Nat.le_of_ble_eq_true rfl) (And.intro (And.intro (Or.inl (ce_43 hN)) (by decide)) (And.intro rfl (?_)))))
  show sg_Wp 0 N d m_A_fill 5 [(0, 2, 43), (1, 0, v1), (2, 0, 0), (3, 0, 256)] [] G Q
  exact h
set_option maxRecDepth 100000 in
theorem g_A_fill_43_5 {d N : Nat} (hN : 44 ≤ N) {v1 v2 v3 : Int} {G : SgM} {Q : Int → SgM → Prop} (h : (v3 ≤ v2 → (Q 0 G)) ∧ (¬ (v3 ≤ v2) → ((0 ≤ v2 ∧ v2 < 256) ∧ (sg_Wp 0 N d m_A_fill 5 [(0, 2, 43), (1, 0, v1), (2, 0, sg_iadd v2 1), (3, 0, v3)] [] (sg_up G 43 v2 v1) Q)))) : sg_Wp 0 N d m_A_fill 5 [(0, 2, 43), (1, 0, v1), (2, 0, v2), (3, 0, v3)] [] G Q := by
  refine sg_blk [(3, 0, 0, 2, 0), (3, 0, 0, 3, 0)] (by decide +kernel) ?_
  refine And.intro rfl (And.intro rfl (?_))
  show sg_Wp 0 N d m_A_fill 7 [(0, 2, 43), (1, 0, v1), (2, 0, v2), (3, 0, v3)] [(0, v3), (0, v2)] G Q
  refine sg_icmp_ge (off := 13) (tgt := 20) (by decide +kernel) (by decide) ⟨fun q1 => ?_, fun q1 => ?_⟩
  · exact sg_vret (by decide +kernel) rfl ((h.1 q1))
  · refine sg_blk [(1, 0, 0, 0, 0), (3, 0, 0, 2, 0), (3, 0, 0, 1, 0), (18, 256, 0, 0, 0), (31, 1, 0, 2, 0)] (by decide +kernel) ?_
    refine And.intro (Nat.le_of_ble_eq_true rfl) (And.intro rfl (And.intro rfl (And.intro (ce_43 hN) (And.intro (h.2 q1).1 (And.intro rfl (?_))))))
    show sg_Wp 0 N d m_A_fill 17 [(0, 2, 43), (1, 0, v1), (2, 0, sg_iadd v2 1), (3, 0, v3)] [] (sg_up G 43 v2 v1) Q
    refine sg_goto (off := -12) (tgt := 5) (by decide +kernel) (by decide) ?_
    exact (h.2 q1).2
set_option maxRecDepth 100000 in
theorem g_A_fill_68_0 {d N : Nat} (hN : 75 ≤ N) {v1 : Int} {G : SgM} {Q : Int → SgM → Prop} (h : sg_Wp 0 N d m_A_fill 5 [(0, 2, 68), (1, 0, v1), (2, 0, 0), (3, 0, 4)] [] G Q) : sg_Wp 0 N d m_A_fill 0 [(0, 2, 68), (1, 0, v1)] [] G Q := by
  refine sg_blk [(7, 0, 0, 0, 0), (25, 0, 0, 2, 0), (1, 0, 0, 0, 0), (24, 4, 0, 0, 0), (25, 0, 0, 3, 0)] (by decide +kernel) ?_
  refine And.intro rfl (And.intro rfl (And.intro (Nat.le_of_ble_eq_true rfl) (And.intro (And.intro (Or.inl (ce_68 hN)) (by decide)) (And.intro rfl (?_)))))
  show sg_Wp 0 N d m_A_fill 5 [(0, 2, 68), (1, 0, v1), (2, 0, 0), (3, 0, 4)] [] G Q
  exact h
set_option maxRecDepth 100000 in
theorem g_A_fill_68_5 {d N : Nat} (hN : 75 ≤ N) {v1 v2 v3 : Int} {G : SgM} {Q : Int → SgM → Prop} (h : (v3 ≤ v2 → (Q 0 G)) ∧ (¬ (v3 ≤ v2) → ((0 ≤ v2 ∧ v2 < 4) ∧ (sg_Wp 0 N d m_A_fill 5 [(0, 2, 68), (1, 0, v1), (2, 0, sg_iadd v2 1), (3, 0, v3)] [] (sg_up G 68 v2 v1) Q)))) : sg_Wp 0 N d m_A_fill 5 [(0, 2, 68), (1, 0, v1), (2, 0, v2), (3, 0, v3)] [] G Q := by
  refine sg_blk [(3, 0, 0, 2, 0), (3, 0, 0, 3, 0)] (by decide +kernel) ?_
  refine And.intro rfl (And.intro rfl (?_))
  show sg_Wp 0 N d m_A_fill 7 [(0, 2, 68), (1, 0, v1), (2, 0, v2), (3, 0, v3)] [(0, v3), (0, v2)] G Q
  refine sg_icmp_ge (off := 13) (tgt := 20) (by decide +kernel) (by decide) ⟨fun q1 => ?_, fun q1 => ?_⟩
  · exact sg_vret (by decide +kernel) rfl ((h.1 q1))
  · refine sg_blk [(1, 0, 0, 0, 0), (3, 0, 0, 2, 0), (3, 0, 0, 1, 0), (18, 4, 0, 0, 0), (31, 1, 0, 2, 0)] (by decide +kernel) ?_
    refine And.intro (Nat.le_of_ble_eq_true rfl) (And.intro rfl (And.intro rfl (And.intro (ce_68 hN) (And.intro (h.2 q1).1 (And.intro rfl (?_))))))
    show sg_Wp 0 N d m_A_fill 17 [(0, 2, 68), (1, 0, v1), (2, 0, sg_iadd v2 1), (3, 0, v3)] [] (sg_up G 68 v2 v1) Q
    refine sg_goto (off := -12) (tgt := 5) (by decide +kernel) (by decide) ?_
    exact (h.2 q1).2
set_option maxRecDepth 100000 in
theorem g_W_loadPosts_5_1_0 {d N : Nat} (hN : 44 ≤ N) {G : SgM} {Q : Int → SgM → Prop} (h : sg_Wp 0 N d m_T_things 0 [(0, 2, 1)] [] G (fun r1 G1 => sg_Wp 0 N (d + 1) m_W_loadPosts 15 [(0, 2, 5), (1, 2, 1), (2, 0, 0)] [] (sg_up G1 5 0 (sg_mn r1 8)) Q)) : sg_Wp 0 N (d + 1) m_W_loadPosts 0 [(0, 2, 5), (1, 2, 1)] [] G Q := by
  refine sg_blk [(1, 0, 0, 0, 0), (1, 0, 0, 1, 0)] (by decide +kernel) ?_
  refine And.intro (Nat.le_of_ble_eq_true rfl) (And.intro (Nat.le_of_ble_eq_true rfl) (?_))
  show sg_Wp 0 N (d + 1) m_W_loadPosts 2 [(0, 2, 5), (1, 2, 1)] [(2, 1), (2, 5)] G Q
  refine sg_callV (k := d) (y' := m_T_things) (av := []) (rest := [(2, 5)]) (b := 1) (by decide +kernel) cv_T_things ml_8_33 (ce_1 hN) rfl rfl (Nat.le_of_ble_eq_true rfl) (Nat.lt_succ_self d) (Nat.le_of_ble_eq_true rfl) rfl ?_
  show sg_Wp 0 N d m_T_things 0 [(0, 2, 1)] [] G _
  refine sg_Wp.mono h (fun r1 G1 hhr1 => ?_)
  show sg_Wp 0 N (d + 1) m_W_loadPosts 5 [(0, 2, 5), (1, 2, 1)] [(0, r1), (2, 5)] G1 Q
  refine sg_blk [(8, 8, 0, 0, 0)] (by decide +kernel) ?_
  refine And.intro rfl (And.intro rfl (?_))
  show sg_Wp 0 N (d + 1) m_W_loadPosts 7 [(0, 2, 5), (1, 2, 1)] [(0, 8), (0, r1), (2, 5)] G1 Q
  refine sg_mmin (by decide +kernel) mx_8_39 (Nat.succ_pos _) (Nat.le_of_ble_eq_true rfl) rfl ?_
  show sg_Wp 0 N (d + 1) m_W_loadPosts 10 [(0, 2, 5), (1, 2, 1)] [(0, sg_mn r1 8), (2, 5)] G1 Q
  refine sg_blk [(16, 0, 8, 45, 0), (7, 0, 0, 0, 0), (25, 0, 0, 2, 0)] (by decide +kernel) ?_
  refine And.intro (ce_5 hN) (And.intro rfl (And.intro rfl (?_)))
  show sg_Wp 0 N (d + 1) m_W_loadPosts 15 [(0, 2, 5), (1, 2, 1), (2, 0, 0)] [] (sg_up G1 5 0 (sg_mn r1 8)) Q
  exact hhr1
set_option maxRecDepth 100000 in
theorem g_W_loadPosts_5_1_15 {d N : Nat} (hN : 44 ≤ N) {v2 : Int} {G : SgM} {Q : Int → SgM → Prop} (h : ((G 5 0) ≤ v2 → (sg_Wp 0 N (d + 1) m_W_loadPosts 55 [(0, 2, 5), (2, 0, 0)] [] G Q)) ∧ (¬ ((G 5 0) ≤ v2) → (sg_Wp 0 N d m_T_number 0 [(0, 2, 1), (1, 0, v2), (2, 0, 0)] [] G (fun r2 G2 => (0 ≤ v2 ∧ v2 < 8) ∧ (sg_Wp 0 N d m_T_number 0 [(0, 2, 1), (1, 0, v2), (2, 0, 1)] [] (sg_up G2 6 v2 r2) (fun r3 G3 => (0 ≤ v2 ∧ v2 < 8) ∧ (sg_Wp 0 N (d + 1) m_W_loadPosts 15 [(0, 2, 5), (1, 2, 1), (2, 0, sg_iadd v2 1)] [] (sg_up G3 7 v2 r3) Q))))))) : sg_Wp 0 N (d + 1) m_W_loadPosts 15 [(0, 2, 5), (1, 2, 1), (2, 0, v2)] [] G Q := by
  refine sg_blk [(3, 0, 0, 2, 0), (1, 0, 0, 0, 0), (15, 0, 8, 45, 0)] (by decide +kernel) ?_
  refine And.intro rfl (And.intro (Nat.le_of_ble_eq_true rfl) (And.intro (ce_5 hN) (?_)))
  show sg_Wp 0 N (d + 1) m_W_loadPosts 20 [(0, 2, 5), (1, 2, 1), (2, 0, v2)] [(0, G 5 0), (0, v2)] G Q
  refine sg_icmp_ge (off := 33) (tgt := 53) (by decide +kernel) (by decide) ⟨fun q1 => ?_, fun q1 => ?_⟩
  · refine sg_blk [(7, 0, 0, 0, 0), (25, 0, 0, 2, 0)] (by decide +kernel) ?_
    refine And.intro rfl (And.intro rfl (?_))
    show sg_Wp 0 N (d + 1) m_W_loadPosts 55 [(0, 2, 5), (1, 2, 1), (2, 0, 0)] [] G Q
    exact sg_Wp.keepk [0, 2] rfl ((h.1 q1))
  · refine sg_blk [(1, 0, 0, 0, 0), (65, 6, 8, 9, 1), (3, 0, 0, 2, 0), (1, 0, 0, 1, 0), (3, 0, 0, 2, 0), (7, 0, 0, 0, 0)] (by decide +kernel) ?_
    refine And.intro (Nat.le_of_ble_eq_true rfl) (And.intro (ce_5 hN) (And.intro rr_5_1 (And.intro rfl (And.intro (Nat.le_of_ble_eq_true rfl) (And.intro rfl (And.intro rfl (?_)))))))
    show sg_Wp 0 N (d + 1) m_W_loadPosts 31 [(0, 2, 5), (1, 2, 1), (2, 0, v2)] [(0, 0), (0, v2), (2, 1), (0, v2), (2, 6)] G Q
    refine sg_callV (k := d) (y' := m_T_number) (av := [(0, v2), (0, 0)]) (rest := [(0, v2), (2, 6)]) (b := 1) (by decide +kernel) cv_T_number ml_8_49 (ce_1 hN) rfl rfl (Nat.le_of_ble_eq_true rfl) (Nat.lt_succ_self d) (Nat.le_of_ble_eq_true rfl) rfl ?_
    show sg_Wp 0 N d m_T_number 0 [(0, 2, 1), (1, 0, v2), (2, 0, 0)] [] G _
    refine sg_Wp.mono ((h.2 q1)) (fun r2 G2 hhr2 => ?_)
    show sg_Wp 0 N (d + 1) m_W_loadPosts 34 [(0, 2, 5), (1, 2, 1), (2, 0, v2)] [(0, r2), (0, v2), (2, 6)] G2 Q
    refine sg_blk [(18, 8, 0, 0, 0), (1, 0, 0, 0, 0), (65, 7, 8, 15, 2), (3, 0, 0, 2, 0), (1, 0, 0, 1, 0), (3, 0, 0, 2, 0), (7, 1, 0, 0, 0)] (by decide +kernel) ?_
    refine And.intro (ce_6 hN) (And.intro hhr2.1 (And.intro (Nat.le_of_ble_eq_true rfl) (And.intro (ce_5 hN) (And.intro rr_5_2 (And.intro rfl (And.intro (Nat.le_of_ble_eq_true rfl) (And.intro rfl (And.intro rfl (?_)))))))))
    show sg_Wp 0 N (d + 1) m_W_loadPosts 43 [(0, 2, 5), (1, 2, 1), (2, 0, v2)] [(0, 1), (0, v2), (2, 1), (0, v2), (2, 7)] (sg_up G2 6 v2 r2) Q
    refine sg_callV (k := d) (y' := m_T_number) (av := [(0, v2), (0, 1)]) (rest := [(0, v2), (2, 7)]) (b := 1) (by decide +kernel) cv_T_number ml_8_49 (ce_1 hN) rfl rfl (Nat.le_of_ble_eq_true rfl) (Nat.lt_succ_self d) (Nat.le_of_ble_eq_true rfl) rfl ?_
    show sg_Wp 0 N d m_T_number 0 [(0, 2, 1), (1, 0, v2), (2, 0, 1)] [] (sg_up G2 6 v2 r2) _
    refine sg_Wp.mono hhr2.2 (fun r3 G3 hhr3 => ?_)
    show sg_Wp 0 N (d + 1) m_W_loadPosts 46 [(0, 2, 5), (1, 2, 1), (2, 0, v2)] [(0, r3), (0, v2), (2, 7)] G3 Q
    refine sg_blk [(18, 8, 0, 0, 0), (31, 1, 0, 2, 0)] (by decide +kernel) ?_
    refine And.intro (ce_7 hN) (And.intro hhr3.1 (And.intro rfl (?_)))
    show sg_Wp 0 N (d + 1) m_W_loadPosts 50 [(0, 2, 5), (1, 2, 1), (2, 0, sg_iadd v2 1)] [] (sg_up G3 7 v2 r3) Q
    refine sg_goto (off := -35) (tgt := 15) (by decide +kernel) (by decide) ?_
    exact hhr3.2
set_option maxRecDepth 100000 in
theorem g_W_loadPosts_5_1_55 {d N : Nat} (hN : 44 ≤ N) {v2 : Int} {G : SgM} {Q : Int → SgM → Prop} (h : (3 ≤ v2 → (Q 0 G)) ∧ (¬ (3 ≤ v2) → (sg_Wp 0 N (d + 1) m_W_loadPosts 62 [(0, 2, 5), (2, 0, v2), (3, 0, 0)] [] G Q))) : sg_Wp 0 N (d + 1) m_W_loadPosts 55 [(0, 2, 5), (2, 0, v2)] [] G Q := by
  refine sg_blk [(3, 0, 0, 2, 0), (7, 3, 0, 0, 0)] (by decide +kernel) ?_
  refine And.intro rfl (And.intro rfl (?_))
  show sg_Wp 0 N (d + 1) m_W_loadPosts 57 [(0, 2, 5), (2, 0, v2)] [(0, 3), (0, v2)] G Q
  refine sg_icmp_ge (off := 44) (tgt := 101) (by decide +kernel) (by decide) ⟨fun q2 => ?_, fun q2 => ?_⟩
  · exact sg_vret (by decide +kernel) rfl ((h.1 q2))
  · refine sg_blk [(7, 0, 0, 0, 0), (25, 0, 0, 3, 0)] (by decide +kernel) ?_
    refine And.intro rfl (And.intro rfl (?_))
    show sg_Wp 0 N (d + 1) m_W_loadPosts 62 [(0, 2, 5), (2, 0, v2), (3, 0, 0)] [] G Q
    exact (h.2 q2)
set_option maxRecDepth 100000 in
theorem g_W_loadPosts_5_1_62 {d N : Nat} (hN : 44 ≤ N) {v2 v3 : Int} {G : SgM} {Q : Int → SgM → Prop} (h : (10 ≤ v3 → (sg_Wp 0 N (d + 1) m_W_loadPosts 55 [(0, 2, 5), (2, 0, sg_iadd v2 1)] [] G Q)) ∧ (¬ (10 ≤ v3) → ((0 ≤ v2 ∧ v2 < 3) ∧ (sg_Wp 0 N d m_W_hearersByDistance 0 [(0, 2, 5), (1, 0, (sg_loud v2.toNat).toInt), (2, 0, v3)] [] G (fun r4 G4 => (0 ≤ (sg_iadd (sg_imul v2 10) v3) ∧ (sg_iadd (sg_imul v2 10) v3) < 30) ∧ (sg_Wp 0 N (d + 1) m_W_loadPosts 62 [(0, 2, 5), (2, 0, v2), (3, 0, sg_iadd v3 1)] [] (sg_up G4 8 (sg_iadd (sg_imul v2 10) v3) r4) Q)))))) : sg_Wp 0 N (d + 1) m_W_loadPosts 62 [(0, 2, 5), (2, 0, v2), (3, 0, v3)] [] G Q := by
  refine sg_blk [(3, 0, 0, 3, 0), (8, 10, 0, 0, 0)] (by decide +kernel) ?_
  refine And.intro rfl (And.intro rfl (And.intro rfl (?_)))
  show sg_Wp 0 N (d + 1) m_W_loadPosts 65 [(0, 2, 5), (2, 0, v2), (3, 0, v3)] [(0, 10), (0, v3)] G Q
  refine sg_icmp_ge (off := 30) (tgt := 95) (by decide +kernel) (by decide) ⟨fun q3 => ?_, fun q3 => ?_⟩
  · refine sg_blk [(31, 1, 0, 2, 0)] (by decide +kernel) ?_
    refine And.intro rfl (?_)
    show sg_Wp 0 N (d + 1) m_W_loadPosts 98 [(0, 2, 5), (2, 0, sg_iadd v2 1), (3, 0, v3)] [] G Q
    refine sg_goto (off := -43) (tgt := 55) (by decide +kernel) (by decide) ?_
    exact sg_Wp.keepk [0, 1] rfl ((h.1 q3))
  · refine sg_blk [(1, 0, 0, 0, 0), (65, 8, 8, 18, 3), (3, 0, 0, 2, 0), (8, 10, 0, 0, 0), (34, 0, 0, 0, 0), (3, 0, 0, 3, 0), (32, 0, 0, 0, 0), (1, 0, 0, 0, 0), (61, 0, 0, 52, 0), (3, 0, 0, 2, 0), (68, 0, 0, 0, 0), (3, 0, 0, 3, 0)] (by decide +kernel) ?_
    refine And.intro (Nat.le_of_ble_eq_true rfl) (And.intro (ce_5 hN) (And.intro rr_5_3 (And.intro rfl (And.intro rfl (And.intro rfl (And.intro rfl (And.intro (Nat.le_of_ble_eq_true rfl) (And.intro rfl (And.intro (h.2 q3).1 (And.intro rfl (?_)))))))))))
    show sg_Wp 0 N (d + 1) m_W_loadPosts 85 [(0, 2, 5), (2, 0, v2), (3, 0, v3)] [(0, v3), (0, (sg_loud v2.toNat).toInt), (2, 5), (0, sg_iadd (sg_imul v2 10) v3), (2, 8)] G Q
    refine sg_callV (k := d) (y' := m_W_hearersByDistance) (av := [(0, (sg_loud v2.toNat).toInt), (0, v3)]) (rest := [(0, sg_iadd (sg_imul v2 10) v3), (2, 8)]) (b := 5) (by decide +kernel) cv_W_hearersByDistance ml_8_55 (ce_5 hN) rfl rfl (Nat.le_of_ble_eq_true rfl) (Nat.lt_succ_self d) (Nat.le_of_ble_eq_true rfl) rfl ?_
    show sg_Wp 0 N d m_W_hearersByDistance 0 [(0, 2, 5), (1, 0, (sg_loud v2.toNat).toInt), (2, 0, v3)] [] G _
    refine sg_Wp.mono ((h.2 q3).2) (fun r4 G4 hhr4 => ?_)
    show sg_Wp 0 N (d + 1) m_W_loadPosts 88 [(0, 2, 5), (2, 0, v2), (3, 0, v3)] [(0, r4), (0, sg_iadd (sg_imul v2 10) v3), (2, 8)] G4 Q
    refine sg_blk [(18, 30, 0, 0, 0), (31, 1, 0, 3, 0)] (by decide +kernel) ?_
    refine And.intro (ce_8 hN) (And.intro hhr4.1 (And.intro rfl (?_)))
    show sg_Wp 0 N (d + 1) m_W_loadPosts 92 [(0, 2, 5), (2, 0, v2), (3, 0, sg_iadd v3 1)] [] (sg_up G4 8 (sg_iadd (sg_imul v2 10) v3) r4) Q
    refine sg_goto (off := -30) (tgt := 62) (by decide +kernel) (by decide) ?_
    exact hhr4.2
set_option maxRecDepth 100000 in
theorem g_W_loadPeople_5_3_0 {d N : Nat} (hN : 44 ≤ N) {G : SgM} {Q : Int → SgM → Prop} (h : sg_Wp 0 N d m_T_things 0 [(0, 2, 3)] [] G (fun r1 G1 => sg_Wp 0 N (d + 1) m_W_loadPeople 15 [(0, 2, 5), (1, 2, 3), (2, 0, 0)] [] (sg_up G1 5 4 (sg_mn r1 6)) Q)) : sg_Wp 0 N (d + 1) m_W_loadPeople 0 [(0, 2, 5), (1, 2, 3)] [] G Q := by
  refine sg_blk [(1, 0, 0, 0, 0), (1, 0, 0, 1, 0)] (by decide +kernel) ?_
  refine And.intro (Nat.le_of_ble_eq_true rfl) (And.intro (Nat.le_of_ble_eq_true rfl) (?_))
  show sg_Wp 0 N (d + 1) m_W_loadPeople 2 [(0, 2, 5), (1, 2, 3)] [(2, 3), (2, 5)] G Q
  refine sg_callV (k := d) (y' := m_T_things) (av := []) (rest := [(2, 5)]) (b := 3) (by decide +kernel) cv_T_things ml_8_33 (ce_3 hN) rfl rfl (Nat.le_of_ble_eq_true rfl) (Nat.lt_succ_self d) (Nat.le_of_ble_eq_true rfl) rfl ?_
  show sg_Wp 0 N d m_T_things 0 [(0, 2, 3)] [] G _
  refine sg_Wp.mono h (fun r1 G1 hhr1 => ?_)
  show sg_Wp 0 N (d + 1) m_W_loadPeople 5 [(0, 2, 5), (1, 2, 3)] [(0, r1), (2, 5)] G1 Q
  refine sg_blk [(8, 6, 0, 0, 0)] (by decide +kernel) ?_
  refine And.intro rfl (And.intro rfl (?_))
  show sg_Wp 0 N (d + 1) m_W_loadPeople 7 [(0, 2, 5), (1, 2, 3)] [(0, 6), (0, r1), (2, 5)] G1 Q
  refine sg_mmin (by decide +kernel) mx_8_39 (Nat.succ_pos _) (Nat.le_of_ble_eq_true rfl) rfl ?_
  show sg_Wp 0 N (d + 1) m_W_loadPeople 10 [(0, 2, 5), (1, 2, 3)] [(0, sg_mn r1 6), (2, 5)] G1 Q
  refine sg_blk [(16, 0, 8, 58, 4), (7, 0, 0, 0, 0), (25, 0, 0, 2, 0)] (by decide +kernel) ?_
  refine And.intro (ce_5 hN) (And.intro rfl (And.intro rfl (?_)))
  show sg_Wp 0 N (d + 1) m_W_loadPeople 15 [(0, 2, 5), (1, 2, 3), (2, 0, 0)] [] (sg_up G1 5 4 (sg_mn r1 6)) Q
  exact hhr1
set_option maxRecDepth 100000 in
theorem g_W_loadPeople_5_3_15 {d N : Nat} (hN : 44 ≤ N) {v2 : Int} {G : SgM} {Q : Int → SgM → Prop} (h : ((G 5 4) ≤ v2 → (Q 0 G)) ∧ (¬ ((G 5 4) ≤ v2) → (sg_Wp 0 N d m_T_number 0 [(0, 2, 3), (1, 0, v2), (2, 0, 0)] [] G (fun r2 G2 => (0 ≤ v2 ∧ v2 < 6) ∧ (sg_Wp 0 N d m_T_number 0 [(0, 2, 3), (1, 0, v2), (2, 0, 1)] [] (sg_up G2 9 v2 r2) (fun r3 G3 => (0 ≤ v2 ∧ v2 < 6) ∧ (sg_Wp 0 N d m_T_number 0 [(0, 2, 3), (1, 0, v2), (2, 0, 2)] [] (sg_up G3 10 v2 r3) (fun r4 G4 => (0 ≤ v2 ∧ v2 < 6) ∧ (sg_Wp 0 N d m_T_number 0 [(0, 2, 3), (1, 0, v2), (2, 0, 3)] [] (sg_up G4 11 v2 r4) (fun r5 G5 => (0 ≤ v2 ∧ v2 < 6) ∧ (sg_Wp 0 N (d + 1) m_W_loadPeople 15 [(0, 2, 5), (1, 2, 3), (2, 0, sg_iadd v2 1)] [] (sg_up G5 12 v2 (sg_iadd r5 1)) Q))))))))))) : sg_Wp 0 N (d + 1) m_W_loadPeople 15 [(0, 2, 5), (1, 2, 3), (2, 0, v2)] [] G Q := by
  refine sg_blk [(3, 0, 0, 2, 0), (1, 0, 0, 0, 0), (15, 0, 8, 58, 4)] (by decide +kernel) ?_
  refine And.intro rfl (And.intro (Nat.le_of_ble_eq_true rfl) (And.intro (ce_5 hN) (?_)))
  show sg_Wp 0 N (d + 1) m_W_loadPeople 20 [(0, 2, 5), (1, 2, 3), (2, 0, v2)] [(0, G 5 4), (0, v2)] G Q
  refine sg_icmp_ge (off := 59) (tgt := 79) (by decide +kernel) (by decide) ⟨fun q1 => ?_, fun q1 => ?_⟩
  · exact sg_vret (by decide +kernel) rfl ((h.1 q1))
  · refine sg_blk [(1, 0, 0, 0, 0), (65, 9, 8, 21, 5), (3, 0, 0, 2, 0), (1, 0, 0, 1, 0), (3, 0, 0, 2, 0), (7, 0, 0, 0, 0)] (by decide +kernel) ?_
    refine And.intro (Nat.le_of_ble_eq_true rfl) (And.intro (ce_5 hN) (And.intro rr_5_5 (And.intro rfl (And.intro (Nat.le_of_ble_eq_true rfl) (And.intro rfl (And.intro rfl (?_)))))))
    show sg_Wp 0 N (d + 1) m_W_loadPeople 31 [(0, 2, 5), (1, 2, 3), (2, 0, v2)] [(0, 0), (0, v2), (2, 3), (0, v2), (2, 9)] G Q
    refine sg_callV (k := d) (y' := m_T_number) (av := [(0, v2), (0, 0)]) (rest := [(0, v2), (2, 9)]) (b := 3) (by decide +kernel) cv_T_number ml_8_49 (ce_3 hN) rfl rfl (Nat.le_of_ble_eq_true rfl) (Nat.lt_succ_self d) (Nat.le_of_ble_eq_true rfl) rfl ?_
    show sg_Wp 0 N d m_T_number 0 [(0, 2, 3), (1, 0, v2), (2, 0, 0)] [] G _
    refine sg_Wp.mono ((h.2 q1)) (fun r2 G2 hhr2 => ?_)
    show sg_Wp 0 N (d + 1) m_W_loadPeople 34 [(0, 2, 5), (1, 2, 3), (2, 0, v2)] [(0, r2), (0, v2), (2, 9)] G2 Q
    refine sg_blk [(18, 6, 0, 0, 0), (1, 0, 0, 0, 0), (65, 10, 8, 24, 6), (3, 0, 0, 2, 0), (1, 0, 0, 1, 0), (3, 0, 0, 2, 0), (7, 1, 0, 0, 0)] (by decide +kernel) ?_
    refine And.intro (ce_9 hN) (And.intro hhr2.1 (And.intro (Nat.le_of_ble_eq_true rfl) (And.intro (ce_5 hN) (And.intro rr_5_6 (And.intro rfl (And.intro (Nat.le_of_ble_eq_true rfl) (And.intro rfl (And.intro rfl (?_)))))))))
    show sg_Wp 0 N (d + 1) m_W_loadPeople 43 [(0, 2, 5), (1, 2, 3), (2, 0, v2)] [(0, 1), (0, v2), (2, 3), (0, v2), (2, 10)] (sg_up G2 9 v2 r2) Q
    refine sg_callV (k := d) (y' := m_T_number) (av := [(0, v2), (0, 1)]) (rest := [(0, v2), (2, 10)]) (b := 3) (by decide +kernel) cv_T_number ml_8_49 (ce_3 hN) rfl rfl (Nat.le_of_ble_eq_true rfl) (Nat.lt_succ_self d) (Nat.le_of_ble_eq_true rfl) rfl ?_
    show sg_Wp 0 N d m_T_number 0 [(0, 2, 3), (1, 0, v2), (2, 0, 1)] [] (sg_up G2 9 v2 r2) _
    refine sg_Wp.mono hhr2.2 (fun r3 G3 hhr3 => ?_)
    show sg_Wp 0 N (d + 1) m_W_loadPeople 46 [(0, 2, 5), (1, 2, 3), (2, 0, v2)] [(0, r3), (0, v2), (2, 10)] G3 Q
    refine sg_blk [(18, 6, 0, 0, 0), (1, 0, 0, 0, 0), (65, 11, 8, 27, 7), (3, 0, 0, 2, 0), (1, 0, 0, 1, 0), (3, 0, 0, 2, 0), (7, 2, 0, 0, 0)] (by decide +kernel) ?_
    refine And.intro (ce_10 hN) (And.intro hhr3.1 (And.intro (Nat.le_of_ble_eq_true rfl) (And.intro (ce_5 hN) (And.intro rr_5_7 (And.intro rfl (And.intro (Nat.le_of_ble_eq_true rfl) (And.intro rfl (And.intro rfl (?_)))))))))
    show sg_Wp 0 N (d + 1) m_W_loadPeople 55 [(0, 2, 5), (1, 2, 3), (2, 0, v2)] [(0, 2), (0, v2), (2, 3), (0, v2), (2, 11)] (sg_up G3 10 v2 r3) Q
    refine sg_callV (k := d) (y' := m_T_number) (av := [(0, v2), (0, 2)]) (rest := [(0, v2), (2, 11)]) (b := 3) (by decide +kernel) cv_T_number ml_8_49 (ce_3 hN) rfl rfl (Nat.le_of_ble_eq_true rfl) (Nat.lt_succ_self d) (Nat.le_of_ble_eq_true rfl) rfl ?_
    show sg_Wp 0 N d m_T_number 0 [(0, 2, 3), (1, 0, v2), (2, 0, 2)] [] (sg_up G3 10 v2 r3) _
    refine sg_Wp.mono hhr3.2 (fun r4 G4 hhr4 => ?_)
    show sg_Wp 0 N (d + 1) m_W_loadPeople 58 [(0, 2, 5), (1, 2, 3), (2, 0, v2)] [(0, r4), (0, v2), (2, 11)] G4 Q
    refine sg_blk [(18, 6, 0, 0, 0), (1, 0, 0, 0, 0), (65, 12, 8, 30, 8), (3, 0, 0, 2, 0), (1, 0, 0, 1, 0), (3, 0, 0, 2, 0), (7, 3, 0, 0, 0)] (by decide +kernel) ?_
    refine And.intro (ce_11 hN) (And.intro hhr4.1 (And.intro (Nat.le_of_ble_eq_true rfl) (And.intro (ce_5 hN) (And.intro rr_5_8 (And.intro rfl (And.intro (Nat.le_of_ble_eq_true rfl) (And.intro rfl (And.intro rfl (?_)))))))))
    show sg_Wp 0 N (d + 1) m_W_loadPeople 67 [(0, 2, 5), (1, 2, 3), (2, 0, v2)] [(0, 3), (0, v2), (2, 3), (0, v2), (2, 12)] (sg_up G4 11 v2 r4) Q
    refine sg_callV (k := d) (y' := m_T_number) (av := [(0, v2), (0, 3)]) (rest := [(0, v2), (2, 12)]) (b := 3) (by decide +kernel) cv_T_number ml_8_49 (ce_3 hN) rfl rfl (Nat.le_of_ble_eq_true rfl) (Nat.lt_succ_self d) (Nat.le_of_ble_eq_true rfl) rfl ?_
    show sg_Wp 0 N d m_T_number 0 [(0, 2, 3), (1, 0, v2), (2, 0, 3)] [] (sg_up G4 11 v2 r4) _
    refine sg_Wp.mono hhr4.2 (fun r5 G5 hhr5 => ?_)
    show sg_Wp 0 N (d + 1) m_W_loadPeople 70 [(0, 2, 5), (1, 2, 3), (2, 0, v2)] [(0, r5), (0, v2), (2, 12)] G5 Q
    refine sg_blk [(7, 1, 0, 0, 0), (32, 0, 0, 0, 0), (18, 6, 0, 0, 0), (31, 1, 0, 2, 0)] (by decide +kernel) ?_
    refine And.intro rfl (And.intro (ce_12 hN) (And.intro hhr5.1 (And.intro rfl (?_))))
    show sg_Wp 0 N (d + 1) m_W_loadPeople 76 [(0, 2, 5), (1, 2, 3), (2, 0, sg_iadd v2 1)] [] (sg_up G5 12 v2 (sg_iadd r5 1)) Q
    refine sg_goto (off := -61) (tgt := 15) (by decide +kernel) (by decide) ?_
    exact hhr5.2
set_option maxRecDepth 100000 in
theorem g_W_hearersOf_5_0 {d N : Nat} (hN : 44 ≤ N) {v1 v2 : Int} {G : SgM} {Q : Int → SgM → Prop} (h : ((sg_iadd (sg_imul v1 10) v2) < 0 → (Q 0 G)) ∧ (¬ ((sg_iadd (sg_imul v1 10) v2) < 0) → ((30 ≤ (sg_iadd (sg_imul v1 10) v2) → (Q 0 G)) ∧ (¬ (30 ≤ (sg_iadd (sg_imul v1 10) v2)) → ((0 ≤ (sg_iadd (sg_imul v1 10) v2) ∧ (sg_iadd (sg_imul v1 10) v2) < 30) ∧ (Q (G 8 (sg_iadd (sg_imul v1 10) v2)) G)))))) : sg_Wp 0 N d m_W_hearersOf 0 [(0, 2, 5), (1, 0, v1), (2, 0, v2)] [] G Q := by
  refine sg_blk [(3, 0, 0, 1, 0), (8, 10, 0, 0, 0), (34, 0, 0, 0, 0), (3, 0, 0, 2, 0), (32, 0, 0, 0, 0), (25, 0, 0, 3, 0), (3, 0, 0, 3, 0)] (by decide +kernel) ?_
  refine And.intro rfl (And.intro rfl (And.intro rfl (And.intro rfl (And.intro rfl (And.intro rfl (?_))))))
  show sg_Wp 0 N d m_W_hearersOf 8 [(0, 2, 5), (1, 0, v1), (2, 0, v2), (3, 0, sg_iadd (sg_imul v1 10) v2)] [(0, sg_iadd (sg_imul v1 10) v2)] G Q
  refine sg_if_lt (off := 21) (tgt := 29) (by decide +kernel) (by decide) ⟨fun q2 => ?_, fun q2 => ?_⟩
  · refine sg_blk [(7, 0, 0, 0, 0)] (by decide +kernel) ?_
    refine And.intro rfl (?_)
    show sg_Wp 0 N d m_W_hearersOf 30 [(0, 2, 5), (1, 0, v1), (2, 0, v2), (3, 0, sg_iadd (sg_imul v1 10) v2)] [(0, 0)] G Q
    exact sg_ret (by decide +kernel) rfl (Or.inl rfl) ((h.1 q2))
  · refine sg_blk [(3, 0, 0, 3, 0), (1, 0, 0, 0, 0), (65, 8, 8, 18, 3), (24, 30, 0, 0, 0)] (by decide +kernel) ?_
    refine And.intro rfl (And.intro (Nat.le_of_ble_eq_true rfl) (And.intro (ce_5 hN) (And.intro rr_5_3 (And.intro (And.intro (Or.inl (ce_8 hN)) (by decide)) (?_)))))
    show sg_Wp 0 N d m_W_hearersOf 17 [(0, 2, 5), (1, 0, v1), (2, 0, v2), (3, 0, sg_iadd (sg_imul v1 10) v2)] [(0, 30), (0, sg_iadd (sg_imul v1 10) v2)] G Q
    refine sg_icmp_ge (off := 12) (tgt := 29) (by decide +kernel) (by decide) ⟨fun q1 => ?_, fun q1 => ?_⟩
    · refine sg_blk [(7, 0, 0, 0, 0)] (by decide +kernel) ?_
      refine And.intro rfl (?_)
      show sg_Wp 0 N d m_W_hearersOf 30 [(0, 2, 5), (1, 0, v1), (2, 0, v2), (3, 0, sg_iadd (sg_imul v1 10) v2)] [(0, 0)] G Q
      exact sg_ret (by decide +kernel) rfl (Or.inl rfl) (((h.2 q2).1 q1))
    · refine sg_blk [(1, 0, 0, 0, 0), (65, 8, 8, 18, 3), (3, 0, 0, 3, 0), (17, 30, 0, 0, 0)] (by decide +kernel) ?_
      refine And.intro (Nat.le_of_ble_eq_true rfl) (And.intro (ce_5 hN) (And.intro rr_5_3 (And.intro rfl (And.intro (ce_8 hN) (And.intro ((h.2 q2).2 q1).1 (?_))))))
      show sg_Wp 0 N d m_W_hearersOf 26 [(0, 2, 5), (1, 0, v1), (2, 0, v2), (3, 0, sg_iadd (sg_imul v1 10) v2)] [(0, G 8 (sg_iadd (sg_imul v1 10) v2))] G Q
      refine sg_goto (off := 4) (tgt := 30) (by decide +kernel) (by decide) ?_
      exact sg_ret (by decide +kernel) rfl (Or.inl rfl) (((h.2 q2).2 q1).2)
set_option maxRecDepth 100000 in
theorem g_W_hearersByDistance_5_0 {d N : Nat} (hN : 44 ≤ N) {v1 v2 : Int} {G : SgM} {Q : Int → SgM → Prop} (h : sg_Wp 0 N (d + 1) m_W_hearersByDistance 5 [(0, 2, 5), (1, 0, v1), (2, 0, v2), (3, 0, 0), (4, 0, 0)] [] G Q) : sg_Wp 0 N (d + 1) m_W_hearersByDistance 0 [(0, 2, 5), (1, 0, v1), (2, 0, v2)] [] G Q := by
  refine sg_blk [(7, 0, 0, 0, 0), (25, 0, 0, 3, 0), (7, 0, 0, 0, 0), (26, 0, 0, 4, 0)] (by decide +kernel) ?_
  refine And.intro rfl (And.intro rfl (And.intro rfl (And.intro rfl (?_))))
  show sg_Wp 0 N (d + 1) m_W_hearersByDistance 5 [(0, 2, 5), (1, 0, v1), (2, 0, v2), (3, 0, 0), (4, 0, 0)] [] G Q
  exact h
set_option maxRecDepth 100000 in
theorem g_W_hearersByDistance_5_5 {d N : Nat} (hN : 44 ≤ N) {v1 v2 v3 v4 : Int} {G : SgM} {Q : Int → SgM → Prop} (h : ((G 5 0) ≤ v4 → (Q v3 G)) ∧ (¬ ((G 5 0) ≤ v4) → ((0 ≤ v4 ∧ v4 < 8) ∧ ((0 ≤ v4 ∧ v4 < 8) ∧ (((sg_isub v1 (sg_ab (sg_isub v2 (G 6 v4)))) < (G 7 v4) → (sg_Wp 0 N (d + 1) m_W_hearersByDistance 5 [(0, 2, 5), (1, 0, v1), (2, 0, v2), (3, 0, v3), (4, 0, sg_iadd v4 1)] [] G Q)) ∧ (¬ ((sg_isub v1 (sg_ab (sg_isub v2 (G 6 v4)))) < (G 7 v4)) → (sg_Wp 0 N (d + 1) m_W_hearersByDistance 5 [(0, 2, 5), (1, 0, v1), (2, 0, v2), (3, 0, sg_ior v3 (sg_ishl 1 v4)), (4, 0, sg_iadd v4 1)] [] G Q))))))) : sg_Wp 0 N (d + 1) m_W_hearersByDistance 5 [(0, 2, 5), (1, 0, v1), (2, 0, v2), (3, 0, v3), (4, 0, v4)] [] G Q := by
  refine sg_blk [(4, 0, 0, 4, 0), (1, 0, 0, 0, 0), (15, 0, 8, 45, 0)] (by decide +kernel) ?_
  refine And.intro rfl (And.intro (Nat.le_of_ble_eq_true rfl) (And.intro (ce_5 hN) (?_)))
  show sg_Wp 0 N (d + 1) m_W_hearersByDistance 11 [(0, 2, 5), (1, 0, v1), (2, 0, v2), (3, 0, v3), (4, 0, v4)] [(0, G 5 0), (0, v4)] G Q
  refine sg_icmp_ge (off := 40) (tgt := 51) (by decide +kernel) (by decide) ⟨fun q2 => ?_, fun q2 => ?_⟩
  · refine sg_blk [(3, 0, 0, 3, 0)] (by decide +kernel) ?_
    refine And.intro rfl (?_)
    show sg_Wp 0 N (d + 1) m_W_hearersByDistance 52 [(0, 2, 5), (1, 0, v1), (2, 0, v2), (3, 0, v3), (4, 0, v4)] [(0, v3)] G Q
    exact sg_ret (by decide +kernel) rfl (Or.inl rfl) ((h.1 q2))
  · refine sg_blk [(3, 0, 0, 1, 0), (3, 0, 0, 2, 0), (1, 0, 0, 0, 0), (65, 6, 8, 9, 1), (4, 0, 0, 4, 0), (17, 8, 0, 0, 0), (33, 0, 0, 0, 0)] (by decide +kernel) ?_
    refine And.intro rfl (And.intro rfl (And.intro (Nat.le_of_ble_eq_true rfl) (And.intro (ce_5 hN) (And.intro rr_5_1 (And.intro rfl (And.intro (ce_6 hN) (And.intro (h.2 q2).1 (?_))))))))
    show sg_Wp 0 N (d + 1) m_W_hearersByDistance 24 [(0, 2, 5), (1, 0, v1), (2, 0, v2), (3, 0, v3), (4, 0, v4)] [(0, sg_isub v2 (G 6 v4)), (0, v1)] G Q
    refine sg_mabs (by decide +kernel) mx_8_61 (Nat.succ_pos _) (Nat.le_of_ble_eq_true rfl) rfl ?_
    show sg_Wp 0 N (d + 1) m_W_hearersByDistance 27 [(0, 2, 5), (1, 0, v1), (2, 0, v2), (3, 0, v3), (4, 0, v4)] [(0, sg_ab (sg_isub v2 (G 6 v4))), (0, v1)] G Q
    refine sg_blk [(33, 0, 0, 0, 0), (1, 0, 0, 0, 0), (65, 7, 8, 15, 2), (4, 0, 0, 4, 0), (17, 8, 0, 0, 0)] (by decide +kernel) ?_
    refine And.intro (Nat.le_of_ble_eq_true rfl) (And.intro (ce_5 hN) (And.intro rr_5_2 (And.intro rfl (And.intro (ce_7 hN) (And.intro (h.2 q2).2.1 (?_))))))
    show sg_Wp 0 N (d + 1) m_W_hearersByDistance 35 [(0, 2, 5), (1, 0, v1), (2, 0, v2), (3, 0, v3), (4, 0, v4)] [(0, G 7 v4), (0, sg_isub v1 (sg_ab (sg_isub v2 (G 6 v4))))] G Q
    refine sg_icmp_lt (off := 10) (tgt := 45) (by decide +kernel) (by decide) ⟨fun q1 => ?_, fun q1 => ?_⟩
    · refine sg_blk [(31, 1, 0, 4, 0)] (by decide +kernel) ?_
      refine And.intro rfl (?_)
      show sg_Wp 0 N (d + 1) m_W_hearersByDistance 48 [(0, 2, 5), (1, 0, v1), (2, 0, v2), (3, 0, v3), (4, 0, sg_iadd v4 1)] [] G Q
      refine sg_goto (off := -43) (tgt := 5) (by decide +kernel) (by decide) ?_
      exact ((h.2 q2).2.2.1 q1)
    · refine sg_blk [(3, 0, 0, 3, 0), (7, 1, 0, 0, 0), (4, 0, 0, 4, 0), (41, 0, 0, 0, 0), (39, 0, 0, 0, 0), (25, 0, 0, 3, 0), (31, 1, 0, 4, 0)] (by decide +kernel) ?_
      refine And.intro rfl (And.intro rfl (And.intro rfl (And.intro rfl (And.intro rfl (?_)))))
      show sg_Wp 0 N (d + 1) m_W_hearersByDistance 48 [(0, 2, 5), (1, 0, v1), (2, 0, v2), (3, 0, sg_ior v3 (sg_ishl 1 v4)), (4, 0, sg_iadd v4 1)] [] G Q
      refine sg_goto (off := -43) (tgt := 5) (by decide +kernel) (by decide) ?_
      exact ((h.2 q2).2.2.2 q1)
set_option maxRecDepth 100000 in
theorem g_E_add_13_0 {d N : Nat} (hN : 44 ≤ N) {v1 v2 v3 : Int} {G : SgM} {Q : Int → SgM → Prop} (h : ((G 13 0) < 8 → ((0 ≤ (G 13 0) ∧ (G 13 0) < 8) ∧ (0 ≤ (G 13 0) ∧ (G 13 0) < 8) ∧ (0 ≤ (G 13 0) ∧ (G 13 0) < 8) ∧ (Q 1 (sg_up (sg_up (sg_up (sg_up G 14 (G 13 0) v1) 15 (G 13 0) v2) 16 (G 13 0) v3) 13 0 (sg_iadd (G 13 0) 1))))) ∧ (¬ ((G 13 0) < 8) → (Q 0 G))) : sg_Wp 0 N d m_E_add 0 [(0, 2, 13), (1, 0, v1), (2, 0, v2), (3, 0, v3)] [] G Q := by
  refine sg_blk [(1, 0, 0, 0, 0), (15, 0, 2, 25, 0), (8, 8, 0, 0, 0)] (by decide +kernel) ?_
  refine And.intro (Nat.le_of_ble_eq_true rfl) (And.intro (ce_13 hN) (And.intro rfl (And.intro rfl (?_))))
  show sg_Wp 0 N d m_E_add 6 [(0, 2, 13), (1, 0, v1), (2, 0, v2), (3, 0, v3)] [(0, 8), (0, G 13 0)] G Q
  refine sg_icmp_lt (off := 5) (tgt := 11) (by decide +kernel) (by decide) ⟨fun q1 => ?_, fun q1 => ?_⟩
  · refine sg_blk [(1, 0, 0, 0, 0), (65, 14, 2, 9, 1), (1, 0, 0, 0, 0), (15, 0, 2, 25, 0), (3, 0, 0, 1, 0), (18, 8, 0, 0, 0), (1, 0, 0, 0, 0), (65, 15, 2, 15, 2), (1, 0, 0, 0, 0), (15, 0, 2, 25, 0), (3, 0, 0, 2, 0), (18, 8, 0, 0, 0), (1, 0, 0, 0, 0), (65, 16, 2, 18, 3), (1, 0, 0, 0, 0), (15, 0, 2, 25, 0), (3, 0, 0, 3, 0), (18, 8, 0, 0, 0), (1, 0, 0, 0, 0), (57, 0, 0, 0, 0), (15, 0, 2, 25, 0), (7, 1, 0, 0, 0), (32, 0, 0, 0, 0), (16, 0, 2, 25, 0), (7, 1, 0, 0, 0)] (by decide +kernel) ?_
    refine And.intro (Nat.le_of_ble_eq_true rfl) (And.intro (ce_13 hN) (And.intro rr_13_1 (And.intro (Nat.le_of_ble_eq_true rfl) (And.intro (ce_13 hN) (And.intro rfl (And.intro (ce_14 hN) (And.intro (h.1 q1).1 (And.intro (Nat.le_of_ble_eq_true rfl) (And.intro (ce_13 hN) (And.intro rr_13_2 (And.intro (Nat.le_of_ble_eq_true rfl) (And.intro (ce_13 hN) (And.intro rfl (And.intro (ce_15 hN) (And.intro (h.1 q1).2.1 (And.intro (Nat.le_of_ble_eq_true rfl) (And.intro (ce_13 hN) (And.intro rr_13_3 (And.intro (Nat.le_of_ble_eq_true rfl) (And.intro (ce_13 hN) (And.intro rfl (And.intro (ce_16 hN) (And.intro (h.1 q1).2.2.1 (And.intro (Nat.le_of_ble_eq_true rfl) (And.intro (Nat.ne_of_beq_eq_false rfl) (And.intro (ce_13 hN) (And.intro rfl (And.intro (ce_13 hN) (And.intro rfl (?_))))))))))))))))))))))))))))))
    show sg_Wp 0 N d m_E_add 52 [(0, 2, 13), (1, 0, v1), (2, 0, v2), (3, 0, v3)] [(0, 1)] (sg_up (sg_up (sg_up (sg_up G 14 (G 13 0) v1) 15 (G 13 0) v2) 16 (G 13 0) v3) 13 0 (sg_iadd (G 13 0) 1)) Q
    exact sg_ret (by decide +kernel) rfl (Or.inr ⟨Or.inl rfl, by decide⟩) ((h.1 q1).2.2.2)
  · refine sg_blk [(7, 0, 0, 0, 0)] (by decide +kernel) ?_
    refine And.intro rfl (?_)
    show sg_Wp 0 N d m_E_add 10 [(0, 2, 13), (1, 0, v1), (2, 0, v2), (3, 0, v3)] [(0, 0)] G Q
    exact sg_ret (by decide +kernel) rfl (Or.inr ⟨Or.inl rfl, by decide⟩) ((h.2 q1))
set_option maxRecDepth 100000 in
theorem g_E_everyBit_13_0 {d N : Nat} (hN : 44 ≤ N) {G : SgM} {Q : Int → SgM → Prop} (h : Q (sg_isub (sg_ishl 1 (G 13 0)) 1) G) : sg_Wp 0 N d m_E_everyBit 0 [(0, 2, 13)] [] G Q := by
  refine sg_blk [(7, 1, 0, 0, 0), (1, 0, 0, 0, 0), (15, 0, 2, 25, 0), (41, 0, 0, 0, 0), (7, 1, 0, 0, 0), (33, 0, 0, 0, 0)] (by decide +kernel) ?_
  refine And.intro rfl (And.intro (Nat.le_of_ble_eq_true rfl) (And.intro (ce_13 hN) (And.intro rfl (?_))))
  show sg_Wp 0 N d m_E_everyBit 8 [(0, 2, 13)] [(0, sg_isub (sg_ishl 1 (G 13 0)) 1)] G Q
  exact sg_ret (by decide +kernel) rfl (Or.inl rfl) h
set_option maxRecDepth 100000 in
theorem g_Y_load_17_13_0 {d N : Nat} (hN : 44 ≤ N) {v2 : Int} {G : SgM} {Q : Int → SgM → Prop} (h : sg_Wp 0 N (d + 1) m_Y_load 2 [(0, 2, 17), (1, 2, 13), (2, 0, v2), (3, 0, 0)] [] G Q) : sg_Wp 0 N (d + 1) m_Y_load 0 [(0, 2, 17), (1, 2, 13), (2, 0, v2)] [] G Q := by
  refine sg_blk [(7, 0, 0, 0, 0), (25, 0, 0, 3, 0)] (by decide +kernel) ?_
  refine And.intro rfl (And.intro rfl (?_))
  show sg_Wp 0 N (d + 1) m_Y_load 2 [(0, 2, 17), (1, 2, 13), (2, 0, v2), (3, 0, 0)] [] G Q
  exact h
set_option maxRecDepth 100000 in
theorem g_Y_load_17_13_2 {d N : Nat} (hN : 44 ≤ N) {v2 v3 : Int} {G : SgM} {Q : Int → SgM → Prop} (h : (24 ≤ v3 → (sg_Wp 0 N (d + 1) m_Y_load 37 [(0, 2, 17), (1, 2, 13), (2, 0, v2), (3, 0, 0)] [] G Q)) ∧ (¬ (24 ≤ v3) → ((0 ≤ v3 ∧ v3 < 24) ∧ (0 ≤ v3 ∧ v3 < 24) ∧ (0 ≤ v3 ∧ v3 < 24) ∧ (sg_Wp 0 N (d + 1) m_Y_load 2 [(0, 2, 17), (1, 2, 13), (2, 0, v2), (3, 0, sg_iadd v3 1)] [] (sg_up (sg_up (sg_up G 18 v3 0) 19 v3 0) 20 v3 0) Q)))) : sg_Wp 0 N (d + 1) m_Y_load 2 [(0, 2, 17), (1, 2, 13), (2, 0, v2), (3, 0, v3)] [] G Q := by
  refine sg_blk [(3, 0, 0, 3, 0), (8, 24, 0, 0, 0)] (by decide +kernel) ?_
  refine And.intro rfl (And.intro rfl (And.intro rfl (?_)))
  show sg_Wp 0 N (d + 1) m_Y_load 5 [(0, 2, 17), (1, 2, 13), (2, 0, v2), (3, 0, v3)] [(0, 24), (0, v3)] G Q
  refine sg_icmp_ge (off := 30) (tgt := 35) (by decide +kernel) (by decide) ⟨fun q1 => ?_, fun q1 => ?_⟩
  · refine sg_blk [(7, 0, 0, 0, 0), (25, 0, 0, 3, 0)] (by decide +kernel) ?_
    refine And.intro rfl (And.intro rfl (?_))
    show sg_Wp 0 N (d + 1) m_Y_load 37 [(0, 2, 17), (1, 2, 13), (2, 0, v2), (3, 0, 0)] [] G Q
    exact (h.1 q1)
  · refine sg_blk [(1, 0, 0, 0, 0), (65, 18, 9, 9, 0), (3, 0, 0, 3, 0), (7, 0, 0, 0, 0), (18, 24, 0, 0, 0), (1, 0, 0, 0, 0), (65, 19, 9, 15, 1), (3, 0, 0, 3, 0), (7, 0, 0, 0, 0), (18, 24, 0, 0, 0), (1, 0, 0, 0, 0), (65, 20, 9, 18, 2), (3, 0, 0, 3, 0), (7, 0, 0, 0, 0), (20, 24, 0, 0, 0), (31, 1, 0, 3, 0)] (by decide +kernel) ?_
    refine And.intro (Nat.le_of_ble_eq_true rfl) (And.intro (ce_17 hN) (And.intro rr_17_0 (And.intro rfl (And.intro rfl (And.intro (ce_18 hN) (And.intro (h.2 q1).1 (And.intro (Nat.le_of_ble_eq_true rfl) (And.intro (ce_17 hN) (And.intro rr_17_1 (And.intro rfl (And.intro rfl (And.intro (ce_19 hN) (And.intro (h.2 q1).2.1 (And.intro (Nat.le_of_ble_eq_true rfl) (And.intro (ce_17 hN) (And.intro rr_17_2 (And.intro rfl (And.intro rfl (And.intro (ce_20 hN) (And.intro (h.2 q1).2.2.1 (And.intro (by decide) (And.intro rfl (?_)))))))))))))))))))))))
    show sg_Wp 0 N (d + 1) m_Y_load 32 [(0, 2, 17), (1, 2, 13), (2, 0, v2), (3, 0, sg_iadd v3 1)] [] (sg_up (sg_up (sg_up G 18 v3 0) 19 v3 0) 20 v3 0) Q
    refine sg_goto (off := -30) (tgt := 2) (by decide +kernel) (by decide) ?_
    exact (h.2 q1).2.2.2
set_option maxRecDepth 100000 in
theorem g_Y_load_17_13_37 {d N : Nat} (hN : 44 ≤ N) {v2 v3 : Int} {G : SgM} {Q : Int → SgM → Prop} (h : ((G 13 0) ≤ v3 → (Q 0 G)) ∧ (¬ ((G 13 0) ≤ v3) → (((sg_iand (sg_ishr v2 v3) 1 ≠ 0) → ((0 ≤ v3 ∧ v3 < 8) ∧ (((0 ≤ (G 15 v3) ∧ (G 15 v3) < 24) → ((0 ≤ v3 ∧ v3 < 8) ∧ (0 ≤ v3 ∧ v3 < 8) ∧ (0 ≤ v3 ∧ v3 < 8) ∧ (sg_Wp 0 N d m_Y_add 0 [(0, 2, 17), (1, 0, G 14 v3), (2, 0, G 15 v3), (3, 0, G 16 v3)] [] G (fun r1 G1 => sg_Wp 0 N (d + 1) m_Y_load 37 [(0, 2, 17), (1, 2, 13), (2, 0, v2), (3, 0, sg_iadd v3 1)] [] G1 Q)))) ∧ (¬ (0 ≤ (G 15 v3) ∧ (G 15 v3) < 24) → (sg_Wp 0 N (d + 1) m_Y_load 37 [(0, 2, 17), (1, 2, 13), (2, 0, v2), (3, 0, sg_iadd v3 1)] [] G Q))))) ∧ (¬ (sg_iand (sg_ishr v2 v3) 1 ≠ 0) → (sg_Wp 0 N (d + 1) m_Y_load 37 [(0, 2, 17), (1, 2, 13), (2, 0, v2), (3, 0, sg_iadd v3 1)] [] G Q))))) : sg_Wp 0 N (d + 1) m_Y_load 37 [(0, 2, 17), (1, 2, 13), (2, 0, v2), (3, 0, v3)] [] G Q := by
  refine sg_blk [(3, 0, 0, 3, 0), (1, 0, 0, 1, 0), (15, 0, 2, 22, 0)] (by decide +kernel) ?_
  refine And.intro rfl (And.intro (Nat.le_of_ble_eq_true rfl) (And.intro (ce_13 hN) (?_)))
  show sg_Wp 0 N (d + 1) m_Y_load 42 [(0, 2, 17), (1, 2, 13), (2, 0, v2), (3, 0, v3)] [(0, G 13 0), (0, v3)] G Q
  refine sg_icmp_ge (off := 53) (tgt := 95) (by decide +kernel) (by decide) ⟨fun q4 => ?_, fun q4 => ?_⟩
  · exact sg_vret (by decide +kernel) rfl ((h.1 q4))
  · refine sg_blk [(3, 0, 0, 2, 0), (3, 0, 0, 3, 0)] (by decide +kernel) ?_
    refine And.intro rfl (And.intro rfl (?_))
    show sg_Wp 0 N (d + 1) m_Y_load 47 [(0, 2, 17), (1, 2, 13), (2, 0, v2), (3, 0, v3)] [(0, v3), (0, v2)] G Q
    refine sg_callN (k := d) (y' := m_G_hasBit) (av := [(0, v2), (0, v3)]) (rest := []) (idx := 28) (by decide +kernel) cs_G_hasBit (List.mem_of_getElem? (i := 1) rfl) rfl (Nat.le_of_ble_eq_true rfl) (Nat.lt_succ_self d) (Nat.le_of_ble_eq_true rfl) rfl ?_
    show sg_Wp 0 N d m_G_hasBit 0 [(0, 0, v2), (1, 0, v3)] [] G _
    refine s_G_hasBit ?_
    show sg_Wp 0 N (d + 1) m_Y_load 50 [(0, 2, 17), (1, 2, 13), (2, 0, v2), (3, 0, v3)] [(0, sg_bo (sg_iand (sg_ishr v2 v3) 1 ≠ 0))] G Q
    refine sg_bif_eq (off := 39) (tgt := 89) (by decide +kernel) (by decide) ⟨fun q3 => ?_, fun q3 => ?_⟩
    · refine sg_blk [(1, 0, 0, 1, 0), (65, 15, 2, 32, 2), (3, 0, 0, 3, 0), (17, 8, 0, 0, 0), (8, 24, 0, 0, 0)] (by decide +kernel) ?_
      refine And.intro (Nat.le_of_ble_eq_true rfl) (And.intro (ce_13 hN) (And.intro rr_13_2 (And.intro rfl (And.intro (ce_15 hN) (And.intro ((h.2 q4).1 q3).1 (And.intro rfl (And.intro rfl (?_))))))))
      show sg_Wp 0 N (d + 1) m_Y_load 61 [(0, 2, 17), (1, 2, 13), (2, 0, v2), (3, 0, v3)] [(0, 24), (0, G 15 v3)] G Q
      refine sg_callN (k := d) (y' := m_G_isBelow) (av := [(0, G 15 v3), (0, 24)]) (rest := []) (idx := 35) (by decide +kernel) cs_G_isBelow (List.mem_of_getElem? (i := 2) rfl) rfl (Nat.le_of_ble_eq_true rfl) (Nat.lt_succ_self d) (Nat.le_of_ble_eq_true rfl) rfl ?_
      show sg_Wp 0 N d m_G_isBelow 0 [(0, 0, G 15 v3), (1, 0, 24)] [] G _
      refine s_G_isBelow ?_
      show sg_Wp 0 N (d + 1) m_Y_load 64 [(0, 2, 17), (1, 2, 13), (2, 0, v2), (3, 0, v3)] [(0, sg_bo (0 ≤ (G 15 v3) ∧ (G 15 v3) < 24))] G Q
      refine sg_bif_eq (off := 25) (tgt := 89) (by decide +kernel) (by decide) ⟨fun q2 => ?_, fun q2 => ?_⟩
      · refine sg_blk [(1, 0, 0, 0, 0), (1, 0, 0, 1, 0), (65, 14, 2, 38, 1), (3, 0, 0, 3, 0), (17, 8, 0, 0, 0), (1, 0, 0, 1, 0), (65, 15, 2, 32, 2), (3, 0, 0, 3, 0), (17, 8, 0, 0, 0), (1, 0, 0, 1, 0), (65, 16, 2, 41, 3), (3, 0, 0, 3, 0), (17, 8, 0, 0, 0)] (by decide +kernel) ?_
        refine And.intro (Nat.le_of_ble_eq_true rfl) (And.intro (Nat.le_of_ble_eq_true rfl) (And.intro (ce_13 hN) (And.intro rr_13_1 (And.intro rfl (And.intro (ce_14 hN) (And.intro (((h.2 q4).1 q3).2.1 q2).1 (And.intro (Nat.le_of_ble_eq_true rfl) (And.intro (ce_13 hN) (And.intro rr_13_2 (And.intro rfl (And.intro (ce_15 hN) (And.intro (((h.2 q4).1 q3).2.1 q2).2.1 (And.intro (Nat.le_of_ble_eq_true rfl) (And.intro (ce_13 hN) (And.intro rr_13_3 (And.intro rfl (And.intro (ce_16 hN) (And.intro (((h.2 q4).1 q3).2.1 q2).2.2.1 (?_)))))))))))))))))))
        show sg_Wp 0 N (d + 1) m_Y_load 86 [(0, 2, 17), (1, 2, 13), (2, 0, v2), (3, 0, v3)] [(0, G 16 v3), (0, G 15 v3), (0, G 14 v3), (2, 17)] G Q
        refine sg_callV (k := d) (y' := m_Y_add) (av := [(0, G 14 v3), (0, G 15 v3), (0, G 16 v3)]) (rest := []) (b := 17) (by decide +kernel) cv_Y_add ml_9_44 (ce_17 hN) rfl rfl (Nat.le_of_ble_eq_true rfl) (Nat.lt_succ_self d) (Nat.le_of_ble_eq_true rfl) rfl ?_
        show sg_Wp 0 N d m_Y_add 0 [(0, 2, 17), (1, 0, G 14 v3), (2, 0, G 15 v3), (3, 0, G 16 v3)] [] G _
        refine sg_Wp.mono ((((h.2 q4).1 q3).2.1 q2).2.2.2) (fun r1 G1 hhr1 => ?_)
        show sg_Wp 0 N (d + 1) m_Y_load 89 [(0, 2, 17), (1, 2, 13), (2, 0, v2), (3, 0, v3)] [] G1 Q
        refine sg_blk [(31, 1, 0, 3, 0)] (by decide +kernel) ?_
        refine And.intro rfl (?_)
        show sg_Wp 0 N (d + 1) m_Y_load 92 [(0, 2, 17), (1, 2, 13), (2, 0, v2), (3, 0, sg_iadd v3 1)] [] G1 Q
        refine sg_goto (off := -55) (tgt := 37) (by decide +kernel) (by decide) ?_
        exact hhr1
      · refine sg_blk [(31, 1, 0, 3, 0)] (by decide +kernel) ?_
        refine And.intro rfl (?_)
        show sg_Wp 0 N (d + 1) m_Y_load 92 [(0, 2, 17), (1, 2, 13), (2, 0, v2), (3, 0, sg_iadd v3 1)] [] G Q
        refine sg_goto (off := -55) (tgt := 37) (by decide +kernel) (by decide) ?_
        exact (((h.2 q4).1 q3).2.2 q2)
    · refine sg_blk [(31, 1, 0, 3, 0)] (by decide +kernel) ?_
      refine And.intro rfl (?_)
      show sg_Wp 0 N (d + 1) m_Y_load 92 [(0, 2, 17), (1, 2, 13), (2, 0, v2), (3, 0, sg_iadd v3 1)] [] G Q
      refine sg_goto (off := -55) (tgt := 37) (by decide +kernel) (by decide) ?_
      exact ((h.2 q4).2 q3)
set_option maxRecDepth 100000 in
theorem g_E_add_63_0 {d N : Nat} (hN : 75 ≤ N) {v1 v2 v3 : Int} {G : SgM} {Q : Int → SgM → Prop} (h : ((G 63 0) < 8 → ((0 ≤ (G 63 0) ∧ (G 63 0) < 8) ∧ (0 ≤ (G 63 0) ∧ (G 63 0) < 8) ∧ (0 ≤ (G 63 0) ∧ (G 63 0) < 8) ∧ (Q 1 (sg_up (sg_up (sg_up (sg_up G 64 (G 63 0) v1) 65 (G 63 0) v2) 66 (G 63 0) v3) 63 0 (sg_iadd (G 63 0) 1))))) ∧ (¬ ((G 63 0) < 8) → (Q 0 G))) : sg_Wp 0 N d m_E_add 0 [(0, 2, 63), (1, 0, v1), (2, 0, v2), (3, 0, v3)] [] G Q := by
  refine sg_blk [(1, 0, 0, 0, 0), (15, 0, 2, 25, 0), (8, 8, 0, 0, 0)] (by decide +kernel) ?_
  refine And.intro (Nat.le_of_ble_eq_true rfl) (And.intro (ce_63 hN) (And.intro rfl (And.intro rfl (?_))))
  show sg_Wp 0 N d m_E_add 6 [(0, 2, 63), (1, 0, v1), (2, 0, v2), (3, 0, v3)] [(0, 8), (0, G 63 0)] G Q
  refine sg_icmp_lt (off := 5) (tgt := 11) (by decide +kernel) (by decide) ⟨fun q1 => ?_, fun q1 => ?_⟩
  · refine sg_blk [(1, 0, 0, 0, 0), (65, 64, 2, 9, 1), (1, 0, 0, 0, 0), (15, 0, 2, 25, 0), (3, 0, 0, 1, 0), (18, 8, 0, 0, 0), (1, 0, 0, 0, 0), (65, 65, 2, 15, 2), (1, 0, 0, 0, 0), (15, 0, 2, 25, 0), (3, 0, 0, 2, 0), (18, 8, 0, 0, 0), (1, 0, 0, 0, 0), (65, 66, 2, 18, 3), (1, 0, 0, 0, 0), (15, 0, 2, 25, 0), (3, 0, 0, 3, 0), (18, 8, 0, 0, 0), (1, 0, 0, 0, 0), (57, 0, 0, 0, 0), (15, 0, 2, 25, 0), (7, 1, 0, 0, 0), (32, 0, 0, 0, 0), (16, 0, 2, 25, 0), (7, 1, 0, 0, 0)] (by decide +kernel) ?_
    refine And.intro (Nat.le_of_ble_eq_true rfl) (And.intro (ce_63 hN) (And.intro rr_63_1 (And.intro (Nat.le_of_ble_eq_true rfl) (And.intro (ce_63 hN) (And.intro rfl (And.intro (ce_64 hN) (And.intro (h.1 q1).1 (And.intro (Nat.le_of_ble_eq_true rfl) (And.intro (ce_63 hN) (And.intro rr_63_2 (And.intro (Nat.le_of_ble_eq_true rfl) (And.intro (ce_63 hN) (And.intro rfl (And.intro (ce_65 hN) (And.intro (h.1 q1).2.1 (And.intro (Nat.le_of_ble_eq_true rfl) (And.intro (ce_63 hN) (And.intro rr_63_3 (And.intro (Nat.le_of_ble_eq_true rfl) (And.intro (ce_63 hN) (And.intro rfl (And.intro (ce_66 hN) (And.intro (h.1 q1).2.2.1 (And.intro (Nat.le_of_ble_eq_true rfl) (And.intro (Nat.ne_of_beq_eq_false rfl) (And.intro (ce_63 hN) (And.intro rfl (And.intro (ce_63 hN) (And.intro rfl (?_))))))))))))))))))))))))))))))
    show sg_Wp 0 N d m_E_add 52 [(0, 2, 63), (1, 0, v1), (2, 0, v2), (3, 0, v3)] [(0, 1)] (sg_up (sg_up (sg_up (sg_up G 64 (G 63 0) v1) 65 (G 63 0) v2) 66 (G 63 0) v3) 63 0 (sg_iadd (G 63 0) 1)) Q
    exact sg_ret (by decide +kernel) rfl (Or.inr ⟨Or.inl rfl, by decide⟩) ((h.1 q1).2.2.2)
  · refine sg_blk [(7, 0, 0, 0, 0)] (by decide +kernel) ?_
    refine And.intro rfl (?_)
    show sg_Wp 0 N d m_E_add 10 [(0, 2, 63), (1, 0, v1), (2, 0, v2), (3, 0, v3)] [(0, 0)] G Q
    exact sg_ret (by decide +kernel) rfl (Or.inr ⟨Or.inl rfl, by decide⟩) ((h.2 q1))
set_option maxRecDepth 100000 in
theorem g_E_everyBit_63_0 {d N : Nat} (hN : 75 ≤ N) {G : SgM} {Q : Int → SgM → Prop} (h : Q (sg_isub (sg_ishl 1 (G 63 0)) 1) G) : sg_Wp 0 N d m_E_everyBit 0 [(0, 2, 63)] [] G Q := by
  refine sg_blk [(7, 1, 0, 0, 0), (1, 0, 0, 0, 0), (15, 0, 2, 25, 0), (41, 0, 0, 0, 0), (7, 1, 0, 0, 0), (33, 0, 0, 0, 0)] (by decide +kernel) ?_
  refine And.intro rfl (And.intro (Nat.le_of_ble_eq_true rfl) (And.intro (ce_63 hN) (And.intro rfl (?_))))
  show sg_Wp 0 N d m_E_everyBit 8 [(0, 2, 63)] [(0, sg_isub (sg_ishl 1 (G 63 0)) 1)] G Q
  exact sg_ret (by decide +kernel) rfl (Or.inl rfl) h
set_option maxRecDepth 100000 in
theorem g_Y_load_17_63_0 {d N : Nat} (hN : 75 ≤ N) {v2 : Int} {G : SgM} {Q : Int → SgM → Prop} (h : sg_Wp 0 N (d + 1) m_Y_load 2 [(0, 2, 17), (1, 2, 63), (2, 0, v2), (3, 0, 0)] [] G Q) : sg_Wp 0 N (d + 1) m_Y_load 0 [(0, 2, 17), (1, 2, 63), (2, 0, v2)] [] G Q := by
  refine sg_blk [(7, 0, 0, 0, 0), (25, 0, 0, 3, 0)] (by decide +kernel) ?_
  refine And.intro rfl (And.intro rfl (?_))
  show sg_Wp 0 N (d + 1) m_Y_load 2 [(0, 2, 17), (1, 2, 63), (2, 0, v2), (3, 0, 0)] [] G Q
  exact h
set_option maxRecDepth 100000 in
theorem g_Y_load_17_63_2 {d N : Nat} (hN : 75 ≤ N) {v2 v3 : Int} {G : SgM} {Q : Int → SgM → Prop} (h : (24 ≤ v3 → (sg_Wp 0 N (d + 1) m_Y_load 37 [(0, 2, 17), (1, 2, 63), (2, 0, v2), (3, 0, 0)] [] G Q)) ∧ (¬ (24 ≤ v3) → ((0 ≤ v3 ∧ v3 < 24) ∧ (0 ≤ v3 ∧ v3 < 24) ∧ (0 ≤ v3 ∧ v3 < 24) ∧ (sg_Wp 0 N (d + 1) m_Y_load 2 [(0, 2, 17), (1, 2, 63), (2, 0, v2), (3, 0, sg_iadd v3 1)] [] (sg_up (sg_up (sg_up G 18 v3 0) 19 v3 0) 20 v3 0) Q)))) : sg_Wp 0 N (d + 1) m_Y_load 2 [(0, 2, 17), (1, 2, 63), (2, 0, v2), (3, 0, v3)] [] G Q := by
  refine sg_blk [(3, 0, 0, 3, 0), (8, 24, 0, 0, 0)] (by decide +kernel) ?_
  refine And.intro rfl (And.intro rfl (And.intro rfl (?_)))
  show sg_Wp 0 N (d + 1) m_Y_load 5 [(0, 2, 17), (1, 2, 63), (2, 0, v2), (3, 0, v3)] [(0, 24), (0, v3)] G Q
  refine sg_icmp_ge (off := 30) (tgt := 35) (by decide +kernel) (by decide) ⟨fun q1 => ?_, fun q1 => ?_⟩
  · refine sg_blk [(7, 0, 0, 0, 0), (25, 0, 0, 3, 0)] (by decide +kernel) ?_
    refine And.intro rfl (And.intro rfl (?_))
    show sg_Wp 0 N (d + 1) m_Y_load 37 [(0, 2, 17), (1, 2, 63), (2, 0, v2), (3, 0, 0)] [] G Q
    exact (h.1 q1)
  · refine sg_blk [(1, 0, 0, 0, 0), (65, 18, 9, 9, 0), (3, 0, 0, 3, 0), (7, 0, 0, 0, 0), (18, 24, 0, 0, 0), (1, 0, 0, 0, 0), (65, 19, 9, 15, 1), (3, 0, 0, 3, 0), (7, 0, 0, 0, 0), (18, 24, 0, 0, 0), (1, 0, 0, 0, 0), (65, 20, 9, 18, 2), (3, 0, 0, 3, 0), (7, 0, 0, 0, 0), (20, 24, 0, 0, 0), (31, 1, 0, 3, 0)] (by decide +kernel) ?_
    refine And.intro (Nat.le_of_ble_eq_true rfl) (And.intro (ce_17 (Nat.le_trans (by decide) hN)) (And.intro rr_17_0 (And.intro rfl (And.intro rfl (And.intro (ce_18 (Nat.le_trans (by decide) hN)) (And.intro (h.2 q1).1 (And.intro (Nat.le_of_ble_eq_true rfl) (And.intro (ce_17 (Nat.le_trans (by decide) hN)) (And.intro rr_17_1 (And.intro rfl (And.intro rfl (And.intro (ce_19 (Nat.le_trans (by decide) hN)) (And.intro (h.2 q1).2.1 (And.intro (Nat.le_of_ble_eq_true rfl) (And.intro (ce_17 (Nat.le_trans (by decide) hN)) (And.intro rr_17_2 (And.intro rfl (And.intro rfl (And.intro (ce_20 (Nat.le_trans (by decide) hN)) (And.intro (h.2 q1).2.2.1 (And.intro (by decide) (And.intro rfl (?_)))))))))))))))))))))))
    show sg_Wp 0 N (d + 1) m_Y_load 32 [(0, 2, 17), (1, 2, 63), (2, 0, v2), (3, 0, sg_iadd v3 1)] [] (sg_up (sg_up (sg_up G 18 v3 0) 19 v3 0) 20 v3 0) Q
    refine sg_goto (off := -30) (tgt := 2) (by decide +kernel) (by decide) ?_
    exact (h.2 q1).2.2.2
set_option maxRecDepth 100000 in
theorem g_Y_load_17_63_37 {d N : Nat} (hN : 75 ≤ N) {v2 v3 : Int} {G : SgM} {Q : Int → SgM → Prop} (h : ((G 63 0) ≤ v3 → (Q 0 G)) ∧ (¬ ((G 63 0) ≤ v3) → (((sg_iand (sg_ishr v2 v3) 1 ≠ 0) → ((0 ≤ v3 ∧ v3 < 8) ∧ (((0 ≤ (G 65 v3) ∧ (G 65 v3) < 24) → ((0 ≤ v3 ∧ v3 < 8) ∧ (0 ≤ v3 ∧ v3 < 8) ∧ (0 ≤ v3 ∧ v3 < 8) ∧ (sg_Wp 0 N d m_Y_add 0 [(0, 2, 17), (1, 0, G 64 v3), (2, 0, G 65 v3), (3, 0, G 66 v3)] [] G (fun r1 G1 => sg_Wp 0 N (d + 1) m_Y_load 37 [(0, 2, 17), (1, 2, 63), (2, 0, v2), (3, 0, sg_iadd v3 1)] [] G1 Q)))) ∧ (¬ (0 ≤ (G 65 v3) ∧ (G 65 v3) < 24) → (sg_Wp 0 N (d + 1) m_Y_load 37 [(0, 2, 17), (1, 2, 63), (2, 0, v2), (3, 0, sg_iadd v3 1)] [] G Q))))) ∧ (¬ (sg_iand (sg_ishr v2 v3) 1 ≠ 0) → (sg_Wp 0 N (d + 1) m_Y_load 37 [(0, 2, 17), (1, 2, 63), (2, 0, v2), (3, 0, sg_iadd v3 1)] [] G Q))))) : sg_Wp 0 N (d + 1) m_Y_load 37 [(0, 2, 17), (1, 2, 63), (2, 0, v2), (3, 0, v3)] [] G Q := by
  refine sg_blk [(3, 0, 0, 3, 0), (1, 0, 0, 1, 0), (15, 0, 2, 22, 0)] (by decide +kernel) ?_
  refine And.intro rfl (And.intro (Nat.le_of_ble_eq_true rfl) (And.intro (ce_63 hN) (?_)))
  show sg_Wp 0 N (d + 1) m_Y_load 42 [(0, 2, 17), (1, 2, 63), (2, 0, v2), (3, 0, v3)] [(0, G 63 0), (0, v3)] G Q
  refine sg_icmp_ge (off := 53) (tgt := 95) (by decide +kernel) (by decide) ⟨fun q4 => ?_, fun q4 => ?_⟩
  · exact sg_vret (by decide +kernel) rfl ((h.1 q4))
  · refine sg_blk [(3, 0, 0, 2, 0), (3, 0, 0, 3, 0)] (by decide +kernel) ?_
    refine And.intro rfl (And.intro rfl (?_))
    show sg_Wp 0 N (d + 1) m_Y_load 47 [(0, 2, 17), (1, 2, 63), (2, 0, v2), (3, 0, v3)] [(0, v3), (0, v2)] G Q
    refine sg_callN (k := d) (y' := m_G_hasBit) (av := [(0, v2), (0, v3)]) (rest := []) (idx := 28) (by decide +kernel) cs_G_hasBit (List.mem_of_getElem? (i := 1) rfl) rfl (Nat.le_of_ble_eq_true rfl) (Nat.lt_succ_self d) (Nat.le_of_ble_eq_true rfl) rfl ?_
    show sg_Wp 0 N d m_G_hasBit 0 [(0, 0, v2), (1, 0, v3)] [] G _
    refine s_G_hasBit ?_
    show sg_Wp 0 N (d + 1) m_Y_load 50 [(0, 2, 17), (1, 2, 63), (2, 0, v2), (3, 0, v3)] [(0, sg_bo (sg_iand (sg_ishr v2 v3) 1 ≠ 0))] G Q
    refine sg_bif_eq (off := 39) (tgt := 89) (by decide +kernel) (by decide) ⟨fun q3 => ?_, fun q3 => ?_⟩
    · refine sg_blk [(1, 0, 0, 1, 0), (65, 65, 2, 32, 2), (3, 0, 0, 3, 0), (17, 8, 0, 0, 0), (8, 24, 0, 0, 0)] (by decide +kernel) ?_
      refine And.intro (Nat.le_of_ble_eq_true rfl) (And.intro (ce_63 hN) (And.intro rr_63_2 (And.intro rfl (And.intro (ce_65 hN) (And.intro ((h.2 q4).1 q3).1 (And.intro rfl (And.intro rfl (?_))))))))
      show sg_Wp 0 N (d + 1) m_Y_load 61 [(0, 2, 17), (1, 2, 63), (2, 0, v2), (3, 0, v3)] [(0, 24), (0, G 65 v3)] G Q
      refine sg_callN (k := d) (y' := m_G_isBelow) (av := [(0, G 65 v3), (0, 24)]) (rest := []) (idx := 35) (by decide +kernel) cs_G_isBelow (List.mem_of_getElem? (i := 2) rfl) rfl (Nat.le_of_ble_eq_true rfl) (Nat.lt_succ_self d) (Nat.le_of_ble_eq_true rfl) rfl ?_
      show sg_Wp 0 N d m_G_isBelow 0 [(0, 0, G 65 v3), (1, 0, 24)] [] G _
      refine s_G_isBelow ?_
      show sg_Wp 0 N (d + 1) m_Y_load 64 [(0, 2, 17), (1, 2, 63), (2, 0, v2), (3, 0, v3)] [(0, sg_bo (0 ≤ (G 65 v3) ∧ (G 65 v3) < 24))] G Q
      refine sg_bif_eq (off := 25) (tgt := 89) (by decide +kernel) (by decide) ⟨fun q2 => ?_, fun q2 => ?_⟩
      · refine sg_blk [(1, 0, 0, 0, 0), (1, 0, 0, 1, 0), (65, 64, 2, 38, 1), (3, 0, 0, 3, 0), (17, 8, 0, 0, 0), (1, 0, 0, 1, 0), (65, 65, 2, 32, 2), (3, 0, 0, 3, 0), (17, 8, 0, 0, 0), (1, 0, 0, 1, 0), (65, 66, 2, 41, 3), (3, 0, 0, 3, 0), (17, 8, 0, 0, 0)] (by decide +kernel) ?_
        refine And.intro (Nat.le_of_ble_eq_true rfl) (And.intro (Nat.le_of_ble_eq_true rfl) (And.intro (ce_63 hN) (And.intro rr_63_1 (And.intro rfl (And.intro (ce_64 hN) (And.intro (((h.2 q4).1 q3).2.1 q2).1 (And.intro (Nat.le_of_ble_eq_true rfl) (And.intro (ce_63 hN) (And.intro rr_63_2 (And.intro rfl (And.intro (ce_65 hN) (And.intro (((h.2 q4).1 q3).2.1 q2).2.1 (And.intro (Nat.le_of_ble_eq_true rfl) (And.intro (ce_63 hN) (And.intro rr_63_3 (And.intro rfl (And.intro (ce_66 hN) (And.intro (((h.2 q4).1 q3).2.1 q2).2.2.1 (?_)))))))))))))))))))
        show sg_Wp 0 N (d + 1) m_Y_load 86 [(0, 2, 17), (1, 2, 63), (2, 0, v2), (3, 0, v3)] [(0, G 66 v3), (0, G 65 v3), (0, G 64 v3), (2, 17)] G Q
        refine sg_callV (k := d) (y' := m_Y_add) (av := [(0, G 64 v3), (0, G 65 v3), (0, G 66 v3)]) (rest := []) (b := 17) (by decide +kernel) cv_Y_add ml_9_44 (ce_17 (Nat.le_trans (by decide) hN)) rfl rfl (Nat.le_of_ble_eq_true rfl) (Nat.lt_succ_self d) (Nat.le_of_ble_eq_true rfl) rfl ?_
        show sg_Wp 0 N d m_Y_add 0 [(0, 2, 17), (1, 0, G 64 v3), (2, 0, G 65 v3), (3, 0, G 66 v3)] [] G _
        refine sg_Wp.mono ((((h.2 q4).1 q3).2.1 q2).2.2.2) (fun r1 G1 hhr1 => ?_)
        show sg_Wp 0 N (d + 1) m_Y_load 89 [(0, 2, 17), (1, 2, 63), (2, 0, v2), (3, 0, v3)] [] G1 Q
        refine sg_blk [(31, 1, 0, 3, 0)] (by decide +kernel) ?_
        refine And.intro rfl (?_)
        show sg_Wp 0 N (d + 1) m_Y_load 92 [(0, 2, 17), (1, 2, 63), (2, 0, v2), (3, 0, sg_iadd v3 1)] [] G1 Q
        refine sg_goto (off := -55) (tgt := 37) (by decide +kernel) (by decide) ?_
        exact hhr1
      · refine sg_blk [(31, 1, 0, 3, 0)] (by decide +kernel) ?_
        refine And.intro rfl (?_)
        show sg_Wp 0 N (d + 1) m_Y_load 92 [(0, 2, 17), (1, 2, 63), (2, 0, v2), (3, 0, sg_iadd v3 1)] [] G Q
        refine sg_goto (off := -55) (tgt := 37) (by decide +kernel) (by decide) ?_
        exact (((h.2 q4).1 q3).2.2 q2)
    · refine sg_blk [(31, 1, 0, 3, 0)] (by decide +kernel) ?_
      refine And.intro rfl (?_)
      show sg_Wp 0 N (d + 1) m_Y_load 92 [(0, 2, 17), (1, 2, 63), (2, 0, v2), (3, 0, sg_iadd v3 1)] [] G Q
      refine sg_goto (off := -55) (tgt := 37) (by decide +kernel) (by decide) ?_
      exact ((h.2 q4).2 q3)
set_option maxRecDepth 100000 in
theorem g_Y_add_17_0 {d N : Nat} (hN : 44 ≤ N) {v1 v2 v3 : Int} {G : SgM} {Q : Int → SgM → Prop} (h : (v1 ≠ 0 → ((v1 ≠ 1 → ((0 ≤ v2 ∧ v2 < 24) ∧ (Q 0 (sg_up G 20 v2 1)))) ∧ (¬ (v1 ≠ 1) → ((0 ≤ v2 ∧ v2 < 24) ∧ (0 ≤ v2 ∧ v2 < 24) ∧ (Q 0 (sg_up G 19 v2 (sg_ior (G 19 v2) (sg_ishl 1 v3)))))))) ∧ (¬ (v1 ≠ 0) → ((0 ≤ v2 ∧ v2 < 24) ∧ (0 ≤ v2 ∧ v2 < 24) ∧ (Q 0 (sg_up G 18 v2 (sg_ior (G 18 v2) (sg_ishl 1 v3))))))) : sg_Wp 0 N d m_Y_add 0 [(0, 2, 17), (1, 0, v1), (2, 0, v2), (3, 0, v3)] [] G Q := by
  refine sg_blk [(3, 0, 0, 1, 0)] (by decide +kernel) ?_
  refine And.intro rfl (?_)
  show sg_Wp 0 N d m_Y_add 1 [(0, 2, 17), (1, 0, v1), (2, 0, v2), (3, 0, v3)] [(0, v1)] G Q
  refine sg_if_ne (off := 18) (tgt := 19) (by decide +kernel) (by decide) ⟨fun q2 => ?_, fun q2 => ?_⟩
  · refine sg_blk [(3, 0, 0, 1, 0), (7, 1, 0, 0, 0)] (by decide +kernel) ?_
    refine And.intro rfl (And.intro rfl (?_))
    show sg_Wp 0 N d m_Y_add 21 [(0, 2, 17), (1, 0, v1), (2, 0, v2), (3, 0, v3)] [(0, 1), (0, v1)] G Q
    refine sg_icmp_ne (off := 18) (tgt := 39) (by decide +kernel) (by decide) ⟨fun q1 => ?_, fun q1 => ?_⟩
    · refine sg_blk [(1, 0, 0, 0, 0), (65, 20, 9, 18, 2), (3, 0, 0, 2, 0), (7, 1, 0, 0, 0), (20, 24, 0, 0, 0)] (by decide +kernel) ?_
      refine And.intro (Nat.le_of_ble_eq_true rfl) (And.intro (ce_17 hN) (And.intro rr_17_2 (And.intro rfl (And.intro rfl (And.intro (ce_20 hN) (And.intro ((h.1 q2).1 q1).1 (And.intro (by decide) (?_))))))))
      show sg_Wp 0 N d m_Y_add 46 [(0, 2, 17), (1, 0, v1), (2, 0, v2), (3, 0, v3)] [] (sg_up G 20 v2 1) Q
      exact sg_vret (by decide +kernel) rfl (((h.1 q2).1 q1).2)
    · refine sg_blk [(1, 0, 0, 0, 0), (65, 19, 9, 15, 1), (3, 0, 0, 2, 0), (58, 0, 0, 0, 0), (17, 24, 0, 0, 0), (7, 1, 0, 0, 0), (3, 0, 0, 3, 0), (41, 0, 0, 0, 0), (39, 0, 0, 0, 0), (18, 24, 0, 0, 0)] (by decide +kernel) ?_
      refine And.intro (Nat.le_of_ble_eq_true rfl) (And.intro (ce_17 hN) (And.intro rr_17_1 (And.intro rfl (And.intro (And.intro (Nat.ne_of_beq_eq_false rfl) (Nat.ne_of_beq_eq_false rfl)) (And.intro (ce_19 hN) (And.intro ((h.1 q2).2 q1).1 (And.intro rfl (And.intro rfl (And.intro (ce_19 hN) (And.intro ((h.1 q2).2 q1).2.1 (?_)))))))))))
      show sg_Wp 0 N d m_Y_add 36 [(0, 2, 17), (1, 0, v1), (2, 0, v2), (3, 0, v3)] [] (sg_up G 19 v2 (sg_ior (G 19 v2) (sg_ishl 1 v3))) Q
      refine sg_goto (off := 10) (tgt := 46) (by decide +kernel) (by decide) ?_
      exact sg_vret (by decide +kernel) rfl (((h.1 q2).2 q1).2.2)
  · refine sg_blk [(1, 0, 0, 0, 0), (65, 18, 9, 9, 0), (3, 0, 0, 2, 0), (58, 0, 0, 0, 0), (17, 24, 0, 0, 0), (7, 1, 0, 0, 0), (3, 0, 0, 3, 0), (41, 0, 0, 0, 0), (39, 0, 0, 0, 0), (18, 24, 0, 0, 0)] (by decide +kernel) ?_
    refine And.intro (Nat.le_of_ble_eq_true rfl) (And.intro (ce_17 hN) (And.intro rr_17_0 (And.intro rfl (And.intro (And.intro (Nat.ne_of_beq_eq_false rfl) (Nat.ne_of_beq_eq_false rfl)) (And.intro (ce_18 hN) (And.intro (h.2 q2).1 (And.intro rfl (And.intro rfl (And.intro (ce_18 hN) (And.intro (h.2 q2).2.1 (?_)))))))))))
    show sg_Wp 0 N d m_Y_add 16 [(0, 2, 17), (1, 0, v1), (2, 0, v2), (3, 0, v3)] [] (sg_up G 18 v2 (sg_ior (G 18 v2) (sg_ishl 1 v3))) Q
    refine sg_goto (off := 30) (tgt := 46) (by decide +kernel) (by decide) ?_
    exact sg_vret (by decide +kernel) rfl ((h.2 q2).2.2)
