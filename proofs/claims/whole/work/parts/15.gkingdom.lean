/-! CUT LEMMAS, printed by a program -/
set_option maxRecDepth 100000 in
theorem g_K_supposeEvents_0_13_0 {d N : Nat} (hN : 44 ≤ N) {v2 : Int} {G : SgM} {Q : Int → SgM → Prop} (h : sg_Wp 0 N d m_Y_load 0 [(0, 2, 17), (1, 2, 13), (2, 0, v2)] [] G (fun r1 G1 => sg_Wp 0 N d m_D_pass 0 [(0, 2, 32)] [] G1 (fun r2 G2 => sg_Wp 0 N d m_K_clearWeather 0 [(0, 2, 0)] [] G2 (fun r3 G3 => Q 0 G3)))) : sg_Wp 0 N (d + 1) m_K_supposeEvents 0 [(0, 2, 0), (1, 2, 13), (2, 0, v2)] [] G Q := by
  refine sg_blk [(1, 0, 0, 0, 0), (65, 17, 4, 40, 4), (1, 0, 0, 1, 0), (3, 0, 0, 2, 0)] (by decide +kernel) ?_
  refine And.intro (Nat.le_of_ble_eq_true rfl) (And.intro (ce_0 hN) (And.intro rr_0_4 (And.intro (Nat.le_of_ble_eq_true rfl) (And.intro rfl (?_)))))
  show sg_Wp 0 N (d + 1) m_K_supposeEvents 6 [(0, 2, 0), (1, 2, 13), (2, 0, v2)] [(0, v2), (2, 13), (2, 17)] G Q
  refine sg_callV (k := d) (y' := m_Y_load) (av := [(2, 13), (0, v2)]) (rest := []) (b := 17) (by decide +kernel) cv_Y_load ml_4_86 (ce_17 hN) rfl rfl (Nat.le_of_ble_eq_true rfl) (Nat.lt_succ_self d) (Nat.le_of_ble_eq_true rfl) rfl ?_
  show sg_Wp 0 N d m_Y_load 0 [(0, 2, 17), (1, 2, 13), (2, 0, v2)] [] G _
  refine sg_Wp.mono h (fun r1 G1 hhr1 => ?_)
  show sg_Wp 0 N (d + 1) m_K_supposeEvents 9 [(0, 2, 0), (1, 2, 13), (2, 0, v2)] [] G1 Q
  refine sg_blk [(1, 0, 0, 0, 0), (65, 32, 4, 53, 6)] (by decide +kernel) ?_
  refine And.intro (Nat.le_of_ble_eq_true rfl) (And.intro (ce_0 hN) (And.intro rr_0_6 (?_)))
  show sg_Wp 0 N (d + 1) m_K_supposeEvents 13 [(0, 2, 0), (1, 2, 13), (2, 0, v2)] [(2, 32)] G1 Q
  refine sg_callV (k := d) (y' := m_D_pass) (av := []) (rest := []) (b := 32) (by decide +kernel) cv_D_pass ml_4_79 (ce_32 hN) rfl rfl (Nat.le_of_ble_eq_true rfl) (Nat.lt_succ_self d) (Nat.le_of_ble_eq_true rfl) rfl ?_
  show sg_Wp 0 N d m_D_pass 0 [(0, 2, 32)] [] G1 _
  refine sg_Wp.mono hhr1 (fun r2 G2 hhr2 => ?_)
  show sg_Wp 0 N (d + 1) m_K_supposeEvents 16 [(0, 2, 0), (1, 2, 13), (2, 0, v2)] [] G2 Q
  refine sg_blk [(1, 0, 0, 0, 0)] (by decide +kernel) ?_
  refine And.intro (Nat.le_of_ble_eq_true rfl) (?_)
  show sg_Wp 0 N (d + 1) m_K_supposeEvents 17 [(0, 2, 0), (1, 2, 13), (2, 0, v2)] [(2, 0)] G2 Q
  refine sg_callV (k := d) (y' := m_K_clearWeather) (av := []) (rest := []) (b := 0) (by decide +kernel) cv_K_clearWeather ml_4_70 (ce_0 hN) rfl rfl (Nat.le_of_ble_eq_true rfl) (Nat.lt_succ_self d) (Nat.le_of_ble_eq_true rfl) rfl ?_
  show sg_Wp 0 N d m_K_clearWeather 0 [(0, 2, 0)] [] G2 _
  refine sg_Wp.mono hhr2 (fun r3 G3 hhr3 => ?_)
  show sg_Wp 0 N (d + 1) m_K_supposeEvents 20 [(0, 2, 0), (1, 2, 13), (2, 0, v2)] [] G3 Q
  exact sg_vret (by decide +kernel) rfl hhr3
set_option maxRecDepth 100000 in
theorem g_K_supposeEvents_0_63_0 {d N : Nat} (hN : 75 ≤ N) {v2 : Int} {G : SgM} {Q : Int → SgM → Prop} (h : sg_Wp 0 N d m_Y_load 0 [(0, 2, 17), (1, 2, 63), (2, 0, v2)] [] G (fun r1 G1 => sg_Wp 0 N d m_D_pass 0 [(0, 2, 32)] [] G1 (fun r2 G2 => sg_Wp 0 N d m_K_clearWeather 0 [(0, 2, 0)] [] G2 (fun r3 G3 => Q 0 G3)))) : sg_Wp 0 N (d + 1) m_K_supposeEvents 0 [(0, 2, 0), (1, 2, 63), (2, 0, v2)] [] G Q := by
  refine sg_blk [(1, 0, 0, 0, 0), (65, 17, 4, 40, 4), (1, 0, 0, 1, 0), (3, 0, 0, 2, 0)] (by decide +kernel) ?_
  refine And.intro (Nat.le_of_ble_eq_true rfl) (And.intro (ce_0 (Nat.le_trans (by decide) hN)) (And.intro rr_0_4 (And.intro (Nat.le_of_ble_eq_true rfl) (And.intro rfl (?_)))))
  show sg_Wp 0 N (d + 1) m_K_supposeEvents 6 [(0, 2, 0), (1, 2, 63), (2, 0, v2)] [(0, v2), (2, 63), (2, 17)] G Q
  refine sg_callV (k := d) (y' := m_Y_load) (av := [(2, 63), (0, v2)]) (rest := []) (b := 17) (by decide +kernel) cv_Y_load ml_4_86 (ce_17 (Nat.le_trans (by decide) hN)) rfl rfl (Nat.le_of_ble_eq_true rfl) (Nat.lt_succ_self d) (Nat.le_of_ble_eq_true rfl) rfl ?_
  show sg_Wp 0 N d m_Y_load 0 [(0, 2, 17), (1, 2, 63), (2, 0, v2)] [] G _
  refine sg_Wp.mono h (fun r1 G1 hhr1 => ?_)
  show sg_Wp 0 N (d + 1) m_K_supposeEvents 9 [(0, 2, 0), (1, 2, 63), (2, 0, v2)] [] G1 Q
  refine sg_blk [(1, 0, 0, 0, 0), (65, 32, 4, 53, 6)] (by decide +kernel) ?_
  refine And.intro (Nat.le_of_ble_eq_true rfl) (And.intro (ce_0 (Nat.le_trans (by decide) hN)) (And.intro rr_0_6 (?_)))
  show sg_Wp 0 N (d + 1) m_K_supposeEvents 13 [(0, 2, 0), (1, 2, 63), (2, 0, v2)] [(2, 32)] G1 Q
  refine sg_callV (k := d) (y' := m_D_pass) (av := []) (rest := []) (b := 32) (by decide +kernel) cv_D_pass ml_4_79 (ce_32 (Nat.le_trans (by decide) hN)) rfl rfl (Nat.le_of_ble_eq_true rfl) (Nat.lt_succ_self d) (Nat.le_of_ble_eq_true rfl) rfl ?_
  show sg_Wp 0 N d m_D_pass 0 [(0, 2, 32)] [] G1 _
  refine sg_Wp.mono hhr1 (fun r2 G2 hhr2 => ?_)
  show sg_Wp 0 N (d + 1) m_K_supposeEvents 16 [(0, 2, 0), (1, 2, 63), (2, 0, v2)] [] G2 Q
  refine sg_blk [(1, 0, 0, 0, 0)] (by decide +kernel) ?_
  refine And.intro (Nat.le_of_ble_eq_true rfl) (?_)
  show sg_Wp 0 N (d + 1) m_K_supposeEvents 17 [(0, 2, 0), (1, 2, 63), (2, 0, v2)] [(2, 0)] G2 Q
  refine sg_callV (k := d) (y' := m_K_clearWeather) (av := []) (rest := []) (b := 0) (by decide +kernel) cv_K_clearWeather ml_4_70 (ce_0 (Nat.le_trans (by decide) hN)) rfl rfl (Nat.le_of_ble_eq_true rfl) (Nat.lt_succ_self d) (Nat.le_of_ble_eq_true rfl) rfl ?_
  show sg_Wp 0 N d m_K_clearWeather 0 [(0, 2, 0)] [] G2 _
  refine sg_Wp.mono hhr2 (fun r3 G3 hhr3 => ?_)
  show sg_Wp 0 N (d + 1) m_K_supposeEvents 20 [(0, 2, 0), (1, 2, 63), (2, 0, v2)] [] G3 Q
  exact sg_vret (by decide +kernel) rfl hhr3
set_option maxRecDepth 100000 in
theorem g_K_textOf_0_0 {d N : Nat} (hN : 44 ≤ N) {v1 : Int} {G : SgM} {Q : Int → SgM → Prop} (h : (v1 ≠ 0 → (Q 3 G)) ∧ (¬ (v1 ≠ 0) → (Q 1 G))) : sg_Wp 0 N d m_K_textOf 0 [(0, 2, 0), (1, 0, v1)] [] G Q := by
  refine sg_blk [(3, 0, 0, 1, 0)] (by decide +kernel) ?_
  refine And.intro rfl (?_)
  show sg_Wp 0 N d m_K_textOf 1 [(0, 2, 0), (1, 0, v1)] [(0, v1)] G Q
  refine sg_if_ne (off := 10) (tgt := 11) (by decide +kernel) (by decide) ⟨fun q1 => ?_, fun q1 => ?_⟩
  · refine sg_blk [(1, 0, 0, 0, 0), (65, 3, 4, 20, 1)] (by decide +kernel) ?_
    refine And.intro (Nat.le_of_ble_eq_true rfl) (And.intro (ce_0 hN) (And.intro rr_0_1 (?_)))
    show sg_Wp 0 N d m_K_textOf 15 [(0, 2, 0), (1, 0, v1)] [(2, 3)] G Q
    exact sg_aret (by decide +kernel) rfl rfl ((h.1 q1))
  · refine sg_blk [(1, 0, 0, 0, 0), (65, 1, 4, 14, 0)] (by decide +kernel) ?_
    refine And.intro (Nat.le_of_ble_eq_true rfl) (And.intro (ce_0 hN) (And.intro rr_0_0 (?_)))
    show sg_Wp 0 N d m_K_textOf 8 [(0, 2, 0), (1, 0, v1)] [(2, 1)] G Q
    refine sg_goto (off := 7) (tgt := 15) (by decide +kernel) (by decide) ?_
    exact sg_aret (by decide +kernel) rfl rfl ((h.2 q1))
set_option maxRecDepth 100000 in
theorem g_K_tellAnew_0_0 {d N : Nat} (hN : 44 ≤ N) {G : SgM} {Q : Int → SgM → Prop} (h : sg_Wp 0 N d m_W_loadPosts 0 [(0, 2, 5), (1, 2, 1)] [] G (fun r1 G1 => sg_Wp 0 N d m_W_loadPeople 0 [(0, 2, 5), (1, 2, 3)] [] G1 (fun r2 G2 => sg_Wp 0 N d m_K_clearWeather 0 [(0, 2, 0)] [] G2 (fun r3 G3 => sg_Wp 0 N d m_A_fill 0 [(0, 2, 43), (1, 0, (-1))] [] G3 (fun r4 G4 => sg_Wp 0 N d m_D_pass 0 [(0, 2, 21)] [] G4 (fun r5 G5 => Q 0 G5)))))) : sg_Wp 0 N (d + 1) m_K_tellAnew 0 [(0, 2, 0)] [] G Q := by
  refine sg_blk [(1, 0, 0, 0, 0), (65, 5, 4, 26, 2), (1, 0, 0, 0, 0), (65, 1, 4, 14, 0)] (by decide +kernel) ?_
  refine And.intro (Nat.le_of_ble_eq_true rfl) (And.intro (ce_0 hN) (And.intro rr_0_2 (And.intro (Nat.le_of_ble_eq_true rfl) (And.intro (ce_0 hN) (And.intro rr_0_0 (?_))))))
  show sg_Wp 0 N (d + 1) m_K_tellAnew 8 [(0, 2, 0)] [(2, 1), (2, 5)] G Q
  refine sg_callV (k := d) (y' := m_W_loadPosts) (av := [(2, 1)]) (rest := []) (b := 5) (by decide +kernel) cv_W_loadPosts ml_4_63 (ce_5 hN) rfl rfl (Nat.le_of_ble_eq_true rfl) (Nat.lt_succ_self d) (Nat.le_of_ble_eq_true rfl) rfl ?_
  show sg_Wp 0 N d m_W_loadPosts 0 [(0, 2, 5), (1, 2, 1)] [] G _
  refine sg_Wp.mono h (fun r1 G1 hhr1 => ?_)
  show sg_Wp 0 N (d + 1) m_K_tellAnew 11 [(0, 2, 0)] [] G1 Q
  refine sg_blk [(1, 0, 0, 0, 0), (65, 5, 4, 26, 2), (1, 0, 0, 0, 0), (65, 3, 4, 20, 1)] (by decide +kernel) ?_
  refine And.intro (Nat.le_of_ble_eq_true rfl) (And.intro (ce_0 hN) (And.intro rr_0_2 (And.intro (Nat.le_of_ble_eq_true rfl) (And.intro (ce_0 hN) (And.intro rr_0_1 (?_))))))
  show sg_Wp 0 N (d + 1) m_K_tellAnew 19 [(0, 2, 0)] [(2, 3), (2, 5)] G1 Q
  refine sg_callV (k := d) (y' := m_W_loadPeople) (av := [(2, 3)]) (rest := []) (b := 5) (by decide +kernel) cv_W_loadPeople ml_4_67 (ce_5 hN) rfl rfl (Nat.le_of_ble_eq_true rfl) (Nat.lt_succ_self d) (Nat.le_of_ble_eq_true rfl) rfl ?_
  show sg_Wp 0 N d m_W_loadPeople 0 [(0, 2, 5), (1, 2, 3)] [] G1 _
  refine sg_Wp.mono hhr1 (fun r2 G2 hhr2 => ?_)
  show sg_Wp 0 N (d + 1) m_K_tellAnew 22 [(0, 2, 0)] [] G2 Q
  refine sg_blk [(1, 0, 0, 0, 0)] (by decide +kernel) ?_
  refine And.intro (Nat.le_of_ble_eq_true rfl) (?_)
  show sg_Wp 0 N (d + 1) m_K_tellAnew 23 [(0, 2, 0)] [(2, 0)] G2 Q
  refine sg_callV (k := d) (y' := m_K_clearWeather) (av := []) (rest := []) (b := 0) (by decide +kernel) cv_K_clearWeather ml_4_70 (ce_0 hN) rfl rfl (Nat.le_of_ble_eq_true rfl) (Nat.lt_succ_self d) (Nat.le_of_ble_eq_true rfl) rfl ?_
  show sg_Wp 0 N d m_K_clearWeather 0 [(0, 2, 0)] [] G2 _
  refine sg_Wp.mono hhr2 (fun r3 G3 hhr3 => ?_)
  show sg_Wp 0 N (d + 1) m_K_tellAnew 26 [(0, 2, 0)] [] G3 Q
  refine sg_blk [(1, 0, 0, 0, 0), (65, 43, 4, 56, 7), (7, (-1), 0, 0, 0)] (by decide +kernel) ?_
  refine And.intro (Nat.le_of_ble_eq_true rfl) (And.intro (ce_0 hN) (And.intro rr_0_7 (And.intro rfl (?_))))
  show sg_Wp 0 N (d + 1) m_K_tellAnew 31 [(0, 2, 0)] [(0, (-1)), (2, 43)] G3 Q
  refine sg_callS (k := d) (y' := m_A_fill) (av := [(2, 43), (0, (-1))]) (rest := []) (by decide +kernel) cs_A_fill ml_4_73 rfl (Nat.le_of_ble_eq_true rfl) (Nat.lt_succ_self d) (Nat.le_of_ble_eq_true rfl) rfl ?_
  show sg_Wp 0 N d m_A_fill 0 [(0, 2, 43), (1, 0, (-1))] [] G3 _
  refine sg_Wp.mono hhr3 (fun r4 G4 hhr4 => ?_)
  show sg_Wp 0 N (d + 1) m_K_tellAnew 34 [(0, 2, 0)] [] G4 Q
  refine sg_blk [(1, 0, 0, 0, 0), (65, 21, 4, 49, 5)] (by decide +kernel) ?_
  refine And.intro (Nat.le_of_ble_eq_true rfl) (And.intro (ce_0 hN) (And.intro rr_0_5 (?_)))
  show sg_Wp 0 N (d + 1) m_K_tellAnew 38 [(0, 2, 0)] [(2, 21)] G4 Q
  refine sg_callV (k := d) (y' := m_D_pass) (av := []) (rest := []) (b := 21) (by decide +kernel) cv_D_pass ml_4_79 (ce_21 hN) rfl rfl (Nat.le_of_ble_eq_true rfl) (Nat.lt_succ_self d) (Nat.le_of_ble_eq_true rfl) rfl ?_
  show sg_Wp 0 N d m_D_pass 0 [(0, 2, 21)] [] G4 _
  refine sg_Wp.mono hhr4 (fun r5 G5 hhr5 => ?_)
  show sg_Wp 0 N (d + 1) m_K_tellAnew 41 [(0, 2, 0)] [] G5 Q
  exact sg_vret (by decide +kernel) rfl hhr5
set_option maxRecDepth 100000 in
theorem g_K_clearWeather_0_0 {d N : Nat} (hN : 44 ≤ N) {G : SgM} {Q : Int → SgM → Prop} (h : sg_Wp 0 N d m_E_everyBit 0 [(0, 2, 13)] [] G (fun r1 G1 => sg_Wp 0 N d m_Y_load 0 [(0, 2, 17), (1, 2, 13), (2, 0, r1)] [] G1 (fun r2 G2 => Q 0 G2))) : sg_Wp 0 N (d + 1) m_K_clearWeather 0 [(0, 2, 0)] [] G Q := by
  refine sg_blk [(1, 0, 0, 0, 0), (65, 17, 4, 40, 4), (1, 0, 0, 0, 0), (65, 13, 4, 33, 3), (1, 0, 0, 0, 0), (65, 13, 4, 33, 3)] (by decide +kernel) ?_
  refine And.intro (Nat.le_of_ble_eq_true rfl) (And.intro (ce_0 hN) (And.intro rr_0_4 (And.intro (Nat.le_of_ble_eq_true rfl) (And.intro (ce_0 hN) (And.intro rr_0_3 (And.intro (Nat.le_of_ble_eq_true rfl) (And.intro (ce_0 hN) (And.intro rr_0_3 (?_)))))))))
  show sg_Wp 0 N (d + 1) m_K_clearWeather 12 [(0, 2, 0)] [(2, 13), (2, 13), (2, 17)] G Q
  refine sg_callV (k := d) (y' := m_E_everyBit) (av := []) (rest := [(2, 13), (2, 17)]) (b := 13) (by decide +kernel) cv_E_everyBit ml_4_82 (ce_13 hN) rfl rfl (Nat.le_of_ble_eq_true rfl) (Nat.lt_succ_self d) (Nat.le_of_ble_eq_true rfl) rfl ?_
  show sg_Wp 0 N d m_E_everyBit 0 [(0, 2, 13)] [] G _
  refine sg_Wp.mono h (fun r1 G1 hhr1 => ?_)
  show sg_Wp 0 N (d + 1) m_K_clearWeather 15 [(0, 2, 0)] [(0, r1), (2, 13), (2, 17)] G1 Q
  refine sg_callV (k := d) (y' := m_Y_load) (av := [(2, 13), (0, r1)]) (rest := []) (b := 17) (by decide +kernel) cv_Y_load ml_4_86 (ce_17 hN) rfl rfl (Nat.le_of_ble_eq_true rfl) (Nat.lt_succ_self d) (Nat.le_of_ble_eq_true rfl) rfl ?_
  show sg_Wp 0 N d m_Y_load 0 [(0, 2, 17), (1, 2, 13), (2, 0, r1)] [] G1 _
  refine sg_Wp.mono hhr1 (fun r2 G2 hhr2 => ?_)
  show sg_Wp 0 N (d + 1) m_K_clearWeather 18 [(0, 2, 0)] [] G2 Q
  exact sg_vret (by decide +kernel) rfl hhr2
set_option maxRecDepth 100000 in
theorem g_K_forgottenWith_0_0 {d N : Nat} (hN : 44 ≤ N) {v1 : Int} {G : SgM} {Q : Int → SgM → Prop} (h : ((0 ≤ v1 ∧ v1 < 256) → ((0 ≤ v1 ∧ v1 < 256) ∧ (((G 43 v1) ≠ ((-1)) → ((0 ≤ v1 ∧ v1 < 256) ∧ (Q (G 43 v1) G))) ∧ (¬ ((G 43 v1) ≠ ((-1))) → (sg_Wp 0 N d m_Y_load 0 [(0, 2, 17), (1, 2, 13), (2, 0, v1)] [] G (fun r1 G1 => sg_Wp 0 N d m_D_pass 0 [(0, 2, 32)] [] G1 (fun r2 G2 => sg_Wp 0 N d m_K_clearWeather 0 [(0, 2, 0)] [] G2 (fun r3 G3 => (0 ≤ v1 ∧ v1 < 256) ∧ (0 ≤ v1 ∧ v1 < 256) ∧ (Q ((sg_up G3 43 v1 (G3 32 13)) 43 v1) (sg_up G3 43 v1 (G3 32 13))))))))))) ∧ (¬ (0 ≤ v1 ∧ v1 < 256) → (Q 0 G))) : sg_Wp 0 N (d + 1) m_K_forgottenWith 0 [(0, 2, 0), (1, 0, v1)] [] G Q := by
  refine sg_blk [(3, 0, 0, 1, 0), (1, 0, 0, 0, 0), (65, 43, 4, 56, 7), (24, 256, 0, 0, 0)] (by decide +kernel) ?_
  refine And.intro rfl (And.intro (Nat.le_of_ble_eq_true rfl) (And.intro (ce_0 hN) (And.intro rr_0_7 (And.intro (And.intro (Or.inl (ce_43 hN)) (by decide)) (?_)))))
  show sg_Wp 0 N (d + 1) m_K_forgottenWith 6 [(0, 2, 0), (1, 0, v1)] [(0, 256), (0, v1)] G Q
  refine sg_callN (k := d) (y' := m_G_isBelow) (av := [(0, v1), (0, 256)]) (rest := []) (idx := 90) (by decide +kernel) cs_G_isBelow (List.mem_of_getElem? (i := 7) rfl) rfl (Nat.le_of_ble_eq_true rfl) (Nat.lt_succ_self d) (Nat.le_of_ble_eq_true rfl) rfl ?_
  show sg_Wp 0 N d m_G_isBelow 0 [(0, 0, v1), (1, 0, 256)] [] G _
  refine s_G_isBelow ?_
  show sg_Wp 0 N (d + 1) m_K_forgottenWith 9 [(0, 2, 0), (1, 0, v1)] [(0, sg_bo (0 ≤ v1 ∧ v1 < 256))] G Q
  refine sg_bif_ne (off := 5) (tgt := 14) (by decide +kernel) (by decide) ⟨fun q2 => ?_, fun q2 => ?_⟩
  · refine sg_blk [(1, 0, 0, 0, 0), (65, 43, 4, 56, 7), (3, 0, 0, 1, 0), (17, 256, 0, 0, 0), (7, (-1), 0, 0, 0)] (by decide +kernel) ?_
    refine And.intro (Nat.le_of_ble_eq_true rfl) (And.intro (ce_0 hN) (And.intro rr_0_7 (And.intro rfl (And.intro (ce_43 hN) (And.intro (h.1 q2).1 (And.intro rfl (?_)))))))
    show sg_Wp 0 N (d + 1) m_K_forgottenWith 21 [(0, 2, 0), (1, 0, v1)] [(0, (-1)), (0, G 43 v1)] G Q
    refine sg_icmp_ne (off := 39) (tgt := 60) (by decide +kernel) (by decide) ⟨fun q1 => ?_, fun q1 => ?_⟩
    · refine sg_blk [(1, 0, 0, 0, 0), (65, 43, 4, 56, 7), (3, 0, 0, 1, 0), (17, 256, 0, 0, 0)] (by decide +kernel) ?_
      refine And.intro (Nat.le_of_ble_eq_true rfl) (And.intro (ce_0 hN) (And.intro rr_0_7 (And.intro rfl (And.intro (ce_43 hN) (And.intro ((h.1 q2).2.1 q1).1 (?_))))))
      show sg_Wp 0 N (d + 1) m_K_forgottenWith 66 [(0, 2, 0), (1, 0, v1)] [(0, G 43 v1)] G Q
      exact sg_ret (by decide +kernel) rfl (Or.inl rfl) (((h.1 q2).2.1 q1).2)
    · refine sg_blk [(1, 0, 0, 0, 0), (65, 17, 4, 40, 4), (1, 0, 0, 0, 0), (65, 13, 4, 33, 3), (3, 0, 0, 1, 0)] (by decide +kernel) ?_
      refine And.intro (Nat.le_of_ble_eq_true rfl) (And.intro (ce_0 hN) (And.intro rr_0_4 (And.intro (Nat.le_of_ble_eq_true rfl) (And.intro (ce_0 hN) (And.intro rr_0_3 (And.intro rfl (?_)))))))
      show sg_Wp 0 N (d + 1) m_K_forgottenWith 33 [(0, 2, 0), (1, 0, v1)] [(0, v1), (2, 13), (2, 17)] G Q
      refine sg_callV (k := d) (y' := m_Y_load) (av := [(2, 13), (0, v1)]) (rest := []) (b := 17) (by decide +kernel) cv_Y_load ml_4_86 (ce_17 hN) rfl rfl (Nat.le_of_ble_eq_true rfl) (Nat.lt_succ_self d) (Nat.le_of_ble_eq_true rfl) rfl ?_
      show sg_Wp 0 N d m_Y_load 0 [(0, 2, 17), (1, 2, 13), (2, 0, v1)] [] G _
      refine sg_Wp.mono (((h.1 q2).2.2 q1)) (fun r1 G1 hhr1 => ?_)
      show sg_Wp 0 N (d + 1) m_K_forgottenWith 36 [(0, 2, 0), (1, 0, v1)] [] G1 Q
      refine sg_blk [(1, 0, 0, 0, 0), (65, 32, 4, 53, 6)] (by decide +kernel) ?_
      refine And.intro (Nat.le_of_ble_eq_true rfl) (And.intro (ce_0 hN) (And.intro rr_0_6 (?_)))
      show sg_Wp 0 N (d + 1) m_K_forgottenWith 40 [(0, 2, 0), (1, 0, v1)] [(2, 32)] G1 Q
      refine sg_callV (k := d) (y' := m_D_pass) (av := []) (rest := []) (b := 32) (by decide +kernel) cv_D_pass ml_4_79 (ce_32 hN) rfl rfl (Nat.le_of_ble_eq_true rfl) (Nat.lt_succ_self d) (Nat.le_of_ble_eq_true rfl) rfl ?_
      show sg_Wp 0 N d m_D_pass 0 [(0, 2, 32)] [] G1 _
      refine sg_Wp.mono hhr1 (fun r2 G2 hhr2 => ?_)
      show sg_Wp 0 N (d + 1) m_K_forgottenWith 43 [(0, 2, 0), (1, 0, v1)] [] G2 Q
      refine sg_blk [(1, 0, 0, 0, 0)] (by decide +kernel) ?_
      refine And.intro (Nat.le_of_ble_eq_true rfl) (?_)
      show sg_Wp 0 N (d + 1) m_K_forgottenWith 44 [(0, 2, 0), (1, 0, v1)] [(2, 0)] G2 Q
      refine sg_callV (k := d) (y' := m_K_clearWeather) (av := []) (rest := []) (b := 0) (by decide +kernel) cv_K_clearWeather ml_4_70 (ce_0 hN) rfl rfl (Nat.le_of_ble_eq_true rfl) (Nat.lt_succ_self d) (Nat.le_of_ble_eq_true rfl) rfl ?_
      show sg_Wp 0 N d m_K_clearWeather 0 [(0, 2, 0)] [] G2 _
      refine sg_Wp.mono hhr2 (fun r3 G3 hhr3 => ?_)
      show sg_Wp 0 N (d + 1) m_K_forgottenWith 47 [(0, 2, 0), (1, 0, v1)] [] G3 Q
      refine sg_blk [(1, 0, 0, 0, 0), (65, 43, 4, 56, 7), (3, 0, 0, 1, 0), (1, 0, 0, 0, 0), (65, 32, 4, 53, 6), (15, 0, 1, 94, 13), (18, 256, 0, 0, 0), (1, 0, 0, 0, 0), (65, 43, 4, 56, 7), (3, 0, 0, 1, 0), (17, 256, 0, 0, 0)] (by decide +kernel) ?_
      refine And.intro (Nat.le_of_ble_eq_true rfl) (And.intro (ce_0 hN) (And.intro rr_0_7 (And.intro rfl (And.intro (Nat.le_of_ble_eq_true rfl) (And.intro (ce_0 hN) (And.intro rr_0_6 (And.intro (ce_32 hN) (And.intro (ce_43 hN) (And.intro hhr3.1 (And.intro (Nat.le_of_ble_eq_true rfl) (And.intro (ce_0 hN) (And.intro rr_0_7 (And.intro rfl (And.intro (ce_43 hN) (And.intro hhr3.2.1 (?_))))))))))))))))
      show sg_Wp 0 N (d + 1) m_K_forgottenWith 66 [(0, 2, 0), (1, 0, v1)] [(0, (sg_up G3 43 v1 (G3 32 13)) 43 v1)] (sg_up G3 43 v1 (G3 32 13)) Q
      exact sg_ret (by decide +kernel) rfl (Or.inl rfl) hhr3.2.2
  · refine sg_blk [(7, 0, 0, 0, 0)] (by decide +kernel) ?_
    refine And.intro rfl (?_)
    show sg_Wp 0 N (d + 1) m_K_forgottenWith 13 [(0, 2, 0), (1, 0, v1)] [(0, 0)] G Q
    exact sg_ret (by decide +kernel) rfl (Or.inl rfl) ((h.2 q2))
