/-! Arrays.fill on the rows of the sheets -/

set_option maxRecDepth 100000 in
theorem g_A_fill_71_0 {d N : Nat} (hN : 75 ≤ N) {v1 : Int} {G : SgM} {Q : Int → SgM → Prop} (h : sg_Wp 0 N d m_A_fill 5 [(0, 2, 71), (1, 0, v1), (2, 0, 0), (3, 0, 60)] [] G Q) : sg_Wp 0 N d m_A_fill 0 [(0, 2, 71), (1, 0, v1)] [] G Q := by
  refine sg_blk [(7, 0, 0, 0, 0), (25, 0, 0, 2, 0), (1, 0, 0, 0, 0), (24, 60, 0, 0, 0), (25, 0, 0, 3, 0)] (by decide +kernel) ?_
  refine And.intro rfl (And.intro rfl (And.intro (Nat.le_of_ble_eq_true rfl) (And.intro (And.intro (Or.inl (ce_71 hN)) (by decide)) (And.intro rfl (?_)))))
  show sg_Wp 0 N d m_A_fill 5 [(0, 2, 71), (1, 0, v1), (2, 0, 0), (3, 0, 60)] [] G Q
  exact h
set_option maxRecDepth 100000 in
theorem g_A_fill_71_5 {d N : Nat} (hN : 75 ≤ N) {v1 v2 v3 : Int} {G : SgM} {Q : Int → SgM → Prop} (h : (v3 ≤ v2 → (Q 0 G)) ∧ (¬ (v3 ≤ v2) → ((0 ≤ v2 ∧ v2 < 60) ∧ (sg_Wp 0 N d m_A_fill 5 [(0, 2, 71), (1, 0, v1), (2, 0, sg_iadd v2 1), (3, 0, v3)] [] (sg_up G 71 v2 v1) Q)))) : sg_Wp 0 N d m_A_fill 5 [(0, 2, 71), (1, 0, v1), (2, 0, v2), (3, 0, v3)] [] G Q := by
  refine sg_blk [(3, 0, 0, 2, 0), (3, 0, 0, 3, 0)] (by decide +kernel) ?_
  refine And.intro rfl (And.intro rfl (?_))
  show sg_Wp 0 N d m_A_fill 7 [(0, 2, 71), (1, 0, v1), (2, 0, v2), (3, 0, v3)] [(0, v3), (0, v2)] G Q
  refine sg_icmp_ge (off := 13) (tgt := 20) (by decide +kernel) (by decide) ⟨fun q1 => ?_, fun q1 => ?_⟩
  · exact sg_vret (by decide +kernel) rfl ((h.1 q1))
  · refine sg_blk [(1, 0, 0, 0, 0), (3, 0, 0, 2, 0), (3, 0, 0, 1, 0), (18, 60, 0, 0, 0), (31, 1, 0, 2, 0)] (by decide +kernel) ?_
    refine And.intro (Nat.le_of_ble_eq_true rfl) (And.intro rfl (And.intro rfl (And.intro (ce_71 hN) (And.intro (h.2 q1).1 (And.intro rfl (?_))))))
    show sg_Wp 0 N d m_A_fill 17 [(0, 2, 71), (1, 0, v1), (2, 0, sg_iadd v2 1), (3, 0, v3)] [] (sg_up G 71 v2 v1) Q
    refine sg_goto (off := -12) (tgt := 5) (by decide +kernel) (by decide) ?_
    exact (h.2 q1).2
theorem c_A_fill_71 {d N : Nat} (hN : 75 ≤ N) {v : Int} {G : SgM} {Q : Int → SgM → Prop} (post : ∀ G', (∀ c' : Int, c' ≠ 71 → ∀ i, G' c' i = G c' i) → (∀ i : Int, 0 ≤ i → i < 60 → G' 71 i = v) → (∀ i : Int, (i < 0 ∨ 60 ≤ i) → G' 71 i = G 71 i) → Q 0 G') : sg_Wp 0 N d m_A_fill 0 [(0, 2, 71), (1, 0, v)] [] G Q := by
  have loop : ∀ (r m : Nat), m + r = 60 → ∀ G1 : SgM, (∀ c' : Int, c' ≠ 71 → ∀ i, G1 c' i = G c' i) → (∀ i : Int, 0 ≤ i → i < (m : Int) → G1 71 i = v) → (∀ i : Int, (i < 0 ∨ (m : Int) ≤ i) → G1 71 i = G 71 i) → sg_Wp 0 N d m_A_fill 5 [(0, 2, 71), (1, 0, v), (2, 0, (m : Int)), (3, 0, 60)] [] G1 Q := by
    intro r
    induction r with
    | zero =>
      intro m hm G1 f1 f2 f3
      exact g_A_fill_71_5 hN ⟨fun _ => post G1 f1 (fun i h0 h1 => f2 i h0 (by omega)) (fun i hi => f3 i (by omega)), fun q => absurd (by omega) q⟩
    | succ r ih =>
      intro m hm G1 f1 f2 f3
      refine g_A_fill_71_5 hN ⟨fun q => absurd q (by omega), fun _ => ⟨by omega, ?_⟩⟩
      rw [sg_inc1 m (by omega)]
      refine ih (m + 1) (by omega) _ (fun c' x i => ?_) (fun i h0 h1 => ?_) (fun i hi => ?_)
      · rw [sg_upc x]
        exact f1 c' x i
      · by_cases e : i = (m : Int)
        · rw [e]; exact sg_up_at
        · rw [sg_upi e]
          exact f2 i h0 (by omega)
      · rw [sg_upi (by omega)]
        exact f3 i (by omega)
  exact g_A_fill_71_0 hN (loop 60 0 (by omega) G (fun _ _ _ => rfl) (fun i h0 h1 => absurd h1 (by omega)) (fun _ _ => rfl))

set_option maxRecDepth 100000 in
theorem g_A_fill_72_0 {d N : Nat} (hN : 75 ≤ N) {v1 : Int} {G : SgM} {Q : Int → SgM → Prop} (h : sg_Wp 0 N d m_A_fill 5 [(0, 2, 72), (1, 0, v1), (2, 0, 0), (3, 0, 60)] [] G Q) : sg_Wp 0 N d m_A_fill 0 [(0, 2, 72), (1, 0, v1)] [] G Q := by
  refine sg_blk [(7, 0, 0, 0, 0), (25, 0, 0, 2, 0), (1, 0, 0, 0, 0), (24, 60, 0, 0, 0), (25, 0, 0, 3, 0)] (by decide +kernel) ?_
  refine And.intro rfl (And.intro rfl (And.intro (Nat.le_of_ble_eq_true rfl) (And.intro (And.intro (Or.inl (ce_72 hN)) (by decide)) (And.intro rfl (?_)))))
  show sg_Wp 0 N d m_A_fill 5 [(0, 2, 72), (1, 0, v1), (2, 0, 0), (3, 0, 60)] [] G Q
  exact h
set_option maxRecDepth 100000 in
theorem g_A_fill_72_5 {d N : Nat} (hN : 75 ≤ N) {v1 v2 v3 : Int} {G : SgM} {Q : Int → SgM → Prop} (h : (v3 ≤ v2 → (Q 0 G)) ∧ (¬ (v3 ≤ v2) → ((0 ≤ v2 ∧ v2 < 60) ∧ (sg_Wp 0 N d m_A_fill 5 [(0, 2, 72), (1, 0, v1), (2, 0, sg_iadd v2 1), (3, 0, v3)] [] (sg_up G 72 v2 v1) Q)))) : sg_Wp 0 N d m_A_fill 5 [(0, 2, 72), (1, 0, v1), (2, 0, v2), (3, 0, v3)] [] G Q := by
  refine sg_blk [(3, 0, 0, 2, 0), (3, 0, 0, 3, 0)] (by decide +kernel) ?_
  refine And.intro rfl (And.intro rfl (?_))
  show sg_Wp 0 N d m_A_fill 7 [(0, 2, 72), (1, 0, v1), (2, 0, v2), (3, 0, v3)] [(0, v3), (0, v2)] G Q
  refine sg_icmp_ge (off := 13) (tgt := 20) (by decide +kernel) (by decide) ⟨fun q1 => ?_, fun q1 => ?_⟩
  · exact sg_vret (by decide +kernel) rfl ((h.1 q1))
  · refine sg_blk [(1, 0, 0, 0, 0), (3, 0, 0, 2, 0), (3, 0, 0, 1, 0), (18, 60, 0, 0, 0), (31, 1, 0, 2, 0)] (by decide +kernel) ?_
    refine And.intro (Nat.le_of_ble_eq_true rfl) (And.intro rfl (And.intro rfl (And.intro (ce_72 hN) (And.intro (h.2 q1).1 (And.intro rfl (?_))))))
    show sg_Wp 0 N d m_A_fill 17 [(0, 2, 72), (1, 0, v1), (2, 0, sg_iadd v2 1), (3, 0, v3)] [] (sg_up G 72 v2 v1) Q
    refine sg_goto (off := -12) (tgt := 5) (by decide +kernel) (by decide) ?_
    exact (h.2 q1).2
theorem c_A_fill_72 {d N : Nat} (hN : 75 ≤ N) {v : Int} {G : SgM} {Q : Int → SgM → Prop} (post : ∀ G', (∀ c' : Int, c' ≠ 72 → ∀ i, G' c' i = G c' i) → (∀ i : Int, 0 ≤ i → i < 60 → G' 72 i = v) → (∀ i : Int, (i < 0 ∨ 60 ≤ i) → G' 72 i = G 72 i) → Q 0 G') : sg_Wp 0 N d m_A_fill 0 [(0, 2, 72), (1, 0, v)] [] G Q := by
  have loop : ∀ (r m : Nat), m + r = 60 → ∀ G1 : SgM, (∀ c' : Int, c' ≠ 72 → ∀ i, G1 c' i = G c' i) → (∀ i : Int, 0 ≤ i → i < (m : Int) → G1 72 i = v) → (∀ i : Int, (i < 0 ∨ (m : Int) ≤ i) → G1 72 i = G 72 i) → sg_Wp 0 N d m_A_fill 5 [(0, 2, 72), (1, 0, v), (2, 0, (m : Int)), (3, 0, 60)] [] G1 Q := by
    intro r
    induction r with
    | zero =>
      intro m hm G1 f1 f2 f3
      exact g_A_fill_72_5 hN ⟨fun _ => post G1 f1 (fun i h0 h1 => f2 i h0 (by omega)) (fun i hi => f3 i (by omega)), fun q => absurd (by omega) q⟩
    | succ r ih =>
      intro m hm G1 f1 f2 f3
      refine g_A_fill_72_5 hN ⟨fun q => absurd q (by omega), fun _ => ⟨by omega, ?_⟩⟩
      rw [sg_inc1 m (by omega)]
      refine ih (m + 1) (by omega) _ (fun c' x i => ?_) (fun i h0 h1 => ?_) (fun i hi => ?_)
      · rw [sg_upc x]
        exact f1 c' x i
      · by_cases e : i = (m : Int)
        · rw [e]; exact sg_up_at
        · rw [sg_upi e]
          exact f2 i h0 (by omega)
      · rw [sg_upi (by omega)]
        exact f3 i (by omega)
  exact g_A_fill_72_0 hN (loop 60 0 (by omega) G (fun _ _ _ => rfl) (fun i h0 h1 => absurd h1 (by omega)) (fun _ _ => rfl))

set_option maxRecDepth 100000 in
theorem g_A_fill_73_0 {d N : Nat} (hN : 75 ≤ N) {v1 : Int} {G : SgM} {Q : Int → SgM → Prop} (h : sg_Wp 0 N d m_A_fill 5 [(0, 2, 73), (1, 0, v1), (2, 0, 0), (3, 0, 60)] [] G Q) : sg_Wp 0 N d m_A_fill 0 [(0, 2, 73), (1, 0, v1)] [] G Q := by
  refine sg_blk [(7, 0, 0, 0, 0), (25, 0, 0, 2, 0), (1, 0, 0, 0, 0), (24, 60, 0, 0, 0), (25, 0, 0, 3, 0)] (by decide +kernel) ?_
  refine And.intro rfl (And.intro rfl (And.intro (Nat.le_of_ble_eq_true rfl) (And.intro (And.intro (Or.inl (ce_73 hN)) (by decide)) (And.intro rfl (?_)))))
  show sg_Wp 0 N d m_A_fill 5 [(0, 2, 73), (1, 0, v1), (2, 0, 0), (3, 0, 60)] [] G Q
  exact h
set_option maxRecDepth 100000 in
theorem g_A_fill_73_5 {d N : Nat} (hN : 75 ≤ N) {v1 v2 v3 : Int} {G : SgM} {Q : Int → SgM → Prop} (h : (v3 ≤ v2 → (Q 0 G)) ∧ (¬ (v3 ≤ v2) → ((0 ≤ v2 ∧ v2 < 60) ∧ (sg_Wp 0 N d m_A_fill 5 [(0, 2, 73), (1, 0, v1), (2, 0, sg_iadd v2 1), (3, 0, v3)] [] (sg_up G 73 v2 v1) Q)))) : sg_Wp 0 N d m_A_fill 5 [(0, 2, 73), (1, 0, v1), (2, 0, v2), (3, 0, v3)] [] G Q := by
  refine sg_blk [(3, 0, 0, 2, 0), (3, 0, 0, 3, 0)] (by decide +kernel) ?_
  refine And.intro rfl (And.intro rfl (?_))
  show sg_Wp 0 N d m_A_fill 7 [(0, 2, 73), (1, 0, v1), (2, 0, v2), (3, 0, v3)] [(0, v3), (0, v2)] G Q
  refine sg_icmp_ge (off := 13) (tgt := 20) (by decide +kernel) (by decide) ⟨fun q1 => ?_, fun q1 => ?_⟩
  · exact sg_vret (by decide +kernel) rfl ((h.1 q1))
  · refine sg_blk [(1, 0, 0, 0, 0), (3, 0, 0, 2, 0), (3, 0, 0, 1, 0), (18, 60, 0, 0, 0), (31, 1, 0, 2, 0)] (by decide +kernel) ?_
    refine And.intro (Nat.le_of_ble_eq_true rfl) (And.intro rfl (And.intro rfl (And.intro (ce_73 hN) (And.intro (h.2 q1).1 (And.intro rfl (?_))))))
    show sg_Wp 0 N d m_A_fill 17 [(0, 2, 73), (1, 0, v1), (2, 0, sg_iadd v2 1), (3, 0, v3)] [] (sg_up G 73 v2 v1) Q
    refine sg_goto (off := -12) (tgt := 5) (by decide +kernel) (by decide) ?_
    exact (h.2 q1).2
theorem c_A_fill_73 {d N : Nat} (hN : 75 ≤ N) {v : Int} {G : SgM} {Q : Int → SgM → Prop} (post : ∀ G', (∀ c' : Int, c' ≠ 73 → ∀ i, G' c' i = G c' i) → (∀ i : Int, 0 ≤ i → i < 60 → G' 73 i = v) → (∀ i : Int, (i < 0 ∨ 60 ≤ i) → G' 73 i = G 73 i) → Q 0 G') : sg_Wp 0 N d m_A_fill 0 [(0, 2, 73), (1, 0, v)] [] G Q := by
  have loop : ∀ (r m : Nat), m + r = 60 → ∀ G1 : SgM, (∀ c' : Int, c' ≠ 73 → ∀ i, G1 c' i = G c' i) → (∀ i : Int, 0 ≤ i → i < (m : Int) → G1 73 i = v) → (∀ i : Int, (i < 0 ∨ (m : Int) ≤ i) → G1 73 i = G 73 i) → sg_Wp 0 N d m_A_fill 5 [(0, 2, 73), (1, 0, v), (2, 0, (m : Int)), (3, 0, 60)] [] G1 Q := by
    intro r
    induction r with
    | zero =>
      intro m hm G1 f1 f2 f3
      exact g_A_fill_73_5 hN ⟨fun _ => post G1 f1 (fun i h0 h1 => f2 i h0 (by omega)) (fun i hi => f3 i (by omega)), fun q => absurd (by omega) q⟩
    | succ r ih =>
      intro m hm G1 f1 f2 f3
      refine g_A_fill_73_5 hN ⟨fun q => absurd q (by omega), fun _ => ⟨by omega, ?_⟩⟩
      rw [sg_inc1 m (by omega)]
      refine ih (m + 1) (by omega) _ (fun c' x i => ?_) (fun i h0 h1 => ?_) (fun i hi => ?_)
      · rw [sg_upc x]
        exact f1 c' x i
      · by_cases e : i = (m : Int)
        · rw [e]; exact sg_up_at
        · rw [sg_upi e]
          exact f2 i h0 (by omega)
      · rw [sg_upi (by omega)]
        exact f3 i (by omega)
  exact g_A_fill_73_0 hN (loop 60 0 (by omega) G (fun _ _ _ => rfl) (fun i h0 h1 => absurd h1 (by omega)) (fun _ _ => rfl))

set_option maxRecDepth 100000 in
theorem g_A_fill_74_0 {d N : Nat} (hN : 75 ≤ N) {v1 : Int} {G : SgM} {Q : Int → SgM → Prop} (h : sg_Wp 0 N d m_A_fill 5 [(0, 2, 74), (1, 0, v1), (2, 0, 0), (3, 0, 60)] [] G Q) : sg_Wp 0 N d m_A_fill 0 [(0, 2, 74), (1, 0, v1)] [] G Q := by
  refine sg_blk [(7, 0, 0, 0, 0), (25, 0, 0, 2, 0), (1, 0, 0, 0, 0), (24, 60, 0, 0, 0), (25, 0, 0, 3, 0)] (by decide +kernel) ?_
  refine And.intro rfl (And.intro rfl (And.intro (Nat.le_of_ble_eq_true rfl) (And.intro (And.intro (Or.inl (ce_74 hN)) (by decide)) (And.intro rfl (?_)))))
  show sg_Wp 0 N d m_A_fill 5 [(0, 2, 74), (1, 0, v1), (2, 0, 0), (3, 0, 60)] [] G Q
  exact h
set_option maxRecDepth 100000 in
theorem g_A_fill_74_5 {d N : Nat} (hN : 75 ≤ N) {v1 v2 v3 : Int} {G : SgM} {Q : Int → SgM → Prop} (h : (v3 ≤ v2 → (Q 0 G)) ∧ (¬ (v3 ≤ v2) → ((0 ≤ v2 ∧ v2 < 60) ∧ (sg_Wp 0 N d m_A_fill 5 [(0, 2, 74), (1, 0, v1), (2, 0, sg_iadd v2 1), (3, 0, v3)] [] (sg_up G 74 v2 v1) Q)))) : sg_Wp 0 N d m_A_fill 5 [(0, 2, 74), (1, 0, v1), (2, 0, v2), (3, 0, v3)] [] G Q := by
  refine sg_blk [(3, 0, 0, 2, 0), (3, 0, 0, 3, 0)] (by decide +kernel) ?_
  refine And.intro rfl (And.intro rfl (?_))
  show sg_Wp 0 N d m_A_fill 7 [(0, 2, 74), (1, 0, v1), (2, 0, v2), (3, 0, v3)] [(0, v3), (0, v2)] G Q
  refine sg_icmp_ge (off := 13) (tgt := 20) (by decide +kernel) (by decide) ⟨fun q1 => ?_, fun q1 => ?_⟩
  · exact sg_vret (by decide +kernel) rfl ((h.1 q1))
  · refine sg_blk [(1, 0, 0, 0, 0), (3, 0, 0, 2, 0), (3, 0, 0, 1, 0), (18, 60, 0, 0, 0), (31, 1, 0, 2, 0)] (by decide +kernel) ?_
    refine And.intro (Nat.le_of_ble_eq_true rfl) (And.intro rfl (And.intro rfl (And.intro (ce_74 hN) (And.intro (h.2 q1).1 (And.intro rfl (?_))))))
    show sg_Wp 0 N d m_A_fill 17 [(0, 2, 74), (1, 0, v1), (2, 0, sg_iadd v2 1), (3, 0, v3)] [] (sg_up G 74 v2 v1) Q
    refine sg_goto (off := -12) (tgt := 5) (by decide +kernel) (by decide) ?_
    exact (h.2 q1).2
theorem c_A_fill_74 {d N : Nat} (hN : 75 ≤ N) {v : Int} {G : SgM} {Q : Int → SgM → Prop} (post : ∀ G', (∀ c' : Int, c' ≠ 74 → ∀ i, G' c' i = G c' i) → (∀ i : Int, 0 ≤ i → i < 60 → G' 74 i = v) → (∀ i : Int, (i < 0 ∨ 60 ≤ i) → G' 74 i = G 74 i) → Q 0 G') : sg_Wp 0 N d m_A_fill 0 [(0, 2, 74), (1, 0, v)] [] G Q := by
  have loop : ∀ (r m : Nat), m + r = 60 → ∀ G1 : SgM, (∀ c' : Int, c' ≠ 74 → ∀ i, G1 c' i = G c' i) → (∀ i : Int, 0 ≤ i → i < (m : Int) → G1 74 i = v) → (∀ i : Int, (i < 0 ∨ (m : Int) ≤ i) → G1 74 i = G 74 i) → sg_Wp 0 N d m_A_fill 5 [(0, 2, 74), (1, 0, v), (2, 0, (m : Int)), (3, 0, 60)] [] G1 Q := by
    intro r
    induction r with
    | zero =>
      intro m hm G1 f1 f2 f3
      exact g_A_fill_74_5 hN ⟨fun _ => post G1 f1 (fun i h0 h1 => f2 i h0 (by omega)) (fun i hi => f3 i (by omega)), fun q => absurd (by omega) q⟩
    | succ r ih =>
      intro m hm G1 f1 f2 f3
      refine g_A_fill_74_5 hN ⟨fun q => absurd q (by omega), fun _ => ⟨by omega, ?_⟩⟩
      rw [sg_inc1 m (by omega)]
      refine ih (m + 1) (by omega) _ (fun c' x i => ?_) (fun i h0 h1 => ?_) (fun i hi => ?_)
      · rw [sg_upc x]
        exact f1 c' x i
      · by_cases e : i = (m : Int)
        · rw [e]; exact sg_up_at
        · rw [sg_upi e]
          exact f2 i h0 (by omega)
      · rw [sg_upi (by omega)]
        exact f3 i (by omega)
  exact g_A_fill_74_0 hN (loop 60 0 (by omega) G (fun _ _ _ => rfl) (fun i h0 h1 => absurd h1 (by omega)) (fun _ _ => rfl))
