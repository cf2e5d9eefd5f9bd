/-! Arrays.fill, cell by cell -/

theorem c_A_fill_25 {d N : Nat} (hN : 44 ≤ N) {v : Int} {G : SgM} {Q : Int → SgM → Prop} (post : ∀ G', (∀ c' : Int, c' ≠ 25 → ∀ i, G' c' i = G c' i) → (∀ i : Int, 0 ≤ i → i < 8 → G' 25 i = v) → (∀ i : Int, (i < 0 ∨ 8 ≤ i) → G' 25 i = G 25 i) → Q 0 G') : sg_Wp 0 N d m_A_fill 0 [(0, 2, 25), (1, 0, v)] [] G Q := by
  have loop : ∀ (r m : Nat), m + r = 8 → ∀ G1 : SgM, (∀ c' : Int, c' ≠ 25 → ∀ i, G1 c' i = G c' i) → (∀ i : Int, 0 ≤ i → i < (m : Int) → G1 25 i = v) → (∀ i : Int, (i < 0 ∨ (m : Int) ≤ i) → G1 25 i = G 25 i) → sg_Wp 0 N d m_A_fill 5 [(0, 2, 25), (1, 0, v), (2, 0, (m : Int)), (3, 0, 8)] [] G1 Q := by
    intro r
    induction r with
    | zero =>
      intro m hm G1 f1 f2 f3
      exact g_A_fill_25_5 hN ⟨fun _ => post G1 f1 (fun i h0 h1 => f2 i h0 (by omega)) (fun i hi => f3 i (by omega)), fun q => absurd (by omega) q⟩
    | succ r ih =>
      intro m hm G1 f1 f2 f3
      refine g_A_fill_25_5 hN ⟨fun q => absurd q (by omega), fun _ => ⟨by omega, ?_⟩⟩
      rw [sg_inc1 m (by omega)]
      refine ih (m + 1) (by omega) _ (fun c' x i => ?_) (fun i h0 h1 => ?_) (fun i hi => ?_)
      · rw [sg_upc x]
        exact f1 c' x i
      · by_cases e : i = (m : Int)
        · rw [e]; exact sg_up_at
        · rw [sg_upi e]
          exact f2 i h0 (by omega)
      · rw [sg_upi (by omega)]
        exact f3 i (by omega)
  exact g_A_fill_25_0 hN (loop 8 0 (by omega) G (fun _ _ _ => rfl) (fun i h0 h1 => absurd h1 (by omega)) (fun _ _ => rfl))

theorem c_A_fill_36 {d N : Nat} (hN : 44 ≤ N) {v : Int} {G : SgM} {Q : Int → SgM → Prop} (post : ∀ G', (∀ c' : Int, c' ≠ 36 → ∀ i, G' c' i = G c' i) → (∀ i : Int, 0 ≤ i → i < 8 → G' 36 i = v) → (∀ i : Int, (i < 0 ∨ 8 ≤ i) → G' 36 i = G 36 i) → Q 0 G') : sg_Wp 0 N d m_A_fill 0 [(0, 2, 36), (1, 0, v)] [] G Q := by
  have loop : ∀ (r m : Nat), m + r = 8 → ∀ G1 : SgM, (∀ c' : Int, c' ≠ 36 → ∀ i, G1 c' i = G c' i) → (∀ i : Int, 0 ≤ i → i < (m : Int) → G1 36 i = v) → (∀ i : Int, (i < 0 ∨ (m : Int) ≤ i) → G1 36 i = G 36 i) → sg_Wp 0 N d m_A_fill 5 [(0, 2, 36), (1, 0, v), (2, 0, (m : Int)), (3, 0, 8)] [] G1 Q := by
    intro r
    induction r with
    | zero =>
      intro m hm G1 f1 f2 f3
      exact g_A_fill_36_5 hN ⟨fun _ => post G1 f1 (fun i h0 h1 => f2 i h0 (by omega)) (fun i hi => f3 i (by omega)), fun q => absurd (by omega) q⟩
    | succ r ih =>
      intro m hm G1 f1 f2 f3
      refine g_A_fill_36_5 hN ⟨fun q => absurd q (by omega), fun _ => ⟨by omega, ?_⟩⟩
      rw [sg_inc1 m (by omega)]
      refine ih (m + 1) (by omega) _ (fun c' x i => ?_) (fun i h0 h1 => ?_) (fun i hi => ?_)
      · rw [sg_upc x]
        exact f1 c' x i
      · by_cases e : i = (m : Int)
        · rw [e]; exact sg_up_at
        · rw [sg_upi e]
          exact f2 i h0 (by omega)
      · rw [sg_upi (by omega)]
        exact f3 i (by omega)
  exact g_A_fill_36_0 hN (loop 8 0 (by omega) G (fun _ _ _ => rfl) (fun i h0 h1 => absurd h1 (by omega)) (fun _ _ => rfl))

theorem c_A_fill_43 {d N : Nat} (hN : 44 ≤ N) {v : Int} {G : SgM} {Q : Int → SgM → Prop} (post : ∀ G', (∀ c' : Int, c' ≠ 43 → ∀ i, G' c' i = G c' i) → (∀ i : Int, 0 ≤ i → i < 256 → G' 43 i = v) → (∀ i : Int, (i < 0 ∨ 256 ≤ i) → G' 43 i = G 43 i) → Q 0 G') : sg_Wp 0 N d m_A_fill 0 [(0, 2, 43), (1, 0, v)] [] G Q := by
  have loop : ∀ (r m : Nat), m + r = 256 → ∀ G1 : SgM, (∀ c' : Int, c' ≠ 43 → ∀ i, G1 c' i = G c' i) → (∀ i : Int, 0 ≤ i → i < (m : Int) → G1 43 i = v) → (∀ i : Int, (i < 0 ∨ (m : Int) ≤ i) → G1 43 i = G 43 i) → sg_Wp 0 N d m_A_fill 5 [(0, 2, 43), (1, 0, v), (2, 0, (m : Int)), (3, 0, 256)] [] G1 Q := by
    intro r
    induction r with
    | zero =>
      intro m hm G1 f1 f2 f3
      exact g_A_fill_43_5 hN ⟨fun _ => post G1 f1 (fun i h0 h1 => f2 i h0 (by omega)) (fun i hi => f3 i (by omega)), fun q => absurd (by omega) q⟩
    | succ r ih =>
      intro m hm G1 f1 f2 f3
      refine g_A_fill_43_5 hN ⟨fun q => absurd q (by omega), fun _ => ⟨by omega, ?_⟩⟩
      rw [sg_inc1 m (by omega)]
      refine ih (m + 1) (by omega) _ (fun c' x i => ?_) (fun i h0 h1 => ?_) (fun i hi => ?_)
      · rw [sg_upc x]
        exact f1 c' x i
      · by_cases e : i = (m : Int)
        · rw [e]; exact sg_up_at
        · rw [sg_upi e]
          exact f2 i h0 (by omega)
      · rw [sg_upi (by omega)]
        exact f3 i (by omega)
  exact g_A_fill_43_0 hN (loop 256 0 (by omega) G (fun _ _ _ => rfl) (fun i h0 h1 => absurd h1 (by omega)) (fun _ _ => rfl))

theorem c_A_fill_68 {d N : Nat} (hN : 75 ≤ N) {v : Int} {G : SgM} {Q : Int → SgM → Prop} (post : ∀ G', (∀ c' : Int, c' ≠ 68 → ∀ i, G' c' i = G c' i) → (∀ i : Int, 0 ≤ i → i < 4 → G' 68 i = v) → (∀ i : Int, (i < 0 ∨ 4 ≤ i) → G' 68 i = G 68 i) → Q 0 G') : sg_Wp 0 N d m_A_fill 0 [(0, 2, 68), (1, 0, v)] [] G Q := by
  have loop : ∀ (r m : Nat), m + r = 4 → ∀ G1 : SgM, (∀ c' : Int, c' ≠ 68 → ∀ i, G1 c' i = G c' i) → (∀ i : Int, 0 ≤ i → i < (m : Int) → G1 68 i = v) → (∀ i : Int, (i < 0 ∨ (m : Int) ≤ i) → G1 68 i = G 68 i) → sg_Wp 0 N d m_A_fill 5 [(0, 2, 68), (1, 0, v), (2, 0, (m : Int)), (3, 0, 4)] [] G1 Q := by
    intro r
    induction r with
    | zero =>
      intro m hm G1 f1 f2 f3
      exact g_A_fill_68_5 hN ⟨fun _ => post G1 f1 (fun i h0 h1 => f2 i h0 (by omega)) (fun i hi => f3 i (by omega)), fun q => absurd (by omega) q⟩
    | succ r ih =>
      intro m hm G1 f1 f2 f3
      refine g_A_fill_68_5 hN ⟨fun q => absurd q (by omega), fun _ => ⟨by omega, ?_⟩⟩
      rw [sg_inc1 m (by omega)]
      refine ih (m + 1) (by omega) _ (fun c' x i => ?_) (fun i h0 h1 => ?_) (fun i hi => ?_)
      · rw [sg_upc x]
        exact f1 c' x i
      · by_cases e : i = (m : Int)
        · rw [e]; exact sg_up_at
        · rw [sg_upi e]
          exact f2 i h0 (by omega)
      · rw [sg_upi (by omega)]
        exact f3 i (by omega)
  exact g_A_fill_68_0 hN (loop 4 0 (by omega) G (fun _ _ _ => rfl) (fun i h0 h1 => absurd h1 (by omega)) (fun _ _ => rfl))
