/-! THE REFERENCE: an hour passes -/
theorem c_M_pass1 {d : Nat} {W : TW} (hW : TWok W) {h : Nat} (hh : h < 24) {G : SgM} {Q : Int → SgM → Prop} (q0 : G 200 9 = (tw_k W : Int)) (c0 : ∀ p : Nat, p < tw_k W → G 210 p = td_c W (h - 1) p ∧ G 211 p = td_w W (h - 1) p)
    (next : ∀ G', (∀ c : Int, c ≠ 210 → c ≠ 211 → ∀ i, G' c i = G c i) → (∀ p : Nat, p < tw_k W → G' 210 p = td_c W h p ∧ G' 211 p = td_w W h p) → sg_Wp 200 228 (d + 3) m_M_passes 27 [(0, 2, 200), (1, 0, (h : Int)), (2, 0, 0)] [] G' Q) :
    sg_Wp 200 228 (d + 3) m_M_passes 0 [(0, 2, 200), (1, 0, (h : Int))] [] G Q := by
  have hk := hW.2.1
  have loop : ∀ (u m : Nat), m + u = tw_k W → ∀ G1 : SgM, (∀ c : Int, c ≠ 210 → c ≠ 211 → ∀ i, G1 c i = G c i) → (∀ p : Nat, p < m → G1 210 p = td_c W h p ∧ G1 211 p = td_w W h p) → (∀ p : Nat, m ≤ p → p < tw_k W → G1 210 p = td_c W (h - 1) p ∧ G1 211 p = td_w W (h - 1) p) →
      sg_Wp 200 228 (d + 3) m_M_passes 2 [(0, 2, 200), (1, 0, (h : Int)), (2, 0, (m : Int))] [] G1 Q := by
    intro u
    induction u with
    | zero =>
      intro m hm G1 f1 f2 f3
      exact g_M_passes_2 ⟨fun _ => next G1 f1 (fun p hp => f2 p (by omega)), fun z => absurd (by rw [f1 200 (by omega) (by omega), q0]; omega) z⟩
    | succ u ih =>
      intro m hm G1 f1 f2 f3
      have hm' : m < tw_k W := by omega
      have x := f3 m (Nat.le_refl m) hm'
      have bw := hW.2.2.2 m hm'
      have b2 := td_pos_in (ce := tw_ce W m) (wy := tw_wy W m) (by omega) (by omega) (h - 1)
      refine g_M_passes_2 ⟨fun z => absurd z (by rw [f1 200 (by omega) (by omega), q0]; omega), fun _ => ⟨fun z => ?_, fun z => ?_⟩⟩
      · have h0 : h = 0 := by omega
        subst h0
        rw [sg_inc1 m (by omega)]
        refine ih (m + 1) (by omega) G1 f1 (fun p hp => ?_) (fun p h1 h2 => f3 p (by omega) h2)
        by_cases e : p = m
        · subst e; exact x
        · exact f2 p (by omega)
      · have es : td_pos (tw_ce W m) (tw_wy W m) h = td_step (td_pos (tw_ce W m) (tw_wy W m) (h - 1)) := by
          have : h = (h - 1) + 1 := by omega
          rw [← td_pos_s, ← this]
        rw [sg_inc1 m (by omega)]
        refine c_M_goes (d := d + 1) (q := td_pos (tw_ce W m) (tw_wy W m) (h - 1)) (by omega) b2.1 b2.2 x.1 x.2 ?_
        rw [← es]
        refine ih (m + 1) (by omega) _ (fun c x1 x2 i => by rw [sg_upc x1, sg_upc x2]; exact f1 c x1 x2 i) (fun p hp => ?_) (fun p h1 h2 => ?_)
        · by_cases e : p = m
          · subst e
            rw [sg_up_at, sg_upc (by omega), sg_up_at]
            exact ⟨rfl, rfl⟩
          · rw [sg_upi (by omega), sg_upc (by omega), sg_upc (by omega), sg_upi (by omega)]
            exact f2 p (by omega)
        · rw [sg_upi (by omega), sg_upc (by omega), sg_upc (by omega), sg_upi (by omega)]
          exact f3 p (by omega) h2
  exact g_M_passes_0 (loop (tw_k W) 0 (by omega) G (fun _ _ _ _ => rfl) (fun p hp => absurd hp (Nat.not_lt_zero _)) (fun p _ hp => c0 p hp))
theorem c_M_pass2 {d : Nat} {E : TE} (hE : TEok E) {O : TO} (hO : O.1 < 2147483648) {W : TW} (hW : TWok W) {h : Nat} (hh : h < 24) {G : SgM} {Q : Int → SgM → Prop} (q0 : G 200 9 = (tw_k W : Int)) (ce : cm_E E G) (co : cm_O O G)
    (cc : ∀ p : Nat, p < tw_k W → G 210 p = td_c W h p) (cd : ∀ p : Nat, p < tw_k W → G 212 p = td_cold W (tm_Y E O) h p) (cf : ∀ p : Nat, p < tw_k W → G 214 p = td_oft W (tm_Y E O) p h)
    (next : ∀ G', (∀ c : Int, c ≠ 213 → c ≠ 214 → ∀ i, G' c i = G c i) → (∀ p : Nat, p < tw_k W → G' 213 p = td_one (td_sn W (tm_Y E O) h p) ∧ G' 214 p = td_oft W (tm_Y E O) p (h + 1)) → sg_Wp 200 228 (d + 3) m_M_passes 78 [(0, 2, 200), (1, 0, (h : Int)), (2, 0, 0)] [] G' Q) :
    sg_Wp 200 228 (d + 3) m_M_passes 27 [(0, 2, 200), (1, 0, (h : Int)), (2, 0, 0)] [] G Q := by
  have hk := hW.2.1
  have loop : ∀ (u m : Nat), m + u = tw_k W → ∀ G1 : SgM, (∀ c : Int, c ≠ 213 → c ≠ 214 → ∀ i, G1 c i = G c i) → (∀ p : Nat, p < m → G1 213 p = td_one (td_sn W (tm_Y E O) h p) ∧ G1 214 p = td_oft W (tm_Y E O) p (h + 1)) → (∀ p : Nat, m ≤ p → p < tw_k W → G1 214 p = td_oft W (tm_Y E O) p h) →
      sg_Wp 200 228 (d + 3) m_M_passes 27 [(0, 2, 200), (1, 0, (h : Int)), (2, 0, (m : Int))] [] G1 Q := by
    intro u
    induction u with
    | zero =>
      intro m hm G1 f1 f2 f3
      exact g_M_passes_27 ⟨fun _ => next G1 f1 (fun p hp => f2 p (by omega)), fun z => absurd (by rw [f1 200 (by omega) (by omega), q0]; omega) z⟩
    | succ u ih =>
      intro m hm G1 f1 f2 f3
      have hm' : m < tw_k W := by omega
      have x := f3 m (Nat.le_refl m) hm'
      have bo := td_oft_in W (tm_Y E O) m h
      have b1 := td_one_in (td_sn W (tm_Y E O) h m)
      have ce1 : cm_E E G1 := ⟨by rw [f1 200 (by omega) (by omega)]; exact ce.1, fun e he => by rw [f1 209 (by omega) (by omega), f1 209 (by omega) (by omega), f1 209 (by omega) (by omega)]; exact ce.2 e he⟩
      have co1 : cm_O O G1 := ⟨by rw [f1 200 (by omega) (by omega)]; exact co.1, by rw [f1 200 (by omega) (by omega)]; exact co.2.1, by rw [f1 200 (by omega) (by omega)]; exact co.2.2.1, by rw [f1 200 (by omega) (by omega)]; exact co.2.2.2⟩
      have es := td_oft_s W (tm_Y E O) m h
      have go : ∀ y : Int, y = td_oft W (tm_Y E O) m (h + 1) → sg_Wp 200 228 (d + 3) m_M_passes 27 [(0, 2, 200), (1, 0, (h : Int)), (2, 0, ((m + 1 : Nat) : Int))] [] (sg_up (sg_up G1 213 (m : Int) (td_one (td_sn W (tm_Y E O) h m))) 214 (m : Int) y) Q := by
        intro y ey
        subst ey
        refine ih (m + 1) (by omega) _ (fun c x1 x2 i => by rw [sg_upc x2, sg_upc x1]; exact f1 c x1 x2 i) (fun p hp => ?_) (fun p h1 h2 => ?_)
        · by_cases e : p = m
          · subst e
            exact ⟨by rw [sg_upc (by omega), sg_up_at], by rw [sg_up_at]⟩
          · exact ⟨by rw [sg_upc (by omega), sg_upi (by omega)]; exact (f2 p (by omega)).1, by rw [sg_upi (by omega), sg_upc (by omega)]; exact (f2 p (by omega)).2⟩
        · rw [sg_upi (by omega), sg_upc (by omega)]
          exact f3 p (by omega) h2
      refine g_M_passes_27 ⟨fun z => absurd z (by rw [f1 200 (by omega) (by omega), q0]; omega), fun _ => c_M_isSneezing (d := d) hE hO hW hh hm' ce1 co1 (by rw [f1 210 (by omega) (by omega)]; exact cc m hm') (by rw [f1 212 (by omega) (by omega)]; exact cd m hm') ⟨by omega, by omega, by omega, by omega, fun z => ⟨by omega, ?_⟩, fun z => ⟨by omega, ?_⟩⟩⟩
      · rw [sg_up_at] at z
        rw [sg_inc1 m (by omega), x, sg_iadd_eq (by omega) (by omega)]
        refine go _ ?_
        rw [es, z]
      · rw [sg_up_at] at z
        rw [sg_inc1 m (by omega), x, sg_iadd_eq (by omega) (by omega)]
        refine go _ ?_
        rw [es, td_one_n z]
        rfl
  exact loop (tw_k W) 0 (by omega) G (fun _ _ _ _ => rfl) (fun p hp => absurd hp (Nat.not_lt_zero _)) (fun p _ hp => cf p hp)
