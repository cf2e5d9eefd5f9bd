/-! THE REFERENCE: a whole day -/
def cm_R (W : TW) (Y : TY) (h : Nat) (G : SgM) : Prop := ∀ i : Nat, i < h → (∀ p : Nat, p < tw_k W → G 218 (8 * (i : Int) + (p : Int)) = td_c W i p ∧ G 219 (8 * (i : Int) + (p : Int)) = td_one (td_sn W Y i p) ∧ G 220 (8 * (i : Int) + (p : Int)) = td_oft W Y p (i + 1) ∧ G 221 (8 * (i : Int) + (p : Int)) = td_cold W Y (i + 1) p) ∧
  ∀ q : Nat, q < tw_n W → G 222 (8 * (i : Int) + (q : Int)) = td_std W Y q i ∧ G 223 (8 * (i : Int) + (q : Int)) = td_chb W Y (i + 1) q ∧ G 224 (8 * (i : Int) + (q : Int)) = td_who W Y i q
def cm_I (W : TW) (Y : TY) (h : Nat) (G : SgM) : Prop := (∀ p : Nat, p < tw_k W → G 210 p = td_c W (h - 1) p ∧ G 211 p = td_w W (h - 1) p ∧ G 212 p = td_cold W Y h p ∧ G 214 p = td_oft W Y p h ∧ G 215 p = td_bsy W Y p h) ∧ (∀ q : Nat, q < tw_n W → G 216 q = td_stb W Y q h ∧ G 217 q = td_chb W Y h q) ∧ cm_R W Y h G
def cm_fd (G G' : SgM) : Prop := ∀ c : Int, (c < 210 ∨ 224 < c) → ∀ i, G' c i = G c i
theorem cm_E.fr {E : TE} {G G' : SgM} (h : cm_E E G) (f : ∀ c : Int, (c = 200 ∨ c = 209) → ∀ i, G' c i = G c i) : cm_E E G' :=
  ⟨by rw [f 200 (Or.inl rfl)]; exact h.1, fun e he => by rw [f 209 (Or.inr rfl), f 209 (Or.inr rfl), f 209 (Or.inr rfl)]; exact h.2 e he⟩
theorem cm_O.fr {O : TO} {G G' : SgM} (h : cm_O O G) (f : ∀ i, G' 200 i = G 200 i) : cm_O O G' := ⟨by rw [f]; exact h.1, by rw [f]; exact h.2.1, by rw [f]; exact h.2.2.1, by rw [f]; exact h.2.2.2⟩
theorem cm_W.fr {W : TW} {G G' : SgM} (h : cm_W W G) (f : ∀ c : Int, (c = 200 ∨ c = 207 ∨ c = 208) → ∀ i, G' c i = G c i) : cm_W W G' := by
  have f0 := f 200 (by omega)
  have f7 := f 207 (by omega)
  have f8 := f 208 (by omega)
  exact ⟨⟨by rw [f0]; exact h.1.1, fun q hq => by rw [f7, f7]; exact h.1.2 q hq⟩, by rw [f0]; exact h.2.1, fun p hp => by rw [f8, f8, f8, f8]; exact h.2.2 p hp⟩
theorem c_M_passes {d : Nat} {E : TE} (hE : TEok E) {O : TO} (hO : O.1 < 2147483648) {W : TW} (hW : TWok W) {h : Nat} (hh : h < 24) {G : SgM} {Q : Int → SgM → Prop} (cw : cm_W W G) (ce : cm_E E G) (co : cm_O O G) (ci : cm_I W (tm_Y E O) h G)
    (post : ∀ G', cm_fd G G' → cm_I W (tm_Y E O) (h + 1) G' → Q 0 G') : sg_Wp 200 228 (d + 3) m_M_passes 0 [(0, 2, 200), (1, 0, (h : Int))] [] G Q := by
  have hn := hW.1
  have hk := hW.2.1
  obtain ⟨i1, i2, i3⟩ := ci
  refine c_M_pass1 hW hh cw.2.1 (fun p hp => ⟨(i1 p hp).1, (i1 p hp).2.1⟩) (fun G1 a1 a2 => ?_)
  refine c_M_pass2 hE hO hW hh (by rw [a1 200 (by omega) (by omega)]; exact cw.2.1) (ce.fr (fun c x => a1 c (by omega) (by omega))) (co.fr (a1 200 (by omega) (by omega))) (fun p hp => (a2 p hp).1) (fun p hp => by rw [a1 212 (by omega) (by omega)]; exact (i1 p hp).2.2.1) (fun p hp => by rw [a1 214 (by omega) (by omega)]; exact (i1 p hp).2.2.2.1) (fun G2 b1 b2 => ?_)
  refine c_M_pass3 (Y := tm_Y E O) hW hh (cw.fr (fun c x i => by rw [b1 c (by omega) (by omega), a1 c (by omega) (by omega)])) (fun p hp => by rw [b1 210 (by omega) (by omega)]; exact (a2 p hp).1) (fun p hp => (b2 p hp).1) (fun q hq => by rw [b1 216 (by omega) (by omega), b1 217 (by omega) (by omega), a1 216 (by omega) (by omega), a1 217 (by omega) (by omega)]; exact i2 q hq) (fun p hp => by rw [b1 215 (by omega) (by omega), a1 215 (by omega) (by omega)]; exact (i1 p hp).2.2.2.2) (fun G3 e1 e2 e3 => ?_)
  refine c_M_pass4 (Y := tm_Y E O) hW hh (by rw [e1.1 200 (by omega) (by omega) (by omega) (by omega) (by omega) (by omega), b1 200 (by omega) (by omega), a1 200 (by omega) (by omega)]; exact cw.2.1) (fun p hp => by rw [e1.1 210 (by omega) (by omega) (by omega) (by omega) (by omega) (by omega), b1 210 (by omega) (by omega)]; exact (a2 p hp).1) (fun p hp => by rw [e1.1 213 (by omega) (by omega) (by omega) (by omega) (by omega) (by omega)]; exact (b2 p hp).1) (fun p hp => by rw [e1.1 212 (by omega) (by omega) (by omega) (by omega) (by omega) (by omega), b1 212 (by omega) (by omega), a1 212 (by omega) (by omega)]; exact (i1 p hp).2.2.1) (fun p hp => by rw [e1.1 214 (by omega) (by omega) (by omega) (by omega) (by omega) (by omega)]; exact (b2 p hp).2) (fun G4 g1 g2 => ?_)
  refine post G4 (fun c x i => by rw [g1.1 c (by omega) (by omega) (by omega) (by omega) (by omega), e1.1 c (by omega) (by omega) (by omega) (by omega) (by omega) (by omega), b1 c (by omega) (by omega), a1 c (by omega) (by omega)]) ⟨fun p hp => ?_, fun q hq => ?_, fun i hi => ?_⟩
  · refine ⟨?_, ?_, ?_, ?_, ?_⟩
    · rw [g1.1 210 (by omega) (by omega) (by omega) (by omega) (by omega), e1.1 210 (by omega) (by omega) (by omega) (by omega) (by omega) (by omega), b1 210 (by omega) (by omega)]; exact (a2 p hp).1
    · rw [g1.1 211 (by omega) (by omega) (by omega) (by omega) (by omega), e1.1 211 (by omega) (by omega) (by omega) (by omega) (by omega) (by omega), b1 211 (by omega) (by omega)]; exact (a2 p hp).2
    · exact (g2 p hp).1
    · rw [g1.1 214 (by omega) (by omega) (by omega) (by omega) (by omega), e1.1 214 (by omega) (by omega) (by omega) (by omega) (by omega) (by omega)]; exact (b2 p hp).2
    · rw [g1.1 215 (by omega) (by omega) (by omega) (by omega) (by omega)]; exact e3 p hp
  · rw [g1.1 216 (by omega) (by omega) (by omega) (by omega) (by omega), g1.1 217 (by omega) (by omega) (by omega) (by omega) (by omega)]
    exact ⟨(e2 q hq).1, (e2 q hq).2.1⟩
  · by_cases ei : i = h
    · subst ei
      refine ⟨fun p hp => (g2 p hp).2, fun q hq => ?_⟩
      rw [g1.1 222 (by omega) (by omega) (by omega) (by omega) (by omega), g1.1 223 (by omega) (by omega) (by omega) (by omega) (by omega), g1.1 224 (by omega) (by omega) (by omega) (by omega) (by omega)]
      exact (e2 q hq).2.2
    · have r := i3 i (by omega)
      have old : ∀ c : Int, 218 ≤ c → c ≤ 224 → ∀ j : Nat, j < 8 → G4 c (8 * (i : Int) + (j : Int)) = G c (8 * (i : Int) + (j : Int)) := by
        intro c x1 x2 j hj
        by_cases c4 : c ≤ 221
        · rw [g1.2 c x1 c4 _ (by omega), e1.1 c (by omega) (by omega) (by omega) (by omega) (by omega) (by omega), b1 c (by omega) (by omega), a1 c (by omega) (by omega)]
        · rw [g1.1 c (by omega) (by omega) (by omega) (by omega) (by omega), e1.2 c (by omega) x2 _ (by omega), b1 c (by omega) (by omega), a1 c (by omega) (by omega)]
      refine ⟨fun p hp => ?_, fun q hq => ?_⟩
      · rw [old 218 (by omega) (by omega) p (by omega), old 219 (by omega) (by omega) p (by omega), old 220 (by omega) (by omega) p (by omega), old 221 (by omega) (by omega) p (by omega)]
        exact r.1 p hp
      · rw [old 222 (by omega) (by omega) q (by omega), old 223 (by omega) (by omega) q (by omega), old 224 (by omega) (by omega) q (by omega)]
        exact r.2 q hq
theorem c_M_lives {d : Nat} {E : TE} (hE : TEok E) {O : TO} (hO : O.1 < 2147483648) {W : TW} (hW : TWok W) {G : SgM} {Q : Int → SgM → Prop} (cw : cm_W W G) (ce : cm_E E G) (co : cm_O O G)
    (post : ∀ G', cm_fd G G' → cm_I W (tm_Y E O) 24 G' → Q 0 G') : sg_Wp 200 228 (d + 4) m_M_lives 0 [(0, 2, 200)] [] G Q := by
  have hn := hW.1
  have hk := hW.2.1
  have l3 : ∀ (u m : Nat), m + u = 24 → ∀ G1 : SgM, cm_fd G G1 → cm_I W (tm_Y E O) m G1 → sg_Wp 200 228 (d + 4) m_M_lives 110 [(0, 2, 200), (1, 0, (m : Int))] [] G1 Q := by
    intro u
    induction u with
    | zero =>
      intro m hm G1 f1 f2
      have em : m = 24 := by omega
      subst em
      exact g_M_lives_110 ⟨fun _ => post G1 f1 f2, fun z => absurd (by omega) z⟩
    | succ u ih =>
      intro m hm G1 f1 f2
      refine g_M_lives_110 ⟨fun z => absurd z (by omega), fun _ => c_M_passes (d := d) hE hO hW (by omega) (cw.fr (fun c x => f1 c (by omega))) (ce.fr (fun c x => f1 c (by omega))) (co.fr (f1 200 (by omega))) f2 (fun G2 a b => ?_)⟩
      rw [sg_inc1 m (by omega)]
      exact ih (m + 1) (by omega) G2 (fun c x i => by rw [a c x, f1 c x]) b
  have l2 : ∀ (u m : Nat), m + u = tw_n W → ∀ G1 : SgM, cm_fd G G1 → (∀ p : Nat, p < tw_k W → G1 210 p = tw_ce W p ∧ G1 211 p = tw_wy W p ∧ G1 212 p = tw_co W p ∧ G1 214 p = 0 ∧ G1 215 p = 0) → (∀ q : Nat, q < m → G1 216 q = 0 ∧ G1 217 q = 0) →
      sg_Wp 200 228 (d + 4) m_M_lives 80 [(0, 2, 200), (1, 0, (m : Int))] [] G1 Q := by
    intro u
    induction u with
    | zero =>
      intro m hm G1 f1 f2 f3
      exact g_M_lives_80 ⟨fun _ => l3 24 0 (by omega) G1 f1 ⟨f2, fun q hq => f3 q (by omega), fun i hi => absurd hi (Nat.not_lt_zero _)⟩, fun z => absurd (by rw [f1 200 (by omega), cw.1.1]; omega) z⟩
    | succ u ih =>
      intro m hm G1 f1 f2 f3
      refine g_M_lives_80 ⟨fun z => absurd z (by rw [f1 200 (by omega), cw.1.1]; omega), fun _ => ⟨by omega, by omega, ?_⟩⟩
      rw [sg_inc1 m (by omega)]
      refine ih (m + 1) (by omega) _ (fun c x i => by rw [sg_upc (by omega), sg_upc (by omega)]; exact f1 c x i) (fun p hp => ?_) (fun q hq => ?_)
      · have g := f2 p hp
        refine ⟨?_, ?_, ?_, ?_, ?_⟩ <;> rw [sg_upc (by omega), sg_upc (by omega)]
        · exact g.1
        · exact g.2.1
        · exact g.2.2.1
        · exact g.2.2.2.1
        · exact g.2.2.2.2
      · by_cases e : q = m
        · subst e
          exact ⟨by rw [sg_upc (by omega), sg_up_at], by rw [sg_up_at]⟩
        · exact ⟨by rw [sg_upc (by omega), sg_upi (by omega)]; exact (f3 q (by omega)).1, by rw [sg_upi (by omega), sg_upc (by omega)]; exact (f3 q (by omega)).2⟩
  have l1 : ∀ (u m : Nat), m + u = tw_k W → ∀ G1 : SgM, cm_fd G G1 → (∀ p : Nat, p < m → G1 210 p = tw_ce W p ∧ G1 211 p = tw_wy W p ∧ G1 212 p = tw_co W p ∧ G1 214 p = 0 ∧ G1 215 p = 0) →
      sg_Wp 200 228 (d + 4) m_M_lives 2 [(0, 2, 200), (1, 0, (m : Int))] [] G1 Q := by
    intro u
    induction u with
    | zero =>
      intro m hm G1 f1 f2
      exact g_M_lives_2 ⟨fun _ => l2 (tw_n W) 0 (by omega) G1 f1 (fun p hp => f2 p (by omega)) (fun q hq => absurd hq (Nat.not_lt_zero _)), fun z => absurd (by rw [f1 200 (by omega), cw.2.1]; omega) z⟩
    | succ u ih =>
      intro m hm G1 f1 f2
      have hm' : m < tw_k W := by omega
      have x := cw.2.2 m hm'
      have j1 : sg_iadd (sg_imul 4 (m : Int)) 1 = 4 * (m : Int) + 1 := by rw [sg_imul_eq (by omega) (by omega), sg_iadd_eq (by omega) (by omega)]
      have j2 : sg_iadd (sg_imul 4 (m : Int)) 2 = 4 * (m : Int) + 2 := by rw [sg_imul_eq (by omega) (by omega), sg_iadd_eq (by omega) (by omega)]
      have j3 : sg_iadd (sg_imul 4 (m : Int)) 3 = 4 * (m : Int) + 3 := by rw [sg_imul_eq (by omega) (by omega), sg_iadd_eq (by omega) (by omega)]
      refine g_M_lives_2 ⟨fun z => absurd z (by rw [f1 200 (by omega), cw.2.1]; omega), fun _ => ⟨by rw [j1]; omega, by omega, by rw [j2]; omega, by omega, by rw [j3]; omega, by omega, by omega, by omega, ?_⟩⟩
      rw [sg_inc1 m (by omega), j1, j2, j3, f1 208 (by omega), f1 208 (by omega), f1 208 (by omega), x.2.1, x.2.2.1, x.2.2.2]
      refine ih (m + 1) (by omega) _ (fun c x i => by rw [sg_upc (by omega), sg_upc (by omega), sg_upc (by omega), sg_upc (by omega), sg_upc (by omega)]; exact f1 c x i) (fun p hp => ?_)
      by_cases e : p = m
      · subst e
        refine ⟨?_, ?_, ?_, ?_, ?_⟩
        · rw [sg_upc (by omega), sg_upc (by omega), sg_upc (by omega), sg_upc (by omega), sg_up_at]
        · rw [sg_upc (by omega), sg_upc (by omega), sg_upc (by omega), sg_up_at]
        · rw [sg_upc (by omega), sg_upc (by omega), sg_up_at]
        · rw [sg_upc (by omega), sg_up_at]
        · rw [sg_up_at]
      · have g := f2 p (by omega)
        refine ⟨?_, ?_, ?_, ?_, ?_⟩
        · rw [sg_upc (by omega), sg_upc (by omega), sg_upc (by omega), sg_upc (by omega), sg_upi (by omega)]; exact g.1
        · rw [sg_upc (by omega), sg_upc (by omega), sg_upc (by omega), sg_upi (by omega), sg_upc (by omega)]; exact g.2.1
        · rw [sg_upc (by omega), sg_upc (by omega), sg_upi (by omega), sg_upc (by omega), sg_upc (by omega)]; exact g.2.2.1
        · rw [sg_upc (by omega), sg_upi (by omega), sg_upc (by omega), sg_upc (by omega), sg_upc (by omega)]; exact g.2.2.2.1
        · rw [sg_upi (by omega), sg_upc (by omega), sg_upc (by omega), sg_upc (by omega), sg_upc (by omega)]; exact g.2.2.2.2
  exact g_M_lives_0 (l1 (tw_k W) 0 (by omega) G (fun _ _ _ => rfl) (fun p hp => absurd hp (Nat.not_lt_zero _)))
