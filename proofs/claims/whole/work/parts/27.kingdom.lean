/-! KINGDOM: all that is told, and the day that comes of it -/
theorem cw_W.fr {W : TW} {G G' : SgM} (h : cw_W W G) (f : ∀ c : Int, 5 ≤ c → c ≤ 12 → ∀ i, G' c i = G c i) : cw_W W G' := by
  obtain ⟨h1, h2, h3, h4⟩ := h
  refine ⟨?_, ?_, fun q hq => ?_, fun p hp => ?_⟩
  · rw [f 5 (by omega) (by omega)]; exact h1
  · rw [f 5 (by omega) (by omega)]; exact h2
  · rw [f 6 (by omega) (by omega), f 7 (by omega) (by omega)]; exact h3 q hq
  · rw [f 9 (by omega) (by omega), f 10 (by omega) (by omega), f 11 (by omega) (by omega), f 12 (by omega) (by omega)]; exact h4 p hp
theorem cw_H.fr {W : TW} {G G' : SgM} (h : cw_H W G) (f : ∀ i, G' 8 i = G 8 i) : cw_H W G' := fun s c hs hc => by rw [f]; exact h s c hs hc
theorem cw_Y.fr {Y : TY} {G G' : SgM} (h : cw_Y Y G) (f : ∀ c : Int, 18 ≤ c → c ≤ 20 → ∀ i, G' c i = G c i) : cw_Y Y G' := fun k hk => by
  rw [f 18 (by omega) (by omega), f 19 (by omega) (by omega), f 20 (by omega) (by omega)]; exact h k hk
theorem cd_R21.fr {W : TW} {Y : TY} {h : Nat} {G G' : SgM} (r : cd_R21 W Y h G) (f : ∀ c : Int, 21 ≤ c → c ≤ 31 → ∀ i, G' c i = G c i) : cd_R21 W Y h G' := by
  unfold cd_R21 at r ⊢
  simp (disch := omega) only [f 21 (by omega) (by omega), f 26 (by omega) (by omega), f 27 (by omega) (by omega), f 28 (by omega) (by omega), f 29 (by omega) (by omega), f 30 (by omega) (by omega), f 31 (by omega) (by omega)]
  exact r
theorem cd_R32.fr {W : TW} {Y : TY} {h : Nat} {G G' : SgM} (r : cd_R32 W Y h G) (f : ∀ c : Int, 32 ≤ c → c ≤ 42 → ∀ i, G' c i = G c i) : cd_R32 W Y h G' := by
  unfold cd_R32 at r ⊢
  simp (disch := omega) only [f 32 (by omega) (by omega), f 37 (by omega) (by omega), f 38 (by omega) (by omega), f 39 (by omega) (by omega), f 40 (by omega) (by omega), f 41 (by omega) (by omega), f 42 (by omega) (by omega)]
  exact r
/-- what the Kingdom's memory holds besides the day told: texts, events, wall, weather -/
def cKa (T0 T1 : TT) (E : TE) (G : SgM) : Prop := cT1 T0 G ∧ cT3 T1 G ∧ cE13 E G
def cKw (T0 T1 : TT) (E : TE) (G : SgM) : Prop := cKa T0 T1 E G ∧ cw_W (tw_of T0 T1) G ∧ cw_H (tw_of T0 T1) G ∧ cw_Y (ty_of E (te_all E)) G
def cKf (T0 T1 : TT) (E : TE) (G : SgM) : Prop := ∀ w : Nat, w < 256 → G 43 w = -1 ∨ G 43 w = (td_fgm (tw_of T0 T1) (ty_of E w) 24 : Int)
def cK (T0 T1 : TT) (E : TE) (G : SgM) : Prop := cKw T0 T1 E G ∧ cd_R21 (tw_of T0 T1) (ty_of E (te_all E)) 24 G ∧ cKf T0 T1 E G
def cKok (T0 T1 : TT) (E : TE) : Prop := TTok 23 T0 ∧ TTok 29 T1 ∧ TEok E
theorem cKa.fr {T0 T1 : TT} {E : TE} {G G' : SgM} (h : cKa T0 T1 E G) (f : ∀ c : Int, (1 ≤ c ∧ c ≤ 4) ∨ (13 ≤ c ∧ c ≤ 16) → ∀ i, G' c i = G c i) : cKa T0 T1 E G' :=
  ⟨h.1.fr (fun c x1 x2 => f c (by omega)), h.2.1.fr (fun c x1 x2 => f c (by omega)), h.2.2.fr (fun c x1 x2 => f c (by omega))⟩
theorem cKw.fr {T0 T1 : TT} {E : TE} {G G' : SgM} (h : cKw T0 T1 E G) (f : ∀ c : Int, 1 ≤ c → c ≤ 20 → ∀ i, G' c i = G c i) : cKw T0 T1 E G' :=
  ⟨h.1.fr (fun c x => f c (by omega) (by omega)), h.2.1.fr (fun c x1 x2 => f c (by omega) (by omega)), h.2.2.1.fr (f 8 (by omega) (by omega)), h.2.2.2.fr (fun c x1 x2 => f c (by omega) (by omega))⟩
theorem cK.fr {T0 T1 : TT} {E : TE} {G G' : SgM} (h : cK T0 T1 E G) (f : ∀ c : Int, (1 ≤ c ∧ c ≤ 31) ∨ c = 43 → ∀ i, G' c i = G c i) : cK T0 T1 E G' :=
  ⟨h.1.fr (fun c x1 x2 => f c (by omega)), h.2.1.fr (fun c x1 x2 => f c (by omega)), fun w hw => by rw [f 43 (by omega)]; exact h.2.2 w hw⟩
theorem c_K_clear {d N : Nat} (hN : 44 ≤ N) {E : TE} (hE : TEok E) {G : SgM} {Q : Int → SgM → Prop} (cE : cE13 E G)
    (post : ∀ G', (∀ c : Int, c ≠ 18 → c ≠ 19 → c ≠ 20 → ∀ i, G' c i = G c i) → cw_Y (ty_of E (te_all E)) G' → Q 0 G') : sg_Wp 0 N (d + 2) m_K_clearWeather 0 [(0, 2, 0)] [] G Q :=
  g_K_clearWeather_0_0 hN (c_E_every_13 hN hE cE (c_Y_load_13 hN hE (Nat.lt_trans (te_all_lt hE) (by decide)) cE post))
theorem c_K_tell {d N : Nat} (hN : 44 ≤ N) {T0 T1 : TT} {E : TE} (ok : cKok T0 T1 E) {G : SgM} {Q : Int → SgM → Prop} (ca : cKa T0 T1 E G)
    (post : ∀ G', (∀ c : Int, (c < 5 ∨ (13 ≤ c ∧ c ≤ 17) ∨ (32 ≤ c ∧ c ≤ 42) ∨ 43 < c) → ∀ i, G' c i = G c i) → cK T0 T1 E G' → Q 0 G') : sg_Wp 0 N (d + 7) m_K_tellAnew 0 [(0, 2, 0)] [] G Q := by
  obtain ⟨h0, h1, hE⟩ := ok
  have hW := tw_of_ok h0 h1
  refine g_K_tellAnew_0_0 hN (c_W_loadPosts hN h0 h1 ca.1 (fun G1 a1 a2 a3 a4 => c_W_loadPeople hN h0 h1 (ca.2.1.fr (fun c x1 x2 i => a1 c (by omega) (by omega) (by omega) (by omega) i)) (fun G2 b1 b2 b3 =>
    c_K_clear (d := d + 4) hN hE (ca.2.2.fr (fun c x1 x2 i => by rw [b1 c (by omega) (by omega) (by omega) (by omega) (by omega), a1 c (by omega) (by omega) (by omega) (by omega)])) (fun G3 e1 e2 => c_A_fill_43 hN (fun G4 f1 f2 f3 => ?_)))))
  have cW : cw_W (tw_of T0 T1) G4 := by
    refine ⟨?_, ?_, fun q hq => ?_, fun p hp => ?_⟩
    · rw [f1 5 (by omega), e1 5 (by omega) (by omega) (by omega), b2 0 (by omega)]; exact a3.1
    · rw [f1 5 (by omega), e1 5 (by omega) (by omega) (by omega)]; exact b3.1
    · rw [f1 6 (by omega), f1 7 (by omega), e1 6 (by omega) (by omega) (by omega), e1 7 (by omega) (by omega) (by omega), b1 6 (by omega) (by omega) (by omega) (by omega) (by omega), b1 7 (by omega) (by omega) (by omega) (by omega) (by omega)]
      exact a3.2 q hq
    · rw [f1 9 (by omega), f1 10 (by omega), f1 11 (by omega), f1 12 (by omega), e1 9 (by omega) (by omega) (by omega), e1 10 (by omega) (by omega) (by omega), e1 11 (by omega) (by omega) (by omega), e1 12 (by omega) (by omega) (by omega)]
      exact b3.2 p hp
  have cH : cw_H (tw_of T0 T1) G4 := a4.fr (fun i => by rw [f1 8 (by omega), e1 8 (by omega) (by omega) (by omega), b1 8 (by omega) (by omega) (by omega) (by omega) (by omega)])
  have cY : cw_Y (ty_of E (te_all E)) G4 := e2.fr (fun c x1 x2 i => f1 c (by omega) i)
  refine c_D_pass_21 (d := d + 4) hN hW cW cH cY (fun G5 g1 g2 => ?_)
  have fr : ∀ c : Int, (c < 5 ∨ (13 ≤ c ∧ c ≤ 17) ∨ (32 ≤ c ∧ c ≤ 42) ∨ 43 < c) → ∀ i, G5 c i = G c i := fun c hc i => by
    rw [g1 c (by omega), f1 c (by omega), e1 c (by omega) (by omega) (by omega), b1 c (by omega) (by omega) (by omega) (by omega) (by omega), a1 c (by omega) (by omega) (by omega) (by omega)]
  exact post G5 fr ⟨⟨ca.fr (fun c hc => fr c (by omega)), cW.fr (fun c x1 x2 i => g1 c (by omega) i), cH.fr (fun i => g1 8 (by omega) i), cY.fr (fun c x1 x2 i => g1 c (by omega) i)⟩, g2, fun w hw => Or.inl (by rw [g1 43 (by omega)]; exact f2 w (by omega) (by omega))⟩
/-- a day with the choice w of events, and then the weather as it is -/
theorem c_K_supp {d N : Nat} (hN : 44 ≤ N) {T0 T1 : TT} {E : TE} (ok : cKok T0 T1 E) {w : Nat} (hw : w < 2147483648) {G : SgM} {Q : Int → SgM → Prop} (ck : cKw T0 T1 E G)
    (post : ∀ G', (∀ c : Int, (c < 18 ∨ (21 ≤ c ∧ c ≤ 31) ∨ 42 < c) → ∀ i, G' c i = G c i) → cKw T0 T1 E G' → cd_R32 (tw_of T0 T1) (ty_of E w) 24 G' → Q 0 G') :
    sg_Wp 0 N (d + 2) m_Y_load 0 [(0, 2, 17), (1, 2, 13), (2, 0, (w : Int))] [] G (fun _ G1 => sg_Wp 0 N (d + 2) m_D_pass 0 [(0, 2, 32)] [] G1 (fun _ G2 => sg_Wp 0 N (d + 2) m_K_clearWeather 0 [(0, 2, 0)] [] G2 (fun _ G3 => Q 0 G3))) := by
  obtain ⟨h0, h1, hE⟩ := ok
  have hW := tw_of_ok h0 h1
  obtain ⟨ca, cW, cH, cY⟩ := ck
  refine c_Y_load_13 (d := d + 1) hN hE hw ca.2.2 (fun G1 a1 a2 => c_D_pass_32 (d := d) hN hW (cW.fr (fun c x1 x2 i => a1 c (by omega) (by omega) (by omega) i)) (cH.fr (fun i => a1 8 (by omega) (by omega) (by omega) i)) a2 (fun G2 b1 b2 =>
    c_K_clear (d := d) hN hE (ca.2.2.fr (fun c x1 x2 i => by rw [b1 c (by omega), a1 c (by omega) (by omega) (by omega)])) (fun G3 e1 e2 => ?_)))
  have fr : ∀ c : Int, (c < 18 ∨ (21 ≤ c ∧ c ≤ 31) ∨ 42 < c) → ∀ i, G3 c i = G c i := fun c hc i => by
    rw [e1 c (by omega) (by omega) (by omega), b1 c (by omega), a1 c (by omega) (by omega) (by omega)]
  exact post G3 fr ⟨ca.fr (fun c hc => fr c (by omega)), cW.fr (fun c x1 x2 => fr c (by omega)), cH.fr (fr 8 (by omega)), e2⟩ (b2.fr (fun c x1 x2 i => e1 c (by omega) (by omega) (by omega) i))
theorem cKw.toK {T0 T1 : TT} {E : TE} {G G' : SgM} (h : cKw T0 T1 E G') (k : cK T0 T1 E G) (f : ∀ c : Int, (21 ≤ c ∧ c ≤ 31) ∨ c = 43 → ∀ i, G' c i = G c i) : cK T0 T1 E G' :=
  ⟨h, k.2.1.fr (fun c x1 x2 => f c (by omega)), fun w hw => by rw [f 43 (by omega)]; exact k.2.2 w hw⟩
theorem c_K_suppose {d N : Nat} (hN : 44 ≤ N) {T0 T1 : TT} {E : TE} (ok : cKok T0 T1 E) {w : Nat} (hw : w < 2147483648) {G : SgM} {Q : Int → SgM → Prop} (ck : cK T0 T1 E G)
    (post : ∀ G', (∀ c : Int, (c < 18 ∨ (21 ≤ c ∧ c ≤ 31) ∨ 42 < c) → ∀ i, G' c i = G c i) → cK T0 T1 E G' → cd_R32 (tw_of T0 T1) (ty_of E w) 24 G' → Q 0 G') :
    sg_Wp 0 N (d + 3) m_K_supposeEvents 0 [(0, 2, 0), (1, 2, 13), (2, 0, (w : Int))] [] G Q :=
  g_K_supposeEvents_0_13_0 hN (c_K_supp hN ok hw ck.1 (fun G' a b c => post G' a (b.toK ck (fun c hc => a c (by omega))) c))
theorem c_K_suppose63 {d N : Nat} (hN : 75 ≤ N) {T0 T1 : TT} {E E' : TE} (ok : cKok T0 T1 E) (hE' : TEok E') {w : Nat} (hw : w < 2147483648) {G : SgM} {Q : Int → SgM → Prop} (ck : cK T0 T1 E G) (ce : cE63 E' G)
    (post : ∀ G', (∀ c : Int, (c < 18 ∨ (21 ≤ c ∧ c ≤ 31) ∨ 42 < c) → ∀ i, G' c i = G c i) → cK T0 T1 E G' → cd_R32 (tw_of T0 T1) (ty_of E' w) 24 G' → Q 0 G') :
    sg_Wp 0 N (d + 3) m_K_supposeEvents 0 [(0, 2, 0), (1, 2, 63), (2, 0, (w : Int))] [] G Q := by
  obtain ⟨h0, h1, hE⟩ := ok
  have hW := tw_of_ok h0 h1
  have hN4 : 44 ≤ N := Nat.le_trans (by decide) hN
  obtain ⟨ca, cW, cH, cY⟩ := id ck.1
  refine g_K_supposeEvents_0_63_0 hN (c_Y_load_63 (d := d + 1) hN hE' hw ce (fun G1 a1 a2 => c_D_pass_32 (d := d) hN4 hW (cW.fr (fun c x1 x2 i => a1 c (by omega) (by omega) (by omega) i)) (cH.fr (fun i => a1 8 (by omega) (by omega) (by omega) i)) a2 (fun G2 b1 b2 =>
    c_K_clear (d := d) hN4 hE (ca.2.2.fr (fun c x1 x2 i => by rw [b1 c (by omega), a1 c (by omega) (by omega) (by omega)])) (fun G3 e1 e2 => ?_))))
  have fr : ∀ c : Int, (c < 18 ∨ (21 ≤ c ∧ c ≤ 31) ∨ 42 < c) → ∀ i, G3 c i = G c i := fun c hc i => by
    rw [e1 c (by omega) (by omega) (by omega), b1 c (by omega), a1 c (by omega) (by omega) (by omega)]
  have kw : cKw T0 T1 E G3 := ⟨ca.fr (fun c hc => fr c (by omega)), cW.fr (fun c x1 x2 => fr c (by omega)), cH.fr (fr 8 (by omega)), e2⟩
  exact post G3 fr (kw.toK ck (fun c hc => fr c (by omega))) (b2.fr (fun c x1 x2 i => e1 c (by omega) (by omega) (by omega) i))
theorem c_K_forg {d N : Nat} (hN : 44 ≤ N) {T0 T1 : TT} {E : TE} (ok : cKok T0 T1 E) {w : Nat} (hw : w < 256) {G : SgM} {Q : Int → SgM → Prop} (ck : cK T0 T1 E G)
    (post : ∀ G', (∀ c : Int, (c < 18 ∨ (21 ≤ c ∧ c ≤ 31) ∨ 43 < c) → ∀ i, G' c i = G c i) → cK T0 T1 E G' → Q (td_fgm (tw_of T0 T1) (ty_of E w) 24 : Int) G') :
    sg_Wp 0 N (d + 3) m_K_forgottenWith 0 [(0, 2, 0), (1, 0, (w : Int))] [] G Q := by
  refine g_K_forgottenWith_0_0 hN ⟨fun _ => ⟨by omega, fun q => ⟨by omega, ?_⟩, fun q => ?_⟩, fun q => absurd (by omega) q⟩
  · have := (ck.2.2 w hw).resolve_left q
    rw [this]
    exact post G (fun _ _ _ => rfl) ck
  · refine c_K_supp hN ok (by omega) ck.1 (Q := fun _ G3 => (0 ≤ (w : Int) ∧ (w : Int) < 256) ∧ (0 ≤ (w : Int) ∧ (w : Int) < 256) ∧ Q (sg_up G3 43 (w : Int) (G3 32 13) 43 (w : Int)) (sg_up G3 43 (w : Int) (G3 32 13))) (fun G3 a b r => ⟨by omega, by omega, ?_⟩)
    have e : G3 32 13 = (td_fgm (tw_of T0 T1) (ty_of E w) 24 : Int) := r.2.2.1
    rw [sg_up_at, e]
    refine post _ (fun c hc i => by rw [sg_upc (by omega)]; exact a c (by omega) i) ⟨b.fr (fun c x1 x2 i => sg_upc (by omega)), ck.2.1.fr (fun c x1 x2 i => by rw [sg_upc (by omega)]; exact a c (by omega) i), fun v hv => ?_⟩
    by_cases ev : v = w
    · subst ev
      rw [sg_up_at]
      exact Or.inr rfl
    · rw [sg_upi (by omega), a 43 (by omega)]
      exact ck.2.2 v hv
