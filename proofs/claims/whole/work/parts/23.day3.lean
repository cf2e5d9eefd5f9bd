/-! THE DAY's METHODS: stand, begin, pass -/

/-- within stand: posts below m are done -/
def cd_si21 (W : TW) (Y : TY) (h m : Nat) (G G1 : SgM) : Prop := (∀ c : Int, c ≠ 21 → c ≠ 25 → c ≠ 29 → ∀ i, G1 c i = G c i) ∧ (∀ i : Int, i ≠ 13 → i ≠ 14 → i ≠ 15 → i ≠ 16 → G1 21 i = G 21 i) ∧
  (∀ q : Nat, q < m → G1 25 q = td_std W Y q h ∧ G1 29 ((h : Int) * 8 + (q : Int)) = td_std W Y q h) ∧ (∀ q : Nat, m ≤ q → q < tw_n W → G1 25 q = td_stb W Y q h) ∧ (∀ i : Int, (i < (h : Int) * 8 ∨ (h : Int) * 8 + 8 ≤ i) → G1 29 i = G 29 i)
theorem c_D_stand_21 {d N : Nat} (hN : 44 ≤ N) {W : TW} (hW : TWok W) {Y : TY} {h : Nat} (hh : h < 24) {G : SgM} {Q : Int → SgM → Prop} (w0 : G 5 0 = (tw_n W : Int)) (h1 : ∀ q : Nat, q < tw_n W → G 25 q = td_stb W Y q h)
    (h2 : G 31 h = (td_chm W Y h : Int)) (h3 : G 21 13 = (td_fgm W Y h : Int)) (h4 : G 21 14 = (td_lg W Y h).1 ∧ G 21 15 = (td_lg W Y h).2.1 ∧ G 21 16 = (td_lg W Y h).2.2)
    (post : ∀ G', cd_si21 W Y h (tw_n W) G G' → G' 21 13 = (td_fgm W Y (h + 1) : Int) → (G' 21 14 = (td_lg W Y (h + 1)).1 ∧ G' 21 15 = (td_lg W Y (h + 1)).2.1 ∧ G' 21 16 = (td_lg W Y (h + 1)).2.2) → Q 0 G') :
    sg_Wp 0 N (d + 1) m_D_stand 0 [(0, 2, 21), (1, 0, (h : Int))] [] G Q := by
  have hn := hW.1
  have bh : (0 : Int) ≤ (h : Int) ∧ (h : Int) < 24 := by omega
  have loop : ∀ (r m : Nat), m + r = tw_n W → ∀ G1 : SgM, cd_si21 W Y h m G G1 → G1 21 13 = (sg_mk (fun q => td_fg W Y h q || (decide (q < m) && decide (12 ≤ td_std W Y q h))) (tw_n W) : Int) →
      (G1 21 14 = (td_lq W Y h (td_lg W Y h) m).1 ∧ G1 21 15 = (td_lq W Y h (td_lg W Y h) m).2.1 ∧ G1 21 16 = (td_lq W Y h (td_lg W Y h) m).2.2) → sg_Wp 0 N (d + 1) m_D_stand 2 [(0, 2, 21), (1, 0, (h : Int)), (2, 0, (m : Int))] [] G1 Q := by
    intro r
    induction r with
    | zero =>
      intro m hm G1 f1 f2 f3
      have em : m = tw_n W := by omega
      subst em
      refine g_D_stand_21_2 hN ⟨fun _ => post G1 f1 ?_ f3, fun q => absurd (by rw [f1.1 5 (by omega) (by omega) (by omega), w0]; omega) q⟩
      rw [f2]
      congr 1
      apply sg_mk_congr
      intro i hi
      unfold td_fg
      rw [List.range_succ, List.any_append]
      simp [hi]
    | succ r ih =>
      intro m hm G1 f1 f2 f3
      have hmn : m < tw_n W := by omega
      obtain ⟨k1, k2, k3, k4, k5⟩ := id f1
      have bm : (0 : Int) ≤ (m : Int) ∧ (m : Int) < 8 := by omega
      have e8 := sg_rnd8 h m hh (by omega)
      have en := sg_inc1 m (by omega)
      have b8 : 0 ≤ sg_iadd (sg_imul (h : Int) 8) (m : Int) ∧ sg_iadd (sg_imul (h : Int) 8) (m : Int) < 192 := by rw [e8]; omega
      have hs := td_std_in W Y m h
      have next : ∀ G3 : SgM, cd_si21 W Y h (m + 1) G G3 → G3 21 13 = (sg_mk (fun q => td_fg W Y h q || (decide (q < m + 1) && decide (12 ≤ td_std W Y q h))) (tw_n W) : Int) →
          (G3 21 14 = (td_lq W Y h (td_lg W Y h) (m + 1)).1 ∧ G3 21 15 = (td_lq W Y h (td_lg W Y h) (m + 1)).2.1 ∧ G3 21 16 = (td_lq W Y h (td_lg W Y h) (m + 1)).2.2) → sg_Wp 0 N (d + 1) m_D_stand 117 [(0, 2, 21), (1, 0, (h : Int)), (2, 0, (m : Int))] [] G3 Q := by
        intro G3 g1 g2 g3
        refine g_D_stand_21_117 hN ?_
        rw [en]
        exact ih (m + 1) (by omega) G3 g1 g2 g3
      have lqs : td_lq W Y h (td_lg W Y h) (m + 1) = if (td_lq W Y h (td_lg W Y h) m).1 < td_std W Y m h then (td_std W Y m h, (h : Int), (m : Int)) else td_lq W Y h (td_lg W Y h) m := rfl
      have at84 : ∀ G2 : SgM, cd_si21 W Y h (m + 1) G G2 → G2 21 13 = (sg_mk (fun q => td_fg W Y h q || (decide (q < m + 1) && decide (12 ≤ td_std W Y q h))) (tw_n W) : Int) →
          (G2 21 14 = (td_lq W Y h (td_lg W Y h) m).1 ∧ G2 21 15 = (td_lq W Y h (td_lg W Y h) m).2.1 ∧ G2 21 16 = (td_lq W Y h (td_lg W Y h) m).2.2) → sg_Wp 0 N (d + 1) m_D_stand 84 [(0, 2, 21), (1, 0, (h : Int)), (2, 0, (m : Int))] [] G2 Q := by
        intro G2 g1 g2 g3
        obtain ⟨j1, j2, j3, j4, j5⟩ := id g1
        have v := (j3 m (Nat.lt_succ_self m)).1
        refine g_D_stand_21_84 hN ⟨bm, fun q => ?_, fun q => ⟨bm, ?_⟩⟩
        · rw [v, g3.1] at q
          refine next G2 g1 g2 ?_
          rw [lqs, if_neg (by omega)]
          exact g3
        · rw [v, g3.1] at q
          rw [v]
          refine next _ ⟨fun c x1 x2 x3 i => by simp (disch := omega) only [sg_up_at, sg_upc, sg_upi]; exact j1 c x1 x2 x3 i, fun i x1 x2 x3 x4 => by simp (disch := omega) only [sg_up_at, sg_upc, sg_upi]; exact j2 i x1 x2 x3 x4, fun q' hq' => by simp (disch := omega) only [sg_up_at, sg_upc, sg_upi]; exact j3 q' hq', fun q' x1 x2 => by simp (disch := omega) only [sg_up_at, sg_upc, sg_upi]; exact j4 q' x1 x2, fun i hi => by simp (disch := omega) only [sg_up_at, sg_upc, sg_upi]; exact j5 i hi⟩ (by simp (disch := omega) only [sg_up_at, sg_upc, sg_upi]; exact g2) ?_
          rw [lqs, if_pos (by omega)]
          exact ⟨by simp (disch := omega) only [sg_up_at, sg_upc, sg_upi], by simp (disch := omega) only [sg_up_at, sg_upc, sg_upi], by simp (disch := omega) only [sg_up_at, sg_upc, sg_upi]⟩
      -- what is written first: s is how long it has stood now
      have main : ∀ s : Int, s = td_std W Y m h → ((s < 12 → sg_Wp 0 N (d + 1) m_D_stand 84 [(0, 2, 21), (1, 0, (h : Int)), (2, 0, (m : Int))] [] (sg_up (sg_up G1 25 (m : Int) s) 29 ((h : Int) * 8 + (m : Int)) s) Q) ∧
          (¬ (s < 12) → sg_Wp 0 N (d + 1) m_D_stand 84 [(0, 2, 21), (1, 0, (h : Int)), (2, 0, (m : Int))] [] (sg_up (sg_up (sg_up G1 25 (m : Int) s) 29 ((h : Int) * 8 + (m : Int)) s) 21 13 (sg_ior (G1 21 13) (sg_ishl 1 (m : Int)))) Q)) := by
        intro s es
        have J : cd_si21 W Y h (m + 1) G (sg_up (sg_up G1 25 (m : Int) s) 29 ((h : Int) * 8 + (m : Int)) s) := by
          refine ⟨fun c x1 x2 x3 i => by simp (disch := omega) only [sg_up_at, sg_upc, sg_upi]; exact k1 c x1 x2 x3 i, fun i x1 x2 x3 x4 => by simp (disch := omega) only [sg_up_at, sg_upc, sg_upi]; exact k2 i x1 x2 x3 x4, fun q' hq' => ?_, fun q' x1 x2 => by simp (disch := omega) only [sg_up_at, sg_upc, sg_upi]; exact k4 q' (by omega) x2, fun i hi => by simp (disch := omega) only [sg_up_at, sg_upc, sg_upi]; exact k5 i hi⟩
          by_cases e : q' = m
          · subst e
            exact ⟨by simp (disch := omega) only [sg_up_at, sg_upc, sg_upi]; exact es, by simp (disch := omega) only [sg_up_at, sg_upc, sg_upi]; exact es⟩
          · exact ⟨by simp (disch := omega) only [sg_up_at, sg_upc, sg_upi]; exact (k3 q' (by omega)).1, by simp (disch := omega) only [sg_up_at, sg_upc, sg_upi]; exact (k3 q' (by omega)).2⟩
        refine ⟨fun q => at84 _ J ?_ ⟨by simp (disch := omega) only [sg_up_at, sg_upc, sg_upi]; exact f3.1, by simp (disch := omega) only [sg_up_at, sg_upc, sg_upi]; exact f3.2.1, by simp (disch := omega) only [sg_up_at, sg_upc, sg_upi]; exact f3.2.2⟩, fun q => at84 _ ?_ ?_ ⟨by simp (disch := omega) only [sg_up_at, sg_upc, sg_upi]; exact f3.1, by simp (disch := omega) only [sg_up_at, sg_upc, sg_upi]; exact f3.2.1, by simp (disch := omega) only [sg_up_at, sg_upc, sg_upi]; exact f3.2.2⟩⟩
        · simp (disch := omega) only [sg_up_at, sg_upc, sg_upi]
          rw [f2]
          congr 1
          apply sg_mk_congr
          intro i hi
          by_cases e : i = m
          · subst e
            have : ¬ 12 ≤ td_std W Y i h := by omega
            simp [this]
          · have : i < m + 1 ↔ i < m := by omega
            simp [this]
        · obtain ⟨j1, j2, j3, j4, j5⟩ := J
          exact ⟨fun c x1 x2 x3 i => by rw [sg_upc x1]; exact j1 c x1 x2 x3 i, fun i x1 x2 x3 x4 => by rw [sg_upi x1]; exact j2 i x1 x2 x3 x4, fun q' hq' => by rw [sg_upc (by omega), sg_upc (by omega)]; exact j3 q' hq', fun q' x1 x2 => by rw [sg_upc (by omega)]; exact j4 q' x1 x2, fun i hi => by rw [sg_upc (by omega)]; exact j5 i hi⟩
        · rw [sg_up_at, f2, sg_mk_set (by omega) hmn]
          congr 1
          apply sg_mk_congr
          intro i hi
          by_cases e : i = m
          · subst e
            have : 12 ≤ td_std W Y i h := by omega
            simp [this]
          · have : i < m + 1 ↔ i < m := by omega
            simp [this, e]
      have who : td_ch W Y h m = true ↔ ¬ td_who W Y h m = -1 := by unfold td_ch; simp
      refine g_D_stand_21_2 hN ⟨fun q => absurd q (by rw [k1 5 (by omega) (by omega) (by omega), w0]; omega), fun _ => ⟨bh, fun q => ⟨bm, bm, b8, bm, ?_⟩, fun q => ⟨bm, bm, bm, b8, bm, ?_⟩⟩⟩
      · rw [k1 31 (by omega) (by omega) (by omega), h2] at q
        unfold td_chm at q
        rw [sg_mk_hb (by omega) (by omega), who] at q
        rw [e8]
        simp only [sg_up_at]
        exact main 0 (by rw [td_std_b, if_neg q.2])
      · rw [k1 31 (by omega) (by omega) (by omega), h2] at q
        unfold td_chm at q
        rw [sg_mk_hb (by omega) (by omega), who] at q
        have q : td_who W Y h m = -1 := Decidable.byContradiction (fun z => q ⟨hmn, z⟩)
        have b := k4 m (Nat.le_refl _) hmn
        have e : td_std W Y m h = td_stb W Y m h + 1 := by rw [td_std_b, if_pos q]
        rw [e8]
        simp only [sg_up_at]
        rw [b, sg_iadd_eq (by omega) (by omega)]
        exact main _ e.symm
  refine g_D_stand_21_0 hN (loop (tw_n W) 0 (Nat.zero_add _) G ⟨fun _ _ _ _ _ => rfl, fun _ _ _ _ _ => rfl, fun q hq => absurd hq (Nat.not_lt_zero _), fun q _ hq => h1 q hq, fun _ _ => rfl⟩ ?_ h4)
  rw [h3]
  congr 1
  apply sg_mk_congr
  intro i hi
  simp
/-- the results of hours below h -/
def cd_R21 (W : TW) (Y : TY) (h : Nat) (G : SgM) : Prop :=
  (∀ i : Nat, i < h → (∀ p : Nat, p < tw_k W → G 26 ((i : Int) * 6 + (p : Int)) = td_c W i p ∧ G 27 ((i : Int) * 6 + (p : Int)) = td_cold W Y (i + 1) p ∧ G 28 ((i : Int) * 6 + (p : Int)) = (sg_mk (fun q => decide (td_who W Y i q = (p : Int))) (tw_n W) : Int)) ∧
    (∀ q : Nat, q < tw_n W → G 29 ((i : Int) * 8 + (q : Int)) = td_std W Y q i) ∧ G 30 i = (sg_mk (td_sn W Y i) (tw_k W) : Int) ∧ G 31 i = (td_chm W Y i : Int)) ∧
  G 21 12 = td_all W Y h ∧ G 21 13 = (td_fgm W Y h : Int) ∧ G 21 14 = (td_lg W Y h).1 ∧ G 21 15 = (td_lg W Y h).2.1 ∧ G 21 16 = (td_lg W Y h).2.2
/-- all, ahead of hour h -/
def cd_I21 (W : TW) (Y : TY) (h : Nat) (G : SgM) : Prop :=
  (∀ p : Nat, p < tw_k W → G 22 p = td_c W (h - 1) p ∧ G 23 p = td_stp (td_w W (h - 1) p) ∧ G 24 p = td_cold W Y h p) ∧ (∀ q : Nat, q < tw_n W → G 25 q = td_stb W Y q h) ∧ cd_R21 W Y h G
theorem c_D_begin_21 {d N : Nat} (hN : 44 ≤ N) {W : TW} (hW : TWok W) {Y : TY} {G : SgM} {Q : Int → SgM → Prop} (cW : cw_W W G)
    (post : ∀ G', (∀ c : Int, (c < 21 ∨ 31 < c) → ∀ i, G' c i = G c i) → cd_I21 W Y 0 G' → Q 0 G') : sg_Wp 0 N (d + 1) m_D_begin 0 [(0, 2, 21)] [] G Q := by
  have hk := hW.2.1
  have hn := hW.1
  obtain ⟨w0, w4, wp, wq⟩ := cW
  have loop : ∀ (r m : Nat), m + r = tw_k W → ∀ G1 : SgM, (∀ c : Int, c ≠ 22 → c ≠ 23 → c ≠ 24 → ∀ i, G1 c i = G c i) → (∀ p : Nat, p < m → G1 22 p = tw_ce W p ∧ G1 23 p = td_stp (tw_wy W p) ∧ G1 24 p = tw_co W p) →
      sg_Wp 0 N (d + 1) m_D_begin 2 [(0, 2, 21), (1, 0, (m : Int))] [] G1 Q := by
    intro r
    induction r with
    | zero =>
      intro m hm G1 f1 f2
      refine g_D_begin_21_2 hN ⟨fun _ => ?_, fun q => absurd (by rw [f1 5 (by omega) (by omega) (by omega), w4]; omega) q⟩
      refine c_A_fill_25 hN (fun G2 g1 g2 g3 => ?_)
      refine post _ (fun c hc i => ?_) ⟨fun p hp => ?_, fun q hq => ?_, fun i hi => absurd hi (Nat.not_lt_zero _), ?_, ?_, ?_, ?_, ?_⟩
      · simp (disch := omega) only [sg_up_at, sg_upc, sg_upi]
        rw [g1 c (by omega)]
        exact f1 c (by omega) (by omega) (by omega) i
      · simp (disch := omega) only [sg_up_at, sg_upc, sg_upi]
        rw [g1 _ (by omega), g1 _ (by omega), g1 _ (by omega)]
        exact f2 p (by omega)
      · simp (disch := omega) only [sg_up_at, sg_upc, sg_upi]
        exact g2 q (by omega) (by omega)
      · simp (disch := omega) only [sg_up_at, sg_upc, sg_upi]
        rfl
      · simp (disch := omega) only [sg_up_at, sg_upc, sg_upi]
        have : td_fgm W Y 0 = 0 := sg_mk_zero.mpr (fun i _ => rfl)
        rw [this]
        rfl
      · simp (disch := omega) only [sg_up_at, sg_upc, sg_upi]
        rfl
      · simp (disch := omega) only [sg_up_at, sg_upc, sg_upi]
        rfl
      · simp (disch := omega) only [sg_up_at, sg_upc, sg_upi]
        rfl
    | succ r ih =>
      intro m hm G1 f1 f2
      have hmk : m < tw_k W := by omega
      have bm : (0 : Int) ≤ (m : Int) ∧ (m : Int) < 6 := by omega
      have en := sg_inc1 m (by omega)
      obtain ⟨-, a2, a3, a4⟩ := wq m hmk
      have hp := hW.2.2.2 m hmk
      have next : ∀ s : Int, s = td_stp (tw_wy W m) → sg_Wp 0 N (d + 1) m_D_begin 2 [(0, 2, 21), (1, 0, sg_iadd (m : Int) 1)] [] (sg_up (sg_up (sg_up G1 22 (m : Int) (G1 10 (m : Int))) 23 (m : Int) s) 24 (m : Int) (G1 12 (m : Int))) Q := by
        intro s es
        rw [f1 10 (by omega) (by omega) (by omega), f1 12 (by omega) (by omega) (by omega), a2, a4, en]
        refine ih (m + 1) (by omega) _ (fun c x1 x2 x3 i => by simp (disch := omega) only [sg_up_at, sg_upc, sg_upi]; exact f1 c x1 x2 x3 i) (fun p hpm => ?_)
        by_cases e : p = m
        · subst e
          exact ⟨by simp (disch := omega) only [sg_up_at, sg_upc, sg_upi], by simp (disch := omega) only [sg_up_at, sg_upc, sg_upi]; exact es, by simp (disch := omega) only [sg_up_at, sg_upc, sg_upi]⟩
        · simp (disch := omega) only [sg_up_at, sg_upc, sg_upi]
          exact f2 p (by omega)
      refine g_D_begin_21_2 hN ⟨fun q => absurd q (by rw [f1 5 (by omega) (by omega) (by omega), w4]; omega), fun _ => ⟨bm, bm, bm, fun q => ⟨bm, bm, bm, next _ ?_⟩, fun q => ⟨bm, bm, bm, next _ ?_⟩⟩⟩
      · rw [f1 11 (by omega) (by omega) (by omega), a3] at q
        unfold td_stp
        rw [if_neg q]
      · rw [f1 11 (by omega) (by omega) (by omega), a3] at q
        unfold td_stp
        rw [if_pos (Decidable.byContradiction q)]
  exact g_D_begin_21_0 hN (loop (tw_k W) 0 (Nat.zero_add _) G (fun _ _ _ _ _ => rfl) (fun p hp => absurd hp (Nat.not_lt_zero _)))
theorem c_D_pass_21 {d N : Nat} (hN : 44 ≤ N) {W : TW} (hW : TWok W) {Y : TY} {G : SgM} {Q : Int → SgM → Prop} (cW : cw_W W G) (cH : cw_H W G) (cY : cw_Y Y G)
    (post : ∀ G', (∀ c : Int, (c < 21 ∨ 31 < c) → ∀ i, G' c i = G c i) → cd_R21 W Y 24 G' → Q 0 G') : sg_Wp 0 N (d + 2) m_D_pass 0 [(0, 2, 21)] [] G Q := by
  have hn := hW.1
  have hk := hW.2.1
  have loop : ∀ (r h : Nat), h + r = 24 → ∀ G1 : SgM, (∀ c : Int, (c < 21 ∨ 31 < c) → ∀ i, G1 c i = G c i) → cd_I21 W Y h G1 → sg_Wp 0 N (d + 2) m_D_pass 6 [(0, 2, 21), (1, 0, (h : Int))] [] G1 Q := by
    intro r
    induction r with
    | zero =>
      intro h hr G1 f1 f2
      have eh : h = 24 := by omega
      subst eh
      exact g_D_pass_21_6 hN ⟨fun _ => post G1 f1 f2.2.2, fun q => absurd (by omega) q⟩
    | succ r ih =>
      intro h hr G1 f1 f2
      have hh : h < 24 := by omega
      obtain ⟨i1, i2, i3, t1, t2, t3⟩ := f2
      obtain ⟨w0, w4, wp, wq⟩ := id cW
      have en := sg_inc1 h (by omega)
      refine g_D_pass_21_6 hN ⟨fun q => absurd q (by omega), fun _ => ?_⟩
      refine c_D_walk_21 hN hW hh (by rw [f1 5 (by omega)]; exact w4) (fun p hp => ⟨(i1 p hp).1, (i1 p hp).2.1⟩) (fun G2 a1 a2 a3 => ?_)
      have fr2 : ∀ c : Int, (c < 21 ∨ 31 < c) → ∀ i, G2 c i = G c i := fun c hc i => (a1 c (by omega) (by omega) (by omega) i).trans (f1 c hc i)
      refine c_D_sneeze_21 hN hW (Y := Y) hh (by rw [fr2 5 (by omega)]; exact w4) (fun j hj => by rw [fr2 18 (by omega), fr2 19 (by omega), fr2 20 (by omega)]; exact cY j hj) (fun p hp => ⟨(a2 p hp).1, by rw [a1 24 (by omega) (by omega) (by omega)]; exact (i1 p hp).2.2⟩) ?_
      refine c_D_changeGuard_21 hN hW (Y := Y) hh ?_ ?_ (fun p hp => by simp (disch := omega) only [sg_up_at, sg_upc, sg_upi]; exact (a2 p hp).1) (by simp (disch := omega) only [sg_up_at, sg_upc, sg_upi]) (by simp (disch := omega) only [sg_up_at, sg_upc, sg_upi]; rw [a1 21 (by omega) (by omega) (by omega)]; exact t1) (fun G4 b1 b2 b3 b4 b5 b6 b7 => ?_)
      · refine ⟨by simp (disch := omega) only [sg_up_at, sg_upc, sg_upi]; rw [fr2 5 (by omega)]; exact w0, by simp (disch := omega) only [sg_up_at, sg_upc, sg_upi]; rw [fr2 5 (by omega)]; exact w4, fun q hq => by simp (disch := omega) only [sg_up_at, sg_upc, sg_upi]; rw [fr2 6 (by omega), fr2 7 (by omega)]; exact wp q hq, fun p hp => by simp (disch := omega) only [sg_up_at, sg_upc, sg_upi]; rw [fr2 9 (by omega), fr2 10 (by omega), fr2 11 (by omega), fr2 12 (by omega)]; exact wq p hp⟩
      · intro s c hs hc
        simp (disch := omega) only [sg_up_at, sg_upc, sg_upi]
        rw [fr2 8 (by omega)]
        exact cH s c hs hc
      have fr4 : ∀ c : Int, (c < 21 ∨ 31 < c) → ∀ i, G4 c i = G c i := fun c hc i => by rw [b1 c (by omega) (by omega) (by omega), sg_upc (by omega)]; exact fr2 c hc i
      refine c_D_stand_21 hN hW (Y := Y) hh (by rw [fr4 5 (by omega)]; exact w0) (fun q hq => ?_) b5 (by rw [b2 13 (by omega), sg_upc (by omega), a1 21 (by omega) (by omega) (by omega)]; exact t2) (by rw [b2 14 (by omega), b2 15 (by omega), b2 16 (by omega), sg_upc (by omega), sg_upc (by omega), sg_upc (by omega), a1 21 (by omega) (by omega) (by omega), a1 21 (by omega) (by omega) (by omega), a1 21 (by omega) (by omega) (by omega)]; exact t3) (fun G5 c1 c2 c3 => ?_)
      · rw [b1 25 (by omega) (by omega) (by omega), sg_upc (by omega), a1 25 (by omega) (by omega) (by omega)]
        exact i2 q hq
      obtain ⟨k1, k2, k3, k4, k5⟩ := c1
      have fr5 : ∀ c : Int, (c < 21 ∨ 31 < c) → ∀ i, G5 c i = G c i := fun c hc i => (k1 c (by omega) (by omega) (by omega) i).trans (fr4 c hc i)
      have now1 : ∀ p : Nat, p < tw_k W → G5 22 p = td_c W h p ∧ G5 23 p = td_stp (td_w W h p) ∧ G5 24 p = td_cold W Y h p := fun p hp => by
        rw [k1 22 (by omega) (by omega) (by omega), k1 23 (by omega) (by omega) (by omega), k1 24 (by omega) (by omega) (by omega), b1 22 (by omega) (by omega) (by omega), b1 23 (by omega) (by omega) (by omega), b1 24 (by omega) (by omega) (by omega), sg_upc (by omega), sg_upc (by omega), sg_upc (by omega), a1 24 (by omega) (by omega) (by omega)]
        exact ⟨(a2 p hp).1, (a2 p hp).2.1, (i1 p hp).2.2⟩
      have sn5 : ∀ i : Int, G5 30 i = (sg_up G2 30 (h : Int) (sg_mk (td_sn W Y h) (tw_k W) : Int)) 30 i := fun i => by
        rw [k1 30 (by omega) (by omega) (by omega), b1 30 (by omega) (by omega) (by omega)]
      refine c_D_spreadColds_21 hN hW (Y := Y) hh (by rw [fr5 5 (by omega)]; exact w4) (fun p hp => ⟨(now1 p hp).1, (now1 p hp).2.2⟩) (by rw [sn5, sg_up_at]) (fun G6 d1 d2 d3 => ?_)
      rw [en]
      refine ih (h + 1) (by omega) G6 (fun c hc i => (d1 c (by omega) (by omega) i).trans (fr5 c hc i)) ⟨fun p hp => ?_, fun q hq => ?_, fun j hj => ?_, ?_, ?_, ?_⟩
      · rw [d1 22 (by omega) (by omega), d1 23 (by omega) (by omega)]
        exact ⟨(now1 p hp).1, (now1 p hp).2.1, (d2 p hp).1⟩
      · rw [d1 25 (by omega) (by omega)]
        exact (k3 q hq).1
      · by_cases e : j = h
        · subst e
          refine ⟨fun p hp => ⟨?_, (d2 p hp).2, ?_⟩, fun q hq => ?_, ?_, ?_⟩
          · rw [d1 26 (by omega) (by omega), k1 26 (by omega) (by omega) (by omega), b1 26 (by omega) (by omega) (by omega), sg_upc (by omega)]
            exact (a2 p hp).2.2
          · rw [d1 28 (by omega) (by omega), k1 28 (by omega) (by omega) (by omega)]
            exact b6 p hp
          · rw [d1 29 (by omega) (by omega)]
            exact (k3 q hq).2
          · rw [d1 30 (by omega) (by omega), sn5, sg_up_at]
          · rw [d1 31 (by omega) (by omega), k1 31 (by omega) (by omega) (by omega)]
            exact b5
        · obtain ⟨r1, r2, r3, r4⟩ := i3 j (by omega)
          refine ⟨fun p hp => ⟨?_, ?_, ?_⟩, fun q hq => ?_, ?_, ?_⟩
          · rw [d1 26 (by omega) (by omega), k1 26 (by omega) (by omega) (by omega), b1 26 (by omega) (by omega) (by omega), sg_upc (by omega), a3 _ (by omega)]
            exact (r1 p hp).1
          · rw [d3 _ (by omega), k1 27 (by omega) (by omega) (by omega), b1 27 (by omega) (by omega) (by omega), sg_upc (by omega), a1 27 (by omega) (by omega) (by omega)]
            exact (r1 p hp).2.1
          · rw [d1 28 (by omega) (by omega), k1 28 (by omega) (by omega) (by omega), b7 _ (by omega), sg_upc (by omega), a1 28 (by omega) (by omega) (by omega)]
            exact (r1 p hp).2.2
          · rw [d1 29 (by omega) (by omega), k5 _ (by omega), b1 29 (by omega) (by omega) (by omega), sg_upc (by omega), a1 29 (by omega) (by omega) (by omega)]
            exact r2 q hq
          · rw [d1 30 (by omega) (by omega), sn5, sg_upi (by omega), a1 30 (by omega) (by omega) (by omega)]
            exact r3
          · rw [d1 31 (by omega) (by omega), k1 31 (by omega) (by omega) (by omega), b4 _ (by omega), sg_upc (by omega), a1 31 (by omega) (by omega) (by omega)]
            exact r4
      · rw [d1 21 (by omega) (by omega), k2 12 (by omega) (by omega) (by omega) (by omega)]
        exact b3
      · rw [d1 21 (by omega) (by omega)]
        exact c2
      · rw [d1 21 (by omega) (by omega), d1 21 (by omega) (by omega), d1 21 (by omega) (by omega)]
        exact c3
  exact g_D_pass_21_0 hN (c_D_begin_21 hN hW cW (fun G1 f1 f2 => loop 24 0 rfl G1 f1 f2))

/-- within stand: posts below m are done -/
def cd_si32 (W : TW) (Y : TY) (h m : Nat) (G G1 : SgM) : Prop := (∀ c : Int, c ≠ 32 → c ≠ 36 → c ≠ 40 → ∀ i, G1 c i = G c i) ∧ (∀ i : Int, i ≠ 13 → i ≠ 14 → i ≠ 15 → i ≠ 16 → G1 32 i = G 32 i) ∧
  (∀ q : Nat, q < m → G1 36 q = td_std W Y q h ∧ G1 40 ((h : Int) * 8 + (q : Int)) = td_std W Y q h) ∧ (∀ q : Nat, m ≤ q → q < tw_n W → G1 36 q = td_stb W Y q h) ∧ (∀ i : Int, (i < (h : Int) * 8 ∨ (h : Int) * 8 + 8 ≤ i) → G1 40 i = G 40 i)
theorem c_D_stand_32 {d N : Nat} (hN : 44 ≤ N) {W : TW} (hW : TWok W) {Y : TY} {h : Nat} (hh : h < 24) {G : SgM} {Q : Int → SgM → Prop} (w0 : G 5 0 = (tw_n W : Int)) (h1 : ∀ q : Nat, q < tw_n W → G 36 q = td_stb W Y q h)
    (h2 : G 42 h = (td_chm W Y h : Int)) (h3 : G 32 13 = (td_fgm W Y h : Int)) (h4 : G 32 14 = (td_lg W Y h).1 ∧ G 32 15 = (td_lg W Y h).2.1 ∧ G 32 16 = (td_lg W Y h).2.2)
    (post : ∀ G', cd_si32 W Y h (tw_n W) G G' → G' 32 13 = (td_fgm W Y (h + 1) : Int) → (G' 32 14 = (td_lg W Y (h + 1)).1 ∧ G' 32 15 = (td_lg W Y (h + 1)).2.1 ∧ G' 32 16 = (td_lg W Y (h + 1)).2.2) → Q 0 G') :
    sg_Wp 0 N (d + 1) m_D_stand 0 [(0, 2, 32), (1, 0, (h : Int))] [] G Q := by
  have hn := hW.1
  have bh : (0 : Int) ≤ (h : Int) ∧ (h : Int) < 24 := by omega
  have loop : ∀ (r m : Nat), m + r = tw_n W → ∀ G1 : SgM, cd_si32 W Y h m G G1 → G1 32 13 = (sg_mk (fun q => td_fg W Y h q || (decide (q < m) && decide (12 ≤ td_std W Y q h))) (tw_n W) : Int) →
      (G1 32 14 = (td_lq W Y h (td_lg W Y h) m).1 ∧ G1 32 15 = (td_lq W Y h (td_lg W Y h) m).2.1 ∧ G1 32 16 = (td_lq W Y h (td_lg W Y h) m).2.2) → sg_Wp 0 N (d + 1) m_D_stand 2 [(0, 2, 32), (1, 0, (h : Int)), (2, 0, (m : Int))] [] G1 Q := by
    intro r
    induction r with
    | zero =>
      intro m hm G1 f1 f2 f3
      have em : m = tw_n W := by omega
      subst em
      refine g_D_stand_32_2 hN ⟨fun _ => post G1 f1 ?_ f3, fun q => absurd (by rw [f1.1 5 (by omega) (by omega) (by omega), w0]; omega) q⟩
      rw [f2]
      congr 1
      apply sg_mk_congr
      intro i hi
      unfold td_fg
      rw [List.range_succ, List.any_append]
      simp [hi]
    | succ r ih =>
      intro m hm G1 f1 f2 f3
      have hmn : m < tw_n W := by omega
      obtain ⟨k1, k2, k3, k4, k5⟩ := id f1
      have bm : (0 : Int) ≤ (m : Int) ∧ (m : Int) < 8 := by omega
      have e8 := sg_rnd8 h m hh (by omega)
      have en := sg_inc1 m (by omega)
      have b8 : 0 ≤ sg_iadd (sg_imul (h : Int) 8) (m : Int) ∧ sg_iadd (sg_imul (h : Int) 8) (m : Int) < 192 := by rw [e8]; omega
      have hs := td_std_in W Y m h
      have next : ∀ G3 : SgM, cd_si32 W Y h (m + 1) G G3 → G3 32 13 = (sg_mk (fun q => td_fg W Y h q || (decide (q < m + 1) && decide (12 ≤ td_std W Y q h))) (tw_n W) : Int) →
          (G3 32 14 = (td_lq W Y h (td_lg W Y h) (m + 1)).1 ∧ G3 32 15 = (td_lq W Y h (td_lg W Y h) (m + 1)).2.1 ∧ G3 32 16 = (td_lq W Y h (td_lg W Y h) (m + 1)).2.2) → sg_Wp 0 N (d + 1) m_D_stand 117 [(0, 2, 32), (1, 0, (h : Int)), (2, 0, (m : Int))] [] G3 Q := by
        intro G3 g1 g2 g3
        refine g_D_stand_32_117 hN ?_
        rw [en]
        exact ih (m + 1) (by omega) G3 g1 g2 g3
      have lqs : td_lq W Y h (td_lg W Y h) (m + 1) = if (td_lq W Y h (td_lg W Y h) m).1 < td_std W Y m h then (td_std W Y m h, (h : Int), (m : Int)) else td_lq W Y h (td_lg W Y h) m := rfl
      have at84 : ∀ G2 : SgM, cd_si32 W Y h (m + 1) G G2 → G2 32 13 = (sg_mk (fun q => td_fg W Y h q || (decide (q < m + 1) && decide (12 ≤ td_std W Y q h))) (tw_n W) : Int) →
          (G2 32 14 = (td_lq W Y h (td_lg W Y h) m).1 ∧ G2 32 15 = (td_lq W Y h (td_lg W Y h) m).2.1 ∧ G2 32 16 = (td_lq W Y h (td_lg W Y h) m).2.2) → sg_Wp 0 N (d + 1) m_D_stand 84 [(0, 2, 32), (1, 0, (h : Int)), (2, 0, (m : Int))] [] G2 Q := by
        intro G2 g1 g2 g3
        obtain ⟨j1, j2, j3, j4, j5⟩ := id g1
        have v := (j3 m (Nat.lt_succ_self m)).1
        refine g_D_stand_32_84 hN ⟨bm, fun q => ?_, fun q => ⟨bm, ?_⟩⟩
        · rw [v, g3.1] at q
          refine next G2 g1 g2 ?_
          rw [lqs, if_neg (by omega)]
          exact g3
        · rw [v, g3.1] at q
          rw [v]
          refine next _ ⟨fun c x1 x2 x3 i => by simp (disch := omega) only [sg_up_at, sg_upc, sg_upi]; exact j1 c x1 x2 x3 i, fun i x1 x2 x3 x4 => by simp (disch := omega) only [sg_up_at, sg_upc, sg_upi]; exact j2 i x1 x2 x3 x4, fun q' hq' => by simp (disch := omega) only [sg_up_at, sg_upc, sg_upi]; exact j3 q' hq', fun q' x1 x2 => by simp (disch := omega) only [sg_up_at, sg_upc, sg_upi]; exact j4 q' x1 x2, fun i hi => by simp (disch := omega) only [sg_up_at, sg_upc, sg_upi]; exact j5 i hi⟩ (by simp (disch := omega) only [sg_up_at, sg_upc, sg_upi]; exact g2) ?_
          rw [lqs, if_pos (by omega)]
          exact ⟨by simp (disch := omega) only [sg_up_at, sg_upc, sg_upi], by simp (disch := omega) only [sg_up_at, sg_upc, sg_upi], by simp (disch := omega) only [sg_up_at, sg_upc, sg_upi]⟩
      -- what is written first: s is how long it has stood now
      have main : ∀ s : Int, s = td_std W Y m h → ((s < 12 → sg_Wp 0 N (d + 1) m_D_stand 84 [(0, 2, 32), (1, 0, (h : Int)), (2, 0, (m : Int))] [] (sg_up (sg_up G1 36 (m : Int) s) 40 ((h : Int) * 8 + (m : Int)) s) Q) ∧
          (¬ (s < 12) → sg_Wp 0 N (d + 1) m_D_stand 84 [(0, 2, 32), (1, 0, (h : Int)), (2, 0, (m : Int))] [] (sg_up (sg_up (sg_up G1 36 (m : Int) s) 40 ((h : Int) * 8 + (m : Int)) s) 32 13 (sg_ior (G1 32 13) (sg_ishl 1 (m : Int)))) Q)) := by
        intro s es
        have J : cd_si32 W Y h (m + 1) G (sg_up (sg_up G1 36 (m : Int) s) 40 ((h : Int) * 8 + (m : Int)) s) := by
          refine ⟨fun c x1 x2 x3 i => by simp (disch := omega) only [sg_up_at, sg_upc, sg_upi]; exact k1 c x1 x2 x3 i, fun i x1 x2 x3 x4 => by simp (disch := omega) only [sg_up_at, sg_upc, sg_upi]; exact k2 i x1 x2 x3 x4, fun q' hq' => ?_, fun q' x1 x2 => by simp (disch := omega) only [sg_up_at, sg_upc, sg_upi]; exact k4 q' (by omega) x2, fun i hi => by simp (disch := omega) only [sg_up_at, sg_upc, sg_upi]; exact k5 i hi⟩
          by_cases e : q' = m
          · subst e
            exact ⟨by simp (disch := omega) only [sg_up_at, sg_upc, sg_upi]; exact es, by simp (disch := omega) only [sg_up_at, sg_upc, sg_upi]; exact es⟩
          · exact ⟨by simp (disch := omega) only [sg_up_at, sg_upc, sg_upi]; exact (k3 q' (by omega)).1, by simp (disch := omega) only [sg_up_at, sg_upc, sg_upi]; exact (k3 q' (by omega)).2⟩
        refine ⟨fun q => at84 _ J ?_ ⟨by simp (disch := omega) only [sg_up_at, sg_upc, sg_upi]; exact f3.1, by simp (disch := omega) only [sg_up_at, sg_upc, sg_upi]; exact f3.2.1, by simp (disch := omega) only [sg_up_at, sg_upc, sg_upi]; exact f3.2.2⟩, fun q => at84 _ ?_ ?_ ⟨by simp (disch := omega) only [sg_up_at, sg_upc, sg_upi]; exact f3.1, by simp (disch := omega) only [sg_up_at, sg_upc, sg_upi]; exact f3.2.1, by simp (disch := omega) only [sg_up_at, sg_upc, sg_upi]; exact f3.2.2⟩⟩
        · simp (disch := omega) only [sg_up_at, sg_upc, sg_upi]
          rw [f2]
          congr 1
          apply sg_mk_congr
          intro i hi
          by_cases e : i = m
          · subst e
            have : ¬ 12 ≤ td_std W Y i h := by omega
            simp [this]
          · have : i < m + 1 ↔ i < m := by omega
            simp [this]
        · obtain ⟨j1, j2, j3, j4, j5⟩ := J
          exact ⟨fun c x1 x2 x3 i => by rw [sg_upc x1]; exact j1 c x1 x2 x3 i, fun i x1 x2 x3 x4 => by rw [sg_upi x1]; exact j2 i x1 x2 x3 x4, fun q' hq' => by rw [sg_upc (by omega), sg_upc (by omega)]; exact j3 q' hq', fun q' x1 x2 => by rw [sg_upc (by omega)]; exact j4 q' x1 x2, fun i hi => by rw [sg_upc (by omega)]; exact j5 i hi⟩
        · rw [sg_up_at, f2, sg_mk_set (by omega) hmn]
          congr 1
          apply sg_mk_congr
          intro i hi
          by_cases e : i = m
          · subst e
            have : 12 ≤ td_std W Y i h := by omega
            simp [this]
          · have : i < m + 1 ↔ i < m := by omega
            simp [this, e]
      have who : td_ch W Y h m = true ↔ ¬ td_who W Y h m = -1 := by unfold td_ch; simp
      refine g_D_stand_32_2 hN ⟨fun q => absurd q (by rw [k1 5 (by omega) (by omega) (by omega), w0]; omega), fun _ => ⟨bh, fun q => ⟨bm, bm, b8, bm, ?_⟩, fun q => ⟨bm, bm, bm, b8, bm, ?_⟩⟩⟩
      · rw [k1 42 (by omega) (by omega) (by omega), h2] at q
        unfold td_chm at q
        rw [sg_mk_hb (by omega) (by omega), who] at q
        rw [e8]
        simp only [sg_up_at]
        exact main 0 (by rw [td_std_b, if_neg q.2])
      · rw [k1 42 (by omega) (by omega) (by omega), h2] at q
        unfold td_chm at q
        rw [sg_mk_hb (by omega) (by omega), who] at q
        have q : td_who W Y h m = -1 := Decidable.byContradiction (fun z => q ⟨hmn, z⟩)
        have b := k4 m (Nat.le_refl _) hmn
        have e : td_std W Y m h = td_stb W Y m h + 1 := by rw [td_std_b, if_pos q]
        rw [e8]
        simp only [sg_up_at]
        rw [b, sg_iadd_eq (by omega) (by omega)]
        exact main _ e.symm
  refine g_D_stand_32_0 hN (loop (tw_n W) 0 (Nat.zero_add _) G ⟨fun _ _ _ _ _ => rfl, fun _ _ _ _ _ => rfl, fun q hq => absurd hq (Nat.not_lt_zero _), fun q _ hq => h1 q hq, fun _ _ => rfl⟩ ?_ h4)
  rw [h3]
  congr 1
  apply sg_mk_congr
  intro i hi
  simp
/-- the results of hours below h -/
def cd_R32 (W : TW) (Y : TY) (h : Nat) (G : SgM) : Prop :=
  (∀ i : Nat, i < h → (∀ p : Nat, p < tw_k W → G 37 ((i : Int) * 6 + (p : Int)) = td_c W i p ∧ G 38 ((i : Int) * 6 + (p : Int)) = td_cold W Y (i + 1) p ∧ G 39 ((i : Int) * 6 + (p : Int)) = (sg_mk (fun q => decide (td_who W Y i q = (p : Int))) (tw_n W) : Int)) ∧
    (∀ q : Nat, q < tw_n W → G 40 ((i : Int) * 8 + (q : Int)) = td_std W Y q i) ∧ G 41 i = (sg_mk (td_sn W Y i) (tw_k W) : Int) ∧ G 42 i = (td_chm W Y i : Int)) ∧
  G 32 12 = td_all W Y h ∧ G 32 13 = (td_fgm W Y h : Int) ∧ G 32 14 = (td_lg W Y h).1 ∧ G 32 15 = (td_lg W Y h).2.1 ∧ G 32 16 = (td_lg W Y h).2.2
/-- all, ahead of hour h -/
def cd_I32 (W : TW) (Y : TY) (h : Nat) (G : SgM) : Prop :=
  (∀ p : Nat, p < tw_k W → G 33 p = td_c W (h - 1) p ∧ G 34 p = td_stp (td_w W (h - 1) p) ∧ G 35 p = td_cold W Y h p) ∧ (∀ q : Nat, q < tw_n W → G 36 q = td_stb W Y q h) ∧ cd_R32 W Y h G
theorem c_D_begin_32 {d N : Nat} (hN : 44 ≤ N) {W : TW} (hW : TWok W) {Y : TY} {G : SgM} {Q : Int → SgM → Prop} (cW : cw_W W G)
    (post : ∀ G', (∀ c : Int, (c < 32 ∨ 42 < c) → ∀ i, G' c i = G c i) → cd_I32 W Y 0 G' → Q 0 G') : sg_Wp 0 N (d + 1) m_D_begin 0 [(0, 2, 32)] [] G Q := by
  have hk := hW.2.1
  have hn := hW.1
  obtain ⟨w0, w4, wp, wq⟩ := cW
  have loop : ∀ (r m : Nat), m + r = tw_k W → ∀ G1 : SgM, (∀ c : Int, c ≠ 33 → c ≠ 34 → c ≠ 35 → ∀ i, G1 c i = G c i) → (∀ p : Nat, p < m → G1 33 p = tw_ce W p ∧ G1 34 p = td_stp (tw_wy W p) ∧ G1 35 p = tw_co W p) →
      sg_Wp 0 N (d + 1) m_D_begin 2 [(0, 2, 32), (1, 0, (m : Int))] [] G1 Q := by
    intro r
    induction r with
    | zero =>
      intro m hm G1 f1 f2
      refine g_D_begin_32_2 hN ⟨fun _ => ?_, fun q => absurd (by rw [f1 5 (by omega) (by omega) (by omega), w4]; omega) q⟩
      refine c_A_fill_36 hN (fun G2 g1 g2 g3 => ?_)
      refine post _ (fun c hc i => ?_) ⟨fun p hp => ?_, fun q hq => ?_, fun i hi => absurd hi (Nat.not_lt_zero _), ?_, ?_, ?_, ?_, ?_⟩
      · simp (disch := omega) only [sg_up_at, sg_upc, sg_upi]
        rw [g1 c (by omega)]
        exact f1 c (by omega) (by omega) (by omega) i
      · simp (disch := omega) only [sg_up_at, sg_upc, sg_upi]
        rw [g1 _ (by omega), g1 _ (by omega), g1 _ (by omega)]
        exact f2 p (by omega)
      · simp (disch := omega) only [sg_up_at, sg_upc, sg_upi]
        exact g2 q (by omega) (by omega)
      · simp (disch := omega) only [sg_up_at, sg_upc, sg_upi]
        rfl
      · simp (disch := omega) only [sg_up_at, sg_upc, sg_upi]
        have : td_fgm W Y 0 = 0 := sg_mk_zero.mpr (fun i _ => rfl)
        rw [this]
        rfl
      · simp (disch := omega) only [sg_up_at, sg_upc, sg_upi]
        rfl
      · simp (disch := omega) only [sg_up_at, sg_upc, sg_upi]
        rfl
      · simp (disch := omega) only [sg_up_at, sg_upc, sg_upi]
        rfl
    | succ r ih =>
      intro m hm G1 f1 f2
      have hmk : m < tw_k W := by omega
      have bm : (0 : Int) ≤ (m : Int) ∧ (m : Int) < 6 := by omega
      have en := sg_inc1 m (by omega)
      obtain ⟨-, a2, a3, a4⟩ := wq m hmk
      have hp := hW.2.2.2 m hmk
      have next : ∀ s : Int, s = td_stp (tw_wy W m) → sg_Wp 0 N (d + 1) m_D_begin 2 [(0, 2, 32), (1, 0, sg_iadd (m : Int) 1)] [] (sg_up (sg_up (sg_up G1 33 (m : Int) (G1 10 (m : Int))) 34 (m : Int) s) 35 (m : Int) (G1 12 (m : Int))) Q := by
        intro s es
        rw [f1 10 (by omega) (by omega) (by omega), f1 12 (by omega) (by omega) (by omega), a2, a4, en]
        refine ih (m + 1) (by omega) _ (fun c x1 x2 x3 i => by simp (disch := omega) only [sg_up_at, sg_upc, sg_upi]; exact f1 c x1 x2 x3 i) (fun p hpm => ?_)
        by_cases e : p = m
        · subst e
          exact ⟨by simp (disch := omega) only [sg_up_at, sg_upc, sg_upi], by simp (disch := omega) only [sg_up_at, sg_upc, sg_upi]; exact es, by simp (disch := omega) only [sg_up_at, sg_upc, sg_upi]⟩
        · simp (disch := omega) only [sg_up_at, sg_upc, sg_upi]
          exact f2 p (by omega)
      refine g_D_begin_32_2 hN ⟨fun q => absurd q (by rw [f1 5 (by omega) (by omega) (by omega), w4]; omega), fun _ => ⟨bm, bm, bm, fun q => ⟨bm, bm, bm, next _ ?_⟩, fun q => ⟨bm, bm, bm, next _ ?_⟩⟩⟩
      · rw [f1 11 (by omega) (by omega) (by omega), a3] at q
        unfold td_stp
        rw [if_neg q]
      · rw [f1 11 (by omega) (by omega) (by omega), a3] at q
        unfold td_stp
        rw [if_pos (Decidable.byContradiction q)]
  exact g_D_begin_32_0 hN (loop (tw_k W) 0 (Nat.zero_add _) G (fun _ _ _ _ _ => rfl) (fun p hp => absurd hp (Nat.not_lt_zero _)))
theorem c_D_pass_32 {d N : Nat} (hN : 44 ≤ N) {W : TW} (hW : TWok W) {Y : TY} {G : SgM} {Q : Int → SgM → Prop} (cW : cw_W W G) (cH : cw_H W G) (cY : cw_Y Y G)
    (post : ∀ G', (∀ c : Int, (c < 32 ∨ 42 < c) → ∀ i, G' c i = G c i) → cd_R32 W Y 24 G' → Q 0 G') : sg_Wp 0 N (d + 2) m_D_pass 0 [(0, 2, 32)] [] G Q := by
  have hn := hW.1
  have hk := hW.2.1
  have loop : ∀ (r h : Nat), h + r = 24 → ∀ G1 : SgM, (∀ c : Int, (c < 32 ∨ 42 < c) → ∀ i, G1 c i = G c i) → cd_I32 W Y h G1 → sg_Wp 0 N (d + 2) m_D_pass 6 [(0, 2, 32), (1, 0, (h : Int))] [] G1 Q := by
    intro r
    induction r with
    | zero =>
      intro h hr G1 f1 f2
      have eh : h = 24 := by omega
      subst eh
      exact g_D_pass_32_6 hN ⟨fun _ => post G1 f1 f2.2.2, fun q => absurd (by omega) q⟩
    | succ r ih =>
      intro h hr G1 f1 f2
      have hh : h < 24 := by omega
      obtain ⟨i1, i2, i3, t1, t2, t3⟩ := f2
      obtain ⟨w0, w4, wp, wq⟩ := id cW
      have en := sg_inc1 h (by omega)
      refine g_D_pass_32_6 hN ⟨fun q => absurd q (by omega), fun _ => ?_⟩
      refine c_D_walk_32 hN hW hh (by rw [f1 5 (by omega)]; exact w4) (fun p hp => ⟨(i1 p hp).1, (i1 p hp).2.1⟩) (fun G2 a1 a2 a3 => ?_)
      have fr2 : ∀ c : Int, (c < 32 ∨ 42 < c) → ∀ i, G2 c i = G c i := fun c hc i => (a1 c (by omega) (by omega) (by omega) i).trans (f1 c hc i)
      refine c_D_sneeze_32 hN hW (Y := Y) hh (by rw [fr2 5 (by omega)]; exact w4) (fun j hj => by rw [fr2 18 (by omega), fr2 19 (by omega), fr2 20 (by omega)]; exact cY j hj) (fun p hp => ⟨(a2 p hp).1, by rw [a1 35 (by omega) (by omega) (by omega)]; exact (i1 p hp).2.2⟩) ?_
      refine c_D_changeGuard_32 hN hW (Y := Y) hh ?_ ?_ (fun p hp => by simp (disch := omega) only [sg_up_at, sg_upc, sg_upi]; exact (a2 p hp).1) (by simp (disch := omega) only [sg_up_at, sg_upc, sg_upi]) (by simp (disch := omega) only [sg_up_at, sg_upc, sg_upi]; rw [a1 32 (by omega) (by omega) (by omega)]; exact t1) (fun G4 b1 b2 b3 b4 b5 b6 b7 => ?_)
      · refine ⟨by simp (disch := omega) only [sg_up_at, sg_upc, sg_upi]; rw [fr2 5 (by omega)]; exact w0, by simp (disch := omega) only [sg_up_at, sg_upc, sg_upi]; rw [fr2 5 (by omega)]; exact w4, fun q hq => by simp (disch := omega) only [sg_up_at, sg_upc, sg_upi]; rw [fr2 6 (by omega), fr2 7 (by omega)]; exact wp q hq, fun p hp => by simp (disch := omega) only [sg_up_at, sg_upc, sg_upi]; rw [fr2 9 (by omega), fr2 10 (by omega), fr2 11 (by omega), fr2 12 (by omega)]; exact wq p hp⟩
      · intro s c hs hc
        simp (disch := omega) only [sg_up_at, sg_upc, sg_upi]
        rw [fr2 8 (by omega)]
        exact cH s c hs hc
      have fr4 : ∀ c : Int, (c < 32 ∨ 42 < c) → ∀ i, G4 c i = G c i := fun c hc i => by rw [b1 c (by omega) (by omega) (by omega), sg_upc (by omega)]; exact fr2 c hc i
      refine c_D_stand_32 hN hW (Y := Y) hh (by rw [fr4 5 (by omega)]; exact w0) (fun q hq => ?_) b5 (by rw [b2 13 (by omega), sg_upc (by omega), a1 32 (by omega) (by omega) (by omega)]; exact t2) (by rw [b2 14 (by omega), b2 15 (by omega), b2 16 (by omega), sg_upc (by omega), sg_upc (by omega), sg_upc (by omega), a1 32 (by omega) (by omega) (by omega), a1 32 (by omega) (by omega) (by omega), a1 32 (by omega) (by omega) (by omega)]; exact t3) (fun G5 c1 c2 c3 => ?_)
      · rw [b1 36 (by omega) (by omega) (by omega), sg_upc (by omega), a1 36 (by omega) (by omega) (by omega)]
        exact i2 q hq
      obtain ⟨k1, k2, k3, k4, k5⟩ := c1
      have fr5 : ∀ c : Int, (c < 32 ∨ 42 < c) → ∀ i, G5 c i = G c i := fun c hc i => (k1 c (by omega) (by omega) (by omega) i).trans (fr4 c hc i)
      have now1 : ∀ p : Nat, p < tw_k W → G5 33 p = td_c W h p ∧ G5 34 p = td_stp (td_w W h p) ∧ G5 35 p = td_cold W Y h p := fun p hp => by
        rw [k1 33 (by omega) (by omega) (by omega), k1 34 (by omega) (by omega) (by omega), k1 35 (by omega) (by omega) (by omega), b1 33 (by omega) (by omega) (by omega), b1 34 (by omega) (by omega) (by omega), b1 35 (by omega) (by omega) (by omega), sg_upc (by omega), sg_upc (by omega), sg_upc (by omega), a1 35 (by omega) (by omega) (by omega)]
        exact ⟨(a2 p hp).1, (a2 p hp).2.1, (i1 p hp).2.2⟩
      have sn5 : ∀ i : Int, G5 41 i = (sg_up G2 41 (h : Int) (sg_mk (td_sn W Y h) (tw_k W) : Int)) 41 i := fun i => by
        rw [k1 41 (by omega) (by omega) (by omega), b1 41 (by omega) (by omega) (by omega)]
      refine c_D_spreadColds_32 hN hW (Y := Y) hh (by rw [fr5 5 (by omega)]; exact w4) (fun p hp => ⟨(now1 p hp).1, (now1 p hp).2.2⟩) (by rw [sn5, sg_up_at]) (fun G6 d1 d2 d3 => ?_)
      rw [en]
      refine ih (h + 1) (by omega) G6 (fun c hc i => (d1 c (by omega) (by omega) i).trans (fr5 c hc i)) ⟨fun p hp => ?_, fun q hq => ?_, fun j hj => ?_, ?_, ?_, ?_⟩
      · rw [d1 33 (by omega) (by omega), d1 34 (by omega) (by omega)]
        exact ⟨(now1 p hp).1, (now1 p hp).2.1, (d2 p hp).1⟩
      · rw [d1 36 (by omega) (by omega)]
        exact (k3 q hq).1
      · by_cases e : j = h
        · subst e
          refine ⟨fun p hp => ⟨?_, (d2 p hp).2, ?_⟩, fun q hq => ?_, ?_, ?_⟩
          · rw [d1 37 (by omega) (by omega), k1 37 (by omega) (by omega) (by omega), b1 37 (by omega) (by omega) (by omega), sg_upc (by omega)]
            exact (a2 p hp).2.2
          · rw [d1 39 (by omega) (by omega), k1 39 (by omega) (by omega) (by omega)]
            exact b6 p hp
          · rw [d1 40 (by omega) (by omega)]
            exact (k3 q hq).2
          · rw [d1 41 (by omega) (by omega), sn5, sg_up_at]
          · rw [d1 42 (by omega) (by omega), k1 42 (by omega) (by omega) (by omega)]
            exact b5
        · obtain ⟨r1, r2, r3, r4⟩ := i3 j (by omega)
          refine ⟨fun p hp => ⟨?_, ?_, ?_⟩, fun q hq => ?_, ?_, ?_⟩
          · rw [d1 37 (by omega) (by omega), k1 37 (by omega) (by omega) (by omega), b1 37 (by omega) (by omega) (by omega), sg_upc (by omega), a3 _ (by omega)]
            exact (r1 p hp).1
          · rw [d3 _ (by omega), k1 38 (by omega) (by omega) (by omega), b1 38 (by omega) (by omega) (by omega), sg_upc (by omega), a1 38 (by omega) (by omega) (by omega)]
            exact (r1 p hp).2.1
          · rw [d1 39 (by omega) (by omega), k1 39 (by omega) (by omega) (by omega), b7 _ (by omega), sg_upc (by omega), a1 39 (by omega) (by omega) (by omega)]
            exact (r1 p hp).2.2
          · rw [d1 40 (by omega) (by omega), k5 _ (by omega), b1 40 (by omega) (by omega) (by omega), sg_upc (by omega), a1 40 (by omega) (by omega) (by omega)]
            exact r2 q hq
          · rw [d1 41 (by omega) (by omega), sn5, sg_upi (by omega), a1 41 (by omega) (by omega) (by omega)]
            exact r3
          · rw [d1 42 (by omega) (by omega), k1 42 (by omega) (by omega) (by omega), b4 _ (by omega), sg_upc (by omega), a1 42 (by omega) (by omega) (by omega)]
            exact r4
      · rw [d1 32 (by omega) (by omega), k2 12 (by omega) (by omega) (by omega) (by omega)]
        exact b3
      · rw [d1 32 (by omega) (by omega)]
        exact c2
      · rw [d1 32 (by omega) (by omega), d1 32 (by omega) (by omega), d1 32 (by omega) (by omega)]
        exact c3
  exact g_D_pass_32_0 hN (c_D_begin_32 hN hW cW (fun G1 f1 f2 => loop 24 0 rfl G1 f1 f2))
