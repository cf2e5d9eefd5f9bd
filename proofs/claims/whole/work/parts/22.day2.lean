/-! THE DAY's METHODS, further -/

theorem td_least_s (f : Nat → Bool) (m : Nat) : td_least f (m + 1) = if td_least f m = -1 then (if f m = true then (m : Int) else -1) else td_least f m := rfl
theorem c_W_hearersOf {d N : Nat} (hN : 44 ≤ N) {W : TW} {s c : Int} (hs : 0 ≤ s ∧ s < 3) (hc : 0 ≤ c ∧ c < 10) {G : SgM} {Q : Int → SgM → Prop} (cH : cw_H W G) (post : Q (sg_mk (td_hear W s c) (tw_n W) : Int) G) : sg_Wp 0 N d m_W_hearersOf 0 [(0, 2, 5), (1, 0, s), (2, 0, c)] [] G Q := by
  have e : sg_iadd (sg_imul s 10) c = s * 10 + c := by rw [sg_imul_eq (by omega) (by omega), sg_iadd_eq (by omega) (by omega)]
  have h := cH s.toNat c.toNat (by omega) (by omega)
  have es : ((s.toNat : Nat) : Int) = s := by omega
  have ec : ((c.toNat : Nat) : Int) = c := by omega
  rw [es, ec] at h
  refine g_W_hearersOf_5_0 hN ⟨fun q => absurd q (by rw [e]; omega), fun _ => ⟨fun q => absurd q (by rw [e]; omega), fun _ => ⟨by rw [e]; omega, ?_⟩⟩⟩
  rw [e, h]
  exact post

theorem c_D_changeGuard_21 {d N : Nat} (hN : 44 ≤ N) {W : TW} (hW : TWok W) {Y : TY} {h : Nat} (hh : h < 24) {G : SgM} {Q : Int → SgM → Prop} (cW : cw_W W G) (cH : cw_H W G)
    (h1 : ∀ p : Nat, p < tw_k W → G 22 p = td_c W h p) (h2 : G 30 h = (sg_mk (td_sn W Y h) (tw_k W) : Int)) (h3 : G 21 12 = td_all W Y h)
    (post : ∀ G', (∀ c : Int, c ≠ 21 → c ≠ 28 → c ≠ 31 → ∀ i, G' c i = G c i) → (∀ i : Int, i ≠ 12 → G' 21 i = G 21 i) → G' 21 12 = td_all W Y (h + 1) → (∀ i : Int, i ≠ (h : Int) → G' 31 i = G 31 i) → G' 31 h = (td_chm W Y h : Int) →
      (∀ p : Nat, p < tw_k W → G' 28 ((h : Int) * 6 + (p : Int)) = (sg_mk (fun q => decide (td_who W Y h q = (p : Int))) (tw_n W) : Int)) → (∀ i : Int, (i < (h : Int) * 6 ∨ (h : Int) * 6 + 6 ≤ i) → G' 28 i = G 28 i) → Q 0 G') :
    sg_Wp 0 N (d + 1) m_D_changeGuard 0 [(0, 2, 21), (1, 0, (h : Int))] [] G Q := by
  have hk := hW.2.1
  have hn := hW.1
  obtain ⟨w0, w4, wp, wq⟩ := cW
  have bh : (0 : Int) ≤ (h : Int) ∧ (h : Int) < 24 := by omega
  have loop : ∀ (r m : Nat), m + r = tw_k W → ∀ G1 : SgM, (∀ c : Int, c ≠ 28 → ∀ i, G1 c i = G c i) → (∀ p : Nat, p < m → G1 28 ((h : Int) * 6 + (p : Int)) = (sg_mk (fun q => decide (td_who W Y h q = (p : Int))) (tw_n W) : Int)) → (∀ i : Int, (i < (h : Int) * 6 ∨ (h : Int) * 6 + 6 ≤ i) → G1 28 i = G 28 i) →
      sg_Wp 0 N (d + 1) m_D_changeGuard 4 [(0, 2, 21), (1, 0, (h : Int)), (2, 0, (sg_mk (fun q => decide (td_least (td_hs W Y h q) m ≠ -1)) (tw_n W) : Int)), (3, 0, (m : Int))] [] G1 Q := by
    intro r
    induction r with
    | zero =>
      intro m hm G1 f1 f2 f3
      have em : m = tw_k W := by omega
      refine g_D_changeGuard_21_4 hN ⟨fun _ => ⟨bh, ?_⟩, fun q => absurd (by rw [f1 5 (by omega), w4]; omega) q⟩
      have e1 : sg_mk (fun q => decide (td_least (td_hs W Y h q) m ≠ -1)) (tw_n W) = td_chm W Y h := by rw [em]; rfl
      rw [e1, f1 21 (by omega), h3]
      have hb : td_all W Y h ≤ 192 ∧ 0 ≤ td_all W Y h := by
        have := td_sum_in (f := fun i => td_sum (fun q => td_one (td_ch W Y i q)) (tw_n W)) (b := 8) (fun i => by
          have := td_sum_in (f := fun q => td_one (td_ch W Y i q)) (b := 1) (fun q => td_one_in _) (tw_n W)
          omega) h
        unfold td_all
        omega
      have hb2 := td_sum_in (f := fun q => td_one (td_ch W Y h q)) (b := 1) (fun q => td_one_in _) (tw_n W)
      have ea : sg_iadd (td_all W Y h) (sg_ibc (td_chm W Y h : Int)) = td_all W Y (h + 1) := by
        unfold td_chm
        rw [sg_ibc_mk hn, sg_iadd_eq (by omega) (by omega)]
        rfl
      rw [ea]
      refine post _ (fun c x1 x2 x3 i => ?_) (fun i hi => ?_) ?_ (fun i hi => ?_) ?_ (fun p hp => ?_) (fun i hi => ?_)
      · simp (disch := omega) only [sg_up_at, sg_upc, sg_upi]
        exact f1 c x2 i
      · simp (disch := omega) only [sg_up_at, sg_upc, sg_upi]
        exact f1 _ (by omega) i
      · simp (disch := omega) only [sg_up_at, sg_upc, sg_upi]
      · simp (disch := omega) only [sg_up_at, sg_upc, sg_upi]
        exact f1 _ (by omega) i
      · simp (disch := omega) only [sg_up_at, sg_upc, sg_upi]
      · simp (disch := omega) only [sg_up_at, sg_upc, sg_upi]
        exact f2 p (by omega)
      · simp (disch := omega) only [sg_up_at, sg_upc, sg_upi]
        exact f3 i hi
    | succ r ih =>
      intro m hm G1 f1 f2 f3
      have hmk : m < tw_k W := by omega
      have bm : (0 : Int) ≤ (m : Int) ∧ (m : Int) < 6 := by omega
      have e6 := sg_rnd h m hh (by omega)
      have en := sg_inc1 m (by omega)
      have b6 : 0 ≤ sg_iadd (sg_imul (h : Int) 6) (m : Int) ∧ sg_iadd (sg_imul (h : Int) 6) (m : Int) < 144 := by rw [e6]; omega
      have hp := hW.2.2.2 m hmk
      have hin := (td_pos_in (ce := tw_ce W m) (wy := tw_wy W m) ⟨by omega, by omega⟩ (by omega) h).1
      have hin : 0 ≤ td_c W h m ∧ td_c W h m ≤ 9 := hin
      have next : ∀ (v w : Int), v = (sg_mk (fun q => decide (td_who W Y h q = (m : Int))) (tw_n W) : Int) → w = (sg_mk (fun q => decide (td_least (td_hs W Y h q) (m + 1) ≠ -1)) (tw_n W) : Int) →
          sg_Wp 0 N (d + 1) m_D_changeGuard 4 [(0, 2, 21), (1, 0, (h : Int)), (2, 0, w), (3, 0, sg_iadd (m : Int) 1)] [] (sg_up G1 28 (sg_iadd (sg_imul (h : Int) 6) (m : Int)) v) Q := by
        intro v w hv hw
        rw [hv, hw, en, e6]
        refine ih (m + 1) (by omega) _ (fun c x1 i => ?_) (fun p hp => ?_) (fun i hi => ?_)
        · simp (disch := omega) only [sg_up_at, sg_upc, sg_upi]
          exact f1 c x1 i
        · by_cases e : p = m
          · subst e; exact sg_up_at
          · simp (disch := omega) only [sg_up_at, sg_upc, sg_upi]
            exact f2 p (by omega)
        · simp (disch := omega) only [sg_up_at, sg_upc, sg_upi]
          exact f3 i hi
      have at_ : ∀ q, (td_who W Y h q = (m : Int) ↔ td_least (td_hs W Y h q) m = -1 ∧ td_hs W Y h q m = true) := fun q => td_least_at hmk
      refine g_D_changeGuard_21_4 hN ⟨fun q => absurd q (by rw [f1 5 (by omega), w4]; omega), fun _ => ⟨bh, fun q => ⟨bm, bm, ?_⟩, fun q => ⟨b6, ?_⟩⟩⟩
      · rw [f1 30 (by omega), h2, sg_mk_hb (by omega) (by omega)] at q
        rw [f1 9 (by omega), f1 22 (by omega), h1 m hmk, (wq m hmk).1]
        refine c_W_hearersOf hN (W := W) (by omega) (by omega) (fun s c hs hc => by rw [f1 8 (by omega)]; exact cH s c hs hc) ⟨b6, ?_⟩
        rw [sg_mk_andn (Nat.le_refl _) (by omega), sg_mk_or (by omega)]
        refine next _ _ ?_ ?_
        · congr 1
          apply sg_mk_congr
          intro i hi
          rw [Bool.eq_iff_iff]
          simp only [decide_eq_true_eq, Bool.and_eq_true, Bool.not_eq_true', decide_eq_false_iff_not, Decidable.not_not]
          rw [at_ i]
          unfold td_hs
          rw [q.2]
          simp only [Bool.true_and]
          exact And.comm
        · congr 1
          apply sg_mk_congr
          intro i hi
          have e1 : td_hs W Y h i m = td_hear W (tw_so W m) (td_c W h m) i := by unfold td_hs; rw [q.2]; simp
          rw [← e1, td_least_s]
          by_cases z : td_least (td_hs W Y h i) m = -1
          · cases g : td_hs W Y h i m <;> simp [z, g]
          · simp [z]
      · rw [f1 30 (by omega), h2, sg_mk_hb (by omega) (by omega)] at q
        rw [sg_mk_or0 (by omega)]
        have e0 : td_sn W Y h m = false := by
          cases g : td_sn W Y h m with
          | true => exact absurd ⟨hmk, g⟩ q
          | false => rfl
        have e1 : ∀ i, td_hs W Y h i m = false := fun i => by unfold td_hs; rw [e0]; rfl
        refine next _ _ ?_ ?_
        · have : sg_mk (fun q => decide (td_who W Y h q = (m : Int))) (tw_n W) = 0 := sg_mk_zero.mpr (fun i _ => by
            rw [decide_eq_false_iff_not, at_ i, e1 i]
            simp)
          rw [this]
          rfl
        · congr 1
          apply sg_mk_congr
          intro i hi
          have : td_least (td_hs W Y h i) (m + 1) = td_least (td_hs W Y h i) m := by
            show (if td_least (td_hs W Y h i) m = -1 then (if td_hs W Y h i m = true then (m : Int) else -1) else td_least (td_hs W Y h i) m) = _
            rw [e1 i]
            by_cases z : td_least (td_hs W Y h i) m = -1
            · rw [if_pos z, z]; rfl
            · rw [if_neg z]
          rw [this]
  have l0 := loop (tw_k W) 0 (Nat.zero_add _) G (fun _ _ _ => rfl) (fun p hp => absurd hp (Nat.not_lt_zero _)) (fun _ _ => rfl)
  have z0 : sg_mk (fun q => decide (td_least (td_hs W Y h q) 0 ≠ -1)) (tw_n W) = 0 := sg_mk_zero.mpr (fun i _ => rfl)
  rw [z0] at l0
  exact g_D_changeGuard_21_0 hN l0
theorem c_D_othersInCellOf_21 {d N : Nat} (hN : 44 ≤ N) {W : TW} (hW : TWok W) {h j : Nat} (hj : j < tw_k W) {G : SgM} {Q : Int → SgM → Prop} (c4 : G 5 4 = (tw_k W : Int)) (h1 : ∀ p : Nat, p < tw_k W → G 22 p = td_c W h p)
    (post : Q (sg_mk (fun p => decide (p ≠ j) && decide (td_c W h p = td_c W h j)) (tw_k W) : Int) G) : sg_Wp 0 N d m_D_othersInCellOf 0 [(0, 2, 21), (1, 0, (j : Int))] [] G Q := by
  have hk := hW.2.1
  have loop : ∀ (r m : Nat), m + r = tw_k W → sg_Wp 0 N d m_D_othersInCellOf 4 [(0, 2, 21), (1, 0, (j : Int)), (2, 0, (sg_mk (fun p => decide (p ≠ j) && decide (td_c W h p = td_c W h j)) m : Int)), (3, 0, (m : Int))] [] G Q := by
    intro r
    induction r with
    | zero =>
      intro m hm
      refine g_D_othersInCellOf_21_4 hN ⟨fun _ => ?_, fun q => absurd (by rw [c4]; omega) q⟩
      rw [show m = tw_k W by omega]
      exact post
    | succ r ih =>
      intro m hm
      have hmk : m < tw_k W := by omega
      have en := sg_inc1 m (by omega)
      have ih := ih (m + 1) (by omega)
      refine g_D_othersInCellOf_21_4 hN ⟨fun q => absurd q (by rw [c4]; omega), fun _ => ⟨fun q => ?_, fun q => ⟨by omega, by omega, fun q2 => ?_, fun q2 => ?_⟩⟩⟩
      · rw [sg_mk_f (f := fun p => decide (p ≠ j) && decide (td_c W h p = td_c W h j)) (by rw [show m = j from by omega]; simp), ← en] at ih
        exact ih
      · rw [h1 m hmk, h1 j hj] at q2
        rw [sg_mk_f (f := fun p => decide (p ≠ j) && decide (td_c W h p = td_c W h j)) (by simp [q2]), ← en] at ih
        exact ih
      · rw [h1 m hmk, h1 j hj] at q2
        have q2 := Decidable.not_not.mp q2
        have q' : m ≠ j := by omega
        rw [sg_mk_t (f := fun p => decide (p ≠ j) && decide (td_c W h p = td_c W h j)) (by omega) (by simp [q2, q']), en]
        exact ih
  exact g_D_othersInCellOf_21_0 hN (loop (tw_k W) 0 (Nat.zero_add _))
theorem c_D_spreadColds_21 {d N : Nat} (hN : 44 ≤ N) {W : TW} (hW : TWok W) {Y : TY} {h : Nat} (hh : h < 24) {G : SgM} {Q : Int → SgM → Prop} (c4 : G 5 4 = (tw_k W : Int))
    (h1 : ∀ p : Nat, p < tw_k W → G 22 p = td_c W h p ∧ G 24 p = td_cold W Y h p) (h2 : G 30 h = (sg_mk (td_sn W Y h) (tw_k W) : Int))
    (post : ∀ G', (∀ c : Int, c ≠ 24 → c ≠ 27 → ∀ i, G' c i = G c i) → (∀ p : Nat, p < tw_k W → G' 24 p = td_cold W Y (h + 1) p ∧ G' 27 ((h : Int) * 6 + (p : Int)) = td_cold W Y (h + 1) p) → (∀ i : Int, (i < (h : Int) * 6 ∨ (h : Int) * 6 + 6 ≤ i) → G' 27 i = G 27 i) → Q 0 G') :
    sg_Wp 0 N (d + 1) m_D_spreadColds 0 [(0, 2, 21), (1, 0, (h : Int))] [] G Q := by
  have hk := hW.2.1
  have bh : (0 : Int) ≤ (h : Int) ∧ (h : Int) < 24 := by omega
  have loop2 : ∀ (r m : Nat), m + r = tw_k W → ∀ G1 : SgM, (∀ c : Int, c ≠ 24 → c ≠ 27 → ∀ i, G1 c i = G c i) → (∀ p : Nat, p < m → G1 24 p = td_cold W Y (h + 1) p ∧ G1 27 ((h : Int) * 6 + (p : Int)) = td_cold W Y (h + 1) p) → (∀ p : Nat, m ≤ p → p < tw_k W → G1 24 p = td_cold W Y h p) →
      (∀ i : Int, (i < (h : Int) * 6 ∨ (h : Int) * 6 + 6 ≤ i) → G1 27 i = G 27 i) → sg_Wp 0 N (d + 1) m_D_spreadColds 44 [(0, 2, 21), (1, 0, (h : Int)), (2, 0, (sg_mk (td_ct W Y h) (tw_k W) : Int)), (3, 0, (m : Int))] [] G1 Q := by
    intro r
    induction r with
    | zero =>
      intro m hm G1 f1 f2 f3 f4
      exact g_D_spreadColds_21_44 hN ⟨fun _ => post G1 f1 (fun p hp => f2 p (by omega)) f4, fun q => absurd (by rw [f1 5 (by omega) (by omega), c4]; omega) q⟩
    | succ r ih =>
      intro m hm G1 f1 f2 f3 f4
      have hmk : m < tw_k W := by omega
      have bm : (0 : Int) ≤ (m : Int) ∧ (m : Int) < 6 := by omega
      have e6 := sg_rnd h m hh (by omega)
      have en := sg_inc1 m (by omega)
      have b6 : 0 ≤ sg_iadd (sg_imul (h : Int) 6) (m : Int) ∧ sg_iadd (sg_imul (h : Int) 6) (m : Int) < 144 := by rw [e6]; omega
      have hp := hW.2.2.2 m hmk
      have hcd := td_cold_in (Y := Y) (W := W) (p := m) ⟨by omega, by omega⟩ h
      have a2 := f3 m (Nat.le_refl _) hmk
      have next : ∀ (G2 : SgM), (∀ c : Int, c ≠ 24 → c ≠ 27 → ∀ i, G2 c i = G1 c i) → (∀ i : Int, i ≠ (m : Int) → G2 24 i = G1 24 i) → (∀ i : Int, i ≠ (h : Int) * 6 + (m : Int) → G2 27 i = G1 27 i) → G2 24 m = td_cold W Y (h + 1) m → G2 27 ((h : Int) * 6 + (m : Int)) = td_cold W Y (h + 1) m →
          sg_Wp 0 N (d + 1) m_D_spreadColds 44 [(0, 2, 21), (1, 0, (h : Int)), (2, 0, (sg_mk (td_ct W Y h) (tw_k W) : Int)), (3, 0, ((m + 1 : Nat) : Int))] [] G2 Q := by
        intro G2 g1 g2 g3 v1 v2
        refine ih (m + 1) (by omega) G2 (fun c x1 x2 i => (g1 c x1 x2 i).trans (f1 c x1 x2 i)) (fun p hpm => ?_) (fun p x1 x2 => ?_) (fun i hi => (g3 i (by omega)).trans (f4 i hi))
        · by_cases e : p = m
          · subst e; exact ⟨v1, v2⟩
          · rw [g2 p (by omega), g3 _ (by omega)]
            exact f2 p (by omega)
        · rw [g2 p (by omega)]
          exact f3 p (by omega) x2
      refine g_D_spreadColds_21_44 hN ⟨fun q => absurd q (by rw [f1 5 (by omega) (by omega), c4]; omega), fun _ => ⟨fun q => ⟨bm, fun q2 => ⟨bm, b6, ?_⟩, fun q2 => ⟨bm, bm, bm, b6, ?_⟩⟩, fun q => ⟨bm, b6, ?_⟩⟩⟩
      · have e : td_cold W Y (h + 1) m = td_cold W Y h m := by rw [td_cold_s, if_neg (by rw [a2] at q2; omega)]
        rw [e6, en, a2]
        exact next _ (fun c x1 x2 i => by simp (disch := omega) only [sg_up_at, sg_upc, sg_upi]) (fun i hi => by simp (disch := omega) only [sg_up_at, sg_upc, sg_upi]) (fun i hi => by simp (disch := omega) only [sg_up_at, sg_upc, sg_upi]) (by simp (disch := omega) only [sg_up_at, sg_upc, sg_upi]; rw [a2, e]) (by simp (disch := omega) only [sg_up_at, sg_upc, sg_upi]; rw [e])
      · rw [sg_mk_hb (by omega) (by omega)] at q
        rw [a2] at q2
        have e : td_cold W Y (h + 1) m = td_cold W Y h m - 1 := by rw [td_cold_s, if_pos ⟨q.2, by omega⟩]
        rw [e6, en]
        simp only [sg_up_at]
        rw [a2, sg_isub_eq (by omega) (by omega)]
        exact next _ (fun c x1 x2 i => by simp (disch := omega) only [sg_up_at, sg_upc, sg_upi]) (fun i hi => by simp (disch := omega) only [sg_up_at, sg_upc, sg_upi]) (fun i hi => by simp (disch := omega) only [sg_up_at, sg_upc, sg_upi]) (by simp (disch := omega) only [sg_up_at, sg_upc, sg_upi]; rw [e]) (by simp (disch := omega) only [sg_up_at, sg_upc, sg_upi]; rw [e])
      · rw [sg_mk_hb (by omega) (by omega)] at q
        have e : td_cold W Y (h + 1) m = td_cold W Y h m := by rw [td_cold_s, if_neg (fun z => q ⟨hmk, z.1⟩)]
        rw [e6, en, a2]
        exact next _ (fun c x1 x2 i => by simp (disch := omega) only [sg_up_at, sg_upc, sg_upi]) (fun i hi => by simp (disch := omega) only [sg_up_at, sg_upc, sg_upi]) (fun i hi => by simp (disch := omega) only [sg_up_at, sg_upc, sg_upi]) (by simp (disch := omega) only [sg_up_at, sg_upc, sg_upi]; rw [a2, e]) (by simp (disch := omega) only [sg_up_at, sg_upc, sg_upi]; rw [e])
  have l2 := loop2 (tw_k W) 0 (Nat.zero_add _) G (fun _ _ _ _ => rfl) (fun p hp => absurd hp (Nat.not_lt_zero _)) (fun p _ hp => (h1 p hp).2) (fun _ _ => rfl)
  have loop1 : ∀ (r m : Nat), m + r = tw_k W → sg_Wp 0 N (d + 1) m_D_spreadColds 4 [(0, 2, 21), (1, 0, (h : Int)), (2, 0, (sg_mk (fun p => (List.range m).any (fun j => decide (j ≠ p) && td_sn W Y h j && decide (td_c W h j = td_c W h p))) (tw_k W) : Int)), (3, 0, (m : Int))] [] G Q := by
    intro r
    induction r with
    | zero =>
      intro m hm
      refine g_D_spreadColds_21_4 hN ⟨fun _ => ?_, fun q => absurd (by rw [c4]; omega) q⟩
      rw [show m = tw_k W by omega]
      exact l2
    | succ r ih =>
      intro m hm
      have hmk : m < tw_k W := by omega
      have en := sg_inc1 m (by omega)
      have ih := ih (m + 1) (by omega)
      refine g_D_spreadColds_21_4 hN ⟨fun q => absurd q (by rw [c4]; omega), fun _ => ⟨bh, fun q => ?_, fun q => ?_⟩⟩
      · rw [h2, sg_mk_hb (by omega) (by omega)] at q
        refine c_D_othersInCellOf_21 hN hW (h := h) hmk c4 (fun p hp => (h1 p hp).1) ?_
        rw [sg_mk_or (by omega), en]
        have e : sg_mk (fun p => (List.range (m + 1)).any (fun j => decide (j ≠ p) && td_sn W Y h j && decide (td_c W h j = td_c W h p))) (tw_k W) = sg_mk (fun p => (List.range m).any (fun j => decide (j ≠ p) && td_sn W Y h j && decide (td_c W h j = td_c W h p)) || (decide (p ≠ m) && decide (td_c W h p = td_c W h m))) (tw_k W) := by
          apply sg_mk_congr
          intro i hi
          rw [List.range_succ, List.any_append]
          congr 1
          simp only [List.any_cons, List.any_nil, Bool.or_false, q.2, Bool.and_true]
          rw [Bool.eq_iff_iff]
          simp only [Bool.and_eq_true, decide_eq_true_eq]
          constructor
          · intro z; exact ⟨fun y => z.1 y.symm, z.2.symm⟩
          · intro z; exact ⟨fun y => z.1 y.symm, z.2.symm⟩
        rw [e] at ih
        exact ih
      · rw [h2, sg_mk_hb (by omega) (by omega)] at q
        have e0 : td_sn W Y h m = false := by
          cases g : td_sn W Y h m with
          | true => exact absurd ⟨hmk, g⟩ q
          | false => rfl
        have e : sg_mk (fun p => (List.range (m + 1)).any (fun j => decide (j ≠ p) && td_sn W Y h j && decide (td_c W h j = td_c W h p))) (tw_k W) = sg_mk (fun p => (List.range m).any (fun j => decide (j ≠ p) && td_sn W Y h j && decide (td_c W h j = td_c W h p))) (tw_k W) := by
          apply sg_mk_congr
          intro i hi
          rw [List.range_succ, List.any_append]
          simp [e0]
        rw [e, ← en] at ih
        exact ih
  have z0 : sg_mk (fun p => (List.range 0).any (fun j => decide (j ≠ p) && td_sn W Y h j && decide (td_c W h j = td_c W h p))) (tw_k W) = 0 := sg_mk_zero.mpr (fun i _ => rfl)
  have l1 := loop1 (tw_k W) 0 (Nat.zero_add _)
  rw [z0] at l1
  exact g_D_spreadColds_21_0 hN l1

theorem c_D_changeGuard_32 {d N : Nat} (hN : 44 ≤ N) {W : TW} (hW : TWok W) {Y : TY} {h : Nat} (hh : h < 24) {G : SgM} {Q : Int → SgM → Prop} (cW : cw_W W G) (cH : cw_H W G)
    (h1 : ∀ p : Nat, p < tw_k W → G 33 p = td_c W h p) (h2 : G 41 h = (sg_mk (td_sn W Y h) (tw_k W) : Int)) (h3 : G 32 12 = td_all W Y h)
    (post : ∀ G', (∀ c : Int, c ≠ 32 → c ≠ 39 → c ≠ 42 → ∀ i, G' c i = G c i) → (∀ i : Int, i ≠ 12 → G' 32 i = G 32 i) → G' 32 12 = td_all W Y (h + 1) → (∀ i : Int, i ≠ (h : Int) → G' 42 i = G 42 i) → G' 42 h = (td_chm W Y h : Int) →
      (∀ p : Nat, p < tw_k W → G' 39 ((h : Int) * 6 + (p : Int)) = (sg_mk (fun q => decide (td_who W Y h q = (p : Int))) (tw_n W) : Int)) → (∀ i : Int, (i < (h : Int) * 6 ∨ (h : Int) * 6 + 6 ≤ i) → G' 39 i = G 39 i) → Q 0 G') :
    sg_Wp 0 N (d + 1) m_D_changeGuard 0 [(0, 2, 32), (1, 0, (h : Int))] [] G Q := by
  have hk := hW.2.1
  have hn := hW.1
  obtain ⟨w0, w4, wp, wq⟩ := cW
  have bh : (0 : Int) ≤ (h : Int) ∧ (h : Int) < 24 := by omega
  have loop : ∀ (r m : Nat), m + r = tw_k W → ∀ G1 : SgM, (∀ c : Int, c ≠ 39 → ∀ i, G1 c i = G c i) → (∀ p : Nat, p < m → G1 39 ((h : Int) * 6 + (p : Int)) = (sg_mk (fun q => decide (td_who W Y h q = (p : Int))) (tw_n W) : Int)) → (∀ i : Int, (i < (h : Int) * 6 ∨ (h : Int) * 6 + 6 ≤ i) → G1 39 i = G 39 i) →
      sg_Wp 0 N (d + 1) m_D_changeGuard 4 [(0, 2, 32), (1, 0, (h : Int)), (2, 0, (sg_mk (fun q => decide (td_least (td_hs W Y h q) m ≠ -1)) (tw_n W) : Int)), (3, 0, (m : Int))] [] G1 Q := by
    intro r
    induction r with
    | zero =>
      intro m hm G1 f1 f2 f3
      have em : m = tw_k W := by omega
      refine g_D_changeGuard_32_4 hN ⟨fun _ => ⟨bh, ?_⟩, fun q => absurd (by rw [f1 5 (by omega), w4]; omega) q⟩
      have e1 : sg_mk (fun q => decide (td_least (td_hs W Y h q) m ≠ -1)) (tw_n W) = td_chm W Y h := by rw [em]; rfl
      rw [e1, f1 32 (by omega), h3]
      have hb : td_all W Y h ≤ 192 ∧ 0 ≤ td_all W Y h := by
        have := td_sum_in (f := fun i => td_sum (fun q => td_one (td_ch W Y i q)) (tw_n W)) (b := 8) (fun i => by
          have := td_sum_in (f := fun q => td_one (td_ch W Y i q)) (b := 1) (fun q => td_one_in _) (tw_n W)
          omega) h
        unfold td_all
        omega
      have hb2 := td_sum_in (f := fun q => td_one (td_ch W Y h q)) (b := 1) (fun q => td_one_in _) (tw_n W)
      have ea : sg_iadd (td_all W Y h) (sg_ibc (td_chm W Y h : Int)) = td_all W Y (h + 1) := by
        unfold td_chm
        rw [sg_ibc_mk hn, sg_iadd_eq (by omega) (by omega)]
        rfl
      rw [ea]
      refine post _ (fun c x1 x2 x3 i => ?_) (fun i hi => ?_) ?_ (fun i hi => ?_) ?_ (fun p hp => ?_) (fun i hi => ?_)
      · simp (disch := omega) only [sg_up_at, sg_upc, sg_upi]
        exact f1 c x2 i
      · simp (disch := omega) only [sg_up_at, sg_upc, sg_upi]
        exact f1 _ (by omega) i
      · simp (disch := omega) only [sg_up_at, sg_upc, sg_upi]
      · simp (disch := omega) only [sg_up_at, sg_upc, sg_upi]
        exact f1 _ (by omega) i
      · simp (disch := omega) only [sg_up_at, sg_upc, sg_upi]
      · simp (disch := omega) only [sg_up_at, sg_upc, sg_upi]
        exact f2 p (by omega)
      · simp (disch := omega) only [sg_up_at, sg_upc, sg_upi]
        exact f3 i hi
    | succ r ih =>
      intro m hm G1 f1 f2 f3
      have hmk : m < tw_k W := by omega
      have bm : (0 : Int) ≤ (m : Int) ∧ (m : Int) < 6 := by omega
      have e6 := sg_rnd h m hh (by omega)
      have en := sg_inc1 m (by omega)
      have b6 : 0 ≤ sg_iadd (sg_imul (h : Int) 6) (m : Int) ∧ sg_iadd (sg_imul (h : Int) 6) (m : Int) < 144 := by rw [e6]; omega
      have hp := hW.2.2.2 m hmk
      have hin := (td_pos_in (ce := tw_ce W m) (wy := tw_wy W m) ⟨by omega, by omega⟩ (by omega) h).1
      have hin : 0 ≤ td_c W h m ∧ td_c W h m ≤ 9 := hin
      have next : ∀ (v w : Int), v = (sg_mk (fun q => decide (td_who W Y h q = (m : Int))) (tw_n W) : Int) → w = (sg_mk (fun q => decide (td_least (td_hs W Y h q) (m + 1) ≠ -1)) (tw_n W) : Int) →
          sg_Wp 0 N (d + 1) m_D_changeGuard 4 [(0, 2, 32), (1, 0, (h : Int)), (2, 0, w), (3, 0, sg_iadd (m : Int) 1)] [] (sg_up G1 39 (sg_iadd (sg_imul (h : Int) 6) (m : Int)) v) Q := by
        intro v w hv hw
        rw [hv, hw, en, e6]
        refine ih (m + 1) (by omega) _ (fun c x1 i => ?_) (fun p hp => ?_) (fun i hi => ?_)
        · simp (disch := omega) only [sg_up_at, sg_upc, sg_upi]
          exact f1 c x1 i
        · by_cases e : p = m
          · subst e; exact sg_up_at
          · simp (disch := omega) only [sg_up_at, sg_upc, sg_upi]
            exact f2 p (by omega)
        · simp (disch := omega) only [sg_up_at, sg_upc, sg_upi]
          exact f3 i hi
      have at_ : ∀ q, (td_who W Y h q = (m : Int) ↔ td_least (td_hs W Y h q) m = -1 ∧ td_hs W Y h q m = true) := fun q => td_least_at hmk
      refine g_D_changeGuard_32_4 hN ⟨fun q => absurd q (by rw [f1 5 (by omega), w4]; omega), fun _ => ⟨bh, fun q => ⟨bm, bm, ?_⟩, fun q => ⟨b6, ?_⟩⟩⟩
      · rw [f1 41 (by omega), h2, sg_mk_hb (by omega) (by omega)] at q
        rw [f1 9 (by omega), f1 33 (by omega), h1 m hmk, (wq m hmk).1]
        refine c_W_hearersOf hN (W := W) (by omega) (by omega) (fun s c hs hc => by rw [f1 8 (by omega)]; exact cH s c hs hc) ⟨b6, ?_⟩
        rw [sg_mk_andn (Nat.le_refl _) (by omega), sg_mk_or (by omega)]
        refine next _ _ ?_ ?_
        · congr 1
          apply sg_mk_congr
          intro i hi
          rw [Bool.eq_iff_iff]
          simp only [decide_eq_true_eq, Bool.and_eq_true, Bool.not_eq_true', decide_eq_false_iff_not, Decidable.not_not]
          rw [at_ i]
          unfold td_hs
          rw [q.2]
          simp only [Bool.true_and]
          exact And.comm
        · congr 1
          apply sg_mk_congr
          intro i hi
          have e1 : td_hs W Y h i m = td_hear W (tw_so W m) (td_c W h m) i := by unfold td_hs; rw [q.2]; simp
          rw [← e1, td_least_s]
          by_cases z : td_least (td_hs W Y h i) m = -1
          · cases g : td_hs W Y h i m <;> simp [z, g]
          · simp [z]
      · rw [f1 41 (by omega), h2, sg_mk_hb (by omega) (by omega)] at q
        rw [sg_mk_or0 (by omega)]
        have e0 : td_sn W Y h m = false := by
          cases g : td_sn W Y h m with
          | true => exact absurd ⟨hmk, g⟩ q
          | false => rfl
        have e1 : ∀ i, td_hs W Y h i m = false := fun i => by unfold td_hs; rw [e0]; rfl
        refine next _ _ ?_ ?_
        · have : sg_mk (fun q => decide (td_who W Y h q = (m : Int))) (tw_n W) = 0 := sg_mk_zero.mpr (fun i _ => by
            rw [decide_eq_false_iff_not, at_ i, e1 i]
            simp)
          rw [this]
          rfl
        · congr 1
          apply sg_mk_congr
          intro i hi
          have : td_least (td_hs W Y h i) (m + 1) = td_least (td_hs W Y h i) m := by
            show (if td_least (td_hs W Y h i) m = -1 then (if td_hs W Y h i m = true then (m : Int) else -1) else td_least (td_hs W Y h i) m) = _
            rw [e1 i]
            by_cases z : td_least (td_hs W Y h i) m = -1
            · rw [if_pos z, z]; rfl
            · rw [if_neg z]
          rw [this]
  have l0 := loop (tw_k W) 0 (Nat.zero_add _) G (fun _ _ _ => rfl) (fun p hp => absurd hp (Nat.not_lt_zero _)) (fun _ _ => rfl)
  have z0 : sg_mk (fun q => decide (td_least (td_hs W Y h q) 0 ≠ -1)) (tw_n W) = 0 := sg_mk_zero.mpr (fun i _ => rfl)
  rw [z0] at l0
  exact g_D_changeGuard_32_0 hN l0
theorem c_D_othersInCellOf_32 {d N : Nat} (hN : 44 ≤ N) {W : TW} (hW : TWok W) {h j : Nat} (hj : j < tw_k W) {G : SgM} {Q : Int → SgM → Prop} (c4 : G 5 4 = (tw_k W : Int)) (h1 : ∀ p : Nat, p < tw_k W → G 33 p = td_c W h p)
    (post : Q (sg_mk (fun p => decide (p ≠ j) && decide (td_c W h p = td_c W h j)) (tw_k W) : Int) G) : sg_Wp 0 N d m_D_othersInCellOf 0 [(0, 2, 32), (1, 0, (j : Int))] [] G Q := by
  have hk := hW.2.1
  have loop : ∀ (r m : Nat), m + r = tw_k W → sg_Wp 0 N d m_D_othersInCellOf 4 [(0, 2, 32), (1, 0, (j : Int)), (2, 0, (sg_mk (fun p => decide (p ≠ j) && decide (td_c W h p = td_c W h j)) m : Int)), (3, 0, (m : Int))] [] G Q := by
    intro r
    induction r with
    | zero =>
      intro m hm
      refine g_D_othersInCellOf_32_4 hN ⟨fun _ => ?_, fun q => absurd (by rw [c4]; omega) q⟩
      rw [show m = tw_k W by omega]
      exact post
    | succ r ih =>
      intro m hm
      have hmk : m < tw_k W := by omega
      have en := sg_inc1 m (by omega)
      have ih := ih (m + 1) (by omega)
      refine g_D_othersInCellOf_32_4 hN ⟨fun q => absurd q (by rw [c4]; omega), fun _ => ⟨fun q => ?_, fun q => ⟨by omega, by omega, fun q2 => ?_, fun q2 => ?_⟩⟩⟩
      · rw [sg_mk_f (f := fun p => decide (p ≠ j) && decide (td_c W h p = td_c W h j)) (by rw [show m = j from by omega]; simp), ← en] at ih
        exact ih
      · rw [h1 m hmk, h1 j hj] at q2
        rw [sg_mk_f (f := fun p => decide (p ≠ j) && decide (td_c W h p = td_c W h j)) (by simp [q2]), ← en] at ih
        exact ih
      · rw [h1 m hmk, h1 j hj] at q2
        have q2 := Decidable.not_not.mp q2
        have q' : m ≠ j := by omega
        rw [sg_mk_t (f := fun p => decide (p ≠ j) && decide (td_c W h p = td_c W h j)) (by omega) (by simp [q2, q']), en]
        exact ih
  exact g_D_othersInCellOf_32_0 hN (loop (tw_k W) 0 (Nat.zero_add _))
theorem c_D_spreadColds_32 {d N : Nat} (hN : 44 ≤ N) {W : TW} (hW : TWok W) {Y : TY} {h : Nat} (hh : h < 24) {G : SgM} {Q : Int → SgM → Prop} (c4 : G 5 4 = (tw_k W : Int))
    (h1 : ∀ p : Nat, p < tw_k W → G 33 p = td_c W h p ∧ G 35 p = td_cold W Y h p) (h2 : G 41 h = (sg_mk (td_sn W Y h) (tw_k W) : Int))
    (post : ∀ G', (∀ c : Int, c ≠ 35 → c ≠ 38 → ∀ i, G' c i = G c i) → (∀ p : Nat, p < tw_k W → G' 35 p = td_cold W Y (h + 1) p ∧ G' 38 ((h : Int) * 6 + (p : Int)) = td_cold W Y (h + 1) p) → (∀ i : Int, (i < (h : Int) * 6 ∨ (h : Int) * 6 + 6 ≤ i) → G' 38 i = G 38 i) → Q 0 G') :
    sg_Wp 0 N (d + 1) m_D_spreadColds 0 [(0, 2, 32), (1, 0, (h : Int))] [] G Q := by
  have hk := hW.2.1
  have bh : (0 : Int) ≤ (h : Int) ∧ (h : Int) < 24 := by omega
  have loop2 : ∀ (r m : Nat), m + r = tw_k W → ∀ G1 : SgM, (∀ c : Int, c ≠ 35 → c ≠ 38 → ∀ i, G1 c i = G c i) → (∀ p : Nat, p < m → G1 35 p = td_cold W Y (h + 1) p ∧ G1 38 ((h : Int) * 6 + (p : Int)) = td_cold W Y (h + 1) p) → (∀ p : Nat, m ≤ p → p < tw_k W → G1 35 p = td_cold W Y h p) →
      (∀ i : Int, (i < (h : Int) * 6 ∨ (h : Int) * 6 + 6 ≤ i) → G1 38 i = G 38 i) → sg_Wp 0 N (d + 1) m_D_spreadColds 44 [(0, 2, 32), (1, 0, (h : Int)), (2, 0, (sg_mk (td_ct W Y h) (tw_k W) : Int)), (3, 0, (m : Int))] [] G1 Q := by
    intro r
    induction r with
    | zero =>
      intro m hm G1 f1 f2 f3 f4
      exact g_D_spreadColds_32_44 hN ⟨fun _ => post G1 f1 (fun p hp => f2 p (by omega)) f4, fun q => absurd (by rw [f1 5 (by omega) (by omega), c4]; omega) q⟩
    | succ r ih =>
      intro m hm G1 f1 f2 f3 f4
      have hmk : m < tw_k W := by omega
      have bm : (0 : Int) ≤ (m : Int) ∧ (m : Int) < 6 := by omega
      have e6 := sg_rnd h m hh (by omega)
      have en := sg_inc1 m (by omega)
      have b6 : 0 ≤ sg_iadd (sg_imul (h : Int) 6) (m : Int) ∧ sg_iadd (sg_imul (h : Int) 6) (m : Int) < 144 := by rw [e6]; omega
      have hp := hW.2.2.2 m hmk
      have hcd := td_cold_in (Y := Y) (W := W) (p := m) ⟨by omega, by omega⟩ h
      have a2 := f3 m (Nat.le_refl _) hmk
      have next : ∀ (G2 : SgM), (∀ c : Int, c ≠ 35 → c ≠ 38 → ∀ i, G2 c i = G1 c i) → (∀ i : Int, i ≠ (m : Int) → G2 35 i = G1 35 i) → (∀ i : Int, i ≠ (h : Int) * 6 + (m : Int) → G2 38 i = G1 38 i) → G2 35 m = td_cold W Y (h + 1) m → G2 38 ((h : Int) * 6 + (m : Int)) = td_cold W Y (h + 1) m →
          sg_Wp 0 N (d + 1) m_D_spreadColds 44 [(0, 2, 32), (1, 0, (h : Int)), (2, 0, (sg_mk (td_ct W Y h) (tw_k W) : Int)), (3, 0, ((m + 1 : Nat) : Int))] [] G2 Q := by
        intro G2 g1 g2 g3 v1 v2
        refine ih (m + 1) (by omega) G2 (fun c x1 x2 i => (g1 c x1 x2 i).trans (f1 c x1 x2 i)) (fun p hpm => ?_) (fun p x1 x2 => ?_) (fun i hi => (g3 i (by omega)).trans (f4 i hi))
        · by_cases e : p = m
          · subst e; exact ⟨v1, v2⟩
          · rw [g2 p (by omega), g3 _ (by omega)]
            exact f2 p (by omega)
        · rw [g2 p (by omega)]
          exact f3 p (by omega) x2
      refine g_D_spreadColds_32_44 hN ⟨fun q => absurd q (by rw [f1 5 (by omega) (by omega), c4]; omega), fun _ => ⟨fun q => ⟨bm, fun q2 => ⟨bm, b6, ?_⟩, fun q2 => ⟨bm, bm, bm, b6, ?_⟩⟩, fun q => ⟨bm, b6, ?_⟩⟩⟩
      · have e : td_cold W Y (h + 1) m = td_cold W Y h m := by rw [td_cold_s, if_neg (by rw [a2] at q2; omega)]
        rw [e6, en, a2]
        exact next _ (fun c x1 x2 i => by simp (disch := omega) only [sg_up_at, sg_upc, sg_upi]) (fun i hi => by simp (disch := omega) only [sg_up_at, sg_upc, sg_upi]) (fun i hi => by simp (disch := omega) only [sg_up_at, sg_upc, sg_upi]) (by simp (disch := omega) only [sg_up_at, sg_upc, sg_upi]; rw [a2, e]) (by simp (disch := omega) only [sg_up_at, sg_upc, sg_upi]; rw [e])
      · rw [sg_mk_hb (by omega) (by omega)] at q
        rw [a2] at q2
        have e : td_cold W Y (h + 1) m = td_cold W Y h m - 1 := by rw [td_cold_s, if_pos ⟨q.2, by omega⟩]
        rw [e6, en]
        simp only [sg_up_at]
        rw [a2, sg_isub_eq (by omega) (by omega)]
        exact next _ (fun c x1 x2 i => by simp (disch := omega) only [sg_up_at, sg_upc, sg_upi]) (fun i hi => by simp (disch := omega) only [sg_up_at, sg_upc, sg_upi]) (fun i hi => by simp (disch := omega) only [sg_up_at, sg_upc, sg_upi]) (by simp (disch := omega) only [sg_up_at, sg_upc, sg_upi]; rw [e]) (by simp (disch := omega) only [sg_up_at, sg_upc, sg_upi]; rw [e])
      · rw [sg_mk_hb (by omega) (by omega)] at q
        have e : td_cold W Y (h + 1) m = td_cold W Y h m := by rw [td_cold_s, if_neg (fun z => q ⟨hmk, z.1⟩)]
        rw [e6, en, a2]
        exact next _ (fun c x1 x2 i => by simp (disch := omega) only [sg_up_at, sg_upc, sg_upi]) (fun i hi => by simp (disch := omega) only [sg_up_at, sg_upc, sg_upi]) (fun i hi => by simp (disch := omega) only [sg_up_at, sg_upc, sg_upi]) (by simp (disch := omega) only [sg_up_at, sg_upc, sg_upi]; rw [a2, e]) (by simp (disch := omega) only [sg_up_at, sg_upc, sg_upi]; rw [e])
  have l2 := loop2 (tw_k W) 0 (Nat.zero_add _) G (fun _ _ _ _ => rfl) (fun p hp => absurd hp (Nat.not_lt_zero _)) (fun p _ hp => (h1 p hp).2) (fun _ _ => rfl)
  have loop1 : ∀ (r m : Nat), m + r = tw_k W → sg_Wp 0 N (d + 1) m_D_spreadColds 4 [(0, 2, 32), (1, 0, (h : Int)), (2, 0, (sg_mk (fun p => (List.range m).any (fun j => decide (j ≠ p) && td_sn W Y h j && decide (td_c W h j = td_c W h p))) (tw_k W) : Int)), (3, 0, (m : Int))] [] G Q := by
    intro r
    induction r with
    | zero =>
      intro m hm
      refine g_D_spreadColds_32_4 hN ⟨fun _ => ?_, fun q => absurd (by rw [c4]; omega) q⟩
      rw [show m = tw_k W by omega]
      exact l2
    | succ r ih =>
      intro m hm
      have hmk : m < tw_k W := by omega
      have en := sg_inc1 m (by omega)
      have ih := ih (m + 1) (by omega)
      refine g_D_spreadColds_32_4 hN ⟨fun q => absurd q (by rw [c4]; omega), fun _ => ⟨bh, fun q => ?_, fun q => ?_⟩⟩
      · rw [h2, sg_mk_hb (by omega) (by omega)] at q
        refine c_D_othersInCellOf_32 hN hW (h := h) hmk c4 (fun p hp => (h1 p hp).1) ?_
        rw [sg_mk_or (by omega), en]
        have e : sg_mk (fun p => (List.range (m + 1)).any (fun j => decide (j ≠ p) && td_sn W Y h j && decide (td_c W h j = td_c W h p))) (tw_k W) = sg_mk (fun p => (List.range m).any (fun j => decide (j ≠ p) && td_sn W Y h j && decide (td_c W h j = td_c W h p)) || (decide (p ≠ m) && decide (td_c W h p = td_c W h m))) (tw_k W) := by
          apply sg_mk_congr
          intro i hi
          rw [List.range_succ, List.any_append]
          congr 1
          simp only [List.any_cons, List.any_nil, Bool.or_false, q.2, Bool.and_true]
          rw [Bool.eq_iff_iff]
          simp only [Bool.and_eq_true, decide_eq_true_eq]
          constructor
          · intro z; exact ⟨fun y => z.1 y.symm, z.2.symm⟩
          · intro z; exact ⟨fun y => z.1 y.symm, z.2.symm⟩
        rw [e] at ih
        exact ih
      · rw [h2, sg_mk_hb (by omega) (by omega)] at q
        have e0 : td_sn W Y h m = false := by
          cases g : td_sn W Y h m with
          | true => exact absurd ⟨hmk, g⟩ q
          | false => rfl
        have e : sg_mk (fun p => (List.range (m + 1)).any (fun j => decide (j ≠ p) && td_sn W Y h j && decide (td_c W h j = td_c W h p))) (tw_k W) = sg_mk (fun p => (List.range m).any (fun j => decide (j ≠ p) && td_sn W Y h j && decide (td_c W h j = td_c W h p))) (tw_k W) := by
          apply sg_mk_congr
          intro i hi
          rw [List.range_succ, List.any_append]
          simp [e0]
        rw [e, ← en] at ih
        exact ih
  have z0 : sg_mk (fun p => (List.range 0).any (fun j => decide (j ≠ p) && td_sn W Y h j && decide (td_c W h j = td_c W h p))) (tw_k W) = 0 := sg_mk_zero.mpr (fun i _ => rfl)
  have l1 := loop1 (tw_k W) 0 (Nat.zero_add _)
  rw [z0] at l1
  exact g_D_spreadColds_32_0 hN l1
