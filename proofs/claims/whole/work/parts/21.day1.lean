/-! THE DAY's METHODS, one by one; printed twice: for the day told and the day supposed -/

theorem c_D_walk_l21 {d N : Nat} (hN : 44 ≤ N) {W : TW} (hW : TWok W) {h : Nat} (hh : h < 24) {G0 : SgM} {Q : Int → SgM → Prop} (c4 : G0 5 4 = (tw_k W : Int))
    (post : ∀ G', (∀ c : Int, c ≠ 22 → c ≠ 23 → c ≠ 26 → ∀ i, G' c i = G0 c i) → (∀ p : Nat, p < tw_k W → G' 22 p = td_c W h p ∧ G' 23 p = td_stp (td_w W h p) ∧ G' 26 ((h : Int) * 6 + (p : Int)) = td_c W h p) →
      (∀ i : Int, (i < (h : Int) * 6 ∨ (h : Int) * 6 + 6 ≤ i) → G' 26 i = G0 26 i) → Q 0 G') :
    ∀ (r m : Nat), m + r = tw_k W → ∀ G1 : SgM, (∀ c : Int, c ≠ 22 → c ≠ 23 → c ≠ 26 → ∀ i, G1 c i = G0 c i) → (∀ p : Nat, p < m → G1 22 p = td_c W h p ∧ G1 23 p = td_stp (td_w W h p) ∧ G1 26 ((h : Int) * 6 + (p : Int)) = td_c W h p) →
      (∀ p : Nat, m ≤ p → p < tw_k W → G1 22 p = td_c W (h - 1) p ∧ G1 23 p = td_stp (td_w W (h - 1) p)) → (∀ i : Int, (i < (h : Int) * 6 ∨ (h : Int) * 6 + 6 ≤ i) → G1 26 i = G0 26 i) →
      sg_Wp 0 N (d + 1) m_D_walk 2 [(0, 2, 21), (1, 0, (h : Int)), (2, 0, (m : Int))] [] G1 Q
  | 0, m, hm, G1, f1, f2, f3, f4 => by
    refine g_D_walk_21_2 hN ⟨fun _ => post G1 f1 (fun p hp => f2 p (by omega)) f4, fun q => absurd ?_ q⟩
    rw [f1 5 (by omega) (by omega) (by omega), c4]
    omega
  | r + 1, m, hm, G1, f1, f2, f3, f4 => by
    have hk := hW.2.1
    have hp := hW.2.2.2 m (by omega)
    have hmk : m < tw_k W := by omega
    obtain ⟨a1, a2⟩ := f3 m (Nat.le_refl _) hmk
    have b5 : G1 5 4 = (tw_k W : Int) := by rw [f1 5 (by omega) (by omega) (by omega), c4]
    have e6 := sg_rnd h m hh (by omega)
    have en := sg_inc1 m (by omega)
    have hin := td_pos_in (ce := tw_ce W m) (wy := tw_wy W m) ⟨by omega, by omega⟩ (by omega)
    have bm : (0 : Int) ≤ (m : Int) ∧ (m : Int) < 6 := by omega
    have b6 : 0 ≤ sg_iadd (sg_imul (h : Int) 6) (m : Int) ∧ sg_iadd (sg_imul (h : Int) 6) (m : Int) < 144 := by rw [e6]; omega
    have next : ∀ (G2 : SgM), (∀ c : Int, c ≠ 22 → c ≠ 23 → c ≠ 26 → ∀ i, G2 c i = G1 c i) → (∀ i : Int, i ≠ (m : Int) → G2 22 i = G1 22 i ∧ G2 23 i = G1 23 i) → (∀ i : Int, i ≠ (h : Int) * 6 + (m : Int) → G2 26 i = G1 26 i) →
        G2 22 m = td_c W h m → G2 23 m = td_stp (td_w W h m) → G2 26 ((h : Int) * 6 + (m : Int)) = td_c W h m → sg_Wp 0 N (d + 1) m_D_walk 2 [(0, 2, 21), (1, 0, (h : Int)), (2, 0, ((m + 1 : Nat) : Int))] [] G2 Q := by
      intro G2 g1 g2 g3 v1 v2 v3
      refine c_D_walk_l21 hN hW hh c4 post r (m + 1) (by omega) G2 (fun c x1 x2 x3 i => (g1 c x1 x2 x3 i).trans (f1 c x1 x2 x3 i)) (fun p hpm => ?_) (fun p h1 h2 => ?_) (fun i hi => (g3 i (by omega)).trans (f4 i hi))
      · by_cases e : p = m
        · subst e; exact ⟨v1, v2, v3⟩
        · obtain ⟨x1, x2⟩ := g2 p (by omega)
          rw [x1, x2, g3 _ (by omega)]
          exact f2 p (by omega)
      · obtain ⟨x1, x2⟩ := g2 p (by omega)
        rw [x1, x2]
        exact f3 p (by omega) h2
    refine g_D_walk_21_2 hN ⟨fun q => absurd q (by rw [b5]; omega), fun _ => ⟨fun q => ⟨bm, b6, ?_⟩, fun q => ⟨bm, bm, fun q2 => ⟨bm, bm, bm, bm, b6, ?_⟩, fun q2 => ⟨bm, bm, bm, bm, bm, bm, b6, ?_⟩⟩⟩⟩
    · have h0 : h = 0 := by omega
      subst h0
      rw [e6, en, a1]
      refine next _ (fun c x1 x2 x3 i => sg_upc x3) (fun i hi => ⟨sg_upc (by omega), sg_upc (by omega)⟩) (fun i hi => sg_upi hi) (by rw [sg_upc (by omega)]; exact a1) (by rw [sg_upc (by omega)]; exact a2) sg_up_at
    · obtain ⟨h', rfl⟩ : ∃ h', h = h' + 1 := ⟨h - 1, by omega⟩
      have hin := hin h'
      have ec : td_c W (h' + 1 - 1) m = (td_pos (tw_ce W m) (tw_wy W m) h').1 := rfl
      have ew : td_w W (h' + 1 - 1) m = (td_pos (tw_ce W m) (tw_wy W m) h').2 := rfl
      have ec2 : td_c W (h' + 1) m = (if (if ((td_pos (tw_ce W m) (tw_wy W m) h').1 = 9 ∧ (td_pos (tw_ce W m) (tw_wy W m) h').2 = 0) ∨ ((td_pos (tw_ce W m) (tw_wy W m) h').1 = 0 ∧ (td_pos (tw_ce W m) (tw_wy W m) h').2 = 1) then 1 - (td_pos (tw_ce W m) (tw_wy W m) h').2 else (td_pos (tw_ce W m) (tw_wy W m) h').2) = 0 then (td_pos (tw_ce W m) (tw_wy W m) h').1 + 1 else (td_pos (tw_ce W m) (tw_wy W m) h').1 - 1) := rfl
      have ew2 : td_w W (h' + 1) m = (if ((td_pos (tw_ce W m) (tw_wy W m) h').1 = 9 ∧ (td_pos (tw_ce W m) (tw_wy W m) h').2 = 0) ∨ ((td_pos (tw_ce W m) (tw_wy W m) h').1 = 0 ∧ (td_pos (tw_ce W m) (tw_wy W m) h').2 = 1) then 1 - (td_pos (tw_ce W m) (tw_wy W m) h').2 else (td_pos (tw_ce W m) (tw_wy W m) h').2) := rfl
      rw [ec] at a1
      rw [ew] at a2
      generalize (td_pos (tw_ce W m) (tw_wy W m) h').1 = c at *
      generalize (td_pos (tw_ce W m) (tw_wy W m) h').2 = w at *
      rw [e6, en]
      simp only [sg_up_at]
      rw [a1, a2] at q2 ⊢
      rcases hin.2 with e | e <;> subst e
      · have e1 : td_stp 0 = 1 := rfl
        rw [e1] at q2 ⊢ a2
        rw [sg_iadd_eq (by omega) (by omega)] at q2 ⊢
        have h9 : ¬ c = 9 := by omega
        have h9' : td_w W (h' + 1) m = 0 := by rw [ew2]; simp [h9]
        have h9'' : td_c W (h' + 1) m = c + 1 := by rw [ec2]; simp [h9]
        exact next _ (fun c x1 x2 x3 i => by simp (disch := omega) only [sg_up_at, sg_upc, sg_upi]) (fun i hi => ⟨by simp (disch := omega) only [sg_up_at, sg_upc, sg_upi], by simp (disch := omega) only [sg_up_at, sg_upc, sg_upi]⟩) (fun i hi => by simp (disch := omega) only [sg_up_at, sg_upc, sg_upi]) (by simp (disch := omega) only [sg_up_at, sg_upc, sg_upi]; rw [h9'']) (by simp (disch := omega) only [sg_up_at, sg_upc, sg_upi]; rw [a2, h9']; rfl) (by simp (disch := omega) only [sg_up_at, sg_upc, sg_upi]; rw [h9''])
      · have e1 : td_stp 1 = -1 := rfl
        rw [e1] at q2 ⊢ a2
        rw [sg_iadd_eq (by omega) (by omega)] at q2 ⊢
        have h9 : ¬ c = 0 := by omega
        have h9' : td_w W (h' + 1) m = 1 := by rw [ew2]; simp [h9]
        have h9'' : td_c W (h' + 1) m = c + -1 := by rw [ec2]; simp [h9]; omega
        exact next _ (fun c x1 x2 x3 i => by simp (disch := omega) only [sg_up_at, sg_upc, sg_upi]) (fun i hi => ⟨by simp (disch := omega) only [sg_up_at, sg_upc, sg_upi], by simp (disch := omega) only [sg_up_at, sg_upc, sg_upi]⟩) (fun i hi => by simp (disch := omega) only [sg_up_at, sg_upc, sg_upi]) (by simp (disch := omega) only [sg_up_at, sg_upc, sg_upi]; rw [h9'']) (by simp (disch := omega) only [sg_up_at, sg_upc, sg_upi]; rw [a2, h9']; rfl) (by simp (disch := omega) only [sg_up_at, sg_upc, sg_upi]; rw [h9''])
    · obtain ⟨h', rfl⟩ : ∃ h', h = h' + 1 := ⟨h - 1, by omega⟩
      have hin := hin h'
      have ec : td_c W (h' + 1 - 1) m = (td_pos (tw_ce W m) (tw_wy W m) h').1 := rfl
      have ew : td_w W (h' + 1 - 1) m = (td_pos (tw_ce W m) (tw_wy W m) h').2 := rfl
      have ec2 : td_c W (h' + 1) m = (if (if ((td_pos (tw_ce W m) (tw_wy W m) h').1 = 9 ∧ (td_pos (tw_ce W m) (tw_wy W m) h').2 = 0) ∨ ((td_pos (tw_ce W m) (tw_wy W m) h').1 = 0 ∧ (td_pos (tw_ce W m) (tw_wy W m) h').2 = 1) then 1 - (td_pos (tw_ce W m) (tw_wy W m) h').2 else (td_pos (tw_ce W m) (tw_wy W m) h').2) = 0 then (td_pos (tw_ce W m) (tw_wy W m) h').1 + 1 else (td_pos (tw_ce W m) (tw_wy W m) h').1 - 1) := rfl
      have ew2 : td_w W (h' + 1) m = (if ((td_pos (tw_ce W m) (tw_wy W m) h').1 = 9 ∧ (td_pos (tw_ce W m) (tw_wy W m) h').2 = 0) ∨ ((td_pos (tw_ce W m) (tw_wy W m) h').1 = 0 ∧ (td_pos (tw_ce W m) (tw_wy W m) h').2 = 1) then 1 - (td_pos (tw_ce W m) (tw_wy W m) h').2 else (td_pos (tw_ce W m) (tw_wy W m) h').2) := rfl
      rw [ec] at a1
      rw [ew] at a2
      generalize (td_pos (tw_ce W m) (tw_wy W m) h').1 = c at *
      generalize (td_pos (tw_ce W m) (tw_wy W m) h').2 = w at *
      rw [e6, en]
      simp only [sg_up_at]
      rw [a1, a2] at q2 ⊢
      rcases hin.2 with e | e <;> subst e
      · have e1 : td_stp 0 = 1 := rfl
        rw [e1] at q2 ⊢ a2
        rw [sg_iadd_eq (by omega) (by omega)] at q2
        have h9 : c = 9 := by omega
        subst h9
        have h9' : td_w W (h' + 1) m = 1 := by rw [ew2]; rfl
        have h9'' : td_c W (h' + 1) m = 8 := by rw [ec2]; rfl
        have e2 : sg_ineg 1 = -1 := by decide +kernel
        have e3 : sg_iadd 9 (-1) = 8 := by decide +kernel
        rw [e2, e3]
        exact next _ (fun c x1 x2 x3 i => by simp (disch := omega) only [sg_up_at, sg_upc, sg_upi]) (fun i hi => ⟨by simp (disch := omega) only [sg_up_at, sg_upc, sg_upi], by simp (disch := omega) only [sg_up_at, sg_upc, sg_upi]⟩) (fun i hi => by simp (disch := omega) only [sg_up_at, sg_upc, sg_upi]) (by simp (disch := omega) only [sg_up_at, sg_upc, sg_upi]; rw [h9'']) (by simp (disch := omega) only [sg_up_at, sg_upc, sg_upi]; rw [h9']; rfl) (by simp (disch := omega) only [sg_up_at, sg_upc, sg_upi]; rw [h9''])
      · have e1 : td_stp 1 = -1 := rfl
        rw [e1] at q2 ⊢ a2
        rw [sg_iadd_eq (by omega) (by omega)] at q2
        have h9 : c = 0 := by omega
        subst h9
        have h9' : td_w W (h' + 1) m = 0 := by rw [ew2]; rfl
        have h9'' : td_c W (h' + 1) m = 1 := by rw [ec2]; rfl
        have e2 : sg_ineg (-1) = 1 := by decide +kernel
        have e3 : sg_iadd 0 1 = 1 := by decide +kernel
        rw [e2, e3]
        exact next _ (fun c x1 x2 x3 i => by simp (disch := omega) only [sg_up_at, sg_upc, sg_upi]) (fun i hi => ⟨by simp (disch := omega) only [sg_up_at, sg_upc, sg_upi], by simp (disch := omega) only [sg_up_at, sg_upc, sg_upi]⟩) (fun i hi => by simp (disch := omega) only [sg_up_at, sg_upc, sg_upi]) (by simp (disch := omega) only [sg_up_at, sg_upc, sg_upi]; rw [h9'']) (by simp (disch := omega) only [sg_up_at, sg_upc, sg_upi]; rw [h9']; rfl) (by simp (disch := omega) only [sg_up_at, sg_upc, sg_upi]; rw [h9''])
theorem c_D_walk_21 {d N : Nat} (hN : 44 ≤ N) {W : TW} (hW : TWok W) {h : Nat} (hh : h < 24) {G : SgM} {Q : Int → SgM → Prop} (c4 : G 5 4 = (tw_k W : Int)) (h1 : ∀ p : Nat, p < tw_k W → G 22 p = td_c W (h - 1) p ∧ G 23 p = td_stp (td_w W (h - 1) p))
    (post : ∀ G', (∀ c : Int, c ≠ 22 → c ≠ 23 → c ≠ 26 → ∀ i, G' c i = G c i) → (∀ p : Nat, p < tw_k W → G' 22 p = td_c W h p ∧ G' 23 p = td_stp (td_w W h p) ∧ G' 26 ((h : Int) * 6 + (p : Int)) = td_c W h p) →
      (∀ i : Int, (i < (h : Int) * 6 ∨ (h : Int) * 6 + 6 ≤ i) → G' 26 i = G 26 i) → Q 0 G') : sg_Wp 0 N (d + 1) m_D_walk 0 [(0, 2, 21), (1, 0, (h : Int))] [] G Q :=
  g_D_walk_21_0 hN (c_D_walk_l21 hN hW hh c4 post (tw_k W) 0 (Nat.zero_add _) G (fun _ _ _ _ _ => rfl) (fun p hp => absurd hp (Nat.not_lt_zero _)) (fun p _ hp => h1 p hp) (fun _ _ => rfl))
theorem c_D_sneeze_21 {d N : Nat} (hN : 44 ≤ N) {W : TW} (hW : TWok W) {Y : TY} {h : Nat} (hh : h < 24) {G : SgM} {Q : Int → SgM → Prop} (c4 : G 5 4 = (tw_k W : Int)) (cY : cw_Y Y G)
    (h1 : ∀ p : Nat, p < tw_k W → G 22 p = td_c W h p ∧ G 24 p = td_cold W Y h p) (post : Q 0 (sg_up G 30 (h : Int) (sg_mk (td_sn W Y h) (tw_k W) : Int))) : sg_Wp 0 N (d + 1) m_D_sneeze 0 [(0, 2, 21), (1, 0, (h : Int))] [] G Q := by
  have hk := hW.2.1
  obtain ⟨y1, y2, y3⟩ := cY h hh
  have bh : (0 : Int) ≤ (h : Int) ∧ (h : Int) < 24 := by omega
  have loop : ∀ (r m : Nat), m + r = tw_k W → sg_Wp 0 N (d + 1) m_D_sneeze 4 [(0, 2, 21), (1, 0, (h : Int)), (2, 0, (sg_mk (fun p => Y.2.2 h || Y.1 h (td_c W h p).toNat || decide (((h : Int) + 1) % td_cold W Y h p = 0)) m : Int)), (3, 0, (m : Int))] [] G Q := by
    intro r
    induction r with
    | zero =>
      intro m hm
      refine g_D_sneeze_21_4 hN ⟨fun _ => ⟨bh, bh, ?_⟩, fun q => absurd (by rw [c4]; omega) q⟩
      rw [y2, sg_mk_andn (by omega) (by omega), show m = tw_k W by omega]
      exact post
    | succ r ih =>
      intro m hm
      have hmk : m < tw_k W := by omega
      have bm : (0 : Int) ≤ (m : Int) ∧ (m : Int) < 6 := by omega
      obtain ⟨a1, a2⟩ := h1 m hmk
      have hp := hW.2.2.2 m hmk
      have hin := (td_pos_in (ce := tw_ce W m) (wy := tw_wy W m) ⟨by omega, by omega⟩ (by omega) h).1
      have hin : 0 ≤ td_c W h m ∧ td_c W h m ≤ 9 := hin
      have hcd := td_cold_in (Y := Y) (W := W) (p := m) ⟨by omega, by omega⟩ h
      have en := sg_inc1 m (by omega)
      have ec : td_c W h m = (((td_c W h m).toNat : Nat) : Int) := by omega
      have ih := ih (m + 1) (by omega)
      have yes : (Y.2.2 h || Y.1 h (td_c W h m).toNat || decide (((h : Int) + 1) % td_cold W Y h m = 0)) = true → sg_Wp 0 N (d + 1) m_D_sneeze 4 [(0, 2, 21), (1, 0, (h : Int)), (2, 0, sg_ior (sg_mk (fun p => Y.2.2 h || Y.1 h (td_c W h p).toNat || decide (((h : Int) + 1) % td_cold W Y h p = 0)) m : Int) (sg_ishl 1 (m : Int))), (3, 0, sg_iadd (m : Int) 1)] [] G Q := by
        intro e
        rw [sg_mk_t (f := fun p => Y.2.2 h || Y.1 h (td_c W h p).toNat || decide (((h : Int) + 1) % td_cold W Y h p = 0)) (by omega) e, en]
        exact ih
      refine g_D_sneeze_21_4 hN ⟨fun q => absurd q (by rw [c4]; omega), fun _ => ⟨bh, fun q => ?_, fun q => ⟨bh, bm, fun q2 => ?_, fun q2 => ⟨bm, fun q3 => ?_, fun q3 => ?_⟩⟩⟩⟩
      · refine yes ?_
        rw [y3] at q
        unfold td_one at q
        cases hf : Y.2.2 h with
        | true => rfl
        | false => rw [hf] at q; exact absurd rfl q
      · refine yes ?_
        rw [y1, a1, ec, sg_mk_hb (by omega) (by omega)] at q2
        rw [q2.2]
        simp
      · refine yes ?_
        rw [a2, sg_iadd_eq (by omega) (by omega), sg_irem_eq (by omega) (by omega) (by omega) (by omega)] at q3
        rw [decide_eq_true q3.2]
        simp
      · have e : (Y.2.2 h || Y.1 h (td_c W h m).toNat || decide (((h : Int) + 1) % td_cold W Y h m = 0)) = false := by
          rw [y3] at q
          rw [y1, a1, ec, sg_mk_hb (by omega) (by omega)] at q2
          rw [a2, sg_iadd_eq (by omega) (by omega), sg_irem_eq (by omega) (by omega) (by omega) (by omega)] at q3
          have k1 : Y.2.2 h = false := by
            cases hf : Y.2.2 h with
            | true => rw [hf] at q; exact absurd (by decide) q
            | false => rfl
          have k2 : Y.1 h (td_c W h m).toNat = false := by
            cases hf : Y.1 h (td_c W h m).toNat with
            | true => exact absurd ⟨by omega, hf⟩ q2
            | false => rfl
          have k3 : ¬ ((h : Int) + 1) % td_cold W Y h m = 0 := fun z => q3 ⟨by omega, z⟩
          rw [k1, k2, decide_eq_false k3]
          rfl
        rw [← sg_mk_f (f := fun p => Y.2.2 h || Y.1 h (td_c W h p).toNat || decide (((h : Int) + 1) % td_cold W Y h p = 0)) e, en]
        exact ih
  exact g_D_sneeze_21_0 hN (loop (tw_k W) 0 (Nat.zero_add _))

theorem c_D_walk_l32 {d N : Nat} (hN : 44 ≤ N) {W : TW} (hW : TWok W) {h : Nat} (hh : h < 24) {G0 : SgM} {Q : Int → SgM → Prop} (c4 : G0 5 4 = (tw_k W : Int))
    (post : ∀ G', (∀ c : Int, c ≠ 33 → c ≠ 34 → c ≠ 37 → ∀ i, G' c i = G0 c i) → (∀ p : Nat, p < tw_k W → G' 33 p = td_c W h p ∧ G' 34 p = td_stp (td_w W h p) ∧ G' 37 ((h : Int) * 6 + (p : Int)) = td_c W h p) →
      (∀ i : Int, (i < (h : Int) * 6 ∨ (h : Int) * 6 + 6 ≤ i) → G' 37 i = G0 37 i) → Q 0 G') :
    ∀ (r m : Nat), m + r = tw_k W → ∀ G1 : SgM, (∀ c : Int, c ≠ 33 → c ≠ 34 → c ≠ 37 → ∀ i, G1 c i = G0 c i) → (∀ p : Nat, p < m → G1 33 p = td_c W h p ∧ G1 34 p = td_stp (td_w W h p) ∧ G1 37 ((h : Int) * 6 + (p : Int)) = td_c W h p) →
      (∀ p : Nat, m ≤ p → p < tw_k W → G1 33 p = td_c W (h - 1) p ∧ G1 34 p = td_stp (td_w W (h - 1) p)) → (∀ i : Int, (i < (h : Int) * 6 ∨ (h : Int) * 6 + 6 ≤ i) → G1 37 i = G0 37 i) →
      sg_Wp 0 N (d + 1) m_D_walk 2 [(0, 2, 32), (1, 0, (h : Int)), (2, 0, (m : Int))] [] G1 Q
  | 0, m, hm, G1, f1, f2, f3, f4 => by
    refine g_D_walk_32_2 hN ⟨fun _ => post G1 f1 (fun p hp => f2 p (by omega)) f4, fun q => absurd ?_ q⟩
    rw [f1 5 (by omega) (by omega) (by omega), c4]
    omega
  | r + 1, m, hm, G1, f1, f2, f3, f4 => by
    have hk := hW.2.1
    have hp := hW.2.2.2 m (by omega)
    have hmk : m < tw_k W := by omega
    obtain ⟨a1, a2⟩ := f3 m (Nat.le_refl _) hmk
    have b5 : G1 5 4 = (tw_k W : Int) := by rw [f1 5 (by omega) (by omega) (by omega), c4]
    have e6 := sg_rnd h m hh (by omega)
    have en := sg_inc1 m (by omega)
    have hin := td_pos_in (ce := tw_ce W m) (wy := tw_wy W m) ⟨by omega, by omega⟩ (by omega)
    have bm : (0 : Int) ≤ (m : Int) ∧ (m : Int) < 6 := by omega
    have b6 : 0 ≤ sg_iadd (sg_imul (h : Int) 6) (m : Int) ∧ sg_iadd (sg_imul (h : Int) 6) (m : Int) < 144 := by rw [e6]; omega
    have next : ∀ (G2 : SgM), (∀ c : Int, c ≠ 33 → c ≠ 34 → c ≠ 37 → ∀ i, G2 c i = G1 c i) → (∀ i : Int, i ≠ (m : Int) → G2 33 i = G1 33 i ∧ G2 34 i = G1 34 i) → (∀ i : Int, i ≠ (h : Int) * 6 + (m : Int) → G2 37 i = G1 37 i) →
        G2 33 m = td_c W h m → G2 34 m = td_stp (td_w W h m) → G2 37 ((h : Int) * 6 + (m : Int)) = td_c W h m → sg_Wp 0 N (d + 1) m_D_walk 2 [(0, 2, 32), (1, 0, (h : Int)), (2, 0, ((m + 1 : Nat) : Int))] [] G2 Q := by
      intro G2 g1 g2 g3 v1 v2 v3
      refine c_D_walk_l32 hN hW hh c4 post r (m + 1) (by omega) G2 (fun c x1 x2 x3 i => (g1 c x1 x2 x3 i).trans (f1 c x1 x2 x3 i)) (fun p hpm => ?_) (fun p h1 h2 => ?_) (fun i hi => (g3 i (by omega)).trans (f4 i hi))
      · by_cases e : p = m
        · subst e; exact ⟨v1, v2, v3⟩
        · obtain ⟨x1, x2⟩ := g2 p (by omega)
          rw [x1, x2, g3 _ (by omega)]
          exact f2 p (by omega)
      · obtain ⟨x1, x2⟩ := g2 p (by omega)
        rw [x1, x2]
        exact f3 p (by omega) h2
    refine g_D_walk_32_2 hN ⟨fun q => absurd q (by rw [b5]; omega), fun _ => ⟨fun q => ⟨bm, b6, ?_⟩, fun q => ⟨bm, bm, fun q2 => ⟨bm, bm, bm, bm, b6, ?_⟩, fun q2 => ⟨bm, bm, bm, bm, bm, bm, b6, ?_⟩⟩⟩⟩
    · have h0 : h = 0 := by omega
      subst h0
      rw [e6, en, a1]
      refine next _ (fun c x1 x2 x3 i => sg_upc x3) (fun i hi => ⟨sg_upc (by omega), sg_upc (by omega)⟩) (fun i hi => sg_upi hi) (by rw [sg_upc (by omega)]; exact a1) (by rw [sg_upc (by omega)]; exact a2) sg_up_at
    · obtain ⟨h', rfl⟩ : ∃ h', h = h' + 1 := ⟨h - 1, by omega⟩
      have hin := hin h'
      have ec : td_c W (h' + 1 - 1) m = (td_pos (tw_ce W m) (tw_wy W m) h').1 := rfl
      have ew : td_w W (h' + 1 - 1) m = (td_pos (tw_ce W m) (tw_wy W m) h').2 := rfl
      have ec2 : td_c W (h' + 1) m = (if (if ((td_pos (tw_ce W m) (tw_wy W m) h').1 = 9 ∧ (td_pos (tw_ce W m) (tw_wy W m) h').2 = 0) ∨ ((td_pos (tw_ce W m) (tw_wy W m) h').1 = 0 ∧ (td_pos (tw_ce W m) (tw_wy W m) h').2 = 1) then 1 - (td_pos (tw_ce W m) (tw_wy W m) h').2 else (td_pos (tw_ce W m) (tw_wy W m) h').2) = 0 then (td_pos (tw_ce W m) (tw_wy W m) h').1 + 1 else (td_pos (tw_ce W m) (tw_wy W m) h').1 - 1) := rfl
      have ew2 : td_w W (h' + 1) m = (if ((td_pos (tw_ce W m) (tw_wy W m) h').1 = 9 ∧ (td_pos (tw_ce W m) (tw_wy W m) h').2 = 0) ∨ ((td_pos (tw_ce W m) (tw_wy W m) h').1 = 0 ∧ (td_pos (tw_ce W m) (tw_wy W m) h').2 = 1) then 1 - (td_pos (tw_ce W m) (tw_wy W m) h').2 else (td_pos (tw_ce W m) (tw_wy W m) h').2) := rfl
      rw [ec] at a1
      rw [ew] at a2
      generalize (td_pos (tw_ce W m) (tw_wy W m) h').1 = c at *
      generalize (td_pos (tw_ce W m) (tw_wy W m) h').2 = w at *
      rw [e6, en]
      simp only [sg_up_at]
      rw [a1, a2] at q2 ⊢
      rcases hin.2 with e | e <;> subst e
      · have e1 : td_stp 0 = 1 := rfl
        rw [e1] at q2 ⊢ a2
        rw [sg_iadd_eq (by omega) (by omega)] at q2 ⊢
        have h9 : ¬ c = 9 := by omega
        have h9' : td_w W (h' + 1) m = 0 := by rw [ew2]; simp [h9]
        have h9'' : td_c W (h' + 1) m = c + 1 := by rw [ec2]; simp [h9]
        exact next _ (fun c x1 x2 x3 i => by simp (disch := omega) only [sg_up_at, sg_upc, sg_upi]) (fun i hi => ⟨by simp (disch := omega) only [sg_up_at, sg_upc, sg_upi], by simp (disch := omega) only [sg_up_at, sg_upc, sg_upi]⟩) (fun i hi => by simp (disch := omega) only [sg_up_at, sg_upc, sg_upi]) (by simp (disch := omega) only [sg_up_at, sg_upc, sg_upi]; rw [h9'']) (by simp (disch := omega) only [sg_up_at, sg_upc, sg_upi]; rw [a2, h9']; rfl) (by simp (disch := omega) only [sg_up_at, sg_upc, sg_upi]; rw [h9''])
      · have e1 : td_stp 1 = -1 := rfl
        rw [e1] at q2 ⊢ a2
        rw [sg_iadd_eq (by omega) (by omega)] at q2 ⊢
        have h9 : ¬ c = 0 := by omega
        have h9' : td_w W (h' + 1) m = 1 := by rw [ew2]; simp [h9]
        have h9'' : td_c W (h' + 1) m = c + -1 := by rw [ec2]; simp [h9]; omega
        exact next _ (fun c x1 x2 x3 i => by simp (disch := omega) only [sg_up_at, sg_upc, sg_upi]) (fun i hi => ⟨by simp (disch := omega) only [sg_up_at, sg_upc, sg_upi], by simp (disch := omega) only [sg_up_at, sg_upc, sg_upi]⟩) (fun i hi => by simp (disch := omega) only [sg_up_at, sg_upc, sg_upi]) (by simp (disch := omega) only [sg_up_at, sg_upc, sg_upi]; rw [h9'']) (by simp (disch := omega) only [sg_up_at, sg_upc, sg_upi]; rw [a2, h9']; rfl) (by simp (disch := omega) only [sg_up_at, sg_upc, sg_upi]; rw [h9''])
    · obtain ⟨h', rfl⟩ : ∃ h', h = h' + 1 := ⟨h - 1, by omega⟩
      have hin := hin h'
      have ec : td_c W (h' + 1 - 1) m = (td_pos (tw_ce W m) (tw_wy W m) h').1 := rfl
      have ew : td_w W (h' + 1 - 1) m = (td_pos (tw_ce W m) (tw_wy W m) h').2 := rfl
      have ec2 : td_c W (h' + 1) m = (if (if ((td_pos (tw_ce W m) (tw_wy W m) h').1 = 9 ∧ (td_pos (tw_ce W m) (tw_wy W m) h').2 = 0) ∨ ((td_pos (tw_ce W m) (tw_wy W m) h').1 = 0 ∧ (td_pos (tw_ce W m) (tw_wy W m) h').2 = 1) then 1 - (td_pos (tw_ce W m) (tw_wy W m) h').2 else (td_pos (tw_ce W m) (tw_wy W m) h').2) = 0 then (td_pos (tw_ce W m) (tw_wy W m) h').1 + 1 else (td_pos (tw_ce W m) (tw_wy W m) h').1 - 1) := rfl
      have ew2 : td_w W (h' + 1) m = (if ((td_pos (tw_ce W m) (tw_wy W m) h').1 = 9 ∧ (td_pos (tw_ce W m) (tw_wy W m) h').2 = 0) ∨ ((td_pos (tw_ce W m) (tw_wy W m) h').1 = 0 ∧ (td_pos (tw_ce W m) (tw_wy W m) h').2 = 1) then 1 - (td_pos (tw_ce W m) (tw_wy W m) h').2 else (td_pos (tw_ce W m) (tw_wy W m) h').2) := rfl
      rw [ec] at a1
      rw [ew] at a2
      generalize (td_pos (tw_ce W m) (tw_wy W m) h').1 = c at *
      generalize (td_pos (tw_ce W m) (tw_wy W m) h').2 = w at *
      rw [e6, en]
      simp only [sg_up_at]
      rw [a1, a2] at q2 ⊢
      rcases hin.2 with e | e <;> subst e
      · have e1 : td_stp 0 = 1 := rfl
        rw [e1] at q2 ⊢ a2
        rw [sg_iadd_eq (by omega) (by omega)] at q2
        have h9 : c = 9 := by omega
        subst h9
        have h9' : td_w W (h' + 1) m = 1 := by rw [ew2]; rfl
        have h9'' : td_c W (h' + 1) m = 8 := by rw [ec2]; rfl
        have e2 : sg_ineg 1 = -1 := by decide +kernel
        have e3 : sg_iadd 9 (-1) = 8 := by decide +kernel
        rw [e2, e3]
        exact next _ (fun c x1 x2 x3 i => by simp (disch := omega) only [sg_up_at, sg_upc, sg_upi]) (fun i hi => ⟨by simp (disch := omega) only [sg_up_at, sg_upc, sg_upi], by simp (disch := omega) only [sg_up_at, sg_upc, sg_upi]⟩) (fun i hi => by simp (disch := omega) only [sg_up_at, sg_upc, sg_upi]) (by simp (disch := omega) only [sg_up_at, sg_upc, sg_upi]; rw [h9'']) (by simp (disch := omega) only [sg_up_at, sg_upc, sg_upi]; rw [h9']; rfl) (by simp (disch := omega) only [sg_up_at, sg_upc, sg_upi]; rw [h9''])
      · have e1 : td_stp 1 = -1 := rfl
        rw [e1] at q2 ⊢ a2
        rw [sg_iadd_eq (by omega) (by omega)] at q2
        have h9 : c = 0 := by omega
        subst h9
        have h9' : td_w W (h' + 1) m = 0 := by rw [ew2]; rfl
        have h9'' : td_c W (h' + 1) m = 1 := by rw [ec2]; rfl
        have e2 : sg_ineg (-1) = 1 := by decide +kernel
        have e3 : sg_iadd 0 1 = 1 := by decide +kernel
        rw [e2, e3]
        exact next _ (fun c x1 x2 x3 i => by simp (disch := omega) only [sg_up_at, sg_upc, sg_upi]) (fun i hi => ⟨by simp (disch := omega) only [sg_up_at, sg_upc, sg_upi], by simp (disch := omega) only [sg_up_at, sg_upc, sg_upi]⟩) (fun i hi => by simp (disch := omega) only [sg_up_at, sg_upc, sg_upi]) (by simp (disch := omega) only [sg_up_at, sg_upc, sg_upi]; rw [h9'']) (by simp (disch := omega) only [sg_up_at, sg_upc, sg_upi]; rw [h9']; rfl) (by simp (disch := omega) only [sg_up_at, sg_upc, sg_upi]; rw [h9''])
theorem c_D_walk_32 {d N : Nat} (hN : 44 ≤ N) {W : TW} (hW : TWok W) {h : Nat} (hh : h < 24) {G : SgM} {Q : Int → SgM → Prop} (c4 : G 5 4 = (tw_k W : Int)) (h1 : ∀ p : Nat, p < tw_k W → G 33 p = td_c W (h - 1) p ∧ G 34 p = td_stp (td_w W (h - 1) p))
    (post : ∀ G', (∀ c : Int, c ≠ 33 → c ≠ 34 → c ≠ 37 → ∀ i, G' c i = G c i) → (∀ p : Nat, p < tw_k W → G' 33 p = td_c W h p ∧ G' 34 p = td_stp (td_w W h p) ∧ G' 37 ((h : Int) * 6 + (p : Int)) = td_c W h p) →
      (∀ i : Int, (i < (h : Int) * 6 ∨ (h : Int) * 6 + 6 ≤ i) → G' 37 i = G 37 i) → Q 0 G') : sg_Wp 0 N (d + 1) m_D_walk 0 [(0, 2, 32), (1, 0, (h : Int))] [] G Q :=
  g_D_walk_32_0 hN (c_D_walk_l32 hN hW hh c4 post (tw_k W) 0 (Nat.zero_add _) G (fun _ _ _ _ _ => rfl) (fun p hp => absurd hp (Nat.not_lt_zero _)) (fun p _ hp => h1 p hp) (fun _ _ => rfl))
theorem c_D_sneeze_32 {d N : Nat} (hN : 44 ≤ N) {W : TW} (hW : TWok W) {Y : TY} {h : Nat} (hh : h < 24) {G : SgM} {Q : Int → SgM → Prop} (c4 : G 5 4 = (tw_k W : Int)) (cY : cw_Y Y G)
    (h1 : ∀ p : Nat, p < tw_k W → G 33 p = td_c W h p ∧ G 35 p = td_cold W Y h p) (post : Q 0 (sg_up G 41 (h : Int) (sg_mk (td_sn W Y h) (tw_k W) : Int))) : sg_Wp 0 N (d + 1) m_D_sneeze 0 [(0, 2, 32), (1, 0, (h : Int))] [] G Q := by
  have hk := hW.2.1
  obtain ⟨y1, y2, y3⟩ := cY h hh
  have bh : (0 : Int) ≤ (h : Int) ∧ (h : Int) < 24 := by omega
  have loop : ∀ (r m : Nat), m + r = tw_k W → sg_Wp 0 N (d + 1) m_D_sneeze 4 [(0, 2, 32), (1, 0, (h : Int)), (2, 0, (sg_mk (fun p => Y.2.2 h || Y.1 h (td_c W h p).toNat || decide (((h : Int) + 1) % td_cold W Y h p = 0)) m : Int)), (3, 0, (m : Int))] [] G Q := by
    intro r
    induction r with
    | zero =>
      intro m hm
      refine g_D_sneeze_32_4 hN ⟨fun _ => ⟨bh, bh, ?_⟩, fun q => absurd (by rw [c4]; omega) q⟩
      rw [y2, sg_mk_andn (by omega) (by omega), show m = tw_k W by omega]
      exact post
    | succ r ih =>
      intro m hm
      have hmk : m < tw_k W := by omega
      have bm : (0 : Int) ≤ (m : Int) ∧ (m : Int) < 6 := by omega
      obtain ⟨a1, a2⟩ := h1 m hmk
      have hp := hW.2.2.2 m hmk
      have hin := (td_pos_in (ce := tw_ce W m) (wy := tw_wy W m) ⟨by omega, by omega⟩ (by omega) h).1
      have hin : 0 ≤ td_c W h m ∧ td_c W h m ≤ 9 := hin
      have hcd := td_cold_in (Y := Y) (W := W) (p := m) ⟨by omega, by omega⟩ h
      have en := sg_inc1 m (by omega)
      have ec : td_c W h m = (((td_c W h m).toNat : Nat) : Int) := by omega
      have ih := ih (m + 1) (by omega)
      have yes : (Y.2.2 h || Y.1 h (td_c W h m).toNat || decide (((h : Int) + 1) % td_cold W Y h m = 0)) = true → sg_Wp 0 N (d + 1) m_D_sneeze 4 [(0, 2, 32), (1, 0, (h : Int)), (2, 0, sg_ior (sg_mk (fun p => Y.2.2 h || Y.1 h (td_c W h p).toNat || decide (((h : Int) + 1) % td_cold W Y h p = 0)) m : Int) (sg_ishl 1 (m : Int))), (3, 0, sg_iadd (m : Int) 1)] [] G Q := by
        intro e
        rw [sg_mk_t (f := fun p => Y.2.2 h || Y.1 h (td_c W h p).toNat || decide (((h : Int) + 1) % td_cold W Y h p = 0)) (by omega) e, en]
        exact ih
      refine g_D_sneeze_32_4 hN ⟨fun q => absurd q (by rw [c4]; omega), fun _ => ⟨bh, fun q => ?_, fun q => ⟨bh, bm, fun q2 => ?_, fun q2 => ⟨bm, fun q3 => ?_, fun q3 => ?_⟩⟩⟩⟩
      · refine yes ?_
        rw [y3] at q
        unfold td_one at q
        cases hf : Y.2.2 h with
        | true => rfl
        | false => rw [hf] at q; exact absurd rfl q
      · refine yes ?_
        rw [y1, a1, ec, sg_mk_hb (by omega) (by omega)] at q2
        rw [q2.2]
        simp
      · refine yes ?_
        rw [a2, sg_iadd_eq (by omega) (by omega), sg_irem_eq (by omega) (by omega) (by omega) (by omega)] at q3
        rw [decide_eq_true q3.2]
        simp
      · have e : (Y.2.2 h || Y.1 h (td_c W h m).toNat || decide (((h : Int) + 1) % td_cold W Y h m = 0)) = false := by
          rw [y3] at q
          rw [y1, a1, ec, sg_mk_hb (by omega) (by omega)] at q2
          rw [a2, sg_iadd_eq (by omega) (by omega), sg_irem_eq (by omega) (by omega) (by omega) (by omega)] at q3
          have k1 : Y.2.2 h = false := by
            cases hf : Y.2.2 h with
            | true => rw [hf] at q; exact absurd (by decide) q
            | false => rfl
          have k2 : Y.1 h (td_c W h m).toNat = false := by
            cases hf : Y.1 h (td_c W h m).toNat with
            | true => exact absurd ⟨by omega, hf⟩ q2
            | false => rfl
          have k3 : ¬ ((h : Int) + 1) % td_cold W Y h m = 0 := fun z => q3 ⟨by omega, z⟩
          rw [k1, k2, decide_eq_false k3]
          rfl
        rw [← sg_mk_f (f := fun p => Y.2.2 h || Y.1 h (td_c W h p).toNat || decide (((h : Int) + 1) % td_cold W Y h p = 0)) e, en]
        exact ih
  exact g_D_sneeze_32_0 hN (loop (tw_k W) 0 (Nat.zero_add _))
