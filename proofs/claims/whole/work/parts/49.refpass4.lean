/-! THE REFERENCE: an hour passes, colds and what is kept -/
def cm_D4 (W : TW) (Y : TY) (h m : Nat) (G : SgM) : Prop := ∀ p : Nat, p < m → G 212 p = td_cold W Y (h + 1) p ∧ G 218 (8 * (h : Int) + (p : Int)) = td_c W h p ∧ G 219 (8 * (h : Int) + (p : Int)) = td_one (td_sn W Y h p) ∧ G 220 (8 * (h : Int) + (p : Int)) = td_oft W Y p (h + 1) ∧ G 221 (8 * (h : Int) + (p : Int)) = td_cold W Y (h + 1) p
def cm_f4 (h : Nat) (G G1 : SgM) : Prop := (∀ c : Int, c ≠ 212 → c ≠ 218 → c ≠ 219 → c ≠ 220 → c ≠ 221 → ∀ i, G1 c i = G c i) ∧ ∀ c : Int, 218 ≤ c → c ≤ 221 → ∀ i : Int, (i < 8 * (h : Int) ∨ 8 * (h : Int) + 8 ≤ i) → G1 c i = G c i
theorem c_M_pass4 {d : Nat} {W : TW} {Y : TY} (hW : TWok W) {h : Nat} (hh : h < 24) {G : SgM} {Q : Int → SgM → Prop} (q0 : G 200 9 = (tw_k W : Int)) (cc : ∀ p : Nat, p < tw_k W → G 210 p = td_c W h p) (cs : ∀ p : Nat, p < tw_k W → G 213 p = td_one (td_sn W Y h p))
    (cd : ∀ p : Nat, p < tw_k W → G 212 p = td_cold W Y h p) (cf : ∀ p : Nat, p < tw_k W → G 214 p = td_oft W Y p (h + 1))
    (next : ∀ G', cm_f4 h G G' → cm_D4 W Y h (tw_k W) G' → Q 0 G') :
    sg_Wp 200 228 (d + 3) m_M_passes 194 [(0, 2, 200), (1, 0, (h : Int)), (2, 0, 0)] [] G Q := by
  have hk := hW.2.1
  have loop : ∀ (u m : Nat), m + u = tw_k W → ∀ G1 : SgM, cm_f4 h G G1 → cm_D4 W Y h m G1 → (∀ p : Nat, m ≤ p → p < tw_k W → G1 212 p = td_cold W Y h p) →
      sg_Wp 200 228 (d + 3) m_M_passes 194 [(0, 2, 200), (1, 0, (h : Int)), (2, 0, (m : Int))] [] G1 Q := by
    intro u
    induction u with
    | zero =>
      intro m hm G1 f1 f2 f3
      have em : m = tw_k W := by omega
      subst em
      exact g_M_passes_194 ⟨fun _ => next G1 f1 f2, fun z => absurd (by rw [f1.1 200 (by omega) (by omega) (by omega) (by omega) (by omega), q0]; omega) z⟩
    | succ u ih =>
      intro m hm G1 f1 f2 f3
      have hm' : m < tw_k W := by omega
      have bm : 0 ≤ (m : Int) ∧ (m : Int) < 6 := by omega
      have x := f3 m (Nat.le_refl m) hm'
      have bw := hW.2.2.2 m hm'
      have b1 := td_cold_in (Y := Y) (p := m) ⟨bw.2.2.2.2.2.2.1, bw.2.2.2.2.2.2.2⟩ h
      have e8 : sg_iadd (sg_imul 8 (h : Int)) (m : Int) = 8 * (h : Int) + (m : Int) := by rw [sg_imul_eq (by omega) (by omega), sg_iadd_eq (by omega) (by omega)]
      have bi : 0 ≤ sg_iadd (sg_imul 8 (h : Int)) (m : Int) ∧ sg_iadd (sg_imul 8 (h : Int)) (m : Int) < 192 := by rw [e8]; omega
      have en := sg_inc1 m (by omega)
      have g10 : G1 210 m = td_c W h m := by rw [f1.1 210 (by omega) (by omega) (by omega) (by omega) (by omega)]; exact cc m hm'
      have g13 : G1 213 m = td_one (td_sn W Y h m) := by rw [f1.1 213 (by omega) (by omega) (by omega) (by omega) (by omega)]; exact cs m hm'
      have g14 : G1 214 m = td_oft W Y m (h + 1) := by rw [f1.1 214 (by omega) (by omega) (by omega) (by omega) (by omega)]; exact cf m hm'
      have go : ∀ s : Int, s = td_one (td_sn W Y h m) → sg_Wp 200 228 (d + 3) m_M_passes 194 [(0, 2, 200), (1, 0, (h : Int)), (2, 0, ((m + 1 : Nat) : Int))] [] (sg_up (sg_up (sg_up (sg_up (sg_up G1 212 (m : Int) (td_cold W Y (h + 1) m)) 218 (8 * (h : Int) + (m : Int)) (td_c W h m)) 219 (8 * (h : Int) + (m : Int)) s) 220 (8 * (h : Int) + (m : Int)) (td_oft W Y m (h + 1))) 221 (8 * (h : Int) + (m : Int)) (td_cold W Y (h + 1) m)) Q := by
        intro s hs
        subst hs
        refine ih (m + 1) (by omega) _ ⟨fun c x1 x2 x3 x4 x5 i => by rw [sg_upc x5, sg_upc x4, sg_upc x3, sg_upc x2, sg_upc x1]; exact f1.1 c x1 x2 x3 x4 x5 i, fun c x1 x2 i hi => ?_⟩ (fun p hp => ?_) (fun p h1 h2 => by rw [sg_upc (by omega), sg_upc (by omega), sg_upc (by omega), sg_upc (by omega), sg_upi (by omega)]; exact f3 p (by omega) h2)
        · have g := f1.2 c x1 x2 i hi
          unfold sg_up
          rw [if_neg (by omega), if_neg (by omega), if_neg (by omega), if_neg (by omega), if_neg (by omega)]
          exact g
        · by_cases e : p = m
          · subst e
            refine ⟨?_, ?_, ?_, ?_, ?_⟩
            · rw [sg_upc (by omega), sg_upc (by omega), sg_upc (by omega), sg_upc (by omega), sg_up_at]
            · rw [sg_upc (by omega), sg_upc (by omega), sg_upc (by omega), sg_up_at]
            · rw [sg_upc (by omega), sg_upc (by omega), sg_up_at]
            · rw [sg_upc (by omega), sg_up_at]
            · rw [sg_up_at]
          · have g := f2 p (by omega)
            refine ⟨?_, ?_, ?_, ?_, ?_⟩
            · rw [sg_upc (by omega), sg_upc (by omega), sg_upc (by omega), sg_upc (by omega), sg_upi (by omega)]; exact g.1
            · rw [sg_upc (by omega), sg_upc (by omega), sg_upc (by omega), sg_upi (by omega), sg_upc (by omega)]; exact g.2.1
            · rw [sg_upc (by omega), sg_upc (by omega), sg_upi (by omega), sg_upc (by omega), sg_upc (by omega)]; exact g.2.2.1
            · rw [sg_upc (by omega), sg_upi (by omega), sg_upc (by omega), sg_upc (by omega), sg_upc (by omega)]; exact g.2.2.2.1
            · rw [sg_upi (by omega), sg_upc (by omega), sg_upc (by omega), sg_upc (by omega), sg_upc (by omega)]; exact g.2.2.2.2
      have ecs := td_cold_s W Y h m
      refine g_M_passes_194 ⟨fun z => absurd z (by rw [f1.1 200 (by omega) (by omega) (by omega) (by omega) (by omega), q0]; omega), fun _ => ⟨bm, c_M_isCaught (Y := Y) (h := h) hW hm' (by rw [f1.1 200 (by omega) (by omega) (by omega) (by omega) (by omega)]; exact q0) (fun p hp => by rw [f1.1 210 (by omega) (by omega) (by omega) (by omega) (by omega)]; exact cc p hp) (fun p hp => by rw [f1.1 213 (by omega) (by omega) (by omega) (by omega) (by omega)]; exact cs p hp)
        ⟨fun z => ⟨bm, bm, bi, bm, fun y => ⟨bi, bm, bi, bm, bi, ?_⟩, fun y => ⟨bi, bm, bi, bm, bi, ?_⟩⟩, fun z => ⟨bm, fun w => ⟨bm, bm, bi, bm, fun y => ⟨bi, bm, bi, bm, bi, ?_⟩, fun y => ⟨bi, bm, bi, bm, bi, ?_⟩⟩, fun w => ⟨bm, bm, bi, bm, fun y => ⟨bi, bm, bi, bm, bi, ?_⟩, fun y => ⟨bi, bm, bi, bm, bi, ?_⟩⟩⟩⟩⟩⟩
      · rw [g13] at y
        rw [if_neg (fun q => by rw [td_one0.mp z] at q; exact absurd q.1 (by decide))] at ecs
        rw [sg_up_at, e8, en, x, g10, g14, sg_isub_eq (by omega) (by omega), Int.sub_zero, ← ecs]
        exact go _ y.symm
      · rw [g13] at y
        rw [if_neg (fun q => by rw [td_one0.mp z] at q; exact absurd q.1 (by decide))] at ecs
        rw [sg_up_at, e8, en, x, g10, g14, sg_isub_eq (by omega) (by omega), Int.sub_zero, ← ecs]
        exact go _ (by rw [td_one_n y]; rfl)
      · rw [g13] at y
        rw [x] at w
        rw [if_neg (fun q => absurd q.2 (by omega))] at ecs
        rw [sg_up_at, e8, en, x, g10, g14, sg_isub_eq (by omega) (by omega), Int.sub_zero, ← ecs]
        exact go _ y.symm
      · rw [g13] at y
        rw [x] at w
        rw [if_neg (fun q => absurd q.2 (by omega))] at ecs
        rw [sg_up_at, e8, en, x, g10, g14, sg_isub_eq (by omega) (by omega), Int.sub_zero, ← ecs]
        exact go _ (by rw [td_one_n y]; rfl)
      · rw [g13] at y
        rw [x] at w
        rw [if_pos ⟨td_one_n z, by omega⟩] at ecs
        rw [sg_up_at, e8, en, x, g10, g14, sg_isub_eq (by omega) (by omega), ← ecs]
        exact go _ y.symm
      · rw [g13] at y
        rw [x] at w
        rw [if_pos ⟨td_one_n z, by omega⟩] at ecs
        rw [sg_up_at, e8, en, x, g10, g14, sg_isub_eq (by omega) (by omega), ← ecs]
        exact go _ (by rw [td_one_n y]; rfl)
  exact loop (tw_k W) 0 (by omega) G ⟨fun _ _ _ _ _ _ _ => rfl, fun _ _ _ _ _ => rfl⟩ (fun p hp => absurd hp (Nat.not_lt_zero _)) (fun p _ hp => cd p hp)
