/-! PLANS: dust, hush -/
theorem cw_Y.pep {Y : TY} {h v : Nat} (hh : h < 24) (hv : v < 10) {G G' : SgM} (cY : cw_Y Y G) (f : ∀ c : Int, 18 ≤ c → c ≤ 20 → ∀ i, (c ≠ 18 ∨ i ≠ (h : Int)) → G' c i = G c i) (e : G' 18 h = sg_ior (G 18 h) (sg_ishl 1 (v : Int))) : cw_Y (ty_pep Y h v) G' := by
  intro a ha
  have y := cY a ha
  refine ⟨?_, ?_, ?_⟩
  · by_cases ea : a = h
    · subst ea
      rw [e, y.1, sg_mk_set (by omega) hv]
      congr 1
      exact sg_mk_congr (fun i _ => by simp [ty_pep])
    · rw [f 18 (by omega) (by omega) _ (Or.inr (by omega)), y.1]
      congr 1
      exact sg_mk_congr (fun i _ => by simp [ty_pep, ea])
  · rw [f 19 (by omega) (by omega) _ (Or.inl (by omega))]; exact y.2.1
  · rw [f 20 (by omega) (by omega) _ (Or.inl (by omega))]; exact y.2.2
theorem cw_Y.hold {Y : TY} {h v : Nat} (hh : h < 24) (hv : v < 10) {G G' : SgM} (cY : cw_Y Y G) (f : ∀ c : Int, 18 ≤ c → c ≤ 20 → ∀ i, (c ≠ 19 ∨ i ≠ (h : Int)) → G' c i = G c i) (e : G' 19 h = sg_ior (G 19 h) (sg_ishl 1 (v : Int))) : cw_Y (ty_hold Y h v) G' := by
  intro a ha
  have y := cY a ha
  refine ⟨?_, ?_, ?_⟩
  · rw [f 18 (by omega) (by omega) _ (Or.inl (by omega))]; exact y.1
  · by_cases ea : a = h
    · subst ea
      rw [e, y.2.1, sg_mk_set (by omega) hv]
      congr 1
      exact sg_mk_congr (fun i _ => by simp [ty_hold])
    · rw [f 19 (by omega) (by omega) _ (Or.inr (by omega)), y.2.1]
      congr 1
      exact sg_mk_congr (fun i _ => by simp [ty_hold, ea])
  · rw [f 20 (by omega) (by omega) _ (Or.inl (by omega))]; exact y.2.2

theorem c_P_dust {d N : Nat} (hN : 75 ≤ N) {W : TW} {Y : TY} (hW : TWok W) {h : Nat} (hh : h < 24) {G : SgM} {Q : Int → SgM → Prop} (cW : cw_W W G) (cH : cw_H W G) (cY : cw_Y Y G)
    (post : ∀ G', cP_f G G' → G' 45 1 = (tp_dust W Y h).1 → G' 45 2 = (tp_dust W Y h).2 → Q 0 G') : sg_Wp 0 N (d + 3) m_P_planDust 0 [(0, 2, 45), (1, 0, (h : Int))] [] G Q := by
  have hk := hW.2.1
  have hN4 : 44 ≤ N := Nat.le_trans (by decide) hN
  have loop : ∀ (r m : Nat), m + r = 10 → ∀ G1 : SgM, (∀ c : Int, (c < 32 ∨ 42 < c) → c ≠ 45 → c ≠ 18 → ∀ i, G1 c i = G c i) → (∀ i : Int, i ≠ (h : Int) → G1 18 i = G 18 i) → (∀ i : Int, i ≠ 1 → i ≠ 2 → G1 45 i = G 45 i) →
      (0 < m → G1 45 1 = (ta_max (fun v => td_all W (ty_pep Y h v) 24) m).1 ∧ G1 45 2 = (ta_max (fun v => td_all W (ty_pep Y h v) 24) m).2) →
      sg_Wp 0 N (d + 3) m_P_planDust 15 [(0, 2, 45), (1, 0, (h : Int)), (2, 0, G 18 h), (3, 0, (m : Int))] [] G1 Q := by
    intro r
    induction r with
    | zero =>
      intro m hm G1 f1 f2 f3 f4
      have em : m = 10 := by omega
      subst em
      have f4 := f4 (by first | exact trivial | omega)
      refine g_P_planDust_45_15 hN ⟨fun _ => ⟨by omega, post _ ⟨fun c x1 x2 i => ?_, fun i x1 x2 => by rw [sg_upc (by omega)]; exact f3 i x1 x2⟩ (by rw [sg_upc (by omega)]; exact f4.1) (by rw [sg_upc (by omega)]; exact f4.2)⟩, fun q => absurd (by omega) q⟩
      by_cases e : c = 18
      · subst e
        by_cases ei : i = (h : Int)
        · subst ei; exact sg_up_at
        · rw [sg_upi ei]; exact f2 i ei
      · rw [sg_upc e]; exact f1 c x1 x2 e i
    | succ r ih =>
      intro m hm G1 f1 f2 f3 f4
      have cW' : cw_W W (sg_up G1 18 (h : Int) (sg_ior (G 18 h) (sg_ishl 1 (m : Int)))) := cW.fr (fun c x1 x2 i => by rw [sg_upc (by omega)]; exact f1 c (by omega) (by omega) (by omega) i)
      have cH' : cw_H W (sg_up G1 18 (h : Int) (sg_ior (G 18 h) (sg_ishl 1 (m : Int)))) := cH.fr (fun i => by rw [sg_upc (by omega)]; exact f1 8 (by omega) (by omega) (by omega) i)
      have cY' : cw_Y (ty_pep Y h m) (sg_up G1 18 (h : Int) (sg_ior (G 18 h) (sg_ishl 1 (m : Int)))) := cY.pep hh (by omega) (fun c x1 x2 i x3 => by
        by_cases e : c = 18
        · subst e
          rw [sg_upi (by omega)]; exact f2 i (by omega)
        · rw [sg_upc e]; exact f1 c (by omega) (by omega) e i) sg_up_at
      refine g_P_planDust_45_15 hN ⟨fun q => absurd q (by omega), fun _ => ⟨by omega, c_D_pass_32 (d := d) hN4 hW cW' cH' cY' (fun G2 a res => ?_)⟩⟩
      rw [sg_inc1 m (by omega)]
      have v2 : G2 32 12 = td_all W (ty_pep Y h m) 24 := res.2.1
      have k1 : ∀ c : Int, (c < 32 ∨ 42 < c) → c ≠ 45 → c ≠ 18 → ∀ i, G2 c i = G c i := fun c x1 x2 x3 i => by rw [a c (by omega), sg_upc x3]; exact f1 c x1 x2 x3 i
      have k2 : ∀ i : Int, i ≠ (h : Int) → G2 18 i = G 18 i := fun i x => by rw [a 18 (by omega), sg_upi x]; exact f2 i x
      have k3 : ∀ i : Int, G2 45 i = G1 45 i := fun i => by rw [a 45 (by omega), sg_upc (by omega)]
      have ih := ih (m + 1) (by omega)
      rw [ta_max_s] at ih
      have take : (m = 0 ∨ (ta_max (fun v => td_all W (ty_pep Y h v) 24) m).2 < td_all W (ty_pep Y h m) 24) → sg_Wp 0 N (d + 3) m_P_planDust 15 [(0, 2, 45), (1, 0, (h : Int)), (2, 0, G 18 h), (3, 0, ((m + 1 : Nat) : Int))] [] (sg_up (sg_up G2 45 1 (m : Int)) 45 2 (G2 32 12)) Q := by
        intro hb
        rw [if_pos hb] at ih
        refine ih _ (fun c x1 x2 x3 i => by rw [sg_upc x2, sg_upc x2]; exact k1 c x1 x2 x3 i) (fun i x => by rw [sg_upc (by omega), sg_upc (by omega)]; exact k2 i x) (fun i x1 x2 => by rw [sg_upi x2, sg_upi x1, k3]; exact f3 i x1 x2) (fun _ => ⟨by rw [sg_upi (by omega), sg_up_at], by rw [sg_up_at]; exact v2⟩)
      refine ⟨fun q => take (Or.inl (by omega)), fun q => ⟨fun q2 => ?_, fun q2 => ?_⟩⟩
      · have f4 := f4 (by first | exact trivial | omega)
        rw [k3, v2, f4.2] at q2
        rw [if_neg (by omega)] at ih
        exact ih G2 k1 k2 (fun i x1 x2 => by rw [k3]; exact f3 i x1 x2) (fun _ => by rw [k3, k3]; exact f4)
      · have f4 := f4 (by first | exact trivial | omega)
        rw [k3, v2, f4.2] at q2
        exact take (Or.inr (by omega))
  refine g_P_planDust_45_0 hN ⟨by omega, ?_⟩
  exact loop 10 0 (by omega) _ (fun c x1 x2 x3 i => rfl) (fun i x => rfl) (fun i x1 x2 => rfl) (fun q => absurd q (Nat.lt_irrefl 0))

theorem c_P_hush {d N : Nat} (hN : 75 ≤ N) {W : TW} {Y : TY} (hW : TWok W) {h : Nat} (hh : h < 24) {G : SgM} {Q : Int → SgM → Prop} (cW : cw_W W G) (cH : cw_H W G) (cY : cw_Y Y G)
    (post : ∀ G', cP_f G G' → G' 45 1 = (tp_hush W Y h).1 → G' 45 2 = (tp_hush W Y h).2 → Q 0 G') : sg_Wp 0 N (d + 3) m_P_planHush 0 [(0, 2, 45), (1, 0, (h : Int))] [] G Q := by
  have hk := hW.2.1
  have hN4 : 44 ≤ N := Nat.le_trans (by decide) hN
  have loop : ∀ (r m : Nat), m + r = tw_k W → ∀ G1 : SgM, (∀ c : Int, (c < 32 ∨ 42 < c) → c ≠ 45 → c ≠ 19 → ∀ i, G1 c i = G c i) → (∀ i : Int, i ≠ (h : Int) → G1 19 i = G 19 i) → (∀ i : Int, i ≠ 1 → i ≠ 2 → G1 45 i = G 45 i) →
      (True → G1 45 1 = (ta_min (fun v => td_all W (ty_hold Y h v) 24) m).1 ∧ G1 45 2 = (ta_min (fun v => td_all W (ty_hold Y h v) 24) m).2) →
      sg_Wp 0 N (d + 3) m_P_planHush 25 [(0, 2, 45), (1, 0, (h : Int)), (2, 0, G 19 h), (3, 0, (m : Int))] [] G1 Q := by
    intro r
    induction r with
    | zero =>
      intro m hm G1 f1 f2 f3 f4
      have em : m = tw_k W := by omega
      subst em
      have f4 := f4 (by first | exact trivial | omega)
      refine g_P_planHush_45_25 hN ⟨fun _ => ⟨by omega, post _ ⟨fun c x1 x2 i => ?_, fun i x1 x2 => by rw [sg_upc (by omega)]; exact f3 i x1 x2⟩ (by rw [sg_upc (by omega)]; exact f4.1) (by rw [sg_upc (by omega)]; exact f4.2)⟩, fun q => absurd (by rw [f1 5 (by omega) (by omega) (by omega), cW.2.1]; omega) q⟩
      by_cases e : c = 19
      · subst e
        by_cases ei : i = (h : Int)
        · subst ei; exact sg_up_at
        · rw [sg_upi ei]; exact f2 i ei
      · rw [sg_upc e]; exact f1 c x1 x2 e i
    | succ r ih =>
      intro m hm G1 f1 f2 f3 f4
      have cW' : cw_W W (sg_up G1 19 (h : Int) (sg_ior (G 19 h) (sg_ishl 1 (m : Int)))) := cW.fr (fun c x1 x2 i => by rw [sg_upc (by omega)]; exact f1 c (by omega) (by omega) (by omega) i)
      have cH' : cw_H W (sg_up G1 19 (h : Int) (sg_ior (G 19 h) (sg_ishl 1 (m : Int)))) := cH.fr (fun i => by rw [sg_upc (by omega)]; exact f1 8 (by omega) (by omega) (by omega) i)
      have cY' : cw_Y (ty_hold Y h m) (sg_up G1 19 (h : Int) (sg_ior (G 19 h) (sg_ishl 1 (m : Int)))) := cY.hold hh (by omega) (fun c x1 x2 i x3 => by
        by_cases e : c = 19
        · subst e
          rw [sg_upi (by omega)]; exact f2 i (by omega)
        · rw [sg_upc e]; exact f1 c (by omega) (by omega) e i) sg_up_at
      refine g_P_planHush_45_25 hN ⟨fun q => absurd q (by rw [f1 5 (by omega) (by omega) (by omega), cW.2.1]; omega), fun _ => ⟨by omega, c_D_pass_32 (d := d) hN4 hW cW' cH' cY' (fun G2 a res => ?_)⟩⟩
      rw [sg_inc1 m (by omega)]
      have v2 : G2 32 12 = td_all W (ty_hold Y h m) 24 := res.2.1
      have k1 : ∀ c : Int, (c < 32 ∨ 42 < c) → c ≠ 45 → c ≠ 19 → ∀ i, G2 c i = G c i := fun c x1 x2 x3 i => by rw [a c (by omega), sg_upc x3]; exact f1 c x1 x2 x3 i
      have k2 : ∀ i : Int, i ≠ (h : Int) → G2 19 i = G 19 i := fun i x => by rw [a 19 (by omega), sg_upi x]; exact f2 i x
      have k3 : ∀ i : Int, G2 45 i = G1 45 i := fun i => by rw [a 45 (by omega), sg_upc (by omega)]
      have ih := ih (m + 1) (by omega)
      rw [ta_min_s] at ih
      have take : (m = 0 ∨ td_all W (ty_hold Y h m) 24 < (ta_min (fun v => td_all W (ty_hold Y h v) 24) m).2) → sg_Wp 0 N (d + 3) m_P_planHush 25 [(0, 2, 45), (1, 0, (h : Int)), (2, 0, G 19 h), (3, 0, ((m + 1 : Nat) : Int))] [] (sg_up (sg_up G2 45 1 (m : Int)) 45 2 (G2 32 12)) Q := by
        intro hb
        rw [if_pos hb] at ih
        refine ih _ (fun c x1 x2 x3 i => by rw [sg_upc x2, sg_upc x2]; exact k1 c x1 x2 x3 i) (fun i x => by rw [sg_upc (by omega), sg_upc (by omega)]; exact k2 i x) (fun i x1 x2 => by rw [sg_upi x2, sg_upi x1, k3]; exact f3 i x1 x2) (fun _ => ⟨by rw [sg_upi (by omega), sg_up_at], by rw [sg_up_at]; exact v2⟩)
      refine ⟨fun q => take (Or.inl (by omega)), fun q => ⟨fun q2 => ?_, fun q2 => ?_⟩⟩
      · have f4 := f4 (by first | exact trivial | omega)
        rw [k3, v2, f4.2] at q2
        rw [if_neg (by omega)] at ih
        exact ih G2 k1 k2 (fun i x1 x2 => by rw [k3]; exact f3 i x1 x2) (fun _ => by rw [k3, k3]; exact f4)
      · have f4 := f4 (by first | exact trivial | omega)
        rw [k3, v2, f4.2] at q2
        exact take (Or.inr (by omega))
  refine g_P_planHush_45_0 hN ⟨by omega, ?_⟩
  exact loop (tw_k W) 0 (by omega) _ (fun c x1 x2 x3 i => by rw [sg_upc x2, sg_upc x2]) (fun i x => by rw [sg_upc (by omega), sg_upc (by omega)]) (fun i x1 x2 => by rw [sg_upi x2, sg_upi x1]) (fun _ => ⟨by rw [sg_upi (by omega), sg_up_at]; rfl, by rw [sg_up_at]; rfl⟩)
