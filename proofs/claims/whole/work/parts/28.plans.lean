/-! PLANS: stroll, dust, hush -/
def tw_setc (W : TW) (p : Nat) (v : Int) : TW := (W.1, (W.2.1, W.2.2.1, (fun i => if i = p then v else W.2.2.2.1 i), W.2.2.2.2.1, W.2.2.2.2.2))
def tw_sets (W : TW) (p : Nat) (v : Int) : TW := (W.1, (W.2.1, (fun i => if i = p then v else W.2.2.1 i), W.2.2.2.1, W.2.2.2.2.1, W.2.2.2.2.2))
def tw_setk (W : TW) (p : Nat) (v : Int) : TW := (W.1, (W.2.1, W.2.2.1, W.2.2.2.1, W.2.2.2.2.1, (fun i => if i = p then v else W.2.2.2.2.2 i)))
def ty_pep (Y : TY) (h c : Nat) : TY := ((fun a i => Y.1 a i || (decide (a = h) && decide (i = c))), Y.2.1, Y.2.2)
def ty_hold (Y : TY) (h p : Nat) : TY := (Y.1, (fun a i => Y.2.1 a i || (decide (a = h) && decide (i = p))), Y.2.2)
def ta_min (f : Nat → Int) : Nat → Int × Int
  | 0 => (-1, -1)
  | m + 1 => if m = 0 ∨ f m < (ta_min f m).2 then ((m : Int), f m) else ta_min f m
def ta_max (f : Nat → Int) : Nat → Int × Int
  | 0 => (-1, -1)
  | m + 1 => if m = 0 ∨ (ta_max f m).2 < f m then ((m : Int), f m) else ta_max f m
theorem ta_min_s (f : Nat → Int) (m : Nat) : ta_min f (m + 1) = if m = 0 ∨ f m < (ta_min f m).2 then ((m : Int), f m) else ta_min f m := rfl
theorem ta_max_s (f : Nat → Int) (m : Nat) : ta_max f (m + 1) = if m = 0 ∨ (ta_max f m).2 < f m then ((m : Int), f m) else ta_max f m := rfl
theorem tw_setc_ok {W : TW} (hW : TWok W) (p : Nat) {v : Int} (hv : 0 ≤ v ∧ v ≤ 9) : TWok (tw_setc W p v) := by
  refine ⟨hW.1, hW.2.1, hW.2.2.1, fun i hi => ?_⟩
  have b := hW.2.2.2 i hi
  have e : tw_ce (tw_setc W p v) i = if i = p then v else tw_ce W i := rfl
  refine ⟨b.1, b.2.1, ?_, ?_, b.2.2.2.2.1, b.2.2.2.2.2.1, b.2.2.2.2.2.2.1, b.2.2.2.2.2.2.2⟩
  · rw [e]; split <;> omega
  · rw [e]; split <;> omega
theorem tw_sets_ok {W : TW} (hW : TWok W) (p : Nat) {v : Int} (hv : 0 ≤ v ∧ v ≤ 2) : TWok (tw_sets W p v) := by
  refine ⟨hW.1, hW.2.1, hW.2.2.1, fun i hi => ?_⟩
  have b := hW.2.2.2 i hi
  have e : tw_so (tw_sets W p v) i = if i = p then v else tw_so W i := rfl
  refine ⟨?_, ?_, b.2.2⟩
  · rw [e]; split <;> omega
  · rw [e]; split <;> omega
theorem tw_setk_ok {W : TW} (hW : TWok W) (p : Nat) {v : Int} (hv : 1 ≤ v ∧ v ≤ 9) : TWok (tw_setk W p v) := by
  refine ⟨hW.1, hW.2.1, hW.2.2.1, fun i hi => ?_⟩
  have b := hW.2.2.2 i hi
  have e : tw_co (tw_setk W p v) i = if i = p then v else tw_co W i := rfl
  refine ⟨b.1, b.2.1, b.2.2.1, b.2.2.2.1, b.2.2.2.2.1, b.2.2.2.2.2.1, ?_, ?_⟩
  · rw [e]; split <;> omega
  · rw [e]; split <;> omega
theorem cw_W.setc {W : TW} {p : Nat} {v : Int} {G G' : SgM} (h : cw_W W G) (f : ∀ c : Int, 5 ≤ c → c ≤ 12 → ∀ i, (c ≠ 10 ∨ i ≠ (p : Int)) → G' c i = G c i) (e : G' 10 p = v) : cw_W (tw_setc W p v) G' := by
  obtain ⟨h1, h2, h3, h4⟩ := h
  refine ⟨?_, ?_, fun q hq => ?_, fun i hi => ?_⟩
  · rw [f 5 (by omega) (by omega) _ (Or.inl (by omega))]; exact h1
  · rw [f 5 (by omega) (by omega) _ (Or.inl (by omega))]; exact h2
  · rw [f 6 (by omega) (by omega) _ (Or.inl (by omega)), f 7 (by omega) (by omega) _ (Or.inl (by omega))]; exact h3 q hq
  · have x := h4 i hi
    refine ⟨?_, ?_, ?_, ?_⟩
    · rw [f 9 (by omega) (by omega) _ (Or.inl (by omega))]; exact x.1
    · show G' 10 i = if i = p then v else tw_ce W i
      by_cases ei : i = p
      · subst ei; rw [if_pos rfl]; exact e
      · rw [if_neg ei, f 10 (by omega) (by omega) _ (Or.inr (by omega))]; exact x.2.1
    · rw [f 11 (by omega) (by omega) _ (Or.inl (by omega))]; exact x.2.2.1
    · rw [f 12 (by omega) (by omega) _ (Or.inl (by omega))]; exact x.2.2.2
theorem cw_W.sets {W : TW} {p : Nat} {v : Int} {G G' : SgM} (h : cw_W W G) (f : ∀ c : Int, 5 ≤ c → c ≤ 12 → ∀ i, (c ≠ 9 ∨ i ≠ (p : Int)) → G' c i = G c i) (e : G' 9 p = v) : cw_W (tw_sets W p v) G' := by
  obtain ⟨h1, h2, h3, h4⟩ := h
  refine ⟨?_, ?_, fun q hq => ?_, fun i hi => ?_⟩
  · rw [f 5 (by omega) (by omega) _ (Or.inl (by omega))]; exact h1
  · rw [f 5 (by omega) (by omega) _ (Or.inl (by omega))]; exact h2
  · rw [f 6 (by omega) (by omega) _ (Or.inl (by omega)), f 7 (by omega) (by omega) _ (Or.inl (by omega))]; exact h3 q hq
  · have x := h4 i hi
    refine ⟨?_, ?_, ?_, ?_⟩
    · show G' 9 i = if i = p then v else tw_so W i
      by_cases ei : i = p
      · subst ei; rw [if_pos rfl]; exact e
      · rw [if_neg ei, f 9 (by omega) (by omega) _ (Or.inr (by omega))]; exact x.1
    · rw [f 10 (by omega) (by omega) _ (Or.inl (by omega))]; exact x.2.1
    · rw [f 11 (by omega) (by omega) _ (Or.inl (by omega))]; exact x.2.2.1
    · rw [f 12 (by omega) (by omega) _ (Or.inl (by omega))]; exact x.2.2.2
theorem cw_W.setk {W : TW} {p : Nat} {v : Int} {G G' : SgM} (h : cw_W W G) (f : ∀ c : Int, 5 ≤ c → c ≤ 12 → ∀ i, (c ≠ 12 ∨ i ≠ (p : Int)) → G' c i = G c i) (e : G' 12 p = v) : cw_W (tw_setk W p v) G' := by
  obtain ⟨h1, h2, h3, h4⟩ := h
  refine ⟨?_, ?_, fun q hq => ?_, fun i hi => ?_⟩
  · rw [f 5 (by omega) (by omega) _ (Or.inl (by omega))]; exact h1
  · rw [f 5 (by omega) (by omega) _ (Or.inl (by omega))]; exact h2
  · rw [f 6 (by omega) (by omega) _ (Or.inl (by omega)), f 7 (by omega) (by omega) _ (Or.inl (by omega))]; exact h3 q hq
  · have x := h4 i hi
    refine ⟨?_, ?_, ?_, ?_⟩
    · rw [f 9 (by omega) (by omega) _ (Or.inl (by omega))]; exact x.1
    · rw [f 10 (by omega) (by omega) _ (Or.inl (by omega))]; exact x.2.1
    · rw [f 11 (by omega) (by omega) _ (Or.inl (by omega))]; exact x.2.2.1
    · show G' 12 i = if i = p then v else tw_co W i
      by_cases ei : i = p
      · subst ei; rw [if_pos rfl]; exact e
      · rw [if_neg ei, f 12 (by omega) (by omega) _ (Or.inr (by omega))]; exact x.2.2.2
def tp_stroll (W : TW) (Y : TY) (p : Nat) : Int × Int := ta_min (fun v => if tw_n W = 0 then 0 else (td_lg (tw_setc W p (v : Int)) Y 24).1) 10
def tp_dust (W : TW) (Y : TY) (h : Nat) : Int × Int := ta_max (fun v => td_all W (ty_pep Y h v) 24) 10
def tp_hush (W : TW) (Y : TY) (h : Nat) : Int × Int := ta_min (fun v => td_all W (ty_hold Y h v) 24) (tw_k W)
/-- what a plan leaves alone -/
def cP_f (G G' : SgM) : Prop := (∀ c : Int, (c < 32 ∨ 42 < c) → c ≠ 45 → ∀ i, G' c i = G c i) ∧ ∀ i : Int, i ≠ 1 → i ≠ 2 → G' 45 i = G 45 i
theorem c_P_stroll {d N : Nat} (hN : 75 ≤ N) {W : TW} {Y : TY} (hW : TWok W) {p : Nat} (hp : p < tw_k W) {G : SgM} {Q : Int → SgM → Prop} (cW : cw_W W G) (cH : cw_H W G) (cY : cw_Y Y G)
    (post : ∀ G', cP_f G G' → G' 45 1 = (tp_stroll W Y p).1 → G' 45 2 = (tp_stroll W Y p).2 → Q 0 G') : sg_Wp 0 N (d + 3) m_P_planStroll 0 [(0, 2, 45), (1, 0, (p : Int))] [] G Q := by
  have hk := hW.2.1
  have hN4 : 44 ≤ N := Nat.le_trans (by decide) hN
  by_cases n0 : tw_n W = 0
  · refine g_P_planStroll_45_0 hN ⟨fun q => absurd (by rw [cW.1, n0]; rfl) q, fun _ => post _ ⟨fun c x1 x2 i => by rw [sg_upc x2, sg_upc x2], fun i x1 x2 => by rw [sg_upi x2, sg_upi x1]⟩ ?_ ?_⟩
    · rw [sg_upi (by omega), sg_up_at]
      unfold tp_stroll
      simp only [n0, if_true]
      rfl
    · rw [sg_up_at]
      unfold tp_stroll
      simp only [n0, if_true]
      rfl
  · have loop : ∀ (r m : Nat), m + r = 10 → ∀ G1 : SgM, (∀ c : Int, (c < 32 ∨ 42 < c) → c ≠ 45 → c ≠ 10 → ∀ i, G1 c i = G c i) → (∀ i : Int, i ≠ (p : Int) → G1 10 i = G 10 i) → (∀ i : Int, i ≠ 1 → i ≠ 2 → G1 45 i = G 45 i) →
        (0 < m → G1 45 1 = (ta_min (fun v => if tw_n W = 0 then 0 else (td_lg (tw_setc W p (v : Int)) Y 24).1) m).1 ∧ G1 45 2 = (ta_min (fun v => if tw_n W = 0 then 0 else (td_lg (tw_setc W p (v : Int)) Y 24).1) m).2) →
        sg_Wp 0 N (d + 3) m_P_planStroll 39 [(0, 2, 45), (1, 0, (p : Int)), (2, 0, G 10 p), (3, 0, (m : Int))] [] G1 Q := by
      intro r
      induction r with
      | zero =>
        intro m hm G1 f1 f2 f3 f4
        have em : m = 10 := by omega
        subst em
        have f4 := f4 (by omega)
        refine g_P_planStroll_45_39 hN ⟨fun _ => ⟨by omega, post _ ⟨fun c x1 x2 i => ?_, fun i x1 x2 => by rw [sg_upc (by omega)]; exact f3 i x1 x2⟩ (by rw [sg_upc (by omega)]; exact f4.1) (by rw [sg_upc (by omega)]; exact f4.2)⟩, fun q => absurd (by omega) q⟩
        by_cases e : c = 10
        · subst e
          by_cases ei : i = (p : Int)
          · subst ei; exact sg_up_at
          · rw [sg_upi ei]; exact f2 i ei
        · rw [sg_upc e]; exact f1 c x1 x2 e i
      | succ r ih =>
        intro m hm G1 f1 f2 f3 f4
        have cW' : cw_W (tw_setc W p (m : Int)) (sg_up G1 10 (p : Int) (m : Int)) := cW.setc (fun c x1 x2 i x3 => by
          by_cases e : c = 10
          · subst e
            rw [sg_upi (by omega)]; exact f2 i (by omega)
          · rw [sg_upc e]; exact f1 c (by omega) (by omega) e i) sg_up_at
        have cH' : cw_H (tw_setc W p (m : Int)) (sg_up G1 10 (p : Int) (m : Int)) := cw_H.fr (W := W) cH (fun i => by rw [sg_upc (by omega)]; exact f1 8 (by omega) (by omega) (by omega) i)
        have cY' : cw_Y Y (sg_up G1 10 (p : Int) (m : Int)) := cY.fr (fun c x1 x2 i => by rw [sg_upc (by omega)]; exact f1 c (by omega) (by omega) (by omega) i)
        refine g_P_planStroll_45_39 hN ⟨fun q => absurd q (by omega), fun _ => ⟨by omega, c_D_pass_32 (d := d) hN4 (tw_setc_ok hW p (by omega)) cW' cH' cY' (fun G2 a res => ?_)⟩⟩
        rw [sg_inc1 m (by omega)]
        have v2 : G2 32 14 = (if tw_n W = 0 then 0 else (td_lg (tw_setc W p (m : Int)) Y 24).1) := by rw [if_neg n0]; exact res.2.2.2.1
        have k1 : ∀ c : Int, (c < 32 ∨ 42 < c) → c ≠ 45 → c ≠ 10 → ∀ i, G2 c i = G c i := fun c x1 x2 x3 i => by rw [a c (by omega), sg_upc x3]; exact f1 c x1 x2 x3 i
        have k2 : ∀ i : Int, i ≠ (p : Int) → G2 10 i = G 10 i := fun i x => by rw [a 10 (by omega), sg_upi x]; exact f2 i x
        have k3 : ∀ i : Int, G2 45 i = G1 45 i := fun i => by rw [a 45 (by omega), sg_upc (by omega)]
        have ih := ih (m + 1) (by omega)
        rw [ta_min_s] at ih
        have take : (m = 0 ∨ (if tw_n W = 0 then 0 else (td_lg (tw_setc W p (m : Int)) Y 24).1) < (ta_min (fun v => if tw_n W = 0 then 0 else (td_lg (tw_setc W p (v : Int)) Y 24).1) m).2) → sg_Wp 0 N (d + 3) m_P_planStroll 39 [(0, 2, 45), (1, 0, (p : Int)), (2, 0, G 10 p), (3, 0, ((m + 1 : Nat) : Int))] [] (sg_up (sg_up G2 45 1 (m : Int)) 45 2 (G2 32 14)) Q := by
          intro hb
          rw [if_pos hb] at ih
          refine ih _ (fun c x1 x2 x3 i => by rw [sg_upc x2, sg_upc x2]; exact k1 c x1 x2 x3 i) (fun i x => by rw [sg_upc (by omega), sg_upc (by omega)]; exact k2 i x) (fun i x1 x2 => by rw [sg_upi x2, sg_upi x1, k3]; exact f3 i x1 x2) (fun _ => ⟨by rw [sg_upi (by omega), sg_up_at], by rw [sg_up_at]; exact v2⟩)
        refine ⟨fun q => take (Or.inl (by omega)), fun q => ⟨fun q2 => ?_, fun q2 => ?_⟩⟩
        · have f4 := f4 (by omega)
          rw [k3, v2, f4.2] at q2
          rw [if_neg (by omega)] at ih
          exact ih G2 k1 k2 (fun i x1 x2 => by rw [k3]; exact f3 i x1 x2) (fun _ => by rw [k3, k3]; exact f4)
        · have f4 := f4 (by omega)
          rw [k3, v2, f4.2] at q2
          exact take (Or.inr (by omega))
    refine g_P_planStroll_45_0 hN ⟨fun _ => ⟨by omega, ?_⟩, fun q => absurd (by rw [cW.1]; omega) q⟩
    exact loop 10 0 (by omega) _ (fun c x1 x2 x3 i => by rw [sg_upc x2, sg_upc x2]) (fun i x => by rw [sg_upc (by omega), sg_upc (by omega)]) (fun i x1 x2 => by rw [sg_upi x2, sg_upi x1]) (fun q => absurd q (Nat.lt_irrefl 0))
