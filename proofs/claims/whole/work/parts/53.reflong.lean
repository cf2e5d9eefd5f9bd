/-! THE REFERENCE: the longest -/
/-- how the reference keeps the longest: 8 * hour + post, and how long -/
def cm_lg (t : Int × Int × Int) (v2 v3 : Int) : Prop := v3 = t.1 ∧ ((t = (-1, -1, -1) ∧ v2 = -1) ∨ (0 ≤ t.1 ∧ (0 ≤ t.2.1 ∧ t.2.1 < 24) ∧ (0 ≤ t.2.2 ∧ t.2.2 < 8) ∧ v2 = 8 * t.2.1 + t.2.2))
theorem td_lq_s (W : TW) (Y : TY) (h : Nat) (s : Int × Int × Int) (q : Nat) : td_lq W Y h s (q + 1) = if (td_lq W Y h s q).1 < td_std W Y q h then (td_std W Y q h, (h : Int), (q : Int)) else td_lq W Y h s q := rfl
theorem c_M_longestBy {d : Nat} {W : TW} {Y : TY} (hW : TWok W) {w : Int} (hw : 0 ≤ w ∧ w ≤ 2) {G : SgM} {Q : Int → SgM → Prop} (p0 : G 200 7 = (tw_n W : Int)) (r : cm_R W Y 24 G)
    (post : Q (if w = 0 then (td_lg W Y 24).2.1 else if w = 1 then (td_lg W Y 24).2.2 else (td_lg W Y 24).1) G) : sg_Wp 200 228 (d + 1) m_M_longestBy 0 [(0, 2, 200), (1, 0, w)] [] G Q := by
  have hn := hW.1
  have outer : ∀ (u m : Nat), m + u = 24 → ∀ v2 v3 : Int, cm_lg (td_lg W Y m) v2 v3 → sg_Wp 200 228 (d + 1) m_M_longestBy 7 [(0, 2, 200), (1, 0, w), (2, 0, v2), (3, 0, v3), (4, 0, (m : Int))] [] G Q := by
    intro u
    induction u with
    | zero =>
      intro m hm v2 v3 hv
      have em : m = 24 := by omega
      subst em
      generalize td_lg W Y 24 = t at hv post
      obtain ⟨h3, hv⟩ := hv
      subst h3
      refine g_M_longestBy_7 ⟨fun _ => ⟨fun z => ?_, fun z => ?_⟩, fun z => absurd (by omega) z⟩
      · rcases hv with ⟨_, e⟩ | ⟨b0, b1, b2, e⟩
        · exact absurd e z
        · refine ⟨fun y => ⟨fun x => ?_, fun x => ?_⟩, fun y => ?_⟩
          · rw [if_neg y, if_neg x] at post
            exact post
          · rw [if_neg y, if_pos (Decidable.not_not.mp x)] at post
            rw [e, sg_irem_eq (by omega) (by omega) (by omega) (by omega)]
            have : (8 * t.2.1 + t.2.2) % 8 = t.2.2 := by omega
            rw [this]
            exact post
          · rw [if_pos (Decidable.not_not.mp y)] at post
            rw [e, sg_idiv_eq (by omega) (by omega) (by omega) (by omega)]
            have : (8 * t.2.1 + t.2.2) / 8 = t.2.1 := by omega
            rw [this]
            exact post
      · rcases hv with ⟨e, _⟩ | ⟨b0, b1, b2, e⟩
        · subst e
          have : (if w = 0 then ((-1, -1, -1) : Int × Int × Int).2.1 else if w = 1 then ((-1, -1, -1) : Int × Int × Int).2.2 else ((-1, -1, -1) : Int × Int × Int).1) = -1 := by
            split
            · rfl
            · split <;> rfl
          rw [this] at post
          exact post
        · exact absurd (Decidable.not_not.mp z) (by omega)
    | succ u ih =>
      intro m hm v2 v3 hv
      refine g_M_longestBy_7 ⟨fun z => absurd z (by omega), fun _ => ?_⟩
      have inner : ∀ (x j : Nat), j + x = tw_n W → ∀ v2 v3 : Int, cm_lg (td_lq W Y m (td_lg W Y m) j) v2 v3 → sg_Wp 200 228 (d + 1) m_M_longestBy 17 [(0, 2, 200), (1, 0, w), (2, 0, v2), (3, 0, v3), (4, 0, (m : Int)), (5, 0, (j : Int))] [] G Q := by
        intro x
        induction x with
        | zero =>
          intro j hj v2 v3 hv
          have ej : j = tw_n W := by omega
          subst ej
          refine g_M_longestBy_17 ⟨fun _ => ?_, fun z => absurd (by rw [p0]; omega) z⟩
          rw [sg_inc1 m (by omega)]
          exact ih (m + 1) (by omega) v2 v3 hv
        | succ x ihx =>
          intro j hj v2 v3 hv
          have e8 : sg_iadd (sg_imul 8 (m : Int)) (j : Int) = 8 * (m : Int) + (j : Int) := by rw [sg_imul_eq (by omega) (by omega), sg_iadd_eq (by omega) (by omega)]
          have g := ((r m (by omega)).2 j (by omega)).1
          have bs := td_std_in W Y j m
          have ls := td_lq_s W Y m (td_lg W Y m) j
          refine g_M_longestBy_17 ⟨fun z => absurd z (by rw [p0]; omega), fun _ => ⟨by rw [e8]; omega, fun z => ?_, fun z => ?_⟩⟩
          · rw [e8, g] at z ⊢
            rw [hv.1] at z
            rw [if_neg (by omega)] at ls
            rw [sg_inc1 j (by omega), show sg_grt (td_std W Y j m) v3 = v3 from if_neg (by rw [hv.1]; omega)]
            exact ihx (j + 1) (by omega) v2 v3 (by rw [ls]; exact hv)
          · rw [e8, g] at z ⊢
            rw [hv.1] at z
            rw [if_pos (by omega)] at ls
            rw [sg_inc1 j (by omega), show sg_grt (td_std W Y j m) v3 = td_std W Y j m from if_pos (by rw [hv.1]; omega)]
            refine ihx (j + 1) (by omega) _ _ ?_
            rw [ls]
            exact ⟨rfl, Or.inr ⟨bs.1, ⟨show (0 : Int) ≤ (m : Int) by omega, show (m : Int) < 24 by omega⟩, ⟨show (0 : Int) ≤ (j : Int) by omega, show (j : Int) < 8 by omega⟩, rfl⟩⟩
      exact inner (tw_n W) 0 (by omega) v2 v3 hv
  exact g_M_longestBy_0 (outer 24 0 (by omega) (-1) (-1) ⟨rfl, Or.inl ⟨rfl, rfl⟩⟩)
