/-! THE REFERENCE: goes, heard by, caught -/
def td_step (q : Int × Int) : Int × Int :=
  let w := if (q.1 = 9 ∧ q.2 = 0) ∨ (q.1 = 0 ∧ q.2 = 1) then 1 - q.2 else q.2
  (if w = 0 then q.1 + 1 else q.1 - 1, w)
theorem td_pos_s (ce wy : Int) (h : Nat) : td_pos ce wy (h + 1) = td_step (td_pos ce wy h) := rfl
theorem c_M_goes {d : Nat} {p : Nat} (hp : p < 6) {q : Int × Int} (hc : 0 ≤ q.1 ∧ q.1 ≤ 9) (hw : q.2 = 0 ∨ q.2 = 1) {G : SgM} {Q : Int → SgM → Prop} (c0 : G 210 p = q.1) (w0 : G 211 p = q.2)
    (post : Q 0 (sg_up (sg_up G 211 (p : Int) (td_step q).2) 210 (p : Int) (td_step q).1)) : sg_Wp 200 228 (d + 1) m_M_goes 0 [(0, 2, 200), (1, 0, (p : Int))] [] G Q := by
  have hb : 0 ≤ (p : Int) ∧ (p : Int) < 6 := by omega
  obtain ⟨c, w⟩ := q
  have hc : 0 ≤ c ∧ c ≤ 9 := hc
  have i10 : sg_isub 1 0 = 1 := by decide +kernel
  have i11 : sg_isub 1 1 = 0 := by decide +kernel
  have ia : sg_iadd c 1 = c + 1 := sg_iadd_eq (by omega) (by omega)
  have ib : sg_iadd c (-1) = c - 1 := by rw [sg_iadd_eq (by omega) (by omega)]; omega
  refine g_M_goes_0 ⟨hb, ?_⟩
  have hw : w = 0 ∨ w = 1 := hw
  rcases hw with rfl | rfl
  · by_cases c9 : c = 9
    · subst c9
      have e : td_step (9, 0) = (8, 1) := by decide
      rw [e] at post
      simp only [c0, w0, sg_up_at, i10, ib] at post ⊢
      simp [hb]
      exact post
    · have e : td_step (c, 0) = (c + 1, 0) := by unfold td_step; simp [c9]
      rw [e] at post
      by_cases c00 : c = 0
      · subst c00
        simp only [c0, w0, sg_up_at, ia] at post ⊢
        simp [hb]
        exact post
      · simp only [c0, w0, sg_up_at, ia] at post ⊢
        simp [hb, c9, c00]
        exact post
  · by_cases c00 : c = 0
    · subst c00
      have e : td_step (0, 1) = (1, 0) := by decide
      rw [e] at post
      simp only [c0, w0, sg_up_at, i11, ia] at post ⊢
      simp [hb]
      exact post
    · have e : td_step (c, 1) = (c - 1, 1) := by unfold td_step; simp [c00]
      rw [e] at post
      by_cases c9 : c = 9
      · subst c9
        simp only [c0, w0, sg_up_at, ib] at post ⊢
        simp [hb]
        exact post
      · simp only [c0, w0, sg_up_at, ib] at post ⊢
        simp [hb, c9, c00]
        exact post
theorem sg_apt_eq {a b : Int} (ha : 0 ≤ a ∧ a ≤ 9) (hb : 0 ≤ b ∧ b ≤ 9) : sg_apt a b = tw_dist a b := by
  unfold sg_apt tw_dist
  split
  · exact sg_isub_eq (by omega) (by omega)
  · exact sg_isub_eq (by omega) (by omega)
theorem c_M_isCaught {d : Nat} {W : TW} {Y : TY} (hW : TWok W) {h p : Nat} (hp : p < tw_k W) {G : SgM} {Q : Int → SgM → Prop} (q0 : G 200 9 = (tw_k W : Int)) (cc : ∀ p : Nat, p < tw_k W → G 210 p = td_c W h p) (cs : ∀ p : Nat, p < tw_k W → G 213 p = td_one (td_sn W Y h p))
    (post : Q (td_one (td_ct W Y h p)) G) : sg_Wp 200 228 d m_M_isCaught 0 [(0, 2, 200), (1, 0, (p : Int))] [] G Q := by
  have hk := hW.2.1
  have loop : ∀ (u m : Nat), m + u = tw_k W → sg_Wp 200 228 d m_M_isCaught 4 [(0, 2, 200), (1, 0, (p : Int)), (2, 0, td_one ((List.range m).any (fun j => decide (j ≠ p) && td_sn W Y h j && decide (td_c W h j = td_c W h p)))), (3, 0, (m : Int))] [] G Q := by
    intro u
    induction u with
    | zero =>
      intro m hm
      have em : m = tw_k W := by omega
      rw [em]
      refine g_M_isCaught_4 ⟨fun _ => ⟨?_, post⟩, fun z => absurd (by rw [q0]; omega) z⟩
      have := td_one_in ((List.range (tw_k W)).any (fun j => decide (j ≠ p) && td_sn W Y h j && decide (td_c W h j = td_c W h p)))
      omega
    | succ u ih =>
      intro m hm
      have hm' : m < tw_k W := by omega
      have ih := ih (m + 1) (by omega)
      rw [List.range_succ, List.any_append] at ih
      simp only [List.any_cons, List.any_nil, Bool.or_false] at ih
      have en := sg_inc1 m (by omega)
      refine g_M_isCaught_4 ⟨fun z => absurd z (by rw [q0]; omega), fun _ => ⟨fun z => ?_, fun z => ⟨fun z2 => ?_, fun z2 => ⟨by omega, fun z3 => ?_, fun z3 => ⟨by omega, by omega, fun z4 => ?_, fun z4 => ?_⟩⟩⟩⟩⟩
      · rw [td_one_n z, Bool.true_or] at ih
        rw [en]; exact ih
      · rw [td_one0.mp (Decidable.not_not.mp z), decide_eq_false (show ¬ (m ≠ p) by omega), Bool.false_and, Bool.false_and, Bool.or_false] at ih
        rw [en]; exact ih
      · rw [cs m hm'] at z3
        rw [td_one0.mp (Decidable.not_not.mp z), td_one0.mp z3, Bool.and_false, Bool.false_and, Bool.or_false] at ih
        rw [en]; exact ih
      · rw [cc m hm', cc p hp] at z4
        rw [td_one0.mp (Decidable.not_not.mp z), decide_eq_false z4, Bool.and_false, Bool.or_false] at ih
        rw [en]; exact ih
      · rw [cs m hm'] at z3
        rw [cc m hm', cc p hp] at z4
        rw [td_one0.mp (Decidable.not_not.mp z), decide_eq_true (show m ≠ p by omega), td_one_n z3, decide_eq_true (Decidable.not_not.mp z4)] at ih
        rw [en]; exact ih
  exact g_M_isCaught_0 (loop (tw_k W) 0 (by omega))
