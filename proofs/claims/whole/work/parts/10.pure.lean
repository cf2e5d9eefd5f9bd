/-! METHODS THAT ONLY COMPUTE -/
set_option maxRecDepth 100000 in
theorem g_G_isBelow_0 {d N : Nat} {v0 v1 : Int} {G : SgM} {Q : Int → SgM → Prop} (h : (v0 < 0 → (Q 0 G)) ∧ (¬ (v0 < 0) → ((v1 ≤ v0 → (Q 0 G)) ∧ (¬ (v1 ≤ v0) → (Q 1 G))))) : sg_Wp 0 N d m_G_isBelow 0 [(0, 0, v0), (1, 0, v1)] [] G Q := by
  refine sg_blk [(3, 0, 0, 0, 0)] (by decide +kernel) ?_
  refine And.intro rfl (?_)
  show sg_Wp 0 N d m_G_isBelow 1 [(0, 0, v0), (1, 0, v1)] [(0, v0)] G Q
  refine sg_if_lt (off := 12) (tgt := 13) (by decide +kernel) (by decide) ⟨fun q2 => ?_, fun q2 => ?_⟩
  · refine sg_blk [(7, 0, 0, 0, 0)] (by decide +kernel) ?_
    refine And.intro rfl (?_)
    show sg_Wp 0 N d m_G_isBelow 14 [(0, 0, v0), (1, 0, v1)] [(0, 0)] G Q
    exact sg_ret (by decide +kernel) rfl (Or.inr ⟨Or.inl rfl, by decide⟩) ((h.1 q2))
  · refine sg_blk [(3, 0, 0, 0, 0), (3, 0, 0, 1, 0)] (by decide +kernel) ?_
    refine And.intro rfl (And.intro rfl (?_))
    show sg_Wp 0 N d m_G_isBelow 6 [(0, 0, v0), (1, 0, v1)] [(0, v1), (0, v0)] G Q
    refine sg_icmp_ge (off := 7) (tgt := 13) (by decide +kernel) (by decide) ⟨fun q1 => ?_, fun q1 => ?_⟩
    · refine sg_blk [(7, 0, 0, 0, 0)] (by decide +kernel) ?_
      refine And.intro rfl (?_)
      show sg_Wp 0 N d m_G_isBelow 14 [(0, 0, v0), (1, 0, v1)] [(0, 0)] G Q
      exact sg_ret (by decide +kernel) rfl (Or.inr ⟨Or.inl rfl, by decide⟩) (((h.2 q2).1 q1))
    · refine sg_blk [(7, 1, 0, 0, 0)] (by decide +kernel) ?_
      refine And.intro rfl (?_)
      show sg_Wp 0 N d m_G_isBelow 10 [(0, 0, v0), (1, 0, v1)] [(0, 1)] G Q
      refine sg_goto (off := 4) (tgt := 14) (by decide +kernel) (by decide) ?_
      exact sg_ret (by decide +kernel) rfl (Or.inr ⟨Or.inl rfl, by decide⟩) (((h.2 q2).2 q1))
theorem s_G_isBelow {d N : Nat} {v0 v1 : Int} {G : SgM} {Q : Int → SgM → Prop} (h : Q (sg_bo (0 ≤ v0 ∧ v0 < v1)) G) : sg_Wp 0 N d m_G_isBelow 0 [(0, 0, v0), (1, 0, v1)] [] G Q := by
  refine g_G_isBelow_0 ⟨fun q => ?_, fun q => ⟨fun q2 => ?_, fun q2 => ?_⟩⟩
  · rw [sg_bo_f (by omega)] at h; exact h
  · rw [sg_bo_f (by omega)] at h; exact h
  · rw [sg_bo_t (by omega)] at h; exact h
set_option maxRecDepth 100000 in
theorem g_G_hasBit_0 {d N : Nat} {v0 v1 : Int} {G : SgM} {Q : Int → SgM → Prop} (h : ((sg_iand (sg_ishr v0 v1) 1) = 0 → (Q 0 G)) ∧ (¬ ((sg_iand (sg_ishr v0 v1) 1) = 0) → (Q 1 G))) : sg_Wp 0 N d m_G_hasBit 0 [(0, 0, v0), (1, 0, v1)] [] G Q := by
  refine sg_blk [(3, 0, 0, 0, 0), (3, 0, 0, 1, 0), (42, 0, 0, 0, 0), (7, 1, 0, 0, 0), (38, 0, 0, 0, 0)] (by decide +kernel) ?_
  refine And.intro rfl (And.intro rfl (And.intro rfl (?_)))
  show sg_Wp 0 N d m_G_hasBit 5 [(0, 0, v0), (1, 0, v1)] [(0, sg_iand (sg_ishr v0 v1) 1)] G Q
  refine sg_if_eq (off := 7) (tgt := 12) (by decide +kernel) (by decide) ⟨fun q1 => ?_, fun q1 => ?_⟩
  · refine sg_blk [(7, 0, 0, 0, 0)] (by decide +kernel) ?_
    refine And.intro rfl (?_)
    show sg_Wp 0 N d m_G_hasBit 13 [(0, 0, v0), (1, 0, v1)] [(0, 0)] G Q
    exact sg_ret (by decide +kernel) rfl (Or.inr ⟨Or.inl rfl, by decide⟩) ((h.1 q1))
  · refine sg_blk [(7, 1, 0, 0, 0)] (by decide +kernel) ?_
    refine And.intro rfl (?_)
    show sg_Wp 0 N d m_G_hasBit 9 [(0, 0, v0), (1, 0, v1)] [(0, 1)] G Q
    refine sg_goto (off := 4) (tgt := 13) (by decide +kernel) (by decide) ?_
    exact sg_ret (by decide +kernel) rfl (Or.inr ⟨Or.inl rfl, by decide⟩) ((h.2 q1))
theorem s_G_hasBit {d N : Nat} {v0 v1 : Int} {G : SgM} {Q : Int → SgM → Prop} (h : Q (sg_bo (sg_iand (sg_ishr v0 v1) 1 ≠ 0)) G) : sg_Wp 0 N d m_G_hasBit 0 [(0, 0, v0), (1, 0, v1)] [] G Q := by
  refine g_G_hasBit_0 ⟨fun q => ?_, fun q => ?_⟩
  · rw [sg_bo_f (fun z => z q)] at h; exact h
  · rw [sg_bo_t q] at h; exact h
set_option maxRecDepth 100000 in
theorem g_D_divides_0 {d N : Nat} {v0 v1 : Int} {G : SgM} {Q : Int → SgM → Prop} (h : (v0 ≤ 0 → (Q 0 G)) ∧ (¬ (v0 ≤ 0) → ((v0 ≠ 0) ∧ (((sg_irem v1 v0) ≠ 0 → (Q 0 G)) ∧ (¬ ((sg_irem v1 v0) ≠ 0) → (Q 1 G)))))) : sg_Wp 0 N d m_D_divides 0 [(0, 0, v0), (1, 0, v1)] [] G Q := by
  refine sg_blk [(3, 0, 0, 0, 0)] (by decide +kernel) ?_
  refine And.intro rfl (?_)
  show sg_Wp 0 N d m_D_divides 1 [(0, 0, v0), (1, 0, v1)] [(0, v0)] G Q
  refine sg_if_le (off := 13) (tgt := 14) (by decide +kernel) (by decide) ⟨fun q2 => ?_, fun q2 => ?_⟩
  · refine sg_blk [(7, 0, 0, 0, 0)] (by decide +kernel) ?_
    refine And.intro rfl (?_)
    show sg_Wp 0 N d m_D_divides 15 [(0, 0, v0), (1, 0, v1)] [(0, 0)] G Q
    exact sg_ret (by decide +kernel) rfl (Or.inr ⟨Or.inl rfl, by decide⟩) ((h.1 q2))
  · refine sg_blk [(3, 0, 0, 1, 0), (3, 0, 0, 0, 0), (36, 0, 0, 0, 0)] (by decide +kernel) ?_
    refine And.intro rfl (And.intro rfl (And.intro (h.2 q2).1 (?_)))
    show sg_Wp 0 N d m_D_divides 7 [(0, 0, v0), (1, 0, v1)] [(0, sg_irem v1 v0)] G Q
    refine sg_if_ne (off := 7) (tgt := 14) (by decide +kernel) (by decide) ⟨fun q1 => ?_, fun q1 => ?_⟩
    · refine sg_blk [(7, 0, 0, 0, 0)] (by decide +kernel) ?_
      refine And.intro rfl (?_)
      show sg_Wp 0 N d m_D_divides 15 [(0, 0, v0), (1, 0, v1)] [(0, 0)] G Q
      exact sg_ret (by decide +kernel) rfl (Or.inr ⟨Or.inl rfl, by decide⟩) (((h.2 q2).2.1 q1))
    · refine sg_blk [(7, 1, 0, 0, 0)] (by decide +kernel) ?_
      refine And.intro rfl (?_)
      show sg_Wp 0 N d m_D_divides 11 [(0, 0, v0), (1, 0, v1)] [(0, 1)] G Q
      refine sg_goto (off := 4) (tgt := 15) (by decide +kernel) (by decide) ?_
      exact sg_ret (by decide +kernel) rfl (Or.inr ⟨Or.inl rfl, by decide⟩) (((h.2 q2).2.2 q1))
theorem s_D_divides {d N : Nat} {v0 v1 : Int} {G : SgM} {Q : Int → SgM → Prop} (h : Q (sg_bo (0 < v0 ∧ sg_irem v1 v0 = 0)) G) : sg_Wp 0 N d m_D_divides 0 [(0, 0, v0), (1, 0, v1)] [] G Q := by
  refine g_D_divides_0 ⟨fun q => ?_, fun q => ⟨by omega, fun q2 => ?_, fun q2 => ?_⟩⟩
  · rw [sg_bo_f (fun z => by omega)] at h; exact h
  · rw [sg_bo_f (fun z => q2 z.2)] at h; exact h
  · rw [sg_bo_t ⟨by omega, Decidable.byContradiction q2⟩] at h; exact h
set_option maxRecDepth 100000 in
theorem g_E_mayBe_0 {d N : Nat} {v0 v1 v2 : Int} {G : SgM} {Q : Int → SgM → Prop} (h : ((0 ≤ v0 ∧ v0 < 3) → (((0 ≤ v1 ∧ v1 < 24) → (((0 ≤ v2 ∧ v2 < 10) → (Q 1 G)) ∧ (¬ (0 ≤ v2 ∧ v2 < 10) → (Q 0 G)))) ∧ (¬ (0 ≤ v1 ∧ v1 < 24) → (Q 0 G)))) ∧ (¬ (0 ≤ v0 ∧ v0 < 3) → (Q 0 G))) : sg_Wp 0 N (d + 1) m_E_mayBe 0 [(0, 0, v0), (1, 0, v1), (2, 0, v2)] [] G Q := by
  refine sg_blk [(3, 0, 0, 0, 0), (7, 3, 0, 0, 0)] (by decide +kernel) ?_
  refine And.intro rfl (And.intro rfl (?_))
  show sg_Wp 0 N (d + 1) m_E_mayBe 2 [(0, 0, v0), (1, 0, v1), (2, 0, v2)] [(0, 3), (0, v0)] G Q
  refine sg_callN (k := d) (y' := m_G_isBelow) (av := [(0, v0), (0, 3)]) (rest := []) (idx := 21) (by decide +kernel) cs_G_isBelow (List.mem_of_getElem? (i := 5) rfl) rfl (Nat.le_of_ble_eq_true rfl) (Nat.lt_succ_self d) (Nat.le_of_ble_eq_true rfl) rfl ?_
  show sg_Wp 0 N d m_G_isBelow 0 [(0, 0, v0), (1, 0, 3)] [] G _
  refine s_G_isBelow ?_
  show sg_Wp 0 N (d + 1) m_E_mayBe 5 [(0, 0, v0), (1, 0, v1), (2, 0, v2)] [(0, sg_bo (0 ≤ v0 ∧ v0 < 3))] G Q
  refine sg_bif_eq (off := 25) (tgt := 30) (by decide +kernel) (by decide) ⟨fun q3 => ?_, fun q3 => ?_⟩
  · refine sg_blk [(3, 0, 0, 1, 0), (8, 24, 0, 0, 0)] (by decide +kernel) ?_
    refine And.intro rfl (And.intro rfl (And.intro rfl (?_)))
    show sg_Wp 0 N (d + 1) m_E_mayBe 11 [(0, 0, v0), (1, 0, v1), (2, 0, v2)] [(0, 24), (0, v1)] G Q
    refine sg_callN (k := d) (y' := m_G_isBelow) (av := [(0, v1), (0, 24)]) (rest := []) (idx := 21) (by decide +kernel) cs_G_isBelow (List.mem_of_getElem? (i := 5) rfl) rfl (Nat.le_of_ble_eq_true rfl) (Nat.lt_succ_self d) (Nat.le_of_ble_eq_true rfl) rfl ?_
    show sg_Wp 0 N d m_G_isBelow 0 [(0, 0, v1), (1, 0, 24)] [] G _
    refine s_G_isBelow ?_
    show sg_Wp 0 N (d + 1) m_E_mayBe 14 [(0, 0, v0), (1, 0, v1), (2, 0, v2)] [(0, sg_bo (0 ≤ v1 ∧ v1 < 24))] G Q
    refine sg_bif_eq (off := 16) (tgt := 30) (by decide +kernel) (by decide) ⟨fun q2 => ?_, fun q2 => ?_⟩
    · refine sg_blk [(3, 0, 0, 2, 0), (8, 10, 0, 0, 0)] (by decide +kernel) ?_
      refine And.intro rfl (And.intro rfl (And.intro rfl (?_)))
      show sg_Wp 0 N (d + 1) m_E_mayBe 20 [(0, 0, v0), (1, 0, v1), (2, 0, v2)] [(0, 10), (0, v2)] G Q
      refine sg_callN (k := d) (y' := m_G_isBelow) (av := [(0, v2), (0, 10)]) (rest := []) (idx := 21) (by decide +kernel) cs_G_isBelow (List.mem_of_getElem? (i := 5) rfl) rfl (Nat.le_of_ble_eq_true rfl) (Nat.lt_succ_self d) (Nat.le_of_ble_eq_true rfl) rfl ?_
      show sg_Wp 0 N d m_G_isBelow 0 [(0, 0, v2), (1, 0, 10)] [] G _
      refine s_G_isBelow ?_
      show sg_Wp 0 N (d + 1) m_E_mayBe 23 [(0, 0, v0), (1, 0, v1), (2, 0, v2)] [(0, sg_bo (0 ≤ v2 ∧ v2 < 10))] G Q
      refine sg_bif_eq (off := 7) (tgt := 30) (by decide +kernel) (by decide) ⟨fun q1 => ?_, fun q1 => ?_⟩
      · refine sg_blk [(7, 1, 0, 0, 0)] (by decide +kernel) ?_
        refine And.intro rfl (?_)
        show sg_Wp 0 N (d + 1) m_E_mayBe 27 [(0, 0, v0), (1, 0, v1), (2, 0, v2)] [(0, 1)] G Q
        refine sg_goto (off := 4) (tgt := 31) (by decide +kernel) (by decide) ?_
        exact sg_ret (by decide +kernel) rfl (Or.inr ⟨Or.inl rfl, by decide⟩) ((((h.1 q3).1 q2).1 q1))
      · refine sg_blk [(7, 0, 0, 0, 0)] (by decide +kernel) ?_
        refine And.intro rfl (?_)
        show sg_Wp 0 N (d + 1) m_E_mayBe 31 [(0, 0, v0), (1, 0, v1), (2, 0, v2)] [(0, 0)] G Q
        exact sg_ret (by decide +kernel) rfl (Or.inr ⟨Or.inl rfl, by decide⟩) ((((h.1 q3).1 q2).2 q1))
    · refine sg_blk [(7, 0, 0, 0, 0)] (by decide +kernel) ?_
      refine And.intro rfl (?_)
      show sg_Wp 0 N (d + 1) m_E_mayBe 31 [(0, 0, v0), (1, 0, v1), (2, 0, v2)] [(0, 0)] G Q
      exact sg_ret (by decide +kernel) rfl (Or.inr ⟨Or.inl rfl, by decide⟩) (((h.1 q3).2 q2))
  · refine sg_blk [(7, 0, 0, 0, 0)] (by decide +kernel) ?_
    refine And.intro rfl (?_)
    show sg_Wp 0 N (d + 1) m_E_mayBe 31 [(0, 0, v0), (1, 0, v1), (2, 0, v2)] [(0, 0)] G Q
    exact sg_ret (by decide +kernel) rfl (Or.inr ⟨Or.inl rfl, by decide⟩) ((h.2 q3))
theorem s_E_mayBe {d N : Nat} {v0 v1 v2 : Int} {G : SgM} {Q : Int → SgM → Prop} (h : Q (sg_bo ((0 ≤ v0 ∧ v0 < 3) ∧ (0 ≤ v1 ∧ v1 < 24) ∧ (0 ≤ v2 ∧ v2 < 10))) G) : sg_Wp 0 N (d + 1) m_E_mayBe 0 [(0, 0, v0), (1, 0, v1), (2, 0, v2)] [] G Q := by
  refine g_E_mayBe_0 ⟨fun q => ⟨fun q2 => ⟨fun q3 => ?_, fun q3 => ?_⟩, fun q2 => ?_⟩, fun q => ?_⟩
  · rw [sg_bo_t (by omega)] at h; exact h
  · rw [sg_bo_f (by omega)] at h; exact h
  · rw [sg_bo_f (by omega)] at h; exact h
  · rw [sg_bo_f (by omega)] at h; exact h
set_option maxRecDepth 100000 in
theorem g_Z_hasRoom_0 {d N : Nat} {v0 v1 v2 : Int} {G : SgM} {Q : Int → SgM → Prop} (h : (v1 < 0 → (Q 0 G)) ∧ (¬ (v1 < 0) → ((v2 < 0 → (Q 0 G)) ∧ (¬ (v2 < 0) → ((v0 < v2 → (Q 0 G)) ∧ (¬ (v0 < v2) → (((sg_isub v0 v2) < v1 → (Q 0 G)) ∧ (¬ ((sg_isub v0 v2) < v1) → (Q 1 G))))))))) : sg_Wp 0 N d m_Z_hasRoom 0 [(0, 0, v0), (1, 0, v1), (2, 0, v2)] [] G Q := by
  refine sg_blk [(3, 0, 0, 1, 0)] (by decide +kernel) ?_
  refine And.intro rfl (?_)
  show sg_Wp 0 N d m_Z_hasRoom 1 [(0, 0, v0), (1, 0, v1), (2, 0, v2)] [(0, v1)] G Q
  refine sg_if_lt (off := 23) (tgt := 24) (by decide +kernel) (by decide) ⟨fun q4 => ?_, fun q4 => ?_⟩
  · refine sg_blk [(7, 0, 0, 0, 0)] (by decide +kernel) ?_
    refine And.intro rfl (?_)
    show sg_Wp 0 N d m_Z_hasRoom 25 [(0, 0, v0), (1, 0, v1), (2, 0, v2)] [(0, 0)] G Q
    exact sg_ret (by decide +kernel) rfl (Or.inr ⟨Or.inl rfl, by decide⟩) ((h.1 q4))
  · refine sg_blk [(3, 0, 0, 2, 0)] (by decide +kernel) ?_
    refine And.intro rfl (?_)
    show sg_Wp 0 N d m_Z_hasRoom 5 [(0, 0, v0), (1, 0, v1), (2, 0, v2)] [(0, v2)] G Q
    refine sg_if_lt (off := 19) (tgt := 24) (by decide +kernel) (by decide) ⟨fun q3 => ?_, fun q3 => ?_⟩
    · refine sg_blk [(7, 0, 0, 0, 0)] (by decide +kernel) ?_
      refine And.intro rfl (?_)
      show sg_Wp 0 N d m_Z_hasRoom 25 [(0, 0, v0), (1, 0, v1), (2, 0, v2)] [(0, 0)] G Q
      exact sg_ret (by decide +kernel) rfl (Or.inr ⟨Or.inl rfl, by decide⟩) (((h.2 q4).1 q3))
    · refine sg_blk [(3, 0, 0, 2, 0), (3, 0, 0, 0, 0)] (by decide +kernel) ?_
      refine And.intro rfl (And.intro rfl (?_))
      show sg_Wp 0 N d m_Z_hasRoom 10 [(0, 0, v0), (1, 0, v1), (2, 0, v2)] [(0, v0), (0, v2)] G Q
      refine sg_icmp_gt (off := 14) (tgt := 24) (by decide +kernel) (by decide) ⟨fun q2 => ?_, fun q2 => ?_⟩
      · refine sg_blk [(7, 0, 0, 0, 0)] (by decide +kernel) ?_
        refine And.intro rfl (?_)
        show sg_Wp 0 N d m_Z_hasRoom 25 [(0, 0, v0), (1, 0, v1), (2, 0, v2)] [(0, 0)] G Q
        exact sg_ret (by decide +kernel) rfl (Or.inr ⟨Or.inl rfl, by decide⟩) ((((h.2 q4).2 q3).1 q2))
      · refine sg_blk [(3, 0, 0, 1, 0), (3, 0, 0, 0, 0), (3, 0, 0, 2, 0), (33, 0, 0, 0, 0)] (by decide +kernel) ?_
        refine And.intro rfl (And.intro rfl (And.intro rfl (?_)))
        show sg_Wp 0 N d m_Z_hasRoom 17 [(0, 0, v0), (1, 0, v1), (2, 0, v2)] [(0, sg_isub v0 v2), (0, v1)] G Q
        refine sg_icmp_gt (off := 7) (tgt := 24) (by decide +kernel) (by decide) ⟨fun q1 => ?_, fun q1 => ?_⟩
        · refine sg_blk [(7, 0, 0, 0, 0)] (by decide +kernel) ?_
          refine And.intro rfl (?_)
          show sg_Wp 0 N d m_Z_hasRoom 25 [(0, 0, v0), (1, 0, v1), (2, 0, v2)] [(0, 0)] G Q
          exact sg_ret (by decide +kernel) rfl (Or.inr ⟨Or.inl rfl, by decide⟩) (((((h.2 q4).2 q3).2 q2).1 q1))
        · refine sg_blk [(7, 1, 0, 0, 0)] (by decide +kernel) ?_
          refine And.intro rfl (?_)
          show sg_Wp 0 N d m_Z_hasRoom 21 [(0, 0, v0), (1, 0, v1), (2, 0, v2)] [(0, 1)] G Q
          refine sg_goto (off := 4) (tgt := 25) (by decide +kernel) (by decide) ?_
          exact sg_ret (by decide +kernel) rfl (Or.inr ⟨Or.inl rfl, by decide⟩) (((((h.2 q4).2 q3).2 q2).2 q1))
theorem s_Z_hasRoom {d N : Nat} {v0 v1 v2 : Int} {G : SgM} {Q : Int → SgM → Prop} (h : Q (sg_bo (0 ≤ v1 ∧ 0 ≤ v2 ∧ v2 ≤ v0 ∧ v1 ≤ sg_isub v0 v2)) G) : sg_Wp 0 N d m_Z_hasRoom 0 [(0, 0, v0), (1, 0, v1), (2, 0, v2)] [] G Q := by
  refine g_Z_hasRoom_0 ⟨fun q => ?_, fun q => ⟨fun q2 => ?_, fun q2 => ⟨fun q3 => ?_, fun q3 => ⟨fun q4 => ?_, fun q4 => ?_⟩⟩⟩⟩
  · rw [sg_bo_f (by omega)] at h; exact h
  · rw [sg_bo_f (by omega)] at h; exact h
  · rw [sg_bo_f (by omega)] at h; exact h
  · rw [sg_bo_f (by omega)] at h; exact h
  · rw [sg_bo_t (by omega)] at h; exact h
set_option maxRecDepth 100000 in
theorem g_G_digestHour_0 {d N : Nat} {v0 : Int} {G : SgM} {Q : Int → SgM → Prop} (h : (v0 = 0 → (Q 0 G)) ∧ (v0 ≠ 0 → ((v0 = 1 → (Q 7 G)) ∧ (v0 ≠ 1 → ((v0 = 2 → (Q 15 G)) ∧ (v0 ≠ 2 → (Q 23 G))))))) : sg_Wp 0 N d m_G_digestHour 0 [(0, 0, v0)] [] G Q := by
  refine sg_blk [(3, 0, 0, 0, 0)] (by decide +kernel) ?_
  refine And.intro rfl (?_)
  show sg_Wp 0 N d m_G_digestHour 1 [(0, 0, v0)] [(0, v0)] G Q
  refine sg_tsw (dflt := 35) (low := 0) (high := 2) (offs := #[27, 29, 32]) (len := 27) (dt := 36) (ts := [28, 30, 33]) (by decide +kernel) (by decide) (by decide) (by decide) ?_
  refine ⟨fun q3 => ?_, fun q3 => ?_⟩
  · refine sg_blk [(7, 0, 0, 0, 0)] (by decide +kernel) ?_
    refine And.intro rfl (?_)
    show sg_Wp 0 N d m_G_digestHour 29 [(0, 0, v0)] [(0, 0)] G Q
    exact sg_ret (by decide +kernel) rfl (Or.inl rfl) ((h.1 q3))
  · refine ⟨fun q2 => ?_, fun q2 => ?_⟩
    · refine sg_blk [(8, 7, 0, 0, 0)] (by decide +kernel) ?_
      refine And.intro rfl (And.intro rfl (?_))
      show sg_Wp 0 N d m_G_digestHour 32 [(0, 0, v0)] [(0, 7)] G Q
      exact sg_ret (by decide +kernel) rfl (Or.inl rfl) (((h.2 q3).1 q2))
    · refine ⟨fun q1 => ?_, fun q1 => ?_⟩
      · refine sg_blk [(8, 15, 0, 0, 0)] (by decide +kernel) ?_
        refine And.intro rfl (And.intro rfl (?_))
        show sg_Wp 0 N d m_G_digestHour 35 [(0, 0, v0)] [(0, 15)] G Q
        exact sg_ret (by decide +kernel) rfl (Or.inl rfl) ((((h.2 q3).2 q2).1 q1))
      · refine sg_blk [(8, 23, 0, 0, 0)] (by decide +kernel) ?_
        refine And.intro rfl (And.intro rfl (?_))
        show sg_Wp 0 N d m_G_digestHour 38 [(0, 0, v0)] [(0, 23)] G Q
        exact sg_ret (by decide +kernel) rfl (Or.inl rfl) ((((h.2 q3).2 q2).2 q1))
def sg_dh (i : Int) : Int := if i = 0 then 0 else if i = 1 then 7 else if i = 2 then 15 else 23
theorem s_G_digestHour {d N : Nat} {v0 : Int} {G : SgM} {Q : Int → SgM → Prop} (h : Q (sg_dh v0) G) : sg_Wp 0 N d m_G_digestHour 0 [(0, 0, v0)] [] G Q := by
  unfold sg_dh at h
  refine g_G_digestHour_0 ⟨fun q => ?_, fun q => ⟨fun q2 => ?_, fun q2 => ⟨fun q3 => ?_, fun q3 => ?_⟩⟩⟩
  · rw [if_pos q] at h; exact h
  · rw [if_neg q, if_pos q2] at h; exact h
  · rw [if_neg q, if_neg q2, if_pos q3] at h; exact h
  · rw [if_neg q, if_neg q2, if_neg q3] at h; exact h
def sg_ibc (v0 : Int) : Int := sg_iand (sg_iadd (sg_iadd (sg_iand (sg_iadd (sg_iadd (sg_iand (sg_isub v0 (sg_iand (sg_iushr v0 1) 1431655765)) 858993459) (sg_iand (sg_iushr (sg_isub v0 (sg_iand (sg_iushr v0 1) 1431655765)) 2) 858993459)) (sg_iushr (sg_iadd (sg_iand (sg_isub v0 (sg_iand (sg_iushr v0 1) 1431655765)) 858993459) (sg_iand (sg_iushr (sg_isub v0 (sg_iand (sg_iushr v0 1) 1431655765)) 2) 858993459)) 4)) 252645135) (sg_iushr (sg_iand (sg_iadd (sg_iadd (sg_iand (sg_isub v0 (sg_iand (sg_iushr v0 1) 1431655765)) 858993459) (sg_iand (sg_iushr (sg_isub v0 (sg_iand (sg_iushr v0 1) 1431655765)) 2) 858993459)) (sg_iushr (sg_iadd (sg_iand (sg_isub v0 (sg_iand (sg_iushr v0 1) 1431655765)) 858993459) (sg_iand (sg_iushr (sg_isub v0 (sg_iand (sg_iushr v0 1) 1431655765)) 2) 858993459)) 4)) 252645135) 8)) (sg_iushr (sg_iadd (sg_iand (sg_iadd (sg_iadd (sg_iand (sg_isub v0 (sg_iand (sg_iushr v0 1) 1431655765)) 858993459) (sg_iand (sg_iushr (sg_isub v0 (sg_iand (sg_iushr v0 1) 1431655765)) 2) 858993459)) (sg_iushr (sg_iadd (sg_iand (sg_isub v0 (sg_iand (sg_iushr v0 1) 1431655765)) 858993459) (sg_iand (sg_iushr (sg_isub v0 (sg_iand (sg_iushr v0 1) 1431655765)) 2) 858993459)) 4)) 252645135) (sg_iushr (sg_iand (sg_iadd (sg_iadd (sg_iand (sg_isub v0 (sg_iand (sg_iushr v0 1) 1431655765)) 858993459) (sg_iand (sg_iushr (sg_isub v0 (sg_iand (sg_iushr v0 1) 1431655765)) 2) 858993459)) (sg_iushr (sg_iadd (sg_iand (sg_isub v0 (sg_iand (sg_iushr v0 1) 1431655765)) 858993459) (sg_iand (sg_iushr (sg_isub v0 (sg_iand (sg_iushr v0 1) 1431655765)) 2) 858993459)) 4)) 252645135) 8)) 16)) 63
set_option maxRecDepth 100000 in
theorem g_I_bitCount_0 {lo d N : Nat} {v0 : Int} {G : SgM} {Q : Int → SgM → Prop} (h : Q (sg_iand (sg_iadd (sg_iadd (sg_iand (sg_iadd (sg_iadd (sg_iand (sg_isub v0 (sg_iand (sg_iushr v0 1) 1431655765)) 858993459) (sg_iand (sg_iushr (sg_isub v0 (sg_iand (sg_iushr v0 1) 1431655765)) 2) 858993459)) (sg_iushr (sg_iadd (sg_iand (sg_isub v0 (sg_iand (sg_iushr v0 1) 1431655765)) 858993459) (sg_iand (sg_iushr (sg_isub v0 (sg_iand (sg_iushr v0 1) 1431655765)) 2) 858993459)) 4)) 252645135) (sg_iushr (sg_iand (sg_iadd (sg_iadd (sg_iand (sg_isub v0 (sg_iand (sg_iushr v0 1) 1431655765)) 858993459) (sg_iand (sg_iushr (sg_isub v0 (sg_iand (sg_iushr v0 1) 1431655765)) 2) 858993459)) (sg_iushr (sg_iadd (sg_iand (sg_isub v0 (sg_iand (sg_iushr v0 1) 1431655765)) 858993459) (sg_iand (sg_iushr (sg_isub v0 (sg_iand (sg_iushr v0 1) 1431655765)) 2) 858993459)) 4)) 252645135) 8)) (sg_iushr (sg_iadd (sg_iand (sg_iadd (sg_iadd (sg_iand (sg_isub v0 (sg_iand (sg_iushr v0 1) 1431655765)) 858993459) (sg_iand (sg_iushr (sg_isub v0 (sg_iand (sg_iushr v0 1) 1431655765)) 2) 858993459)) (sg_iushr (sg_iadd (sg_iand (sg_isub v0 (sg_iand (sg_iushr v0 1) 1431655765)) 858993459) (sg_iand (sg_iushr (sg_isub v0 (sg_iand (sg_iushr v0 1) 1431655765)) 2) 858993459)) 4)) 252645135) (sg_iushr (sg_iand (sg_iadd (sg_iadd (sg_iand (sg_isub v0 (sg_iand (sg_iushr v0 1) 1431655765)) 858993459) (sg_iand (sg_iushr (sg_isub v0 (sg_iand (sg_iushr v0 1) 1431655765)) 2) 858993459)) (sg_iushr (sg_iadd (sg_iand (sg_isub v0 (sg_iand (sg_iushr v0 1) 1431655765)) 858993459) (sg_iand (sg_iushr (sg_isub v0 (sg_iand (sg_iushr v0 1) 1431655765)) 2) 858993459)) 4)) 252645135) 8)) 16)) 63) G) : sg_Wp lo N d m_I_bitCount 0 [(0, 0, v0)] [] G Q := by
  refine sg_blk [(3, 0, 0, 0, 0), (3, 0, 0, 0, 0), (7, 1, 0, 0, 0), (43, 0, 0, 0, 0), (14, 1431655765, 0, 265, 0), (38, 0, 0, 0, 0), (33, 0, 0, 0, 0), (25, 0, 0, 0, 0), (3, 0, 0, 0, 0), (14, 858993459, 0, 266, 0), (38, 0, 0, 0, 0), (3, 0, 0, 0, 0), (7, 2, 0, 0, 0), (43, 0, 0, 0, 0), (14, 858993459, 0, 266, 0), (38, 0, 0, 0, 0), (32, 0, 0, 0, 0), (25, 0, 0, 0, 0), (3, 0, 0, 0, 0), (3, 0, 0, 0, 0), (7, 4, 0, 0, 0), (43, 0, 0, 0, 0), (32, 0, 0, 0, 0), (14, 252645135, 0, 267, 0), (38, 0, 0, 0, 0), (25, 0, 0, 0, 0), (3, 0, 0, 0, 0), (3, 0, 0, 0, 0), (8, 8, 0, 0, 0), (43, 0, 0, 0, 0), (32, 0, 0, 0, 0), (25, 0, 0, 0, 0), (3, 0, 0, 0, 0), (3, 0, 0, 0, 0), (8, 16, 0, 0, 0), (43, 0, 0, 0, 0), (32, 0, 0, 0, 0), (25, 0, 0, 0, 0), (3, 0, 0, 0, 0), (8, 63, 0, 0, 0), (38, 0, 0, 0, 0)] (by decide +kernel) ?_
  refine And.intro rfl (And.intro rfl (And.intro rfl (And.intro rfl (And.intro rfl (And.intro rfl (And.intro rfl (And.intro rfl (And.intro rfl (And.intro rfl (And.intro rfl (And.intro rfl (And.intro rfl (And.intro rfl (And.intro rfl (And.intro rfl (And.intro rfl (And.intro rfl (And.intro rfl (And.intro rfl (And.intro rfl (And.intro rfl (And.intro rfl (And.intro rfl (And.intro rfl (And.intro rfl (And.intro rfl (And.intro rfl (And.intro rfl (?_)))))))))))))))))))))))))))))
  show sg_Wp lo N d m_I_bitCount 52 [(0, 0, sg_iadd (sg_iadd (sg_iand (sg_iadd (sg_iadd (sg_iand (sg_isub v0 (sg_iand (sg_iushr v0 1) 1431655765)) 858993459) (sg_iand (sg_iushr (sg_isub v0 (sg_iand (sg_iushr v0 1) 1431655765)) 2) 858993459)) (sg_iushr (sg_iadd (sg_iand (sg_isub v0 (sg_iand (sg_iushr v0 1) 1431655765)) 858993459) (sg_iand (sg_iushr (sg_isub v0 (sg_iand (sg_iushr v0 1) 1431655765)) 2) 858993459)) 4)) 252645135) (sg_iushr (sg_iand (sg_iadd (sg_iadd (sg_iand (sg_isub v0 (sg_iand (sg_iushr v0 1) 1431655765)) 858993459) (sg_iand (sg_iushr (sg_isub v0 (sg_iand (sg_iushr v0 1) 1431655765)) 2) 858993459)) (sg_iushr (sg_iadd (sg_iand (sg_isub v0 (sg_iand (sg_iushr v0 1) 1431655765)) 858993459) (sg_iand (sg_iushr (sg_isub v0 (sg_iand (sg_iushr v0 1) 1431655765)) 2) 858993459)) 4)) 252645135) 8)) (sg_iushr (sg_iadd (sg_iand (sg_iadd (sg_iadd (sg_iand (sg_isub v0 (sg_iand (sg_iushr v0 1) 1431655765)) 858993459) (sg_iand (sg_iushr (sg_isub v0 (sg_iand (sg_iushr v0 1) 1431655765)) 2) 858993459)) (sg_iushr (sg_iadd (sg_iand (sg_isub v0 (sg_iand (sg_iushr v0 1) 1431655765)) 858993459) (sg_iand (sg_iushr (sg_isub v0 (sg_iand (sg_iushr v0 1) 1431655765)) 2) 858993459)) 4)) 252645135) (sg_iushr (sg_iand (sg_iadd (sg_iadd (sg_iand (sg_isub v0 (sg_iand (sg_iushr v0 1) 1431655765)) 858993459) (sg_iand (sg_iushr (sg_isub v0 (sg_iand (sg_iushr v0 1) 1431655765)) 2) 858993459)) (sg_iushr (sg_iadd (sg_iand (sg_isub v0 (sg_iand (sg_iushr v0 1) 1431655765)) 858993459) (sg_iand (sg_iushr (sg_isub v0 (sg_iand (sg_iushr v0 1) 1431655765)) 2) 858993459)) 4)) 252645135) 8)) 16))] [(0, sg_iand (sg_iadd (sg_iadd (sg_iand (sg_iadd (sg_iadd (sg_iand (sg_isub v0 (sg_iand (sg_iushr v0 1) 1431655765)) 858993459) (sg_iand (sg_iushr (sg_isub v0 (sg_iand (sg_iushr v0 1) 1431655765)) 2) 858993459)) (sg_iushr (sg_iadd (sg_iand (sg_isub v0 (sg_iand (sg_iushr v0 1) 1431655765)) 858993459) (sg_iand (sg_iushr (sg_isub v0 (sg_iand (sg_iushr v0 1) 1431655765)) 2) 858993459)) 4)) 252645135) (sg_iushr (sg_iand (sg_iadd (sg_iadd (sg_iand (sg_isub v0 (sg_iand (sg_iushr v0 1) 1431655765)) 858993459) (sg_iand (sg_iushr (sg_isub v0 (sg_iand (sg_iushr v0 1) 1431655765)) 2) 858993459)) (sg_iushr (sg_iadd (sg_iand (sg_isub v0 (sg_iand (sg_iushr v0 1) 1431655765)) 858993459) (sg_iand (sg_iushr (sg_isub v0 (sg_iand (sg_iushr v0 1) 1431655765)) 2) 858993459)) 4)) 252645135) 8)) (sg_iushr (sg_iadd (sg_iand (sg_iadd (sg_iadd (sg_iand (sg_isub v0 (sg_iand (sg_iushr v0 1) 1431655765)) 858993459) (sg_iand (sg_iushr (sg_isub v0 (sg_iand (sg_iushr v0 1) 1431655765)) 2) 858993459)) (sg_iushr (sg_iadd (sg_iand (sg_isub v0 (sg_iand (sg_iushr v0 1) 1431655765)) 858993459) (sg_iand (sg_iushr (sg_isub v0 (sg_iand (sg_iushr v0 1) 1431655765)) 2) 858993459)) 4)) 252645135) (sg_iushr (sg_iand (sg_iadd (sg_iadd (sg_iand (sg_isub v0 (sg_iand (sg_iushr v0 1) 1431655765)) 858993459) (sg_iand (sg_iushr (sg_isub v0 (sg_iand (sg_iushr v0 1) 1431655765)) 2) 858993459)) (sg_iushr (sg_iadd (sg_iand (sg_isub v0 (sg_iand (sg_iushr v0 1) 1431655765)) 858993459) (sg_iand (sg_iushr (sg_isub v0 (sg_iand (sg_iushr v0 1) 1431655765)) 2) 858993459)) 4)) 252645135) 8)) 16)) 63)] G Q
  exact sg_ret (by decide +kernel) rfl (Or.inl rfl) h
theorem s_I_bitCount {lo d N : Nat} {v0 : Int} {G : SgM} {Q : Int → SgM → Prop} (h : Q (sg_ibc v0) G) : sg_Wp lo N d m_I_bitCount 0 [(0, 0, v0)] [] G Q := by
  exact g_I_bitCount_0 h
set_option maxRecDepth 100000 in
theorem g_T_signsOfPost_0 {d N : Nat} {v0 : Int} {G : SgM} {Q : Int → SgM → Prop} (h : (v0 = 0 → (Q 0 G)) ∧ (v0 ≠ 0 → ((v0 = 1 → (Q 1 G)) ∧ (v0 ≠ 1 → (Q 2 G))))) : sg_Wp 0 N d m_T_signsOfPost 0 [(0, 0, v0)] [] G Q := by
  refine sg_blk [(3, 0, 0, 0, 0)] (by decide +kernel) ?_
  refine And.intro rfl (?_)
  show sg_Wp 0 N d m_T_signsOfPost 1 [(0, 0, v0)] [(0, v0)] G Q
  refine sg_lksw (dflt := 33) (ps := #[(0, 27), (1, 30)]) (len := 27) (dt := 34) (ts := [(0, 28), (1, 31)]) (by decide +kernel) (by decide) (by decide) (by decide) ?_
  refine ⟨fun q2 => ?_, fun q2 => ?_⟩
  · refine sg_blk [(13, 0, 0, 50, 0)] (by decide +kernel) ?_
    show sg_Wp 0 N d m_T_signsOfPost 30 [(0, 0, v0)] [(3, 0)] G Q
    exact sg_aret (by decide +kernel) rfl rfl ((h.1 q2))
  · refine ⟨fun q1 => ?_, fun q1 => ?_⟩
    · refine sg_blk [(13, 0, 0, 52, 1)] (by decide +kernel) ?_
      show sg_Wp 0 N d m_T_signsOfPost 33 [(0, 0, v0)] [(3, 1)] G Q
      exact sg_aret (by decide +kernel) rfl rfl (((h.2 q2).1 q1))
    · refine sg_blk [(13, 0, 0, 54, 2)] (by decide +kernel) ?_
      show sg_Wp 0 N d m_T_signsOfPost 36 [(0, 0, v0)] [(3, 2)] G Q
      exact sg_aret (by decide +kernel) rfl rfl (((h.2 q2).2 q1))
set_option maxRecDepth 100000 in
theorem g_T_signsOfPerson_0 {d N : Nat} {v0 : Int} {G : SgM} {Q : Int → SgM → Prop} (h : (v0 = 0 → (Q 3 G)) ∧ (v0 ≠ 0 → ((v0 = 1 → (Q 0 G)) ∧ (v0 ≠ 1 → ((v0 = 2 → (Q 4 G)) ∧ (v0 ≠ 2 → ((v0 = 3 → (Q 5 G)) ∧ (v0 ≠ 3 → (Q 2 G))))))))) : sg_Wp 0 N d m_T_signsOfPerson 0 [(0, 0, v0)] [] G Q := by
  refine sg_blk [(3, 0, 0, 0, 0)] (by decide +kernel) ?_
  refine And.intro rfl (?_)
  show sg_Wp 0 N d m_T_signsOfPerson 1 [(0, 0, v0)] [(0, v0)] G Q
  refine sg_tsw (dflt := 43) (low := 0) (high := 3) (offs := #[31, 34, 37, 40]) (len := 31) (dt := 44) (ts := [32, 35, 38, 41]) (by decide +kernel) (by decide) (by decide) (by decide) ?_
  refine ⟨fun q4 => ?_, fun q4 => ?_⟩
  · refine sg_blk [(13, 0, 0, 56, 3)] (by decide +kernel) ?_
    show sg_Wp 0 N d m_T_signsOfPerson 34 [(0, 0, v0)] [(3, 3)] G Q
    exact sg_aret (by decide +kernel) rfl rfl ((h.1 q4))
  · refine ⟨fun q3 => ?_, fun q3 => ?_⟩
    · refine sg_blk [(13, 0, 0, 50, 0)] (by decide +kernel) ?_
      show sg_Wp 0 N d m_T_signsOfPerson 37 [(0, 0, v0)] [(3, 0)] G Q
      exact sg_aret (by decide +kernel) rfl rfl (((h.2 q4).1 q3))
    · refine ⟨fun q2 => ?_, fun q2 => ?_⟩
      · refine sg_blk [(13, 0, 0, 58, 4)] (by decide +kernel) ?_
        show sg_Wp 0 N d m_T_signsOfPerson 40 [(0, 0, v0)] [(3, 4)] G Q
        exact sg_aret (by decide +kernel) rfl rfl ((((h.2 q4).2 q3).1 q2))
      · refine ⟨fun q1 => ?_, fun q1 => ?_⟩
        · refine sg_blk [(13, 0, 0, 60, 5)] (by decide +kernel) ?_
          show sg_Wp 0 N d m_T_signsOfPerson 43 [(0, 0, v0)] [(3, 5)] G Q
          exact sg_aret (by decide +kernel) rfl rfl (((((h.2 q4).2 q3).2 q2).1 q1))
        · refine sg_blk [(13, 0, 0, 54, 2)] (by decide +kernel) ?_
          show sg_Wp 0 N d m_T_signsOfPerson 46 [(0, 0, v0)] [(3, 2)] G Q
          exact sg_aret (by decide +kernel) rfl rfl (((((h.2 q4).2 q3).2 q2).2 q1))
def sg_sgP (k : Int) : Int := if k = 0 then 0 else if k = 1 then 1 else 2
def sg_sgQ (k : Int) : Int := if k = 0 then 3 else if k = 1 then 0 else if k = 2 then 4 else if k = 3 then 5 else 2
theorem s_T_signsOfPost {d N : Nat} {v0 : Int} {G : SgM} {Q : Int → SgM → Prop} (h : Q (sg_sgP v0) G) : sg_Wp 0 N d m_T_signsOfPost 0 [(0, 0, v0)] [] G Q := by
  unfold sg_sgP at h
  refine g_T_signsOfPost_0 ⟨fun q => ?_, fun q => ⟨fun q2 => ?_, fun q2 => ?_⟩⟩
  · rw [if_pos q] at h; exact h
  · rw [if_neg q, if_pos q2] at h; exact h
  · rw [if_neg q, if_neg q2] at h; exact h
theorem s_T_signsOfPerson {d N : Nat} {v0 : Int} {G : SgM} {Q : Int → SgM → Prop} (h : Q (sg_sgQ v0) G) : sg_Wp 0 N d m_T_signsOfPerson 0 [(0, 0, v0)] [] G Q := by
  unfold sg_sgQ at h
  refine g_T_signsOfPerson_0 ⟨fun q => ?_, fun q => ⟨fun q2 => ?_, fun q2 => ⟨fun q3 => ?_, fun q3 => ⟨fun q4 => ?_, fun q4 => ?_⟩⟩⟩⟩
  · rw [if_pos q] at h; exact h
  · rw [if_neg q, if_pos q2] at h; exact h
  · rw [if_neg q, if_neg q2, if_pos q3] at h; exact h
  · rw [if_neg q, if_neg q2, if_neg q3, if_pos q4] at h; exact h
  · rw [if_neg q, if_neg q2, if_neg q3, if_neg q4] at h; exact h
set_option maxRecDepth 100000 in
theorem g_T_signs_1_0 {d N : Nat} (hN : 44 ≤ N) {v1 : Int} {G : SgM} {Q : Int → SgM → Prop} (h : ((G 1 0) = 0 → (Q (sg_sgQ v1) G)) ∧ (¬ ((G 1 0) = 0) → (Q (sg_sgP v1) G))) : sg_Wp 0 N (d + 1) m_T_signs 0 [(0, 2, 1), (1, 0, v1)] [] G Q := by
  refine sg_blk [(1, 0, 0, 0, 0), (15, 0, 7, 9, 0)] (by decide +kernel) ?_
  refine And.intro (Nat.le_of_ble_eq_true rfl) (And.intro (ce_1 hN) (?_))
  show sg_Wp 0 N (d + 1) m_T_signs 4 [(0, 2, 1), (1, 0, v1)] [(0, G 1 0)] G Q
  refine sg_if_eq (off := 10) (tgt := 14) (by decide +kernel) (by decide) ⟨fun q1 => ?_, fun q1 => ?_⟩
  · refine sg_blk [(3, 0, 0, 1, 0)] (by decide +kernel) ?_
    refine And.intro rfl (?_)
    show sg_Wp 0 N (d + 1) m_T_signs 15 [(0, 2, 1), (1, 0, v1)] [(0, v1)] G Q
    refine sg_callS (k := d) (y' := m_T_signsOfPerson) (av := [(0, v1)]) (rest := []) (by decide +kernel) cs_T_signsOfPerson ml_7_47 rfl (Nat.le_of_ble_eq_true rfl) (Nat.lt_succ_self d) (Nat.le_of_ble_eq_true rfl) rfl ?_
    show sg_Wp 0 N d m_T_signsOfPerson 0 [(0, 0, v1)] [] G _
    refine s_T_signsOfPerson ?_
    show sg_Wp 0 N (d + 1) m_T_signs 18 [(0, 2, 1), (1, 0, v1)] [(3, sg_sgQ v1)] G Q
    exact sg_aret (by decide +kernel) rfl rfl ((h.1 q1))
  · refine sg_blk [(3, 0, 0, 1, 0)] (by decide +kernel) ?_
    refine And.intro rfl (?_)
    show sg_Wp 0 N (d + 1) m_T_signs 8 [(0, 2, 1), (1, 0, v1)] [(0, v1)] G Q
    refine sg_callS (k := d) (y' := m_T_signsOfPost) (av := [(0, v1)]) (rest := []) (by decide +kernel) cs_T_signsOfPost ml_7_44 rfl (Nat.le_of_ble_eq_true rfl) (Nat.lt_succ_self d) (Nat.le_of_ble_eq_true rfl) rfl ?_
    show sg_Wp 0 N d m_T_signsOfPost 0 [(0, 0, v1)] [] G _
    refine s_T_signsOfPost ?_
    show sg_Wp 0 N (d + 1) m_T_signs 11 [(0, 2, 1), (1, 0, v1)] [(3, sg_sgP v1)] G Q
    refine sg_goto (off := 7) (tgt := 18) (by decide +kernel) (by decide) ?_
    exact sg_aret (by decide +kernel) rfl rfl ((h.2 q1))
set_option maxRecDepth 100000 in
theorem g_T_signs_3_0 {d N : Nat} (hN : 44 ≤ N) {v1 : Int} {G : SgM} {Q : Int → SgM → Prop} (h : ((G 3 0) = 0 → (Q (sg_sgQ v1) G)) ∧ (¬ ((G 3 0) = 0) → (Q (sg_sgP v1) G))) : sg_Wp 0 N (d + 1) m_T_signs 0 [(0, 2, 3), (1, 0, v1)] [] G Q := by
  refine sg_blk [(1, 0, 0, 0, 0), (15, 0, 7, 9, 0)] (by decide +kernel) ?_
  refine And.intro (Nat.le_of_ble_eq_true rfl) (And.intro (ce_3 hN) (?_))
  show sg_Wp 0 N (d + 1) m_T_signs 4 [(0, 2, 3), (1, 0, v1)] [(0, G 3 0)] G Q
  refine sg_if_eq (off := 10) (tgt := 14) (by decide +kernel) (by decide) ⟨fun q1 => ?_, fun q1 => ?_⟩
  · refine sg_blk [(3, 0, 0, 1, 0)] (by decide +kernel) ?_
    refine And.intro rfl (?_)
    show sg_Wp 0 N (d + 1) m_T_signs 15 [(0, 2, 3), (1, 0, v1)] [(0, v1)] G Q
    refine sg_callS (k := d) (y' := m_T_signsOfPerson) (av := [(0, v1)]) (rest := []) (by decide +kernel) cs_T_signsOfPerson ml_7_47 rfl (Nat.le_of_ble_eq_true rfl) (Nat.lt_succ_self d) (Nat.le_of_ble_eq_true rfl) rfl ?_
    show sg_Wp 0 N d m_T_signsOfPerson 0 [(0, 0, v1)] [] G _
    refine s_T_signsOfPerson ?_
    show sg_Wp 0 N (d + 1) m_T_signs 18 [(0, 2, 3), (1, 0, v1)] [(3, sg_sgQ v1)] G Q
    exact sg_aret (by decide +kernel) rfl rfl ((h.1 q1))
  · refine sg_blk [(3, 0, 0, 1, 0)] (by decide +kernel) ?_
    refine And.intro rfl (?_)
    show sg_Wp 0 N (d + 1) m_T_signs 8 [(0, 2, 3), (1, 0, v1)] [(0, v1)] G Q
    refine sg_callS (k := d) (y' := m_T_signsOfPost) (av := [(0, v1)]) (rest := []) (by decide +kernel) cs_T_signsOfPost ml_7_44 rfl (Nat.le_of_ble_eq_true rfl) (Nat.lt_succ_self d) (Nat.le_of_ble_eq_true rfl) rfl ?_
    show sg_Wp 0 N d m_T_signsOfPost 0 [(0, 0, v1)] [] G _
    refine s_T_signsOfPost ?_
    show sg_Wp 0 N (d + 1) m_T_signs 11 [(0, 2, 3), (1, 0, v1)] [(3, sg_sgP v1)] G Q
    refine sg_goto (off := 7) (tgt := 18) (by decide +kernel) (by decide) ?_
    exact sg_aret (by decide +kernel) rfl rfl ((h.2 q1))
theorem s_T_signs_1 {d N : Nat} (hN : 44 ≤ N) {v1 : Int} {G : SgM} {Q : Int → SgM → Prop} (hf : G 1 0 = 1) (h : Q (sg_sgP v1) G) : sg_Wp 0 N (d + 1) m_T_signs 0 [(0, 2, 1), (1, 0, v1)] [] G Q := by
  refine g_T_signs_1_0 hN ⟨fun q => ?_, fun q => ?_⟩
  · rw [hf] at q; cases q
  · exact h
theorem s_T_signs_3 {d N : Nat} (hN : 44 ≤ N) {v1 : Int} {G : SgM} {Q : Int → SgM → Prop} (hf : G 3 0 = 0) (h : Q (sg_sgQ v1) G) : sg_Wp 0 N (d + 1) m_T_signs 0 [(0, 2, 3), (1, 0, v1)] [] G Q := by
  refine g_T_signs_3_0 hN ⟨fun q => ?_, fun q => ?_⟩
  · exact h
  · exact absurd hf q
set_option maxRecDepth 100000 in
theorem g_S_coder_0 {s : Int} (hs : 0 ≤ s ∧ s < 6) {d N : Nat} {G : SgM} {Q : Int → SgM → Prop} (h : (0 ≤ s ∧ s < 6) ∧ (Q 0 G)) : sg_Wp 0 N d m_S_coder 0 [(0, 3, s)] [] G Q := by
  refine sg_blk [(60, 0, 0, 38, 0)] (by decide +kernel) ?_
  show sg_Wp 0 N d m_S_coder 3 [(0, 3, s)] [(0, 1)] G Q
  refine sg_if_eq (off := 10) (tgt := 13) (by decide +kernel) (by decide) ⟨fun q => absurd q (by decide), fun _ => ?_⟩
  refine sg_blk [(1, 0, 0, 0, 0), (63, 0, 0, 15, 0)] (by decide +kernel) ?_
  refine And.intro (Nat.le_of_ble_eq_true rfl) (And.intro h.1 (?_))
  show sg_Wp 0 N d m_S_coder 10 [(0, 3, s)] [(0, 0)] G Q
  refine sg_goto (off := 4) (tgt := 14) (by decide +kernel) (by decide) ?_
  exact sg_ret (by decide +kernel) rfl (Or.inr ⟨Or.inr rfl, by decide⟩) h.2
set_option maxRecDepth 100000 in
theorem g_S_isLatin1_0 {s : Int} (hs : 0 ≤ s ∧ s < 6) {d N : Nat} {G : SgM} {Q : Int → SgM → Prop} (h : (0 ≤ s ∧ s < 6) ∧ (Q 1 G)) : sg_Wp 0 N d m_S_isLatin1 0 [(0, 3, s)] [] G Q := by
  refine sg_blk [(60, 0, 0, 38, 0)] (by decide +kernel) ?_
  show sg_Wp 0 N d m_S_isLatin1 3 [(0, 3, s)] [(0, 1)] G Q
  refine sg_if_eq (off := 14) (tgt := 17) (by decide +kernel) (by decide) ⟨fun q => absurd q (by decide), fun _ => ?_⟩
  refine sg_blk [(1, 0, 0, 0, 0), (63, 0, 0, 15, 0)] (by decide +kernel) ?_
  refine And.intro (Nat.le_of_ble_eq_true rfl) (And.intro h.1 (?_))
  show sg_Wp 0 N d m_S_isLatin1 10 [(0, 3, s)] [(0, 0)] G Q
  refine sg_if_ne (off := 7) (tgt := 17) (by decide +kernel) (by decide) ⟨fun q => absurd q (by decide), fun _ => ?_⟩
  refine sg_blk [(7, 1, 0, 0, 0)] (by decide +kernel) ?_
  refine And.intro rfl (?_)
  show sg_Wp 0 N d m_S_isLatin1 14 [(0, 3, s)] [(0, 1)] G Q
  refine sg_goto (off := 4) (tgt := 18) (by decide +kernel) (by decide) ?_
  exact sg_ret (by decide +kernel) rfl (Or.inr ⟨Or.inl rfl, by decide⟩) h.2
theorem s_S_coder {d N : Nat} {s : Int} {G : SgM} {Q : Int → SgM → Prop} (hs : 0 ≤ s ∧ s < 6) (h : Q (0) G) : sg_Wp 0 N d m_S_coder 0 [(0, 3, s)] [] G Q := by
  exact g_S_coder_0 hs ⟨hs, h⟩
theorem s_S_isLatin1 {d N : Nat} {s : Int} {G : SgM} {Q : Int → SgM → Prop} (hs : 0 ≤ s ∧ s < 6) (h : Q (1) G) : sg_Wp 0 N d m_S_isLatin1 0 [(0, 3, s)] [] G Q := by
  exact g_S_isLatin1_0 hs ⟨hs, h⟩
set_option maxRecDepth 100000 in
theorem g_S_length_0 {s : Int} (hs : 0 ≤ s ∧ s < 6) {d N : Nat} {G : SgM} {Q : Int → SgM → Prop} (h : (0 ≤ s ∧ s < 6) ∧ (0 ≤ s ∧ s < 6) ∧ ((0 ≤ s ∧ s < 6) ∧ ((0 ≤ s ∧ s < 6) ∧ (Q (sg_ishr (sg_ll s) 0) G)))) : sg_Wp 0 N (d + 1) m_S_length 0 [(0, 3, s)] [] G Q := by
  refine sg_blk [(1, 0, 0, 0, 0), (62, 0, 0, 9, 0), (67, 0, 0, 0, 0), (1, 0, 0, 0, 0)] (by decide +kernel) ?_
  refine And.intro (Nat.le_of_ble_eq_true rfl) (And.intro h.1 (And.intro h.2.1 (And.intro (Nat.le_of_ble_eq_true rfl) (?_))))
  show sg_Wp 0 N (d + 1) m_S_length 6 [(0, 3, s)] [(3, s), (0, sg_ll s)] G Q
  refine sg_callT (k := d) (y' := m_S_coder) (av := []) (rest := [(0, sg_ll s)]) (b := s) (by decide +kernel) cv_S_coder ml_20_335 h.2.2.1 rfl rfl (Nat.le_of_ble_eq_true rfl) (Nat.lt_succ_self d) (Nat.le_of_ble_eq_true rfl) rfl ?_
  show sg_Wp 0 N d m_S_coder 0 [(0, 3, s)] [] G _
  refine s_S_coder h.2.2.2.1 ?_
  show sg_Wp 0 N (d + 1) m_S_length 9 [(0, 3, s)] [(0, 0), (0, sg_ll s)] G Q
  refine sg_blk [(42, 0, 0, 0, 0)] (by decide +kernel) ?_
  show sg_Wp 0 N (d + 1) m_S_length 10 [(0, 3, s)] [(0, sg_ishr (sg_ll s) 0)] G Q
  exact sg_ret (by decide +kernel) rfl (Or.inl rfl) h.2.2.2.2
theorem sg_shr0 (x : Int) : sg_ishr x 0 = (Int32.ofInt x).toInt := by
  unfold sg_ishr
  rw [show (Int32.ofInt 0 &&& 31 : Int32) = 0 from by decide]
  simp
theorem sg_ll32 {s : Int} (hs : 0 ≤ s ∧ s < 6) : (Int32.ofInt (sg_ll s)).toInt = sg_ll s := by
  have hl : ∀ i : Nat, i < 6 → sg_len.getD i 0 < 100 := by decide
  have := hl s.toNat (by omega)
  refine Int32.toInt_ofInt_of_le ?_ ?_ <;> unfold sg_ll <;> omega
theorem s_S_length {d N : Nat} {s : Int} {G : SgM} {Q : Int → SgM → Prop} (hs : 0 ≤ s ∧ s < 6) (h : Q (sg_ll s) G) : sg_Wp 0 N (d + 1) m_S_length 0 [(0, 3, s)] [] G Q := by
  refine g_S_length_0 hs ⟨hs, hs, hs, hs, ?_⟩
  rw [sg_shr0, sg_ll32 hs]
  exact h
set_option maxRecDepth 100000 in
theorem g_L_canEncode_0 {d N : Nat} {v0 : Int} {G : SgM} {Q : Int → SgM → Prop} (h : (v0 < 0 → (Q 0 G)) ∧ (¬ (v0 < 0) → ((255 < v0 → (Q 0 G)) ∧ (¬ (255 < v0) → (Q 1 G))))) : sg_Wp 0 N d m_L_canEncode 0 [(0, 0, v0)] [] G Q := by
  refine sg_blk [(3, 0, 0, 0, 0)] (by decide +kernel) ?_
  refine And.intro rfl (?_)
  show sg_Wp 0 N d m_L_canEncode 1 [(0, 0, v0)] [(0, v0)] G Q
  refine sg_if_lt (off := 14) (tgt := 15) (by decide +kernel) (by decide) ⟨fun q2 => ?_, fun q2 => ?_⟩
  · refine sg_blk [(7, 0, 0, 0, 0)] (by decide +kernel) ?_
    refine And.intro rfl (?_)
    show sg_Wp 0 N d m_L_canEncode 16 [(0, 0, v0)] [(0, 0)] G Q
    exact sg_ret (by decide +kernel) rfl (Or.inr ⟨Or.inl rfl, by decide⟩) ((h.1 q2))
  · refine sg_blk [(3, 0, 0, 0, 0), (9, 255, 0, 0, 0)] (by decide +kernel) ?_
    refine And.intro rfl (And.intro rfl (And.intro rfl (?_)))
    show sg_Wp 0 N d m_L_canEncode 8 [(0, 0, v0)] [(0, 255), (0, v0)] G Q
    refine sg_icmp_gt (off := 7) (tgt := 15) (by decide +kernel) (by decide) ⟨fun q1 => ?_, fun q1 => ?_⟩
    · refine sg_blk [(7, 0, 0, 0, 0)] (by decide +kernel) ?_
      refine And.intro rfl (?_)
      show sg_Wp 0 N d m_L_canEncode 16 [(0, 0, v0)] [(0, 0)] G Q
      exact sg_ret (by decide +kernel) rfl (Or.inr ⟨Or.inl rfl, by decide⟩) (((h.2 q2).1 q1))
    · refine sg_blk [(7, 1, 0, 0, 0)] (by decide +kernel) ?_
      refine And.intro rfl (?_)
      show sg_Wp 0 N d m_L_canEncode 12 [(0, 0, v0)] [(0, 1)] G Q
      refine sg_goto (off := 4) (tgt := 16) (by decide +kernel) (by decide) ?_
      exact sg_ret (by decide +kernel) rfl (Or.inr ⟨Or.inl rfl, by decide⟩) (((h.2 q2).2 q1))
theorem s_L_canEncode {d N : Nat} {v0 : Int} {G : SgM} {Q : Int → SgM → Prop} (h : Q (sg_bo (0 ≤ v0 ∧ v0 ≤ 255)) G) : sg_Wp 0 N d m_L_canEncode 0 [(0, 0, v0)] [] G Q := by
  refine g_L_canEncode_0 ⟨fun q => ?_, fun q => ⟨fun q2 => ?_, fun q2 => ?_⟩⟩
  · rw [sg_bo_f (by omega)] at h; exact h
  · rw [sg_bo_f (by omega)] at h; exact h
  · rw [sg_bo_t (by omega)] at h; exact h
set_option maxRecDepth 100000 in
theorem g_L_indexOfChar_0 {s : Int} (hs : 0 ≤ s ∧ s < 6) {d N : Nat} {v1 v2 v3 : Int} {G : SgM} {Q : Int → SgM → Prop} (h : sg_Wp 0 N d m_L_indexOfChar 7 [(0, 4, s), (3, 0, v3), (4, 0, sg_i2b v1), (5, 0, v2)] [] G Q) : sg_Wp 0 N d m_L_indexOfChar 0 [(0, 4, s), (1, 0, v1), (2, 0, v2), (3, 0, v3)] [] G Q := by
  refine sg_blk [(3, 0, 0, 1, 0), (54, 0, 0, 0, 0), (26, 0, 0, 4, 0), (3, 0, 0, 2, 0), (26, 0, 0, 5, 0)] (by decide +kernel) ?_
  refine And.intro rfl (And.intro rfl (And.intro rfl (And.intro rfl (?_))))
  show sg_Wp 0 N d m_L_indexOfChar 7 [(0, 4, s), (1, 0, v1), (2, 0, v2), (3, 0, v3), (4, 0, sg_i2b v1), (5, 0, v2)] [] G Q
  exact sg_Wp.keepk [0, 3, 4, 5] rfl h
set_option maxRecDepth 100000 in
theorem g_L_indexOfChar_7 {s : Int} (hs : 0 ≤ s ∧ s < 6) {d N : Nat} {v3 v4 v5 : Int} {G : SgM} {Q : Int → SgM → Prop} (h : (v3 ≤ v5 → (Q ((-1)) G)) ∧ (¬ (v3 ≤ v5) → (((0 ≤ s ∧ s < 6) ∧ 0 ≤ v5 ∧ v5 < sg_ll s) ∧ (((sg_lb s v5) ≠ v4 → (sg_Wp 0 N d m_L_indexOfChar 7 [(0, 4, s), (3, 0, v3), (4, 0, v4), (5, 0, sg_iadd v5 1)] [] G Q)) ∧ (¬ ((sg_lb s v5) ≠ v4) → (Q v5 G)))))) : sg_Wp 0 N d m_L_indexOfChar 7 [(0, 4, s), (3, 0, v3), (4, 0, v4), (5, 0, v5)] [] G Q := by
  refine sg_blk [(4, 0, 0, 5, 0), (3, 0, 0, 3, 0)] (by decide +kernel) ?_
  refine And.intro rfl (And.intro rfl (?_))
  show sg_Wp 0 N d m_L_indexOfChar 10 [(0, 4, s), (3, 0, v3), (4, 0, v4), (5, 0, v5)] [(0, v3), (0, v5)] G Q
  refine sg_icmp_ge (off := 21) (tgt := 31) (by decide +kernel) (by decide) ⟨fun q2 => ?_, fun q2 => ?_⟩
  · refine sg_blk [(7, (-1), 0, 0, 0)] (by decide +kernel) ?_
    refine And.intro rfl (?_)
    show sg_Wp 0 N d m_L_indexOfChar 32 [(0, 4, s), (3, 0, v3), (4, 0, v4), (5, 0, v5)] [(0, (-1))] G Q
    exact sg_ret (by decide +kernel) rfl (Or.inl rfl) ((h.1 q2))
  · refine sg_blk [(1, 0, 0, 0, 0), (4, 0, 0, 5, 0), (66, 0, 0, 0, 0), (4, 0, 0, 4, 0)] (by decide +kernel) ?_
    refine And.intro (Nat.le_of_ble_eq_true rfl) (And.intro rfl (And.intro (h.2 q2).1 (And.intro rfl (?_))))
    show sg_Wp 0 N d m_L_indexOfChar 19 [(0, 4, s), (3, 0, v3), (4, 0, v4), (5, 0, v5)] [(0, v4), (0, sg_lb s v5)] G Q
    refine sg_icmp_ne (off := 6) (tgt := 25) (by decide +kernel) (by decide) ⟨fun q1 => ?_, fun q1 => ?_⟩
    · refine sg_blk [(31, 1, 0, 5, 0)] (by decide +kernel) ?_
      refine And.intro rfl (?_)
      show sg_Wp 0 N d m_L_indexOfChar 28 [(0, 4, s), (3, 0, v3), (4, 0, v4), (5, 0, sg_iadd v5 1)] [] G Q
      refine sg_goto (off := -21) (tgt := 7) (by decide +kernel) (by decide) ?_
      exact ((h.2 q2).2.1 q1)
    · refine sg_blk [(4, 0, 0, 5, 0)] (by decide +kernel) ?_
      refine And.intro rfl (?_)
      show sg_Wp 0 N d m_L_indexOfChar 24 [(0, 4, s), (3, 0, v3), (4, 0, v4), (5, 0, v5)] [(0, v5)] G Q
      exact sg_ret (by decide +kernel) rfl (Or.inl rfl) (((h.2 q2).2.2 q1))
set_option maxRecDepth 100000 in
theorem g_L_indexOf_0 {s : Int} (hs : 0 ≤ s ∧ s < 6) {d N : Nat} {v1 v2 v3 : Int} {G : SgM} {Q : Int → SgM → Prop} (h : ((0 ≤ v1 ∧ v1 ≤ 255) → ((0 ≤ s ∧ s < 6) ∧ (((sg_mx v2 0) < (sg_mn v3 (sg_ll s)) → (sg_Wp 0 N d m_L_indexOfChar 0 [(0, 4, s), (1, 0, v1), (2, 0, sg_mx v2 0), (3, 0, sg_mn v3 (sg_ll s))] [] G (fun r1 G1 => Q r1 G1))) ∧ (¬ ((sg_mx v2 0) < (sg_mn v3 (sg_ll s))) → (Q ((-1)) G))))) ∧ (¬ (0 ≤ v1 ∧ v1 ≤ 255) → (Q ((-1)) G))) : sg_Wp 0 N (d + 1) m_L_indexOf 0 [(0, 4, s), (1, 0, v1), (2, 0, v2), (3, 0, v3)] [] G Q := by
  refine sg_blk [(3, 0, 0, 1, 0)] (by decide +kernel) ?_
  refine And.intro rfl (?_)
  show sg_Wp 0 N (d + 1) m_L_indexOf 1 [(0, 4, s), (1, 0, v1), (2, 0, v2), (3, 0, v3)] [(0, v1)] G Q
  refine sg_callS (k := d) (y' := m_L_canEncode) (av := [(0, v1)]) (rest := []) (by decide +kernel) cs_L_canEncode ml_21_88 rfl (Nat.le_of_ble_eq_true rfl) (Nat.lt_succ_self d) (Nat.le_of_ble_eq_true rfl) rfl ?_
  show sg_Wp 0 N d m_L_canEncode 0 [(0, 0, v1)] [] G _
  refine s_L_canEncode ?_
  show sg_Wp 0 N (d + 1) m_L_indexOf 4 [(0, 4, s), (1, 0, v1), (2, 0, v2), (3, 0, v3)] [(0, sg_bo (0 ≤ v1 ∧ v1 ≤ 255))] G Q
  refine sg_bif_ne (off := 5) (tgt := 9) (by decide +kernel) (by decide) ⟨fun q2 => ?_, fun q2 => ?_⟩
  · refine sg_blk [(3, 0, 0, 2, 0), (7, 0, 0, 0, 0)] (by decide +kernel) ?_
    refine And.intro rfl (And.intro rfl (?_))
    show sg_Wp 0 N (d + 1) m_L_indexOf 11 [(0, 4, s), (1, 0, v1), (2, 0, v2), (3, 0, v3)] [(0, 0), (0, v2)] G Q
    refine sg_mmax (by decide +kernel) mx_21_92 (Nat.succ_pos _) (Nat.le_of_ble_eq_true rfl) rfl ?_
    show sg_Wp 0 N (d + 1) m_L_indexOf 14 [(0, 4, s), (1, 0, v1), (2, 0, v2), (3, 0, v3)] [(0, sg_mx v2 0)] G Q
    refine sg_blk [(25, 0, 0, 2, 0), (3, 0, 0, 3, 0), (1, 0, 0, 0, 0), (67, 0, 0, 0, 0)] (by decide +kernel) ?_
    refine And.intro rfl (And.intro rfl (And.intro (Nat.le_of_ble_eq_true rfl) (And.intro (h.1 q2).1 (?_))))
    show sg_Wp 0 N (d + 1) m_L_indexOf 18 [(0, 4, s), (1, 0, v1), (2, 0, sg_mx v2 0), (3, 0, v3)] [(0, sg_ll s), (0, v3)] G Q
    refine sg_mmin (by decide +kernel) mx_21_38 (Nat.succ_pos _) (Nat.le_of_ble_eq_true rfl) rfl ?_
    show sg_Wp 0 N (d + 1) m_L_indexOf 21 [(0, 4, s), (1, 0, v1), (2, 0, sg_mx v2 0), (3, 0, v3)] [(0, sg_mn v3 (sg_ll s))] G Q
    refine sg_blk [(25, 0, 0, 3, 0), (3, 0, 0, 2, 0), (3, 0, 0, 3, 0)] (by decide +kernel) ?_
    refine And.intro rfl (And.intro rfl (And.intro rfl (?_)))
    show sg_Wp 0 N (d + 1) m_L_indexOf 24 [(0, 4, s), (1, 0, v1), (2, 0, sg_mx v2 0), (3, 0, sg_mn v3 (sg_ll s))] [(0, sg_mn v3 (sg_ll s)), (0, sg_mx v2 0)] G Q
    refine sg_icmp_lt (off := 5) (tgt := 29) (by decide +kernel) (by decide) ⟨fun q1 => ?_, fun q1 => ?_⟩
    · refine sg_blk [(1, 0, 0, 0, 0), (3, 0, 0, 1, 0), (3, 0, 0, 2, 0), (3, 0, 0, 3, 0)] (by decide +kernel) ?_
      refine And.intro (Nat.le_of_ble_eq_true rfl) (And.intro rfl (And.intro rfl (And.intro rfl (?_))))
      show sg_Wp 0 N (d + 1) m_L_indexOf 33 [(0, 4, s), (1, 0, v1), (2, 0, sg_mx v2 0), (3, 0, sg_mn v3 (sg_ll s))] [(0, sg_mn v3 (sg_ll s)), (0, sg_mx v2 0), (0, v1), (4, s)] G Q
      refine sg_callS (k := d) (y' := m_L_indexOfChar) (av := [(4, s), (0, v1), (0, sg_mx v2 0), (0, sg_mn v3 (sg_ll s))]) (rest := []) (by decide +kernel) cs_L_indexOfChar ml_21_95 rfl (Nat.le_of_ble_eq_true rfl) (Nat.lt_succ_self d) (Nat.le_of_ble_eq_true rfl) rfl ?_
      show sg_Wp 0 N d m_L_indexOfChar 0 [(0, 4, s), (1, 0, v1), (2, 0, sg_mx v2 0), (3, 0, sg_mn v3 (sg_ll s))] [] G _
      refine sg_Wp.mono (((h.1 q2).2.1 q1)) (fun r1 G1 hhr1 => ?_)
      show sg_Wp 0 N (d + 1) m_L_indexOf 36 [(0, 4, s), (1, 0, v1), (2, 0, sg_mx v2 0), (3, 0, sg_mn v3 (sg_ll s))] [(0, r1)] G1 Q
      exact sg_ret (by decide +kernel) rfl (Or.inl rfl) hhr1
    · refine sg_blk [(7, (-1), 0, 0, 0)] (by decide +kernel) ?_
      refine And.intro rfl (?_)
      show sg_Wp 0 N (d + 1) m_L_indexOf 28 [(0, 4, s), (1, 0, v1), (2, 0, sg_mx v2 0), (3, 0, sg_mn v3 (sg_ll s))] [(0, (-1))] G Q
      exact sg_ret (by decide +kernel) rfl (Or.inl rfl) (((h.1 q2).2.2 q1))
  · refine sg_blk [(7, (-1), 0, 0, 0)] (by decide +kernel) ?_
    refine And.intro rfl (?_)
    show sg_Wp 0 N (d + 1) m_L_indexOf 8 [(0, 4, s), (1, 0, v1), (2, 0, v2), (3, 0, v3)] [(0, (-1))] G Q
    exact sg_ret (by decide +kernel) rfl (Or.inl rfl) ((h.2 q2))
set_option maxRecDepth 100000 in
theorem g_S_indexOf2_0 {s : Int} (hs : 0 ≤ s ∧ s < 6) {d N : Nat} {v1 v2 : Int} {G : SgM} {Q : Int → SgM → Prop} (h : (0 ≤ s ∧ s < 6) ∧ ((0 ≤ s ∧ s < 6) ∧ ((0 ≤ s ∧ s < 6) ∧ ((0 ≤ s ∧ s < 6) ∧ ((0 ≤ s ∧ s < 6) ∧ (sg_Wp 0 N (d + 1) m_L_indexOf 0 [(0, 4, s), (1, 0, v1), (2, 0, v2), (3, 0, sg_ll s)] [] G (fun r1 G1 => Q r1 G1))))))) : sg_Wp 0 N (d + 2) m_S_indexOf2 0 [(0, 3, s), (1, 0, v1), (2, 0, v2)] [] G Q := by
  refine sg_blk [(1, 0, 0, 0, 0)] (by decide +kernel) ?_
  refine And.intro (Nat.le_of_ble_eq_true rfl) (?_)
  show sg_Wp 0 N (d + 2) m_S_indexOf2 1 [(0, 3, s), (1, 0, v1), (2, 0, v2)] [(3, s)] G Q
  refine sg_callT (k := (d + 1)) (y' := m_S_isLatin1) (av := []) (rest := []) (b := s) (by decide +kernel) cv_S_isLatin1 ml_20_492 h.1 rfl rfl (Nat.le_of_ble_eq_true rfl) (Nat.lt_succ_self (d + 1)) (Nat.le_of_ble_eq_true rfl) rfl ?_
  show sg_Wp 0 N (d + 1) m_S_isLatin1 0 [(0, 3, s)] [] G _
  refine s_S_isLatin1 h.2.1 ?_
  show sg_Wp 0 N (d + 2) m_S_indexOf2 4 [(0, 3, s), (1, 0, v1), (2, 0, v2)] [(0, 1)] G Q
  refine sg_if_eq (off := 19) (tgt := 23) (by decide +kernel) (by decide) ⟨fun q => absurd q (by decide), fun _ => ?_⟩
  refine sg_blk [(1, 0, 0, 0, 0), (62, 0, 0, 9, 0), (3, 0, 0, 1, 0), (3, 0, 0, 2, 0), (1, 0, 0, 0, 0)] (by decide +kernel) ?_
  refine And.intro (Nat.le_of_ble_eq_true rfl) (And.intro h.2.2.1 (And.intro rfl (And.intro rfl (And.intro (Nat.le_of_ble_eq_true rfl) (?_)))))
  show sg_Wp 0 N (d + 2) m_S_indexOf2 14 [(0, 3, s), (1, 0, v1), (2, 0, v2)] [(3, s), (0, v2), (0, v1), (4, s)] G Q
  refine sg_callT (k := (d + 1)) (y' := m_S_length) (av := []) (rest := [(0, v2), (0, v1), (4, s)]) (b := s) (by decide +kernel) cv_S_length ml_20_505 h.2.2.2.1 rfl rfl (Nat.le_of_ble_eq_true rfl) (Nat.lt_succ_self (d + 1)) (Nat.le_of_ble_eq_true rfl) rfl ?_
  show sg_Wp 0 N (d + 1) m_S_length 0 [(0, 3, s)] [] G _
  refine s_S_length h.2.2.2.2.1 ?_
  show sg_Wp 0 N (d + 2) m_S_indexOf2 17 [(0, 3, s), (1, 0, v1), (2, 0, v2)] [(0, sg_ll s), (0, v2), (0, v1), (4, s)] G Q
  refine sg_callS (k := (d + 1)) (y' := m_L_indexOf) (av := [(4, s), (0, v1), (0, v2), (0, sg_ll s)]) (rest := []) (by decide +kernel) cs_L_indexOf ml_20_637 rfl (Nat.le_of_ble_eq_true rfl) (Nat.lt_succ_self (d + 1)) (Nat.le_of_ble_eq_true rfl) rfl ?_
  show sg_Wp 0 N (d + 1) m_L_indexOf 0 [(0, 4, s), (1, 0, v1), (2, 0, v2), (3, 0, sg_ll s)] [] G _
  refine sg_Wp.mono h.2.2.2.2.2 (fun r1 G1 hhr1 => ?_)
  show sg_Wp 0 N (d + 2) m_S_indexOf2 20 [(0, 3, s), (1, 0, v1), (2, 0, v2)] [(0, r1)] G1 Q
  refine sg_goto (off := 16) (tgt := 36) (by decide +kernel) (by decide) ?_
  exact sg_ret (by decide +kernel) rfl (Or.inl rfl) hhr1
set_option maxRecDepth 100000 in
theorem g_S_indexOf1_0 {s : Int} (hs : 0 ≤ s ∧ s < 6) {d N : Nat} {v1 : Int} {G : SgM} {Q : Int → SgM → Prop} (h : (0 ≤ s ∧ s < 6) ∧ (sg_Wp 0 N d m_S_indexOf2 0 [(0, 3, s), (1, 0, v1), (2, 0, 0)] [] G (fun r1 G1 => Q r1 G1))) : sg_Wp 0 N (d + 1) m_S_indexOf1 0 [(0, 3, s), (1, 0, v1)] [] G Q := by
  refine sg_blk [(1, 0, 0, 0, 0), (3, 0, 0, 1, 0), (7, 0, 0, 0, 0)] (by decide +kernel) ?_
  refine And.intro (Nat.le_of_ble_eq_true rfl) (And.intro rfl (And.intro rfl (?_)))
  show sg_Wp 0 N (d + 1) m_S_indexOf1 3 [(0, 3, s), (1, 0, v1)] [(0, 0), (0, v1), (3, s)] G Q
  refine sg_callT (k := d) (y' := m_S_indexOf2) (av := [(0, v1), (0, 0)]) (rest := []) (b := s) (by decide +kernel) cv_S_indexOf2 ml_20_633 h.1 rfl rfl (Nat.le_of_ble_eq_true rfl) (Nat.lt_succ_self d) (Nat.le_of_ble_eq_true rfl) rfl ?_
  show sg_Wp 0 N d m_S_indexOf2 0 [(0, 3, s), (1, 0, v1), (2, 0, 0)] [] G _
  refine sg_Wp.mono h.2 (fun r1 G1 hhr1 => ?_)
  show sg_Wp 0 N (d + 1) m_S_indexOf1 6 [(0, 3, s), (1, 0, v1)] [(0, r1)] G1 Q
  exact sg_ret (by decide +kernel) rfl (Or.inl rfl) hhr1
set_option maxRecDepth 100000 in
theorem g_M_in_0 {d : Nat} {v0 v2 v4 : Int} {G : SgM} {Q : Int → SgM → Prop} (h : ((sg_lcmp v0 v2) < 0 → (Q 0 G)) ∧ (¬ ((sg_lcmp v0 v2) < 0) → ((0 < (sg_lcmp v0 v4) → (Q 0 G)) ∧ (¬ (0 < (sg_lcmp v0 v4)) → (Q 1 G))))) : sg_Wp 200 228 d m_M_in 0 [(0, 1, v0), (2, 1, v2), (4, 1, v4)] [] G Q := by
  refine sg_blk [(5, 0, 0, 0, 0), (5, 0, 0, 2, 0), (52, 0, 0, 0, 0)] (by decide +kernel) ?_
  refine And.intro rfl (And.intro rfl (?_))
  show sg_Wp 200 228 d m_M_in 3 [(0, 1, v0), (2, 1, v2), (4, 1, v4)] [(0, sg_lcmp v0 v2)] G Q
  refine sg_if_lt (off := 14) (tgt := 17) (by decide +kernel) (by decide) ⟨fun q2 => ?_, fun q2 => ?_⟩
  · refine sg_blk [(7, 0, 0, 0, 0)] (by decide +kernel) ?_
    refine And.intro rfl (?_)
    show sg_Wp 200 228 d m_M_in 18 [(0, 1, v0), (2, 1, v2), (4, 1, v4)] [(0, 0)] G Q
    exact sg_ret (by decide +kernel) rfl (Or.inr ⟨Or.inl rfl, by decide⟩) ((h.1 q2))
  · refine sg_blk [(5, 0, 0, 0, 0), (6, 0, 0, 4, 0), (52, 0, 0, 0, 0)] (by decide +kernel) ?_
    refine And.intro rfl (And.intro rfl (?_))
    show sg_Wp 200 228 d m_M_in 10 [(0, 1, v0), (2, 1, v2), (4, 1, v4)] [(0, sg_lcmp v0 v4)] G Q
    refine sg_if_gt (off := 7) (tgt := 17) (by decide +kernel) (by decide) ⟨fun q1 => ?_, fun q1 => ?_⟩
    · refine sg_blk [(7, 0, 0, 0, 0)] (by decide +kernel) ?_
      refine And.intro rfl (?_)
      show sg_Wp 200 228 d m_M_in 18 [(0, 1, v0), (2, 1, v2), (4, 1, v4)] [(0, 0)] G Q
      exact sg_ret (by decide +kernel) rfl (Or.inr ⟨Or.inl rfl, by decide⟩) (((h.2 q2).1 q1))
    · refine sg_blk [(7, 1, 0, 0, 0)] (by decide +kernel) ?_
      refine And.intro rfl (?_)
      show sg_Wp 200 228 d m_M_in 14 [(0, 1, v0), (2, 1, v2), (4, 1, v4)] [(0, 1)] G Q
      refine sg_goto (off := 4) (tgt := 18) (by decide +kernel) (by decide) ?_
      exact sg_ret (by decide +kernel) rfl (Or.inr ⟨Or.inl rfl, by decide⟩) (((h.2 q2).2 q1))
theorem s_M_in {d : Nat} {v0 v2 v4 : Int} {G : SgM} {Q : Int → SgM → Prop} (h : Q (sg_bo (v2 ≤ v0 ∧ v0 ≤ v4)) G) : sg_Wp 200 228 d m_M_in 0 [(0, 1, v0), (2, 1, v2), (4, 1, v4)] [] G Q := by
  have e : ∀ x y : Int, (sg_lcmp x y < 0 ↔ x < y) ∧ (0 < sg_lcmp x y ↔ y < x) := by
    intro x y
    unfold sg_lcmp
    by_cases c1 : y < x
    · rw [if_pos c1]; omega
    · rw [if_neg c1]
      by_cases c2 : x = y
      · rw [if_pos c2]; omega
      · rw [if_neg c2]; omega
  refine g_M_in_0 ⟨fun q => ?_, fun q => ⟨fun q2 => ?_, fun q2 => ?_⟩⟩
  · have := (e v0 v2).1.mp q
    rw [sg_bo_f (by omega)] at h; exact h
  · have := (e v0 v4).2.mp q2
    rw [sg_bo_f (by omega)] at h; exact h
  · have h1 : ¬ v0 < v2 := fun z => q ((e v0 v2).1.mpr z)
    have h2 : ¬ v4 < v0 := fun z => q2 ((e v0 v4).2.mpr z)
    rw [sg_bo_t (by omega)] at h; exact h
set_option maxRecDepth 100000 in
theorem g_M_isTwo_0 {d : Nat} {v0 : Int} {G : SgM} {Q : Int → SgM → Prop} (h : Q (sg_bo (0 ≤ v0 ∧ v0 ≤ 1)) G) : sg_Wp 200 228 (d + 1) m_M_isTwo 0 [(0, 0, v0)] [] G Q := by
  refine sg_blk [(3, 0, 0, 0, 0), (53, 0, 0, 0, 0), (10, 0, 0, 0, 0), (10, 0, 0, 1, 0)] (by decide +kernel) ?_
  refine And.intro rfl (?_)
  show sg_Wp 200 228 (d + 1) m_M_isTwo 4 [(0, 0, v0)] [(1, 1), (1, 0), (1, v0)] G Q
  refine sg_callS (k := d) (y' := m_M_in) (av := [(1, v0), (1, 0), (1, 1)]) (rest := []) (by decide +kernel) cs_M_in ml_11_98 rfl (Nat.le_of_ble_eq_true rfl) (Nat.lt_succ_self d) (Nat.le_of_ble_eq_true rfl) rfl ?_
  show sg_Wp 200 228 d m_M_in 0 [(0, 1, v0), (2, 1, 0), (4, 1, 1)] [] G _
  refine s_M_in ?_
  show sg_Wp 200 228 (d + 1) m_M_isTwo 7 [(0, 0, v0)] [(0, sg_bo (0 ≤ v0 ∧ v0 ≤ 1))] G Q
  exact sg_ret (by decide +kernel) rfl (Or.inr ⟨Or.inl rfl, sg_bo01 _⟩) h
theorem s_M_isTwo {d : Nat} {v0 : Int} {G : SgM} {Q : Int → SgM → Prop} (h : Q (sg_bo (0 ≤ v0 ∧ v0 ≤ 1)) G) : sg_Wp 200 228 (d + 1) m_M_isTwo 0 [(0, 0, v0)] [] G Q := by
  exact g_M_isTwo_0 h
set_option maxRecDepth 100000 in
theorem g_M_isSheet_0 {d : Nat} {v0 : Int} {G : SgM} {Q : Int → SgM → Prop} (h : Q (sg_bo (0 ≤ v0 ∧ v0 ≤ 3)) G) : sg_Wp 200 228 (d + 1) m_M_isSheet 0 [(0, 0, v0)] [] G Q := by
  refine sg_blk [(3, 0, 0, 0, 0), (53, 0, 0, 0, 0), (10, 0, 0, 0, 0), (12, 3, 0, 105, 0)] (by decide +kernel) ?_
  refine And.intro rfl (And.intro rfl (?_))
  show sg_Wp 200 228 (d + 1) m_M_isSheet 6 [(0, 0, v0)] [(1, 3), (1, 0), (1, v0)] G Q
  refine sg_callS (k := d) (y' := m_M_in) (av := [(1, v0), (1, 0), (1, 3)]) (rest := []) (by decide +kernel) cs_M_in ml_11_98 rfl (Nat.le_of_ble_eq_true rfl) (Nat.lt_succ_self d) (Nat.le_of_ble_eq_true rfl) rfl ?_
  show sg_Wp 200 228 d m_M_in 0 [(0, 1, v0), (2, 1, 0), (4, 1, 3)] [] G _
  refine s_M_in ?_
  show sg_Wp 200 228 (d + 1) m_M_isSheet 9 [(0, 0, v0)] [(0, sg_bo (0 ≤ v0 ∧ v0 ≤ 3))] G Q
  exact sg_ret (by decide +kernel) rfl (Or.inr ⟨Or.inl rfl, sg_bo01 _⟩) h
theorem s_M_isSheet {d : Nat} {v0 : Int} {G : SgM} {Q : Int → SgM → Prop} (h : Q (sg_bo (0 ≤ v0 ∧ v0 ≤ 3)) G) : sg_Wp 200 228 (d + 1) m_M_isSheet 0 [(0, 0, v0)] [] G Q := by
  exact g_M_isSheet_0 h
set_option maxRecDepth 100000 in
theorem g_M_isHour_0 {d : Nat} {v0 : Int} {G : SgM} {Q : Int → SgM → Prop} (h : Q (sg_bo (0 ≤ v0 ∧ v0 ≤ 23)) G) : sg_Wp 200 228 (d + 1) m_M_isHour 0 [(0, 0, v0)] [] G Q := by
  refine sg_blk [(3, 0, 0, 0, 0), (53, 0, 0, 0, 0), (10, 0, 0, 0, 0), (12, 23, 0, 156, 0)] (by decide +kernel) ?_
  refine And.intro rfl (And.intro rfl (?_))
  show sg_Wp 200 228 (d + 1) m_M_isHour 6 [(0, 0, v0)] [(1, 23), (1, 0), (1, v0)] G Q
  refine sg_callS (k := d) (y' := m_M_in) (av := [(1, v0), (1, 0), (1, 23)]) (rest := []) (by decide +kernel) cs_M_in ml_11_98 rfl (Nat.le_of_ble_eq_true rfl) (Nat.lt_succ_self d) (Nat.le_of_ble_eq_true rfl) rfl ?_
  show sg_Wp 200 228 d m_M_in 0 [(0, 1, v0), (2, 1, 0), (4, 1, 23)] [] G _
  refine s_M_in ?_
  show sg_Wp 200 228 (d + 1) m_M_isHour 9 [(0, 0, v0)] [(0, sg_bo (0 ≤ v0 ∧ v0 ≤ 23))] G Q
  exact sg_ret (by decide +kernel) rfl (Or.inr ⟨Or.inl rfl, sg_bo01 _⟩) h
theorem s_M_isHour {d : Nat} {v0 : Int} {G : SgM} {Q : Int → SgM → Prop} (h : Q (sg_bo (0 ≤ v0 ∧ v0 ≤ 23)) G) : sg_Wp 200 228 (d + 1) m_M_isHour 0 [(0, 0, v0)] [] G Q := by
  exact g_M_isHour_0 h
set_option maxRecDepth 100000 in
theorem g_M_no_0 {d : Nat} {v0 : Int} {G : SgM} {Q : Int → SgM → Prop} (h : Q (sg_lsub ((-9223372036854775808)) v0) G) : sg_Wp 200 228 d m_M_no 0 [(0, 0, v0)] [] G Q := by
  refine sg_blk [(12, (-9223372036854775808), 0, 96, 0), (3, 0, 0, 0, 0), (53, 0, 0, 0, 0), (45, 0, 0, 0, 0)] (by decide +kernel) ?_
  refine And.intro rfl (And.intro rfl (?_))
  show sg_Wp 200 228 d m_M_no 6 [(0, 0, v0)] [(1, sg_lsub ((-9223372036854775808)) v0)] G Q
  exact sg_lret (by decide +kernel) rfl h
theorem s_M_no {d : Nat} {v0 : Int} {G : SgM} {Q : Int → SgM → Prop} (h : Q (sg_lsub (-9223372036854775808) v0) G) : sg_Wp 200 228 d m_M_no 0 [(0, 0, v0)] [] G Q := by
  exact g_M_no_0 h
set_option maxRecDepth 100000 in
theorem g_M_isIn_0 {d : Nat} {v0 v1 : Int} {G : SgM} {Q : Int → SgM → Prop} (h : ((sg_iand (sg_ishr v0 v1) 1) ≠ 1 → (Q 0 G)) ∧ (¬ ((sg_iand (sg_ishr v0 v1) 1) ≠ 1) → (Q 1 G))) : sg_Wp 200 228 d m_M_isIn 0 [(0, 0, v0), (1, 0, v1)] [] G Q := by
  refine sg_blk [(3, 0, 0, 0, 0), (3, 0, 0, 1, 0), (42, 0, 0, 0, 0), (7, 1, 0, 0, 0), (38, 0, 0, 0, 0), (7, 1, 0, 0, 0)] (by decide +kernel) ?_
  refine And.intro rfl (And.intro rfl (And.intro rfl (And.intro rfl (?_))))
  show sg_Wp 200 228 d m_M_isIn 6 [(0, 0, v0), (1, 0, v1)] [(0, 1), (0, sg_iand (sg_ishr v0 v1) 1)] G Q
  refine sg_icmp_ne (off := 7) (tgt := 13) (by decide +kernel) (by decide) ⟨fun q1 => ?_, fun q1 => ?_⟩
  · refine sg_blk [(7, 0, 0, 0, 0)] (by decide +kernel) ?_
    refine And.intro rfl (?_)
    show sg_Wp 200 228 d m_M_isIn 14 [(0, 0, v0), (1, 0, v1)] [(0, 0)] G Q
    exact sg_ret (by decide +kernel) rfl (Or.inr ⟨Or.inl rfl, by decide⟩) ((h.1 q1))
  · refine sg_blk [(7, 1, 0, 0, 0)] (by decide +kernel) ?_
    refine And.intro rfl (?_)
    show sg_Wp 200 228 d m_M_isIn 10 [(0, 0, v0), (1, 0, v1)] [(0, 1)] G Q
    refine sg_goto (off := 4) (tgt := 14) (by decide +kernel) (by decide) ?_
    exact sg_ret (by decide +kernel) rfl (Or.inr ⟨Or.inl rfl, by decide⟩) ((h.2 q1))
theorem s_M_isIn {d : Nat} {v0 v1 : Int} {G : SgM} {Q : Int → SgM → Prop} (h : Q (sg_bo (sg_iand (sg_ishr v0 v1) 1 = 1)) G) : sg_Wp 200 228 d m_M_isIn 0 [(0, 0, v0), (1, 0, v1)] [] G Q := by
  refine g_M_isIn_0 ⟨fun q => ?_, fun q => ?_⟩
  · rw [sg_bo_f q] at h; exact h
  · rw [sg_bo_t (Decidable.byContradiction q)] at h; exact h
def sg_lss (a b : Int) : Int := if a < b then a else b
def sg_grt (a b : Int) : Int := if b < a then a else b
def sg_apt (a b : Int) : Int := if b < a then sg_isub a b else sg_isub b a
def sg_cut (f v : Int) : Int := if f = 0 then sg_i2b v else if f = 1 then sg_i2s v else v
def sg_fig (b l m : Int) : Int := if sg_iadd 48 l ≤ b ∧ b ≤ sg_iadd 48 m then sg_isub b 48 else -9
def sg_pof (k b : Int) : Int := if k = 0 then sg_fig b 0 9 else if k = 1 then sg_fig b 0 3 else if b = 59 then 0 else -9
def sg_qof (k b : Int) : Int := if k = 0 then (if b = 112 then 0 else if b = 99 then 1 else if b = 103 then 2 else -9) else if k = 1 then sg_fig b 0 9 else if k = 2 then (if b = 101 then 0 else if b = 119 then 1 else -9) else if k = 3 then sg_fig b 1 9 else if b = 59 then 0 else -9
set_option maxRecDepth 100000 in
theorem g_M_lesser_0 {d : Nat} {v0 v1 : Int} {G : SgM} {Q : Int → SgM → Prop} (h : (v1 ≤ v0 → (Q v1 G)) ∧ (¬ (v1 ≤ v0) → (Q v0 G))) : sg_Wp 200 228 d m_M_lesser 0 [(0, 0, v0), (1, 0, v1)] [] G Q := by
  refine sg_blk [(3, 0, 0, 0, 0), (3, 0, 0, 1, 0)] (by decide +kernel) ?_
  refine And.intro rfl (And.intro rfl (?_))
  show sg_Wp 200 228 d m_M_lesser 2 [(0, 0, v0), (1, 0, v1)] [(0, v1), (0, v0)] G Q
  refine sg_icmp_ge (off := 7) (tgt := 9) (by decide +kernel) (by decide) ⟨fun q1 => ?_, fun q1 => ?_⟩
  · refine sg_blk [(3, 0, 0, 1, 0)] (by decide +kernel) ?_
    refine And.intro rfl (?_)
    show sg_Wp 200 228 d m_M_lesser 10 [(0, 0, v0), (1, 0, v1)] [(0, v1)] G Q
    exact sg_ret (by decide +kernel) rfl (Or.inl rfl) ((h.1 q1))
  · refine sg_blk [(3, 0, 0, 0, 0)] (by decide +kernel) ?_
    refine And.intro rfl (?_)
    show sg_Wp 200 228 d m_M_lesser 6 [(0, 0, v0), (1, 0, v1)] [(0, v0)] G Q
    refine sg_goto (off := 4) (tgt := 10) (by decide +kernel) (by decide) ?_
    exact sg_ret (by decide +kernel) rfl (Or.inl rfl) ((h.2 q1))
theorem s_M_lesser {d : Nat} {v0 v1 : Int} {G : SgM} {Q : Int → SgM → Prop} (h : Q (sg_lss v0 v1) G) : sg_Wp 200 228 d m_M_lesser 0 [(0, 0, v0), (1, 0, v1)] [] G Q := by
  unfold sg_lss at h
  refine g_M_lesser_0 ⟨fun q => ?_, fun q => ?_⟩
  · rw [if_neg (by omega)] at h; exact h
  · rw [if_pos (by omega)] at h; exact h
set_option maxRecDepth 100000 in
theorem g_M_greater_0 {d : Nat} {v0 v1 : Int} {G : SgM} {Q : Int → SgM → Prop} (h : (v0 ≤ v1 → (Q v1 G)) ∧ (¬ (v0 ≤ v1) → (Q v0 G))) : sg_Wp 200 228 d m_M_greater 0 [(0, 0, v0), (1, 0, v1)] [] G Q := by
  refine sg_blk [(3, 0, 0, 0, 0), (3, 0, 0, 1, 0)] (by decide +kernel) ?_
  refine And.intro rfl (And.intro rfl (?_))
  show sg_Wp 200 228 d m_M_greater 2 [(0, 0, v0), (1, 0, v1)] [(0, v1), (0, v0)] G Q
  refine sg_icmp_le (off := 7) (tgt := 9) (by decide +kernel) (by decide) ⟨fun q1 => ?_, fun q1 => ?_⟩
  · refine sg_blk [(3, 0, 0, 1, 0)] (by decide +kernel) ?_
    refine And.intro rfl (?_)
    show sg_Wp 200 228 d m_M_greater 10 [(0, 0, v0), (1, 0, v1)] [(0, v1)] G Q
    exact sg_ret (by decide +kernel) rfl (Or.inl rfl) ((h.1 q1))
  · refine sg_blk [(3, 0, 0, 0, 0)] (by decide +kernel) ?_
    refine And.intro rfl (?_)
    show sg_Wp 200 228 d m_M_greater 6 [(0, 0, v0), (1, 0, v1)] [(0, v0)] G Q
    refine sg_goto (off := 4) (tgt := 10) (by decide +kernel) (by decide) ?_
    exact sg_ret (by decide +kernel) rfl (Or.inl rfl) ((h.2 q1))
theorem s_M_greater {d : Nat} {v0 v1 : Int} {G : SgM} {Q : Int → SgM → Prop} (h : Q (sg_grt v0 v1) G) : sg_Wp 200 228 d m_M_greater 0 [(0, 0, v0), (1, 0, v1)] [] G Q := by
  unfold sg_grt at h
  refine g_M_greater_0 ⟨fun q => ?_, fun q => ?_⟩
  · rw [if_neg (by omega)] at h; exact h
  · rw [if_pos (by omega)] at h; exact h
set_option maxRecDepth 100000 in
theorem g_M_apart_0 {d : Nat} {v0 v1 : Int} {G : SgM} {Q : Int → SgM → Prop} (h : (v0 ≤ v1 → (Q (sg_isub v1 v0) G)) ∧ (¬ (v0 ≤ v1) → (Q (sg_isub v0 v1) G))) : sg_Wp 200 228 d m_M_apart 0 [(0, 0, v0), (1, 0, v1)] [] G Q := by
  refine sg_blk [(3, 0, 0, 0, 0), (3, 0, 0, 1, 0)] (by decide +kernel) ?_
  refine And.intro rfl (And.intro rfl (?_))
  show sg_Wp 200 228 d m_M_apart 2 [(0, 0, v0), (1, 0, v1)] [(0, v1), (0, v0)] G Q
  refine sg_icmp_le (off := 9) (tgt := 11) (by decide +kernel) (by decide) ⟨fun q1 => ?_, fun q1 => ?_⟩
  · refine sg_blk [(3, 0, 0, 1, 0), (3, 0, 0, 0, 0), (33, 0, 0, 0, 0)] (by decide +kernel) ?_
    refine And.intro rfl (And.intro rfl (?_))
    show sg_Wp 200 228 d m_M_apart 14 [(0, 0, v0), (1, 0, v1)] [(0, sg_isub v1 v0)] G Q
    exact sg_ret (by decide +kernel) rfl (Or.inl rfl) ((h.1 q1))
  · refine sg_blk [(3, 0, 0, 0, 0), (3, 0, 0, 1, 0), (33, 0, 0, 0, 0)] (by decide +kernel) ?_
    refine And.intro rfl (And.intro rfl (?_))
    show sg_Wp 200 228 d m_M_apart 8 [(0, 0, v0), (1, 0, v1)] [(0, sg_isub v0 v1)] G Q
    refine sg_goto (off := 6) (tgt := 14) (by decide +kernel) (by decide) ?_
    exact sg_ret (by decide +kernel) rfl (Or.inl rfl) ((h.2 q1))
theorem s_M_apart {d : Nat} {v0 v1 : Int} {G : SgM} {Q : Int → SgM → Prop} (h : Q (sg_apt v0 v1) G) : sg_Wp 200 228 d m_M_apart 0 [(0, 0, v0), (1, 0, v1)] [] G Q := by
  unfold sg_apt at h
  refine g_M_apart_0 ⟨fun q => ?_, fun q => ?_⟩
  · rw [if_neg (by omega)] at h; exact h
  · rw [if_pos (by omega)] at h; exact h
set_option maxRecDepth 100000 in
theorem g_M_cut_0 {d : Nat} {v0 v1 : Int} {G : SgM} {Q : Int → SgM → Prop} (h : (v0 ≠ 0 → ((v0 ≠ 1 → (Q v1 G)) ∧ (¬ (v0 ≠ 1) → (Q (sg_i2s v1) G)))) ∧ (¬ (v0 ≠ 0) → (Q (sg_i2b v1) G))) : sg_Wp 200 228 d m_M_cut 0 [(0, 0, v0), (1, 0, v1)] [] G Q := by
  refine sg_blk [(3, 0, 0, 0, 0)] (by decide +kernel) ?_
  refine And.intro rfl (?_)
  show sg_Wp 200 228 d m_M_cut 1 [(0, 0, v0), (1, 0, v1)] [(0, v0)] G Q
  refine sg_if_ne (off := 8) (tgt := 9) (by decide +kernel) (by decide) ⟨fun q2 => ?_, fun q2 => ?_⟩
  · refine sg_blk [(3, 0, 0, 0, 0), (7, 1, 0, 0, 0)] (by decide +kernel) ?_
    refine And.intro rfl (And.intro rfl (?_))
    show sg_Wp 200 228 d m_M_cut 11 [(0, 0, v0), (1, 0, v1)] [(0, 1), (0, v0)] G Q
    refine sg_icmp_ne (off := 8) (tgt := 19) (by decide +kernel) (by decide) ⟨fun q1 => ?_, fun q1 => ?_⟩
    · refine sg_blk [(3, 0, 0, 1, 0)] (by decide +kernel) ?_
      refine And.intro rfl (?_)
      show sg_Wp 200 228 d m_M_cut 20 [(0, 0, v0), (1, 0, v1)] [(0, v1)] G Q
      exact sg_ret (by decide +kernel) rfl (Or.inl rfl) (((h.1 q2).1 q1))
    · refine sg_blk [(3, 0, 0, 1, 0), (55, 0, 0, 0, 0)] (by decide +kernel) ?_
      refine And.intro rfl (?_)
      show sg_Wp 200 228 d m_M_cut 16 [(0, 0, v0), (1, 0, v1)] [(0, sg_i2s v1)] G Q
      refine sg_goto (off := 4) (tgt := 20) (by decide +kernel) (by decide) ?_
      exact sg_ret (by decide +kernel) rfl (Or.inl rfl) (((h.1 q2).2 q1))
  · refine sg_blk [(3, 0, 0, 1, 0), (54, 0, 0, 0, 0)] (by decide +kernel) ?_
    refine And.intro rfl (?_)
    show sg_Wp 200 228 d m_M_cut 6 [(0, 0, v0), (1, 0, v1)] [(0, sg_i2b v1)] G Q
    refine sg_goto (off := 14) (tgt := 20) (by decide +kernel) (by decide) ?_
    exact sg_ret (by decide +kernel) rfl (Or.inl rfl) ((h.2 q2))
theorem s_M_cut {d : Nat} {v0 v1 : Int} {G : SgM} {Q : Int → SgM → Prop} (h : Q (sg_cut v0 v1) G) : sg_Wp 200 228 d m_M_cut 0 [(0, 0, v0), (1, 0, v1)] [] G Q := by
  unfold sg_cut at h
  refine g_M_cut_0 ⟨fun q => ⟨fun q2 => ?_, fun q2 => ?_⟩, fun q => ?_⟩
  · rw [if_neg q, if_neg q2] at h; exact h
  · rw [if_neg q, if_pos (Decidable.byContradiction q2)] at h; exact h
  · rw [if_pos (Decidable.byContradiction q)] at h; exact h
set_option maxRecDepth 100000 in
theorem g_M_figureOf_0 {d : Nat} {v0 v1 v2 : Int} {G : SgM} {Q : Int → SgM → Prop} (h : (((sg_iadd 48 v1) ≤ v0 ∧ v0 ≤ (sg_iadd 48 v2)) → (Q (sg_isub v0 48) G)) ∧ (¬ ((sg_iadd 48 v1) ≤ v0 ∧ v0 ≤ (sg_iadd 48 v2)) → (Q ((-9)) G))) : sg_Wp 200 228 (d + 1) m_M_figureOf 0 [(0, 0, v0), (1, 0, v1), (2, 0, v2)] [] G Q := by
  refine sg_blk [(3, 0, 0, 0, 0), (53, 0, 0, 0, 0), (8, 48, 0, 0, 0), (3, 0, 0, 1, 0), (32, 0, 0, 0, 0), (53, 0, 0, 0, 0), (8, 48, 0, 0, 0), (3, 0, 0, 2, 0), (32, 0, 0, 0, 0), (53, 0, 0, 0, 0)] (by decide +kernel) ?_
  refine And.intro rfl (And.intro rfl (And.intro rfl (And.intro rfl (And.intro rfl (And.intro rfl (And.intro rfl (?_)))))))
  show sg_Wp 200 228 (d + 1) m_M_figureOf 12 [(0, 0, v0), (1, 0, v1), (2, 0, v2)] [(1, sg_iadd 48 v2), (1, sg_iadd 48 v1), (1, v0)] G Q
  refine sg_callS (k := d) (y' := m_M_in) (av := [(1, v0), (1, sg_iadd 48 v1), (1, sg_iadd 48 v2)]) (rest := []) (by decide +kernel) cs_M_in ml_11_98 rfl (Nat.le_of_ble_eq_true rfl) (Nat.lt_succ_self d) (Nat.le_of_ble_eq_true rfl) rfl ?_
  show sg_Wp 200 228 d m_M_in 0 [(0, 1, v0), (2, 1, sg_iadd 48 v1), (4, 1, sg_iadd 48 v2)] [] G _
  refine s_M_in ?_
  show sg_Wp 200 228 (d + 1) m_M_figureOf 15 [(0, 0, v0), (1, 0, v1), (2, 0, v2)] [(0, sg_bo ((sg_iadd 48 v1) ≤ v0 ∧ v0 ≤ (sg_iadd 48 v2)))] G Q
  refine sg_bif_eq (off := 10) (tgt := 25) (by decide +kernel) (by decide) ⟨fun q1 => ?_, fun q1 => ?_⟩
  · refine sg_blk [(3, 0, 0, 0, 0), (8, 48, 0, 0, 0), (33, 0, 0, 0, 0)] (by decide +kernel) ?_
    refine And.intro rfl (And.intro rfl (And.intro rfl (?_)))
    show sg_Wp 200 228 (d + 1) m_M_figureOf 22 [(0, 0, v0), (1, 0, v1), (2, 0, v2)] [(0, sg_isub v0 48)] G Q
    refine sg_goto (off := 5) (tgt := 27) (by decide +kernel) (by decide) ?_
    exact sg_ret (by decide +kernel) rfl (Or.inl rfl) ((h.1 q1))
  · refine sg_blk [(8, (-9), 0, 0, 0)] (by decide +kernel) ?_
    refine And.intro rfl (And.intro rfl (?_))
    show sg_Wp 200 228 (d + 1) m_M_figureOf 27 [(0, 0, v0), (1, 0, v1), (2, 0, v2)] [(0, (-9))] G Q
    exact sg_ret (by decide +kernel) rfl (Or.inl rfl) ((h.2 q1))
theorem s_M_figureOf {d : Nat} {v0 v1 v2 : Int} {G : SgM} {Q : Int → SgM → Prop} (h : Q (sg_fig v0 v1 v2) G) : sg_Wp 200 228 (d + 1) m_M_figureOf 0 [(0, 0, v0), (1, 0, v1), (2, 0, v2)] [] G Q := by
  unfold sg_fig at h
  refine g_M_figureOf_0 ⟨fun q => ?_, fun q => ?_⟩
  · rw [if_pos q] at h; exact h
  · rw [if_neg q] at h; exact h
set_option maxRecDepth 100000 in
theorem g_M_postOf_0 {d : Nat} {v0 v1 : Int} {G : SgM} {Q : Int → SgM → Prop} (h : (v0 ≠ 0 → ((v0 ≠ 1 → ((v1 ≠ 59 → (Q ((-9)) G)) ∧ (¬ (v1 ≠ 59) → (Q 0 G)))) ∧ (¬ (v0 ≠ 1) → (Q (sg_fig v1 0 3) G)))) ∧ (¬ (v0 ≠ 0) → (Q (sg_fig v1 0 9) G))) : sg_Wp 200 228 (d + 2) m_M_postOf 0 [(0, 0, v0), (1, 0, v1)] [] G Q := by
  refine sg_blk [(3, 0, 0, 0, 0)] (by decide +kernel) ?_
  refine And.intro rfl (?_)
  show sg_Wp 200 228 (d + 2) m_M_postOf 1 [(0, 0, v0), (1, 0, v1)] [(0, v0)] G Q
  refine sg_if_ne (off := 13) (tgt := 14) (by decide +kernel) (by decide) ⟨fun q3 => ?_, fun q3 => ?_⟩
  · refine sg_blk [(3, 0, 0, 0, 0), (7, 1, 0, 0, 0)] (by decide +kernel) ?_
    refine And.intro rfl (And.intro rfl (?_))
    show sg_Wp 200 228 (d + 2) m_M_postOf 16 [(0, 0, v0), (1, 0, v1)] [(0, 1), (0, v0)] G Q
    refine sg_icmp_ne (off := 12) (tgt := 28) (by decide +kernel) (by decide) ⟨fun q2 => ?_, fun q2 => ?_⟩
    · refine sg_blk [(3, 0, 0, 1, 0), (8, 59, 0, 0, 0)] (by decide +kernel) ?_
      refine And.intro rfl (And.intro rfl (And.intro rfl (?_)))
      show sg_Wp 200 228 (d + 2) m_M_postOf 31 [(0, 0, v0), (1, 0, v1)] [(0, 59), (0, v1)] G Q
      refine sg_icmp_ne (off := 7) (tgt := 38) (by decide +kernel) (by decide) ⟨fun q1 => ?_, fun q1 => ?_⟩
      · refine sg_blk [(8, (-9), 0, 0, 0)] (by decide +kernel) ?_
        refine And.intro rfl (And.intro rfl (?_))
        show sg_Wp 200 228 (d + 2) m_M_postOf 40 [(0, 0, v0), (1, 0, v1)] [(0, (-9))] G Q
        exact sg_ret (by decide +kernel) rfl (Or.inl rfl) ((((h.1 q3).1 q2).1 q1))
      · refine sg_blk [(7, 0, 0, 0, 0)] (by decide +kernel) ?_
        refine And.intro rfl (?_)
        show sg_Wp 200 228 (d + 2) m_M_postOf 35 [(0, 0, v0), (1, 0, v1)] [(0, 0)] G Q
        refine sg_goto (off := 5) (tgt := 40) (by decide +kernel) (by decide) ?_
        exact sg_ret (by decide +kernel) rfl (Or.inl rfl) ((((h.1 q3).1 q2).2 q1))
    · refine sg_blk [(3, 0, 0, 1, 0), (7, 0, 0, 0, 0), (7, 3, 0, 0, 0)] (by decide +kernel) ?_
      refine And.intro rfl (And.intro rfl (And.intro rfl (?_)))
      show sg_Wp 200 228 (d + 2) m_M_postOf 22 [(0, 0, v0), (1, 0, v1)] [(0, 3), (0, 0), (0, v1)] G Q
      refine sg_callS (k := (d + 1)) (y' := m_M_figureOf) (av := [(0, v1), (0, 0), (0, 3)]) (rest := []) (by decide +kernel) cs_M_figureOf ml_11_131 rfl (Nat.le_of_ble_eq_true rfl) (Nat.lt_succ_self (d + 1)) (Nat.le_of_ble_eq_true rfl) rfl ?_
      show sg_Wp 200 228 (d + 1) m_M_figureOf 0 [(0, 0, v1), (1, 0, 0), (2, 0, 3)] [] G _
      refine s_M_figureOf ?_
      show sg_Wp 200 228 (d + 2) m_M_postOf 25 [(0, 0, v0), (1, 0, v1)] [(0, sg_fig v1 0 3)] G Q
      refine sg_goto (off := 15) (tgt := 40) (by decide +kernel) (by decide) ?_
      exact sg_ret (by decide +kernel) rfl (Or.inl rfl) (((h.1 q3).2 q2))
  · refine sg_blk [(3, 0, 0, 1, 0), (7, 0, 0, 0, 0), (8, 9, 0, 0, 0)] (by decide +kernel) ?_
    refine And.intro rfl (And.intro rfl (And.intro rfl (And.intro rfl (?_))))
    show sg_Wp 200 228 (d + 2) m_M_postOf 8 [(0, 0, v0), (1, 0, v1)] [(0, 9), (0, 0), (0, v1)] G Q
    refine sg_callS (k := (d + 1)) (y' := m_M_figureOf) (av := [(0, v1), (0, 0), (0, 9)]) (rest := []) (by decide +kernel) cs_M_figureOf ml_11_131 rfl (Nat.le_of_ble_eq_true rfl) (Nat.lt_succ_self (d + 1)) (Nat.le_of_ble_eq_true rfl) rfl ?_
    show sg_Wp 200 228 (d + 1) m_M_figureOf 0 [(0, 0, v1), (1, 0, 0), (2, 0, 9)] [] G _
    refine s_M_figureOf ?_
    show sg_Wp 200 228 (d + 2) m_M_postOf 11 [(0, 0, v0), (1, 0, v1)] [(0, sg_fig v1 0 9)] G Q
    refine sg_goto (off := 29) (tgt := 40) (by decide +kernel) (by decide) ?_
    exact sg_ret (by decide +kernel) rfl (Or.inl rfl) ((h.2 q3))
theorem s_M_postOf {d : Nat} {v0 v1 : Int} {G : SgM} {Q : Int → SgM → Prop} (h : Q (sg_pof v0 v1) G) : sg_Wp 200 228 (d + 2) m_M_postOf 0 [(0, 0, v0), (1, 0, v1)] [] G Q := by
  unfold sg_pof at h
  refine g_M_postOf_0 ⟨fun q => ⟨fun q2 => ⟨fun q3 => ?_, fun q3 => ?_⟩, fun q2 => ?_⟩, fun q => ?_⟩
  · rw [if_neg q, if_neg q2, if_neg q3] at h; exact h
  · rw [if_neg q, if_neg q2, if_pos (Decidable.byContradiction q3)] at h; exact h
  · rw [if_neg q, if_pos (Decidable.byContradiction q2)] at h; exact h
  · rw [if_pos (Decidable.byContradiction q)] at h; exact h
set_option maxRecDepth 100000 in
theorem g_M_personOf_0 {d : Nat} {v0 v1 : Int} {G : SgM} {Q : Int → SgM → Prop} (h : (v0 = 0 → ((v1 ≠ 112 → ((v1 ≠ 99 → ((v1 ≠ 103 → (Q ((-9)) G)) ∧ (¬ (v1 ≠ 103) → (Q 2 G)))) ∧ (¬ (v1 ≠ 99) → (Q 1 G)))) ∧ (¬ (v1 ≠ 112) → (Q 0 G)))) ∧ (v0 ≠ 0 → ((v0 = 1 → (Q (sg_fig v1 0 9) G)) ∧ (v0 ≠ 1 → ((v0 = 2 → ((v1 ≠ 101 → ((v1 ≠ 119 → (Q ((-9)) G)) ∧ (¬ (v1 ≠ 119) → (Q 1 G)))) ∧ (¬ (v1 ≠ 101) → (Q 0 G)))) ∧ (v0 ≠ 2 → ((v0 = 3 → (Q (sg_fig v1 1 9) G)) ∧ (v0 ≠ 3 → ((v1 ≠ 59 → (Q ((-9)) G)) ∧ (¬ (v1 ≠ 59) → (Q 0 G))))))))))) : sg_Wp 200 228 (d + 2) m_M_personOf 0 [(0, 0, v0), (1, 0, v1)] [] G Q := by
  refine sg_blk [(3, 0, 0, 0, 0)] (by decide +kernel) ?_
  refine And.intro rfl (?_)
  show sg_Wp 200 228 (d + 2) m_M_personOf 1 [(0, 0, v0), (1, 0, v1)] [(0, v0)] G Q
  refine sg_tsw (dflt := 103) (low := 0) (high := 3) (offs := #[31, 64, 72, 95]) (len := 31) (dt := 104) (ts := [32, 65, 73, 96]) (by decide +kernel) (by decide) (by decide) (by decide) ?_
  refine ⟨fun q10 => ?_, fun q10 => ?_⟩
  · refine sg_blk [(3, 0, 0, 1, 0), (8, 112, 0, 0, 0)] (by decide +kernel) ?_
    refine And.intro rfl (And.intro rfl (And.intro rfl (?_)))
    show sg_Wp 200 228 (d + 2) m_M_personOf 35 [(0, 0, v0), (1, 0, v1)] [(0, 112), (0, v1)] G Q
    refine sg_icmp_ne (off := 7) (tgt := 42) (by decide +kernel) (by decide) ⟨fun q3 => ?_, fun q3 => ?_⟩
    · refine sg_blk [(3, 0, 0, 1, 0), (8, 99, 0, 0, 0)] (by decide +kernel) ?_
      refine And.intro rfl (And.intro rfl (And.intro rfl (?_)))
      show sg_Wp 200 228 (d + 2) m_M_personOf 45 [(0, 0, v0), (1, 0, v1)] [(0, 99), (0, v1)] G Q
      refine sg_icmp_ne (off := 7) (tgt := 52) (by decide +kernel) (by decide) ⟨fun q2 => ?_, fun q2 => ?_⟩
      · refine sg_blk [(3, 0, 0, 1, 0), (8, 103, 0, 0, 0)] (by decide +kernel) ?_
        refine And.intro rfl (And.intro rfl (And.intro rfl (?_)))
        show sg_Wp 200 228 (d + 2) m_M_personOf 55 [(0, 0, v0), (1, 0, v1)] [(0, 103), (0, v1)] G Q
        refine sg_icmp_ne (off := 7) (tgt := 62) (by decide +kernel) (by decide) ⟨fun q1 => ?_, fun q1 => ?_⟩
        · refine sg_blk [(8, (-9), 0, 0, 0)] (by decide +kernel) ?_
          refine And.intro rfl (And.intro rfl (?_))
          show sg_Wp 200 228 (d + 2) m_M_personOf 64 [(0, 0, v0), (1, 0, v1)] [(0, (-9))] G Q
          exact sg_ret (by decide +kernel) rfl (Or.inl rfl) (((((h.1 q10).1 q3).1 q2).1 q1))
        · refine sg_blk [(7, 2, 0, 0, 0)] (by decide +kernel) ?_
          refine And.intro rfl (?_)
          show sg_Wp 200 228 (d + 2) m_M_personOf 59 [(0, 0, v0), (1, 0, v1)] [(0, 2)] G Q
          refine sg_goto (off := 5) (tgt := 64) (by decide +kernel) (by decide) ?_
          exact sg_ret (by decide +kernel) rfl (Or.inl rfl) (((((h.1 q10).1 q3).1 q2).2 q1))
      · refine sg_blk [(7, 1, 0, 0, 0)] (by decide +kernel) ?_
        refine And.intro rfl (?_)
        show sg_Wp 200 228 (d + 2) m_M_personOf 49 [(0, 0, v0), (1, 0, v1)] [(0, 1)] G Q
        refine sg_goto (off := 15) (tgt := 64) (by decide +kernel) (by decide) ?_
        exact sg_ret (by decide +kernel) rfl (Or.inl rfl) ((((h.1 q10).1 q3).2 q2))
    · refine sg_blk [(7, 0, 0, 0, 0)] (by decide +kernel) ?_
      refine And.intro rfl (?_)
      show sg_Wp 200 228 (d + 2) m_M_personOf 39 [(0, 0, v0), (1, 0, v1)] [(0, 0)] G Q
      refine sg_goto (off := 25) (tgt := 64) (by decide +kernel) (by decide) ?_
      exact sg_ret (by decide +kernel) rfl (Or.inl rfl) (((h.1 q10).2 q3))
  · refine ⟨fun q9 => ?_, fun q9 => ?_⟩
    · refine sg_blk [(3, 0, 0, 1, 0), (7, 0, 0, 0, 0), (8, 9, 0, 0, 0)] (by decide +kernel) ?_
      refine And.intro rfl (And.intro rfl (And.intro rfl (And.intro rfl (?_))))
      show sg_Wp 200 228 (d + 2) m_M_personOf 69 [(0, 0, v0), (1, 0, v1)] [(0, 9), (0, 0), (0, v1)] G Q
      refine sg_callS (k := (d + 1)) (y' := m_M_figureOf) (av := [(0, v1), (0, 0), (0, 9)]) (rest := []) (by decide +kernel) cs_M_figureOf ml_11_131 rfl (Nat.le_of_ble_eq_true rfl) (Nat.lt_succ_self (d + 1)) (Nat.le_of_ble_eq_true rfl) rfl ?_
      show sg_Wp 200 228 (d + 1) m_M_figureOf 0 [(0, 0, v1), (1, 0, 0), (2, 0, 9)] [] G _
      refine s_M_figureOf ?_
      show sg_Wp 200 228 (d + 2) m_M_personOf 72 [(0, 0, v0), (1, 0, v1)] [(0, sg_fig v1 0 9)] G Q
      exact sg_ret (by decide +kernel) rfl (Or.inl rfl) (((h.2 q10).1 q9))
    · refine ⟨fun q8 => ?_, fun q8 => ?_⟩
      · refine sg_blk [(3, 0, 0, 1, 0), (8, 101, 0, 0, 0)] (by decide +kernel) ?_
        refine And.intro rfl (And.intro rfl (And.intro rfl (?_)))
        show sg_Wp 200 228 (d + 2) m_M_personOf 76 [(0, 0, v0), (1, 0, v1)] [(0, 101), (0, v1)] G Q
        refine sg_icmp_ne (off := 7) (tgt := 83) (by decide +kernel) (by decide) ⟨fun q5 => ?_, fun q5 => ?_⟩
        · refine sg_blk [(3, 0, 0, 1, 0), (8, 119, 0, 0, 0)] (by decide +kernel) ?_
          refine And.intro rfl (And.intro rfl (And.intro rfl (?_)))
          show sg_Wp 200 228 (d + 2) m_M_personOf 86 [(0, 0, v0), (1, 0, v1)] [(0, 119), (0, v1)] G Q
          refine sg_icmp_ne (off := 7) (tgt := 93) (by decide +kernel) (by decide) ⟨fun q4 => ?_, fun q4 => ?_⟩
          · refine sg_blk [(8, (-9), 0, 0, 0)] (by decide +kernel) ?_
            refine And.intro rfl (And.intro rfl (?_))
            show sg_Wp 200 228 (d + 2) m_M_personOf 95 [(0, 0, v0), (1, 0, v1)] [(0, (-9))] G Q
            exact sg_ret (by decide +kernel) rfl (Or.inl rfl) ((((((h.2 q10).2 q9).1 q8).1 q5).1 q4))
          · refine sg_blk [(7, 1, 0, 0, 0)] (by decide +kernel) ?_
            refine And.intro rfl (?_)
            show sg_Wp 200 228 (d + 2) m_M_personOf 90 [(0, 0, v0), (1, 0, v1)] [(0, 1)] G Q
            refine sg_goto (off := 5) (tgt := 95) (by decide +kernel) (by decide) ?_
            exact sg_ret (by decide +kernel) rfl (Or.inl rfl) ((((((h.2 q10).2 q9).1 q8).1 q5).2 q4))
        · refine sg_blk [(7, 0, 0, 0, 0)] (by decide +kernel) ?_
          refine And.intro rfl (?_)
          show sg_Wp 200 228 (d + 2) m_M_personOf 80 [(0, 0, v0), (1, 0, v1)] [(0, 0)] G Q
          refine sg_goto (off := 15) (tgt := 95) (by decide +kernel) (by decide) ?_
          exact sg_ret (by decide +kernel) rfl (Or.inl rfl) (((((h.2 q10).2 q9).1 q8).2 q5))
      · refine ⟨fun q7 => ?_, fun q7 => ?_⟩
        · refine sg_blk [(3, 0, 0, 1, 0), (7, 1, 0, 0, 0), (8, 9, 0, 0, 0)] (by decide +kernel) ?_
          refine And.intro rfl (And.intro rfl (And.intro rfl (And.intro rfl (?_))))
          show sg_Wp 200 228 (d + 2) m_M_personOf 100 [(0, 0, v0), (1, 0, v1)] [(0, 9), (0, 1), (0, v1)] G Q
          refine sg_callS (k := (d + 1)) (y' := m_M_figureOf) (av := [(0, v1), (0, 1), (0, 9)]) (rest := []) (by decide +kernel) cs_M_figureOf ml_11_131 rfl (Nat.le_of_ble_eq_true rfl) (Nat.lt_succ_self (d + 1)) (Nat.le_of_ble_eq_true rfl) rfl ?_
          show sg_Wp 200 228 (d + 1) m_M_figureOf 0 [(0, 0, v1), (1, 0, 1), (2, 0, 9)] [] G _
          refine s_M_figureOf ?_
          show sg_Wp 200 228 (d + 2) m_M_personOf 103 [(0, 0, v0), (1, 0, v1)] [(0, sg_fig v1 1 9)] G Q
          exact sg_ret (by decide +kernel) rfl (Or.inl rfl) (((((h.2 q10).2 q9).2 q8).1 q7))
        · refine sg_blk [(3, 0, 0, 1, 0), (8, 59, 0, 0, 0)] (by decide +kernel) ?_
          refine And.intro rfl (And.intro rfl (And.intro rfl (?_)))
          show sg_Wp 200 228 (d + 2) m_M_personOf 107 [(0, 0, v0), (1, 0, v1)] [(0, 59), (0, v1)] G Q
          refine sg_icmp_ne (off := 7) (tgt := 114) (by decide +kernel) (by decide) ⟨fun q6 => ?_, fun q6 => ?_⟩
          · refine sg_blk [(8, (-9), 0, 0, 0)] (by decide +kernel) ?_
            refine And.intro rfl (And.intro rfl (?_))
            show sg_Wp 200 228 (d + 2) m_M_personOf 116 [(0, 0, v0), (1, 0, v1)] [(0, (-9))] G Q
            exact sg_ret (by decide +kernel) rfl (Or.inl rfl) ((((((h.2 q10).2 q9).2 q8).2 q7).1 q6))
          · refine sg_blk [(7, 0, 0, 0, 0)] (by decide +kernel) ?_
            refine And.intro rfl (?_)
            show sg_Wp 200 228 (d + 2) m_M_personOf 111 [(0, 0, v0), (1, 0, v1)] [(0, 0)] G Q
            refine sg_goto (off := 5) (tgt := 116) (by decide +kernel) (by decide) ?_
            exact sg_ret (by decide +kernel) rfl (Or.inl rfl) ((((((h.2 q10).2 q9).2 q8).2 q7).2 q6))
theorem s_M_personOf {d : Nat} {v0 v1 : Int} {G : SgM} {Q : Int → SgM → Prop} (h : Q (sg_qof v0 v1) G) : sg_Wp 200 228 (d + 2) m_M_personOf 0 [(0, 0, v0), (1, 0, v1)] [] G Q := by
  unfold sg_qof at h
  refine g_M_personOf_0 ⟨fun q => ⟨fun a => ⟨fun b => ⟨fun c => ?_, fun c => ?_⟩, fun b => ?_⟩, fun a => ?_⟩, fun q => ⟨fun q1 => ?_, fun q1 => ⟨fun q2 => ⟨fun a => ⟨fun b => ?_, fun b => ?_⟩, fun a => ?_⟩, fun q2 => ⟨fun q3 => ?_, fun q3 => ⟨fun a => ?_, fun a => ?_⟩⟩⟩⟩⟩ <;> simp_all
