/-! THE STATE stays as texts, events, what was seen and sheets can be -/
theorem a_type_ok {A : TA} (ok : TAok A) (t b : Int) : TAok (a_type A t b).2 := by
  obtain ⟨⟨o0, o1, oE⟩, oS, oZ⟩ := ok
  have l0 := o0.1
  have l1 := o1.1
  unfold a_type
  by_cases h : a_is 2 t ∧ a_is 256 b
  · have hb : 0 ≤ b ∧ b ≤ 255 := by omega
    rw [if_pos h]
    by_cases h0 : t = 0
    · rw [if_pos h0]
      by_cases h1 : A.1.1.1 = 23
      · rw [if_pos h1]; exact ⟨⟨o0, o1, oE⟩, oS, oZ⟩
      · rw [if_neg h1]; exact ⟨⟨tt_add_ok o0 (by omega) hb, o1, oE⟩, oS, oZ⟩
    · rw [if_neg h0]
      by_cases h1 : A.1.2.1.1 = 29
      · rw [if_pos h1]; exact ⟨⟨o0, o1, oE⟩, oS, oZ⟩
      · rw [if_neg h1]; exact ⟨⟨o0, tt_add_ok o1 (by omega) hb, oE⟩, oS, oZ⟩
  · rw [if_neg h]; exact ⟨⟨o0, o1, oE⟩, oS, oZ⟩
theorem tt_cut_ok {mx m : Nat} {T : TT} (h : TTok mx T) (hm : m ≤ T.1) : TTok mx (m, T.2) := ⟨Nat.le_trans hm h.1, fun i hi => h.2 i (Nat.lt_of_lt_of_le hi hm)⟩
theorem a_wipe_ok {A : TA} (ok : TAok A) (t : Int) : TAok (a_wipe A t).2 := by
  obtain ⟨⟨o0, o1, oE⟩, oS, oZ⟩ := ok
  unfold a_wipe
  by_cases h0 : t = 0
  · rw [if_pos h0]; exact ⟨⟨tt_cut_ok o0 (Nat.zero_le _), o1, oE⟩, oS, oZ⟩
  · rw [if_neg h0]
    by_cases h1 : t = 1
    · rw [if_pos h1]; exact ⟨⟨o0, tt_cut_ok o1 (Nat.zero_le _), oE⟩, oS, oZ⟩
    · rw [if_neg h1]; exact ⟨⟨o0, o1, oE⟩, oS, oZ⟩
theorem a_undo_ok {A : TA} (ok : TAok A) (t : Int) : TAok (a_undo A t).2 := by
  obtain ⟨⟨o0, o1, oE⟩, oS, oZ⟩ := ok
  unfold a_undo
  by_cases h0 : t = 0
  · rw [if_pos h0]
    by_cases h2 : A.1.1.1 = 0
    · rw [if_pos h2]; exact ⟨⟨o0, o1, oE⟩, oS, oZ⟩
    · rw [if_neg h2]; exact ⟨⟨tt_cut_ok o0 (Nat.sub_le _ _), o1, oE⟩, oS, oZ⟩
  · rw [if_neg h0]
    by_cases h1 : t = 1
    · rw [if_pos h1]
      by_cases h2 : A.1.2.1.1 = 0
      · rw [if_pos h2]; exact ⟨⟨o0, o1, oE⟩, oS, oZ⟩
      · rw [if_neg h2]; exact ⟨⟨o0, tt_cut_ok o1 (Nat.sub_le _ _), oE⟩, oS, oZ⟩
    · rw [if_neg h1]; exact ⟨⟨o0, o1, oE⟩, oS, oZ⟩
theorem a_event_ok {A : TA} (ok : TAok A) (k h n : Int) : TAok (a_event A k h n).2 := by
  obtain ⟨⟨o0, o1, oE⟩, oS, oZ⟩ := ok
  have lE := oE.1
  unfold a_event
  by_cases hh : a_is 3 k ∧ a_is 24 h ∧ a_is 10 n
  · rw [if_pos hh]
    by_cases h2 : A.1.2.2.1 = 8
    · rw [if_pos h2]; exact ⟨⟨o0, o1, oE⟩, oS, oZ⟩
    · rw [if_neg h2]; exact ⟨⟨o0, o1, te_add_ok oE (by omega) hh.1 hh.2.1 hh.2.2⟩, oS, oZ⟩
  · rw [if_neg hh]; exact ⟨⟨o0, o1, oE⟩, oS, oZ⟩
theorem a_back_ok {A : TA} (ok : TAok A) : TAok (a_back A).2 := by
  obtain ⟨⟨o0, o1, oE⟩, oS, oZ⟩ := ok
  unfold a_back
  by_cases h2 : A.1.2.2.1 = 0
  · rw [if_pos h2]; exact ⟨⟨o0, o1, oE⟩, oS, oZ⟩
  · rw [if_neg h2]; exact ⟨⟨o0, o1, ⟨Nat.le_trans (Nat.sub_le _ _) oE.1, fun i hi => oE.2 i (Nat.lt_of_lt_of_le hi (Nat.sub_le _ _))⟩⟩, oS, oZ⟩
theorem a_seen_ok {A : TA} (ok : TAok A) (h p x : Int) : TAok (a_seen A h p x).2 := by
  obtain ⟨oK, oS, oZ⟩ := ok
  have lS := oS.1
  unfold a_seen
  by_cases hh : a_is 24 h ∧ a_is 8 p ∧ a_is 2 x
  · rw [if_pos hh]
    by_cases h2 : A.2.1.1 = 8
    · rw [if_pos h2]; exact ⟨oK, oS, oZ⟩
    · rw [if_neg h2]; exact ⟨oK, ts_add_ok oS (by omega) hh.1 hh.2.1 hh.2.2, oZ⟩
  · rw [if_neg hh]; exact ⟨oK, oS, oZ⟩
theorem a_forget_ok {A : TA} (ok : TAok A) : TAok (a_forget A).2 := ⟨ok.1, ⟨Nat.zero_le _, fun i hi => absurd hi (Nat.not_lt_zero _)⟩, ok.2.2⟩
