/-! THE STATE stays: sheets, read -/
theorem tz_fnd_ok {Z : TZ} (h : TZok Z) (k : Int) : TZok (tz_fnd Z k) := h
theorem a_sheet_ok {A : TA} (ok : TAok A) (s f n : Int) : TAok (a_sheet A s f n).2 := by
  refine ⟨ok.1, ok.2.1, ?_⟩
  show TZok (tz_mke A.2.2 s f n).2
  unfold tz_mke
  by_cases h1 : 0 ≤ s ∧ s < 4
  · rw [if_pos h1]
    by_cases h2 : 0 ≤ f ∧ f < 3
    · rw [if_pos h2]
      by_cases h3 : n ≤ 60
      · rw [if_pos h3]
        by_cases h4 : 0 ≤ n
        · rw [if_pos h4]
          intro t ht
          have o := ok.2.2 t ht
          show (-1 ≤ (if t = s.toNat then f else tz_f A.2.2 t) ∧ (if t = s.toNat then f else tz_f A.2.2 t) ≤ 2) ∧ 0 ≤ (if t = s.toNat then n else tz_n A.2.2 t) ∧ (if t = s.toNat then n else tz_n A.2.2 t) ≤ 60
          by_cases e : t = s.toNat
          · rw [if_pos e, if_pos e]; omega
          · rw [if_neg e, if_neg e]; exact o
        · rw [if_neg h4]; exact ok.2.2
      · rw [if_neg h3]; exact ok.2.2
    · rw [if_neg h2]; exact ok.2.2
  · rw [if_neg h1]; exact ok.2.2
theorem a_lose_ok {A : TA} (ok : TAok A) (s : Int) : TAok (a_lose A s).2 := by
  refine ⟨ok.1, ok.2.1, ?_⟩
  show TZok (tz_drp A.2.2 s).2
  unfold tz_drp
  by_cases h1 : 0 ≤ s ∧ s < 4
  · rw [if_pos h1]
    by_cases h2 : tz_f A.2.2 s.toNat = -1
    · rw [if_pos h2]; exact ok.2.2
    · rw [if_neg h2]
      intro t ht
      have o := ok.2.2 t ht
      show (-1 ≤ (if t = s.toNat then -1 else tz_f A.2.2 t) ∧ (if t = s.toNat then -1 else tz_f A.2.2 t) ≤ 2) ∧ 0 ≤ tz_n A.2.2 t ∧ tz_n A.2.2 t ≤ 60
      by_cases e : t = s.toNat
      · rw [if_pos e]; exact ⟨by omega, o.2⟩
      · rw [if_neg e]; exact o
  · rw [if_neg h1]; exact ok.2.2
theorem tz_ref_ok {Z : TZ} (h : TZok Z) (s : Int) : TZok (tz_ref Z s).2 := by
  unfold tz_ref
  split
  · split
    · exact h
    · exact h
  · exact h
theorem tz_itm_ok {Z : TZ} (h : TZok Z) (s f i : Int) : TZok (tz_itm Z s f i).2 := by
  unfold tz_itm
  split
  · split
    · split
      · exact h
      · split
        · split
          · exact h
          · exact h
        · exact h
    · exact h
  · exact h
theorem tz_mov_ok {Z : TZ} (h : TZok Z) (s i t j n : Int) : TZok (tz_mov Z s i t j n).2 := by
  unfold tz_mov
  split
  · split
    · exact h
    · split
      · split
        · exact h
        · exact h
      · exact h
  · exact h
theorem a_copy_ok {A : TA} (ok : TAok A) (s i t j n : Int) : TAok (a_copy A s i t j n).2 := ⟨ok.1, ok.2.1, tz_mov_ok ok.2.2 s i t j n⟩
theorem a_lay_ok {A : TA} (ok : TAok A) (s f i v : Int) : TAok (a_lay A s f i v).2 := by
  unfold a_lay
  split
  · exact ⟨ok.1, ok.2.1, ok.2.2⟩
  · exact ⟨ok.1, ok.2.1, tz_itm_ok ok.2.2 s f i⟩
theorem a_get_ok {A : TA} (ok : TAok A) (s f i : Int) : TAok (a_get A s f i).2 := by
  unfold a_get
  split
  · exact ok
  · exact ⟨ok.1, ok.2.1, tz_itm_ok ok.2.2 s f i⟩
theorem a_write_ok {A : TA} (ok : TAok A) (p s : Int) : TAok (a_write A p s).2 := by
  unfold a_write
  split
  · split
    · exact ⟨ok.1, ok.2.1, ok.2.2⟩
    · exact ⟨ok.1, ok.2.1, tz_ref_ok ok.2.2 s⟩
  · exact ok
theorem a_rd_ok {x : Nat → Int} {n : Int} : ∀ (f m : Nat) (E : TE), TEok E → TEok (a_rd x n f m E).2
  | 0, _, _, h => h
  | f + 1, m, E, h => by
    unfold a_rd
    by_cases h1 : 3 * (m : Int) + 2 < n
    · rw [if_pos h1]
      by_cases h2 : (a_is 3 (x (3 * m)) ∧ a_is 24 (x (3 * m + 1)) ∧ a_is 10 (x (3 * m + 2))) ∧ E.1 < 8
      · rw [if_pos h2]
        exact a_rd_ok f (m + 1) _ (te_add_ok h h2.2 h2.1.1 h2.1.2.1 h2.1.2.2)
      · rw [if_neg h2]; exact h
    · rw [if_neg h1]; exact h
theorem a_read_ok {A : TA} (ok : TAok A) (s : Int) : TAok (a_read A s).2 := by
  unfold a_read
  split
  · exact ⟨⟨ok.1.1, ok.1.2.1, a_rd_ok _ _ _ ok.1.2.2⟩, ok.2⟩
  · exact ⟨ok.1, ok.2.1, tz_ref_ok ok.2.2 s⟩
