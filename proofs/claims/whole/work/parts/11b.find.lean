/-! THE SEARCH IN A TEXT CONSTANT -/
def sg_find (c : Int) : List Int32 → Int → Int
  | [], _ => -1
  | b :: l, k => if b.toInt = c then k else sg_find c l (k + 1)
/-- String.indexOf over the text constant s -/
def sg_ix (s c : Int) : Int := if 0 ≤ c ∧ c ≤ 255 then sg_find (sg_i2b c) (sg_byt.getD s.toNat []) 0 else -1
theorem sg_ll_len {s : Int} (hs : 0 ≤ s ∧ s < 6) : sg_ll s = ((sg_byt.getD s.toNat []).length : Int) := by
  have h : ∀ i : Nat, i < 6 → sg_len.getD i 0 = (sg_byt.getD i []).length := by decide
  unfold sg_ll
  rw [h s.toNat (by omega)]
theorem s_ixLoop {s : Int} (hs : 0 ≤ s ∧ s < 6) {d N : Nat} {v4 : Int} {G : SgM} {Q : Int → SgM → Prop} : ∀ (l : List Int32) (k : Nat), (sg_byt.getD s.toNat []).drop k = l → k ≤ (sg_byt.getD s.toNat []).length → Q (sg_find v4 l (k : Int)) G → sg_Wp 0 N d m_L_indexOfChar 7 [(0, 4, s), (3, 0, sg_ll s), (4, 0, v4), (5, 0, (k : Int))] [] G Q := by
  have hlen := sg_ll_len hs
  have hl : ∀ i : Nat, i < 6 → (sg_byt.getD i []).length < 100 := by decide
  have hl := hl s.toNat (by omega)
  intro l
  induction l with
  | nil =>
    intro k hd hk h
    have := List.drop_eq_nil_iff.mp hd
    exact g_L_indexOfChar_7 hs ⟨fun _ => h, fun q => absurd (by omega) q⟩
  | cons b l ih =>
    intro k hd hk h
    have hb : (sg_byt.getD s.toNat [])[k]? = some b := by rw [← List.head?_drop, hd]; rfl
    have hlt : k < (sg_byt.getD s.toNat []).length := (List.getElem?_eq_some_iff.mp hb).1
    have hd2 : (sg_byt.getD s.toNat []).drop (k + 1) = l := by rw [← List.tail_drop, hd]; rfl
    have e : sg_lb s (k : Int) = b.toInt := by
      unfold sg_lb
      rw [Int.toNat_natCast, List.getD_eq_getElem?_getD (l := sg_byt.getD s.toNat []), hb]
      rfl
    refine g_L_indexOfChar_7 hs ⟨fun q => absurd q (by omega), fun _ => ⟨⟨hs, by omega, by omega⟩, fun q => ?_, fun q => ?_⟩⟩
    · rw [e] at q
      unfold sg_find at h
      rw [if_neg q] at h
      rw [sg_iadd_eq (by omega) (by omega)]
      exact ih (k + 1) hd2 hlt h
    · rw [e] at q
      unfold sg_find at h
      rw [if_pos (Decidable.byContradiction q)] at h
      exact h
theorem s_S_indexOf1 {d N : Nat} {s v1 : Int} {G : SgM} {Q : Int → SgM → Prop} (hs : 0 ≤ s ∧ s < 6) (h : Q (sg_ix s v1) G) : sg_Wp 0 N (d + 3) m_S_indexOf1 0 [(0, 3, s), (1, 0, v1)] [] G Q := by
  have hlen := sg_ll_len hs
  have em : sg_mn (sg_ll s) (sg_ll s) = sg_ll s := by unfold sg_mn; split <;> rfl
  have e0 : sg_mx 0 0 = 0 := rfl
  refine g_S_indexOf1_0 hs ⟨hs, g_S_indexOf2_0 hs ⟨hs, hs, hs, hs, hs, g_L_indexOf_0 hs ?_⟩⟩
  rw [em, e0]
  refine ⟨fun q => ⟨hs, fun q2 => ?_, fun q2 => ?_⟩, fun q => ?_⟩
  · refine g_L_indexOfChar_0 hs ?_
    refine s_ixLoop hs _ 0 rfl (Nat.zero_le _) ?_
    unfold sg_ix at h
    rw [if_pos q] at h
    exact h
  · unfold sg_ix at h
    rw [if_pos q] at h
    have h0 : (sg_byt.getD s.toNat []) = [] := List.length_eq_zero_iff.mp (by omega)
    rw [h0] at h
    exact h
  · unfold sg_ix at h
    rw [if_neg q] at h
    exact h
/-- which byte is which sign -/
theorem sg_ix0 {c : Int} : sg_ix 0 c = if 48 ≤ c ∧ c ≤ 57 then c - 48 else -1 := by
  by_cases h : 0 ≤ c ∧ c ≤ 255
  · have hh : ∀ n : Nat, n < 256 → sg_ix 0 (n : Int) = if 48 ≤ (n : Int) ∧ (n : Int) ≤ 57 then (n : Int) - 48 else -1 := by decide +kernel
    have e : c = ((c.toNat : Nat) : Int) := by omega
    rw [e]
    exact hh c.toNat (by omega)
  · unfold sg_ix
    rw [if_neg h, if_neg (by omega)]
theorem sg_ix1 {c : Int} : sg_ix 1 c = if 48 ≤ c ∧ c ≤ 51 then c - 48 else -1 := by
  by_cases h : 0 ≤ c ∧ c ≤ 255
  · have hh : ∀ n : Nat, n < 256 → sg_ix 1 (n : Int) = if 48 ≤ (n : Int) ∧ (n : Int) ≤ 51 then (n : Int) - 48 else -1 := by decide +kernel
    have e : c = ((c.toNat : Nat) : Int) := by omega
    rw [e]
    exact hh c.toNat (by omega)
  · unfold sg_ix
    rw [if_neg h, if_neg (by omega)]
theorem sg_ix2 {c : Int} : sg_ix 2 c = if c = 59 then 0 else -1 := by
  by_cases h : 0 ≤ c ∧ c ≤ 255
  · have hh : ∀ n : Nat, n < 256 → sg_ix 2 (n : Int) = if (n : Int) = 59 then 0 else -1 := by decide +kernel
    have e : c = ((c.toNat : Nat) : Int) := by omega
    rw [e]
    exact hh c.toNat (by omega)
  · unfold sg_ix
    rw [if_neg h, if_neg (by omega)]
theorem sg_ix3 {c : Int} : sg_ix 3 c = if c = 112 then 0 else if c = 99 then 1 else if c = 103 then 2 else -1 := by
  by_cases h : 0 ≤ c ∧ c ≤ 255
  · have hh : ∀ n : Nat, n < 256 → sg_ix 3 (n : Int) = if (n : Int) = 112 then 0 else if (n : Int) = 99 then 1 else if (n : Int) = 103 then 2 else -1 := by decide +kernel
    have e : c = ((c.toNat : Nat) : Int) := by omega
    rw [e]
    exact hh c.toNat (by omega)
  · unfold sg_ix
    rw [if_neg h, if_neg (by omega), if_neg (by omega), if_neg (by omega)]
theorem sg_ix4 {c : Int} : sg_ix 4 c = if c = 101 then 0 else if c = 119 then 1 else -1 := by
  by_cases h : 0 ≤ c ∧ c ≤ 255
  · have hh : ∀ n : Nat, n < 256 → sg_ix 4 (n : Int) = if (n : Int) = 101 then 0 else if (n : Int) = 119 then 1 else -1 := by decide +kernel
    have e : c = ((c.toNat : Nat) : Int) := by omega
    rw [e]
    exact hh c.toNat (by omega)
  · unfold sg_ix
    rw [if_neg h, if_neg (by omega), if_neg (by omega)]
theorem sg_ix5 {c : Int} : sg_ix 5 c = if 49 ≤ c ∧ c ≤ 57 then c - 49 else -1 := by
  by_cases h : 0 ≤ c ∧ c ≤ 255
  · have hh : ∀ n : Nat, n < 256 → sg_ix 5 (n : Int) = if 49 ≤ (n : Int) ∧ (n : Int) ≤ 57 then (n : Int) - 49 else -1 := by decide +kernel
    have e : c = ((c.toNat : Nat) : Int) := by omega
    rw [e]
    exact hh c.toNat (by omega)
  · unfold sg_ix
    rw [if_neg h, if_neg (by omega)]
theorem sg_i2c_eq {x : Int} (h0 : 0 ≤ x) (h1 : x < 256) : sg_i2c x = x := by
  have hh : ∀ n : Nat, n < 256 → sg_i2c (n : Int) = (n : Int) := by decide +kernel
  have e : x = ((x.toNat : Nat) : Int) := by omega
  rw [e]
  exact hh x.toNat (by omega)
