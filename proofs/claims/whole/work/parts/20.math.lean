/-! THE DAY, as mathematics: a wall (posts: how many, where, how hard; people: how many, sort, cell, way, cold), a weather (pepper in an hour in a cell; a nose held; frost) -/
abbrev TW : Type := (Nat × (Nat → Int) × (Nat → Int)) × (Nat × (Nat → Int) × (Nat → Int) × (Nat → Int) × (Nat → Int))
abbrev TY : Type := (Nat → Nat → Bool) × (Nat → Nat → Bool) × (Nat → Bool)
def tw_n (W : TW) : Nat := W.1.1
def tw_pc (W : TW) : Nat → Int := W.1.2.1
def tw_ph (W : TW) : Nat → Int := W.1.2.2
def tw_k (W : TW) : Nat := W.2.1
def tw_so (W : TW) : Nat → Int := W.2.2.1
def tw_ce (W : TW) : Nat → Int := W.2.2.2.1
def tw_wy (W : TW) : Nat → Int := W.2.2.2.2.1
def tw_co (W : TW) : Nat → Int := W.2.2.2.2.2
/-- a wall as texts can tell it -/
def TWok (W : TW) : Prop := tw_n W ≤ 8 ∧ tw_k W ≤ 6 ∧ (∀ q, q < tw_n W → 0 ≤ tw_pc W q ∧ tw_pc W q ≤ 9 ∧ 0 ≤ tw_ph W q ∧ tw_ph W q ≤ 3) ∧
  ∀ p, p < tw_k W → 0 ≤ tw_so W p ∧ tw_so W p ≤ 2 ∧ 0 ≤ tw_ce W p ∧ tw_ce W p ≤ 9 ∧ 0 ≤ tw_wy W p ∧ tw_wy W p ≤ 1 ∧ 1 ≤ tw_co W p ∧ tw_co W p ≤ 9
/-- cell and way behind hour h -/
def td_pos (ce wy : Int) : Nat → Int × Int
  | 0 => (ce, wy)
  | h + 1 =>
    let q := td_pos ce wy h
    let w := if (q.1 = 9 ∧ q.2 = 0) ∨ (q.1 = 0 ∧ q.2 = 1) then 1 - q.2 else q.2
    (if w = 0 then q.1 + 1 else q.1 - 1, w)
theorem td_pos_in {ce wy : Int} (h1 : 0 ≤ ce ∧ ce ≤ 9) (h2 : wy = 0 ∨ wy = 1) : ∀ h, (0 ≤ (td_pos ce wy h).1 ∧ (td_pos ce wy h).1 ≤ 9) ∧ ((td_pos ce wy h).2 = 0 ∨ (td_pos ce wy h).2 = 1)
  | 0 => ⟨h1, h2⟩
  | h + 1 => by
    have ih := td_pos_in h1 h2 h
    unfold td_pos
    generalize td_pos ce wy h = q at ih
    obtain ⟨c, w⟩ := q
    simp only at ih ⊢
    rcases ih.2 with e | e <;> subst e
    · by_cases c9 : c = 9
      · subst c9; simp
      · simp [c9]; omega
    · by_cases c0 : c = 0
      · subst c0; simp
      · simp [c0]; omega
def td_c (W : TW) (h p : Nat) : Int := (td_pos (tw_ce W p) (tw_wy W p) h).1
def td_w (W : TW) (h p : Nat) : Int := (td_pos (tw_ce W p) (tw_wy W p) h).2
/-- who sneezes in hour h, by the colds as they are then -/
def td_sn1 (W : TW) (Y : TY) (h : Nat) (cold : Nat → Int) (p : Nat) : Bool := (Y.2.2 h || Y.1 h (td_c W h p).toNat || decide (((h : Int) + 1) % cold p = 0)) && !(Y.2.1 h p)
/-- who catches it -/
def td_ct1 (W : TW) (h : Nat) (sn : Nat → Bool) (p : Nat) : Bool := (List.range (tw_k W)).any (fun j => decide (j ≠ p) && sn j && decide (td_c W h j = td_c W h p))
/-- colds ahead of hour h -/
def td_cold (W : TW) (Y : TY) : Nat → Nat → Int
  | 0 => fun p => tw_co W p
  | h + 1 => fun p => if td_ct1 W h (td_sn1 W Y h (td_cold W Y h)) p = true ∧ 1 < td_cold W Y h p then td_cold W Y h p - 1 else td_cold W Y h p
def td_sn (W : TW) (Y : TY) (h p : Nat) : Bool := td_sn1 W Y h (td_cold W Y h) p
def td_ct (W : TW) (Y : TY) (h p : Nat) : Bool := td_ct1 W h (td_sn W Y h) p
theorem td_cold_s (W : TW) (Y : TY) (h p : Nat) : td_cold W Y (h + 1) p = if td_ct W Y h p = true ∧ 1 < td_cold W Y h p then td_cold W Y h p - 1 else td_cold W Y h p := rfl
theorem td_cold_in {W : TW} {Y : TY} {p : Nat} (h1 : 1 ≤ tw_co W p ∧ tw_co W p ≤ 9) : ∀ h, 1 ≤ td_cold W Y h p ∧ td_cold W Y h p ≤ 9
  | 0 => h1
  | h + 1 => by
    have ih := td_cold_in (Y := Y) h1 h
    rw [td_cold_s]
    split <;> omega
def tw_loud (s : Int) : Int := if s = 0 then 2 else if s = 1 then 4 else 7
def tw_dist (a b : Int) : Int := if b < a then a - b else b - a
def td_hear (W : TW) (s c : Int) (q : Nat) : Bool := decide (tw_ph W q ≤ tw_loud s - tw_dist c (tw_pc W q))
/-- a sneeze of p in hour h that post q hears -/
def td_hs (W : TW) (Y : TY) (h q p : Nat) : Bool := td_sn W Y h p && td_hear W (tw_so W p) (td_c W h p) q
/-- the least below m with f, or -1 -/
def td_least (f : Nat → Bool) : Nat → Int
  | 0 => -1
  | m + 1 => if td_least f m = -1 then (if f m = true then (m : Int) else -1) else td_least f m
theorem td_least_none {f : Nat → Bool} : ∀ {m : Nat}, td_least f m = -1 → ∀ i, i < m → f i = false
  | m + 1, h, i, hi => by
    unfold td_least at h
    by_cases e : td_least f m = -1
    · rw [if_pos e] at h
      by_cases g : f m = true
      · rw [if_pos g] at h; omega
      · rcases Nat.lt_succ_iff_lt_or_eq.mp hi with q | q
        · exact td_least_none e i q
        · subst q; exact Bool.eq_false_iff.mpr g
    · rw [if_neg e] at h; exact absurd h e
theorem td_least_of_none {f : Nat → Bool} : ∀ {m : Nat}, (∀ i, i < m → f i = false) → td_least f m = -1
  | 0, _ => rfl
  | m + 1, h => by
    unfold td_least
    rw [td_least_of_none (fun i hi => h i (Nat.lt_succ_of_lt hi)), if_pos rfl, h m (Nat.lt_succ_self m)]
    rfl
theorem td_least_is {f : Nat → Bool} : ∀ {m p : Nat}, td_least f m = (p : Int) → p < m ∧ f p = true ∧ ∀ i, i < p → f i = false
  | 0, p, h => by unfold td_least at h; omega
  | m + 1, p, h => by
    unfold td_least at h
    by_cases e : td_least f m = -1
    · rw [if_pos e] at h
      by_cases g : f m = true
      · rw [if_pos g] at h
        have : p = m := by omega
        subst this
        exact ⟨Nat.lt_succ_self _, g, td_least_none e⟩
      · rw [if_neg g] at h; omega
    · rw [if_neg e] at h
      obtain ⟨a, b⟩ := td_least_is h
      exact ⟨Nat.lt_succ_of_lt a, b⟩
theorem td_least_of {f : Nat → Bool} {m p : Nat} (hp : p < m) (hf : f p = true) (hl : ∀ i, i < p → f i = false) : td_least f m = (p : Int) := by
  induction m with
  | zero => omega
  | succ m ih =>
    unfold td_least
    rcases Nat.lt_succ_iff_lt_or_eq.mp hp with q | q
    · rw [ih q, if_neg (by omega)]
    · subst q
      rw [td_least_of_none hl, if_pos rfl, if_pos hf]
theorem td_least_cases (f : Nat → Bool) (m : Nat) : td_least f m = -1 ∨ ∃ p : Nat, p < m ∧ td_least f m = (p : Int) := by
  induction m with
  | zero => exact Or.inl rfl
  | succ m ih =>
    unfold td_least
    rcases ih with e | ⟨p, h1, h2⟩
    · rw [if_pos e]
      by_cases g : f m = true
      · rw [if_pos g]; exact Or.inr ⟨m, Nat.lt_succ_self m, rfl⟩
      · rw [if_neg g]; exact Or.inl rfl
    · rw [h2, if_neg (by omega)]; exact Or.inr ⟨p, Nat.lt_succ_of_lt h1, rfl⟩
/-- by whom post q is changed in hour h, or -1 -/
def td_who (W : TW) (Y : TY) (h q : Nat) : Int := td_least (td_hs W Y h q) (tw_k W)
/-- how long post q has stood behind hour h -/
def td_std (W : TW) (Y : TY) (q : Nat) : Nat → Int
  | 0 => if td_who W Y 0 q = -1 then 1 else 0
  | h + 1 => if td_who W Y (h + 1) q = -1 then td_std W Y q h + 1 else 0
/-- how long it had stood ahead of hour h -/
def td_stb (W : TW) (Y : TY) (q h : Nat) : Int := match h with
  | 0 => 0
  | h + 1 => td_std W Y q h
theorem td_std_b (W : TW) (Y : TY) (q h : Nat) : td_std W Y q h = if td_who W Y h q = -1 then td_stb W Y q h + 1 else 0 := by
  cases h with
  | zero => unfold td_std td_stb; split <;> rfl
  | succ h => rfl
theorem td_std_in (W : TW) (Y : TY) (q : Nat) : ∀ h : Nat, 0 ≤ td_std W Y q h ∧ td_std W Y q h ≤ (h : Int) + 1
  | 0 => by unfold td_std; split <;> omega
  | h + 1 => by
    have ih := td_std_in W Y q h
    unfold td_std
    split <;> omega
/-- sums -/
def td_sum (f : Nat → Int) : Nat → Int
  | 0 => 0
  | n + 1 => td_sum f n + f n
def td_one (b : Bool) : Int := if b then 1 else 0
theorem td_sum_congr {f g : Nat → Int} : ∀ {n : Nat}, (∀ i, i < n → f i = g i) → td_sum f n = td_sum g n
  | 0, _ => rfl
  | n + 1, h => by unfold td_sum; rw [td_sum_congr (fun i hi => h i (Nat.lt_succ_of_lt hi)), h n (Nat.lt_succ_self n)]
theorem td_sum_add (f g : Nat → Int) : ∀ n : Nat, td_sum (fun i => f i + g i) n = td_sum f n + td_sum g n
  | 0 => rfl
  | n + 1 => by unfold td_sum; rw [td_sum_add f g n]; omega
theorem td_sum_zero : ∀ n : Nat, td_sum (fun _ => 0) n = 0
  | 0 => rfl
  | n + 1 => by unfold td_sum; rw [td_sum_zero n]; rfl
theorem td_sum_swap (f : Nat → Nat → Int) (m : Nat) : ∀ n : Nat, td_sum (fun i => td_sum (f i) m) n = td_sum (fun j => td_sum (fun i => f i j) n) m
  | 0 => (td_sum_zero m).symm
  | n + 1 => by
    show td_sum (fun i => td_sum (f i) m) n + td_sum (f n) m = _
    rw [td_sum_swap f m n, ← td_sum_add]
    rfl
theorem td_sum_in {f : Nat → Int} {b : Int} (hf : ∀ i, 0 ≤ f i ∧ f i ≤ b) : ∀ n : Nat, 0 ≤ td_sum f n ∧ td_sum f n ≤ (n : Int) * b
  | 0 => by unfold td_sum; omega
  | n + 1 => by
    have ih := td_sum_in hf n
    have := hf n
    unfold td_sum
    rw [Int.natCast_succ, Int.add_mul]
    omega
theorem td_one_in (b : Bool) : 0 ≤ td_one b ∧ td_one b ≤ 1 := by unfold td_one; split <;> omega
def td_ch (W : TW) (Y : TY) (h q : Nat) : Bool := decide (td_who W Y h q ≠ -1)
/-- how often post q was changed ahead of hour h -/
def td_chb (W : TW) (Y : TY) (h q : Nat) : Int := td_sum (fun i => td_one (td_ch W Y i q)) h
/-- changes in hour h, as bits -/
def td_chm (W : TW) (Y : TY) (h : Nat) : Nat := sg_mk (td_ch W Y h) (tw_n W)
/-- all changes ahead of hour h -/
def td_all (W : TW) (Y : TY) (h : Nat) : Int := td_sum (fun i => td_sum (fun q => td_one (td_ch W Y i q)) (tw_n W)) h
/-- posts that ever stood for 12 hours or more ahead of hour h -/
def td_fg (W : TW) (Y : TY) (h q : Nat) : Bool := (List.range h).any (fun i => decide (12 ≤ td_std W Y q i))
def td_fgm (W : TW) (Y : TY) (h : Nat) : Nat := sg_mk (td_fg W Y h) (tw_n W)
/-- the longest, as it is found: how long, the hour, the post; behind hours below h, and posts below q of hour h -/
def td_lq (W : TW) (Y : TY) (h : Nat) (s : Int × Int × Int) : Nat → Int × Int × Int
  | 0 => s
  | q + 1 => let t := td_lq W Y h s q; if t.1 < td_std W Y q h then (td_std W Y q h, (h : Int), (q : Int)) else t
def td_lg (W : TW) (Y : TY) : Nat → Int × Int × Int
  | 0 => (-1, -1, -1)
  | h + 1 => td_lq W Y h (td_lg W Y h) (tw_n W)
/-- how often p has sneezed ahead of hour h -/
def td_oft (W : TW) (Y : TY) (p h : Nat) : Int := td_sum (fun i => td_one (td_sn W Y i p)) h
/-- how many changes by p ahead of hour h -/
def td_bsy (W : TW) (Y : TY) (p h : Nat) : Int := td_sum (fun i => td_sum (fun q => td_one (decide (td_who W Y i q = (p : Int)))) (tw_n W)) h
/-- the best of the first m by f, of like ones the least: more than 'most' first -/
def td_max (f : Nat → Int) : Nat → Int × Int
  | 0 => (-1, 0)
  | m + 1 => let t := td_max f m; if t.2 < f m then ((m : Int), f m) else t
def td_busy (W : TW) (Y : TY) : Int := (td_max (fun p => td_bsy W Y p 24) (tw_k W)).1
def td_quiet (W : TW) (Y : TY) : Nat := sg_mk (fun p => decide (td_oft W Y p 24 = 0)) (tw_k W)
