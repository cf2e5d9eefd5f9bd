/-! SHEETS -/
abbrev TZ : Type := (Nat → Int) × (Nat → Int) × (Nat → Nat → Int) × Int
def tz_f (Z : TZ) : Nat → Int := Z.1
def tz_n (Z : TZ) : Nat → Int := Z.2.1
def tz_i (Z : TZ) : Nat → Nat → Int := Z.2.2.1
def tz_l (Z : TZ) : Int := Z.2.2.2
def TZok (Z : TZ) : Prop := ∀ s : Nat, s < 4 → (-1 ≤ tz_f Z s ∧ tz_f Z s ≤ 2) ∧ 0 ≤ tz_n Z s ∧ tz_n Z s ≤ 60
def cZ (Z : TZ) (G : SgM) : Prop := (∀ s : Nat, s < 4 → G 68 s = tz_f Z s ∧ G 69 s = tz_n Z s ∧ ∀ i : Nat, (i : Int) < tz_n Z s → G (71 + (s : Int)) i = tz_i Z s i) ∧ G 67 3 = tz_l Z
theorem cZ.fr {Z : TZ} {G G' : SgM} (h : cZ Z G) (f : ∀ c : Int, 67 ≤ c → c ≤ 74 → ∀ i, G' c i = G c i) : cZ Z G' :=
  ⟨fun s hs => by rw [f 68 (by omega) (by omega), f 69 (by omega) (by omega)]; exact ⟨(h.1 s hs).1, (h.1 s hs).2.1, fun i hi => by rw [f _ (by omega) (by omega)]; exact (h.1 s hs).2.2 i hi⟩, by rw [f 67 (by omega) (by omega)]; exact h.2⟩
def tz_fnd (Z : TZ) (k : Int) : TZ := (Z.1, Z.2.1, Z.2.2.1, k)
def tz_ref (Z : TZ) (s : Int) : Int × TZ := if 0 ≤ s ∧ s < 4 then (if tz_f Z s.toNat = -1 then (-11, tz_fnd Z 1) else (0, Z)) else (-2, Z)
def tz_itm (Z : TZ) (s f i : Int) : Int × TZ := if 0 ≤ s ∧ s < 4 then (if 0 ≤ f ∧ f < 3 then (if tz_f Z s.toNat = -1 then (-11, tz_fnd Z 1) else if tz_f Z s.toNat = f then (if 0 ≤ i ∧ i < tz_n Z s.toNat then (0, Z) else (-12, tz_fnd Z 2)) else (-13, tz_fnd Z 3)) else (-2, Z)) else (-2, Z)
def tz_set (Z : TZ) (s : Nat) (f n : Int) : TZ := ((fun t => if t = s then f else tz_f Z t), (fun t => if t = s then n else tz_n Z t), (fun t i => if t = s then 0 else tz_i Z t i), tz_l Z)
def tz_mke (Z : TZ) (s f n : Int) : Int × TZ := if 0 ≤ s ∧ s < 4 then (if 0 ≤ f ∧ f < 3 then (if n ≤ 60 then (if 0 ≤ n then (n, tz_set Z s.toNat f n) else (-15, tz_fnd Z 5)) else (-2, Z)) else (-2, Z)) else (-2, Z)
def tz_los (Z : TZ) (s : Nat) : TZ := ((fun t => if t = s then -1 else tz_f Z t), tz_n Z, tz_i Z, tz_l Z)
def tz_drp (Z : TZ) (s : Int) : Int × TZ := if 0 ≤ s ∧ s < 4 then (if tz_f Z s.toNat = -1 then (-11, tz_fnd Z 1) else (tz_n Z s.toNat, tz_los Z s.toNat)) else (-2, Z)
def tz_cut (f v : Int) : Int := if f = 0 then sg_i2b v else if f = 1 then sg_i2s v else v
def tz_put (Z : TZ) (s i : Nat) (v : Int) : TZ := (tz_f Z, tz_n Z, (fun t j => if t = s ∧ j = i then tz_cut (tz_f Z s) v else tz_i Z t j), tz_l Z)
abbrev tz_rm (len i n : Int) : Prop := 0 ≤ i ∧ 0 ≤ n ∧ n ≤ len ∧ i ≤ len - n
def tz_mvd (Z : TZ) (s i t j n : Nat) : TZ := (tz_f Z, tz_n Z, (fun a k => if a = t ∧ j ≤ k ∧ k < j + n then tz_i Z s (i + (k - j)) else tz_i Z a k), tz_l Z)
def tz_mov (Z : TZ) (s i t j n : Int) : Int × TZ := if (0 ≤ s ∧ s < 4) ∧ (0 ≤ t ∧ t < 4) then (if tz_f Z s.toNat = -1 ∨ tz_f Z t.toNat = -1 then (-11, tz_fnd Z 1) else if tz_f Z s.toNat = tz_f Z t.toNat then (if tz_rm (tz_n Z s.toNat) i n ∧ tz_rm (tz_n Z t.toNat) j n then (1, tz_mvd Z s.toNat i.toNat t.toNat j.toNat n.toNat) else (-12, tz_fnd Z 2)) else (-14, tz_fnd Z 4)) else (-2, Z)
theorem ce_71v {N : Nat} (hN : 75 ≤ N) {v : Nat} (hv : v < 4) : sg_Ce 0 N (71 + (v : Int)) 1 60 := by
  have : v = 0 ∨ v = 1 ∨ v = 2 ∨ v = 3 := by omega
  rcases this with rfl | rfl | rfl | rfl
  · exact ce_71 hN
  · exact ce_72 hN
  · exact ce_73 hN
  · exact ce_74 hN
theorem c_A_fill_row {d N : Nat} (hN : 75 ≤ N) {a : Nat} (ha : a < 4) {v : Int} {G : SgM} {Q : Int → SgM → Prop} (post : ∀ G', (∀ c' : Int, c' ≠ 71 + (a : Int) → ∀ i, G' c' i = G c' i) → (∀ i : Int, 0 ≤ i → i < 60 → G' (71 + (a : Int)) i = v) → Q 0 G') : sg_Wp 0 N d m_A_fill 0 [(0, 2, 71 + (a : Int)), (1, 0, v)] [] G Q := by
  have : a = 0 ∨ a = 1 ∨ a = 2 ∨ a = 3 := by omega
  rcases this with rfl | rfl | rfl | rfl
  · exact c_A_fill_71 hN (fun G' x y _ => post G' x y)
  · exact c_A_fill_72 hN (fun G' x y _ => post G' x y)
  · exact c_A_fill_73 hN (fun G' x y _ => post G' x y)
  · exact c_A_fill_74 hN (fun G' x y _ => post G' x y)
theorem c_Z_found {d N : Nat} (hN : 75 ≤ N) {Z : TZ} {k : Int} (hk : 0 ≤ k ∧ k ≤ 9) {G : SgM} {Q : Int → SgM → Prop} (cz : cZ Z G) (post : ∀ G', (∀ c : Int, (c < 67 ∨ 74 < c) → ∀ i, G' c i = G c i) → cZ (tz_fnd Z k) G' → Q (-10 - k) G') : sg_Wp 0 N d m_Z_found 0 [(0, 2, 67), (1, 0, k)] [] G Q := by
  refine g_Z_found_67_0 hN ?_
  rw [sg_isub_eq (by omega) (by omega)]
  refine post _ (fun c hc i => sg_upc (by omega)) ⟨fun s hs => ?_, sg_up_at⟩
  rw [sg_upc (by omega), sg_upc (by omega)]
  refine ⟨(cz.1 s hs).1, (cz.1 s hs).2.1, fun i hi => ?_⟩
  rw [sg_upc (by omega)]
  exact (cz.1 s hs).2.2 i hi
theorem c_Z_ref {d N : Nat} (hN : 75 ≤ N) {Z : TZ} {s : Int} {G : SgM} {Q : Int → SgM → Prop} (cz : cZ Z G) (post : ∀ G', (∀ c : Int, (c < 67 ∨ 74 < c) → ∀ i, G' c i = G c i) → cZ (tz_ref Z s).2 G' → Q (tz_ref Z s).1 G') : sg_Wp 0 N (d + 1) m_Z_refusalOf 0 [(0, 2, 67), (1, 0, s)] [] G Q := by
  unfold tz_ref at post
  refine g_Z_refusalOf_67_0 hN ⟨fun h => ⟨h, fun q => ?_, fun q => ?_⟩, fun h => ?_⟩
  · rw [if_pos h] at post
    obtain ⟨a, ea⟩ := Int.eq_ofNat_of_zero_le h.1
    rw [ea] at q
    rw [(cz.1 a (by omega)).1] at q
    rw [ea, Int.toNat_natCast, if_neg q] at post
    exact post G (fun _ _ _ => rfl) cz
  · rw [if_pos h] at post
    obtain ⟨a, ea⟩ := Int.eq_ofNat_of_zero_le h.1
    rw [ea] at q
    rw [(cz.1 a (by omega)).1] at q
    rw [ea, Int.toNat_natCast, if_pos (Decidable.not_not.mp q)] at post
    exact c_Z_found hN (by omega) cz post
  · rw [if_neg h] at post
    exact post G (fun _ _ _ => rfl) cz
theorem c_Z_itm {d N : Nat} (hN : 75 ≤ N) {Z : TZ} {s f i : Int} {G : SgM} {Q : Int → SgM → Prop} (cz : cZ Z G) (post : ∀ G', (∀ c : Int, (c < 67 ∨ 74 < c) → ∀ i, G' c i = G c i) → cZ (tz_itm Z s f i).2 G' → Q (tz_itm Z s f i).1 G') : sg_Wp 0 N (d + 1) m_Z_refusalOfItem 0 [(0, 2, 67), (1, 0, s), (2, 0, f), (3, 0, i)] [] G Q := by
  unfold tz_itm at post
  refine g_Z_refusalOfItem_67_0 hN ⟨fun h => ⟨fun hf => ⟨h, fun q => ⟨h, fun q2 => ⟨h, fun q3 => ?_, fun q3 => ?_⟩, fun q2 => ?_⟩, fun q => ?_⟩, fun hf => ?_⟩, fun h => ?_⟩
  · rw [if_pos h, if_pos hf] at post
    obtain ⟨a, ea⟩ := Int.eq_ofNat_of_zero_le h.1
    rw [ea] at q q2 q3
    rw [(cz.1 a (by omega)).1] at q q2
    rw [(cz.1 a (by omega)).2.1] at q3
    rw [ea, Int.toNat_natCast, if_neg q, if_pos q2, if_pos q3] at post
    exact post G (fun _ _ _ => rfl) cz
  · rw [if_pos h, if_pos hf] at post
    obtain ⟨a, ea⟩ := Int.eq_ofNat_of_zero_le h.1
    rw [ea] at q q2 q3
    rw [(cz.1 a (by omega)).1] at q q2
    rw [(cz.1 a (by omega)).2.1] at q3
    rw [ea, Int.toNat_natCast, if_neg q, if_pos q2, if_neg q3] at post
    exact c_Z_found hN (by omega) cz post
  · rw [if_pos h, if_pos hf] at post
    obtain ⟨a, ea⟩ := Int.eq_ofNat_of_zero_le h.1
    rw [ea] at q q2
    rw [(cz.1 a (by omega)).1] at q q2
    rw [ea, Int.toNat_natCast, if_neg q, if_neg q2] at post
    exact c_Z_found hN (by omega) cz post
  · rw [if_pos h, if_pos hf] at post
    obtain ⟨a, ea⟩ := Int.eq_ofNat_of_zero_le h.1
    rw [ea] at q
    rw [(cz.1 a (by omega)).1] at q
    rw [ea, Int.toNat_natCast, if_pos (Decidable.not_not.mp q)] at post
    exact c_Z_found hN (by omega) cz post
  · rw [if_pos h, if_neg hf] at post
    exact post G (fun _ _ _ => rfl) cz
  · rw [if_neg h] at post
    exact post G (fun _ _ _ => rfl) cz
theorem c_Z_make {d N : Nat} (hN : 75 ≤ N) {Z : TZ} {s f n : Int} {G : SgM} {Q : Int → SgM → Prop} (cz : cZ Z G) (post : ∀ G', (∀ c : Int, (c < 67 ∨ 74 < c) → ∀ i, G' c i = G c i) → cZ (tz_mke Z s f n).2 G' → Q (tz_mke Z s f n).1 G') : sg_Wp 0 N (d + 1) m_Z_make 0 [(0, 2, 67), (1, 0, s), (2, 0, f), (3, 0, n)] [] G Q := by
  unfold tz_mke at post
  refine g_Z_make_67_0 hN ⟨fun h => ⟨fun hf => ⟨fun q => ⟨fun q2 => ⟨h, h, h, ?_⟩, fun q2 => ?_⟩, fun q => ?_⟩, fun hf => ?_⟩, fun h => ?_⟩
  · rw [if_pos h, if_pos hf, if_pos q, if_pos q2] at post
    obtain ⟨a, ea⟩ := Int.eq_ofNat_of_zero_le h.1
    rw [ea, Int.toNat_natCast] at post
    rw [ea]
    refine c_A_fill_row hN (by omega) (fun G' x y => post G' (fun c hc i => by rw [x c (by omega), sg_upc (by omega), sg_upc (by omega)]) ⟨fun t ht => ?_, by rw [x 67 (by omega), sg_upc (by omega), sg_upc (by omega)]; exact cz.2⟩)
    by_cases e : t = a
    · subst e
      refine ⟨?_, ?_, fun i hi => ?_⟩
      · rw [x 68 (by omega), sg_upc (by omega), sg_up_at]; exact (if_pos rfl).symm
      · rw [x 69 (by omega), sg_up_at]; exact (if_pos rfl).symm
      · have e1 : tz_n (tz_set Z t f n) t = n := if_pos rfl
        rw [e1] at hi
        rw [y i (by omega) (by omega)]; exact (if_pos rfl).symm
    · refine ⟨?_, ?_, fun i hi => ?_⟩
      · rw [x 68 (by omega), sg_upc (by omega), sg_upi (by omega)]; exact (cz.1 t ht).1.trans (if_neg e).symm
      · rw [x 69 (by omega), sg_upi (by omega), sg_upc (by omega)]; exact (cz.1 t ht).2.1.trans (if_neg e).symm
      · have e1 : tz_n (tz_set Z a f n) t = tz_n Z t := if_neg e
        rw [e1] at hi
        rw [x _ (by omega), sg_upc (by omega), sg_upc (by omega)]; exact ((cz.1 t ht).2.2 i hi).trans (if_neg e).symm
  · rw [if_pos h, if_pos hf, if_pos q, if_neg q2] at post
    exact c_Z_found hN (by omega) cz post
  · rw [if_pos h, if_pos hf, if_neg q] at post
    exact post G (fun _ _ _ => rfl) cz
  · rw [if_pos h, if_neg hf] at post
    exact post G (fun _ _ _ => rfl) cz
  · rw [if_neg h] at post
    exact post G (fun _ _ _ => rfl) cz
theorem c_Z_drop {d N : Nat} (hN : 75 ≤ N) {Z : TZ} {s : Int} {G : SgM} {Q : Int → SgM → Prop} (cz : cZ Z G) (post : ∀ G', (∀ c : Int, (c < 67 ∨ 74 < c) → ∀ i, G' c i = G c i) → cZ (tz_drp Z s).2 G' → Q (tz_drp Z s).1 G') : sg_Wp 0 N (d + 2) m_Z_drop 0 [(0, 2, 67), (1, 0, s)] [] G Q := by
  unfold tz_drp at post
  refine g_Z_drop_67_0 hN (c_Z_ref hN cz (fun G1 a1 a2 => ⟨fun q => ?_, fun q => ?_⟩))
  · unfold tz_ref at q a2
    by_cases h : 0 ≤ s ∧ s < 4
    · rw [if_pos h] at q a2 post
      obtain ⟨a, ea⟩ := Int.eq_ofNat_of_zero_le h.1
      rw [ea, Int.toNat_natCast] at q a2 post
      by_cases e : tz_f Z a = -1
      · rw [if_pos e] at q
        exact absurd (show (-11 : Int) = 0 from q) (by decide)
      · rw [if_neg e] at a2 post
        have a2 : cZ Z G1 := a2
        refine ⟨h, h, ?_⟩
        rw [ea, (a2.1 a (by omega)).2.1]
        refine post _ (fun c hc i => by rw [sg_upc (by omega)]; exact a1 c hc i) ⟨fun t ht => ?_, by rw [sg_upc (by omega)]; exact a2.2⟩
        rw [sg_upc (c' := 69) (by omega)]
        refine ⟨?_, (a2.1 t ht).2.1, fun i hi => by rw [sg_upc (by omega)]; exact (a2.1 t ht).2.2 i hi⟩
        by_cases et : t = a
        · subst et
          rw [sg_up_at]; exact (if_pos rfl).symm
        · rw [sg_upi (by omega)]; exact (a2.1 t ht).1.trans (if_neg et).symm
    · rw [if_neg h] at q
      exact absurd (show (-2 : Int) = 0 from q) (by decide)
  · unfold tz_ref at q a2 ⊢
    by_cases h : 0 ≤ s ∧ s < 4
    · rw [if_pos h] at q a2 post ⊢
      by_cases e : tz_f Z s.toNat = -1
      · rw [if_pos e] at a2 post ⊢
        exact post G1 a1 a2
      · rw [if_neg e] at q
        exact absurd rfl q
    · rw [if_neg h] at a2 post ⊢
      exact post G1 a1 a2
theorem c_Z_len {d N : Nat} (hN : 75 ≤ N) {Z : TZ} {s : Nat} (hs : s < 4) {G : SgM} {Q : Int → SgM → Prop} (cz : cZ Z G) (post : Q (tz_n Z s) G) : sg_Wp 0 N (d + 1) m_Z_lengthOf 0 [(0, 2, 67), (1, 0, (s : Int))] [] G Q := by
  refine g_Z_lengthOf_67_0 hN ⟨fun h => ⟨h, ?_⟩, fun h => absurd (by omega) h⟩
  rw [(cz.1 s hs).2.1]
  exact post
theorem c_Z_item {d N : Nat} (hN : 75 ≤ N) {Z : TZ} (hZ : TZok Z) {s i : Nat} (hs : s < 4) (hi : (i : Int) < tz_n Z s) {G : SgM} {Q : Int → SgM → Prop} (cz : cZ Z G) (post : Q (tz_i Z s i) G) : sg_Wp 0 N (d + 2) m_Z_item 0 [(0, 2, 67), (1, 0, (s : Int)), (2, 0, (i : Int))] [] G Q := by
  have b := (hZ s hs).2
  refine g_Z_item_67_0 hN (c_Z_len hN hs cz ⟨fun h => ⟨by omega, ce_71v hN hs, by omega, ?_⟩, fun h => absurd (by omega) h⟩)
  rw [(cz.1 s hs).2.2 i hi]
  exact post
theorem c_Z_put {d N : Nat} (hN : 75 ≤ N) {Z : TZ} (hZ : TZok Z) {s i : Nat} (hs : s < 4) (hi : (i : Int) < tz_n Z s) {v : Int} {G : SgM} {Q : Int → SgM → Prop} (cz : cZ Z G) (post : ∀ G', (∀ c : Int, (c < 67 ∨ 74 < c) → ∀ i, G' c i = G c i) → cZ (tz_put Z s i v) G' → Q 0 G') : sg_Wp 0 N (d + 2) m_Z_put 0 [(0, 2, 67), (1, 0, (s : Int)), (2, 0, (i : Int)), (3, 0, v)] [] G Q := by
  have b := (hZ s hs).2
  have key : Q 0 (sg_up G (71 + (s : Int)) i (tz_cut (tz_f Z s) v)) := by
    refine post _ (fun c hc k => sg_upc (by omega)) ⟨fun t ht => ?_, by rw [sg_upc (by omega)]; exact cz.2⟩
    rw [sg_upc (c' := 68) (by omega), sg_upc (c' := 69) (by omega)]
    refine ⟨(cz.1 t ht).1, (cz.1 t ht).2.1, fun k hk => ?_⟩
    by_cases e : t = s ∧ k = i
    · obtain ⟨rfl, rfl⟩ := e
      rw [sg_up_at]; exact (if_pos ⟨rfl, rfl⟩).symm
    · refine Eq.trans ?_ (if_neg e).symm
      rw [← (cz.1 t ht).2.2 k hk]
      unfold sg_up
      exact if_neg (fun z => e (by omega))
  have f := (cz.1 s hs).1
  refine g_Z_put_67_0 hN (c_Z_len hN hs cz ⟨fun h => ⟨by omega, fun q => ⟨by omega, fun q2 => ⟨by omega, ce_71v hN hs, by omega, ?_⟩, fun q2 => ⟨by omega, ce_71v hN hs, by omega, ?_⟩⟩, fun q => ⟨by omega, ce_71v hN hs, by omega, ?_⟩⟩, fun h => absurd (by omega) h⟩)
  · rw [f] at q q2
    unfold tz_cut at key
    rw [if_neg q, if_neg q2] at key
    exact key
  · rw [f] at q q2
    unfold tz_cut at key
    rw [if_neg q, if_pos (Decidable.not_not.mp q2)] at key
    exact key
  · rw [f] at q
    unfold tz_cut at key
    rw [if_pos (Decidable.not_not.mp q)] at key
    exact key
theorem c_Z_move {d N : Nat} (hN : 75 ≤ N) {Z : TZ} (hZ : TZok Z) {s i t j n : Int} {G : SgM} {Q : Int → SgM → Prop} (cz : cZ Z G) (post : ∀ G', (∀ c : Int, (c < 67 ∨ 74 < c) → ∀ i, G' c i = G c i) → cZ (tz_mov Z s i t j n).2 G' → Q (tz_mov Z s i t j n).1 G') : sg_Wp 0 N (d + 2) m_Z_move 0 [(0, 2, 67), (1, 0, s), (2, 0, i), (3, 0, t), (4, 0, j), (5, 0, n)] [] G Q := by
  unfold tz_mov at post
  by_cases hs : 0 ≤ s ∧ s < 4
  · by_cases ht : 0 ≤ t ∧ t < 4
    · rw [if_pos ⟨hs, ht⟩] at post
      obtain ⟨a, ea⟩ := Int.eq_ofNat_of_zero_le hs.1
      obtain ⟨b, eb⟩ := Int.eq_ofNat_of_zero_le ht.1
      subst ea
      subst eb
      rw [Int.toNat_natCast, Int.toNat_natCast] at post
      have za := cz.1 a (by omega)
      have zb := cz.1 b (by omega)
      have na := (hZ a (by omega)).2
      have nb := (hZ b (by omega)).2
      have at39 : (tz_f Z a = -1 ∨ tz_f Z b = -1) → sg_Wp 0 N (d + 2) m_Z_move 39 [(0, 2, 67)] [] G Q := fun h => by
        rw [if_pos h] at post
        exact g_Z_move_67_39 hN (c_Z_found hN (by omega) cz post)
      refine g_Z_move_67_0 hN ⟨fun _ => ⟨fun _ => ⟨hs, fun q => at39 (Or.inl (by rw [za.1] at q; exact q)), fun q => ⟨ht, fun q2 => ⟨hs, ht, fun q3 => ⟨hs, fun q4 => ⟨ht, fun q5 => ⟨hs, ht, ce_71v hN (by omega), ce_71v hN (by omega), ?_, ?_⟩, fun q5 => ?_⟩, fun q4 => ?_⟩, fun q3 => ?_⟩, fun q2 => at39 (Or.inr (by rw [zb.1] at q2; exact Decidable.not_not.mp q2))⟩⟩, fun h => absurd ht h⟩, fun h => absurd hs h⟩
      · rw [za.2.1, sg_isub_eq (by omega) (by omega)] at q4
        rw [zb.2.1, sg_isub_eq (by omega) (by omega)] at q5
        omega
      · rw [za.1] at q q3
        rw [zb.1] at q2 q3
        rw [za.2.1, sg_isub_eq (by omega) (by omega)] at q4
        rw [zb.2.1, sg_isub_eq (by omega) (by omega)] at q5
        rw [if_neg (fun z => z.elim q q2), if_pos q3, if_pos ⟨q4, q5⟩] at post
        obtain ⟨i', ei⟩ := Int.eq_ofNat_of_zero_le q4.1
        obtain ⟨j', ej⟩ := Int.eq_ofNat_of_zero_le q5.1
        obtain ⟨n', en⟩ := Int.eq_ofNat_of_zero_le q4.2.1
        subst ei
        subst ej
        subst en
        rw [Int.toNat_natCast, Int.toNat_natCast, Int.toNat_natCast] at post
        have cpo : ∀ c : Int, c ≠ 71 + (b : Int) → ∀ k, sg_cp G (71 + (a : Int)) (i' : Int) (71 + (b : Int)) (j' : Int) (n' : Int) c k = G c k := fun c x k => by unfold sg_cp; exact if_neg (fun z => x z.1)
        refine post _ (fun c hc k => cpo c (by omega) k) ⟨fun u hu => ?_, by rw [cpo 67 (by omega)]; exact cz.2⟩
        have zu := cz.1 u hu
        rw [cpo 68 (by omega), cpo 69 (by omega)]
        refine ⟨zu.1, zu.2.1, fun k hk => ?_⟩
        have hk : (k : Int) < tz_n Z u := hk
        by_cases e : u = b ∧ j' ≤ k ∧ k < j' + n'
        · obtain ⟨rfl, e1, e2⟩ := e
          refine Eq.trans ?_ (if_pos ⟨rfl, e1, e2⟩).symm
          unfold sg_cp
          rw [if_pos ⟨rfl, by omega, by omega⟩, ← za.2.2 (i' + (k - j')) (by omega)]
          congr 1
          omega
        · refine Eq.trans ?_ (if_neg e).symm
          unfold sg_cp
          rw [if_neg (fun z => e (by omega))]
          exact zu.2.2 k hk
      · rw [za.1] at q q3
        rw [zb.1] at q2 q3
        rw [zb.2.1, sg_isub_eq (by omega) (by omega)] at q5
        rw [if_neg (fun z => z.elim q q2), if_pos q3, if_neg (fun z => q5 z.2)] at post
        exact g_Z_move_67_97 hN (c_Z_found hN (by omega) cz post)
      · rw [za.1] at q q3
        rw [zb.1] at q2 q3
        rw [if_neg (fun z => z.elim q q2), if_pos q3] at post
        by_cases z1 : tz_rm (tz_n Z a) i n
        · exact absurd (by rw [za.2.1, sg_isub_eq (by omega) (by omega)]; exact z1) q4
        · rw [if_neg (fun z => z1 z.1)] at post
          exact g_Z_move_67_97 hN (c_Z_found hN (by omega) cz post)
      · rw [za.1] at q q3
        rw [zb.1] at q2 q3
        rw [if_neg (fun z => z.elim q q2), if_neg q3] at post
        exact c_Z_found hN (by omega) cz post
    · rw [if_neg (fun z => ht z.2)] at post
      exact g_Z_move_67_0 hN ⟨fun _ => ⟨fun h => absurd h ht, fun _ => g_Z_move_67_16 hN (post G (fun _ _ _ => rfl) cz)⟩, fun h => absurd hs h⟩
  · rw [if_neg (fun z => hs z.1)] at post
    exact g_Z_move_67_0 hN ⟨fun h => absurd h hs, fun _ => g_Z_move_67_16 hN (post G (fun _ _ _ => rfl) cz)⟩
