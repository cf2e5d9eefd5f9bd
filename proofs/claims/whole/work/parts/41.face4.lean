/-! THE FACE: sheets -/
def a_sheet (A : TA) (s f n : Int) : Int × TA := ((tz_mke A.2.2 s f n).1, a_Zs A (tz_mke A.2.2 s f n).2)
def a_lose (A : TA) (s : Int) : Int × TA := ((tz_drp A.2.2 s).1, a_Zs A (tz_drp A.2.2 s).2)
def a_lay (A : TA) (s f i v : Int) : Int × TA := if (tz_itm A.2.2 s f i).1 = 0 then (1, a_Zs A (tz_put A.2.2 s.toNat i.toNat v)) else ((tz_itm A.2.2 s f i).1, a_Zs A (tz_itm A.2.2 s f i).2)
def a_get (A : TA) (s f i : Int) : Int × TA := if (tz_itm A.2.2 s f i).1 = 0 then (tz_i A.2.2 s.toNat i.toNat, A) else (-2147483648, a_Zs A (tz_itm A.2.2 s f i).2)
def a_copy (A : TA) (s i t j n : Int) : Int × TA := ((tz_mov A.2.2 s i t j n).1, a_Zs A (tz_mov A.2.2 s i t j n).2)
def tz_wr (Z : TZ) (s : Nat) (x : Nat → Int) (m : Nat) : TZ := (tz_f Z, tz_n Z, (fun t j => if t = s ∧ j < m then tz_cut (tz_f Z s) (x j) else tz_i Z t j), tz_l Z)
theorem tz_wr_s (Z : TZ) (s : Nat) (x : Nat → Int) (m : Nat) : tz_put (tz_wr Z s x m) s m (x m) = tz_wr Z s x (m + 1) := by
  have e : (fun t j => if t = s ∧ j = m then tz_cut (tz_f Z s) (x m) else if t = s ∧ j < m then tz_cut (tz_f Z s) (x j) else tz_i Z t j) = (fun t j => if t = s ∧ j < m + 1 then tz_cut (tz_f Z s) (x j) else tz_i Z t j) := by
    funext t j
    by_cases h : t = s ∧ j = m
    · obtain ⟨rfl, rfl⟩ := h
      rw [if_pos ⟨rfl, rfl⟩, if_pos ⟨rfl, Nat.lt_succ_self _⟩]
    · rw [if_neg h]
      by_cases h2 : t = s ∧ j < m
      · rw [if_pos h2, if_pos ⟨h2.1, by omega⟩]
      · rw [if_neg h2, if_neg (by omega)]
  show ((tz_f Z, tz_n Z, _, tz_l Z) : TZ) = (tz_f Z, tz_n Z, _, tz_l Z)
  rw [← e]
  rfl
theorem tz_wr_0 (Z : TZ) (s : Nat) (x : Nat → Int) : tz_wr Z s x 0 = Z := by
  have e : (fun t j => if t = s ∧ j < 0 then tz_cut (tz_f Z s) (x j) else tz_i Z t j) = tz_i Z := by
    funext t j
    exact if_neg (fun h => absurd h.2 (Nat.not_lt_zero _))
  unfold tz_wr
  rw [e]
  rfl
def a_write (A : TA) (p s : Int) : Int × TA := if a_is (tw_n (a_W A)) p then (if (tz_ref A.2.2 s).1 = 0 then (sg_mn (tz_n A.2.2 s.toNat) 24, a_Zs A (tz_wr A.2.2 s.toNat (fun h => td_std (a_W A) (a_Y A) p.toNat h) (sg_mn (tz_n A.2.2 s.toNat) 24).toNat)) else ((tz_ref A.2.2 s).1, a_Zs A (tz_ref A.2.2 s).2)) else (-2, A)
theorem tz_ref0 {Z : TZ} {s : Int} (h : (tz_ref Z s).1 = 0) : (0 ≤ s ∧ s < 4) ∧ (tz_ref Z s).2 = Z := by
  unfold tz_ref at h ⊢
  by_cases hs : 0 ≤ s ∧ s < 4
  · rw [if_pos hs] at h ⊢
    by_cases hf : tz_f Z s.toNat = -1
    · rw [if_pos hf] at h
      exact absurd (show (-11 : Int) = 0 from h) (by decide)
    · rw [if_neg hf]
      exact ⟨hs, rfl⟩
  · rw [if_neg hs] at h
    exact absurd (show (-2 : Int) = 0 from h) (by decide)
theorem tz_itm0 {Z : TZ} {s f i : Int} (h : (tz_itm Z s f i).1 = 0) : (0 ≤ s ∧ s < 4) ∧ (0 ≤ i ∧ i < tz_n Z s.toNat) ∧ (tz_itm Z s f i).2 = Z := by
  unfold tz_itm at h ⊢
  by_cases hs : 0 ≤ s ∧ s < 4
  · by_cases hf : 0 ≤ f ∧ f < 3
    · rw [if_pos hs, if_pos hf] at h ⊢
      by_cases h1 : tz_f Z s.toNat = -1
      · rw [if_pos h1] at h
        exact absurd (show (-11 : Int) = 0 from h) (by decide)
      · rw [if_neg h1] at h ⊢
        by_cases h2 : tz_f Z s.toNat = f
        · rw [if_pos h2] at h ⊢
          by_cases h3 : 0 ≤ i ∧ i < tz_n Z s.toNat
          · rw [if_pos h3]
            exact ⟨hs, h3, rfl⟩
          · rw [if_neg h3] at h
            exact absurd (show (-12 : Int) = 0 from h) (by decide)
        · rw [if_neg h2] at h
          exact absurd (show (-13 : Int) = 0 from h) (by decide)
    · rw [if_pos hs, if_neg hf] at h
      exact absurd (show (-2 : Int) = 0 from h) (by decide)
  · rw [if_neg hs] at h
    exact absurd (show (-2 : Int) = 0 from h) (by decide)
theorem cG.z {A : TA} {Z : TZ} {G G' : SgM} (h : cG A G) (f : ∀ c : Int, (c < 67 ∨ 74 < c) → ∀ i, G' c i = G c i) (z : cZ Z G') : cG (a_Zs A Z) G' :=
  ⟨h.1.fr (fun c x => f c (by omega)), h.2.1.fr (fun c x1 x2 => f c (by omega)), z⟩
theorem c_G_sheet {d N : Nat} (hN : 75 ≤ N) {A : TA} {s f n : Int} {G : SgM} {Q : Int → SgM → Prop} (cg : cG A G) (post : ∀ G', cG (a_sheet A s f n).2 G' → Q (a_sheet A s f n).1 G') : sg_Wp 0 N (d + 2) m_G_sheet 0 [(0, 2, 44), (1, 0, s), (2, 0, f), (3, 0, n)] [] G Q :=
  g_G_sheet_44_0 hN (c_Z_make hN cg.2.2 (fun G' a z => post G' (cg.z a z)))
theorem c_G_lose {d N : Nat} (hN : 75 ≤ N) {A : TA} {s : Int} {G : SgM} {Q : Int → SgM → Prop} (cg : cG A G) (post : ∀ G', cG (a_lose A s).2 G' → Q (a_lose A s).1 G') : sg_Wp 0 N (d + 3) m_G_lose 0 [(0, 2, 44), (1, 0, s)] [] G Q :=
  g_G_lose_44_0 hN (c_Z_drop hN cg.2.2 (fun G' a z => post G' (cg.z a z)))
theorem c_G_copy {d N : Nat} (hN : 75 ≤ N) {A : TA} (ok : TAok A) {s i t j n : Int} {G : SgM} {Q : Int → SgM → Prop} (cg : cG A G) (post : ∀ G', cG (a_copy A s i t j n).2 G' → Q (a_copy A s i t j n).1 G') : sg_Wp 0 N (d + 3) m_G_copy 0 [(0, 2, 44), (1, 0, s), (2, 0, i), (3, 0, t), (4, 0, j), (5, 0, n)] [] G Q :=
  g_G_copy_44_0 hN (c_Z_move hN ok.2.2 cg.2.2 (fun G' a z => post G' (cg.z a z)))
theorem c_G_lay {d N : Nat} (hN : 75 ≤ N) {A : TA} (ok : TAok A) {s f i v : Int} {G : SgM} {Q : Int → SgM → Prop} (cg : cG A G) (post : ∀ G', cG (a_lay A s f i v).2 G' → Q (a_lay A s f i v).1 G') : sg_Wp 0 N (d + 3) m_G_lay 0 [(0, 2, 44), (1, 0, s), (2, 0, f), (3, 0, i), (4, 0, v)] [] G Q := by
  unfold a_lay at post
  refine g_G_lay_44_0 hN (c_Z_itm hN cg.2.2 (fun G1 a z => ⟨fun q => ?_, fun q => ?_⟩))
  · rw [if_pos q] at post
    obtain ⟨hs, hi, e⟩ := tz_itm0 q
    rw [e] at z
    obtain ⟨b, eb⟩ := Int.eq_ofNat_of_zero_le hs.1
    obtain ⟨c, ec⟩ := Int.eq_ofNat_of_zero_le hi.1
    subst eb
    subst ec
    rw [Int.toNat_natCast] at hi
    rw [Int.toNat_natCast, Int.toNat_natCast] at post
    exact c_Z_put hN ok.2.2 (by omega) hi.2 z (fun G2 a2 z2 => post G2 (cg.z (fun c x i => by rw [a2 c x, a c x]) z2))
  · rw [if_neg q] at post
    exact post G1 (cg.z a z)
theorem c_G_get {d N : Nat} (hN : 75 ≤ N) {A : TA} (ok : TAok A) {s f i : Int} {G : SgM} {Q : Int → SgM → Prop} (cg : cG A G) (post : ∀ G', cG (a_get A s f i).2 G' → Q (a_get A s f i).1 G') : sg_Wp 0 N (d + 3) m_G_get 0 [(0, 2, 44), (1, 0, s), (2, 0, f), (3, 0, i)] [] G Q := by
  unfold a_get at post
  refine g_G_get_44_0 hN (c_Z_itm hN cg.2.2 (fun G1 a z => ⟨fun q => ?_, fun q => ?_⟩))
  · rw [if_pos q] at post
    obtain ⟨hs, hi, e⟩ := tz_itm0 q
    rw [e] at z
    obtain ⟨b, eb⟩ := Int.eq_ofNat_of_zero_le hs.1
    obtain ⟨c, ec⟩ := Int.eq_ofNat_of_zero_le hi.1
    subst eb
    subst ec
    rw [Int.toNat_natCast] at hi
    rw [Int.toNat_natCast, Int.toNat_natCast] at post
    exact c_Z_item hN ok.2.2 (by omega) hi.2 z (post G1 (cg.z a z))
  · rw [if_neg q] at post
    exact post G1 (cg.z a z)
theorem c_G_write {d N : Nat} (hN : 75 ≤ N) {A : TA} (ok : TAok A) {p s : Int} {G : SgM} {Q : Int → SgM → Prop} (cg : cG A G) (post : ∀ G', cG (a_write A p s).2 G' → Q (a_write A p s).1 G') : sg_Wp 0 N (d + 3) m_G_write 0 [(0, 2, 44), (1, 0, p), (2, 0, s)] [] G Q := by
  have hn := ok.w.1
  unfold a_write at post
  refine g_G_write_44_0 hN (c_G_isPost hN cg ⟨fun h => ⟨fun _ => ?_, fun z => absurd (by decide) z⟩, fun h => ⟨fun z => absurd rfl z, fun _ => ?_⟩⟩)
  · rw [if_pos h] at post
    refine c_Z_ref hN cg.2.2 (fun G1 a z => ⟨fun q => ?_, fun q => ?_⟩)
    · rw [if_pos q] at post
      obtain ⟨hs, e⟩ := tz_ref0 q
      rw [e] at z
      obtain ⟨b, eb⟩ := Int.eq_ofNat_of_zero_le h.1
      obtain ⟨c, ec⟩ := Int.eq_ofNat_of_zero_le hs.1
      subst eb
      subst ec
      rw [Int.toNat_natCast, Int.toNat_natCast] at post
      have hb : b < tw_n (a_W A) := by omega
      have zz := (ok.2.2 c (by omega)).2
      have em : 0 ≤ sg_mn (tz_n A.2.2 c) 24 ∧ sg_mn (tz_n A.2.2 c) 24 ≤ 24 ∧ sg_mn (tz_n A.2.2 c) 24 ≤ tz_n A.2.2 c := by unfold sg_mn; split <;> omega
      refine c_Z_len hN (by omega) z ?_
      have cg1 : cG A G1 := cg.z a z
      have loop : ∀ (u m : Nat), m + u = (sg_mn (tz_n A.2.2 c) 24).toNat → ∀ G2 : SgM, (∀ c : Int, (c < 67 ∨ 74 < c) → ∀ i, G2 c i = G1 c i) → cZ (tz_wr A.2.2 c (fun h => td_std (a_W A) (a_Y A) b h) m) G2 →
          sg_Wp 0 N (d + 3) m_G_write 44 [(0, 2, 44), (1, 0, (b : Int)), (2, 0, (c : Int)), (4, 0, sg_mn (tz_n A.2.2 c) 24), (5, 0, (m : Int))] [] G2 Q := by
        intro u
        induction u with
        | zero =>
          intro m hm G2 f1 f2
          have e1 : m = (sg_mn (tz_n A.2.2 c) 24).toNat := by omega
          rw [e1] at f2
          exact g_G_write_44_44 hN ⟨fun _ => post G2 (cg1.z f1 f2), fun q => absurd (by omega) q⟩
        | succ u ih =>
          intro m hm G2 f1 f2
          have e8 := sg_rnd8 m b (by omega) (by omega)
          refine g_G_write_44_44 hN ⟨fun q => absurd q (by omega), fun _ => ⟨by rw [e8]; omega, ?_⟩⟩
          rw [e8, f1 29 (by omega), (cg1.r.1 m (by omega)).2.1 b hb]
          refine c_Z_put hN (Z := tz_wr A.2.2 c (fun h => td_std (a_W A) (a_Y A) b h) m) ok.2.2 (by omega) (show (m : Int) < tz_n A.2.2 c by omega) f2 (fun G3 a3 z3 => ?_)
          rw [sg_inc1 m (by omega)]
          have z3 : cZ (tz_put (tz_wr A.2.2 c (fun h => td_std (a_W A) (a_Y A) b h) m) c m ((fun h => td_std (a_W A) (a_Y A) b h) m)) G3 := z3
          rw [tz_wr_s] at z3
          exact ih (m + 1) (by omega) G3 (fun c x i => by rw [a3 c x, f1 c x]) z3
      exact loop (sg_mn (tz_n A.2.2 c) 24).toNat 0 (Nat.zero_add _) G1 (fun _ _ _ => rfl) (by rw [tz_wr_0]; exact z)
    · rw [if_neg q] at post
      exact post G1 (cg.z a z)
  · rw [if_neg h] at post
    exact post G cg
/-- events read from a sheet: how many came, and the events then -/
def a_rd (x : Nat → Int) (n : Int) : Nat → Nat → TE → Nat × TE
  | 0, m, E => (m, E)
  | f + 1, m, E => if 3 * (m : Int) + 2 < n then (if (a_is 3 (x (3 * m)) ∧ a_is 24 (x (3 * m + 1)) ∧ a_is 10 (x (3 * m + 2))) ∧ E.1 < 8 then a_rd x n f (m + 1) (te_add E (x (3 * m)) (x (3 * m + 1)) (x (3 * m + 2))) else (m, E)) else (m, E)
def a_read (A : TA) (s : Int) : Int × TA := if (tz_ref A.2.2 s).1 = 0 then (((a_rd (tz_i A.2.2 s.toNat) (tz_n A.2.2 s.toNat) 20 0 A.1.2.2).1 : Int), a_Ev A (a_rd (tz_i A.2.2 s.toNat) (tz_n A.2.2 s.toNat) 20 0 A.1.2.2).2) else ((tz_ref A.2.2 s).1, a_Zs A (tz_ref A.2.2 s).2)
theorem c_G_read {d N : Nat} (hN : 75 ≤ N) {A : TA} (ok : TAok A) {s : Int} {G : SgM} {Q : Int → SgM → Prop} (cg : cG A G) (post : ∀ G', cG (a_read A s).2 G' → Q (a_read A s).1 G') : sg_Wp 0 N (d + 8) m_G_read 0 [(0, 2, 44), (1, 0, s)] [] G Q := by
  have hN4 : 44 ≤ N := Nat.le_trans (by decide) hN
  obtain ⟨⟨o0, o1, oE⟩, oS, oZ⟩ := ok
  unfold a_read at post
  refine g_G_read_44_0 (d := d + 6) hN (c_Z_ref hN cg.2.2 (fun G1 a z => ⟨fun q => ?_, fun q => ?_⟩))
  · rw [if_pos q] at post
    obtain ⟨hs, e⟩ := tz_ref0 q
    rw [e] at z
    obtain ⟨c, ec⟩ := Int.eq_ofNat_of_zero_le hs.1
    subst ec
    rw [Int.toNat_natCast] at post
    have hc : c < 4 := by omega
    have zz := (oZ c hc).2
    have cg1 : cG A G1 := cg.z a z
    have tell : ∀ (m : Nat) (E : TE) (G2 : SgM), TEok E → (∀ c : Int, (c < 13 ∨ 16 < c) → ∀ i, G2 c i = G1 c i) → cE13 E G2 → (∀ G', cG (a_Ev A E) G' → Q (m : Int) G') → sg_Wp 0 N (d + 7) m_K_tellAnew 0 [(0, 2, 0)] [] G2 (fun _ G3 => Q (m : Int) G3) := by
      intro m E G2 hE f c p
      exact c_K_tellA hN4 (A := A) (A' := a_Ev A E) ⟨o0, o1, hE⟩ rfl cg1 (fun c x => f c (by omega)) ⟨cg1.1.1.1.1.fr (fun c x1 x2 => f c (by omega)), cg1.1.1.1.2.1.fr (fun c x1 x2 => f c (by omega)), c⟩ (fun G' _ k => p G' k)
    have loop : ∀ (f m : Nat), m + f = 20 → ∀ (E : TE) (G2 : SgM), TEok E → (∀ c : Int, (c < 13 ∨ 16 < c) → ∀ i, G2 c i = G1 c i) → cE13 E G2 → (∀ G', cG (a_Ev A (a_rd (tz_i A.2.2 c) (tz_n A.2.2 c) f m E).2) G' → Q ((a_rd (tz_i A.2.2 c) (tz_n A.2.2 c) f m E).1 : Int) G') →
        sg_Wp 0 N (d + 8) m_G_read 20 [(0, 2, 44), (1, 0, (c : Int)), (3, 0, (m : Int)), (4, 0, ((3 * m : Nat) : Int))] [] G2 Q := by
      intro f
      induction f with
      | zero =>
        intro m hm E G2 hE f1 c2 p
        have z2 : cZ A.2.2 G2 := cg1.2.2.fr (fun c x1 x2 => f1 c (by omega))
        refine g_G_read_44_20 (d := d + 6) hN (c_Z_len hN hc z2 ⟨fun _ => tell m E G2 hE f1 c2 p, fun q => absurd ?_ q⟩)
        rw [sg_iadd_eq (by omega) (by omega)]
        omega
      | succ f ih =>
        intro m hm E G2 hE f1 c2 p
        have h8 := hE.1
        have z2 : cZ A.2.2 G2 := cg1.2.2.fr (fun c x1 x2 => f1 c (by omega))
        have i2 : sg_iadd ((3 * m : Nat) : Int) 2 = ((3 * m + 2 : Nat) : Int) := by rw [sg_iadd_eq (by omega) (by omega)]; omega
        have i1 : sg_iadd ((3 * m : Nat) : Int) 1 = ((3 * m + 1 : Nat) : Int) := by rw [sg_iadd_eq (by omega) (by omega)]; omega
        have i3 : sg_iadd ((3 * m : Nat) : Int) 3 = ((3 * (m + 1) : Nat) : Int) := by rw [sg_iadd_eq (by omega) (by omega)]; omega
        unfold a_rd at p
        refine g_G_read_44_20 (d := d + 6) hN (c_Z_len hN hc z2 ⟨fun q => ?_, fun q => ?_⟩)
        · rw [i2] at q
          rw [if_neg (by omega)] at p
          exact tell m E G2 hE f1 c2 p
        · rw [i2] at q
          rw [if_pos (by omega)] at p
          refine c_Z_item hN oZ hc (by omega) z2 ?_
          rw [i1]
          refine c_Z_item hN oZ hc (by omega) z2 ?_
          rw [i2]
          refine c_Z_item hN oZ hc (by omega) z2 ⟨fun v => ?_, fun v => ?_⟩
          · refine c_E_add_13 hN4 hE c2 ⟨fun e8 G3 g c3 => ⟨fun _ => ?_, fun y => absurd (by decide) y⟩, fun e8 => ⟨fun y => absurd rfl y, fun _ => ?_⟩⟩
            · rw [if_pos ⟨v, e8⟩] at p
              rw [i3, sg_inc1 m (by omega)]
              exact ih (m + 1) (by omega) (te_add E (tz_i A.2.2 c (3 * m)) (tz_i A.2.2 c (3 * m + 1)) (tz_i A.2.2 c (3 * m + 2))) G3 (te_add_ok hE e8 v.1 v.2.1 v.2.2) (fun c x i => by rw [g c x, f1 c x]) c3 p
            · rw [if_neg (fun y => by omega)] at p
              exact tell m E G2 hE f1 c2 p
          · rw [if_neg (fun y => v y.1)] at p
            exact tell m E G2 hE f1 c2 p
    exact loop 20 0 (by omega) A.1.2.2 G1 oE (fun _ _ _ => rfl) cg1.1.1.1.2.2 post
  · rw [if_neg q] at post
    exact post G1 (cg.z a z)
