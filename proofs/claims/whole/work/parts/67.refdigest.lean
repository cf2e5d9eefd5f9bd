/-! THE REFERENCE: digest -/
theorem a_stroll_in {A : TA} {p : Nat} (hp : p < tw_k (a_W A)) {w : Int} (hw : 0 ≤ w ∧ w ≤ 1) : a_stroll A (p : Int) w = if w = 0 then (tp_stroll (a_W A) (a_Y A) p).1 else (tp_stroll (a_W A) (a_Y A) p).2 := by
  unfold a_stroll
  rw [if_pos ⟨by omega, by omega⟩, Int.toNat_natCast]
theorem a_was_in {A : TA} {p : Nat} (hp : p < tw_k (a_W A)) {w : Int} (hw : 0 ≤ w ∧ w ≤ 1) : a_was A (p : Int) w = if w = 0 then (th_sorts (a_S A) (a_W A) (a_Y A) p : Int) else (th_colds (a_S A) (a_W A) (a_Y A) p : Int) := by
  unfold a_was
  rw [if_pos ⟨by omega, by omega⟩, Int.toNat_natCast]
theorem c_M_tellsStood {d : Nat} {A : TA} (ok : TAok A) {h p : Nat} (hh : h < 24) (hp : p < tw_n (a_W A)) {x : Int} {G : SgM} {Q : Int → SgM → Prop} (r : cm_R (a_W A) (a_Y A) 24 G)
    (post : Q (dg_f (fun w => a_stood A (h : Int) (p : Int) (w : Int)) x 3) G) : sg_Wp 200 228 (d + 1) m_M_tellsStood 0 [(0, 2, 200), (1, 1, x), (3, 0, (h : Int)), (4, 0, (p : Int))] [] G Q := by
  have loop : ∀ (u m : Nat), m + u = 3 → sg_Wp 200 228 (d + 1) m_M_tellsStood 6 [(0, 2, 200), (3, 0, (h : Int)), (4, 0, (p : Int)), (5, 1, dg_f (fun w => a_stood A (h : Int) (p : Int) (w : Int)) x m), (7, 0, (m : Int))] [] G Q := by
    intro u
    induction u with
    | zero =>
      intro m hm
      have em : m = 3 := by omega
      subst em
      exact g_M_tellsStood_6 ⟨fun _ => post, fun z => absurd (by omega) z⟩
    | succ u ih =>
      intro m hm
      have ih := ih (m + 1) (by omega)
      rw [dg_f_s] at ih
      have e : a_stood A (h : Int) (p : Int) (m : Int) = if (m : Int) = 0 then td_std (a_W A) (a_Y A) p h else if (m : Int) = 1 then td_chb (a_W A) (a_Y A) (h + 1) p else td_who (a_W A) (a_Y A) h p := by
        unfold a_stood
        rw [if_pos ⟨by omega, by omega, by omega⟩, Int.toNat_natCast, Int.toNat_natCast]
      refine g_M_tellsStood_6 ⟨fun z => absurd z (by omega), fun _ => c_M_stoodOf ok.w hh hp (by omega) r ?_⟩
      rw [← e, sg_inc1 m (by omega)]
      exact ih
  exact g_M_tellsStood_0 (loop 3 0 (by omega))
theorem c_M_tellsHour {d : Nat} {A : TA} (ok : TAok A) {h p : Nat} (hh : h < 24) (hp : p < tw_k (a_W A)) {x : Int} {G : SgM} {Q : Int → SgM → Prop} (r : cm_R (a_W A) (a_Y A) 24 G)
    (post : Q (dg_f (fun w => a_at A (h : Int) (p : Int) (w : Int)) x 4) G) : sg_Wp 200 228 (d + 1) m_M_tellsHour 0 [(0, 2, 200), (1, 1, x), (3, 0, (h : Int)), (4, 0, (p : Int))] [] G Q := by
  have loop : ∀ (u m : Nat), m + u = 4 → sg_Wp 200 228 (d + 1) m_M_tellsHour 6 [(0, 2, 200), (3, 0, (h : Int)), (4, 0, (p : Int)), (5, 1, dg_f (fun w => a_at A (h : Int) (p : Int) (w : Int)) x m), (7, 0, (m : Int))] [] G Q := by
    intro u
    induction u with
    | zero =>
      intro m hm
      have em : m = 4 := by omega
      subst em
      exact g_M_tellsHour_6 ⟨fun _ => post, fun z => absurd (by omega) z⟩
    | succ u ih =>
      intro m hm
      have ih := ih (m + 1) (by omega)
      rw [dg_f_s] at ih
      have e : a_at A (h : Int) (p : Int) (m : Int) = if (m : Int) = 0 then td_c (a_W A) h p else if (m : Int) = 1 then td_one (td_sn (a_W A) (a_Y A) h p) else if (m : Int) = 2 then td_oft (a_W A) (a_Y A) p (h + 1) else td_cold (a_W A) (a_Y A) (h + 1) p := by
        unfold a_at
        rw [if_pos ⟨by omega, by omega, by omega⟩, Int.toNat_natCast, Int.toNat_natCast]
      refine g_M_tellsHour_6 ⟨fun z => absurd z (by omega), fun _ => c_M_atBy ok.w hh hp (by omega) r ?_⟩
      rw [← e, sg_inc1 m (by omega)]
      exact ih
  exact g_M_tellsHour_0 (loop 4 0 (by omega))
theorem c_M_livesN {d : Nat} {A : TA} (ok : TAok A) {G : SgM} {Q : Int → SgM → Prop} (cn : cN A G) (post : ∀ G', cm_fe G G' → cm_I (a_W A) (a_Y A) 24 G' → Q 0 G') : sg_Wp 200 228 (d + 4) m_M_lives 0 [(0, 2, 200)] [] G Q :=
  c_M_livesA ok ok.w cn.2 cn.1.2.1 cn.1.2.2.1.1 cn.1.2.2.1.2 (fun G' f i => post G' f.fe i)
theorem c_M_tellsPost {d : Nat} {A : TA} (ok : TAok A) {x : Int} {p : Nat} (hp : p < tw_n (a_W A)) {G : SgM} {Q : Int → SgM → Prop} (cn : cN A G) (post : ∀ G', cm_fe G G' → Q (a_dgPost A x p) G') : sg_Wp 200 228 (d + 6) m_M_tellsPost 0 [(0, 2, 200), (1, 1, x), (3, 0, (p : Int))] [] G Q := by
  have hn := ok.w.1
  have j0 : sg_imul 2 (p : Int) = 2 * (p : Int) := sg_imul_eq (by omega) (by omega)
  have j1 : sg_iadd (2 * (p : Int)) 1 = 2 * (p : Int) + 1 := sg_iadd_eq (by omega) (by omega)
  have p0 : a_post A (p : Int) ((0 : Nat) : Int) = tw_pc (a_W A) p := by
    unfold a_post
    rw [if_pos ⟨by omega, by omega⟩, if_pos (by omega), Int.toNat_natCast]
  have p1 : a_post A (p : Int) ((1 : Nat) : Int) = tw_ph (a_W A) p := by
    unfold a_post
    rw [if_pos ⟨by omega, by omega⟩, if_neg (by omega), Int.toNat_natCast]
  refine g_M_tellsPost_0 (c_M_livesN (d := d + 1) ok cn (fun G1 f1 i1 => ?_))
  have cn1 := cn.fe f1
  have w := cn1.2.1.2 p hp
  rw [j0, j1, w.1, w.2, ← p0, ← p1]
  refine ⟨by omega, by omega, ?_⟩
  refine c_M_tellsStood (d := d + 4) ok (h := 0) (by omega) hp i1.2.2 ?_
  refine c_M_tellsStood (d := d + 4) ok (h := 7) (by omega) hp i1.2.2 ?_
  refine c_M_tellsStood (d := d + 4) ok (h := 15) (by omega) hp i1.2.2 ?_
  refine c_M_tellsStood (d := d + 4) ok (h := 23) (by omega) hp i1.2.2 ?_
  refine c_M_chanceOf (d := d) ok (by omega) hp cn1 (fun G2 f2 => ?_)
  refine c_M_chanceOf (d := d) ok (by omega) hp (cn1.fe f2) (fun G3 f3 => ?_)
  exact post G3 (f1.trans (f2.trans f3))
theorem c_M_tellsPerson {d : Nat} {A : TA} (ok : TAok A) {x : Int} {p : Nat} (hp : p < tw_k (a_W A)) {G : SgM} {Q : Int → SgM → Prop} (cn : cN A G) (post : ∀ G', cm_fe G G' → Q (a_dgPerson A x p) G') : sg_Wp 200 228 (d + 8) m_M_tellsPerson 0 [(0, 2, 200), (1, 1, x), (3, 0, (p : Int))] [] G Q := by
  have hn := ok.w.2.1
  refine g_M_tellsPerson_0 (c_M_livesN (d := d + 3) ok cn (fun G1 f1 i1 => ?_))
  have cn1 := cn.fe f1
  have w := cn1.2.2.2 p hp
  have last : ∀ y : Int, y = dg_f (fun w => a_person A (p : Int) (w : Int)) x 4 → sg_Wp 200 228 (d + 7 + 1) m_M_tellsPerson 10 [(0, 2, 200), (3, 0, (p : Int)), (4, 1, y), (6, 0, ((4 : Nat) : Int))] [] G1 Q := by
    intro y hy
    refine g_M_tellsPerson_10 ⟨fun _ => ?_, fun z => absurd (by omega) z⟩
    refine c_M_tellsHour (d := d + 6) ok (h := 0) (by omega) hp i1.2.2 ?_
    refine c_M_tellsHour (d := d + 6) ok (h := 7) (by omega) hp i1.2.2 ?_
    refine c_M_tellsHour (d := d + 6) ok (h := 15) (by omega) hp i1.2.2 ?_
    refine c_M_tellsHour (d := d + 6) ok (h := 23) (by omega) hp i1.2.2 ?_
    refine c_M_strollOf (d := d + 2) ok hp (by omega) cn1 (fun G2 f2 => ?_)
    refine c_M_strollOf (d := d + 2) ok hp (by omega) (cn1.fe f2) (fun G3 f3 => ?_)
    refine c_M_sortOf (d := d + 1) ok hp ((cn1.fe f2).fe f3) (fun G4 f4 => ?_)
    refine c_M_coldsOf (d := d + 1) ok hp (((cn1.fe f2).fe f3).fe f4) (fun G5 f5 _ => ?_)
    refine c_M_askOf (d := d) ok hp ((((cn1.fe f2).fe f3).fe f4).fe f5) (fun G6 f6 => ?_)
    have q := post G6 (f1.trans (f2.trans (f3.trans (f4.trans (f5.trans f6)))))
    unfold a_dgPerson at q
    rw [a_stroll_in hp (by omega), a_stroll_in hp (by omega), a_was_in hp (by omega), a_was_in hp (by omega), ← hy] at q
    exact q
  have loop : ∀ (u m : Nat), m + u = 4 → sg_Wp 200 228 (d + 7 + 1) m_M_tellsPerson 10 [(0, 2, 200), (3, 0, (p : Int)), (4, 1, dg_f (fun w => a_person A (p : Int) (w : Int)) x m), (6, 0, (m : Int))] [] G1 Q := by
    intro u
    induction u with
    | zero =>
      intro m hm
      have em : m = 4 := by omega
      subst em
      exact last _ rfl
    | succ u ih =>
      intro m hm
      have ih := ih (m + 1) (by omega)
      rw [dg_f_s] at ih
      have j : sg_iadd (sg_imul 4 (p : Int)) (m : Int) = 4 * (p : Int) + (m : Int) := by rw [sg_imul_eq (by omega) (by omega), sg_iadd_eq (by omega) (by omega)]
      refine g_M_tellsPerson_10 ⟨fun z => absurd z (by omega), fun _ => ⟨by rw [j]; omega, ?_⟩⟩
      rw [j, sg_inc1 m (by omega)]
      have e : G1 208 (4 * (p : Int) + (m : Int)) = a_person A (p : Int) (m : Int) := by
        unfold a_person
        rw [if_pos ⟨by omega, by omega⟩, Int.toNat_natCast]
        by_cases h0 : m = 0
        · subst h0
          rw [if_pos (by omega), ← w.1]
          congr 1
        · rw [if_neg (by omega)]
          by_cases h1 : m = 1
          · subst h1
            rw [if_pos (by omega), ← w.2.1]
            congr 1
          · rw [if_neg (by omega)]
            by_cases h2 : m = 2
            · subst h2
              rw [if_pos (by omega), ← w.2.2.1]
              congr 1
            · have h3 : m = 3 := by omega
              subst h3
              rw [if_neg (by omega), ← w.2.2.2]
              congr 1
      rw [e]
      exact ih
  exact loop 4 0 (by omega)
theorem c_M_readsN {d : Nat} {A : TA} (ok : TAok A) {t : Nat} (ht : t < 2) {G : SgM} {Q : Int → SgM → Prop} (cn : cN A G) (post : ∀ G', cN A G' → Q (a_fault A (t : Int)) G') : sg_Wp 200 228 (d + 4) m_M_readsText 0 [(0, 2, 200), (1, 0, (t : Int))] [] G Q := by
  have n0 : tw_n (a_W A) = tt_n sg_pof 3 A.1.1 := rfl
  have k0 : tw_k (a_W A) = tt_n sg_qof 5 A.1.2.1 := rfl
  unfold a_fault at post
  refine g_M_readsText_0 ⟨fun z => ?_, fun z => ?_⟩
  · rw [if_neg z, if_pos (by omega)] at post
    refine c_M_readsPeople ok.1.2.1 cn.1.1.2.1 cn.1.1.2.2.2 (fun G1 b1 b2 b3 b4 => post G1 ⟨cn.1.fs ⟨fun c x i => b1 c (by omega) (by omega) i, fun i x => b2 i (by omega)⟩, ⟨by rw [b2 7 (by omega)]; exact cn.2.pst, fun q hq => by rw [b1 207 (by omega) (by omega), b1 207 (by omega) (by omega)]; exact cn.2.1.2 q hq⟩, b3, fun p hp => ?_⟩)
    rw [k0] at hp
    have x := b4 (5 * p) (by omega) (by omega)
    have y := b4 (5 * p + 1) (by omega) (by omega)
    have z := b4 (5 * p + 2) (by omega) (by omega)
    have w := b4 (5 * p + 3) (by omega) (by omega)
    rw [show 5 * p / 5 = p by omega, show 5 * p % 5 = 0 by omega] at x
    rw [show (5 * p + 1) / 5 = p by omega, show (5 * p + 1) % 5 = 1 by omega] at y
    rw [show (5 * p + 2) / 5 = p by omega, show (5 * p + 2) % 5 = 2 by omega] at z
    rw [show (5 * p + 3) / 5 = p by omega, show (5 * p + 3) % 5 = 3 by omega] at w
    rw [show ((4 * p + 0 : Nat) : Int) = 4 * (p : Int) by omega] at x
    rw [show ((4 * p + 1 : Nat) : Int) = 4 * (p : Int) + 1 by omega] at y
    rw [show ((4 * p + 2 : Nat) : Int) = 4 * (p : Int) + 2 by omega] at z
    rw [show ((4 * p + 3 : Nat) : Int) = 4 * (p : Int) + 3 by omega] at w
    exact ⟨x, y, z, w⟩
  · rw [if_pos (Decidable.not_not.mp z)] at post
    refine c_M_readsPosts ok.1.1 cn.1.1.1 cn.1.1.2.2.1 (fun G1 a1 a2 a3 a4 => post G1 ⟨cn.1.fs ⟨fun c x i => a1 c (by omega) (by omega) i, fun i x => a2 i (by omega)⟩, ⟨a3, fun q hq => ?_⟩, by rw [a2 9 (by omega)]; exact cn.2.pep, fun p hp => by rw [a1 208 (by omega) (by omega), a1 208 (by omega) (by omega), a1 208 (by omega) (by omega), a1 208 (by omega) (by omega)]; exact cn.2.2.2 p hp⟩)
    rw [n0] at hq
    have x := a4 (3 * q) (by omega) (by omega)
    have y := a4 (3 * q + 1) (by omega) (by omega)
    rw [show 3 * q / 3 = q by omega, show 3 * q % 3 = 0 by omega] at x
    rw [show (3 * q + 1) / 3 = q by omega, show (3 * q + 1) % 3 = 1 by omega] at y
    rw [show ((2 * q + 0 : Nat) : Int) = 2 * (q : Int) by omega] at x
    rw [show ((2 * q + 1 : Nat) : Int) = 2 * (q : Int) + 1 by omega] at y
    exact ⟨x, y⟩
theorem dr_L7 {d : Nat} {A : TA} (ok : TAok A) {x : Int} {G : SgM} {Q : Int → SgM → Prop} (cn : cN A G) (ci : cm_I (a_W A) (a_Y A) 24 G) (post : ∀ G', cN A G' → Q (dg (dg (dg (dg (dg (dg (dg (dg (dg (dg (dg (dg_f (fun w => a_longest A (w : Int)) x 3) (td_busy (a_W A) (a_Y A))) (td_quiet (a_W A) (a_Y A) : Int)) (a_dust A 8 0)) (a_dust A 8 1)) (a_hush A 8 0)) (a_hush A 8 1)) (a_spare A (-1))) (a_spare A 0)) (th_never (a_S A) (a_W A) (a_E A) : Int)) (a_decades A 7 6 0)) (a_decades A 7 6 1)) G') :
    sg_Wp 200 228 (d + 9) m_M_digest 148 [(0, 2, 200), (1, 1, x), (3, 0, 0)] [] G Q := by
  have last : ∀ y : Int, y = dg_f (fun w => a_longest A (w : Int)) x 3 → sg_Wp 200 228 (d + 8 + 1) m_M_digest 148 [(0, 2, 200), (1, 1, y), (3, 0, ((3 : Nat) : Int))] [] G Q := by
    intro y hy
    rw [← hy] at post
    refine g_M_digest_148 ⟨fun _ => ?_, fun z => absurd (by omega) z⟩
    refine c_M_busyNow (d := d + 7) ok.w cn.2.pep ci (c_M_quietNow ok.w cn.2.pep ci ?_)
    refine c_M_dustOf (d := d + 3) ok (h := 8) (by omega) (by omega) cn (fun G1 f1 => ?_)
    refine c_M_dustOf (d := d + 3) ok (h := 8) (by omega) (by omega) (cn.fe f1) (fun G2 f2 => ?_)
    have n2 := (cn.fe f1).fe f2
    refine c_M_hushOf (d := d + 3) ok (h := 8) (by omega) (by omega) n2 (fun G3 f3 => ?_)
    refine c_M_hushOf (d := d + 3) ok (h := 8) (by omega) (by omega) (n2.fe f3) (fun G4 f4 => ?_)
    have n4 := (n2.fe f3).fe f4
    refine c_M_spareBy (d := d + 2) ok n4 (fun G5 f5 => ?_)
    refine c_M_spareBy (d := d + 2) ok (n4.fe f5) (fun G6 f6 => ?_)
    have n6 := (n4.fe f5).fe f6
    refine c_M_neverNow (d := d + 2) ok n6 (fun G7 f7 => ?_)
    refine c_M_decadesOf (d := d + 3) (n := 6) ok (by omega) (n6.fe f7) (fun G8 f8 => ?_)
    refine c_M_decadesOf (d := d + 3) (n := 6) ok (by omega) ((n6.fe f7).fe f8) (fun G9 f9 => ?_)
    exact post G9 (((n6.fe f7).fe f8).fe f9)
  have loop : ∀ (u m : Nat), m + u = 3 → sg_Wp 200 228 (d + 8 + 1) m_M_digest 148 [(0, 2, 200), (1, 1, dg_f (fun w => a_longest A (w : Int)) x m), (3, 0, (m : Int))] [] G Q := by
    intro u
    induction u with
    | zero =>
      intro m hm
      have em : m = 3 := by omega
      subst em
      exact last _ rfl
    | succ u ih =>
      intro m hm
      have ih := ih (m + 1) (by omega)
      rw [dg_f_s] at ih
      refine g_M_digest_148 ⟨fun z => absurd z (by omega), fun _ => c_M_longestBy (d := d + 7) ok.w (by omega) cn.2.pst ci.2.2 ?_⟩
      rw [sg_inc1 m (by omega)]
      have e : a_longest A (m : Int) = if (m : Int) = 0 then (td_lg (a_W A) (a_Y A) 24).2.1 else if (m : Int) = 1 then (td_lg (a_W A) (a_Y A) 24).2.2 else (td_lg (a_W A) (a_Y A) 24).1 := by
        unfold a_longest
        by_cases h0 : (m : Int) = 0
        · rw [if_pos h0, if_pos h0]
        · rw [if_neg h0, if_neg h0]
          by_cases h1 : (m : Int) = 1
          · rw [if_pos h1, if_pos h1]
          · rw [if_neg h1, if_neg h1, if_pos (by omega)]
      rw [← e]
      exact ih
  exact loop 3 0 (by omega)
theorem dr_L6 {d : Nat} {A : TA} (ok : TAok A) {x : Int} {G : SgM} {Q : Int → SgM → Prop} (cn : cN A G) (ci : cm_I (a_W A) (a_Y A) 24 G) (post : ∀ G', cN A G' → Q (a_dgRest A (dg_f (fun h => a_changes A (h : Int)) x 24)) G') :
    sg_Wp 200 228 (d + 9) m_M_digest 109 [(0, 2, 200), (1, 1, x), (3, 0, 0)] [] G Q := by
  have last : ∀ y : Int, y = dg_f (fun h => a_changes A (h : Int)) x 24 → sg_Wp 200 228 (d + 8 + 1) m_M_digest 109 [(0, 2, 200), (1, 1, y), (3, 0, ((24 : Nat) : Int))] [] G Q := by
    intro y hy
    rw [← hy] at post
    refine g_M_digest_109 ⟨fun _ => c_M_forgottenNow ok.w cn.2.pst ci.2.2 ?_, fun z => absurd (by omega) z⟩
    exact dr_L7 (d := d) ok cn ci post
  have loop : ∀ (u m : Nat), m + u = 24 → sg_Wp 200 228 (d + 8 + 1) m_M_digest 109 [(0, 2, 200), (1, 1, dg_f (fun h => a_changes A (h : Int)) x m), (3, 0, (m : Int))] [] G Q := by
    intro u
    induction u with
    | zero =>
      intro m hm
      have em : m = 24 := by omega
      subst em
      exact last _ rfl
    | succ u ih =>
      intro m hm
      have ih := ih (m + 1) (by omega)
      rw [dg_f_s] at ih
      have e : a_changes A (m : Int) = (td_chm (a_W A) (a_Y A) m : Int) := by
        unfold a_changes
        rw [if_pos (by omega), Int.toNat_natCast]
      refine g_M_digest_109 ⟨fun z => absurd z (by omega), fun _ => c_M_changesIn ok.w (by omega) cn.2.pst ci.2.2 ?_⟩
      rw [← e, sg_inc1 m (by omega)]
      exact ih
  exact loop 24 0 (by omega)
theorem dr_L5 {d : Nat} {A : TA} (ok : TAok A) {x : Int} {G : SgM} {Q : Int → SgM → Prop} (cn : cN A G) (post : ∀ G', cN A G' → Q (a_dgRest A (dg_f (fun h => a_changes A (h : Int)) (dg_h (a_dgPerson A) x (tw_k (a_W A))) 24)) G') :
    sg_Wp 200 228 (d + 9) m_M_digest 82 [(0, 2, 200), (1, 1, x), (3, 0, 0)] [] G Q := by
  have hk := ok.w.2.1
  have loop : ∀ (u m : Nat), m + u = tw_k (a_W A) → ∀ G1 : SgM, cN A G1 → sg_Wp 200 228 (d + 8 + 1) m_M_digest 82 [(0, 2, 200), (1, 1, dg_h (a_dgPerson A) x m), (3, 0, (m : Int))] [] G1 Q := by
    intro u
    induction u with
    | zero =>
      intro m hm G1 c1
      have em : m = tw_k (a_W A) := by omega
      subst em
      exact g_M_digest_82 ⟨fun _ => c_M_livesN (d := d + 4) ok c1 (fun G2 f2 i2 => dr_L6 (d := d) ok (c1.fe f2) i2 post), fun z => absurd (by rw [c1.2.pep]; omega) z⟩
    | succ u ih =>
      intro m hm G1 c1
      refine g_M_digest_82 ⟨fun z => absurd z (by rw [c1.2.pep]; omega), fun _ => c_M_tellsPerson (d := d) ok (by omega) c1 (fun G2 f2 => ?_)⟩
      have ih := ih (m + 1) (by omega) G2 (c1.fe f2)
      rw [dg_h_s] at ih
      rw [sg_inc1 m (by omega)]
      exact ih
  exact loop (tw_k (a_W A)) 0 (by omega) G cn
theorem dr_L4 {d : Nat} {A : TA} (ok : TAok A) {x : Int} {G : SgM} {Q : Int → SgM → Prop} (cn : cN A G) (post : ∀ G', cN A G' → Q (a_dgRest A (dg_f (fun h => a_changes A (h : Int)) (dg_h (a_dgPerson A) (dg_h (a_dgPost A) x (tw_n (a_W A))) (tw_k (a_W A))) 24)) G') :
    sg_Wp 200 228 (d + 9) m_M_digest 59 [(0, 2, 200), (1, 1, x), (3, 0, 0)] [] G Q := by
  have hk := ok.w.1
  have loop : ∀ (u m : Nat), m + u = tw_n (a_W A) → ∀ G1 : SgM, cN A G1 → sg_Wp 200 228 (d + 8 + 1) m_M_digest 59 [(0, 2, 200), (1, 1, dg_h (a_dgPost A) x m), (3, 0, (m : Int))] [] G1 Q := by
    intro u
    induction u with
    | zero =>
      intro m hm G1 c1
      have em : m = tw_n (a_W A) := by omega
      subst em
      exact g_M_digest_59 ⟨fun _ => dr_L5 (d := d) ok c1 post, fun z => absurd (by rw [c1.2.pst]; omega) z⟩
    | succ u ih =>
      intro m hm G1 c1
      refine g_M_digest_59 ⟨fun z => absurd z (by rw [c1.2.pst]; omega), fun _ => c_M_tellsPost (d := d + 2) ok (by omega) c1 (fun G2 f2 => ?_)⟩
      have ih := ih (m + 1) (by omega) G2 (c1.fe f2)
      rw [dg_h_s] at ih
      rw [sg_inc1 m (by omega)]
      exact ih
  exact loop (tw_n (a_W A)) 0 (by omega) G cn
theorem dr_L3 {d : Nat} {A : TA} (ok : TAok A) {x : Int} {G : SgM} {Q : Int → SgM → Prop} (cn : cN A G) (post : ∀ G', cN A G' → Q (a_dgRest A (dg_f (fun h => a_changes A (h : Int)) (dg_h (a_dgPerson A) (dg_h (a_dgPost A) (dg_f (fun t => a_fault A (t : Int)) x 2) (tw_n (a_W A))) (tw_k (a_W A))) 24)) G') :
    sg_Wp 200 228 (d + 9) m_M_digest 33 [(0, 2, 200), (1, 1, x), (3, 0, 0)] [] G Q := by
  have loop : ∀ (u m : Nat), m + u = 2 → ∀ G1 : SgM, cN A G1 → sg_Wp 200 228 (d + 8 + 1) m_M_digest 33 [(0, 2, 200), (1, 1, dg_f (fun t => a_fault A (t : Int)) x m), (3, 0, (m : Int))] [] G1 Q := by
    intro u
    induction u with
    | zero =>
      intro m hm G1 c1
      have em : m = 2 := by omega
      subst em
      exact g_M_digest_33 ⟨fun _ => dr_L4 (d := d) ok c1 post, fun z => absurd (by omega) z⟩
    | succ u ih =>
      intro m hm G1 c1
      refine g_M_digest_33 ⟨fun z => absurd z (by omega), fun _ => c_M_readsN (d := d + 4) ok (by omega) c1 (fun G2 c2 => ?_)⟩
      have ih := ih (m + 1) (by omega) G2 c2
      rw [dg_f_s] at ih
      rw [sg_inc1 m (by omega)]
      exact ih
  exact loop 2 0 (by omega) G cn
theorem dr_L2 {d : Nat} {A : TA} (ok : TAok A) {x : Int} {G : SgM} {Q : Int → SgM → Prop} (cm : cM A G) (post : ∀ G', cN A G' → Q (a_dgRest A (dg_f (fun h => a_changes A (h : Int)) (dg_h (a_dgPerson A) (dg_h (a_dgPost A) (dg_f (fun t => a_fault A (t : Int)) (dg_f (fun w => a_count A (w : Int)) x 8) 2) (tw_n (a_W A))) (tw_k (a_W A))) 24)) G') :
    sg_Wp 200 228 (d + 9) m_M_digest 6 [(0, 2, 200), (1, 1, x), (3, 0, 0)] [] G Q := by
  have loop : ∀ (u m : Nat), m + u = 8 → ∀ G1 : SgM, cM A G1 → (0 < m → cN A G1) → sg_Wp 200 228 (d + 8 + 1) m_M_digest 6 [(0, 2, 200), (1, 1, dg_f (fun w => a_count A (w : Int)) x m), (3, 0, (m : Int))] [] G1 Q := by
    intro u
    induction u with
    | zero =>
      intro m hm G1 _ c1
      have em : m = 8 := by omega
      subst em
      exact g_M_digest_6 ⟨fun _ => dr_L3 (d := d) ok (c1 (by omega)) post, fun z => absurd (by omega) z⟩
    | succ u ih =>
      intro m hm G1 c1 _
      refine g_M_digest_6 ⟨fun z => absurd z (by omega), fun _ => c_M_countN (d := d + 2) ok c1 (fun G2 c2 _ => ?_)⟩
      have ih := ih (m + 1) (by omega) G2 c2.1 (fun _ => c2)
      rw [dg_f_s] at ih
      rw [sg_inc1 m (by omega)]
      exact ih
  exact loop 8 0 (by omega) G cm (fun z => absurd z (Nat.lt_irrefl 0))
theorem c_M_digest {d : Nat} {A : TA} (ok : TAok A) {G : SgM} {Q : Int → SgM → Prop} (cm : cM A G) (post : ∀ G', cM A G' → Q (a_digest A) G') : sg_Wp 200 228 (d + 9) m_M_digest 0 [(0, 2, 200)] [] G Q :=
  g_M_digest_0 (dr_L2 (d := d) ok cm (fun G' h => post G' h.1))
