/-! THE REFERENCE: what is asked of the day -/
theorem cm_W.pep {W : TW} {G : SgM} (h : cm_W W G) : G 200 9 = (tw_k W : Int) := h.2.1
theorem cm_W.pst {W : TW} {G : SgM} (h : cm_W W G) : G 200 7 = (tw_n W : Int) := h.1.1
theorem c_M_isPost {d : Nat} {n : Nat} (hn : n ≤ 8) {p : Int} {G : SgM} {Q : Int → SgM → Prop} (p0 : G 200 7 = (n : Int)) (post : (a_is n p → Q 1 G) ∧ (¬ a_is n p → Q 0 G)) : sg_Wp 200 228 (d + 1) m_M_isPost 0 [(0, 2, 200), (1, 0, p)] [] G Q := by
  refine g_M_isPost_0 ?_
  rw [p0, sg_isub_eq (by omega) (by omega)]
  by_cases h : a_is n p
  · rw [sg_bo_t (by omega)]
    exact post.1 h
  · rw [sg_bo_f (by omega)]
    exact post.2 h
theorem c_M_isPerson {d : Nat} {n : Nat} (hn : n ≤ 8) {p : Int} {G : SgM} {Q : Int → SgM → Prop} (p0 : G 200 9 = (n : Int)) (post : (a_is n p → Q 1 G) ∧ (¬ a_is n p → Q 0 G)) : sg_Wp 200 228 (d + 1) m_M_isPerson 0 [(0, 2, 200), (1, 0, p)] [] G Q := by
  refine g_M_isPerson_0 ?_
  rw [p0, sg_isub_eq (by omega) (by omega)]
  by_cases h : a_is n p
  · rw [sg_bo_t (by omega)]
    exact post.1 h
  · rw [sg_bo_f (by omega)]
    exact post.2 h
theorem c_M_posts {d : Nat} {A : TA} (ok : TAok A) {G : SgM} {Q : Int → SgM → Prop} (cm : cM A G) (post : ∀ r G', cM A G' → cm_P (tw_n (a_W A)) (tw_pc (a_W A)) (tw_ph (a_W A)) G' → Q r G') : sg_Wp 200 228 (d + 3) m_M_readsPosts 0 [(0, 2, 200)] [] G Q := by
  have n0 : tw_n (a_W A) = tt_n sg_pof 3 A.1.1 := rfl
  refine c_M_readsPosts ok.1.1 cm.1.1 cm.1.2.2.1 (fun G1 a1 a2 a3 a4 => post _ G1 (cm.fs ⟨fun c x i => a1 c (by omega) (by omega) i, fun i x => a2 i (by omega)⟩) ⟨a3, fun q hq => ?_⟩)
  rw [n0] at hq
  have x := a4 (3 * q) (by omega) (by omega)
  have y := a4 (3 * q + 1) (by omega) (by omega)
  rw [show 3 * q / 3 = q by omega, show 3 * q % 3 = 0 by omega] at x
  rw [show (3 * q + 1) / 3 = q by omega, show (3 * q + 1) % 3 = 1 by omega] at y
  rw [show ((2 * q + 0 : Nat) : Int) = 2 * (q : Int) by omega] at x
  rw [show ((2 * q + 1 : Nat) : Int) = 2 * (q : Int) + 1 by omega] at y
  exact ⟨x, y⟩
theorem c_M_people {d : Nat} {A : TA} (ok : TAok A) {G : SgM} {Q : Int → SgM → Prop} (cm : cM A G) (post : ∀ r G', cM A G' → cm_Q (tw_k (a_W A)) (tw_so (a_W A)) (tw_ce (a_W A)) (tw_wy (a_W A)) (tw_co (a_W A)) G' → Q r G') : sg_Wp 200 228 (d + 3) m_M_readsPeople 0 [(0, 2, 200)] [] G Q := by
  have k0 : tw_k (a_W A) = tt_n sg_qof 5 A.1.2.1 := rfl
  refine c_M_readsPeople ok.1.2.1 cm.1.2.1 cm.1.2.2.2 (fun G1 b1 b2 b3 b4 => post _ G1 (cm.fs ⟨fun c x i => b1 c (by omega) (by omega) i, fun i x => b2 i (by omega)⟩) ⟨b3, fun p hp => ?_⟩)
  rw [k0] at hp
  have x := b4 (5 * p) (by omega) (by omega)
  have y := b4 (5 * p + 1) (by omega) (by omega)
  have z := b4 (5 * p + 2) (by omega) (by omega)
  have w := b4 (5 * p + 3) (by omega) (by omega)
  rw [show 5 * p / 5 = p by omega, show 5 * p % 5 = 0 by omega] at x
  rw [show (5 * p + 1) / 5 = p by omega, show (5 * p + 1) % 5 = 1 by omega] at y
  rw [show (5 * p + 2) / 5 = p by omega, show (5 * p + 2) % 5 = 2 by omega] at z
  rw [show (5 * p + 3) / 5 = p by omega, show (5 * p + 3) % 5 = 3 by omega] at w
  rw [show ((4 * p + 0 : Nat) : Int) = 4 * (p : Int) by omega] at x
  rw [show ((4 * p + 1 : Nat) : Int) = 4 * (p : Int) + 1 by omega] at y
  rw [show ((4 * p + 2 : Nat) : Int) = 4 * (p : Int) + 2 by omega] at z
  rw [show ((4 * p + 3 : Nat) : Int) = 4 * (p : Int) + 3 by omega] at w
  exact ⟨x, y, z, w⟩
theorem c_M_post {d : Nat} {A : TA} (ok : TAok A) {p w : Int} {G : SgM} {Q : Int → SgM → Prop} (cm : cM A G) (post : ∀ G', cM A G' → Q (a_post A p w) G') : sg_Wp 200 228 (d + 8) m_M_post 0 [(0, 2, 200), (1, 0, p), (2, 0, w)] [] G Q := by
  have hn := ok.w.1
  unfold a_post at post
  refine g_M_post_0 (d := d + 6) (c_M_posts (d := d + 4) ok cm (fun r G1 c1 c2 => c_M_isPost (d := d + 6) hn c2.1 ⟨fun x => ⟨fun z => by omega, fun _ => ⟨fun y => ?_, fun y => ?_⟩⟩, fun x => ⟨fun _ => ?_, fun z => absurd rfl z⟩⟩))
  · rw [if_pos ⟨x, by omega⟩] at post
    have e : ((p.toNat : Nat) : Int) = p := by omega
    have g := c2.2 p.toNat (by omega)
    rw [e] at g
    have j : sg_iadd (sg_imul 2 p) w = 2 * p + w := by rw [sg_imul_eq (by omega) (by omega), sg_iadd_eq (by omega) (by omega)]
    rw [j]
    refine ⟨by omega, ?_⟩
    by_cases hw : w = 0
    · rw [if_pos hw] at post
      rw [hw, Int.add_zero, g.1]
      exact post G1 c1
    · rw [if_neg hw] at post
      rw [show w = 1 by omega, g.2]
      exact post G1 c1
  · rw [if_neg (by omega)] at post
    exact post G1 c1
  · rw [if_neg (fun z => x z.1)] at post
    exact post G1 c1
theorem c_M_person {d : Nat} {A : TA} (ok : TAok A) {p w : Int} {G : SgM} {Q : Int → SgM → Prop} (cm : cM A G) (post : ∀ G', cM A G' → Q (a_person A p w) G') : sg_Wp 200 228 (d + 8) m_M_person 0 [(0, 2, 200), (1, 0, p), (2, 0, w)] [] G Q := by
  have hn := ok.w.2.1
  unfold a_person at post
  refine g_M_person_0 (d := d + 7) (c_M_people (d := d + 4) ok cm (fun r G1 c1 c2 => c_M_isPerson (d := d + 6) (by omega) c2.1 ⟨fun x => ⟨fun z => by omega, fun _ => ⟨fun y => ?_, fun y => ?_⟩⟩, fun x => ⟨fun _ => ?_, fun z => absurd rfl z⟩⟩))
  · rw [if_pos ⟨x, by omega⟩] at post
    have e : ((p.toNat : Nat) : Int) = p := by omega
    have g := c2.2 p.toNat (by omega)
    rw [e] at g
    have j : sg_iadd (sg_imul 4 p) w = 4 * p + w := by rw [sg_imul_eq (by omega) (by omega), sg_iadd_eq (by omega) (by omega)]
    rw [j]
    refine ⟨by omega, ?_⟩
    by_cases hw : w = 0
    · rw [if_pos hw] at post
      rw [hw, Int.add_zero, g.1]
      exact post G1 c1
    · rw [if_neg hw] at post
      by_cases hw1 : w = 1
      · rw [if_pos hw1] at post
        rw [hw1, g.2.1]
        exact post G1 c1
      · rw [if_neg hw1] at post
        by_cases hw2 : w = 2
        · rw [if_pos hw2] at post
          rw [hw2, g.2.2.1]
          exact post G1 c1
        · rw [if_neg hw2] at post
          rw [show w = 3 by omega, g.2.2.2]
          exact post G1 c1
  · rw [if_neg (by omega)] at post
    exact post G1 c1
  · rw [if_neg (fun z => x z.1)] at post
    exact post G1 c1
theorem c_M_atBy {d : Nat} {W : TW} {Y : TY} (hW : TWok W) {h p : Nat} (hh : h < 24) (hp : p < tw_k W) {w : Int} (hw : 0 ≤ w ∧ w ≤ 3) {G : SgM} {Q : Int → SgM → Prop} (r : cm_R W Y 24 G)
    (post : Q (if w = 0 then td_c W h p else if w = 1 then td_one (td_sn W Y h p) else if w = 2 then td_oft W Y p (h + 1) else td_cold W Y (h + 1) p) G) : sg_Wp 200 228 d m_M_atBy 0 [(0, 2, 200), (1, 0, (h : Int)), (2, 0, (p : Int)), (3, 0, w)] [] G Q := by
  have hk := hW.2.1
  have g := (r h hh).1 p hp
  have j : sg_iadd (sg_imul 8 (h : Int)) (p : Int) = 8 * (h : Int) + (p : Int) := by rw [sg_imul_eq (by omega) (by omega), sg_iadd_eq (by omega) (by omega)]
  refine g_M_atBy_0 ⟨fun h0 => ⟨fun h1 => ⟨fun h2 => ?_, fun h2 => ?_⟩, fun h1 => ?_⟩, fun h0 => ?_⟩
  · rw [if_neg h0, if_neg h1, if_neg h2] at post
    rw [j, g.2.2.2]
    exact ⟨by omega, post⟩
  · rw [if_neg h0, if_neg h1, if_pos (Decidable.not_not.mp h2)] at post
    rw [j, g.2.2.1]
    exact ⟨by omega, post⟩
  · rw [if_neg h0, if_pos (Decidable.not_not.mp h1)] at post
    rw [j, g.2.1]
    exact ⟨by omega, post⟩
  · rw [if_pos (Decidable.not_not.mp h0)] at post
    rw [j, g.1]
    exact ⟨by omega, post⟩
theorem c_M_stoodOf {d : Nat} {W : TW} {Y : TY} (hW : TWok W) {h p : Nat} (hh : h < 24) (hp : p < tw_n W) {w : Int} (hw : 0 ≤ w ∧ w ≤ 2) {G : SgM} {Q : Int → SgM → Prop} (r : cm_R W Y 24 G)
    (post : Q (if w = 0 then td_std W Y p h else if w = 1 then td_chb W Y (h + 1) p else td_who W Y h p) G) : sg_Wp 200 228 d m_M_stoodOf 0 [(0, 2, 200), (1, 0, (h : Int)), (2, 0, (p : Int)), (3, 0, w)] [] G Q := by
  have hk := hW.1
  have g := (r h hh).2 p hp
  have j : sg_iadd (sg_imul 8 (h : Int)) (p : Int) = 8 * (h : Int) + (p : Int) := by rw [sg_imul_eq (by omega) (by omega), sg_iadd_eq (by omega) (by omega)]
  refine g_M_stoodOf_0 ⟨fun h0 => ⟨fun h1 => ?_, fun h1 => ?_⟩, fun h0 => ?_⟩
  · rw [if_neg h0, if_neg h1] at post
    rw [j, g.2.2]
    exact ⟨by omega, post⟩
  · rw [if_neg h0, if_pos (Decidable.not_not.mp h1)] at post
    rw [j, g.2.1]
    exact ⟨by omega, post⟩
  · rw [if_pos (Decidable.not_not.mp h0)] at post
    rw [j, g.1]
    exact ⟨by omega, post⟩
theorem c_M_at {d : Nat} {A : TA} (ok : TAok A) {t p w : Int} {G : SgM} {Q : Int → SgM → Prop} (cm : cM A G) (post : ∀ G', cM A G' → Q (a_at A t p w) G') : sg_Wp 200 228 (d + 8) m_M_at 0 [(0, 2, 200), (1, 0, t), (2, 0, p), (3, 0, w)] [] G Q := by
  have hn := ok.w.2.1
  unfold a_at at post
  refine g_M_at_0 (d := d + 6) (c_M_find_A (d := d + 2) ok cm (fun G1 c1 cw ci => ⟨fun ht => c_M_isPerson (d := d + 6) (by omega) cw.pep ⟨fun x => ⟨fun z => by omega, fun _ => ⟨fun y => ?_, fun y => ?_⟩⟩, fun x => ⟨fun _ => ?_, fun z => absurd rfl z⟩⟩, fun ht => ?_⟩))
  · rw [if_pos ⟨by omega, x, by omega⟩] at post
    have e : ((p.toNat : Nat) : Int) = p := by omega
    have et : ((t.toNat : Nat) : Int) = t := by omega
    have r := c_M_atBy (d := d + 7) (Q := Q) ok.w (h := t.toNat) (by omega) (p := p.toNat) (by omega) y ci.2.2 (post G1 c1)
    rw [e, et] at r
    exact r
  · rw [if_neg (by omega)] at post
    exact post G1 c1
  · rw [if_neg (fun z => x z.2.1)] at post
    exact post G1 c1
  · rw [if_neg (by omega)] at post
    exact post G1 c1
theorem c_M_stood {d : Nat} {A : TA} (ok : TAok A) {t p w : Int} {G : SgM} {Q : Int → SgM → Prop} (cm : cM A G) (post : ∀ G', cM A G' → Q (a_stood A t p w) G') : sg_Wp 200 228 (d + 8) m_M_stood 0 [(0, 2, 200), (1, 0, t), (2, 0, p), (3, 0, w)] [] G Q := by
  have hn := ok.w.1
  unfold a_stood at post
  refine g_M_stood_0 (d := d + 6) (c_M_find_A (d := d + 2) ok cm (fun G1 c1 cw ci => ⟨fun ht => c_M_isPost (d := d + 6) (by omega) cw.pst ⟨fun x => ⟨fun z => by omega, fun _ => ⟨fun y => ?_, fun y => ?_⟩⟩, fun x => ⟨fun _ => ?_, fun z => absurd rfl z⟩⟩, fun ht => ?_⟩))
  · rw [if_pos ⟨by omega, x, by omega⟩] at post
    have e : ((p.toNat : Nat) : Int) = p := by omega
    have et : ((t.toNat : Nat) : Int) = t := by omega
    have r := c_M_stoodOf (d := d + 7) (Q := Q) ok.w (h := t.toNat) (by omega) (p := p.toNat) (by omega) y ci.2.2 (post G1 c1)
    rw [e, et] at r
    exact r
  · rw [if_neg (by omega)] at post
    exact post G1 c1
  · rw [if_neg (fun z => x z.2.1)] at post
    exact post G1 c1
  · rw [if_neg (by omega)] at post
    exact post G1 c1
theorem c_M_changes {d : Nat} {A : TA} (ok : TAok A) {t : Int} {G : SgM} {Q : Int → SgM → Prop} (cm : cM A G) (post : ∀ G', cM A G' → Q (a_changes A t) G') : sg_Wp 200 228 (d + 8) m_M_changes 0 [(0, 2, 200), (1, 0, t)] [] G Q := by
  unfold a_changes at post
  refine g_M_changes_0 (d := d + 6) (c_M_find_A (d := d + 2) ok cm (fun G1 c1 cw ci => ⟨fun ht => ?_, fun ht => ?_⟩))
  · rw [if_pos (by omega)] at post
    have et : ((t.toNat : Nat) : Int) = t := by omega
    have r := c_M_changesIn (d := d + 7) (Q := Q) ok.w (h := t.toNat) (by omega) cw.pst ci.2.2 (post G1 c1)
    rw [et] at r
    exact r
  · rw [if_neg (by omega)] at post
    exact post G1 c1
theorem c_M_longest {d : Nat} {A : TA} (ok : TAok A) {w : Int} {G : SgM} {Q : Int → SgM → Prop} (cm : cM A G) (post : ∀ G', cM A G' → Q (a_longest A w) G') : sg_Wp 200 228 (d + 8) m_M_longest 0 [(0, 2, 200), (1, 0, w)] [] G Q := by
  unfold a_longest at post
  refine g_M_longest_0 (d := d + 7) (c_M_find_A (d := d + 2) ok cm (fun G1 c1 cw ci => ⟨fun ht => c_M_longestBy (d := d + 6) ok.w ht cw.pst ci.2.2 ?_, fun ht => ?_⟩))
  · have p := post G1 c1
    by_cases h0 : w = 0
    · rw [if_pos h0] at p ⊢
      exact p
    · rw [if_neg h0] at p ⊢
      by_cases h1 : w = 1
      · rw [if_pos h1] at p ⊢
        exact p
      · rw [if_neg h1] at p ⊢
        rw [if_pos (by omega)] at p
        exact p
  · rw [if_neg (by omega), if_neg (by omega), if_neg (by omega)] at post
    exact post G1 c1
theorem c_M_all {d : Nat} {A : TA} (ok : TAok A) {G : SgM} {Q : Int → SgM → Prop} (cm : cM A G) (post : ∀ G', cM A G' → Q (td_all (a_W A) (a_Y A) 24) G') : sg_Wp 200 228 (d + 8) m_M_all 0 [(0, 2, 200)] [] G Q :=
  g_M_all_0 (d := d + 7) (c_M_find_A (d := d + 2) ok cm (fun G1 c1 cw ci => c_M_allNow ok.w cw.pst ci (post G1 c1)))
theorem c_M_busy {d : Nat} {A : TA} (ok : TAok A) {G : SgM} {Q : Int → SgM → Prop} (cm : cM A G) (post : ∀ G', cM A G' → Q (td_busy (a_W A) (a_Y A)) G') : sg_Wp 200 228 (d + 8) m_M_busy 0 [(0, 2, 200)] [] G Q :=
  g_M_busy_0 (d := d + 7) (c_M_find_A (d := d + 2) ok cm (fun G1 c1 cw ci => c_M_busyNow (d := d + 6) ok.w cw.pep ci (post G1 c1)))
theorem c_M_quiet {d : Nat} {A : TA} (ok : TAok A) {G : SgM} {Q : Int → SgM → Prop} (cm : cM A G) (post : ∀ G', cM A G' → Q (td_quiet (a_W A) (a_Y A) : Int) G') : sg_Wp 200 228 (d + 8) m_M_quiet 0 [(0, 2, 200)] [] G Q :=
  g_M_quiet_0 (d := d + 7) (c_M_find_A (d := d + 2) ok cm (fun G1 c1 cw ci => c_M_quietNow ok.w cw.pep ci (post G1 c1)))
theorem c_M_forgotten {d : Nat} {A : TA} (ok : TAok A) {G : SgM} {Q : Int → SgM → Prop} (cm : cM A G) (post : ∀ G', cM A G' → Q (td_fgm (a_W A) (a_Y A) 24 : Int) G') : sg_Wp 200 228 (d + 8) m_M_forgotten 0 [(0, 2, 200)] [] G Q :=
  g_M_forgotten_0 (d := d + 7) (c_M_find_A (d := d + 2) ok cm (fun G1 c1 cw ci => c_M_forgottenNow ok.w cw.pst ci.2.2 (post G1 c1)))
