/-! THE FACE: the state, and what is asked of it -/
abbrev TA : Type := (TT × TT × TE) × TS × TZ
def a_W (A : TA) : TW := tw_of A.1.1 A.1.2.1
def a_E (A : TA) : TE := A.1.2.2
def a_Y (A : TA) : TY := ty_of (a_E A) (te_all (a_E A))
def a_S (A : TA) : TS := A.2.1
def a_Z (A : TA) : TZ := A.2.2
def TAok (A : TA) : Prop := cKok A.1.1 A.1.2.1 A.1.2.2 ∧ TSok A.2.1 ∧ TZok A.2.2
def cG (A : TA) (G : SgM) : Prop := cK A.1.1 A.1.2.1 A.1.2.2 G ∧ cSe A.2.1 G ∧ cZ A.2.2 G
theorem TAok.w {A : TA} (ok : TAok A) : TWok (a_W A) := tw_of_ok ok.1.1 ok.1.2.1
theorem cG.fr {A : TA} {G G' : SgM} (h : cG A G) (f : ∀ c : Int, (1 ≤ c ∧ c ≤ 31) ∨ c = 43 ∨ (46 ≤ c ∧ c ≤ 49) ∨ (67 ≤ c ∧ c ≤ 74) → ∀ i, G' c i = G c i) : cG A G' :=
  ⟨h.1.fr (fun c x => f c (by omega)), h.2.1.fr (fun c x1 x2 => f c (by omega)), h.2.2.fr (fun c x1 x2 => f c (by omega))⟩
theorem cG.k {A : TA} {G G' : SgM} (h : cG A G) (k : cK A.1.1 A.1.2.1 A.1.2.2 G') (f : ∀ c : Int, (46 ≤ c ∧ c ≤ 49) ∨ (67 ≤ c ∧ c ≤ 74) → ∀ i, G' c i = G c i) : cG A G' :=
  ⟨k, h.2.1.fr (fun c x1 x2 => f c (by omega)), h.2.2.fr (fun c x1 x2 => f c (by omega))⟩
theorem cG.w {A : TA} {G : SgM} (h : cG A G) : cw_W (a_W A) G := h.1.1.2.1
theorem cG.h {A : TA} {G : SgM} (h : cG A G) : cw_H (a_W A) G := h.1.1.2.2.1
theorem cG.y {A : TA} {G : SgM} (h : cG A G) : cw_Y (a_Y A) G := h.1.1.2.2.2
theorem cG.r {A : TA} {G : SgM} (h : cG A G) : cd_R21 (a_W A) (a_Y A) 24 G := h.1.2.1
abbrev a_is (n : Nat) (p : Int) : Prop := 0 ≤ p ∧ p < (n : Int)
theorem c_G_isPost {d N : Nat} (hN : 75 ≤ N) {A : TA} {p : Int} {G : SgM} {Q : Int → SgM → Prop} (cg : cG A G) (post : (a_is (tw_n (a_W A)) p → Q 1 G) ∧ (¬ a_is (tw_n (a_W A)) p → Q 0 G)) : sg_Wp 0 N (d + 1) m_G_isPost 0 [(0, 2, 44), (1, 0, p)] [] G Q := by
  refine g_G_isPost_44_0 hN ?_
  rw [cg.w.1]
  by_cases h : 0 ≤ p ∧ p < (tw_n (a_W A) : Int)
  · rw [show sg_bo (0 ≤ p ∧ p < (tw_n (a_W A) : Int)) = 1 from if_pos h]; exact post.1 h
  · rw [show sg_bo (0 ≤ p ∧ p < (tw_n (a_W A) : Int)) = 0 from if_neg h]; exact post.2 h
theorem c_G_isPerson {d N : Nat} (hN : 75 ≤ N) {A : TA} {p : Int} {G : SgM} {Q : Int → SgM → Prop} (cg : cG A G) (post : (a_is (tw_k (a_W A)) p → Q 1 G) ∧ (¬ a_is (tw_k (a_W A)) p → Q 0 G)) : sg_Wp 0 N (d + 1) m_G_isPerson 0 [(0, 2, 44), (1, 0, p)] [] G Q := by
  refine g_G_isPerson_44_0 hN ?_
  rw [cg.w.2.1]
  by_cases h : 0 ≤ p ∧ p < (tw_k (a_W A) : Int)
  · rw [show sg_bo (0 ≤ p ∧ p < (tw_k (a_W A) : Int)) = 1 from if_pos h]; exact post.1 h
  · rw [show sg_bo (0 ≤ p ∧ p < (tw_k (a_W A) : Int)) = 0 from if_neg h]; exact post.2 h
def a_post (A : TA) (p w : Int) : Int := if a_is (tw_n (a_W A)) p ∧ a_is 2 w then (if w = 0 then tw_pc (a_W A) p.toNat else tw_ph (a_W A) p.toNat) else -2
def a_person (A : TA) (k w : Int) : Int := if a_is (tw_k (a_W A)) k ∧ a_is 4 w then (if w = 0 then tw_so (a_W A) k.toNat else if w = 1 then tw_ce (a_W A) k.toNat else if w = 2 then tw_wy (a_W A) k.toNat else tw_co (a_W A) k.toNat) else -2
def a_at (A : TA) (h k w : Int) : Int := if a_is 24 h ∧ a_is (tw_k (a_W A)) k ∧ a_is 4 w then (if w = 0 then td_c (a_W A) h.toNat k.toNat else if w = 1 then td_one (td_sn (a_W A) (a_Y A) h.toNat k.toNat) else if w = 2 then td_oft (a_W A) (a_Y A) k.toNat (h.toNat + 1) else td_cold (a_W A) (a_Y A) (h.toNat + 1) k.toNat) else -2
def a_stood (A : TA) (h p w : Int) : Int := if a_is 24 h ∧ a_is (tw_n (a_W A)) p ∧ a_is 3 w then (if w = 0 then td_std (a_W A) (a_Y A) p.toNat h.toNat else if w = 1 then td_chb (a_W A) (a_Y A) (h.toNat + 1) p.toNat else td_who (a_W A) (a_Y A) h.toNat p.toNat) else -2
def a_changes (A : TA) (h : Int) : Int := if a_is 24 h then (td_chm (a_W A) (a_Y A) h.toNat : Int) else -2
def a_longest (A : TA) (w : Int) : Int := if w = 0 then (td_lg (a_W A) (a_Y A) 24).2.1 else if w = 1 then (td_lg (a_W A) (a_Y A) 24).2.2 else if w = 2 then (td_lg (a_W A) (a_Y A) 24).1 else -2
theorem c_G_post {d N : Nat} (hN : 75 ≤ N) {A : TA} (ok : TAok A) {p w : Int} {G : SgM} {Q : Int → SgM → Prop} (cg : cG A G) (post : Q (a_post A p w) G) : sg_Wp 0 N (d + 2) m_G_post 0 [(0, 2, 44), (1, 0, p), (2, 0, w)] [] G Q := by
  have hn := ok.w.1
  unfold a_post at post
  refine g_G_post_44_0 hN (c_G_isPost hN cg ⟨fun h => ⟨fun z => absurd z (by decide), fun _ => ⟨fun hw => ?_, fun hw => ?_⟩⟩, fun h => ⟨fun _ => ?_, fun z => absurd rfl z⟩⟩)
  · rw [if_pos ⟨h, hw⟩] at post
    obtain ⟨a, ea⟩ := Int.eq_ofNat_of_zero_le h.1
    subst ea
    rw [Int.toNat_natCast] at post
    have x := cg.w.2.2.1 a (by omega)
    refine ⟨fun z => ⟨by omega, ?_⟩, fun z => ⟨by omega, ?_⟩⟩
    · rw [if_neg z] at post
      rw [x.2]
      exact post
    · rw [if_pos (Decidable.not_not.mp z)] at post
      rw [x.1]
      exact post
  · rw [if_neg (fun z => hw z.2)] at post
    exact post
  · rw [if_neg (fun z => h z.1)] at post
    exact post
theorem c_G_person {d N : Nat} (hN : 75 ≤ N) {A : TA} (ok : TAok A) {p w : Int} {G : SgM} {Q : Int → SgM → Prop} (cg : cG A G) (post : Q (a_person A p w) G) : sg_Wp 0 N (d + 2) m_G_person 0 [(0, 2, 44), (1, 0, p), (2, 0, w)] [] G Q := by
  have hk := ok.w.2.1
  unfold a_person at post
  refine g_G_person_44_0 hN (c_G_isPerson hN cg ⟨fun h => ⟨fun _ => ?_, fun z => absurd (by decide) z⟩, fun h => ⟨fun z => absurd rfl z, fun _ => ?_⟩⟩)
  · obtain ⟨a, ea⟩ := Int.eq_ofNat_of_zero_le h.1
    subst ea
    rw [Int.toNat_natCast] at post
    have x := cg.w.2.2.2 a (by omega)
    refine ⟨fun z => ⟨by omega, ?_⟩, fun z => ⟨fun z1 => ⟨by omega, ?_⟩, fun z1 => ⟨fun z2 => ⟨by omega, ?_⟩, fun z2 => ⟨fun z3 => ⟨by omega, ?_⟩, fun z3 => ?_⟩⟩⟩⟩
    · rw [if_pos ⟨h, by omega⟩, if_pos z] at post
      rw [x.1]; exact post
    · rw [if_pos ⟨h, by omega⟩, if_neg z, if_pos z1] at post
      rw [x.2.1]; exact post
    · rw [if_pos ⟨h, by omega⟩, if_neg z, if_neg z1, if_pos z2] at post
      rw [x.2.2.1]; exact post
    · rw [if_pos ⟨h, by omega⟩, if_neg z, if_neg z1, if_neg z2] at post
      rw [x.2.2.2]; exact post
    · rw [if_neg (fun y => by omega)] at post
      exact post
  · rw [if_neg (fun z => h z.1)] at post
    exact post
theorem c_G_at {d N : Nat} (hN : 75 ≤ N) {A : TA} (ok : TAok A) {t p w : Int} {G : SgM} {Q : Int → SgM → Prop} (cg : cG A G) (post : Q (a_at A t p w) G) : sg_Wp 0 N (d + 2) m_G_at 0 [(0, 2, 44), (1, 0, t), (2, 0, p), (3, 0, w)] [] G Q := by
  have hN4 : 44 ≤ N := Nat.le_trans (by decide) hN
  have hk := ok.w.2.1
  unfold a_at at post
  refine g_G_at_44_0 hN ⟨fun ht => c_G_isPerson hN cg ⟨fun h => ⟨fun _ => ?_, fun z => absurd (by decide) z⟩, fun h => ⟨fun z => absurd rfl z, fun _ => ?_⟩⟩, fun ht => ?_⟩
  · obtain ⟨a, ea⟩ := Int.eq_ofNat_of_zero_le h.1
    obtain ⟨c, ec⟩ := Int.eq_ofNat_of_zero_le ht.1
    subst ea
    subst ec
    rw [Int.toNat_natCast, Int.toNat_natCast] at post
    have hc : c < 24 := by omega
    have ha : a < tw_k (a_W A) := by omega
    have e6 := sg_rnd c a hc (by omega)
    have x := cg.r.1 c hc
    have y := x.1 a ha
    refine ⟨fun z => ⟨by rw [e6]; omega, ?_⟩, fun z => ⟨fun z1 => ⟨by omega, ?_⟩, fun z1 => ⟨fun z2 => ?_, fun z2 => ⟨fun z3 => ⟨by rw [e6]; omega, ?_⟩, fun z3 => ?_⟩⟩⟩⟩
    · rw [if_pos ⟨ht, h, by omega⟩, if_pos z] at post
      rw [e6, y.1]; exact post
    · rw [if_pos ⟨ht, h, by omega⟩, if_neg z, if_pos z1] at post
      rw [x.2.2.1, sg_mk_bit (by omega) (by omega), decide_eq_true ha, Bool.true_and]; exact post
    · rw [if_pos ⟨ht, h, by omega⟩, if_neg z, if_neg z1, if_pos z2] at post
      exact c_G_times30 hN4 ok.w hc ha cg.r post
    · rw [if_pos ⟨ht, h, by omega⟩, if_neg z, if_neg z1, if_neg z2] at post
      rw [e6, y.2.1]; exact post
    · rw [if_neg (fun y => by omega)] at post
      exact post
  · rw [if_neg (fun z => h z.2.1)] at post
    exact g_G_at_44_17 hN post
  · rw [if_neg (fun z => ht z.1)] at post
    exact g_G_at_44_17 hN post
theorem c_G_stood {d N : Nat} (hN : 75 ≤ N) {A : TA} (ok : TAok A) {t p w : Int} {G : SgM} {Q : Int → SgM → Prop} (cg : cG A G) (post : Q (a_stood A t p w) G) : sg_Wp 0 N (d + 2) m_G_stood 0 [(0, 2, 44), (1, 0, t), (2, 0, p), (3, 0, w)] [] G Q := by
  have hN4 : 44 ≤ N := Nat.le_trans (by decide) hN
  have hk := ok.w.1
  unfold a_stood at post
  refine g_G_stood_44_0 hN ⟨fun ht => c_G_isPost hN cg ⟨fun h => ⟨fun _ => ?_, fun z => absurd (by decide) z⟩, fun h => ⟨fun z => absurd rfl z, fun _ => ?_⟩⟩, fun ht => ?_⟩
  · obtain ⟨a, ea⟩ := Int.eq_ofNat_of_zero_le h.1
    obtain ⟨c, ec⟩ := Int.eq_ofNat_of_zero_le ht.1
    subst ea
    subst ec
    rw [Int.toNat_natCast, Int.toNat_natCast] at post
    have hc : c < 24 := by omega
    have ha : a < tw_n (a_W A) := by omega
    have e8 := sg_rnd8 c a hc (by omega)
    have x := cg.r.1 c hc
    refine ⟨fun z => ⟨by rw [e8]; omega, ?_⟩, fun z => ⟨fun z1 => ?_, fun z1 => ⟨fun z2 => ?_, fun z2 => ?_⟩⟩⟩
    · rw [if_pos ⟨ht, h, by omega⟩, if_pos z] at post
      rw [e8, x.2.1 a ha]; exact post
    · rw [if_pos ⟨ht, h, by omega⟩, if_neg z, if_pos z1] at post
      exact c_G_times31 hN4 ok.w hc ha cg.r post
    · rw [if_pos ⟨ht, h, by omega⟩, if_neg z, if_neg z1] at post
      exact c_D_changer hN4 ok.w hc ha cg.w.2.1 cg.r post
    · rw [if_neg (fun y => by omega)] at post
      exact post
  · rw [if_neg (fun z => h z.2.1)] at post
    exact post
  · rw [if_neg (fun z => ht z.1)] at post
    exact post
theorem c_G_changes {d N : Nat} (hN : 75 ≤ N) {A : TA} {t : Int} {G : SgM} {Q : Int → SgM → Prop} (cg : cG A G) (post : Q (a_changes A t) G) : sg_Wp 0 N (d + 1) m_G_changes 0 [(0, 2, 44), (1, 0, t)] [] G Q := by
  unfold a_changes at post
  refine g_G_changes_44_0 hN ⟨fun ht => ⟨ht, ?_⟩, fun ht => ?_⟩
  · rw [if_pos (show a_is 24 t from ht)] at post
    obtain ⟨c, ec⟩ := Int.eq_ofNat_of_zero_le ht.1
    subst ec
    rw [Int.toNat_natCast] at post
    rw [(cg.r.1 c (by omega)).2.2.2]
    exact post
  · rw [if_neg (show ¬ a_is 24 t from ht)] at post
    exact post
theorem c_G_forgotten {d N : Nat} (hN : 75 ≤ N) {A : TA} {G : SgM} {Q : Int → SgM → Prop} (cg : cG A G) (post : Q (td_fgm (a_W A) (a_Y A) 24 : Int) G) : sg_Wp 0 N d m_G_forgotten 0 [(0, 2, 44)] [] G Q := by
  refine g_G_forgotten_44_0 hN ?_
  rw [cg.r.2.2.1]
  exact post
theorem c_G_longest {d N : Nat} (hN : 75 ≤ N) {A : TA} {w : Int} {G : SgM} {Q : Int → SgM → Prop} (cg : cG A G) (post : Q (a_longest A w) G) : sg_Wp 0 N d m_G_longest 0 [(0, 2, 44), (1, 0, w)] [] G Q := by
  unfold a_longest at post
  refine g_G_longest_44_0 hN ⟨fun z => ?_, fun z => ⟨fun z1 => ?_, fun z1 => ⟨fun z2 => ?_, fun z2 => ?_⟩⟩⟩
  · rw [if_pos z] at post
    rw [cg.r.2.2.2.2.1]; exact post
  · rw [if_neg z, if_pos z1] at post
    rw [cg.r.2.2.2.2.2]; exact post
  · rw [if_neg z, if_neg z1, if_pos z2] at post
    rw [cg.r.2.2.2.1]; exact post
  · rw [if_neg z, if_neg z1, if_neg z2] at post
    exact post
theorem c_G_all {d N : Nat} (hN : 75 ≤ N) {A : TA} {G : SgM} {Q : Int → SgM → Prop} (cg : cG A G) (post : Q (td_all (a_W A) (a_Y A) 24) G) : sg_Wp 0 N d m_G_all 0 [(0, 2, 44)] [] G Q := by
  refine g_G_all_44_0 hN ?_
  rw [cg.r.2.1]
  exact post
theorem c_G_busy {d N : Nat} (hN : 75 ≤ N) {A : TA} (ok : TAok A) {G : SgM} {Q : Int → SgM → Prop} (cg : cG A G) (post : Q (td_busy (a_W A) (a_Y A)) G) : sg_Wp 0 N (d + 2) m_G_busy 0 [(0, 2, 44)] [] G Q :=
  g_G_busy_44_0 hN (c_D_busiest (Nat.le_trans (by decide) hN) ok.w cg.w.2.1 cg.r post)
theorem c_G_quiet {d N : Nat} (hN : 75 ≤ N) {A : TA} (ok : TAok A) {G : SgM} {Q : Int → SgM → Prop} (cg : cG A G) (post : Q (td_quiet (a_W A) (a_Y A) : Int) G) : sg_Wp 0 N (d + 1) m_G_quiet 0 [(0, 2, 44)] [] G Q :=
  g_G_quiet_44_0 hN (c_D_silent (Nat.le_trans (by decide) hN) ok.w cg.w.2.1 cg.r post)
def a_count (A : TA) (w : Int) : Int := if w = 0 then (tw_n (a_W A) : Int) else if w = 1 then (tw_k (a_W A) : Int) else if w = 2 then (A.1.1.1 : Int) else if w = 3 then (A.1.2.1.1 : Int) else if w = 4 then (A.1.2.2.1 : Int) else if w = 5 then td_all (a_W A) (a_Y A) 24 else if w = 6 then td_sum (fun q => td_one (td_fg (a_W A) (a_Y A) 24 q)) (tw_n (a_W A)) else if w = 7 then (A.2.1.1 : Int) else if w = 8 then tz_l A.2.2 else -2
theorem c_G_count {d N : Nat} (hN : 75 ≤ N) {A : TA} (ok : TAok A) {w : Int} {G : SgM} {Q : Int → SgM → Prop} (cg : cG A G) (post : Q (a_count A w) G) : sg_Wp 0 N (d + 1) m_G_count 0 [(0, 2, 44), (1, 0, w)] [] G Q := by
  have hn := ok.w.1
  unfold a_count at post
  refine g_G_count_44_0 hN ⟨fun z => ?_, fun z => ⟨fun z1 => ?_, fun z1 => ⟨fun z2 => ?_, fun z2 => ⟨fun z3 => ?_, fun z3 => ⟨fun z4 => ?_, fun z4 => ⟨fun z5 => ?_, fun z5 => ⟨fun z6 => ?_, fun z6 => ⟨fun z7 => ?_, fun z7 => ⟨fun z8 => ?_, fun z8 => ?_⟩⟩⟩⟩⟩⟩⟩⟩⟩
  · rw [if_pos z] at post
    rw [cg.w.1]; exact post
  · rw [if_neg z, if_pos z1] at post
    rw [cg.w.2.1]; exact post
  · rw [if_neg z, if_neg z1, if_pos z2] at post
    rw [cg.1.1.1.1.2.2.1]; exact post
  · rw [if_neg z, if_neg z1, if_neg z2, if_pos z3] at post
    rw [cg.1.1.1.2.1.2.2.1]; exact post
  · rw [if_neg z, if_neg z1, if_neg z2, if_neg z3, if_pos z4] at post
    rw [cg.1.1.1.2.2.1]; exact post
  · rw [if_neg z, if_neg z1, if_neg z2, if_neg z3, if_neg z4, if_pos z5] at post
    rw [cg.r.2.1]; exact post
  · rw [if_neg z, if_neg z1, if_neg z2, if_neg z3, if_neg z4, if_neg z5, if_pos z6] at post
    rw [cg.r.2.2.1]
    unfold td_fgm
    rw [sg_ibc_mk hn]
    exact post
  · rw [if_neg z, if_neg z1, if_neg z2, if_neg z3, if_neg z4, if_neg z5, if_neg z6, if_pos z7] at post
    rw [cg.2.1.1]; exact post
  · rw [if_neg z, if_neg z1, if_neg z2, if_neg z3, if_neg z4, if_neg z5, if_neg z6, if_neg z7, if_pos z8] at post
    rw [cg.2.2.2]; exact post
  · rw [if_neg z, if_neg z1, if_neg z2, if_neg z3, if_neg z4, if_neg z5, if_neg z6, if_neg z7, if_neg z8] at post
    exact post
