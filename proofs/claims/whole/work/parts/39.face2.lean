/-! THE FACE: plans, hindsight, chances -/
def a_stroll (A : TA) (p w : Int) : Int := if a_is (tw_k (a_W A)) p ∧ a_is 2 w then (if w = 0 then (tp_stroll (a_W A) (a_Y A) p.toNat).1 else (tp_stroll (a_W A) (a_Y A) p.toNat).2) else -2
def a_dust (A : TA) (h w : Int) : Int := if a_is 24 h ∧ a_is 2 w then (if w = 0 then (tp_dust (a_W A) (a_Y A) h.toNat).1 else (tp_dust (a_W A) (a_Y A) h.toNat).2) else -2
def a_hush (A : TA) (h w : Int) : Int := if a_is 24 h ∧ a_is 2 w then (if w = 0 then (tp_hush (a_W A) (a_Y A) h.toNat).1 else (tp_hush (a_W A) (a_Y A) h.toNat).2) else -2
def a_spare (A : TA) (i : Int) : Int := if i < -1 ∨ 1 < i then -2 else if i = -1 then (tp_spare (a_W A) (a_E A)).1 else if i = 0 then (tp_spare (a_W A) (a_E A)).2.1 else (tp_spare (a_W A) (a_E A)).2.2
def a_was (A : TA) (p w : Int) : Int := if a_is (tw_k (a_W A)) p ∧ a_is 2 w then (if w = 0 then (th_sorts (a_S A) (a_W A) (a_Y A) p.toNat : Int) else (th_colds (a_S A) (a_W A) (a_Y A) p.toNat : Int)) else -2
def a_ask (A : TA) (p : Int) : Int := if a_is (tw_k (a_W A)) p then th_ask (a_S A) (a_W A) (a_Y A) p.toNat else -2
def a_chance (A : TA) (c p w : Int) : Int := if a_is 17 c ∧ a_is (tw_n (a_W A)) p ∧ a_is 2 w then tc_fr (a_W A) (a_E A) c p.toNat w else -9223372036854775806
def a_lots (s : Int) (n : Nat) : TY := ty_of (te_lots s n) (te_all (te_lots s n))
def a_decades (A : TA) (s n w : Int) : Int := if a_is 9 n ∧ a_is 2 w then (if w = 0 then td_all (a_W A) (a_lots s n.toNat) 24 else td_sum (fun q => td_one (td_fg (a_W A) (a_lots s n.toNat) 24 q)) (tw_n (a_W A))) else -2
def a_fault (A : TA) (t : Int) : Int := if t = 0 then tt_flt sg_pof 3 A.1.1 else if t = 1 then tt_flt sg_qof 5 A.1.2.1 else -2
theorem c_G_fault {d N : Nat} (hN : 75 ≤ N) {A : TA} (ok : TAok A) {t : Int} {G : SgM} {Q : Int → SgM → Prop} (cg : cG A G) (post : Q (a_fault A t) G) : sg_Wp 0 N (d + 5) m_G_fault 0 [(0, 2, 44), (1, 0, t)] [] G Q := by
  have hN4 : 44 ≤ N := Nat.le_trans (by decide) hN
  unfold a_fault at post
  refine g_G_fault_44_0 hN ⟨fun ht => g_K_textOf_0_0 hN4 ⟨fun z => Or.inr ⟨rfl, ?_⟩, fun z => Or.inl ⟨rfl, ?_⟩⟩, fun ht => ?_⟩
  · rw [if_neg z, if_pos (by omega)] at post
    exact c_T_firstFault_3 hN4 ok.1.2.1 cg.1.1.1.2.1 post
  · rw [if_pos (Decidable.not_not.mp z)] at post
    exact c_T_firstFault_1 hN4 ok.1.1 cg.1.1.1.1 post
  · rw [if_neg (by omega), if_neg (by omega)] at post
    exact post
theorem c_G_stroll {d N : Nat} (hN : 75 ≤ N) {A : TA} (ok : TAok A) {p w : Int} {G : SgM} {Q : Int → SgM → Prop} (cg : cG A G) (post : ∀ G', cG A G' → Q (a_stroll A p w) G') : sg_Wp 0 N (d + 4) m_G_stroll 0 [(0, 2, 44), (1, 0, p), (2, 0, w)] [] G Q := by
  unfold a_stroll at post
  refine g_G_stroll_44_0 hN (c_G_isPerson hN cg ⟨fun h => ⟨fun z => absurd z (by decide), fun _ => ⟨fun hw => ?_, fun hw => ?_⟩⟩, fun h => ⟨fun _ => ?_, fun z => absurd rfl z⟩⟩)
  · obtain ⟨a, ea⟩ := Int.eq_ofNat_of_zero_le h.1
    subst ea
    rw [if_pos ⟨h, hw⟩, Int.toNat_natCast] at post
    refine c_P_stroll hN ok.w (by omega) cg.w cg.h cg.y (fun G' f e1 e2 => ?_)
    have post := post G' (cg.fr (fun c x => f.1 c (by omega) (by omega)))
    refine ⟨fun z => ?_, fun z => ?_⟩
    · rw [if_neg z] at post
      rw [e2]; exact post
    · rw [if_pos (Decidable.not_not.mp z)] at post
      rw [e1]; exact post
  · rw [if_neg (fun z => hw z.2)] at post
    exact post G cg
  · rw [if_neg (fun z => h z.1)] at post
    exact post G cg
theorem c_G_dust {d N : Nat} (hN : 75 ≤ N) {A : TA} (ok : TAok A) {p w : Int} {G : SgM} {Q : Int → SgM → Prop} (cg : cG A G) (post : ∀ G', cG A G' → Q (a_dust A p w) G') : sg_Wp 0 N (d + 4) m_G_dust 0 [(0, 2, 44), (1, 0, p), (2, 0, w)] [] G Q := by
  unfold a_dust at post
  refine g_G_dust_44_0 hN ⟨fun h => ⟨fun hw => ?_, fun hw => ?_⟩, fun h => ?_⟩
  · obtain ⟨a, ea⟩ := Int.eq_ofNat_of_zero_le h.1
    subst ea
    rw [if_pos ⟨h, hw⟩, Int.toNat_natCast] at post
    refine c_P_dust hN ok.w (by omega) cg.w cg.h cg.y (fun G' f e1 e2 => ?_)
    have post := post G' (cg.fr (fun c x => f.1 c (by omega) (by omega)))
    refine ⟨fun z => ?_, fun z => ?_⟩
    · rw [if_neg z] at post
      rw [e2]; exact post
    · rw [if_pos (Decidable.not_not.mp z)] at post
      rw [e1]; exact post
  · rw [if_neg (fun z => hw z.2)] at post
    exact post G cg
  · rw [if_neg (fun z => h z.1)] at post
    exact post G cg
theorem c_G_hush {d N : Nat} (hN : 75 ≤ N) {A : TA} (ok : TAok A) {p w : Int} {G : SgM} {Q : Int → SgM → Prop} (cg : cG A G) (post : ∀ G', cG A G' → Q (a_hush A p w) G') : sg_Wp 0 N (d + 4) m_G_hush 0 [(0, 2, 44), (1, 0, p), (2, 0, w)] [] G Q := by
  unfold a_hush at post
  refine g_G_hush_44_0 hN ⟨fun h => ⟨fun hw => ?_, fun hw => ?_⟩, fun h => ?_⟩
  · obtain ⟨a, ea⟩ := Int.eq_ofNat_of_zero_le h.1
    subst ea
    rw [if_pos ⟨h, hw⟩, Int.toNat_natCast] at post
    refine c_P_hush hN ok.w (by omega) cg.w cg.h cg.y (fun G' f e1 e2 => ?_)
    have post := post G' (cg.fr (fun c x => f.1 c (by omega) (by omega)))
    refine ⟨fun z => ?_, fun z => ?_⟩
    · rw [if_neg z] at post
      rw [e2]; exact post
    · rw [if_pos (Decidable.not_not.mp z)] at post
      rw [e1]; exact post
  · rw [if_neg (fun z => hw z.2)] at post
    exact post G cg
  · rw [if_neg (fun z => h z.1)] at post
    exact post G cg
theorem c_G_spare {d N : Nat} (hN : 75 ≤ N) {A : TA} (ok : TAok A) {i : Int} {G : SgM} {Q : Int → SgM → Prop} (cg : cG A G) (post : ∀ G', cG A G' → Q (a_spare A i) G') : sg_Wp 0 N (d + 5) m_G_spare 0 [(0, 2, 44), (1, 0, i)] [] G Q := by
  unfold a_spare at post
  refine g_G_spare_44_0 hN ⟨fun h => ?_, fun h => ⟨fun h2 => c_P_spare hN ok.1 cg.1 (fun G' f k e1 e2 e3 => ?_), fun h2 => ?_⟩⟩
  · rw [if_pos (Or.inl h)] at post
    exact post G cg
  · have post := post G' (cg.k k (fun c x => f.1 c (by omega) (by omega)))
    rw [if_neg (by omega)] at post
    refine ⟨fun z => ⟨fun z2 => ?_, fun z2 => ?_⟩, fun z => ?_⟩
    · rw [if_neg z, if_neg z2] at post
      rw [e3]; exact post
    · rw [if_neg z, if_pos (Decidable.not_not.mp z2)] at post
      rw [e2]; exact post
    · rw [if_pos (Decidable.not_not.mp z)] at post
      rw [e1]; exact post
  · rw [if_pos (by omega)] at post
    exact post G cg
theorem c_G_never {d N : Nat} (hN : 75 ≤ N) {A : TA} (ok : TAok A) {G : SgM} {Q : Int → SgM → Prop} (cg : cG A G) (post : ∀ G', cG A G' → Q (th_never (a_S A) (a_W A) (a_E A) : Int) G') : sg_Wp 0 N (d + 5) m_G_never 0 [(0, 2, 44)] [] G Q :=
  g_G_never_44_0 hN (c_H_needless hN ok.2.1 ok.1 cg.1 cg.2.1 (fun G' f k => post G' (cg.k k (fun c x => f c (by omega)))))
theorem c_G_was {d N : Nat} (hN : 75 ≤ N) {A : TA} (ok : TAok A) {p w : Int} {G : SgM} {Q : Int → SgM → Prop} (cg : cG A G) (post : ∀ G', cG A G' → Q (a_was A p w) G') : sg_Wp 0 N (d + 4) m_G_was 0 [(0, 2, 44), (1, 0, p), (2, 0, w)] [] G Q := by
  unfold a_was at post
  refine g_G_was_44_0 hN (c_G_isPerson hN cg ⟨fun h => ⟨fun z => absurd z (by decide), fun _ => ⟨fun hw => ?_, fun hw => ?_⟩⟩, fun h => ⟨fun _ => ?_, fun z => absurd rfl z⟩⟩)
  · obtain ⟨a, ea⟩ := Int.eq_ofNat_of_zero_le h.1
    subst ea
    rw [if_pos ⟨h, hw⟩, Int.toNat_natCast] at post
    refine ⟨fun z => c_H_colds hN ok.2.1 ok.w (by omega) cg.w cg.h cg.y cg.2.1 (fun G' f f2 => ?_), fun z => c_H_sorts hN ok.2.1 ok.w (by omega) cg.w cg.h cg.y cg.2.1 (fun G' f => ?_)⟩
    · have post := post G' (cg.fr (fun c x => f c (by omega) (by omega)))
      rw [if_neg z] at post
      exact post
    · have post := post G' (cg.fr (fun c x => f c (by omega)))
      rw [if_pos (Decidable.not_not.mp z)] at post
      exact post
  · rw [if_neg (fun z => hw z.2)] at post
    exact post G cg
  · rw [if_neg (fun z => h z.1)] at post
    exact post G cg
theorem c_G_ask {d N : Nat} (hN : 75 ≤ N) {A : TA} (ok : TAok A) {p : Int} {G : SgM} {Q : Int → SgM → Prop} (cg : cG A G) (post : ∀ G', cG A G' → Q (a_ask A p) G') : sg_Wp 0 N (d + 5) m_G_ask 0 [(0, 2, 44), (1, 0, p)] [] G Q := by
  unfold a_ask at post
  refine g_G_ask_44_0 hN (c_G_isPerson hN cg ⟨fun h => ⟨fun z => absurd z (by decide), fun _ => ?_⟩, fun h => ⟨fun _ => ?_, fun z => absurd rfl z⟩⟩)
  · obtain ⟨a, ea⟩ := Int.eq_ofNat_of_zero_le h.1
    subst ea
    rw [if_pos h, Int.toNat_natCast] at post
    exact c_H_ask hN ok.2.1 ok.w (by omega) cg.w cg.h cg.y cg.2.1 (fun G' f => post G' (cg.fr (fun c x => f c (by omega) (by omega))))
  · rw [if_neg h] at post
    exact post G cg
theorem c_G_chance {d N : Nat} (hN : 75 ≤ N) {A : TA} (ok : TAok A) {c p w : Int} {G : SgM} {Q : Int → SgM → Prop} (cg : cG A G) (post : ∀ G', cG A G' → Q (a_chance A c p w) G') : sg_Wp 0 N (d + 5) m_G_chance 0 [(0, 2, 44), (1, 0, c), (2, 0, p), (3, 0, w)] [] G Q := by
  have hn := ok.w.1
  unfold a_chance at post
  refine g_G_chance_44_0 hN ⟨fun hc => c_G_isPost hN cg ⟨fun h => ⟨fun z => absurd z (by decide), fun _ => ⟨fun hw => ?_, fun hw => ?_⟩⟩, fun h => ⟨fun _ => ?_, fun z => absurd rfl z⟩⟩, fun hc => ?_⟩
  · obtain ⟨a, ea⟩ := Int.eq_ofNat_of_zero_le h.1
    subst ea
    rw [if_pos ⟨hc, h, hw⟩, Int.toNat_natCast] at post
    exact c_C_fraction hN ok.1 (by omega) (by omega) cg.1 (fun G' f k => post G' (cg.k k (fun c x => f c (by omega) (by omega))))
  · rw [if_neg (fun z => hw z.2.2)] at post
    exact post G cg
  · rw [if_neg (fun z => h z.2.1)] at post
    exact post G cg
  · rw [if_neg (fun z => hc z.1)] at post
    exact post G cg
theorem c_G_decades {d N : Nat} (hN : 75 ≤ N) {A : TA} (ok : TAok A) {s n w : Int} {G : SgM} {Q : Int → SgM → Prop} (cg : cG A G) (post : ∀ G', cG A G' → Q (a_decades A s n w) G') : sg_Wp 0 N (d + 5) m_G_decades 0 [(0, 2, 44), (1, 0, s), (2, 0, n), (3, 0, w)] [] G Q := by
  have hn := ok.w.1
  unfold a_decades at post
  refine g_G_decades_44_0 hN ⟨fun h => ⟨fun hw => ?_, fun hw => ?_⟩, fun h => ?_⟩
  · obtain ⟨a, ea⟩ := Int.eq_ofNat_of_zero_le h.1
    subst ea
    rw [if_pos ⟨h, hw⟩, Int.toNat_natCast] at post
    refine c_C_day hN ok.1 (by omega) cg.1 (fun G' f f2 k r => ?_)
    have post := post G' (cg.k k (fun c x => f c (by omega)))
    refine ⟨rfl, fun z => ?_, fun z => ?_⟩
    · rw [if_neg z] at post
      rw [r.2.2.1]
      unfold td_fgm
      have hn2 : tw_n (tw_of A.1.1 A.1.2.1) ≤ 8 := hn
      rw [sg_ibc_mk hn2]
      exact post
    · rw [if_pos (Decidable.not_not.mp z)] at post
      rw [r.2.1]
      exact post
  · rw [if_neg (fun z => hw z.2)] at post
    exact post G cg
  · rw [if_neg (fun z => h z.1)] at post
    exact post G cg
