/-! THE REFERENCE: stroll, dust, hush -/
/-- what a question may change: the day worked out anew, the odd event, the ways, what was told, the seed -/
def cm_fe (G G' : SgM) : Prop := (∀ c : Int, (c < 210 ∨ 224 < c) → c ≠ 200 → c ≠ 226 → c ≠ 227 → ∀ i, G' c i = G c i) ∧ ∀ i : Int, i ≠ 15 → i ≠ 16 → i ≠ 35 → G' 200 i = G 200 i
theorem cm_fe.refl (G : SgM) : cm_fe G G := ⟨fun _ _ _ _ _ _ => rfl, fun _ _ _ _ => rfl⟩
theorem cm_fe.trans {G G1 G2 : SgM} (h : cm_fe G G1) (f : cm_fe G1 G2) : cm_fe G G2 := ⟨fun c x y z w i => by rw [f.1 c x y z w, h.1 c x y z w], fun i x y z => by rw [f.2 i x y z, h.2 i x y z]⟩
theorem cm_fd.fe {G G' : SgM} (h : cm_fd G G') : cm_fe G G' := ⟨fun c x _ _ _ i => h c x i, fun i _ _ _ => h 200 (by omega) i⟩
theorem cm_fe.fs {G G' : SgM} (h : cm_fe G G') : cm_fs G G' := ⟨fun c x i => h.1 c (by omega) (by omega) (by omega) (by omega) i, fun i x => h.2 i (by omega) (by omega) (by omega)⟩
theorem cm_W.fe {W : TW} {G G' : SgM} (h : cm_W W G) (f : cm_fe G G') : cm_W W G' := by
  have f7 := f.1 207 (by omega) (by omega) (by omega) (by omega)
  have f8 := f.1 208 (by omega) (by omega) (by omega) (by omega)
  exact ⟨⟨by rw [f.2 7 (by omega) (by omega) (by omega)]; exact h.1.1, fun q hq => by rw [f7, f7]; exact h.1.2 q hq⟩, by rw [f.2 9 (by omega) (by omega) (by omega)]; exact h.2.1, fun p hp => by rw [f8, f8, f8, f8]; exact h.2.2 p hp⟩
theorem cm_W.fd {W : TW} {G G' : SgM} (h : cm_W W G) (f : cm_fd G G') : cm_W W G' := h.fe f.fe
def cN (A : TA) (G : SgM) : Prop := cM A G ∧ cm_W (a_W A) G
theorem cN.fe {A : TA} {G G' : SgM} (h : cN A G) (f : cm_fe G G') : cN A G' := ⟨h.1.fs f.fs, h.2.fe f⟩
theorem te_all_0 {E : TE} (e : Nat) (he : e < E.1) : (te_all E).testBit e = !(0 : Nat).testBit e := by
  rw [Nat.zero_testBit]
  unfold te_all
  rw [sg_mk_test, decide_eq_true he]
  rfl
/-- the day lived with nothing odd -/
theorem c_M_livesA {d : Nat} {A : TA} (ok : TAok A) {W : TW} (hW : TWok W) {G : SgM} {Q : Int → SgM → Prop} (cw : cm_W W G) (ce : cm_E A.1.2.2 G) (g13 : G 200 13 = 0) (g14 : G 200 14 = -1)
    (post : ∀ G', cm_fd G G' → cm_I W (a_Y A) 24 G' → Q 0 G') : sg_Wp 200 228 (d + 4) m_M_lives 0 [(0, 2, 200)] [] G Q := by
  have e : tm_Y A.1.2.2 (0, -1, G 200 15, G 200 16) = a_Y A := tm_Y_of rfl te_all_0
  refine c_M_lives (E := A.1.2.2) (O := (0, -1, G 200 15, G 200 16)) ok.1.2.2 (show (0 : Nat) < 2147483648 by decide) hW cw ce ⟨g13, g14, rfl, rfl⟩ (fun G' f i => post G' f ?_)
  rw [e] at i
  exact i
theorem td_lq_in (W : TW) (Y : TY) {h : Nat} (s : Int × Int × Int) (b : Int) (hs : -1 ≤ s.1 ∧ s.1 ≤ b) (hb : (h : Int) + 1 ≤ b) : ∀ q : Nat, (-1 ≤ (td_lq W Y h s q).1 ∧ (td_lq W Y h s q).1 ≤ b) ∧ (0 < q → 0 ≤ (td_lq W Y h s q).1)
  | 0 => ⟨hs, fun z => absurd z (Nat.lt_irrefl 0)⟩
  | q + 1 => by
    have ih := td_lq_in W Y s b hs hb q
    have bs := td_std_in W Y q h
    rw [td_lq_s]
    by_cases c : (td_lq W Y h s q).1 < td_std W Y q h
    · rw [if_pos c]
      exact ⟨⟨by show -1 ≤ td_std W Y q h; omega, by show td_std W Y q h ≤ b; omega⟩, fun _ => bs.1⟩
    · rw [if_neg c]
      exact ⟨ih.1, fun _ => by omega⟩
theorem td_lg_in (W : TW) (Y : TY) : ∀ h : Nat, (-1 ≤ (td_lg W Y h).1 ∧ (td_lg W Y h).1 ≤ (h : Int)) ∧ (0 < h → 0 < tw_n W → 0 ≤ (td_lg W Y h).1)
  | 0 => ⟨⟨by show (-1 : Int) ≤ -1; omega, by show (-1 : Int) ≤ 0; omega⟩, fun z => absurd z (Nat.lt_irrefl 0)⟩
  | h + 1 => by
    have ih := td_lg_in W Y h
    have x := td_lq_in W Y (h := h) (td_lg W Y h) (((h + 1 : Nat) : Int)) ⟨ih.1.1, by omega⟩ (by omega) (tw_n W)
    exact ⟨x.1, fun _ hn => x.2 hn⟩
theorem td_lg_none (W : TW) (Y : TY) (hn : tw_n W = 0) : ∀ h : Nat, td_lg W Y h = (-1, -1, -1)
  | 0 => rfl
  | h + 1 => by
    show td_lq W Y h (td_lg W Y h) (tw_n W) = _
    rw [hn, td_lg_none W Y hn h]
    rfl
def tm_ls (f : Nat → Int) (m : Nat) : Int := if m = 0 then 999 else (ta_min f m).2
theorem tm_ls_keep {f : Nat → Int} {m : Nat} (hb : f m < 999) (z : tm_ls f m ≤ f m) : (ta_min f (m + 1)).1 = (ta_min f m).1 ∧ sg_lss (f m) (tm_ls f m) = tm_ls f (m + 1) := by
  unfold tm_ls at z ⊢
  by_cases m0 : m = 0
  · rw [if_pos m0] at z; omega
  · rw [if_neg m0] at z ⊢
    rw [if_neg (by omega : ¬ m + 1 = 0), ta_min_s, if_neg (by omega)]
    exact ⟨rfl, if_neg (by omega)⟩
theorem tm_ls_take {f : Nat → Int} {m : Nat} (hb : f m < 999) (z : ¬ tm_ls f m ≤ f m) : (ta_min f (m + 1)).1 = (m : Int) ∧ sg_lss (f m) (tm_ls f m) = tm_ls f (m + 1) := by
  unfold tm_ls at z ⊢
  by_cases m0 : m = 0
  · rw [if_pos m0] at z ⊢
    rw [if_neg (by omega : ¬ m + 1 = 0), ta_min_s, if_pos (Or.inl m0)]
    exact ⟨rfl, if_pos hb⟩
  · rw [if_neg m0] at z ⊢
    rw [if_neg (by omega : ¬ m + 1 = 0), ta_min_s, if_pos (by omega)]
    exact ⟨rfl, if_pos (by omega)⟩
theorem ta_min_fst {f : Nat → Int} : ∀ {m : Nat}, 0 < m → 0 ≤ (ta_min f m).1
  | 0, h => absurd h (Nat.lt_irrefl 0)
  | m + 1, _ => by
    rw [ta_min_s]
    by_cases c : m = 0 ∨ f m < (ta_min f m).2
    · rw [if_pos c]; exact (show (0 : Int) ≤ (m : Int) by omega)
    · rw [if_neg c]; exact ta_min_fst (by omega)
theorem cm_W.setc {W : TW} {p : Nat} {v : Int} {G G' : SgM} (h : cm_W W G) (f : ∀ c i : Int, (c = 200 ∨ c = 207 ∨ c = 208) → (c ≠ 208 ∨ i ≠ 4 * (p : Int) + 1) → G' c i = G c i) (e : G' 208 (4 * (p : Int) + 1) = v) : cm_W (tw_setc W p v) G' := by
  refine ⟨⟨by rw [f 200 7 (by omega) (by omega)]; exact h.1.1, fun q hq => by rw [f 207 _ (by omega) (by omega), f 207 _ (by omega) (by omega)]; exact h.1.2 q hq⟩, by rw [f 200 9 (by omega) (by omega)]; exact h.2.1, fun i hi => ?_⟩
  have x := h.2.2 i hi
  refine ⟨by rw [f 208 _ (by omega) (by omega)]; exact x.1, ?_, by rw [f 208 _ (by omega) (by omega)]; exact x.2.2.1, by rw [f 208 _ (by omega) (by omega)]; exact x.2.2.2⟩
  show G' 208 (4 * (i : Int) + 1) = if i = p then v else tw_ce W i
  by_cases ei : i = p
  · subst ei; rw [if_pos rfl]; exact e
  · rw [if_neg ei, f 208 _ (by omega) (by omega)]; exact x.2.1
theorem cm_W.sets {W : TW} {p : Nat} {v : Int} {G G' : SgM} (h : cm_W W G) (f : ∀ c i : Int, (c = 200 ∨ c = 207 ∨ c = 208) → (c ≠ 208 ∨ i ≠ 4 * (p : Int)) → G' c i = G c i) (e : G' 208 (4 * (p : Int)) = v) : cm_W (tw_sets W p v) G' := by
  refine ⟨⟨by rw [f 200 7 (by omega) (by omega)]; exact h.1.1, fun q hq => by rw [f 207 _ (by omega) (by omega), f 207 _ (by omega) (by omega)]; exact h.1.2 q hq⟩, by rw [f 200 9 (by omega) (by omega)]; exact h.2.1, fun i hi => ?_⟩
  have x := h.2.2 i hi
  refine ⟨?_, by rw [f 208 _ (by omega) (by omega)]; exact x.2.1, by rw [f 208 _ (by omega) (by omega)]; exact x.2.2.1, by rw [f 208 _ (by omega) (by omega)]; exact x.2.2.2⟩
  show G' 208 (4 * (i : Int)) = if i = p then v else tw_so W i
  by_cases ei : i = p
  · subst ei; rw [if_pos rfl]; exact e
  · rw [if_neg ei, f 208 _ (by omega) (by omega)]; exact x.1
theorem cm_W.setk {W : TW} {p : Nat} {v : Int} {G G' : SgM} (h : cm_W W G) (f : ∀ c i : Int, (c = 200 ∨ c = 207 ∨ c = 208) → (c ≠ 208 ∨ i ≠ 4 * (p : Int) + 3) → G' c i = G c i) (e : G' 208 (4 * (p : Int) + 3) = v) : cm_W (tw_setk W p v) G' := by
  refine ⟨⟨by rw [f 200 7 (by omega) (by omega)]; exact h.1.1, fun q hq => by rw [f 207 _ (by omega) (by omega), f 207 _ (by omega) (by omega)]; exact h.1.2 q hq⟩, by rw [f 200 9 (by omega) (by omega)]; exact h.2.1, fun i hi => ?_⟩
  have x := h.2.2 i hi
  refine ⟨by rw [f 208 _ (by omega) (by omega)]; exact x.1, by rw [f 208 _ (by omega) (by omega)]; exact x.2.1, by rw [f 208 _ (by omega) (by omega)]; exact x.2.2.1, ?_⟩
  show G' 208 (4 * (i : Int) + 3) = if i = p then v else tw_co W i
  by_cases ei : i = p
  · subst ei; rw [if_pos rfl]; exact e
  · rw [if_neg ei, f 208 _ (by omega) (by omega)]; exact x.2.2.2
theorem cm_E.up {E : TE} {G : SgM} (h : cm_E E G) {c i v : Int} (h1 : c ≠ 209) (h2 : c ≠ 200 ∨ i ≠ 11) : cm_E E (sg_up G c i v) := by
  refine ⟨?_, fun e he => by rw [sg_upc (Ne.symm h1), sg_upc (Ne.symm h1), sg_upc (Ne.symm h1)]; exact h.2 e he⟩
  rcases h2 with x | x
  · rw [sg_upc (Ne.symm x)]; exact h.1
  · by_cases y : c = 200
    · subst y; rw [sg_upi (Ne.symm x)]; exact h.1
    · rw [sg_upc (Ne.symm y)]; exact h.1
theorem c_M_strollOf {d : Nat} {A : TA} (ok : TAok A) {p : Nat} (hp : p < tw_k (a_W A)) {w : Int} (hw : 0 ≤ w ∧ w ≤ 1) {G : SgM} {Q : Int → SgM → Prop} (cn : cN A G)
    (post : ∀ G', cm_fe G G' → Q (if w = 0 then (tp_stroll (a_W A) (a_Y A) p).1 else (tp_stroll (a_W A) (a_Y A) p).2) G') : sg_Wp 200 228 (d + 5) m_M_strollOf 0 [(0, 2, 200), (1, 0, (p : Int)), (2, 0, w)] [] G Q := by
  have hk := ok.w.2.1
  have j : sg_iadd (sg_imul 4 (p : Int)) 1 = 4 * (p : Int) + 1 := by rw [sg_imul_eq (by omega) (by omega), sg_iadd_eq (by omega) (by omega)]
  have loop : ∀ (u m : Nat), m + u = 10 → ∀ G1 : SgM, (∀ c i : Int, (c < 210 ∨ 224 < c) → (c ≠ 208 ∨ i ≠ 4 * (p : Int) + 1) → G1 c i = G c i) →
      sg_Wp 200 228 (d + 5) m_M_strollOf 22 [(0, 2, 200), (1, 0, (p : Int)), (2, 0, w), (3, 0, G 208 (4 * (p : Int) + 1)), (4, 0, (ta_min (fun v => if tw_n (a_W A) = 0 then 0 else (td_lg (tw_setc (a_W A) p (v : Int)) (a_Y A) 24).1) m).1), (5, 0, tm_ls (fun v => if tw_n (a_W A) = 0 then 0 else (td_lg (tw_setc (a_W A) p (v : Int)) (a_Y A) 24).1) m), (6, 0, (m : Int))] [] G1 Q := by
    intro u
    induction u with
    | zero =>
      intro m hm G1 f1
      have em : m = 10 := by omega
      subst em
      have fr : cm_fe G (sg_up G1 208 (4 * (p : Int) + 1) (G 208 (4 * (p : Int) + 1))) := by
        refine ⟨fun c x y z t i => ?_, fun i _ _ _ => by rw [sg_upc (by omega)]; exact f1 200 i (by omega) (by omega)⟩
        by_cases e : c = 208
        · subst e
          by_cases ei : i = 4 * (p : Int) + 1
          · subst ei; exact sg_up_at
          · rw [sg_upi ei]; exact f1 208 i (by omega) (by omega)
        · rw [sg_upc e]; exact f1 c i x (by omega)
      have q := post _ fr
      unfold tp_stroll at q
      refine g_M_strollOf_22 ⟨fun _ => ⟨by rw [j]; omega, fun z => ?_, fun z => ?_⟩, fun z => absurd (by omega) z⟩
      · rw [if_neg z] at q
        rw [j]
        exact q
      · rw [if_pos (Decidable.not_not.mp z)] at q
        rw [j]
        exact q
    | succ u ih =>
      intro m hm G1 f1
      have cw : cm_W (tw_setc (a_W A) p (m : Int)) (sg_up G1 208 (4 * (p : Int) + 1) (m : Int)) := cn.2.setc (fun c i x y => by
        by_cases e : c = 208
        · subst e
          rw [sg_upi (by omega)]; exact f1 208 i (by omega) y
        · rw [sg_upc e]; exact f1 c i (by omega) y) sg_up_at
      have ce : cm_E A.1.2.2 (sg_up G1 208 (4 * (p : Int) + 1) (m : Int)) := (cn.1.2.1.fr (fun c x i => f1 c i (by omega) (by omega))).up (by omega) (by omega)
      refine g_M_strollOf_22 ⟨fun z => absurd z (by omega), fun _ => ⟨by rw [j]; omega, ?_⟩⟩
      rw [j]
      refine c_M_livesA (d := d) ok (tw_setc_ok ok.w p (by omega)) cw ce (by rw [sg_upc (by omega), f1 200 13 (by omega) (by omega)]; exact cn.1.2.2.1.1) (by rw [sg_upc (by omega), f1 200 14 (by omega) (by omega)]; exact cn.1.2.2.1.2) (fun G2 a b => ?_)
      have k1 : ∀ c i : Int, (c < 210 ∨ 224 < c) → (c ≠ 208 ∨ i ≠ 4 * (p : Int) + 1) → G2 c i = G c i := fun c i x y => by
        rw [a c x]
        by_cases e : c = 208
        · subst e; rw [sg_upi (by omega)]; exact f1 208 i (by omega) y
        · rw [sg_upc e]; exact f1 c i x y
      have lb := td_lg_in (tw_setc (a_W A) p (m : Int)) (a_Y A) 24
      refine c_M_longestBy (d := d + 3) (tw_setc_ok ok.w p (by omega)) (by omega) (by rw [a 200 (by omega)]; exact cw.pst) b.2.2 ?_
      rw [if_neg (by omega : ¬ (2 : Int) = 0), if_neg (by omega : ¬ (2 : Int) = 1)]
      have ev : sg_grt (td_lg (tw_setc (a_W A) p (m : Int)) (a_Y A) 24).1 0 = (fun v : Nat => if tw_n (a_W A) = 0 then (0 : Int) else (td_lg (tw_setc (a_W A) p (v : Int)) (a_Y A) 24).1) m := by
        show _ = if tw_n (a_W A) = 0 then (0 : Int) else (td_lg (tw_setc (a_W A) p (m : Int)) (a_Y A) 24).1
        by_cases n0 : tw_n (a_W A) = 0
        · rw [if_pos n0, td_lg_none _ _ (show tw_n (tw_setc (a_W A) p (m : Int)) = 0 from n0)]
          rfl
        · rw [if_neg n0]
          have := lb.2 (by omega) (show 0 < tw_n (tw_setc (a_W A) p (m : Int)) from Nat.pos_of_ne_zero n0)
          unfold sg_grt
          by_cases c : 0 < (td_lg (tw_setc (a_W A) p (m : Int)) (a_Y A) 24).1
          · rw [if_pos c]
          · rw [if_neg c]; omega
      have ih := ih (m + 1) (by omega) G2 k1
      have fb : (fun v : Nat => if tw_n (a_W A) = 0 then (0 : Int) else (td_lg (tw_setc (a_W A) p (v : Int)) (a_Y A) 24).1) m < 999 := by
        rw [← ev]
        unfold sg_grt
        split <;> omega
      rw [ev]
      generalize (fun v : Nat => if tw_n (a_W A) = 0 then (0 : Int) else (td_lg (tw_setc (a_W A) p (v : Int)) (a_Y A) 24).1) = f at ih fb ⊢
      rw [sg_inc1 m (by omega)]
      refine ⟨fun z => ?_, fun z => ?_⟩
      · have t := tm_ls_keep fb z
        rw [t.1] at ih
        rw [t.2]
        exact ih
      · have t := tm_ls_take fb z
        rw [t.1] at ih
        rw [t.2]
        exact ih
  refine g_M_strollOf_0 ⟨by rw [j]; omega, ?_⟩
  rw [j]
  exact loop 10 0 (by omega) G (fun _ _ _ _ => rfl)
theorem c_M_stroll {d : Nat} {A : TA} (ok : TAok A) {p w : Int} {G : SgM} {Q : Int → SgM → Prop} (cm : cM A G) (post : ∀ G', cM A G' → Q (a_stroll A p w) G') : sg_Wp 200 228 (d + 8) m_M_stroll 0 [(0, 2, 200), (1, 0, p), (2, 0, w)] [] G Q := by
  have hn := ok.w.2.1
  unfold a_stroll at post
  refine g_M_stroll_0 (d := d + 6) (c_M_find_A (d := d + 2) ok cm (fun G1 c1 cw ci => c_M_isPerson (d := d + 6) (by omega) cw.pep ⟨fun x => ⟨fun z => by omega, fun _ => ⟨fun y => ?_, fun y => ?_⟩⟩, fun x => ⟨fun _ => ?_, fun z => absurd rfl z⟩⟩))
  · rw [if_pos ⟨x, by omega⟩] at post
    have e : ((p.toNat : Nat) : Int) = p := by omega
    have r := c_M_strollOf (d := d + 2) (Q := Q) ok (p := p.toNat) (by omega) y ⟨c1, cw⟩ (fun G2 f => post G2 (c1.fs f.fs))
    rw [e] at r
    exact r
  · rw [if_neg (by omega)] at post
    exact post G1 c1
  · rw [if_neg (fun z => x z.1)] at post
    exact post G1 c1
theorem td_all_eq (W : TW) (Y : TY) : td_all W Y 24 = td_sum (fun q => td_chb W Y 24 q) (tw_n W) := td_sum_swap (fun i q => td_one (td_ch W Y i q)) (tw_n W) 24
theorem td_all_in {W : TW} (hW : TWok W) (Y : TY) : 0 ≤ td_all W Y 24 ∧ td_all W Y 24 < 999 := by
  have hn := hW.1
  rw [td_all_eq]
  have bs := td_sum_in (f := fun q => td_chb W Y 24 q) (b := 24) (fun q => td_chb_in W Y q 24) (tw_n W)
  omega
theorem c_M_dustOf {d : Nat} {A : TA} (ok : TAok A) {h : Nat} (hh : h < 24) {w : Int} (hw : 0 ≤ w ∧ w ≤ 1) {G : SgM} {Q : Int → SgM → Prop} (cn : cN A G)
    (post : ∀ G', cm_fe G G' → Q (if w = 0 then (tp_dust (a_W A) (a_Y A) h).1 else (tp_dust (a_W A) (a_Y A) h).2) G') : sg_Wp 200 228 (d + 5) m_M_dustOf 0 [(0, 2, 200), (1, 0, (h : Int)), (2, 0, w)] [] G Q := by
  have loop : ∀ (u m : Nat), m + u = 10 → ∀ G1 : SgM, (∀ c : Int, (c < 210 ∨ 224 < c) → c ≠ 200 → ∀ i, G1 c i = G c i) → (∀ i : Int, i ≠ 14 → i ≠ 15 → i ≠ 16 → G1 200 i = G 200 i) → G1 200 14 = (h : Int) → G1 200 15 = 0 →
      sg_Wp 200 228 (d + 5) m_M_dustOf 18 [(0, 2, 200), (2, 0, w), (3, 0, (ta_max (fun v => td_all (a_W A) (ty_pep (a_Y A) h v) 24) m).1), (4, 0, (ta_max (fun v => td_all (a_W A) (ty_pep (a_Y A) h v) 24) m).2), (5, 0, (m : Int))] [] G1 Q := by
    intro u
    induction u with
    | zero =>
      intro m hm G1 f1 f2 f3 f4
      have em : m = 10 := by omega
      subst em
      have fr : cm_fe G (sg_up G1 200 14 (-1)) := by
        refine ⟨fun c x y z t i => by rw [sg_upc y]; exact f1 c x y i, fun i x y z => ?_⟩
        by_cases e : i = 14
        · subst e; rw [sg_up_at]; exact cn.1.2.2.1.2.symm
        · rw [sg_upi e]; exact f2 i e x y
      have q := post _ fr
      unfold tp_dust at q
      refine g_M_dustOf_18 ⟨fun _ => ⟨fun z => ?_, fun z => ?_⟩, fun z => absurd (by omega) z⟩
      · rw [if_neg z] at q
        exact q
      · rw [if_pos (Decidable.not_not.mp z)] at q
        exact q
    | succ u ih =>
      intro m hm G1 f1 f2 f3 f4
      have cw : cm_W (a_W A) (sg_up G1 200 16 (m : Int)) := by
        refine ⟨⟨by rw [sg_upi (by omega), f2 7 (by omega) (by omega) (by omega)]; exact cn.2.pst, fun q hq => by rw [sg_upc (by omega), sg_upc (by omega), f1 207 (by omega) (by omega), f1 207 (by omega) (by omega)]; exact cn.2.1.2 q hq⟩, by rw [sg_upi (by omega), f2 9 (by omega) (by omega) (by omega)]; exact cn.2.pep, fun i hi => ?_⟩
        rw [sg_upc (by omega), sg_upc (by omega), sg_upc (by omega), sg_upc (by omega), f1 208 (by omega) (by omega), f1 208 (by omega) (by omega), f1 208 (by omega) (by omega), f1 208 (by omega) (by omega)]
        exact cn.2.2.2 i hi
      have ce : cm_E A.1.2.2 (sg_up G1 200 16 (m : Int)) := by
        refine ⟨by rw [sg_upi (by omega), f2 11 (by omega) (by omega) (by omega)]; exact cn.1.2.1.1, fun e he => ?_⟩
        rw [sg_upc (by omega), sg_upc (by omega), sg_upc (by omega), f1 209 (by omega) (by omega), f1 209 (by omega) (by omega), f1 209 (by omega) (by omega)]
        exact cn.1.2.1.2 e he
      refine g_M_dustOf_18 ⟨fun z => absurd z (by omega), fun _ => c_M_lives (d := d) (E := A.1.2.2) (O := (0, (h : Int), 0, (m : Int))) ok.1.2.2 (show (0 : Nat) < 2147483648 by decide) ok.w cw ce ⟨by rw [sg_upi (by omega), f2 13 (by omega) (by omega) (by omega)]; exact cn.1.2.2.1.1, by rw [sg_upi (by omega)]; exact f3, by rw [sg_upi (by omega)]; exact f4, sg_up_at⟩ (fun G2 a b => ?_)⟩
      rw [tm_Y_pep te_all_0] at b
      have b : cm_I (a_W A) (ty_pep (a_Y A) h m) 24 G2 := b
      refine c_M_allNow ok.w (by rw [a 200 (by omega)]; exact cw.pst) b ?_
      have ih := ih (m + 1) (by omega) G2 (fun c x y i => by rw [a c x, sg_upc y]; exact f1 c x y i) (fun i x y z => by rw [a 200 (by omega), sg_upi z]; exact f2 i x y z) (by rw [a 200 (by omega), sg_upi (by omega)]; exact f3) (by rw [a 200 (by omega), sg_upi (by omega)]; exact f4)
      rw [sg_inc1 m (by omega)]
      have fb := td_all_in ok.w (ty_pep (a_Y A) h m)
      have fb : 0 ≤ (fun v => td_all (a_W A) (ty_pep (a_Y A) h v) 24) m := fb.1
      change (td_all (a_W A) (ty_pep (a_Y A) h m) 24 ≤ _ → _) ∧ (¬ td_all (a_W A) (ty_pep (a_Y A) h m) 24 ≤ _ → _)
      rw [show td_all (a_W A) (ty_pep (a_Y A) h m) 24 = (fun v => td_all (a_W A) (ty_pep (a_Y A) h v) 24) m from rfl]
      generalize (fun v => td_all (a_W A) (ty_pep (a_Y A) h v) 24) = f at ih fb ⊢
      rw [ta_max_s] at ih
      have x0 : m = 0 → (ta_max f m).2 = -1 := fun e => by subst e; rfl
      refine ⟨fun z => ?_, fun z => ?_⟩
      · rw [if_neg (by omega)] at ih
        rw [show sg_grt (f m) (ta_max f m).2 = (ta_max f m).2 from if_neg (by omega)]
        exact ih
      · rw [if_pos (by omega)] at ih
        rw [show sg_grt (f m) (ta_max f m).2 = f m from if_pos (by omega)]
        exact ih
  exact g_M_dustOf_0 (loop 10 0 (by omega) _ (fun c x y i => by rw [sg_upc y, sg_upc y]) (fun i x y z => by rw [sg_upi y, sg_upi x]) (by rw [sg_upi (by omega), sg_up_at]) sg_up_at)
theorem c_M_hushOf {d : Nat} {A : TA} (ok : TAok A) {h : Nat} (hh : h < 24) {w : Int} (hw : 0 ≤ w ∧ w ≤ 1) {G : SgM} {Q : Int → SgM → Prop} (cn : cN A G)
    (post : ∀ G', cm_fe G G' → Q (if w = 0 then (tp_hush (a_W A) (a_Y A) h).1 else (tp_hush (a_W A) (a_Y A) h).2) G') : sg_Wp 200 228 (d + 5) m_M_hushOf 0 [(0, 2, 200), (1, 0, (h : Int)), (2, 0, w)] [] G Q := by
  have hk := ok.w.2.1
  have loop : ∀ (u m : Nat), m + u = tw_k (a_W A) → ∀ G1 : SgM, (∀ c : Int, (c < 210 ∨ 224 < c) → c ≠ 200 → ∀ i, G1 c i = G c i) → (∀ i : Int, i ≠ 14 → i ≠ 15 → i ≠ 16 → G1 200 i = G 200 i) → G1 200 14 = (h : Int) → G1 200 15 = 1 →
      sg_Wp 200 228 (d + 5) m_M_hushOf 20 [(0, 2, 200), (2, 0, w), (3, 0, (ta_min (fun v => td_all (a_W A) (ty_hold (a_Y A) h v) 24) m).1), (4, 0, tm_ls (fun v => td_all (a_W A) (ty_hold (a_Y A) h v) 24) m), (5, 0, (m : Int))] [] G1 Q := by
    intro u
    induction u with
    | zero =>
      intro m hm G1 f1 f2 f3 f4
      have em : m = tw_k (a_W A) := by omega
      subst em
      have fr : cm_fe G (sg_up G1 200 14 (-1)) := by
        refine ⟨fun c x y z t i => by rw [sg_upc y]; exact f1 c x y i, fun i x y z => ?_⟩
        by_cases e : i = 14
        · subst e; rw [sg_up_at]; exact cn.1.2.2.1.2.symm
        · rw [sg_upi e]; exact f2 i e x y
      have q := post _ fr
      unfold tp_hush at q
      have g9 : G1 200 9 = (tw_k (a_W A) : Int) := by rw [f2 9 (by omega) (by omega) (by omega)]; exact cn.2.pep
      refine g_M_hushOf_20 ⟨fun _ => ⟨fun z => ?_, fun z => ⟨fun y => ?_, fun y => ?_⟩⟩, fun z => absurd (by rw [g9]; omega) z⟩
      · by_cases k0 : tw_k (a_W A) = 0
        · rw [k0] at q ⊢
          have e : (if w = 0 then (ta_min (fun v => td_all (a_W A) (ty_hold (a_Y A) h v) 24) 0).1 else (ta_min (fun v => td_all (a_W A) (ty_hold (a_Y A) h v) 24) 0).2) = -1 := by
            split <;> rfl
          rw [e] at q
          exact q
        · have := ta_min_fst (f := fun v => td_all (a_W A) (ty_hold (a_Y A) h v) 24) (m := tw_k (a_W A)) (by omega)
          omega
      · rw [if_neg y] at q
        have k0 : ¬ tw_k (a_W A) = 0 := fun e => z (by rw [e]; rfl)
        unfold tm_ls
        rw [if_neg k0]
        exact q
      · rw [if_pos (Decidable.not_not.mp y)] at q
        exact q
    | succ u ih =>
      intro m hm G1 f1 f2 f3 f4
      have g9 : G1 200 9 = (tw_k (a_W A) : Int) := by rw [f2 9 (by omega) (by omega) (by omega)]; exact cn.2.pep
      have cw : cm_W (a_W A) (sg_up G1 200 16 (m : Int)) := by
        refine ⟨⟨by rw [sg_upi (by omega), f2 7 (by omega) (by omega) (by omega)]; exact cn.2.pst, fun q hq => by rw [sg_upc (by omega), sg_upc (by omega), f1 207 (by omega) (by omega), f1 207 (by omega) (by omega)]; exact cn.2.1.2 q hq⟩, by rw [sg_upi (by omega), f2 9 (by omega) (by omega) (by omega)]; exact cn.2.pep, fun i hi => ?_⟩
        rw [sg_upc (by omega), sg_upc (by omega), sg_upc (by omega), sg_upc (by omega), f1 208 (by omega) (by omega), f1 208 (by omega) (by omega), f1 208 (by omega) (by omega), f1 208 (by omega) (by omega)]
        exact cn.2.2.2 i hi
      have ce : cm_E A.1.2.2 (sg_up G1 200 16 (m : Int)) := by
        refine ⟨by rw [sg_upi (by omega), f2 11 (by omega) (by omega) (by omega)]; exact cn.1.2.1.1, fun e he => ?_⟩
        rw [sg_upc (by omega), sg_upc (by omega), sg_upc (by omega), f1 209 (by omega) (by omega), f1 209 (by omega) (by omega), f1 209 (by omega) (by omega)]
        exact cn.1.2.1.2 e he
      refine g_M_hushOf_20 ⟨fun z => absurd z (by rw [g9]; omega), fun _ => c_M_lives (d := d) (E := A.1.2.2) (O := (0, (h : Int), 1, (m : Int))) ok.1.2.2 (show (0 : Nat) < 2147483648 by decide) ok.w cw ce ⟨by rw [sg_upi (by omega), f2 13 (by omega) (by omega) (by omega)]; exact cn.1.2.2.1.1, by rw [sg_upi (by omega)]; exact f3, by rw [sg_upi (by omega)]; exact f4, sg_up_at⟩ (fun G2 a b => ?_)⟩
      rw [tm_Y_hold te_all_0] at b
      have b : cm_I (a_W A) (ty_hold (a_Y A) h m) 24 G2 := b
      refine c_M_allNow ok.w (by rw [a 200 (by omega)]; exact cw.pst) b ?_
      have ih := ih (m + 1) (by omega) G2 (fun c x y i => by rw [a c x, sg_upc y]; exact f1 c x y i) (fun i x y z => by rw [a 200 (by omega), sg_upi z]; exact f2 i x y z) (by rw [a 200 (by omega), sg_upi (by omega)]; exact f3) (by rw [a 200 (by omega), sg_upi (by omega)]; exact f4)
      rw [sg_inc1 m (by omega)]
      have fb := td_all_in ok.w (ty_hold (a_Y A) h m)
      have fb : (fun v => td_all (a_W A) (ty_hold (a_Y A) h v) 24) m < 999 := fb.2
      rw [show td_all (a_W A) (ty_hold (a_Y A) h m) 24 = (fun v => td_all (a_W A) (ty_hold (a_Y A) h v) 24) m from rfl]
      generalize (fun v => td_all (a_W A) (ty_hold (a_Y A) h v) 24) = f at ih fb ⊢
      refine ⟨fun z => ?_, fun z => ?_⟩
      · have t := tm_ls_keep fb z
        rw [t.1] at ih
        rw [t.2]
        exact ih
      · have t := tm_ls_take fb z
        rw [t.1] at ih
        rw [t.2]
        exact ih
  exact g_M_hushOf_0 (loop (tw_k (a_W A)) 0 (by omega) _ (fun c x y i => by rw [sg_upc y, sg_upc y]) (fun i x y z => by rw [sg_upi y, sg_upi x]) (by rw [sg_upi (by omega), sg_up_at]) sg_up_at)
theorem c_M_dust {d : Nat} {A : TA} (ok : TAok A) {p w : Int} {G : SgM} {Q : Int → SgM → Prop} (cm : cM A G) (post : ∀ G', cM A G' → Q (a_dust A p w) G') : sg_Wp 200 228 (d + 8) m_M_dust 0 [(0, 2, 200), (1, 0, p), (2, 0, w)] [] G Q := by
  unfold a_dust at post
  refine g_M_dust_0 (d := d + 6) (c_M_find_A (d := d + 2) ok cm (fun G1 c1 cw ci => ⟨fun x => ⟨fun y => ?_, fun y => ?_⟩, fun x => ?_⟩))
  · rw [if_pos (by omega)] at post
    have e : ((p.toNat : Nat) : Int) = p := by omega
    have r := c_M_dustOf (d := d + 2) (Q := Q) ok (h := p.toNat) (by omega) y ⟨c1, cw⟩ (fun G2 f => post G2 (c1.fs f.fs))
    rw [e] at r
    exact r
  · rw [if_neg (by omega)] at post
    exact post G1 c1
  · rw [if_neg (by omega)] at post
    exact post G1 c1
theorem c_M_hush {d : Nat} {A : TA} (ok : TAok A) {p w : Int} {G : SgM} {Q : Int → SgM → Prop} (cm : cM A G) (post : ∀ G', cM A G' → Q (a_hush A p w) G') : sg_Wp 200 228 (d + 8) m_M_hush 0 [(0, 2, 200), (1, 0, p), (2, 0, w)] [] G Q := by
  unfold a_hush at post
  refine g_M_hush_0 (d := d + 6) (c_M_find_A (d := d + 2) ok cm (fun G1 c1 cw ci => ⟨fun x => ⟨fun y => ?_, fun y => ?_⟩, fun x => ?_⟩))
  · rw [if_pos (by omega)] at post
    have e : ((p.toNat : Nat) : Int) = p := by omega
    have r := c_M_hushOf (d := d + 2) (Q := Q) ok (h := p.toNat) (by omega) y ⟨c1, cw⟩ (fun G2 f => post G2 (c1.fs f.fs))
    rw [e] at r
    exact r
  · rw [if_neg (by omega)] at post
    exact post G1 c1
  · rw [if_neg (by omega)] at post
    exact post G1 c1
