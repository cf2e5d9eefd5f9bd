/-! THE FACE: what changes the state -/
def a_T0 (A : TA) (T : TT) : TA := ((T, A.1.2), A.2)
def a_T1 (A : TA) (T : TT) : TA := ((A.1.1, T, A.1.2.2), A.2)
def a_Ev (A : TA) (E : TE) : TA := ((A.1.1, A.1.2.1, E), A.2)
def a_Se (A : TA) (S : TS) : TA := (A.1, S, A.2.2)
def a_Zs (A : TA) (Z : TZ) : TA := (A.1, A.2.1, Z)
def tt_add (T : TT) (b : Int) : TT := (T.1 + 1, fun i => if i = T.1 then b else T.2 i)
def te_add (E : TE) (k h n : Int) : TE := (E.1 + 1, fun i => if i = E.1 then k else te_k E i, fun i => if i = E.1 then h else te_h E i, fun i => if i = E.1 then n else te_n E i)
def ts_add (S : TS) (h p x : Int) : TS := (S.1 + 1, fun i => if i = S.1 then h else ts_h S i, fun i => if i = S.1 then p else ts_p S i, fun i => if i = S.1 then x else ts_i S i)
theorem tt_add_ok {mx : Nat} {T : TT} (h : TTok mx T) (hl : T.1 < mx) {b : Int} (hb : 0 ≤ b ∧ b ≤ 255) : TTok mx (tt_add T b) := by
  refine ⟨hl, fun i hi => ?_⟩
  have hi : i < T.1 + 1 := hi
  show 0 ≤ (if i = T.1 then b else T.2 i) ∧ (if i = T.1 then b else T.2 i) ≤ 255
  by_cases e : i = T.1
  · rw [if_pos e]; exact hb
  · rw [if_neg e]; exact h.2 i (by omega)
theorem te_add_ok {E : TE} (h : TEok E) (hl : E.1 < 8) {k t n : Int} (hk : 0 ≤ k ∧ k < 3) (ht : 0 ≤ t ∧ t < 24) (hn : 0 ≤ n ∧ n < 10) : TEok (te_add E k t n) := by
  refine ⟨hl, fun i hi => ?_⟩
  have hi : i < E.1 + 1 := hi
  show (0 ≤ (if i = E.1 then k else te_k E i) ∧ (if i = E.1 then k else te_k E i) ≤ 2) ∧ (0 ≤ (if i = E.1 then t else te_h E i) ∧ (if i = E.1 then t else te_h E i) ≤ 23) ∧ 0 ≤ (if i = E.1 then n else te_n E i) ∧ (if i = E.1 then n else te_n E i) ≤ 9
  by_cases e : i = E.1
  · rw [if_pos e, if_pos e, if_pos e]; omega
  · rw [if_neg e, if_neg e, if_neg e]; exact h.2 i (by omega)
theorem ts_add_ok {S : TS} (h : TSok S) (hl : S.1 < 8) {t p x : Int} (ht : 0 ≤ t ∧ t < 24) (hp : 0 ≤ p ∧ p < 8) (hx : 0 ≤ x ∧ x < 2) : TSok (ts_add S t p x) := by
  refine ⟨hl, fun i hi => ?_⟩
  have hi : i < S.1 + 1 := hi
  show (0 ≤ (if i = S.1 then t else ts_h S i) ∧ (if i = S.1 then t else ts_h S i) ≤ 23) ∧ (0 ≤ (if i = S.1 then p else ts_p S i) ∧ (if i = S.1 then p else ts_p S i) ≤ 7) ∧ 0 ≤ (if i = S.1 then x else ts_i S i) ∧ (if i = S.1 then x else ts_i S i) ≤ 1
  by_cases e : i = S.1
  · rw [if_pos e, if_pos e, if_pos e]; omega
  · rw [if_neg e, if_neg e, if_neg e]; exact h.2 i (by omega)
/-- tellAnew, where the rest of the state is as it was -/
theorem c_K_tellA {d N : Nat} (hN : 44 ≤ N) {A A' : TA} (ok : cKok A'.1.1 A'.1.2.1 A'.1.2.2) (e : A'.2 = A.2) {G G1 : SgM} {Q : Int → SgM → Prop} (cg : cG A G) (f : ∀ c : Int, (46 ≤ c ∧ c ≤ 49) ∨ (67 ≤ c ∧ c ≤ 74) → ∀ i, G1 c i = G c i) (ca : cKa A'.1.1 A'.1.2.1 A'.1.2.2 G1)
    (post : ∀ G', (∀ i, G' 13 i = G1 13 i) → cG A' G' → Q 0 G') : sg_Wp 0 N (d + 7) m_K_tellAnew 0 [(0, 2, 0)] [] G1 Q :=
  c_K_tell hN ok ca (fun G' a k => post G' (a 13 (by omega)) ⟨k, by rw [e]; exact cg.2.1.fr (fun c x1 x2 i => by rw [a c (by omega)]; exact f c (by omega) i), by rw [e]; exact cg.2.2.fr (fun c x1 x2 i => by rw [a c (by omega)]; exact f c (by omega) i)⟩)
def a_type (A : TA) (t b : Int) : Int × TA := if a_is 2 t ∧ a_is 256 b then (if t = 0 then (if A.1.1.1 = 23 then (-4, A) else (((A.1.1.1 + 1 : Nat) : Int), a_T0 A (tt_add A.1.1 b))) else (if A.1.2.1.1 = 29 then (-4, A) else (((A.1.2.1.1 + 1 : Nat) : Int), a_T1 A (tt_add A.1.2.1 b)))) else (-2, A)
def a_wipe (A : TA) (t : Int) : Int × TA := if t = 0 then ((A.1.1.1 : Int), a_T0 A (0, A.1.1.2)) else if t = 1 then ((A.1.2.1.1 : Int), a_T1 A (0, A.1.2.1.2)) else (-2, A)
def a_undo (A : TA) (t : Int) : Int × TA := if t = 0 then (if A.1.1.1 = 0 then (-3, A) else (((A.1.1.1 - 1 : Nat) : Int), a_T0 A (A.1.1.1 - 1, A.1.1.2))) else if t = 1 then (if A.1.2.1.1 = 0 then (-3, A) else (((A.1.2.1.1 - 1 : Nat) : Int), a_T1 A (A.1.2.1.1 - 1, A.1.2.1.2))) else (-2, A)
def a_event (A : TA) (k h n : Int) : Int × TA := if a_is 3 k ∧ a_is 24 h ∧ a_is 10 n then (if A.1.2.2.1 = 8 then (-4, A) else (((A.1.2.2.1 + 1 : Nat) : Int), a_Ev A (te_add A.1.2.2 k h n))) else (-2, A)
def a_back (A : TA) : Int × TA := if A.1.2.2.1 = 0 then (-3, A) else (((A.1.2.2.1 - 1 : Nat) : Int), a_Ev A (A.1.2.2.1 - 1, A.1.2.2.2))
def a_seen (A : TA) (h p x : Int) : Int × TA := if a_is 24 h ∧ a_is 8 p ∧ a_is 2 x then (if A.2.1.1 = 8 then (-4, A) else (((A.2.1.1 + 1 : Nat) : Int), a_Se A (ts_add A.2.1 h p x))) else (-2, A)
def a_forget (A : TA) : Int × TA := ((A.2.1.1 : Int), a_Se A (0, A.2.1.2))
theorem c_G_type {d N : Nat} (hN : 75 ≤ N) {A : TA} (ok : TAok A) {t b : Int} {G : SgM} {Q : Int → SgM → Prop} (cg : cG A G) (post : ∀ G', cG (a_type A t b).2 G' → Q (a_type A t b).1 G') : sg_Wp 0 N (d + 8) m_G_type 0 [(0, 2, 44), (1, 0, t), (2, 0, b)] [] G Q := by
  have hN4 : 44 ≤ N := Nat.le_trans (by decide) hN
  obtain ⟨⟨o0, o1, oE⟩, oS, oZ⟩ := ok
  obtain ⟨c1, c3, cE⟩ := cg.1.1.1
  unfold a_type at post
  refine g_G_type_44_0 hN ⟨fun ht => ⟨fun hb => g_K_textOf_0_0 hN4 ⟨fun z => Or.inr ⟨rfl, ?_⟩, fun z => Or.inl ⟨rfl, ?_⟩⟩, fun hb => ?_⟩, fun ht => ?_⟩
  · rw [if_pos ⟨ht, hb⟩, if_neg z] at post
    refine c_T_add_3 hN4 o1 c3 ⟨fun h => ?_, fun h G1 f c => ?_⟩
    · rw [if_pos h] at post
      exact c_K_tellA hN4 (A := A) (A' := A) ⟨o0, o1, oE⟩ rfl cg (fun _ _ _ => rfl) cg.1.1.1 (fun G' _ k => post G' k)
    · rw [if_neg (by omega)] at post
      exact c_K_tellA hN4 (A := A) (A' := a_T1 A (tt_add A.1.2.1 b)) ⟨o0, tt_add_ok o1 h (by omega), oE⟩ rfl cg (fun c x => f c (by omega) (by omega)) ⟨c1.fr (fun c x1 x2 => f c (by omega) (by omega)), c, cE.fr (fun c x1 x2 => f c (by omega) (by omega))⟩ (fun G' _ k => post G' k)
  · rw [if_pos ⟨ht, hb⟩, if_pos (Decidable.not_not.mp z)] at post
    refine c_T_add_1 hN4 o0 c1 ⟨fun h => ?_, fun h G1 f c => ?_⟩
    · rw [if_pos h] at post
      exact c_K_tellA hN4 (A := A) (A' := A) ⟨o0, o1, oE⟩ rfl cg (fun _ _ _ => rfl) cg.1.1.1 (fun G' _ k => post G' k)
    · rw [if_neg (by omega)] at post
      exact c_K_tellA hN4 (A := A) (A' := a_T0 A (tt_add A.1.1 b)) ⟨tt_add_ok o0 h (by omega), o1, oE⟩ rfl cg (fun c x => f c (by omega) (by omega)) ⟨c, c3.fr (fun c x1 x2 => f c (by omega) (by omega)), cE.fr (fun c x1 x2 => f c (by omega) (by omega))⟩ (fun G' _ k => post G' k)
  · rw [if_neg (fun z => hb z.2)] at post
    exact post G cg
  · rw [if_neg (fun z => ht z.1)] at post
    exact post G cg
theorem c_G_wipe {d N : Nat} (hN : 75 ≤ N) {A : TA} (ok : TAok A) {t : Int} {G : SgM} {Q : Int → SgM → Prop} (cg : cG A G) (post : ∀ G', cG (a_wipe A t).2 G' → Q (a_wipe A t).1 G') : sg_Wp 0 N (d + 8) m_G_wipe 0 [(0, 2, 44), (1, 0, t)] [] G Q := by
  have hN4 : 44 ≤ N := Nat.le_trans (by decide) hN
  obtain ⟨⟨o0, o1, oE⟩, oS, oZ⟩ := ok
  obtain ⟨c1, c3, cE⟩ := cg.1.1.1
  unfold a_wipe at post
  refine g_G_wipe_44_0 hN ⟨fun ht => g_K_textOf_0_0 hN4 ⟨fun z => Or.inr ⟨rfl, ?_⟩, fun z => Or.inl ⟨rfl, ?_⟩⟩, fun ht => ?_⟩
  · rw [if_neg z, if_pos (by omega)] at post
    exact c_T_clear_3 hN4 c3 (fun G1 f c => c_K_tellA hN4 (A := A) (A' := a_T1 A (0, A.1.2.1.2)) ⟨o0, ⟨Nat.zero_le _, fun i hi => absurd hi (Nat.not_lt_zero _)⟩, oE⟩ rfl cg (fun c x => f c (by omega)) ⟨c1.fr (fun c x1 x2 => f c (by omega)), c, cE.fr (fun c x1 x2 => f c (by omega))⟩ (fun G' _ k => post G' k))
  · rw [if_pos (Decidable.not_not.mp z)] at post
    exact c_T_clear_1 hN4 c1 (fun G1 f c => c_K_tellA hN4 (A := A) (A' := a_T0 A (0, A.1.1.2)) ⟨⟨Nat.zero_le _, fun i hi => absurd hi (Nat.not_lt_zero _)⟩, o1, oE⟩ rfl cg (fun c x => f c (by omega)) ⟨c, c3.fr (fun c x1 x2 => f c (by omega)), cE.fr (fun c x1 x2 => f c (by omega))⟩ (fun G' _ k => post G' k))
  · rw [if_neg (by omega), if_neg (by omega)] at post
    exact post G cg
theorem c_G_undo {d N : Nat} (hN : 75 ≤ N) {A : TA} (ok : TAok A) {t : Int} {G : SgM} {Q : Int → SgM → Prop} (cg : cG A G) (post : ∀ G', cG (a_undo A t).2 G' → Q (a_undo A t).1 G') : sg_Wp 0 N (d + 8) m_G_undo 0 [(0, 2, 44), (1, 0, t)] [] G Q := by
  have hN4 : 44 ≤ N := Nat.le_trans (by decide) hN
  obtain ⟨⟨o0, o1, oE⟩, oS, oZ⟩ := ok
  obtain ⟨c1, c3, cE⟩ := cg.1.1.1
  unfold a_undo at post
  refine g_G_undo_44_0 hN ⟨fun ht => g_K_textOf_0_0 hN4 ⟨fun z => Or.inr ⟨rfl, ?_⟩, fun z => Or.inl ⟨rfl, ?_⟩⟩, fun ht => ?_⟩
  · rw [if_neg z, if_pos (by omega)] at post
    refine c_T_dropLast_3 hN4 o1 c3 ⟨fun h => ?_, fun h G1 f c => ?_⟩
    · rw [if_pos h] at post
      exact c_K_tellA hN4 (A := A) (A' := A) ⟨o0, o1, oE⟩ rfl cg (fun _ _ _ => rfl) cg.1.1.1 (fun G' _ k => post G' k)
    · rw [if_neg h] at post
      exact c_K_tellA hN4 (A := A) (A' := a_T1 A (A.1.2.1.1 - 1, A.1.2.1.2)) ⟨o0, ⟨Nat.le_trans (Nat.sub_le _ _) o1.1, fun i hi => o1.2 i (Nat.lt_of_lt_of_le hi (Nat.sub_le _ _))⟩, oE⟩ rfl cg (fun c x => f c (by omega)) ⟨c1.fr (fun c x1 x2 => f c (by omega)), c, cE.fr (fun c x1 x2 => f c (by omega))⟩ (fun G' _ k => post G' k)
  · rw [if_pos (Decidable.not_not.mp z)] at post
    refine c_T_dropLast_1 hN4 o0 c1 ⟨fun h => ?_, fun h G1 f c => ?_⟩
    · rw [if_pos h] at post
      exact c_K_tellA hN4 (A := A) (A' := A) ⟨o0, o1, oE⟩ rfl cg (fun _ _ _ => rfl) cg.1.1.1 (fun G' _ k => post G' k)
    · rw [if_neg h] at post
      exact c_K_tellA hN4 (A := A) (A' := a_T0 A (A.1.1.1 - 1, A.1.1.2)) ⟨⟨Nat.le_trans (Nat.sub_le _ _) o0.1, fun i hi => o0.2 i (Nat.lt_of_lt_of_le hi (Nat.sub_le _ _))⟩, o1, oE⟩ rfl cg (fun c x => f c (by omega)) ⟨c, c3.fr (fun c x1 x2 => f c (by omega)), cE.fr (fun c x1 x2 => f c (by omega))⟩ (fun G' _ k => post G' k)
  · rw [if_neg (by omega), if_neg (by omega)] at post
    exact post G cg
theorem c_G_event {d N : Nat} (hN : 75 ≤ N) {A : TA} (ok : TAok A) {k h n : Int} {G : SgM} {Q : Int → SgM → Prop} (cg : cG A G) (post : ∀ G', cG (a_event A k h n).2 G' → Q (a_event A k h n).1 G') : sg_Wp 0 N (d + 8) m_G_event 0 [(0, 2, 44), (1, 0, k), (2, 0, h), (3, 0, n)] [] G Q := by
  have hN4 : 44 ≤ N := Nat.le_trans (by decide) hN
  obtain ⟨⟨o0, o1, oE⟩, oS, oZ⟩ := ok
  obtain ⟨c1, c3, cE⟩ := cg.1.1.1
  have oE8 := oE.1
  unfold a_event at post
  refine g_G_event_44_0 (d := d + 6) hN ⟨fun hb => c_E_add_13 hN4 oE cE ⟨fun h8 G1 f c => ⟨fun _ => ?_, fun z => absurd (by decide) z⟩, fun h8 => ⟨fun z => absurd rfl z, fun _ => ?_⟩⟩, fun hb => ?_⟩
  · rw [if_pos (show a_is 3 k ∧ a_is 24 h ∧ a_is 10 n from hb), if_neg (by omega)] at post
    refine c_K_tellA hN4 (A := A) (A' := a_Ev A (te_add A.1.2.2 k h n)) ⟨o0, o1, te_add_ok oE h8 hb.1 hb.2.1 hb.2.2⟩ rfl cg (fun c x => f c (by omega)) ⟨c1.fr (fun c x1 x2 => f c (by omega)), c3.fr (fun c x1 x2 => f c (by omega)), c⟩ (fun G' e k' => ?_)
    rw [e, c.1]
    exact post G' k'
  · rw [if_pos (show a_is 3 k ∧ a_is 24 h ∧ a_is 10 n from hb), if_pos h8] at post
    exact post G cg
  · rw [if_neg (show ¬ (a_is 3 k ∧ a_is 24 h ∧ a_is 10 n) from hb)] at post
    exact post G cg
theorem c_G_back {d N : Nat} (hN : 75 ≤ N) {A : TA} (ok : TAok A) {G : SgM} {Q : Int → SgM → Prop} (cg : cG A G) (post : ∀ G', cG (a_back A).2 G' → Q (a_back A).1 G') : sg_Wp 0 N (d + 8) m_G_back 0 [(0, 2, 44)] [] G Q := by
  have hN4 : 44 ≤ N := Nat.le_trans (by decide) hN
  obtain ⟨⟨o0, o1, oE⟩, oS, oZ⟩ := ok
  obtain ⟨c1, c3, cE⟩ := cg.1.1.1
  have oE8 := oE.1
  unfold a_back at post
  refine g_G_back_44_0 hN ⟨fun z => ?_, fun z => ?_⟩
  · rw [cE.1] at z ⊢
    rw [if_neg (by omega)] at post
    have e1 : sg_isub (A.1.2.2.1 : Int) 1 = ((A.1.2.2.1 - 1 : Nat) : Int) := by rw [sg_isub_eq (by omega) (by omega)]; omega
    rw [e1]
    refine c_K_tellA hN4 (A := A) (A' := a_Ev A (A.1.2.2.1 - 1, A.1.2.2.2)) ⟨o0, o1, ⟨Nat.le_trans (Nat.sub_le _ _) oE.1, fun i hi => oE.2 i (Nat.lt_of_lt_of_le hi (Nat.sub_le _ _))⟩⟩ rfl cg (fun c x i => sg_upc (by omega)) ⟨c1.fr (fun c x1 x2 i => sg_upc (by omega)), c3.fr (fun c x1 x2 i => sg_upc (by omega)), ⟨by rw [sg_up_at]; rfl, fun i hi => ?_⟩⟩ (fun G' e k' => ?_)
    · have hi : i < A.1.2.2.1 - 1 := hi
      rw [sg_upc (by omega), sg_upc (by omega), sg_upc (by omega)]
      exact cE.2 i (by omega)
    · rw [e, sg_up_at]
      exact post G' k'
  · rw [cE.1] at z
    rw [if_pos (by omega)] at post
    exact post G cg
theorem c_G_seen {d N : Nat} (hN : 75 ≤ N) {A : TA} (ok : TAok A) {h p x : Int} {G : SgM} {Q : Int → SgM → Prop} (cg : cG A G) (post : ∀ G', cG (a_seen A h p x).2 G' → Q (a_seen A h p x).1 G') : sg_Wp 0 N (d + 1) m_G_seen 0 [(0, 2, 44), (1, 0, h), (2, 0, p), (3, 0, x)] [] G Q := by
  unfold a_seen at post
  refine g_G_seen_44_0 hN ⟨fun h1 => ⟨fun h2 => ⟨fun h3 => c_H_see hN ok.2.1 cg.2.1 ⟨fun h8 G1 f c => ?_, fun h8 => ?_⟩, fun h3 => ?_⟩, fun h2 => ?_⟩, fun h1 => ?_⟩
  · rw [if_pos ⟨h1, h2, h3⟩, if_neg (by omega)] at post
    exact post G1 ⟨cg.1.fr (fun c x => f c (by omega)), c, cg.2.2.fr (fun c x1 x2 => f c (by omega))⟩
  · rw [if_pos ⟨h1, h2, h3⟩, if_pos h8] at post
    exact post G cg
  · rw [if_neg (fun z => h3 z.2.2)] at post
    exact post G cg
  · rw [if_neg (fun z => h2 z.2.1)] at post
    exact post G cg
  · rw [if_neg (fun z => h1 z.1)] at post
    exact post G cg
theorem c_G_forget {d N : Nat} (hN : 75 ≤ N) {A : TA} {G : SgM} {Q : Int → SgM → Prop} (cg : cG A G) (post : ∀ G', cG (a_forget A).2 G' → Q (a_forget A).1 G') : sg_Wp 0 N d m_G_forget 0 [(0, 2, 44)] [] G Q := by
  refine g_G_forget_44_0 hN ?_
  rw [cg.2.1.1]
  exact post _ ⟨cg.1.fr (fun c x i => sg_upc (by omega)), ⟨by rw [sg_up_at]; rfl, fun i hi => absurd hi (Nat.not_lt_zero _)⟩, cg.2.2.fr (fun c x1 x2 i => sg_upc (by omega))⟩
