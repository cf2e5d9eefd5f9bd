/-! EVENTS, and the WEATHER that they make -/
abbrev TE : Type := Nat × (Nat → Int) × (Nat → Int) × (Nat → Int)
def te_k (E : TE) : Nat → Int := E.2.1
def te_h (E : TE) : Nat → Int := E.2.2.1
def te_n (E : TE) : Nat → Int := E.2.2.2
def TEok (E : TE) : Prop := E.1 ≤ 8 ∧ ∀ e : Nat, e < E.1 → (0 ≤ te_k E e ∧ te_k E e ≤ 2) ∧ (0 ≤ te_h E e ∧ te_h E e ≤ 23) ∧ 0 ≤ te_n E e ∧ te_n E e ≤ 9
def te_all (E : TE) : Nat := sg_mk (fun _ => true) E.1
theorem te_all_lt {E : TE} (hE : TEok E) : te_all E < 256 := by
  have h1 := sg_mk_lt (fun _ => true) E.1
  have h2 : 2 ^ E.1 ≤ 2 ^ 8 := Nat.pow_le_pow_right (by omega) hE.1
  unfold te_all
  omega
def ty_up (E : TE) (w : Nat) (k : Int) (m h c : Nat) : Bool := (List.range m).any (fun e => w.testBit e && decide (te_k E e = k ∧ te_h E e = (h : Int) ∧ te_n E e = (c : Int)))
def ty_fr (E : TE) (w m h : Nat) : Bool := (List.range m).any (fun e => w.testBit e && decide (te_k E e = 2 ∧ te_h E e = (h : Int)))
def ty_m (E : TE) (w m : Nat) : TY := (ty_up E w 0 m, ty_up E w 1 m, ty_fr E w m)
def ty_of (E : TE) (w : Nat) : TY := ty_m E w E.1
theorem ty_up_s (E : TE) (w : Nat) (k : Int) (m h c : Nat) : ty_up E w k (m + 1) h c = (ty_up E w k m h c || (w.testBit m && decide (te_k E m = k ∧ te_h E m = (h : Int) ∧ te_n E m = (c : Int)))) := by
  unfold ty_up
  rw [List.range_succ, List.any_append]
  simp
theorem ty_fr_s (E : TE) (w m h : Nat) : ty_fr E w (m + 1) h = (ty_fr E w m h || (w.testBit m && decide (te_k E m = 2 ∧ te_h E m = (h : Int)))) := by
  unfold ty_fr
  rw [List.range_succ, List.any_append]
  simp
theorem ty_up_n {E : TE} {w : Nat} {k : Int} {m h : Nat} (n : ¬ (w.testBit m = true ∧ te_k E m = k ∧ te_h E m = (h : Int))) : ty_up E w k (m + 1) h = ty_up E w k m h := by
  funext c
  rw [ty_up_s]
  have e : (w.testBit m && decide (te_k E m = k ∧ te_h E m = (h : Int) ∧ te_n E m = (c : Int))) = false := by
    rw [Bool.eq_false_iff]
    intro q
    rw [Bool.and_eq_true, decide_eq_true_eq] at q
    exact n ⟨q.1, q.2.1, q.2.2.1⟩
  rw [e, Bool.or_false]
theorem ty_up_y {E : TE} {w : Nat} {k : Int} {m a b : Nat} (bit : w.testBit m = true) (ek : te_k E m = k) (eh : te_h E m = (a : Int)) (en : te_n E m = (b : Int)) : ty_up E w k (m + 1) a = fun i => ty_up E w k m a i || decide (i = b) := by
  funext c
  rw [ty_up_s, bit, ek, eh, en, Bool.true_and]
  congr 1
  apply decide_eq_decide.mpr
  omega
theorem ty_fr_n {E : TE} {w m h : Nat} (n : ¬ (w.testBit m = true ∧ te_k E m = 2 ∧ te_h E m = (h : Int))) : ty_fr E w (m + 1) h = ty_fr E w m h := by
  rw [ty_fr_s]
  have e : (w.testBit m && decide (te_k E m = 2 ∧ te_h E m = (h : Int))) = false := by
    rw [Bool.eq_false_iff]
    intro q
    rw [Bool.and_eq_true, decide_eq_true_eq] at q
    exact n ⟨q.1, q.2.1, q.2.2⟩
  rw [e, Bool.or_false]
theorem ty_fr_y {E : TE} {w m a : Nat} (bit : w.testBit m = true) (ek : te_k E m = 2) (eh : te_h E m = (a : Int)) : ty_fr E w (m + 1) a = true := by
  rw [ty_fr_s, bit, ek, eh]
  simp
/-- one event more -/
theorem c_Y_add {d N : Nat} (hN : 44 ≤ N) {E : TE} (hE : TEok E) {w m : Nat} (hm : m < E.1) (bit : w.testBit m = true) {G : SgM} {Q : Int → SgM → Prop} (cY : cw_Y (ty_m E w m) G)
    (post : ∀ G', (∀ c : Int, c ≠ 18 → c ≠ 19 → c ≠ 20 → ∀ i, G' c i = G c i) → cw_Y (ty_m E w (m + 1)) G' → Q 0 G') : sg_Wp 0 N d m_Y_add 0 [(0, 2, 17), (1, 0, te_k E m), (2, 0, te_h E m), (3, 0, te_n E m)] [] G Q := by
  have b := hE.2 m hm
  obtain ⟨a, ea⟩ := Int.eq_ofNat_of_zero_le b.2.1.1
  obtain ⟨c, ec⟩ := Int.eq_ofNat_of_zero_le b.2.2.1
  rw [ea, ec]
  have ha : a < 24 := by omega
  have hc : c < 10 := by omega
  have ya := cY a ha
  refine g_Y_add_17_0 hN ⟨fun q => ⟨fun q2 => ⟨by omega, post _ (fun c1 x1 x2 x3 i => sg_upc x3) (fun h hh => ?_)⟩, fun q2 => ⟨by omega, by omega, post _ (fun c1 x1 x2 x3 i => sg_upc x2) (fun h hh => ?_)⟩⟩, fun q => ⟨by omega, by omega, post _ (fun c1 x1 x2 x3 i => sg_upc x1) (fun h hh => ?_)⟩⟩
  · have ek : te_k E m = 2 := by omega
    have y := cY h hh
    refine ⟨?_, ?_, ?_⟩
    · rw [sg_upc (by omega), show (ty_m E w (m + 1)).1 h = (ty_m E w m).1 h from ty_up_n (fun z => by omega)]; exact y.1
    · rw [sg_upc (by omega), show (ty_m E w (m + 1)).2.1 h = (ty_m E w m).2.1 h from ty_up_n (fun z => by omega)]; exact y.2.1
    · by_cases e : h = a
      · subst e
        rw [sg_up_at, show (ty_m E w (m + 1)).2.2 h = true from ty_fr_y bit ek ea]
        rfl
      · rw [sg_upi (by omega), show (ty_m E w (m + 1)).2.2 h = (ty_m E w m).2.2 h from ty_fr_n (fun z => by omega)]; exact y.2.2
  · have ek : te_k E m = 1 := by omega
    have y := cY h hh
    refine ⟨?_, ?_, ?_⟩
    · rw [sg_upc (by omega), show (ty_m E w (m + 1)).1 h = (ty_m E w m).1 h from ty_up_n (fun z => by omega)]; exact y.1
    · by_cases e : h = a
      · subst e
        rw [sg_up_at, ya.2.1, sg_mk_set (by omega) hc, show (ty_m E w (m + 1)).2.1 h = (fun i => (ty_m E w m).2.1 h i || decide (i = c)) from ty_up_y bit ek ea ec]
      · rw [sg_upi (by omega), show (ty_m E w (m + 1)).2.1 h = (ty_m E w m).2.1 h from ty_up_n (fun z => by omega)]; exact y.2.1
    · rw [sg_upc (by omega), show (ty_m E w (m + 1)).2.2 h = (ty_m E w m).2.2 h from ty_fr_n (fun z => by omega)]; exact y.2.2
  · have ek : te_k E m = 0 := by omega
    have y := cY h hh
    refine ⟨?_, ?_, ?_⟩
    · by_cases e : h = a
      · subst e
        rw [sg_up_at, ya.1, sg_mk_set (by omega) hc, show (ty_m E w (m + 1)).1 h = (fun i => (ty_m E w m).1 h i || decide (i = c)) from ty_up_y bit ek ea ec]
      · rw [sg_upi (by omega), show (ty_m E w (m + 1)).1 h = (ty_m E w m).1 h from ty_up_n (fun z => by omega)]; exact y.1
    · rw [sg_upc (by omega), show (ty_m E w (m + 1)).2.1 h = (ty_m E w m).2.1 h from ty_up_n (fun z => by omega)]; exact y.2.1
    · rw [sg_upc (by omega), show (ty_m E w (m + 1)).2.2 h = (ty_m E w m).2.2 h from ty_fr_n (fun z => by omega)]; exact y.2.2

/-- events 13 in the memory -/
def cE13 (E : TE) (G : SgM) : Prop := G 13 0 = (E.1 : Int) ∧ ∀ i : Nat, i < E.1 → G 14 i = te_k E i ∧ G 15 i = te_h E i ∧ G 16 i = te_n E i
theorem cE13.fr {E : TE} {G G' : SgM} (h : cE13 E G) (f : ∀ c : Int, 13 ≤ c → c ≤ 16 → ∀ i, G' c i = G c i) : cE13 E G' :=
  ⟨by rw [f 13 (by omega) (by omega)]; exact h.1, fun i hi => by rw [f 14 (by omega) (by omega), f 15 (by omega) (by omega), f 16 (by omega) (by omega)]; exact h.2 i hi⟩
theorem c_E_add_13 {d N : Nat} (hN : 44 ≤ N) {E : TE} (hE : TEok E) {k h n : Int} {G : SgM} {Q : Int → SgM → Prop} (cE : cE13 E G)
    (post : (E.1 < 8 → ∀ G', (∀ c : Int, (c < 13 ∨ 16 < c) → ∀ i, G' c i = G c i) → cE13 (E.1 + 1, fun i => if i = E.1 then k else te_k E i, fun i => if i = E.1 then h else te_h E i, fun i => if i = E.1 then n else te_n E i) G' → Q 1 G') ∧ (E.1 = 8 → Q 0 G)) : sg_Wp 0 N d m_E_add 0 [(0, 2, 13), (1, 0, k), (2, 0, h), (3, 0, n)] [] G Q := by
  obtain ⟨c0, ci⟩ := cE
  have hn := hE.1
  refine g_E_add_13_0 hN ⟨fun q => ⟨by rw [c0] at q ⊢; omega, by rw [c0] at q ⊢; omega, by rw [c0] at q ⊢; omega, ?_⟩, fun q => post.2 (by rw [c0] at q; omega)⟩
  rw [c0] at q ⊢
  rw [sg_inc1 _ (by omega)]
  refine post.1 (by omega) _ (fun c hc i => by simp (disch := omega) only [sg_up_at, sg_upc, sg_upi]) ⟨by simp (disch := omega) only [sg_up_at, sg_upc, sg_upi], fun i hi => ?_⟩
  by_cases e : i = E.1
  · subst e
    refine ⟨?_, ?_, ?_⟩
    · rw [sg_upc (by omega), sg_upc (by omega), sg_upc (by omega), sg_up_at]; exact (if_pos rfl).symm
    · rw [sg_upc (by omega), sg_upc (by omega), sg_up_at]; exact (if_pos rfl).symm
    · rw [sg_upc (by omega), sg_up_at]; exact (if_pos rfl).symm
  · have hi : i < E.1 + 1 := hi
    have c := ci i (by omega)
    refine ⟨?_, ?_, ?_⟩
    · rw [sg_upc (by omega), sg_upc (by omega), sg_upc (by omega), sg_upi (by omega)]; exact c.1.trans (if_neg e).symm
    · rw [sg_upc (by omega), sg_upc (by omega), sg_upi (by omega), sg_upc (by omega)]; exact c.2.1.trans (if_neg e).symm
    · rw [sg_upc (by omega), sg_upi (by omega), sg_upc (by omega), sg_upc (by omega)]; exact c.2.2.trans (if_neg e).symm
theorem c_E_every_13 {d N : Nat} (hN : 44 ≤ N) {E : TE} (hE : TEok E) {G : SgM} {Q : Int → SgM → Prop} (cE : cE13 E G) (post : Q (te_all E : Int) G) : sg_Wp 0 N d m_E_everyBit 0 [(0, 2, 13)] [] G Q := by
  have hn := hE.1
  refine g_E_everyBit_13_0 hN ?_
  rw [cE.1, sg_mk_full (by omega)]
  exact post
theorem c_Y_load_13 {d N : Nat} (hN : 44 ≤ N) {E : TE} (hE : TEok E) {w : Nat} (hw : w < 2147483648) {G : SgM} {Q : Int → SgM → Prop} (cE : cE13 E G)
    (post : ∀ G', (∀ c : Int, c ≠ 18 → c ≠ 19 → c ≠ 20 → ∀ i, G' c i = G c i) → cw_Y (ty_of E w) G' → Q 0 G') : sg_Wp 0 N (d + 1) m_Y_load 0 [(0, 2, 17), (1, 2, 13), (2, 0, (w : Int))] [] G Q := by
  obtain ⟨c0, ci⟩ := cE
  have hn := hE.1
  have second : ∀ (r m : Nat), m + r = E.1 → ∀ G1 : SgM, (∀ c : Int, c ≠ 18 → c ≠ 19 → c ≠ 20 → ∀ i, G1 c i = G c i) → cw_Y (ty_m E w m) G1 → sg_Wp 0 N (d + 1) m_Y_load 37 [(0, 2, 17), (1, 2, 13), (2, 0, (w : Int)), (3, 0, (m : Int))] [] G1 Q := by
    intro r
    induction r with
    | zero =>
      intro m hm G1 f1 f2
      have em : m = E.1 := by omega
      subst em
      exact g_Y_load_17_13_37 hN ⟨fun _ => post G1 f1 f2, fun q => absurd (by rw [f1 13 (by omega) (by omega) (by omega), c0]; omega) q⟩
    | succ r ih =>
      intro m hm G1 f1 f2
      have hm' : m < E.1 := by omega
      have b := hE.2 m hm'
      have en := sg_inc1 m (by omega)
      have x := ci m hm'
      have bb := sg_bit_nat (a := w) (k := m) (by omega) hw
      have g1 : G1 14 m = te_k E m := by rw [f1 14 (by omega) (by omega) (by omega)]; exact x.1
      have g2 : G1 15 m = te_h E m := by rw [f1 15 (by omega) (by omega) (by omega)]; exact x.2.1
      have g3 : G1 16 m = te_n E m := by rw [f1 16 (by omega) (by omega) (by omega)]; exact x.2.2
      refine g_Y_load_17_13_37 hN ⟨fun q => absurd q (by rw [f1 13 (by omega) (by omega) (by omega), c0]; omega), fun _ => ⟨fun q => ⟨by omega, fun _ => ⟨by omega, by omega, by omega, ?_⟩, fun q2 => absurd (by rw [g2]; omega) q2⟩, fun q => ?_⟩⟩
      · have bit : w.testBit m = true := by
          cases t : w.testBit m with
          | true => rfl
          | false => rw [bb, t] at q; exact absurd rfl q
        rw [g1, g2, g3, en]
        exact c_Y_add (Nat.le_trans (by decide) hN) hE hm' bit f2 (fun G2 k1 k2 => ih (m + 1) (by omega) G2 (fun c x1 x2 x3 i => by rw [k1 c x1 x2 x3, f1 c x1 x2 x3]) k2)
      · have bit : w.testBit m = false := by
          cases t : w.testBit m with
          | false => rfl
          | true => rw [bb, t] at q; exact absurd (by decide) q
        rw [en]
        refine ih (m + 1) (by omega) G1 f1 (fun h hh => ?_)
        have y := f2 h hh
        rw [show (ty_m E w (m + 1)).1 h = (ty_m E w m).1 h from ty_up_n (fun z => by rw [bit] at z; exact absurd z.1 (by decide)), show (ty_m E w (m + 1)).2.1 h = (ty_m E w m).2.1 h from ty_up_n (fun z => by rw [bit] at z; exact absurd z.1 (by decide)), show (ty_m E w (m + 1)).2.2 h = (ty_m E w m).2.2 h from ty_fr_n (fun z => by rw [bit] at z; exact absurd z.1 (by decide))]
        exact y
  have first : ∀ (r m : Nat), m + r = 24 → ∀ G1 : SgM, (∀ c : Int, c ≠ 18 → c ≠ 19 → c ≠ 20 → ∀ i, G1 c i = G c i) → (∀ h : Nat, h < m → G1 18 h = 0 ∧ G1 19 h = 0 ∧ G1 20 h = 0) → sg_Wp 0 N (d + 1) m_Y_load 2 [(0, 2, 17), (1, 2, 13), (2, 0, (w : Int)), (3, 0, (m : Int))] [] G1 Q := by
    intro r
    induction r with
    | zero =>
      intro m hm G1 f1 f2
      refine g_Y_load_17_13_2 hN ⟨fun _ => ?_, fun q => absurd (by omega) q⟩
      refine second E.1 0 (by omega) G1 f1 (fun h hh => ?_)
      have y := f2 h (by omega)
      have z1 : sg_mk ((ty_m E w 0).1 h) 10 = 0 := sg_mk_zero.mpr (fun _ _ => rfl)
      have z2 : sg_mk ((ty_m E w 0).2.1 h) 10 = 0 := sg_mk_zero.mpr (fun _ _ => rfl)
      rw [z1, z2]
      exact y
    | succ r ih =>
      intro m hm G1 f1 f2
      refine g_Y_load_17_13_2 hN ⟨fun q => absurd q (by omega), fun _ => ⟨by omega, by omega, by omega, ?_⟩⟩
      rw [sg_inc1 m (by omega)]
      refine ih (m + 1) (by omega) _ (fun c x1 x2 x3 i => by rw [sg_upc x3, sg_upc x2, sg_upc x1]; exact f1 c x1 x2 x3 i) (fun h hh => ?_)
      by_cases e : h = m
      · subst e
        refine ⟨?_, ?_, ?_⟩
        · rw [sg_upc (by omega), sg_upc (by omega), sg_up_at]
        · rw [sg_upc (by omega), sg_up_at]
        · rw [sg_up_at]
      · have y := f2 h (by omega)
        refine ⟨?_, ?_, ?_⟩
        · rw [sg_upc (by omega), sg_upc (by omega), sg_upi (by omega)]; exact y.1
        · rw [sg_upc (by omega), sg_upi (by omega), sg_upc (by omega)]; exact y.2.1
        · rw [sg_upi (by omega), sg_upc (by omega), sg_upc (by omega)]; exact y.2.2
  exact g_Y_load_17_13_0 hN (first 24 0 (by omega) G (fun _ _ _ _ _ => rfl) (fun h hh => absurd hh (Nat.not_lt_zero _)))

/-- events 63 in the memory -/
def cE63 (E : TE) (G : SgM) : Prop := G 63 0 = (E.1 : Int) ∧ ∀ i : Nat, i < E.1 → G 64 i = te_k E i ∧ G 65 i = te_h E i ∧ G 66 i = te_n E i
theorem cE63.fr {E : TE} {G G' : SgM} (h : cE63 E G) (f : ∀ c : Int, 63 ≤ c → c ≤ 66 → ∀ i, G' c i = G c i) : cE63 E G' :=
  ⟨by rw [f 63 (by omega) (by omega)]; exact h.1, fun i hi => by rw [f 64 (by omega) (by omega), f 65 (by omega) (by omega), f 66 (by omega) (by omega)]; exact h.2 i hi⟩
theorem c_E_add_63 {d N : Nat} (hN : 75 ≤ N) {E : TE} (hE : TEok E) {k h n : Int} {G : SgM} {Q : Int → SgM → Prop} (cE : cE63 E G)
    (post : (E.1 < 8 → ∀ G', (∀ c : Int, (c < 63 ∨ 66 < c) → ∀ i, G' c i = G c i) → cE63 (E.1 + 1, fun i => if i = E.1 then k else te_k E i, fun i => if i = E.1 then h else te_h E i, fun i => if i = E.1 then n else te_n E i) G' → Q 1 G') ∧ (E.1 = 8 → Q 0 G)) : sg_Wp 0 N d m_E_add 0 [(0, 2, 63), (1, 0, k), (2, 0, h), (3, 0, n)] [] G Q := by
  obtain ⟨c0, ci⟩ := cE
  have hn := hE.1
  refine g_E_add_63_0 hN ⟨fun q => ⟨by rw [c0] at q ⊢; omega, by rw [c0] at q ⊢; omega, by rw [c0] at q ⊢; omega, ?_⟩, fun q => post.2 (by rw [c0] at q; omega)⟩
  rw [c0] at q ⊢
  rw [sg_inc1 _ (by omega)]
  refine post.1 (by omega) _ (fun c hc i => by simp (disch := omega) only [sg_up_at, sg_upc, sg_upi]) ⟨by simp (disch := omega) only [sg_up_at, sg_upc, sg_upi], fun i hi => ?_⟩
  by_cases e : i = E.1
  · subst e
    refine ⟨?_, ?_, ?_⟩
    · rw [sg_upc (by omega), sg_upc (by omega), sg_upc (by omega), sg_up_at]; exact (if_pos rfl).symm
    · rw [sg_upc (by omega), sg_upc (by omega), sg_up_at]; exact (if_pos rfl).symm
    · rw [sg_upc (by omega), sg_up_at]; exact (if_pos rfl).symm
  · have hi : i < E.1 + 1 := hi
    have c := ci i (by omega)
    refine ⟨?_, ?_, ?_⟩
    · rw [sg_upc (by omega), sg_upc (by omega), sg_upc (by omega), sg_upi (by omega)]; exact c.1.trans (if_neg e).symm
    · rw [sg_upc (by omega), sg_upc (by omega), sg_upi (by omega), sg_upc (by omega)]; exact c.2.1.trans (if_neg e).symm
    · rw [sg_upc (by omega), sg_upi (by omega), sg_upc (by omega), sg_upc (by omega)]; exact c.2.2.trans (if_neg e).symm
theorem c_E_every_63 {d N : Nat} (hN : 75 ≤ N) {E : TE} (hE : TEok E) {G : SgM} {Q : Int → SgM → Prop} (cE : cE63 E G) (post : Q (te_all E : Int) G) : sg_Wp 0 N d m_E_everyBit 0 [(0, 2, 63)] [] G Q := by
  have hn := hE.1
  refine g_E_everyBit_63_0 hN ?_
  rw [cE.1, sg_mk_full (by omega)]
  exact post
theorem c_Y_load_63 {d N : Nat} (hN : 75 ≤ N) {E : TE} (hE : TEok E) {w : Nat} (hw : w < 2147483648) {G : SgM} {Q : Int → SgM → Prop} (cE : cE63 E G)
    (post : ∀ G', (∀ c : Int, c ≠ 18 → c ≠ 19 → c ≠ 20 → ∀ i, G' c i = G c i) → cw_Y (ty_of E w) G' → Q 0 G') : sg_Wp 0 N (d + 1) m_Y_load 0 [(0, 2, 17), (1, 2, 63), (2, 0, (w : Int))] [] G Q := by
  obtain ⟨c0, ci⟩ := cE
  have hn := hE.1
  have second : ∀ (r m : Nat), m + r = E.1 → ∀ G1 : SgM, (∀ c : Int, c ≠ 18 → c ≠ 19 → c ≠ 20 → ∀ i, G1 c i = G c i) → cw_Y (ty_m E w m) G1 → sg_Wp 0 N (d + 1) m_Y_load 37 [(0, 2, 17), (1, 2, 63), (2, 0, (w : Int)), (3, 0, (m : Int))] [] G1 Q := by
    intro r
    induction r with
    | zero =>
      intro m hm G1 f1 f2
      have em : m = E.1 := by omega
      subst em
      exact g_Y_load_17_63_37 hN ⟨fun _ => post G1 f1 f2, fun q => absurd (by rw [f1 63 (by omega) (by omega) (by omega), c0]; omega) q⟩
    | succ r ih =>
      intro m hm G1 f1 f2
      have hm' : m < E.1 := by omega
      have b := hE.2 m hm'
      have en := sg_inc1 m (by omega)
      have x := ci m hm'
      have bb := sg_bit_nat (a := w) (k := m) (by omega) hw
      have g1 : G1 64 m = te_k E m := by rw [f1 64 (by omega) (by omega) (by omega)]; exact x.1
      have g2 : G1 65 m = te_h E m := by rw [f1 65 (by omega) (by omega) (by omega)]; exact x.2.1
      have g3 : G1 66 m = te_n E m := by rw [f1 66 (by omega) (by omega) (by omega)]; exact x.2.2
      refine g_Y_load_17_63_37 hN ⟨fun q => absurd q (by rw [f1 63 (by omega) (by omega) (by omega), c0]; omega), fun _ => ⟨fun q => ⟨by omega, fun _ => ⟨by omega, by omega, by omega, ?_⟩, fun q2 => absurd (by rw [g2]; omega) q2⟩, fun q => ?_⟩⟩
      · have bit : w.testBit m = true := by
          cases t : w.testBit m with
          | true => rfl
          | false => rw [bb, t] at q; exact absurd rfl q
        rw [g1, g2, g3, en]
        exact c_Y_add (Nat.le_trans (by decide) hN) hE hm' bit f2 (fun G2 k1 k2 => ih (m + 1) (by omega) G2 (fun c x1 x2 x3 i => by rw [k1 c x1 x2 x3, f1 c x1 x2 x3]) k2)
      · have bit : w.testBit m = false := by
          cases t : w.testBit m with
          | false => rfl
          | true => rw [bb, t] at q; exact absurd (by decide) q
        rw [en]
        refine ih (m + 1) (by omega) G1 f1 (fun h hh => ?_)
        have y := f2 h hh
        rw [show (ty_m E w (m + 1)).1 h = (ty_m E w m).1 h from ty_up_n (fun z => by rw [bit] at z; exact absurd z.1 (by decide)), show (ty_m E w (m + 1)).2.1 h = (ty_m E w m).2.1 h from ty_up_n (fun z => by rw [bit] at z; exact absurd z.1 (by decide)), show (ty_m E w (m + 1)).2.2 h = (ty_m E w m).2.2 h from ty_fr_n (fun z => by rw [bit] at z; exact absurd z.1 (by decide))]
        exact y
  have first : ∀ (r m : Nat), m + r = 24 → ∀ G1 : SgM, (∀ c : Int, c ≠ 18 → c ≠ 19 → c ≠ 20 → ∀ i, G1 c i = G c i) → (∀ h : Nat, h < m → G1 18 h = 0 ∧ G1 19 h = 0 ∧ G1 20 h = 0) → sg_Wp 0 N (d + 1) m_Y_load 2 [(0, 2, 17), (1, 2, 63), (2, 0, (w : Int)), (3, 0, (m : Int))] [] G1 Q := by
    intro r
    induction r with
    | zero =>
      intro m hm G1 f1 f2
      refine g_Y_load_17_63_2 hN ⟨fun _ => ?_, fun q => absurd (by omega) q⟩
      refine second E.1 0 (by omega) G1 f1 (fun h hh => ?_)
      have y := f2 h (by omega)
      have z1 : sg_mk ((ty_m E w 0).1 h) 10 = 0 := sg_mk_zero.mpr (fun _ _ => rfl)
      have z2 : sg_mk ((ty_m E w 0).2.1 h) 10 = 0 := sg_mk_zero.mpr (fun _ _ => rfl)
      rw [z1, z2]
      exact y
    | succ r ih =>
      intro m hm G1 f1 f2
      refine g_Y_load_17_63_2 hN ⟨fun q => absurd q (by omega), fun _ => ⟨by omega, by omega, by omega, ?_⟩⟩
      rw [sg_inc1 m (by omega)]
      refine ih (m + 1) (by omega) _ (fun c x1 x2 x3 i => by rw [sg_upc x3, sg_upc x2, sg_upc x1]; exact f1 c x1 x2 x3 i) (fun h hh => ?_)
      by_cases e : h = m
      · subst e
        refine ⟨?_, ?_, ?_⟩
        · rw [sg_upc (by omega), sg_upc (by omega), sg_up_at]
        · rw [sg_upc (by omega), sg_up_at]
        · rw [sg_up_at]
      · have y := f2 h (by omega)
        refine ⟨?_, ?_, ?_⟩
        · rw [sg_upc (by omega), sg_upc (by omega), sg_upi (by omega)]; exact y.1
        · rw [sg_upc (by omega), sg_upi (by omega), sg_upc (by omega)]; exact y.2.1
        · rw [sg_upi (by omega), sg_upc (by omega), sg_upc (by omega)]; exact y.2.2
  exact g_Y_load_17_63_0 hN (first 24 0 (by omega) G (fun _ _ _ _ _ => rfl) (fun h hh => absurd hh (Nat.not_lt_zero _)))
