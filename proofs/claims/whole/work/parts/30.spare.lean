/-! PLANS: spare -/
theorem sg_shl1_mk {e j : Nat} (he : e < j) (hj : j ≤ 30) : sg_ishl 1 (e : Int) = (sg_mk (fun i => decide (i = e)) j : Int) := by
  rw [sg_shl1 (by omega)]
  congr 1
  apply sg_mk_eq
  intro i
  rw [Nat.testBit_two_pow]
  by_cases q : e = i
  · subst q; simp [he]
  · have : ¬ i = e := fun z => q z.symm
    simp [q, this]
def te_wo (E : TE) (e : Nat) : Nat := sg_mk (fun i => !decide (i = e)) E.1
def te_wo2 (E : TE) (e f : Nat) : Nat := sg_mk (fun i => !(decide (i = e) || decide (i = f))) E.1
theorem te_mk_lt {E : TE} (hE : TEok E) (g : Nat → Bool) : sg_mk g E.1 < 256 := by
  have h1 := sg_mk_lt g E.1
  have h2 : 2 ^ E.1 ≤ 2 ^ 8 := Nat.pow_le_pow_right (by omega) hE.1
  omega
theorem te_wo_eq {E : TE} (hE : TEok E) {e : Nat} (he : e < E.1) : sg_iand (te_all E : Int) (sg_ixor (sg_ishl 1 (e : Int)) (-1)) = (te_wo E e : Int) := by
  have hn := hE.1
  unfold te_all te_wo
  rw [sg_shl1_mk (j := 8) (by omega) (by omega), sg_mk_andn (by omega) (by omega)]
  congr 1
theorem te_wo2_eq {E : TE} (hE : TEok E) {e f : Nat} (he : e < E.1) (hf : f < E.1) : sg_iand (te_all E : Int) (sg_ixor (sg_ior (sg_ishl 1 (e : Int)) (sg_ishl 1 (f : Int))) (-1)) = (te_wo2 E e f : Int) := by
  have hn := hE.1
  unfold te_all te_wo2
  rw [sg_shl1_mk (e := e) (j := 8) (by omega) (by omega), sg_shl1_mk (e := f) (j := 8) (by omega) (by omega), sg_mk_or (by omega), sg_mk_andn (by omega) (by omega)]
  congr 1
def tf_g (W : TW) (E : TE) (w : Nat) : Nat := td_fgm W (ty_of E w) 24
def tp_s1 (W : TW) (E : TE) (e : Nat) : Bool := decide (tf_g W E (te_wo E e) = 0)
def tp_s3 (W : TW) (E : TE) (e f : Nat) : Bool := decide (e < f) && decide (tf_g W E (te_wo2 E e f) = 0)
def tp_s2 (W : TW) (E : TE) (e : Nat) : Bool := decide (td_least (tp_s3 W E e) E.1 ≠ -1)
/-- how many are spared, and which -/
def tp_spare (W : TW) (E : TE) : Int × Int × Int :=
  if tf_g W E (te_all E) = 0 then (0, -1, -1)
  else if td_least (tp_s1 W E) E.1 ≠ -1 then (1, td_least (tp_s1 W E) E.1, -1)
  else if td_least (tp_s2 W E) E.1 ≠ -1 then (2, td_least (tp_s2 W E) E.1, td_least (tp_s3 W E (td_least (tp_s2 W E) E.1).toNat) E.1)
  else (-1, -1, -1)
/-- what spare leaves alone -/
def cS_f (G G' : SgM) : Prop := (∀ c : Int, (c < 18 ∨ (21 ≤ c ∧ c ≤ 31) ∨ 43 < c) → c ≠ 45 → ∀ i, G' c i = G c i) ∧ ∀ i : Int, i ≠ 2 → i ≠ 3 → i ≠ 4 → G' 45 i = G 45 i
theorem cS_f.step {G G1 G2 : SgM} (h : cS_f G G1) (f : ∀ c : Int, (c < 18 ∨ (21 ≤ c ∧ c ≤ 31) ∨ 43 < c) → ∀ i, G2 c i = G1 c i) : cS_f G G2 :=
  ⟨fun c x1 x2 i => by rw [f c x1]; exact h.1 c x1 x2 i, fun i x1 x2 x3 => by rw [f 45 (by omega)]; exact h.2 i x1 x2 x3⟩
theorem c_P_spare {d N : Nat} (hN : 75 ≤ N) {T0 T1 : TT} {E : TE} (ok : cKok T0 T1 E) {G : SgM} {Q : Int → SgM → Prop} (ck : cK T0 T1 E G)
    (post : ∀ G', cS_f G G' → cK T0 T1 E G' → G' 45 2 = (tp_spare (tw_of T0 T1) E).1 → G' 45 3 = (tp_spare (tw_of T0 T1) E).2.1 → G' 45 4 = (tp_spare (tw_of T0 T1) E).2.2 → Q 0 G') : sg_Wp 0 N (d + 4) m_P_planSpare 0 [(0, 2, 45)] [] G Q := by
  have hN4 : 44 ≤ N := Nat.le_trans (by decide) hN
  have hE := ok.2.2
  have hn := hE.1
  have fin : ∀ (G1 : SgM) (x y z : Int), cS_f G G1 → cK T0 T1 E G1 → tp_spare (tw_of T0 T1) E = (x, y, z) → Q 0 (sg_up (sg_up (sg_up G1 45 2 x) 45 3 y) 45 4 z) := by
    intro G1 x y z f k e
    refine post _ ⟨fun c x1 x2 i => by rw [sg_upc x2, sg_upc x2, sg_upc x2]; exact f.1 c x1 x2 i, fun i x1 x2 x3 => by rw [sg_upi x3, sg_upi x2, sg_upi x1]; exact f.2 i x1 x2 x3⟩ (k.fr (fun c x1 i => by rw [sg_upc (by omega), sg_upc (by omega), sg_upc (by omega)])) ?_ ?_ ?_
    · rw [sg_upi (by omega), sg_upi (by omega), sg_up_at, e]
    · rw [sg_upi (by omega), sg_up_at, e]
    · rw [sg_up_at, e]
  have third : ∀ (r m : Nat), m + r = E.1 → tf_g (tw_of T0 T1) E (te_all E) ≠ 0 → td_least (tp_s1 (tw_of T0 T1) E) E.1 = -1 → td_least (tp_s2 (tw_of T0 T1) E) m = -1 → ∀ G1 : SgM, cS_f G G1 → cK T0 T1 E G1 → (G1 45 2 = -1 ∧ G1 45 3 = -1 ∧ G1 45 4 = -1) →
      sg_Wp 0 N (d + 4) m_P_planSpare 88 [(0, 2, 45), (1, 0, (te_all E : Int)), (2, 0, (m : Int))] [] G1 Q := by
    intro r
    induction r with
    | zero =>
      intro m hm h0 h1 h2 G1 f k z
      have em : m = E.1 := by omega
      subst em
      have e : tp_spare (tw_of T0 T1) E = (-1, -1, -1) := by unfold tp_spare; rw [if_neg h0, if_neg (by omega), if_neg (by omega)]
      exact g_P_planSpare_45_88 hN ⟨fun _ => post G1 f k (by rw [e]; exact z.1) (by rw [e]; exact z.2.1) (by rw [e]; exact z.2.2), fun q => absurd (by rw [k.1.1.2.2.1]; omega) q⟩
    | succ r ih =>
      intro m hm h0 h1 h2 G1 f k z
      have hm' : m < E.1 := by omega
      refine g_P_planSpare_45_88 hN ⟨fun q => absurd q (by rw [k.1.1.2.2.1]; omega), fun _ => ?_⟩
      rw [sg_inc1 m (by omega)]
      have inner : ∀ (u j : Nat), j + u = E.1 → m < j → td_least (tp_s3 (tw_of T0 T1) E m) j = -1 → ∀ G2 : SgM, cS_f G G2 → cK T0 T1 E G2 → (G2 45 2 = -1 ∧ G2 45 3 = -1 ∧ G2 45 4 = -1) →
          sg_Wp 0 N (d + 4) m_P_planSpare 106 [(0, 2, 45), (1, 0, (te_all E : Int)), (2, 0, (m : Int)), (3, 0, (j : Int))] [] G2 Q := by
        intro u
        induction u with
        | zero =>
          intro j hj hmj h3 G2 f2 k2 z2
          have ej : j = E.1 := by omega
          subst ej
          refine g_P_planSpare_45_106 hN ⟨fun _ => ?_, fun q => absurd (by rw [k2.1.1.2.2.1]; omega) q⟩
          rw [sg_inc1 m (by omega)]
          refine ih (m + 1) (by omega) h0 h1 ?_ G2 f2 k2 z2
          rw [td_least_s, if_pos h2, if_neg]
          unfold tp_s2
          rw [h3]
          decide
        | succ u ihu =>
          intro j hj hmj h3 G2 f2 k2 z2
          have hj' : j < E.1 := by omega
          refine g_P_planSpare_45_106 hN ⟨fun q => absurd q (by rw [k2.1.1.2.2.1]; omega), fun _ => ?_⟩
          rw [te_wo2_eq hE hm' hj', sg_inc1 j (by omega)]
          refine c_K_forg (d := d) (w := te_wo2 E m j) hN4 ok (te_mk_lt hE _) k2 (fun G3 a k3 => ⟨fun q => ?_, fun q => ?_⟩)
          · have q : tf_g (tw_of T0 T1) E (te_wo2 E m j) ≠ 0 := fun y => q (by rw [show td_fgm (tw_of T0 T1) (ty_of E (te_wo2 E m j)) 24 = 0 from y]; rfl)
            refine ihu (j + 1) (by omega) (by omega) ?_ G3 (f2.step a) k3 (by rw [a 45 (by omega), a 45 (by omega), a 45 (by omega)]; exact z2)
            rw [td_least_s, if_pos h3, if_neg]
            unfold tp_s3
            rw [decide_eq_false q, Bool.and_false]
            decide
          · have q : td_fgm (tw_of T0 T1) (ty_of E (te_wo2 E m j)) 24 = 0 := by
              have := Decidable.not_not.mp q
              omega
            refine g_P_setSpare_45_0 hN (fin G3 _ _ _ (f2.step a) k3 ?_)
            have e3 : td_least (tp_s3 (tw_of T0 T1) E m) E.1 = (j : Int) := td_least_of hj' (by unfold tp_s3; rw [decide_eq_true hmj, decide_eq_true (show tf_g (tw_of T0 T1) E (te_wo2 E m j) = 0 from q)]; rfl) (td_least_none h3)
            have e2 : td_least (tp_s2 (tw_of T0 T1) E) E.1 = (m : Int) := td_least_of hm' (by unfold tp_s2; rw [e3]; exact decide_eq_true (by omega)) (td_least_none h2)
            unfold tp_spare
            rw [if_neg h0, if_neg (by omega), e2, if_pos (by omega), Int.toNat_natCast, e3]
      refine inner (E.1 - (m + 1)) (m + 1) (by omega) (by omega) ?_ G1 f k z
      refine td_least_of_none (fun i hi => ?_)
      unfold tp_s3
      rw [decide_eq_false (by omega), Bool.false_and]
  have second : ∀ (r m : Nat), m + r = E.1 → tf_g (tw_of T0 T1) E (te_all E) ≠ 0 → td_least (tp_s1 (tw_of T0 T1) E) m = -1 → ∀ G1 : SgM, cS_f G G1 → cK T0 T1 E G1 → (G1 45 2 = -1 ∧ G1 45 3 = -1 ∧ G1 45 4 = -1) →
      sg_Wp 0 N (d + 4) m_P_planSpare 41 [(0, 2, 45), (1, 0, (te_all E : Int)), (2, 0, (m : Int))] [] G1 Q := by
    intro r
    induction r with
    | zero =>
      intro m hm h0 h1 G1 f k z
      have em : m = E.1 := by omega
      subst em
      exact g_P_planSpare_45_41 hN ⟨fun _ => third E.1 0 (by omega) h0 h1 rfl G1 f k z, fun q => absurd (by rw [k.1.1.2.2.1]; omega) q⟩
    | succ r ih =>
      intro m hm h0 h1 G1 f k z
      have hm' : m < E.1 := by omega
      refine g_P_planSpare_45_41 hN ⟨fun q => absurd q (by rw [k.1.1.2.2.1]; omega), fun _ => ?_⟩
      rw [te_wo_eq hE hm', sg_inc1 m (by omega)]
      refine c_K_forg (d := d) (w := te_wo E m) hN4 ok (te_mk_lt hE _) k (fun G3 a k3 => ⟨fun q => ?_, fun q => ?_⟩)
      · have q : tf_g (tw_of T0 T1) E (te_wo E m) ≠ 0 := fun y => q (by rw [show td_fgm (tw_of T0 T1) (ty_of E (te_wo E m)) 24 = 0 from y]; rfl)
        refine ih (m + 1) (by omega) h0 ?_ G3 (f.step a) k3 (by rw [a 45 (by omega), a 45 (by omega), a 45 (by omega)]; exact z)
        rw [td_least_s, if_pos h1, if_neg]
        unfold tp_s1
        rw [decide_eq_false q]
        decide
      · have q : td_fgm (tw_of T0 T1) (ty_of E (te_wo E m)) 24 = 0 := by
          have := Decidable.not_not.mp q
          omega
        refine g_P_setSpare_45_0 hN (fin G3 _ _ _ (f.step a) k3 ?_)
        have e1 : td_least (tp_s1 (tw_of T0 T1) E) E.1 = (m : Int) := td_least_of hm' (by unfold tp_s1; exact decide_eq_true q) (td_least_none h1)
        unfold tp_spare
        rw [if_neg h0, e1, if_pos (by omega)]
  have fr0 : cS_f G (sg_up (sg_up (sg_up G 45 2 (-1)) 45 3 (-1)) 45 4 (-1)) := ⟨fun c x1 x2 i => by rw [sg_upc x2, sg_upc x2, sg_upc x2], fun i x1 x2 x3 => by rw [sg_upi x3, sg_upi x2, sg_upi x1]⟩
  have k0 : cK T0 T1 E (sg_up (sg_up (sg_up G 45 2 (-1)) 45 3 (-1)) 45 4 (-1)) := ck.fr (fun c x1 i => by rw [sg_upc (by omega), sg_upc (by omega), sg_upc (by omega)])
  have e13 : sg_up (sg_up (sg_up G 45 2 (-1)) 45 3 (-1)) 45 4 (-1) 21 13 = (tf_g (tw_of T0 T1) E (te_all E) : Int) := k0.2.1.2.2.1
  refine g_P_planSpare_45_0 hN (g_P_setSpare_45_0 hN ⟨fun q => ?_, fun q => ?_⟩)
  · rw [e13] at q
    refine c_E_every_13 hN4 hE k0.1.1.2.2 ?_
    exact second E.1 0 (by omega) (by omega) rfl _ fr0 k0 ⟨by rw [sg_upi (by omega), sg_upi (by omega), sg_up_at], by rw [sg_upi (by omega), sg_up_at], sg_up_at⟩
  · rw [e13] at q
    refine g_P_setSpare_45_0 hN (fin _ _ _ _ fr0 k0 ?_)
    unfold tp_spare
    rw [if_pos (by omega)]
