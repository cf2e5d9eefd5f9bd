/-! SOUNDNESS of the instructions that read and write cells; then of any straight instruction, and of a row of them -/
section SgT
variable {lo N d : Nat} {y : SgY} {pc : Nat} {L : SgL} {S : SgS} {G : SgM} {Q : Int → SgM → Prop}
def sg_fs (a : SgA) (ci : Nat) (c : Int) (G : SgM) : List Value := (List.range (sg_nf ci)).map (fun k => sg_fv a ci k c (G c (k : Int)))
theorem sg_e0 {cy : SgC} {a : SgA} {c m : Int} (h : sg_sh c = (0, m)) : sg_e cy a G c = .inr (m.toNat, sg_fs a m.toNat c G) := by unfold sg_e; rw [h]; rfl
theorem sg_e1 {cy : SgC} {a : SgA} {c n : Int} (h : sg_sh c = (1, n)) : sg_e cy a G c = .inl (cy.1, n.toNat, .inl (fun i => Int32.ofInt (G c (i : Int)))) := by unfold sg_e; rw [h]; rfl
theorem sg_e2 {cy : SgC} {a : SgA} {c n : Int} (h : sg_sh c = (2, n)) : sg_e cy a G c = .inl (cy.2.1, n.toNat, .inl (fun i => Int32.ofInt (G c (i : Int)))) := by unfold sg_e; rw [h]; rfl
theorem sg_e3 {cy : SgC} {a : SgA} {c n : Int} (h : sg_sh c = (3, n)) : sg_e cy a G c = .inl (cy.2.2.1, n.toNat, .inr (.inl (fun i => Int64.ofInt (G c (i : Int))))) := by unfold sg_e; rw [h]; rfl
theorem sg_e4 {cy : SgC} {a : SgA} {c n : Int} (h : sg_sh c = (4, n)) : sg_e cy a G c = .inl (cy.2.2.2, n.toNat, .inr (.inr (.inr (.inr (fun i => some (a.1 (sg_qb c + (i : Int)))))))) := by unfold sg_e; rw [h]; rfl
theorem sg_fs_at {a : SgA} {ci k : Nat} {c : Int} (hk : k < sg_nf ci) : (sg_fs a ci c G)[k]? = some (sg_fv a ci k c (G c (k : Int))) := by
  unfold sg_fs
  rw [List.getElem?_map, List.getElem?_range hk]
  rfl
theorem sg_fs_set {a : SgA} {ci k : Nat} {c v : Int} (hf : sg_ft ci k = 0) : sg_fs a ci c (sg_up G c (k : Int) v) = (sg_fs a ci c G).set k (.int (Int32.ofInt v)) := by
  apply List.ext_getElem?
  intro i
  rw [List.getElem?_set]
  by_cases hi : i < sg_nf ci
  · rw [sg_fs_at hi]
    by_cases e : k = i
    · subst e
      rw [if_pos rfl, if_pos (by unfold sg_fs; simpa using hi)]
      unfold sg_fv
      rw [if_pos hf, sg_up_at]
    · rw [if_neg e, sg_fs_at hi]
      have : sg_up G c (k : Int) v c (i : Int) = G c (i : Int) := by
        unfold sg_up
        rw [if_neg (fun q => e (by have := q.2; omega))]
      rw [this]
  · have h1 : (sg_fs a ci c (sg_up G c (k : Int) v))[i]? = none := List.getElem?_eq_none (by unfold sg_fs; simp; omega)
    have h2 : (sg_fs a ci c G)[i]? = none := List.getElem?_eq_none (by unfold sg_fs; simp; omega)
    rw [h1, h2]
    by_cases e : k = i
    · rw [if_pos e, if_neg (by unfold sg_fs; simp; omega)]
    · rw [if_neg e]
theorem sg_cl {i : Int} (h : sg_32 i) (h0 : 0 ≤ i) : (((Int32.ofInt i).toNatClampNeg : Nat) : Int) = i := by
  have e : (Int32.ofInt i).toNatClampNeg = (Int32.ofInt i).toInt.toNat := rfl
  have h2 : (Int32.ofInt i).toInt = i := h
  rw [e, h2]
  omega
theorem sg_vpin {i n : Int} (h : sg_32 i) (h0 : 0 ≤ i ∧ i < n) : vp_in (Int32.ofInt i) n.toNat := by
  have h2 : (Int32.ofInt i).toInt = i := h
  refine vp_in_iff.mpr ⟨by rw [h2]; exact h0.1, by rw [h2]; omega⟩
theorem sg_upI {c i v : Int} (h : sg_32 i) (h0 : 0 ≤ i) : (fun j : Nat => Int32.ofInt (sg_up G c i v c (j : Int))) = upd (fun j : Nat => Int32.ofInt (G c (j : Int))) (Int32.ofInt i).toNatClampNeg (Int32.ofInt v) := by
  have e := sg_cl h h0
  funext j
  unfold upd sg_up
  by_cases hj : j = (Int32.ofInt i).toNatClampNeg
  · rw [if_pos hj, if_pos ⟨rfl, by rw [hj]; exact e⟩]
  · rw [if_neg hj, if_neg (fun q => hj (by have := q.2; omega))]
theorem sg_upJ {c i v : Int} (h : sg_32 i) (h0 : 0 ≤ i) : (fun j : Nat => Int64.ofInt (sg_up G c i v c (j : Int))) = vp_updL (fun j : Nat => Int64.ofInt (G c (j : Int))) (Int32.ofInt i).toNatClampNeg (Int64.ofInt v) := by
  have e := sg_cl h h0
  funext j
  unfold vp_updL sg_up
  by_cases hj : j = (Int32.ofInt i).toNatClampNeg
  · rw [if_pos hj, if_pos ⟨rfl, by rw [hj]; exact e⟩]
  · rw [if_neg hj, if_neg (fun q => hj (by have := q.2; omega))]
theorem sg_Hx.mem {D : va_G} {cy : SgC} {a : SgA} {s : State} {H H1 : Heap} {locs locs1 : List Loc} {ls : Array Slot} {G' : SgM} {S' : SgS} (h : sg_Hx lo N y D cy a s G H locs ls L S) (hP : va_P D vwCl (sg_W cy a G' lo N) H1) (hS : va_S (sg_A lo N a) s.heap H1 locs1) (hc : sg_can G') (hs : ∀ v ∈ S', sg_cv v) : sg_Hx lo N y D cy a s G' H1 locs1 ls L S' :=
  ⟨hP, sg_W_D h.2.1, hS, hc, h.2.2.2.2.1, h.2.2.2.2.2.1, hs⟩
theorem sg_can32 {c i : Int} (h : sg_can G) (hs : (sg_sh c).1 ≠ 3) : sg_32 (G c i) := by
  have := h c i
  rw [if_neg hs] at this
  exact this
theorem sg_can64 {c i : Int} (h : sg_can G) (hs : (sg_sh c).1 = 3) : sg_64 (G c i) := by
  have := h c i
  rw [if_pos hs] at this
  exact this

theorem sg_o15 {n m0 : Int} {j k : Nat} (hf : sg_FL y.1 j m0.toNat k) (ht : sg_ft m0.toNat k = 0) (hd : decode y.2.2.1 pc = .ok (.getfield j, 3)) {K : SgK} (hK : ∀ L2 S2 G2, K L2 S2 G2 → sg_Wp lo N d y (pc + 3) L2 S2 G2 Q) (h : sg_m15 lo N n m0 j k L S G K) : sg_Wp lo N d y pc L S G Q := by
  unfold sg_m15 at h
  split at h
  · obtain ⟨⟨hin, hsh⟩, h⟩ := h
    intro p l e R s m args below meth c D cy a H locs ls hC hH
    rename_i c1 r
    obtain ⟨C, T, NN, hcl, hnf, hk, hws, hlk⟩ := hf
    have hts := hC.2.2.2.2.2.2.1
    have hw : (sg_W cy a G lo N)[c1.toNat - lo]? = some (a.1 c1, .inr (m0.toNat, sg_fs a m0.toNat c1 G)) := by rw [sg_W_at hin, sg_e0 hsh]
    have hv : (sg_fs a m0.toNat c1 G)[k]? = some (sg_v a (0, G c1 (k : Int))) := by
      rw [sg_fs_at (by rw [hnf]; exact hk)]
      unfold sg_fv
      rw [if_pos ht]
      rfl
    exact va_get hC.1 hC.2.1 hts hws hC.2.2.2.2.2.1 hC.2.2.2.2.2.2.2.2.2.1 hH.1 (c1.toNat - lo) hw hcl k hk (hts _ hlk) (fun _ z => z) hv hd (hK _ _ _ h p l e R s m args below meth c D cy a H locs ls hC (hH.st (sg_cons (v := (0, G c1 (k : Int))) (sg_can32 hH.2.2.2.1 (by rw [hsh]; simp)) (sg_tl1 hH.sk))))
  · exact h.elim
theorem sg_o65 {n m0 : Int} {j k : Nat} (hf : sg_FL y.1 j m0.toNat k) (ht : ¬ sg_ft m0.toNat k = 0) (hd : decode y.2.2.1 pc = .ok (.getfield j, 3)) {K : SgK} (hK : ∀ L2 S2 G2, K L2 S2 G2 → sg_Wp lo N d y (pc + 3) L2 S2 G2 Q) (h : sg_m65 lo N n m0 j k L S G K) : sg_Wp lo N d y pc L S G Q := by
  unfold sg_m65 at h
  split at h
  · obtain ⟨⟨hin, hsh⟩, hr, h⟩ := h
    intro p l e R s m args below meth c D cy a H locs ls hC hH
    rename_i c1 r
    obtain ⟨C, T, NN, hcl, hnf, hk, hws, hlk⟩ := hf
    have hts := hC.2.2.2.2.2.2.1
    have hw : (sg_W cy a G lo N)[c1.toNat - lo]? = some (a.1 c1, .inr (m0.toNat, sg_fs a m0.toNat c1 G)) := by rw [sg_W_at hin, sg_e0 hsh]
    have hv : (sg_fs a m0.toNat c1 G)[k]? = some (sg_v a (2, n)) := by
      rw [sg_fs_at (by rw [hnf]; exact hk)]
      unfold sg_fv
      rw [if_neg ht, hr]
      rfl
    exact va_get hC.1 hC.2.1 hts hws hC.2.2.2.2.2.1 hC.2.2.2.2.2.2.2.2.2.1 hH.1 (c1.toNat - lo) hw hcl k hk (hts _ hlk) (fun _ z => z) hv hd (hK _ _ _ h p l e R s m args below meth c D cy a H locs ls hC (hH.st (sg_cons (v := (2, n)) trivial (sg_tl1 hH.sk))))
  · exact h.elim
theorem sg_o16 {n m0 : Int} {j k : Nat} (hf : sg_FL y.1 j m0.toNat k) (hp : sg_FP m0.toNat k) (hd : decode y.2.2.1 pc = .ok (.putfield j, 3)) {K : SgK} (hK : ∀ L2 S2 G2, K L2 S2 G2 → sg_Wp lo N d y (pc + 3) L2 S2 G2 Q) (h : sg_m16 lo N n m0 j k L S G K) : sg_Wp lo N d y pc L S G Q := by
  unfold sg_m16 at h
  split at h
  · obtain ⟨⟨hin, hsh⟩, h⟩ := h
    intro p l e R s m args below meth c D cy a H locs ls hC hH
    rename_i v1 c1 r
    obtain ⟨C, T, NN, hcl, hnf, hk, hws, hlk⟩ := hf
    obtain ⟨C', T', NN', ty0, hcl', hty, hnm, hfin, hpd, hft⟩ := hp
    cases hcl.symm.trans hcl'
    have hts := hC.2.2.2.2.2.2.1
    have hw : (sg_W cy a G lo N)[c1.toNat - lo]? = some (a.1 c1, .inr (m0.toNat, sg_fs a m0.toNat c1 G)) := by rw [sg_W_at hin, sg_e0 hsh]
    refine va_put (ty := .int) (v := .int (Int32.ofInt v1)) hC.1 hC.2.1 hts hws ty0 hty hnm hC.2.2.2.2.2.1 hC.2.2.2.2.2.2.2.2.2.1 hH.1 hH.2.1 hH.2.2.1 (c1.toNat - lo) hw hcl k hk (hts _ hlk) (fun _ z => z) hfin hpd rfl rfl (by unfold sg_fs; simp; omega) hd (fun H1 locs1 hP1 _ hS1 => ?_)
    have e1 : (a.1 c1, (Sum.inr (m0.toNat, (sg_fs a m0.toNat c1 G).set k (.int (Int32.ofInt v1))) : va_E)) = (a.1 c1, sg_e cy a (sg_up G c1 (k : Int) v1) c1) := by rw [sg_e0 hsh, sg_fs_set hft]
    rw [e1, sg_W_set hin (fun c' hc' => sg_e_off (sg_up_off hc'))] at hP1
    exact hK _ _ _ h p l e R s m args below meth c D cy a H1 locs1 ls hC (hH.mem hP1 hS1 (sg_up_can hH.2.2.2.1 (by rw [hsh, if_neg (by simp)]; exact sg_hd1 hH.sk)) (sg_tl1 (sg_tl1 hH.sk)))
  · exact h.elim
theorem sg_o17 {n m0 : Int} {j k : Nat} (hd : decode y.2.2.1 pc = .ok (.iaload, 1)) {K : SgK} (hK : ∀ L2 S2 G2, K L2 S2 G2 → sg_Wp lo N d y (pc + 1) L2 S2 G2 Q) (h : sg_m17 lo N n m0 j k L S G K) : sg_Wp lo N d y pc L S G Q := by
  unfold sg_m17 at h
  split at h
  · obtain ⟨⟨hin, hsh⟩, hb, h⟩ := h
    intro p l e R s m args below meth c D cy a H locs ls hC hH
    rename_i i1 c1 r
    have hi : sg_32 i1 := sg_hd1 hH.sk
    have hw := sg_W_at (cy := cy) (a := a) (G := G) hin
    rw [sg_e1 hsh] at hw
    have k2 := hK _ _ _ h p l e R s m args below meth c D cy a H locs ls hC (hH.st (sg_cons (v := (0, G c1 i1)) (sg_can32 hH.2.2.2.1 (by rw [hsh]; simp)) (sg_tl1 (sg_tl1 hH.sk))))
    refine va_iald hC.1 hC.2.1 hC.2.2.2.2.2.2.2.2.2.1 hH.1 (c1.toNat - lo) 0 hw rfl (sg_vpin hi hb) hd ?_
    rw [sg_cl hi hb.1]
    exact k2
  · exact h.elim
theorem sg_o19 {n m0 : Int} {j k : Nat} (hd : decode y.2.2.1 pc = .ok (.baload, 1)) {K : SgK} (hK : ∀ L2 S2 G2, K L2 S2 G2 → sg_Wp lo N d y (pc + 1) L2 S2 G2 Q) (h : sg_m19 lo N n m0 j k L S G K) : sg_Wp lo N d y pc L S G Q := by
  unfold sg_m19 at h
  split at h
  · obtain ⟨⟨hin, hsh⟩, hb, h⟩ := h
    intro p l e R s m args below meth c D cy a H locs ls hC hH
    rename_i i1 c1 r
    have hi : sg_32 i1 := sg_hd1 hH.sk
    have hw := sg_W_at (cy := cy) (a := a) (G := G) hin
    rw [sg_e2 hsh] at hw
    have k2 := hK _ _ _ h p l e R s m args below meth c D cy a H locs ls hC (hH.st (sg_cons (v := (0, G c1 i1)) (sg_can32 hH.2.2.2.1 (by rw [hsh]; simp)) (sg_tl1 (sg_tl1 hH.sk))))
    refine va_zald hC.1 hC.2.1 hC.2.2.2.2.2.2.2.2.2.1 hH.1 (c1.toNat - lo) 1 hw rfl (sg_vpin hi hb) hd ?_
    rw [sg_cl hi hb.1]
    exact k2
  · exact h.elim
theorem sg_o21 {n m0 : Int} {j k : Nat} (hd : decode y.2.2.1 pc = .ok (.laload, 1)) {K : SgK} (hK : ∀ L2 S2 G2, K L2 S2 G2 → sg_Wp lo N d y (pc + 1) L2 S2 G2 Q) (h : sg_m21 lo N n m0 j k L S G K) : sg_Wp lo N d y pc L S G Q := by
  unfold sg_m21 at h
  split at h
  · obtain ⟨⟨hin, hsh⟩, hb, h⟩ := h
    intro p l e R s m args below meth c D cy a H locs ls hC hH
    rename_i i1 c1 r
    have hi : sg_32 i1 := sg_hd1 hH.sk
    have hw := sg_W_at (cy := cy) (a := a) (G := G) hin
    rw [sg_e3 hsh] at hw
    have k2 := hK _ _ _ h p l e R s m args below meth c D cy a H locs ls hC (hH.st (sg_cons (v := (1, G c1 i1)) (sg_can64 hH.2.2.2.1 (by rw [hsh])) (sg_tl1 (sg_tl1 hH.sk))))
    refine va_lald hC.1 hC.2.1 hC.2.2.2.2.2.2.2.2.2.1 hH.1 (c1.toNat - lo) 2 hw rfl (sg_vpin hi hb) hd ?_
    rw [sg_cl hi hb.1]
    exact k2
  · exact h.elim
theorem sg_o18 {n m0 : Int} {j k : Nat} (hd : decode y.2.2.1 pc = .ok (.iastore, 1)) {K : SgK} (hK : ∀ L2 S2 G2, K L2 S2 G2 → sg_Wp lo N d y (pc + 1) L2 S2 G2 Q) (h : sg_m18 lo N n m0 j k L S G K) : sg_Wp lo N d y pc L S G Q := by
  unfold sg_m18 at h
  split at h
  · obtain ⟨⟨hin, hsh⟩, hb, h⟩ := h
    intro p l e R s m args below meth c D cy a H locs ls hC hH
    rename_i v1 i1 c1 r
    have hi : sg_32 i1 := sg_hd1 (sg_tl1 hH.sk)
    have hw := sg_W_at (cy := cy) (a := a) (G := G) hin
    rw [sg_e1 hsh] at hw
    refine va_iast hC.1 hC.2.1 hC.2.2.2.2.2.2.2.2.2.1 hH.1 hH.2.1 hH.2.2.1 (c1.toNat - lo) 0 hw rfl (sg_vpin hi hb) hd (fun H1 locs1 hP1 _ hS1 => ?_)
    rw [← sg_upI hi hb.1, ← sg_e1 (G := sg_up G c1 i1 v1) hsh, sg_W_set hin (fun c' hc' => sg_e_off (sg_up_off hc'))] at hP1
    exact hK _ _ _ h p l e R s m args below meth c D cy a H1 locs1 ls hC (hH.mem hP1 hS1 (sg_up_can hH.2.2.2.1 (by rw [hsh]; exact sg_hd1 hH.sk)) (sg_tl1 (sg_tl1 (sg_tl1 hH.sk))))
  · exact h.elim
theorem sg_o22 {n m0 : Int} {j k : Nat} (hd : decode y.2.2.1 pc = .ok (.lastore, 1)) {K : SgK} (hK : ∀ L2 S2 G2, K L2 S2 G2 → sg_Wp lo N d y (pc + 1) L2 S2 G2 Q) (h : sg_m22 lo N n m0 j k L S G K) : sg_Wp lo N d y pc L S G Q := by
  unfold sg_m22 at h
  split at h
  · obtain ⟨⟨hin, hsh⟩, hb, h⟩ := h
    intro p l e R s m args below meth c D cy a H locs ls hC hH
    rename_i v1 i1 c1 r
    have hi : sg_32 i1 := sg_hd1 (sg_tl1 hH.sk)
    have hw := sg_W_at (cy := cy) (a := a) (G := G) hin
    rw [sg_e3 hsh] at hw
    refine va_last hC.1 hC.2.1 hC.2.2.2.2.2.2.2.2.2.1 hH.1 hH.2.1 hH.2.2.1 (c1.toNat - lo) 2 hw rfl (sg_vpin hi hb) hd (fun H1 locs1 hP1 _ hS1 => ?_)
    rw [← sg_upJ hi hb.1, ← sg_e3 (G := sg_up G c1 i1 v1) hsh, sg_W_set hin (fun c' hc' => sg_e_off (sg_up_off hc'))] at hP1
    exact hK _ _ _ h p l e R s m args below meth c D cy a H1 locs1 ls hC (hH.mem hP1 hS1 (sg_up_can hH.2.2.2.1 (by rw [hsh]; exact sg_hd1 hH.sk)) (sg_tl1 (sg_tl1 (sg_tl1 hH.sk))))
  · exact h.elim
theorem sg_o20 {n m0 : Int} {j k : Nat} (hd : decode y.2.2.1 pc = .ok (.bastore, 1)) {K : SgK} (hK : ∀ L2 S2 G2, K L2 S2 G2 → sg_Wp lo N d y (pc + 1) L2 S2 G2 Q) (h : sg_m20 lo N n m0 j k L S G K) : sg_Wp lo N d y pc L S G Q := by
  unfold sg_m20 at h
  split at h
  · obtain ⟨⟨hin, hsh⟩, hb, h01, h⟩ := h
    intro p l e R s m args below meth c D cy a H locs ls hC hH
    rename_i v1 i1 c1 r
    have hi : sg_32 i1 := sg_hd1 (sg_tl1 hH.sk)
    have hw := sg_W_at (cy := cy) (a := a) (G := G) hin
    rw [sg_e2 hsh] at hw
    have hz : vp_nar .boolean (Int32.ofInt v1) = Int32.ofInt v1 := by rcases h01 with z | z <;> rw [z] <;> rfl
    refine va_zast hC.1 hC.2.1 hC.2.2.2.2.2.2.2.2.2.1 hH.1 hH.2.1 hH.2.2.1 (c1.toNat - lo) 1 hw rfl (sg_vpin hi hb) hd (fun H1 locs1 hP1 _ hS1 => ?_)
    rw [hz, ← sg_upI hi hb.1, ← sg_e2 (G := sg_up G c1 i1 v1) hsh, sg_W_set hin (fun c' hc' => sg_e_off (sg_up_off hc'))] at hP1
    exact hK _ _ _ h p l e R s m args below meth c D cy a H1 locs1 ls hC (hH.mem hP1 hS1 (sg_up_can hH.2.2.2.1 (by rw [hsh]; exact sg_hd1 hH.sk)) (sg_tl1 (sg_tl1 (sg_tl1 hH.sk))))
  · exact h.elim
theorem sg_o23 {n m0 : Int} {j k : Nat} (hd : decode y.2.2.1 pc = .ok (.aaload, 1)) {K : SgK} (hK : ∀ L2 S2 G2, K L2 S2 G2 → sg_Wp lo N d y (pc + 1) L2 S2 G2 Q) (h : sg_m23 lo N n m0 j k L S G K) : sg_Wp lo N d y pc L S G Q := by
  unfold sg_m23 at h
  split at h
  · obtain ⟨⟨⟨hin, hsh⟩, hq⟩, hb, h⟩ := h
    intro p l e R s m args below meth c D cy a H locs ls hC hH
    rename_i i1 c1 r
    have hi : sg_32 i1 := sg_hd1 hH.sk
    have hw := sg_W_at (cy := cy) (a := a) (G := G) hin
    rw [sg_e4 hsh] at hw
    have hcell := hH.1 _ _ hw
    have hcell : H[a.1 c1]? = some (vp_cell cy.2.2.2 (n.toNat, .inr (.inr (.inr (.inr (fun i => some (a.1 (sg_qb c1 + (i : Int))))))))) := hcell
    rw [vp_cell_q] at hcell
    have hlt : (Int32.ofInt i1).toNatClampNeg < n.toNat := by have := sg_cl hi hb.1; omega
    have hv : (arrV cy.2.2.2 n.toNat (fun j => va_rf (some (a.1 (sg_qb c1 + (j : Int)))))).slots[(Int32.ofInt i1).toNatClampNeg]? = some (sg_v a (2, m0 + i1)) := by
      rw [arrV_read _ _ hlt, sg_cl hi hb.1, hq]
      rfl
    exact W.aald hC.1 hC.2.1 hcell ((hC.2.2.2.2.2.2.2.2.2.1.2 3 _ rfl).1 _ _) rfl (fun z => by cases z) (by rw [arrV_size]; exact sg_vpin hi hb) hv rfl rfl hd (hK _ _ _ h p l e R s m args below meth c D cy a H locs ls hC (hH.st (sg_cons (v := (2, m0 + i1)) trivial (sg_tl1 (sg_tl1 hH.sk)))))
  · exact h.elim
theorem sg_o24 {n m0 : Int} {j k : Nat} (hd : decode y.2.2.1 pc = .ok (.arraylength, 1)) {K : SgK} (hK : ∀ L2 S2 G2, K L2 S2 G2 → sg_Wp lo N d y (pc + 1) L2 S2 G2 Q) (h : sg_m24 lo N n m0 j k L S G K) : sg_Wp lo N d y pc L S G Q := by
  unfold sg_m24 at h
  split at h
  · obtain ⟨⟨hk, hn0, hn1⟩, h⟩ := h
    intro p l e R s m args below meth c D cy a H locs ls hC hH
    rename_i c1 r
    have hn : sg_32 n := Int32.toInt_ofInt_of_le (by omega) (by omega)
    have hv : Int32.ofNat n.toNat = Int32.ofInt n := by rw [← Int32.ofInt_eq_ofNat, Int.toNat_of_nonneg hn0]
    have k2 := hK _ _ _ h p l e R s m args below meth c D cy a H locs ls hC (hH.st (sg_cons (v := (0, n)) hn (sg_tl1 hH.sk)))
    rcases hk with ⟨hin, hsh⟩ | ⟨hin, hsh⟩
    · have hw := sg_W_at (cy := cy) (a := a) (G := G) hin
      rw [sg_e1 hsh] at hw
      exact va_alen (ty := .int) hC.1 hC.2.1 hC.2.2.2.2.2.2.2.2.2.1 hH.1 (c1.toNat - lo) 0 hw rfl hv hd k2
    · have hw := sg_W_at (cy := cy) (a := a) (G := G) hin
      rw [sg_e3 hsh] at hw
      exact va_alen (ty := .long) hC.1 hC.2.1 hC.2.2.2.2.2.2.2.2.2.1 hH.1 (c1.toNat - lo) 2 hw rfl hv hd k2
  · exact h.elim
theorem sg_o60 {n m0 : Int} {j k : Nat} (hy : y.1 = 20) (hj : j = sg_gsc) (hd : decode y.2.2.1 pc = .ok (.getstatic j, 3)) {K : SgK} (hK : ∀ L2 S2 G2, K L2 S2 G2 → sg_Wp lo N d y (pc + 3) L2 S2 G2 Q) (h : K L ((0, 1) :: S) G) : sg_Wp lo N d y pc L S G Q := by
  intro p l e R s m args below meth c D cy a H locs ls hC hH
  have hown := hC.2.2.2.2.2.1
  have hlk := hC.2.2.2.2.2.2.1 _ sg_gsc_ok
  rw [← hj] at hlk
  exact va_gets hC.1 hC.2.1 hC.2.2.2.2.2.2.2.2.2.2.2.2.1 hH.2.2.1 (show s.vm.findClass (sg_cn 20) = some m.cls from hy ▸ hown) hlk (fun _ z => z) hd (hK _ _ _ h p l e R s m args below meth c D cy a H locs ls hC (hH.st (sg_cons (v := (0, 1)) (show sg_32 1 from rfl) hH.sk)))
theorem sg_o61 {n m0 : Int} {j k : Nat} (hy : y.1 = 8) (hj : j = sg_gsl) (hd : decode y.2.2.1 pc = .ok (.getstatic j, 3)) {K : SgK} (hK : ∀ L2 S2 G2, K L2 S2 G2 → sg_Wp lo N d y (pc + 3) L2 S2 G2 Q) (h : K L ((5, 0) :: S) G) : sg_Wp lo N d y pc L S G Q := by
  intro p l e R s m args below meth c D cy a H locs ls hC hH
  have hown := hC.2.2.2.2.2.1
  have hlk := hC.2.2.2.2.2.2.1 _ sg_gsl_ok
  rw [← hj] at hlk
  exact va_gets hC.1 hC.2.1 hC.2.2.2.2.2.2.2.2.2.2.2.2.2.1 hH.2.2.1 (show s.vm.findClass (sg_cn 8) = some m.cls from hy ▸ hown) hlk (fun _ z => z) hd (hK _ _ _ h p l e R s m args below meth c D cy a H locs ls hC (hH.st (sg_cons (v := (5, 0)) trivial hH.sk)))
theorem sg_o62 {n m0 : Int} {j k : Nat} (hy : y.1 = 20) (hj : j = sg_gfv) (hd : decode y.2.2.1 pc = .ok (.getfield j, 3)) {K : SgK} (hK : ∀ L2 S2 G2, K L2 S2 G2 → sg_Wp lo N d y (pc + 3) L2 S2 G2 Q) (h : sg_m62 lo N n m0 j k L S G K) : sg_Wp lo N d y pc L S G Q := by
  unfold sg_m62 at h
  split at h
  · obtain ⟨hb, h⟩ := h
    intro p l e R s m args below meth c D cy a H locs ls hC hH
    rename_i i1 r
    have hown := hC.2.2.2.2.2.1
    have hlk := hC.2.2.2.2.2.2.1 _ sg_gfv_ok
    rw [← hj] at hlk
    exact vk_getf hC.1 hC.2.1 (hC.2.2.2.2.2.2.2.2.2.2.2.1.1 i1.toNat (by omega)).2.2.1 hH.2.2.1 (show s.vm.findClass (sg_cn 20) = some m.cls from hy ▸ hown) hlk (fun _ z => z) hd (hK _ _ _ h p l e R s m args below meth c D cy a H locs ls hC (hH.st (sg_cons (v := (4, i1)) trivial (sg_tl1 hH.sk))))
  · exact h.elim
theorem sg_o63 {n m0 : Int} {j k : Nat} (hy : y.1 = 20) (hj : j = sg_gfc) (hd : decode y.2.2.1 pc = .ok (.getfield j, 3)) {K : SgK} (hK : ∀ L2 S2 G2, K L2 S2 G2 → sg_Wp lo N d y (pc + 3) L2 S2 G2 Q) (h : sg_m63 lo N n m0 j k L S G K) : sg_Wp lo N d y pc L S G Q := by
  unfold sg_m63 at h
  split at h
  · obtain ⟨hb, h⟩ := h
    intro p l e R s m args below meth c D cy a H locs ls hC hH
    rename_i i1 r
    have hown := hC.2.2.2.2.2.1
    have hlk := hC.2.2.2.2.2.2.1 _ sg_gfc_ok
    rw [← hj] at hlk
    exact vk_getf hC.1 hC.2.1 (hC.2.2.2.2.2.2.2.2.2.2.2.1.1 i1.toNat (by omega)).2.1 hH.2.2.1 (show s.vm.findClass (sg_cn 20) = some m.cls from hy ▸ hown) hlk (fun _ z => z) hd (hK _ _ _ h p l e R s m args below meth c D cy a H locs ls hC (hH.st (sg_cons (v := (0, 0)) (show sg_32 0 from rfl) (sg_tl1 hH.sk))))
  · exact h.elim
theorem sg_o66 {n m0 : Int} {j k : Nat} (hd : decode y.2.2.1 pc = .ok (.baload, 1)) {K : SgK} (hK : ∀ L2 S2 G2, K L2 S2 G2 → sg_Wp lo N d y (pc + 1) L2 S2 G2 Q) (h : sg_m66 lo N n m0 j k L S G K) : sg_Wp lo N d y pc L S G Q := by
  unfold sg_m66 at h
  split at h
  · obtain ⟨⟨hb, hi⟩, h⟩ := h
    intro p l e R s m args below meth c D cy a H locs ls hC hH
    rename_i i1 s1 r
    have h32 : sg_32 i1 := sg_hd1 hH.sk
    have hN : vp_in (Int32.ofInt i1) (sg_len.getD s1.toNat 0) := by
      have := sg_vpin h32 hi
      unfold sg_ll at this
      rw [Int.toNat_natCast] at this
      exact this
    have hv : Value.int ((sg_byt.getD s1.toNat []).getD (Int32.ofInt i1).toNatClampNeg 0) = sg_v a (0, sg_lb s1 i1) := by
      have e : (Int32.ofInt i1).toNatClampNeg = i1.toNat := by have := sg_cl h32 hi.1; omega
      unfold sg_lb
      rw [sg_vi, e]
    exact va_tb hC.1 hC.2.1 (hC.2.2.2.2.2.2.2.2.2.2.2.1.1 s1.toNat (by omega)).2.2.2 hH.2.2.1 hN hv hd (hK _ _ _ h p l e R s m args below meth c D cy a H locs ls hC (hH.st (sg_cons (v := (0, sg_lb s1 i1)) (sg_32_of _) (sg_tl1 (sg_tl1 hH.sk)))))
  · exact h.elim
theorem sg_o67 {n m0 : Int} {j k : Nat} (hd : decode y.2.2.1 pc = .ok (.arraylength, 1)) {K : SgK} (hK : ∀ L2 S2 G2, K L2 S2 G2 → sg_Wp lo N d y (pc + 1) L2 S2 G2 Q) (h : sg_m67 lo N n m0 j k L S G K) : sg_Wp lo N d y pc L S G Q := by
  unfold sg_m67 at h
  split at h
  · obtain ⟨hb, h⟩ := h
    intro p l e R s m args below meth c D cy a H locs ls hC hH
    rename_i s1 r
    have hl : ∀ i : Nat, i < 6 → sg_len.getD i 0 < 100 := by decide
    have hl := hl s1.toNat (by omega)
    have e1 : Int32.ofNat (sg_len.getD s1.toNat 0) = Int32.ofInt (sg_ll s1) := by unfold sg_ll; rw [Int32.ofInt_eq_ofNat]
    have h32 : sg_32 (sg_ll s1) := Int32.toInt_ofInt_of_le (by unfold sg_ll; omega) (by unfold sg_ll; omega)
    exact va_tlen hC.1 hC.2.1 (hC.2.2.2.2.2.2.2.2.2.2.2.1.1 s1.toNat (by omega)).2.2.2 hH.2.2.1 e1 hd (hK _ _ _ h p l e R s m args below meth c D cy a H locs ls hC (hH.st (sg_cons (v := (0, sg_ll s1)) h32 (sg_tl1 hH.sk))))
  · exact h.elim
theorem sg_o68 {n m0 : Int} {j k : Nat} (hd : decode y.2.2.1 pc = .ok (.iaload, 1)) {K : SgK} (hK : ∀ L2 S2 G2, K L2 S2 G2 → sg_Wp lo N d y (pc + 1) L2 S2 G2 Q) (h : sg_m68 lo N n m0 j k L S G K) : sg_Wp lo N d y pc L S G Q := by
  unfold sg_m68 at h
  split at h
  · obtain ⟨hi, h⟩ := h
    intro p l e R s m args below meth c D cy a H locs ls hC hH
    rename_i i1 s1 r
    have h32 : sg_32 i1 := sg_hd1 hH.sk
    have hv : Value.int (sg_loud (Int32.ofInt i1).toNatClampNeg) = sg_v a (0, (sg_loud i1.toNat).toInt) := by
      have e : (Int32.ofInt i1).toNatClampNeg = i1.toNat := by have := sg_cl h32 hi.1; omega
      rw [sg_vi, e]
    exact va_ti hC.1 hC.2.1 hC.2.2.2.2.2.2.2.2.2.2.2.2.2.2.1 hH.2.2.1 (sg_vpin (n := 3) h32 hi) hv hd (hK _ _ _ h p l e R s m args below meth c D cy a H locs ls hC (hH.st (sg_cons (v := (0, (sg_loud i1.toNat).toInt)) (sg_32_of _) (sg_tl1 (sg_tl1 hH.sk)))))
  · exact h.elim
/-- any straight instruction -/
theorem sg_one (i : SgI) (hd : decode y.2.2.1 pc = .ok (sg_ins i)) (hk : sg_lk y.1 y.2.2.2.1 i = true) {K : SgK} (hK : ∀ L2 S2 G2, K L2 S2 G2 → sg_Wp lo N d y (pc + (sg_ins i).2) L2 S2 G2 Q) (h : sg_st lo N i L S G K) : sg_Wp lo N d y pc L S G Q := by
  obtain ⟨op, n, m, j, k⟩ := i
  match op, hd, hk, hK, h with
  | 1, hd, hk, hK, h => exact sg_o1 (n := n) (m0 := m) (j := j) (k := k)  hd hK h
  | 2, hd, hk, hK, h => exact sg_o2 (n := n) (m0 := m) (j := j) (k := k)  hd hK h
  | 3, hd, hk, hK, h => exact sg_o3 (n := n) (m0 := m) (j := j) (k := k)  hd hK h
  | 4, hd, hk, hK, h => exact sg_o4 (n := n) (m0 := m) (j := j) (k := k)  hd hK h
  | 5, hd, hk, hK, h => exact sg_o5 (n := n) (m0 := m) (j := j) (k := k)  hd hK h
  | 6, hd, hk, hK, h => exact sg_o6 (n := n) (m0 := m) (j := j) (k := k)  hd hK h
  | 7, hd, hk, hK, h => exact sg_o7 (n := n) (m0 := m) (j := j) (k := k)  hd hK h
  | 8, hd, hk, hK, h => exact sg_o8 (n := n) (m0 := m) (j := j) (k := k)  hd hK h
  | 9, hd, hk, hK, h => exact sg_o9 (n := n) (m0 := m) (j := j) (k := k)  hd hK h
  | 10, hd, hk, hK, h => exact sg_o10 (n := n) (m0 := m) (j := j) (k := k)  hd hK h
  | 11, hd, hk, hK, h => exact sg_o11 (n := n) (m0 := m) (j := j) (k := k) (of_decide_eq_true hk) hd hK h
  | 12, hd, hk, hK, h => exact sg_o12 (n := n) (m0 := m) (j := j) (k := k) (of_decide_eq_true hk) hd hK h
  | 13, hd, hk, hK, h => have z1 := Bool.and_eq_true_iff.mp hk; have z2 := Bool.and_eq_true_iff.mp z1.2; exact sg_o13 (n := n) (m0 := m) (j := j) (k := k) (of_decide_eq_true z1.1) (of_decide_eq_true z2.1) (of_decide_eq_true z2.2) hd hK h
  | 14, hd, hk, hK, h => exact sg_o14 (n := n) (m0 := m) (j := j) (k := k) (of_decide_eq_true hk) hd hK h
  | 15, hd, hk, hK, h => have z1 := Bool.and_eq_true_iff.mp hk; exact sg_o15 (n := n) (m0 := m) (j := j) (k := k) (sg_fl_ok _ (of_decide_eq_true z1.1)) (of_decide_eq_true z1.2) hd hK h
  | 65, hd, hk, hK, h => have z1 := Bool.and_eq_true_iff.mp hk; exact sg_o65 (n := n) (m0 := m) (j := j) (k := k) (sg_fl_ok _ (of_decide_eq_true z1.1)) (by have z2 := z1.2; simpa using z2) hd hK h
  | 16, hd, hk, hK, h => have z1 := Bool.and_eq_true_iff.mp hk; exact sg_o16 (n := n) (m0 := m) (j := j) (k := k) (sg_fl_ok _ (of_decide_eq_true z1.1)) (sg_fp_ok _ (of_decide_eq_true z1.2)) hd hK h
  | 17, hd, hk, hK, h => exact sg_o17 (n := n) (m0 := m) (j := j) (k := k)  hd hK h
  | 18, hd, hk, hK, h => exact sg_o18 (n := n) (m0 := m) (j := j) (k := k)  hd hK h
  | 19, hd, hk, hK, h => exact sg_o19 (n := n) (m0 := m) (j := j) (k := k)  hd hK h
  | 20, hd, hk, hK, h => exact sg_o20 (n := n) (m0 := m) (j := j) (k := k)  hd hK h
  | 21, hd, hk, hK, h => exact sg_o21 (n := n) (m0 := m) (j := j) (k := k)  hd hK h
  | 22, hd, hk, hK, h => exact sg_o22 (n := n) (m0 := m) (j := j) (k := k)  hd hK h
  | 23, hd, hk, hK, h => exact sg_o23 (n := n) (m0 := m) (j := j) (k := k)  hd hK h
  | 24, hd, hk, hK, h => exact sg_o24 (n := n) (m0 := m) (j := j) (k := k)  hd hK h
  | 25, hd, hk, hK, h => exact sg_o25 (n := n) (m0 := m) (j := j) (k := k) (of_decide_eq_true hk) hd hK h
  | 26, hd, hk, hK, h => exact sg_o26 (n := n) (m0 := m) (j := j) (k := k) (of_decide_eq_true hk) hd hK h
  | 27, hd, hk, hK, h => exact sg_o27 (n := n) (m0 := m) (j := j) (k := k) (of_decide_eq_true hk) hd hK h
  | 28, hd, hk, hK, h => exact sg_o28 (n := n) (m0 := m) (j := j) (k := k) (of_decide_eq_true hk) hd hK h
  | 29, hd, hk, hK, h => exact sg_o29 (n := n) (m0 := m) (j := j) (k := k) (of_decide_eq_true hk) hd hK h
  | 30, hd, hk, hK, h => exact sg_o30 (n := n) (m0 := m) (j := j) (k := k) (of_decide_eq_true hk) hd hK h
  | 31, hd, hk, hK, h => exact sg_o31 (n := n) (m0 := m) (j := j) (k := k) (of_decide_eq_true hk) hd hK h
  | 32, hd, hk, hK, h => exact sg_o32 (n := n) (m0 := m) (j := j) (k := k)  hd hK h
  | 33, hd, hk, hK, h => exact sg_o33 (n := n) (m0 := m) (j := j) (k := k)  hd hK h
  | 34, hd, hk, hK, h => exact sg_o34 (n := n) (m0 := m) (j := j) (k := k)  hd hK h
  | 35, hd, hk, hK, h => exact sg_o35 (n := n) (m0 := m) (j := j) (k := k)  hd hK h
  | 36, hd, hk, hK, h => exact sg_o36 (n := n) (m0 := m) (j := j) (k := k)  hd hK h
  | 37, hd, hk, hK, h => exact sg_o37 (n := n) (m0 := m) (j := j) (k := k)  hd hK h
  | 38, hd, hk, hK, h => exact sg_o38 (n := n) (m0 := m) (j := j) (k := k)  hd hK h
  | 39, hd, hk, hK, h => exact sg_o39 (n := n) (m0 := m) (j := j) (k := k)  hd hK h
  | 40, hd, hk, hK, h => exact sg_o40 (n := n) (m0 := m) (j := j) (k := k)  hd hK h
  | 41, hd, hk, hK, h => exact sg_o41 (n := n) (m0 := m) (j := j) (k := k)  hd hK h
  | 42, hd, hk, hK, h => exact sg_o42 (n := n) (m0 := m) (j := j) (k := k)  hd hK h
  | 43, hd, hk, hK, h => exact sg_o43 (n := n) (m0 := m) (j := j) (k := k)  hd hK h
  | 44, hd, hk, hK, h => exact sg_o44 (n := n) (m0 := m) (j := j) (k := k)  hd hK h
  | 45, hd, hk, hK, h => exact sg_o45 (n := n) (m0 := m) (j := j) (k := k)  hd hK h
  | 46, hd, hk, hK, h => exact sg_o46 (n := n) (m0 := m) (j := j) (k := k)  hd hK h
  | 47, hd, hk, hK, h => exact sg_o47 (n := n) (m0 := m) (j := j) (k := k)  hd hK h
  | 48, hd, hk, hK, h => exact sg_o48 (n := n) (m0 := m) (j := j) (k := k)  hd hK h
  | 49, hd, hk, hK, h => exact sg_o49 (n := n) (m0 := m) (j := j) (k := k)  hd hK h
  | 50, hd, hk, hK, h => exact sg_o50 (n := n) (m0 := m) (j := j) (k := k)  hd hK h
  | 51, hd, hk, hK, h => exact sg_o51 (n := n) (m0 := m) (j := j) (k := k)  hd hK h
  | 52, hd, hk, hK, h => exact sg_o52 (n := n) (m0 := m) (j := j) (k := k)  hd hK h
  | 53, hd, hk, hK, h => exact sg_o53 (n := n) (m0 := m) (j := j) (k := k)  hd hK h
  | 54, hd, hk, hK, h => exact sg_o54 (n := n) (m0 := m) (j := j) (k := k)  hd hK h
  | 55, hd, hk, hK, h => exact sg_o55 (n := n) (m0 := m) (j := j) (k := k)  hd hK h
  | 56, hd, hk, hK, h => exact sg_o56 (n := n) (m0 := m) (j := j) (k := k)  hd hK h
  | 57, hd, hk, hK, h => exact sg_o57 (n := n) (m0 := m) (j := j) (k := k)  hd hK h
  | 58, hd, hk, hK, h => exact sg_o58 (n := n) (m0 := m) (j := j) (k := k)  hd hK h
  | 59, hd, hk, hK, h => exact sg_o59 (n := n) (m0 := m) (j := j) (k := k)  hd hK h
  | 60, hd, hk, hK, h => have z1 := Bool.and_eq_true_iff.mp hk; exact sg_o60 (n := n) (m0 := m) (j := j) (k := k) (of_decide_eq_true z1.1) (of_decide_eq_true z1.2) hd hK h
  | 61, hd, hk, hK, h => have z1 := Bool.and_eq_true_iff.mp hk; exact sg_o61 (n := n) (m0 := m) (j := j) (k := k) (of_decide_eq_true z1.1) (of_decide_eq_true z1.2) hd hK h
  | 62, hd, hk, hK, h => have z1 := Bool.and_eq_true_iff.mp hk; exact sg_o62 (n := n) (m0 := m) (j := j) (k := k) (of_decide_eq_true z1.1) (of_decide_eq_true z1.2) hd hK h
  | 63, hd, hk, hK, h => have z1 := Bool.and_eq_true_iff.mp hk; exact sg_o63 (n := n) (m0 := m) (j := j) (k := k) (of_decide_eq_true z1.1) (of_decide_eq_true z1.2) hd hK h
  | 66, hd, hk, hK, h => exact sg_o66 (n := n) (m0 := m) (j := j) (k := k)  hd hK h
  | 67, hd, hk, hK, h => exact sg_o67 (n := n) (m0 := m) (j := j) (k := k)  hd hK h
  | 68, hd, hk, hK, h => exact sg_o68 (n := n) (m0 := m) (j := j) (k := k)  hd hK h
  | 0, _, _, _, h => exact h.elim
  | 64, _, _, _, h => exact h.elim
  | op + 69, _, _, _, h => exact h.elim
def sg_ok (own maxL : Nat) (b : ByteArray) : Nat → List SgI → Bool
  | _, [] => true
  | pc, i :: is => (match decode b pc with | .ok x => decide (x = sg_ins i) | .error _ => false) && sg_lk own maxL i && sg_ok own maxL b (pc + (sg_ins i).2) is
def sg_end : Nat → List SgI → Nat
  | pc, [] => pc
  | pc, i :: is => sg_end (pc + (sg_ins i).2) is
def sg_run (lo N : Nat) : List SgI → SgL → SgS → SgM → SgK → Prop
  | [], L, S, G, K => K L S G
  | i :: is, L, S, G, K => sg_st lo N i L S G (fun L' S' G' => sg_run lo N is L' S' G' K)
theorem sg_blk : ∀ (is : List SgI) {pc : Nat} {L : SgL} {S : SgS} {G : SgM}, sg_ok y.1 y.2.2.2.1 y.2.2.1 pc is = true → sg_run lo N is L S G (fun L' S' G' => sg_Wp lo N d y (sg_end pc is) L' S' G' Q) → sg_Wp lo N d y pc L S G Q
  | [], _, _, _, _, _, h => h
  | i :: is, pc, L, S, G, hk, h => by
    unfold sg_ok at hk
    obtain ⟨h1, h2⟩ := Bool.and_eq_true_iff.mp hk
    obtain ⟨h1, h3⟩ := Bool.and_eq_true_iff.mp h1
    have hd : decode y.2.2.1 pc = .ok (sg_ins i) := by
      split at h1
      · rename_i x hx
        rw [hx, of_decide_eq_true h1]
      · cases h1
    exact sg_one i hd h3 (fun L2 S2 G2 k => sg_blk is h2 k) h
end SgT
