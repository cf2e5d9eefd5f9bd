theorem sg_mc_max : Cond.code Lib.Math.max.name Lib.Math.max.code 2 (some .int) ∈ sg_GT := sg_inGT (List.mem_of_getElem? (i := 295) (by decide +kernel)) rfl
theorem sg_ms_max : Cond.static Lib.Math.max.name ∈ sg_GT := sg_inGT (List.mem_of_getElem? (i := 294) (by decide +kernel)) rfl
theorem sg_mc_min : Cond.code Lib.Math.min.name Lib.Math.min.code 2 (some .int) ∈ sg_GT := sg_inGT (List.mem_of_getElem? (i := 298) (by decide +kernel)) rfl
theorem sg_ms_min : Cond.static Lib.Math.min.name ∈ sg_GT := sg_inGT (List.mem_of_getElem? (i := 297) (by decide +kernel)) rfl
theorem sg_mc_abs : Cond.code Lib.Math.abs.name Lib.Math.abs.code 1 (some .int) ∈ sg_GT := sg_inGT (List.mem_of_getElem? (i := 367) (by decide +kernel)) rfl
theorem sg_ms_abs : Cond.static Lib.Math.abs.name ∈ sg_GT := sg_inGT (List.mem_of_getElem? (i := 366) (by decide +kernel)) rfl
theorem sg_mi : Cond.initialized "java/lang/Math" ∈ sg_GT := sg_inGT (List.mem_of_getElem? (i := 10) (by decide +kernel)) rfl
/-- a truth as an int -/
def sg_bo (p : Prop) [Decidable p] : Int := if p then 1 else 0
theorem sg_bo01 (p : Prop) [Decidable p] : sg_bo p = 0 ∨ sg_bo p = 1 := by
  unfold sg_bo
  by_cases h : p
  · exact Or.inr (if_pos h)
  · exact Or.inl (if_neg h)
theorem sg_bo_t {p : Prop} [Decidable p] (h : p) : sg_bo p = 1 := if_pos h
theorem sg_bo_f {p : Prop} [Decidable p] (h : ¬ p) : sg_bo p = 0 := if_neg h
theorem sg_bif_eq {lo N d : Nat} {y : SgY} {pc : Nat} {L : SgL} {r : SgS} {G : SgM} {Q : Int → SgM → Prop} {p : Prop} [Decidable p] {off : Int} {tgt : Nat} (hd : decode y.2.2.1 pc = .ok (.ifCond .eq off, 3)) (ht : (pc : Int) + off = (tgt : Int)) (h : (p → sg_Wp lo N d y (pc + 3) L r G Q) ∧ (¬ p → sg_Wp lo N d y tgt L r G Q)) : sg_Wp lo N d y pc L ((0, sg_bo p) :: r) G Q := by
  refine sg_if_eq hd ht ⟨fun q => h.2 (fun hp => ?_), fun q => h.1 ?_⟩
  · rw [sg_bo_t hp] at q; cases q
  · exact Decidable.byContradiction (fun hp => q (sg_bo_f hp))
theorem sg_bif_ne {lo N d : Nat} {y : SgY} {pc : Nat} {L : SgL} {r : SgS} {G : SgM} {Q : Int → SgM → Prop} {p : Prop} [Decidable p] {off : Int} {tgt : Nat} (hd : decode y.2.2.1 pc = .ok (.ifCond .ne off, 3)) (ht : (pc : Int) + off = (tgt : Int)) (h : (p → sg_Wp lo N d y tgt L r G Q) ∧ (¬ p → sg_Wp lo N d y (pc + 3) L r G Q)) : sg_Wp lo N d y pc L ((0, sg_bo p) :: r) G Q := by
  refine sg_if_ne hd ht ⟨fun q => h.1 ?_, fun q => h.2 (fun hp => q ?_)⟩
  · exact Decidable.byContradiction (fun hp => q (sg_bo_f hp))
  · rw [sg_bo_t hp]; decide
def sg_mx (x z : Int) : Int := if x < z then z else x
def sg_mn (x z : Int) : Int := if z < x then z else x
def sg_ab (x : Int) : Int := if 0 ≤ x then x else sg_isub 0 x
theorem sg_rl {a : SgA} {r : SgS} {R : Room} {d : Nat} (h : sg_rs r ≤ 8) (hd : 0 < d) (hR : 34 * d ≤ R.locals) : ((r.map (sg_v a)).map fun v => v.category).sum + 13 ≤ R.locals := by
  have e1 := sg_rs_le (a := a) h (g := F0 (default : MethodId) 0 #[] []) rfl
  have e2 : (F0 (default : MethodId) 0 #[] []).monitorRoom = 0 := rfl
  omega
theorem sg_mmax {lo N d : Nat} {y : SgY} {pc : Nat} {L : SgL} {S r : SgS} {G : SgM} {Q : Int → SgM → Prop} {idx : Nat} {x z : Int} (hd : decode y.2.2.1 pc = .ok (.invokestatic idx, 3)) (hm : Cond.methodLink (sg_cn y.1) idx Lib.Math.max.name ∈ sg_GT) (hdd : 0 < d) (hrs : sg_rs r ≤ 8) (hst : S = (0, z) :: (0, x) :: r) (h : sg_Wp lo N d y (pc + 3) L ((0, sg_mx x z) :: r) G Q) : sg_Wp lo N d y pc L S G Q := by
  subst hst
  intro p l e R s m args below meth c D cy a H locs ls hC hH
  have hts := hC.2.2.2.2.2.2.1
  have hz : sg_32 z := sg_hd1 hH.sk
  have hx : sg_32 x := sg_hd1 (sg_tl1 hH.sk)
  have h2 : sg_32 (sg_mx x z) := by unfold sg_mx; split <;> assumption
  have e1 : sg_v a (0, sg_mx x z) = .int (if Int32.ofInt x < Int32.ofInt z then Int32.ofInt z else Int32.ofInt x) := by
    unfold sg_mx
    by_cases q : x < z
    · rw [if_pos q, if_pos ((sg_lt32 hx hz).mpr q)]; rfl
    · rw [if_neg q, if_neg (fun q2 => q ((sg_lt32 hx hz).mp q2))]; rfl
  have k := h p l e R s m args below meth c D cy a H locs ls hC (hH.st (sg_cons (v := (0, sg_mx x z)) h2 (sg_tl1 (sg_tl1 hH.sk))))
  rw [List.map_cons, e1] at k
  exact va_mmax hC.1 hC.2.1 (hC.2.2.1.trans hH.2.2.2.2.1.1.symm) hC.2.2.2.2.2.1 (hts _ hm) (hts _ sg_ms_max) (hts _ sg_mi) (hts _ sg_mc_max) (by have := hC.2.2.2.2.2.2.2.1; omega) (sg_rl hrs hdd hC.2.2.2.2.2.2.2.2.1) (Nat.zero_le _) (Nat.zero_le _) hd k
theorem sg_mmin {lo N d : Nat} {y : SgY} {pc : Nat} {L : SgL} {S r : SgS} {G : SgM} {Q : Int → SgM → Prop} {idx : Nat} {x z : Int} (hd : decode y.2.2.1 pc = .ok (.invokestatic idx, 3)) (hm : Cond.methodLink (sg_cn y.1) idx Lib.Math.min.name ∈ sg_GT) (hdd : 0 < d) (hrs : sg_rs r ≤ 8) (hst : S = (0, z) :: (0, x) :: r) (h : sg_Wp lo N d y (pc + 3) L ((0, sg_mn x z) :: r) G Q) : sg_Wp lo N d y pc L S G Q := by
  subst hst
  intro p l e R s m args below meth c D cy a H locs ls hC hH
  have hts := hC.2.2.2.2.2.2.1
  have hz : sg_32 z := sg_hd1 hH.sk
  have hx : sg_32 x := sg_hd1 (sg_tl1 hH.sk)
  have h2 : sg_32 (sg_mn x z) := by unfold sg_mn; split <;> assumption
  have e1 : sg_v a (0, sg_mn x z) = .int (if Int32.ofInt z < Int32.ofInt x then Int32.ofInt z else Int32.ofInt x) := by
    unfold sg_mn
    by_cases q : z < x
    · rw [if_pos q, if_pos ((sg_lt32 hz hx).mpr q)]; rfl
    · rw [if_neg q, if_neg (fun q2 => q ((sg_lt32 hz hx).mp q2))]; rfl
  have k := h p l e R s m args below meth c D cy a H locs ls hC (hH.st (sg_cons (v := (0, sg_mn x z)) h2 (sg_tl1 (sg_tl1 hH.sk))))
  rw [List.map_cons, e1] at k
  exact va_mmin hC.1 hC.2.1 (hC.2.2.1.trans hH.2.2.2.2.1.1.symm) hC.2.2.2.2.2.1 (hts _ hm) (hts _ sg_ms_min) (hts _ sg_mi) (hts _ sg_mc_min) (by have := hC.2.2.2.2.2.2.2.1; omega) (sg_rl hrs hdd hC.2.2.2.2.2.2.2.2.1) (Nat.zero_le _) (Nat.zero_le _) hd k
theorem sg_mabs {lo N d : Nat} {y : SgY} {pc : Nat} {L : SgL} {S r : SgS} {G : SgM} {Q : Int → SgM → Prop} {idx : Nat} {x : Int} (hd : decode y.2.2.1 pc = .ok (.invokestatic idx, 3)) (hm : Cond.methodLink (sg_cn y.1) idx Lib.Math.abs.name ∈ sg_GT) (hdd : 0 < d) (hrs : sg_rs r ≤ 8) (hst : S = (0, x) :: r) (h : sg_Wp lo N d y (pc + 3) L ((0, sg_ab x) :: r) G Q) : sg_Wp lo N d y pc L S G Q := by
  subst hst
  intro p l e R s m args below meth c D cy a H locs ls hC hH
  have hts := hC.2.2.2.2.2.2.1
  have hx : sg_32 x := sg_hd1 hH.sk
  have i0 : (0 : Int32) ≤ Int32.ofInt x ↔ 0 ≤ x := sg_le32 sg_z32 hx
  have h2 : sg_32 (sg_ab x) := by unfold sg_ab; split; assumption; exact sg_32_of _
  have e1 : sg_v a (0, sg_ab x) = .int (if 0 ≤ Int32.ofInt x then Int32.ofInt x else 0 - Int32.ofInt x) := by
    unfold sg_ab
    by_cases q : 0 ≤ x
    · rw [if_pos q, if_pos (i0.mpr q)]; rfl
    · rw [if_neg q, if_neg (fun q2 => q (i0.mp q2))]
      unfold sg_isub
      rw [sg_vi]
      rfl
  have k := h p l e R s m args below meth c D cy a H locs ls hC (hH.st (sg_cons (v := (0, sg_ab x)) h2 (sg_tl1 hH.sk)))
  rw [List.map_cons, e1] at k
  exact va_mabs hC.1 hC.2.1 (hC.2.2.1.trans hH.2.2.2.2.1.1.symm) hC.2.2.2.2.2.1 (hts _ hm) (hts _ sg_ms_abs) (hts _ sg_mi) (hts _ sg_mc_abs) (by have := hC.2.2.2.2.2.2.2.1; omega) (sg_rl hrs hdd hC.2.2.2.2.2.2.2.2.1) (Nat.zero_le _) (Nat.zero_le _) hd k
/-- System.arraycopy over rows of ints -/
def sg_cp (G : SgM) (c0 sp c1 dp n : Int) : SgM := fun c i => if c = c1 ∧ dp ≤ i ∧ i < dp + n then G c0 (sp + (i - dp)) else G c i
theorem sg_acopy {lo N d : Nat} {y : SgY} {pc : Nat} {L : SgL} {S r : SgS} {G : SgM} {Q : Int → SgM → Prop} {idx : Nat} {n dp sp c1 c0 n0 n1 : Int} (hd : decode y.2.2.1 pc = .ok (.invokestatic idx, 3)) (hm : Cond.methodLink (sg_cn y.1) idx arraycopyName ∈ sg_GT) (h0 : sg_Ce lo N c0 1 n0) (h1 : sg_Ce lo N c1 1 n1) (hd2 : 1 < d) (hrs : sg_rs r ≤ 8) (hst : S = (0, n) :: (0, dp) :: (2, c1) :: (0, sp) :: (2, c0) :: r)
    (hb : 0 ≤ sp ∧ 0 ≤ dp ∧ 0 ≤ n ∧ sp + n ≤ n0 ∧ dp + n ≤ n1) (h : sg_Wp lo N d y (pc + 3) L r (sg_cp G c0 sp c1 dp n) Q) : sg_Wp lo N d y pc L S G Q := by
  subst hst
  intro p l e R s m args below meth c D cy a H locs ls hC hH
  have hts := hC.2.2.2.2.2.2.1
  have hn : sg_32 n := sg_hd1 hH.sk
  have hdp : sg_32 dp := sg_hd1 (sg_tl1 hH.sk)
  have hsp : sg_32 sp := sg_hd1 (sg_tl1 (sg_tl1 (sg_tl1 hH.sk)))
  have hw0 := sg_W_at (cy := cy) (a := a) (G := G) h0.1
  rw [sg_e1 h0.2] at hw0
  have hw1 := sg_W_at (cy := cy) (a := a) (G := G) h1.1
  rw [sg_e1 h1.2] at hw1
  have en := sg_cl hn hb.2.2.1
  have ed := sg_cl hdp hb.2.1
  have es := sg_cl hsp hb.1
  have ng : ∀ x : Int, sg_32 x → 0 ≤ x → ¬ Int32.ofInt x < 0 := fun x hx h0 q => by
    have := (sg_lt32 hx sg_z32).mp q
    omega
  have hl : ((r.map (sg_v a)).map fun v => v.category).sum + (nativeFrameWords "java/lang/System" "arraycopy" 5 + 11) ≤ R.locals := by
    have e1 := sg_rs_le (a := a) hrs (g := F0 m 0 ls []) rfl
    have e2 : (F0 m 0 ls []).monitorRoom = 0 := rfl
    have e3 : nativeFrameWords "java/lang/System" "arraycopy" 5 = 7 := by decide +kernel
    have e4 := hC.2.2.2.2.2.2.2.2.1
    rw [e3]
    omega
  have k4 : (Int32.ofInt sp).toNatClampNeg + (Int32.ofInt n).toNatClampNeg ≤ n0.toNat := by omega
  have k5 : (Int32.ofInt dp).toNatClampNeg + (Int32.ofInt n).toNatClampNeg ≤ n1.toNat := by omega
  refine va_copyi (ty := .int) hC.1 hC.2.1 (hC.2.2.1.trans hH.2.2.2.2.1.1.symm) hC.2.2.2.2.2.1 (hts _ hm) (hts _ ma_nat) (hts _ ma_sta) (hts _ ma_ini) hC.2.2.2.2.2.2.2.2.2.1 hH.1 hH.2.1 hH.2.2.1 (c0.toNat - lo) (c1.toNat - lo) 0 0 hw0 hw1 rfl rfl rfl (ng sp hsp hb.1) (ng dp hdp hb.2.1) (ng n hn hb.2.2.1) k4 k5 (fun _ _ => rfl) (by have := hC.2.2.2.2.2.2.2.1; omega) hl hd (fun H1 locs1 hP1 _ hS1 => ?_)
  have e1 : (fun j : Nat => Int32.ofInt (sg_cp G c0 sp c1 dp n c1 (j : Int))) = va_cpy (fun j : Nat => Int32.ofInt (G c0 (j : Int))) (fun j : Nat => Int32.ofInt (G c1 (j : Int))) (Int32.ofInt sp).toNatClampNeg (Int32.ofInt dp).toNatClampNeg (Int32.ofInt n).toNatClampNeg := by
    funext j
    unfold va_cpy sg_cp
    by_cases hj : (Int32.ofInt dp).toNatClampNeg ≤ j ∧ j < (Int32.ofInt dp).toNatClampNeg + (Int32.ofInt n).toNatClampNeg
    · rw [if_pos hj, if_pos ⟨rfl, by omega, by omega⟩]
      congr 2
      omega
    · rw [if_neg hj, if_neg (fun q => hj ⟨by omega, by omega⟩)]
  rw [← e1, ← sg_e1 (G := sg_cp G c0 sp c1 dp n) h1.2, sg_W_set h1.1 (fun c' hc' => sg_e_off (fun i => by unfold sg_cp; rw [if_neg (fun q => hc' q.1)]))] at hP1
  have hcan : sg_can (sg_cp G c0 sp c1 dp n) := by
    intro c' i'
    unfold sg_cp
    by_cases q : c' = c1 ∧ dp ≤ i' ∧ i' < dp + n
    · rw [if_pos q, q.1, h1.2, if_neg (by simp)]
      exact sg_can32 hH.2.2.2.1 (by rw [h0.2]; simp)
    · rw [if_neg q]
      exact hH.2.2.2.1 c' i'
  exact h p l e R s m args below meth c D cy a H1 locs1 ls hC (hH.mem hP1 hS1 hcan (sg_tl1 (sg_tl1 (sg_tl1 (sg_tl1 (sg_tl1 hH.sk))))))
theorem sg_Wp.keepk {lo N d : Nat} {y : SgY} {pc : Nat} {L L' : SgL} {S : SgS} {G : SgM} {Q : Int → SgM → Prop} (ks : List Nat) (hl : ks.map (fun k => L[k]?) = L'.map some) (h : sg_Wp lo N d y pc L' S G Q) : sg_Wp lo N d y pc L S G Q := by
  refine h.keep (fun q hq => ?_)
  have h1 : some q ∈ L'.map some := List.mem_map.mpr ⟨q, hq, rfl⟩
  rw [← hl] at h1
  obtain ⟨k, -, hk⟩ := List.mem_map.mp h1
  exact List.mem_of_getElem? hk
