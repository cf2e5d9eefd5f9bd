/-! JUMPS, SWITCHES, ANSWERS, CALLS -/
section SgU
variable {lo N d : Nat} {y : SgY} {pc : Nat} {L : SgL} {S r : SgS} {G : SgM} {Q : Int → SgM → Prop}
theorem sg_goto {off : Int} {tgt : Nat} (hd : decode y.2.2.1 pc = .ok (.goto off, 3)) (ht : (pc : Int) + off = (tgt : Int)) (h : sg_Wp lo N d y tgt L S G Q) : sg_Wp lo N d y pc L S G Q := by
  intro p l e R s m args below meth c D cy a H locs ls hC hH
  exact lv_goto hC.1 hC.2.1 hd ht (h p l e R s m args below meth c D cy a H locs ls hC hH)
theorem sg_lt32 {x y : Int} (hx : sg_32 x) (hy : sg_32 y) : Int32.ofInt x < Int32.ofInt y ↔ x < y := by
  rw [Int32.lt_iff_toInt_lt, show (Int32.ofInt x).toInt = x from hx, show (Int32.ofInt y).toInt = y from hy]
theorem sg_le32 {x y : Int} (hx : sg_32 x) (hy : sg_32 y) : Int32.ofInt x ≤ Int32.ofInt y ↔ x ≤ y := by
  rw [Int32.le_iff_toInt_le, show (Int32.ofInt x).toInt = x from hx, show (Int32.ofInt y).toInt = y from hy]
theorem sg_eq32 {x y : Int} (hx : sg_32 x) (hy : sg_32 y) : Int32.ofInt x = Int32.ofInt y ↔ x = y := by
  rw [← Int32.toInt_inj, show (Int32.ofInt x).toInt = x from hx, show (Int32.ofInt y).toInt = y from hy]
theorem sg_z32 : sg_32 0 := rfl

theorem sg_icmp_lt {x z off : Int} {tgt : Nat} (hd : decode y.2.2.1 pc = .ok (.if_icmp .lt off, 3)) (ht : (pc : Int) + off = (tgt : Int)) (h : (x < z → sg_Wp lo N d y tgt L r G Q) ∧ (¬ (x < z) → sg_Wp lo N d y (pc + 3) L r G Q)) : sg_Wp lo N d y pc L ((0, z) :: (0, x) :: r) G Q := by
  intro p l e R s m args below meth c D cy a H locs ls hC hH
  have hz : sg_32 z := sg_hd1 hH.sk
  have hx : sg_32 x := sg_hd1 (sg_tl1 hH.sk)
  have i := sg_lt32 hx hz
  have kt := fun q => h.1 q p l e R s m args below meth c D cy a H locs ls hC (hH.st (sg_tl1 (sg_tl1 hH.sk)))
  have kf := fun q => h.2 q p l e R s m args below meth c D cy a H locs ls hC (hH.st (sg_tl1 (sg_tl1 hH.sk)))
  exact lv_icmp_lt hC.1 hC.2.1 hd ht (fun q => kt (i.mp q)) (fun q => kf (fun q2 => q (i.mpr q2)))
theorem sg_icmp_le {x z off : Int} {tgt : Nat} (hd : decode y.2.2.1 pc = .ok (.if_icmp .le off, 3)) (ht : (pc : Int) + off = (tgt : Int)) (h : (x ≤ z → sg_Wp lo N d y tgt L r G Q) ∧ (¬ (x ≤ z) → sg_Wp lo N d y (pc + 3) L r G Q)) : sg_Wp lo N d y pc L ((0, z) :: (0, x) :: r) G Q := by
  intro p l e R s m args below meth c D cy a H locs ls hC hH
  have hz : sg_32 z := sg_hd1 hH.sk
  have hx : sg_32 x := sg_hd1 (sg_tl1 hH.sk)
  have i := sg_le32 hx hz
  have kt := fun q => h.1 q p l e R s m args below meth c D cy a H locs ls hC (hH.st (sg_tl1 (sg_tl1 hH.sk)))
  have kf := fun q => h.2 q p l e R s m args below meth c D cy a H locs ls hC (hH.st (sg_tl1 (sg_tl1 hH.sk)))
  exact lv_icmp_le hC.1 hC.2.1 hd ht (fun q => kt (i.mp q)) (fun q => kf (fun q2 => q (i.mpr q2)))
theorem sg_icmp_gt {x z off : Int} {tgt : Nat} (hd : decode y.2.2.1 pc = .ok (.if_icmp .gt off, 3)) (ht : (pc : Int) + off = (tgt : Int)) (h : (z < x → sg_Wp lo N d y tgt L r G Q) ∧ (¬ (z < x) → sg_Wp lo N d y (pc + 3) L r G Q)) : sg_Wp lo N d y pc L ((0, z) :: (0, x) :: r) G Q := by
  intro p l e R s m args below meth c D cy a H locs ls hC hH
  have hz : sg_32 z := sg_hd1 hH.sk
  have hx : sg_32 x := sg_hd1 (sg_tl1 hH.sk)
  have i := sg_lt32 hz hx
  have kt := fun q => h.1 q p l e R s m args below meth c D cy a H locs ls hC (hH.st (sg_tl1 (sg_tl1 hH.sk)))
  have kf := fun q => h.2 q p l e R s m args below meth c D cy a H locs ls hC (hH.st (sg_tl1 (sg_tl1 hH.sk)))
  exact lv_icmp_gt hC.1 hC.2.1 hd ht (fun q => kt (i.mp q)) (fun q => kf (fun q2 => q (i.mpr q2)))
theorem sg_icmp_ge {x z off : Int} {tgt : Nat} (hd : decode y.2.2.1 pc = .ok (.if_icmp .ge off, 3)) (ht : (pc : Int) + off = (tgt : Int)) (h : (z ≤ x → sg_Wp lo N d y tgt L r G Q) ∧ (¬ (z ≤ x) → sg_Wp lo N d y (pc + 3) L r G Q)) : sg_Wp lo N d y pc L ((0, z) :: (0, x) :: r) G Q := by
  intro p l e R s m args below meth c D cy a H locs ls hC hH
  have hz : sg_32 z := sg_hd1 hH.sk
  have hx : sg_32 x := sg_hd1 (sg_tl1 hH.sk)
  have i := sg_le32 hz hx
  have kt := fun q => h.1 q p l e R s m args below meth c D cy a H locs ls hC (hH.st (sg_tl1 (sg_tl1 hH.sk)))
  have kf := fun q => h.2 q p l e R s m args below meth c D cy a H locs ls hC (hH.st (sg_tl1 (sg_tl1 hH.sk)))
  exact lv_icmp_ge hC.1 hC.2.1 hd ht (fun q => kt (i.mp q)) (fun q => kf (fun q2 => q (i.mpr q2)))
theorem sg_icmp_eq {x z off : Int} {tgt : Nat} (hd : decode y.2.2.1 pc = .ok (.if_icmp .eq off, 3)) (ht : (pc : Int) + off = (tgt : Int)) (h : (x = z → sg_Wp lo N d y tgt L r G Q) ∧ (¬ (x = z) → sg_Wp lo N d y (pc + 3) L r G Q)) : sg_Wp lo N d y pc L ((0, z) :: (0, x) :: r) G Q := by
  intro p l e R s m args below meth c D cy a H locs ls hC hH
  have hz : sg_32 z := sg_hd1 hH.sk
  have hx : sg_32 x := sg_hd1 (sg_tl1 hH.sk)
  have i := sg_eq32 hx hz
  have kt := fun q => h.1 q p l e R s m args below meth c D cy a H locs ls hC (hH.st (sg_tl1 (sg_tl1 hH.sk)))
  have kf := fun q => h.2 q p l e R s m args below meth c D cy a H locs ls hC (hH.st (sg_tl1 (sg_tl1 hH.sk)))
  exact lv_icmp_eq hC.1 hC.2.1 hd ht (fun q => kt (i.mp q)) (fun q => kf (fun q2 => q (i.mpr q2)))
theorem sg_icmp_ne {x z off : Int} {tgt : Nat} (hd : decode y.2.2.1 pc = .ok (.if_icmp .ne off, 3)) (ht : (pc : Int) + off = (tgt : Int)) (h : (x ≠ z → sg_Wp lo N d y tgt L r G Q) ∧ (¬ (x ≠ z) → sg_Wp lo N d y (pc + 3) L r G Q)) : sg_Wp lo N d y pc L ((0, z) :: (0, x) :: r) G Q := by
  intro p l e R s m args below meth c D cy a H locs ls hC hH
  have hz : sg_32 z := sg_hd1 hH.sk
  have hx : sg_32 x := sg_hd1 (sg_tl1 hH.sk)
  have i := not_congr (sg_eq32 hx hz)
  have kt := fun q => h.1 q p l e R s m args below meth c D cy a H locs ls hC (hH.st (sg_tl1 (sg_tl1 hH.sk)))
  have kf := fun q => h.2 q p l e R s m args below meth c D cy a H locs ls hC (hH.st (sg_tl1 (sg_tl1 hH.sk)))
  exact lv_icmp_ne hC.1 hC.2.1 hd ht (fun q => kt (i.mp q)) (fun q => kf (fun q2 => q2 ((sg_eq32 hx hz).mp q)))
theorem sg_if_lt {x off : Int} {tgt : Nat} (hd : decode y.2.2.1 pc = .ok (.ifCond .lt off, 3)) (ht : (pc : Int) + off = (tgt : Int)) (h : (x < 0 → sg_Wp lo N d y tgt L r G Q) ∧ (¬ (x < 0) → sg_Wp lo N d y (pc + 3) L r G Q)) : sg_Wp lo N d y pc L ((0, x) :: r) G Q := by
  intro p l e R s m args below meth c D cy a H locs ls hC hH
  have hx : sg_32 x := sg_hd1 hH.sk
  have i := sg_lt32 hx sg_z32
  have kt := fun q => h.1 q p l e R s m args below meth c D cy a H locs ls hC (hH.st (sg_tl1 hH.sk))
  have kf := fun q => h.2 q p l e R s m args below meth c D cy a H locs ls hC (hH.st (sg_tl1 hH.sk))
  exact lv_if_lt hC.1 hC.2.1 hd ht (fun q => kt (i.mp q)) (fun q => kf (fun q2 => q (i.mpr q2)))
theorem sg_if_le {x off : Int} {tgt : Nat} (hd : decode y.2.2.1 pc = .ok (.ifCond .le off, 3)) (ht : (pc : Int) + off = (tgt : Int)) (h : (x ≤ 0 → sg_Wp lo N d y tgt L r G Q) ∧ (¬ (x ≤ 0) → sg_Wp lo N d y (pc + 3) L r G Q)) : sg_Wp lo N d y pc L ((0, x) :: r) G Q := by
  intro p l e R s m args below meth c D cy a H locs ls hC hH
  have hx : sg_32 x := sg_hd1 hH.sk
  have i := sg_le32 hx sg_z32
  have kt := fun q => h.1 q p l e R s m args below meth c D cy a H locs ls hC (hH.st (sg_tl1 hH.sk))
  have kf := fun q => h.2 q p l e R s m args below meth c D cy a H locs ls hC (hH.st (sg_tl1 hH.sk))
  exact lv_if_le hC.1 hC.2.1 hd ht (fun q => kt (i.mp q)) (fun q => kf (fun q2 => q (i.mpr q2)))
theorem sg_if_gt {x off : Int} {tgt : Nat} (hd : decode y.2.2.1 pc = .ok (.ifCond .gt off, 3)) (ht : (pc : Int) + off = (tgt : Int)) (h : (0 < x → sg_Wp lo N d y tgt L r G Q) ∧ (¬ (0 < x) → sg_Wp lo N d y (pc + 3) L r G Q)) : sg_Wp lo N d y pc L ((0, x) :: r) G Q := by
  intro p l e R s m args below meth c D cy a H locs ls hC hH
  have hx : sg_32 x := sg_hd1 hH.sk
  have i := sg_lt32 sg_z32 hx
  have kt := fun q => h.1 q p l e R s m args below meth c D cy a H locs ls hC (hH.st (sg_tl1 hH.sk))
  have kf := fun q => h.2 q p l e R s m args below meth c D cy a H locs ls hC (hH.st (sg_tl1 hH.sk))
  exact lv_if_gt hC.1 hC.2.1 hd ht (fun q => kt (i.mp q)) (fun q => kf (fun q2 => q (i.mpr q2)))
theorem sg_if_ge {x off : Int} {tgt : Nat} (hd : decode y.2.2.1 pc = .ok (.ifCond .ge off, 3)) (ht : (pc : Int) + off = (tgt : Int)) (h : (0 ≤ x → sg_Wp lo N d y tgt L r G Q) ∧ (¬ (0 ≤ x) → sg_Wp lo N d y (pc + 3) L r G Q)) : sg_Wp lo N d y pc L ((0, x) :: r) G Q := by
  intro p l e R s m args below meth c D cy a H locs ls hC hH
  have hx : sg_32 x := sg_hd1 hH.sk
  have i := sg_le32 sg_z32 hx
  have kt := fun q => h.1 q p l e R s m args below meth c D cy a H locs ls hC (hH.st (sg_tl1 hH.sk))
  have kf := fun q => h.2 q p l e R s m args below meth c D cy a H locs ls hC (hH.st (sg_tl1 hH.sk))
  exact lv_if_ge hC.1 hC.2.1 hd ht (fun q => kt (i.mp q)) (fun q => kf (fun q2 => q (i.mpr q2)))
theorem sg_if_eq {x off : Int} {tgt : Nat} (hd : decode y.2.2.1 pc = .ok (.ifCond .eq off, 3)) (ht : (pc : Int) + off = (tgt : Int)) (h : (x = 0 → sg_Wp lo N d y tgt L r G Q) ∧ (¬ (x = 0) → sg_Wp lo N d y (pc + 3) L r G Q)) : sg_Wp lo N d y pc L ((0, x) :: r) G Q := by
  intro p l e R s m args below meth c D cy a H locs ls hC hH
  have hx : sg_32 x := sg_hd1 hH.sk
  have i := sg_eq32 hx sg_z32
  have kt := fun q => h.1 q p l e R s m args below meth c D cy a H locs ls hC (hH.st (sg_tl1 hH.sk))
  have kf := fun q => h.2 q p l e R s m args below meth c D cy a H locs ls hC (hH.st (sg_tl1 hH.sk))
  exact lv_if_eq hC.1 hC.2.1 hd ht (fun q => kt (i.mp q)) (fun q => kf (fun q2 => q (i.mpr q2)))
theorem sg_if_ne {x off : Int} {tgt : Nat} (hd : decode y.2.2.1 pc = .ok (.ifCond .ne off, 3)) (ht : (pc : Int) + off = (tgt : Int)) (h : (x ≠ 0 → sg_Wp lo N d y tgt L r G Q) ∧ (¬ (x ≠ 0) → sg_Wp lo N d y (pc + 3) L r G Q)) : sg_Wp lo N d y pc L ((0, x) :: r) G Q := by
  intro p l e R s m args below meth c D cy a H locs ls hC hH
  have hx : sg_32 x := sg_hd1 hH.sk
  have i := not_congr (sg_eq32 hx sg_z32)
  have kt := fun q => h.1 q p l e R s m args below meth c D cy a H locs ls hC (hH.st (sg_tl1 hH.sk))
  have kf := fun q => h.2 q p l e R s m args below meth c D cy a H locs ls hC (hH.st (sg_tl1 hH.sk))
  exact lv_if_ne hC.1 hC.2.1 hd ht (fun q => kt (i.mp q)) (fun q => kf (fun q2 => q2 ((sg_eq32 hx sg_z32).mp q)))
def sg_sw (x : Int) : Int → List Nat → (Nat → Prop) → Prop → Prop
  | _, [], _, D => D
  | k, t :: ts, K, D => (x = k → K t) ∧ (x ≠ k → sg_sw x (k + 1) ts K D)
theorem sg_sw_in {x : Int} {K : Nat → Prop} {D : Prop} : ∀ (ts : List Nat) (k : Int) (j : Nat) (t : Nat), sg_sw x k ts K D → ts[j]? = some t → x = k + (j : Int) → K t
  | t0 :: ts, k, 0, t, h, hj, hx => by
    have e : t0 = t := Option.some.inj hj
    exact e ▸ h.1 (by omega)
  | t0 :: ts, k, j + 1, t, h, hj, hx => sg_sw_in ts (k + 1) j t (h.2 (by omega)) hj (by omega)
theorem sg_sw_out {x : Int} {K : Nat → Prop} {D : Prop} : ∀ (ts : List Nat) (k : Int), sg_sw x k ts K D → (x < k ∨ k + (ts.length : Int) ≤ x) → D
  | [], _, h, _ => h
  | t0 :: ts, k, h, hx => by
    rw [List.length_cons] at hx
    exact sg_sw_out ts (k + 1) (h.2 (by omega)) (by omega)
theorem sg_tsw {x dflt low high : Int} {offs : Array Int} {len dt : Nat} {ts : List Nat} (hd : decode y.2.2.1 pc = .ok (.tableswitch dflt low high offs, len)) (hts : offs.toList.map (fun o => (pc : Int) + o) = ts.map (fun t : Nat => (t : Int))) (hhi : low + (ts.length : Int) = high + 1) (hdt : (pc : Int) + dflt = (dt : Int))
    (h : sg_sw x low ts (fun t => sg_Wp lo N d y t L r G Q) (sg_Wp lo N d y dt L r G Q)) : sg_Wp lo N d y pc L ((0, x) :: r) G Q := by
  intro p l e R s m args below meth c D cy a H locs ls hC hH
  have hx : (Int32.ofInt x).toInt = x := sg_hd1 hH.sk
  by_cases hin : low ≤ x ∧ x ≤ high
  · have hlt : (x - low).toNat < ts.length := by omega
    obtain ⟨t, htj⟩ : ∃ t, ts[(x - low).toNat]? = some t := ⟨_, List.getElem?_eq_getElem hlt⟩
    have h1 : (offs.toList.map (fun o => (pc : Int) + o))[(x - low).toNat]? = some (t : Int) := by rw [hts, List.getElem?_map, htj]; rfl
    rw [List.getElem?_map, Array.getElem?_toList] at h1
    cases ho : offs[(x - low).toNat]? with
    | none => rw [ho] at h1; cases h1
    | some off =>
      rw [ho] at h1
      have hpc : (pc : Int) + off = (t : Int) := Option.some.inj h1
      have k := sg_sw_in ts low (x - low).toNat t h htj (by omega)
      exact lv_tableIn hC.1 hC.2.1 hd (by rw [hx]; omega) (by rw [hx]; omega) (by rw [hx]; exact ho) hpc (k p l e R s m args below meth c D cy a H locs ls hC (hH.st (sg_tl1 hH.sk)))
  · have k := sg_sw_out ts low h (by omega)
    exact lv_tableOut hC.1 hC.2.1 hd (by rw [hx]; omega) hdt (k p l e R s m args below meth c D cy a H locs ls hC (hH.st (sg_tl1 hH.sk)))
def sg_lsw (x : Int) : List (Int × Nat) → (Nat → Prop) → Prop → Prop
  | [], _, D => D
  | q :: ts, K, D => (x = q.1 → K q.2) ∧ (x ≠ q.1 → sg_lsw x ts K D)
theorem sg_lsw_off {x dflt : Int} {dt : Nat} {K : Nat → Prop} (hdt : (pc : Int) + dflt = (dt : Int)) : ∀ (ps : List (Int × Int)) (ts : List (Int × Nat)), ps.map (fun q => (q.1, (pc : Int) + q.2)) = ts.map (fun q => (q.1, (q.2 : Int))) → sg_lsw x ts K (K dt) → ∃ t : Nat, (pc : Int) + Op.lookupswitch.offset ps dflt x = (t : Int) ∧ K t
  | [], [], _, h => ⟨dt, hdt, h⟩
  | [], t :: ts, e, _ => by cases e
  | q :: ps, [], e, _ => by cases e
  | q :: ps, t :: ts, e, h => by
    obtain ⟨q1, q2⟩ := q
    obtain ⟨t1, t2⟩ := t
    rw [List.map_cons, List.map_cons, List.cons.injEq] at e
    obtain ⟨e1, e2⟩ := e
    simp only [Prod.mk.injEq] at e1
    by_cases c : x = q1
    · refine ⟨t2, ?_, h.1 (by rw [c]; exact e1.1)⟩
      rw [Op.lookupswitch.offset_cons, if_pos c.symm]
      exact e1.2
    · obtain ⟨t, h1, h2⟩ := sg_lsw_off hdt ps ts e2 (h.2 (fun z => c (by rw [z]; exact e1.1.symm)))
      refine ⟨t, ?_, h2⟩
      rw [Op.lookupswitch.offset_cons, if_neg (fun z => c z.symm)]
      exact h1
theorem sg_lksw {x dflt : Int} {ps : Array (Int × Int)} {len dt : Nat} {ts : List (Int × Nat)} (hd : decode y.2.2.1 pc = .ok (.lookupswitch dflt ps, len)) (hp : (ps.toList.zip (ps.toList.drop 1)).all (fun (a, next) => a.1 < next.1) = true) (hts : ps.toList.map (fun q => (q.1, (pc : Int) + q.2)) = ts.map (fun q => (q.1, (q.2 : Int)))) (hdt : (pc : Int) + dflt = (dt : Int))
    (h : sg_lsw x ts (fun t => sg_Wp lo N d y t L r G Q) (sg_Wp lo N d y dt L r G Q)) : sg_Wp lo N d y pc L ((0, x) :: r) G Q := by
  intro p l e R s m args below meth c D cy a H locs ls hC hH
  have hx : (Int32.ofInt x).toInt = x := sg_hd1 hH.sk
  obtain ⟨t, h1, h2⟩ := sg_lsw_off hdt ps.toList ts hts h
  rw [← hx] at h1
  exact lv_lookup hC.1 hC.2.1 hd hp rfl h1 (h2 p l e R s m args below meth c D cy a H locs ls hC (hH.st (sg_tl1 hH.sk)))
/-- answers -/
theorem sg_ret {v : Int} {ty : FieldType} (hd : decode y.2.2.1 pc = .ok (.ireturn, 1)) (hr : y.2.2.2.2 = some ty) (hty : ty = .int ∨ ((ty = .boolean ∨ ty = .byte) ∧ (v = 0 ∨ v = 1))) (h : Q v G) : sg_Wp lo N d y pc L [(0, v)] G Q := by
  intro p l e R s m args below meth c D cy a H locs ls hC hH
  have hn : narrow ty (.int (Int32.ofInt v)) = .int (Int32.ofInt v) := by
    rcases hty with rfl | ⟨rfl | rfl, rfl | rfl⟩ <;> rfl
  have hq : ∀ t : State, t.heap = H → s.WarmedH t.vm → sg_Qc lo N D cy a y.2.2.2.2 Q args s (.returned (some (.int (Int32.ofInt v)))) t := fun t ht _ => by
    refine ⟨⟨v, G, ?_, ?_, h, by rw [ht]; exact hH.1, hH.2.2.2.1⟩, hH.2.2.1.F ht⟩
    · rw [hr]
      rcases hty with rfl | ⟨rfl | rfl, -⟩ <;> rfl
    · rw [hr]
      rcases hty with rfl | ⟨rfl | rfl, -⟩ <;> exact sg_hd1 hH.sk
  exact W.zret hC.1 hC.2.1 (hC.2.2.2.1.trans hr) hn hq (fun q h2 => hH.2.2.1.2.2 q h2) hd hC.2.2.2.2.1
theorem sg_lret {v : Int} (hd : decode y.2.2.1 pc = .ok (.lreturn, 1)) (hr : y.2.2.2.2 = some .long) (h : Q v G) : sg_Wp lo N d y pc L [(1, v)] G Q := by
  intro p l e R s m args below meth c D cy a H locs ls hC hH
  have hq : ∀ t : State, t.heap = H → s.WarmedH t.vm → sg_Qc lo N D cy a y.2.2.2.2 Q args s (.returned (some (.long (Int64.ofInt v)))) t := fun t ht _ => by
    refine ⟨⟨v, G, by rw [hr]; rfl, by rw [hr]; exact sg_hd1 hH.sk, h, by rw [ht]; exact hH.1, hH.2.2.2.1⟩, hH.2.2.1.F ht⟩
  exact W.lret hC.1 hC.2.1 (hC.2.2.2.1.trans hr) hq (fun q h2 => hH.2.2.1.2.2 q h2) hd hC.2.2.2.2.1
theorem sg_vret (hd : decode y.2.2.1 pc = .ok (.return_, 1)) (hr : y.2.2.2.2 = none) (h : Q 0 G) : sg_Wp lo N d y pc L [] G Q := by
  intro p l e R s m args below meth c D cy a H locs ls hC hH
  have hq : ∀ t : State, t.heap = H → s.WarmedH t.vm → sg_Qc lo N D cy a y.2.2.2.2 Q args s (.returned none) t := fun t ht _ => by
    refine ⟨⟨0, G, by rw [hr]; rfl, by rw [hr]; trivial, h, by rw [ht]; exact hH.1, hH.2.2.2.1⟩, hH.2.2.1.F ht⟩
  exact W.vret hC.1 hC.2.1 (hC.2.2.2.1.trans hr) hq (fun q h2 => hH.2.2.1.2.2 q h2) hd hC.2.2.2.2.1
theorem sg_aret {v : Int} {t0 : Nat} {C : String} (hd : decode y.2.2.1 pc = .ok (.areturn, 1)) (hr : y.2.2.2.2 = some (.object C)) (hC0 : t0 = if C = "java/lang/String" then 3 else 2) (h : Q v G) : sg_Wp lo N d y pc L [(t0, v)] G Q := by
  intro p l e R s m args below meth c D cy a H locs ls hC hH
  have hv : sg_r (some (.object C)) a v = some (sg_v a (t0, v)) := by
    rw [hC0]
    show some _ = some _
    by_cases e : C = "java/lang/String"
    · rw [if_pos e, if_pos e]; rfl
    · rw [if_neg e, if_neg e]; rfl
  have h2 : 2 ≤ t0 := by rw [hC0]; split <;> omega
  have hq : ∀ t : State, t.heap = H → s.WarmedH t.vm → sg_Qc lo N D cy a y.2.2.2.2 Q args s (.returned (some (sg_v a (t0, v)))) t := fun t ht _ => by
    refine ⟨⟨v, G, by rw [hr, hv], by rw [hr]; trivial, h, by rw [ht]; exact hH.1, hH.2.2.2.1⟩, hH.2.2.1.F ht⟩
  exact W.aret hC.1 hC.2.1 (hC.2.2.2.1.trans hr) (Or.inl ⟨_, rfl⟩) (Or.inr (sg_ref2 a (v := (t0, v)) h2)) hq (fun q h2 => hH.2.2.1.2.2 q h2) hd hC.2.2.2.2.1
/-- a method's start -/
def sg_ent : Nat → SgS → SgL
  | _, [] => []
  | i, v :: vs => (i, v) :: sg_ent (if v.1 = 1 then i + 2 else i + 1) vs
def sg_sz : SgS → Nat
  | [] => 0
  | v :: vs => (if v.1 = 1 then 2 else 1) + sg_sz vs
theorem sg_cats (a : SgA) (v : Nat × Int) : (sg_v a v).category = if v.1 = 1 then 2 else 1 := by
  by_cases h : v.1 = 1
  · rw [if_pos h]
    obtain ⟨t, x⟩ := v
    cases h
    rfl
  · rw [if_neg h, sg_cat h]
theorem sg_ent_args (a : SgA) : ∀ (vs : SgS) (i : Nat), lv_args i (vs.map (sg_v a)) = (sg_ent i vs).map (fun q => (q.1, sg_v a q.2))
  | [], _ => rfl
  | v :: vs, i => by
    rw [List.map_cons]
    unfold lv_args sg_ent
    rw [sg_ent_args a vs, List.map_cons, sg_cats]
    by_cases h : v.1 = 1
    · simp [h]
    · simp [h]
theorem sg_sl_len (a : SgA) : ∀ (vs : SgS), (lg_sl (vs.map (sg_v a))).length = sg_sz vs
  | [] => rfl
  | v :: vs => by
    have := sg_sl_len a vs
    unfold lg_sl at this ⊢
    rw [List.map_cons, List.flatMap_cons, List.length_append, this, sg_cats]
    show _ = (if v.1 = 1 then 2 else 1) + sg_sz vs
    by_cases h : v.1 = 1
    · simp [h]
    · simp [h]
theorem sg_ent_cv : ∀ (vs : SgS) (i : Nat), (∀ v ∈ vs, sg_cv v) → ∀ q ∈ sg_ent i vs, sg_cv q.2
  | [], _, _, q, hq => by cases hq
  | v :: vs, i, h, q, hq => by
    unfold sg_ent at hq
    rcases List.mem_cons.mp hq with e | e
    · rw [e]; exact sg_hd1 h
    · exact sg_ent_cv vs _ (sg_tl1 h) q e
def sg_ws (y : SgY) : List Cond := Cond.code y.2.1 y.2.2.1 y.2.2.2.1 y.2.2.2.2 :: sg_GT
def sg_rm (d : Nat) : Room := { frames := d, cells := 0, slots := 0, locals := 34 * d }
theorem sg_met (hcn : y.2.1.cls = sg_cn y.1) (hpl : plainName y.2.1.cls = true) {av : SgS} (hsz : sg_sz av ≤ y.2.2.2.1) (hcv : ∀ v ∈ av, sg_cv v) (h : sg_Wp lo N d y 0 (sg_ent 0 av) [] G Q) (l : Launch) (D : va_G) (cy : SgC) (a : SgA) : Met l y.2.1 (sg_ws y) (sg_rm d) (sg_Pc lo N D cy a av G) (sg_Qc lo N D cy a y.2.2.2.2 Q) 0 0 (sg_A lo N a) := by
  refine Met.ofW (cc := y.2.2.1) (maxL := y.2.2.2.1) (ret := y.2.2.2.2) hpl rfl ?_
  intro p e s m args below meth c s₁ B hml hv
  obtain ⟨rfl, hP, hD, hcan, hK, hX⟩ := hv
  have hts := atoms_spec (ws := sg_ws y) B.pre
  have hown : s.vm.findClass (sg_cn y.1) = some m.cls := by rw [← hcn]; exact findClass_of_methodNamed B.named
  have hl := lv_entry (av.map (sg_v a)) (n := y.2.2.2.1) (by rw [sg_sl_len]; exact hsz)
  rw [lg_entry_eq]
  generalize (lg_sl (av.map (sg_v a)) ++ List.replicate (y.2.2.2.1 - (lg_sl (av.map (sg_v a))).length) Slot.unset).toArray = ls at hl ⊢
  rw [sg_ent_args] at hl
  exact h p l e _ s m _ below meth c D cy a s.heap [] ls ⟨B.exec, B.bytes, hml, B.returns, B.notSynchronized, hown, fun w hw => hts w (List.mem_cons_of_mem _ hw), Nat.le_refl _, Nat.le_refl _, hK, hX⟩ ⟨hP, hD, va_S.rf, hcan, hl, sg_ent_cv av 0 hcv, fun v hv => by cases hv⟩
theorem sg_Pc_blind {D : va_G} {cy : SgC} {a : SgA} {av : SgS} : FrameBlind (sg_Pc lo N D cy a av G) := by
  intro b U g mk h
  obtain ⟨e, hP, hD, hcan, hK, hX⟩ := h
  exact ⟨e, hP, hD, hcan, va_K.moved (u := U) (U := U.calling g mk b) (Vm.Alike.refl U.vm) hK, sg_X.same (u := U) (U := U.calling g mk b) rfl hX⟩
theorem sg_push_map (ret : Option FieldType) (a : SgA) (v : Int) (r : SgS) : (sg_push ret v r).map (sg_v a) = (sg_r ret a v).toList ++ r.map (sg_v a) := by
  unfold sg_push sg_r
  split
  · rfl
  · rfl
  · rename_i C
    by_cases e : C = "java/lang/String"
    · simp only [if_pos e]; rfl
    · simp only [if_neg e]; rfl
  · rfl
theorem sg_push_cv {ret : Option FieldType} {v : Int} {r : SgS} (h : sg_rc ret v) (hr : ∀ w ∈ r, sg_cv w) : ∀ w ∈ sg_push ret v r, sg_cv w := by
  match ret, h with
  | none, _ => exact hr
  | some .long, h => exact sg_cons (v := (1, v)) h hr
  | some (.object C), _ =>
    show ∀ w ∈ (if C = "java/lang/String" then (3, v) else (2, v)) :: r, sg_cv w
    by_cases e : C = "java/lang/String"
    · rw [if_pos e]; exact sg_cons (v := (3, v)) trivial hr
    · rw [if_neg e]; exact sg_cons (v := (2, v)) trivial hr
  | some .int, h => exact sg_cons (v := (0, v)) h hr
  | some .boolean, h => exact sg_cons (v := (0, v)) h hr
  | some .byte, h => exact sg_cons (v := (0, v)) h hr
  | some .char, h => exact sg_cons (v := (0, v)) h hr
  | some .short, h => exact sg_cons (v := (0, v)) h hr
  | some .float, h => exact sg_cons (v := (0, v)) h hr
  | some .double, h => exact sg_cons (v := (0, v)) h hr
  | some (.array t), h => exact sg_cons (v := (0, v)) h hr
/-- behind a call -/
theorem sg_back {p : Program} {l : Launch} {e : Env} {R : Room} {s : State} {m : MethodId} {args : Array Value} {below : List Frame} {meth : Method} {c : Code} {D : va_G} {cy : SgC} {a : SgA} {H : Heap} {locs : List Loc} {ls : Array Slot} {Qs : State → Prop} {ret : Option FieldType} {Q1 : Int → SgM → Prop} {st0 rest : List Value} {aa : Array Value}
    (hr : va_Run p l e R s m args below meth c H locs 0 0 0 0 (F0 m pc ls st0) rest (sg_Qc lo N D cy a ret Q1 aa) (sg_A lo N a)) (hS : va_S (sg_A lo N a) s.heap H locs)
    (kk : ∀ (v : Int) (G' : SgM) (H1 : Heap) (locs1 : List Loc), sg_rc ret v → Q1 v G' → va_P D vwCl (sg_W cy a G' lo N) H1 → sg_can G' → va_S (sg_A lo N a) s.heap H1 locs1 → W p l e R s m args below meth c H1 locs1 0 0 Qs (F0 m (pc + 3) ls ((sg_r ret a v).toList ++ rest))) : W p l e R s m args below meth c H locs 0 0 Qs (F0 m pc ls st0) := by
  intro T hT X
  obtain ⟨v, st₀, t, T', L, h0, X', hL, e1, e2, ⟨⟨r, G', hv, hrc, hq, hP, hcan⟩, hz, hk⟩, st⟩ := hr T hT X
  cases hv
  rw [h0] at hz hk
  rw [← e1] at hP
  obtain ⟨t2, a1, b1⟩ := kk r G' T'.heap (locs ++ L) hrc hq hP hcan
    ⟨Nat.le_trans hS.1 (by rw [e1]; exact hz), fun q h1 h2 => by rw [e1, hk q (Nat.lt_of_lt_of_le h1 hS.1) h2]; exact hS.2.1 q h1 h2, fun q hq => by
      rcases List.mem_append.mp hq with h | h
      · exact hS.2.2 q h
      · exact hL q h⟩ T' rfl X'
  exact ⟨t2, st t2 a1, b1⟩
def sg_rs (r : SgS) : Nat := (r.map (fun v => if v.1 = 1 then 2 else 1)).sum
theorem sg_rs_le {a : SgA} {r : SgS} (h : sg_rs r ≤ 8) {g : JFrame} (hg : g.monitorRoom = 0) : 2 * g.monitorRoom + ((r.map (sg_v a)).map fun v => v.category).sum ≤ 8 := by
  rw [hg, List.map_map]
  have e : (fun v : Value => v.category) ∘ sg_v a = fun v : Nat × Int => if v.1 = 1 then 2 else 1 := funext fun v => sg_cats a v
  rw [e]
  unfold sg_rs at h
  omega
/-- what a call of method y' (n parameters) rests on, whoever calls it -/
def sg_CY (y' : SgY) (n : Nat) : Prop := plainName y'.2.1.cls = true ∧ y'.2.1.cls = sg_cn y'.1 ∧ Cond.initialized y'.2.1.cls ∈ sg_GT ∧ Cond.code y'.2.1 y'.2.2.1 y'.2.2.2.1 y'.2.2.2.2 ∈ sg_GT ∧ (y'.2.1.cls ≠ "java/lang/invoke/MethodHandle" ∧ y'.2.1.cls ≠ "java/lang/invoke/VarHandle" ∧ (parseMethodDescriptor y'.2.1.desc).map (fun d => d.parameters.length) = some n) ∧ y'.2.2.2.1 ≤ 15
def sg_CV (y' : SgY) (n : Nat) : Prop := sg_CY y' n ∧ Cond.instanceMethod y'.2.1 ∈ sg_GT ∧ Cond.selects y'.2.1.cls y'.2.1 y'.2.1 ∈ sg_GT
def sg_CS (y' : SgY) (n : Nat) : Prop := sg_CY y' n ∧ Cond.static y'.2.1 ∈ sg_GT
def sg_ML (own idx : Nat) (y' : SgY) : Prop := Cond.methodLink (sg_cn own) idx y'.2.1 ∈ sg_GT
theorem sg_goodL {ws : List Cond} (h : ∀ w ∈ ws, w ∈ sg_GT) : GoodIn sg_GT ws := fun w hw => sg_goodGT w (h w hw)
theorem sg_room {k d : Nat} {R : Room} {mx : Nat} (hk : k < d) (hm : mx ≤ 15) (h1 : d ≤ R.frames) (h2 : 34 * d ≤ R.locals) : (sg_rm k).frames + 1 ≤ R.frames ∧ 8 + (mx + 11) + (sg_rm k).locals ≤ R.locals := by
  refine ⟨?_, ?_⟩
  · show k + 1 ≤ R.frames
    omega
  · show 8 + (mx + 11) + 34 * k ≤ R.locals
    omega
theorem sg_callC {p : Program} {R : Room} {s : State} {m : MethodId} {args : Array Value} {meth : Method} {c : Code} {D : va_G} {cy : SgC} {a : SgA} {H : Heap} {locs : List Loc} {ls : Array Slot}
    (hC : sg_Cx lo N d y D cy a p R s m args meth c) (hH : sg_Hx lo N y D cy a s G H locs ls L S) {av : SgS} (U : State) (hU : U.heap = H) (hW : s.WarmedH U.vm) : sg_Pc lo N D cy a av G (av.map (sg_v a)).toArray U :=
  ⟨rfl, by rw [hU]; exact hH.1, hH.2.1, hH.2.2.2.1, va_K.moved hW.alike hC.2.2.2.2.2.2.2.2.2.1, (by
    rw [hU]
    exact (hC.2.2.2.2.2.2.2.2.2.2.kept (fun q h1 h2 => hH.2.2.1.2.1 q h1 h2)).warm hW)⟩
theorem sg_map_rev (a : SgA) (av : SgS) : (av.reverse).map (sg_v a) = (av.map (sg_v a)).reverse := List.map_reverse
theorem sg_callV {k idx ci n : Nat} {y' : SgY} {b : Int} {av rest : SgS} {T : u_T} {nf : Nat} (hd : decode y.2.2.1 pc = .ok (.invokevirtual idx, 3)) (hy : sg_CV y' n) (hm : sg_ML y.1 idx y') (hb : sg_Ce lo N b 0 (ci : Int)) (hci : vwCl[ci]? = some (y'.2.1.cls, T, nf)) (hn : av.length = n) (hsz : sg_sz av + 1 ≤ y'.2.2.2.1) (hk : k < d) (hrs : sg_rs rest ≤ 8) (hst : S = av.reverse ++ (2, b) :: rest)
    (h : sg_Wp lo N k y' 0 (sg_ent 0 ((2, b) :: av)) [] G (fun v G' => sg_Wp lo N d y (pc + 3) L (sg_push y'.2.2.2.2 v rest) G' Q)) : sg_Wp lo N d y pc L S G Q := by
  intro p l e R s m args below meth c D cy a H locs ls hC hH
  subst hst
  obtain ⟨⟨hpl, hcn, hini, hcode, hdd, hmx⟩, hinst, hsel⟩ := hy
  have hcvr : ∀ v ∈ (2, b) :: rest, sg_cv v := fun v hv => hH.sk v (List.mem_append_right _ hv)
  have hcva : ∀ v ∈ (2, b) :: av, sg_cv v := sg_cons (v := (2, b)) trivial (fun v hv => hH.sk v (List.mem_append_left _ (List.mem_reverse.mpr hv)))
  have hM := sg_met hcn hpl (av := (2, b) :: av) (by show 1 + sg_sz av ≤ _; omega) hcva h l D cy a
  have hT : GoodIn sg_GT (wsV (sg_cn y.1) idx y'.2.1.cls y'.2.1 (sg_ws y')) := sg_goodL (fun w hw => by
    unfold wsV at hw
    rcases List.mem_append.mp hw with h1 | h1
    · simp only [List.mem_cons, List.not_mem_nil, or_false] at h1
      rcases h1 with rfl | rfl | rfl | rfl
      · exact hm
      · exact hinst
      · exact hsel
      · exact hini
    · rcases List.mem_cons.mp h1 with h2 | h2
      · rw [h2]; exact hcode
      · exact h2)
  have hw : (sg_W cy a G lo N)[b.toNat - lo]? = some (a.1 b, .inr (ci, sg_fs a ci b G)) := by rw [sg_W_at hb.1, sg_e0 hb.2]; rfl
  have cw := cwV (R := R) (mc := 0) (ms := 0) n hC.2.2.2.2.2.2.1 hT rfl rfl rfl ⟨rfl, hdd⟩ (sg_room hk hmx hC.2.2.2.2.2.2.2.1 hC.2.2.2.2.2.2.2.2.1)
  rw [List.map_append, List.map_cons, sg_map_rev]
  refine sg_back (va_runV (As := av.map (sg_v a)) (rest := rest.map (sg_v a)) ⟨hC.1, hC.2.1, hC.2.2.1, hC.2.2.2.2.2.1, hC.2.2.2.2.2.2.1⟩ hM cw ⟨sg_Pc_blind, va_recv hC.2.2.2.2.2.2.2.2.2.1 hH.1 hci hw, fun U hU hW => sg_callC hC hH U hU hW⟩ rfl (by rw [List.length_map]; exact hn) hH.2.2.2.2.1.1 rfl (sg_rs_le hrs rfl) hd ⟨Nat.zero_le _, Nat.zero_le _⟩) hH.2.2.1 (fun v G' H1 locs1 hrc hq hP1 hcan1 hS1 => ?_)
  rw [← sg_push_map]
  exact hq p l e R s m args below meth c D cy a H1 locs1 ls hC ⟨hP1, sg_W_D hH.2.1, hS1, hcan1, hH.2.2.2.2.1, hH.2.2.2.2.2.1, sg_push_cv hrc (sg_tl1 hcvr)⟩
/-- a call on a text constant -/
theorem sg_callT {k idx n : Nat} {y' : SgY} {b : Int} {av rest : SgS} (hd : decode y.2.2.1 pc = .ok (.invokevirtual idx, 3)) (hy : sg_CV y' n) (hm : sg_ML y.1 idx y') (hb : 0 ≤ b ∧ b < 6) (hci : y'.2.1.cls = "java/lang/String") (hn : av.length = n) (hsz : sg_sz av + 1 ≤ y'.2.2.2.1) (hk : k < d) (hrs : sg_rs rest ≤ 8) (hst : S = av.reverse ++ (3, b) :: rest)
    (h : sg_Wp lo N k y' 0 (sg_ent 0 ((3, b) :: av)) [] G (fun v G' => sg_Wp lo N d y (pc + 3) L (sg_push y'.2.2.2.2 v rest) G' Q)) : sg_Wp lo N d y pc L S G Q := by
  intro p l e R s m args below meth c D cy a H locs ls hC hH
  subst hst
  obtain ⟨⟨hpl, hcn, hini, hcode, hdd, hmx⟩, hinst, hsel⟩ := hy
  have hcvr : ∀ v ∈ (3, b) :: rest, sg_cv v := fun v hv => hH.sk v (List.mem_append_right _ hv)
  have hcva : ∀ v ∈ (3, b) :: av, sg_cv v := sg_cons (v := (3, b)) trivial (fun v hv => hH.sk v (List.mem_append_left _ (List.mem_reverse.mpr hv)))
  have hM := sg_met hcn hpl (av := (3, b) :: av) (by show 1 + sg_sz av ≤ _; omega) hcva h l D cy a
  have hT : GoodIn sg_GT (wsV (sg_cn y.1) idx y'.2.1.cls y'.2.1 (sg_ws y')) := sg_goodL (fun w hw => by
    unfold wsV at hw
    rcases List.mem_append.mp hw with h1 | h1
    · simp only [List.mem_cons, List.not_mem_nil, or_false] at h1
      rcases h1 with rfl | rfl | rfl | rfl
      · exact hm
      · exact hinst
      · exact hsel
      · exact hini
    · rcases List.mem_cons.mp h1 with h2 | h2
      · rw [h2]; exact hcode
      · exact h2)
  have cw := cwV (R := R) (mc := 0) (ms := 0) n hC.2.2.2.2.2.2.1 hT rfl rfl rfl ⟨rfl, hdd⟩ (sg_room hk hmx hC.2.2.2.2.2.2.2.1 hC.2.2.2.2.2.2.2.2.1)
  have hre := vk_recv hC.2.2.2.2.2.2.2.2.2.2.2.1 (i := b.toNat) (by omega) hH.2.2.1
  rw [← hci] at hre
  rw [List.map_append, List.map_cons, sg_map_rev]
  refine sg_back (va_runV (As := av.map (sg_v a)) (rest := rest.map (sg_v a)) ⟨hC.1, hC.2.1, hC.2.2.1, hC.2.2.2.2.2.1, hC.2.2.2.2.2.2.1⟩ hM cw ⟨sg_Pc_blind, hre, fun U hU hW => sg_callC hC hH U hU hW⟩ rfl (by rw [List.length_map]; exact hn) hH.2.2.2.2.1.1 rfl (sg_rs_le hrs rfl) hd ⟨Nat.zero_le _, Nat.zero_le _⟩) hH.2.2.1 (fun v G' H1 locs1 hrc hq hP1 hcan1 hS1 => ?_)
  rw [← sg_push_map]
  exact hq p l e R s m args below meth c D cy a H1 locs1 ls hC ⟨hP1, sg_W_D hH.2.1, hS1, hcan1, hH.2.2.2.2.1, hH.2.2.2.2.2.1, sg_push_cv hrc (sg_tl1 hcvr)⟩
theorem sg_callS {k idx n : Nat} {y' : SgY} {av rest : SgS} (hd : decode y.2.2.1 pc = .ok (.invokestatic idx, 3)) (hy : sg_CS y' n) (hm : sg_ML y.1 idx y') (hn : av.length = n) (hsz : sg_sz av ≤ y'.2.2.2.1) (hk : k < d) (hrs : sg_rs rest ≤ 8) (hst : S = av.reverse ++ rest)
    (h : sg_Wp lo N k y' 0 (sg_ent 0 av) [] G (fun v G' => sg_Wp lo N d y (pc + 3) L (sg_push y'.2.2.2.2 v rest) G' Q)) : sg_Wp lo N d y pc L S G Q := by
  intro p l e R s m args below meth c D cy a H locs ls hC hH
  subst hst
  obtain ⟨⟨hpl, hcn, hini, hcode, hdd, hmx⟩, hsta⟩ := hy
  have hcvr : ∀ v ∈ rest, sg_cv v := fun v hv => hH.sk v (List.mem_append_right _ hv)
  have hcva : ∀ v ∈ av, sg_cv v := fun v hv => hH.sk v (List.mem_append_left _ (List.mem_reverse.mpr hv))
  have hM := sg_met hcn hpl hsz hcva h l D cy a
  have hT : GoodIn sg_GT (va_wsS (sg_cn y.1) idx y'.2.1 (sg_ws y')) := sg_goodL (fun w hw => by
    unfold va_wsS at hw
    rcases List.mem_append.mp hw with h1 | h1
    · simp only [List.mem_cons, List.not_mem_nil, or_false] at h1
      rcases h1 with rfl | rfl | rfl
      · exact hm
      · exact hsta
      · exact hini
    · rcases List.mem_cons.mp h1 with h2 | h2
      · rw [h2]; exact hcode
      · exact h2)
  have cw := va_cwS (R := R) (mc := 0) (ms := 0) n hC.2.2.2.2.2.2.1 hT rfl rfl rfl hdd (sg_room hk hmx hC.2.2.2.2.2.2.2.1 hC.2.2.2.2.2.2.2.2.1)
  rw [List.map_append, sg_map_rev]
  refine sg_back (va_runS (As := av.map (sg_v a)) (rest := rest.map (sg_v a)) ⟨hC.1, hC.2.1, hC.2.2.1, hC.2.2.2.2.2.1, hC.2.2.2.2.2.2.1⟩ hM cw ⟨sg_Pc_blind, fun U hU hW => sg_callC hC hH U hU hW⟩ rfl (by rw [List.length_map]; exact hn) hH.2.2.2.2.1.1 rfl (sg_rs_le hrs rfl) hd ⟨Nat.zero_le _, Nat.zero_le _⟩) hH.2.2.1 (fun v G' H1 locs1 hrc hq hP1 hcan1 hS1 => ?_)
  rw [← sg_push_map]
  exact hq p l e R s m args below meth c D cy a H1 locs1 ls hC ⟨hP1, sg_W_D hH.2.1, hS1, hcan1, hH.2.2.2.2.1, hH.2.2.2.2.2.1, sg_push_cv hrc hcvr⟩
/-- a call of a private static method of the nest -/
theorem sg_callN {k idx n : Nat} {y' : SgY} {av rest : SgS} (hd : decode y.2.2.1 pc = .ok (.invokestatic idx, 3)) (hy : sg_CS y' n) (hm : (y.1, idx, y'.2.1) ∈ sg_nl) (hn : av.length = n) (hsz : sg_sz av ≤ y'.2.2.2.1) (hk : k < d) (hrs : sg_rs rest ≤ 8) (hst : S = av.reverse ++ rest)
    (h : sg_Wp lo N k y' 0 (sg_ent 0 av) [] G (fun v G' => sg_Wp lo N d y (pc + 3) L (sg_push y'.2.2.2.2 v rest) G' Q)) : sg_Wp lo N d y pc L S G Q := by
  intro p l e R s m args below meth c D cy a H locs ls hC hH
  subst hst
  obtain ⟨⟨hpl, hcn, hini, hcode, hdd, hmx⟩, hsta⟩ := hy
  have hcvr : ∀ v ∈ rest, sg_cv v := fun v hv => hH.sk v (List.mem_append_right _ hv)
  have hcva : ∀ v ∈ av, sg_cv v := fun v hv => hH.sk v (List.mem_append_left _ (List.mem_reverse.mpr hv))
  have hM := sg_met hcn hpl hsz hcva h l D cy a
  have hT : GoodIn sg_GT (sg_ws y') := sg_goodL (fun w hw => by
    rcases List.mem_cons.mp hw with h2 | h2
    · rw [h2]; exact hcode
    · exact h2)
  have hts := hC.2.2.2.2.2.2.1
  have hl : va_Nw (.methodLinkNest (sg_cn y.1) idx y'.2.1 "SneezeGuard") s := hC.2.2.2.2.2.2.2.2.2.2.2.2.2.2.2 (y.1, idx, y'.2.1) hm
  have hst : (Cond.static y'.2.1).before args s = true := hts _ hsta
  have hi : (Cond.initialized y'.2.1.cls).before args s = true := hts _ hini
  have cw : va_CN R s args (sg_cn y.1) idx y'.2.1 "SneezeGuard" y'.2.2.1 y'.2.2.2.1 y'.2.2.2.2 (sg_ws y') (sg_rm k) 0 0 n := va_cnB (ws' := sg_GT) n hts hT rfl rfl rfl hl hi hdd (sg_room hk hmx hC.2.2.2.2.2.2.2.1 hC.2.2.2.2.2.2.2.2.1)
  rw [List.map_append, sg_map_rev]
  refine sg_back (va_runSN (As := av.map (sg_v a)) (rest := rest.map (sg_v a)) ⟨hC.1, hC.2.1, hC.2.2.1, hC.2.2.2.2.2.1, hC.2.2.2.2.2.2.1⟩ hM ⟨cw, hst, trivial⟩ ⟨sg_Pc_blind, fun U hU hW => sg_callC hC hH U hU hW⟩ rfl (by rw [List.length_map]; exact hn) hH.2.2.2.2.1.1 rfl (sg_rs_le hrs rfl) hd ⟨Nat.zero_le _, Nat.zero_le _⟩) hH.2.2.1 (fun v G' H1 locs1 hrc hq hP1 hcan1 hS1 => ?_)
  rw [← sg_push_map]
  exact hq p l e R s m args below meth c D cy a H1 locs1 ls hC ⟨hP1, sg_W_D hH.2.1, hS1, hcan1, hH.2.2.2.2.1, hH.2.2.2.2.2.1, sg_push_cv hrc hcvr⟩
end SgU
