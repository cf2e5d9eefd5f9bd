/-! SOUNDNESS of the straight instructions, one by one, then of a row of them -/
section SgS
variable {lo N d : Nat} {y : SgY} {pc : Nat} {L : SgL} {S : SgS} {G : SgM} {Q : Int → SgM → Prop}
theorem sg_Hx.st {D : va_G} {cy : SgC} {a : SgA} {s : State} {H : Heap} {locs : List Loc} {ls : Array Slot} {S' : SgS} (h : sg_Hx lo N y D cy a s G H locs ls L S) (hs : ∀ v ∈ S', sg_cv v) : sg_Hx lo N y D cy a s G H locs ls L S' :=
  ⟨h.1, h.2.1, h.2.2.1, h.2.2.2.1, h.2.2.2.2.1, h.2.2.2.2.2.1, hs⟩
theorem sg_Hx.sk {D : va_G} {cy : SgC} {a : SgA} {s : State} {H : Heap} {locs : List Loc} {ls : Array Slot} (h : sg_Hx lo N y D cy a s G H locs ls L S) : ∀ v ∈ S, sg_cv v := h.2.2.2.2.2.2
theorem sg_cons {v : Nat × Int} {r : SgS} (h : sg_cv v) (hr : ∀ w ∈ r, sg_cv w) : ∀ w ∈ v :: r, sg_cv w := List.forall_mem_cons.mpr ⟨h, hr⟩
theorem sg_tl1 {v : Nat × Int} {r : SgS} (h : ∀ w ∈ v :: r, sg_cv w) : ∀ w ∈ r, sg_cv w := (List.forall_mem_cons.mp h).2
theorem sg_hd1 {v : Nat × Int} {r : SgS} (h : ∀ w ∈ v :: r, sg_cv w) : sg_cv v := (List.forall_mem_cons.mp h).1
theorem sg_vi (a : SgA) (x : Int32) : sg_v a (0, x.toInt) = .int x := congrArg Value.int (Int32.ofInt_toInt x)
theorem sg_vl (a : SgA) (x : Int64) : sg_v a (1, x.toInt) = .long x := congrArg Value.long (Int64.ofInt_toInt x)
theorem sg_ne32 {x : Int} (h : sg_32 x) (h0 : x ≠ 0) : ¬ Int32.ofInt x = 0 := fun e => h0 (by
  have h1 : (Int32.ofInt x).toInt = x := h
  rw [e] at h1
  exact h1.symm)
theorem sg_ne64 {x : Int} (h : sg_64 x) (h0 : x ≠ 0) : ¬ Int64.ofInt x = 0 := fun e => h0 (by
  have h1 : (Int64.ofInt x).toInt = x := h
  rw [e] at h1
  exact h1.symm)
theorem sg_get_mem : ∀ {L : SgL} {j : Nat} {v : Nat × Int}, sg_get L j = some v → (j, v) ∈ L
  | q :: r, j, v, h => by
    unfold sg_get at h
    by_cases e : q.1 = j
    · rw [if_pos e] at h
      cases h
      rw [← e]
      exact List.mem_cons_self
    · rw [if_neg e] at h
      exact List.mem_cons_of_mem _ (sg_get_mem h)
theorem sg_Hx.loc {D : va_G} {cy : SgC} {a : SgA} {s : State} {H : Heap} {locs : List Loc} {ls : Array Slot} {j : Nat} {v : Nat × Int} (h : sg_Hx lo N y D cy a s G H locs ls L S) (hj : sg_get L j = some v) : ls[j]? = some (.val (sg_v a v)) ∧ sg_cv v :=
  ⟨h.2.2.2.2.1.2.2 _ (List.mem_map.mpr ⟨_, sg_get_mem hj, rfl⟩), h.2.2.2.2.2.1 _ (sg_get_mem hj)⟩
theorem sg_ref2 (a : SgA) {v : Nat × Int} (h : 2 ≤ v.1) : ∃ q : Nat, sg_v a v = .ref q := by
  obtain ⟨t, x⟩ := v
  match t, h with
  | 2, _ => exact ⟨_, rfl⟩
  | 3, _ => exact ⟨_, rfl⟩
  | 4, _ => exact ⟨_, rfl⟩
  | t + 5, _ => exact ⟨_, rfl⟩
theorem sg_cv2 {v : Nat × Int} (h : 2 ≤ v.1) : sg_cv v := by
  obtain ⟨t, x⟩ := v
  match t, h with
  | t + 2, _ => exact trivial
theorem sg_cat {a : SgA} {v : Nat × Int} (h : v.1 ≠ 1) : (sg_v a v).category = 1 := by
  obtain ⟨t, x⟩ := v
  match t, h with
  | 0, _ => rfl
  | 1, h => exact absurd rfl h
  | 2, _ => rfl
  | 3, _ => rfl
  | 4, _ => rfl
  | t + 5, _ => rfl
/-- what is stored stands in the locals; what the machine keeps, ours keep -/
theorem sg_set_mem {L : SgL} {j : Nat} {v q : Nat × Int} {i : Nat} (h : (i, q) ∈ sg_set L j v) : (i = j ∧ q = v) ∨ ((i, q) ∈ L ∧ i ≠ j ∧ ¬ (i + 1 = j ∧ q.1 = 1) ∧ ¬ (v.1 = 1 ∧ i = j + 1)) := by
  unfold sg_set at h
  rcases List.mem_append.mp h with h | h
  · obtain ⟨x, hx, he⟩ := List.mem_map.mp h
    obtain ⟨hx1, hx2⟩ := List.mem_filter.mp hx
    by_cases e : x.1 = j
    · rw [if_pos e] at he
      cases he
      exact Or.inl ⟨rfl, rfl⟩
    · rw [if_neg e] at he
      subst he
      refine Or.inr ⟨hx1, e, ?_⟩
      simp only [e, decide_false, Bool.false_or, Bool.and_eq_true, Bool.not_eq_true', Bool.and_eq_false_iff, decide_eq_false_iff_not] at hx2
      refine ⟨fun z => ?_, fun z => ?_⟩
      · rcases hx2.1 with g | g
        · exact g z.1
        · exact g z.2
      · rcases hx2.2 with g | g
        · exact g z.1
        · exact g z.2
  · by_cases e : L.any (fun q => decide (q.1 = j)) = true
    · rw [if_pos e] at h
      cases h
    · rw [if_neg e] at h
      cases List.mem_singleton.mp h
      exact Or.inl ⟨rfl, rfl⟩
theorem sg_set_cv {L : SgL} {j : Nat} {v : Nat × Int} (hL : ∀ q ∈ L, sg_cv q.2) (hv : sg_cv v) : ∀ q ∈ sg_set L j v, sg_cv q.2 := by
  intro q hq
  obtain ⟨i, w⟩ := q
  rcases sg_set_mem hq with ⟨-, rfl⟩ | ⟨h, -⟩
  · exact hv
  · exact hL _ h
theorem sg_cat2 {a : SgA} {v : Nat × Int} : ((sg_v a v).category == 2) = decide (v.1 = 1) := by
  obtain ⟨t, x⟩ := v
  match t with
  | 0 => rfl
  | 1 => rfl
  | 2 => rfl
  | 3 => rfl
  | 4 => rfl
  | t + 5 => simp [sg_v, Value.category]
theorem sg_set_has1 {a : SgA} {ls : Array Slot} {nL j : Nat} {v : Nat × Int} (hv : v.1 ≠ 1) (h : lv_has ls nL ((j, sg_v a v) :: (L.map (fun q => (q.1, sg_v a q.2))).filter (fun q => !(q.1 == j) && !(q.1 + 1 == j && q.2.category == 2)))) : lv_has ls nL ((sg_set L j v).map (fun q => (q.1, sg_v a q.2))) := by
  refine ⟨h.1, h.2.1, fun q hq => ?_⟩
  obtain ⟨⟨i, w⟩, hx, rfl⟩ := List.mem_map.mp hq
  rcases sg_set_mem hx with ⟨rfl, rfl⟩ | ⟨h1, h2, h3, -⟩
  · exact h.2.2 _ List.mem_cons_self
  · refine h.2.2 _ (List.mem_cons_of_mem _ (List.mem_filter.mpr ⟨List.mem_map.mpr ⟨_, h1, rfl⟩, ?_⟩))
    simp only [sg_cat2, Bool.and_eq_true, Bool.not_eq_true', beq_eq_false_iff_ne, ne_eq, h2, not_false_eq_true, true_and]
    by_cases e : i + 1 = j
    · simp only [e, beq_self_eq_true, Bool.true_and, decide_eq_false_iff_not]
      exact fun z => h3 ⟨e, z⟩
    · simp [e]
theorem sg_set_has2 {a : SgA} {ls : Array Slot} {nL j : Nat} {v : Nat × Int} (hv : v.1 = 1) (h : lv_has ls nL ((j, sg_v a v) :: (L.map (fun q => (q.1, sg_v a q.2))).filter (fun q => !(q.1 == j) && (!(q.1 == j + 1) && !(q.1 + 1 == j && q.2.category == 2))))) : lv_has ls nL ((sg_set L j v).map (fun q => (q.1, sg_v a q.2))) := by
  refine ⟨h.1, h.2.1, fun q hq => ?_⟩
  obtain ⟨⟨i, w⟩, hx, rfl⟩ := List.mem_map.mp hq
  rcases sg_set_mem hx with ⟨rfl, rfl⟩ | ⟨h1, h2, h3, h4⟩
  · exact h.2.2 _ List.mem_cons_self
  · refine h.2.2 _ (List.mem_cons_of_mem _ (List.mem_filter.mpr ⟨List.mem_map.mpr ⟨_, h1, rfl⟩, ?_⟩))
    have h5 : ¬ i = j + 1 := fun z => h4 ⟨hv, z⟩
    simp only [sg_cat2, Bool.and_eq_true, Bool.not_eq_true', beq_eq_false_iff_ne, ne_eq, h2, h5, not_false_eq_true, true_and]
    by_cases e : i + 1 = j
    · simp only [e, beq_self_eq_true, Bool.true_and, decide_eq_false_iff_not]
      exact fun z => h3 ⟨e, z⟩
    · simp [e]
theorem sg_Hx.set {D : va_G} {cy : SgC} {a : SgA} {s : State} {H : Heap} {locs : List Loc} {ls ls' : Array Slot} {L' : SgL} {S' : SgS} (h : sg_Hx lo N y D cy a s G H locs ls L S) (hl : lv_has ls' y.2.2.2.1 (L'.map (fun q => (q.1, sg_v a q.2)))) (hc : ∀ q ∈ L', sg_cv q.2) (hs : ∀ v ∈ S', sg_cv v) : sg_Hx lo N y D cy a s G H locs ls' L' S' :=
  ⟨h.1, h.2.1, h.2.2.1, h.2.2.2.1, hl, hc, hs⟩

theorem sg_o32 {n m0 : Int} {j k : Nat} (hd : decode y.2.2.1 pc = .ok (.iadd, 1)) {K : SgK} (hK : ∀ L2 S2 G2, K L2 S2 G2 → sg_Wp lo N d y (pc + 1) L2 S2 G2 Q) (h : sg_b2 sg_iadd L S G K) : sg_Wp lo N d y pc L S G Q := by
  unfold sg_b2 at h
  split at h
  · intro p l e R s m args below meth c D cy a H locs ls hC hH
    have k := hK _ _ _ h p l e R s m args below meth c D cy a H locs ls hC (hH.st (sg_cons (sg_32_of _) (sg_tl1 (sg_tl1 hH.sk))))
    rw [List.map_cons] at k
    unfold sg_iadd at k
    rw [sg_vi] at k
    exact lv_iadd hC.1 hC.2.1 hd  k
  · exact h.elim
theorem sg_o33 {n m0 : Int} {j k : Nat} (hd : decode y.2.2.1 pc = .ok (.isub, 1)) {K : SgK} (hK : ∀ L2 S2 G2, K L2 S2 G2 → sg_Wp lo N d y (pc + 1) L2 S2 G2 Q) (h : sg_b2 sg_isub L S G K) : sg_Wp lo N d y pc L S G Q := by
  unfold sg_b2 at h
  split at h
  · intro p l e R s m args below meth c D cy a H locs ls hC hH
    have k := hK _ _ _ h p l e R s m args below meth c D cy a H locs ls hC (hH.st (sg_cons (sg_32_of _) (sg_tl1 (sg_tl1 hH.sk))))
    rw [List.map_cons] at k
    unfold sg_isub at k
    rw [sg_vi] at k
    exact lv_isub hC.1 hC.2.1 hd  k
  · exact h.elim
theorem sg_o34 {n m0 : Int} {j k : Nat} (hd : decode y.2.2.1 pc = .ok (.imul, 1)) {K : SgK} (hK : ∀ L2 S2 G2, K L2 S2 G2 → sg_Wp lo N d y (pc + 1) L2 S2 G2 Q) (h : sg_b2 sg_imul L S G K) : sg_Wp lo N d y pc L S G Q := by
  unfold sg_b2 at h
  split at h
  · intro p l e R s m args below meth c D cy a H locs ls hC hH
    have k := hK _ _ _ h p l e R s m args below meth c D cy a H locs ls hC (hH.st (sg_cons (sg_32_of _) (sg_tl1 (sg_tl1 hH.sk))))
    rw [List.map_cons] at k
    unfold sg_imul at k
    rw [sg_vi] at k
    exact lv_imul hC.1 hC.2.1 hd  k
  · exact h.elim
theorem sg_o38 {n m0 : Int} {j k : Nat} (hd : decode y.2.2.1 pc = .ok (.iand, 1)) {K : SgK} (hK : ∀ L2 S2 G2, K L2 S2 G2 → sg_Wp lo N d y (pc + 1) L2 S2 G2 Q) (h : sg_b2 sg_iand L S G K) : sg_Wp lo N d y pc L S G Q := by
  unfold sg_b2 at h
  split at h
  · intro p l e R s m args below meth c D cy a H locs ls hC hH
    have k := hK _ _ _ h p l e R s m args below meth c D cy a H locs ls hC (hH.st (sg_cons (sg_32_of _) (sg_tl1 (sg_tl1 hH.sk))))
    rw [List.map_cons] at k
    unfold sg_iand at k
    rw [sg_vi] at k
    exact lv_iand hC.1 hC.2.1 hd  k
  · exact h.elim
theorem sg_o39 {n m0 : Int} {j k : Nat} (hd : decode y.2.2.1 pc = .ok (.ior, 1)) {K : SgK} (hK : ∀ L2 S2 G2, K L2 S2 G2 → sg_Wp lo N d y (pc + 1) L2 S2 G2 Q) (h : sg_b2 sg_ior L S G K) : sg_Wp lo N d y pc L S G Q := by
  unfold sg_b2 at h
  split at h
  · intro p l e R s m args below meth c D cy a H locs ls hC hH
    have k := hK _ _ _ h p l e R s m args below meth c D cy a H locs ls hC (hH.st (sg_cons (sg_32_of _) (sg_tl1 (sg_tl1 hH.sk))))
    rw [List.map_cons] at k
    unfold sg_ior at k
    rw [sg_vi] at k
    exact lv_ior hC.1 hC.2.1 hd  k
  · exact h.elim
theorem sg_o40 {n m0 : Int} {j k : Nat} (hd : decode y.2.2.1 pc = .ok (.ixor, 1)) {K : SgK} (hK : ∀ L2 S2 G2, K L2 S2 G2 → sg_Wp lo N d y (pc + 1) L2 S2 G2 Q) (h : sg_b2 sg_ixor L S G K) : sg_Wp lo N d y pc L S G Q := by
  unfold sg_b2 at h
  split at h
  · intro p l e R s m args below meth c D cy a H locs ls hC hH
    have k := hK _ _ _ h p l e R s m args below meth c D cy a H locs ls hC (hH.st (sg_cons (sg_32_of _) (sg_tl1 (sg_tl1 hH.sk))))
    rw [List.map_cons] at k
    unfold sg_ixor at k
    rw [sg_vi] at k
    exact lv_ixor hC.1 hC.2.1 hd  k
  · exact h.elim
theorem sg_o41 {n m0 : Int} {j k : Nat} (hd : decode y.2.2.1 pc = .ok (.ishl, 1)) {K : SgK} (hK : ∀ L2 S2 G2, K L2 S2 G2 → sg_Wp lo N d y (pc + 1) L2 S2 G2 Q) (h : sg_b2 sg_ishl L S G K) : sg_Wp lo N d y pc L S G Q := by
  unfold sg_b2 at h
  split at h
  · intro p l e R s m args below meth c D cy a H locs ls hC hH
    have k := hK _ _ _ h p l e R s m args below meth c D cy a H locs ls hC (hH.st (sg_cons (sg_32_of _) (sg_tl1 (sg_tl1 hH.sk))))
    rw [List.map_cons] at k
    unfold sg_ishl at k
    rw [sg_vi] at k
    exact lv_ishl hC.1 hC.2.1 hd  k
  · exact h.elim
theorem sg_o42 {n m0 : Int} {j k : Nat} (hd : decode y.2.2.1 pc = .ok (.ishr, 1)) {K : SgK} (hK : ∀ L2 S2 G2, K L2 S2 G2 → sg_Wp lo N d y (pc + 1) L2 S2 G2 Q) (h : sg_b2 sg_ishr L S G K) : sg_Wp lo N d y pc L S G Q := by
  unfold sg_b2 at h
  split at h
  · intro p l e R s m args below meth c D cy a H locs ls hC hH
    have k := hK _ _ _ h p l e R s m args below meth c D cy a H locs ls hC (hH.st (sg_cons (sg_32_of _) (sg_tl1 (sg_tl1 hH.sk))))
    rw [List.map_cons] at k
    unfold sg_ishr at k
    rw [sg_vi] at k
    exact lv_ishr hC.1 hC.2.1 hd  k
  · exact h.elim
theorem sg_o43 {n m0 : Int} {j k : Nat} (hd : decode y.2.2.1 pc = .ok (.iushr, 1)) {K : SgK} (hK : ∀ L2 S2 G2, K L2 S2 G2 → sg_Wp lo N d y (pc + 1) L2 S2 G2 Q) (h : sg_b2 sg_iushr L S G K) : sg_Wp lo N d y pc L S G Q := by
  unfold sg_b2 at h
  split at h
  · intro p l e R s m args below meth c D cy a H locs ls hC hH
    have k := hK _ _ _ h p l e R s m args below meth c D cy a H locs ls hC (hH.st (sg_cons (sg_32_of _) (sg_tl1 (sg_tl1 hH.sk))))
    rw [List.map_cons] at k
    unfold sg_iushr at k
    rw [sg_vi] at k
    exact lv_iushr hC.1 hC.2.1 hd rfl k
  · exact h.elim
theorem sg_o35 {n m0 : Int} {j k : Nat} (hd : decode y.2.2.1 pc = .ok (.idiv, 1)) {K : SgK} (hK : ∀ L2 S2 G2, K L2 S2 G2 → sg_Wp lo N d y (pc + 1) L2 S2 G2 Q) (h : sg_bd sg_idiv L S G K) : sg_Wp lo N d y pc L S G Q := by
  unfold sg_bd at h
  split at h
  · obtain ⟨h0, h⟩ := h
    intro p l e R s m args below meth c D cy a H locs ls hC hH
    have k := hK _ _ _ h p l e R s m args below meth c D cy a H locs ls hC (hH.st (sg_cons (sg_32_of _) (sg_tl1 (sg_tl1 hH.sk))))
    rw [List.map_cons] at k
    unfold sg_idiv at k
    rw [sg_vi] at k
    exact lv_idiv hC.1 hC.2.1 hd (sg_ne32 (sg_hd1 hH.sk) h0) k
  · exact h.elim
theorem sg_o36 {n m0 : Int} {j k : Nat} (hd : decode y.2.2.1 pc = .ok (.irem, 1)) {K : SgK} (hK : ∀ L2 S2 G2, K L2 S2 G2 → sg_Wp lo N d y (pc + 1) L2 S2 G2 Q) (h : sg_bd sg_irem L S G K) : sg_Wp lo N d y pc L S G Q := by
  unfold sg_bd at h
  split at h
  · obtain ⟨h0, h⟩ := h
    intro p l e R s m args below meth c D cy a H locs ls hC hH
    have k := hK _ _ _ h p l e R s m args below meth c D cy a H locs ls hC (hH.st (sg_cons (sg_32_of _) (sg_tl1 (sg_tl1 hH.sk))))
    rw [List.map_cons] at k
    unfold sg_irem at k
    rw [sg_vi] at k
    exact lv_irem hC.1 hC.2.1 hd (sg_ne32 (sg_hd1 hH.sk) h0) k
  · exact h.elim
theorem sg_o44 {n m0 : Int} {j k : Nat} (hd : decode y.2.2.1 pc = .ok (.ladd, 1)) {K : SgK} (hK : ∀ L2 S2 G2, K L2 S2 G2 → sg_Wp lo N d y (pc + 1) L2 S2 G2 Q) (h : sg_bl sg_ladd L S G K) : sg_Wp lo N d y pc L S G Q := by
  unfold sg_bl at h
  split at h
  · intro p l e R s m args below meth c D cy a H locs ls hC hH
    have k := hK _ _ _ h p l e R s m args below meth c D cy a H locs ls hC (hH.st (sg_cons (sg_64_of _) (sg_tl1 (sg_tl1 hH.sk))))
    rw [List.map_cons] at k
    unfold sg_ladd at k
    rw [sg_vl] at k
    exact lv_ladd hC.1 hC.2.1 hd k
  · exact h.elim
theorem sg_o45 {n m0 : Int} {j k : Nat} (hd : decode y.2.2.1 pc = .ok (.lsub, 1)) {K : SgK} (hK : ∀ L2 S2 G2, K L2 S2 G2 → sg_Wp lo N d y (pc + 1) L2 S2 G2 Q) (h : sg_bl sg_lsub L S G K) : sg_Wp lo N d y pc L S G Q := by
  unfold sg_bl at h
  split at h
  · intro p l e R s m args below meth c D cy a H locs ls hC hH
    have k := hK _ _ _ h p l e R s m args below meth c D cy a H locs ls hC (hH.st (sg_cons (sg_64_of _) (sg_tl1 (sg_tl1 hH.sk))))
    rw [List.map_cons] at k
    unfold sg_lsub at k
    rw [sg_vl] at k
    exact lv_lsub hC.1 hC.2.1 hd k
  · exact h.elim
theorem sg_o46 {n m0 : Int} {j k : Nat} (hd : decode y.2.2.1 pc = .ok (.lmul, 1)) {K : SgK} (hK : ∀ L2 S2 G2, K L2 S2 G2 → sg_Wp lo N d y (pc + 1) L2 S2 G2 Q) (h : sg_bl sg_lmul L S G K) : sg_Wp lo N d y pc L S G Q := by
  unfold sg_bl at h
  split at h
  · intro p l e R s m args below meth c D cy a H locs ls hC hH
    have k := hK _ _ _ h p l e R s m args below meth c D cy a H locs ls hC (hH.st (sg_cons (sg_64_of _) (sg_tl1 (sg_tl1 hH.sk))))
    rw [List.map_cons] at k
    unfold sg_lmul at k
    rw [sg_vl] at k
    exact lv_lmul hC.1 hC.2.1 hd k
  · exact h.elim
theorem sg_o49 {n m0 : Int} {j k : Nat} (hd : decode y.2.2.1 pc = .ok (.land, 1)) {K : SgK} (hK : ∀ L2 S2 G2, K L2 S2 G2 → sg_Wp lo N d y (pc + 1) L2 S2 G2 Q) (h : sg_bl sg_land L S G K) : sg_Wp lo N d y pc L S G Q := by
  unfold sg_bl at h
  split at h
  · intro p l e R s m args below meth c D cy a H locs ls hC hH
    have k := hK _ _ _ h p l e R s m args below meth c D cy a H locs ls hC (hH.st (sg_cons (sg_64_of _) (sg_tl1 (sg_tl1 hH.sk))))
    rw [List.map_cons] at k
    unfold sg_land at k
    rw [sg_vl] at k
    exact lv_land hC.1 hC.2.1 hd k
  · exact h.elim
theorem sg_o47 {n m0 : Int} {j k : Nat} (hd : decode y.2.2.1 pc = .ok (.ldiv, 1)) {K : SgK} (hK : ∀ L2 S2 G2, K L2 S2 G2 → sg_Wp lo N d y (pc + 1) L2 S2 G2 Q) (h : sg_bld sg_ldiv L S G K) : sg_Wp lo N d y pc L S G Q := by
  unfold sg_bld at h
  split at h
  · obtain ⟨h0, h⟩ := h
    intro p l e R s m args below meth c D cy a H locs ls hC hH
    have k := hK _ _ _ h p l e R s m args below meth c D cy a H locs ls hC (hH.st (sg_cons (sg_64_of _) (sg_tl1 (sg_tl1 hH.sk))))
    rw [List.map_cons] at k
    unfold sg_ldiv at k
    rw [sg_vl] at k
    exact lv_ldiv hC.1 hC.2.1 hd (sg_ne64 (sg_hd1 hH.sk) h0) k
  · exact h.elim
theorem sg_o48 {n m0 : Int} {j k : Nat} (hd : decode y.2.2.1 pc = .ok (.lrem, 1)) {K : SgK} (hK : ∀ L2 S2 G2, K L2 S2 G2 → sg_Wp lo N d y (pc + 1) L2 S2 G2 Q) (h : sg_bld sg_lrem L S G K) : sg_Wp lo N d y pc L S G Q := by
  unfold sg_bld at h
  split at h
  · obtain ⟨h0, h⟩ := h
    intro p l e R s m args below meth c D cy a H locs ls hC hH
    have k := hK _ _ _ h p l e R s m args below meth c D cy a H locs ls hC (hH.st (sg_cons (sg_64_of _) (sg_tl1 (sg_tl1 hH.sk))))
    rw [List.map_cons] at k
    unfold sg_lrem at k
    rw [sg_vl] at k
    exact lv_lrem hC.1 hC.2.1 hd (sg_ne64 (sg_hd1 hH.sk) h0) k
  · exact h.elim
theorem sg_o50 {n m0 : Int} {j k : Nat} (hd : decode y.2.2.1 pc = .ok (.lshl, 1)) {K : SgK} (hK : ∀ L2 S2 G2, K L2 S2 G2 → sg_Wp lo N d y (pc + 1) L2 S2 G2 Q) (h : sg_bs sg_lshl L S G K) : sg_Wp lo N d y pc L S G Q := by
  unfold sg_bs at h
  split at h
  · intro p l e R s m args below meth c D cy a H locs ls hC hH
    have k := hK _ _ _ h p l e R s m args below meth c D cy a H locs ls hC (hH.st (sg_cons (sg_64_of _) (sg_tl1 (sg_tl1 hH.sk))))
    rw [List.map_cons] at k
    unfold sg_lshl at k
    rw [sg_vl] at k
    exact lv_lshl hC.1 hC.2.1 hd rfl k
  · exact h.elim
theorem sg_o51 {n m0 : Int} {j k : Nat} (hd : decode y.2.2.1 pc = .ok (.lshr, 1)) {K : SgK} (hK : ∀ L2 S2 G2, K L2 S2 G2 → sg_Wp lo N d y (pc + 1) L2 S2 G2 Q) (h : sg_bs sg_lshr L S G K) : sg_Wp lo N d y pc L S G Q := by
  unfold sg_bs at h
  split at h
  · intro p l e R s m args below meth c D cy a H locs ls hC hH
    have k := hK _ _ _ h p l e R s m args below meth c D cy a H locs ls hC (hH.st (sg_cons (sg_64_of _) (sg_tl1 (sg_tl1 hH.sk))))
    rw [List.map_cons] at k
    unfold sg_lshr at k
    rw [sg_vl] at k
    exact lv_lshr hC.1 hC.2.1 hd rfl k
  · exact h.elim
theorem sg_o37 {n m0 : Int} {j k : Nat} (hd : decode y.2.2.1 pc = .ok (.ineg, 1)) {K : SgK} (hK : ∀ L2 S2 G2, K L2 S2 G2 → sg_Wp lo N d y (pc + 1) L2 S2 G2 Q) (h : sg_u1 sg_ineg L S G K) : sg_Wp lo N d y pc L S G Q := by
  unfold sg_u1 at h
  split at h
  · intro p l e R s m args below meth c D cy a H locs ls hC hH
    have k := hK _ _ _ h p l e R s m args below meth c D cy a H locs ls hC (hH.st (sg_cons (sg_32_of _) (sg_tl1 hH.sk)))
    rw [List.map_cons] at k
    unfold sg_ineg at k
    rw [sg_vi] at k
    exact lv_ineg hC.1 hC.2.1 hd  k
  · exact h.elim
theorem sg_o54 {n m0 : Int} {j k : Nat} (hd : decode y.2.2.1 pc = .ok (.i2b, 1)) {K : SgK} (hK : ∀ L2 S2 G2, K L2 S2 G2 → sg_Wp lo N d y (pc + 1) L2 S2 G2 Q) (h : sg_u1 sg_i2b L S G K) : sg_Wp lo N d y pc L S G Q := by
  unfold sg_u1 at h
  split at h
  · intro p l e R s m args below meth c D cy a H locs ls hC hH
    have k := hK _ _ _ h p l e R s m args below meth c D cy a H locs ls hC (hH.st (sg_cons (sg_32_of _) (sg_tl1 hH.sk)))
    rw [List.map_cons] at k
    unfold sg_i2b at k
    rw [sg_vi] at k
    exact lv_i2b hC.1 hC.2.1 hd rfl k
  · exact h.elim
theorem sg_o55 {n m0 : Int} {j k : Nat} (hd : decode y.2.2.1 pc = .ok (.i2s, 1)) {K : SgK} (hK : ∀ L2 S2 G2, K L2 S2 G2 → sg_Wp lo N d y (pc + 1) L2 S2 G2 Q) (h : sg_u1 sg_i2s L S G K) : sg_Wp lo N d y pc L S G Q := by
  unfold sg_u1 at h
  split at h
  · intro p l e R s m args below meth c D cy a H locs ls hC hH
    have k := hK _ _ _ h p l e R s m args below meth c D cy a H locs ls hC (hH.st (sg_cons (sg_32_of _) (sg_tl1 hH.sk)))
    rw [List.map_cons] at k
    unfold sg_i2s at k
    rw [sg_vi] at k
    exact lv_i2s hC.1 hC.2.1 hd rfl k
  · exact h.elim
theorem sg_o56 {n m0 : Int} {j k : Nat} (hd : decode y.2.2.1 pc = .ok (.i2c, 1)) {K : SgK} (hK : ∀ L2 S2 G2, K L2 S2 G2 → sg_Wp lo N d y (pc + 1) L2 S2 G2 Q) (h : sg_u1 sg_i2c L S G K) : sg_Wp lo N d y pc L S G Q := by
  unfold sg_u1 at h
  split at h
  · intro p l e R s m args below meth c D cy a H locs ls hC hH
    have k := hK _ _ _ h p l e R s m args below meth c D cy a H locs ls hC (hH.st (sg_cons (sg_32_of _) (sg_tl1 hH.sk)))
    rw [List.map_cons] at k
    unfold sg_i2c at k
    rw [sg_vi] at k
    exact lv_i2c hC.1 hC.2.1 hd rfl k
  · exact h.elim
theorem sg_o52 {n m0 : Int} {j k : Nat} (hd : decode y.2.2.1 pc = .ok (.lcmp, 1)) {K : SgK} (hK : ∀ L2 S2 G2, K L2 S2 G2 → sg_Wp lo N d y (pc + 1) L2 S2 G2 Q) (h : sg_m52 lo N n m0 j k L S G K) : sg_Wp lo N d y pc L S G Q := by
  unfold sg_m52 at h
  split at h
  · intro p l e R s m args below meth c D cy a H locs ls hC hH
    rename_i y1 x1 r
    have hx : sg_64 x1 := sg_hd1 (sg_tl1 hH.sk)
    have hy : sg_64 y1 := sg_hd1 hH.sk
    have e1 : Int32.ofInt (sg_lcmp x1 y1) = lg_cmp (Int64.ofInt x1) (Int64.ofInt y1) := by
      unfold sg_lcmp lg_cmp
      have i1 : (Int64.ofInt x1 > Int64.ofInt y1) ↔ y1 < x1 := by
        show Int64.ofInt y1 < Int64.ofInt x1 ↔ _
        rw [Int64.lt_iff_toInt_lt, hx, hy]
      have i2 : (Int64.ofInt x1 = Int64.ofInt y1) ↔ x1 = y1 := by
        rw [← Int64.toInt_inj, hx, hy]
      by_cases c1 : y1 < x1
      · rw [if_pos c1, if_pos (i1.mpr c1)]
        rfl
      · rw [if_neg c1, if_neg (fun z => c1 (i1.mp z))]
        by_cases c2 : x1 = y1
        · rw [if_pos c2, if_pos (i2.mpr c2)]
          rfl
        · rw [if_neg c2, if_neg (fun z => c2 (i2.mp z))]
          rfl
    have hr : sg_32 (sg_lcmp x1 y1) := by
      unfold sg_lcmp
      by_cases c1 : y1 < x1
      · rw [if_pos c1]; rfl
      · rw [if_neg c1]
        by_cases c2 : x1 = y1
        · rw [if_pos c2]; rfl
        · rw [if_neg c2]; rfl
    have k := hK _ _ _ h p l e R s m args below meth c D cy a H locs ls hC (hH.st (sg_cons (v := (0, sg_lcmp x1 y1)) hr (sg_tl1 (sg_tl1 hH.sk))))
    rw [List.map_cons, show sg_v a (0, sg_lcmp x1 y1) = .int (lg_cmp (Int64.ofInt x1) (Int64.ofInt y1)) from congrArg Value.int e1] at k
    exact W.lcmp hC.1 hC.2.1 hd k
  · exact h.elim
theorem sg_o53 {n m0 : Int} {j k : Nat} (hd : decode y.2.2.1 pc = .ok (.i2l, 1)) {K : SgK} (hK : ∀ L2 S2 G2, K L2 S2 G2 → sg_Wp lo N d y (pc + 1) L2 S2 G2 Q) (h : sg_m53 lo N n m0 j k L S G K) : sg_Wp lo N d y pc L S G Q := by
  unfold sg_m53 at h
  split at h
  · intro p l e R s m args below meth c D cy a H locs ls hC hH
    rename_i x1 r
    have hx : (Int32.ofInt x1).toInt = x1 := sg_hd1 hH.sk
    have e1 : Int64.ofInt x1 = (Int32.ofInt x1).toInt64 := by
      rw [← Int64.toInt_inj, Int32.toInt_toInt64, hx]
      refine Int64.toInt_ofInt_of_le ?_ ?_
      · have := Int32.le_toInt (Int32.ofInt x1)
        omega
      · have := Int32.toInt_lt (Int32.ofInt x1)
        omega
    have h64 : sg_64 x1 := by
      show (Int64.ofInt x1).toInt = x1
      rw [e1, Int32.toInt_toInt64, hx]
    have k := hK _ _ _ h p l e R s m args below meth c D cy a H locs ls hC (hH.st (sg_cons (v := (1, x1)) h64 (sg_tl1 hH.sk)))
    rw [List.map_cons, show sg_v a (1, x1) = .long (Int32.ofInt x1).toInt64 from congrArg Value.long e1] at k
    exact lv_i2l hC.1 hC.2.1 hd rfl k
  · exact h.elim
theorem sg_o1 {n m0 : Int} {j k : Nat} (hd : decode y.2.2.1 pc = .ok (.aload_n (Fin.ofNat 4 j), 1)) {K : SgK} (hK : ∀ L2 S2 G2, K L2 S2 G2 → sg_Wp lo N d y (pc + 1) L2 S2 G2 Q) (h : sg_lda (j % 4) L S G K) : sg_Wp lo N d y pc L S G Q := by
  unfold sg_lda at h
  split at h
  · rename_i v hg
    obtain ⟨h0, h⟩ := h
    intro p l e R s m args below meth c D cy a H locs ls hC hH
    obtain ⟨g1, g2⟩ := hH.loc hg
    have k := hK _ _ _ h p l e R s m args below meth c D cy a H locs ls hC (hH.st (sg_cons g2 hH.sk))
    rw [List.map_cons] at k
    obtain ⟨q, hq⟩ := sg_ref2 a h0
    rw [hq] at g1 k
    exact lv_aload_n hC.1 hC.2.1 hd rfl g1 k
  · exact h.elim
theorem sg_o2 {n m0 : Int} {j k : Nat} (hd : decode y.2.2.1 pc = .ok (.aload j, 2)) {K : SgK} (hK : ∀ L2 S2 G2, K L2 S2 G2 → sg_Wp lo N d y (pc + 2) L2 S2 G2 Q) (h : sg_lda j L S G K) : sg_Wp lo N d y pc L S G Q := by
  unfold sg_lda at h
  split at h
  · rename_i v hg
    obtain ⟨h0, h⟩ := h
    intro p l e R s m args below meth c D cy a H locs ls hC hH
    obtain ⟨g1, g2⟩ := hH.loc hg
    have k := hK _ _ _ h p l e R s m args below meth c D cy a H locs ls hC (hH.st (sg_cons g2 hH.sk))
    rw [List.map_cons] at k
    obtain ⟨q, hq⟩ := sg_ref2 a h0
    rw [hq] at g1 k
    exact lv_aload hC.1 hC.2.1 hd g1 k
  · exact h.elim
theorem sg_o3 {n m0 : Int} {j k : Nat} (hd : decode y.2.2.1 pc = .ok (.iload_n (Fin.ofNat 4 j), 1)) {K : SgK} (hK : ∀ L2 S2 G2, K L2 S2 G2 → sg_Wp lo N d y (pc + 1) L2 S2 G2 Q) (h : sg_ldx 0 (j % 4) L S G K) : sg_Wp lo N d y pc L S G Q := by
  unfold sg_ldx at h
  split at h
  · rename_i v hg
    obtain ⟨h0, h⟩ := h
    obtain ⟨t, x⟩ := v
    cases h0
    intro p l e R s m args below meth c D cy a H locs ls hC hH
    obtain ⟨g1, g2⟩ := hH.loc hg
    have k := hK _ _ _ h p l e R s m args below meth c D cy a H locs ls hC (hH.st (sg_cons g2 hH.sk))
    exact lv_iload_n hC.1 hC.2.1 hd rfl g1 k
  · exact h.elim
theorem sg_o4 {n m0 : Int} {j k : Nat} (hd : decode y.2.2.1 pc = .ok (.iload j, 2)) {K : SgK} (hK : ∀ L2 S2 G2, K L2 S2 G2 → sg_Wp lo N d y (pc + 2) L2 S2 G2 Q) (h : sg_ldx 0 j L S G K) : sg_Wp lo N d y pc L S G Q := by
  unfold sg_ldx at h
  split at h
  · rename_i v hg
    obtain ⟨h0, h⟩ := h
    obtain ⟨t, x⟩ := v
    cases h0
    intro p l e R s m args below meth c D cy a H locs ls hC hH
    obtain ⟨g1, g2⟩ := hH.loc hg
    have k := hK _ _ _ h p l e R s m args below meth c D cy a H locs ls hC (hH.st (sg_cons g2 hH.sk))
    exact lv_iload hC.1 hC.2.1 hd g1 k
  · exact h.elim
theorem sg_o5 {n m0 : Int} {j k : Nat} (hd : decode y.2.2.1 pc = .ok (.lload_n (Fin.ofNat 4 j), 1)) {K : SgK} (hK : ∀ L2 S2 G2, K L2 S2 G2 → sg_Wp lo N d y (pc + 1) L2 S2 G2 Q) (h : sg_ldx 1 (j % 4) L S G K) : sg_Wp lo N d y pc L S G Q := by
  unfold sg_ldx at h
  split at h
  · rename_i v hg
    obtain ⟨h0, h⟩ := h
    obtain ⟨t, x⟩ := v
    cases h0
    intro p l e R s m args below meth c D cy a H locs ls hC hH
    obtain ⟨g1, g2⟩ := hH.loc hg
    have k := hK _ _ _ h p l e R s m args below meth c D cy a H locs ls hC (hH.st (sg_cons g2 hH.sk))
    exact lv_lload_n hC.1 hC.2.1 hd rfl g1 k
  · exact h.elim
theorem sg_o6 {n m0 : Int} {j k : Nat} (hd : decode y.2.2.1 pc = .ok (.lload j, 2)) {K : SgK} (hK : ∀ L2 S2 G2, K L2 S2 G2 → sg_Wp lo N d y (pc + 2) L2 S2 G2 Q) (h : sg_ldx 1 j L S G K) : sg_Wp lo N d y pc L S G Q := by
  unfold sg_ldx at h
  split at h
  · rename_i v hg
    obtain ⟨h0, h⟩ := h
    obtain ⟨t, x⟩ := v
    cases h0
    intro p l e R s m args below meth c D cy a H locs ls hC hH
    obtain ⟨g1, g2⟩ := hH.loc hg
    have k := hK _ _ _ h p l e R s m args below meth c D cy a H locs ls hC (hH.st (sg_cons g2 hH.sk))
    exact lv_lload hC.1 hC.2.1 hd g1 k
  · exact h.elim
theorem sg_o29 {n m0 : Int} {j k : Nat} (hj : (j % 4) < y.2.2.2.1) (hd : decode y.2.2.1 pc = .ok (.astore_n (Fin.ofNat 4 j), 1)) {K : SgK} (hK : ∀ L2 S2 G2, K L2 S2 G2 → sg_Wp lo N d y (pc + 1) L2 S2 G2 Q) (h : sg_sta (j % 4) L S G K) : sg_Wp lo N d y pc L S G Q := by
  unfold sg_sta at h
  split at h
  · rename_i v r
    obtain ⟨h0, h⟩ := h
    intro p l e R s m args below meth c D cy a H locs ls hC hH
    obtain ⟨q, hq⟩ := sg_ref2 a h0
    rw [List.map_cons, hq]
    refine lv_astore_n (lv' := ((j % 4), .ref q) :: (L.map (fun q => (q.1, sg_v a q.2))).filter (fun q => !(q.1 == (j % 4)) && !(q.1 + 1 == (j % 4) && q.2.category == 2))) hC.1 hC.2.1 hd rfl hH.2.2.2.2.1 hj rfl (fun ls' hl => ?_)
    rw [← hq] at hl
    exact hK _ _ _ h p l e R s m args below meth c D cy a H locs ls' hC (hH.set (sg_set_has1 (by omega) hl) (sg_set_cv hH.2.2.2.2.2.1 (sg_cv2 h0)) (sg_tl1 hH.sk))
  · exact h.elim
theorem sg_o30 {n m0 : Int} {j k : Nat} (hj : j < y.2.2.2.1) (hd : decode y.2.2.1 pc = .ok (.astore j, 2)) {K : SgK} (hK : ∀ L2 S2 G2, K L2 S2 G2 → sg_Wp lo N d y (pc + 2) L2 S2 G2 Q) (h : sg_sta j L S G K) : sg_Wp lo N d y pc L S G Q := by
  unfold sg_sta at h
  split at h
  · rename_i v r
    obtain ⟨h0, h⟩ := h
    intro p l e R s m args below meth c D cy a H locs ls hC hH
    obtain ⟨q, hq⟩ := sg_ref2 a h0
    rw [List.map_cons, hq]
    refine lv_astore (lv' := (j, .ref q) :: (L.map (fun q => (q.1, sg_v a q.2))).filter (fun q => !(q.1 == j) && !(q.1 + 1 == j && q.2.category == 2))) hC.1 hC.2.1 hd hH.2.2.2.2.1 hj rfl (fun ls' hl => ?_)
    rw [← hq] at hl
    exact hK _ _ _ h p l e R s m args below meth c D cy a H locs ls' hC (hH.set (sg_set_has1 (by omega) hl) (sg_set_cv hH.2.2.2.2.2.1 (sg_cv2 h0)) (sg_tl1 hH.sk))
  · exact h.elim
theorem sg_o25 {n m0 : Int} {j k : Nat} (hj : (j % 4) < y.2.2.2.1) (hd : decode y.2.2.1 pc = .ok (.istore_n (Fin.ofNat 4 j), 1)) {K : SgK} (hK : ∀ L2 S2 G2, K L2 S2 G2 → sg_Wp lo N d y (pc + 1) L2 S2 G2 Q) (h : sg_stx 0 (j % 4) L S G K) : sg_Wp lo N d y pc L S G Q := by
  unfold sg_stx at h
  split at h
  · rename_i v r
    obtain ⟨h0, h⟩ := h
    obtain ⟨t, x⟩ := v
    cases h0
    intro p l e R s m args below meth c D cy a H locs ls hC hH
    refine lv_istore_n hC.1 hC.2.1 hd rfl hH.2.2.2.2.1 hj rfl (fun ls' hl => ?_)
    exact hK _ _ _ h p l e R s m args below meth c D cy a H locs ls' hC (hH.set (sg_set_has1 (v := (0, x)) (by show (0 : Nat) ≠ 1; decide) hl) (sg_set_cv hH.2.2.2.2.2.1 (sg_hd1 hH.sk)) (sg_tl1 hH.sk))
  · exact h.elim
theorem sg_o26 {n m0 : Int} {j k : Nat} (hj : j < y.2.2.2.1) (hd : decode y.2.2.1 pc = .ok (.istore j, 2)) {K : SgK} (hK : ∀ L2 S2 G2, K L2 S2 G2 → sg_Wp lo N d y (pc + 2) L2 S2 G2 Q) (h : sg_stx 0 j L S G K) : sg_Wp lo N d y pc L S G Q := by
  unfold sg_stx at h
  split at h
  · rename_i v r
    obtain ⟨h0, h⟩ := h
    obtain ⟨t, x⟩ := v
    cases h0
    intro p l e R s m args below meth c D cy a H locs ls hC hH
    refine lv_istore hC.1 hC.2.1 hd hH.2.2.2.2.1 hj rfl (fun ls' hl => ?_)
    exact hK _ _ _ h p l e R s m args below meth c D cy a H locs ls' hC (hH.set (sg_set_has1 (v := (0, x)) (by show (0 : Nat) ≠ 1; decide) hl) (sg_set_cv hH.2.2.2.2.2.1 (sg_hd1 hH.sk)) (sg_tl1 hH.sk))
  · exact h.elim
theorem sg_o27 {n m0 : Int} {j k : Nat} (hj : (j % 4) + 1 < y.2.2.2.1) (hd : decode y.2.2.1 pc = .ok (.lstore_n (Fin.ofNat 4 j), 1)) {K : SgK} (hK : ∀ L2 S2 G2, K L2 S2 G2 → sg_Wp lo N d y (pc + 1) L2 S2 G2 Q) (h : sg_stx 1 (j % 4) L S G K) : sg_Wp lo N d y pc L S G Q := by
  unfold sg_stx at h
  split at h
  · rename_i v r
    obtain ⟨h0, h⟩ := h
    obtain ⟨t, x⟩ := v
    cases h0
    intro p l e R s m args below meth c D cy a H locs ls hC hH
    refine lv_lstore_n hC.1 hC.2.1 hd rfl hH.2.2.2.2.1 hj rfl (fun ls' hl => ?_)
    exact hK _ _ _ h p l e R s m args below meth c D cy a H locs ls' hC (hH.set (sg_set_has2 (v := (1, x)) rfl hl) (sg_set_cv hH.2.2.2.2.2.1 (sg_hd1 hH.sk)) (sg_tl1 hH.sk))
  · exact h.elim
theorem sg_o28 {n m0 : Int} {j k : Nat} (hj : j + 1 < y.2.2.2.1) (hd : decode y.2.2.1 pc = .ok (.lstore j, 2)) {K : SgK} (hK : ∀ L2 S2 G2, K L2 S2 G2 → sg_Wp lo N d y (pc + 2) L2 S2 G2 Q) (h : sg_stx 1 j L S G K) : sg_Wp lo N d y pc L S G Q := by
  unfold sg_stx at h
  split at h
  · rename_i v r
    obtain ⟨h0, h⟩ := h
    obtain ⟨t, x⟩ := v
    cases h0
    intro p l e R s m args below meth c D cy a H locs ls hC hH
    refine lv_lstore hC.1 hC.2.1 hd hH.2.2.2.2.1 hj rfl (fun ls' hl => ?_)
    exact hK _ _ _ h p l e R s m args below meth c D cy a H locs ls' hC (hH.set (sg_set_has2 (v := (1, x)) rfl hl) (sg_set_cv hH.2.2.2.2.2.1 (sg_hd1 hH.sk)) (sg_tl1 hH.sk))
  · exact h.elim
theorem sg_o31 {n m0 : Int} {j k : Nat} (hj : j < y.2.2.2.1) (hd : decode y.2.2.1 pc = .ok (.iinc j n, 3)) {K : SgK} (hK : ∀ L2 S2 G2, K L2 S2 G2 → sg_Wp lo N d y (pc + 3) L2 S2 G2 Q) (h : sg_inc j n L S G K) : sg_Wp lo N d y pc L S G Q := by
  unfold sg_inc at h
  split at h
  · rename_i v hg
    obtain ⟨h0, h⟩ := h
    obtain ⟨t, x⟩ := v
    cases h0
    intro p l e R s m args below meth c D cy a H locs ls hC hH
    obtain ⟨k, hk⟩ := List.getElem?_of_mem (sg_get_mem hg)
    refine lv_iinc (k := k) (x := Int32.ofInt x) (v := Int32.ofInt x + Int32.ofInt n) hC.1 hC.2.1 hd hH.2.2.2.2.1 (by rw [List.getElem?_map, hk]; rfl) rfl hj rfl (fun ls' hl => ?_)
    have e1 : sg_v a (0, sg_iadd x n) = .int (Int32.ofInt x + Int32.ofInt n) := by unfold sg_iadd; exact sg_vi a _
    rw [← e1] at hl
    exact hK _ _ _ h p l e R s m args below meth c D cy a H locs ls' hC (hH.set (sg_set_has1 (v := (0, sg_iadd x n)) (by show (0 : Nat) ≠ 1; decide) hl) (sg_set_cv hH.2.2.2.2.2.1 (sg_32_of _)) hH.sk)
  · exact h.elim
theorem sg_o7 {n m0 : Int} {j k : Nat} (hd : decode y.2.2.1 pc = .ok (.iconst n, 1)) {K : SgK} (hK : ∀ L2 S2 G2, K L2 S2 G2 → sg_Wp lo N d y (pc + 1) L2 S2 G2 Q) (h : sg_32 n ∧ K L ((0, n) :: S) G) : sg_Wp lo N d y pc L S G Q := by
  obtain ⟨h0, h⟩ := h
  intro p l e R s m args below meth c D cy a H locs ls hC hH
  exact lv_iconst hC.1 hC.2.1 hd rfl (hK _ _ _ h p l e R s m args below meth c D cy a H locs ls hC (hH.st (sg_cons (v := (0, n)) h0 hH.sk)))
theorem sg_o8 {n m0 : Int} {j k : Nat} (hd : decode y.2.2.1 pc = .ok (.bipush n, 2)) {K : SgK} (hK : ∀ L2 S2 G2, K L2 S2 G2 → sg_Wp lo N d y (pc + 2) L2 S2 G2 Q) (h : (Int8.ofInt n).toInt32 = Int32.ofInt n ∧ sg_32 n ∧ K L ((0, n) :: S) G) : sg_Wp lo N d y pc L S G Q := by
  obtain ⟨h1, h0, h⟩ := h
  intro p l e R s m args below meth c D cy a H locs ls hC hH
  exact lv_bipush hC.1 hC.2.1 hd h1 (hK _ _ _ h p l e R s m args below meth c D cy a H locs ls hC (hH.st (sg_cons (v := (0, n)) h0 hH.sk)))
theorem sg_o9 {n m0 : Int} {j k : Nat} (hd : decode y.2.2.1 pc = .ok (.sipush n, 3)) {K : SgK} (hK : ∀ L2 S2 G2, K L2 S2 G2 → sg_Wp lo N d y (pc + 3) L2 S2 G2 Q) (h : (Int16.ofInt n).toInt32 = Int32.ofInt n ∧ sg_32 n ∧ K L ((0, n) :: S) G) : sg_Wp lo N d y pc L S G Q := by
  obtain ⟨h1, h0, h⟩ := h
  intro p l e R s m args below meth c D cy a H locs ls hC hH
  exact lv_sipush hC.1 hC.2.1 hd h1 (hK _ _ _ h p l e R s m args below meth c D cy a H locs ls hC (hH.st (sg_cons (v := (0, n)) h0 hH.sk)))
theorem sg_o10 {n m0 : Int} {j k : Nat} (hd : decode y.2.2.1 pc = .ok (.lconst (Fin.ofNat 2 j), 1)) {K : SgK} (hK : ∀ L2 S2 G2, K L2 S2 G2 → sg_Wp lo N d y (pc + 1) L2 S2 G2 Q) (h : K L ((1, ((j % 2 : Nat) : Int)) :: S) G) : sg_Wp lo N d y pc L S G Q := by
  intro p l e R s m args below meth c D cy a H locs ls hC hH
  have h2 : j % 2 = 0 ∨ j % 2 = 1 := by omega
  have e1 : Int64.ofNat ((Fin.ofNat 2 j : Fin 2) : Nat) = Int64.ofInt ((j % 2 : Nat) : Int) := by
    show Int64.ofNat (j % 2) = _
    rcases h2 with z | z <;> rw [z] <;> decide
  have h6 : sg_64 ((j % 2 : Nat) : Int) := by rcases h2 with z | z <;> rw [z] <;> rfl
  exact lv_lconst hC.1 hC.2.1 hd e1 (hK _ _ _ h p l e R s m args below meth c D cy a H locs ls hC (hH.st (sg_cons (v := (1, ((j % 2 : Nat) : Int))) h6 hH.sk)))
theorem sg_o11 {n m0 : Int} {j k : Nat} (hm : (y.1, j, n) ∈ sg_ct) (hd : decode y.2.2.1 pc = .ok (.ldc j, 2)) {K : SgK} (hK : ∀ L2 S2 G2, K L2 S2 G2 → sg_Wp lo N d y (pc + 2) L2 S2 G2 Q) (h : sg_32 n ∧ K L ((0, n) :: S) G) : sg_Wp lo N d y pc L S G Q := by
  obtain ⟨h0, h⟩ := h
  intro p l e R s m args below meth c D cy a H locs ls hC hH
  exact lv_ldc hC.1 hC.2.1 hC.2.2.2.2.2.1 (hC.2.2.2.2.2.2.1 _ (sg_ct_ok _ hm)) hd (hK _ _ _ h p l e R s m args below meth c D cy a H locs ls hC (hH.st (sg_cons (v := (0, n)) h0 hH.sk)))
theorem sg_o14 {n m0 : Int} {j k : Nat} (hm : (y.1, j, n) ∈ sg_ct) (hd : decode y.2.2.1 pc = .ok (.ldc_w j, 3)) {K : SgK} (hK : ∀ L2 S2 G2, K L2 S2 G2 → sg_Wp lo N d y (pc + 3) L2 S2 G2 Q) (h : sg_32 n ∧ K L ((0, n) :: S) G) : sg_Wp lo N d y pc L S G Q := by
  obtain ⟨h0, h⟩ := h
  intro p l e R s m args below meth c D cy a H locs ls hC hH
  exact lv_ldcw hC.1 hC.2.1 hC.2.2.2.2.2.1 (hC.2.2.2.2.2.2.1 _ (sg_ct_ok _ hm)) hd (hK _ _ _ h p l e R s m args below meth c D cy a H locs ls hC (hH.st (sg_cons (v := (0, n)) h0 hH.sk)))
theorem sg_o12 {n m0 : Int} {j k : Nat} (hm : (y.1, j, n) ∈ sg_lt) (hd : decode y.2.2.1 pc = .ok (.ldc2_w j, 3)) {K : SgK} (hK : ∀ L2 S2 G2, K L2 S2 G2 → sg_Wp lo N d y (pc + 3) L2 S2 G2 Q) (h : sg_64 n ∧ K L ((1, n) :: S) G) : sg_Wp lo N d y pc L S G Q := by
  obtain ⟨h0, h⟩ := h
  intro p l e R s m args below meth c D cy a H locs ls hC hH
  exact lv_ldc2 hC.1 hC.2.1 hC.2.2.2.2.2.1 (hC.2.2.2.2.2.2.1 _ (sg_lt_ok _ hm)) hd (hK _ _ _ h p l e R s m args below meth c D cy a H locs ls hC (hH.st (sg_cons (v := (1, n)) h0 hH.sk)))
theorem sg_o13 {n m0 : Int} {j k : Nat} (hy : y.1 = 7) (hk : k < 6) (hj : j = sg_si.getD k 0) (hd : decode y.2.2.1 pc = .ok (.ldc j, 2)) {K : SgK} (hK : ∀ L2 S2 G2, K L2 S2 G2 → sg_Wp lo N d y (pc + 2) L2 S2 G2 Q) (h : K L ((3, (k : Int)) :: S) G) : sg_Wp lo N d y pc L S G Q := by
  intro p l e R s m args below meth c D cy a H locs ls hC hH
  have hX := hC.2.2.2.2.2.2.2.2.2.2
  have hZ := hX.1 k hk
  rw [← hj] at hZ
  have hown := hC.2.2.2.2.2.1
  rw [hy] at hown
  exact va_ldcS hC.1 hC.2.1 (show s.vm.findClass "SneezeGuard$Text" = some m.cls from hown) hZ hd (hK _ _ _ h p l e R s m args below meth c D cy a H locs ls hC (hH.st (sg_cons (v := (3, (k : Int))) trivial hH.sk)))
theorem sg_o57 {n m0 : Int} {j k : Nat} (hd : decode y.2.2.1 pc = .ok (.dup, 1)) {K : SgK} (hK : ∀ L2 S2 G2, K L2 S2 G2 → sg_Wp lo N d y (pc + 1) L2 S2 G2 Q) (h : sg_m57 lo N n m0 j k L S G K) : sg_Wp lo N d y pc L S G Q := by
  unfold sg_m57 at h
  split at h
  · obtain ⟨h0, h⟩ := h
    intro p l e R s m args below meth c D cy a H locs ls hC hH
    exact lv_dup hC.1 hC.2.1 hd (sg_cat h0) (hK _ _ _ h p l e R s m args below meth c D cy a H locs ls hC (hH.st (sg_cons (sg_hd1 hH.sk) hH.sk)))
  · exact h.elim
theorem sg_o58 {n m0 : Int} {j k : Nat} (hd : decode y.2.2.1 pc = .ok (.dup2, 1)) {K : SgK} (hK : ∀ L2 S2 G2, K L2 S2 G2 → sg_Wp lo N d y (pc + 1) L2 S2 G2 Q) (h : sg_m58 lo N n m0 j k L S G K) : sg_Wp lo N d y pc L S G Q := by
  unfold sg_m58 at h
  split at h
  · obtain ⟨⟨h0, h1⟩, h⟩ := h
    intro p l e R s m args below meth c D cy a H locs ls hC hH
    exact lv_dup2_11 hC.1 hC.2.1 hd (sg_cat h0) (sg_cat h1) (hK _ _ _ h p l e R s m args below meth c D cy a H locs ls hC (hH.st (sg_cons (sg_hd1 hH.sk) (sg_cons (sg_hd1 (sg_tl1 hH.sk)) hH.sk))))
  · exact h.elim
theorem sg_o59 {n m0 : Int} {j k : Nat} (hd : decode y.2.2.1 pc = .ok (.pop, 1)) {K : SgK} (hK : ∀ L2 S2 G2, K L2 S2 G2 → sg_Wp lo N d y (pc + 1) L2 S2 G2 Q) (h : sg_m59 lo N n m0 j k L S G K) : sg_Wp lo N d y pc L S G Q := by
  unfold sg_m59 at h
  split at h
  · obtain ⟨h0, h⟩ := h
    intro p l e R s m args below meth c D cy a H locs ls hC hH
    exact lv_pop hC.1 hC.2.1 hd (sg_cat h0) (hK _ _ _ h p l e R s m args below meth c D cy a H locs ls hC (hH.st (sg_tl1 hH.sk)))
  · exact h.elim
end SgS
