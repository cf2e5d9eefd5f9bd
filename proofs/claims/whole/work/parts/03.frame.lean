/-! THE ABSTRACT MACHINE. Values are pairs (tag, integer); memory is a function of a cell's number and a place; a method's run is told by sg_Wp, a statement over the machine that holds for every caller. -/
abbrev SgM : Type := Int → Int → Int
abbrev SgL : Type := List (Nat × Nat × Int)
abbrev SgS : Type := List (Nat × Int)
abbrev SgY : Type := Nat × MethodName × ByteArray × Nat × Option FieldType
abbrev SgA : Type := (Int → Nat) × (Nat → Nat) × (Nat → Nat) × Nat
abbrev SgC : Type := ClassId × ClassId × ClassId × ClassId
/-- tags: 0 int, 1 long, 2 a cell, 3 a text constant, 4 its bytes, 5 the table LOUD -/
def sg_v (a : SgA) (v : Nat × Int) : Value := match v.1 with
  | 0 => .int (Int32.ofInt v.2)
  | 1 => .long (Int64.ofInt v.2)
  | 2 => .ref (a.1 v.2)
  | 3 => .ref (a.2.1 v.2.toNat)
  | 4 => .ref (a.2.2.1 v.2.toNat)
  | _ => .ref a.2.2.2
def sg_32 (x : Int) : Prop := (Int32.ofInt x).toInt = x
def sg_64 (x : Int) : Prop := (Int64.ofInt x).toInt = x
def sg_cv (v : Nat × Int) : Prop := match v.1 with
  | 0 => sg_32 v.2
  | 1 => sg_64 v.2
  | _ => True
def sg_fv (a : SgA) (ci k : Nat) (c g : Int) : Value := if sg_ft ci k = 0 then .int (Int32.ofInt g) else .ref (a.1 (sg_rr c k))
def sg_e (cy : SgC) (a : SgA) (G : SgM) (c : Int) : va_E := match (sg_sh c).1 with
  | 0 => .inr ((sg_sh c).2.toNat, (List.range (sg_nf (sg_sh c).2.toNat)).map (fun k => sg_fv a (sg_sh c).2.toNat k c (G c (k : Int))))
  | 1 => .inl (cy.1, (sg_sh c).2.toNat, .inl (fun i => Int32.ofInt (G c (i : Int))))
  | 2 => .inl (cy.2.1, (sg_sh c).2.toNat, .inl (fun i => Int32.ofInt (G c (i : Int))))
  | 3 => .inl (cy.2.2.1, (sg_sh c).2.toNat, .inr (.inl (fun i => Int64.ofInt (G c (i : Int)))))
  | _ => .inl (cy.2.2.2, (sg_sh c).2.toNat, .inr (.inr (.inr (.inr (fun i => some (a.1 (sg_qb c + (i : Int)))))))) 
def sg_W (cy : SgC) (a : SgA) (G : SgM) (lo N : Nat) : va_W := (List.range (N - lo)).map (fun j => (a.1 ((lo + j : Nat) : Int), sg_e cy a G ((lo + j : Nat) : Int)))
def sg_tys (cy : SgC) : List (ClassId × FieldType) := [(cy.1, .int), (cy.2.1, .boolean), (cy.2.2.1, .long), (cy.2.2.2, .array .int)]
def sg_In (lo N : Nat) (c : Int) : Prop := (lo : Int) ≤ c ∧ c < (N : Int)
/-- a cell of the world, of that kind -/
def sg_Ce (lo N : Nat) (c : Int) (k : Nat) (n : Int) : Prop := sg_In lo N c ∧ sg_sh c = (k, n)
def sg_up (G : SgM) (c i v : Int) : SgM := fun c' i' => if c' = c ∧ i' = i then v else G c' i'
def sg_can (G : SgM) : Prop := ∀ c i : Int, if (sg_sh c).1 = 3 then sg_64 (G c i) else sg_32 (G c i)
def sg_A (lo N : Nat) (a : SgA) : Nat → Prop := fun q => ∃ c : Int, sg_In lo N c ∧ a.1 c = q
theorem sg_32_of (x : Int32) : sg_32 x.toInt := by unfold sg_32; rw [Int32.ofInt_toInt]
theorem sg_64_of (x : Int64) : sg_64 x.toInt := by unfold sg_64; rw [Int64.ofInt_toInt]
theorem sg_W_at {cy : SgC} {a : SgA} {G : SgM} {lo N : Nat} {c : Int} (h : sg_In lo N c) : (sg_W cy a G lo N)[c.toNat - lo]? = some (a.1 c, sg_e cy a G c) := by
  obtain ⟨h1, h2⟩ := h
  have e : ((lo + (c.toNat - lo) : Nat) : Int) = c := by omega
  unfold sg_W
  rw [List.getElem?_map, List.getElem?_range (by omega)]
  simp only [Option.map_some, e]
theorem sg_W_ge {cy : SgC} {a : SgA} {G : SgM} {lo N k : Nat} {q : Nat × va_E} (h : (sg_W cy a G lo N)[k]? = some q) : ∃ c : Int, sg_In lo N c ∧ c.toNat - lo = k ∧ q = (a.1 c, sg_e cy a G c) := by
  unfold sg_W at h
  rw [List.getElem?_map] at h
  by_cases hk : k < N - lo
  · rw [List.getElem?_range hk] at h
    simp only [Option.map_some, Option.some.injEq] at h
    exact ⟨((lo + k : Nat) : Int), ⟨by omega, by omega⟩, by omega, h.symm⟩
  · rw [List.getElem?_eq_none (by simp; omega)] at h
    cases h
theorem sg_W_set {cy : SgC} {a : SgA} {G G' : SgM} {lo N : Nat} {c : Int} (h : sg_In lo N c) (hoff : ∀ c' : Int, c' ≠ c → sg_e cy a G' c' = sg_e cy a G c') : (sg_W cy a G lo N).set (c.toNat - lo) (a.1 c, sg_e cy a G' c) = sg_W cy a G' lo N := by
  obtain ⟨h1, h2⟩ := h
  apply List.ext_getElem?
  intro k
  rw [List.getElem?_set]
  by_cases hk : c.toNat - lo = k
  · have hin : sg_In lo N c := ⟨h1, h2⟩
    rw [if_pos hk, if_pos (by unfold sg_W; simp; omega), ← hk, sg_W_at hin]
  · rw [if_neg hk]
    unfold sg_W
    rw [List.getElem?_map, List.getElem?_map]
    by_cases hl : k < N - lo
    · rw [List.getElem?_range hl]
      simp only [Option.map_some]
      rw [hoff _ (by omega)]
    · rw [List.getElem?_eq_none (by simp; omega), Option.map_none, Option.map_none]
theorem sg_W_D {cy : SgC} {a : SgA} {G G' : SgM} {lo N : Nat} {A : Nat → Prop} (h : va_D A (sg_W cy a G lo N)) : va_D A (sg_W cy a G' lo N) := by
  have key : ∀ (k : Nat) (q : Nat × va_E), (sg_W cy a G' lo N)[k]? = some q → ∃ q' : Nat × va_E, (sg_W cy a G lo N)[k]? = some q' ∧ q'.1 = q.1 := by
    intro k q hq
    obtain ⟨c, hc, hk, rfl⟩ := sg_W_ge hq
    exact ⟨(a.1 c, sg_e cy a G c), by rw [← hk]; exact sg_W_at hc, rfl⟩
  refine ⟨fun i j x y hi hj hxy => ?_, fun k q hk => ?_⟩
  · obtain ⟨x', h1, e1⟩ := key i x hi
    obtain ⟨y', h2, e2⟩ := key j y hj
    exact h.1 i j x' y' h1 h2 (by rw [e1, e2, hxy])
  · obtain ⟨q', h1, e1⟩ := key k q hk
    rw [← e1]
    exact h.2 k q' h1
theorem sg_up_can {G : SgM} (h : sg_can G) {c i v : Int} (hv : if (sg_sh c).1 = 3 then sg_64 v else sg_32 v) : sg_can (sg_up G c i v) := by
  intro c' i'
  unfold sg_up
  by_cases e : c' = c ∧ i' = i
  · rw [if_pos e, e.1]; exact hv
  · rw [if_neg e]; exact h c' i'
/-- off the cell that is written, no cell changes -/
theorem sg_e_off {cy : SgC} {a : SgA} {G G' : SgM} {c : Int} (h : ∀ i : Int, G' c i = G c i) : sg_e cy a G' c = sg_e cy a G c := by
  unfold sg_e
  simp only [h]
theorem sg_up_off {G : SgM} {c c' i v : Int} (h : c' ≠ c) (j : Int) : sg_up G c i v c' j = G c' j := by
  unfold sg_up
  rw [if_neg (fun q => h q.1)]
theorem sg_up_at {G : SgM} {c i v : Int} : sg_up G c i v c i = v := by unfold sg_up; rw [if_pos ⟨rfl, rfl⟩]
/-- what stands outside our world and stays: the text constants, what String says of itself, the table LOUD -/
def sg_loud (j : Nat) : Int32 := [2, 4, 7].getD j 0
def sg_X (a : SgA) (A : Nat → Prop) (U : State) (H : Heap) : Prop :=
  (∀ i : Nat, i < 6 → vk_R "SneezeGuard$Text" (sg_si.getD i 0) (sg_tx.getD i "") (a.2.1 i) U) ∧ vk_S 6 sg_len sg_byt a.2.1 a.2.2.1 A U H ∧ va_Z "java/lang/String" "COMPACT_STRINGS" "Z" (.int 1) A U H ∧ va_Z "SneezeGuard$Wall" "LOUD" "[I" (.ref a.2.2.2) A U H ∧ va_T .int a.2.2.2 3 (fun j => .int (sg_loud j)) A U H ∧ ∀ q ∈ sg_nl, va_Nw (.methodLinkNest (sg_cn q.1) q.2.1 q.2.2 "SneezeGuard") U
theorem sg_X.kept {a : SgA} {A : Nat → Prop} {U : State} {H H1 : Heap} (h : sg_X a A U H) (hq : ∀ q : Nat, q < H.size → ¬ A q → H1[q]? = H[q]?) : sg_X a A U H1 := ⟨h.1, h.2.1.kept hq, h.2.2.1.kept hq, h.2.2.2.1.kept hq, h.2.2.2.2.1.kept hq, h.2.2.2.2.2⟩
theorem sg_X.warm {a : SgA} {A : Nat → Prop} {s U : State} {H : Heap} (hW : s.WarmedH U.vm) (h : sg_X a A s H) : sg_X a A U H := ⟨fun i hi => (h.1 i hi).warm hW, h.2.1.moved hW.alike, h.2.2.1.moved hW.alike, h.2.2.2.1.moved hW.alike, h.2.2.2.2.1.moved hW.alike, fun q hq => (h.2.2.2.2.2 q hq).warmM hW⟩
theorem sg_X.same {a : SgA} {A : Nat → Prop} {u U : State} {H : Heap} (hv : U.vm = u.vm) (h : sg_X a A u H) : sg_X a A U H := by
  have hA : u.vm.Alike U.vm := by rw [hv]; exact Vm.Alike.refl _
  exact ⟨fun i hi => (h.1 i hi).same hv, h.2.1.moved hA, h.2.2.1.moved hA, h.2.2.2.1.moved hA, h.2.2.2.2.1.moved hA, fun q hq => (h.2.2.2.2.2 q hq).same rfl hv.symm⟩
theorem sg_X.narrow {a : SgA} {A B : Nat → Prop} {U : State} {H : Heap} (h : sg_X a A U H) (hAB : ∀ q, B q → A q) : sg_X a B U H := ⟨h.1, h.2.1.narrow hAB, h.2.2.1.narrow hAB, h.2.2.2.1.narrow hAB, h.2.2.2.2.1.narrow hAB, h.2.2.2.2.2⟩
/-- a method's answer as a value of the machine -/
def sg_r (ret : Option FieldType) (a : SgA) (v : Int) : Option Value := match ret with
  | none => none
  | some .long => some (.long (Int64.ofInt v))
  | some (.object C) => some (if C = "java/lang/String" then .ref (a.2.1 v.toNat) else .ref (a.1 v))
  | some _ => some (.int (Int32.ofInt v))
/-- how an answer comes onto the stack -/
def sg_push (ret : Option FieldType) (v : Int) (S : SgS) : SgS := match ret with
  | none => S
  | some .long => (1, v) :: S
  | some (.object C) => (if C = "java/lang/String" then (3, v) else (2, v)) :: S
  | some _ => (0, v) :: S
def sg_rc (ret : Option FieldType) (v : Int) : Prop := match ret with
  | none => True
  | some .long => sg_64 v
  | some (.object _) => True
  | some _ => sg_32 v
def sg_Pc (lo N : Nat) (D : va_G) (cy : SgC) (a : SgA) (av : SgS) (G : SgM) : Array Value → State → Prop :=
  va_Pc (av.map (sg_v a)) (fun U => va_P D vwCl (sg_W cy a G lo N) U.heap ∧ va_D (sg_A lo N a) (sg_W cy a G lo N) ∧ sg_can G ∧ va_K D vwCl (sg_tys cy) U ∧ sg_X a (sg_A lo N a) U U.heap)
def sg_Qc (lo N : Nat) (D : va_G) (cy : SgC) (a : SgA) (ret : Option FieldType) (Q : Int → SgM → Prop) : Array Value → State → Outcome → State → Prop := fun _ st oc t =>
  (∃ (v : Int) (G' : SgM), oc = .returned (sg_r ret a v) ∧ sg_rc ret v ∧ Q v G' ∧ va_P D vwCl (sg_W cy a G' lo N) t.heap ∧ sg_can G') ∧ va_F (sg_A lo N a) st t
/-- what a frame of method y stands on, heap and locals apart -/
def sg_Cx (lo N d : Nat) (y : SgY) (D : va_G) (cy : SgC) (a : SgA) (p : Program) (R : Room) (s : State) (m : MethodId) (args : Array Value) (meth : Method) (c : Code) : Prop :=
  p.tables.exec = Jvm.exec ∧ c.code = y.2.2.1 ∧ c.maxLocals = y.2.2.2.1 ∧ meth.sig.returnType = y.2.2.2.2 ∧ meth.locks = false ∧ s.vm.findClass (sg_cn y.1) = some m.cls ∧ (∀ w ∈ sg_GT, w.before args s = true) ∧ d ≤ R.frames ∧ 34 * d ≤ R.locals ∧
  va_K D vwCl (sg_tys cy) s ∧ sg_X a (sg_A lo N a) s s.heap
/-- the heap and the locals -/
def sg_Hx (lo N : Nat) (y : SgY) (D : va_G) (cy : SgC) (a : SgA) (s : State) (G : SgM) (H : Heap) (locs : List Loc) (ls : Array Slot) (L : SgL) (S : SgS) : Prop :=
  va_P D vwCl (sg_W cy a G lo N) H ∧ va_D (sg_A lo N a) (sg_W cy a G lo N) ∧ va_S (sg_A lo N a) s.heap H locs ∧ sg_can G ∧ lv_has ls y.2.2.2.1 (L.map (fun q => (q.1, sg_v a q.2))) ∧ (∀ q ∈ L, sg_cv q.2) ∧ (∀ v ∈ S, sg_cv v)
def sg_Wp (lo N d : Nat) (y : SgY) (pc : Nat) (L : SgL) (S : SgS) (G : SgM) (Q : Int → SgM → Prop) : Prop :=
  ∀ (p : Program) (l : Launch) (e : Env) (R : Room) (s : State) (m : MethodId) (args : Array Value) (below : List Frame) (meth : Method) (c : Code) (D : va_G) (cy : SgC) (a : SgA) (H : Heap) (locs : List Loc) (ls : Array Slot),
    sg_Cx lo N d y D cy a p R s m args meth c → sg_Hx lo N y D cy a s G H locs ls L S →
    W p l e R s m args below meth c H locs 0 0 (MQ below (sg_Qc lo N D cy a y.2.2.2.2 Q) args s 0 0 (sg_A lo N a)) (F0 m pc ls (S.map (sg_v a)))
theorem sg_Wp.mono {lo N d : Nat} {y : SgY} {pc : Nat} {L : SgL} {S : SgS} {G : SgM} {Q Q' : Int → SgM → Prop} (h : sg_Wp lo N d y pc L S G Q) (hq : ∀ v G', Q v G' → Q' v G') : sg_Wp lo N d y pc L S G Q' := by
  intro p l e R s m args below meth c D cy a H locs ls hC hH T hT X
  obtain ⟨t, h1, o, h2, h3, ⟨⟨v, G', g1, g2, g3, g4⟩, hF⟩, h5⟩ := h p l e R s m args below meth c D cy a H locs ls hC hH T hT X
  exact ⟨t, h1, o, h2, h3, ⟨⟨v, G', g1, g2, hq v G' g3, g4⟩, hF⟩, h5⟩
theorem sg_Wp.deep {lo N d d' : Nat} {y : SgY} {pc : Nat} {L : SgL} {S : SgS} {G : SgM} {Q : Int → SgM → Prop} (h : sg_Wp lo N d y pc L S G Q) (hd : d ≤ d') : sg_Wp lo N d' y pc L S G Q := by
  intro p l e R s m args below meth c D cy a H locs ls hC hH
  obtain ⟨c1, c2, c3, c4, c5, c6, c7, c8, c9, c10⟩ := hC
  exact h p l e R s m args below meth c D cy a H locs ls ⟨c1, c2, c3, c4, c5, c6, c7, Nat.le_trans hd c8, Nat.le_trans (Nat.mul_le_mul_left 34 hd) c9, c10⟩ hH
/-- fewer locals are known -/
theorem sg_Wp.keep {lo N d : Nat} {y : SgY} {pc : Nat} {L L' : SgL} {S : SgS} {G : SgM} {Q : Int → SgM → Prop} (h : sg_Wp lo N d y pc L' S G Q) (hl : ∀ q ∈ L', q ∈ L) : sg_Wp lo N d y pc L S G Q := by
  intro p l e R s m args below meth c D cy a H locs ls hC hH
  obtain ⟨h1, h2, h3, h4, h5, h6, h7⟩ := hH
  refine h p l e R s m args below meth c D cy a H locs ls hC ⟨h1, h2, h3, h4, ⟨h5.1, h5.2.1, fun q hq => ?_⟩, fun q hq => h6 q (hl q hq), h7⟩
  obtain ⟨x, hx, rfl⟩ := List.mem_map.mp hq
  exact h5.2.2 _ (List.mem_map.mpr ⟨x, hl x hx, rfl⟩)
