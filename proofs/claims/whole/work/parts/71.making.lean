/-! MAKING: the walk of a constructor; its own object stands first in its world -/
def sk_nl : List (Nat × Nat × MethodName) := [(4, 25, yX8_init), (4, 32, yX2_init), (4, 39, yX9_init), (0, 11, yX2_init)]
/-- what the tables say of makings besides the good words -/
def sk_U (U : State) : Prop := va_AOA .int U ∧ ∀ q ∈ sk_nl, va_Nw (.methodLinkNest (sg_cn q.1) q.2.1 q.2.2 "SneezeGuard") U
theorem sk_U.same {u U : State} (hv : u.vm = U.vm) (h : sk_U u) : sk_U U := ⟨over_moved (by rw [hv]; exact Vm.Alike.refl U.vm) h.1, fun q hq => va_Nw.same rfl hv (h.2 q hq)⟩
theorem sk_U.warm {s U : State} (hW : s.WarmedH U.vm) (h : sk_U s) : sk_U U := ⟨over_moved hW.alike h.1, fun q hq => (h.2 q hq).warmM hW⟩
def sk_S (y : SgY) (D : va_G) (cy : SgC) (a : SgA) (A : Nat → Prop) (p : Program) (s : State) (m : MethodId) (args : Array Value) (meth : Method) (c : Code) : Prop :=
  (p.tables.exec = Jvm.exec ∧ c.code = y.2.2.1 ∧ c.maxLocals = y.2.2.2.1 ∧ meth.sig.returnType = y.2.2.2.2 ∧ meth.locks = false ∧ s.vm.findClass (sg_cn y.1) = some m.cls ∧ (∀ w ∈ sg_GT, w.before args s = true)) ∧ va_K D vwCl (sg_tys cy) s ∧ sk_U s ∧ sg_X a A s s.heap ∧ ∀ q, s.heap.size ≤ q → A q
def sk_H (D : va_G) (s : State) (A : Nat → Prop) (ws : va_W) (H : Heap) (locs : List Loc) : Prop := va_P D vwCl ws H ∧ va_D A ws ∧ va_S A s.heap H locs
def sk_Pc (D : va_G) (cy : SgC) (a : SgA) (As : List Value) (b : Nat) (e : va_E) (sz : Nat) : Array Value → State → Prop := va_Pc (.ref b :: As) (fun U => U.heap.size = sz ∧ va_P D vwCl [(b, e)] U.heap ∧ va_D (va_A [(b, e)] sz) [(b, e)] ∧ va_K D vwCl (sg_tys cy) U ∧ sk_U U ∧ sg_X a (va_A [(b, e)] sz) U U.heap)
def sk_Qc (D : va_G) (b : Nat) (e : va_E) (sz : Nat) (W1 : va_W → Prop) : Array Value → State → Outcome → State → Prop := fun _ st oc t => (oc = .returned none ∧ ∃ w1, W1 w1 ∧ va_P D vwCl w1 t.heap ∧ va_D (va_A [(b, e)] sz) w1) ∧ va_F (va_A [(b, e)] sz) st t
theorem sk_Pc_blind {D : va_G} {cy : SgC} {a : SgA} {As : List Value} {b : Nat} {e : va_E} {sz : Nat} : FrameBlind (sk_Pc D cy a As b e sz) := by
  intro z U g mk h
  obtain ⟨h0, h1, h2, h3, h4, h5, h6⟩ := h
  exact ⟨h0, h1, h2, h3, va_K.moved (u := U) (U := U.calling g mk z) (Vm.Alike.refl U.vm) h4, sk_U.same (u := U) (U := U.calling g mk z) rfl h5, sg_X.same (u := U) (U := U.calling g mk z) rfl h6⟩
def sk_rm (f c n : Nat) : Room := { frames := f, cells := c, slots := n, locals := 34 * f }
/-- a constructor's contract out of its walk -/
theorem sk_met {y : SgY} (hcn : y.2.1.cls = sg_cn y.1) (hpl : plainName y.2.1.cls = true) (hnm : y.2.1.name = "<init>") {As : List Value} (hsz : (lg_sl As).length + 1 ≤ y.2.2.2.1) (l : Launch) (D : va_G) (cy : SgC) (a : SgA) (b : Nat) (e0 : va_E) (sz f mc ms : Nat) (W1 : va_W → Prop)
    (body : ∀ (p : Program) (e : Env) (s : State) (m : MethodId) (args : Array Value) (below : List Frame) (meth : Method) (c : Code) (ls : Array Slot), sz = s.heap.size → meth.name = "<init>" → sk_S y D cy a (va_A [(b, e0)] sz) p s m args meth c → sk_H D s (va_A [(b, e0)] sz) [(b, e0)] s.heap [] → lv_has ls y.2.2.2.1 (lv_args 0 (.ref b :: As)) →
      W p l e (sk_rm f mc ms) s m args below meth c s.heap [] 0 0 (MQ below (sk_Qc D b e0 sz W1) args s mc ms (va_A [(b, e0)] sz)) (F0 m 0 ls [])) :
    Met l y.2.1 (sg_ws y) (sk_rm f mc ms) (sk_Pc D cy a As b e0 sz) (sk_Qc D b e0 sz W1) mc ms (va_A [(b, e0)] sz) := by
  refine Met.ofW (cc := y.2.2.1) (maxL := y.2.2.2.1) (ret := y.2.2.2.2) hpl rfl ?_
  intro p e s m args below meth c s₁ B hml hv
  obtain ⟨rfl, h1, hP, hD, hK, hU, hX⟩ := hv
  have hts := atoms_spec (ws := sg_ws y) B.pre
  have hown : s.vm.findClass (sg_cn y.1) = some m.cls := by rw [← hcn]; exact findClass_of_methodNamed B.named
  have hin : meth.name = "<init>" := by rw [← hnm]; exact (name_of_methodNamed B.named B.method).1
  have hl := lv_entry (.ref b :: As) (n := y.2.2.2.1) (by
    have : lg_sl (Value.ref b :: As) = [Slot.val (.ref b)] ++ lg_sl As := rfl
    rw [this, List.length_append]
    show 1 + _ ≤ _
    omega)
  rw [lg_entry_eq]
  generalize (lg_sl (Value.ref b :: As) ++ List.replicate (y.2.2.2.1 - (lg_sl (Value.ref b :: As)).length) Slot.unset).toArray = ls at hl ⊢
  exact body p e s m _ below meth c ls h1.symm hin ⟨⟨B.exec, B.bytes, hml, B.returns, B.notSynchronized, hown, fun w hw => hts w (List.mem_cons_of_mem _ hw)⟩, hK, hU, hX, fun q hq => Or.inr (by omega)⟩ ⟨hP, hD, va_S.rf⟩ hl
section SkU
variable {y : SgY} {D : va_G} {cy : SgC} {a : SgA} {A : Nat → Prop} {p : Program} {l : Launch} {e : Env} {R : Room} {s : State} {m : MethodId} {args : Array Value} {below : List Frame} {meth : Method} {c : Code} {H : Heap} {locs : List Loc} {cells slots : Nat} {Q : State → Prop} {pc : Nat} {ls : Array Slot} {rest : List Value} {ws tl : va_W} {b : Nat} {ci : Nat} {fs : List Value}
/-- a constructor's end -/
theorem sk_end {e0 : va_E} {sz mc ms : Nat} {W1 : va_W → Prop} (hS : sk_S y D cy a (va_A [(b, e0)] sz) p s m args meth c) (hr : y.2.2.2.2 = none) (hH : sk_H D s (va_A [(b, e0)] sz) ws H locs) (hw : W1 ws) (hk : cells ≤ mc) (hn : slots ≤ ms) (hd : decode y.2.2.1 pc = .ok (.return_, 1)) :
    W p l e R s m args below meth c H locs cells slots (MQ below (sk_Qc D b e0 sz W1) args s mc ms (va_A [(b, e0)] sz)) (F0 m pc ls []) := by
  refine W.widen (k := mc) (n := ms) hk hn ?_
  exact W.vret hS.1.1 hS.1.2.1 (hS.1.2.2.2.1.trans hr) (fun t ht _ => ⟨⟨rfl, ws, hw, by rw [ht]; exact hH.1, hH.2.1⟩, hH.2.2.F ht⟩) (fun q h => hH.2.2.2.2 q h) hd hS.1.2.2.2.2.1
theorem sk_obj {i : Nat} (hS : sk_S y D cy a A p s m args meth c) (hm : Cond.methodLink (sg_cn y.1) i objectInit ∈ sg_GT) (hsz : ls.size = y.2.2.2.1) {x : Nat} (hd : decode y.2.2.1 pc = .ok (.invokespecial i, 3)) (hR : R.frames ≥ 1 ∧ R.locals ≥ 20) (hrest : rest = [])
    (k : W p l e R s m args below meth c H locs cells slots Q (F0 m (pc + 3) ls rest)) : W p l e R s m args below meth c H locs cells slots Q (F0 m pc ls (.ref x :: rest)) := by
  subst hrest
  refine W.objInit hS.1.1 hS.1.2.1 hS.1.2.2.2.2.2.1 (hS.1.2.2.2.2.2.2 _ hm) (hS.1.2.2.2.2.2.2 (.instanceMethod objectInit) (sg_inGT (List.mem_of_getElem? (i := 28) (by decide +kernel)) rfl)) (hS.1.2.2.2.2.2.2 (.code objectInit ⟨#[0xb1]⟩ 1 none) (sg_inGT (List.mem_of_getElem? (i := 29) (by decide +kernel)) rfl)) rfl (by rw [hS.1.2.2.1]; exact hsz) rfl hd (by omega) (by
    have e1 : (F0 m pc ls [Value.ref x]).monitorRoom = 0 := rfl
    have e2 : (List.map (fun v : Value => v.category) ([] : List Value)).sum = 0 := rfl
    omega) ?_
  exact k
theorem sk_arr {ty : FieldType} {k k2 : Nat} {cA c0 : ClassId} {cl : List vw_C} {tys : List (ClassId × FieldType)} {U : State} (hne : ∀ C, ty ≠ .object C) (h : va_K D cl tys U) (h1 : tys[k]? = some (cA, ty)) (h2 : tys[k2]? = some (c0, ty)) : cA = c0 := by
  have a1 := (h.2 k _ h1).2
  have a2 := (h.2 k2 _ h2).2
  cases ty with
  | object C => exact absurd rfl (hne C)
  | _ =>
    have b1 : U.vm.findClass _ = some cA := a1
    have b2 : U.vm.findClass _ = some c0 := a2
    exact Option.some.inj (b1.symm.trans b2)
/-- new int[n] -/
theorem sk_newI (hS : sk_S y D cy a A p s m args meth c) (hH : sk_H D s A ws H locs) {n : Int32} {N : Nat} (hn : ¬ n < 0) (hN : n.toNatClampNeg = N) (hb : N ≤ 100000) (hcells : cells + 1 ≤ R.cells) (hslots : slots + N ≤ R.slots) (hd : decode y.2.2.1 pc = .ok (.newarray .int, 2))
    (kk : ∀ (q : Nat) (H1 : Heap), sk_H D s A (ws ++ [(q, .inl (cy.1, N, .inl (fun _ => Int32.ofInt 0)))]) H1 locs → W p l e R s m args below meth c H1 locs (cells + 1) (slots + N) Q (F0 m (pc + 2) ls (.ref q :: rest))) : W p l e R s m args below meth c H locs cells slots Q (F0 m pc ls (.int n :: rest)) := by
  refine va_newa (atype := .int) (ty := .int) (a0 := (N, .inl (fun _ => Int32.ofInt 0))) hS.1.1 hS.1.2.1 (hS.1.2.2.2.2.2.2 (.arrayClass .int) (sg_inGT (List.mem_of_getElem? (i := 56) (by decide +kernel)) rfl)) rfl hS.2.1 hH.1 hH.2.1 hH.2.2 hS.2.2.2.2 (fun _ => vp_cell_i _ _ _) hn hN (by show N * 4 ≤ _; omega) hcells hslots hd (fun q cA H1 hK1 hP hD hS1 => ?_)
  have e : cA = cy.1 := sk_arr (ty := .int) (k := 4) (k2 := 0) (fun C h => by cases h) hK1 rfl rfl
  subst e
  exact kk q H1 ⟨hP, hD, hS1⟩
theorem sk_newB (hS : sk_S y D cy a A p s m args meth c) (hH : sk_H D s A ws H locs) {n : Int32} {N : Nat} (hn : ¬ n < 0) (hN : n.toNatClampNeg = N) (hb : N ≤ 100000) (hcells : cells + 1 ≤ R.cells) (hslots : slots + N ≤ R.slots) (hd : decode y.2.2.1 pc = .ok (.newarray .boolean, 2))
    (kk : ∀ (q : Nat) (H1 : Heap), sk_H D s A (ws ++ [(q, .inl (cy.2.1, N, .inl (fun _ => Int32.ofInt 0)))]) H1 locs → W p l e R s m args below meth c H1 locs (cells + 1) (slots + N) Q (F0 m (pc + 2) ls (.ref q :: rest))) : W p l e R s m args below meth c H locs cells slots Q (F0 m pc ls (.int n :: rest)) := by
  refine va_newa (atype := .boolean) (ty := .boolean) (a0 := (N, .inl (fun _ => Int32.ofInt 0))) hS.1.1 hS.1.2.1 (hS.1.2.2.2.2.2.2 (.arrayClass .boolean) (sg_inGT (List.mem_of_getElem? (i := 159) (by decide +kernel)) rfl)) rfl hS.2.1 hH.1 hH.2.1 hH.2.2 hS.2.2.2.2 (fun _ => vp_cell_i _ _ _) hn hN (by show N * 1 ≤ _; omega) hcells hslots hd (fun q cA H1 hK1 hP hD hS1 => ?_)
  have e : cA = cy.2.1 := sk_arr (ty := .boolean) (k := 4) (k2 := 1) (fun C h => by cases h) hK1 rfl rfl
  subst e
  exact kk q H1 ⟨hP, hD, hS1⟩
theorem sk_newJ (hS : sk_S y D cy a A p s m args meth c) (hH : sk_H D s A ws H locs) {n : Int32} {N : Nat} (hn : ¬ n < 0) (hN : n.toNatClampNeg = N) (hb : N ≤ 100000) (hcells : cells + 1 ≤ R.cells) (hslots : slots + N ≤ R.slots) (hd : decode y.2.2.1 pc = .ok (.newarray .long, 2))
    (kk : ∀ (q : Nat) (H1 : Heap), sk_H D s A (ws ++ [(q, .inl (cy.2.2.1, N, .inr (.inl (fun _ => Int64.ofInt 0))))]) H1 locs → W p l e R s m args below meth c H1 locs (cells + 1) (slots + N) Q (F0 m (pc + 2) ls (.ref q :: rest))) : W p l e R s m args below meth c H locs cells slots Q (F0 m pc ls (.int n :: rest)) := by
  refine va_newa (atype := .long) (ty := .long) (a0 := (N, .inr (.inl (fun _ => Int64.ofInt 0)))) hS.1.1 hS.1.2.1 (hS.1.2.2.2.2.2.2 (.arrayClass .long) (sg_inGT (List.mem_of_getElem? (i := 559) (by decide +kernel)) rfl)) rfl hS.2.1 hH.1 hH.2.1 hH.2.2 hS.2.2.2.2 (fun _ => vp_cell_l _ _ _) hn hN (by show N * 8 ≤ _; omega) hcells hslots hd (fun q cA H1 hK1 hP hD hS1 => ?_)
  have e : cA = cy.2.2.1 := sk_arr (ty := .long) (k := 4) (k2 := 2) (fun C h => by cases h) hK1 rfl rfl
  subst e
  exact kk q H1 ⟨hP, hD, hS1⟩
/-- a final field of the object that is made -/
def sk_PF (own idx ci k : Nat) (ty : FieldType) : Prop := ∃ (C : String) (T : u_T) (N : Nat) (ty0 : Nat → FieldType), vwCl[ci]? = some (C, T, N) ∧ (∀ k, k < N → parseFieldDescriptor (T k).2.2.1 = some (ty0 k)) ∧ (∀ a, a < N → ∀ b, b < N → a ≠ b → (T a).2.1 ≠ (T b).2.1) ∧ k < N ∧ (∀ w ∈ u_ws C T N, w ∈ sg_GT) ∧ Cond.fieldLink (sg_cn own) idx (T k).1 (T k).2.1 (T k).2.2.1 ∈ sg_GT ∧ (T k).2.2.2 = true ∧ (T k).1 = sg_cn own ∧ parseFieldDescriptor (T k).2.2.1 = some ty
theorem sk_put (hS : sk_S y D cy a A p s m args meth c) (hin : meth.name = "<init>") (hH : sk_H D s A ((b, .inr (ci, fs)) :: tl) H locs) {idx k : Nat} {ty : FieldType} {v : Value} (hF : sk_PF y.1 idx ci k ty) (hn : narrow ty v = v) (hfit : fits ty v = true) (hl : k < fs.length) (hd : decode y.2.2.1 pc = .ok (.putfield idx, 3))
    (kk : ∀ (H1 : Heap) (locs1 : List Loc), sk_H D s A ((b, .inr (ci, fs.set k v)) :: tl) H1 locs1 → W p l e R s m args below meth c H1 locs1 cells slots Q (F0 m (pc + 3) ls rest)) : W p l e R s m args below meth c H locs cells slots Q (F0 m pc ls (v :: .ref b :: rest)) := by
  obtain ⟨C, T, N, ty0, h1, h2, h3, h4, h5, h6, h7, h8, h9⟩ := hF
  exact va_putF hS.1.1 hS.1.2.1 hS.1.2.2.2.2.2.2 h5 ty0 h2 h3 hS.1.2.2.2.2.2.1 hS.2.1 hH.1 hH.2.1 hH.2.2 0 rfl h1 k h4 (hS.1.2.2.2.2.2.2 _ h6) (fun _ h => h) h7 hin h8 h9 hn hfit hl hd (fun H1 locs1 hP hD hS1 => kk H1 locs1 ⟨hP, hD, hS1⟩)
theorem sk_get (hS : sk_S y D cy a A p s m args meth c) (hH : sk_H D s A ((b, .inr (ci, fs)) :: tl) H locs) {idx k : Nat} {x : Nat} (hF : sg_FL y.1 idx ci k) (hv : fs[k]? = some (.ref x)) (hd : decode y.2.2.1 pc = .ok (.getfield idx, 3))
    (kk : W p l e R s m args below meth c H locs cells slots Q (F0 m (pc + 3) ls (.ref x :: rest))) : W p l e R s m args below meth c H locs cells slots Q (F0 m pc ls (.ref b :: rest)) := by
  obtain ⟨C, T, N, h1, h2, h3, h4, h5⟩ := hF
  exact va_get hS.1.1 hS.1.2.1 hS.1.2.2.2.2.2.2 h4 hS.1.2.2.2.2.2.1 hS.2.1 hH.1 0 rfl h1 k h3 (hS.1.2.2.2.2.2.2 _ h5) (fun _ h => h) hv hd kk
/-- new C -/
theorem sk_new (hS : sk_S y D cy a A p s m args meth c) (hH : sk_H D s A ws H locs) {idx ci' N : Nat} {C : String} {T : u_T} {ty0 : Nat → FieldType} {fs' : List Value} (h1 : vwCl[ci']? = some (C, T, N)) (h2 : ∀ k, k < N → parseFieldDescriptor (T k).2.2.1 = some (ty0 k)) (h3 : ∀ w ∈ u_ws C T N, w ∈ sg_GT) (h4 : Cond.classLink (sg_cn y.1) idx C ∈ sg_GT) (h5 : Cond.instantiable C N ∈ sg_GT) (h6 : Cond.initialized C ∈ sg_GT) (hfs : ∀ j, j < N → defaultValue (ty0 j) = vp_V fs' j) (hcells : cells + 1 ≤ R.cells) (hslots : slots + N ≤ R.slots) (hd : decode y.2.2.1 pc = .ok (.new idx, 3))
    (kk : ∀ (q : Nat) (H1 : Heap), sk_H D s A (ws ++ [(q, .inr (ci', fs'))]) H1 locs → W p l e R s m args below meth c H1 locs (cells + 1) (slots + N) Q (F0 m (pc + 3) ls (.ref q :: rest))) : W p l e R s m args below meth c H locs cells slots Q (F0 m pc ls rest) :=
  va_new hS.1.1 hS.1.2.1 hS.1.2.2.2.2.2.2 h3 ty0 h2 hS.1.2.2.2.2.2.1 (hS.1.2.2.2.2.2.2 _ h4) (hS.1.2.2.2.2.2.2 _ h5) (hS.1.2.2.2.2.2.2 _ h6) hS.2.1 hH.1 hH.2.1 hH.2.2 hS.2.2.2.2 h1 hfs hcells hslots hd (fun q H1 hP hD hS1 => kk q H1 ⟨hP, hD, hS1⟩)
/-- behind the call of a constructor on the object made last -/
theorem sk_back {e0 : va_E} {mc ms : Nat} {W1 : va_W → Prop} {st0 : List Value} {aa : Array Value} (hr : va_Run p l e R s m args below meth c H locs cells slots mc ms (F0 m pc ls st0) rest (sk_Qc D b e0 H.size W1 aa) (va_A [(b, e0)] H.size)) (hS : sk_S y D cy a A p s m args meth c) (hH : sk_H D s A (ws ++ [(b, e0)]) H locs)
    (kk : ∀ (w1 : va_W) (H1 : Heap) (locs1 : List Loc), W1 w1 → sk_H D s A (ws ++ w1) H1 locs1 → W p l e R s m args below meth c H1 locs1 (cells + mc) (slots + ms) Q (F0 m (pc + 3) ls rest)) : W p l e R s m args below meth c H locs cells slots Q (F0 m pc ls st0) := by
  intro T hT X
  obtain ⟨v, st₀, t, T', L, h0, X', hL, e1, e2, ⟨⟨hv, w1, hw, hP1, hD1⟩, hz, hk⟩, st⟩ := hr T hT X
  cases hv
  rw [h0] at hz hk
  rw [← e1] at hP1 hz
  have hk : ∀ q : Nat, q < H.size → ¬ va_A [(b, e0)] H.size q → T'.heap[q]? = H[q]? := fun q h1 h2 => by rw [e1]; exact hk q h1 h2
  have hbl : (ws ++ [(b, e0)])[ws.length]? = some (b, e0) := by rw [List.getElem?_append_right (Nat.le_refl _), Nat.sub_self]; rfl
  have hAb : ∀ q, va_A [(b, e0)] H.size q → A q := fun q h => by
    rcases h with ⟨k, e9, h⟩ | h
    · have k0 : k < 1 := (List.getElem?_eq_some_iff.mp h).1
      rw [show k = 0 by omega] at h
      cases h
      exact hH.2.1.2 _ _ hbl
    · exact hS.2.2.2.2 q (Nat.le_trans hH.2.2.1 h)
  have apart : ∀ (k : Nat) (q : Nat × va_E), ws[k]? = some q → q.1 < H.size ∧ ¬ va_A [(b, e0)] H.size q.1 := fun k q hq => by
    have hkl := (List.getElem?_eq_some_iff.mp hq).1
    have hq' : (ws ++ [(b, e0)])[k]? = some q := by rw [List.getElem?_append_left hkl]; exact hq
    have hlt := (hH.1 k q hq').lt
    refine ⟨hlt, fun h => ?_⟩
    rcases h with ⟨k2, e9, h⟩ | h
    · have k0 : k2 < 1 := (List.getElem?_eq_some_iff.mp h).1
      rw [show k2 = 0 by omega] at h
      have hb : b = q.1 := congrArg Prod.fst (Option.some.inj h)
      have := hH.2.1.1 k ws.length q (b, e0) hq' hbl hb.symm
      omega
    · omega
  have hPw : va_P D vwCl ws H := fun k q hq => hH.1 k q (by rw [List.getElem?_append_left (List.getElem?_eq_some_iff.mp hq).1]; exact hq)
  have hDw : va_D A ws := ⟨fun i j x z hi hj hxy => hH.2.1.1 i j x z (by rw [List.getElem?_append_left (List.getElem?_eq_some_iff.mp hi).1]; exact hi) (by rw [List.getElem?_append_left (List.getElem?_eq_some_iff.mp hj).1]; exact hj) hxy, fun k q hq => hH.2.1.2 k q (by rw [List.getElem?_append_left (List.getElem?_eq_some_iff.mp hq).1]; exact hq)⟩
  have hP2 : va_P D vwCl (ws ++ w1) T'.heap := (hPw.kept (fun k q hq => hk q.1 (apart k q hq).1 (apart k q hq).2)).app hP1
  have hD2 : va_D A (ws ++ w1) := va_D.app hDw (hD1.weaken (fun k q _ h => hAb q.1 h)) (fun i j x z hi hj hxy => (apart i x hi).2 (by rw [hxy]; exact hD1.2 j z hj))
  obtain ⟨t2, a1, b1⟩ := kk w1 T'.heap (locs ++ L) hw ⟨hP2, hD2, Nat.le_trans hH.2.2.1 hz, fun q h1 h2 => by rw [hk q (Nat.lt_of_lt_of_le h1 hH.2.2.1) (fun h => h2 (hAb q h))]; exact hH.2.2.2.1 q h1 h2, fun q hq => by
      rcases List.mem_append.mp hq with h | h
      · exact hH.2.2.2.2 q h
      · exact hAb _ (hL q h)⟩ T' rfl X'
  exact ⟨t2, st t2 a1, b1⟩
theorem sk_pre (hS : sk_S y D cy a A p s m args meth c) {e0 : va_E} (hH : sk_H D s A (ws ++ [(b, e0)]) H locs) {As : List Value} (U : State) (hU : U.heap = H) (hW : s.WarmedH U.vm) : sk_Pc D cy a As b e0 H.size (.ref b :: As).toArray U := by
  have hbl : (ws ++ [(b, e0)])[ws.length]? = some (b, e0) := by rw [List.getElem?_append_right (Nat.le_refl _), Nat.sub_self]; rfl
  have one : ∀ (k : Nat) (q : Nat × va_E), [(b, e0)][k]? = some q → k = 0 ∧ q = (b, e0) := fun k q h => by
    have k0 : k < 1 := (List.getElem?_eq_some_iff.mp h).1
    have k1 : k = 0 := by omega
    subst k1
    exact ⟨rfl, (Option.some.inj h).symm⟩
  have hAb : ∀ q, va_A [(b, e0)] H.size q → A q := fun q h => by
    rcases h with ⟨k, e9, h⟩ | h
    · obtain ⟨_, h2⟩ := one k _ h
      have : q = b := congrArg Prod.fst h2
      subst this
      exact hH.2.1.2 _ _ hbl
    · exact hS.2.2.2.2 q (Nat.le_trans hH.2.2.1 h)
  refine ⟨rfl, by rw [hU], ?_, ⟨fun i j x z hi hj _ => by rw [(one i x hi).1, (one j z hj).1], fun k q hq => Or.inl ⟨k, q.2, hq⟩⟩, va_K.moved hW.alike hS.2.1, hS.2.2.1.warm hW, ?_⟩
  · rw [hU]
    intro k q hq
    obtain ⟨_, h2⟩ := one k q hq
    subst h2
    exact hH.1 _ _ hbl
  · rw [hU]
    exact ((hS.2.2.2.1.kept (fun q h1 h2 => hH.2.2.2.1 q h1 h2)).narrow hAb).warm hW
/-- what the call of a constructor rests on -/
def sk_CI (y' : SgY) (n : Nat) : Prop := Cond.code y'.2.1 y'.2.2.1 y'.2.2.2.1 none ∈ sg_GT ∧ y'.2.2.2.2 = none ∧ Cond.initialized y'.2.1.cls ∈ sg_GT ∧ Cond.instanceMethod y'.2.1 ∈ sg_GT ∧ y'.2.1.name = "<init>" ∧ (y'.2.1.cls ≠ "java/lang/invoke/MethodHandle" ∧ y'.2.1.cls ≠ "java/lang/invoke/VarHandle" ∧ (parseMethodDescriptor y'.2.1.desc).map (fun d => d.parameters.length) = some n) ∧ y'.2.2.2.1 ≤ 15
theorem sk_good {y' : SgY} {n : Nat} (h : sk_CI y' n) : GoodIn sg_GT (sg_ws y') := sg_goodL (fun w hw => by
  rcases List.mem_cons.mp hw with h2 | h2
  · rw [h2, h.2.1]; exact h.1
  · exact h2)
theorem sk_init {y' : SgY} {e0 : va_E} {n f mc ms idx : Nat} {As : List Value} {W1 : va_W → Prop} (hS : sk_S y D cy a A p s m args meth c) (hH : sk_H D s A (ws ++ [(b, e0)]) H locs) (hy : sk_CI y' n) (hm : Cond.methodLink (sg_cn y.1) idx y'.2.1 ∈ sg_GT) (hn : As.length = n) (hM : Met l y'.2.1 (sg_ws y') (sk_rm f mc ms) (sk_Pc D cy a As b e0 H.size) (sk_Qc D b e0 H.size W1) mc ms (va_A [(b, e0)] H.size)) (hR : f + 1 ≤ R.frames ∧ 34 * f + 34 ≤ R.locals) (hc : cells + mc ≤ R.cells ∧ slots + ms ≤ R.slots) (hsz : ls.size = y.2.2.2.1) (hrest : (rest.map fun v => v.category).sum ≤ 8) (hd : decode y.2.2.1 pc = .ok (.invokespecial idx, 3))
    (kk : ∀ (w1 : va_W) (H1 : Heap) (locs1 : List Loc), W1 w1 → sk_H D s A (ws ++ w1) H1 locs1 → W p l e R s m args below meth c H1 locs1 (cells + mc) (slots + ms) Q (F0 m (pc + 3) ls rest)) : W p l e R s m args below meth c H locs cells slots Q (F0 m pc ls (As.reverse ++ .ref b :: rest)) := by
  have hts := hS.1.2.2.2.2.2.2
  have hmx := hy.2.2.2.2.2.2
  refine sk_back (va_runI (As := As) (rest := rest) ⟨hS.1.1, hS.1.2.1, hS.1.2.2.1, hS.1.2.2.2.2.2.1, hts⟩ hM (cwI n hts (sk_good hy) (by unfold sg_ws; rw [hy.2.1]) rfl rfl (hts _ hy.2.2.1) (hts _ hm) (hts _ hy.2.2.2.1) hy.2.2.2.2.1 hy.2.2.2.2.2.1 ⟨hR.1, ?_⟩) ⟨sk_Pc_blind, fun U hU hW => sk_pre hS hH U hU hW⟩ rfl hn hsz rfl (lv_room hrest) hd hc) hS hH kk
  show 8 + (y'.2.2.2.1 + 11) + 34 * f ≤ R.locals
  omega
theorem sk_initN {y' : SgY} {e0 : va_E} {n f mc ms idx : Nat} {As : List Value} {W1 : va_W → Prop} (hS : sk_S y D cy a A p s m args meth c) (hH : sk_H D s A (ws ++ [(b, e0)]) H locs) (hy : sk_CI y' n) (hm : (y.1, idx, y'.2.1) ∈ sk_nl) (hn : As.length = n) (hM : Met l y'.2.1 (sg_ws y') (sk_rm f mc ms) (sk_Pc D cy a As b e0 H.size) (sk_Qc D b e0 H.size W1) mc ms (va_A [(b, e0)] H.size)) (hR : f + 1 ≤ R.frames ∧ 34 * f + 34 ≤ R.locals) (hc : cells + mc ≤ R.cells ∧ slots + ms ≤ R.slots) (hsz : ls.size = y.2.2.2.1) (hrest : (rest.map fun v => v.category).sum ≤ 8) (hd : decode y.2.2.1 pc = .ok (.invokespecial idx, 3))
    (kk : ∀ (w1 : va_W) (H1 : Heap) (locs1 : List Loc), W1 w1 → sk_H D s A (ws ++ w1) H1 locs1 → W p l e R s m args below meth c H1 locs1 (cells + mc) (slots + ms) Q (F0 m (pc + 3) ls rest)) : W p l e R s m args below meth c H locs cells slots Q (F0 m pc ls (As.reverse ++ .ref b :: rest)) := by
  have hts := hS.1.2.2.2.2.2.2
  have hmx := hy.2.2.2.2.2.2
  have hl : va_Nw (.methodLinkNest (sg_cn y.1) idx y'.2.1 "SneezeGuard") s := hS.2.2.1.2 (y.1, idx, y'.2.1) hm
  have cw : va_CN R s args (sg_cn y.1) idx y'.2.1 "SneezeGuard" y'.2.2.1 y'.2.2.2.1 none (sg_ws y') (sk_rm f mc ms) mc ms n := va_cnB (ws' := sg_GT) n hts (sk_good hy) (by unfold sg_ws; rw [hy.2.1]) rfl rfl hl (hts _ hy.2.2.1) hy.2.2.2.2.2.1 ⟨hR.1, (by
    show 8 + (y'.2.2.2.1 + 11) + 34 * f ≤ R.locals
    omega)⟩
  exact sk_back (va_runIN (As := As) (rest := rest) ⟨hS.1.1, hS.1.2.1, hS.1.2.2.1, hS.1.2.2.2.2.2.1, hts⟩ hM ⟨cw, hy.2.2.2.2.1, hts _ hy.2.2.2.1⟩ ⟨sk_Pc_blind, fun U hU hW => sk_pre hS hH U hU hW⟩ rfl hn hsz rfl (lv_room hrest) hd hc) hS hH kk
end SkU
