/-! MAKING: rows of rows; calls of what is told in cells, from any frame -/
section SkV
variable {y : SgY} {D : va_G} {cy : SgC} {a : SgA} {A : Nat → Prop} {p : Program} {l : Launch} {e : Env} {R : Room} {s : State} {m : MethodId} {args : Array Value} {below : List Frame} {meth : Method} {c : Code} {H : Heap} {locs : List Loc} {cells slots : Nat} {Q : State → Prop} {pc : Nat} {ls : Array Slot} {rest : List Value} {ws tl : va_W} {lo N : Nat} {G : SgM} {cc : ByteArray} {nL own : Nat}
theorem sk_mna (hS : sk_S y D cy a A p s m args meth c) (hH : sk_H D s A ws H locs) {n k : Int32} {N' K' idx : Nat} (hcl : Cond.classLink (sg_cn y.1) idx "[[I" ∈ sg_GT) (hn : ¬ n < 0) (hk : ¬ k < 0) (hN : n.toNatClampNeg = N') (hM : k.toNatClampNeg = K') (hb1 : N' ≤ 1000) (hb2 : K' ≤ 1000) (hcells : cells + (1 + N') ≤ R.cells) (hslots : slots + (N' + N' * K') ≤ R.slots) (hd : decode y.2.2.1 pc = .ok (.multianewarray idx 2, 4))
    (kk : ∀ (q : Nat) (r : Nat → Nat) (H1 : Heap), sk_H D s A (ws ++ ((q, .inl (cy.2.2.2, N', .inr (.inr (.inr (.inr (fun i => if i < N' then some (r i) else none)))))) :: (List.range N').map (fun i => (r i, .inl (cy.1, K', .inl (fun _ => Int32.ofInt 0)))))) H1 locs →
      W p l e R s m args below meth c H1 locs (cells + 1 + N') (slots + N' + N' * K') Q (F0 m (pc + 4) ls (.ref q :: rest))) : W p l e R s m args below meth c H locs cells slots Q (F0 m pc ls (.int k :: .int n :: rest)) := by
  have hw : ws ++ va_pl [] (fun _ => .inl (cy.1, K', .inl (fun _ => Int32.ofInt 0))) = ws := List.append_nil ws
  refine va_mna (X := ws) (L := []) (f := fun _ => .inl (cy.1, K', .inl (fun _ => Int32.ofInt 0))) (ty := .int) (cy := cy.1) (z := (K', .inl (fun _ => Int32.ofInt 0))) hS.1.1 hS.1.2.1 hS.1.2.2.2.2.2.1 (hS.1.2.2.2.2.2.2 _ hcl) hS.2.2.1.1 (hS.1.2.2.2.2.2.2 (.arrayClass .int) (sg_inGT (List.mem_of_getElem? (i := 56) (by decide +kernel)) rfl)) (hS.2.1.2 0 _ rfl).2 hS.2.1 (by rw [hw]; exact hH.1) (by rw [hw]; exact hH.2.1) hH.2.2 hS.2.2.2.2 hn hk hN hM (by omega) (by show K' * 4 ≤ _; omega) (by omega) rfl rfl hcells hslots (fun cA => ?_) hd (fun q r cA H1 hr _ hK1 hP hD hS1 => ?_)
  · show ({ cls := cA, slots := Array.replicate K' (.int 0), vm := .none } : Cell) = _
    rw [arrV_new]
    rfl
  · have e : cA = cy.2.2.2 := sk_arr (ty := .array .int) (k := 4) (k2 := 3) (fun C h => by cases h) hK1 rfl rfl
    subst e
    have ep : va_pl ([] ++ (List.range N').map r) (vr_up (fun _ => .inl (cy.1, K', .inl (fun _ => Int32.ofInt 0))) ((List.range N').map r) (.inl (cy.1, (K', .inl (fun _ => Int32.ofInt 0))))) = (List.range N').map (fun i => ((r i, .inl (cy.1, K', .inl (fun _ => Int32.ofInt 0))) : Nat × va_E)) := by
      unfold va_pl
      rw [List.nil_append, List.map_map]
      apply List.map_congr_left
      intro i hi
      show (r i, vr_up _ _ _ (r i)) = _
      rw [vr_up_in (List.mem_map.mpr ⟨i, hi, rfl⟩)]
    rw [ep, List.append_assoc] at hP hD
    exact kk q r H1 ⟨hP, hD, hS1⟩
/-- behind a call of what is told in cells -/
theorem sg_backG {ret : Option FieldType} {Q1 : Int → SgM → Prop} {st0 : List Value} {aa : Array Value} (hr : va_Run p l e R s m args below meth c H locs cells slots 0 0 (F0 m pc ls st0) rest (sg_Qc lo N D cy a ret Q1 aa) (sg_A lo N a)) (hS : va_S A s.heap H locs) (hA : ∀ q, sg_A lo N a q → A q)
    (kk : ∀ (v : Int) (G' : SgM) (H1 : Heap) (locs1 : List Loc), sg_rc ret v → Q1 v G' → va_P D vwCl (sg_W cy a G' lo N) H1 → sg_can G' → (∀ q : Nat, q < H.size → ¬ sg_A lo N a q → H1[q]? = H[q]?) → va_S A s.heap H1 locs1 → W p l e R s m args below meth c H1 locs1 cells slots Q (F0 m (pc + 3) ls ((sg_r ret a v).toList ++ rest))) : W p l e R s m args below meth c H locs cells slots Q (F0 m pc ls st0) := by
  intro T hT X
  obtain ⟨v, st₀, t, T', L, h0, X', hL, e1, e2, ⟨⟨r, G', hv, hrc, hq, hP, hcan⟩, hz, hk⟩, st⟩ := hr T hT X
  cases hv
  rw [h0] at hz hk
  rw [← e1] at hP
  obtain ⟨t2, a1, b1⟩ := kk r G' T'.heap (locs ++ L) hrc hq hP hcan (fun q h1 h2 => by rw [e1]; exact hk q h1 h2)
    ⟨Nat.le_trans hS.1 (by rw [e1]; exact hz), fun q h1 h2 => by rw [e1, hk q (Nat.lt_of_lt_of_le h1 hS.1) (fun h => h2 (hA q h))]; exact hS.2.1 q h1 h2, fun q hq => by
      rcases List.mem_append.mp hq with h | h
      · exact hS.2.2 q h
      · exact hA _ (hL q h)⟩ T' rfl X'
  exact ⟨t2, st t2 a1, b1⟩
theorem sg_preG (hK : va_K D vwCl (sg_tys cy) s) (hX : sg_X a A s s.heap) (hP : va_P D vwCl (sg_W cy a G lo N) H) (hD : va_D (sg_A lo N a) (sg_W cy a G lo N)) (hcan : sg_can G) (hS : va_S A s.heap H locs) (hA : ∀ q, sg_A lo N a q → A q) {av : SgS} (U : State) (hU : U.heap = H) (hW : s.WarmedH U.vm) : sg_Pc lo N D cy a av G (av.map (sg_v a)).toArray U :=
  ⟨rfl, by rw [hU]; exact hP, hD, hcan, va_K.moved hW.alike hK, (by
    rw [hU]
    exact ((hX.kept (fun q h1 h2 => hS.2.1 q h1 h2)).narrow hA).warm hW)⟩
/-- a call of a method told in cells, from any frame -/
theorem sg_callG {k idx ci n : Nat} {y' : SgY} {b : Int} {av : SgS} {T : u_T} {nf : Nat} {Q1 : Int → SgM → Prop} (hx : p.tables.exec = Jvm.exec) (hb : c.code = cc) (hml : c.maxLocals = nL) (hown : s.vm.findClass (sg_cn own) = some m.cls) (hts : ∀ w ∈ sg_GT, w.before args s = true)
    (hK : va_K D vwCl (sg_tys cy) s) (hX : sg_X a A s s.heap) (hP : va_P D vwCl (sg_W cy a G lo N) H) (hD : va_D (sg_A lo N a) (sg_W cy a G lo N)) (hcan : sg_can G) (hS : va_S A s.heap H locs) (hA : ∀ q, sg_A lo N a q → A q)
    (hd : decode cc pc = .ok (.invokevirtual idx, 3)) (hy : sg_CV y' n) (hm : sg_ML own idx y') (hbb : sg_Ce lo N b 0 (ci : Int)) (hci : vwCl[ci]? = some (y'.2.1.cls, T, nf)) (hn : av.length = n) (hsz : sg_sz av + 1 ≤ y'.2.2.2.1) (hcv : ∀ v ∈ av, sg_cv v) (hR : k + 1 ≤ R.frames ∧ 34 * k + 34 ≤ R.locals) (hc : cells ≤ R.cells ∧ slots ≤ R.slots) (hsl : ls.size = nL) (hrest : (rest.map fun v => v.category).sum ≤ 8)
    (h : sg_Wp lo N k y' 0 (sg_ent 0 ((2, b) :: av)) [] G Q1)
    (kk : ∀ (v : Int) (G' : SgM) (H1 : Heap) (locs1 : List Loc), sg_rc y'.2.2.2.2 v → Q1 v G' → va_P D vwCl (sg_W cy a G' lo N) H1 → sg_can G' → (∀ q : Nat, q < H.size → ¬ sg_A lo N a q → H1[q]? = H[q]?) → va_S A s.heap H1 locs1 → W p l e R s m args below meth c H1 locs1 cells slots Q (F0 m (pc + 3) ls ((sg_r y'.2.2.2.2 a v).toList ++ rest))) : W p l e R s m args below meth c H locs cells slots Q (F0 m pc ls ((av.map (sg_v a)).reverse ++ .ref (a.1 b) :: rest)) := by
  obtain ⟨⟨hpl, hcn, hini, hcode, hdd, hmx⟩, hinst, hsel⟩ := hy
  have hcva : ∀ v ∈ (2, b) :: av, sg_cv v := sg_cons (v := (2, b)) trivial hcv
  have hM := sg_met hcn hpl (av := (2, b) :: av) (by show 1 + sg_sz av ≤ _; omega) hcva h l D cy a
  have hT : GoodIn sg_GT (wsV (sg_cn own) idx y'.2.1.cls y'.2.1 (sg_ws y')) := sg_goodL (fun w hw => by
    unfold wsV at hw
    rcases List.mem_append.mp hw with h1 | h1
    · simp only [List.mem_cons, List.not_mem_nil, or_false] at h1
      rcases h1 with rfl | rfl | rfl | rfl
      · exact hm
      · exact hinst
      · exact hsel
      · exact hini
    · rcases List.mem_cons.mp h1 with h2 | h2
      · rw [h2]; exact hcode
      · exact h2)
  have hw : (sg_W cy a G lo N)[b.toNat - lo]? = some (a.1 b, .inr (ci, sg_fs a ci b G)) := by rw [sg_W_at hbb.1, sg_e0 hbb.2]; rfl
  have cw := cwV (R := R) (mc := 0) (ms := 0) n hts hT rfl rfl rfl ⟨rfl, hdd⟩ (rm := sg_rm k) ⟨hR.1, by
    show 8 + (y'.2.2.2.1 + 11) + 34 * k ≤ R.locals
    omega⟩
  exact sg_backG (va_runV (As := av.map (sg_v a)) (rest := rest) ⟨hx, hb, hml, hown, hts⟩ hM cw ⟨sg_Pc_blind, va_recv hK hP hci hw, fun U hU hW => sg_preG (av := (2, b) :: av) hK hX hP hD hcan hS hA U hU hW⟩ rfl (by rw [List.length_map]; exact hn) hsl rfl (lv_room hrest) hd hc) hS hA kk
theorem sg_callGS {k idx n : Nat} {y' : SgY} {av : SgS} {Q1 : Int → SgM → Prop} (hx : p.tables.exec = Jvm.exec) (hb : c.code = cc) (hml : c.maxLocals = nL) (hown : s.vm.findClass (sg_cn own) = some m.cls) (hts : ∀ w ∈ sg_GT, w.before args s = true)
    (hK : va_K D vwCl (sg_tys cy) s) (hX : sg_X a A s s.heap) (hP : va_P D vwCl (sg_W cy a G lo N) H) (hD : va_D (sg_A lo N a) (sg_W cy a G lo N)) (hcan : sg_can G) (hS : va_S A s.heap H locs) (hA : ∀ q, sg_A lo N a q → A q)
    (hd : decode cc pc = .ok (.invokestatic idx, 3)) (hy : sg_CS y' n) (hm : sg_ML own idx y') (hn : av.length = n) (hsz : sg_sz av ≤ y'.2.2.2.1) (hcv : ∀ v ∈ av, sg_cv v) (hR : k + 1 ≤ R.frames ∧ 34 * k + 34 ≤ R.locals) (hc : cells ≤ R.cells ∧ slots ≤ R.slots) (hsl : ls.size = nL) (hrest : (rest.map fun v => v.category).sum ≤ 8)
    (h : sg_Wp lo N k y' 0 (sg_ent 0 av) [] G Q1)
    (kk : ∀ (v : Int) (G' : SgM) (H1 : Heap) (locs1 : List Loc), sg_rc y'.2.2.2.2 v → Q1 v G' → va_P D vwCl (sg_W cy a G' lo N) H1 → sg_can G' → (∀ q : Nat, q < H.size → ¬ sg_A lo N a q → H1[q]? = H[q]?) → va_S A s.heap H1 locs1 → W p l e R s m args below meth c H1 locs1 cells slots Q (F0 m (pc + 3) ls ((sg_r y'.2.2.2.2 a v).toList ++ rest))) : W p l e R s m args below meth c H locs cells slots Q (F0 m pc ls ((av.map (sg_v a)).reverse ++ rest)) := by
  obtain ⟨⟨hpl, hcn, hini, hcode, hdd, hmx⟩, hsta⟩ := hy
  have hM := sg_met hcn hpl hsz hcv h l D cy a
  have hT : GoodIn sg_GT (va_wsS (sg_cn own) idx y'.2.1 (sg_ws y')) := sg_goodL (fun w hw => by
    unfold va_wsS at hw
    rcases List.mem_append.mp hw with h1 | h1
    · simp only [List.mem_cons, List.not_mem_nil, or_false] at h1
      rcases h1 with rfl | rfl | rfl
      · exact hm
      · exact hsta
      · exact hini
    · rcases List.mem_cons.mp h1 with h2 | h2
      · rw [h2]; exact hcode
      · exact h2)
  have cw := va_cwS (R := R) (mc := 0) (ms := 0) n hts hT rfl rfl rfl hdd (rm := sg_rm k) ⟨hR.1, by
    show 8 + (y'.2.2.2.1 + 11) + 34 * k ≤ R.locals
    omega⟩
  exact sg_backG (va_runS (As := av.map (sg_v a)) (rest := rest) ⟨hx, hb, hml, hown, hts⟩ hM cw ⟨sg_Pc_blind, fun U hU hW => sg_preG (av := av) hK hX hP hD hcan hS hA U hU hW⟩ rfl (by rw [List.length_map]; exact hn) hsl rfl (lv_room hrest) hd hc) hS hA kk
end SkV
/-- a world by its cells -/
theorem sk_W_of {D : va_G} {cy : SgC} {a : SgA} {G : SgM} {lo N : Nat} {H : Heap} (h : ∀ c : Int, sg_In lo N c → va_at D vwCl (a.1 c, sg_e cy a G c) H) : va_P D vwCl (sg_W cy a G lo N) H := by
  intro k q hq
  obtain ⟨c, hc, _, rfl⟩ := sg_W_ge hq
  exact h c hc
theorem sk_W_in {D : va_G} {cy : SgC} {a : SgA} {G : SgM} {lo N : Nat} {H : Heap} (h : va_P D vwCl (sg_W cy a G lo N) H) {c : Int} (hc : sg_In lo N c) : va_at D vwCl (a.1 c, sg_e cy a G c) H := h _ _ (sg_W_at hc)
theorem sk_D_of {cy : SgC} {a : SgA} {G : SgM} {lo N : Nat} (h : ∀ c c' : Int, sg_In lo N c → sg_In lo N c' → a.1 c = a.1 c' → c = c') : va_D (sg_A lo N a) (sg_W cy a G lo N) := by
  refine ⟨fun i j x z hi hj hxz => ?_, fun k q hq => ?_⟩
  · obtain ⟨c, hc, hk, rfl⟩ := sg_W_ge hi
    obtain ⟨c', hc', hk', rfl⟩ := sg_W_ge hj
    have := h c c' hc hc' hxz
    omega
  · obtain ⟨c, hc, _, rfl⟩ := sg_W_ge hq
    exact ⟨c, hc, rfl⟩
theorem sk_D_in {cy : SgC} {a : SgA} {G : SgM} {lo N : Nat} {A : Nat → Prop} (h : va_D A (sg_W cy a G lo N)) {c c' : Int} (hc : sg_In lo N c) (hc' : sg_In lo N c') (e : a.1 c = a.1 c') : c = c' := by
  have := h.1 _ _ _ _ (sg_W_at (cy := cy) (G := G) hc) (sg_W_at hc') e
  have h1 := hc.1
  have h2 := hc'.1
  omega
theorem sk_arrV {c : ClassId} {n : Nat} {f g : Nat → Value} (h : ∀ i, i < n → f i = g i) : arrV c n f = arrV c n g := by
  unfold arrV
  have : (fun j : Fin n => f j.val) = fun j : Fin n => g j.val := funext (fun j => h j.val j.isLt)
  rw [this]
theorem va_at.inl {D : va_G} {q : Nat} {x x' : ClassId × vp_A} {H : Heap} (h : va_at D vwCl (q, .inl x) H) (e : vp_cell x.1 x.2 = vp_cell x'.1 x'.2) : va_at D vwCl (q, .inl x') H := by
  show H[q]? = some (vp_cell x'.1 x'.2)
  rw [← e]
  exact h
