/-! THE CLAIM OUT OF ONE WALK OF THE LAW'S BODY. Your part is whole_start (and what it stands on); all else here is the same for every law, but numbers. -/
def R_law : String := "SneezeGuardLaw"
def lw_P (b : Addr) (xs : List Int32) (args : Array Value) (s : State) : Prop := args = #[.ref b] ∧ s.IntsAt b xs ∧ xs.length ≤ 3072 ∧ (Jvm.Cond.and given_1 narrow_1).before args s = true
def lw_Q (_ : Array Value) (s : State) (o : Outcome) (t : State) : Prop := o = .returned (some (.int 1)) ∧ Framed s o t [] 600000 7302250
def lw_Z (below : List Frame) (a : Array Value) (s : State) : State → Prop := fun t => ∃ o, t.status = .running ∧ Ended t below o ∧ lw_Q a s o t
/-- the law's own end, with 1 on the stack, nothing written that was there before, its room as the claim has it -/
theorem lw_ret {p : Program} {l : Launch} {e : Env} {s : State} {m : MethodId} {below : List Frame} {meth : Method} {c : Code} {b : Nat} (hx : p.tables.exec = Jvm.exec) (hb : c.code = code) (hr : meth.sig.returnType = ret) (hlocks : meth.locks = false) {pc : Nat} {H : Heap} {ls : Array Slot} (hdg : decode code pc = .ok (.ireturn, 1)) : W p l e room_1 s m #[Value.ref b] below meth c H [] 600000 7302250 (lw_Z below #[Value.ref b] s) (F0 m pc ls [.int 1]) := by
  intro T hT X
  obtain ⟨fs, hret, hrun, hended, hW, hframe⟩ := X.leave (v := some (.int 1)) (hlocks := hlocks) (fun h => by rw [hr] at h; cases h)
  have hmeth' : T.vm.method? m = some meth := X.method'
  refine ⟨T.setFrames fs, ?_, .returned (some (.int 1)), hrun, hended, rfl, ⟨_, rfl⟩, hW, hframe⟩
  jvm_step X.here [X.here.top, hx, hb, hdg, hmeth', hr, ret, narrow_b1]
  (try refine ⟨rfl, ?_⟩); (try refine ⟨rfl, ?_⟩)
  first | (intro acts; rw [hret _ acts rfl rfl rfl]) | rw [hret _ _ rfl rfl rfl]
  exact Steps.refl _
/-- what holds at the law's entry: the machine, the code, the tables' words (any of lw_tbl by 'hts w (by decide +kernel)'), the script of L ints xs at the cell b, what the Statement gives of the start (any of its parts by flat_of_before) -/
def lw_At (p : Program) (s : State) (m : MethodId) (meth : Method) (c : Code) (b L : Nat) (xs : Nat → Int32) : Prop :=
  p.tables.exec = Jvm.exec ∧ c.code = code ∧ meth.sig.returnType = ret ∧ c.maxLocals = 4 ∧ s.vm.findClass R_law = some m.cls ∧ (∀ w ∈ lw_tbl, w.before #[Value.ref b] s = true) ∧ va_X b L xs s s.heap ∧ b < s.heap.size ∧ meth.locks = false ∧ (Jvm.Cond.and given_1 narrow_1).before #[Value.ref b] s = true
/-! THE LAW: its frame, told by the state of both sides -/
def lw_F (D : va_G) (cy : SgC) (a : SgA) (s : State) : Prop := va_K D vwCl (sg_tys cy) s ∧ sg_X a (fun q => s.heap.size ≤ q) s s.heap ∧ va_D (fun q => s.heap.size ≤ q) (sg_W cy a (fun _ _ => 0) 0 75) ∧ va_D (fun q => s.heap.size ≤ q) (sg_W cy a (fun _ _ => 0) 200 228) ∧ ∀ q, sg_A 0 75 a q → ¬ sg_A 200 228 a q
def lw_J (D : va_G) (cy : SgC) (a : SgA) (s : State) (A B : TA) (H : Heap) (locs : List Loc) : Prop := ∃ G M : SgM, (cG A G ∧ sg_can G ∧ va_P D vwCl (sg_W cy a G 0 75) H) ∧ (cM B M ∧ sg_can M ∧ va_P D vwCl (sg_W cy a M 200 228) H) ∧ va_S (fun q => s.heap.size ≤ q) s.heap H locs
theorem lw_A_in {cy : SgC} {a : SgA} {lo N : Nat} {A : Nat → Prop} (h : va_D A (sg_W cy a (fun _ _ => 0) lo N)) (q : Nat) (hq : sg_A lo N a q) : A q := by
  obtain ⟨z, hz, rfl⟩ := hq
  exact h.2 _ _ (sg_W_at hz)
theorem lw_D_in {cy : SgC} {a : SgA} {lo N : Nat} {A : Nat → Prop} (h : va_D A (sg_W cy a (fun _ _ => 0) lo N)) (G : SgM) : va_D (sg_A lo N a) (sg_W cy a G lo N) := sk_D_of (fun c c' hc hc' e => sk_D_in h hc hc' e)
theorem lw_lt (x : Int32) : x.toInt < 2147483648 := by
  have := Int32.toInt_lt x
  omega
section LwU
variable {p : Program} {l : Launch} {e : Env} {s : State} {m : MethodId} {below : List Frame} {meth : Method} {c : Code} {b L : Nat} {xs : Nat → Int32} {D : va_G} {cy : SgC} {a : SgA} {A B A1 : TA} {H : Heap} {locs : List Loc} {Q : State → Prop} {pc : Nat} {ls : Array Slot} {rest : List Value} {i : Nat}
theorem lw_callX (C0 : lw_At p s m meth c b L xs) (hF : lw_F D cy a s) (hJ : lw_J D cy a s A B H locs) {k idx n : Nat} {y' : SgY} {av : SgS} {Ans : Int} (hd : decode code pc = .ok (.invokevirtual idx, 3)) (hy : sg_CV y' n) (hm : sg_ML 30 idx y') (hcls : y'.2.1.cls = RX10) (hn : av.length = n) (hsz : sg_sz av + 1 ≤ y'.2.2.2.1) (hcv : ∀ v ∈ av, sg_cv v) (hk : k ≤ 14) (hsl : ls.size = 4) (hrest : (rest.map fun v => v.category).sum ≤ 8)
    (h : ∀ G, cG A G → sg_Wp 0 75 k y' 0 (sg_ent 0 ((2, 44) :: av)) [] G (fun v G' => v = Ans ∧ cG A1 G'))
    (kk : ∀ (H1 : Heap) (locs1 : List Loc), lw_J D cy a s A1 B H1 locs1 → W p l e room_1 s m #[Value.ref b] below meth c H1 locs1 600000 7302250 Q (F0 m (pc + 3) ls ((sg_r y'.2.2.2.2 a Ans).toList ++ rest))) :
    W p l e room_1 s m #[Value.ref b] below meth c H locs 600000 7302250 Q (F0 m pc ls ((av.map (sg_v a)).reverse ++ .ref (a.1 44) :: rest)) := by
  obtain ⟨hx, hb, hr, hml, hown, hts, hX, hbl, hlocks, hgv⟩ := C0
  obtain ⟨G, M, ⟨g1, g2, g3⟩, ⟨m1, m2, m3⟩, hS⟩ := hJ
  refine sg_callG (lo := 0) (N := 75) (own := 30) (A := fun q => s.heap.size ≤ q) (b := 44) (ci := 10) (T := TX10) (nf := 5) hx hb hml hown (fun w hw => hts w (List.mem_filter.mp hw).1) hF.1 hF.2.1 g3 (lw_D_in hF.2.2.1 G) g2 hS (lw_A_in hF.2.2.1) hd hy hm (ce_44 (Nat.le_refl 75)) (by rw [hcls]; rfl) hn hsz hcv ⟨by show k + 1 ≤ 15; omega, by show 34 * k + 34 ≤ 570; omega⟩ ⟨Nat.le_refl _, Nat.le_refl _⟩ hsl hrest (h G g1) (fun v G' H1 locs1 _ hq hP1 hcan1 hk1 hS1 => ?_)
  obtain ⟨rfl, hq⟩ := hq
  exact kk H1 locs1 ⟨G', M, ⟨hq, hcan1, hP1⟩, ⟨m1, m2, m3.kept (fun z q hz => hk1 q.1 (m3 z q hz).lt (fun hin => by
    obtain ⟨z2, hz2, _, rfl⟩ := sg_W_ge hz
    exact hF.2.2.2.2 _ hin ⟨z2, hz2, rfl⟩))⟩, hS1⟩
theorem lw_callM (C0 : lw_At p s m meth c b L xs) (hF : lw_F D cy a s) (hJ : lw_J D cy a s A B H locs) {k idx n : Nat} {y' : SgY} {av : SgS} {Ans : Int} (hd : decode code pc = .ok (.invokevirtual idx, 3)) (hy : sg_CV y' n) (hm : sg_ML 30 idx y') (hcls : y'.2.1.cls = RX11) (hn : av.length = n) (hsz : sg_sz av + 1 ≤ y'.2.2.2.1) (hcv : ∀ v ∈ av, sg_cv v) (hk : k ≤ 14) (hsl : ls.size = 4) (hrest : (rest.map fun v => v.category).sum ≤ 8)
    (h : ∀ G, cM B G → sg_Wp 200 228 k y' 0 (sg_ent 0 ((2, 200) :: av)) [] G (fun v G' => v = Ans ∧ cM A1 G'))
    (kk : ∀ (H1 : Heap) (locs1 : List Loc), lw_J D cy a s A A1 H1 locs1 → W p l e room_1 s m #[Value.ref b] below meth c H1 locs1 600000 7302250 Q (F0 m (pc + 3) ls ((sg_r y'.2.2.2.2 a Ans).toList ++ rest))) :
    W p l e room_1 s m #[Value.ref b] below meth c H locs 600000 7302250 Q (F0 m pc ls ((av.map (sg_v a)).reverse ++ .ref (a.1 200) :: rest)) := by
  obtain ⟨hx, hb, hr, hml, hown, hts, hX, hbl, hlocks, hgv⟩ := C0
  obtain ⟨G, M, ⟨g1, g2, g3⟩, ⟨m1, m2, m3⟩, hS⟩ := hJ
  refine sg_callG (lo := 200) (N := 228) (own := 30) (A := fun q => s.heap.size ≤ q) (b := 200) (ci := 11) (T := TX11) (nf := 37) hx hb hml hown (fun w hw => hts w (List.mem_filter.mp hw).1) hF.1 hF.2.1 m3 (lw_D_in hF.2.2.2.1 M) m2 hS (lw_A_in hF.2.2.2.1) hd hy hm ce_200 (by rw [hcls]; rfl) hn hsz hcv ⟨by show k + 1 ≤ 15; omega, by show 34 * k + 34 ≤ 570; omega⟩ ⟨Nat.le_refl _, Nat.le_refl _⟩ hsl hrest (h M m1) (fun v G' H1 locs1 _ hq hP1 hcan1 hk1 hS1 => ?_)
  obtain ⟨rfl, hq⟩ := hq
  exact kk H1 locs1 ⟨G, G', ⟨g1, g2, g3.kept (fun z q hz => hk1 q.1 (g3 z q hz).lt (fun hin => by
    obtain ⟨z2, hz2, _, rfl⟩ := sg_W_ge hz
    exact hF.2.2.2.2 _ ⟨z2, hz2, rfl⟩ hin))⟩, ⟨hq, hcan1, hP1⟩, hS1⟩
/-- a place of the script onto the stack -/
theorem lw_arg (C0 : lw_At p s m meth c b L xs) (hS : va_S (fun q => s.heap.size ≤ q) s.heap H locs) (hL : L ≤ 3072) {r : Nat} (hr : i + r < L) (hr5 : r ≤ 5) (h0 : lv_has ls 4 [(0, .ref b), (1, .ref (a.1 44)), (2, .ref (a.1 200)), (3, .int (nI i))]) (d0 : decode code pc = .ok (.aload_n 0, 1)) (d1 : decode code (pc + 1) = .ok (.iload_n 3, 1)) (d2 : decode code (pc + 1 + 1) = .ok (.iconst (r : Int), 1)) (d3 : decode code (pc + 1 + 1 + 1) = .ok (.iadd, 1)) (d4 : decode code (pc + 1 + 1 + 1 + 1) = .ok (.iaload, 1))
    (k : W p l e room_1 s m #[Value.ref b] below meth c H locs 600000 7302250 Q (F0 m (pc + 5) ls (.int (Int32.ofInt (xs (i + r)).toInt) :: rest))) : W p l e room_1 s m #[Value.ref b] below meth c H locs 600000 7302250 Q (F0 m pc ls rest) := by
  obtain ⟨hx, hb, hret, hml, hown, hts, hX, hbl, hlocks, hgv⟩ := C0
  refine lv_aload_n (k := 0) (x := b) hx hb d0 rfl (lv_at h0 0 rfl) ?_
  refine lv_iload_n (k := 3) (x := nI i) hx hb d1 rfl (lv_at h0 3 rfl) ?_
  refine lv_iconst (v := nI r) hx hb d2 rfl ?_
  refine lv_iadd hx hb d3 ?_
  rw [nI_add]
  refine va_sld hx hb hX hbl (Nat.not_le.mpr hbl) hS (vp_in_nI hr (by omega)) d4 ?_
  rw [nI_clamp (by omega), ← Int32.ofInt_toInt (xs (i + r))]
  rw [Int32.ofInt_toInt] at k ⊢
  exact k
theorem lw_cmpI (C0 : lw_At p s m meth c b L xs) {z : Int} {off : Int} {tgt : Nat} (hd : decode code pc = .ok (.if_icmp .eq off, 3)) (ht : (pc : Int) + off = (tgt : Int)) (k : W p l e room_1 s m #[Value.ref b] below meth c H locs 600000 7302250 Q (F0 m tgt ls [])) : W p l e room_1 s m #[Value.ref b] below meth c H locs 600000 7302250 Q (F0 m pc ls [.int (Int32.ofInt z), .int (Int32.ofInt z)]) :=
  lv_icmp_eq C0.1 C0.2.1 hd ht (fun _ => k) (fun h => absurd rfl h)
theorem lw_cmpL (C0 : lw_At p s m meth c b L xs) {z : Int} {off : Int} {tgt : Nat} (h0 : decode code pc = .ok (.lcmp, 1)) (hd : decode code (pc + 1) = .ok (.ifCond .eq off, 3)) (ht : ((pc + 1 : Nat) : Int) + off = (tgt : Int)) (k : W p l e room_1 s m #[Value.ref b] below meth c H locs 600000 7302250 Q (F0 m tgt ls [])) : W p l e room_1 s m #[Value.ref b] below meth c H locs 600000 7302250 Q (F0 m pc ls [.long (Int64.ofInt z), .long (Int64.ofInt z)]) := by
  refine W.lcmp C0.1 C0.2.1 h0 ?_
  refine lv_if_eq C0.1 C0.2.1 hd ht (fun _ => k) (fun h => absurd ?_ h)
  unfold lg_cmp
  rw [if_neg (fun h => Int.lt_irrefl _ (Int64.lt_iff_toInt_lt.mp h)), if_pos rfl]
end LwU
