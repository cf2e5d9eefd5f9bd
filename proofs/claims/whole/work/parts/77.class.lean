/-! MAKING: the class -/
def m_G_init : SgY := (10, yX10_init, cX10_init, 1, none)
theorem ci_G_init : sk_CI m_G_init 0 := ⟨sg_inGT (List.mem_of_getElem? (i := 26) (by decide +kernel)) rfl, rfl, sg_inGT (List.mem_of_getElem? (i := 1) (by decide +kernel)) rfl, sg_inGT (List.mem_of_getElem? (i := 25) (by decide +kernel)) rfl, rfl, ⟨by decide +kernel, by decide +kernel, by decide +kernel⟩, by decide⟩
theorem pf_G_0 : sk_PF m_G_init.1 10 10 0 (.object "SneezeGuard$Kingdom") := ⟨RX10, TX10, 5, tyX10, rfl, tyX10_ok, nmX10, by decide, sg_l10, sg_inGT (List.mem_of_getElem? (i := 582) (by decide +kernel)) rfl, rfl, rfl, by decide +kernel⟩
theorem pf_G_1 : sk_PF m_G_init.1 21 10 1 (.object "SneezeGuard$Plans") := ⟨RX10, TX10, 5, tyX10, rfl, tyX10_ok, nmX10, by decide, sg_l10, sg_inGT (List.mem_of_getElem? (i := 583) (by decide +kernel)) rfl, rfl, rfl, by decide +kernel⟩
theorem pf_G_2 : sk_PF m_G_init.1 28 10 2 (.object "SneezeGuard$Hindsight") := ⟨RX10, TX10, 5, tyX10, rfl, tyX10_ok, nmX10, by decide, sg_l10, sg_inGT (List.mem_of_getElem? (i := 584) (by decide +kernel)) rfl, rfl, rfl, by decide +kernel⟩
theorem pf_G_3 : sk_PF m_G_init.1 35 10 3 (.object "SneezeGuard$Chances") := ⟨RX10, TX10, 5, tyX10, rfl, tyX10_ok, nmX10, by decide, sg_l10, sg_inGT (List.mem_of_getElem? (i := 585) (by decide +kernel)) rfl, rfl, rfl, by decide +kernel⟩
theorem pf_G_4 : sk_PF m_G_init.1 42 10 4 (.object "SneezeGuard$Sheets") := ⟨RX10, TX10, 5, tyX10, rfl, tyX10_ok, nmX10, by decide, sg_l10, sg_inGT (List.mem_of_getElem? (i := 586) (by decide +kernel)) rfl, rfl, rfl, by decide +kernel⟩
/-- the addresses: the kingdom's, and behind them the rest -/
def g_adr (f : Int → Nat) (qs : List Nat) : Int → Nat := fun c => if c < 44 then f c else qs.getD (c - 44).toNat 0
def g0_G (G : SgM) (g : Int → Int) : SgM := fun c i => if c < 44 then G c i else if c = 68 then g i else 0
def a00 : TA := ((t00, t00, e00), (0, (fun _ => 0), (fun _ => 0), (fun _ => 0)), ((fun _ => -1), (fun _ => 0), (fun _ _ => 0), 0))
theorem a00_ok : TAok a00 := ⟨⟨t00_ok _, t00_ok _, e00_ok⟩, ⟨Nat.zero_le _, fun i hi => absurd hi (Nat.not_lt_zero _)⟩, fun s _ => ⟨⟨Int.le_refl _, show (-1 : Int) ≤ 2 by decide⟩, Int.le_refl _, show (0 : Int) ≤ 60 by decide⟩⟩
theorem g0_G_can {G : SgM} {g : Int → Int} (h : sg_can G) (hg : ∀ i, sg_32 (g i)) : sg_can (g0_G G g) := by
  intro c i
  unfold g0_G
  by_cases c1 : c < 44
  · rw [if_pos c1]; exact h c i
  · rw [if_neg c1]
    by_cases c2 : c = 68
    · subst c2
      rw [if_pos rfl, if_neg (by decide +kernel)]
      exact hg i
    · rw [if_neg c2]
      split <;> rfl
theorem g0_G_cG {G : SgM} {g : Int → Int} (h : cK t00 t00 e00 G) (hg : ∀ i : Int, 0 ≤ i → i < 4 → g i = -1) : cG a00 (g0_G G g) := by
  refine ⟨h.fr (fun c x i => ?_), ⟨rfl, fun i hi => absurd hi (Nat.not_lt_zero _)⟩, fun s hs => ⟨?_, ?_, fun i hi => ?_⟩, rfl⟩
  · unfold g0_G
    rw [if_pos (by omega)]
  · show g0_G G g 68 s = -1
    unfold g0_G
    rw [if_neg (by decide), if_pos rfl]
    exact hg s (by omega) (by omega)
  · show g0_G G g 69 s = 0
    rfl
  · exact absurd (show (i : Int) < 0 from hi) (by omega)
/-- the class's world, new -/
def w1_G (cy : SgC) (a : SgA) (h0 : Nat) : va_W → Prop := fun w => ∃ (f : Int → Nat) (G : SgM), f 44 = h0 ∧ sg_can G ∧ cG a00 G ∧ w = sg_W cy (f, a.2) G 0 75
theorem g_rr_in : ∀ c : Nat, c < 44 → ∀ k : Nat, k < 20 → 0 ≤ sg_rr (c : Int) k ∧ sg_rr (c : Int) k < 44 := by decide +kernel
theorem g_sh_in : ∀ c : Nat, c < 44 → (sg_sh (c : Int)).1 ≤ 2 ∧ sg_nf (sg_sh (c : Int)).2.toNat ≤ 20 ∨ (sg_sh (c : Int)).1 = 1 ∨ (sg_sh (c : Int)).1 = 2 := by decide +kernel
theorem g_e_low {cy : SgC} {f : Int → Nat} {qs : List Nat} {t : (Nat → Nat) × (Nat → Nat) × Nat} {G : SgM} {g : Int → Int} {c : Nat} (hc : c < 44) : sg_e cy (g_adr f qs, t) (g0_G G g) (c : Int) = sg_e cy (f, t) G (c : Int) := by
  have hG : ∀ i, g0_G G g (c : Int) i = G (c : Int) i := fun i => if_pos (by omega)
  rw [sg_e_off hG]
  rcases (show (sg_sh (c : Int)).1 = 0 ∨ (sg_sh (c : Int)).1 = 1 ∨ (sg_sh (c : Int)).1 = 2 by have := g_sh_in c hc; omega) with h | h | h
  · have e : sg_sh (c : Int) = (0, (sg_sh (c : Int)).2) := by rw [← h]
    rw [sg_e0 e, sg_e0 e]
    refine congrArg (fun z => Sum.inr ((sg_sh (c : Int)).2.toNat, z)) ?_
    unfold sg_fs
    apply List.map_congr_left
    intro k hk
    have hk := List.mem_range.mp hk
    have hn : sg_nf (sg_sh (c : Int)).2.toNat ≤ 20 := by have := g_sh_in c hc; omega
    have r := g_rr_in c hc k (by omega)
    unfold sg_fv
    split
    · rfl
    · show Value.ref (g_adr f qs _) = _
      unfold g_adr
      rw [if_pos r.2]
  · have e : sg_sh (c : Int) = (1, (sg_sh (c : Int)).2) := by rw [← h]
    rw [sg_e1 e, sg_e1 e]
  · have e : sg_sh (c : Int) = (2, (sg_sh (c : Int)).2) := by rw [← h]
    rw [sg_e2 e, sg_e2 e]
/-- addresses apart, by the list of the cells as they stand -/
theorem sk_D_list {cy : SgC} {a : SgA} {G : SgM} {A : Nat → Prop} {ws : va_W} {cs : List Int} {lo N : Nat} (hD : va_D A ws) (h : ws.map Prod.fst = cs.map a.1) (hc : ∀ c : Int, sg_In lo N c → c ∈ cs) : va_D A (sg_W cy a G lo N) := by
  have key : ∀ c : Int, sg_In lo N c → ∃ (i : Nat) (q : Nat × va_E), cs[i]? = some c ∧ ws[i]? = some q ∧ q.1 = a.1 c := fun c hcc => by
    obtain ⟨i, hi⟩ := List.getElem?_of_mem (hc c hcc)
    have h1 : (ws.map Prod.fst)[i]? = some (a.1 c) := by rw [h, List.getElem?_map, hi]; rfl
    rw [List.getElem?_map] at h1
    cases hw : ws[i]? with
    | none => rw [hw] at h1; cases h1
    | some q => rw [hw] at h1; exact ⟨i, q, hi, hw, Option.some.inj h1⟩
  refine ⟨fun i j x z hi hj hxz => ?_, fun k q hq => ?_⟩
  · obtain ⟨c, hcc, hk, rfl⟩ := sg_W_ge hi
    obtain ⟨c', hcc', hk', rfl⟩ := sg_W_ge hj
    obtain ⟨i1, q1, a1, a2, a3⟩ := key c hcc
    obtain ⟨i2, q2, b1, b2, b3⟩ := key c' hcc'
    have e := hD.1 i1 i2 q1 q2 a2 b2 (by rw [a3, b3]; exact hxz)
    subst e
    rw [a1] at b1
    have : c = c' := Option.some.inj b1
    subst this
    omega
  · obtain ⟨c, hcc, _, rfl⟩ := sg_W_ge hq
    obtain ⟨i1, q1, a1, a2, a3⟩ := key c hcc
    show A (a.1 c)
    rw [← a3]
    exact hD.2 i1 q1 a2
set_option maxHeartbeats 4000000 in
set_option maxRecDepth 100000 in
theorem k_G_fst {cy : SgC} {a : SgA} {f : Int → Nat} {G : SgM} {q5_g : Int → Int} {h0 q2 q3 q3_q1 q3_q2 q3_q3 q3_q4 q4 q4_q1 q4_q1_q1 q4_q1_q2 q4_q1_q3 q4_q2 q5 q5_q1 q5_q2 q5_q3 : Nat} {q3_rq4 q5_rq3 : Nat → Nat} : ((h0, .inr (10, [.ref (f 0), .ref q2, .ref q3, .ref q4, .ref q5])) :: ((((([] ++ sg_W cy (f, a.2) G 0 44) ++ ([(q2, .inr (5, [.ref (f 0), .int (Int32.ofInt 0), .int (Int32.ofInt 0), .int (Int32.ofInt 0), .int (Int32.ofInt 0)]))])) ++ ([(q3, .inr (3, [.ref (f 0), .int (Int32.ofInt 0), .ref q3_q1, .ref q3_q2, .ref q3_q3, .ref q3_q4])), (q3_q1, .inl (cy.1, 8, .inl (fun _ => Int32.ofInt 0))), (q3_q2, .inl (cy.1, 8, .inl (fun _ => Int32.ofInt 0))), (q3_q3, .inl (cy.1, 8, .inl (fun _ => Int32.ofInt 0)))] ++ ((q3_q4, .inl (cy.2.2.2, 10, .inr (.inr (.inr (.inr (fun i => if i < 10 then some (q3_rq4 i) else none)))))) :: (List.range 10).map (fun i => (q3_rq4 i, .inl (cy.1, 24, .inl (fun _ => Int32.ofInt 0))))))) ++ ([(q4, .inr (0, [.ref (f 0), .ref q4_q1, .ref q4_q2, .int (Int32.ofInt 0)])), (q4_q1, .inr (2, [.int (Int32.ofInt 0), .ref q4_q1_q1, .ref q4_q1_q2, .ref q4_q1_q3])), (q4_q1_q1, .inl (cy.1, 8, .inl (fun _ => Int32.ofInt 0))), (q4_q1_q2, .inl (cy.1, 8, .inl (fun _ => Int32.ofInt 0))), (q4_q1_q3, .inl (cy.1, 8, .inl (fun _ => Int32.ofInt 0))), (q4_q2, .inl (cy.2.2.1, 9, .inr (.inl (fun _ => Int64.ofInt 0))))])) ++ ([(q5, .inr (6, [.ref q5_q1, .ref q5_q2, .ref q5_q3, .int (Int32.ofInt 0)])), (q5_q1, .inl (cy.1, 4, .inl (fun i => Int32.ofInt (q5_g (i : Int))))), (q5_q2, .inl (cy.1, 4, .inl (fun _ => Int32.ofInt 0)))] ++ ((q5_q3, .inl (cy.2.2.2, 4, .inr (.inr (.inr (.inr (fun i => if i < 4 then some (q5_rq3 i) else none)))))) :: (List.range 4).map (fun i => (q5_rq3 i, .inl (cy.1, 60, .inl (fun _ => Int32.ofInt 0)))))))).map Prod.fst = ((44 : Int) :: ((List.range 44).map (fun j => ((0 + j : Nat) : Int)) ++ ([45, 46, 47, 48, 49, 50, 51, 52, 53, 54, 55, 56, 57, 58, 59, 60, 61, 63, 64, 65, 66, 62, 67, 68, 69, 70, 71, 72, 73, 74] : List Int))).map (g_adr f [h0, q2, q3, q3_q1, q3_q2, q3_q3, q3_q4, q3_rq4 0, q3_rq4 1, q3_rq4 2, q3_rq4 3, q3_rq4 4, q3_rq4 5, q3_rq4 6, q3_rq4 7, q3_rq4 8, q3_rq4 9, q4, q4_q2, q4_q1, q4_q1_q1, q4_q1_q2, q4_q1_q3, q5, q5_q1, q5_q2, q5_q3, q5_rq3 0, q5_rq3 1, q5_rq3 2, q5_rq3 3]) := by
  rfl
set_option maxHeartbeats 4000000 in
set_option maxRecDepth 100000 in
theorem k_G_at {D : va_G} {H : Heap} {cy : SgC} {a : SgA} {f : Int → Nat} {G : SgM} {q5_g : Int → Int} {h0 q2 q3 q3_q1 q3_q2 q3_q3 q3_q4 q4 q4_q1 q4_q1_q1 q4_q1_q2 q4_q1_q3 q4_q2 q5 q5_q1 q5_q2 q5_q3 : Nat} {q3_rq4 q5_rq3 : Nat → Nat} (hP : va_P D vwCl ((h0, .inr (10, [.ref (f 0), .ref q2, .ref q3, .ref q4, .ref q5])) :: ((((([] ++ sg_W cy (f, a.2) G 0 44) ++ ([(q2, .inr (5, [.ref (f 0), .int (Int32.ofInt 0), .int (Int32.ofInt 0), .int (Int32.ofInt 0), .int (Int32.ofInt 0)]))])) ++ ([(q3, .inr (3, [.ref (f 0), .int (Int32.ofInt 0), .ref q3_q1, .ref q3_q2, .ref q3_q3, .ref q3_q4])), (q3_q1, .inl (cy.1, 8, .inl (fun _ => Int32.ofInt 0))), (q3_q2, .inl (cy.1, 8, .inl (fun _ => Int32.ofInt 0))), (q3_q3, .inl (cy.1, 8, .inl (fun _ => Int32.ofInt 0)))] ++ ((q3_q4, .inl (cy.2.2.2, 10, .inr (.inr (.inr (.inr (fun i => if i < 10 then some (q3_rq4 i) else none)))))) :: (List.range 10).map (fun i => (q3_rq4 i, .inl (cy.1, 24, .inl (fun _ => Int32.ofInt 0))))))) ++ ([(q4, .inr (0, [.ref (f 0), .ref q4_q1, .ref q4_q2, .int (Int32.ofInt 0)])), (q4_q1, .inr (2, [.int (Int32.ofInt 0), .ref q4_q1_q1, .ref q4_q1_q2, .ref q4_q1_q3])), (q4_q1_q1, .inl (cy.1, 8, .inl (fun _ => Int32.ofInt 0))), (q4_q1_q2, .inl (cy.1, 8, .inl (fun _ => Int32.ofInt 0))), (q4_q1_q3, .inl (cy.1, 8, .inl (fun _ => Int32.ofInt 0))), (q4_q2, .inl (cy.2.2.1, 9, .inr (.inl (fun _ => Int64.ofInt 0))))])) ++ ([(q5, .inr (6, [.ref q5_q1, .ref q5_q2, .ref q5_q3, .int (Int32.ofInt 0)])), (q5_q1, .inl (cy.1, 4, .inl (fun i => Int32.ofInt (q5_g (i : Int))))), (q5_q2, .inl (cy.1, 4, .inl (fun _ => Int32.ofInt 0)))] ++ ((q5_q3, .inl (cy.2.2.2, 4, .inr (.inr (.inr (.inr (fun i => if i < 4 then some (q5_rq3 i) else none)))))) :: (List.range 4).map (fun i => (q5_rq3 i, .inl (cy.1, 60, .inl (fun _ => Int32.ofInt 0)))))))) H) (c : Int) (hc : 44 ≤ c ∧ c < 75) : va_at D vwCl (g_adr f [h0, q2, q3, q3_q1, q3_q2, q3_q3, q3_q4, q3_rq4 0, q3_rq4 1, q3_rq4 2, q3_rq4 3, q3_rq4 4, q3_rq4 5, q3_rq4 6, q3_rq4 7, q3_rq4 8, q3_rq4 9, q4, q4_q2, q4_q1, q4_q1_q1, q4_q1_q2, q4_q1_q3, q5, q5_q1, q5_q2, q5_q3, q5_rq3 0, q5_rq3 1, q5_rq3 2, q5_rq3 3] c, sg_e cy (g_adr f [h0, q2, q3, q3_q1, q3_q2, q3_q3, q3_q4, q3_rq4 0, q3_rq4 1, q3_rq4 2, q3_rq4 3, q3_rq4 4, q3_rq4 5, q3_rq4 6, q3_rq4 7, q3_rq4 8, q3_rq4 9, q4, q4_q2, q4_q1, q4_q1_q1, q4_q1_q2, q4_q1_q3, q5, q5_q1, q5_q2, q5_q3, q5_rq3 0, q5_rq3 1, q5_rq3 2, q5_rq3 3], a.2) (g0_G G q5_g) c) H := by
  rcases (show c = 44 ∨ c = 45 ∨ c = 46 ∨ c = 47 ∨ c = 48 ∨ c = 49 ∨ c = 50 ∨ c = 51 ∨ c = 52 ∨ c = 53 ∨ c = 54 ∨ c = 55 ∨ c = 56 ∨ c = 57 ∨ c = 58 ∨ c = 59 ∨ c = 60 ∨ c = 61 ∨ c = 62 ∨ c = 63 ∨ c = 64 ∨ c = 65 ∨ c = 66 ∨ c = 67 ∨ c = 68 ∨ c = 69 ∨ c = 70 ∨ c = 71 ∨ c = 72 ∨ c = 73 ∨ c = 74 by omega) with rfl | rfl | rfl | rfl | rfl | rfl | rfl | rfl | rfl | rfl | rfl | rfl | rfl | rfl | rfl | rfl | rfl | rfl | rfl | rfl | rfl | rfl | rfl | rfl | rfl | rfl | rfl | rfl | rfl | rfl | rfl
  · exact hP 0 _ rfl
  · exact hP 45 _ rfl
  · exact hP 46 _ rfl
  · exact hP 47 _ rfl
  · exact hP 48 _ rfl
  · exact hP 49 _ rfl
  · exact va_at.inl (hP 50 _ rfl) (show arrV cy.2.2.2 10 (fun j => va_rf (if j < 10 then some (q3_rq4 j) else none)) = arrV cy.2.2.2 10 (fun j => va_rf (some (g_adr f [h0, q2, q3, q3_q1, q3_q2, q3_q3, q3_q4, q3_rq4 0, q3_rq4 1, q3_rq4 2, q3_rq4 3, q3_rq4 4, q3_rq4 5, q3_rq4 6, q3_rq4 7, q3_rq4 8, q3_rq4 9, q4, q4_q2, q4_q1, q4_q1_q1, q4_q1_q2, q4_q1_q3, q5, q5_q1, q5_q2, q5_q3, q5_rq3 0, q5_rq3 1, q5_rq3 2, q5_rq3 3] (sg_qb 50 + (j : Int))))) from sk_arrV (fun i hi => by
      rw [if_pos hi]
      rcases (show i = 0 ∨ i = 1 ∨ i = 2 ∨ i = 3 ∨ i = 4 ∨ i = 5 ∨ i = 6 ∨ i = 7 ∨ i = 8 ∨ i = 9 by omega) with rfl | rfl | rfl | rfl | rfl | rfl | rfl | rfl | rfl | rfl <;> rfl))
  · exact hP 51 _ rfl
  · exact hP 52 _ rfl
  · exact hP 53 _ rfl
  · exact hP 54 _ rfl
  · exact hP 55 _ rfl
  · exact hP 56 _ rfl
  · exact hP 57 _ rfl
  · exact hP 58 _ rfl
  · exact hP 59 _ rfl
  · exact hP 60 _ rfl
  · exact hP 61 _ rfl
  · exact hP 66 _ rfl
  · exact hP 62 _ rfl
  · exact hP 63 _ rfl
  · exact hP 64 _ rfl
  · exact hP 65 _ rfl
  · exact hP 67 _ rfl
  · exact hP 68 _ rfl
  · exact hP 69 _ rfl
  · exact va_at.inl (hP 70 _ rfl) (show arrV cy.2.2.2 4 (fun j => va_rf (if j < 4 then some (q5_rq3 j) else none)) = arrV cy.2.2.2 4 (fun j => va_rf (some (g_adr f [h0, q2, q3, q3_q1, q3_q2, q3_q3, q3_q4, q3_rq4 0, q3_rq4 1, q3_rq4 2, q3_rq4 3, q3_rq4 4, q3_rq4 5, q3_rq4 6, q3_rq4 7, q3_rq4 8, q3_rq4 9, q4, q4_q2, q4_q1, q4_q1_q1, q4_q1_q2, q4_q1_q3, q5, q5_q1, q5_q2, q5_q3, q5_rq3 0, q5_rq3 1, q5_rq3 2, q5_rq3 3] (sg_qb 70 + (j : Int))))) from sk_arrV (fun i hi => by
      rw [if_pos hi]
      rcases (show i = 0 ∨ i = 1 ∨ i = 2 ∨ i = 3 by omega) with rfl | rfl | rfl | rfl <;> rfl))
  · exact hP 71 _ rfl
  · exact hP 72 _ rfl
  · exact hP 73 _ rfl
  · exact hP 74 _ rfl
set_option maxHeartbeats 4000000 in
set_option maxRecDepth 100000 in
theorem k_G_tail {p : Program} {l : Launch} {e : Env} {s : State} {m : MethodId} {args : Array Value} {below : List Frame} {meth : Method} {c : Code} {D : va_G} {cy : SgC} {a : SgA} {sz q1 : Nat} {q5_g : Int → Int} {wK : va_W} {h0 q2 q3 q3_q1 q3_q2 q3_q3 q3_q4 q4 q4_q1 q4_q1_q1 q4_q1_q2 q4_q1_q3 q4_q2 q5 q5_q1 q5_q2 q5_q3 : Nat} {q3_rq4 q5_rq3 : Nat → Nat} {H : Heap} {locs : List Loc} {ls : Array Slot} (hS : sk_S m_G_init D cy a (va_A [(h0, .inr (10, [.null, .null, .null, .null, .null]))] sz) p s m args meth c) (hwK : w1_K cy a q1 wK) (hg1 : ∀ i : Int, 0 ≤ i → i < 4 → q5_g i = -1) (hg2 : ∀ i : Int, sg_32 (q5_g i)) (hH : sk_H D s (va_A [(h0, .inr (10, [.null, .null, .null, .null, .null]))] sz) ((h0, .inr (10, [.ref q1, .ref q2, .ref q3, .ref q4, .ref q5])) :: ((((([] ++ wK) ++ ([(q2, .inr (5, [.ref q1, .int (Int32.ofInt 0), .int (Int32.ofInt 0), .int (Int32.ofInt 0), .int (Int32.ofInt 0)]))])) ++ ([(q3, .inr (3, [.ref q1, .int (Int32.ofInt 0), .ref q3_q1, .ref q3_q2, .ref q3_q3, .ref q3_q4])), (q3_q1, .inl (cy.1, 8, .inl (fun _ => Int32.ofInt 0))), (q3_q2, .inl (cy.1, 8, .inl (fun _ => Int32.ofInt 0))), (q3_q3, .inl (cy.1, 8, .inl (fun _ => Int32.ofInt 0)))] ++ ((q3_q4, .inl (cy.2.2.2, 10, .inr (.inr (.inr (.inr (fun i => if i < 10 then some (q3_rq4 i) else none)))))) :: (List.range 10).map (fun i => (q3_rq4 i, .inl (cy.1, 24, .inl (fun _ => Int32.ofInt 0))))))) ++ ([(q4, .inr (0, [.ref q1, .ref q4_q1, .ref q4_q2, .int (Int32.ofInt 0)])), (q4_q1, .inr (2, [.int (Int32.ofInt 0), .ref q4_q1_q1, .ref q4_q1_q2, .ref q4_q1_q3])), (q4_q1_q1, .inl (cy.1, 8, .inl (fun _ => Int32.ofInt 0))), (q4_q1_q2, .inl (cy.1, 8, .inl (fun _ => Int32.ofInt 0))), (q4_q1_q3, .inl (cy.1, 8, .inl (fun _ => Int32.ofInt 0))), (q4_q2, .inl (cy.2.2.1, 9, .inr (.inl (fun _ => Int64.ofInt 0))))])) ++ ([(q5, .inr (6, [.ref q5_q1, .ref q5_q2, .ref q5_q3, .int (Int32.ofInt 0)])), (q5_q1, .inl (cy.1, 4, .inl (fun i => Int32.ofInt (q5_g (i : Int))))), (q5_q2, .inl (cy.1, 4, .inl (fun _ => Int32.ofInt 0)))] ++ ((q5_q3, .inl (cy.2.2.2, 4, .inr (.inr (.inr (.inr (fun i => if i < 4 then some (q5_rq3 i) else none)))))) :: (List.range 4).map (fun i => (q5_rq3 i, .inl (cy.1, 60, .inl (fun _ => Int32.ofInt 0)))))))) H locs) :
    W p l e (sk_rm 9 74 2518) s m args below meth c H locs 74 2518 (MQ below (sk_Qc D h0 (.inr (10, [.null, .null, .null, .null, .null])) sz (w1_G cy a h0)) args s 74 2518 (va_A [(h0, .inr (10, [.null, .null, .null, .null, .null]))] sz)) (F0 m 71 ls []) := by
  obtain ⟨f, G, hf, hcan, hK, rfl⟩ := hwK
  subst hf
  have hD : va_D (va_A _ sz) (sg_W cy (g_adr f [h0, q2, q3, q3_q1, q3_q2, q3_q3, q3_q4, q3_rq4 0, q3_rq4 1, q3_rq4 2, q3_rq4 3, q3_rq4 4, q3_rq4 5, q3_rq4 6, q3_rq4 7, q3_rq4 8, q3_rq4 9, q4, q4_q2, q4_q1, q4_q1_q1, q4_q1_q2, q4_q1_q3, q5, q5_q1, q5_q2, q5_q3, q5_rq3 0, q5_rq3 1, q5_rq3 2, q5_rq3 3], a.2) (g0_G G q5_g) 0 75) := sk_D_list hH.2.1 (k_G_fst (cy := cy) (a := a) (f := f) (G := G) (q5_g := q5_g)) (fun c hc => by
    obtain ⟨c1, c2⟩ := hc
    by_cases c44 : c < 44
    · refine List.mem_cons.mpr (Or.inr (List.mem_append.mpr (Or.inl (List.mem_map.mpr ⟨c.toNat, List.mem_range.mpr (by omega), by omega⟩))))
    · have h75 : c < 75 := by omega
      by_cases e44 : c = 44
      · exact List.mem_cons.mpr (Or.inl e44)
      · refine List.mem_cons.mpr (Or.inr (List.mem_append.mpr (Or.inr ?_)))
        simp only [List.mem_cons, List.not_mem_nil, or_false]
        omega)
  have hP : va_P D vwCl (sg_W cy (g_adr f [h0, q2, q3, q3_q1, q3_q2, q3_q3, q3_q4, q3_rq4 0, q3_rq4 1, q3_rq4 2, q3_rq4 3, q3_rq4 4, q3_rq4 5, q3_rq4 6, q3_rq4 7, q3_rq4 8, q3_rq4 9, q4, q4_q2, q4_q1, q4_q1_q1, q4_q1_q2, q4_q1_q3, q5, q5_q1, q5_q2, q5_q3, q5_rq3 0, q5_rq3 1, q5_rq3 2, q5_rq3 3], a.2) (g0_G G q5_g) 0 75) H := sk_W_of (fun c hc => by
    obtain ⟨c1, c2⟩ := hc
    by_cases c44 : c < 44
    · obtain ⟨z, rfl⟩ := Int.eq_ofNat_of_zero_le (show 0 ≤ c by omega)
      have hz : z < 44 := by omega
      have h1 := hH.1 (1 + z) (f (z : Int), sg_e cy (f, a.2) G (z : Int)) (by
        have h2 : (sg_W cy (f, a.2) G 0 44)[z]? = some (f (z : Int), sg_e cy (f, a.2) G (z : Int)) := by
          have := sg_W_at (cy := cy) (a := (f, a.2)) (G := G) (lo := 0) (N := 44) (c := (z : Int)) ⟨by omega, by omega⟩
          exact this
        have hl : z < (sg_W cy (f, a.2) G 0 44).length := (List.getElem?_eq_some_iff.mp h2).1
        rw [show 1 + z = z + 1 by omega, List.getElem?_cons_succ, List.getElem?_append_left (by simp only [List.length_append]; omega), List.getElem?_append_left (by simp only [List.length_append]; omega), List.getElem?_append_left (by simp only [List.length_append]; omega), List.getElem?_append_left (by simp only [List.length_append]; omega), List.nil_append]
        exact h2)
      have e : (g_adr f [h0, q2, q3, q3_q1, q3_q2, q3_q3, q3_q4, q3_rq4 0, q3_rq4 1, q3_rq4 2, q3_rq4 3, q3_rq4 4, q3_rq4 5, q3_rq4 6, q3_rq4 7, q3_rq4 8, q3_rq4 9, q4, q4_q2, q4_q1, q4_q1_q1, q4_q1_q2, q4_q1_q3, q5, q5_q1, q5_q2, q5_q3, q5_rq3 0, q5_rq3 1, q5_rq3 2, q5_rq3 3], a.2).1 (z : Int) = f (z : Int) := if_pos c44
      rw [e, g_e_low hz]
      exact h1
    · exact k_G_at hH.1 c ⟨by omega, by omega⟩)
  exact sk_end hS rfl ⟨hP, hD, hH.2.2⟩ ⟨g_adr f [h0, q2, q3, q3_q1, q3_q2, q3_q3, q3_q4, q3_rq4 0, q3_rq4 1, q3_rq4 2, q3_rq4 3, q3_rq4 4, q3_rq4 5, q3_rq4 6, q3_rq4 7, q3_rq4 8, q3_rq4 9, q4, q4_q2, q4_q1, q4_q1_q1, q4_q1_q2, q4_q1_q3, q5, q5_q1, q5_q2, q5_q3, q5_rq3 0, q5_rq3 1, q5_rq3 2, q5_rq3 3], g0_G G q5_g, rfl, g0_G_can hcan hg2, g0_G_cG hK hg1, rfl⟩ (Nat.le_refl _) (Nat.le_refl _) (by decide +kernel)
set_option maxHeartbeats 4000000 in
set_option maxRecDepth 100000 in
theorem k_G (l : Launch) (D : va_G) (cy : SgC) (a : SgA) (h0 sz : Nat) : Met l m_G_init.2.1 (sg_ws m_G_init) (sk_rm 9 74 2518) (sk_Pc D cy a [] h0 (.inr (10, [.null, .null, .null, .null, .null])) sz) (sk_Qc D h0 (.inr (10, [.null, .null, .null, .null, .null])) sz (w1_G cy a h0)) 74 2518 (va_A [(h0, .inr (10, [.null, .null, .null, .null, .null]))] sz) := by
  refine sk_met (y := m_G_init) rfl (by decide +kernel) rfl (Nat.le_of_ble_eq_true rfl) l D cy a h0 _ sz 9 74 2518 _ (fun p e s m args below meth c ls _ hin hS hH hl => ?_)
  refine lv_aload_n (k := 0) (x := h0) hS.1.1 hS.1.2.1 (by decide +kernel) rfl (lv_at hl 0 rfl) ?_
  refine sk_obj (i := 1) hS (sg_inGT (List.mem_of_getElem? (i := 27) (by decide +kernel)) rfl) hl.1 (by decide +kernel) ⟨(Nat.le_of_ble_eq_true rfl), (Nat.le_of_ble_eq_true rfl)⟩ rfl ?_
  refine lv_aload_n (k := 0) (x := h0) hS.1.1 hS.1.2.1 (by decide +kernel) rfl (lv_at hl 0 rfl) ?_
  refine sk_new hS hH (idx := 7) (ci' := 4) (C := RX4) (T := TX4) (N := 8) (ty0 := tyX4) (fs' := [.null, .null, .null, .null, .null, .null, .null, .null]) rfl tyX4_ok sg_l4 (sg_inGT (List.mem_of_getElem? (i := 30) (by decide +kernel)) rfl) (sg_inGT (List.mem_of_getElem? (i := 31) (by decide +kernel)) rfl) (sg_inGT (List.mem_of_getElem? (i := 2) (by decide +kernel)) rfl) (fun j hj => by rcases (show j = 0 ∨ j = 1 ∨ j = 2 ∨ j = 3 ∨ j = 4 ∨ j = 5 ∨ j = 6 ∨ j = 7 by omega) with rfl | rfl | rfl | rfl | rfl | rfl | rfl | rfl <;> rfl) (Nat.le_of_ble_eq_true rfl) (Nat.le_of_ble_eq_true rfl) (by decide +kernel) (fun q1 H hH => ?_)
  refine lv_dup hS.1.1 hS.1.2.1 (by decide +kernel) rfl ?_
  refine sk_init (y' := m_K_init) (b := q1) (ws := (h0, .inr (10, [.null, .null, .null, .null, .null])) :: []) (e0 := .inr (4, [.null, .null, .null, .null, .null, .null, .null, .null])) (idx := 9) (As := []) (rest := [.ref q1, .ref h0]) hS hH ci_K_init (sg_inGT (List.mem_of_getElem? (i := 32) (by decide +kernel)) rfl) rfl (k_K l D cy a q1 H.size ) ⟨(Nat.le_of_ble_eq_true rfl), (Nat.le_of_ble_eq_true rfl)⟩ ⟨(Nat.le_of_ble_eq_true rfl), (Nat.le_of_ble_eq_true rfl)⟩ hl.1 (Nat.le_of_ble_eq_true rfl) (by decide +kernel) (fun wK H locs hwK hH => ?_)
  have hH : sk_H D s _ ((h0, .inr (10, [.null, .null, .null, .null, .null])) :: ([] ++ wK)) H _ := hH
  refine sk_put hS hin hH (v := .ref q1) pf_G_0 rfl rfl (Nat.le_of_ble_eq_true rfl) (by decide +kernel) (fun H locs hH => ?_)
  have hH : sk_H D s _ ((h0, .inr (10, [.ref q1, .null, .null, .null, .null])) :: ([] ++ wK)) H locs := hH
  refine lv_aload_n (k := 0) (x := h0) hS.1.1 hS.1.2.1 (by decide +kernel) rfl (lv_at hl 0 rfl) ?_
  refine sk_new hS hH (idx := 16) (ci' := 5) (C := RX5) (T := TX5) (N := 5) (ty0 := tyX5) (fs' := [.null, .int (Int32.ofInt 0), .int (Int32.ofInt 0), .int (Int32.ofInt 0), .int (Int32.ofInt 0)]) rfl tyX5_ok sg_l5 (sg_inGT (List.mem_of_getElem? (i := 484) (by decide +kernel)) rfl) (sg_inGT (List.mem_of_getElem? (i := 485) (by decide +kernel)) rfl) (sg_inGT (List.mem_of_getElem? (i := 16) (by decide +kernel)) rfl) (fun j hj => by rcases (show j = 0 ∨ j = 1 ∨ j = 2 ∨ j = 3 ∨ j = 4 by omega) with rfl | rfl | rfl | rfl | rfl <;> rfl) (Nat.le_of_ble_eq_true rfl) (Nat.le_of_ble_eq_true rfl) (by decide +kernel) (fun q2 H hH => ?_)
  refine lv_dup hS.1.1 hS.1.2.1 (by decide +kernel) rfl ?_
  refine lv_aload_n (k := 0) (x := h0) hS.1.1 hS.1.2.1 (by decide +kernel) rfl (lv_at hl 0 rfl) ?_
  refine sk_get hS hH (idx := 10) (k := 0) (x := q1) ⟨RX10, TX10, 5, rfl, rfl, by decide, sg_l10, sg_inGT (List.mem_of_getElem? (i := 582) (by decide +kernel)) rfl⟩ rfl (by decide +kernel) ?_
  refine sk_init (y' := m_P_init) (b := q2) (ws := (h0, .inr (10, [.ref q1, .null, .null, .null, .null])) :: ([] ++ wK)) (e0 := .inr (5, [.null, .int (Int32.ofInt 0), .int (Int32.ofInt 0), .int (Int32.ofInt 0), .int (Int32.ofInt 0)])) (idx := 18) (As := [.ref q1]) (rest := [.ref q2, .ref h0]) hS hH ci_P_init (sg_inGT (List.mem_of_getElem? (i := 486) (by decide +kernel)) rfl) rfl (k_P l D cy a q2 H.size q1) ⟨(Nat.le_of_ble_eq_true rfl), (Nat.le_of_ble_eq_true rfl)⟩ ⟨(Nat.le_of_ble_eq_true rfl), (Nat.le_of_ble_eq_true rfl)⟩ hl.1 (Nat.le_of_ble_eq_true rfl) (by decide +kernel) (fun w1 H locs hw hH => ?_)
  obtain rfl := hw
  have hH : sk_H D s _ ((h0, .inr (10, [.ref q1, .null, .null, .null, .null])) :: (([] ++ wK) ++ ([(q2, .inr (5, [.ref q1, .int (Int32.ofInt 0), .int (Int32.ofInt 0), .int (Int32.ofInt 0), .int (Int32.ofInt 0)]))]))) H _ := hH
  refine sk_put hS hin hH (v := .ref q2) pf_G_1 rfl rfl (Nat.le_of_ble_eq_true rfl) (by decide +kernel) (fun H locs hH => ?_)
  have hH : sk_H D s _ ((h0, .inr (10, [.ref q1, .ref q2, .null, .null, .null])) :: (([] ++ wK) ++ ([(q2, .inr (5, [.ref q1, .int (Int32.ofInt 0), .int (Int32.ofInt 0), .int (Int32.ofInt 0), .int (Int32.ofInt 0)]))]))) H locs := hH
  refine lv_aload_n (k := 0) (x := h0) hS.1.1 hS.1.2.1 (by decide +kernel) rfl (lv_at hl 0 rfl) ?_
  refine sk_new hS hH (idx := 25) (ci' := 3) (C := RX3) (T := TX3) (N := 6) (ty0 := tyX3) (fs' := [.null, .int (Int32.ofInt 0), .null, .null, .null, .null]) rfl tyX3_ok sg_l3 (sg_inGT (List.mem_of_getElem? (i := 510) (by decide +kernel)) rfl) (sg_inGT (List.mem_of_getElem? (i := 511) (by decide +kernel)) rfl) (sg_inGT (List.mem_of_getElem? (i := 17) (by decide +kernel)) rfl) (fun j hj => by rcases (show j = 0 ∨ j = 1 ∨ j = 2 ∨ j = 3 ∨ j = 4 ∨ j = 5 by omega) with rfl | rfl | rfl | rfl | rfl | rfl <;> rfl) (Nat.le_of_ble_eq_true rfl) (Nat.le_of_ble_eq_true rfl) (by decide +kernel) (fun q3 H hH => ?_)
  refine lv_dup hS.1.1 hS.1.2.1 (by decide +kernel) rfl ?_
  refine lv_aload_n (k := 0) (x := h0) hS.1.1 hS.1.2.1 (by decide +kernel) rfl (lv_at hl 0 rfl) ?_
  refine sk_get hS hH (idx := 10) (k := 0) (x := q1) ⟨RX10, TX10, 5, rfl, rfl, by decide, sg_l10, sg_inGT (List.mem_of_getElem? (i := 582) (by decide +kernel)) rfl⟩ rfl (by decide +kernel) ?_
  refine sk_init (y' := m_H_init) (b := q3) (ws := (h0, .inr (10, [.ref q1, .ref q2, .null, .null, .null])) :: (([] ++ wK) ++ ([(q2, .inr (5, [.ref q1, .int (Int32.ofInt 0), .int (Int32.ofInt 0), .int (Int32.ofInt 0), .int (Int32.ofInt 0)]))]))) (e0 := .inr (3, [.null, .int (Int32.ofInt 0), .null, .null, .null, .null])) (idx := 27) (As := [.ref q1]) (rest := [.ref q3, .ref h0]) hS hH ci_H_init (sg_inGT (List.mem_of_getElem? (i := 512) (by decide +kernel)) rfl) rfl (k_H l D cy a q3 H.size q1) ⟨(Nat.le_of_ble_eq_true rfl), (Nat.le_of_ble_eq_true rfl)⟩ ⟨(Nat.le_of_ble_eq_true rfl), (Nat.le_of_ble_eq_true rfl)⟩ hl.1 (Nat.le_of_ble_eq_true rfl) (by decide +kernel) (fun w1 H locs hw hH => ?_)
  obtain ⟨q3_q1, q3_q2, q3_q3, q3_q4, q3_rq4, rfl⟩ := hw
  have hH : sk_H D s _ ((h0, .inr (10, [.ref q1, .ref q2, .null, .null, .null])) :: ((([] ++ wK) ++ ([(q2, .inr (5, [.ref q1, .int (Int32.ofInt 0), .int (Int32.ofInt 0), .int (Int32.ofInt 0), .int (Int32.ofInt 0)]))])) ++ ([(q3, .inr (3, [.ref q1, .int (Int32.ofInt 0), .ref q3_q1, .ref q3_q2, .ref q3_q3, .ref q3_q4])), (q3_q1, .inl (cy.1, 8, .inl (fun _ => Int32.ofInt 0))), (q3_q2, .inl (cy.1, 8, .inl (fun _ => Int32.ofInt 0))), (q3_q3, .inl (cy.1, 8, .inl (fun _ => Int32.ofInt 0)))] ++ ((q3_q4, .inl (cy.2.2.2, 10, .inr (.inr (.inr (.inr (fun i => if i < 10 then some (q3_rq4 i) else none)))))) :: (List.range 10).map (fun i => (q3_rq4 i, .inl (cy.1, 24, .inl (fun _ => Int32.ofInt 0)))))))) H _ := hH
  refine sk_put hS hin hH (v := .ref q3) pf_G_2 rfl rfl (Nat.le_of_ble_eq_true rfl) (by decide +kernel) (fun H locs hH => ?_)
  have hH : sk_H D s _ ((h0, .inr (10, [.ref q1, .ref q2, .ref q3, .null, .null])) :: ((([] ++ wK) ++ ([(q2, .inr (5, [.ref q1, .int (Int32.ofInt 0), .int (Int32.ofInt 0), .int (Int32.ofInt 0), .int (Int32.ofInt 0)]))])) ++ ([(q3, .inr (3, [.ref q1, .int (Int32.ofInt 0), .ref q3_q1, .ref q3_q2, .ref q3_q3, .ref q3_q4])), (q3_q1, .inl (cy.1, 8, .inl (fun _ => Int32.ofInt 0))), (q3_q2, .inl (cy.1, 8, .inl (fun _ => Int32.ofInt 0))), (q3_q3, .inl (cy.1, 8, .inl (fun _ => Int32.ofInt 0)))] ++ ((q3_q4, .inl (cy.2.2.2, 10, .inr (.inr (.inr (.inr (fun i => if i < 10 then some (q3_rq4 i) else none)))))) :: (List.range 10).map (fun i => (q3_rq4 i, .inl (cy.1, 24, .inl (fun _ => Int32.ofInt 0)))))))) H locs := hH
  refine lv_aload_n (k := 0) (x := h0) hS.1.1 hS.1.2.1 (by decide +kernel) rfl (lv_at hl 0 rfl) ?_
  refine sk_new hS hH (idx := 32) (ci' := 0) (C := RX0) (T := TX0) (N := 4) (ty0 := tyX0) (fs' := [.null, .null, .null, .int (Int32.ofInt 0)]) rfl tyX0_ok sg_l0 (sg_inGT (List.mem_of_getElem? (i := 538) (by decide +kernel)) rfl) (sg_inGT (List.mem_of_getElem? (i := 539) (by decide +kernel)) rfl) (sg_inGT (List.mem_of_getElem? (i := 18) (by decide +kernel)) rfl) (fun j hj => by rcases (show j = 0 ∨ j = 1 ∨ j = 2 ∨ j = 3 by omega) with rfl | rfl | rfl | rfl <;> rfl) (Nat.le_of_ble_eq_true rfl) (Nat.le_of_ble_eq_true rfl) (by decide +kernel) (fun q4 H hH => ?_)
  refine lv_dup hS.1.1 hS.1.2.1 (by decide +kernel) rfl ?_
  refine lv_aload_n (k := 0) (x := h0) hS.1.1 hS.1.2.1 (by decide +kernel) rfl (lv_at hl 0 rfl) ?_
  refine sk_get hS hH (idx := 10) (k := 0) (x := q1) ⟨RX10, TX10, 5, rfl, rfl, by decide, sg_l10, sg_inGT (List.mem_of_getElem? (i := 582) (by decide +kernel)) rfl⟩ rfl (by decide +kernel) ?_
  refine sk_init (y' := m_C_init) (b := q4) (ws := (h0, .inr (10, [.ref q1, .ref q2, .ref q3, .null, .null])) :: ((([] ++ wK) ++ ([(q2, .inr (5, [.ref q1, .int (Int32.ofInt 0), .int (Int32.ofInt 0), .int (Int32.ofInt 0), .int (Int32.ofInt 0)]))])) ++ ([(q3, .inr (3, [.ref q1, .int (Int32.ofInt 0), .ref q3_q1, .ref q3_q2, .ref q3_q3, .ref q3_q4])), (q3_q1, .inl (cy.1, 8, .inl (fun _ => Int32.ofInt 0))), (q3_q2, .inl (cy.1, 8, .inl (fun _ => Int32.ofInt 0))), (q3_q3, .inl (cy.1, 8, .inl (fun _ => Int32.ofInt 0)))] ++ ((q3_q4, .inl (cy.2.2.2, 10, .inr (.inr (.inr (.inr (fun i => if i < 10 then some (q3_rq4 i) else none)))))) :: (List.range 10).map (fun i => (q3_rq4 i, .inl (cy.1, 24, .inl (fun _ => Int32.ofInt 0)))))))) (e0 := .inr (0, [.null, .null, .null, .int (Int32.ofInt 0)])) (idx := 34) (As := [.ref q1]) (rest := [.ref q4, .ref h0]) hS hH ci_C_init (sg_inGT (List.mem_of_getElem? (i := 540) (by decide +kernel)) rfl) rfl (k_C l D cy a q4 H.size q1) ⟨(Nat.le_of_ble_eq_true rfl), (Nat.le_of_ble_eq_true rfl)⟩ ⟨(Nat.le_of_ble_eq_true rfl), (Nat.le_of_ble_eq_true rfl)⟩ hl.1 (Nat.le_of_ble_eq_true rfl) (by decide +kernel) (fun w1 H locs hw hH => ?_)
  obtain ⟨q4_q1, q4_q1_q1, q4_q1_q2, q4_q1_q3, q4_q2, rfl⟩ := hw
  have hH : sk_H D s _ ((h0, .inr (10, [.ref q1, .ref q2, .ref q3, .null, .null])) :: (((([] ++ wK) ++ ([(q2, .inr (5, [.ref q1, .int (Int32.ofInt 0), .int (Int32.ofInt 0), .int (Int32.ofInt 0), .int (Int32.ofInt 0)]))])) ++ ([(q3, .inr (3, [.ref q1, .int (Int32.ofInt 0), .ref q3_q1, .ref q3_q2, .ref q3_q3, .ref q3_q4])), (q3_q1, .inl (cy.1, 8, .inl (fun _ => Int32.ofInt 0))), (q3_q2, .inl (cy.1, 8, .inl (fun _ => Int32.ofInt 0))), (q3_q3, .inl (cy.1, 8, .inl (fun _ => Int32.ofInt 0)))] ++ ((q3_q4, .inl (cy.2.2.2, 10, .inr (.inr (.inr (.inr (fun i => if i < 10 then some (q3_rq4 i) else none)))))) :: (List.range 10).map (fun i => (q3_rq4 i, .inl (cy.1, 24, .inl (fun _ => Int32.ofInt 0))))))) ++ ([(q4, .inr (0, [.ref q1, .ref q4_q1, .ref q4_q2, .int (Int32.ofInt 0)])), (q4_q1, .inr (2, [.int (Int32.ofInt 0), .ref q4_q1_q1, .ref q4_q1_q2, .ref q4_q1_q3])), (q4_q1_q1, .inl (cy.1, 8, .inl (fun _ => Int32.ofInt 0))), (q4_q1_q2, .inl (cy.1, 8, .inl (fun _ => Int32.ofInt 0))), (q4_q1_q3, .inl (cy.1, 8, .inl (fun _ => Int32.ofInt 0))), (q4_q2, .inl (cy.2.2.1, 9, .inr (.inl (fun _ => Int64.ofInt 0))))]))) H _ := hH
  refine sk_put hS hin hH (v := .ref q4) pf_G_3 rfl rfl (Nat.le_of_ble_eq_true rfl) (by decide +kernel) (fun H locs hH => ?_)
  have hH : sk_H D s _ ((h0, .inr (10, [.ref q1, .ref q2, .ref q3, .ref q4, .null])) :: (((([] ++ wK) ++ ([(q2, .inr (5, [.ref q1, .int (Int32.ofInt 0), .int (Int32.ofInt 0), .int (Int32.ofInt 0), .int (Int32.ofInt 0)]))])) ++ ([(q3, .inr (3, [.ref q1, .int (Int32.ofInt 0), .ref q3_q1, .ref q3_q2, .ref q3_q3, .ref q3_q4])), (q3_q1, .inl (cy.1, 8, .inl (fun _ => Int32.ofInt 0))), (q3_q2, .inl (cy.1, 8, .inl (fun _ => Int32.ofInt 0))), (q3_q3, .inl (cy.1, 8, .inl (fun _ => Int32.ofInt 0)))] ++ ((q3_q4, .inl (cy.2.2.2, 10, .inr (.inr (.inr (.inr (fun i => if i < 10 then some (q3_rq4 i) else none)))))) :: (List.range 10).map (fun i => (q3_rq4 i, .inl (cy.1, 24, .inl (fun _ => Int32.ofInt 0))))))) ++ ([(q4, .inr (0, [.ref q1, .ref q4_q1, .ref q4_q2, .int (Int32.ofInt 0)])), (q4_q1, .inr (2, [.int (Int32.ofInt 0), .ref q4_q1_q1, .ref q4_q1_q2, .ref q4_q1_q3])), (q4_q1_q1, .inl (cy.1, 8, .inl (fun _ => Int32.ofInt 0))), (q4_q1_q2, .inl (cy.1, 8, .inl (fun _ => Int32.ofInt 0))), (q4_q1_q3, .inl (cy.1, 8, .inl (fun _ => Int32.ofInt 0))), (q4_q2, .inl (cy.2.2.1, 9, .inr (.inl (fun _ => Int64.ofInt 0))))]))) H locs := hH
  refine lv_aload_n (k := 0) (x := h0) hS.1.1 hS.1.2.1 (by decide +kernel) rfl (lv_at hl 0 rfl) ?_
  refine sk_new hS hH (idx := 39) (ci' := 6) (C := RX6) (T := TX6) (N := 4) (ty0 := tyX6) (fs' := [.null, .null, .null, .int (Int32.ofInt 0)]) rfl tyX6_ok sg_l6 (sg_inGT (List.mem_of_getElem? (i := 560) (by decide +kernel)) rfl) (sg_inGT (List.mem_of_getElem? (i := 561) (by decide +kernel)) rfl) (sg_inGT (List.mem_of_getElem? (i := 19) (by decide +kernel)) rfl) (fun j hj => by rcases (show j = 0 ∨ j = 1 ∨ j = 2 ∨ j = 3 by omega) with rfl | rfl | rfl | rfl <;> rfl) (Nat.le_of_ble_eq_true rfl) (Nat.le_of_ble_eq_true rfl) (by decide +kernel) (fun q5 H hH => ?_)
  refine lv_dup hS.1.1 hS.1.2.1 (by decide +kernel) rfl ?_
  refine sk_init (y' := m_Z_init) (b := q5) (ws := (h0, .inr (10, [.ref q1, .ref q2, .ref q3, .ref q4, .null])) :: (((([] ++ wK) ++ ([(q2, .inr (5, [.ref q1, .int (Int32.ofInt 0), .int (Int32.ofInt 0), .int (Int32.ofInt 0), .int (Int32.ofInt 0)]))])) ++ ([(q3, .inr (3, [.ref q1, .int (Int32.ofInt 0), .ref q3_q1, .ref q3_q2, .ref q3_q3, .ref q3_q4])), (q3_q1, .inl (cy.1, 8, .inl (fun _ => Int32.ofInt 0))), (q3_q2, .inl (cy.1, 8, .inl (fun _ => Int32.ofInt 0))), (q3_q3, .inl (cy.1, 8, .inl (fun _ => Int32.ofInt 0)))] ++ ((q3_q4, .inl (cy.2.2.2, 10, .inr (.inr (.inr (.inr (fun i => if i < 10 then some (q3_rq4 i) else none)))))) :: (List.range 10).map (fun i => (q3_rq4 i, .inl (cy.1, 24, .inl (fun _ => Int32.ofInt 0))))))) ++ ([(q4, .inr (0, [.ref q1, .ref q4_q1, .ref q4_q2, .int (Int32.ofInt 0)])), (q4_q1, .inr (2, [.int (Int32.ofInt 0), .ref q4_q1_q1, .ref q4_q1_q2, .ref q4_q1_q3])), (q4_q1_q1, .inl (cy.1, 8, .inl (fun _ => Int32.ofInt 0))), (q4_q1_q2, .inl (cy.1, 8, .inl (fun _ => Int32.ofInt 0))), (q4_q1_q3, .inl (cy.1, 8, .inl (fun _ => Int32.ofInt 0))), (q4_q2, .inl (cy.2.2.1, 9, .inr (.inl (fun _ => Int64.ofInt 0))))]))) (e0 := .inr (6, [.null, .null, .null, .int (Int32.ofInt 0)])) (idx := 41) (As := []) (rest := [.ref q5, .ref h0]) hS hH ci_Z_init (sg_inGT (List.mem_of_getElem? (i := 562) (by decide +kernel)) rfl) rfl (k_Z l D cy a q5 H.size ) ⟨(Nat.le_of_ble_eq_true rfl), (Nat.le_of_ble_eq_true rfl)⟩ ⟨(Nat.le_of_ble_eq_true rfl), (Nat.le_of_ble_eq_true rfl)⟩ hl.1 (Nat.le_of_ble_eq_true rfl) (by decide +kernel) (fun w1 H locs hw hH => ?_)
  obtain ⟨q5_g, q5_q1, q5_q2, q5_q3, q5_rq3, hg1, hg2, rfl⟩ := hw
  have hH : sk_H D s _ ((h0, .inr (10, [.ref q1, .ref q2, .ref q3, .ref q4, .null])) :: ((((([] ++ wK) ++ ([(q2, .inr (5, [.ref q1, .int (Int32.ofInt 0), .int (Int32.ofInt 0), .int (Int32.ofInt 0), .int (Int32.ofInt 0)]))])) ++ ([(q3, .inr (3, [.ref q1, .int (Int32.ofInt 0), .ref q3_q1, .ref q3_q2, .ref q3_q3, .ref q3_q4])), (q3_q1, .inl (cy.1, 8, .inl (fun _ => Int32.ofInt 0))), (q3_q2, .inl (cy.1, 8, .inl (fun _ => Int32.ofInt 0))), (q3_q3, .inl (cy.1, 8, .inl (fun _ => Int32.ofInt 0)))] ++ ((q3_q4, .inl (cy.2.2.2, 10, .inr (.inr (.inr (.inr (fun i => if i < 10 then some (q3_rq4 i) else none)))))) :: (List.range 10).map (fun i => (q3_rq4 i, .inl (cy.1, 24, .inl (fun _ => Int32.ofInt 0))))))) ++ ([(q4, .inr (0, [.ref q1, .ref q4_q1, .ref q4_q2, .int (Int32.ofInt 0)])), (q4_q1, .inr (2, [.int (Int32.ofInt 0), .ref q4_q1_q1, .ref q4_q1_q2, .ref q4_q1_q3])), (q4_q1_q1, .inl (cy.1, 8, .inl (fun _ => Int32.ofInt 0))), (q4_q1_q2, .inl (cy.1, 8, .inl (fun _ => Int32.ofInt 0))), (q4_q1_q3, .inl (cy.1, 8, .inl (fun _ => Int32.ofInt 0))), (q4_q2, .inl (cy.2.2.1, 9, .inr (.inl (fun _ => Int64.ofInt 0))))])) ++ ([(q5, .inr (6, [.ref q5_q1, .ref q5_q2, .ref q5_q3, .int (Int32.ofInt 0)])), (q5_q1, .inl (cy.1, 4, .inl (fun i => Int32.ofInt (q5_g (i : Int))))), (q5_q2, .inl (cy.1, 4, .inl (fun _ => Int32.ofInt 0)))] ++ ((q5_q3, .inl (cy.2.2.2, 4, .inr (.inr (.inr (.inr (fun i => if i < 4 then some (q5_rq3 i) else none)))))) :: (List.range 4).map (fun i => (q5_rq3 i, .inl (cy.1, 60, .inl (fun _ => Int32.ofInt 0)))))))) H _ := hH
  refine sk_put hS hin hH (v := .ref q5) pf_G_4 rfl rfl (Nat.le_of_ble_eq_true rfl) (by decide +kernel) (fun H locs hH => ?_)
  have hH : sk_H D s _ ((h0, .inr (10, [.ref q1, .ref q2, .ref q3, .ref q4, .ref q5])) :: ((((([] ++ wK) ++ ([(q2, .inr (5, [.ref q1, .int (Int32.ofInt 0), .int (Int32.ofInt 0), .int (Int32.ofInt 0), .int (Int32.ofInt 0)]))])) ++ ([(q3, .inr (3, [.ref q1, .int (Int32.ofInt 0), .ref q3_q1, .ref q3_q2, .ref q3_q3, .ref q3_q4])), (q3_q1, .inl (cy.1, 8, .inl (fun _ => Int32.ofInt 0))), (q3_q2, .inl (cy.1, 8, .inl (fun _ => Int32.ofInt 0))), (q3_q3, .inl (cy.1, 8, .inl (fun _ => Int32.ofInt 0)))] ++ ((q3_q4, .inl (cy.2.2.2, 10, .inr (.inr (.inr (.inr (fun i => if i < 10 then some (q3_rq4 i) else none)))))) :: (List.range 10).map (fun i => (q3_rq4 i, .inl (cy.1, 24, .inl (fun _ => Int32.ofInt 0))))))) ++ ([(q4, .inr (0, [.ref q1, .ref q4_q1, .ref q4_q2, .int (Int32.ofInt 0)])), (q4_q1, .inr (2, [.int (Int32.ofInt 0), .ref q4_q1_q1, .ref q4_q1_q2, .ref q4_q1_q3])), (q4_q1_q1, .inl (cy.1, 8, .inl (fun _ => Int32.ofInt 0))), (q4_q1_q2, .inl (cy.1, 8, .inl (fun _ => Int32.ofInt 0))), (q4_q1_q3, .inl (cy.1, 8, .inl (fun _ => Int32.ofInt 0))), (q4_q2, .inl (cy.2.2.1, 9, .inr (.inl (fun _ => Int64.ofInt 0))))])) ++ ([(q5, .inr (6, [.ref q5_q1, .ref q5_q2, .ref q5_q3, .int (Int32.ofInt 0)])), (q5_q1, .inl (cy.1, 4, .inl (fun i => Int32.ofInt (q5_g (i : Int))))), (q5_q2, .inl (cy.1, 4, .inl (fun _ => Int32.ofInt 0)))] ++ ((q5_q3, .inl (cy.2.2.2, 4, .inr (.inr (.inr (.inr (fun i => if i < 4 then some (q5_rq3 i) else none)))))) :: (List.range 4).map (fun i => (q5_rq3 i, .inl (cy.1, 60, .inl (fun _ => Int32.ofInt 0)))))))) H locs := hH
  exact k_G_tail hS hwK hg1 hg2 hH
