/-! MAKING: sheets -/
theorem ce_68z : sg_Ce 68 69 68 1 4 := ⟨⟨by decide, by decide⟩, by decide +kernel⟩
set_option maxRecDepth 100000 in
theorem g_A_fill_z_0 {d : Nat} {v1 : Int} {G : SgM} {Q : Int → SgM → Prop} (h : sg_Wp 68 69 d m_A_fill 5 [(0, 2, 68), (1, 0, v1), (2, 0, 0), (3, 0, 4)] [] G Q) : sg_Wp 68 69 d m_A_fill 0 [(0, 2, 68), (1, 0, v1)] [] G Q := by
  refine sg_blk [(7, 0, 0, 0, 0), (25, 0, 0, 2, 0), (1, 0, 0, 0, 0), (24, 4, 0, 0, 0), (25, 0, 0, 3, 0)] (by decide +kernel) ?_
  refine And.intro rfl (And.intro rfl (And.intro (Nat.le_of_ble_eq_true rfl) (And.intro (And.intro (Or.inl ce_68z) (by decide)) (And.intro rfl (?_)))))
  show sg_Wp 68 69 d m_A_fill 5 [(0, 2, 68), (1, 0, v1), (2, 0, 0), (3, 0, 4)] [] G Q
  exact h
set_option maxRecDepth 100000 in
theorem g_A_fill_z_5 {d : Nat} {v1 v2 v3 : Int} {G : SgM} {Q : Int → SgM → Prop} (h : (v3 ≤ v2 → (Q 0 G)) ∧ (¬ (v3 ≤ v2) → ((0 ≤ v2 ∧ v2 < 4) ∧ (sg_Wp 68 69 d m_A_fill 5 [(0, 2, 68), (1, 0, v1), (2, 0, sg_iadd v2 1), (3, 0, v3)] [] (sg_up G 68 v2 v1) Q)))) : sg_Wp 68 69 d m_A_fill 5 [(0, 2, 68), (1, 0, v1), (2, 0, v2), (3, 0, v3)] [] G Q := by
  refine sg_blk [(3, 0, 0, 2, 0), (3, 0, 0, 3, 0)] (by decide +kernel) ?_
  refine And.intro rfl (And.intro rfl (?_))
  show sg_Wp 68 69 d m_A_fill 7 [(0, 2, 68), (1, 0, v1), (2, 0, v2), (3, 0, v3)] [(0, v3), (0, v2)] G Q
  refine sg_icmp_ge (off := 13) (tgt := 20) (by decide +kernel) (by decide) ⟨fun q1 => ?_, fun q1 => ?_⟩
  · exact sg_vret (by decide +kernel) rfl ((h.1 q1))
  · refine sg_blk [(1, 0, 0, 0, 0), (3, 0, 0, 2, 0), (3, 0, 0, 1, 0), (18, 4, 0, 0, 0), (31, 1, 0, 2, 0)] (by decide +kernel) ?_
    refine And.intro (Nat.le_of_ble_eq_true rfl) (And.intro rfl (And.intro rfl (And.intro ce_68z (And.intro (h.2 q1).1 (And.intro rfl (?_))))))
    show sg_Wp 68 69 d m_A_fill 17 [(0, 2, 68), (1, 0, v1), (2, 0, sg_iadd v2 1), (3, 0, v3)] [] (sg_up G 68 v2 v1) Q
    refine sg_goto (off := -12) (tgt := 5) (by decide +kernel) (by decide) ?_
    exact (h.2 q1).2
theorem c_A_fill_z {d : Nat} {v : Int} {G : SgM} {Q : Int → SgM → Prop} (post : ∀ G', (∀ i : Int, 0 ≤ i → i < 4 → G' 68 i = v) → Q 0 G') : sg_Wp 68 69 d m_A_fill 0 [(0, 2, 68), (1, 0, v)] [] G Q := by
  have loop : ∀ (r m : Nat), m + r = 4 → ∀ G1 : SgM, (∀ i : Int, 0 ≤ i → i < (m : Int) → G1 68 i = v) → sg_Wp 68 69 d m_A_fill 5 [(0, 2, 68), (1, 0, v), (2, 0, (m : Int)), (3, 0, 4)] [] G1 Q := by
    intro r
    induction r with
    | zero =>
      intro m hm G1 f2
      exact g_A_fill_z_5 ⟨fun _ => post G1 (fun i h0 h1 => f2 i h0 (by omega)), fun q => absurd (by omega) q⟩
    | succ r ih =>
      intro m hm G1 f2
      refine g_A_fill_z_5 ⟨fun q => absurd q (by omega), fun _ => ⟨by omega, ?_⟩⟩
      rw [sg_inc1 m (by omega)]
      refine ih (m + 1) (by omega) _ (fun i h0 h1 => ?_)
      by_cases e : i = (m : Int)
      · rw [e]; exact sg_up_at
      · rw [sg_upi e]
        exact f2 i h0 (by omega)
  exact g_A_fill_z_0 (loop 4 0 (by omega) G (fun i h0 h1 => absurd h1 (by omega)))
theorem sk_can0 : sg_can (fun _ _ => 0) := by
  intro c i
  show if _ then sg_64 0 else sg_32 0
  split
  · rfl
  · rfl
/-- one cell of a world has changed -/
theorem sk_set {D : va_G} {s : State} {A : Nat → Prop} {ws : va_W} {H H1 : Heap} {locs locs1 : List Loc} {k q : Nat} {e0 e1 : va_E} (hH : sk_H D s A ws H locs) (hk : ws[k]? = some (q, e0)) (he : va_at D vwCl (q, e1) H1) (ho : ∀ x : Nat, x < H.size → x ≠ q → H1[x]? = H[x]?) (hS : va_S A s.heap H1 locs1) : sk_H D s A (ws.set k (q, e1)) H1 locs1 := by
  have hl := (List.getElem?_eq_some_iff.mp hk).1
  refine ⟨fun i x hx => ?_, hH.2.1.set hk, hS⟩
  by_cases e : i = k
  · subst e
    rw [List.getElem?_set_self hl] at hx
    cases hx
    exact he
  · rw [List.getElem?_set_ne (Ne.symm e)] at hx
    exact (hH.1 i x hx).kept (ho x.1 (hH.1 i x hx).lt (fun z => e (hH.2.1.1 i k x (q, e0) hx hk z)))

def m_Z_init : SgY := (6, yX6_init, cX6_init, 1, none)
theorem ci_Z_init : sk_CI m_Z_init 0 := ⟨sg_inGT (List.mem_of_getElem? (i := 564) (by decide +kernel)) rfl, rfl, sg_inGT (List.mem_of_getElem? (i := 19) (by decide +kernel)) rfl, sg_inGT (List.mem_of_getElem? (i := 563) (by decide +kernel)) rfl, rfl, ⟨by decide +kernel, by decide +kernel, by decide +kernel⟩, by decide⟩
theorem pf_Z_0 : sk_PF m_Z_init.1 11 6 0 (.array .int) := ⟨RX6, TX6, 4, tyX6, rfl, tyX6_ok, nmX6, by decide, sg_l6, sg_inGT (List.mem_of_getElem? (i := 568) (by decide +kernel)) rfl, rfl, rfl, by decide +kernel⟩
theorem pf_Z_1 : sk_PF m_Z_init.1 15 6 1 (.array .int) := ⟨RX6, TX6, 4, tyX6, rfl, tyX6_ok, nmX6, by decide, sg_l6, sg_inGT (List.mem_of_getElem? (i := 569) (by decide +kernel)) rfl, rfl, rfl, by decide +kernel⟩
theorem pf_Z_2 : sk_PF m_Z_init.1 20 6 2 (.array (.array .int)) := ⟨RX6, TX6, 4, tyX6, rfl, tyX6_ok, nmX6, by decide, sg_l6, sg_inGT (List.mem_of_getElem? (i := 570) (by decide +kernel)) rfl, rfl, rfl, by decide +kernel⟩
def w1_Z (cy : SgC) (h0 : Nat) : va_W → Prop := fun w => ∃ (g : Int → Int) (q1 q2 q3 : Nat) (rq3 : Nat → Nat), (∀ i : Int, 0 ≤ i → i < 4 → g i = -1) ∧ (∀ i : Int, sg_32 (g i)) ∧ w = (h0, .inr (6, [.ref q1, .ref q2, .ref q3, .int (Int32.ofInt 0)])) :: ([(q1, .inl (cy.1, 4, .inl (fun i => Int32.ofInt (g (i : Int))))), (q2, .inl (cy.1, 4, .inl (fun _ => Int32.ofInt 0)))] ++ ((q3, .inl (cy.2.2.2, 4, .inr (.inr (.inr (.inr (fun i => if i < 4 then some (rq3 i) else none)))))) :: (List.range 4).map (fun i => (rq3 i, .inl (cy.1, 60, .inl (fun _ => Int32.ofInt 0))))))
set_option maxRecDepth 100000 in
theorem k_Z_tail {p : Program} {l : Launch} {e : Env} {s : State} {m : MethodId} {args : Array Value} {below : List Frame} {meth : Method} {c : Code} {D : va_G} {cy : SgC} {a : SgA} {h0 sz q1 q2 q3 : Nat} {rq3 : Nat → Nat} {H : Heap} {locs : List Loc} {ls : Array Slot} (hS : sk_S m_Z_init D cy a (va_A [(h0, .inr (6, [.null, .null, .null, .int (Int32.ofInt 0)]))] sz) p s m args meth c) (hH : sk_H D s (va_A [(h0, .inr (6, [.null, .null, .null, .int (Int32.ofInt 0)]))] sz) ((h0, .inr (6, [.ref q1, .ref q2, .ref q3, .int (Int32.ofInt 0)])) :: ([(q1, .inl (cy.1, 4, .inl (fun _ => Int32.ofInt 0))), (q2, .inl (cy.1, 4, .inl (fun _ => Int32.ofInt 0)))] ++ ((q3, .inl (cy.2.2.2, 4, .inr (.inr (.inr (.inr (fun i => if i < 4 then some (rq3 i) else none)))))) :: (List.range 4).map (fun i => (rq3 i, .inl (cy.1, 60, .inl (fun _ => Int32.ofInt 0))))))) H locs) (hsz : ls.size = m_Z_init.2.2.2.1) :
    W p l e (sk_rm 1 7 252) s m args below meth c H locs 7 252 (MQ below (sk_Qc D h0 (.inr (6, [.null, .null, .null, .int (Int32.ofInt 0)])) sz (w1_Z cy h0)) args s 7 252 (va_A [(h0, .inr (6, [.null, .null, .null, .int (Int32.ofInt 0)]))] sz)) (F0 m 34 ls [.int (Int32.ofInt (-1)), .ref q1]) := by
  have one : ∀ z : Int, sg_In 68 69 z → z = 68 := fun z hz => by
    have h1 := hz.1
    have h2 := hz.2
    omega
  have hP : va_P D vwCl (sg_W cy ((fun _ => q1), a.2) (fun _ _ => 0) 68 69) H := sk_W_of (fun z hz => by
    rw [one z hz, sg_e1 (n := 4) (by decide +kernel)]
    exact hH.1 1 _ rfl)
  have hD : va_D (sg_A 68 69 ((fun _ => q1), a.2)) (sg_W cy ((fun _ => q1), a.2) (fun _ _ => 0) 68 69) := sk_D_of (fun z z' hz hz' _ => by rw [one z hz, one z' hz'])
  have hA : ∀ q, sg_A 68 69 ((fun _ => q1), a.2) q → va_A _ sz q := fun q hq => by
    obtain ⟨z, hz, rfl⟩ := hq
    exact hH.2.1.2 1 _ rfl
  refine sg_callGS (lo := 68) (N := 69) (own := 6) (a := ((fun _ => q1), a.2)) (k := 0) (idx := 23) (G := fun _ _ => 0) (y' := m_A_fill) (av := [(2, 68), (0, -1)]) (rest := []) (Q1 := fun _ G' => ∀ i : Int, 0 ≤ i → i < 4 → G' 68 i = -1) hS.1.1 hS.1.2.1 hS.1.2.2.1 hS.1.2.2.2.2.2.1 hS.1.2.2.2.2.2.2 hS.2.1 hS.2.2.2.1 hP hD sk_can0 hH.2.2 hA (by decide +kernel) cs_A_fill (sg_inGT (List.mem_of_getElem? (i := 567) (by decide +kernel)) rfl) rfl (by decide) (fun v hv => by
    simp only [List.mem_cons, List.not_mem_nil, or_false] at hv
    rcases hv with rfl | rfl
    · trivial
    · rfl) ⟨Nat.le_of_ble_eq_true rfl, Nat.le_of_ble_eq_true rfl⟩ ⟨Nat.le_of_ble_eq_true rfl, Nat.le_of_ble_eq_true rfl⟩ hsz (Nat.le_of_ble_eq_true rfl) (c_A_fill_z (fun G' h => h)) (fun v G' H1 locs1 _ hq hP1 hcan hk hS1 => ?_)
  have hat := sk_W_in hP1 (c := 68) ⟨by decide, by decide⟩
  rw [sg_e1 (n := 4) (by decide +kernel)] at hat
  have hH1 := sk_set (k := 1) (q := q1) hH rfl hat (fun x hx hne => hk x hx (fun hz => by
    obtain ⟨z, _, hz⟩ := hz
    exact hne hz.symm)) hS1
  refine sk_end hS rfl hH1 ⟨fun i => G' 68 i, q1, q2, q3, rq3, hq, fun i => ?_, rfl⟩ (Nat.le_refl _) (Nat.le_refl _) (by decide +kernel)
  have := hcan 68 i
  rw [if_neg (by decide +kernel)] at this
  exact this
set_option maxHeartbeats 4000000 in
set_option maxRecDepth 100000 in
theorem k_Z (l : Launch) (D : va_G) (cy : SgC) (a : SgA) (h0 sz : Nat) : Met l m_Z_init.2.1 (sg_ws m_Z_init) (sk_rm 1 7 252) (sk_Pc D cy a [] h0 (.inr (6, [.null, .null, .null, .int (Int32.ofInt 0)])) sz) (sk_Qc D h0 (.inr (6, [.null, .null, .null, .int (Int32.ofInt 0)])) sz (w1_Z cy h0)) 7 252 (va_A [(h0, .inr (6, [.null, .null, .null, .int (Int32.ofInt 0)]))] sz) := by
  refine sk_met (y := m_Z_init) rfl (by decide +kernel) rfl (Nat.le_of_ble_eq_true rfl) l D cy a h0 _ sz 1 7 252 _ (fun p e s m args below meth c ls _ hin hS hH hl => ?_)
  refine lv_aload_n (k := 0) (x := h0) hS.1.1 hS.1.2.1 (by decide +kernel) rfl (lv_at hl 0 rfl) ?_
  refine sk_obj (i := 3) hS (sg_inGT (List.mem_of_getElem? (i := 565) (by decide +kernel)) rfl) hl.1 (by decide +kernel) ⟨(Nat.le_of_ble_eq_true rfl), (Nat.le_of_ble_eq_true rfl)⟩ rfl ?_
  refine lv_aload_n (k := 0) (x := h0) hS.1.1 hS.1.2.1 (by decide +kernel) rfl (lv_at hl 0 rfl) ?_
  refine lv_iconst (n := 4) (v := Int32.ofInt (4)) hS.1.1 hS.1.2.1 (by decide +kernel) rfl ?_
  refine sk_newI hS hH (N := 4) (by decide +kernel) (by decide +kernel) (by decide) (Nat.le_of_ble_eq_true rfl) (Nat.le_of_ble_eq_true rfl) (by decide +kernel) (fun q1 H hH => ?_)
  have hH : sk_H D s _ ((h0, .inr (6, [.null, .null, .null, .int (Int32.ofInt 0)])) :: [(q1, .inl (cy.1, 4, .inl (fun _ => Int32.ofInt 0)))]) H _ := hH
  refine sk_put hS hin hH (v := .ref q1) pf_Z_0 rfl rfl (Nat.le_of_ble_eq_true rfl) (by decide +kernel) (fun H locs hH => ?_)
  have hH : sk_H D s _ ((h0, .inr (6, [.ref q1, .null, .null, .int (Int32.ofInt 0)])) :: [(q1, .inl (cy.1, 4, .inl (fun _ => Int32.ofInt 0)))]) H locs := hH
  refine lv_aload_n (k := 0) (x := h0) hS.1.1 hS.1.2.1 (by decide +kernel) rfl (lv_at hl 0 rfl) ?_
  refine lv_iconst (n := 4) (v := Int32.ofInt (4)) hS.1.1 hS.1.2.1 (by decide +kernel) rfl ?_
  refine sk_newI hS hH (N := 4) (by decide +kernel) (by decide +kernel) (by decide) (Nat.le_of_ble_eq_true rfl) (Nat.le_of_ble_eq_true rfl) (by decide +kernel) (fun q2 H hH => ?_)
  have hH : sk_H D s _ ((h0, .inr (6, [.ref q1, .null, .null, .int (Int32.ofInt 0)])) :: [(q1, .inl (cy.1, 4, .inl (fun _ => Int32.ofInt 0))), (q2, .inl (cy.1, 4, .inl (fun _ => Int32.ofInt 0)))]) H _ := hH
  refine sk_put hS hin hH (v := .ref q2) pf_Z_1 rfl rfl (Nat.le_of_ble_eq_true rfl) (by decide +kernel) (fun H locs hH => ?_)
  have hH : sk_H D s _ ((h0, .inr (6, [.ref q1, .ref q2, .null, .int (Int32.ofInt 0)])) :: [(q1, .inl (cy.1, 4, .inl (fun _ => Int32.ofInt 0))), (q2, .inl (cy.1, 4, .inl (fun _ => Int32.ofInt 0)))]) H locs := hH
  refine lv_aload_n (k := 0) (x := h0) hS.1.1 hS.1.2.1 (by decide +kernel) rfl (lv_at hl 0 rfl) ?_
  refine lv_iconst (n := 4) (v := Int32.ofInt (4)) hS.1.1 hS.1.2.1 (by decide +kernel) rfl ?_
  refine lv_bipush (n := 60) (v := Int32.ofInt 60) hS.1.1 hS.1.2.1 (by decide +kernel) (by decide +kernel) ?_
  refine sk_mna hS hH (N' := 4) (K' := 60) (idx := 18) (sg_inGT (List.mem_of_getElem? (i := 566) (by decide +kernel)) rfl) (by decide +kernel) (by decide +kernel) (by decide +kernel) (by decide +kernel) (by decide) (by decide) (Nat.le_of_ble_eq_true rfl) (Nat.le_of_ble_eq_true rfl) (by decide +kernel) (fun q3 rq3 H hH => ?_)
  have hH : sk_H D s _ ((h0, .inr (6, [.ref q1, .ref q2, .null, .int (Int32.ofInt 0)])) :: ([(q1, .inl (cy.1, 4, .inl (fun _ => Int32.ofInt 0))), (q2, .inl (cy.1, 4, .inl (fun _ => Int32.ofInt 0)))] ++ ((q3, .inl (cy.2.2.2, 4, .inr (.inr (.inr (.inr (fun i => if i < 4 then some (rq3 i) else none)))))) :: (List.range 4).map (fun i => (rq3 i, .inl (cy.1, 60, .inl (fun _ => Int32.ofInt 0))))))) H _ := hH
  refine sk_put hS hin hH (v := .ref q3) pf_Z_2 rfl rfl (Nat.le_of_ble_eq_true rfl) (by decide +kernel) (fun H locs hH => ?_)
  have hH : sk_H D s _ ((h0, .inr (6, [.ref q1, .ref q2, .ref q3, .int (Int32.ofInt 0)])) :: ([(q1, .inl (cy.1, 4, .inl (fun _ => Int32.ofInt 0))), (q2, .inl (cy.1, 4, .inl (fun _ => Int32.ofInt 0)))] ++ ((q3, .inl (cy.2.2.2, 4, .inr (.inr (.inr (.inr (fun i => if i < 4 then some (rq3 i) else none)))))) :: (List.range 4).map (fun i => (rq3 i, .inl (cy.1, 60, .inl (fun _ => Int32.ofInt 0))))))) H locs := hH
  refine lv_aload_n (k := 0) (x := h0) hS.1.1 hS.1.2.1 (by decide +kernel) rfl (lv_at hl 0 rfl) ?_
  refine sk_get hS hH (idx := 11) (k := 0) (x := q1) ⟨RX6, TX6, 4, rfl, rfl, by decide, sg_l6, sg_inGT (List.mem_of_getElem? (i := 568) (by decide +kernel)) rfl⟩ rfl (by decide +kernel) ?_
  refine lv_iconst (n := -1) (v := Int32.ofInt (-1)) hS.1.1 hS.1.2.1 (by decide +kernel) rfl ?_
  exact k_Z_tail hS hH hl.1
