/-! THE REFERENCE: the odd event -/
theorem tm_any {E : TE} {O : TO} {w : Nat} (hw : ∀ e : Nat, e < E.1 → w.testBit e = !O.1.testBit e) (k v : Int) (h : Nat) : (List.range E.1).any (fun e => tm_al E k (h : Int) v e && !O.1.testBit e) = (List.range E.1).any (fun e => w.testBit e && decide (te_k E e = k ∧ te_h E e = (h : Int) ∧ (k = 2 ∨ te_n E e = v))) :=
  td_any_congr (fun e he => by
    rw [hw e he, Bool.and_comm]
    rfl)
theorem tm_an (E : TE) (w : Nat) {k : Int} (hk : k ≠ 2) (h c : Nat) : (List.range E.1).any (fun e => w.testBit e && decide (te_k E e = k ∧ te_h E e = (h : Int) ∧ (k = 2 ∨ te_n E e = (c : Int)))) = ty_up E w k E.1 h c := by
  unfold ty_up
  exact td_any_congr (fun e he => by
    congr 1
    apply decide_eq_decide.mpr
    omega)
theorem tm_af (E : TE) (w : Nat) (h : Nat) : (List.range E.1).any (fun e => w.testBit e && decide (te_k E e = 2 ∧ te_h E e = (h : Int) ∧ ((2 : Int) = 2 ∨ te_n E e = 0))) = ty_fr E w E.1 h := by
  unfold ty_fr
  exact td_any_congr (fun e he => by
    congr 1
    apply decide_eq_decide.mpr
    omega)
theorem tm_Y_pep {E : TE} {g w h c : Nat} (hw : ∀ e : Nat, e < E.1 → w.testBit e = !g.testBit e) : tm_Y E (g, (h : Int), 0, (c : Int)) = ty_pep (ty_of E w) h c := by
  have e0 : (fun (a i : Nat) => tm_t E (g, (h : Int), 0, (c : Int)) 0 (a : Int) (i : Int)) = fun a i => (ty_of E w).1 a i || (decide (a = h) && decide (i = c)) := by
    funext a i
    unfold tm_t tm_p
    rw [tm_any (O := (g, (h : Int), 0, (c : Int))) hw, tm_an E w (by decide), Bool.or_comm]
    congr 1
    rw [← Bool.decide_and]
    apply decide_eq_decide.mpr
    show ((h : Int) = (a : Int) ∧ (0 : Int) = 0 ∧ (c : Int) = (i : Int)) ↔ _
    omega
  have e1 : (fun (a i : Nat) => tm_t E (g, (h : Int), 0, (c : Int)) 1 (a : Int) (i : Int)) = (ty_of E w).2.1 := by
    funext a i
    unfold tm_t tm_p
    rw [tm_any (O := (g, (h : Int), 0, (c : Int))) hw, tm_an E w (by decide), decide_eq_false (fun z => absurd (show (0 : Int) = 1 from z.2.1) (by decide)), Bool.false_or]
    rfl
  have e2 : (fun (a : Nat) => tm_t E (g, (h : Int), 0, (c : Int)) 2 (a : Int) 0) = (ty_of E w).2.2 := by
    funext a
    unfold tm_t tm_p
    rw [tm_any (O := (g, (h : Int), 0, (c : Int))) hw, tm_af, decide_eq_false (fun z => absurd (show (0 : Int) = 2 from z.2.1) (by decide)), Bool.false_or]
    rfl
  show (_, _, _) = (_, _, _)
  rw [e0, e1, e2]
theorem tm_Y_hold {E : TE} {g w h p : Nat} (hw : ∀ e : Nat, e < E.1 → w.testBit e = !g.testBit e) : tm_Y E (g, (h : Int), 1, (p : Int)) = ty_hold (ty_of E w) h p := by
  have e0 : (fun (a i : Nat) => tm_t E (g, (h : Int), 1, (p : Int)) 0 (a : Int) (i : Int)) = (ty_of E w).1 := by
    funext a i
    unfold tm_t tm_p
    rw [tm_any (O := (g, (h : Int), 1, (p : Int))) hw, tm_an E w (by decide), decide_eq_false (fun z => absurd (show (1 : Int) = 0 from z.2.1) (by decide)), Bool.false_or]
    rfl
  have e1 : (fun (a i : Nat) => tm_t E (g, (h : Int), 1, (p : Int)) 1 (a : Int) (i : Int)) = fun a i => (ty_of E w).2.1 a i || (decide (a = h) && decide (i = p)) := by
    funext a i
    unfold tm_t tm_p
    rw [tm_any (O := (g, (h : Int), 1, (p : Int))) hw, tm_an E w (by decide), Bool.or_comm]
    congr 1
    rw [← Bool.decide_and]
    apply decide_eq_decide.mpr
    show ((h : Int) = (a : Int) ∧ (1 : Int) = 1 ∧ (p : Int) = (i : Int)) ↔ _
    omega
  have e2 : (fun (a : Nat) => tm_t E (g, (h : Int), 1, (p : Int)) 2 (a : Int) 0) = (ty_of E w).2.2 := by
    funext a
    unfold tm_t tm_p
    rw [tm_any (O := (g, (h : Int), 1, (p : Int))) hw, tm_af, decide_eq_false (fun z => absurd (show (1 : Int) = 2 from z.2.1) (by decide)), Bool.false_or]
    rfl
  show (_, _, _) = (_, _, _)
  rw [e0, e1, e2]
