/-! THE REFERENCE: type, wipe, undo, fault -/
theorem c_M_find_A {d : Nat} {A : TA} (ok : TAok A) {G : SgM} {Q : Int → SgM → Prop} (cm : cM A G)
    (post : ∀ G', cM A G' → cm_W (a_W A) G' → cm_I (a_W A) (a_Y A) 24 G' → Q 0 G') : sg_Wp 200 228 (d + 5) m_M_find 0 [(0, 2, 200)] [] G Q := by
  have e : tm_Y A.1.2.2 (0, -1, G 200 15, G 200 16) = a_Y A := tm_Y_of rfl (fun e he => by
    rw [Nat.zero_testBit]
    show (te_all A.1.2.2).testBit e = true
    unfold te_all
    rw [sg_mk_test, decide_eq_true he]
    rfl)
  refine c_M_find (E := A.1.2.2) (O := (0, -1, G 200 15, G 200 16)) ok.1.1 ok.1.2.1 ok.1.2.2 (show (0 : Nat) < 2147483648 by decide) cm.1 cm.2.1 ⟨cm.2.2.1.1, cm.2.2.1.2, rfl, rfl⟩ (fun G' f w i => post G' (cm.fs f.fs) w ?_)
  rw [e] at i
  exact i
theorem c_M_fault {d : Nat} {A : TA} (ok : TAok A) {t : Int} {G : SgM} {Q : Int → SgM → Prop} (cm : cM A G) (post : ∀ G', cM A G' → Q (a_fault A t) G') : sg_Wp 200 228 (d + 5) m_M_fault 0 [(0, 2, 200), (1, 0, t)] [] G Q := by
  unfold a_fault at post
  refine g_M_fault_0 (d := d + 3) ⟨fun ht => g_M_readsText_0 ⟨fun z => ?_, fun z => ?_⟩, fun ht => ?_⟩
  · rw [if_neg z, if_pos (by omega)] at post
    exact c_M_readsPeople ok.1.2.1 cm.1.2.1 cm.1.2.2.2 (fun G' a1 a2 _ _ => post G' (cm.fs ⟨fun c x i => a1 c (by omega) (by omega) i, fun i x => a2 i (by omega)⟩))
  · rw [if_pos (Decidable.not_not.mp z)] at post
    exact c_M_readsPosts ok.1.1 cm.1.1 cm.1.2.2.1 (fun G' a1 a2 _ _ => post G' (cm.fs ⟨fun c x i => a1 c (by omega) (by omega) i, fun i x => a2 i (by omega)⟩))
  · rw [if_neg (by omega), if_neg (by omega)] at post
    exact post G cm
