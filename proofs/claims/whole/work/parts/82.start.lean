/-! THE LAW: its start -/
theorem lw_X {p : Program} {s : State} {m : MethodId} {meth : Method} {c : Code} {b L : Nat} {xs : Nat → Int32} (C0 : lw_At p s m meth c b L xs) : ∃ t : (Nat → Nat) × (Nat → Nat) × Nat, ∀ f : Int → Nat, sg_X (f, t) (fun q => s.heap.size ≤ q) s s.heap := by
  obtain ⟨hx, hb, hr, hml, hown, hts, hX, hbl, hlocks, hgv⟩ := C0
  have hs := flat_of_before _ hgv
  have hG : ∀ w ∈ tables_1, w.before #[Value.ref b] s = true := fun w hw => hts w (List.mem_append_right _ hw)
  have hA : ∀ z : Nat, z < s.heap.size → ¬ (fun q => s.heap.size ≤ q) z := fun z hz => Nat.not_le.mpr hz
  have m1 : ∀ i : Nat, i < 6 → Cond.exactly (.string "SneezeGuard$Text" (sg_si.getD i 0)) "java/lang/String" ∈ flatC (Jvm.Cond.and given_1 narrow_1) := by decide +kernel
  have m2 : ∀ i : Nat, i < 6 → Cond.eq (.field (.string "SneezeGuard$Text" (sg_si.getD i 0)) "java/lang/String" "coder" "B") (.int 0) ∈ flatC (Jvm.Cond.and given_1 narrow_1) := by decide +kernel
  have m3 : ∀ i : Nat, i < 6 → Cond.arrayOf (.field (.string "SneezeGuard$Text" (sg_si.getD i 0)) "java/lang/String" "value" "[B") .byte ∈ flatC (Jvm.Cond.and given_1 narrow_1) := by decide +kernel
  have m4 : ∀ i : Nat, i < 6 → Cond.eq (.length (.field (.string "SneezeGuard$Text" (sg_si.getD i 0)) "java/lang/String" "value" "[B")) (.int (Int32.ofNat (sg_len.getD i 0))) ∈ flatC (Jvm.Cond.and given_1 narrow_1) := by decide +kernel
  have m5 : ∀ i : Nat, i < 6 → ∀ j : Nat, j < sg_len.getD i 0 → Cond.eq (.elem (.field (.string "SneezeGuard$Text" (sg_si.getD i 0)) "java/lang/String" "value" "[B") (.int (Int32.ofNat j))) (.int ((sg_byt.getD i []).getD j 0)) ∈ flatC (Jvm.Cond.and given_1 narrow_1) := by decide +kernel
  have m6 : ∀ i : Nat, i < 6 → ∀ j : Nat, j < 6 → i ≠ j → (Cond.not (Cond.eq (.string "SneezeGuard$Text" (sg_si.getD i 0)) (.string "SneezeGuard$Text" (sg_si.getD j 0))) ∈ flatC (Jvm.Cond.and given_1 narrow_1) ∨ Cond.not (Cond.eq (.string "SneezeGuard$Text" (sg_si.getD j 0)) (.string "SneezeGuard$Text" (sg_si.getD i 0))) ∈ flatC (Jvm.Cond.and given_1 narrow_1)) := by decide +kernel
  have m7 : ∀ i : Nat, i < 6 → Cond.stringRef "SneezeGuard$Text" (sg_si.getD i 0) (sg_tx.getD i "") ∈ tables_1 := by decide +kernel
  have m8 : ∀ j : Nat, j < 3 → Cond.eq (.elem (.static "SneezeGuard$Wall" "LOUD" "[I") (.int (Int32.ofNat j))) (.int (sg_loud j)) ∈ flatC (Jvm.Cond.and given_1 narrow_1) := by decide +kernel
  have m9 : ∀ q ∈ sg_nl, Cond.methodLinkNest (sg_cn q.1) q.2.1 q.2.2 "SneezeGuard" ∈ tables_1 := by decide +kernel
  obtain ⟨adK, adV, hV, hev⟩ := vk_Sof (args := #[Value.ref b]) (s := s) (N := 6) (tm := fun i => .string "SneezeGuard$Text" (sg_si.getD i 0)) (len := sg_len) (byt := sg_byt) (A := fun q => s.heap.size ≤ q) (by decide +kernel) (fun i hi => hs _ (m1 i hi)) (fun i hi => hs _ (m2 i hi)) (fun i hi => hs _ (m3 i hi)) (fun i hi => hs _ (m4 i hi)) (fun i hi j hj => hs _ (m5 i hi j hj)) (fun i j hi hj hne => (m6 i hi j hj hne).elim (fun h => Or.inl (hs _ h)) (fun h => Or.inr (hs _ h))) hA
  obtain ⟨t, ht, hT⟩ := va_Tof (args := #[Value.ref b]) (s := s) (tm := .static "SneezeGuard$Wall" "LOUD" "[I") (ty := .int) (N := 3) (f := fun j => .int (sg_loud j)) (A := fun q => s.heap.size ≤ q) (by decide) (hs _ (by decide +kernel)) (va_eqt (hs _ (by decide +kernel))) (fun j hj => va_eqt (hs _ (m8 j hj))) hA
  refine ⟨(adK, adV, t), fun f => ⟨fun i hi => vk_R.of (hG _ (m7 i hi)) (hev i hi), hV, ?_, ?_, hT, fun q hq => va_Nw.of rfl (hG _ (m9 q hq))⟩⟩
  · exact va_Zof (hG _ (List.mem_of_getElem? (i := 278) (by decide +kernel))) (hG _ (List.mem_of_getElem? (i := 8) (by decide +kernel))) (va_eqi (hs _ (by decide +kernel))) hA
  · exact va_Zof (hG _ (List.mem_of_getElem? (i := 360) (by decide +kernel))) (hG _ (List.mem_of_getElem? (i := 4) (by decide +kernel))) ht hA
theorem lw_U {p : Program} {s : State} {m : MethodId} {meth : Method} {c : Code} {b L : Nat} {xs : Nat → Int32} (C0 : lw_At p s m meth c b L xs) : sk_U s := by
  obtain ⟨hx, hb, hr, hml, hown, hts, hX, hbl, hlocks, hgv⟩ := C0
  have hG : ∀ w ∈ tables_1, w.before #[Value.ref b] s = true := fun w hw => hts w (List.mem_append_right _ hw)
  have m9 : ∀ q ∈ sk_nl, Cond.methodLinkNest (sg_cn q.1) q.2.1 q.2.2 "SneezeGuard" ∈ tables_1 := by decide +kernel
  exact ⟨over_moved (Vm.Alike.refl s.vm) (hG (.arrayOver (.array .int)) (List.mem_of_getElem? (i := 517) (by decide +kernel))), fun q hq => va_Nw.of rfl (hG _ (m9 q hq))⟩
theorem lw_K {p : Program} {s : State} {m : MethodId} {meth : Method} {c : Code} {b L : Nat} {xs : Nat → Int32} (C0 : lw_At p s m meth c b L xs) : ∃ (D : va_G) (cy : SgC), va_K D vwCl (sg_tys cy) s := by
  obtain ⟨hx, hb, hr, hml, hown, hts, hX, hbl, hlocks, hgv⟩ := C0
  have hG : ∀ w ∈ sg_GT, w.before #[Value.ref b] s = true := fun w hw => hts w (List.mem_filter.mp hw).1
  have hT : ∀ w ∈ tables_1, w.before #[Value.ref b] s = true := fun w hw => hts w (List.mem_append_right _ hw)
  have hc : ∀ k : Nat, ∃ z : ClassId × (Nat → Nat), ∀ q : vw_C, vwCl[k]? = some q → u_Kn s q.1 q.2.1 q.2.2 z.1 z.2 := by
    intro k
    by_cases hk : k < 12
    · rcases (show k = 0 ∨ k = 1 ∨ k = 2 ∨ k = 3 ∨ k = 4 ∨ k = 5 ∨ k = 6 ∨ k = 7 ∨ k = 8 ∨ k = 9 ∨ k = 10 ∨ k = 11 by omega) with rfl | rfl | rfl | rfl | rfl | rfl | rfl | rfl | rfl | rfl | rfl | rfl
      · obtain ⟨cC, iS, h⟩ := u_known hG sg_l0 (hG (.instantiable RX0 4) (sg_inGT (List.mem_of_getElem? (i := 539) (by decide +kernel)) rfl))
        exact ⟨(cC, iS), fun q hq => by cases hq; exact h⟩
      · obtain ⟨cC, iS, h⟩ := u_known hG sg_l1 (hG (.instantiable RX1 17) (sg_inGT (List.mem_of_getElem? (i := 161) (by decide +kernel)) rfl))
        exact ⟨(cC, iS), fun q hq => by cases hq; exact h⟩
      · obtain ⟨cC, iS, h⟩ := u_known hG sg_l2 (hG (.instantiable RX2 4) (sg_inGT (List.mem_of_getElem? (i := 112) (by decide +kernel)) rfl))
        exact ⟨(cC, iS), fun q hq => by cases hq; exact h⟩
      · obtain ⟨cC, iS, h⟩ := u_known hG sg_l3 (hG (.instantiable RX3 6) (sg_inGT (List.mem_of_getElem? (i := 511) (by decide +kernel)) rfl))
        exact ⟨(cC, iS), fun q hq => by cases hq; exact h⟩
      · obtain ⟨cC, iS, h⟩ := u_known hG sg_l4 (hG (.instantiable RX4 8) (sg_inGT (List.mem_of_getElem? (i := 31) (by decide +kernel)) rfl))
        exact ⟨(cC, iS), fun q hq => by cases hq; exact h⟩
      · obtain ⟨cC, iS, h⟩ := u_known hG sg_l5 (hG (.instantiable RX5 5) (sg_inGT (List.mem_of_getElem? (i := 485) (by decide +kernel)) rfl))
        exact ⟨(cC, iS), fun q hq => by cases hq; exact h⟩
      · obtain ⟨cC, iS, h⟩ := u_known hG sg_l6 (hG (.instantiable RX6 4) (sg_inGT (List.mem_of_getElem? (i := 561) (by decide +kernel)) rfl))
        exact ⟨(cC, iS), fun q hq => by cases hq; exact h⟩
      · obtain ⟨cC, iS, h⟩ := u_known hG sg_l7 (hG (.instantiable RX7 4) (sg_inGT (List.mem_of_getElem? (i := 37) (by decide +kernel)) rfl))
        exact ⟨(cC, iS), fun q hq => by cases hq; exact h⟩
      · obtain ⟨cC, iS, h⟩ := u_known hG sg_l8 (hG (.instantiable RX8 9) (sg_inGT (List.mem_of_getElem? (i := 58) (by decide +kernel)) rfl))
        exact ⟨(cC, iS), fun q hq => by cases hq; exact h⟩
      · obtain ⟨cC, iS, h⟩ := u_known hG sg_l9 (hG (.instantiable RX9 3) (sg_inGT (List.mem_of_getElem? (i := 139) (by decide +kernel)) rfl))
        exact ⟨(cC, iS), fun q hq => by cases hq; exact h⟩
      · obtain ⟨cC, iS, h⟩ := u_known hG sg_l10 (hG (.instantiable RX10 5) (sg_inGT (List.mem_of_getElem? (i := 23) (by decide +kernel)) rfl))
        exact ⟨(cC, iS), fun q hq => by cases hq; exact h⟩
      · obtain ⟨cC, iS, h⟩ := u_known hG sg_l11 (hG (.instantiable RX11 37) (sg_inGT (List.mem_of_getElem? (i := 965) (by decide +kernel)) rfl))
        exact ⟨(cC, iS), fun q hq => by cases hq; exact h⟩
    · refine ⟨(0, fun _ => 0), fun q hq => ?_⟩
      have : k < vwCl.length := (List.getElem?_eq_some_iff.mp hq).1
      have hl : vwCl.length = 12 := rfl
      omega
  obtain ⟨cI, kI, oI, i1, i2, i3⟩ := Cond.arrayClass_spec (hT (.arrayClass .int) (List.mem_of_getElem? (i := 56) (by decide +kernel)))
  obtain ⟨cB, kB, oB, b1, b2, b3⟩ := Cond.arrayClass_spec (hT (.arrayClass .boolean) (List.mem_of_getElem? (i := 159) (by decide +kernel)))
  obtain ⟨cJ, kJ, oJ, j1, j2, j3⟩ := Cond.arrayClass_spec (hT (.arrayClass .long) (List.mem_of_getElem? (i := 559) (by decide +kernel)))
  obtain ⟨oR, cR, kR, r0, r00, r2, r3, r1⟩ := arrayOverA_spec (hT (.arrayOver (.array .int)) (List.mem_of_getElem? (i := 517) (by decide +kernel)))
  refine ⟨(fun k => (Classical.choose (hc k)).1, fun k => (Classical.choose (hc k)).2), (cI, cB, cJ, cR), fun k q hq => Classical.choose_spec (hc k) q hq, fun k q hk => ?_⟩
  have hk4 : k < 4 := (List.getElem?_eq_some_iff.mp hk).1
  rcases (show k = 0 ∨ k = 1 ∨ k = 2 ∨ k = 3 by omega) with rfl | rfl | rfl | rfl
  · cases hk
    exact ⟨fun n z => ⟨fun k h => (by cases h), kI, i2, oI, i3⟩, i1⟩
  · cases hk
    exact ⟨fun n z => ⟨fun k h => (by cases h), kB, b2, oB, b3⟩, b1⟩
  · cases hk
    exact ⟨fun n z => ⟨fun k h => (by cases h), kJ, j2, oJ, j3⟩, j1⟩
  · cases hk
    exact ⟨fun n z => ⟨fun k h => (by cases h), kR, r2, oR, r3⟩, r1⟩
/-- a cell under another numbering of addresses that agrees where it looks -/
theorem sk_at_re {D : va_G} {cy : SgC} {f f' : Int → Nat} {t : (Nat → Nat) × (Nat → Nat) × Nat} {G : SgM} {c : Int} {H : Heap} (h0 : f' c = f c) (hr : (sg_sh c).1 = 0 → ∀ k : Nat, k < sg_nf (sg_sh c).2.toNat → sg_ft (sg_sh c).2.toNat k ≠ 0 → f' (sg_rr c k) = f (sg_rr c k)) (h5 : (sg_sh c).1 < 5) (hq : (sg_sh c).1 = 4 → ∀ i : Nat, i < (sg_sh c).2.toNat → f' (sg_qb c + (i : Int)) = f (sg_qb c + (i : Int)))
    (h : va_at D vwCl (f c, sg_e cy (f, t) G c) H) : va_at D vwCl (f' c, sg_e cy (f', t) G c) H := by
  rw [h0]
  rcases (show (sg_sh c).1 = 0 ∨ (sg_sh c).1 = 1 ∨ (sg_sh c).1 = 2 ∨ (sg_sh c).1 = 3 ∨ (sg_sh c).1 = 4 by omega) with e0 | e0 | e0 | e0 | e0
  · have e : sg_sh c = (0, (sg_sh c).2) := by rw [← e0]
    rw [sg_e0 e] at h ⊢
    have ef : sg_fs (f', t) (sg_sh c).2.toNat c G = sg_fs (f, t) (sg_sh c).2.toNat c G := by
      unfold sg_fs
      apply List.map_congr_left
      intro k hk
      have hk := List.mem_range.mp hk
      unfold sg_fv
      by_cases z : sg_ft (sg_sh c).2.toNat k = 0
      · rw [if_pos z, if_pos z]
      · rw [if_neg z, if_neg z]
        show Value.ref (f' _) = Value.ref (f _)
        rw [hr e0 k hk z]
    rw [ef]
    exact h
  · have e : sg_sh c = (1, (sg_sh c).2) := by rw [← e0]
    rw [sg_e1 e] at h ⊢
    exact h
  · have e : sg_sh c = (2, (sg_sh c).2) := by rw [← e0]
    rw [sg_e2 e] at h ⊢
    exact h
  · have e : sg_sh c = (3, (sg_sh c).2) := by rw [← e0]
    rw [sg_e3 e] at h ⊢
    exact h
  · have e : sg_sh c = (4, (sg_sh c).2) := by rw [← e0]
    rw [sg_e4 e] at h ⊢
    refine va_at.inl h (show arrV cy.2.2.2 (sg_sh c).2.toNat (fun j => va_rf (some (f (sg_qb c + (j : Int))))) = arrV cy.2.2.2 (sg_sh c).2.toNat (fun j => va_rf (some (f' (sg_qb c + (j : Int))))) from sk_arrV (fun i hi => ?_))
    rw [hq e0 i hi]
theorem lw_t75 : ∀ z : Nat, z < 75 → (sg_sh (z : Int)).1 < 5 ∧ (sg_sh (z : Int)).2.toNat ≤ 256 ∧ ((sg_sh (z : Int)).1 = 0 → ∀ k : Nat, k < sg_nf (sg_sh (z : Int)).2.toNat → sg_ft (sg_sh (z : Int)).2.toNat k ≠ 0 → 0 ≤ sg_rr (z : Int) k ∧ sg_rr (z : Int) k < 75) ∧ ((sg_sh (z : Int)).1 = 4 → 0 ≤ sg_qb (z : Int) ∧ sg_qb (z : Int) + (sg_sh (z : Int)).2 ≤ 75) := by decide +kernel
theorem lw_t228 : ∀ z : Nat, z < 28 → (sg_sh ((200 + z : Nat) : Int)).1 < 4 ∧ ((sg_sh ((200 + z : Nat) : Int)).1 = 0 → ∀ k : Nat, k < sg_nf (sg_sh ((200 + z : Nat) : Int)).2.toNat → sg_ft (sg_sh ((200 + z : Nat) : Int)).2.toNat k ≠ 0 → 200 ≤ sg_rr ((200 + z : Nat) : Int) k ∧ sg_rr ((200 + z : Nat) : Int) k < 228) := by decide +kernel
def lw_adr (f g : Int → Nat) : Int → Nat := fun c => if c < 200 then f c else g c
set_option maxRecDepth 100000 in
theorem lw_low {D : va_G} {cy : SgC} {f g : Int → Nat} {t : (Nat → Nat) × (Nat → Nat) × Nat} {G : SgM} {H : Heap} (h : va_P D vwCl (sg_W cy (f, t) G 0 75) H) : va_P D vwCl (sg_W cy (lw_adr f g, t) G 0 75) H := sk_W_of (fun c hc => by
  have h1 := sk_W_in h hc
  obtain ⟨c1, c2⟩ := hc
  obtain ⟨z, rfl⟩ := Int.eq_ofNat_of_zero_le (show 0 ≤ c by omega)
  have tz := lw_t75 z (by omega)
  have lo : ∀ x : Int, x < 75 → lw_adr f g x = f x := fun x hx => if_pos (by omega)
  have h1 : va_at D vwCl (f (z : Int), sg_e cy (f, t) G (z : Int)) H := h1
  show va_at D vwCl (lw_adr f g (z : Int), sg_e cy (lw_adr f g, t) G (z : Int)) H
  exact sk_at_re (f := f) (f' := lw_adr f g) (c := (z : Int)) (lo (z : Int) (by omega)) (fun e k hk hf => lo (sg_rr (z : Int) k) (tz.2.2.1 e k hk hf).2) tz.1 (fun e i hi => lo (sg_qb (z : Int) + (i : Int)) (by have := tz.2.2.2 e; omega)) h1)
set_option maxRecDepth 100000 in
theorem lw_high {D : va_G} {cy : SgC} {f g : Int → Nat} {t : (Nat → Nat) × (Nat → Nat) × Nat} {G : SgM} {H : Heap} (h : va_P D vwCl (sg_W cy (g, t) G 200 228) H) : va_P D vwCl (sg_W cy (lw_adr f g, t) G 200 228) H := sk_W_of (fun c hc => by
  have h1 := sk_W_in h hc
  obtain ⟨c1, c2⟩ := hc
  obtain ⟨z, hz⟩ := Int.eq_ofNat_of_zero_le (show 0 ≤ c - 200 by omega)
  have ez : c = ((200 + z : Nat) : Int) := by omega
  subst ez
  have tz := lw_t228 z (by omega)
  have lo : ∀ x : Int, 200 ≤ x → lw_adr f g x = g x := fun x hx => if_neg (by omega)
  generalize hw : ((200 + z : Nat) : Int) = w at tz h1 ⊢
  have h1 : va_at D vwCl (g w, sg_e cy (g, t) G w) H := h1
  show va_at D vwCl (lw_adr f g w, sg_e cy (lw_adr f g, t) G w) H
  exact sk_at_re (f := g) (f' := lw_adr f g) (c := w) (lo w (by omega)) (fun e k hk hf => lo (sg_rr w k) (tz.2 e k hk hf).1) (by omega) (fun e => absurd e (by omega)) h1)
set_option maxHeartbeats 4000000 in
set_option maxRecDepth 100000 in
theorem whole_start {p : Program} {e : Env} {s : State} {m : MethodId} {below : List Frame} {meth : Method} {c : Code} (l : Launch) (hflags : l.flags = flags0) {b L : Nat} {xs : Nat → Int32} (hL : L ≤ 3072) (C0 : lw_At p s m meth c b L xs) : W p l e room_1 s m #[Value.ref b] below meth c s.heap [] 0 0 (lw_Z below #[Value.ref b] s) (entryFrame m ([Value.ref b] : List Value).toArray 4) := by
  obtain ⟨hx, hb, hr, hml, hown, hts, hXs, hbl, hlocks, hgv⟩ := id C0
  obtain ⟨t, hX⟩ := lw_X C0
  obtain ⟨D, cy, hK⟩ := lw_K C0
  have hU := lw_U C0
  have hA : ∀ q : Nat, s.heap.size ≤ q → (fun q : Nat => s.heap.size ≤ q) q := fun _ h => h
  have hS : sk_S (30, x, code, 4, ret) D cy ((fun _ => 0), t) (fun q => s.heap.size ≤ q) p s m #[Value.ref b] meth c := ⟨⟨hx, hb, hml, hr, hlocks, hown, fun w hw => hts w (List.mem_filter.mp hw).1⟩, hK, hU, hX _, hA⟩
  have hH : sk_H D s (fun q => s.heap.size ≤ q) [] s.heap [] := ⟨fun k q h => by simp at h, ⟨fun i j p q h => by simp at h, fun k q h => by simp at h⟩, va_S.rf⟩
  have hl := lv_entry ([.ref b]) (n := 4) (Nat.le_of_ble_eq_true rfl)
  rw [lg_entry_eq]
  generalize (lg_sl ([.ref b]) ++ List.replicate (4 - (lg_sl ([.ref b])).length) Slot.unset).toArray = ls at hl ⊢
  have hl : lv_has ls 4 [(0, .ref b)] := hl
  refine sk_new hS hH (idx := 7) (ci' := 10) (C := RX10) (T := TX10) (N := 5) (ty0 := tyX10) (fs' := [.null, .null, .null, .null, .null]) rfl tyX10_ok sg_l10 (sg_inGT (List.mem_of_getElem? (i := 22) (by decide +kernel)) rfl) (sg_inGT (List.mem_of_getElem? (i := 23) (by decide +kernel)) rfl) (sg_inGT (List.mem_of_getElem? (i := 1) (by decide +kernel)) rfl) (fun j hj => by rcases (show j = 0 ∨ j = 1 ∨ j = 2 ∨ j = 3 ∨ j = 4 by omega) with rfl | rfl | rfl | rfl | rfl <;> rfl) (Nat.le_of_ble_eq_true rfl) (Nat.le_of_ble_eq_true rfl) (by decide +kernel) (fun q0 H hH => ?_)
  refine lv_dup hx hb (by decide +kernel) rfl ?_
  refine sk_init (y' := m_G_init) (b := q0) (ws := []) (e0 := .inr (10, [.null, .null, .null, .null, .null])) (idx := 9) (As := []) (rest := [.ref q0]) hS hH ci_G_init (sg_inGT (List.mem_of_getElem? (i := 24) (by decide +kernel)) rfl) rfl (k_G l D cy _ q0 H.size) ⟨(Nat.le_of_ble_eq_true rfl), (Nat.le_of_ble_eq_true rfl)⟩ ⟨(Nat.le_of_ble_eq_true rfl), (Nat.le_of_ble_eq_true rfl)⟩ hl.1 (Nat.le_of_ble_eq_true rfl) (by decide +kernel) (fun w1 H locs hw hH => ?_)
  obtain ⟨fG, G, fG44, canG, gG, rfl⟩ := hw
  refine lv_astore_n (k := 1) (lv' := [(1, .ref q0), (0, .ref b)]) hx hb (by decide +kernel) rfl hl (by decide) rfl (fun ls hl => ?_)
  refine sk_new hS hH (idx := 10) (ci' := 11) (C := RX11) (T := TX11) (N := 37) (ty0 := tyX11) (fs' := [.null, .null, .null, .null, .int (Int32.ofInt 0), .null, .null, .int (Int32.ofInt 0), .null, .int (Int32.ofInt 0), .null, .int (Int32.ofInt 0), .null, .int (Int32.ofInt 0), .int (Int32.ofInt 0), .int (Int32.ofInt 0), .int (Int32.ofInt 0), .null, .null, .null, .null, .null, .null, .null, .null, .null, .null, .null, .null, .null, .null, .null, .int (Int32.ofInt 0), .null, .null, .int (Int32.ofInt 0), .null]) rfl tyX11_ok sg_l11 (sg_inGT (List.mem_of_getElem? (i := 964) (by decide +kernel)) rfl) (sg_inGT (List.mem_of_getElem? (i := 965) (by decide +kernel)) rfl) (sg_inGT (List.mem_of_getElem? (i := 20) (by decide +kernel)) rfl) (fun j hj => by rcases (show j = 0 ∨ j = 1 ∨ j = 2 ∨ j = 3 ∨ j = 4 ∨ j = 5 ∨ j = 6 ∨ j = 7 ∨ j = 8 ∨ j = 9 ∨ j = 10 ∨ j = 11 ∨ j = 12 ∨ j = 13 ∨ j = 14 ∨ j = 15 ∨ j = 16 ∨ j = 17 ∨ j = 18 ∨ j = 19 ∨ j = 20 ∨ j = 21 ∨ j = 22 ∨ j = 23 ∨ j = 24 ∨ j = 25 ∨ j = 26 ∨ j = 27 ∨ j = 28 ∨ j = 29 ∨ j = 30 ∨ j = 31 ∨ j = 32 ∨ j = 33 ∨ j = 34 ∨ j = 35 ∨ j = 36 by omega) with rfl | rfl | rfl | rfl | rfl | rfl | rfl | rfl | rfl | rfl | rfl | rfl | rfl | rfl | rfl | rfl | rfl | rfl | rfl | rfl | rfl | rfl | rfl | rfl | rfl | rfl | rfl | rfl | rfl | rfl | rfl | rfl | rfl | rfl | rfl | rfl | rfl <;> rfl) (Nat.le_of_ble_eq_true rfl) (Nat.le_of_ble_eq_true rfl) (by decide +kernel) (fun q1 H hH => ?_)
  refine lv_dup hx hb (by decide +kernel) rfl ?_
  refine sk_init (y' := m_M_init) (b := q1) (ws := [] ++ sg_W cy (fG, t) G 0 75) (e0 := .inr (11, [.null, .null, .null, .null, .int (Int32.ofInt 0), .null, .null, .int (Int32.ofInt 0), .null, .int (Int32.ofInt 0), .null, .int (Int32.ofInt 0), .null, .int (Int32.ofInt 0), .int (Int32.ofInt 0), .int (Int32.ofInt 0), .int (Int32.ofInt 0), .null, .null, .null, .null, .null, .null, .null, .null, .null, .null, .null, .null, .null, .null, .null, .int (Int32.ofInt 0), .null, .null, .int (Int32.ofInt 0), .null])) (idx := 12) (As := []) (rest := [.ref q1]) hS hH ci_M_init (sg_inGT (List.mem_of_getElem? (i := 966) (by decide +kernel)) rfl) rfl (k_M l D cy _ q1 H.size) ⟨(Nat.le_of_ble_eq_true rfl), (Nat.le_of_ble_eq_true rfl)⟩ ⟨(Nat.le_of_ble_eq_true rfl), (Nat.le_of_ble_eq_true rfl)⟩ hl.1 (Nat.le_of_ble_eq_true rfl) (by decide +kernel) (fun w2 H locs hw hH => ?_)
  obtain ⟨fM, M, fM200, canM, mM, rfl⟩ := hw
  refine lv_astore_n (k := 2) (lv' := [(2, .ref q1), (1, .ref q0), (0, .ref b)]) hx hb (by decide +kernel) rfl hl (by decide) rfl (fun ls hl => ?_)
  refine lv_iconst (n := 0) (v := nI 0) hx hb (by decide +kernel) (by decide +kernel) ?_
  refine lv_istore_n (k := 3) (lv' := [(3, .int (nI 0)), (2, .ref q1), (1, .ref q0), (0, .ref b)]) hx hb (by decide +kernel) rfl hl (by decide) rfl (fun ls hl => ?_)
  refine W.widen (k := 600000) (n := 7302250) (Nat.le_of_ble_eq_true rfl) (Nat.le_of_ble_eq_true rfl) ?_
  obtain ⟨hP, hD, hS1⟩ := hH
  have hP0 : va_P D vwCl (sg_W cy (fG, t) G 0 75) H := fun k q hq => hP k q (by rw [List.nil_append, List.getElem?_append_left (List.getElem?_eq_some_iff.mp hq).1]; exact hq)
  have hat2 : ∀ (k : Nat) (q : Nat × va_E), (sg_W cy (fM, t) M 200 228)[k]? = some q → ([] ++ sg_W cy (fG, t) G 0 75 ++ sg_W cy (fM, t) M 200 228)[(sg_W cy (fG, t) G 0 75).length + k]? = some q := fun k q hq => by
    rw [List.nil_append, List.getElem?_append_right (by omega), show (sg_W cy (fG, t) G 0 75).length + k - (sg_W cy (fG, t) G 0 75).length = k by omega]
    exact hq
  have hat1 : ∀ (k : Nat) (q : Nat × va_E), (sg_W cy (fG, t) G 0 75)[k]? = some q → ([] ++ sg_W cy (fG, t) G 0 75 ++ sg_W cy (fM, t) M 200 228)[k]? = some q := fun k q hq => by
    rw [List.nil_append, List.getElem?_append_left (List.getElem?_eq_some_iff.mp hq).1]
    exact hq
  have hP1 : va_P D vwCl (sg_W cy (fM, t) M 200 228) H := fun k q hq => hP _ q (hat2 k q hq)
  have lowa : ∀ x : Int, sg_In 0 75 x → lw_adr fG fM x = fG x := fun x hx => if_pos (by have := hx.2; omega)
  have higa : ∀ x : Int, sg_In 200 228 x → lw_adr fG fM x = fM x := fun x hx => if_neg (by have := hx.1; omega)
  have inA0 : ∀ x : Int, sg_In 0 75 x → s.heap.size ≤ fG x := fun x hx => hD.2 _ _ (hat1 _ _ (sg_W_at (cy := cy) (a := (fG, t)) (G := G) hx))
  have inA1 : ∀ x : Int, sg_In 200 228 x → s.heap.size ≤ fM x := fun x hx => hD.2 _ _ (hat2 _ _ (sg_W_at (cy := cy) (a := (fM, t)) (G := M) hx))
  have inj0 : ∀ x x' : Int, sg_In 0 75 x → sg_In 0 75 x' → fG x = fG x' → x = x' := fun x x' hx hx' e9 => by
    have := hD.1 _ _ _ _ (hat1 _ _ (sg_W_at (cy := cy) (a := (fG, t)) (G := G) hx)) (hat1 _ _ (sg_W_at (cy := cy) (a := (fG, t)) (G := G) hx')) e9
    have h1 := hx.1
    have h2 := hx'.1
    omega
  have inj1 : ∀ x x' : Int, sg_In 200 228 x → sg_In 200 228 x' → fM x = fM x' → x = x' := fun x x' hx hx' e9 => by
    have := hD.1 _ _ _ _ (hat2 _ _ (sg_W_at (cy := cy) (a := (fM, t)) (G := M) hx)) (hat2 _ _ (sg_W_at (cy := cy) (a := (fM, t)) (G := M) hx')) e9
    have h1 := hx.1
    have h2 := hx'.1
    omega
  have apart : ∀ x x' : Int, sg_In 0 75 x → sg_In 200 228 x' → fG x ≠ fM x' := fun x x' hx hx' e9 => by
    have h3 := sg_W_at (cy := cy) (a := (fG, t)) (G := G) hx
    have := hD.1 _ _ _ _ (hat1 _ _ h3) (hat2 _ _ (sg_W_at (cy := cy) (a := (fM, t)) (G := M) hx')) e9
    have hlt := (List.getElem?_eq_some_iff.mp h3).1
    omega
  have D0 : va_D (fun q => s.heap.size ≤ q) (sg_W cy (lw_adr fG fM, t) (fun _ _ => 0) 0 75) := (sk_D_of (fun x x' hx hx' e9 => inj0 x x' hx hx' (by
    have e9 : lw_adr fG fM x = lw_adr fG fM x' := e9
    rw [lowa x hx, lowa x' hx'] at e9
    exact e9))).weaken (fun k q _ hq => by
    obtain ⟨x, hx, ex⟩ := hq
    have ex : lw_adr fG fM x = q.1 := ex
    show s.heap.size ≤ q.1
    rw [← ex, lowa x hx]
    exact inA0 x hx)
  have D1 : va_D (fun q => s.heap.size ≤ q) (sg_W cy (lw_adr fG fM, t) (fun _ _ => 0) 200 228) := (sk_D_of (fun x x' hx hx' e9 => inj1 x x' hx hx' (by
    have e9 : lw_adr fG fM x = lw_adr fG fM x' := e9
    rw [higa x hx, higa x' hx'] at e9
    exact e9))).weaken (fun k q _ hq => by
    obtain ⟨x, hx, ex⟩ := hq
    have ex : lw_adr fG fM x = q.1 := ex
    show s.heap.size ≤ q.1
    rw [← ex, higa x hx]
    exact inA1 x hx)
  have hF : lw_F D cy (lw_adr fG fM, t) s := ⟨hK, hX _, D0, D1, fun q h1 h2 => by
    obtain ⟨x, hx, e1⟩ := h1
    obtain ⟨x', hx', e2⟩ := h2
    have e1 : lw_adr fG fM x = q := e1
    have e2 : lw_adr fG fM x' = q := e2
    rw [lowa x hx] at e1
    rw [higa x' hx'] at e2
    exact apart x x' hx hx' (e1.trans e2.symm)⟩
  have hJ : lw_J D cy (lw_adr fG fM, t) s a00 a00 H locs := ⟨G, M, ⟨gG, canG, lw_low hP0⟩, ⟨mM, canM, lw_high hP1⟩, hS1⟩
  have a44 : lw_adr fG fM 44 = q0 := (lowa 44 ⟨by decide, by decide⟩).trans fG44
  have a200 : lw_adr fG fM 200 = q1 := (higa 200 ⟨by decide, by decide⟩).trans fM200
  exact lw_loop (a := (lw_adr fG fM, t)) C0 hF hL (L + 1) 0 (by omega) (Nat.zero_le L) a00 H locs ls a00_ok hJ (by
    show lv_has ls 4 [(0, .ref b), (1, .ref (lw_adr fG fM 44)), (2, .ref (lw_adr fG fM 200)), (3, .int (nI 0))]
    rw [a44, a200]
    exact lv_sub hl [3, 2, 1, 0] rfl)
