/-! THE LAW: its loop (printed) -/
theorem lw_sub6 {L : Nat} (hL : L ≤ 3072) : (Int32.ofNat L - Int32.ofInt 6).toInt = (L : Int) - 6 := by
  have h := nI_toInt (n := L) (by omega)
  have e : (Int32.ofNat L - Int32.ofInt 6).toInt = ((Int32.ofNat L).toInt - (Int32.ofInt 6).toInt).bmod (2 ^ 32) := Int32.toInt_sub _ _
  rw [e, show (Int32.ofNat L).toInt = (L : Int) from h, show (Int32.ofInt 6).toInt = 6 from by decide +kernel]
  exact Int.bmod_eq_of_le (by omega) (by omega)
theorem d_law_33 : decode code 33 = .ok (.tableswitch 1219 0 35 #[159, 192, 215, 238, 261, 294, 327, 370, 383, 406, 449, 492, 515, 528, 551, 564, 577, 590, 623, 656, 689, 712, 755, 768, 781, 814, 837, 881, 924, 967, 990, 1043, 1086, 1149, 1182, 1205], 159) := by decide +kernel
set_option maxHeartbeats 4000000 in
set_option maxRecDepth 100000 in
theorem lw_loop {p : Program} {l : Launch} {e : Env} {s : State} {m : MethodId} {below : List Frame} {meth : Method} {c : Code} {b L : Nat} {xs : Nat → Int32} {D : va_G} {cy : SgC} {a : SgA} (C0 : lw_At p s m meth c b L xs) (hF : lw_F D cy a s) (hL : L ≤ 3072) :
    ∀ (n i : Nat), L < i + n → i ≤ L → ∀ (A : TA) (H : Heap) (locs : List Loc) (ls : Array Slot), TAok A → lw_J D cy a s A A H locs → lv_has ls 4 [(0, .ref b), (1, .ref (a.1 44)), (2, .ref (a.1 200)), (3, .int (nI i))] → W p l e room_1 s m #[Value.ref b] below meth c H locs 600000 7302250 (lw_Z below #[Value.ref b] s) (F0 m 18 ls []) := by
  intro n
  induction n with
  | zero =>
    intro i h1 h2
    exact absurd h1 (by omega)
  | succ n ih =>
    intro i h1 h2 A H locs ls ok hJ hl
    obtain ⟨hx, hb, hr, hml, hown, hts, hX, hbl, hlocks, hgv⟩ := id C0
    have hS := hJ.choose_spec.choose_spec.2.2
    refine lv_iload_n (k := 3) (x := nI i) hx hb (by decide +kernel) rfl (lv_at hl 3 rfl) ?_
    refine lv_aload_n (k := 0) (x := b) hx hb (by decide +kernel) rfl (lv_at hl 0 rfl) ?_
    refine va_slen hx hb hX hbl (Nat.not_le.mpr hbl) hS (by decide +kernel) ?_
    refine lv_bipush (n := 6) (v := Int32.ofInt 6) hx hb (by decide +kernel) (by decide +kernel) ?_
    refine lv_isub hx hb (by decide +kernel) ?_
    refine lv_icmp_gt (off := 1234) (tgt := 1258) hx hb (by decide +kernel) (by decide) (fun _ => ?_) (fun hlt => ?_)
    · refine lv_iconst (n := 1) (v := 1) hx hb (by decide +kernel) (by decide +kernel) ?_
      refine va_forget (fun q hq => hS.2.2 q hq) ?_
      exact lw_ret hx hb hr hlocks (by decide +kernel)
    · rw [Int32.lt_iff_toInt_lt, lw_sub6 hL, nI_toInt (by omega)] at hlt
      have hi : i + 6 ≤ L := by omega
      have next : ∀ (A1 : TA) (H1 : Heap) (locs1 : List Loc), TAok A1 → lw_J D cy a s A1 A1 H1 locs1 → W p l e room_1 s m #[Value.ref b] below meth c H1 locs1 600000 7302250 (lw_Z below #[Value.ref b] s) (F0 m 1252 ls []) := by
        intro A1 H1 locs1 ok1 J1
        refine lv_iinc (i := 3) (n := 6) (v := nI (i + 6)) (lv' := [(3, .int (nI (i + 6))), (0, .ref b), (1, .ref (a.1 44)), (2, .ref (a.1 200))]) hx hb (by decide +kernel) hl (k := 3) rfl (by rw [← nI_add]; rfl) (by decide) rfl (fun ls' hl' => ?_)
        refine lv_goto (off := -1237) (tgt := 18) hx hb (by decide +kernel) (by decide) ?_
        exact ih (i + 6) (by omega) hi A1 H1 locs1 ls' ok1 J1 (lv_sub hl' [1, 2, 3, 0] rfl)
      refine lv_aload_n (k := 0) (x := b) hx hb (by decide +kernel) rfl (lv_at hl 0 rfl) ?_
      refine lv_iload_n (k := 3) (x := nI i) hx hb (by decide +kernel) rfl (lv_at hl 3 rfl) ?_
      refine va_sld hx hb hX hbl (Nat.not_le.mpr hbl) hS (vp_in_nI (show i < L by omega) (by omega)) (by decide +kernel) ?_
      refine lv_bipush (n := 63) (v := Int32.ofInt 63) hx hb (by decide +kernel) (by decide +kernel) ?_
      refine lv_iand hx hb (by decide +kernel) ?_
      refine lv_topi (fun v _ => ?_)
      by_cases h0 : v.toInt = 0
      · exact lv_tableIn (off := 159) (tgt := 192) hx hb d_law_33 (by omega) (by omega) (by rw [h0]; rfl) (by decide) (lw_c0 C0 hF hL hi ok hJ hl next)
      by_cases h1 : v.toInt = 1
      · exact lv_tableIn (off := 192) (tgt := 225) hx hb d_law_33 (by omega) (by omega) (by rw [h1]; rfl) (by decide) (lw_c1 C0 hF hL hi ok hJ hl next)
      by_cases h2 : v.toInt = 2
      · exact lv_tableIn (off := 215) (tgt := 248) hx hb d_law_33 (by omega) (by omega) (by rw [h2]; rfl) (by decide) (lw_c2 C0 hF hL hi ok hJ hl next)
      by_cases h3 : v.toInt = 3
      · exact lv_tableIn (off := 238) (tgt := 271) hx hb d_law_33 (by omega) (by omega) (by rw [h3]; rfl) (by decide) (lw_c3 C0 hF hL hi ok hJ hl next)
      by_cases h4 : v.toInt = 4
      · exact lv_tableIn (off := 261) (tgt := 294) hx hb d_law_33 (by omega) (by omega) (by rw [h4]; rfl) (by decide) (lw_c4 C0 hF hL hi ok hJ hl next)
      by_cases h5 : v.toInt = 5
      · exact lv_tableIn (off := 294) (tgt := 327) hx hb d_law_33 (by omega) (by omega) (by rw [h5]; rfl) (by decide) (lw_c5 C0 hF hL hi ok hJ hl next)
      by_cases h6 : v.toInt = 6
      · exact lv_tableIn (off := 327) (tgt := 360) hx hb d_law_33 (by omega) (by omega) (by rw [h6]; rfl) (by decide) (lw_c6 C0 hF hL hi ok hJ hl next)
      by_cases h7 : v.toInt = 7
      · exact lv_tableIn (off := 370) (tgt := 403) hx hb d_law_33 (by omega) (by omega) (by rw [h7]; rfl) (by decide) (lw_c7 C0 hF hL hi ok hJ hl next)
      by_cases h8 : v.toInt = 8
      · exact lv_tableIn (off := 383) (tgt := 416) hx hb d_law_33 (by omega) (by omega) (by rw [h8]; rfl) (by decide) (lw_c8 C0 hF hL hi ok hJ hl next)
      by_cases h9 : v.toInt = 9
      · exact lv_tableIn (off := 406) (tgt := 439) hx hb d_law_33 (by omega) (by omega) (by rw [h9]; rfl) (by decide) (lw_c9 C0 hF hL hi ok hJ hl next)
      by_cases h10 : v.toInt = 10
      · exact lv_tableIn (off := 449) (tgt := 482) hx hb d_law_33 (by omega) (by omega) (by rw [h10]; rfl) (by decide) (lw_c10 C0 hF hL hi ok hJ hl next)
      by_cases h11 : v.toInt = 11
      · exact lv_tableIn (off := 492) (tgt := 525) hx hb d_law_33 (by omega) (by omega) (by rw [h11]; rfl) (by decide) (lw_c11 C0 hF hL hi ok hJ hl next)
      by_cases h12 : v.toInt = 12
      · exact lv_tableIn (off := 515) (tgt := 548) hx hb d_law_33 (by omega) (by omega) (by rw [h12]; rfl) (by decide) (lw_c12 C0 hF hL hi ok hJ hl next)
      by_cases h13 : v.toInt = 13
      · exact lv_tableIn (off := 528) (tgt := 561) hx hb d_law_33 (by omega) (by omega) (by rw [h13]; rfl) (by decide) (lw_c13 C0 hF hL hi ok hJ hl next)
      by_cases h14 : v.toInt = 14
      · exact lv_tableIn (off := 551) (tgt := 584) hx hb d_law_33 (by omega) (by omega) (by rw [h14]; rfl) (by decide) (lw_c14 C0 hF hL hi ok hJ hl next)
      by_cases h15 : v.toInt = 15
      · exact lv_tableIn (off := 564) (tgt := 597) hx hb d_law_33 (by omega) (by omega) (by rw [h15]; rfl) (by decide) (lw_c15 C0 hF hL hi ok hJ hl next)
      by_cases h16 : v.toInt = 16
      · exact lv_tableIn (off := 577) (tgt := 610) hx hb d_law_33 (by omega) (by omega) (by rw [h16]; rfl) (by decide) (lw_c16 C0 hF hL hi ok hJ hl next)
      by_cases h17 : v.toInt = 17
      · exact lv_tableIn (off := 590) (tgt := 623) hx hb d_law_33 (by omega) (by omega) (by rw [h17]; rfl) (by decide) (lw_c17 C0 hF hL hi ok hJ hl next)
      by_cases h18 : v.toInt = 18
      · exact lv_tableIn (off := 623) (tgt := 656) hx hb d_law_33 (by omega) (by omega) (by rw [h18]; rfl) (by decide) (lw_c18 C0 hF hL hi ok hJ hl next)
      by_cases h19 : v.toInt = 19
      · exact lv_tableIn (off := 656) (tgt := 689) hx hb d_law_33 (by omega) (by omega) (by rw [h19]; rfl) (by decide) (lw_c19 C0 hF hL hi ok hJ hl next)
      by_cases h20 : v.toInt = 20
      · exact lv_tableIn (off := 689) (tgt := 722) hx hb d_law_33 (by omega) (by omega) (by rw [h20]; rfl) (by decide) (lw_c20 C0 hF hL hi ok hJ hl next)
      by_cases h21 : v.toInt = 21
      · exact lv_tableIn (off := 712) (tgt := 745) hx hb d_law_33 (by omega) (by omega) (by rw [h21]; rfl) (by decide) (lw_c21 C0 hF hL hi ok hJ hl next)
      by_cases h22 : v.toInt = 22
      · exact lv_tableIn (off := 755) (tgt := 788) hx hb d_law_33 (by omega) (by omega) (by rw [h22]; rfl) (by decide) (lw_c22 C0 hF hL hi ok hJ hl next)
      by_cases h23 : v.toInt = 23
      · exact lv_tableIn (off := 768) (tgt := 801) hx hb d_law_33 (by omega) (by omega) (by rw [h23]; rfl) (by decide) (lw_c23 C0 hF hL hi ok hJ hl next)
      by_cases h24 : v.toInt = 24
      · exact lv_tableIn (off := 781) (tgt := 814) hx hb d_law_33 (by omega) (by omega) (by rw [h24]; rfl) (by decide) (lw_c24 C0 hF hL hi ok hJ hl next)
      by_cases h25 : v.toInt = 25
      · exact lv_tableIn (off := 814) (tgt := 847) hx hb d_law_33 (by omega) (by omega) (by rw [h25]; rfl) (by decide) (lw_c25 C0 hF hL hi ok hJ hl next)
      by_cases h26 : v.toInt = 26
      · exact lv_tableIn (off := 837) (tgt := 870) hx hb d_law_33 (by omega) (by omega) (by rw [h26]; rfl) (by decide) (lw_c26 C0 hF hL hi ok hJ hl next)
      by_cases h27 : v.toInt = 27
      · exact lv_tableIn (off := 881) (tgt := 914) hx hb d_law_33 (by omega) (by omega) (by rw [h27]; rfl) (by decide) (lw_c27 C0 hF hL hi ok hJ hl next)
      by_cases h28 : v.toInt = 28
      · exact lv_tableIn (off := 924) (tgt := 957) hx hb d_law_33 (by omega) (by omega) (by rw [h28]; rfl) (by decide) (lw_c28 C0 hF hL hi ok hJ hl next)
      by_cases h29 : v.toInt = 29
      · exact lv_tableIn (off := 967) (tgt := 1000) hx hb d_law_33 (by omega) (by omega) (by rw [h29]; rfl) (by decide) (lw_c29 C0 hF hL hi ok hJ hl next)
      by_cases h30 : v.toInt = 30
      · exact lv_tableIn (off := 990) (tgt := 1023) hx hb d_law_33 (by omega) (by omega) (by rw [h30]; rfl) (by decide) (lw_c30 C0 hF hL hi ok hJ hl next)
      by_cases h31 : v.toInt = 31
      · exact lv_tableIn (off := 1043) (tgt := 1076) hx hb d_law_33 (by omega) (by omega) (by rw [h31]; rfl) (by decide) (lw_c31 C0 hF hL hi ok hJ hl next)
      by_cases h32 : v.toInt = 32
      · exact lv_tableIn (off := 1086) (tgt := 1119) hx hb d_law_33 (by omega) (by omega) (by rw [h32]; rfl) (by decide) (lw_c32 C0 hF hL hi ok hJ hl next)
      by_cases h33 : v.toInt = 33
      · exact lv_tableIn (off := 1149) (tgt := 1182) hx hb d_law_33 (by omega) (by omega) (by rw [h33]; rfl) (by decide) (lw_c33 C0 hF hL hi ok hJ hl next)
      by_cases h34 : v.toInt = 34
      · exact lv_tableIn (off := 1182) (tgt := 1215) hx hb d_law_33 (by omega) (by omega) (by rw [h34]; rfl) (by decide) (lw_c34 C0 hF hL hi ok hJ hl next)
      by_cases h35 : v.toInt = 35
      · exact lv_tableIn (off := 1205) (tgt := 1238) hx hb d_law_33 (by omega) (by omega) (by rw [h35]; rfl) (by decide) (lw_c35 C0 hF hL hi ok hJ hl next)
      exact lv_tableOut (tgt := 1252) hx hb d_law_33 (by omega) (by decide) (next A H locs ok hJ)
