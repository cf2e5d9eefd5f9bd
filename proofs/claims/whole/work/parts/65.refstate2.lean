/-! THE REFERENCE: what changes the state -/
theorem cM.t {A : TA} {T0 T1 : TT} {G G' : SgM} (h : cM A G) (f : ∀ c : Int, c ≠ 205 → c ≠ 206 → ∀ i, G' c i = G c i) (t : cm_T T0 T1 G') : cM ((T0, T1, A.1.2.2), A.2) G' := by
  obtain ⟨_, ⟨e0, e1⟩, ⟨o0, o1⟩, ⟨s0, s1⟩, z0, z1⟩ := h
  have f1 := f 201 (by omega) (by omega)
  have f2 := f 202 (by omega) (by omega)
  have f3 := f 203 (by omega) (by omega)
  have f9 := f 209 (by omega) (by omega)
  have f0 := f 200 (by omega) (by omega)
  have f25 := f 225 (by omega) (by omega)
  refine ⟨t, ⟨by rw [f0]; exact e0, fun e he => by rw [f9, f9, f9]; exact e1 e he⟩, ⟨by rw [f0]; exact o0, by rw [f0]; exact o1⟩, ⟨by rw [f0]; exact s0, fun i hi => by rw [f25, f25, f25]; exact s1 i hi⟩, fun s hs => ?_, by rw [f0]; exact z1⟩
  have z := z0 s hs
  rw [f1, f2]
  exact ⟨z.1, z.2.1, fun i hi => by rw [f3]; exact z.2.2 i hi⟩
theorem cM.e {A : TA} {E : TE} {G G' : SgM} (h : cM A G) (f : ∀ c : Int, c ≠ 200 → c ≠ 209 → ∀ i, G' c i = G c i) (g : ∀ i : Int, i ≠ 11 → G' 200 i = G 200 i) (t : cm_E E G') : cM (a_Ev A E) G' := by
  obtain ⟨⟨t0, t1, t2, t3⟩, _, ⟨o0, o1⟩, ⟨s0, s1⟩, z0, z1⟩ := h
  have f1 := f 201 (by omega) (by omega)
  have f2 := f 202 (by omega) (by omega)
  have f3 := f 203 (by omega) (by omega)
  have f5 := f 205 (by omega) (by omega)
  have f6 := f 206 (by omega) (by omega)
  have f25 := f 225 (by omega) (by omega)
  refine ⟨⟨by rw [f6]; exact t0, by rw [f6]; exact t1, fun i hi => by rw [f5]; exact t2 i hi, fun i hi => by rw [f5]; exact t3 i hi⟩, t, ⟨by rw [g 13 (by omega)]; exact o0, by rw [g 14 (by omega)]; exact o1⟩, ⟨by rw [g 32 (by omega)]; exact s0, fun i hi => by rw [f25, f25, f25]; exact s1 i hi⟩, fun s hs => ?_, by rw [g 4 (by omega)]; exact z1⟩
  have z := z0 s hs
  rw [f1, f2]
  exact ⟨z.1, z.2.1, fun i hi => by rw [f3]; exact z.2.2 i hi⟩
theorem cM.s {A : TA} {S : TS} {G G' : SgM} (h : cM A G) (f : ∀ c : Int, c ≠ 200 → c ≠ 225 → ∀ i, G' c i = G c i) (g : ∀ i : Int, i ≠ 32 → G' 200 i = G 200 i) (t : cm_S S G') : cM (a_Se A S) G' := by
  obtain ⟨⟨t0, t1, t2, t3⟩, ⟨e0, e1⟩, ⟨o0, o1⟩, _, z0, z1⟩ := h
  have f1 := f 201 (by omega) (by omega)
  have f2 := f 202 (by omega) (by omega)
  have f3 := f 203 (by omega) (by omega)
  have f5 := f 205 (by omega) (by omega)
  have f6 := f 206 (by omega) (by omega)
  have f9 := f 209 (by omega) (by omega)
  refine ⟨⟨by rw [f6]; exact t0, by rw [f6]; exact t1, fun i hi => by rw [f5]; exact t2 i hi, fun i hi => by rw [f5]; exact t3 i hi⟩, ⟨by rw [g 11 (by omega)]; exact e0, fun e he => by rw [f9, f9, f9]; exact e1 e he⟩, ⟨by rw [g 13 (by omega)]; exact o0, by rw [g 14 (by omega)]; exact o1⟩, t, fun s hs => ?_, by rw [g 4 (by omega)]; exact z1⟩
  have z := z0 s hs
  rw [f1, f2]
  exact ⟨z.1, z.2.1, fun i hi => by rw [f3]; exact z.2.2 i hi⟩
theorem cM.z {A : TA} {Z : TZ} {G G' : SgM} (h : cM A G) (f : ∀ c : Int, (c = 205 ∨ c = 206 ∨ c = 209 ∨ c = 225) → ∀ i, G' c i = G c i) (g : ∀ i : Int, i ≠ 4 → G' 200 i = G 200 i) (t : cm_Z Z G') : cM (a_Zs A Z) G' := by
  obtain ⟨⟨t0, t1, t2, t3⟩, ⟨e0, e1⟩, ⟨o0, o1⟩, ⟨s0, s1⟩, _⟩ := h
  have f5 := f 205 (by omega)
  have f6 := f 206 (by omega)
  have f9 := f 209 (by omega)
  have f25 := f 225 (by omega)
  exact ⟨⟨by rw [f6]; exact t0, by rw [f6]; exact t1, fun i hi => by rw [f5]; exact t2 i hi, fun i hi => by rw [f5]; exact t3 i hi⟩, ⟨by rw [g 11 (by omega)]; exact e0, fun e he => by rw [f9, f9, f9]; exact e1 e he⟩, ⟨by rw [g 13 (by omega)]; exact o0, by rw [g 14 (by omega)]; exact o1⟩, ⟨by rw [g 32 (by omega)]; exact s0, fun i hi => by rw [f25, f25, f25]; exact s1 i hi⟩, t⟩
theorem c_M_type {d : Nat} {A : TA} (ok : TAok A) {t b : Int} {G : SgM} {Q : Int → SgM → Prop} (cm : cM A G) (post : ∀ G', cM (a_type A t b).2 G' → Q (a_type A t b).1 G') : sg_Wp 200 228 (d + 8) m_M_type 0 [(0, 2, 200), (1, 0, t), (2, 0, b)] [] G Q := by
  have l0 := ok.1.1.1
  have l1 := ok.1.2.1.1
  obtain ⟨t0, t1, t2, t3⟩ := cm.1
  unfold a_type at post
  refine g_M_type_0 (d := d + 6) ⟨fun ht => ⟨fun hb => ⟨by omega, fun h1 => ?_, fun h0 => ?_⟩, fun hb => ?_⟩, fun ht => ?_⟩
  · have e : t = 1 := by omega
    subst e
    rw [if_pos (by omega), if_neg (by omega)] at post
    have j : sg_imul 32 1 = 32 := sg_imul_eq (by omega) (by omega)
    rw [t1, j]
    refine ⟨fun q => ?_, fun q => ?_⟩
    · rw [if_neg (by omega)] at post
      rw [sg_iadd_eq (x := 32) (by omega) (by omega), sg_inc1 _ (by omega)]
      refine ⟨by omega, by omega, by omega, by omega, by omega, ?_⟩
      rw [sg_up_at]
      refine post _ (cm.t (fun c x y i => by rw [sg_upc y, sg_upc x]) ⟨by rw [sg_upi (by omega), sg_upc (by omega)]; exact t0, sg_up_at, fun i hi => by rw [sg_upc (by omega), sg_upi (by omega)]; exact t2 i hi, fun i hi => ?_⟩)
      rw [sg_upc (by omega)]
      have hi : i < A.1.2.1.1 + 1 := hi
      by_cases ei : i = A.1.2.1.1
      · subst ei
        rw [sg_up_at]
        exact (if_pos rfl).symm
      · rw [sg_upi (by omega), t3 i (by omega)]
        exact (if_neg ei).symm
    · rw [if_pos (by omega)] at post
      exact post G cm
  · have e : t = 0 := by omega
    subst e
    rw [if_pos (by omega), if_pos rfl] at post
    have j : sg_imul 32 0 = 0 := sg_imul_eq (by omega) (by omega)
    rw [t0, j]
    refine ⟨fun q => ?_, fun q => ?_⟩
    · rw [if_neg (by omega)] at post
      rw [sg_iadd_eq (x := 0) (by omega) (by omega), sg_inc1 _ (by omega)]
      refine ⟨by omega, by omega, by omega, by omega, by omega, ?_⟩
      rw [sg_up_at]
      refine post _ (cm.t (fun c x y i => by rw [sg_upc y, sg_upc x]) ⟨sg_up_at, by rw [sg_upi (by omega), sg_upc (by omega)]; exact t1, fun i hi => ?_, fun i hi => by rw [sg_upc (by omega), sg_upi (by omega)]; exact t3 i hi⟩)
      rw [sg_upc (by omega)]
      have hi : i < A.1.1.1 + 1 := hi
      by_cases ei : i = A.1.1.1
      · subst ei
        rw [sg_up_at]
        exact (if_pos rfl).symm
      · rw [sg_upi (by omega), t2 i (by omega)]
        exact (if_neg ei).symm
    · rw [if_pos (by omega)] at post
      exact post G cm
  · rw [if_neg (by omega)] at post
    exact post G cm
  · rw [if_neg (by omega)] at post
    exact post G cm
theorem c_M_wipe {d : Nat} {A : TA} {t : Int} {G : SgM} {Q : Int → SgM → Prop} (cm : cM A G) (post : ∀ G', cM (a_wipe A t).2 G' → Q (a_wipe A t).1 G') : sg_Wp 200 228 (d + 8) m_M_wipe 0 [(0, 2, 200), (1, 0, t)] [] G Q := by
  obtain ⟨t0, t1, t2, t3⟩ := cm.1
  unfold a_wipe at post
  refine g_M_wipe_0 (d := d + 6) ⟨fun ht => ⟨by omega, by omega, ?_⟩, fun ht => ?_⟩
  · by_cases h0 : t = 0
    · subst h0
      rw [if_pos rfl] at post
      rw [t0]
      exact post _ (cm.t (fun c x y i => by rw [sg_upc y]) ⟨sg_up_at, by rw [sg_upi (by omega)]; exact t1, fun i hi => absurd hi (Nat.not_lt_zero _), fun i hi => by rw [sg_upc (by omega)]; exact t3 i hi⟩)
    · have e : t = 1 := by omega
      subst e
      rw [if_neg (by omega), if_pos rfl] at post
      rw [t1]
      exact post _ (cm.t (fun c x y i => by rw [sg_upc y]) ⟨by rw [sg_upi (by omega)]; exact t0, sg_up_at, fun i hi => by rw [sg_upc (by omega)]; exact t2 i hi, fun i hi => absurd hi (Nat.not_lt_zero _)⟩)
  · rw [if_neg (by omega), if_neg (by omega)] at post
    exact post G cm
theorem c_M_undo {d : Nat} {A : TA} (ok : TAok A) {t : Int} {G : SgM} {Q : Int → SgM → Prop} (cm : cM A G) (post : ∀ G', cM (a_undo A t).2 G' → Q (a_undo A t).1 G') : sg_Wp 200 228 (d + 8) m_M_undo 0 [(0, 2, 200), (1, 0, t)] [] G Q := by
  have l0 := ok.1.1.1
  have l1 := ok.1.2.1.1
  obtain ⟨t0, t1, t2, t3⟩ := cm.1
  unfold a_undo at post
  refine g_M_undo_0 (d := d + 6) ⟨fun ht => ⟨by omega, ?_⟩, fun ht => ?_⟩
  · by_cases h0 : t = 0
    · subst h0
      rw [if_pos rfl] at post
      rw [t0]
      refine ⟨fun q => ⟨by omega, by omega, by omega, ?_⟩, fun q => ?_⟩
      · rw [if_neg (by omega)] at post
        have e : sg_isub (A.1.1.1 : Int) 1 = ((A.1.1.1 - 1 : Nat) : Int) := by rw [sg_isub_eq (by omega) (by omega)]; omega
        rw [e, sg_up_at]
        exact post _ (cm.t (fun c x y i => by rw [sg_upc y]) ⟨sg_up_at, by rw [sg_upi (by omega)]; exact t1, fun i hi => by rw [sg_upc (by omega)]; exact t2 i (Nat.lt_of_lt_of_le hi (Nat.sub_le _ _)), fun i hi => by rw [sg_upc (by omega)]; exact t3 i hi⟩)
      · rw [if_pos (by omega)] at post
        exact post G cm
    · have e : t = 1 := by omega
      subst e
      rw [if_neg (by omega), if_pos rfl] at post
      rw [t1]
      refine ⟨fun q => ⟨by omega, by omega, by omega, ?_⟩, fun q => ?_⟩
      · rw [if_neg (by omega)] at post
        have e : sg_isub (A.1.2.1.1 : Int) 1 = ((A.1.2.1.1 - 1 : Nat) : Int) := by rw [sg_isub_eq (by omega) (by omega)]; omega
        rw [e, sg_up_at]
        exact post _ (cm.t (fun c x y i => by rw [sg_upc y]) ⟨by rw [sg_upi (by omega)]; exact t0, sg_up_at, fun i hi => by rw [sg_upc (by omega)]; exact t2 i hi, fun i hi => by rw [sg_upc (by omega)]; exact t3 i (Nat.lt_of_lt_of_le hi (Nat.sub_le _ _))⟩)
      · rw [if_pos (by omega)] at post
        exact post G cm
  · rw [if_neg (by omega), if_neg (by omega)] at post
    exact post G cm
theorem c_M_event {d : Nat} {A : TA} (ok : TEok A.1.2.2) {k h n : Int} {G : SgM} {Q : Int → SgM → Prop} (cm : cM A G) (post : ∀ G', cM (a_event A k h n).2 G' → Q (a_event A k h n).1 G') : sg_Wp 200 228 (d + 2) m_M_event 0 [(0, 2, 200), (1, 0, k), (2, 0, h), (3, 0, n)] [] G Q := by
  have h8 := ok.1
  have e0 := cm.2.1.1
  unfold a_event at post
  refine g_M_event_0 ⟨fun hk => ⟨fun hh => ⟨fun hv => ⟨fun q => ?_, fun q => ?_⟩, fun hv => ?_⟩, fun hh => ?_⟩, fun hk => ?_⟩
  · rw [e0] at q
    rw [if_pos (by omega), if_neg (by omega)] at post
    refine c_M_keeps (by omega) cm.2.1 (fun G' a1 a2 a3 a4 => ?_)
    rw [a4.1]
    exact post G' (cm.e a1 a2 a4)
  · rw [e0] at q
    rw [if_pos (by omega), if_pos (by omega)] at post
    exact post G cm
  · rw [if_neg (by omega)] at post
    exact post G cm
  · rw [if_neg (by omega)] at post
    exact post G cm
  · rw [if_neg (by omega)] at post
    exact post G cm
theorem c_M_back {d : Nat} {A : TA} (ok : TAok A) {G : SgM} {Q : Int → SgM → Prop} (cm : cM A G) (post : ∀ G', cM (a_back A).2 G' → Q (a_back A).1 G') : sg_Wp 200 228 (d + 8) m_M_back 0 [(0, 2, 200)] [] G Q := by
  have h8 := ok.1.2.2.1
  have e0 := cm.2.1.1
  unfold a_back at post
  refine g_M_back_0 ?_
  rw [e0]
  refine ⟨fun q => ?_, fun q => ?_⟩
  · rw [if_neg (by omega)] at post
    have e : sg_isub (A.1.2.2.1 : Int) 1 = ((A.1.2.2.1 - 1 : Nat) : Int) := by rw [sg_isub_eq (by omega) (by omega)]; omega
    rw [e, sg_up_at]
    exact post _ (cm.e (fun c x y i => by rw [sg_upc x]) (fun i x => by rw [sg_upi x]) ⟨sg_up_at, fun e he => by rw [sg_upc (by omega), sg_upc (by omega), sg_upc (by omega)]; exact cm.2.1.2 e (Nat.lt_of_lt_of_le he (Nat.sub_le _ _))⟩)
  · rw [if_pos (by omega)] at post
    exact post G cm
theorem c_M_seen {d : Nat} {A : TA} (ok : TAok A) {h p x : Int} {G : SgM} {Q : Int → SgM → Prop} (cm : cM A G) (post : ∀ G', cM (a_seen A h p x).2 G' → Q (a_seen A h p x).1 G') : sg_Wp 200 228 (d + 8) m_M_seen 0 [(0, 2, 200), (1, 0, h), (2, 0, p), (3, 0, x)] [] G Q := by
  have h8 := ok.2.1.1
  obtain ⟨s0, s1⟩ := cm.2.2.2.1
  unfold a_seen at post
  have j0 : sg_imul 3 (A.2.1.1 : Int) = 3 * (A.2.1.1 : Int) := sg_imul_eq (by omega) (by omega)
  have j1 : sg_iadd (sg_imul 3 (A.2.1.1 : Int)) 1 = 3 * (A.2.1.1 : Int) + 1 := by rw [j0, sg_iadd_eq (by omega) (by omega)]
  have j2 : sg_iadd (sg_imul 3 (A.2.1.1 : Int)) 2 = 3 * (A.2.1.1 : Int) + 2 := by rw [j0, sg_iadd_eq (by omega) (by omega)]
  refine g_M_seen_0 (d := d + 6) ⟨fun hh => ⟨fun hp => ⟨fun hx => ?_, fun hx => ?_⟩, fun hp => ?_⟩, fun hh => ?_⟩
  · rw [if_pos (by omega)] at post
    rw [s0, j1, j2, j0, sg_inc1 A.2.1.1 (by omega), sg_up_at]
    refine ⟨fun q => ⟨by omega, by omega, by omega, ?_⟩, fun q => ?_⟩
    · rw [if_neg (by omega)] at post
      refine post _ (cm.s (fun c x y i => by rw [sg_upc x, sg_upc y, sg_upc y, sg_upc y]) (fun i x => by rw [sg_upi x, sg_upc (by omega), sg_upc (by omega), sg_upc (by omega)]) ⟨sg_up_at, fun i hi => ?_⟩)
      have hi : i < A.2.1.1 + 1 := hi
      by_cases ee : i = A.2.1.1
      · subst ee
        refine ⟨?_, ?_, ?_⟩
        · rw [sg_upc (by omega), sg_upi (by omega), sg_upi (by omega), sg_up_at]
          exact (if_pos rfl).symm
        · rw [sg_upc (by omega), sg_upi (by omega), sg_up_at]
          exact (if_pos rfl).symm
        · rw [sg_upc (by omega), sg_up_at]
          exact (if_pos rfl).symm
      · have y := s1 i (by omega)
        refine ⟨?_, ?_, ?_⟩
        · rw [sg_upc (by omega), sg_upi (by omega), sg_upi (by omega), sg_upi (by omega), y.1]
          exact (if_neg ee).symm
        · rw [sg_upc (by omega), sg_upi (by omega), sg_upi (by omega), sg_upi (by omega), y.2.1]
          exact (if_neg ee).symm
        · rw [sg_upc (by omega), sg_upi (by omega), sg_upi (by omega), sg_upi (by omega), y.2.2]
          exact (if_neg ee).symm
    · rw [if_pos (by omega)] at post
      exact post G cm
  · rw [if_neg (by omega)] at post
    exact post G cm
  · rw [if_neg (by omega)] at post
    exact post G cm
  · rw [if_neg (by omega)] at post
    exact post G cm
theorem c_M_forget {d : Nat} {A : TA} {G : SgM} {Q : Int → SgM → Prop} (cm : cM A G) (post : ∀ G', cM (a_forget A).2 G' → Q (a_forget A).1 G') : sg_Wp 200 228 (d + 8) m_M_forget 0 [(0, 2, 200)] [] G Q := by
  refine g_M_forget_0 ?_
  rw [cm.2.2.2.1.1]
  exact post _ (cm.s (fun c x y i => by rw [sg_upc x]) (fun i x => by rw [sg_upi x]) ⟨sg_up_at, fun i hi => absurd hi (Nat.not_lt_zero _)⟩)
/-! THE REFERENCE: sheets -/
theorem cm_Z.fr {Z : TZ} {G G' : SgM} (h : cm_Z Z G) (f : ∀ c : Int, (c = 201 ∨ c = 202 ∨ c = 203) → ∀ i, G' c i = G c i) (g : G' 200 4 = G 200 4) : cm_Z Z G' := by
  refine ⟨fun s hs => ?_, by rw [g]; exact h.2⟩
  have z := h.1 s hs
  rw [f 201 (by omega), f 202 (by omega)]
  exact ⟨z.1, z.2.1, fun i hi => by rw [f 203 (by omega)]; exact z.2.2 i hi⟩
theorem c_M_finds {d : Nat} {A : TA} {k r : Int} (hk : 0 ≤ k ∧ k ≤ 9) (hr : r = -10 - k) {G : SgM} {Q : Int → SgM → Prop} (cm : cM A G) (post : ∀ G', cM (a_Zs A (tz_fnd A.2.2 k)) G' → Q r G') : sg_Wp 200 228 d m_M_finds 0 [(0, 2, 200), (1, 0, k)] [] G Q := by
  subst hr
  refine g_M_finds_0 ?_
  rw [sg_isub_eq (by omega) (by omega)]
  refine post _ (cm.z (fun c x i => by rw [sg_upc (by omega)]) (fun i x => by rw [sg_upi x]) ⟨fun s hs => ?_, sg_up_at⟩)
  have z := cm.2.2.2.2.1 s hs
  rw [sg_upc (by omega), sg_upc (by omega)]
  exact ⟨z.1, z.2.1, fun i hi => by rw [sg_upc (by omega)]; exact z.2.2 i hi⟩
theorem c_M_lacks {d : Nat} {A : TA} (ok : TAok A) {s : Nat} (hs : s < 4) {f i : Int} (hf : 0 ≤ f ∧ f ≤ 2) {G : SgM} {Q : Int → SgM → Prop} (cm : cM A G) (post : ∀ G', cM (a_Zs A (tz_itm A.2.2 (s : Int) f i).2) G' → Q (tz_itm A.2.2 (s : Int) f i).1 G') : sg_Wp 200 228 (d + 1) m_M_lacks 0 [(0, 2, 200), (1, 0, (s : Int)), (2, 0, f), (3, 0, i)] [] G Q := by
  have oz := ok.2.2 s hs
  have z := cm.2.2.2.2.1 s hs
  unfold tz_itm at post
  rw [if_pos (by omega), if_pos (by omega), Int.toNat_natCast] at post
  refine g_M_lacks_0 ⟨by omega, fun h0 => ⟨by omega, fun h1 => ⟨by omega, fun h2 => ?_, fun h2 => ?_⟩, fun h1 => ?_⟩, fun h0 => ?_⟩
  · rw [z.1] at h0 h1
    rw [z.2.1, sg_isub_eq (by omega) (by omega)] at h2
    rw [if_neg (by omega), if_pos h1, if_pos (by omega)] at post
    exact post G cm
  · rw [z.1] at h0 h1
    rw [z.2.1, sg_isub_eq (by omega) (by omega)] at h2
    rw [if_neg (by omega), if_pos h1, if_neg (by omega)] at post
    exact c_M_finds (by omega) (by omega) cm post
  · rw [z.1] at h0 h1
    rw [if_neg (by omega), if_neg h1] at post
    exact c_M_finds (by omega) (by omega) cm post
  · rw [z.1] at h0
    rw [if_pos (by omega)] at post
    exact c_M_finds (by omega) (by omega) cm post
theorem c_M_sheet {d : Nat} {A : TA} (ok : TAok A) {s f n : Int} {G : SgM} {Q : Int → SgM → Prop} (cm : cM A G) (post : ∀ G', cM (a_sheet A s f n).2 G' → Q (a_sheet A s f n).1 G') : sg_Wp 200 228 (d + 8) m_M_sheet 0 [(0, 2, 200), (1, 0, s), (2, 0, f), (3, 0, n)] [] G Q := by
  unfold a_sheet tz_mke at post
  refine g_M_sheet_0 (d := d + 6) ⟨fun hs => ⟨fun hf => ⟨fun h6 => ⟨fun h0 => ?_, fun h0 => ?_⟩, fun h6 => ?_⟩, fun hf => ?_⟩, fun hs => ?_⟩
  · rw [if_pos (by omega), if_pos (by omega), if_pos h6, if_pos h0] at post
    refine ⟨by omega, by omega, ?_⟩
    obtain ⟨a, ea⟩ := Int.eq_ofNat_of_zero_le hs.1
    obtain ⟨m, em⟩ := Int.eq_ofNat_of_zero_le h0
    subst ea em
    rw [Int.toNat_natCast] at post
    have loop : ∀ (u j : Nat), j + u = m → ∀ G1 : SgM, (∀ c : Int, c ≠ 201 → c ≠ 202 → c ≠ 203 → ∀ i, G1 c i = G c i) → (∀ c : Int, (c = 201 ∨ c = 202) → ∀ i : Int, i ≠ (a : Int) → G1 c i = G c i) → G1 201 a = f → G1 202 a = (m : Int) → (∀ i : Int, (i < 60 * (a : Int) ∨ 60 * (a : Int) + 60 ≤ i) → G1 203 i = G 203 i) → (∀ i : Nat, i < j → G1 203 (60 * (a : Int) + (i : Int)) = 0) →
        sg_Wp 200 228 (d + 8) m_M_sheet 55 [(0, 2, 200), (1, 0, (a : Int)), (3, 0, (m : Int)), (4, 0, (j : Int))] [] G1 Q := by
      intro u
      induction u with
      | zero =>
        intro j hj G1 f1 f2 f3 f4 f5 f6
        refine g_M_sheet_55 (d := d + 6) ⟨fun _ => post G1 (cm.z (fun c x i => f1 c (by omega) (by omega) (by omega) i) (fun i x => f1 200 (by omega) (by omega) (by omega) i) ⟨fun t ht => ?_, by rw [f1 200 (by omega) (by omega) (by omega)]; exact cm.2.2.2.2.2⟩), fun z => absurd (by omega) z⟩
        by_cases e : t = a
        · subst e
          refine ⟨by rw [f3]; exact (if_pos rfl).symm, by rw [f4]; exact (if_pos rfl).symm, fun i hi => ?_⟩
          have hi : (i : Int) < (if t = t then (m : Int) else tz_n A.2.2 t) := hi
          rw [if_pos rfl] at hi
          rw [f6 i (by omega)]
          exact (if_pos rfl).symm
        · have z := cm.2.2.2.2.1 t ht
          have e1 : tz_n (tz_set A.2.2 a f (m : Int)) t = tz_n A.2.2 t := if_neg e
          refine ⟨by rw [f2 201 (by omega) t (by omega), z.1]; exact (if_neg e).symm, by rw [f2 202 (by omega) t (by omega), z.2.1]; exact e1.symm, fun i hi => ?_⟩
          rw [e1] at hi
          have oz := ok.2.2 t ht
          rw [f5 _ (by omega), z.2.2 i hi]
          exact (if_neg e).symm
      | succ u ih =>
        intro j hj G1 f1 f2 f3 f4 f5 f6
        have jj : sg_iadd (sg_imul 60 (a : Int)) (j : Int) = 60 * (a : Int) + (j : Int) := by rw [sg_imul_eq (by omega) (by omega), sg_iadd_eq (by omega) (by omega)]
        refine g_M_sheet_55 (d := d + 6) ⟨fun z => absurd z (by omega), fun _ => ⟨by rw [jj]; omega, ?_⟩⟩
        rw [jj, sg_inc1 j (by omega)]
        refine ih (j + 1) (by omega) _ (fun c x y z i => by rw [sg_upc z]; exact f1 c x y z i) (fun c x i y => by rw [sg_upc (by omega)]; exact f2 c x i y) (by rw [sg_upc (by omega)]; exact f3) (by rw [sg_upc (by omega)]; exact f4) (fun i x => by rw [sg_upi (by omega)]; exact f5 i x) (fun i hi => ?_)
        by_cases e : i = j
        · subst e; exact sg_up_at
        · rw [sg_upi (by omega)]; exact f6 i (by omega)
    exact loop m 0 (by omega) _ (fun c x y z i => by rw [sg_upc y, sg_upc x]) (fun c x i y => by
      rcases x with x | x
      · subst x; rw [sg_upc (by omega), sg_upi y]
      · subst x; rw [sg_upi y, sg_upc (by omega)]) (by rw [sg_upc (by omega), sg_up_at]) sg_up_at (fun i x => by rw [sg_upc (by omega), sg_upc (by omega)]) (fun i hi => absurd hi (Nat.not_lt_zero _))
  · rw [if_pos (by omega), if_pos (by omega), if_pos h6, if_neg h0] at post
    exact c_M_finds (by omega) (by omega) cm post
  · rw [if_pos (by omega), if_pos (by omega), if_neg h6] at post
    exact post G cm
  · rw [if_pos (by omega), if_neg (by omega)] at post
    exact post G cm
  · rw [if_neg (by omega)] at post
    exact post G cm
