/-! THE REFERENCE: lose, lay, get, copy, write, read -/
theorem c_M_lose {d : Nat} {A : TA} (ok : TAok A) {s : Int} {G : SgM} {Q : Int → SgM → Prop} (cm : cM A G) (post : ∀ G', cM (a_lose A s).2 G' → Q (a_lose A s).1 G') : sg_Wp 200 228 (d + 8) m_M_lose 0 [(0, 2, 200), (1, 0, s)] [] G Q := by
  unfold a_lose tz_drp at post
  refine g_M_lose_0 (d := d + 6) ⟨fun hs => ?_, fun hs => ?_⟩
  · rw [if_pos (by omega)] at post
    obtain ⟨a, ea⟩ := Int.eq_ofNat_of_zero_le hs.1
    subst ea
    rw [Int.toNat_natCast] at post
    have oz := ok.2.2 a (by omega)
    have z := cm.2.2.2.2.1 a (by omega)
    refine ⟨by omega, fun h0 => ⟨by omega, by omega, ?_⟩, fun h0 => ?_⟩
    · rw [z.1] at h0
      rw [if_neg (by omega)] at post
      rw [z.2.1]
      refine post _ (cm.z (fun c x i => by rw [sg_upc (by omega)]) (fun i x => by rw [sg_upc (by omega)]) ⟨fun t ht => ?_, by rw [sg_upc (by omega)]; exact cm.2.2.2.2.2⟩)
      have z := cm.2.2.2.2.1 t ht
      refine ⟨?_, by rw [sg_upc (by omega)]; exact z.2.1, fun i hi => by rw [sg_upc (by omega)]; exact z.2.2 i hi⟩
      by_cases e : t = a
      · subst e
        rw [sg_up_at]
        exact (if_pos rfl).symm
      · rw [sg_upi (by omega), z.1]
        exact (if_neg e).symm
    · rw [z.1] at h0
      rw [if_pos (by omega)] at post
      exact c_M_finds (by omega) (by omega) cm post
  · rw [if_neg (by omega)] at post
    exact post G cm
theorem tz_itm_f {Z : TZ} {s : Nat} {f i : Int} (h : (tz_itm Z (s : Int) f i).1 = 0) : tz_f Z s = f := by
  unfold tz_itm at h
  split at h
  · split at h
    · split at h
      · exact absurd h (show ¬ (-11 : Int) = 0 by decide)
      · split at h
        · assumption
        · exact absurd h (show ¬ (-13 : Int) = 0 by decide)
    · exact absurd h (show ¬ (-2 : Int) = 0 by decide)
  · exact absurd h (show ¬ (-2 : Int) = 0 by decide)
theorem cm_Z.put {Z : TZ} (oz : TZok Z) {s : Nat} (hs : s < 4) {j : Nat} (hj : (j : Int) < tz_n Z s) {v y : Int} {G : SgM} (h : cm_Z Z G) (hy : y = tz_cut (tz_f Z s) v) : cm_Z (tz_put Z s j v) (sg_up G 203 (60 * (s : Int) + (j : Int)) y) := by
  subst hy
  refine ⟨fun t ht => ?_, by rw [sg_upc (by omega)]; exact h.2⟩
  have z := h.1 t ht
  have ot := oz t ht
  have os := oz s hs
  refine ⟨by rw [sg_upc (by omega)]; exact z.1, by rw [sg_upc (by omega)]; exact z.2.1, fun i hi => ?_⟩
  have hi : (i : Int) < tz_n Z t := hi
  show _ = if t = s ∧ i = j then tz_cut (tz_f Z s) v else tz_i Z t i
  by_cases e : t = s ∧ i = j
  · rw [if_pos e, e.1, e.2, sg_up_at]
  · rw [if_neg e, sg_upi (by omega)]
    exact z.2.2 i hi
theorem c_M_lay {d : Nat} {A : TA} (ok : TAok A) {s f i v : Int} {G : SgM} {Q : Int → SgM → Prop} (cm : cM A G) (post : ∀ G', cM (a_lay A s f i v).2 G' → Q (a_lay A s f i v).1 G') : sg_Wp 200 228 (d + 8) m_M_lay 0 [(0, 2, 200), (1, 0, s), (2, 0, f), (3, 0, i), (4, 0, v)] [] G Q := by
  unfold a_lay at post
  refine g_M_lay_0 (d := d + 6) ⟨fun hs => ⟨fun hf => ?_, fun hf => ?_⟩, fun hs => ?_⟩
  · obtain ⟨a, ea⟩ := Int.eq_ofNat_of_zero_le hs.1
    subst ea
    have ha : a < 4 := by omega
    refine c_M_lacks (d := d + 6) ok ha hf cm (fun G1 c1 => ⟨fun q => ?_, fun q => ?_⟩)
    · rw [if_pos q] at post
      obtain ⟨_, hi, e⟩ := tz_itm0 q
      have ef := tz_itm_f q
      rw [e] at c1
      rw [Int.toNat_natCast] at hi post
      have oz := ok.2.2 a ha
      obtain ⟨j, ej⟩ := Int.eq_ofNat_of_zero_le hi.1
      subst ej
      rw [Int.toNat_natCast] at post
      have jj : sg_iadd (sg_imul 60 (a : Int)) (j : Int) = 60 * (a : Int) + (j : Int) := by rw [sg_imul_eq (by omega) (by omega), sg_iadd_eq (by omega) (by omega)]
      rw [jj]
      refine ⟨by omega, post _ (cM.z (A := A) c1 (fun c x i => by rw [sg_upc (by omega)]) (fun i x => by rw [sg_upc (by omega)]) (cm_Z.put ok.2.2 ha hi.2 c1.2.2.2.2 (by rw [ef]; rfl)))⟩
    · rw [if_neg q] at post
      exact post G1 c1
  · have e : tz_itm A.2.2 s f i = (-2, A.2.2) := by unfold tz_itm; rw [if_pos (by omega), if_neg (by omega)]
    rw [e, if_neg (show ¬ (-2 : Int) = 0 by decide)] at post
    exact post G cm
  · have e : tz_itm A.2.2 s f i = (-2, A.2.2) := by unfold tz_itm; rw [if_neg (by omega)]
    rw [e, if_neg (show ¬ (-2 : Int) = 0 by decide)] at post
    exact post G cm
theorem c_M_get {d : Nat} {A : TA} (ok : TAok A) {s f i : Int} {G : SgM} {Q : Int → SgM → Prop} (cm : cM A G) (post : ∀ G', cM (a_get A s f i).2 G' → Q (a_get A s f i).1 G') : sg_Wp 200 228 (d + 8) m_M_get 0 [(0, 2, 200), (1, 0, s), (2, 0, f), (3, 0, i)] [] G Q := by
  unfold a_get at post
  refine g_M_get_0 (d := d + 6) ⟨fun hs => ⟨fun hf => ?_, fun hf => ?_⟩, fun hs => ?_⟩
  · obtain ⟨a, ea⟩ := Int.eq_ofNat_of_zero_le hs.1
    subst ea
    have ha : a < 4 := by omega
    refine c_M_lacks (d := d + 6) ok ha hf cm (fun G1 c1 => ⟨fun q => ?_, fun q => ?_⟩)
    · rw [if_pos q] at post
      obtain ⟨_, hi, e⟩ := tz_itm0 q
      rw [e] at c1
      rw [Int.toNat_natCast] at hi post
      have oz := ok.2.2 a ha
      obtain ⟨j, ej⟩ := Int.eq_ofNat_of_zero_le hi.1
      subst ej
      rw [Int.toNat_natCast] at post
      have jj : sg_iadd (sg_imul 60 (a : Int)) (j : Int) = 60 * (a : Int) + (j : Int) := by rw [sg_imul_eq (by omega) (by omega), sg_iadd_eq (by omega) (by omega)]
      have c1 : cM A G1 := c1
      rw [jj, (c1.2.2.2.2.1 a ha).2.2 j hi.2]
      exact ⟨by omega, post _ c1⟩
    · rw [if_neg q] at post
      exact post G1 c1
  · have e : tz_itm A.2.2 s f i = (-2, A.2.2) := by unfold tz_itm; rw [if_pos (by omega), if_neg (by omega)]
    rw [e, if_neg (show ¬ (-2 : Int) = 0 by decide)] at post
    exact post G cm
  · have e : tz_itm A.2.2 s f i = (-2, A.2.2) := by unfold tz_itm; rw [if_neg (by omega)]
    rw [e, if_neg (show ¬ (-2 : Int) = 0 by decide)] at post
    exact post G cm
theorem c_M_copy {d : Nat} {A : TA} (ok : TAok A) {s i t j n : Int} (big : i < 2147483648 ∧ j < 2147483648 ∧ n < 2147483648) {G : SgM} {Q : Int → SgM → Prop} (cm : cM A G) (post : ∀ G', cM (a_copy A s i t j n).2 G' → Q (a_copy A s i t j n).1 G') : sg_Wp 200 228 (d + 8) m_M_copy 0 [(0, 2, 200), (1, 0, s), (2, 0, i), (3, 0, t), (4, 0, j), (5, 0, n)] [] G Q := by
  unfold a_copy tz_mov at post
  refine g_M_copy_0 (d := d + 6) ⟨fun hs => ⟨fun ht => ?_, fun ht => ?_⟩, fun hs => ?_⟩
  · rw [if_pos (by omega)] at post
    obtain ⟨a, ea⟩ := Int.eq_ofNat_of_zero_le hs.1
    obtain ⟨b, eb⟩ := Int.eq_ofNat_of_zero_le ht.1
    subst ea eb
    rw [Int.toNat_natCast, Int.toNat_natCast] at post
    have ha : a < 4 := by omega
    have hb : b < 4 := by omega
    have oa := ok.2.2 a ha
    have ob := ok.2.2 b hb
    have za := cm.2.2.2.2.1 a ha
    have zb := cm.2.2.2.2.1 b hb
    have null : (tz_f A.2.2 a = -1 ∨ tz_f A.2.2 b = -1) → sg_Wp 200 228 (d + 6 + 2) m_M_copy 35 [(0, 2, 200)] [] G Q := fun h => by
      rw [if_pos h] at post
      exact g_M_copy_35 (c_M_finds (by omega) (by omega) cm post)
    refine ⟨by omega, fun h0 => ?_, fun h0 => ⟨by omega, fun h1 => ⟨by omega, by omega, fun h2 => ?_, fun h2 => ?_⟩, fun h1 => ?_⟩⟩
    · rw [za.1] at h0; exact null (by omega)
    · rw [za.1] at h0
      rw [zb.1] at h1
      rw [za.1, zb.1] at h2
      rw [if_neg (by omega), if_pos h2] at post
      have out : ¬ (tz_rm (tz_n A.2.2 a) i n ∧ tz_rm (tz_n A.2.2 b) j n) → sg_Wp 200 228 (d + 6 + 2) m_M_copy 111 [(0, 2, 200)] [] G Q := fun h => by
        rw [if_neg h] at post
        exact g_M_copy_111 (c_M_finds (by omega) (by omega) cm post)
      have lc : ∀ x y : Int, (0 < sg_lcmp x y ↔ y < x) ∧ (sg_lcmp x y ≤ 0 ↔ x ≤ y) := fun x y => by
        unfold sg_lcmp
        split
        · omega
        · split <;> omega
      refine ⟨fun i0 => out (fun y => by omega), fun i0 => ⟨fun j0 => out (fun y => by omega), fun j0 => ⟨fun n0 => out (fun y => by omega), fun n0 => ⟨by omega, ?_⟩⟩⟩⟩
      rw [za.2.1, zb.2.1, sg_ladd_eq (x := i) (by omega) (by omega), sg_ladd_eq (x := j) (by omega) (by omega)]
      refine ⟨fun z => out (fun y => by have := (lc _ _).1.mp z; omega), fun z => ⟨by omega, fun w => ?_, fun w => out (fun y => w ((lc _ _).2.mpr (by omega)))⟩⟩
      have z : ¬ tz_n A.2.2 a < i + n := fun y => z ((lc _ _).1.mpr y)
      have w := (lc _ _).2.mp w
      rw [if_pos ⟨⟨by omega, by omega, by omega, by omega⟩, by omega, by omega, by omega, by omega⟩] at post
      obtain ⟨x, ex⟩ := Int.eq_ofNat_of_zero_le (show 0 ≤ i by omega)
      obtain ⟨y, ey⟩ := Int.eq_ofNat_of_zero_le (show 0 ≤ j by omega)
      obtain ⟨m, em⟩ := Int.eq_ofNat_of_zero_le (show 0 ≤ n by omega)
      subst ex ey em
      rw [Int.toNat_natCast, Int.toNat_natCast, Int.toNat_natCast] at post
      have l2 : ∀ (u k : Nat), k + u = m → ∀ G1 : SgM, (∀ c : Int, c ≠ 203 → c ≠ 204 → ∀ i, G1 c i = G c i) → (∀ q : Nat, q < m → G1 204 q = tz_i A.2.2 a (x + q)) → (∀ i : Int, (i < 60 * (b : Int) + (y : Int) ∨ 60 * (b : Int) + (y : Int) + (k : Int) ≤ i) → G1 203 i = G 203 i) → (∀ q : Nat, q < k → G1 203 (60 * (b : Int) + (y : Int) + (q : Int)) = tz_i A.2.2 a (x + q)) →
          sg_Wp 200 228 (d + 6 + 2) m_M_copy 157 [(0, 2, 200), (3, 0, (b : Int)), (4, 0, (y : Int)), (5, 0, (m : Int)), (6, 0, (k : Int))] [] G1 Q := by
        intro u
        induction u with
        | zero =>
          intro k hk G1 f1 f2 f3 f4
          have ek : k = m := by omega
          subst ek
          refine g_M_copy_157 ⟨fun _ => post G1 (cm.z (fun c x i => f1 c (by omega) (by omega) i) (fun i x => f1 200 (by omega) (by omega) i) ⟨fun r hr => ?_, by rw [f1 200 (by omega) (by omega)]; exact cm.2.2.2.2.2⟩), fun z => absurd (by omega) z⟩
          have zr := cm.2.2.2.2.1 r hr
          have orr := ok.2.2 r hr
          refine ⟨by rw [f1 201 (by omega) (by omega)]; exact zr.1, by rw [f1 202 (by omega) (by omega)]; exact zr.2.1, fun q hq => ?_⟩
          have hq : (q : Int) < tz_n A.2.2 r := hq
          show _ = if r = b ∧ y ≤ q ∧ q < y + k then tz_i A.2.2 a (x + (q - y)) else tz_i A.2.2 r q
          by_cases e : r = b ∧ y ≤ q ∧ q < y + k
          · rw [if_pos e]
            have g := f4 (q - y) (by omega)
            rw [e.1, ← g]
            congr 1
            omega
          · rw [if_neg e, f3 _ (by omega)]
            exact zr.2.2 q hq
        | succ u ih =>
          intro k hk G1 f1 f2 f3 f4
          have jj : sg_iadd (sg_iadd (sg_imul 60 (b : Int)) (y : Int)) (k : Int) = 60 * (b : Int) + (y : Int) + (k : Int) := by rw [sg_imul_eq (by omega) (by omega), sg_iadd_eq (x := 60 * (b : Int)) (by omega) (by omega), sg_iadd_eq (by omega) (by omega)]
          refine g_M_copy_157 ⟨fun z => absurd z (by omega), fun _ => ⟨by omega, by rw [jj]; omega, ?_⟩⟩
          rw [jj, sg_inc1 k (by omega)]
          refine ih (k + 1) (by omega) _ (fun c x y i => by rw [sg_upc x]; exact f1 c x y i) (fun q hq => by rw [sg_upc (by omega)]; exact f2 q hq) (fun i hi => by rw [sg_upi (by omega)]; exact f3 i (by omega)) (fun q hq => ?_)
          by_cases e : q = k
          · subst e
            rw [sg_up_at]
            exact f2 q (by omega)
          · rw [sg_upi (by omega)]
            exact f4 q (by omega)
      have l1 : ∀ (u k : Nat), k + u = m → ∀ G1 : SgM, (∀ c : Int, c ≠ 204 → ∀ i, G1 c i = G c i) → (∀ q : Nat, q < k → G1 204 q = tz_i A.2.2 a (x + q)) →
          sg_Wp 200 228 (d + 6 + 2) m_M_copy 120 [(0, 2, 200), (1, 0, (a : Int)), (2, 0, (x : Int)), (3, 0, (b : Int)), (4, 0, (y : Int)), (5, 0, (m : Int)), (6, 0, (k : Int))] [] G1 Q := by
        intro u
        induction u with
        | zero =>
          intro k hk G1 f1 f2
          have ek : k = m := by omega
          subst ek
          exact g_M_copy_120 ⟨fun _ => l2 k 0 (by omega) G1 (fun c x y i => f1 c y i) f2 (fun i _ => f1 203 (by omega) i) (fun q hq => absurd hq (Nat.not_lt_zero _)), fun z => absurd (by omega) z⟩
        | succ u ih =>
          intro k hk G1 f1 f2
          have jj : sg_iadd (sg_iadd (sg_imul 60 (a : Int)) (x : Int)) (k : Int) = 60 * (a : Int) + (x : Int) + (k : Int) := by rw [sg_imul_eq (by omega) (by omega), sg_iadd_eq (x := 60 * (a : Int)) (by omega) (by omega), sg_iadd_eq (by omega) (by omega)]
          refine g_M_copy_120 ⟨fun z => absurd z (by omega), fun _ => ⟨by rw [jj]; omega, by omega, ?_⟩⟩
          rw [jj, sg_inc1 k (by omega)]
          refine ih (k + 1) (by omega) _ (fun c x i => by rw [sg_upc x]; exact f1 c x i) (fun q hq => ?_)
          by_cases e : q = k
          · subst e
            rw [sg_up_at, f1 203 (by omega)]
            have g := za.2.2 (x + q) (by omega)
            rw [← g]
            congr 1
            omega
          · rw [sg_upi (by omega)]
            exact f2 q (by omega)
      exact l1 m 0 (by omega) G (fun _ _ _ => rfl) (fun q hq => absurd hq (Nat.not_lt_zero _))
    · rw [za.1] at h0
      rw [zb.1] at h1
      rw [za.1, zb.1] at h2
      rw [if_neg (by omega), if_neg h2] at post
      exact c_M_finds (by omega) (by omega) cm post
    · rw [zb.1] at h1; exact null (by omega)
  · rw [if_neg (by omega)] at post
    exact g_M_copy_14 (post G cm)
  · rw [if_neg (by omega)] at post
    exact g_M_copy_14 (post G cm)
theorem sg_lss_eq (x z : Int) : sg_lss x z = sg_mn x z := by
  unfold sg_lss sg_mn
  split
  · split <;> omega
  · split <;> omega
theorem c_M_write {d : Nat} {A : TA} (ok : TAok A) {p s : Int} {G : SgM} {Q : Int → SgM → Prop} (cm : cM A G) (post : ∀ G', cM (a_write A p s).2 G' → Q (a_write A p s).1 G') : sg_Wp 200 228 (d + 8) m_M_write 0 [(0, 2, 200), (1, 0, p), (2, 0, s)] [] G Q := by
  have hn := ok.w.1
  unfold a_write at post
  refine g_M_write_0 (d := d + 6) (c_M_find_A (d := d + 2) ok cm (fun G1 c1 cw ci => c_M_isPost (d := d + 6) hn cw.pst ⟨fun x => ⟨fun z => by omega, fun _ => ⟨fun hs => ⟨by omega, ?_⟩, fun hs => ?_⟩⟩, fun x => ⟨fun _ => ?_, fun z => absurd rfl z⟩⟩))
  · rw [if_pos x] at post
    obtain ⟨a, ea⟩ := Int.eq_ofNat_of_zero_le hs.1
    subst ea
    have ha : a < 4 := by omega
    obtain ⟨r, er⟩ := Int.eq_ofNat_of_zero_le x.1
    subst er
    have z := c1.2.2.2.2.1 a ha
    have oz := ok.2.2 a ha
    rw [Int.toNat_natCast, Int.toNat_natCast] at post
    rw [z.1]
    by_cases h0 : tz_f A.2.2 a = -1
    · have e : tz_ref A.2.2 (a : Int) = (-11, tz_fnd A.2.2 1) := by
        unfold tz_ref
        rw [if_pos (by omega), Int.toNat_natCast, if_pos h0]
      rw [e, if_neg (show ¬ (-11 : Int) = 0 by decide)] at post
      exact ⟨fun y => by omega, fun _ => c_M_finds (by omega) (by omega) c1 post⟩
    · have e : tz_ref A.2.2 (a : Int) = (0, A.2.2) := by
        unfold tz_ref
        rw [if_pos (by omega), Int.toNat_natCast, if_neg h0]
      rw [e, if_pos rfl] at post
      refine ⟨fun _ => ⟨by omega, ?_⟩, fun y => by omega⟩
      rw [z.2.1, sg_lss_eq]
      have mb : 0 ≤ sg_mn (tz_n A.2.2 a) 24 ∧ sg_mn (tz_n A.2.2 a) 24 ≤ 24 ∧ sg_mn (tz_n A.2.2 a) 24 ≤ tz_n A.2.2 a := by
        unfold sg_mn
        split <;> omega
      generalize sg_mn (tz_n A.2.2 a) 24 = v at mb post ⊢
      obtain ⟨m, em⟩ := Int.eq_ofNat_of_zero_le mb.1
      subst em
      rw [Int.toNat_natCast] at post
      have loop : ∀ (u k : Nat), k + u = m → ∀ G2 : SgM, (∀ c : Int, c ≠ 203 → ∀ i, G2 c i = G1 c i) → cm_Z (tz_wr A.2.2 a (fun h => td_std (a_W A) (a_Y A) r h) k) G2 →
          sg_Wp 200 228 (d + 6 + 2) m_M_write 52 [(0, 2, 200), (1, 0, (r : Int)), (2, 0, (a : Int)), (3, 0, (m : Int)), (4, 0, (k : Int))] [] G2 Q := by
        intro u
        induction u with
        | zero =>
          intro k hk G2 f1 f2
          have ek : k = m := by omega
          subst ek
          exact g_M_write_52 ⟨fun _ => post G2 (c1.z (fun c x i => f1 c (by omega) i) (fun i x => f1 200 (by omega) i) f2), fun y => absurd (by omega) y⟩
        | succ u ih =>
          intro k hk G2 f1 f2
          have j8 : sg_iadd (sg_imul 8 (k : Int)) (r : Int) = 8 * (k : Int) + (r : Int) := by rw [sg_imul_eq (by omega) (by omega), sg_iadd_eq (by omega) (by omega)]
          have jj : sg_iadd (sg_imul 60 (a : Int)) (k : Int) = 60 * (a : Int) + (k : Int) := by rw [sg_imul_eq (by omega) (by omega), sg_iadd_eq (by omega) (by omega)]
          have g := ((ci.2.2 k (by omega)).2 r (by omega)).1
          refine g_M_write_52 ⟨fun y => absurd y (by omega), fun _ => ⟨by omega, by rw [j8]; omega, by rw [jj]; omega, ?_⟩⟩
          rw [jj, j8, sg_inc1 k (by omega)]
          refine ih (k + 1) (by omega) _ (fun c x i => by rw [sg_upc x]; exact f1 c x i) ?_
          rw [← tz_wr_s]
          refine cm_Z.put (Z := tz_wr A.2.2 a (fun h => td_std (a_W A) (a_Y A) r h) k) ok.2.2 ha (show (k : Int) < tz_n A.2.2 a by omega) f2 ?_
          rw [f1 201 (by omega), f1 222 (by omega), z.1, g]
          rfl
      exact loop m 0 (by omega) G1 (fun _ _ _ => rfl) (by rw [tz_wr_0]; exact c1.2.2.2.2)
  · rw [if_pos x] at post
    have e : tz_ref A.2.2 s = (-2, A.2.2) := by unfold tz_ref; rw [if_neg (by omega)]
    rw [e, if_neg (show ¬ (-2 : Int) = 0 by decide)] at post
    exact post G1 c1
  · rw [if_neg x] at post
    exact post G1 c1
theorem c_M_read {d : Nat} {A : TA} (ok : TAok A) {s : Int} {G : SgM} {Q : Int → SgM → Prop} (cm : cM A G) (post : ∀ G', cM (a_read A s).2 G' → Q (a_read A s).1 G') : sg_Wp 200 228 (d + 8) m_M_read 0 [(0, 2, 200), (1, 0, s)] [] G Q := by
  unfold a_read at post
  refine g_M_read_0 (d := d + 6) ⟨fun hs => ⟨by omega, ?_⟩, fun hs => ?_⟩
  · obtain ⟨a, ea⟩ := Int.eq_ofNat_of_zero_le hs.1
    subst ea
    have ha : a < 4 := by omega
    have z := cm.2.2.2.2.1 a ha
    have oz := ok.2.2 a ha
    rw [Int.toNat_natCast] at post
    rw [z.1]
    by_cases h0 : tz_f A.2.2 a = -1
    · have e : tz_ref A.2.2 (a : Int) = (-11, tz_fnd A.2.2 1) := by
        unfold tz_ref
        rw [if_pos (by omega), Int.toNat_natCast, if_pos h0]
      rw [e, if_neg (show ¬ (-11 : Int) = 0 by decide)] at post
      exact ⟨fun y => by omega, fun _ => c_M_finds (by omega) (by omega) cm post⟩
    · have e : tz_ref A.2.2 (a : Int) = (0, A.2.2) := by
        unfold tz_ref
        rw [if_pos (by omega), Int.toNat_natCast, if_neg h0]
      rw [e, if_pos rfl] at post
      refine ⟨fun _ => ?_, fun y => by omega⟩
      have loop : ∀ (f m : Nat), m + f = 20 → ∀ (E : TE) (G2 : SgM), TEok E → cM (a_Ev A E) G2 → (∀ G', cM (a_Ev A (a_rd (tz_i A.2.2 a) (tz_n A.2.2 a) f m E).2) G' → Q ((a_rd (tz_i A.2.2 a) (tz_n A.2.2 a) f m E).1 : Int) G') →
          sg_Wp 200 228 (d + 6 + 2) m_M_read 29 [(0, 2, 200), (1, 0, (a : Int)), (2, 0, (m : Int)), (3, 0, 1)] [] G2 Q := by
        intro f
        induction f with
        | zero =>
          intro m hm E G2 hE c2 p
          have em : m = 20 := by omega
          subst em
          have z2 := c2.2.2.2.2.1 a ha
          have n2 : G2 202 a = tz_n A.2.2 a := z2.2.1
          have j3 : sg_iadd (sg_imul 3 ((20 : Nat) : Int)) 3 = 63 := by rw [sg_imul_eq (by omega) (by omega), sg_iadd_eq (by omega) (by omega)]; rfl
          refine g_M_read_29 ⟨fun y => absurd y (by omega), fun _ => ⟨by omega, fun _ => p G2 c2, fun y => absurd ?_ y⟩⟩
          rw [j3, n2]
          omega
        | succ f ih =>
          intro m hm E G2 hE c2 p
          have h8 := hE.1
          have z2 := c2.2.2.2.2.1 a ha
          have n2 : G2 202 a = tz_n A.2.2 a := z2.2.1
          have it : ∀ q : Nat, (q : Int) < tz_n A.2.2 a → G2 203 (60 * (a : Int) + (q : Int)) = tz_i A.2.2 a q := z2.2.2
          have i3 : sg_imul 3 (m : Int) = 3 * (m : Int) := sg_imul_eq (by omega) (by omega)
          have i6 : sg_imul 60 (a : Int) = 60 * (a : Int) := sg_imul_eq (by omega) (by omega)
          have j3 : sg_iadd (3 * (m : Int)) 3 = 3 * (m : Int) + 3 := sg_iadd_eq (by omega) (by omega)
          have k0 : sg_iadd (60 * (a : Int)) (3 * (m : Int)) = 60 * (a : Int) + ((3 * m : Nat) : Int) := by rw [sg_iadd_eq (by omega) (by omega)]; omega
          have k1 : sg_iadd (60 * (a : Int) + ((3 * m : Nat) : Int)) 1 = 60 * (a : Int) + ((3 * m + 1 : Nat) : Int) := by rw [sg_iadd_eq (by omega) (by omega)]; omega
          have k2 : sg_iadd (60 * (a : Int) + ((3 * m : Nat) : Int)) 2 = 60 * (a : Int) + ((3 * m + 2 : Nat) : Int) := by rw [sg_iadd_eq (by omega) (by omega)]; omega
          unfold a_rd at p
          refine g_M_read_29 ⟨fun y => absurd y (by omega), fun _ => ⟨by omega, ?_⟩⟩
          rw [i3, i6, j3, k0, k1, k2, n2]
          refine ⟨fun y => ?_, fun y => ⟨by omega, by omega, by omega, ?_⟩⟩
          · rw [if_neg (by omega)] at p
            exact p G2 c2
          · rw [if_pos (by omega)] at p
            rw [it (3 * m) (by omega), it (3 * m + 1) (by omega), it (3 * m + 2) (by omega)]
            refine c_M_event (d := d + 5) (A := a_Ev A E) hE c2 (fun G3 c3 => ?_)
            unfold a_event at c3 ⊢
            by_cases v : a_is 3 (tz_i A.2.2 a (3 * m)) ∧ a_is 24 (tz_i A.2.2 a (3 * m + 1)) ∧ a_is 10 (tz_i A.2.2 a (3 * m + 2))
            · rw [if_pos v] at c3 ⊢
              by_cases e8 : E.1 = 8
              · rw [if_pos (show (a_Ev A E).1.2.2.1 = 8 from e8)] at c3 ⊢
                refine ⟨fun _ => ?_, fun y => absurd (show (-4 : Int) < 0 by decide) y⟩
                rw [if_neg (fun y => by omega)] at p
                rw [sg_iadd_eq (by omega) (by omega), Int.add_zero]
                exact g_M_read_29 ⟨fun _ => p G3 c3, fun y => absurd rfl y⟩
              · rw [if_neg (show ¬ (a_Ev A E).1.2.2.1 = 8 from e8)] at c3 ⊢
                refine ⟨fun y => absurd (show (((a_Ev A E).1.2.2.1 + 1 : Nat) : Int) < 0 from y) (by omega), fun _ => ?_⟩
                rw [if_pos ⟨v, by omega⟩] at p
                rw [sg_inc1 m (by omega)]
                exact ih (m + 1) (by omega) (te_add E (tz_i A.2.2 a (3 * m)) (tz_i A.2.2 a (3 * m + 1)) (tz_i A.2.2 a (3 * m + 2))) G3 (te_add_ok hE (by omega) v.1 v.2.1 v.2.2) c3 p
            · rw [if_neg v] at c3 ⊢
              refine ⟨fun _ => ?_, fun y => absurd (show (-2 : Int) < 0 by decide) y⟩
              rw [if_neg (fun y => v y.1)] at p
              rw [sg_iadd_eq (by omega) (by omega), Int.add_zero]
              exact g_M_read_29 ⟨fun _ => p G3 c3, fun y => absurd rfl y⟩
      exact loop 20 0 (by omega) A.1.2.2 G ok.1.2.2 cm post
  · have e : tz_ref A.2.2 s = (-2, A.2.2) := by unfold tz_ref; rw [if_neg (by omega)]
    rw [e, if_neg (show ¬ (-2 : Int) = 0 by decide)] at post
    exact post G cm
