/-! THE FACE: digest -/
def dg (h x : Int) : Int := sg_ladd (sg_lmul 31 h) x
def dg_f (f : Nat → Int) (h : Int) : Nat → Int
  | 0 => h
  | m + 1 => dg (dg_f f h m) (f m)
def dg_h (f : Int → Nat → Int) (h : Int) : Nat → Int
  | 0 => h
  | m + 1 => f (dg_h f h m) m
theorem dg_f_s (f : Nat → Int) (h : Int) (m : Nat) : dg_f f h (m + 1) = sg_ladd (sg_lmul 31 (dg_f f h m)) (f m) := rfl
theorem dg_h_s (f : Int → Nat → Int) (h : Int) (m : Nat) : dg_h f h (m + 1) = f (dg_h f h m) m := rfl
def a_dgPost (A : TA) (h : Int) (p : Nat) : Int :=
  dg (dg (dg_h (fun x i => dg_f (fun w => a_stood A (sg_dh (i : Int)) (p : Int) (w : Int)) x 3) (dg_f (fun w => a_post A (p : Int) (w : Int)) h 2) 4) (tc_fr (a_W A) (a_E A) 5 p 0)) (tc_fr (a_W A) (a_E A) 5 p 1)
def a_dgPerson (A : TA) (h : Int) (p : Nat) : Int :=
  dg (dg (dg (dg (dg (dg_h (fun x i => dg_f (fun w => a_at A (sg_dh (i : Int)) (p : Int) (w : Int)) x 4) (dg_f (fun w => a_person A (p : Int) (w : Int)) h 4) 4) (a_stroll A (p : Int) 0)) (a_stroll A (p : Int) 1)) (a_was A (p : Int) 0)) (a_was A (p : Int) 1)) (th_ask (a_S A) (a_W A) (a_Y A) p)
def a_dgRest (A : TA) (h : Int) : Int :=
  dg (dg (dg (dg (dg (dg (dg (dg (dg (dg (dg (dg_f (fun w => a_longest A (w : Int)) (dg h (td_fgm (a_W A) (a_Y A) 24 : Int)) 3) (td_busy (a_W A) (a_Y A))) (td_quiet (a_W A) (a_Y A) : Int)) (a_dust A 8 0)) (a_dust A 8 1)) (a_hush A 8 0)) (a_hush A 8 1)) (a_spare A (-1))) (a_spare A 0)) (th_never (a_S A) (a_W A) (a_E A) : Int)) (a_decades A 7 6 0)) (a_decades A 7 6 1)
def a_digest (A : TA) : Int :=
  a_dgRest A (dg_f (fun h => a_changes A (h : Int)) (dg_h (a_dgPerson A) (dg_h (a_dgPost A) (dg_f (fun t => a_fault A (t : Int)) (dg_f (fun w => a_count A (w : Int)) 17 8) 2) (tw_n (a_W A))) (tw_k (a_W A))) 24)
theorem c_G_dgPost {d N : Nat} (hN : 75 ≤ N) {A : TA} (ok : TAok A) {h : Int} {p : Nat} (hp : p < tw_n (a_W A)) {G : SgM} {Q : Int → SgM → Prop} (cg : cG A G) (post : ∀ G', cG A G' → Q (a_dgPost A h p) G') : sg_Wp 0 N (d + 5) m_G_digestPost 0 [(0, 2, 44), (1, 1, h), (3, 0, (p : Int))] [] G Q := by
  have hn := ok.w.1
  have outer : ∀ (u m : Nat), m + u = 4 → sg_Wp 0 N (d + 5) m_G_digestPost 38 [(0, 2, 44), (3, 0, (p : Int)), (4, 1, dg_h (fun x i => dg_f (fun w => a_stood A (sg_dh (i : Int)) (p : Int) (w : Int)) x 3) (dg_f (fun w => a_post A (p : Int) (w : Int)) h 2) m), (6, 0, (m : Int))] [] G Q := by
    intro u
    induction u with
    | zero =>
      intro m hm
      have em : m = 4 := by omega
      subst em
      exact g_G_digestPost_44_38 hN ⟨fun _ => c_C_fraction hN ok.1 (by omega) (by omega) cg.1 (fun G1 f1 k1 => c_C_fraction hN ok.1 (by omega) (by omega) k1 (fun G2 f2 k2 => post G2 (cg.k k2 (fun c x i => by rw [f2 c (by omega) (by omega), f1 c (by omega) (by omega)])))), fun q => absurd (by omega) q⟩
    | succ u ih =>
      intro m hm
      have ih := ih (m + 1) (by omega)
      rw [dg_h_s] at ih
      refine g_G_digestPost_44_38 hN ⟨fun q => absurd q (by omega), fun _ => ?_⟩
      have inner : ∀ (v j : Nat), j + v = 3 → sg_Wp 0 N (d + 5) m_G_digestPost 47 [(0, 2, 44), (3, 0, (p : Int)), (4, 1, dg_f (fun w => a_stood A (sg_dh (m : Int)) (p : Int) (w : Int)) (dg_h (fun x i => dg_f (fun w => a_stood A (sg_dh (i : Int)) (p : Int) (w : Int)) x 3) (dg_f (fun w => a_post A (p : Int) (w : Int)) h 2) m) j), (6, 0, (m : Int)), (7, 0, (j : Int))] [] G Q := by
        intro v
        induction v with
        | zero =>
          intro j hj
          have ej : j = 3 := by omega
          subst ej
          refine g_G_digestPost_44_47 hN ⟨fun _ => ?_, fun q => absurd (by omega) q⟩
          rw [sg_inc1 m (by omega)]
          exact ih
        | succ v ihv =>
          intro j hj
          have ihv := ihv (j + 1) (by omega)
          rw [dg_f_s] at ihv
          refine g_G_digestPost_44_47 hN ⟨fun q => absurd q (by omega), fun _ => c_G_stood hN ok cg ?_⟩
          rw [sg_inc1 j (by omega)]
          exact ihv
      exact inner 3 0 (by omega)
  have first : ∀ (u m : Nat), m + u = 2 → sg_Wp 0 N (d + 5) m_G_digestPost 6 [(0, 2, 44), (3, 0, (p : Int)), (4, 1, dg_f (fun w => a_post A (p : Int) (w : Int)) h m), (6, 0, (m : Int))] [] G Q := by
    intro u
    induction u with
    | zero =>
      intro m hm
      have em : m = 2 := by omega
      subst em
      exact g_G_digestPost_44_6 hN ⟨fun _ => outer 4 0 (by omega), fun q => absurd (by omega) q⟩
    | succ u ih =>
      intro m hm
      have ih := ih (m + 1) (by omega)
      rw [dg_f_s] at ih
      refine g_G_digestPost_44_6 hN ⟨fun q => absurd q (by omega), fun _ => c_G_post hN ok cg ?_⟩
      rw [sg_inc1 m (by omega)]
      exact ih
  exact g_G_digestPost_44_0 hN (first 2 0 (by omega))
theorem c_G_dgPerson {d N : Nat} (hN : 75 ≤ N) {A : TA} (ok : TAok A) {h : Int} {p : Nat} (hp : p < tw_k (a_W A)) {G : SgM} {Q : Int → SgM → Prop} (cg : cG A G) (post : ∀ G', cG A G' → Q (a_dgPerson A h p) G') : sg_Wp 0 N (d + 5) m_G_digestPerson 0 [(0, 2, 44), (1, 1, h), (3, 0, (p : Int))] [] G Q := by
  have hn := ok.w.2.1
  have outer : ∀ (u m : Nat), m + u = 4 → sg_Wp 0 N (d + 5) m_G_digestPerson 38 [(0, 2, 44), (3, 0, (p : Int)), (4, 1, dg_h (fun x i => dg_f (fun w => a_at A (sg_dh (i : Int)) (p : Int) (w : Int)) x 4) (dg_f (fun w => a_person A (p : Int) (w : Int)) h 4) m), (6, 0, (m : Int))] [] G Q := by
    intro u
    induction u with
    | zero =>
      intro m hm
      have em : m = 4 := by omega
      subst em
      exact g_G_digestPerson_44_38 hN ⟨fun _ => c_G_stroll hN ok cg (fun G1 k1 => c_G_stroll hN ok k1 (fun G2 k2 => c_G_was hN ok k2 (fun G3 k3 => c_G_was hN ok k3 (fun G4 k4 => c_H_ask hN ok.2.1 ok.w hp k4.w k4.h k4.y k4.2.1 (fun G5 f5 => post G5 (k4.fr (fun c x => f5 c (by omega) (by omega)))))))), fun q => absurd (by omega) q⟩
    | succ u ih =>
      intro m hm
      have ih := ih (m + 1) (by omega)
      rw [dg_h_s] at ih
      refine g_G_digestPerson_44_38 hN ⟨fun q => absurd q (by omega), fun _ => ?_⟩
      have inner : ∀ (v j : Nat), j + v = 4 → sg_Wp 0 N (d + 5) m_G_digestPerson 47 [(0, 2, 44), (3, 0, (p : Int)), (4, 1, dg_f (fun w => a_at A (sg_dh (m : Int)) (p : Int) (w : Int)) (dg_h (fun x i => dg_f (fun w => a_at A (sg_dh (i : Int)) (p : Int) (w : Int)) x 4) (dg_f (fun w => a_person A (p : Int) (w : Int)) h 4) m) j), (6, 0, (m : Int)), (7, 0, (j : Int))] [] G Q := by
        intro v
        induction v with
        | zero =>
          intro j hj
          have ej : j = 4 := by omega
          subst ej
          refine g_G_digestPerson_44_47 hN ⟨fun _ => ?_, fun q => absurd (by omega) q⟩
          rw [sg_inc1 m (by omega)]
          exact ih
        | succ v ihv =>
          intro j hj
          have ihv := ihv (j + 1) (by omega)
          rw [dg_f_s] at ihv
          refine g_G_digestPerson_44_47 hN ⟨fun q => absurd q (by omega), fun _ => c_G_at hN ok cg ?_⟩
          rw [sg_inc1 j (by omega)]
          exact ihv
      exact inner 4 0 (by omega)
  have first : ∀ (u m : Nat), m + u = 4 → sg_Wp 0 N (d + 5) m_G_digestPerson 6 [(0, 2, 44), (3, 0, (p : Int)), (4, 1, dg_f (fun w => a_person A (p : Int) (w : Int)) h m), (6, 0, (m : Int))] [] G Q := by
    intro u
    induction u with
    | zero =>
      intro m hm
      have em : m = 4 := by omega
      subst em
      exact g_G_digestPerson_44_6 hN ⟨fun _ => outer 4 0 (by omega), fun q => absurd (by omega) q⟩
    | succ u ih =>
      intro m hm
      have ih := ih (m + 1) (by omega)
      rw [dg_f_s] at ih
      refine g_G_digestPerson_44_6 hN ⟨fun q => absurd q (by omega), fun _ => c_G_person hN ok cg ?_⟩
      rw [sg_inc1 m (by omega)]
      exact ih
  exact g_G_digestPerson_44_0 hN (first 4 0 (by omega))
theorem c_G_dgRest {d N : Nat} (hN : 75 ≤ N) {A : TA} (ok : TAok A) {h : Int} {G : SgM} {Q : Int → SgM → Prop} (cg : cG A G) (post : ∀ G', cG A G' → Q (a_dgRest A h) G') : sg_Wp 0 N (d + 6) m_G_digestRest 0 [(0, 2, 44), (1, 1, h)] [] G Q := by
  have loop : ∀ (u m : Nat), m + u = 3 → sg_Wp 0 N (d + 6) m_G_digestRest 15 [(0, 2, 44), (3, 1, dg_f (fun w => a_longest A (w : Int)) (dg h (td_fgm (a_W A) (a_Y A) 24 : Int)) m), (5, 0, (m : Int))] [] G Q := by
    intro u
    induction u with
    | zero =>
      intro m hm
      have em : m = 3 := by omega
      subst em
      refine g_G_digestRest_44_15 hN ⟨fun _ => c_G_busy hN ok cg (c_G_quiet hN ok cg (c_G_dust hN ok cg (fun G1 k1 => c_G_dust hN ok k1 (fun G2 k2 => c_G_hush hN ok k2 (fun G3 k3 => c_G_hush hN ok k3 (fun G4 k4 => c_G_spare hN ok k4 (fun G5 k5 => c_G_spare hN ok k5 (fun G6 k6 => c_G_never hN ok k6 (fun G7 k7 => c_G_decades hN ok k7 (fun G8 k8 => c_G_decades hN ok k8 (fun G9 k9 => post G9 k9))))))))))), fun q => absurd (by omega) q⟩
    | succ u ih =>
      intro m hm
      have ih := ih (m + 1) (by omega)
      rw [dg_f_s] at ih
      refine g_G_digestRest_44_15 hN ⟨fun q => absurd q (by omega), fun _ => c_G_longest hN cg ?_⟩
      rw [sg_inc1 m (by omega)]
      exact ih
  exact g_G_digestRest_44_0 hN (c_G_forgotten hN cg (loop 3 0 (by omega)))
theorem dg_L5 {d N : Nat} (hN : 75 ≤ N) {A : TA} (ok : TAok A) {x : Int} {G : SgM} {Q : Int → SgM → Prop} (cg : cG A G) (post : ∀ G', cG A G' → Q (a_dgRest A (dg_f (fun h => a_changes A (h : Int)) x 24)) G') : sg_Wp 0 N (d + 7) m_G_digest 117 [(0, 2, 44), (1, 1, x), (3, 0, 0)] [] G Q := by
  have loop : ∀ (u m : Nat), m + u = 24 → sg_Wp 0 N (d + 7) m_G_digest 117 [(0, 2, 44), (1, 1, dg_f (fun h => a_changes A (h : Int)) x m), (3, 0, (m : Int))] [] G Q := by
    intro u
    induction u with
    | zero =>
      intro m hm
      have em : m = 24 := by omega
      subst em
      exact g_G_digest_44_117 hN ⟨fun _ => c_G_dgRest hN ok cg post, fun q => absurd (by omega) q⟩
    | succ u ih =>
      intro m hm
      have ih := ih (m + 1) (by omega)
      rw [dg_f_s] at ih
      refine g_G_digest_44_117 hN ⟨fun q => absurd q (by omega), fun _ => c_G_changes hN cg ?_⟩
      rw [sg_inc1 m (by omega)]
      exact ih
  exact loop 24 0 (by omega)
theorem dg_L4 {d N : Nat} (hN : 75 ≤ N) {A : TA} (ok : TAok A) {x : Int} {G : SgM} {Q : Int → SgM → Prop} (cg : cG A G) (post : ∀ G', cG A G' → Q (a_dgRest A (dg_f (fun h => a_changes A (h : Int)) (dg_h (a_dgPerson A) x (tw_k (a_W A))) 24)) G') : sg_Wp 0 N (d + 7) m_G_digest 88 [(0, 2, 44), (1, 1, x), (3, 0, 0)] [] G Q := by
  have hk := ok.w.2.1
  have loop : ∀ (u m : Nat), m + u = tw_k (a_W A) → ∀ G1 : SgM, cG A G1 → sg_Wp 0 N (d + 7) m_G_digest 88 [(0, 2, 44), (1, 1, dg_h (a_dgPerson A) x m), (3, 0, (m : Int))] [] G1 Q := by
    intro u
    induction u with
    | zero =>
      intro m hm G1 c1
      have em : m = tw_k (a_W A) := by omega
      rw [em]
      exact g_G_digest_44_88 hN ⟨fun _ => dg_L5 hN ok c1 post, fun q => absurd (by rw [c1.w.2.1]; omega) q⟩
    | succ u ih =>
      intro m hm G1 c1
      refine g_G_digest_44_88 hN ⟨fun q => absurd q (by rw [c1.w.2.1]; omega), fun _ => c_G_dgPerson hN ok (by omega) c1 (fun G2 c2 => ?_)⟩
      have ih := ih (m + 1) (by omega) G2 c2
      rw [dg_h_s] at ih
      rw [sg_inc1 m (by omega)]
      exact ih
  exact loop (tw_k (a_W A)) 0 (by omega) G cg
theorem dg_L3 {d N : Nat} (hN : 75 ≤ N) {A : TA} (ok : TAok A) {x : Int} {G : SgM} {Q : Int → SgM → Prop} (cg : cG A G) (post : ∀ G', cG A G' → Q (a_dgRest A (dg_f (fun h => a_changes A (h : Int)) (dg_h (a_dgPerson A) (dg_h (a_dgPost A) x (tw_n (a_W A))) (tw_k (a_W A))) 24)) G') : sg_Wp 0 N (d + 7) m_G_digest 59 [(0, 2, 44), (1, 1, x), (3, 0, 0)] [] G Q := by
  have hn := ok.w.1
  have loop : ∀ (u m : Nat), m + u = tw_n (a_W A) → ∀ G1 : SgM, cG A G1 → sg_Wp 0 N (d + 7) m_G_digest 59 [(0, 2, 44), (1, 1, dg_h (a_dgPost A) x m), (3, 0, (m : Int))] [] G1 Q := by
    intro u
    induction u with
    | zero =>
      intro m hm G1 c1
      have em : m = tw_n (a_W A) := by omega
      rw [em]
      exact g_G_digest_44_59 hN ⟨fun _ => dg_L4 hN ok c1 post, fun q => absurd (by rw [c1.w.1]; omega) q⟩
    | succ u ih =>
      intro m hm G1 c1
      refine g_G_digest_44_59 hN ⟨fun q => absurd q (by rw [c1.w.1]; omega), fun _ => c_G_dgPost hN ok (by omega) c1 (fun G2 c2 => ?_)⟩
      have ih := ih (m + 1) (by omega) G2 c2
      rw [dg_h_s] at ih
      rw [sg_inc1 m (by omega)]
      exact ih
  exact loop (tw_n (a_W A)) 0 (by omega) G cg
theorem dg_L2 {d N : Nat} (hN : 75 ≤ N) {A : TA} (ok : TAok A) {x : Int} {G : SgM} {Q : Int → SgM → Prop} (cg : cG A G) (post : ∀ G', cG A G' → Q (a_dgRest A (dg_f (fun h => a_changes A (h : Int)) (dg_h (a_dgPerson A) (dg_h (a_dgPost A) (dg_f (fun t => a_fault A (t : Int)) x 2) (tw_n (a_W A))) (tw_k (a_W A))) 24)) G') : sg_Wp 0 N (d + 7) m_G_digest 33 [(0, 2, 44), (1, 1, x), (3, 0, 0)] [] G Q := by
  have loop : ∀ (u m : Nat), m + u = 2 → sg_Wp 0 N (d + 7) m_G_digest 33 [(0, 2, 44), (1, 1, dg_f (fun t => a_fault A (t : Int)) x m), (3, 0, (m : Int))] [] G Q := by
    intro u
    induction u with
    | zero =>
      intro m hm
      have em : m = 2 := by omega
      rw [em]
      exact g_G_digest_44_33 hN ⟨fun _ => dg_L3 hN ok cg post, fun q => absurd (by omega) q⟩
    | succ u ih =>
      intro m hm
      have ih := ih (m + 1) (by omega)
      rw [dg_f_s] at ih
      refine g_G_digest_44_33 hN ⟨fun q => absurd q (by omega), fun _ => c_G_fault hN ok cg ?_⟩
      rw [sg_inc1 m (by omega)]
      exact ih
  exact loop 2 0 (by omega)
theorem dg_L1 {d N : Nat} (hN : 75 ≤ N) {A : TA} (ok : TAok A) {x : Int} {G : SgM} {Q : Int → SgM → Prop} (cg : cG A G) (post : ∀ G', cG A G' → Q (a_dgRest A (dg_f (fun h => a_changes A (h : Int)) (dg_h (a_dgPerson A) (dg_h (a_dgPost A) (dg_f (fun t => a_fault A (t : Int)) (dg_f (fun w => a_count A (w : Int)) x 8) 2) (tw_n (a_W A))) (tw_k (a_W A))) 24)) G') : sg_Wp 0 N (d + 7) m_G_digest 6 [(0, 2, 44), (1, 1, x), (3, 0, 0)] [] G Q := by
  have loop : ∀ (u m : Nat), m + u = 8 → sg_Wp 0 N (d + 7) m_G_digest 6 [(0, 2, 44), (1, 1, dg_f (fun w => a_count A (w : Int)) x m), (3, 0, (m : Int))] [] G Q := by
    intro u
    induction u with
    | zero =>
      intro m hm
      have em : m = 8 := by omega
      rw [em]
      exact g_G_digest_44_6 hN ⟨fun _ => dg_L2 hN ok cg post, fun q => absurd (by omega) q⟩
    | succ u ih =>
      intro m hm
      have ih := ih (m + 1) (by omega)
      rw [dg_f_s] at ih
      refine g_G_digest_44_6 hN ⟨fun q => absurd q (by omega), fun _ => c_G_count hN ok cg ?_⟩
      rw [sg_inc1 m (by omega)]
      exact ih
  exact loop 8 0 (by omega)
theorem c_G_digest {d N : Nat} (hN : 75 ≤ N) {A : TA} (ok : TAok A) {G : SgM} {Q : Int → SgM → Prop} (cg : cG A G) (post : ∀ G', cG A G' → Q (a_digest A) G') : sg_Wp 0 N (d + 7) m_G_digest 0 [(0, 2, 44)] [] G Q :=
  g_G_digest_44_0 hN (dg_L1 hN ok cg post)
