/-! THE REFERENCE: its state -/
def cm_S (S : TS) (G : SgM) : Prop := G 200 32 = (S.1 : Int) ∧ ∀ i : Nat, i < S.1 → G 225 (3 * (i : Int)) = ts_h S i ∧ G 225 (3 * (i : Int) + 1) = ts_p S i ∧ G 225 (3 * (i : Int) + 2) = ts_i S i
def cm_Z (Z : TZ) (G : SgM) : Prop := (∀ s : Nat, s < 4 → G 201 s = tz_f Z s ∧ G 202 s = tz_n Z s ∧ ∀ i : Nat, (i : Int) < tz_n Z s → G 203 (60 * (s : Int) + (i : Int)) = tz_i Z s i) ∧ G 200 4 = tz_l Z
def cM (A : TA) (G : SgM) : Prop := cm_T A.1.1 A.1.2.1 G ∧ cm_E A.1.2.2 G ∧ (G 200 13 = 0 ∧ G 200 14 = -1) ∧ cm_S A.2.1 G ∧ cm_Z A.2.2 G
/-- only what is worked out anew has changed -/
def cm_fs (G G' : SgM) : Prop := (∀ c : Int, (c = 201 ∨ c = 202 ∨ c = 203 ∨ c = 205 ∨ c = 206 ∨ c = 209 ∨ c = 225) → ∀ i, G' c i = G c i) ∧ ∀ i : Int, (i = 4 ∨ i = 11 ∨ i = 13 ∨ i = 14 ∨ i = 32) → G' 200 i = G 200 i
theorem cM.fs {A : TA} {G G' : SgM} (h : cM A G) (f : cm_fs G G') : cM A G' := by
  obtain ⟨⟨t0, t1, t2, t3⟩, ⟨e0, e1⟩, ⟨o0, o1⟩, ⟨s0, s1⟩, z0, z1⟩ := h
  have f1 := f.1 201 (by omega)
  have f2 := f.1 202 (by omega)
  have f3 := f.1 203 (by omega)
  have f5 := f.1 205 (by omega)
  have f6 := f.1 206 (by omega)
  have f9 := f.1 209 (by omega)
  have f25 := f.1 225 (by omega)
  refine ⟨⟨by rw [f6]; exact t0, by rw [f6]; exact t1, fun i hi => by rw [f5]; exact t2 i hi, fun i hi => by rw [f5]; exact t3 i hi⟩, ⟨by rw [f.2 11 (by omega)]; exact e0, fun e he => by rw [f9, f9, f9]; exact e1 e he⟩, ⟨by rw [f.2 13 (by omega)]; exact o0, by rw [f.2 14 (by omega)]; exact o1⟩, ⟨by rw [f.2 32 (by omega)]; exact s0, fun i hi => by rw [f25, f25, f25]; exact s1 i hi⟩, fun s hs => ?_, by rw [f.2 4 (by omega)]; exact z1⟩
  have z := z0 s hs
  rw [f1, f2]
  exact ⟨z.1, z.2.1, fun i hi => by rw [f3]; exact z.2.2 i hi⟩
theorem cm_ff.fs {G G' : SgM} (h : cm_ff G G') : cm_fs G G' := ⟨fun c x i => h.1 c (by omega) (by omega) i, fun i x => h.2 i (by omega) (by omega)⟩
