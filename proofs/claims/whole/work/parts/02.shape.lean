/-! the world by numbers: the cells of the landed program from 0, those of the reference from 200 -/
def sg_cn : Nat → String := fun k => match k with
  | 0 => RX0
  | 1 => RX1
  | 2 => RX2
  | 3 => RX3
  | 4 => RX4
  | 5 => RX5
  | 6 => RX6
  | 7 => RX7
  | 8 => RX8
  | 9 => RX9
  | 10 => RX10
  | 11 => RX11
  | 20 => RJ0
  | 21 => RJ1
  | 26 => RJ6
  | 27 => RJ7
  | 29 => RJ9
  | 30 => RL
  | _ => ""
def sg_sh1 : List (Nat × Int) := [(0, 4), (0, 7), (1, 23), (0, 7), (1, 29), (0, 8), (1, 8), (1, 8), (1, 30), (1, 6), (1, 6), (1, 6), (1, 6), (0, 2), (1, 8), (1, 8), (1, 8), (0, 9), (1, 24), (1, 24), (2, 24), (0, 1), (1, 6), (1, 6), (1, 6), (1, 8), (1, 144), (1, 144), (1, 144), (1, 192), (1, 24), (1, 24), (0, 1), (1, 6), (1, 6), (1, 6), (1, 8), (1, 144), (1, 144), (1, 144), (1, 192), (1, 24), (1, 24), (1, 256), (0, 10), (0, 5), (0, 3), (1, 8), (1, 8), (1, 8), (4, 10), (1, 24), (1, 24), (1, 24), (1, 24), (1, 24), (1, 24), (1, 24), (1, 24), (1, 24), (1, 24), (0, 0), (3, 9), (0, 2), (1, 8), (1, 8), (1, 8), (0, 6), (1, 4), (1, 4), (4, 4), (1, 60), (1, 60), (1, 60), (1, 60)]
def sg_sh2 : List (Nat × Int) := [(0, 11), (1, 4), (1, 4), (1, 240), (1, 60), (1, 64), (1, 2), (1, 16), (1, 24), (1, 24), (1, 6), (1, 6), (1, 6), (2, 6), (1, 6), (1, 6), (1, 8), (1, 8), (1, 192), (1, 192), (1, 192), (1, 192), (1, 192), (1, 192), (1, 192), (1, 24), (1, 240), (1, 24)]
/-- what a cell is: 0 an object (and of which kind), 1 ints, 2 booleans, 3 longs, 4 rows of ints; how many -/
def sg_sh (c : Int) : Nat × Int := if c < 200 then sg_sh1.getD c.toNat (9, 0) else sg_sh2.getD (c - 200).toNat (9, 0)
def sg_nfl : List Nat := [4, 17, 4, 6, 8, 5, 4, 4, 9, 3, 5, 37]
def sg_nf (ci : Nat) : Nat := sg_nfl.getD ci 0
/-- the kind of a field: 0 an int, 2 a cell -/
def sg_ftl : List (List Nat) := [[2, 2, 2, 0], [2, 2, 2, 2, 2, 2, 2, 2, 2, 2, 2, 2, 0, 0, 0, 0, 0], [0, 2, 2, 2], [2, 0, 2, 2, 2, 2], [2, 2, 2, 2, 2, 2, 2, 2], [2, 0, 0, 0, 0], [2, 2, 2, 0], [0, 0, 2, 0], [0, 2, 2, 2, 0, 2, 2, 2, 2], [2, 2, 2], [2, 2, 2, 2, 2], [2, 2, 2, 2, 0, 2, 2, 0, 2, 0, 2, 0, 2, 0, 0, 0, 0, 2, 2, 2, 2, 2, 2, 2, 2, 2, 2, 2, 2, 2, 2, 2, 0, 2, 2, 0, 2]]
def sg_ft (ci k : Nat) : Nat := (sg_ftl.getD ci []).getD k 0
def sg_rrl : List (Int × Nat × Int) := [(0, 0, 1), (0, 1, 3), (0, 2, 5), (0, 3, 13), (0, 4, 17), (0, 5, 21), (0, 6, 32), (0, 7, 43), (1, 2, 2), (3, 2, 4), (5, 1, 6), (5, 2, 7), (5, 3, 8), (5, 5, 9), (5, 6, 10), (5, 7, 11), (5, 8, 12), (13, 1, 14), (13, 2, 15), (13, 3, 16), (17, 0, 18), (17, 1, 19), (17, 2, 20), (21, 0, 5), (21, 1, 17), (21, 2, 22), (21, 3, 23), (21, 4, 24), (21, 5, 25), (21, 6, 26), (21, 7, 27), (21, 8, 28), (21, 9, 29), (21, 10, 30), (21, 11, 31), (32, 0, 5), (32, 1, 17), (32, 2, 33), (32, 3, 34), (32, 4, 35), (32, 5, 36), (32, 6, 37), (32, 7, 38), (32, 8, 39), (32, 9, 40), (32, 10, 41), (32, 11, 42), (44, 0, 0), (44, 1, 45), (44, 2, 46), (44, 3, 61), (44, 4, 67), (45, 0, 0), (46, 0, 0), (46, 2, 47), (46, 3, 48), (46, 4, 49), (46, 5, 50), (61, 0, 0), (61, 1, 63), (61, 2, 62), (63, 1, 64), (63, 2, 65), (63, 3, 66), (67, 0, 68), (67, 1, 69), (67, 2, 70), (200, 0, 201), (200, 1, 202), (200, 2, 203), (200, 3, 204), (200, 5, 205), (200, 6, 206), (200, 8, 207), (200, 10, 208), (200, 12, 209), (200, 17, 210), (200, 18, 211), (200, 19, 212), (200, 20, 213), (200, 21, 214), (200, 22, 215), (200, 23, 216), (200, 24, 217), (200, 25, 218), (200, 26, 219), (200, 27, 220), (200, 28, 221), (200, 29, 222), (200, 30, 223), (200, 31, 224), (200, 33, 225), (200, 34, 226), (200, 36, 227)]
/-- which cell a field of a cell holds -/
def sg_rr (c : Int) (k : Nat) : Int := ((sg_rrl.find? (fun q => decide (q.1 = c) && decide (q.2.1 = k))).map (fun q => q.2.2)).getD 0
/-- the first of the rows of a cell of rows -/
def sg_qb (c : Int) : Int := if c = 50 then 51 else if c = 70 then 71 else 0
theorem sg_l0 : ∀ w ∈ wsX00, w ∈ sg_GT := by
  have h : wsX00 = ([550, 552, 554, 556] : List Nat).filterMap (fun i => tables_1[i]?) := by decide +kernel
  have hg : wsX00.all goodWord = true := by decide +kernel
  intro w hw
  have h2 := List.all_eq_true.mp hg w hw
  rw [h] at hw
  obtain ⟨i, -, hi⟩ := List.mem_filterMap.mp hw
  exact sg_inGT (List.mem_of_getElem? hi) h2
theorem sg_l1 : ∀ w ∈ wsX10, w ∈ sg_GT := by
  have h : wsX10 = ([198, 200, 202, 204, 206, 208, 210, 212, 214, 216, 218, 220, 222, 224, 226, 228, 230] : List Nat).filterMap (fun i => tables_1[i]?) := by decide +kernel
  have hg : wsX10.all goodWord = true := by decide +kernel
  intro w hw
  have h2 := List.all_eq_true.mp hg w hw
  rw [h] at hw
  obtain ⟨i, -, hi⟩ := List.mem_filterMap.mp hw
  exact sg_inGT (List.mem_of_getElem? hi) h2
theorem sg_l2 : ∀ w ∈ wsX20, w ∈ sg_GT := by
  have h : wsX20 = ([129, 131, 133, 135] : List Nat).filterMap (fun i => tables_1[i]?) := by decide +kernel
  have hg : wsX20.all goodWord = true := by decide +kernel
  intro w hw
  have h2 := List.all_eq_true.mp hg w hw
  rw [h] at hw
  obtain ⟨i, -, hi⟩ := List.mem_filterMap.mp hw
  exact sg_inGT (List.mem_of_getElem? hi) h2
theorem sg_l3 : ∀ w ∈ wsX30, w ∈ sg_GT := by
  have h : wsX30 = ([525, 527, 529, 531, 533, 535] : List Nat).filterMap (fun i => tables_1[i]?) := by decide +kernel
  have hg : wsX30.all goodWord = true := by decide +kernel
  intro w hw
  have h2 := List.all_eq_true.mp hg w hw
  rw [h] at hw
  obtain ⟨i, -, hi⟩ := List.mem_filterMap.mp hw
  exact sg_inGT (List.mem_of_getElem? hi) h2
theorem sg_l4 : ∀ w ∈ wsX40, w ∈ sg_GT := by
  have h : wsX40 = ([466, 468, 470, 472, 474, 476, 478, 480] : List Nat).filterMap (fun i => tables_1[i]?) := by decide +kernel
  have hg : wsX40.all goodWord = true := by decide +kernel
  intro w hw
  have h2 := List.all_eq_true.mp hg w hw
  rw [h] at hw
  obtain ⟨i, -, hi⟩ := List.mem_filterMap.mp hw
  exact sg_inGT (List.mem_of_getElem? hi) h2
theorem sg_l5 : ∀ w ∈ wsX50, w ∈ sg_GT := by
  have h : wsX50 = ([499, 501, 503, 505, 507] : List Nat).filterMap (fun i => tables_1[i]?) := by decide +kernel
  have hg : wsX50.all goodWord = true := by decide +kernel
  intro w hw
  have h2 := List.all_eq_true.mp hg w hw
  rw [h] at hw
  obtain ⟨i, -, hi⟩ := List.mem_filterMap.mp hw
  exact sg_inGT (List.mem_of_getElem? hi) h2
theorem sg_l6 : ∀ w ∈ wsX60, w ∈ sg_GT := by
  have h : wsX60 = ([573, 575, 577, 579] : List Nat).filterMap (fun i => tables_1[i]?) := by decide +kernel
  have hg : wsX60.all goodWord = true := by decide +kernel
  intro w hw
  have h2 := List.all_eq_true.mp hg w hw
  rw [h] at hw
  obtain ⟨i, -, hi⟩ := List.mem_filterMap.mp hw
  exact sg_inGT (List.mem_of_getElem? hi) h2
theorem sg_l7 : ∀ w ∈ wsX70, w ∈ sg_GT := by
  have h : wsX70 = ([47, 49, 51, 53] : List Nat).filterMap (fun i => tables_1[i]?) := by decide +kernel
  have hg : wsX70.all goodWord = true := by decide +kernel
  intro w hw
  have h2 := List.all_eq_true.mp hg w hw
  rw [h] at hw
  obtain ⟨i, -, hi⟩ := List.mem_filterMap.mp hw
  exact sg_inGT (List.mem_of_getElem? hi) h2
theorem sg_l8 : ∀ w ∈ wsX80, w ∈ sg_GT := by
  have h : wsX80 = ([92, 94, 96, 98, 100, 102, 104, 106, 108] : List Nat).filterMap (fun i => tables_1[i]?) := by decide +kernel
  have hg : wsX80.all goodWord = true := by decide +kernel
  intro w hw
  have h2 := List.all_eq_true.mp hg w hw
  rw [h] at hw
  obtain ⟨i, -, hi⟩ := List.mem_filterMap.mp hw
  exact sg_inGT (List.mem_of_getElem? hi) h2
theorem sg_l9 : ∀ w ∈ wsX90, w ∈ sg_GT := by
  have h : wsX90 = ([152, 154, 156] : List Nat).filterMap (fun i => tables_1[i]?) := by decide +kernel
  have hg : wsX90.all goodWord = true := by decide +kernel
  intro w hw
  have h2 := List.all_eq_true.mp hg w hw
  rw [h] at hw
  obtain ⟨i, -, hi⟩ := List.mem_filterMap.mp hw
  exact sg_inGT (List.mem_of_getElem? hi) h2
theorem sg_l10 : ∀ w ∈ wsX100, w ∈ sg_GT := by
  have h : wsX100 = ([587, 589, 591, 593, 595] : List Nat).filterMap (fun i => tables_1[i]?) := by decide +kernel
  have hg : wsX100.all goodWord = true := by decide +kernel
  intro w hw
  have h2 := List.all_eq_true.mp hg w hw
  rw [h] at hw
  obtain ⟨i, -, hi⟩ := List.mem_filterMap.mp hw
  exact sg_inGT (List.mem_of_getElem? hi) h2
theorem sg_l11 : ∀ w ∈ wsX110, w ∈ sg_GT := by
  have h : wsX110 = ([1007, 1009, 1011, 1013, 1015, 1017, 1019, 1021, 1023, 1025, 1027, 1029, 1031, 1033, 1035, 1037, 1039, 1041, 1043, 1045, 1047, 1049, 1051, 1053, 1055, 1057, 1059, 1061, 1063, 1065, 1067, 1069, 1071, 1073, 1075, 1077, 1079] : List Nat).filterMap (fun i => tables_1[i]?) := by decide +kernel
  have hg : wsX110.all goodWord = true := by decide +kernel
  intro w hw
  have h2 := List.all_eq_true.mp hg w hw
  rw [h] at hw
  obtain ⟨i, -, hi⟩ := List.mem_filterMap.mp hw
  exact sg_inGT (List.mem_of_getElem? hi) h2
/-- a field link: own file, place in its pool, the kind of object, the slot -/
def sg_FL (own idx ci k : Nat) : Prop := ∃ (C : String) (T : u_T) (N : Nat), vwCl[ci]? = some (C, T, N) ∧ sg_nf ci = N ∧ k < N ∧ (∀ w ∈ u_ws C T N, w ∈ sg_GT) ∧ Cond.fieldLink (sg_cn own) idx (T k).1 (T k).2.1 (T k).2.2.1 ∈ sg_GT
/-- a field that may be written behind the making: an int -/
def sg_FP (ci k : Nat) : Prop := ∃ (C : String) (T : u_T) (N : Nat) (ty0 : Nat → FieldType), vwCl[ci]? = some (C, T, N) ∧ (∀ k, k < N → parseFieldDescriptor (T k).2.2.1 = some (ty0 k)) ∧ (∀ a, a < N → ∀ b, b < N → a ≠ b → (T a).2.1 ≠ (T b).2.1) ∧ (T k).2.2.2 = false ∧ parseFieldDescriptor (T k).2.2.1 = some .int ∧ sg_ft ci k = 0
theorem sg_f0 : sg_FL 7 9 7 0 := ⟨RX7, TX7, 4, rfl, rfl, by decide, sg_l7, sg_inGT (List.mem_of_getElem? (i := 42) (by decide +kernel)) rfl⟩
theorem sg_f1 : sg_FL 7 15 7 1 := ⟨RX7, TX7, 4, rfl, rfl, by decide, sg_l7, sg_inGT (List.mem_of_getElem? (i := 43) (by decide +kernel)) rfl⟩
theorem sg_f2 : sg_FL 7 19 7 2 := ⟨RX7, TX7, 4, rfl, rfl, by decide, sg_l7, sg_inGT (List.mem_of_getElem? (i := 44) (by decide +kernel)) rfl⟩
theorem sg_f3 : sg_FL 7 23 7 3 := ⟨RX7, TX7, 4, rfl, rfl, by decide, sg_l7, sg_inGT (List.mem_of_getElem? (i := 45) (by decide +kernel)) rfl⟩
theorem sg_f4 : sg_FL 10 269 7 3 := ⟨RX7, TX7, 4, rfl, rfl, by decide, sg_l7, sg_inGT (List.mem_of_getElem? (i := 46) (by decide +kernel)) rfl⟩
theorem sg_f5 : sg_FL 8 45 8 0 := ⟨RX8, TX8, 9, rfl, rfl, by decide, sg_l8, sg_inGT (List.mem_of_getElem? (i := 63) (by decide +kernel)) rfl⟩
theorem sg_f6 : sg_FL 5 28 8 0 := ⟨RX8, TX8, 9, rfl, rfl, by decide, sg_l8, sg_inGT (List.mem_of_getElem? (i := 64) (by decide +kernel)) rfl⟩
theorem sg_f7 : sg_FL 1 136 8 0 := ⟨RX8, TX8, 9, rfl, rfl, by decide, sg_l8, sg_inGT (List.mem_of_getElem? (i := 65) (by decide +kernel)) rfl⟩
theorem sg_f8 : sg_FL 3 103 8 0 := ⟨RX8, TX8, 9, rfl, rfl, by decide, sg_l8, sg_inGT (List.mem_of_getElem? (i := 66) (by decide +kernel)) rfl⟩
theorem sg_f9 : sg_FL 10 259 8 0 := ⟨RX8, TX8, 9, rfl, rfl, by decide, sg_l8, sg_inGT (List.mem_of_getElem? (i := 67) (by decide +kernel)) rfl⟩
theorem sg_f10 : sg_FL 8 9 8 1 := ⟨RX8, TX8, 9, rfl, rfl, by decide, sg_l8, sg_inGT (List.mem_of_getElem? (i := 68) (by decide +kernel)) rfl⟩
theorem sg_f11 : sg_FL 10 81 8 1 := ⟨RX8, TX8, 9, rfl, rfl, by decide, sg_l8, sg_inGT (List.mem_of_getElem? (i := 69) (by decide +kernel)) rfl⟩
theorem sg_f12 : sg_FL 8 15 8 2 := ⟨RX8, TX8, 9, rfl, rfl, by decide, sg_l8, sg_inGT (List.mem_of_getElem? (i := 70) (by decide +kernel)) rfl⟩
theorem sg_f13 : sg_FL 10 87 8 2 := ⟨RX8, TX8, 9, rfl, rfl, by decide, sg_l8, sg_inGT (List.mem_of_getElem? (i := 71) (by decide +kernel)) rfl⟩
theorem sg_f14 : sg_FL 8 18 8 3 := ⟨RX8, TX8, 9, rfl, rfl, by decide, sg_l8, sg_inGT (List.mem_of_getElem? (i := 72) (by decide +kernel)) rfl⟩
theorem sg_f15 : sg_FL 1 69 8 4 := ⟨RX8, TX8, 9, rfl, rfl, by decide, sg_l8, sg_inGT (List.mem_of_getElem? (i := 73) (by decide +kernel)) rfl⟩
theorem sg_f16 : sg_FL 8 58 8 4 := ⟨RX8, TX8, 9, rfl, rfl, by decide, sg_l8, sg_inGT (List.mem_of_getElem? (i := 74) (by decide +kernel)) rfl⟩
theorem sg_f17 : sg_FL 5 64 8 4 := ⟨RX8, TX8, 9, rfl, rfl, by decide, sg_l8, sg_inGT (List.mem_of_getElem? (i := 75) (by decide +kernel)) rfl⟩
theorem sg_f18 : sg_FL 10 262 8 4 := ⟨RX8, TX8, 9, rfl, rfl, by decide, sg_l8, sg_inGT (List.mem_of_getElem? (i := 76) (by decide +kernel)) rfl⟩
theorem sg_f19 : sg_FL 8 21 8 5 := ⟨RX8, TX8, 9, rfl, rfl, by decide, sg_l8, sg_inGT (List.mem_of_getElem? (i := 77) (by decide +kernel)) rfl⟩
theorem sg_f20 : sg_FL 3 60 8 5 := ⟨RX8, TX8, 9, rfl, rfl, by decide, sg_l8, sg_inGT (List.mem_of_getElem? (i := 78) (by decide +kernel)) rfl⟩
theorem sg_f21 : sg_FL 1 123 8 5 := ⟨RX8, TX8, 9, rfl, rfl, by decide, sg_l8, sg_inGT (List.mem_of_getElem? (i := 79) (by decide +kernel)) rfl⟩
theorem sg_f22 : sg_FL 10 93 8 5 := ⟨RX8, TX8, 9, rfl, rfl, by decide, sg_l8, sg_inGT (List.mem_of_getElem? (i := 80) (by decide +kernel)) rfl⟩
theorem sg_f23 : sg_FL 8 24 8 6 := ⟨RX8, TX8, 9, rfl, rfl, by decide, sg_l8, sg_inGT (List.mem_of_getElem? (i := 81) (by decide +kernel)) rfl⟩
theorem sg_f24 : sg_FL 5 33 8 6 := ⟨RX8, TX8, 9, rfl, rfl, by decide, sg_l8, sg_inGT (List.mem_of_getElem? (i := 82) (by decide +kernel)) rfl⟩
theorem sg_f25 : sg_FL 1 75 8 6 := ⟨RX8, TX8, 9, rfl, rfl, by decide, sg_l8, sg_inGT (List.mem_of_getElem? (i := 83) (by decide +kernel)) rfl⟩
theorem sg_f26 : sg_FL 10 96 8 6 := ⟨RX8, TX8, 9, rfl, rfl, by decide, sg_l8, sg_inGT (List.mem_of_getElem? (i := 84) (by decide +kernel)) rfl⟩
theorem sg_f27 : sg_FL 8 27 8 7 := ⟨RX8, TX8, 9, rfl, rfl, by decide, sg_l8, sg_inGT (List.mem_of_getElem? (i := 85) (by decide +kernel)) rfl⟩
theorem sg_f28 : sg_FL 1 76 8 7 := ⟨RX8, TX8, 9, rfl, rfl, by decide, sg_l8, sg_inGT (List.mem_of_getElem? (i := 86) (by decide +kernel)) rfl⟩
theorem sg_f29 : sg_FL 10 99 8 7 := ⟨RX8, TX8, 9, rfl, rfl, by decide, sg_l8, sg_inGT (List.mem_of_getElem? (i := 87) (by decide +kernel)) rfl⟩
theorem sg_f30 : sg_FL 8 30 8 8 := ⟨RX8, TX8, 9, rfl, rfl, by decide, sg_l8, sg_inGT (List.mem_of_getElem? (i := 88) (by decide +kernel)) rfl⟩
theorem sg_f31 : sg_FL 1 79 8 8 := ⟨RX8, TX8, 9, rfl, rfl, by decide, sg_l8, sg_inGT (List.mem_of_getElem? (i := 89) (by decide +kernel)) rfl⟩
theorem sg_f32 : sg_FL 3 74 8 8 := ⟨RX8, TX8, 9, rfl, rfl, by decide, sg_l8, sg_inGT (List.mem_of_getElem? (i := 90) (by decide +kernel)) rfl⟩
theorem sg_f33 : sg_FL 10 102 8 8 := ⟨RX8, TX8, 9, rfl, rfl, by decide, sg_l8, sg_inGT (List.mem_of_getElem? (i := 91) (by decide +kernel)) rfl⟩
theorem sg_f34 : sg_FL 0 31 2 0 := ⟨RX2, TX2, 4, rfl, rfl, by decide, sg_l2, sg_inGT (List.mem_of_getElem? (i := 117) (by decide +kernel)) rfl⟩
theorem sg_f35 : sg_FL 9 22 2 0 := ⟨RX2, TX2, 4, rfl, rfl, by decide, sg_l2, sg_inGT (List.mem_of_getElem? (i := 118) (by decide +kernel)) rfl⟩
theorem sg_f36 : sg_FL 2 25 2 0 := ⟨RX2, TX2, 4, rfl, rfl, by decide, sg_l2, sg_inGT (List.mem_of_getElem? (i := 119) (by decide +kernel)) rfl⟩
theorem sg_f37 : sg_FL 3 40 2 0 := ⟨RX2, TX2, 4, rfl, rfl, by decide, sg_l2, sg_inGT (List.mem_of_getElem? (i := 120) (by decide +kernel)) rfl⟩
theorem sg_f38 : sg_FL 5 87 2 0 := ⟨RX2, TX2, 4, rfl, rfl, by decide, sg_l2, sg_inGT (List.mem_of_getElem? (i := 121) (by decide +kernel)) rfl⟩
theorem sg_f39 : sg_FL 10 117 2 0 := ⟨RX2, TX2, 4, rfl, rfl, by decide, sg_l2, sg_inGT (List.mem_of_getElem? (i := 122) (by decide +kernel)) rfl⟩
theorem sg_f40 : sg_FL 2 9 2 1 := ⟨RX2, TX2, 4, rfl, rfl, by decide, sg_l2, sg_inGT (List.mem_of_getElem? (i := 123) (by decide +kernel)) rfl⟩
theorem sg_f41 : sg_FL 9 38 2 1 := ⟨RX2, TX2, 4, rfl, rfl, by decide, sg_l2, sg_inGT (List.mem_of_getElem? (i := 124) (by decide +kernel)) rfl⟩
theorem sg_f42 : sg_FL 2 15 2 2 := ⟨RX2, TX2, 4, rfl, rfl, by decide, sg_l2, sg_inGT (List.mem_of_getElem? (i := 125) (by decide +kernel)) rfl⟩
theorem sg_f43 : sg_FL 9 32 2 2 := ⟨RX2, TX2, 4, rfl, rfl, by decide, sg_l2, sg_inGT (List.mem_of_getElem? (i := 126) (by decide +kernel)) rfl⟩
theorem sg_f44 : sg_FL 2 18 2 3 := ⟨RX2, TX2, 4, rfl, rfl, by decide, sg_l2, sg_inGT (List.mem_of_getElem? (i := 127) (by decide +kernel)) rfl⟩
theorem sg_f45 : sg_FL 9 41 2 3 := ⟨RX2, TX2, 4, rfl, rfl, by decide, sg_l2, sg_inGT (List.mem_of_getElem? (i := 128) (by decide +kernel)) rfl⟩
theorem sg_f46 : sg_FL 9 9 9 0 := ⟨RX9, TX9, 3, rfl, rfl, by decide, sg_l9, sg_inGT (List.mem_of_getElem? (i := 144) (by decide +kernel)) rfl⟩
theorem sg_f47 : sg_FL 5 53 9 0 := ⟨RX9, TX9, 3, rfl, rfl, by decide, sg_l9, sg_inGT (List.mem_of_getElem? (i := 145) (by decide +kernel)) rfl⟩
theorem sg_f48 : sg_FL 1 111 9 0 := ⟨RX9, TX9, 3, rfl, rfl, by decide, sg_l9, sg_inGT (List.mem_of_getElem? (i := 146) (by decide +kernel)) rfl⟩
theorem sg_f49 : sg_FL 9 15 9 1 := ⟨RX9, TX9, 3, rfl, rfl, by decide, sg_l9, sg_inGT (List.mem_of_getElem? (i := 147) (by decide +kernel)) rfl⟩
theorem sg_f50 : sg_FL 5 61 9 1 := ⟨RX9, TX9, 3, rfl, rfl, by decide, sg_l9, sg_inGT (List.mem_of_getElem? (i := 148) (by decide +kernel)) rfl⟩
theorem sg_f51 : sg_FL 1 120 9 1 := ⟨RX9, TX9, 3, rfl, rfl, by decide, sg_l9, sg_inGT (List.mem_of_getElem? (i := 149) (by decide +kernel)) rfl⟩
theorem sg_f52 : sg_FL 9 18 9 2 := ⟨RX9, TX9, 3, rfl, rfl, by decide, sg_l9, sg_inGT (List.mem_of_getElem? (i := 150) (by decide +kernel)) rfl⟩
theorem sg_f53 : sg_FL 1 105 9 2 := ⟨RX9, TX9, 3, rfl, rfl, by decide, sg_l9, sg_inGT (List.mem_of_getElem? (i := 151) (by decide +kernel)) rfl⟩
theorem sg_f54 : sg_FL 1 42 1 0 := ⟨RX1, TX1, 17, rfl, rfl, by decide, sg_l1, sg_inGT (List.mem_of_getElem? (i := 166) (by decide +kernel)) rfl⟩
theorem sg_f55 : sg_FL 1 46 1 1 := ⟨RX1, TX1, 17, rfl, rfl, by decide, sg_l1, sg_inGT (List.mem_of_getElem? (i := 167) (by decide +kernel)) rfl⟩
theorem sg_f56 : sg_FL 1 9 1 2 := ⟨RX1, TX1, 17, rfl, rfl, by decide, sg_l1, sg_inGT (List.mem_of_getElem? (i := 168) (by decide +kernel)) rfl⟩
theorem sg_f57 : sg_FL 1 15 1 3 := ⟨RX1, TX1, 17, rfl, rfl, by decide, sg_l1, sg_inGT (List.mem_of_getElem? (i := 169) (by decide +kernel)) rfl⟩
theorem sg_f58 : sg_FL 1 18 1 4 := ⟨RX1, TX1, 17, rfl, rfl, by decide, sg_l1, sg_inGT (List.mem_of_getElem? (i := 170) (by decide +kernel)) rfl⟩
theorem sg_f59 : sg_FL 1 21 1 5 := ⟨RX1, TX1, 17, rfl, rfl, by decide, sg_l1, sg_inGT (List.mem_of_getElem? (i := 171) (by decide +kernel)) rfl⟩
theorem sg_f60 : sg_FL 1 24 1 6 := ⟨RX1, TX1, 17, rfl, rfl, by decide, sg_l1, sg_inGT (List.mem_of_getElem? (i := 172) (by decide +kernel)) rfl⟩
theorem sg_f61 : sg_FL 10 134 1 6 := ⟨RX1, TX1, 17, rfl, rfl, by decide, sg_l1, sg_inGT (List.mem_of_getElem? (i := 173) (by decide +kernel)) rfl⟩
theorem sg_f62 : sg_FL 1 27 1 7 := ⟨RX1, TX1, 17, rfl, rfl, by decide, sg_l1, sg_inGT (List.mem_of_getElem? (i := 174) (by decide +kernel)) rfl⟩
theorem sg_f63 : sg_FL 10 144 1 7 := ⟨RX1, TX1, 17, rfl, rfl, by decide, sg_l1, sg_inGT (List.mem_of_getElem? (i := 175) (by decide +kernel)) rfl⟩
theorem sg_f64 : sg_FL 1 30 1 8 := ⟨RX1, TX1, 17, rfl, rfl, by decide, sg_l1, sg_inGT (List.mem_of_getElem? (i := 176) (by decide +kernel)) rfl⟩
theorem sg_f65 : sg_FL 1 33 1 9 := ⟨RX1, TX1, 17, rfl, rfl, by decide, sg_l1, sg_inGT (List.mem_of_getElem? (i := 177) (by decide +kernel)) rfl⟩
theorem sg_f66 : sg_FL 10 145 1 9 := ⟨RX1, TX1, 17, rfl, rfl, by decide, sg_l1, sg_inGT (List.mem_of_getElem? (i := 178) (by decide +kernel)) rfl⟩
theorem sg_f67 : sg_FL 1 36 1 10 := ⟨RX1, TX1, 17, rfl, rfl, by decide, sg_l1, sg_inGT (List.mem_of_getElem? (i := 179) (by decide +kernel)) rfl⟩
theorem sg_f68 : sg_FL 10 137 1 10 := ⟨RX1, TX1, 17, rfl, rfl, by decide, sg_l1, sg_inGT (List.mem_of_getElem? (i := 180) (by decide +kernel)) rfl⟩
theorem sg_f69 : sg_FL 1 39 1 11 := ⟨RX1, TX1, 17, rfl, rfl, by decide, sg_l1, sg_inGT (List.mem_of_getElem? (i := 181) (by decide +kernel)) rfl⟩
theorem sg_f70 : sg_FL 3 77 1 11 := ⟨RX1, TX1, 17, rfl, rfl, by decide, sg_l1, sg_inGT (List.mem_of_getElem? (i := 182) (by decide +kernel)) rfl⟩
theorem sg_f71 : sg_FL 10 148 1 11 := ⟨RX1, TX1, 17, rfl, rfl, by decide, sg_l1, sg_inGT (List.mem_of_getElem? (i := 183) (by decide +kernel)) rfl⟩
theorem sg_f72 : sg_FL 5 58 1 12 := ⟨RX1, TX1, 17, rfl, rfl, by decide, sg_l1, sg_inGT (List.mem_of_getElem? (i := 184) (by decide +kernel)) rfl⟩
theorem sg_f73 : sg_FL 1 86 1 12 := ⟨RX1, TX1, 17, rfl, rfl, by decide, sg_l1, sg_inGT (List.mem_of_getElem? (i := 185) (by decide +kernel)) rfl⟩
theorem sg_f74 : sg_FL 10 166 1 12 := ⟨RX1, TX1, 17, rfl, rfl, by decide, sg_l1, sg_inGT (List.mem_of_getElem? (i := 186) (by decide +kernel)) rfl⟩
theorem sg_f75 : sg_FL 1 89 1 13 := ⟨RX1, TX1, 17, rfl, rfl, by decide, sg_l1, sg_inGT (List.mem_of_getElem? (i := 187) (by decide +kernel)) rfl⟩
theorem sg_f76 : sg_FL 5 74 1 13 := ⟨RX1, TX1, 17, rfl, rfl, by decide, sg_l1, sg_inGT (List.mem_of_getElem? (i := 188) (by decide +kernel)) rfl⟩
theorem sg_f77 : sg_FL 4 94 1 13 := ⟨RX1, TX1, 17, rfl, rfl, by decide, sg_l1, sg_inGT (List.mem_of_getElem? (i := 189) (by decide +kernel)) rfl⟩
theorem sg_f78 : sg_FL 10 154 1 13 := ⟨RX1, TX1, 17, rfl, rfl, by decide, sg_l1, sg_inGT (List.mem_of_getElem? (i := 190) (by decide +kernel)) rfl⟩
theorem sg_f79 : sg_FL 5 46 1 14 := ⟨RX1, TX1, 17, rfl, rfl, by decide, sg_l1, sg_inGT (List.mem_of_getElem? (i := 191) (by decide +kernel)) rfl⟩
theorem sg_f80 : sg_FL 1 92 1 14 := ⟨RX1, TX1, 17, rfl, rfl, by decide, sg_l1, sg_inGT (List.mem_of_getElem? (i := 192) (by decide +kernel)) rfl⟩
theorem sg_f81 : sg_FL 10 163 1 14 := ⟨RX1, TX1, 17, rfl, rfl, by decide, sg_l1, sg_inGT (List.mem_of_getElem? (i := 193) (by decide +kernel)) rfl⟩
theorem sg_f82 : sg_FL 1 95 1 15 := ⟨RX1, TX1, 17, rfl, rfl, by decide, sg_l1, sg_inGT (List.mem_of_getElem? (i := 194) (by decide +kernel)) rfl⟩
theorem sg_f83 : sg_FL 10 157 1 15 := ⟨RX1, TX1, 17, rfl, rfl, by decide, sg_l1, sg_inGT (List.mem_of_getElem? (i := 195) (by decide +kernel)) rfl⟩
theorem sg_f84 : sg_FL 1 98 1 16 := ⟨RX1, TX1, 17, rfl, rfl, by decide, sg_l1, sg_inGT (List.mem_of_getElem? (i := 196) (by decide +kernel)) rfl⟩
theorem sg_f85 : sg_FL 10 160 1 16 := ⟨RX1, TX1, 17, rfl, rfl, by decide, sg_l1, sg_inGT (List.mem_of_getElem? (i := 197) (by decide +kernel)) rfl⟩
theorem sg_f86 : sg_FL 4 14 4 0 := ⟨RX4, TX4, 8, rfl, rfl, by decide, sg_l4, sg_inGT (List.mem_of_getElem? (i := 443) (by decide +kernel)) rfl⟩
theorem sg_f87 : sg_FL 10 265 4 0 := ⟨RX4, TX4, 8, rfl, rfl, by decide, sg_l4, sg_inGT (List.mem_of_getElem? (i := 444) (by decide +kernel)) rfl⟩
theorem sg_f88 : sg_FL 4 20 4 1 := ⟨RX4, TX4, 8, rfl, rfl, by decide, sg_l4, sg_inGT (List.mem_of_getElem? (i := 445) (by decide +kernel)) rfl⟩
theorem sg_f89 : sg_FL 10 272 4 1 := ⟨RX4, TX4, 8, rfl, rfl, by decide, sg_l4, sg_inGT (List.mem_of_getElem? (i := 446) (by decide +kernel)) rfl⟩
theorem sg_f90 : sg_FL 4 26 4 2 := ⟨RX4, TX4, 8, rfl, rfl, by decide, sg_l4, sg_inGT (List.mem_of_getElem? (i := 447) (by decide +kernel)) rfl⟩
theorem sg_f91 : sg_FL 5 22 4 2 := ⟨RX4, TX4, 8, rfl, rfl, by decide, sg_l4, sg_inGT (List.mem_of_getElem? (i := 448) (by decide +kernel)) rfl⟩
theorem sg_f92 : sg_FL 3 56 4 2 := ⟨RX4, TX4, 8, rfl, rfl, by decide, sg_l4, sg_inGT (List.mem_of_getElem? (i := 449) (by decide +kernel)) rfl⟩
theorem sg_f93 : sg_FL 10 77 4 2 := ⟨RX4, TX4, 8, rfl, rfl, by decide, sg_l4, sg_inGT (List.mem_of_getElem? (i := 450) (by decide +kernel)) rfl⟩
theorem sg_f94 : sg_FL 4 33 4 3 := ⟨RX4, TX4, 8, rfl, rfl, by decide, sg_l4, sg_inGT (List.mem_of_getElem? (i := 451) (by decide +kernel)) rfl⟩
theorem sg_f95 : sg_FL 0 26 4 3 := ⟨RX4, TX4, 8, rfl, rfl, by decide, sg_l4, sg_inGT (List.mem_of_getElem? (i := 452) (by decide +kernel)) rfl⟩
theorem sg_f96 : sg_FL 3 34 4 3 := ⟨RX4, TX4, 8, rfl, rfl, by decide, sg_l4, sg_inGT (List.mem_of_getElem? (i := 453) (by decide +kernel)) rfl⟩
theorem sg_f97 : sg_FL 5 77 4 3 := ⟨RX4, TX4, 8, rfl, rfl, by decide, sg_l4, sg_inGT (List.mem_of_getElem? (i := 454) (by decide +kernel)) rfl⟩
theorem sg_f98 : sg_FL 10 111 4 3 := ⟨RX4, TX4, 8, rfl, rfl, by decide, sg_l4, sg_inGT (List.mem_of_getElem? (i := 455) (by decide +kernel)) rfl⟩
theorem sg_f99 : sg_FL 4 40 4 4 := ⟨RX4, TX4, 8, rfl, rfl, by decide, sg_l4, sg_inGT (List.mem_of_getElem? (i := 456) (by decide +kernel)) rfl⟩
theorem sg_f100 : sg_FL 5 49 4 4 := ⟨RX4, TX4, 8, rfl, rfl, by decide, sg_l4, sg_inGT (List.mem_of_getElem? (i := 457) (by decide +kernel)) rfl⟩
theorem sg_f101 : sg_FL 4 49 4 5 := ⟨RX4, TX4, 8, rfl, rfl, by decide, sg_l4, sg_inGT (List.mem_of_getElem? (i := 458) (by decide +kernel)) rfl⟩
theorem sg_f102 : sg_FL 5 71 4 5 := ⟨RX4, TX4, 8, rfl, rfl, by decide, sg_l4, sg_inGT (List.mem_of_getElem? (i := 459) (by decide +kernel)) rfl⟩
theorem sg_f103 : sg_FL 10 130 4 5 := ⟨RX4, TX4, 8, rfl, rfl, by decide, sg_l4, sg_inGT (List.mem_of_getElem? (i := 460) (by decide +kernel)) rfl⟩
theorem sg_f104 : sg_FL 4 53 4 6 := ⟨RX4, TX4, 8, rfl, rfl, by decide, sg_l4, sg_inGT (List.mem_of_getElem? (i := 461) (by decide +kernel)) rfl⟩
theorem sg_f105 : sg_FL 5 37 4 6 := ⟨RX4, TX4, 8, rfl, rfl, by decide, sg_l4, sg_inGT (List.mem_of_getElem? (i := 462) (by decide +kernel)) rfl⟩
theorem sg_f106 : sg_FL 3 65 4 6 := ⟨RX4, TX4, 8, rfl, rfl, by decide, sg_l4, sg_inGT (List.mem_of_getElem? (i := 463) (by decide +kernel)) rfl⟩
theorem sg_f107 : sg_FL 0 69 4 6 := ⟨RX4, TX4, 8, rfl, rfl, by decide, sg_l4, sg_inGT (List.mem_of_getElem? (i := 464) (by decide +kernel)) rfl⟩
theorem sg_f108 : sg_FL 4 56 4 7 := ⟨RX4, TX4, 8, rfl, rfl, by decide, sg_l4, sg_inGT (List.mem_of_getElem? (i := 465) (by decide +kernel)) rfl⟩
theorem sg_f109 : sg_FL 5 9 5 0 := ⟨RX5, TX5, 5, rfl, rfl, by decide, sg_l5, sg_inGT (List.mem_of_getElem? (i := 490) (by decide +kernel)) rfl⟩
theorem sg_f110 : sg_FL 5 15 5 1 := ⟨RX5, TX5, 5, rfl, rfl, by decide, sg_l5, sg_inGT (List.mem_of_getElem? (i := 491) (by decide +kernel)) rfl⟩
theorem sg_f111 : sg_FL 10 179 5 1 := ⟨RX5, TX5, 5, rfl, rfl, by decide, sg_l5, sg_inGT (List.mem_of_getElem? (i := 492) (by decide +kernel)) rfl⟩
theorem sg_f112 : sg_FL 5 19 5 2 := ⟨RX5, TX5, 5, rfl, rfl, by decide, sg_l5, sg_inGT (List.mem_of_getElem? (i := 493) (by decide +kernel)) rfl⟩
theorem sg_f113 : sg_FL 10 182 5 2 := ⟨RX5, TX5, 5, rfl, rfl, by decide, sg_l5, sg_inGT (List.mem_of_getElem? (i := 494) (by decide +kernel)) rfl⟩
theorem sg_f114 : sg_FL 5 93 5 3 := ⟨RX5, TX5, 5, rfl, rfl, by decide, sg_l5, sg_inGT (List.mem_of_getElem? (i := 495) (by decide +kernel)) rfl⟩
theorem sg_f115 : sg_FL 10 194 5 3 := ⟨RX5, TX5, 5, rfl, rfl, by decide, sg_l5, sg_inGT (List.mem_of_getElem? (i := 496) (by decide +kernel)) rfl⟩
theorem sg_f116 : sg_FL 5 96 5 4 := ⟨RX5, TX5, 5, rfl, rfl, by decide, sg_l5, sg_inGT (List.mem_of_getElem? (i := 497) (by decide +kernel)) rfl⟩
theorem sg_f117 : sg_FL 10 197 5 4 := ⟨RX5, TX5, 5, rfl, rfl, by decide, sg_l5, sg_inGT (List.mem_of_getElem? (i := 498) (by decide +kernel)) rfl⟩
theorem sg_f118 : sg_FL 3 26 3 0 := ⟨RX3, TX3, 6, rfl, rfl, by decide, sg_l3, sg_inGT (List.mem_of_getElem? (i := 518) (by decide +kernel)) rfl⟩
theorem sg_f119 : sg_FL 3 30 3 1 := ⟨RX3, TX3, 6, rfl, rfl, by decide, sg_l3, sg_inGT (List.mem_of_getElem? (i := 519) (by decide +kernel)) rfl⟩
theorem sg_f120 : sg_FL 10 204 3 1 := ⟨RX3, TX3, 6, rfl, rfl, by decide, sg_l3, sg_inGT (List.mem_of_getElem? (i := 520) (by decide +kernel)) rfl⟩
theorem sg_f121 : sg_FL 3 9 3 2 := ⟨RX3, TX3, 6, rfl, rfl, by decide, sg_l3, sg_inGT (List.mem_of_getElem? (i := 521) (by decide +kernel)) rfl⟩
theorem sg_f122 : sg_FL 3 15 3 3 := ⟨RX3, TX3, 6, rfl, rfl, by decide, sg_l3, sg_inGT (List.mem_of_getElem? (i := 522) (by decide +kernel)) rfl⟩
theorem sg_f123 : sg_FL 3 18 3 4 := ⟨RX3, TX3, 6, rfl, rfl, by decide, sg_l3, sg_inGT (List.mem_of_getElem? (i := 523) (by decide +kernel)) rfl⟩
theorem sg_f124 : sg_FL 3 23 3 5 := ⟨RX3, TX3, 6, rfl, rfl, by decide, sg_l3, sg_inGT (List.mem_of_getElem? (i := 524) (by decide +kernel)) rfl⟩
theorem sg_f125 : sg_FL 0 22 0 0 := ⟨RX0, TX0, 4, rfl, rfl, by decide, sg_l0, sg_inGT (List.mem_of_getElem? (i := 546) (by decide +kernel)) rfl⟩
theorem sg_f126 : sg_FL 0 12 0 1 := ⟨RX0, TX0, 4, rfl, rfl, by decide, sg_l0, sg_inGT (List.mem_of_getElem? (i := 547) (by decide +kernel)) rfl⟩
theorem sg_f127 : sg_FL 0 18 0 2 := ⟨RX0, TX0, 4, rfl, rfl, by decide, sg_l0, sg_inGT (List.mem_of_getElem? (i := 548) (by decide +kernel)) rfl⟩
theorem sg_f128 : sg_FL 0 55 0 3 := ⟨RX0, TX0, 4, rfl, rfl, by decide, sg_l0, sg_inGT (List.mem_of_getElem? (i := 549) (by decide +kernel)) rfl⟩
theorem sg_f129 : sg_FL 6 11 6 0 := ⟨RX6, TX6, 4, rfl, rfl, by decide, sg_l6, sg_inGT (List.mem_of_getElem? (i := 568) (by decide +kernel)) rfl⟩
theorem sg_f130 : sg_FL 6 15 6 1 := ⟨RX6, TX6, 4, rfl, rfl, by decide, sg_l6, sg_inGT (List.mem_of_getElem? (i := 569) (by decide +kernel)) rfl⟩
theorem sg_f131 : sg_FL 6 20 6 2 := ⟨RX6, TX6, 4, rfl, rfl, by decide, sg_l6, sg_inGT (List.mem_of_getElem? (i := 570) (by decide +kernel)) rfl⟩
theorem sg_f132 : sg_FL 6 53 6 3 := ⟨RX6, TX6, 4, rfl, rfl, by decide, sg_l6, sg_inGT (List.mem_of_getElem? (i := 571) (by decide +kernel)) rfl⟩
theorem sg_f133 : sg_FL 10 275 6 3 := ⟨RX6, TX6, 4, rfl, rfl, by decide, sg_l6, sg_inGT (List.mem_of_getElem? (i := 572) (by decide +kernel)) rfl⟩
theorem sg_f134 : sg_FL 10 10 10 0 := ⟨RX10, TX10, 5, rfl, rfl, by decide, sg_l10, sg_inGT (List.mem_of_getElem? (i := 582) (by decide +kernel)) rfl⟩
theorem sg_f135 : sg_FL 10 21 10 1 := ⟨RX10, TX10, 5, rfl, rfl, by decide, sg_l10, sg_inGT (List.mem_of_getElem? (i := 583) (by decide +kernel)) rfl⟩
theorem sg_f136 : sg_FL 10 28 10 2 := ⟨RX10, TX10, 5, rfl, rfl, by decide, sg_l10, sg_inGT (List.mem_of_getElem? (i := 584) (by decide +kernel)) rfl⟩
theorem sg_f137 : sg_FL 10 35 10 3 := ⟨RX10, TX10, 5, rfl, rfl, by decide, sg_l10, sg_inGT (List.mem_of_getElem? (i := 585) (by decide +kernel)) rfl⟩
theorem sg_f138 : sg_FL 10 42 10 4 := ⟨RX10, TX10, 5, rfl, rfl, by decide, sg_l10, sg_inGT (List.mem_of_getElem? (i := 586) (by decide +kernel)) rfl⟩
theorem sg_f139 : sg_FL 11 7 11 0 := ⟨RX11, TX11, 37, rfl, rfl, by decide, sg_l11, sg_inGT (List.mem_of_getElem? (i := 970) (by decide +kernel)) rfl⟩
theorem sg_f140 : sg_FL 11 13 11 1 := ⟨RX11, TX11, 37, rfl, rfl, by decide, sg_l11, sg_inGT (List.mem_of_getElem? (i := 971) (by decide +kernel)) rfl⟩
theorem sg_f141 : sg_FL 11 16 11 2 := ⟨RX11, TX11, 37, rfl, rfl, by decide, sg_l11, sg_inGT (List.mem_of_getElem? (i := 972) (by decide +kernel)) rfl⟩
theorem sg_f142 : sg_FL 11 19 11 3 := ⟨RX11, TX11, 37, rfl, rfl, by decide, sg_l11, sg_inGT (List.mem_of_getElem? (i := 973) (by decide +kernel)) rfl⟩
theorem sg_f143 : sg_FL 11 102 11 4 := ⟨RX11, TX11, 37, rfl, rfl, by decide, sg_l11, sg_inGT (List.mem_of_getElem? (i := 974) (by decide +kernel)) rfl⟩
theorem sg_f144 : sg_FL 11 22 11 5 := ⟨RX11, TX11, 37, rfl, rfl, by decide, sg_l11, sg_inGT (List.mem_of_getElem? (i := 975) (by decide +kernel)) rfl⟩
theorem sg_f145 : sg_FL 11 25 11 6 := ⟨RX11, TX11, 37, rfl, rfl, by decide, sg_l11, sg_inGT (List.mem_of_getElem? (i := 976) (by decide +kernel)) rfl⟩
theorem sg_f146 : sg_FL 11 134 11 7 := ⟨RX11, TX11, 37, rfl, rfl, by decide, sg_l11, sg_inGT (List.mem_of_getElem? (i := 977) (by decide +kernel)) rfl⟩
theorem sg_f147 : sg_FL 11 28 11 8 := ⟨RX11, TX11, 37, rfl, rfl, by decide, sg_l11, sg_inGT (List.mem_of_getElem? (i := 978) (by decide +kernel)) rfl⟩
theorem sg_f148 : sg_FL 11 140 11 9 := ⟨RX11, TX11, 37, rfl, rfl, by decide, sg_l11, sg_inGT (List.mem_of_getElem? (i := 979) (by decide +kernel)) rfl⟩
theorem sg_f149 : sg_FL 11 31 11 10 := ⟨RX11, TX11, 37, rfl, rfl, by decide, sg_l11, sg_inGT (List.mem_of_getElem? (i := 980) (by decide +kernel)) rfl⟩
theorem sg_f150 : sg_FL 11 164 11 11 := ⟨RX11, TX11, 37, rfl, rfl, by decide, sg_l11, sg_inGT (List.mem_of_getElem? (i := 981) (by decide +kernel)) rfl⟩
theorem sg_f151 : sg_FL 11 34 11 12 := ⟨RX11, TX11, 37, rfl, rfl, by decide, sg_l11, sg_inGT (List.mem_of_getElem? (i := 982) (by decide +kernel)) rfl⟩
theorem sg_f152 : sg_FL 11 184 11 13 := ⟨RX11, TX11, 37, rfl, rfl, by decide, sg_l11, sg_inGT (List.mem_of_getElem? (i := 983) (by decide +kernel)) rfl⟩
theorem sg_f153 : sg_FL 11 92 11 14 := ⟨RX11, TX11, 37, rfl, rfl, by decide, sg_l11, sg_inGT (List.mem_of_getElem? (i := 984) (by decide +kernel)) rfl⟩
theorem sg_f154 : sg_FL 11 178 11 15 := ⟨RX11, TX11, 37, rfl, rfl, by decide, sg_l11, sg_inGT (List.mem_of_getElem? (i := 985) (by decide +kernel)) rfl⟩
theorem sg_f155 : sg_FL 11 181 11 16 := ⟨RX11, TX11, 37, rfl, rfl, by decide, sg_l11, sg_inGT (List.mem_of_getElem? (i := 986) (by decide +kernel)) rfl⟩
theorem sg_f156 : sg_FL 11 37 11 17 := ⟨RX11, TX11, 37, rfl, rfl, by decide, sg_l11, sg_inGT (List.mem_of_getElem? (i := 987) (by decide +kernel)) rfl⟩
theorem sg_f157 : sg_FL 11 40 11 18 := ⟨RX11, TX11, 37, rfl, rfl, by decide, sg_l11, sg_inGT (List.mem_of_getElem? (i := 988) (by decide +kernel)) rfl⟩
theorem sg_f158 : sg_FL 11 43 11 19 := ⟨RX11, TX11, 37, rfl, rfl, by decide, sg_l11, sg_inGT (List.mem_of_getElem? (i := 989) (by decide +kernel)) rfl⟩
theorem sg_f159 : sg_FL 11 46 11 20 := ⟨RX11, TX11, 37, rfl, rfl, by decide, sg_l11, sg_inGT (List.mem_of_getElem? (i := 990) (by decide +kernel)) rfl⟩
theorem sg_f160 : sg_FL 11 50 11 21 := ⟨RX11, TX11, 37, rfl, rfl, by decide, sg_l11, sg_inGT (List.mem_of_getElem? (i := 991) (by decide +kernel)) rfl⟩
theorem sg_f161 : sg_FL 11 53 11 22 := ⟨RX11, TX11, 37, rfl, rfl, by decide, sg_l11, sg_inGT (List.mem_of_getElem? (i := 992) (by decide +kernel)) rfl⟩
theorem sg_f162 : sg_FL 11 56 11 23 := ⟨RX11, TX11, 37, rfl, rfl, by decide, sg_l11, sg_inGT (List.mem_of_getElem? (i := 993) (by decide +kernel)) rfl⟩
theorem sg_f163 : sg_FL 11 59 11 24 := ⟨RX11, TX11, 37, rfl, rfl, by decide, sg_l11, sg_inGT (List.mem_of_getElem? (i := 994) (by decide +kernel)) rfl⟩
theorem sg_f164 : sg_FL 11 62 11 25 := ⟨RX11, TX11, 37, rfl, rfl, by decide, sg_l11, sg_inGT (List.mem_of_getElem? (i := 995) (by decide +kernel)) rfl⟩
theorem sg_f165 : sg_FL 11 65 11 26 := ⟨RX11, TX11, 37, rfl, rfl, by decide, sg_l11, sg_inGT (List.mem_of_getElem? (i := 996) (by decide +kernel)) rfl⟩
theorem sg_f166 : sg_FL 11 68 11 27 := ⟨RX11, TX11, 37, rfl, rfl, by decide, sg_l11, sg_inGT (List.mem_of_getElem? (i := 997) (by decide +kernel)) rfl⟩
theorem sg_f167 : sg_FL 11 71 11 28 := ⟨RX11, TX11, 37, rfl, rfl, by decide, sg_l11, sg_inGT (List.mem_of_getElem? (i := 998) (by decide +kernel)) rfl⟩
theorem sg_f168 : sg_FL 11 74 11 29 := ⟨RX11, TX11, 37, rfl, rfl, by decide, sg_l11, sg_inGT (List.mem_of_getElem? (i := 999) (by decide +kernel)) rfl⟩
theorem sg_f169 : sg_FL 11 77 11 30 := ⟨RX11, TX11, 37, rfl, rfl, by decide, sg_l11, sg_inGT (List.mem_of_getElem? (i := 1000) (by decide +kernel)) rfl⟩
theorem sg_f170 : sg_FL 11 80 11 31 := ⟨RX11, TX11, 37, rfl, rfl, by decide, sg_l11, sg_inGT (List.mem_of_getElem? (i := 1001) (by decide +kernel)) rfl⟩
theorem sg_f171 : sg_FL 11 269 11 32 := ⟨RX11, TX11, 37, rfl, rfl, by decide, sg_l11, sg_inGT (List.mem_of_getElem? (i := 1002) (by decide +kernel)) rfl⟩
theorem sg_f172 : sg_FL 11 83 11 33 := ⟨RX11, TX11, 37, rfl, rfl, by decide, sg_l11, sg_inGT (List.mem_of_getElem? (i := 1003) (by decide +kernel)) rfl⟩
theorem sg_f173 : sg_FL 11 86 11 34 := ⟨RX11, TX11, 37, rfl, rfl, by decide, sg_l11, sg_inGT (List.mem_of_getElem? (i := 1004) (by decide +kernel)) rfl⟩
theorem sg_f174 : sg_FL 11 309 11 35 := ⟨RX11, TX11, 37, rfl, rfl, by decide, sg_l11, sg_inGT (List.mem_of_getElem? (i := 1005) (by decide +kernel)) rfl⟩
theorem sg_f175 : sg_FL 11 89 11 36 := ⟨RX11, TX11, 37, rfl, rfl, by decide, sg_l11, sg_inGT (List.mem_of_getElem? (i := 1006) (by decide +kernel)) rfl⟩
def sg_fl : List (Nat × Nat × Nat × Nat) := [(7, 9, 7, 0), (7, 15, 7, 1), (7, 19, 7, 2), (7, 23, 7, 3), (10, 269, 7, 3), (8, 45, 8, 0), (5, 28, 8, 0), (1, 136, 8, 0), (3, 103, 8, 0), (10, 259, 8, 0), (8, 9, 8, 1), (10, 81, 8, 1), (8, 15, 8, 2), (10, 87, 8, 2), (8, 18, 8, 3), (1, 69, 8, 4), (8, 58, 8, 4), (5, 64, 8, 4), (10, 262, 8, 4), (8, 21, 8, 5), (3, 60, 8, 5), (1, 123, 8, 5), (10, 93, 8, 5), (8, 24, 8, 6), (5, 33, 8, 6), (1, 75, 8, 6), (10, 96, 8, 6), (8, 27, 8, 7), (1, 76, 8, 7), (10, 99, 8, 7), (8, 30, 8, 8), (1, 79, 8, 8), (3, 74, 8, 8), (10, 102, 8, 8), (0, 31, 2, 0), (9, 22, 2, 0), (2, 25, 2, 0), (3, 40, 2, 0), (5, 87, 2, 0), (10, 117, 2, 0), (2, 9, 2, 1), (9, 38, 2, 1), (2, 15, 2, 2), (9, 32, 2, 2), (2, 18, 2, 3), (9, 41, 2, 3), (9, 9, 9, 0), (5, 53, 9, 0), (1, 111, 9, 0), (9, 15, 9, 1), (5, 61, 9, 1), (1, 120, 9, 1), (9, 18, 9, 2), (1, 105, 9, 2), (1, 42, 1, 0), (1, 46, 1, 1), (1, 9, 1, 2), (1, 15, 1, 3), (1, 18, 1, 4), (1, 21, 1, 5), (1, 24, 1, 6), (10, 134, 1, 6), (1, 27, 1, 7), (10, 144, 1, 7), (1, 30, 1, 8), (1, 33, 1, 9), (10, 145, 1, 9), (1, 36, 1, 10), (10, 137, 1, 10), (1, 39, 1, 11), (3, 77, 1, 11), (10, 148, 1, 11), (5, 58, 1, 12), (1, 86, 1, 12), (10, 166, 1, 12), (1, 89, 1, 13), (5, 74, 1, 13), (4, 94, 1, 13), (10, 154, 1, 13), (5, 46, 1, 14), (1, 92, 1, 14), (10, 163, 1, 14), (1, 95, 1, 15), (10, 157, 1, 15), (1, 98, 1, 16), (10, 160, 1, 16), (4, 14, 4, 0), (10, 265, 4, 0), (4, 20, 4, 1), (10, 272, 4, 1), (4, 26, 4, 2), (5, 22, 4, 2), (3, 56, 4, 2), (10, 77, 4, 2), (4, 33, 4, 3), (0, 26, 4, 3), (3, 34, 4, 3), (5, 77, 4, 3), (10, 111, 4, 3), (4, 40, 4, 4), (5, 49, 4, 4), (4, 49, 4, 5), (5, 71, 4, 5), (10, 130, 4, 5), (4, 53, 4, 6), (5, 37, 4, 6), (3, 65, 4, 6), (0, 69, 4, 6), (4, 56, 4, 7), (5, 9, 5, 0), (5, 15, 5, 1), (10, 179, 5, 1), (5, 19, 5, 2), (10, 182, 5, 2), (5, 93, 5, 3), (10, 194, 5, 3), (5, 96, 5, 4), (10, 197, 5, 4), (3, 26, 3, 0), (3, 30, 3, 1), (10, 204, 3, 1), (3, 9, 3, 2), (3, 15, 3, 3), (3, 18, 3, 4), (3, 23, 3, 5), (0, 22, 0, 0), (0, 12, 0, 1), (0, 18, 0, 2), (0, 55, 0, 3), (6, 11, 6, 0), (6, 15, 6, 1), (6, 20, 6, 2), (6, 53, 6, 3), (10, 275, 6, 3), (10, 10, 10, 0), (10, 21, 10, 1), (10, 28, 10, 2), (10, 35, 10, 3), (10, 42, 10, 4), (11, 7, 11, 0), (11, 13, 11, 1), (11, 16, 11, 2), (11, 19, 11, 3), (11, 102, 11, 4), (11, 22, 11, 5), (11, 25, 11, 6), (11, 134, 11, 7), (11, 28, 11, 8), (11, 140, 11, 9), (11, 31, 11, 10), (11, 164, 11, 11), (11, 34, 11, 12), (11, 184, 11, 13), (11, 92, 11, 14), (11, 178, 11, 15), (11, 181, 11, 16), (11, 37, 11, 17), (11, 40, 11, 18), (11, 43, 11, 19), (11, 46, 11, 20), (11, 50, 11, 21), (11, 53, 11, 22), (11, 56, 11, 23), (11, 59, 11, 24), (11, 62, 11, 25), (11, 65, 11, 26), (11, 68, 11, 27), (11, 71, 11, 28), (11, 74, 11, 29), (11, 77, 11, 30), (11, 80, 11, 31), (11, 269, 11, 32), (11, 83, 11, 33), (11, 86, 11, 34), (11, 309, 11, 35), (11, 89, 11, 36)]
set_option maxRecDepth 100000 in
theorem sg_fl_ok : ∀ e ∈ sg_fl, sg_FL e.1 e.2.1 e.2.2.1 e.2.2.2 := List.forall_mem_cons.mpr ⟨sg_f0, List.forall_mem_cons.mpr ⟨sg_f1, List.forall_mem_cons.mpr ⟨sg_f2, List.forall_mem_cons.mpr ⟨sg_f3, List.forall_mem_cons.mpr ⟨sg_f4, List.forall_mem_cons.mpr ⟨sg_f5, List.forall_mem_cons.mpr ⟨sg_f6, List.forall_mem_cons.mpr ⟨sg_f7, List.forall_mem_cons.mpr ⟨sg_f8, List.forall_mem_cons.mpr ⟨sg_f9, List.forall_mem_cons.mpr ⟨sg_f10, List.forall_mem_cons.mpr ⟨sg_f11, List.forall_mem_cons.mpr ⟨sg_f12, List.forall_mem_cons.mpr ⟨sg_f13, List.forall_mem_cons.mpr ⟨sg_f14, List.forall_mem_cons.mpr ⟨sg_f15, List.forall_mem_cons.mpr ⟨sg_f16, List.forall_mem_cons.mpr ⟨sg_f17, List.forall_mem_cons.mpr ⟨sg_f18, List.forall_mem_cons.mpr ⟨sg_f19, List.forall_mem_cons.mpr ⟨sg_f20, List.forall_mem_cons.mpr ⟨sg_f21, List.forall_mem_cons.mpr ⟨sg_f22, List.forall_mem_cons.mpr ⟨sg_f23, List.forall_mem_cons.mpr ⟨sg_f24, List.forall_mem_cons.mpr ⟨sg_f25, List.forall_mem_cons.mpr ⟨sg_f26, List.forall_mem_cons.mpr ⟨sg_f27, List.forall_mem_cons.mpr ⟨sg_f28, List.forall_mem_cons.mpr ⟨sg_f29, List.forall_mem_cons.mpr ⟨sg_f30, List.forall_mem_cons.mpr ⟨sg_f31, List.forall_mem_cons.mpr ⟨sg_f32, List.forall_mem_cons.mpr ⟨sg_f33, List.forall_mem_cons.mpr ⟨sg_f34, List.forall_mem_cons.mpr ⟨sg_f35, List.forall_mem_cons.mpr ⟨sg_f36, List.forall_mem_cons.mpr ⟨sg_f37, List.forall_mem_cons.mpr ⟨sg_f38, List.forall_mem_cons.mpr ⟨sg_f39, List.forall_mem_cons.mpr ⟨sg_f40, List.forall_mem_cons.mpr ⟨sg_f41, List.forall_mem_cons.mpr ⟨sg_f42, List.forall_mem_cons.mpr ⟨sg_f43, List.forall_mem_cons.mpr ⟨sg_f44, List.forall_mem_cons.mpr ⟨sg_f45, List.forall_mem_cons.mpr ⟨sg_f46, List.forall_mem_cons.mpr ⟨sg_f47, List.forall_mem_cons.mpr ⟨sg_f48, List.forall_mem_cons.mpr ⟨sg_f49, List.forall_mem_cons.mpr ⟨sg_f50, List.forall_mem_cons.mpr ⟨sg_f51, List.forall_mem_cons.mpr ⟨sg_f52, List.forall_mem_cons.mpr ⟨sg_f53, List.forall_mem_cons.mpr ⟨sg_f54, List.forall_mem_cons.mpr ⟨sg_f55, List.forall_mem_cons.mpr ⟨sg_f56, List.forall_mem_cons.mpr ⟨sg_f57, List.forall_mem_cons.mpr ⟨sg_f58, List.forall_mem_cons.mpr ⟨sg_f59, List.forall_mem_cons.mpr ⟨sg_f60, List.forall_mem_cons.mpr ⟨sg_f61, List.forall_mem_cons.mpr ⟨sg_f62, List.forall_mem_cons.mpr ⟨sg_f63, List.forall_mem_cons.mpr ⟨sg_f64, List.forall_mem_cons.mpr ⟨sg_f65, List.forall_mem_cons.mpr ⟨sg_f66, List.forall_mem_cons.mpr ⟨sg_f67, List.forall_mem_cons.mpr ⟨sg_f68, List.forall_mem_cons.mpr ⟨sg_f69, List.forall_mem_cons.mpr ⟨sg_f70, List.forall_mem_cons.mpr ⟨sg_f71, List.forall_mem_cons.mpr ⟨sg_f72, List.forall_mem_cons.mpr ⟨sg_f73, List.forall_mem_cons.mpr ⟨sg_f74, List.forall_mem_cons.mpr ⟨sg_f75, List.forall_mem_cons.mpr ⟨sg_f76, List.forall_mem_cons.mpr ⟨sg_f77, List.forall_mem_cons.mpr ⟨sg_f78, List.forall_mem_cons.mpr ⟨sg_f79, List.forall_mem_cons.mpr ⟨sg_f80, List.forall_mem_cons.mpr ⟨sg_f81, List.forall_mem_cons.mpr ⟨sg_f82, List.forall_mem_cons.mpr ⟨sg_f83, List.forall_mem_cons.mpr ⟨sg_f84, List.forall_mem_cons.mpr ⟨sg_f85, List.forall_mem_cons.mpr ⟨sg_f86, List.forall_mem_cons.mpr ⟨sg_f87, List.forall_mem_cons.mpr ⟨sg_f88, List.forall_mem_cons.mpr ⟨sg_f89, List.forall_mem_cons.mpr ⟨sg_f90, List.forall_mem_cons.mpr ⟨sg_f91, List.forall_mem_cons.mpr ⟨sg_f92, List.forall_mem_cons.mpr ⟨sg_f93, List.forall_mem_cons.mpr ⟨sg_f94, List.forall_mem_cons.mpr ⟨sg_f95, List.forall_mem_cons.mpr ⟨sg_f96, List.forall_mem_cons.mpr ⟨sg_f97, List.forall_mem_cons.mpr ⟨sg_f98, List.forall_mem_cons.mpr ⟨sg_f99, List.forall_mem_cons.mpr ⟨sg_f100, List.forall_mem_cons.mpr ⟨sg_f101, List.forall_mem_cons.mpr ⟨sg_f102, List.forall_mem_cons.mpr ⟨sg_f103, List.forall_mem_cons.mpr ⟨sg_f104, List.forall_mem_cons.mpr ⟨sg_f105, List.forall_mem_cons.mpr ⟨sg_f106, List.forall_mem_cons.mpr ⟨sg_f107, List.forall_mem_cons.mpr ⟨sg_f108, List.forall_mem_cons.mpr ⟨sg_f109, List.forall_mem_cons.mpr ⟨sg_f110, List.forall_mem_cons.mpr ⟨sg_f111, List.forall_mem_cons.mpr ⟨sg_f112, List.forall_mem_cons.mpr ⟨sg_f113, List.forall_mem_cons.mpr ⟨sg_f114, List.forall_mem_cons.mpr ⟨sg_f115, List.forall_mem_cons.mpr ⟨sg_f116, List.forall_mem_cons.mpr ⟨sg_f117, List.forall_mem_cons.mpr ⟨sg_f118, List.forall_mem_cons.mpr ⟨sg_f119, List.forall_mem_cons.mpr ⟨sg_f120, List.forall_mem_cons.mpr ⟨sg_f121, List.forall_mem_cons.mpr ⟨sg_f122, List.forall_mem_cons.mpr ⟨sg_f123, List.forall_mem_cons.mpr ⟨sg_f124, List.forall_mem_cons.mpr ⟨sg_f125, List.forall_mem_cons.mpr ⟨sg_f126, List.forall_mem_cons.mpr ⟨sg_f127, List.forall_mem_cons.mpr ⟨sg_f128, List.forall_mem_cons.mpr ⟨sg_f129, List.forall_mem_cons.mpr ⟨sg_f130, List.forall_mem_cons.mpr ⟨sg_f131, List.forall_mem_cons.mpr ⟨sg_f132, List.forall_mem_cons.mpr ⟨sg_f133, List.forall_mem_cons.mpr ⟨sg_f134, List.forall_mem_cons.mpr ⟨sg_f135, List.forall_mem_cons.mpr ⟨sg_f136, List.forall_mem_cons.mpr ⟨sg_f137, List.forall_mem_cons.mpr ⟨sg_f138, List.forall_mem_cons.mpr ⟨sg_f139, List.forall_mem_cons.mpr ⟨sg_f140, List.forall_mem_cons.mpr ⟨sg_f141, List.forall_mem_cons.mpr ⟨sg_f142, List.forall_mem_cons.mpr ⟨sg_f143, List.forall_mem_cons.mpr ⟨sg_f144, List.forall_mem_cons.mpr ⟨sg_f145, List.forall_mem_cons.mpr ⟨sg_f146, List.forall_mem_cons.mpr ⟨sg_f147, List.forall_mem_cons.mpr ⟨sg_f148, List.forall_mem_cons.mpr ⟨sg_f149, List.forall_mem_cons.mpr ⟨sg_f150, List.forall_mem_cons.mpr ⟨sg_f151, List.forall_mem_cons.mpr ⟨sg_f152, List.forall_mem_cons.mpr ⟨sg_f153, List.forall_mem_cons.mpr ⟨sg_f154, List.forall_mem_cons.mpr ⟨sg_f155, List.forall_mem_cons.mpr ⟨sg_f156, List.forall_mem_cons.mpr ⟨sg_f157, List.forall_mem_cons.mpr ⟨sg_f158, List.forall_mem_cons.mpr ⟨sg_f159, List.forall_mem_cons.mpr ⟨sg_f160, List.forall_mem_cons.mpr ⟨sg_f161, List.forall_mem_cons.mpr ⟨sg_f162, List.forall_mem_cons.mpr ⟨sg_f163, List.forall_mem_cons.mpr ⟨sg_f164, List.forall_mem_cons.mpr ⟨sg_f165, List.forall_mem_cons.mpr ⟨sg_f166, List.forall_mem_cons.mpr ⟨sg_f167, List.forall_mem_cons.mpr ⟨sg_f168, List.forall_mem_cons.mpr ⟨sg_f169, List.forall_mem_cons.mpr ⟨sg_f170, List.forall_mem_cons.mpr ⟨sg_f171, List.forall_mem_cons.mpr ⟨sg_f172, List.forall_mem_cons.mpr ⟨sg_f173, List.forall_mem_cons.mpr ⟨sg_f174, List.forall_mem_cons.mpr ⟨sg_f175, List.forall_mem_nil _⟩⟩⟩⟩⟩⟩⟩⟩⟩⟩⟩⟩⟩⟩⟩⟩⟩⟩⟩⟩⟩⟩⟩⟩⟩⟩⟩⟩⟩⟩⟩⟩⟩⟩⟩⟩⟩⟩⟩⟩⟩⟩⟩⟩⟩⟩⟩⟩⟩⟩⟩⟩⟩⟩⟩⟩⟩⟩⟩⟩⟩⟩⟩⟩⟩⟩⟩⟩⟩⟩⟩⟩⟩⟩⟩⟩⟩⟩⟩⟩⟩⟩⟩⟩⟩⟩⟩⟩⟩⟩⟩⟩⟩⟩⟩⟩⟩⟩⟩⟩⟩⟩⟩⟩⟩⟩⟩⟩⟩⟩⟩⟩⟩⟩⟩⟩⟩⟩⟩⟩⟩⟩⟩⟩⟩⟩⟩⟩⟩⟩⟩⟩⟩⟩⟩⟩⟩⟩⟩⟩⟩⟩⟩⟩⟩⟩⟩⟩⟩⟩⟩⟩⟩⟩⟩⟩⟩⟩⟩⟩⟩⟩⟩⟩⟩⟩⟩⟩⟩⟩⟩⟩⟩⟩⟩⟩
theorem sg_p0 : sg_FP 0 3 := ⟨RX0, TX0, 4, tyX0, rfl, tyX0_ok, nmX0, rfl, by decide +kernel, rfl⟩
theorem sg_p1 : sg_FP 1 12 := ⟨RX1, TX1, 17, tyX1, rfl, tyX1_ok, nmX1, rfl, by decide +kernel, rfl⟩
theorem sg_p2 : sg_FP 1 13 := ⟨RX1, TX1, 17, tyX1, rfl, tyX1_ok, nmX1, rfl, by decide +kernel, rfl⟩
theorem sg_p3 : sg_FP 1 14 := ⟨RX1, TX1, 17, tyX1, rfl, tyX1_ok, nmX1, rfl, by decide +kernel, rfl⟩
theorem sg_p4 : sg_FP 1 15 := ⟨RX1, TX1, 17, tyX1, rfl, tyX1_ok, nmX1, rfl, by decide +kernel, rfl⟩
theorem sg_p5 : sg_FP 1 16 := ⟨RX1, TX1, 17, tyX1, rfl, tyX1_ok, nmX1, rfl, by decide +kernel, rfl⟩
theorem sg_p6 : sg_FP 2 0 := ⟨RX2, TX2, 4, tyX2, rfl, tyX2_ok, nmX2, rfl, by decide +kernel, rfl⟩
theorem sg_p7 : sg_FP 3 1 := ⟨RX3, TX3, 6, tyX3, rfl, tyX3_ok, nmX3, rfl, by decide +kernel, rfl⟩
theorem sg_p8 : sg_FP 5 1 := ⟨RX5, TX5, 5, tyX5, rfl, tyX5_ok, nmX5, rfl, by decide +kernel, rfl⟩
theorem sg_p9 : sg_FP 5 2 := ⟨RX5, TX5, 5, tyX5, rfl, tyX5_ok, nmX5, rfl, by decide +kernel, rfl⟩
theorem sg_p10 : sg_FP 5 3 := ⟨RX5, TX5, 5, tyX5, rfl, tyX5_ok, nmX5, rfl, by decide +kernel, rfl⟩
theorem sg_p11 : sg_FP 5 4 := ⟨RX5, TX5, 5, tyX5, rfl, tyX5_ok, nmX5, rfl, by decide +kernel, rfl⟩
theorem sg_p12 : sg_FP 6 3 := ⟨RX6, TX6, 4, tyX6, rfl, tyX6_ok, nmX6, rfl, by decide +kernel, rfl⟩
theorem sg_p13 : sg_FP 7 3 := ⟨RX7, TX7, 4, tyX7, rfl, tyX7_ok, nmX7, rfl, by decide +kernel, rfl⟩
theorem sg_p14 : sg_FP 8 0 := ⟨RX8, TX8, 9, tyX8, rfl, tyX8_ok, nmX8, rfl, by decide +kernel, rfl⟩
theorem sg_p15 : sg_FP 8 4 := ⟨RX8, TX8, 9, tyX8, rfl, tyX8_ok, nmX8, rfl, by decide +kernel, rfl⟩
theorem sg_p16 : sg_FP 11 4 := ⟨RX11, TX11, 37, tyX11, rfl, tyX11_ok, nmX11, rfl, by decide +kernel, rfl⟩
theorem sg_p17 : sg_FP 11 7 := ⟨RX11, TX11, 37, tyX11, rfl, tyX11_ok, nmX11, rfl, by decide +kernel, rfl⟩
theorem sg_p18 : sg_FP 11 9 := ⟨RX11, TX11, 37, tyX11, rfl, tyX11_ok, nmX11, rfl, by decide +kernel, rfl⟩
theorem sg_p19 : sg_FP 11 11 := ⟨RX11, TX11, 37, tyX11, rfl, tyX11_ok, nmX11, rfl, by decide +kernel, rfl⟩
theorem sg_p20 : sg_FP 11 13 := ⟨RX11, TX11, 37, tyX11, rfl, tyX11_ok, nmX11, rfl, by decide +kernel, rfl⟩
theorem sg_p21 : sg_FP 11 14 := ⟨RX11, TX11, 37, tyX11, rfl, tyX11_ok, nmX11, rfl, by decide +kernel, rfl⟩
theorem sg_p22 : sg_FP 11 15 := ⟨RX11, TX11, 37, tyX11, rfl, tyX11_ok, nmX11, rfl, by decide +kernel, rfl⟩
theorem sg_p23 : sg_FP 11 16 := ⟨RX11, TX11, 37, tyX11, rfl, tyX11_ok, nmX11, rfl, by decide +kernel, rfl⟩
theorem sg_p24 : sg_FP 11 32 := ⟨RX11, TX11, 37, tyX11, rfl, tyX11_ok, nmX11, rfl, by decide +kernel, rfl⟩
theorem sg_p25 : sg_FP 11 35 := ⟨RX11, TX11, 37, tyX11, rfl, tyX11_ok, nmX11, rfl, by decide +kernel, rfl⟩
def sg_fp : List (Nat × Nat) := [(0, 3), (1, 12), (1, 13), (1, 14), (1, 15), (1, 16), (2, 0), (3, 1), (5, 1), (5, 2), (5, 3), (5, 4), (6, 3), (7, 3), (8, 0), (8, 4), (11, 4), (11, 7), (11, 9), (11, 11), (11, 13), (11, 14), (11, 15), (11, 16), (11, 32), (11, 35)]
theorem sg_fp_ok : ∀ e ∈ sg_fp, sg_FP e.1 e.2 := List.forall_mem_cons.mpr ⟨sg_p0, List.forall_mem_cons.mpr ⟨sg_p1, List.forall_mem_cons.mpr ⟨sg_p2, List.forall_mem_cons.mpr ⟨sg_p3, List.forall_mem_cons.mpr ⟨sg_p4, List.forall_mem_cons.mpr ⟨sg_p5, List.forall_mem_cons.mpr ⟨sg_p6, List.forall_mem_cons.mpr ⟨sg_p7, List.forall_mem_cons.mpr ⟨sg_p8, List.forall_mem_cons.mpr ⟨sg_p9, List.forall_mem_cons.mpr ⟨sg_p10, List.forall_mem_cons.mpr ⟨sg_p11, List.forall_mem_cons.mpr ⟨sg_p12, List.forall_mem_cons.mpr ⟨sg_p13, List.forall_mem_cons.mpr ⟨sg_p14, List.forall_mem_cons.mpr ⟨sg_p15, List.forall_mem_cons.mpr ⟨sg_p16, List.forall_mem_cons.mpr ⟨sg_p17, List.forall_mem_cons.mpr ⟨sg_p18, List.forall_mem_cons.mpr ⟨sg_p19, List.forall_mem_cons.mpr ⟨sg_p20, List.forall_mem_cons.mpr ⟨sg_p21, List.forall_mem_cons.mpr ⟨sg_p22, List.forall_mem_cons.mpr ⟨sg_p23, List.forall_mem_cons.mpr ⟨sg_p24, List.forall_mem_cons.mpr ⟨sg_p25, List.forall_mem_nil _⟩⟩⟩⟩⟩⟩⟩⟩⟩⟩⟩⟩⟩⟩⟩⟩⟩⟩⟩⟩⟩⟩⟩⟩⟩⟩
theorem sg_c0 : Cond.constant (sg_cn 26) 265 (Int32.ofInt (1431655765)) ∈ sg_GT := sg_inGT (List.mem_of_getElem? (i := 428) (by decide +kernel)) rfl
theorem sg_c1 : Cond.constant (sg_cn 26) 266 (Int32.ofInt (858993459)) ∈ sg_GT := sg_inGT (List.mem_of_getElem? (i := 429) (by decide +kernel)) rfl
theorem sg_c2 : Cond.constant (sg_cn 26) 267 (Int32.ofInt (252645135)) ∈ sg_GT := sg_inGT (List.mem_of_getElem? (i := 430) (by decide +kernel)) rfl
theorem sg_c3 : Cond.constant (sg_cn 0) 73 (Int32.ofInt (1103515245)) ∈ sg_GT := sg_inGT (List.mem_of_getElem? (i := 866) (by decide +kernel)) rfl
theorem sg_c4 : Cond.constant (sg_cn 10) 249 (Int32.ofInt (-2147483648)) ∈ sg_GT := sg_inGT (List.mem_of_getElem? (i := 903) (by decide +kernel)) rfl
theorem sg_c5 : Cond.constant (sg_cn 11) 125 (Int32.ofInt (-2147483648)) ∈ sg_GT := sg_inGT (List.mem_of_getElem? (i := 1117) (by decide +kernel)) rfl
theorem sg_c6 : Cond.constant (sg_cn 11) 308 (Int32.ofInt (1103515245)) ∈ sg_GT := sg_inGT (List.mem_of_getElem? (i := 1424) (by decide +kernel)) rfl
def sg_ct : List (Nat × Nat × Int) := [(26, 265, 1431655765), (26, 266, 858993459), (26, 267, 252645135), (0, 73, 1103515245), (10, 249, -2147483648), (11, 125, -2147483648), (11, 308, 1103515245)]
theorem sg_ct_ok : ∀ e ∈ sg_ct, Cond.constant (sg_cn e.1) e.2.1 (Int32.ofInt e.2.2) ∈ sg_GT := List.forall_mem_cons.mpr ⟨sg_c0, List.forall_mem_cons.mpr ⟨sg_c1, List.forall_mem_cons.mpr ⟨sg_c2, List.forall_mem_cons.mpr ⟨sg_c3, List.forall_mem_cons.mpr ⟨sg_c4, List.forall_mem_cons.mpr ⟨sg_c5, List.forall_mem_cons.mpr ⟨sg_c6, List.forall_mem_nil _⟩⟩⟩⟩⟩⟩⟩
theorem sg_j0 : Cond.constantLong (sg_cn 10) 221 (Int64.ofInt (-9223372036854775806)) ∈ sg_GT := sg_inGT (List.mem_of_getElem? (i := 841) (by decide +kernel)) rfl
theorem sg_j1 : Cond.constantLong (sg_cn 10) 278 (Int64.ofInt (17)) ∈ sg_GT := sg_inGT (List.mem_of_getElem? (i := 929) (by decide +kernel)) rfl
theorem sg_j2 : Cond.constantLong (sg_cn 10) 280 (Int64.ofInt (31)) ∈ sg_GT := sg_inGT (List.mem_of_getElem? (i := 930) (by decide +kernel)) rfl
theorem sg_j3 : Cond.constantLong (sg_cn 11) 105 (Int64.ofInt (3)) ∈ sg_GT := sg_inGT (List.mem_of_getElem? (i := 1089) (by decide +kernel)) rfl
theorem sg_j4 : Cond.constantLong (sg_cn 11) 111 (Int64.ofInt (2)) ∈ sg_GT := sg_inGT (List.mem_of_getElem? (i := 1093) (by decide +kernel)) rfl
theorem sg_j5 : Cond.constantLong (sg_cn 11) 129 (Int64.ofInt (255)) ∈ sg_GT := sg_inGT (List.mem_of_getElem? (i := 1129) (by decide +kernel)) rfl
theorem sg_j6 : Cond.constantLong (sg_cn 11) 156 (Int64.ofInt (23)) ∈ sg_GT := sg_inGT (List.mem_of_getElem? (i := 1186) (by decide +kernel)) rfl
theorem sg_j7 : Cond.constantLong (sg_cn 11) 170 (Int64.ofInt (9)) ∈ sg_GT := sg_inGT (List.mem_of_getElem? (i := 1187) (by decide +kernel)) rfl
theorem sg_j8 : Cond.constantLong (sg_cn 11) 262 (Int64.ofInt (-1)) ∈ sg_GT := sg_inGT (List.mem_of_getElem? (i := 1337) (by decide +kernel)) rfl
theorem sg_j9 : Cond.constantLong (sg_cn 11) 267 (Int64.ofInt (7)) ∈ sg_GT := sg_inGT (List.mem_of_getElem? (i := 1350) (by decide +kernel)) rfl
theorem sg_j10 : Cond.constantLong (sg_cn 11) 298 (Int64.ofInt (16)) ∈ sg_GT := sg_inGT (List.mem_of_getElem? (i := 1399) (by decide +kernel)) rfl
theorem sg_j11 : Cond.constantLong (sg_cn 11) 96 (Int64.ofInt (-9223372036854775808)) ∈ sg_GT := sg_inGT (List.mem_of_getElem? (i := 1410) (by decide +kernel)) rfl
theorem sg_j12 : Cond.constantLong (sg_cn 11) 318 (Int64.ofInt (8)) ∈ sg_GT := sg_inGT (List.mem_of_getElem? (i := 1415) (by decide +kernel)) rfl
theorem sg_j13 : Cond.constantLong (sg_cn 11) 332 (Int64.ofInt (17)) ∈ sg_GT := sg_inGT (List.mem_of_getElem? (i := 1440) (by decide +kernel)) rfl
theorem sg_j14 : Cond.constantLong (sg_cn 11) 323 (Int64.ofInt (31)) ∈ sg_GT := sg_inGT (List.mem_of_getElem? (i := 1441) (by decide +kernel)) rfl
def sg_lt : List (Nat × Nat × Int) := [(10, 221, -9223372036854775806), (10, 278, 17), (10, 280, 31), (11, 105, 3), (11, 111, 2), (11, 129, 255), (11, 156, 23), (11, 170, 9), (11, 262, -1), (11, 267, 7), (11, 298, 16), (11, 96, -9223372036854775808), (11, 318, 8), (11, 332, 17), (11, 323, 31)]
theorem sg_lt_ok : ∀ e ∈ sg_lt, Cond.constantLong (sg_cn e.1) e.2.1 (Int64.ofInt e.2.2) ∈ sg_GT := List.forall_mem_cons.mpr ⟨sg_j0, List.forall_mem_cons.mpr ⟨sg_j1, List.forall_mem_cons.mpr ⟨sg_j2, List.forall_mem_cons.mpr ⟨sg_j3, List.forall_mem_cons.mpr ⟨sg_j4, List.forall_mem_cons.mpr ⟨sg_j5, List.forall_mem_cons.mpr ⟨sg_j6, List.forall_mem_cons.mpr ⟨sg_j7, List.forall_mem_cons.mpr ⟨sg_j8, List.forall_mem_cons.mpr ⟨sg_j9, List.forall_mem_cons.mpr ⟨sg_j10, List.forall_mem_cons.mpr ⟨sg_j11, List.forall_mem_cons.mpr ⟨sg_j12, List.forall_mem_cons.mpr ⟨sg_j13, List.forall_mem_cons.mpr ⟨sg_j14, List.forall_mem_nil _⟩⟩⟩⟩⟩⟩⟩⟩⟩⟩⟩⟩⟩⟩⟩
def sg_len : List Nat := [10, 4, 1, 3, 2, 9]
def sg_byt : List (List Int32) := [[48, 49, 50, 51, 52, 53, 54, 55, 56, 57], [48, 49, 50, 51], [59], [112, 99, 103], [101, 119], [49, 50, 51, 52, 53, 54, 55, 56, 57]]
def sg_tx : List String := ["0123456789", "0123", ";", "pcg", "ew", "123456789"]
def sg_si : List Nat := [50, 52, 54, 56, 58, 60]
/-- the links to private static methods of the nest -/
def sg_nl : List (Nat × Nat × MethodName) := [(7, 40, yX10_isBelow), (9, 28, yX10_hasBit), (9, 35, yX10_isBelow), (1, 101, yX10_isBelow), (1, 114, yX10_hasBit), (2, 21, yX10_isBelow), (6, 29, yX10_isBelow), (4, 90, yX10_isBelow), (3, 94, yX10_hasBit), (0, 51, yX10_hasBit)]
