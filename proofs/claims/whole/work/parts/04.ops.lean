/-! the four links beside our world -/
def sg_gsc : Nat := 38
theorem sg_gsc_ok : Cond.fieldLink (sg_cn 20) sg_gsc "java/lang/String" "COMPACT_STRINGS" "Z" ∈ sg_GT := sg_inGT (List.mem_of_getElem? (i := 277) (by decide +kernel)) rfl
def sg_gfv : Nat := 9
theorem sg_gfv_ok : Cond.fieldLink (sg_cn 20) sg_gfv "java/lang/String" "value" "[B" ∈ sg_GT := sg_inGT (List.mem_of_getElem? (i := 1460) (by decide +kernel)) rfl
def sg_gfc : Nat := 15
theorem sg_gfc_ok : Cond.fieldLink (sg_cn 20) sg_gfc "java/lang/String" "coder" "B" ∈ sg_GT := sg_inGT (List.mem_of_getElem? (i := 1459) (by decide +kernel)) rfl
def sg_gsl : Nat := 52
theorem sg_gsl_ok : Cond.fieldLink (sg_cn 8) sg_gsl "SneezeGuard$Wall" "LOUD" "[I" ∈ sg_GT := sg_inGT (List.mem_of_getElem? (i := 359) (by decide +kernel)) rfl
/-! STRAIGHT INSTRUCTIONS: (op, n, m, j, k); sg_ins: the machine's own; sg_st: what it does to locals, stack and memory, told as a predicate transformer; sg_one: it does so. -/
abbrev SgI : Type := Nat × Int × Int × Nat × Nat
def sg_get : SgL → Nat → Option (Nat × Int)
  | [], _ => none
  | q :: r, j => if q.1 = j then some q.2 else sg_get r j
def sg_set (L : SgL) (j : Nat) (v : Nat × Int) : SgL :=
  (L.filter (fun q => decide (q.1 = j) || (!(decide (q.1 + 1 = j) && decide (q.2.1 = 1)) && !(decide (v.1 = 1) && decide (q.1 = j + 1))))).map (fun q => if q.1 = j then (j, v) else q) ++ (if L.any (fun q => decide (q.1 = j)) then [] else [(j, v)])
def sg_iadd (x y : Int) : Int := (Int32.ofInt x + Int32.ofInt y).toInt
def sg_isub (x y : Int) : Int := (Int32.ofInt x - Int32.ofInt y).toInt
def sg_imul (x y : Int) : Int := (Int32.ofInt x * Int32.ofInt y).toInt
def sg_idiv (x y : Int) : Int := (Int32.ofInt x / Int32.ofInt y).toInt
def sg_irem (x y : Int) : Int := (Int32.ofInt x - Int32.ofInt x / Int32.ofInt y * Int32.ofInt y).toInt
def sg_ineg (x : Int) : Int := (-(Int32.ofInt x)).toInt
def sg_iand (x y : Int) : Int := (Int32.ofInt x &&& Int32.ofInt y).toInt
def sg_ior (x y : Int) : Int := (Int32.ofInt x ||| Int32.ofInt y).toInt
def sg_ixor (x y : Int) : Int := (Int32.ofInt x ^^^ Int32.ofInt y).toInt
def sg_ishl (x y : Int) : Int := (Int32.ofInt x <<< (Int32.ofInt y &&& 31)).toInt
def sg_ishr (x y : Int) : Int := (Int32.ofInt x >>> (Int32.ofInt y &&& 31)).toInt
def sg_iushr (x y : Int) : Int := ((Int32.ofInt x).toUInt32 >>> ((Int32.ofInt y).toUInt32 &&& Int32.toUInt32 31)).toInt32.toInt
def sg_ladd (x y : Int) : Int := (Int64.ofInt x + Int64.ofInt y).toInt
def sg_lsub (x y : Int) : Int := (Int64.ofInt x - Int64.ofInt y).toInt
def sg_lmul (x y : Int) : Int := (Int64.ofInt x * Int64.ofInt y).toInt
def sg_ldiv (x y : Int) : Int := (Int64.ofInt x / Int64.ofInt y).toInt
def sg_lrem (x y : Int) : Int := (Int64.ofInt x - Int64.ofInt x / Int64.ofInt y * Int64.ofInt y).toInt
def sg_land (x y : Int) : Int := (Int64.ofInt x &&& Int64.ofInt y).toInt
def sg_lshl (x y : Int) : Int := (Int64.ofInt x <<< ((Int32.ofInt y).toInt64 &&& 63)).toInt
def sg_lshr (x y : Int) : Int := (Int64.ofInt x >>> ((Int32.ofInt y).toInt64 &&& 63)).toInt
def sg_lcmp (x y : Int) : Int := if y < x then 1 else if x = y then 0 else -1
def sg_i2b (x : Int) : Int := (Int32.ofInt x).toInt8.toInt32.toInt
def sg_i2s (x : Int) : Int := (Int32.ofInt x).toInt16.toInt32.toInt
def sg_i2c (x : Int) : Int := ((Int32.ofInt x).toUInt32 % 65536).toInt32.toInt
abbrev SgK : Type := SgL → SgS → SgM → Prop
def sg_b2 (f : Int → Int → Int) (L : SgL) (S : SgS) (G : SgM) (K : SgK) : Prop := match S with
  | (0, y) :: (0, x) :: r => K L ((0, f x y) :: r) G
  | _ => False
def sg_bd (f : Int → Int → Int) (L : SgL) (S : SgS) (G : SgM) (K : SgK) : Prop := match S with
  | (0, y) :: (0, x) :: r => y ≠ 0 ∧ K L ((0, f x y) :: r) G
  | _ => False
def sg_bl (f : Int → Int → Int) (L : SgL) (S : SgS) (G : SgM) (K : SgK) : Prop := match S with
  | (1, y) :: (1, x) :: r => K L ((1, f x y) :: r) G
  | _ => False
def sg_bld (f : Int → Int → Int) (L : SgL) (S : SgS) (G : SgM) (K : SgK) : Prop := match S with
  | (1, y) :: (1, x) :: r => y ≠ 0 ∧ K L ((1, f x y) :: r) G
  | _ => False
def sg_bs (f : Int → Int → Int) (L : SgL) (S : SgS) (G : SgM) (K : SgK) : Prop := match S with
  | (0, y) :: (1, x) :: r => K L ((1, f x y) :: r) G
  | _ => False
def sg_u1 (f : Int → Int) (L : SgL) (S : SgS) (G : SgM) (K : SgK) : Prop := match S with
  | (0, x) :: r => K L ((0, f x) :: r) G
  | _ => False
def sg_lda (j : Nat) (L : SgL) (S : SgS) (G : SgM) (K : SgK) : Prop := match sg_get L j with
  | some v => 2 ≤ v.1 ∧ K L (v :: S) G
  | none => False
def sg_ldx (t j : Nat) (L : SgL) (S : SgS) (G : SgM) (K : SgK) : Prop := match sg_get L j with
  | some v => v.1 = t ∧ K L (v :: S) G
  | none => False
def sg_sta (j : Nat) (L : SgL) (S : SgS) (G : SgM) (K : SgK) : Prop := match S with
  | v :: r => 2 ≤ v.1 ∧ K (sg_set L j v) r G
  | _ => False
def sg_stx (t j : Nat) (L : SgL) (S : SgS) (G : SgM) (K : SgK) : Prop := match S with
  | v :: r => v.1 = t ∧ K (sg_set L j v) r G
  | _ => False
def sg_inc (j : Nat) (n : Int) (L : SgL) (S : SgS) (G : SgM) (K : SgK) : Prop := match sg_get L j with
  | some v => v.1 = 0 ∧ K (sg_set L j (0, sg_iadd v.2 n)) S G
  | none => False
def sg_lb (s i : Int) : Int := ((sg_byt.getD s.toNat []).getD i.toNat 0).toInt
def sg_ll (s : Int) : Int := (sg_len.getD s.toNat 0 : Nat)

def sg_m15 (lo N : Nat) (n m : Int) (j k : Nat) (L : SgL) (S : SgS) (G : SgM) (K : SgK) : Prop := match S with | (2, c) :: r => sg_Ce lo N c 0 m ∧ K L ((0, G c (k : Int)) :: r) G | _ => False
def sg_m65 (lo N : Nat) (n m : Int) (j k : Nat) (L : SgL) (S : SgS) (G : SgM) (K : SgK) : Prop := match S with | (2, c) :: r => sg_Ce lo N c 0 m ∧ sg_rr c k = n ∧ K L ((2, n) :: r) G | _ => False
def sg_m16 (lo N : Nat) (n m : Int) (j k : Nat) (L : SgL) (S : SgS) (G : SgM) (K : SgK) : Prop := match S with | (0, v) :: (2, c) :: r => sg_Ce lo N c 0 m ∧ K L r (sg_up G c (k : Int) v) | _ => False
def sg_m17 (lo N : Nat) (n m : Int) (j k : Nat) (L : SgL) (S : SgS) (G : SgM) (K : SgK) : Prop := match S with | (0, i) :: (2, c) :: r => sg_Ce lo N c 1 n ∧ (0 ≤ i ∧ i < n) ∧ K L ((0, G c i) :: r) G | _ => False
def sg_m18 (lo N : Nat) (n m : Int) (j k : Nat) (L : SgL) (S : SgS) (G : SgM) (K : SgK) : Prop := match S with | (0, v) :: (0, i) :: (2, c) :: r => sg_Ce lo N c 1 n ∧ (0 ≤ i ∧ i < n) ∧ K L r (sg_up G c i v) | _ => False
def sg_m19 (lo N : Nat) (n m : Int) (j k : Nat) (L : SgL) (S : SgS) (G : SgM) (K : SgK) : Prop := match S with | (0, i) :: (2, c) :: r => sg_Ce lo N c 2 n ∧ (0 ≤ i ∧ i < n) ∧ K L ((0, G c i) :: r) G | _ => False
def sg_m20 (lo N : Nat) (n m : Int) (j k : Nat) (L : SgL) (S : SgS) (G : SgM) (K : SgK) : Prop := match S with | (0, v) :: (0, i) :: (2, c) :: r => sg_Ce lo N c 2 n ∧ (0 ≤ i ∧ i < n) ∧ (v = 0 ∨ v = 1) ∧ K L r (sg_up G c i v) | _ => False
def sg_m21 (lo N : Nat) (n m : Int) (j k : Nat) (L : SgL) (S : SgS) (G : SgM) (K : SgK) : Prop := match S with | (0, i) :: (2, c) :: r => sg_Ce lo N c 3 n ∧ (0 ≤ i ∧ i < n) ∧ K L ((1, G c i) :: r) G | _ => False
def sg_m22 (lo N : Nat) (n m : Int) (j k : Nat) (L : SgL) (S : SgS) (G : SgM) (K : SgK) : Prop := match S with | (1, v) :: (0, i) :: (2, c) :: r => sg_Ce lo N c 3 n ∧ (0 ≤ i ∧ i < n) ∧ K L r (sg_up G c i v) | _ => False
def sg_m23 (lo N : Nat) (n m : Int) (j k : Nat) (L : SgL) (S : SgS) (G : SgM) (K : SgK) : Prop := match S with | (0, i) :: (2, c) :: r => (sg_Ce lo N c 4 n ∧ sg_qb c = m) ∧ (0 ≤ i ∧ i < n) ∧ K L ((2, m + i) :: r) G | _ => False
def sg_m24 (lo N : Nat) (n m : Int) (j k : Nat) (L : SgL) (S : SgS) (G : SgM) (K : SgK) : Prop := match S with | (2, c) :: r => ((sg_Ce lo N c 1 n ∨ sg_Ce lo N c 3 n) ∧ 0 ≤ n ∧ n < 2147483648) ∧ K L ((0, n) :: r) G | _ => False
def sg_m52 (lo N : Nat) (n m : Int) (j k : Nat) (L : SgL) (S : SgS) (G : SgM) (K : SgK) : Prop := match S with | (1, y) :: (1, x) :: r => K L ((0, sg_lcmp x y) :: r) G | _ => False
def sg_m53 (lo N : Nat) (n m : Int) (j k : Nat) (L : SgL) (S : SgS) (G : SgM) (K : SgK) : Prop := match S with | (0, x) :: r => K L ((1, x) :: r) G | _ => False
def sg_m57 (lo N : Nat) (n m : Int) (j k : Nat) (L : SgL) (S : SgS) (G : SgM) (K : SgK) : Prop := match S with | v :: r => v.1 ≠ 1 ∧ K L (v :: v :: r) G | _ => False
def sg_m58 (lo N : Nat) (n m : Int) (j k : Nat) (L : SgL) (S : SgS) (G : SgM) (K : SgK) : Prop := match S with | v :: w :: r => (v.1 ≠ 1 ∧ w.1 ≠ 1) ∧ K L (v :: w :: v :: w :: r) G | _ => False
def sg_m59 (lo N : Nat) (n m : Int) (j k : Nat) (L : SgL) (S : SgS) (G : SgM) (K : SgK) : Prop := match S with | v :: r => v.1 ≠ 1 ∧ K L r G | _ => False
def sg_m62 (lo N : Nat) (n m : Int) (j k : Nat) (L : SgL) (S : SgS) (G : SgM) (K : SgK) : Prop := match S with | (3, i) :: r => (0 ≤ i ∧ i < 6) ∧ K L ((4, i) :: r) G | _ => False
def sg_m63 (lo N : Nat) (n m : Int) (j k : Nat) (L : SgL) (S : SgS) (G : SgM) (K : SgK) : Prop := match S with | (3, i) :: r => (0 ≤ i ∧ i < 6) ∧ K L ((0, 0) :: r) G | _ => False
def sg_m66 (lo N : Nat) (n m : Int) (j k : Nat) (L : SgL) (S : SgS) (G : SgM) (K : SgK) : Prop := match S with | (0, i) :: (4, s) :: r => ((0 ≤ s ∧ s < 6) ∧ 0 ≤ i ∧ i < sg_ll s) ∧ K L ((0, sg_lb s i) :: r) G | _ => False
def sg_m67 (lo N : Nat) (n m : Int) (j k : Nat) (L : SgL) (S : SgS) (G : SgM) (K : SgK) : Prop := match S with | (4, s) :: r => (0 ≤ s ∧ s < 6) ∧ K L ((0, sg_ll s) :: r) G | _ => False
def sg_m68 (lo N : Nat) (n m : Int) (j k : Nat) (L : SgL) (S : SgS) (G : SgM) (K : SgK) : Prop := match S with | (0, i) :: (5, s) :: r => (0 ≤ i ∧ i < 3) ∧ K L ((0, (sg_loud i.toNat).toInt) :: r) G | _ => False
def sg_ins (i : SgI) : Instr × Nat := match i with
  | (1, n, m, j, k) => (.aload_n (Fin.ofNat 4 j), 1)
  | (2, n, m, j, k) => (.aload j, 2)
  | (3, n, m, j, k) => (.iload_n (Fin.ofNat 4 j), 1)
  | (4, n, m, j, k) => (.iload j, 2)
  | (5, n, m, j, k) => (.lload_n (Fin.ofNat 4 j), 1)
  | (6, n, m, j, k) => (.lload j, 2)
  | (7, n, m, j, k) => (.iconst n, 1)
  | (8, n, m, j, k) => (.bipush n, 2)
  | (9, n, m, j, k) => (.sipush n, 3)
  | (10, n, m, j, k) => (.lconst (Fin.ofNat 2 j), 1)
  | (11, n, m, j, k) => (.ldc j, 2)
  | (12, n, m, j, k) => (.ldc2_w j, 3)
  | (13, n, m, j, k) => (.ldc j, 2)
  | (14, n, m, j, k) => (.ldc_w j, 3)
  | (15, n, m, j, k) => (.getfield j, 3)
  | (65, n, m, j, k) => (.getfield j, 3)
  | (16, n, m, j, k) => (.putfield j, 3)
  | (17, n, m, j, k) => (.iaload, 1)
  | (18, n, m, j, k) => (.iastore, 1)
  | (19, n, m, j, k) => (.baload, 1)
  | (20, n, m, j, k) => (.bastore, 1)
  | (21, n, m, j, k) => (.laload, 1)
  | (22, n, m, j, k) => (.lastore, 1)
  | (23, n, m, j, k) => (.aaload, 1)
  | (24, n, m, j, k) => (.arraylength, 1)
  | (25, n, m, j, k) => (.istore_n (Fin.ofNat 4 j), 1)
  | (26, n, m, j, k) => (.istore j, 2)
  | (27, n, m, j, k) => (.lstore_n (Fin.ofNat 4 j), 1)
  | (28, n, m, j, k) => (.lstore j, 2)
  | (29, n, m, j, k) => (.astore_n (Fin.ofNat 4 j), 1)
  | (30, n, m, j, k) => (.astore j, 2)
  | (31, n, m, j, k) => (.iinc j n, 3)
  | (32, n, m, j, k) => (.iadd, 1)
  | (33, n, m, j, k) => (.isub, 1)
  | (34, n, m, j, k) => (.imul, 1)
  | (35, n, m, j, k) => (.idiv, 1)
  | (36, n, m, j, k) => (.irem, 1)
  | (37, n, m, j, k) => (.ineg, 1)
  | (38, n, m, j, k) => (.iand, 1)
  | (39, n, m, j, k) => (.ior, 1)
  | (40, n, m, j, k) => (.ixor, 1)
  | (41, n, m, j, k) => (.ishl, 1)
  | (42, n, m, j, k) => (.ishr, 1)
  | (43, n, m, j, k) => (.iushr, 1)
  | (44, n, m, j, k) => (.ladd, 1)
  | (45, n, m, j, k) => (.lsub, 1)
  | (46, n, m, j, k) => (.lmul, 1)
  | (47, n, m, j, k) => (.ldiv, 1)
  | (48, n, m, j, k) => (.lrem, 1)
  | (49, n, m, j, k) => (.land, 1)
  | (50, n, m, j, k) => (.lshl, 1)
  | (51, n, m, j, k) => (.lshr, 1)
  | (52, n, m, j, k) => (.lcmp, 1)
  | (53, n, m, j, k) => (.i2l, 1)
  | (54, n, m, j, k) => (.i2b, 1)
  | (55, n, m, j, k) => (.i2s, 1)
  | (56, n, m, j, k) => (.i2c, 1)
  | (57, n, m, j, k) => (.dup, 1)
  | (58, n, m, j, k) => (.dup2, 1)
  | (59, n, m, j, k) => (.pop, 1)
  | (60, n, m, j, k) => (.getstatic j, 3)
  | (61, n, m, j, k) => (.getstatic j, 3)
  | (62, n, m, j, k) => (.getfield j, 3)
  | (63, n, m, j, k) => (.getfield j, 3)
  | (66, n, m, j, k) => (.baload, 1)
  | (67, n, m, j, k) => (.arraylength, 1)
  | (68, n, m, j, k) => (.iaload, 1)
  | _ => (.nop, 0)
def sg_lk (own maxL : Nat) (i : SgI) : Bool := match i with
  | (11, n, m, j, k) => decide ((own, j, n) ∈ sg_ct)
  | (12, n, m, j, k) => decide ((own, j, n) ∈ sg_lt)
  | (13, n, m, j, k) => decide (own = 7) && (decide (k < 6) && decide (j = sg_si.getD k 0))
  | (14, n, m, j, k) => decide ((own, j, n) ∈ sg_ct)
  | (15, n, m, j, k) => decide ((own, j, m.toNat, k) ∈ sg_fl) && decide (sg_ft m.toNat k = 0)
  | (65, n, m, j, k) => decide ((own, j, m.toNat, k) ∈ sg_fl) && !decide (sg_ft m.toNat k = 0)
  | (16, n, m, j, k) => decide ((own, j, m.toNat, k) ∈ sg_fl) && decide ((m.toNat, k) ∈ sg_fp)
  | (25, n, m, j, k) => decide (j % 4 < maxL)
  | (26, n, m, j, k) => decide (j < maxL)
  | (27, n, m, j, k) => decide (j % 4 + 1 < maxL)
  | (28, n, m, j, k) => decide (j + 1 < maxL)
  | (29, n, m, j, k) => decide (j % 4 < maxL)
  | (30, n, m, j, k) => decide (j < maxL)
  | (31, n, m, j, k) => decide (j < maxL)
  | (60, n, m, j, k) => decide (own = 20) && decide (j = sg_gsc)
  | (61, n, m, j, k) => decide (own = 8) && decide (j = sg_gsl)
  | (62, n, m, j, k) => decide (own = 20) && decide (j = sg_gfv)
  | (63, n, m, j, k) => decide (own = 20) && decide (j = sg_gfc)
  | _ => true
def sg_st (lo N : Nat) (i : SgI) (L : SgL) (S : SgS) (G : SgM) (K : SgK) : Prop := match i with
  | (1, n, m, j, k) => sg_lda (j % 4) L S G K
  | (2, n, m, j, k) => sg_lda j L S G K
  | (3, n, m, j, k) => sg_ldx 0 (j % 4) L S G K
  | (4, n, m, j, k) => sg_ldx 0 j L S G K
  | (5, n, m, j, k) => sg_ldx 1 (j % 4) L S G K
  | (6, n, m, j, k) => sg_ldx 1 j L S G K
  | (7, n, m, j, k) => sg_32 n ∧ K L ((0, n) :: S) G
  | (8, n, m, j, k) => (Int8.ofInt n).toInt32 = Int32.ofInt n ∧ sg_32 n ∧ K L ((0, n) :: S) G
  | (9, n, m, j, k) => (Int16.ofInt n).toInt32 = Int32.ofInt n ∧ sg_32 n ∧ K L ((0, n) :: S) G
  | (10, n, m, j, k) => K L ((1, ((j % 2 : Nat) : Int)) :: S) G
  | (11, n, m, j, k) => sg_32 n ∧ K L ((0, n) :: S) G
  | (12, n, m, j, k) => sg_64 n ∧ K L ((1, n) :: S) G
  | (13, n, m, j, k) => K L ((3, (k : Int)) :: S) G
  | (14, n, m, j, k) => sg_32 n ∧ K L ((0, n) :: S) G
  | (15, n, m, j, k) => sg_m15 lo N n m j k L S G K
  | (65, n, m, j, k) => sg_m65 lo N n m j k L S G K
  | (16, n, m, j, k) => sg_m16 lo N n m j k L S G K
  | (17, n, m, j, k) => sg_m17 lo N n m j k L S G K
  | (18, n, m, j, k) => sg_m18 lo N n m j k L S G K
  | (19, n, m, j, k) => sg_m19 lo N n m j k L S G K
  | (20, n, m, j, k) => sg_m20 lo N n m j k L S G K
  | (21, n, m, j, k) => sg_m21 lo N n m j k L S G K
  | (22, n, m, j, k) => sg_m22 lo N n m j k L S G K
  | (23, n, m, j, k) => sg_m23 lo N n m j k L S G K
  | (24, n, m, j, k) => sg_m24 lo N n m j k L S G K
  | (25, n, m, j, k) => sg_stx 0 (j % 4) L S G K
  | (26, n, m, j, k) => sg_stx 0 j L S G K
  | (27, n, m, j, k) => sg_stx 1 (j % 4) L S G K
  | (28, n, m, j, k) => sg_stx 1 j L S G K
  | (29, n, m, j, k) => sg_sta (j % 4) L S G K
  | (30, n, m, j, k) => sg_sta j L S G K
  | (31, n, m, j, k) => sg_inc j n L S G K
  | (32, n, m, j, k) => sg_b2 sg_iadd L S G K
  | (33, n, m, j, k) => sg_b2 sg_isub L S G K
  | (34, n, m, j, k) => sg_b2 sg_imul L S G K
  | (35, n, m, j, k) => sg_bd sg_idiv L S G K
  | (36, n, m, j, k) => sg_bd sg_irem L S G K
  | (37, n, m, j, k) => sg_u1 sg_ineg L S G K
  | (38, n, m, j, k) => sg_b2 sg_iand L S G K
  | (39, n, m, j, k) => sg_b2 sg_ior L S G K
  | (40, n, m, j, k) => sg_b2 sg_ixor L S G K
  | (41, n, m, j, k) => sg_b2 sg_ishl L S G K
  | (42, n, m, j, k) => sg_b2 sg_ishr L S G K
  | (43, n, m, j, k) => sg_b2 sg_iushr L S G K
  | (44, n, m, j, k) => sg_bl sg_ladd L S G K
  | (45, n, m, j, k) => sg_bl sg_lsub L S G K
  | (46, n, m, j, k) => sg_bl sg_lmul L S G K
  | (47, n, m, j, k) => sg_bld sg_ldiv L S G K
  | (48, n, m, j, k) => sg_bld sg_lrem L S G K
  | (49, n, m, j, k) => sg_bl sg_land L S G K
  | (50, n, m, j, k) => sg_bs sg_lshl L S G K
  | (51, n, m, j, k) => sg_bs sg_lshr L S G K
  | (52, n, m, j, k) => sg_m52 lo N n m j k L S G K
  | (53, n, m, j, k) => sg_m53 lo N n m j k L S G K
  | (54, n, m, j, k) => sg_u1 sg_i2b L S G K
  | (55, n, m, j, k) => sg_u1 sg_i2s L S G K
  | (56, n, m, j, k) => sg_u1 sg_i2c L S G K
  | (57, n, m, j, k) => sg_m57 lo N n m j k L S G K
  | (58, n, m, j, k) => sg_m58 lo N n m j k L S G K
  | (59, n, m, j, k) => sg_m59 lo N n m j k L S G K
  | (60, n, m, j, k) => K L ((0, 1) :: S) G
  | (61, n, m, j, k) => K L ((5, 0) :: S) G
  | (62, n, m, j, k) => sg_m62 lo N n m j k L S G K
  | (63, n, m, j, k) => sg_m63 lo N n m j k L S G K
  | (66, n, m, j, k) => sg_m66 lo N n m j k L S G K
  | (67, n, m, j, k) => sg_m67 lo N n m j k L S G K
  | (68, n, m, j, k) => sg_m68 lo N n m j k L S G K
  | _ => False
