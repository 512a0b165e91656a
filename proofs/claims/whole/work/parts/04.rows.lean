/-- an index is in its row -/
abbrev inb (i : Int32) (n : Nat) : Prop := 0 ≤ i.toInt ∧ i.toInt < n
theorem inb_in {i : Int32} {n : Nat} (h : inb i n) : vp_in i n := vp_in_iff.mpr h
section RCrows
variable {l : Launch} {wl : WT} {own : String} {bs : ByteArray} {mL : Nat} {rt : Option FieldType} {d pc pc1 : Nat} {L st : List Value} {s0 : SS} {e : Res}

theorem r_iconst {n : Int} {v : Int32} (h : decode bs pc = .ok (.iconst n, 1)) (hv : Int32.ofInt n = v) (hp : pc + 1 = pc1) (k : RC l wl own bs mL rt d pc1 L (.int v :: st) s0 e) : RC l wl own bs mL rt d pc L st s0 e := by
  subst hp
  intro r s1 he p en s m args below meth c D T ad A H locs ls C hP hD hS hl
  exact lv_iconst C.1 C.2.1 h hv (k r s1 he p en s m args below meth c D T ad A H locs ls C hP hD hS hl)
theorem r_bipush {n : Int} {v : Int32} (h : decode bs pc = .ok (.bipush n, 2)) (hv : (Int8.ofInt n).toInt32 = v) (hp : pc + 2 = pc1) (k : RC l wl own bs mL rt d pc1 L (.int v :: st) s0 e) : RC l wl own bs mL rt d pc L st s0 e := by
  subst hp
  intro r s1 he p en s m args below meth c D T ad A H locs ls C hP hD hS hl
  exact lv_bipush C.1 C.2.1 h hv (k r s1 he p en s m args below meth c D T ad A H locs ls C hP hD hS hl)
theorem r_sipush {n : Int} {v : Int32} (h : decode bs pc = .ok (.sipush n, 3)) (hv : (Int16.ofInt n).toInt32 = v) (hp : pc + 3 = pc1) (k : RC l wl own bs mL rt d pc1 L (.int v :: st) s0 e) : RC l wl own bs mL rt d pc L st s0 e := by
  subst hp
  intro r s1 he p en s m args below meth c D T ad A H locs ls C hP hD hS hl
  exact lv_sipush C.1 C.2.1 h hv (k r s1 he p en s m args below meth c D T ad A H locs ls C hP hD hS hl)
theorem r_lconst {n : Fin 2} {v : Int64} (h : decode bs pc = .ok (.lconst n, 1)) (hv : Int64.ofNat (n : Nat) = v) (hp : pc + 1 = pc1) (k : RC l wl own bs mL rt d pc1 L (.long v :: st) s0 e) : RC l wl own bs mL rt d pc L st s0 e := by
  subst hp
  intro r s1 he p en s m args below meth c D T ad A H locs ls C hP hD hS hl
  exact lv_lconst C.1 C.2.1 h hv (k r s1 he p en s m args below meth c D T ad A H locs ls C hP hD hS hl)
theorem r_ldc {i : Nat} {v : Int32} (h : decode bs pc = .ok (.ldc i, 2)) (hc : Cond.constant own i v ∈ gw) (hp : pc + 2 = pc1) (k : RC l wl own bs mL rt d pc1 L (.int v :: st) s0 e) : RC l wl own bs mL rt d pc L st s0 e := by
  subst hp
  intro r s1 he p en s m args below meth c D T ad A H locs ls C hP hD hS hl
  exact lv_ldc C.1 C.2.1 C.2.2.2.2.2.1 (C.2.2.2.2.2.2.1 _ hc) h (k r s1 he p en s m args below meth c D T ad A H locs ls C hP hD hS hl)
theorem r_ldcw {i : Nat} {v : Int32} (h : decode bs pc = .ok (.ldc_w i, 3)) (hc : Cond.constant own i v ∈ gw) (hp : pc + 3 = pc1) (k : RC l wl own bs mL rt d pc1 L (.int v :: st) s0 e) : RC l wl own bs mL rt d pc L st s0 e := by
  subst hp
  intro r s1 he p en s m args below meth c D T ad A H locs ls C hP hD hS hl
  exact lv_ldcw C.1 C.2.1 C.2.2.2.2.2.1 (C.2.2.2.2.2.2.1 _ hc) h (k r s1 he p en s m args below meth c D T ad A H locs ls C hP hD hS hl)
theorem r_ldc2 {i : Nat} {v : Int64} (h : decode bs pc = .ok (.ldc2_w i, 3)) (hc : Cond.constantLong own i v ∈ gw) (hp : pc + 3 = pc1) (k : RC l wl own bs mL rt d pc1 L (.long v :: st) s0 e) : RC l wl own bs mL rt d pc L st s0 e := by
  subst hp
  intro r s1 he p en s m args below meth c D T ad A H locs ls C hP hD hS hl
  exact lv_ldc2 C.1 C.2.1 C.2.2.2.2.2.1 (C.2.2.2.2.2.2.1 _ hc) h (k r s1 he p en s m args below meth c D T ad A H locs ls C hP hD hS hl)
theorem r_iload_n {k0 : Fin 4} {i : Nat} {x : Int32} (h : decode bs pc = .ok (.iload_n k0, 1)) (hi : (k0 : Nat) = i) (hl0 : L[i]? = some (.int x)) (hp : pc + 1 = pc1) (k : RC l wl own bs mL rt d pc1 L (.int x :: st) s0 e) : RC l wl own bs mL rt d pc L st s0 e := by
  subst hp
  intro r s1 he p en s m args below meth c D T ad A H locs ls C hP hD hS hl
  exact lv_iload_n C.1 C.2.1 h hi (hl.get hl0 (by intro z; cases z)) (k r s1 he p en s m args below meth c D T ad A H locs ls C hP hD hS hl)
theorem r_iload {i : Nat} {x : Int32} (h : decode bs pc = .ok (.iload i, 2)) (hl0 : L[i]? = some (.int x)) (hp : pc + 2 = pc1) (k : RC l wl own bs mL rt d pc1 L (.int x :: st) s0 e) : RC l wl own bs mL rt d pc L st s0 e := by
  subst hp
  intro r s1 he p en s m args below meth c D T ad A H locs ls C hP hD hS hl
  exact lv_iload C.1 C.2.1 h (hl.get hl0 (by intro z; cases z)) (k r s1 he p en s m args below meth c D T ad A H locs ls C hP hD hS hl)
theorem r_lload_n {k0 : Fin 4} {i : Nat} {x : Int64} (h : decode bs pc = .ok (.lload_n k0, 1)) (hi : (k0 : Nat) = i) (hl0 : L[i]? = some (.long x)) (hp : pc + 1 = pc1) (k : RC l wl own bs mL rt d pc1 L (.long x :: st) s0 e) : RC l wl own bs mL rt d pc L st s0 e := by
  subst hp
  intro r s1 he p en s m args below meth c D T ad A H locs ls C hP hD hS hl
  exact lv_lload_n C.1 C.2.1 h hi (hl.get hl0 (by intro z; cases z)) (k r s1 he p en s m args below meth c D T ad A H locs ls C hP hD hS hl)
theorem r_lload {i : Nat} {x : Int64} (h : decode bs pc = .ok (.lload i, 2)) (hl0 : L[i]? = some (.long x)) (hp : pc + 2 = pc1) (k : RC l wl own bs mL rt d pc1 L (.long x :: st) s0 e) : RC l wl own bs mL rt d pc L st s0 e := by
  subst hp
  intro r s1 he p en s m args below meth c D T ad A H locs ls C hP hD hS hl
  exact lv_lload C.1 C.2.1 h (hl.get hl0 (by intro z; cases z)) (k r s1 he p en s m args below meth c D T ad A H locs ls C hP hD hS hl)
theorem r_aload_n {k0 : Fin 4} {i x : Nat} (h : decode bs pc = .ok (.aload_n k0, 1)) (hi : (k0 : Nat) = i) (hl0 : L[i]? = some (.ref x)) (hp : pc + 1 = pc1) (k : RC l wl own bs mL rt d pc1 L (.ref x :: st) s0 e) : RC l wl own bs mL rt d pc L st s0 e := by
  subst hp
  intro r s1 he p en s m args below meth c D T ad A H locs ls C hP hD hS hl
  exact lv_aload_n C.1 C.2.1 h hi (hl.get hl0 (by intro z; cases z)) (k r s1 he p en s m args below meth c D T ad A H locs ls C hP hD hS hl)
theorem r_iadd {x y : Int32} (h : decode bs pc = .ok (.iadd, 1)) (hp : pc + 1 = pc1) (k : RC l wl own bs mL rt d pc1 L (.int (x + y) :: st) s0 e) : RC l wl own bs mL rt d pc L (.int y :: .int x :: st) s0 e := by
  subst hp
  intro r s1 he p en s m args below meth c D T ad A H locs ls C hP hD hS hl
  exact lv_iadd C.1 C.2.1 h (k r s1 he p en s m args below meth c D T ad A H locs ls C hP hD hS hl)
theorem r_isub {x y : Int32} (h : decode bs pc = .ok (.isub, 1)) (hp : pc + 1 = pc1) (k : RC l wl own bs mL rt d pc1 L (.int (x - y) :: st) s0 e) : RC l wl own bs mL rt d pc L (.int y :: .int x :: st) s0 e := by
  subst hp
  intro r s1 he p en s m args below meth c D T ad A H locs ls C hP hD hS hl
  exact lv_isub C.1 C.2.1 h (k r s1 he p en s m args below meth c D T ad A H locs ls C hP hD hS hl)
theorem r_imul {x y : Int32} (h : decode bs pc = .ok (.imul, 1)) (hp : pc + 1 = pc1) (k : RC l wl own bs mL rt d pc1 L (.int (x * y) :: st) s0 e) : RC l wl own bs mL rt d pc L (.int y :: .int x :: st) s0 e := by
  subst hp
  intro r s1 he p en s m args below meth c D T ad A H locs ls C hP hD hS hl
  exact lv_imul C.1 C.2.1 h (k r s1 he p en s m args below meth c D T ad A H locs ls C hP hD hS hl)
theorem r_iand {x y : Int32} (h : decode bs pc = .ok (.iand, 1)) (hp : pc + 1 = pc1) (k : RC l wl own bs mL rt d pc1 L (.int (x &&& y) :: st) s0 e) : RC l wl own bs mL rt d pc L (.int y :: .int x :: st) s0 e := by
  subst hp
  intro r s1 he p en s m args below meth c D T ad A H locs ls C hP hD hS hl
  exact lv_iand C.1 C.2.1 h (k r s1 he p en s m args below meth c D T ad A H locs ls C hP hD hS hl)
theorem r_ior {x y : Int32} (h : decode bs pc = .ok (.ior, 1)) (hp : pc + 1 = pc1) (k : RC l wl own bs mL rt d pc1 L (.int (x ||| y) :: st) s0 e) : RC l wl own bs mL rt d pc L (.int y :: .int x :: st) s0 e := by
  subst hp
  intro r s1 he p en s m args below meth c D T ad A H locs ls C hP hD hS hl
  exact lv_ior C.1 C.2.1 h (k r s1 he p en s m args below meth c D T ad A H locs ls C hP hD hS hl)
theorem r_ixor {x y : Int32} (h : decode bs pc = .ok (.ixor, 1)) (hp : pc + 1 = pc1) (k : RC l wl own bs mL rt d pc1 L (.int (x ^^^ y) :: st) s0 e) : RC l wl own bs mL rt d pc L (.int y :: .int x :: st) s0 e := by
  subst hp
  intro r s1 he p en s m args below meth c D T ad A H locs ls C hP hD hS hl
  exact lv_ixor C.1 C.2.1 h (k r s1 he p en s m args below meth c D T ad A H locs ls C hP hD hS hl)
theorem r_ishl {x y : Int32} (h : decode bs pc = .ok (.ishl, 1)) (hp : pc + 1 = pc1) (k : RC l wl own bs mL rt d pc1 L (.int (x <<< (y &&& 31)) :: st) s0 e) : RC l wl own bs mL rt d pc L (.int y :: .int x :: st) s0 e := by
  subst hp
  intro r s1 he p en s m args below meth c D T ad A H locs ls C hP hD hS hl
  exact lv_ishl C.1 C.2.1 h (k r s1 he p en s m args below meth c D T ad A H locs ls C hP hD hS hl)
theorem r_ishr {x y : Int32} (h : decode bs pc = .ok (.ishr, 1)) (hp : pc + 1 = pc1) (k : RC l wl own bs mL rt d pc1 L (.int (x >>> (y &&& 31)) :: st) s0 e) : RC l wl own bs mL rt d pc L (.int y :: .int x :: st) s0 e := by
  subst hp
  intro r s1 he p en s m args below meth c D T ad A H locs ls C hP hD hS hl
  exact lv_ishr C.1 C.2.1 h (k r s1 he p en s m args below meth c D T ad A H locs ls C hP hD hS hl)
theorem r_lmul {x y : Int64} (h : decode bs pc = .ok (.lmul, 1)) (hp : pc + 1 = pc1) (k : RC l wl own bs mL rt d pc1 L (.long (x * y) :: st) s0 e) : RC l wl own bs mL rt d pc L (.long y :: .long x :: st) s0 e := by
  subst hp
  intro r s1 he p en s m args below meth c D T ad A H locs ls C hP hD hS hl
  exact lv_lmul C.1 C.2.1 h (k r s1 he p en s m args below meth c D T ad A H locs ls C hP hD hS hl)
theorem r_lushr {x : Int64} {y : Int32} (h : decode bs pc = .ok (.lushr, 1)) (hp : pc + 1 = pc1) (k : RC l wl own bs mL rt d pc1 L (.long (lsr x y) :: st) s0 e) : RC l wl own bs mL rt d pc L (.int y :: .long x :: st) s0 e := by
  subst hp
  intro r s1 he p en s m args below meth c D T ad A H locs ls C hP hD hS hl
  exact lv_lushr C.1 C.2.1 h rfl (k r s1 he p en s m args below meth c D T ad A H locs ls C hP hD hS hl)
theorem r_l2i {x : Int64} (h : decode bs pc = .ok (.l2i, 1)) (hp : pc + 1 = pc1) (k : RC l wl own bs mL rt d pc1 L (.int x.toInt32 :: st) s0 e) : RC l wl own bs mL rt d pc L (.long x :: st) s0 e := by
  subst hp
  intro r s1 he p en s m args below meth c D T ad A H locs ls C hP hD hS hl
  exact lv_l2i C.1 C.2.1 h rfl (k r s1 he p en s m args below meth c D T ad A H locs ls C hP hD hS hl)
theorem r_lcmp {x y : Int64} (h : decode bs pc = .ok (.lcmp, 1)) (hp : pc + 1 = pc1) (k : RC l wl own bs mL rt d pc1 L (.int (lg_cmp x y) :: st) s0 e) : RC l wl own bs mL rt d pc L (.long y :: .long x :: st) s0 e := by
  subst hp
  intro r s1 he p en s m args below meth c D T ad A H locs ls C hP hD hS hl
  exact W.lcmp C.1 C.2.1 h (k r s1 he p en s m args below meth c D T ad A H locs ls C hP hD hS hl)
theorem r_ineg {x : Int32} (h : decode bs pc = .ok (.ineg, 1)) (hp : pc + 1 = pc1) (k : RC l wl own bs mL rt d pc1 L (.int (-x) :: st) s0 e) : RC l wl own bs mL rt d pc L (.int x :: st) s0 e := by
  subst hp
  intro r s1 he p en s m args below meth c D T ad A H locs ls C hP hD hS hl
  exact lv_ineg C.1 C.2.1 h (k r s1 he p en s m args below meth c D T ad A H locs ls C hP hD hS hl)
theorem r_i2b {x : Int32} (h : decode bs pc = .ok (.i2b, 1)) (hp : pc + 1 = pc1) (k : RC l wl own bs mL rt d pc1 L (.int x.toInt8.toInt32 :: st) s0 e) : RC l wl own bs mL rt d pc L (.int x :: st) s0 e := by
  subst hp
  intro r s1 he p en s m args below meth c D T ad A H locs ls C hP hD hS hl
  exact lv_i2b C.1 C.2.1 h rfl (k r s1 he p en s m args below meth c D T ad A H locs ls C hP hD hS hl)
theorem r_i2c {x : Int32} (h : decode bs pc = .ok (.i2c, 1)) (hp : pc + 1 = pc1) (k : RC l wl own bs mL rt d pc1 L (.int (x.toUInt32 % 65536).toInt32 :: st) s0 e) : RC l wl own bs mL rt d pc L (.int x :: st) s0 e := by
  subst hp
  intro r s1 he p en s m args below meth c D T ad A H locs ls C hP hD hS hl
  exact lv_i2c C.1 C.2.1 h rfl (k r s1 he p en s m args below meth c D T ad A H locs ls C hP hD hS hl)
theorem r_i2l {x : Int32} (h : decode bs pc = .ok (.i2l, 1)) (hp : pc + 1 = pc1) (k : RC l wl own bs mL rt d pc1 L (.long x.toInt64 :: st) s0 e) : RC l wl own bs mL rt d pc L (.int x :: st) s0 e := by
  subst hp
  intro r s1 he p en s m args below meth c D T ad A H locs ls C hP hD hS hl
  exact lv_i2l C.1 C.2.1 h rfl (k r s1 he p en s m args below meth c D T ad A H locs ls C hP hD hS hl)
theorem r_iushr {x y : Int32} (h : decode bs pc = .ok (.iushr, 1)) (hp : pc + 1 = pc1) (k : RC l wl own bs mL rt d pc1 L (.int (x.toUInt32 >>> (y.toUInt32 &&& Int32.toUInt32 31)).toInt32 :: st) s0 e) : RC l wl own bs mL rt d pc L (.int y :: .int x :: st) s0 e := by
  subst hp
  intro r s1 he p en s m args below meth c D T ad A H locs ls C hP hD hS hl
  exact lv_iushr C.1 C.2.1 h rfl (k r s1 he p en s m args below meth c D T ad A H locs ls C hP hD hS hl)
theorem r_dup {v : Value} (h : decode bs pc = .ok (.dup, 1)) (hv : v.category = 1) (hp : pc + 1 = pc1) (k : RC l wl own bs mL rt d pc1 L (v :: v :: st) s0 e) : RC l wl own bs mL rt d pc L (v :: st) s0 e := by
  subst hp
  intro r s1 he p en s m args below meth c D T ad A H locs ls C hP hD hS hl
  exact lv_dup C.1 C.2.1 h (by rw [cv_cat]; exact hv) (k r s1 he p en s m args below meth c D T ad A H locs ls C hP hD hS hl)
theorem r_dup2 {v w : Value} (h : decode bs pc = .ok (.dup2, 1)) (hv : v.category = 1) (hw : w.category = 1) (hp : pc + 1 = pc1) (k : RC l wl own bs mL rt d pc1 L (v :: w :: v :: w :: st) s0 e) : RC l wl own bs mL rt d pc L (v :: w :: st) s0 e := by
  subst hp
  intro r s1 he p en s m args below meth c D T ad A H locs ls C hP hD hS hl
  exact lv_dup2_11 C.1 C.2.1 h (by rw [cv_cat]; exact hv) (by rw [cv_cat]; exact hw) (k r s1 he p en s m args below meth c D T ad A H locs ls C hP hD hS hl)
theorem r_pop {v : Value} (h : decode bs pc = .ok (.pop, 1)) (hv : v.category = 1) (hp : pc + 1 = pc1) (k : RC l wl own bs mL rt d pc1 L st s0 e) : RC l wl own bs mL rt d pc L (v :: st) s0 e := by
  subst hp
  intro r s1 he p en s m args below meth c D T ad A H locs ls C hP hD hS hl
  exact lv_pop C.1 C.2.1 h (by rw [cv_cat]; exact hv) (k r s1 he p en s m args below meth c D T ad A H locs ls C hP hD hS hl)
theorem r_idiv {x y : Int32} (h : decode bs pc = .ok (.idiv, 1)) (hp : pc + 1 = pc1) (k : RC l wl own bs mL rt d pc1 L (.int (x / y) :: st) s0 e) : RC l wl own bs mL rt d pc L (.int y :: .int x :: st) s0 (gd (¬ y = 0) e) := by
  subst hp
  intro r s1 he p en s m args below meth c D T ad A H locs ls C hP hD hS hl
  by_cases hy : y = 0
  · rw [gd, if_neg (by exact fun z => z hy)] at he
    cases he
  · rw [gd, if_pos hy] at he
    exact lv_idiv C.1 C.2.1 h hy (k r s1 he p en s m args below meth c D T ad A H locs ls C hP hD hS hl)
theorem r_irem {x y : Int32} (h : decode bs pc = .ok (.irem, 1)) (hp : pc + 1 = pc1) (k : RC l wl own bs mL rt d pc1 L (.int (x - x / y * y) :: st) s0 e) : RC l wl own bs mL rt d pc L (.int y :: .int x :: st) s0 (gd (¬ y = 0) e) := by
  subst hp
  intro r s1 he p en s m args below meth c D T ad A H locs ls C hP hD hS hl
  by_cases hy : y = 0
  · rw [gd, if_neg (by exact fun z => z hy)] at he
    cases he
  · rw [gd, if_pos hy] at he
    exact lv_irem C.1 C.2.1 h hy (k r s1 he p en s m args below meth c D T ad A H locs ls C hP hD hS hl)
theorem r_istore_n {k0 : Fin 4} {i : Nat} {x : Int32} {L1 : List Value} (h : decode bs pc = .ok (.istore_n k0, 1)) (hi : (k0 : Nat) = i) (hn : i < mL) (hL : oks i L = true) (hs : L.set i (.int x) = L1) (hp : pc + 1 = pc1) (k : RC l wl own bs mL rt d pc1 L1 st s0 e) : RC l wl own bs mL rt d pc L (.int x :: st) s0 e := by
  subst hp; subst hs
  intro r s1 he p en s m args below meth c D T ad A H locs ls C hP hD hS hl
  exact lv_istore_n C.1 C.2.1 h hi hl.has hn rfl (fun ls1 h1 => (k r s1 he p en s m args below meth c D T ad A H locs ls1 C hP hD hS (lvh.set hL h1)))
theorem r_istore {i : Nat} {x : Int32} {L1 : List Value} (h : decode bs pc = .ok (.istore i, 2)) (hn : i < mL) (hL : oks i L = true) (hs : L.set i (.int x) = L1) (hp : pc + 2 = pc1) (k : RC l wl own bs mL rt d pc1 L1 st s0 e) : RC l wl own bs mL rt d pc L (.int x :: st) s0 e := by
  subst hp; subst hs
  intro r s1 he p en s m args below meth c D T ad A H locs ls C hP hD hS hl
  exact lv_istore C.1 C.2.1 h hl.has hn rfl (fun ls1 h1 => (k r s1 he p en s m args below meth c D T ad A H locs ls1 C hP hD hS (lvh.set hL h1)))
theorem r_lstore_n {k0 : Fin 4} {i : Nat} {x : Int64} {L1 : List Value} (h : decode bs pc = .ok (.lstore_n k0, 1)) (hi : (k0 : Nat) = i) (hn : i + 1 < mL) (hL : oks i L = true) (hs : (L.set i (.long x)).set (i + 1) .null = L1) (hp : pc + 1 = pc1) (k : RC l wl own bs mL rt d pc1 L1 st s0 e) : RC l wl own bs mL rt d pc L (.long x :: st) s0 e := by
  subst hp; subst hs
  intro r s1 he p en s m args below meth c D T ad A H locs ls C hP hD hS hl
  exact lv_lstore_n C.1 C.2.1 h hi hl.has hn rfl (fun ls1 h1 => (k r s1 he p en s m args below meth c D T ad A H locs ls1 C hP hD hS (lvh.set2 hL h1)))
theorem r_lstore {i : Nat} {x : Int64} {L1 : List Value} (h : decode bs pc = .ok (.lstore i, 2)) (hn : i + 1 < mL) (hL : oks i L = true) (hs : (L.set i (.long x)).set (i + 1) .null = L1) (hp : pc + 2 = pc1) (k : RC l wl own bs mL rt d pc1 L1 st s0 e) : RC l wl own bs mL rt d pc L (.long x :: st) s0 e := by
  subst hp; subst hs
  intro r s1 he p en s m args below meth c D T ad A H locs ls C hP hD hS hl
  exact lv_lstore C.1 C.2.1 h hl.has hn rfl (fun ls1 h1 => (k r s1 he p en s m args below meth c D T ad A H locs ls1 C hP hD hS (lvh.set2 hL h1)))
theorem r_iinc {i : Nat} {n : Int} {x y : Int32} {L1 : List Value} (h : decode bs pc = .ok (.iinc i n, 3)) (hl0 : L[i]? = some (.int x)) (hv : x + Int32.ofInt n = y) (hn : i < mL) (hL : oks i L = true) (hs : L.set i (.int y) = L1) (hp : pc + 3 = pc1) (k : RC l wl own bs mL rt d pc1 L1 st s0 e) : RC l wl own bs mL rt d pc L st s0 e := by
  subst hp; subst hs
  intro r s1 he p en s m args below meth c D T ad A H locs ls C hP hD hS hl
  exact lv_iinc (k := 0) C.1 C.2.1 h (hl.inc hl0) rfl hv hn rfl (fun ls1 h1 => (k r s1 he p en s m args below meth c D T ad A H locs ls1 C hP hD hS (lvh.inc2 hL h1)))
theorem r_if_eq {x : Int32} {off : Int} {tgt : Nat} {e1 e2 : Res} (h : decode bs pc = .ok (.ifCond .eq off, 3)) (ht : (pc : Int) + off = (tgt : Int)) (hp : pc + 3 = pc1) (kt : x = 0 → RC l wl own bs mL rt d tgt L st s0 e1) (kf : ¬ x = 0 → RC l wl own bs mL rt d pc1 L st s0 e2) : RC l wl own bs mL rt d pc L (.int x :: st) s0 (if x = 0 then e1 else e2) := by
  subst hp
  intro r s1 he p en s m args below meth c D T ad A H locs ls C hP hD hS hl
  refine lv_if_eq C.1 C.2.1 h ht (fun q => ?_) (fun q => ?_)
  · rw [if_pos q] at he
    exact kt q r s1 he p en s m args below meth c D T ad A H locs ls C hP hD hS hl
  · rw [if_neg q] at he
    exact kf q r s1 he p en s m args below meth c D T ad A H locs ls C hP hD hS hl
theorem r_icmp_eq {x y : Int32} {off : Int} {tgt : Nat} {e1 e2 : Res} (h : decode bs pc = .ok (.if_icmp .eq off, 3)) (ht : (pc : Int) + off = (tgt : Int)) (hp : pc + 3 = pc1) (kt : x = y → RC l wl own bs mL rt d tgt L st s0 e1) (kf : ¬ x = y → RC l wl own bs mL rt d pc1 L st s0 e2) : RC l wl own bs mL rt d pc L (.int y :: .int x :: st) s0 (if x = y then e1 else e2) := by
  subst hp
  intro r s1 he p en s m args below meth c D T ad A H locs ls C hP hD hS hl
  refine lv_icmp_eq C.1 C.2.1 h ht (fun q => ?_) (fun q => ?_)
  · rw [if_pos q] at he
    exact kt q r s1 he p en s m args below meth c D T ad A H locs ls C hP hD hS hl
  · rw [if_neg q] at he
    exact kf q r s1 he p en s m args below meth c D T ad A H locs ls C hP hD hS hl
theorem r_if_ne {x : Int32} {off : Int} {tgt : Nat} {e1 e2 : Res} (h : decode bs pc = .ok (.ifCond .ne off, 3)) (ht : (pc : Int) + off = (tgt : Int)) (hp : pc + 3 = pc1) (kf : x = 0 → RC l wl own bs mL rt d pc1 L st s0 e1) (kt : ¬ x = 0 → RC l wl own bs mL rt d tgt L st s0 e2) : RC l wl own bs mL rt d pc L (.int x :: st) s0 (if x = 0 then e1 else e2) := by
  subst hp
  intro r s1 he p en s m args below meth c D T ad A H locs ls C hP hD hS hl
  refine lv_if_ne C.1 C.2.1 h ht (fun q => ?_) (fun q => ?_)
  · rw [if_neg (by simpa using q)] at he
    exact kt (by simpa using q) r s1 he p en s m args below meth c D T ad A H locs ls C hP hD hS hl
  · rw [if_pos (by simpa using q)] at he
    exact kf (by simpa using q) r s1 he p en s m args below meth c D T ad A H locs ls C hP hD hS hl
theorem r_icmp_ne {x y : Int32} {off : Int} {tgt : Nat} {e1 e2 : Res} (h : decode bs pc = .ok (.if_icmp .ne off, 3)) (ht : (pc : Int) + off = (tgt : Int)) (hp : pc + 3 = pc1) (kf : x = y → RC l wl own bs mL rt d pc1 L st s0 e1) (kt : ¬ x = y → RC l wl own bs mL rt d tgt L st s0 e2) : RC l wl own bs mL rt d pc L (.int y :: .int x :: st) s0 (if x = y then e1 else e2) := by
  subst hp
  intro r s1 he p en s m args below meth c D T ad A H locs ls C hP hD hS hl
  refine lv_icmp_ne C.1 C.2.1 h ht (fun q => ?_) (fun q => ?_)
  · rw [if_neg (by simpa using q)] at he
    exact kt (by simpa using q) r s1 he p en s m args below meth c D T ad A H locs ls C hP hD hS hl
  · rw [if_pos (by simpa using q)] at he
    exact kf (by simpa using q) r s1 he p en s m args below meth c D T ad A H locs ls C hP hD hS hl
theorem r_if_lt {x : Int32} {off : Int} {tgt : Nat} {e1 e2 : Res} (h : decode bs pc = .ok (.ifCond .lt off, 3)) (ht : (pc : Int) + off = (tgt : Int)) (hp : pc + 3 = pc1) (kt : x < 0 → RC l wl own bs mL rt d tgt L st s0 e1) (kf : ¬ x < 0 → RC l wl own bs mL rt d pc1 L st s0 e2) : RC l wl own bs mL rt d pc L (.int x :: st) s0 (if x < 0 then e1 else e2) := by
  subst hp
  intro r s1 he p en s m args below meth c D T ad A H locs ls C hP hD hS hl
  refine lv_if_lt C.1 C.2.1 h ht (fun q => ?_) (fun q => ?_)
  · rw [if_pos q] at he
    exact kt q r s1 he p en s m args below meth c D T ad A H locs ls C hP hD hS hl
  · rw [if_neg q] at he
    exact kf q r s1 he p en s m args below meth c D T ad A H locs ls C hP hD hS hl
theorem r_icmp_lt {x y : Int32} {off : Int} {tgt : Nat} {e1 e2 : Res} (h : decode bs pc = .ok (.if_icmp .lt off, 3)) (ht : (pc : Int) + off = (tgt : Int)) (hp : pc + 3 = pc1) (kt : x < y → RC l wl own bs mL rt d tgt L st s0 e1) (kf : ¬ x < y → RC l wl own bs mL rt d pc1 L st s0 e2) : RC l wl own bs mL rt d pc L (.int y :: .int x :: st) s0 (if x < y then e1 else e2) := by
  subst hp
  intro r s1 he p en s m args below meth c D T ad A H locs ls C hP hD hS hl
  refine lv_icmp_lt C.1 C.2.1 h ht (fun q => ?_) (fun q => ?_)
  · rw [if_pos q] at he
    exact kt q r s1 he p en s m args below meth c D T ad A H locs ls C hP hD hS hl
  · rw [if_neg q] at he
    exact kf q r s1 he p en s m args below meth c D T ad A H locs ls C hP hD hS hl
theorem r_if_ge {x : Int32} {off : Int} {tgt : Nat} {e1 e2 : Res} (h : decode bs pc = .ok (.ifCond .ge off, 3)) (ht : (pc : Int) + off = (tgt : Int)) (hp : pc + 3 = pc1) (kt : 0 ≤ x → RC l wl own bs mL rt d tgt L st s0 e1) (kf : ¬ 0 ≤ x → RC l wl own bs mL rt d pc1 L st s0 e2) : RC l wl own bs mL rt d pc L (.int x :: st) s0 (if 0 ≤ x then e1 else e2) := by
  subst hp
  intro r s1 he p en s m args below meth c D T ad A H locs ls C hP hD hS hl
  refine lv_if_ge C.1 C.2.1 h ht (fun q => ?_) (fun q => ?_)
  · rw [if_pos q] at he
    exact kt q r s1 he p en s m args below meth c D T ad A H locs ls C hP hD hS hl
  · rw [if_neg q] at he
    exact kf q r s1 he p en s m args below meth c D T ad A H locs ls C hP hD hS hl
theorem r_icmp_ge {x y : Int32} {off : Int} {tgt : Nat} {e1 e2 : Res} (h : decode bs pc = .ok (.if_icmp .ge off, 3)) (ht : (pc : Int) + off = (tgt : Int)) (hp : pc + 3 = pc1) (kt : y ≤ x → RC l wl own bs mL rt d tgt L st s0 e1) (kf : ¬ y ≤ x → RC l wl own bs mL rt d pc1 L st s0 e2) : RC l wl own bs mL rt d pc L (.int y :: .int x :: st) s0 (if y ≤ x then e1 else e2) := by
  subst hp
  intro r s1 he p en s m args below meth c D T ad A H locs ls C hP hD hS hl
  refine lv_icmp_ge C.1 C.2.1 h ht (fun q => ?_) (fun q => ?_)
  · rw [if_pos q] at he
    exact kt q r s1 he p en s m args below meth c D T ad A H locs ls C hP hD hS hl
  · rw [if_neg q] at he
    exact kf q r s1 he p en s m args below meth c D T ad A H locs ls C hP hD hS hl
theorem r_if_gt {x : Int32} {off : Int} {tgt : Nat} {e1 e2 : Res} (h : decode bs pc = .ok (.ifCond .gt off, 3)) (ht : (pc : Int) + off = (tgt : Int)) (hp : pc + 3 = pc1) (kt : 0 < x → RC l wl own bs mL rt d tgt L st s0 e1) (kf : ¬ 0 < x → RC l wl own bs mL rt d pc1 L st s0 e2) : RC l wl own bs mL rt d pc L (.int x :: st) s0 (if 0 < x then e1 else e2) := by
  subst hp
  intro r s1 he p en s m args below meth c D T ad A H locs ls C hP hD hS hl
  refine lv_if_gt C.1 C.2.1 h ht (fun q => ?_) (fun q => ?_)
  · rw [if_pos q] at he
    exact kt q r s1 he p en s m args below meth c D T ad A H locs ls C hP hD hS hl
  · rw [if_neg q] at he
    exact kf q r s1 he p en s m args below meth c D T ad A H locs ls C hP hD hS hl
theorem r_icmp_gt {x y : Int32} {off : Int} {tgt : Nat} {e1 e2 : Res} (h : decode bs pc = .ok (.if_icmp .gt off, 3)) (ht : (pc : Int) + off = (tgt : Int)) (hp : pc + 3 = pc1) (kt : y < x → RC l wl own bs mL rt d tgt L st s0 e1) (kf : ¬ y < x → RC l wl own bs mL rt d pc1 L st s0 e2) : RC l wl own bs mL rt d pc L (.int y :: .int x :: st) s0 (if y < x then e1 else e2) := by
  subst hp
  intro r s1 he p en s m args below meth c D T ad A H locs ls C hP hD hS hl
  refine lv_icmp_gt C.1 C.2.1 h ht (fun q => ?_) (fun q => ?_)
  · rw [if_pos q] at he
    exact kt q r s1 he p en s m args below meth c D T ad A H locs ls C hP hD hS hl
  · rw [if_neg q] at he
    exact kf q r s1 he p en s m args below meth c D T ad A H locs ls C hP hD hS hl
theorem r_if_le {x : Int32} {off : Int} {tgt : Nat} {e1 e2 : Res} (h : decode bs pc = .ok (.ifCond .le off, 3)) (ht : (pc : Int) + off = (tgt : Int)) (hp : pc + 3 = pc1) (kt : x ≤ 0 → RC l wl own bs mL rt d tgt L st s0 e1) (kf : ¬ x ≤ 0 → RC l wl own bs mL rt d pc1 L st s0 e2) : RC l wl own bs mL rt d pc L (.int x :: st) s0 (if x ≤ 0 then e1 else e2) := by
  subst hp
  intro r s1 he p en s m args below meth c D T ad A H locs ls C hP hD hS hl
  refine lv_if_le C.1 C.2.1 h ht (fun q => ?_) (fun q => ?_)
  · rw [if_pos q] at he
    exact kt q r s1 he p en s m args below meth c D T ad A H locs ls C hP hD hS hl
  · rw [if_neg q] at he
    exact kf q r s1 he p en s m args below meth c D T ad A H locs ls C hP hD hS hl
theorem r_icmp_le {x y : Int32} {off : Int} {tgt : Nat} {e1 e2 : Res} (h : decode bs pc = .ok (.if_icmp .le off, 3)) (ht : (pc : Int) + off = (tgt : Int)) (hp : pc + 3 = pc1) (kt : x ≤ y → RC l wl own bs mL rt d tgt L st s0 e1) (kf : ¬ x ≤ y → RC l wl own bs mL rt d pc1 L st s0 e2) : RC l wl own bs mL rt d pc L (.int y :: .int x :: st) s0 (if x ≤ y then e1 else e2) := by
  subst hp
  intro r s1 he p en s m args below meth c D T ad A H locs ls C hP hD hS hl
  refine lv_icmp_le C.1 C.2.1 h ht (fun q => ?_) (fun q => ?_)
  · rw [if_pos q] at he
    exact kt q r s1 he p en s m args below meth c D T ad A H locs ls C hP hD hS hl
  · rw [if_neg q] at he
    exact kf q r s1 he p en s m args below meth c D T ad A H locs ls C hP hD hS hl
theorem r_goto {off : Int} {tgt : Nat} (h : decode bs pc = .ok (.goto off, 3)) (ht : (pc : Int) + off = (tgt : Int)) (k : RC l wl own bs mL rt d tgt L st s0 e) : RC l wl own bs mL rt d pc L st s0 e := by
  intro r s1 he p en s m args below meth c D T ad A H locs ls C hP hD hS hl
  exact lv_goto C.1 C.2.1 h ht (k r s1 he p en s m args below meth c D T ad A H locs ls C hP hD hS hl)
theorem r_none : RC l wl own bs mL rt d pc L st s0 none := by
  intro r s1 he
  cases he
theorem r_gd {g : Prop} [Decidable g] (k : g → RC l wl own bs mL rt d pc L st s0 e) : RC l wl own bs mL rt d pc L st s0 (gd g e) := by
  intro r s1 he
  by_cases hg : g
  · rw [gd, if_pos hg] at he
    exact k hg r s1 he
  · rw [gd, if_neg hg] at he
    cases he
theorem r_lt {x : Int32} {f : Int32 → Res} (k : ∀ y : Int32, RC l wl own bs mL rt d pc L (.int y :: st) s0 (f y)) : RC l wl own bs mL rt d pc L (.int x :: st) s0 (lt x f) := k x
theorem r_lts {f : SS → Res} (k : ∀ s2 : SS, RC l wl own bs mL rt d pc L st s2 (f s2)) : RC l wl own bs mL rt d pc L st s0 (lts s0 f) := k s0
theorem r_jn {α : Type} {j : α} {f : α → Res} {hyp : α → Prop} (hj : hyp j) (k : ∀ j : α, hyp j → RC l wl own bs mL rt d pc L st s0 (f j)) : RC l wl own bs mL rt d pc L st s0 (jn j f) := k j hj
end RCrows
/-- getfield idx in a method of own reads slot j of class ci -/
def GF (own : String) (idx ci j : Nat) : Prop := ∃ (C : String) (Tf : u_T) (N : Nat), vwCl[ci]? = some (C, Tf, N) ∧ j < N ∧ (∀ w ∈ u_ws C Tf N, w ∈ gw) ∧ (Tf j).1 = C ∧ (Cond.fieldLink own idx C (Tf j).2.1 (Tf j).2.2.1 ∈ gw ∨ ∃ host : String, Cond.fieldLinkNest own idx C (Tf j).2.1 (Tf j).2.2.1 host ∈ nestW)
/-- putfield idx, of type ty, not final -/
def PF (own : String) (idx ci j : Nat) (ty : FieldType) : Prop := ∃ (C : String) (Tf : u_T) (N : Nat) (ty0 : Nat → FieldType), vwCl[ci]? = some (C, Tf, N) ∧ j < N ∧ (∀ w ∈ u_ws C Tf N, w ∈ gw) ∧ (Tf j).1 = C ∧ (Cond.fieldLink own idx C (Tf j).2.1 (Tf j).2.2.1 ∈ gw ∨ ∃ host : String, Cond.fieldLinkNest own idx C (Tf j).2.1 (Tf j).2.2.1 host ∈ nestW) ∧ (∀ k, k < N → parseFieldDescriptor (Tf k).2.2.1 = some (ty0 k)) ∧ (∀ a, a < N → ∀ b, b < N → a ≠ b → (Tf a).2.1 ≠ (Tf b).2.1) ∧ (Tf j).2.2.2 = false ∧ ty0 j = ty
section RCrows
variable {l : Launch} {wl : WT} {own : String} {bs : ByteArray} {mL : Nat} {rt : Option FieldType} {d pc pc1 : Nat} {L st : List Value} {s0 : SS} {e : Res}

theorem r_getI {k0 ci j idx : Nat} {refs : List (Option Nat)} (hW : WI wl k0 (OE ci refs)) (G : GF own idx ci j) (hr : refs[j]? = some (none)) (h : decode bs pc = .ok (.getfield idx, 3)) (hp : pc + 3 = pc1) (k : RC l wl own bs mL rt d pc1 L (.int (s0 k0 j) :: st) s0 e) : RC l wl own bs mL rt d pc L (.ref k0 :: st) s0 e := by
  subst hp
  intro r s1 he p en s m args below meth c D T ad A H locs ls C hP hD hS hl
  obtain ⟨q, hg, -⟩ := hW
  obtain ⟨C0, Tf, N, g1, g2, g3, g4, g5⟩ := G
  have hv := objF_int ad (s0 k0) refs 0 j hr
  rcases g5 with g5 | ⟨host, g5⟩
  · exact va_get C.1 C.2.1 C.2.2.2.2.2.2.1 g3 C.2.2.2.2.2.1 C.2.2.2.2.2.2.2.1 hP q (hg T ad s0) g1 j g2 (C.2.2.2.2.2.2.1 _ g5) (fun x hx => by rw [g4] at hx; exact hx) hv h (by simpa [cv] using (k r s1 he p en s m args below meth c D T ad A H locs ls C hP hD hS hl))
  · exact va_getN C.1 C.2.1 C.2.2.2.2.2.2.1 g3 C.2.2.2.2.2.1 C.2.2.2.2.2.2.2.1 hP q (hg T ad s0) g1 j g2 (va_Nw.use rfl (C.2.2.2.2.2.2.2.2.2.2.2.2.2 _ g5)) (fun x hx => by rw [g4] at hx; exact hx) hv h (by simpa [cv] using (k r s1 he p en s m args below meth c D T ad A H locs ls C hP hD hS hl))
theorem r_getR {k0 ci j idx k1 : Nat} {refs : List (Option Nat)} (hW : WI wl k0 (OE ci refs)) (G : GF own idx ci j) (hr : refs[j]? = some (some k1)) (h : decode bs pc = .ok (.getfield idx, 3)) (hp : pc + 3 = pc1) (k : RC l wl own bs mL rt d pc1 L (.ref k1 :: st) s0 e) : RC l wl own bs mL rt d pc L (.ref k0 :: st) s0 e := by
  subst hp
  intro r s1 he p en s m args below meth c D T ad A H locs ls C hP hD hS hl
  obtain ⟨q, hg, -⟩ := hW
  obtain ⟨C0, Tf, N, g1, g2, g3, g4, g5⟩ := G
  have hv := objF_ref ad (s0 k0) refs 0 j k1 hr
  rcases g5 with g5 | ⟨host, g5⟩
  · exact va_get C.1 C.2.1 C.2.2.2.2.2.2.1 g3 C.2.2.2.2.2.1 C.2.2.2.2.2.2.2.1 hP q (hg T ad s0) g1 j g2 (C.2.2.2.2.2.2.1 _ g5) (fun x hx => by rw [g4] at hx; exact hx) hv h (k r s1 he p en s m args below meth c D T ad A H locs ls C hP hD hS hl)
  · exact va_getN C.1 C.2.1 C.2.2.2.2.2.2.1 g3 C.2.2.2.2.2.1 C.2.2.2.2.2.2.2.1 hP q (hg T ad s0) g1 j g2 (va_Nw.use rfl (C.2.2.2.2.2.2.2.2.2.2.2.2.2 _ g5)) (fun x hx => by rw [g4] at hx; exact hx) hv h (k r s1 he p en s m args below meth c D T ad A H locs ls C hP hD hS hl)
theorem r_putI {k0 ci j idx : Nat} {refs : List (Option Nat)} {ty : FieldType} {v : Int32} (hW : WI wl k0 (OE ci refs)) (G : PF own idx ci j ty) (hr : refs[j]? = some none) (hv : narrow ty (.int v) = .int v ∧ fits ty (.int v) = true) (h : decode bs pc = .ok (.putfield idx, 3)) (hp : pc + 3 = pc1) (k : RC l wl own bs mL rt d pc1 L st (up s0 k0 j v) e) : RC l wl own bs mL rt d pc L (.int v :: .ref k0 :: st) s0 e := by
  subst hp
  intro r s1 he p en s m args below meth c D T ad A H locs ls C hP hD hS hl
  obtain ⟨q, hg, hs⟩ := hW
  obtain ⟨C0, Tf, N, ty0, g1, g2, g3, g4, g5, g6, g7, g8, g9⟩ := G
  have hlen : j < (objF ad (s0 k0) 0 refs).length := by
    rw [objF_len]
    exact (List.getElem?_eq_some_iff.mp hr).1
  have hset := objF_set ad (s0 k0) v refs 0 j hr
  rw [Nat.zero_add] at hset
  have hws : (wl T ad s0).set q (ad k0, .inr (ci, (objF ad (s0 k0) 0 refs).set j (.int v))) = wl T ad (up s0 k0 j v) := by
    rw [hset]
    exact hs T ad s0 (upd (s0 k0) j v)
  have hd : parseFieldDescriptor (Tf j).2.2.1 = some ty := by rw [g6 j g2, g9]
  have kk : ∀ (H1 : Heap) (locs1 : List Loc), va_P D vwCl ((wl T ad s0).set q (ad k0, .inr (ci, (objF ad (s0 k0) 0 refs).set j (.int v)))) H1 → va_D A ((wl T ad s0).set q (ad k0, .inr (ci, (objF ad (s0 k0) 0 refs).set j (.int v)))) → va_S A s.heap H1 locs1 → W p l en (rmd d) s m args below meth c H1 locs1 0 0 (MQ below (Qo rt wl D T ad A r s1) args s 0 0 A) (F0 m (pc + 3) ls (st.map (cv ad))) := by
    intro H1 locs1 a1 a2 a3
    rw [hws] at a1 a2
    exact k r s1 he p en s m args below meth c D T ad A H1 locs1 ls C a1 a2 a3 hl
  rcases g5 with g5 | ⟨host, g5⟩
  · exact va_put C.1 C.2.1 C.2.2.2.2.2.2.1 g3 ty0 g6 g7 C.2.2.2.2.2.1 C.2.2.2.2.2.2.2.1 hP hD hS q (hg T ad s0) g1 j g2 (C.2.2.2.2.2.2.1 _ g5) (fun x hx => by rw [g4] at hx; exact hx) g8 hd hv.1 hv.2 hlen h kk
  · exact va_putN C.1 C.2.1 C.2.2.2.2.2.2.1 g3 ty0 g6 g7 C.2.2.2.2.2.1 C.2.2.2.2.2.2.2.1 hP hD hS q (hg T ad s0) g1 j g2 (va_Nw.use rfl (C.2.2.2.2.2.2.2.2.2.2.2.2.2 _ g5)) (fun x hx => by rw [g4] at hx; exact hx) g8 hd hv.1 hv.2 hlen h kk
theorem r_iald {k0 N : Nat} {i : Int32} (hW : WI wl k0 (AE 0 N)) (h : decode bs pc = .ok (.iaload, 1)) (hp : pc + 1 = pc1) (k : RC l wl own bs mL rt d pc1 L (.int (s0 k0 i.toNatClampNeg) :: st) s0 e) : RC l wl own bs mL rt d pc L (.int i :: .ref k0 :: st) s0 (gd (inb i N) e) := by
  subst hp
  intro r s1 he p en s m args below meth c D T ad A H locs ls C hP hD hS hl
  by_cases hg0 : inb i N
  case neg =>
    rw [gd, if_neg hg0] at he
    cases he
  rw [gd, if_pos hg0] at he
  obtain ⟨q, hg, -⟩ := hW
  exact va_iald C.1 C.2.1 C.2.2.2.2.2.2.2.1 hP q 0 (hg T ad s0) rfl (inb_in hg0) h (k r s1 he p en s m args below meth c D T ad A H locs ls C hP hD hS hl)
theorem r_bald {k0 N : Nat} {i : Int32} (hW : WI wl k0 (AE 1 N)) (h : decode bs pc = .ok (.baload, 1)) (hp : pc + 1 = pc1) (k : RC l wl own bs mL rt d pc1 L (.int (s0 k0 i.toNatClampNeg) :: st) s0 e) : RC l wl own bs mL rt d pc L (.int i :: .ref k0 :: st) s0 (gd (inb i N) e) := by
  subst hp
  intro r s1 he p en s m args below meth c D T ad A H locs ls C hP hD hS hl
  by_cases hg0 : inb i N
  case neg =>
    rw [gd, if_neg hg0] at he
    cases he
  rw [gd, if_pos hg0] at he
  obtain ⟨q, hg, -⟩ := hW
  exact va_bald C.1 C.2.1 C.2.2.2.2.2.2.2.1 hP q 1 (hg T ad s0) rfl (inb_in hg0) h (k r s1 he p en s m args below meth c D T ad A H locs ls C hP hD hS hl)
theorem r_zald {k0 N : Nat} {i : Int32} (hW : WI wl k0 (AE 2 N)) (h : decode bs pc = .ok (.baload, 1)) (hp : pc + 1 = pc1) (k : RC l wl own bs mL rt d pc1 L (.int (s0 k0 i.toNatClampNeg) :: st) s0 e) : RC l wl own bs mL rt d pc L (.int i :: .ref k0 :: st) s0 (gd (inb i N) e) := by
  subst hp
  intro r s1 he p en s m args below meth c D T ad A H locs ls C hP hD hS hl
  by_cases hg0 : inb i N
  case neg =>
    rw [gd, if_neg hg0] at he
    cases he
  rw [gd, if_pos hg0] at he
  obtain ⟨q, hg, -⟩ := hW
  exact va_zald C.1 C.2.1 C.2.2.2.2.2.2.2.1 hP q 2 (hg T ad s0) rfl (inb_in hg0) h (k r s1 he p en s m args below meth c D T ad A H locs ls C hP hD hS hl)
theorem r_lald {k0 N : Nat} {i : Int32} (hW : WI wl k0 (AEL 3 N)) (h : decode bs pc = .ok (.laload, 1)) (hp : pc + 1 = pc1) (k : RC l wl own bs mL rt d pc1 L (.long (lgt (s0 k0) i.toNatClampNeg) :: st) s0 e) : RC l wl own bs mL rt d pc L (.int i :: .ref k0 :: st) s0 (gd (inb i N) e) := by
  subst hp
  intro r s1 he p en s m args below meth c D T ad A H locs ls C hP hD hS hl
  by_cases hg0 : inb i N
  case neg =>
    rw [gd, if_neg hg0] at he
    cases he
  rw [gd, if_pos hg0] at he
  obtain ⟨q, hg, -⟩ := hW
  exact va_lald C.1 C.2.1 C.2.2.2.2.2.2.2.1 hP q 3 (hg T ad s0) rfl (inb_in hg0) h (k r s1 he p en s m args below meth c D T ad A H locs ls C hP hD hS hl)
theorem r_last {k0 N : Nat} {i : Int32} {x : Int64} (hW : WI wl k0 (AEL 3 N)) (h : decode bs pc = .ok (.lastore, 1)) (hp : pc + 1 = pc1) (k : RC l wl own bs mL rt d pc1 L st (upl s0 k0 i.toNatClampNeg x) e) : RC l wl own bs mL rt d pc L (.long x :: .int i :: .ref k0 :: st) s0 (gd (inb i N) e) := by
  subst hp
  intro r s1 he p en s m args below meth c D T ad A H locs ls C hP hD hS hl
  by_cases hg0 : inb i N
  case neg =>
    rw [gd, if_neg hg0] at he
    cases he
  rw [gd, if_pos hg0] at he
  obtain ⟨q, hg, hs⟩ := hW
  refine va_last C.1 C.2.1 C.2.2.2.2.2.2.2.1 hP hD hS q 3 (hg T ad s0) rfl (inb_in hg0) h (fun H1 locs1 a1 a2 a3 => ?_)
  have hws : (wl T ad s0).set q (ad k0, .inl (T 3, N, .inr (.inl (vp_updL (fun j => lgt (s0 k0) j) i.toNatClampNeg x)))) = wl T ad (upl s0 k0 i.toNatClampNeg x) := by
    rw [← lgt_upd]
    exact hs T ad s0 (lset (s0 k0) i.toNatClampNeg x)
  rw [hws] at a1 a2
  exact k r s1 he p en s m args below meth c D T ad A H1 locs1 ls C a1 a2 a3 hl
theorem r_iast {k0 N : Nat} {i x : Int32} (hW : WI wl k0 (AE 0 N)) (h : decode bs pc = .ok (.iastore, 1)) (hp : pc + 1 = pc1) (k : RC l wl own bs mL rt d pc1 L st (up s0 k0 i.toNatClampNeg x) e) : RC l wl own bs mL rt d pc L (.int x :: .int i :: .ref k0 :: st) s0 (gd (inb i N) e) := by
  subst hp
  intro r s1 he p en s m args below meth c D T ad A H locs ls C hP hD hS hl
  by_cases hg0 : inb i N
  case neg =>
    rw [gd, if_neg hg0] at he
    cases he
  rw [gd, if_pos hg0] at he
  obtain ⟨q, hg, hs⟩ := hW
  refine va_iast C.1 C.2.1 C.2.2.2.2.2.2.2.1 hP hD hS q 0 (hg T ad s0) rfl (inb_in hg0) h (fun H1 locs1 a1 a2 a3 => ?_)
  have hws : (wl T ad s0).set q (ad k0, .inl (T 0, N, .inl (upd (s0 k0) i.toNatClampNeg x))) = wl T ad (up s0 k0 i.toNatClampNeg x) := hs T ad s0 (upd (s0 k0) i.toNatClampNeg x)
  rw [hws] at a1 a2
  exact k r s1 he p en s m args below meth c D T ad A H1 locs1 ls C a1 a2 a3 hl
theorem r_bast {k0 N : Nat} {i x : Int32} (hW : WI wl k0 (AE 1 N)) (h : decode bs pc = .ok (.bastore, 1)) (hp : pc + 1 = pc1) (k : RC l wl own bs mL rt d pc1 L st (up s0 k0 i.toNatClampNeg (vp_nar .byte x)) e) : RC l wl own bs mL rt d pc L (.int x :: .int i :: .ref k0 :: st) s0 (gd (inb i N) e) := by
  subst hp
  intro r s1 he p en s m args below meth c D T ad A H locs ls C hP hD hS hl
  by_cases hg0 : inb i N
  case neg =>
    rw [gd, if_neg hg0] at he
    cases he
  rw [gd, if_pos hg0] at he
  obtain ⟨q, hg, hs⟩ := hW
  refine va_bast C.1 C.2.1 C.2.2.2.2.2.2.2.1 hP hD hS q 1 (hg T ad s0) rfl (inb_in hg0) h (fun H1 locs1 a1 a2 a3 => ?_)
  have hws : (wl T ad s0).set q (ad k0, .inl (T 1, N, .inl (upd (s0 k0) i.toNatClampNeg (vp_nar .byte x)))) = wl T ad (up s0 k0 i.toNatClampNeg (vp_nar .byte x)) := hs T ad s0 (upd (s0 k0) i.toNatClampNeg (vp_nar .byte x))
  rw [hws] at a1 a2
  exact k r s1 he p en s m args below meth c D T ad A H1 locs1 ls C a1 a2 a3 hl
theorem r_zast {k0 N : Nat} {i x : Int32} (hW : WI wl k0 (AE 2 N)) (h : decode bs pc = .ok (.bastore, 1)) (hp : pc + 1 = pc1) (k : RC l wl own bs mL rt d pc1 L st (up s0 k0 i.toNatClampNeg (vp_nar .boolean x)) e) : RC l wl own bs mL rt d pc L (.int x :: .int i :: .ref k0 :: st) s0 (gd (inb i N) e) := by
  subst hp
  intro r s1 he p en s m args below meth c D T ad A H locs ls C hP hD hS hl
  by_cases hg0 : inb i N
  case neg =>
    rw [gd, if_neg hg0] at he
    cases he
  rw [gd, if_pos hg0] at he
  obtain ⟨q, hg, hs⟩ := hW
  refine va_zast C.1 C.2.1 C.2.2.2.2.2.2.2.1 hP hD hS q 2 (hg T ad s0) rfl (inb_in hg0) h (fun H1 locs1 a1 a2 a3 => ?_)
  have hws : (wl T ad s0).set q (ad k0, .inl (T 2, N, .inl (upd (s0 k0) i.toNatClampNeg (vp_nar .boolean x)))) = wl T ad (up s0 k0 i.toNatClampNeg (vp_nar .boolean x)) := hs T ad s0 (upd (s0 k0) i.toNatClampNeg (vp_nar .boolean x))
  rw [hws] at a1 a2
  exact k r s1 he p en s m args below meth c D T ad A H1 locs1 ls C a1 a2 a3 hl
theorem r_alenL {k0 t N : Nat} {v : Int32} {ty : FieldType} (hW : WI wl k0 (AEL t N)) (ht : ∀ T : CT, (tysT T)[t]? = some (T t, ty)) (hv : Int32.ofNat N = v) (h : decode bs pc = .ok (.arraylength, 1)) (hp : pc + 1 = pc1) (k : RC l wl own bs mL rt d pc1 L (.int v :: st) s0 e) : RC l wl own bs mL rt d pc L (.ref k0 :: st) s0 e := by
  subst hp
  intro r s1 he p en s m args below meth c D T ad A H locs ls C hP hD hS hl
  obtain ⟨q, hg, -⟩ := hW
  exact va_alen C.1 C.2.1 C.2.2.2.2.2.2.2.1 hP q t (hg T ad s0) (ht T) hv h (k r s1 he p en s m args below meth c D T ad A H locs ls C hP hD hS hl)
theorem r_alen {k0 t N : Nat} {v : Int32} {ty : FieldType} (hW : WI wl k0 (AE t N)) (ht : ∀ T : CT, (tysT T)[t]? = some (T t, ty)) (hv : Int32.ofNat N = v) (h : decode bs pc = .ok (.arraylength, 1)) (hp : pc + 1 = pc1) (k : RC l wl own bs mL rt d pc1 L (.int v :: st) s0 e) : RC l wl own bs mL rt d pc L (.ref k0 :: st) s0 e := by
  subst hp
  intro r s1 he p en s m args below meth c D T ad A H locs ls C hP hD hS hl
  obtain ⟨q, hg, -⟩ := hW
  exact va_alen C.1 C.2.1 C.2.2.2.2.2.2.2.1 hP q t (hg T ad s0) (ht T) hv h (k r s1 he p en s m args below meth c D T ad A H locs ls C hP hD hS hl)
theorem r_bare {idx : Nat} (hc : Cond.fieldLink own idx "NineLaws$Rows" "BARE" "[I" ∈ gw) (h : decode bs pc = .ok (.getstatic idx, 3)) (hp : pc + 3 = pc1) (k : RC l wl own bs mL rt d pc1 L (.ref 1000 :: st) s0 e) : RC l wl own bs mL rt d pc L st s0 e := by
  subst hp
  intro r s1 he p en s m args below meth c D T ad A H locs ls C hP hD hS hl
  exact va_gets C.1 C.2.1 C.2.2.2.2.2.2.2.2.1 hS C.2.2.2.2.2.1 (C.2.2.2.2.2.2.1 _ hc) (fun _ hx => hx) h (k r s1 he p en s m args below meth c D T ad A H locs ls C hP hD hS hl)
theorem r_bareLd {i : Int32} (h : decode bs pc = .ok (.iaload, 1)) (hp : pc + 1 = pc1) (k : RC l wl own bs mL rt d pc1 L (.int (bareF i.toNatClampNeg) :: st) s0 e) : RC l wl own bs mL rt d pc L (.int i :: .ref 1000 :: st) s0 (gd (inb i 6) e) := by
  subst hp
  intro r s1 he p en s m args below meth c D T ad A H locs ls C hP hD hS hl
  by_cases hg0 : inb i 6
  case neg =>
    rw [gd, if_neg hg0] at he
    cases he
  rw [gd, if_pos hg0] at he
  exact va_ti C.1 C.2.1 C.2.2.2.2.2.2.2.2.2.1 hS (inb_in hg0) rfl h (k r s1 he p en s m args below meth c D T ad A H locs ls C hP hD hS hl)
theorem r_bareLen {v : Int32} (hv : Int32.ofNat 6 = v) (h : decode bs pc = .ok (.arraylength, 1)) (hp : pc + 1 = pc1) (k : RC l wl own bs mL rt d pc1 L (.int v :: st) s0 e) : RC l wl own bs mL rt d pc L (.ref 1000 :: st) s0 e := by
  subst hp
  intro r s1 he p en s m args below meth c D T ad A H locs ls C hP hD hS hl
  exact va_tlen C.1 C.2.1 C.2.2.2.2.2.2.2.2.2.1 hS hv h (k r s1 he p en s m args below meth c D T ad A H locs ls C hP hD hS hl)
theorem r_iret {ty : FieldType} {v : Int32} (hr : rt = some ty) (hv : narrow ty (.int v) = .int v) (h : decode bs pc = .ok (.ireturn, 1)) : RC l wl own bs mL rt d pc L [.int v] s0 (some (v, s0)) := by
  intro r s1 he p en s m args below meth c D T ad A H locs ls C hP hD hS hl
  cases he
  subst hr
  exact W.zret C.1 C.2.1 C.2.2.2.1 hv (fun t ht hW => ⟨⟨v, (), rfl, rfl, by rw [ht]; exact hP, va_K.moved hW.alike C.2.2.2.2.2.2.2.1, hD⟩, hS.F ht⟩) hS.2.2 h (hlocks := C.2.2.2.2.1)
theorem r_vret (hr : rt = none) (h : decode bs pc = .ok (.return_, 1)) : RC l wl own bs mL rt d pc L [] s0 (some (0, s0)) := by
  intro r s1 he p en s m args below meth c D T ad A H locs ls C hP hD hS hl
  cases he
  subst hr
  exact W.vret C.1 C.2.1 C.2.2.2.1 (fun t ht hW => ⟨⟨(), rfl, trivial, by rw [ht]; exact hP, va_K.moved hW.alike C.2.2.2.2.2.2.2.1, hD⟩, hS.F ht⟩) hS.2.2 h (hlocks := C.2.2.2.2.1)
end RCrows
section RCpure
variable {l : Launch} {wl : WT} {own : String} {bs : ByteArray} {mL : Nat} {rt : Option FieldType} {d pc pc1 : Nat} {L st : List Value} {s0 : SS} 

theorem p_if_eq {x : Int32} {off : Int} {tgt : Nat} {e1 e2 : Option Int32} (h : decode bs pc = .ok (.ifCond .eq off, 3)) (ht : (pc : Int) + off = (tgt : Int)) (hp : pc + 3 = pc1) (kt : x = 0 → RC l wl own bs mL rt d tgt L st s0 (pu e1 s0)) (kf : ¬ x = 0 → RC l wl own bs mL rt d pc1 L st s0 (pu e2 s0)) : RC l wl own bs mL rt d pc L (.int x :: st) s0 (pu (if x = 0 then e1 else e2) s0) := by
  rw [pu_ite]
  exact r_if_eq h ht hp kt kf
theorem p_icmp_eq {x y : Int32} {off : Int} {tgt : Nat} {e1 e2 : Option Int32} (h : decode bs pc = .ok (.if_icmp .eq off, 3)) (ht : (pc : Int) + off = (tgt : Int)) (hp : pc + 3 = pc1) (kt : x = y → RC l wl own bs mL rt d tgt L st s0 (pu e1 s0)) (kf : ¬ x = y → RC l wl own bs mL rt d pc1 L st s0 (pu e2 s0)) : RC l wl own bs mL rt d pc L (.int y :: .int x :: st) s0 (pu (if x = y then e1 else e2) s0) := by
  rw [pu_ite]
  exact r_icmp_eq h ht hp kt kf
theorem p_if_ne {x : Int32} {off : Int} {tgt : Nat} {e1 e2 : Option Int32} (h : decode bs pc = .ok (.ifCond .ne off, 3)) (ht : (pc : Int) + off = (tgt : Int)) (hp : pc + 3 = pc1) (kt : x = 0 → RC l wl own bs mL rt d pc1 L st s0 (pu e1 s0)) (kf : ¬ x = 0 → RC l wl own bs mL rt d tgt L st s0 (pu e2 s0)) : RC l wl own bs mL rt d pc L (.int x :: st) s0 (pu (if x = 0 then e1 else e2) s0) := by
  rw [pu_ite]
  exact r_if_ne h ht hp kt kf
theorem p_icmp_ne {x y : Int32} {off : Int} {tgt : Nat} {e1 e2 : Option Int32} (h : decode bs pc = .ok (.if_icmp .ne off, 3)) (ht : (pc : Int) + off = (tgt : Int)) (hp : pc + 3 = pc1) (kt : x = y → RC l wl own bs mL rt d pc1 L st s0 (pu e1 s0)) (kf : ¬ x = y → RC l wl own bs mL rt d tgt L st s0 (pu e2 s0)) : RC l wl own bs mL rt d pc L (.int y :: .int x :: st) s0 (pu (if x = y then e1 else e2) s0) := by
  rw [pu_ite]
  exact r_icmp_ne h ht hp kt kf
theorem p_if_lt {x : Int32} {off : Int} {tgt : Nat} {e1 e2 : Option Int32} (h : decode bs pc = .ok (.ifCond .lt off, 3)) (ht : (pc : Int) + off = (tgt : Int)) (hp : pc + 3 = pc1) (kt : x < 0 → RC l wl own bs mL rt d tgt L st s0 (pu e1 s0)) (kf : ¬ x < 0 → RC l wl own bs mL rt d pc1 L st s0 (pu e2 s0)) : RC l wl own bs mL rt d pc L (.int x :: st) s0 (pu (if x < 0 then e1 else e2) s0) := by
  rw [pu_ite]
  exact r_if_lt h ht hp kt kf
theorem p_icmp_lt {x y : Int32} {off : Int} {tgt : Nat} {e1 e2 : Option Int32} (h : decode bs pc = .ok (.if_icmp .lt off, 3)) (ht : (pc : Int) + off = (tgt : Int)) (hp : pc + 3 = pc1) (kt : x < y → RC l wl own bs mL rt d tgt L st s0 (pu e1 s0)) (kf : ¬ x < y → RC l wl own bs mL rt d pc1 L st s0 (pu e2 s0)) : RC l wl own bs mL rt d pc L (.int y :: .int x :: st) s0 (pu (if x < y then e1 else e2) s0) := by
  rw [pu_ite]
  exact r_icmp_lt h ht hp kt kf
theorem p_if_ge {x : Int32} {off : Int} {tgt : Nat} {e1 e2 : Option Int32} (h : decode bs pc = .ok (.ifCond .ge off, 3)) (ht : (pc : Int) + off = (tgt : Int)) (hp : pc + 3 = pc1) (kt : 0 ≤ x → RC l wl own bs mL rt d tgt L st s0 (pu e1 s0)) (kf : ¬ 0 ≤ x → RC l wl own bs mL rt d pc1 L st s0 (pu e2 s0)) : RC l wl own bs mL rt d pc L (.int x :: st) s0 (pu (if 0 ≤ x then e1 else e2) s0) := by
  rw [pu_ite]
  exact r_if_ge h ht hp kt kf
theorem p_icmp_ge {x y : Int32} {off : Int} {tgt : Nat} {e1 e2 : Option Int32} (h : decode bs pc = .ok (.if_icmp .ge off, 3)) (ht : (pc : Int) + off = (tgt : Int)) (hp : pc + 3 = pc1) (kt : y ≤ x → RC l wl own bs mL rt d tgt L st s0 (pu e1 s0)) (kf : ¬ y ≤ x → RC l wl own bs mL rt d pc1 L st s0 (pu e2 s0)) : RC l wl own bs mL rt d pc L (.int y :: .int x :: st) s0 (pu (if y ≤ x then e1 else e2) s0) := by
  rw [pu_ite]
  exact r_icmp_ge h ht hp kt kf
theorem p_if_gt {x : Int32} {off : Int} {tgt : Nat} {e1 e2 : Option Int32} (h : decode bs pc = .ok (.ifCond .gt off, 3)) (ht : (pc : Int) + off = (tgt : Int)) (hp : pc + 3 = pc1) (kt : 0 < x → RC l wl own bs mL rt d tgt L st s0 (pu e1 s0)) (kf : ¬ 0 < x → RC l wl own bs mL rt d pc1 L st s0 (pu e2 s0)) : RC l wl own bs mL rt d pc L (.int x :: st) s0 (pu (if 0 < x then e1 else e2) s0) := by
  rw [pu_ite]
  exact r_if_gt h ht hp kt kf
theorem p_icmp_gt {x y : Int32} {off : Int} {tgt : Nat} {e1 e2 : Option Int32} (h : decode bs pc = .ok (.if_icmp .gt off, 3)) (ht : (pc : Int) + off = (tgt : Int)) (hp : pc + 3 = pc1) (kt : y < x → RC l wl own bs mL rt d tgt L st s0 (pu e1 s0)) (kf : ¬ y < x → RC l wl own bs mL rt d pc1 L st s0 (pu e2 s0)) : RC l wl own bs mL rt d pc L (.int y :: .int x :: st) s0 (pu (if y < x then e1 else e2) s0) := by
  rw [pu_ite]
  exact r_icmp_gt h ht hp kt kf
theorem p_if_le {x : Int32} {off : Int} {tgt : Nat} {e1 e2 : Option Int32} (h : decode bs pc = .ok (.ifCond .le off, 3)) (ht : (pc : Int) + off = (tgt : Int)) (hp : pc + 3 = pc1) (kt : x ≤ 0 → RC l wl own bs mL rt d tgt L st s0 (pu e1 s0)) (kf : ¬ x ≤ 0 → RC l wl own bs mL rt d pc1 L st s0 (pu e2 s0)) : RC l wl own bs mL rt d pc L (.int x :: st) s0 (pu (if x ≤ 0 then e1 else e2) s0) := by
  rw [pu_ite]
  exact r_if_le h ht hp kt kf
theorem p_icmp_le {x y : Int32} {off : Int} {tgt : Nat} {e1 e2 : Option Int32} (h : decode bs pc = .ok (.if_icmp .le off, 3)) (ht : (pc : Int) + off = (tgt : Int)) (hp : pc + 3 = pc1) (kt : x ≤ y → RC l wl own bs mL rt d tgt L st s0 (pu e1 s0)) (kf : ¬ x ≤ y → RC l wl own bs mL rt d pc1 L st s0 (pu e2 s0)) : RC l wl own bs mL rt d pc L (.int y :: .int x :: st) s0 (pu (if x ≤ y then e1 else e2) s0) := by
  rw [pu_ite]
  exact r_icmp_le h ht hp kt kf
theorem p_none : RC l wl own bs mL rt d pc L st s0 (pu none s0) := r_none
theorem p_gd {g : Prop} [Decidable g] {e : Option Int32} (k : g → RC l wl own bs mL rt d pc L st s0 (pu e s0)) : RC l wl own bs mL rt d pc L st s0 (pu (gd g e) s0) := by
  rw [pu_gd]
  exact r_gd k
theorem p_lt {x : Int32} {f : Int32 → Option Int32} (k : ∀ y : Int32, RC l wl own bs mL rt d pc L (.int y :: st) s0 (pu (f y) s0)) : RC l wl own bs mL rt d pc L (.int x :: st) s0 (pu (lt x f) s0) := k x
theorem p_jn {α : Type} {j : α} {f : α → Option Int32} {hyp : α → Prop} (hj : hyp j) (k : ∀ j : α, hyp j → RC l wl own bs mL rt d pc L st s0 (pu (f j) s0)) : RC l wl own bs mL rt d pc L st s0 (pu (jn j f) s0) := k j hj
theorem p_iret {ty : FieldType} {v : Int32} (hr : rt = some ty) (hv : narrow ty (.int v) = .int v) (h : decode bs pc = .ok (.ireturn, 1)) : RC l wl own bs mL rt d pc L [.int v] s0 (pu (some v) s0) := r_iret hr hv h
theorem p_idiv {x y : Int32} {e : Option Int32} (h : decode bs pc = .ok (.idiv, 1)) (hp : pc + 1 = pc1) (k : RC l wl own bs mL rt d pc1 L (.int (x / y) :: st) s0 (pu e s0)) : RC l wl own bs mL rt d pc L (.int y :: .int x :: st) s0 (pu (gd (¬ y = 0) e) s0) := by
  rw [pu_gd]
  exact r_idiv h hp k
theorem p_irem {x y : Int32} {e : Option Int32} (h : decode bs pc = .ok (.irem, 1)) (hp : pc + 1 = pc1) (k : RC l wl own bs mL rt d pc1 L (.int (x - x / y * y) :: st) s0 (pu e s0)) : RC l wl own bs mL rt d pc L (.int y :: .int x :: st) s0 (pu (gd (¬ y = 0) e) s0) := by
  rw [pu_gd]
  exact r_irem h hp k
theorem p_lald {k0 N : Nat} {i : Int32} {e : Option Int32} (hW : WI wl k0 (AEL 3 N)) (h : decode bs pc = .ok (.laload, 1)) (hp : pc + 1 = pc1) (k : RC l wl own bs mL rt d pc1 L (.long (lgt (s0 k0) i.toNatClampNeg) :: st) s0 (pu e s0)) : RC l wl own bs mL rt d pc L (.int i :: .ref k0 :: st) s0 (pu (gd (inb i N) e) s0) := by
  rw [pu_gd]
  exact r_lald hW h hp k
theorem p_iald {k0 N : Nat} {i : Int32} {e : Option Int32} (hW : WI wl k0 (AE 0 N)) (h : decode bs pc = .ok (.iaload, 1)) (hp : pc + 1 = pc1) (k : RC l wl own bs mL rt d pc1 L (.int (s0 k0 i.toNatClampNeg) :: st) s0 (pu e s0)) : RC l wl own bs mL rt d pc L (.int i :: .ref k0 :: st) s0 (pu (gd (inb i N) e) s0) := by
  rw [pu_gd]
  exact r_iald hW h hp k
theorem p_bald {k0 N : Nat} {i : Int32} {e : Option Int32} (hW : WI wl k0 (AE 1 N)) (h : decode bs pc = .ok (.baload, 1)) (hp : pc + 1 = pc1) (k : RC l wl own bs mL rt d pc1 L (.int (s0 k0 i.toNatClampNeg) :: st) s0 (pu e s0)) : RC l wl own bs mL rt d pc L (.int i :: .ref k0 :: st) s0 (pu (gd (inb i N) e) s0) := by
  rw [pu_gd]
  exact r_bald hW h hp k
theorem p_zald {k0 N : Nat} {i : Int32} {e : Option Int32} (hW : WI wl k0 (AE 2 N)) (h : decode bs pc = .ok (.baload, 1)) (hp : pc + 1 = pc1) (k : RC l wl own bs mL rt d pc1 L (.int (s0 k0 i.toNatClampNeg) :: st) s0 (pu e s0)) : RC l wl own bs mL rt d pc L (.int i :: .ref k0 :: st) s0 (pu (gd (inb i N) e) s0) := by
  rw [pu_gd]
  exact r_zald hW h hp k
theorem p_bareLd {i : Int32} {e : Option Int32} (h : decode bs pc = .ok (.iaload, 1)) (hp : pc + 1 = pc1) (k : RC l wl own bs mL rt d pc1 L (.int (bareF i.toNatClampNeg) :: st) s0 (pu e s0)) : RC l wl own bs mL rt d pc L (.int i :: .ref 1000 :: st) s0 (pu (gd (inb i 6) e) s0) := by
  rw [pu_gd]
  exact r_bareLd h hp k
end RCpure
/-- fewer locals -/
def SubL : List Value → List Value → Prop
  | [], _ => True
  | _ :: _, [] => False
  | v2 :: r2, v :: r => (v2 = .null ∨ v2 = v) ∧ SubL r2 r
theorem SubL.at : ∀ {L2 L : List Value} (i : Nat) (v : Value), SubL L2 L → L2[i]? = some v → v ≠ .null → L[i]? = some v := by
  intro L2
  induction L2 with
  | nil => intro L i v h h1; simp at h1
  | cons v2 r2 ih =>
    intro L i v h h1 h2
    cases L with
    | nil => exact h.elim
    | cons w r =>
      cases i with
      | zero =>
        simp at h1
        subst h1
        rcases h.1 with e | e
        · exact absurd e h2
        · rw [e]; rfl
      | succ i => simpa using ih i v h.2 (by simpa using h1) h2
theorem r_wk {l : Launch} {wl : WT} {own : String} {bs : ByteArray} {mL : Nat} {rt : Option FieldType} {d pc : Nat} {L L2 st : List Value} {s0 : SS} {e : Res} (k : RC l wl own bs mL rt d pc L2 st s0 e) (h : SubL L2 L) : RC l wl own bs mL rt d pc L st s0 e := by
  intro r s1 he p en s m args below meth c D T ad A H locs ls C hP hD hS hl
  exact k r s1 he p en s m args below meth c D T ad A H locs ls C hP hD hS ⟨hl.1, hl.2.1, fun i v h1 h2 => hl.2.2 i v (h.at i v h1 h2) h2⟩
theorem zb_ok {v : Int32} (h : v = 0 ∨ v = 1) : narrow .boolean (.int v) = .int v ∧ fits .boolean (.int v) = true := by
  rcases h with rfl | rfl <;> exact ⟨rfl, rfl⟩

