/-! the law's own body: its plain instructions -/
variable {l : Launch} {p : Program} {en : Env} {s : State} {m : MethodId} {args : Array Value} {below : List Frame} {meth : Method} {c : Code} {D : va_G} {T : CT} {ad : AD} {A : Nat → Prop} {Cn Sn : Nat} {Q : State → Prop} {pc : Nat} {L st : List Value} {s0 : SS} {rt : Option FieldType}
theorem k_iload_n {k0 : Fin 4} {i : Nat} {x : Int32} (C : CX "NineLawsLaw" code 4 rt p s m args meth c D T ad A) (h : decode code pc = .ok (.iload_n k0, 1)) (hi : (k0 : Nat) = i) (hl0 : L[i]? = some (.int x)) (k : LCW l p en s m args below meth c D T ad A Cn Sn Q (pc + 1) L (.int x :: st) s0) : LCW l p en s m args below meth c D T ad A Cn Sn Q pc L st s0 := by
  intro H locs ls hP hD hS hl
  exact lv_iload_n C.1 C.2.1 h hi (hl.get hl0 (by intro z; cases z)) (k H locs ls hP hD hS hl)
theorem k_aload_n {k0 : Fin 4} {i x : Nat} (C : CX "NineLawsLaw" code 4 rt p s m args meth c D T ad A) (h : decode code pc = .ok (.aload_n k0, 1)) (hi : (k0 : Nat) = i) (hl0 : L[i]? = some (.ref x)) (k : LCW l p en s m args below meth c D T ad A Cn Sn Q (pc + 1) L (.ref x :: st) s0) : LCW l p en s m args below meth c D T ad A Cn Sn Q pc L st s0 := by
  intro H locs ls hP hD hS hl
  exact lv_aload_n C.1 C.2.1 h hi (hl.get hl0 (by intro z; cases z)) (k H locs ls hP hD hS hl)
theorem k_iconst {n : Int} {v : Int32} (C : CX "NineLawsLaw" code 4 rt p s m args meth c D T ad A) (h : decode code pc = .ok (.iconst n, 1)) (hv : Int32.ofInt n = v) (k : LCW l p en s m args below meth c D T ad A Cn Sn Q (pc + 1) L (.int v :: st) s0) : LCW l p en s m args below meth c D T ad A Cn Sn Q pc L st s0 := by
  intro H locs ls hP hD hS hl
  exact lv_iconst C.1 C.2.1 h hv (k H locs ls hP hD hS hl)
theorem k_bipush {n : Int} {v : Int32} (C : CX "NineLawsLaw" code 4 rt p s m args meth c D T ad A) (h : decode code pc = .ok (.bipush n, 2)) (hv : (Int8.ofInt n).toInt32 = v) (k : LCW l p en s m args below meth c D T ad A Cn Sn Q (pc + 2) L (.int v :: st) s0) : LCW l p en s m args below meth c D T ad A Cn Sn Q pc L st s0 := by
  intro H locs ls hP hD hS hl
  exact lv_bipush C.1 C.2.1 h hv (k H locs ls hP hD hS hl)
theorem k_iadd {x y : Int32} (C : CX "NineLawsLaw" code 4 rt p s m args meth c D T ad A) (h : decode code pc = .ok (.iadd, 1)) (k : LCW l p en s m args below meth c D T ad A Cn Sn Q (pc + 1) L (.int (x + y) :: st) s0) : LCW l p en s m args below meth c D T ad A Cn Sn Q pc L (.int y :: .int x :: st) s0 := by
  intro H locs ls hP hD hS hl
  exact lv_iadd C.1 C.2.1 h (k H locs ls hP hD hS hl)
theorem k_isub {x y : Int32} (C : CX "NineLawsLaw" code 4 rt p s m args meth c D T ad A) (h : decode code pc = .ok (.isub, 1)) (k : LCW l p en s m args below meth c D T ad A Cn Sn Q (pc + 1) L (.int (x - y) :: st) s0) : LCW l p en s m args below meth c D T ad A Cn Sn Q pc L (.int y :: .int x :: st) s0 := by
  intro H locs ls hP hD hS hl
  exact lv_isub C.1 C.2.1 h (k H locs ls hP hD hS hl)
theorem k_iand {x y : Int32} (C : CX "NineLawsLaw" code 4 rt p s m args meth c D T ad A) (h : decode code pc = .ok (.iand, 1)) (k : LCW l p en s m args below meth c D T ad A Cn Sn Q (pc + 1) L (.int (x &&& y) :: st) s0) : LCW l p en s m args below meth c D T ad A Cn Sn Q pc L (.int y :: .int x :: st) s0 := by
  intro H locs ls hP hD hS hl
  exact lv_iand C.1 C.2.1 h (k H locs ls hP hD hS hl)
theorem k_goto {off : Int} {tgt : Nat} (C : CX "NineLawsLaw" code 4 rt p s m args meth c D T ad A) (h : decode code pc = .ok (.goto off, 3)) (ht : (pc : Int) + off = (tgt : Int)) (k : LCW l p en s m args below meth c D T ad A Cn Sn Q tgt L st s0) : LCW l p en s m args below meth c D T ad A Cn Sn Q pc L st s0 := by
  intro H locs ls hP hD hS hl
  exact lv_goto C.1 C.2.1 h ht (k H locs ls hP hD hS hl)
theorem k_icmp_gt {x y : Int32} {off : Int} {tgt : Nat} (C : CX "NineLawsLaw" code 4 rt p s m args meth c D T ad A) (h : decode code pc = .ok (.if_icmp .gt off, 3)) (ht : (pc : Int) + off = (tgt : Int)) (kt : y < x → LCW l p en s m args below meth c D T ad A Cn Sn Q tgt L st s0) (kf : ¬ y < x → LCW l p en s m args below meth c D T ad A Cn Sn Q (pc + 3) L st s0) : LCW l p en s m args below meth c D T ad A Cn Sn Q pc L (.int y :: .int x :: st) s0 := by
  intro H locs ls hP hD hS hl
  exact lv_icmp_gt C.1 C.2.1 h ht (fun q => kt q H locs ls hP hD hS hl) (fun q => kf q H locs ls hP hD hS hl)
/-- both answered alike -/
theorem k_icmp_same {x : Int32} {off : Int} {tgt : Nat} (C : CX "NineLawsLaw" code 4 rt p s m args meth c D T ad A) (h : decode code pc = .ok (.if_icmp .eq off, 3)) (ht : (pc : Int) + off = (tgt : Int)) (kt : LCW l p en s m args below meth c D T ad A Cn Sn Q tgt L st s0) : LCW l p en s m args below meth c D T ad A Cn Sn Q pc L (.int x :: .int x :: st) s0 := by
  intro H locs ls hP hD hS hl
  exact lv_icmp_eq C.1 C.2.1 h ht (fun _ => kt H locs ls hP hD hS hl) (fun q => absurd rfl q)
theorem k_iinc {i : Nat} {n : Int} {x y : Int32} {L1 : List Value} (C : CX "NineLawsLaw" code 4 rt p s m args meth c D T ad A) (h : decode code pc = .ok (.iinc i n, 3)) (hl0 : L[i]? = some (.int x)) (hv : x + Int32.ofInt n = y) (hn : i < 4) (hL : oks i L = true) (hs : L.set i (.int y) = L1) (k : LCW l p en s m args below meth c D T ad A Cn Sn Q (pc + 3) L1 st s0) : LCW l p en s m args below meth c D T ad A Cn Sn Q pc L st s0 := by
  subst hs
  intro H locs ls hP hD hS hl
  exact lv_iinc (k := 0) C.1 C.2.1 h (hl.inc hl0) rfl hv hn rfl (fun ls1 h1 => (k H locs ls1 hP hD hS (lvh.inc2 hL h1)))
theorem k_istore_n {k0 : Fin 4} {i : Nat} {x : Int32} {L1 : List Value} (C : CX "NineLawsLaw" code 4 rt p s m args meth c D T ad A) (h : decode code pc = .ok (.istore_n k0, 1)) (hi : (k0 : Nat) = i) (hn : i < 4) (hL : oks i L = true) (hs : L.set i (.int x) = L1) (k : LCW l p en s m args below meth c D T ad A Cn Sn Q (pc + 1) L1 st s0) : LCW l p en s m args below meth c D T ad A Cn Sn Q pc L (.int x :: st) s0 := by
  subst hs
  intro H locs ls hP hD hS hl
  exact lv_istore_n C.1 C.2.1 h hi hl.has hn rfl (fun ls1 h1 => (k H locs ls1 hP hD hS (lvh.set hL h1)))
