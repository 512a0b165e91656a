/-! constructors: the world is a list that grows; the relation, its rows -/
theorem SX.narrow {ad : AD} {A B : Nat → Prop} {U : State} {H : Heap} (h : SX ad A U H) (hAB : ∀ q, B q → A q) : SX ad B U H := by
  obtain ⟨h1, h2, h3, h4, h5, h6⟩ := h
  exact ⟨h1.narrow hAB, h2.narrow hAB, h3.narrow hAB, h4, h5.narrow hAB, h6⟩
theorem SX.cong {ad ad2 : AD} {A : Nat → Prop} {U : State} {H : Heap} (h : SX ad A U H) (e0 : ad2 1000 = ad 1000) (e1 : ad2 1001 = ad 1001) (e2 : ad2 1002 = ad 1002) : SX ad2 A U H := by
  unfold SX at h ⊢
  rw [e0, e1, e2]
  exact h
def idA : AD := fun k => k
/-- from this place, these cells -/
def NW (l : Launch) (p : Program) (en : Env) (R : Room) (s : State) (m : MethodId) (args : Array Value) (below : List Frame) (meth : Method) (c : Code) (D : va_G) (A : Nat → Prop) (mL Cn Sn : Nat) (Q : State → Prop) (pc : Nat) (L st : List Value) (ws : va_W) : Prop :=
  ∀ (H : Heap) (locs : List Loc) (ls : Array Slot), va_P D vwCl ws H → va_D A ws → va_S A s.heap H locs → lvh ls mL idA L → W p l en R s m args below meth c H locs Cn Sn Q (F0 m pc ls st)
/-- what a constructor leaves behind: its cells, at addresses u.1, with what u.2 says of them -/
def QN (Pq : SS → Prop) (B : AD → SS → CT → va_W) (D : va_G) (T : CT) (A : Nat → Prop) : Array Value → State → Outcome → State → Prop := va_Qv (fun u : AD × SS => Pq u.2) (fun u t => va_P D vwCl (B u.1 u.2 T) t.heap ∧ va_K D vwCl (tysT T) t ∧ va_D A (B u.1 u.2 T)) A
def PN (As : List Value) (w0 : va_W) (sz : Nat) (D : va_G) (T : CT) (ad : AD) (A : Nat → Prop) : Array Value → State → Prop := va_Pc As (fun U => U.heap.size = sz ∧ va_P D vwCl w0 U.heap ∧ va_K D vwCl (tysT T) U ∧ va_D A w0 ∧ SX ad A U U.heap)
/-- a constructor's contract -/
def CI (l : Launch) (y : MethodName) (bs : ByteArray) (mL : Nat) (rm : Room) (As : List Value) (w0 : va_W) (Pq : SS → Prop) (B : AD → SS → CT → va_W) : Prop :=
  ∀ (D : va_G) (T : CT) (ad : AD) (A : Nat → Prop) (sz : Nat), (∀ q, sz ≤ q → A q) → Met l y (.code y bs mL none :: gw) rm (PN As w0 sz D T ad A) (QN Pq B D T A) rm.cells rm.slots A
theorem cv_id (v : Value) : cv idA v = v := by cases v <;> rfl
theorem ci_of {l : Launch} {y : MethodName} {bs : ByteArray} {mL : Nat} {rm : Room} {As : List Value} {w0 : va_W} {Pq : SS → Prop} {B : AD → SS → CT → va_W} (hy : plainName y.cls = true) (hini : y.name = "<init>") (hA : (ent As).length ≤ mL)
    (h : ∀ (p : Program) (en : Env) (s : State) (m : MethodId) (args : Array Value) (below : List Frame) (meth : Method) (c : Code) (D : va_G) (T : CT) (ad : AD) (A : Nat → Prop), CX y.cls bs mL none p s m args meth c D T ad A → meth.name = "<init>" → (∀ q, s.heap.size ≤ q → A q) → NW l p en rm s m args below meth c D A mL 0 0 (MQ below (QN Pq B D T A) args s rm.cells rm.slots A) 0 (ent As) [] w0) : CI l y bs mL rm As w0 Pq B := by
  intro D T ad A sz hsz
  refine Met.ofW (cc := bs) (maxL := mL) (ret := none) hy rfl ?_
  intro p en s m args below meth c s₁ B hml hv
  obtain ⟨rfl, rfl, hP, hK, hD, hX⟩ := hv
  have hts := atoms_spec (ws := .code y bs mL none :: gw) B.pre
  have hown : s.vm.findClass y.cls = some m.cls := findClass_of_methodNamed B.named
  have hin : meth.name = y.name := (name_of_methodNamed B.named B.method).1
  have hl := lv_entry As (n := mL) (by have := entL As idA; rw [List.map_congr_left (fun v _ => cv_id v), List.map_id'] at this; rw [this]; exact hA)
  rw [lg_entry_eq]
  refine h p en s m _ below meth c D T ad A ⟨B.exec, B.bytes, hml, B.returns, B.notSynchronized, hown, fun w hw => hts w (List.mem_cons_of_mem _ hw), hK, hX⟩ (hin.trans hini) hsz s.heap [] _ hP hD va_S.rf ⟨hl.1, hl.2.1, fun i v h1 h2 => ?_⟩
  have h3 := lv_args_ent idA As 0 i v h1 h2
  rw [List.map_congr_left (fun v _ => cv_id v), List.map_id'] at h3
  have h4 := hl.2.2 (0 + i, cv idA v) h3
  rw [Nat.zero_add] at h4
  exact h4
section NWrows
variable {l : Launch} {p : Program} {en : Env} {R : Room} {s : State} {m : MethodId} {args : Array Value} {below : List Frame} {meth : Method} {c : Code} {D : va_G} {T : CT} {ad : AD} {A : Nat → Prop} {Cn Sn : Nat} {Q : State → Prop} {pc mL : Nat} {L st : List Value} {ws : va_W} {rt : Option FieldType} {own : String} {bs : ByteArray}
theorem n_aload_n {k0 : Fin 4} {i x : Nat} (C : CX own bs mL rt p s m args meth c D T ad A) (h : decode bs pc = .ok (.aload_n k0, 1)) (hi : (k0 : Nat) = i) (hl0 : L[i]? = some (.ref x)) (k : NW l p en R s m args below meth c D A mL Cn Sn Q (pc + 1) L (.ref x :: st) ws) : NW l p en R s m args below meth c D A mL Cn Sn Q pc L st ws := by
  intro H locs ls hP hD hS hl
  exact lv_aload_n C.1 C.2.1 h hi (hl.get hl0 (by intro z; cases z)) (k H locs ls hP hD hS hl)
theorem n_iload_n {k0 : Fin 4} {i : Nat} {x : Int32} (C : CX own bs mL rt p s m args meth c D T ad A) (h : decode bs pc = .ok (.iload_n k0, 1)) (hi : (k0 : Nat) = i) (hl0 : L[i]? = some (.int x)) (k : NW l p en R s m args below meth c D A mL Cn Sn Q (pc + 1) L (.int x :: st) ws) : NW l p en R s m args below meth c D A mL Cn Sn Q pc L st ws := by
  intro H locs ls hP hD hS hl
  exact lv_iload_n C.1 C.2.1 h hi (hl.get hl0 (by intro z; cases z)) (k H locs ls hP hD hS hl)
theorem n_iconst {n : Int} {v : Int32} (C : CX own bs mL rt p s m args meth c D T ad A) (h : decode bs pc = .ok (.iconst n, 1)) (hv : Int32.ofInt n = v) (k : NW l p en R s m args below meth c D A mL Cn Sn Q (pc + 1) L (.int v :: st) ws) : NW l p en R s m args below meth c D A mL Cn Sn Q pc L st ws := by
  intro H locs ls hP hD hS hl
  exact lv_iconst C.1 C.2.1 h hv (k H locs ls hP hD hS hl)
theorem n_bipush {n : Int} {v : Int32} (C : CX own bs mL rt p s m args meth c D T ad A) (h : decode bs pc = .ok (.bipush n, 2)) (hv : (Int8.ofInt n).toInt32 = v) (k : NW l p en R s m args below meth c D A mL Cn Sn Q (pc + 2) L (.int v :: st) ws) : NW l p en R s m args below meth c D A mL Cn Sn Q pc L st ws := by
  intro H locs ls hP hD hS hl
  exact lv_bipush C.1 C.2.1 h hv (k H locs ls hP hD hS hl)
theorem n_sipush {n : Int} {v : Int32} (C : CX own bs mL rt p s m args meth c D T ad A) (h : decode bs pc = .ok (.sipush n, 3)) (hv : (Int16.ofInt n).toInt32 = v) (k : NW l p en R s m args below meth c D A mL Cn Sn Q (pc + 3) L (.int v :: st) ws) : NW l p en R s m args below meth c D A mL Cn Sn Q pc L st ws := by
  intro H locs ls hP hD hS hl
  exact lv_sipush C.1 C.2.1 h hv (k H locs ls hP hD hS hl)
theorem n_ldc {i : Nat} {v : Int32} (C : CX own bs mL rt p s m args meth c D T ad A) (h : decode bs pc = .ok (.ldc i, 2)) (hc : Cond.constant own i v ∈ gw) (k : NW l p en R s m args below meth c D A mL Cn Sn Q (pc + 2) L (.int v :: st) ws) : NW l p en R s m args below meth c D A mL Cn Sn Q pc L st ws := by
  intro H locs ls hP hD hS hl
  exact lv_ldc C.1 C.2.1 C.2.2.2.2.2.1 (C.2.2.2.2.2.2.1 _ hc) h (k H locs ls hP hD hS hl)
theorem n_dup {v : Value} (C : CX own bs mL rt p s m args meth c D T ad A) (h : decode bs pc = .ok (.dup, 1)) (hv : v.category = 1) (k : NW l p en R s m args below meth c D A mL Cn Sn Q (pc + 1) L (v :: v :: st) ws) : NW l p en R s m args below meth c D A mL Cn Sn Q pc L (v :: st) ws := by
  intro H locs ls hP hD hS hl
  exact lv_dup C.1 C.2.1 h hv (k H locs ls hP hD hS hl)
theorem n_goto {off : Int} {tgt : Nat} (C : CX own bs mL rt p s m args meth c D T ad A) (h : decode bs pc = .ok (.goto off, 3)) (ht : (pc : Int) + off = (tgt : Int)) (k : NW l p en R s m args below meth c D A mL Cn Sn Q tgt L st ws) : NW l p en R s m args below meth c D A mL Cn Sn Q pc L st ws := by
  intro H locs ls hP hD hS hl
  exact lv_goto C.1 C.2.1 h ht (k H locs ls hP hD hS hl)
theorem n_icmp_gt {x y : Int32} {off : Int} {tgt : Nat} (C : CX own bs mL rt p s m args meth c D T ad A) (h : decode bs pc = .ok (.if_icmp .gt off, 3)) (ht : (pc : Int) + off = (tgt : Int)) (kt : y < x → NW l p en R s m args below meth c D A mL Cn Sn Q tgt L st ws) (kf : ¬ y < x → NW l p en R s m args below meth c D A mL Cn Sn Q (pc + 3) L st ws) : NW l p en R s m args below meth c D A mL Cn Sn Q pc L (.int y :: .int x :: st) ws := by
  intro H locs ls hP hD hS hl
  exact lv_icmp_gt C.1 C.2.1 h ht (fun q => kt q H locs ls hP hD hS hl) (fun q => kf q H locs ls hP hD hS hl)
theorem n_iinc {i : Nat} {n : Int} {x y : Int32} {L1 : List Value} (C : CX own bs mL rt p s m args meth c D T ad A) (h : decode bs pc = .ok (.iinc i n, 3)) (hl0 : L[i]? = some (.int x)) (hv : x + Int32.ofInt n = y) (hn : i < mL) (hL : oks i L = true) (hs : L.set i (.int y) = L1) (k : NW l p en R s m args below meth c D A mL Cn Sn Q (pc + 3) L1 st ws) : NW l p en R s m args below meth c D A mL Cn Sn Q pc L st ws := by
  subst hs
  intro H locs ls hP hD hS hl
  exact lv_iinc (k := 0) C.1 C.2.1 h (hl.inc hl0) rfl hv hn rfl (fun ls1 h1 => (k H locs ls1 hP hD hS (lvh.inc2 hL h1)))
theorem n_istore_n {k0 : Fin 4} {i : Nat} {x : Int32} {L1 : List Value} (C : CX own bs mL rt p s m args meth c D T ad A) (h : decode bs pc = .ok (.istore_n k0, 1)) (hi : (k0 : Nat) = i) (hn : i < mL) (hL : oks i L = true) (hs : L.set i (.int x) = L1) (k : NW l p en R s m args below meth c D A mL Cn Sn Q (pc + 1) L1 st ws) : NW l p en R s m args below meth c D A mL Cn Sn Q pc L (.int x :: st) ws := by
  subst hs
  intro H locs ls hP hD hS hl
  exact lv_istore_n C.1 C.2.1 h hi hl.has hn rfl (fun ls1 h1 => (k H locs ls1 hP hD hS (lvh.set hL h1)))
theorem n_astore_n {k0 : Fin 4} {i x : Nat} {L1 : List Value} (C : CX own bs mL rt p s m args meth c D T ad A) (h : decode bs pc = .ok (.astore_n k0, 1)) (hi : (k0 : Nat) = i) (hn : i < mL) (hL : oks i L = true) (hs : L.set i (.ref x) = L1) (k : NW l p en R s m args below meth c D A mL Cn Sn Q (pc + 1) L1 st ws) : NW l p en R s m args below meth c D A mL Cn Sn Q pc L (.ref x :: st) ws := by
  subst hs
  intro H locs ls hP hD hS hl
  exact lv_astore_n C.1 C.2.1 h hi hl.has hn rfl (fun ls1 h1 => (k H locs ls1 hP hD hS (lvh.set hL h1)))
/-- Object's constructor -/
theorem n_obj {idx x : Nat} (C : CX own bs mL rt p s m args meth c D T ad A) (h1 : Cond.methodLink own idx objectInit ∈ gw) (h2 : Cond.instanceMethod objectInit ∈ gw) (h3 : Cond.code objectInit ⟨#[0xb1]⟩ 1 none ∈ gw) (hf : 1 ≤ R.frames) (hlo : 12 ≤ R.locals) (h : decode bs pc = .ok (.invokespecial idx, 3)) (k : NW l p en R s m args below meth c D A mL Cn Sn Q (pc + 3) L [] ws) : NW l p en R s m args below meth c D A mL Cn Sn Q pc L [.ref x] ws := by
  intro H locs ls hP hD hS hl
  exact W.objInit C.1 C.2.1 C.2.2.2.2.2.1 (C.2.2.2.2.2.2.1 _ h1) (C.2.2.2.2.2.2.1 _ h2) (C.2.2.2.2.2.2.1 _ h3) rfl (by rw [C.2.2.1]; exact hl.1) rfl h hf hlo (k H locs ls hP hD hS hl)
theorem n_newa {ty : FieldType} {t N Cm Sm : Nat} {atype : ArrayType} {nn : Int32} (C : CX own bs mL rt p s m args meth c D T ad A) (hA : ∀ q, s.heap.size ≤ q → A q) (hw : Cond.arrayClass (newarray.typeOf atype) ∈ gw) (hty : newarray.typeOf atype = ty) (ht : ∀ T : CT, (tysT T)[t]? = some (T t, ty)) (hra : ∀ (U : State) (cA : ClassId), va_RA U cA ty → U.vm.findClass ("[" ++ ty.toString) = some cA) (hdv : defaultValue ty = .int 0) (h : decode bs pc = .ok (.newarray atype, 2)) (hn : ¬ nn < 0) (hN : nn.toNatClampNeg = N) (hby : N * componentBytes ty ≤ 536870912) (hc : Cn + 1 = Cm) (hs : Sn + N = Sm) (hR : Cm ≤ R.cells ∧ Sm ≤ R.slots) (k : ∀ q : Nat, NW l p en R s m args below meth c D A mL Cm Sm Q (pc + 2) L (.ref q :: st) (ws ++ [(q, .inl (T t, N, .inl (fun _ => 0)))])) : NW l p en R s m args below meth c D A mL Cn Sn Q pc L (.int nn :: st) ws := by
  subst hc; subst hs
  intro H locs ls hP hD hS hl
  have hK := C.2.2.2.2.2.2.2.1
  refine va_newa (atype := atype) (a0 := (N, .inl (fun _ => 0))) C.1 C.2.1 (C.2.2.2.2.2.2.1 _ hw) hty hK hP hD hS hA (fun cA => by rw [vp_cell_i, hdv]) hn hN hby hR.1 hR.2 h (fun q cA H1 hK1 hP1 hD1 hS1 => ?_)
  have e1 := hra s cA (hK1.2 4 (cA, ty) rfl).2
  have e2 := hra s (T t) (hK.2 t (T t, ty) (ht T)).2
  have e3 : cA = T t := Option.some.inj (e1.symm.trans e2)
  subst e3
  exact k q H1 locs ls hP1 hD1 hS1 hl
theorem n_newaL {N Cm Sm : Nat} {nn : Int32} (C : CX own bs mL rt p s m args meth c D T ad A) (hA : ∀ q, s.heap.size ≤ q → A q) (hw : Cond.arrayClass (newarray.typeOf .long) ∈ gw) (h : decode bs pc = .ok (.newarray .long, 2)) (hn : ¬ nn < 0) (hN : nn.toNatClampNeg = N) (hby : N * 8 ≤ 536870912) (hc : Cn + 1 = Cm) (hs : Sn + N = Sm) (hR : Cm ≤ R.cells ∧ Sm ≤ R.slots) (k : ∀ q : Nat, NW l p en R s m args below meth c D A mL Cm Sm Q (pc + 2) L (.ref q :: st) (ws ++ [(q, .inl (T 3, N, .inr (.inl (fun j => lgt (fun _ => 0) j))))])) : NW l p en R s m args below meth c D A mL Cn Sn Q pc L (.int nn :: st) ws := by
  subst hc; subst hs
  intro H locs ls hP hD hS hl
  have hK := C.2.2.2.2.2.2.2.1
  have hz : (fun j => Value.long (lgt (fun _ => 0) j)) = (fun _ => defaultValue FieldType.long) := by
    funext j
    rw [lgt_zero _ j rfl rfl]
    rfl
  refine va_newa (atype := .long) (ty := .long) (a0 := (N, .inr (.inl (fun j => lgt (fun _ => 0) j)))) C.1 C.2.1 (C.2.2.2.2.2.2.1 _ hw) rfl hK hP hD hS hA (fun cA => by rw [vp_cell_l, hz]) hn hN hby hR.1 hR.2 h (fun q cA H1 hK1 hP1 hD1 hS1 => ?_)
  have e1 : s.vm.findClass ("[" ++ FieldType.long.toString) = some cA := (hK1.2 4 (cA, .long) rfl).2
  have e2 : s.vm.findClass ("[" ++ FieldType.long.toString) = some (T 3) := (hK.2 3 (T 3, .long) rfl).2
  have e3 : cA = T 3 := Option.some.inj (e1.symm.trans e2)
  subst e3
  exact k q H1 locs ls hP1 hD1 hS1 hl
def PFF (own : String) (idx ci j : Nat) (ty : FieldType) : Prop := ∃ (Tf : u_T) (N : Nat) (ty0 : Nat → FieldType), vwCl[ci]? = some (own, Tf, N) ∧ j < N ∧ (∀ w ∈ u_ws own Tf N, w ∈ gw) ∧ (Tf j).1 = own ∧ Cond.fieldLink own idx own (Tf j).2.1 (Tf j).2.2.1 ∈ gw ∧ (∀ k, k < N → parseFieldDescriptor (Tf k).2.2.1 = some (ty0 k)) ∧ (∀ a, a < N → ∀ b, b < N → a ≠ b → (Tf a).2.1 ≠ (Tf b).2.1) ∧ (Tf j).2.2.2 = true ∧ ty0 j = ty
def PFV (own : String) (idx ci j : Nat) (ty : FieldType) : Prop := ∃ (Tf : u_T) (N : Nat) (ty0 : Nat → FieldType), vwCl[ci]? = some (own, Tf, N) ∧ j < N ∧ (∀ w ∈ u_ws own Tf N, w ∈ gw) ∧ (Tf j).1 = own ∧ Cond.fieldLink own idx own (Tf j).2.1 (Tf j).2.2.1 ∈ gw ∧ (∀ k, k < N → parseFieldDescriptor (Tf k).2.2.1 = some (ty0 k)) ∧ (∀ a, a < N → ∀ b, b < N → a ≠ b → (Tf a).2.1 ≠ (Tf b).2.1) ∧ (Tf j).2.2.2 = false ∧ ty0 j = ty
theorem n_putF {ci j idx h0 : Nat} {fs fs2 : List Value} {v : Value} {ty : FieldType} {r : va_W} (C : CX own bs mL rt p s m args meth c D T ad A) (hin : meth.name = "<init>") (G : PFF own idx ci j ty) (hv : narrow ty v = v ∧ fits ty v = true) (hl0 : j < fs.length) (hs : fs.set j v = fs2) (h : decode bs pc = .ok (.putfield idx, 3)) (k : NW l p en R s m args below meth c D A mL Cn Sn Q (pc + 3) L st ((h0, .inr (ci, fs2)) :: r)) : NW l p en R s m args below meth c D A mL Cn Sn Q pc L (v :: .ref h0 :: st) ((h0, .inr (ci, fs)) :: r) := by
  subst hs
  obtain ⟨Tf, N, ty0, hcl, hj, hu, ho, hlk, hty, hnm, hfin, hjt⟩ := G
  intro H locs ls hP hD hS hl
  refine va_putF (Ts := gw) (own := own) (ref := own) (C := own) (T := Tf) (N := N) (ty := ty) C.1 C.2.1 C.2.2.2.2.2.2.1 hu ty0 hty hnm C.2.2.2.2.2.1 C.2.2.2.2.2.2.2.1 hP hD hS 0 rfl hcl j hj (C.2.2.2.2.2.2.1 _ hlk) (fun x hx => by rw [ho] at hx; exact hx) hfin hin ho (by rw [hty j hj, hjt]) hv.1 hv.2 hl0 h (fun H1 locs1 hP1 hD1 hS1 => ?_)
  exact k H1 locs1 ls hP1 hD1 hS1 hl
theorem n_putV {ci j idx h0 : Nat} {fs fs2 : List Value} {v : Value} {ty : FieldType} {r : va_W} (C : CX own bs mL rt p s m args meth c D T ad A) (G : PFV own idx ci j ty) (hv : narrow ty v = v ∧ fits ty v = true) (hl0 : j < fs.length) (hs : fs.set j v = fs2) (h : decode bs pc = .ok (.putfield idx, 3)) (k : NW l p en R s m args below meth c D A mL Cn Sn Q (pc + 3) L st ((h0, .inr (ci, fs2)) :: r)) : NW l p en R s m args below meth c D A mL Cn Sn Q pc L (v :: .ref h0 :: st) ((h0, .inr (ci, fs)) :: r) := by
  subst hs
  obtain ⟨Tf, N, ty0, hcl, hj, hu, ho, hlk, hty, hnm, hfin, hjt⟩ := G
  intro H locs ls hP hD hS hl
  refine va_put (Ts := gw) (own := own) (ref := own) (C := own) (T := Tf) (N := N) (ty := ty) C.1 C.2.1 C.2.2.2.2.2.2.1 hu ty0 hty hnm C.2.2.2.2.2.1 C.2.2.2.2.2.2.2.1 hP hD hS 0 rfl hcl j hj (C.2.2.2.2.2.2.1 _ hlk) (fun x hx => by rw [ho] at hx; exact hx) hfin (by rw [hty j hj, hjt]) hv.1 hv.2 hl0 h (fun H1 locs1 hP1 hD1 hS1 => ?_)
  exact k H1 locs1 ls hP1 hD1 hS1 hl
theorem n_get {ci j idx h0 : Nat} {fs : List Value} {v : Value} {ty : FieldType} {r : va_W} (C : CX own bs mL rt p s m args meth c D T ad A) (G : PFF own idx ci j ty) (hv : fs[j]? = some v) (h : decode bs pc = .ok (.getfield idx, 3)) (k : NW l p en R s m args below meth c D A mL Cn Sn Q (pc + 3) L (v :: st) ((h0, .inr (ci, fs)) :: r)) : NW l p en R s m args below meth c D A mL Cn Sn Q pc L (.ref h0 :: st) ((h0, .inr (ci, fs)) :: r) := by
  obtain ⟨Tf, N, ty0, hcl, hj, hu, ho, hlk, hty, hnm, hfin, hjt⟩ := G
  intro H locs ls hP hD hS hl
  exact va_get (Ts := gw) (own := own) (ref := own) (C := own) (T := Tf) (N := N) C.1 C.2.1 C.2.2.2.2.2.2.1 hu C.2.2.2.2.2.1 C.2.2.2.2.2.2.2.1 hP 0 rfl hcl j hj (C.2.2.2.2.2.2.1 _ hlk) (fun x hx => by rw [ho] at hx; exact hx) hv h (k H locs ls hP hD hS hl)
/-- what 'new' needs -/
def NL (own : String) (idx ci : Nat) (fs : List Value) : Prop := ∃ (C : String) (Tf : u_T) (N : Nat) (ty0 : Nat → FieldType), vwCl[ci]? = some (C, Tf, N) ∧ (∀ w ∈ u_ws C Tf N, w ∈ gw) ∧ (∀ k, k < N → parseFieldDescriptor (Tf k).2.2.1 = some (ty0 k)) ∧ Cond.classLink own idx C ∈ gw ∧ Cond.instantiable C N ∈ gw ∧ Cond.initialized C ∈ gw ∧ (∀ j, j < N → defaultValue (ty0 j) = vp_V fs j) ∧ fs.length = N
theorem n_new {ci idx Cm Sm : Nat} {fs : List Value} (C : CX own bs mL rt p s m args meth c D T ad A) (hA : ∀ q, s.heap.size ≤ q → A q) (G : NL own idx ci fs) (h : decode bs pc = .ok (.new idx, 3)) (hc : Cn + 1 = Cm) (hs : Sn + fs.length = Sm) (hR : Cm ≤ R.cells ∧ Sm ≤ R.slots) (k : ∀ q : Nat, NW l p en R s m args below meth c D A mL Cm Sm Q (pc + 3) L (.ref q :: st) (ws ++ [(q, .inr (ci, fs))])) : NW l p en R s m args below meth c D A mL Cn Sn Q pc L st ws := by
  subst hc; subst hs
  obtain ⟨Cc, Tf, N, ty0, hcl, hu, hty, g1, g2, g3, g4, rfl⟩ := G
  intro H locs ls hP hD hS hl
  refine va_new (Ts := gw) (own := own) (C := Cc) (T := Tf) (N := fs.length) (fs := fs) C.1 C.2.1 C.2.2.2.2.2.2.1 hu ty0 hty C.2.2.2.2.2.1 (C.2.2.2.2.2.2.1 _ g1) (C.2.2.2.2.2.2.1 _ g2) (C.2.2.2.2.2.2.1 _ g3) C.2.2.2.2.2.2.2.1 hP hD hS hA hcl g4 hR.1 hR.2 h (fun q H1 hP1 hD1 hS1 => ?_)
  exact k q H1 locs ls hP1 hD1 hS1 hl
theorem n_ret {Pq : SS → Prop} {B : AD → SS → CT → va_W} {Cm Sm : Nat} (u : AD × SS) (C : CX own bs mL none p s m args meth c D T ad A) (hp : Pq u.2) (hw : ws = B u.1 u.2 T) (hc : Cm = Cn) (hs : Sm = Sn) (h : decode bs pc = .ok (.return_, 1)) : NW l p en R s m args below meth c D A mL Cn Sn (MQ below (QN Pq B D T A) args s Cm Sm A) pc L [] ws := by
  subst hc; subst hs; subst hw
  intro H locs ls hP hD hS hl
  have hK := C.2.2.2.2.2.2.2.1
  exact W.vret C.1 C.2.1 C.2.2.2.1 (fun t ht hW => ⟨⟨u, rfl, hp, by rw [ht]; exact hP, va_K.moved hW.alike hK, hD⟩, hS.F ht⟩) hS.2.2 h C.2.2.2.2.1
theorem pnBlind {As : List Value} {w0 : va_W} {sz : Nat} {D : va_G} {T : CT} {ad : AD} {A : Nat → Prop} : FrameBlind (PN As w0 sz D T ad A) := by
  intro a U g mk h
  obtain ⟨h1, h2, h3, h4, h5, h6⟩ := h
  exact ⟨h1, h2, h3, va_K.moved (u := U) (U := U.calling g mk a) (Vm.Alike.refl U.vm) h4, h5, h6.calling g mk a⟩
/-- behind a constructor's call: the cells that were, the new object's -/
theorem n_join {wr w1 : va_W} {q : Nat} {e : va_E} {H H1 : Heap} (hP : va_P D vwCl (wr ++ [(q, e)]) H) (hD : va_D A (wr ++ [(q, e)])) (hk : ∀ x : Nat, x < H.size → ¬ va_A [(q, e)] H.size x → H1[x]? = H[x]?) (hF : ∀ x, va_A [(q, e)] H.size x → A x) (hP1 : va_P D vwCl w1 H1) (hD1 : va_D (va_A [(q, e)] H.size) w1) : va_P D vwCl (wr ++ w1) H1 ∧ va_D A (wr ++ w1) := by
  have get : ∀ (i : Nat) (x : Nat × va_E), wr[i]? = some x → (wr ++ [(q, e)])[i]? = some x := fun i x hx => by
    rw [List.getElem?_append_left (List.getElem?_eq_some_iff.mp hx).1]
    exact hx
  have last : (wr ++ [(q, e)])[wr.length]? = some (q, e) := by simp
  have apart : ∀ (i : Nat) (x : Nat × va_E), wr[i]? = some x → x.1 < H.size ∧ ¬ va_A [(q, e)] H.size x.1 := by
    intro i x hx
    have hlt := (hP i x (get i x hx)).lt
    refine ⟨hlt, fun h => ?_⟩
    rcases h with ⟨k2, e2, h⟩ | h
    · have hk0 : k2 < 1 := (List.getElem?_eq_some_iff.mp h).1
      rw [show k2 = 0 by omega] at h
      cases h
      have hij := hD.1 i wr.length x (x.1, e) (get i x hx) last rfl
      have := (List.getElem?_eq_some_iff.mp hx).1
      omega
    · omega
  refine ⟨va_P.app (fun i x hx => ?_) hP1, va_D.app ⟨fun i j x y hx hy hxy => hD.1 i j x y (get i x hx) (get j y hy) hxy, fun i x hx => hD.2 i x (get i x hx)⟩ (hD1.weaken (fun _ x _ h => hF x.1 h)) (fun i j x y hx hy hxy => ?_)⟩
  · obtain ⟨g1, g2⟩ := apart i x hx
    exact (hP i x (get i x hx)).kept (hk x.1 g1 g2)
  · exact (apart i x hx).2 (by rw [hxy]; exact hD1.2 j y hy)
/-- links of a constructor's call: plain, nest mate's -/
def LI (own : String) (idx : Nat) (y : MethodName) (bs : ByteArray) (mL n : Nat) : Prop := (Cond.initialized y.cls ∈ gw ∧ Cond.code y bs mL none ∈ gw ∧ (y.cls ≠ "java/lang/invoke/MethodHandle" ∧ y.cls ≠ "java/lang/invoke/VarHandle" ∧ (parseMethodDescriptor y.desc).map (fun d => d.parameters.length) = some n)) ∧ (Cond.methodLink own idx y ∈ gw ∨ ∃ host : String, Cond.methodLinkNest own idx y host ∈ nestW) ∧ Cond.instanceMethod y ∈ gw ∧ y.name = "<init>"
theorem n_callI {y : MethodName} {bs1 : ByteArray} {mL1 idx n q Cm Sm : Nat} {rm : Room} {As stk : List Value} {e : va_E} {Pq : SS → Prop} {B : AD → SS → CT → va_W} (C : CX own bs mL rt p s m args meth c D T ad A) (hA : ∀ x, s.heap.size ≤ x → A x) (G : LI own idx y bs1 mL1 n) (hM : CI l y bs1 mL1 rm (.ref q :: As) [(q, e)] Pq B) (hn : As.length = n) (hsk : stk = As.reverse ++ .ref q :: st) (hr : rm.frames + 1 ≤ R.frames ∧ 8 + (mL1 + 11) + rm.locals ≤ R.locals) (hst : (st.map (fun v => v.category)).sum ≤ 8) (hc : Cn + rm.cells = Cm) (hs : Sn + rm.slots = Sm) (hR : Cm ≤ R.cells ∧ Sm ≤ R.slots) (h : decode bs pc = .ok (.invokespecial idx, 3)) (k : ∀ u : AD × SS, Pq u.2 → NW l p en R s m args below meth c D A mL Cm Sm Q (pc + 3) L st (ws ++ B u.1 u.2 T)) : NW l p en R s m args below meth c D A mL Cn Sn Q pc L stk (ws ++ [(q, e)]) := by
  subst hc; subst hs; subst hsk
  intro H locs ls hP hD hS hl
  have hts := C.2.2.2.2.2.2.1
  have hK := C.2.2.2.2.2.2.2.1
  have hX := C.2.2.2.2.2.2.2.2
  obtain ⟨⟨gi, gc, gy⟩, gl, gm, gn⟩ := G
  have last : (ws ++ [(q, e)])[ws.length]? = some (q, e) := by simp
  have hPc : va_P D vwCl [(q, e)] H := fun i x hx => by
    have hi : i < 1 := (List.getElem?_eq_some_iff.mp hx).1
    rw [show i = 0 by omega] at hx
    cases hx
    exact hP _ _ last
  have hDc : va_D (va_A [(q, e)] H.size) [(q, e)] := by
    refine ⟨fun i j x y hx hy _ => ?_, fun i x hx => va_A.in hx⟩
    have hi : i < 1 := (List.getElem?_eq_some_iff.mp hx).1
    have hj : j < 1 := (List.getElem?_eq_some_iff.mp hy).1
    omega
  have hF : ∀ x, va_A [(q, e)] H.size x → A x := va_free hD hS hA [ws.length] (by simp)
  have hg : GoodIn gw (.code y bs1 mL1 none :: gw) := goodAll (fun w hw => by
    rcases List.mem_cons.mp hw with z | z
    · rw [z]; exact gc
    · exact z)
  have hroom : 2 * (F0 m pc ls (As.reverse ++ .ref q :: st)).monitorRoom + (st.map (fun v => v.category)).sum ≤ 8 := lv_room hst
  have hpre : PreS s H (PN (.ref q :: As) [(q, e)] H.size D T ad (va_A [(q, e)] H.size)) (.ref q :: As) := ⟨pnBlind, fun U hU hW => ⟨rfl, by rw [hU], by rw [hU]; exact hPc, va_K.moved hW.alike hK, hDc, (SX.call hX hS hU hW).narrow hF⟩⟩
  have hMt := hM D T ad (va_A [(q, e)] H.size) H.size (fun x hx => Or.inr hx)
  have fin : ∀ (u : AD × SS) (t : State) (H1 : Heap) (locs1 : List Loc), t.heap = H1 → s.vm.Alike t.vm → Pq u.2 → (va_P D vwCl (B u.1 u.2 T) t.heap ∧ va_K D vwCl (tysT T) t ∧ va_D (va_A [(q, e)] H.size) (B u.1 u.2 T)) → H.size ≤ H1.size → (∀ x : Nat, x < H.size → ¬ va_A [(q, e)] H.size x → H1[x]? = H[x]?) → va_S A s.heap H1 locs1 → W p l en R s m args below meth c H1 locs1 (Cn + rm.cells) (Sn + rm.slots) Q (F0 m (pc + 3) ls st) := by
    intro u t H1 locs1 ht hvm hw hB hz1 hk1 hS1
    obtain ⟨b1, b2, b3⟩ := hB
    rw [ht] at b1
    obtain ⟨j1, j2⟩ := n_join hP hD hk1 hF b1 b3
    exact k u hw H1 locs1 ls j1 j2 hS1 hl
  rcases gl with gl | ⟨host, gl⟩
  · exact va_callv (A1 := va_A [(q, e)] H.size) (va_runI (As := As) (rest := st) (Ts := gw) (own := own) ⟨C.1, C.2.1, C.2.2.1, C.2.2.2.2.2.1, hts⟩ hMt (cwI n hts hg rfl rfl rfl (hts _ gi) (hts _ gl) (hts _ gm) gn gy hr) hpre rfl hn hl.1 rfl hroom h hR) hS (fun x _ z => hF x z) hF (fun u t H1 locs1 ht hvm hw hB hz1 hk1 hS1 => fin u t H1 locs1 ht hvm hw hB hz1 hk1 hS1)
  · exact va_callv (A1 := va_A [(q, e)] H.size) (va_runIN (As := As) (rest := st) (Ts := gw) (own := own) (host := host) ⟨C.1, C.2.1, C.2.2.1, C.2.2.2.2.2.1, hts⟩ hMt ⟨va_cnB n hts hg rfl rfl rfl (hX.2.2.2.2.2 _ gl) (hts _ gi) gy hr, gn, hts _ gm⟩ hpre rfl hn hl.1 rfl hroom h hR) hS (fun x _ z => hF x z) hF (fun u t H1 locs1 ht hvm hw hB hz1 hk1 hS1 => fin u t H1 locs1 ht hvm hw hB hz1 hk1 hS1)
end NWrows
