/-- links of calls: virtual and static, plain and between nest mates -/
def LB (y : MethodName) (bs : ByteArray) (mL : Nat) (rt : Option FieldType) (n : Nat) : Prop := Cond.initialized y.cls ∈ gw ∧ Cond.code y bs mL rt ∈ gw ∧ (y.cls ≠ "java/lang/invoke/MethodHandle" ∧ y.cls ≠ "java/lang/invoke/VarHandle" ∧ (parseMethodDescriptor y.desc).map (fun d => d.parameters.length) = some n)
def LV (own : String) (idx : Nat) (y : MethodName) (bs : ByteArray) (mL : Nat) (rt : Option FieldType) (n : Nat) : Prop := LB y bs mL rt n ∧ Cond.methodLink own idx y ∈ gw ∧ Cond.instanceMethod y ∈ gw ∧ Cond.selects y.cls y y ∈ gw
def LT (own : String) (idx : Nat) (y : MethodName) (bs : ByteArray) (mL : Nat) (rt : Option FieldType) (n : Nat) : Prop := LB y bs mL rt n ∧ Cond.methodLink own idx y ∈ gw ∧ Cond.static y ∈ gw
def LVN (own : String) (idx : Nat) (y : MethodName) (bs : ByteArray) (mL : Nat) (rt : Option FieldType) (n : Nat) : Prop := LB y bs mL rt n ∧ (∃ host : String, Cond.methodLinkNest own idx y host ∈ nestW) ∧ Cond.instanceMethod y ∈ gw ∧ Cond.selects y.cls y y ∈ gw
def LTN (own : String) (idx : Nat) (y : MethodName) (bs : ByteArray) (mL : Nat) (rt : Option FieldType) (n : Nat) : Prop := LB y bs mL rt n ∧ (∃ host : String, Cond.methodLinkNest own idx y host ∈ nestW) ∧ Cond.static y ∈ gw
theorem goodAll {ws : List Cond} (h : ∀ w ∈ ws, w ∈ gw) : GoodIn gw ws := fun w hw => ⟨h w hw, good_of_word (List.mem_filter.mp (h w hw)).2⟩
theorem ctBlind {wl : WT} {D : va_G} {T : CT} {ad : AD} {A : Nat → Prop} {s0 : SS} {av : List Value} : FrameBlind (va_Pc av (fun U => WPt wl D T ad A s0 U ∧ SX ad A U U.heap)) := by
  intro a U g mk h
  obtain ⟨h1, ⟨h2, h3, h4⟩, h5⟩ := h
  exact ⟨h1, ⟨h2, va_K.moved (u := U) (U := U.calling g mk a) (Vm.Alike.refl U.vm) h3, h4⟩, h5.calling g mk a⟩
theorem rmd_le {d d1 mL : Nat} (h : d1 + 1 ≤ d ∧ mL ≤ 21) : (rmd d1).frames + 1 ≤ (rmd d).frames ∧ 8 + (mL + 11) + (rmd d1).locals ≤ (rmd d).locals := by
  refine ⟨h.1, ?_⟩
  show 8 + (mL + 11) + 40 * d1 ≤ 40 * d
  omega
theorem sum_cv (ad : AD) (st : List Value) : ((st.map (cv ad)).map (fun v => v.category)).sum = (st.map (fun v => v.category)).sum := by
  rw [List.map_map]
  congr 1
  exact List.map_congr_left (fun v _ => cv_cat ad v)
theorem lu_cut (d : Nat) : d ≤ d := Nat.le_refl d
/-- b is a receiver of class C -/
def RV (wl : WT) (b : Nat) (C : String) : Prop := ∀ (D : va_G) (T : CT) (ad : AD) (A : Nat → Prop) (s : State) (H : Heap) (s0 : SS) (locs : List Loc), va_K D vwCl (tysT T) s → va_P D vwCl (wl T ad s0) H → va_S A s.heap H locs → SX ad A s s.heap → ∃ cell : Cell, H[ad b]? = some cell ∧ cell.vm.isStatics = false ∧ s.vm.findClass C = some cell.cls
theorem rv_of {wl : WT} {b ci : Nat} {refs : List (Option Nat)} {C : String} (hW : WI wl b (OE ci refs)) (hcl : ∃ (Tf : u_T) (N : Nat), vwCl[ci]? = some (C, Tf, N)) : RV wl b C := by
  intro D T ad A s H s0 locs hK hP hS hX
  obtain ⟨q, hg, -⟩ := hW
  obtain ⟨Tf, N, hcl⟩ := hcl
  exact va_recv hK hP hcl (hg T ad s0)
theorem rv_facts {wl : WT} : RV wl 1001 "java/lang/String" := by
  intro D T ad A s H s0 locs hK hP hS hX
  exact vk_recv (i := 0) hX.2.2.2.2.1 (by decide) hS
section RCcalls
variable {l : Launch} {wl : WT} {own : String} {bs : ByteArray} {mL : Nat} {rt : Option FieldType} {d pc pc1 : Nat} {L st stk : List Value} {s0 : SS}

theorem r_callVi {ty : FieldType} {b : Nat} {y : MethodName} {bs1 : ByteArray} {mL1 d1 idx n : Nat} {As : List Value} {e1 : Res} {k : Int32 → SS → Res} (hR : RV wl b y.cls) (G : LV own idx y bs1 mL1 (some ty) n) (hM : Ct l wl y bs1 mL1 (some ty) d1 (.ref b :: As) s0 e1) (hs : stk = As.reverse ++ .ref b :: st) (hn : As.length = n) (hd : d1 + 1 ≤ d ∧ mL1 ≤ 21) (hst : (st.map (fun v => v.category)).sum ≤ 8) (h : decode bs pc = .ok (.invokevirtual idx, 3)) (hp : pc + 3 = pc1) (kk : ∀ (r : Int32) (s2 : SS), RC l wl own bs mL rt d pc1 L (.int r :: st) s2 (k r s2)) : RC l wl own bs mL rt d pc L stk s0 (bd e1 k) := by
  subst hp; subst hs
  intro r s1 he p en s m args below meth c D T ad A H locs ls C hP hD hS hl
  cases he1 : e1 with
  | none =>
    rw [he1] at he
    cases he
  | some q =>
    obtain ⟨r1, s2⟩ := q
    rw [he1] at he
    have he : k r1 s2 = some (r, s1) := he
    have hMt := hM r1 s2 he1 D T ad A
    obtain ⟨⟨gi, gc, gy⟩, gl, gm, gs⟩ := G
    have cw := cwV (R := rmd d) (rm := rmd d1) n C.2.2.2.2.2.2.1 (goodAll (ws := wsV own idx y.cls y (.code y bs1 mL1 (some ty) :: gw)) (fun w hw => by
      rcases List.mem_append.mp hw with z | z
      · simp only [List.mem_cons, List.not_mem_nil, or_false] at z
        rcases z with rfl | rfl | rfl | rfl <;> assumption
      · rcases List.mem_cons.mp z with e | e
        · rw [e]; exact gc
        · exact e)) rfl rfl rfl ⟨rfl, gy⟩ (rmd_le hd)
    have hroom : 2 * (F0 m pc ls ((As.reverse ++ .ref b :: st).map (cv ad))).monitorRoom + ((st.map (cv ad)).map (fun v => v.category)).sum ≤ 8 := lv_room (by rw [sum_cv]; exact hst)
    refine va_calli (A1 := A) (va_runV (C := y.cls) (As := As.map (cv ad)) (rest := st.map (cv ad)) (Ts := gw) (own := own) ⟨C.1, C.2.1, C.2.2.1, C.2.2.2.2.2.1, C.2.2.2.2.2.2.1⟩ hMt cw ⟨ctBlind, hR D T ad A s H s0 locs C.2.2.2.2.2.2.2.1 hP hS C.2.2.2.2.2.2.2.2, fun U hU hW1 => ⟨rfl, ⟨by rw [hU]; exact hP, va_K.moved hW1.alike C.2.2.2.2.2.2.2.1, hD⟩, SX.call C.2.2.2.2.2.2.2.2 hS hU hW1⟩⟩ rfl (by rw [List.length_map]; exact hn) hl.1 (by simp [cv]) hroom h ⟨Nat.le_refl 0, Nat.le_refl 0⟩) hS (fun _ _ z => z) (fun _ z => z) (fun rr u t H1 locs1 ht hvm hw hB hz1 hk1 hS1 => ?_)
    obtain rfl := hw
    obtain ⟨b1, b2, b3⟩ := hB
    rw [ht] at b1
    exact kk rr s2 r s1 he p en s m args below meth c D T ad A H1 locs1 ls C b1 b3 hS1 hl
theorem r_callVv {b : Nat} {y : MethodName} {bs1 : ByteArray} {mL1 d1 idx n : Nat} {As : List Value} {e1 : Res} {k : Int32 → SS → Res} (hR : RV wl b y.cls) (G : LV own idx y bs1 mL1 none n) (hM : Ct l wl y bs1 mL1 none d1 (.ref b :: As) s0 e1) (hs : stk = As.reverse ++ .ref b :: st) (hn : As.length = n) (hd : d1 + 1 ≤ d ∧ mL1 ≤ 21) (hst : (st.map (fun v => v.category)).sum ≤ 8) (h : decode bs pc = .ok (.invokevirtual idx, 3)) (hp : pc + 3 = pc1) (kk : ∀ (r : Int32) (s2 : SS), RC l wl own bs mL rt d pc1 L st s2 (k r s2)) : RC l wl own bs mL rt d pc L stk s0 (bd e1 k) := by
  subst hp; subst hs
  intro r s1 he p en s m args below meth c D T ad A H locs ls C hP hD hS hl
  cases he1 : e1 with
  | none =>
    rw [he1] at he
    cases he
  | some q =>
    obtain ⟨r1, s2⟩ := q
    rw [he1] at he
    have he : k r1 s2 = some (r, s1) := he
    have hMt := hM r1 s2 he1 D T ad A
    obtain ⟨⟨gi, gc, gy⟩, gl, gm, gs⟩ := G
    have cw := cwV (R := rmd d) (rm := rmd d1) n C.2.2.2.2.2.2.1 (goodAll (ws := wsV own idx y.cls y (.code y bs1 mL1 none :: gw)) (fun w hw => by
      rcases List.mem_append.mp hw with z | z
      · simp only [List.mem_cons, List.not_mem_nil, or_false] at z
        rcases z with rfl | rfl | rfl | rfl <;> assumption
      · rcases List.mem_cons.mp z with e | e
        · rw [e]; exact gc
        · exact e)) rfl rfl rfl ⟨rfl, gy⟩ (rmd_le hd)
    have hroom : 2 * (F0 m pc ls ((As.reverse ++ .ref b :: st).map (cv ad))).monitorRoom + ((st.map (cv ad)).map (fun v => v.category)).sum ≤ 8 := lv_room (by rw [sum_cv]; exact hst)
    refine va_callv (A1 := A) (va_runV (C := y.cls) (As := As.map (cv ad)) (rest := st.map (cv ad)) (Ts := gw) (own := own) ⟨C.1, C.2.1, C.2.2.1, C.2.2.2.2.2.1, C.2.2.2.2.2.2.1⟩ hMt cw ⟨ctBlind, hR D T ad A s H s0 locs C.2.2.2.2.2.2.2.1 hP hS C.2.2.2.2.2.2.2.2, fun U hU hW1 => ⟨rfl, ⟨by rw [hU]; exact hP, va_K.moved hW1.alike C.2.2.2.2.2.2.2.1, hD⟩, SX.call C.2.2.2.2.2.2.2.2 hS hU hW1⟩⟩ rfl (by rw [List.length_map]; exact hn) hl.1 (by simp [cv]) hroom h ⟨Nat.le_refl 0, Nat.le_refl 0⟩) hS (fun _ _ z => z) (fun _ z => z) (fun u t H1 locs1 ht hvm hw hB hz1 hk1 hS1 => ?_)
    obtain ⟨b1, b2, b3⟩ := hB
    rw [ht] at b1
    exact kk r1 s2 r s1 he p en s m args below meth c D T ad A H1 locs1 ls C b1 b3 hS1 hl
theorem r_callSi {ty : FieldType} {y : MethodName} {bs1 : ByteArray} {mL1 d1 idx n : Nat} {As : List Value} {e1 : Res} {k : Int32 → SS → Res} (G : LT own idx y bs1 mL1 (some ty) n) (hM : Ct l wl y bs1 mL1 (some ty) d1 As s0 e1) (hs : stk = As.reverse ++ st) (hn : As.length = n) (hd : d1 + 1 ≤ d ∧ mL1 ≤ 21) (hst : (st.map (fun v => v.category)).sum ≤ 8) (h : decode bs pc = .ok (.invokestatic idx, 3)) (hp : pc + 3 = pc1) (kk : ∀ (r : Int32) (s2 : SS), RC l wl own bs mL rt d pc1 L (.int r :: st) s2 (k r s2)) : RC l wl own bs mL rt d pc L stk s0 (bd e1 k) := by
  subst hp; subst hs
  intro r s1 he p en s m args below meth c D T ad A H locs ls C hP hD hS hl
  cases he1 : e1 with
  | none =>
    rw [he1] at he
    cases he
  | some q =>
    obtain ⟨r1, s2⟩ := q
    rw [he1] at he
    have he : k r1 s2 = some (r, s1) := he
    have hMt := hM r1 s2 he1 D T ad A
    obtain ⟨⟨gi, gc, gy⟩, gl, gm⟩ := G
    have cw := va_cwS (R := rmd d) (rm := rmd d1) n C.2.2.2.2.2.2.1 (goodAll (ws := va_wsS own idx y (.code y bs1 mL1 (some ty) :: gw)) (fun w hw => by
      rcases List.mem_append.mp hw with z | z
      · simp only [List.mem_cons, List.not_mem_nil, or_false] at z
        rcases z with rfl | rfl | rfl <;> assumption
      · rcases List.mem_cons.mp z with e | e
        · rw [e]; exact gc
        · exact e)) rfl rfl rfl gy (rmd_le hd)
    have hroom : 2 * (F0 m pc ls ((As.reverse ++ st).map (cv ad))).monitorRoom + ((st.map (cv ad)).map (fun v => v.category)).sum ≤ 8 := lv_room (by rw [sum_cv]; exact hst)
    refine va_calli (A1 := A) (va_runS (As := As.map (cv ad)) (rest := st.map (cv ad)) (Ts := gw) (own := own) ⟨C.1, C.2.1, C.2.2.1, C.2.2.2.2.2.1, C.2.2.2.2.2.2.1⟩ hMt cw ⟨ctBlind, fun U hU hW1 => ⟨rfl, ⟨by rw [hU]; exact hP, va_K.moved hW1.alike C.2.2.2.2.2.2.2.1, hD⟩, SX.call C.2.2.2.2.2.2.2.2 hS hU hW1⟩⟩ rfl (by rw [List.length_map]; exact hn) hl.1 (by simp) hroom h ⟨Nat.le_refl 0, Nat.le_refl 0⟩) hS (fun _ _ z => z) (fun _ z => z) (fun rr u t H1 locs1 ht hvm hw hB hz1 hk1 hS1 => ?_)
    obtain rfl := hw
    obtain ⟨b1, b2, b3⟩ := hB
    rw [ht] at b1
    exact kk rr s2 r s1 he p en s m args below meth c D T ad A H1 locs1 ls C b1 b3 hS1 hl
theorem r_callSv {y : MethodName} {bs1 : ByteArray} {mL1 d1 idx n : Nat} {As : List Value} {e1 : Res} {k : Int32 → SS → Res} (G : LT own idx y bs1 mL1 none n) (hM : Ct l wl y bs1 mL1 none d1 As s0 e1) (hs : stk = As.reverse ++ st) (hn : As.length = n) (hd : d1 + 1 ≤ d ∧ mL1 ≤ 21) (hst : (st.map (fun v => v.category)).sum ≤ 8) (h : decode bs pc = .ok (.invokestatic idx, 3)) (hp : pc + 3 = pc1) (kk : ∀ (r : Int32) (s2 : SS), RC l wl own bs mL rt d pc1 L st s2 (k r s2)) : RC l wl own bs mL rt d pc L stk s0 (bd e1 k) := by
  subst hp; subst hs
  intro r s1 he p en s m args below meth c D T ad A H locs ls C hP hD hS hl
  cases he1 : e1 with
  | none =>
    rw [he1] at he
    cases he
  | some q =>
    obtain ⟨r1, s2⟩ := q
    rw [he1] at he
    have he : k r1 s2 = some (r, s1) := he
    have hMt := hM r1 s2 he1 D T ad A
    obtain ⟨⟨gi, gc, gy⟩, gl, gm⟩ := G
    have cw := va_cwS (R := rmd d) (rm := rmd d1) n C.2.2.2.2.2.2.1 (goodAll (ws := va_wsS own idx y (.code y bs1 mL1 none :: gw)) (fun w hw => by
      rcases List.mem_append.mp hw with z | z
      · simp only [List.mem_cons, List.not_mem_nil, or_false] at z
        rcases z with rfl | rfl | rfl <;> assumption
      · rcases List.mem_cons.mp z with e | e
        · rw [e]; exact gc
        · exact e)) rfl rfl rfl gy (rmd_le hd)
    have hroom : 2 * (F0 m pc ls ((As.reverse ++ st).map (cv ad))).monitorRoom + ((st.map (cv ad)).map (fun v => v.category)).sum ≤ 8 := lv_room (by rw [sum_cv]; exact hst)
    refine va_callv (A1 := A) (va_runS (As := As.map (cv ad)) (rest := st.map (cv ad)) (Ts := gw) (own := own) ⟨C.1, C.2.1, C.2.2.1, C.2.2.2.2.2.1, C.2.2.2.2.2.2.1⟩ hMt cw ⟨ctBlind, fun U hU hW1 => ⟨rfl, ⟨by rw [hU]; exact hP, va_K.moved hW1.alike C.2.2.2.2.2.2.2.1, hD⟩, SX.call C.2.2.2.2.2.2.2.2 hS hU hW1⟩⟩ rfl (by rw [List.length_map]; exact hn) hl.1 (by simp) hroom h ⟨Nat.le_refl 0, Nat.le_refl 0⟩) hS (fun _ _ z => z) (fun _ z => z) (fun u t H1 locs1 ht hvm hw hB hz1 hk1 hS1 => ?_)
    obtain ⟨b1, b2, b3⟩ := hB
    rw [ht] at b1
    exact kk r1 s2 r s1 he p en s m args below meth c D T ad A H1 locs1 ls C b1 b3 hS1 hl
theorem r_callVNi {ty : FieldType} {b : Nat} {y : MethodName} {bs1 : ByteArray} {mL1 d1 idx n : Nat} {As : List Value} {e1 : Res} {k : Int32 → SS → Res} (hR : RV wl b y.cls) (G : LVN own idx y bs1 mL1 (some ty) n) (hM : Ct l wl y bs1 mL1 (some ty) d1 (.ref b :: As) s0 e1) (hs : stk = As.reverse ++ .ref b :: st) (hn : As.length = n) (hd : d1 + 1 ≤ d ∧ mL1 ≤ 21) (hst : (st.map (fun v => v.category)).sum ≤ 8) (h : decode bs pc = .ok (.invokevirtual idx, 3)) (hp : pc + 3 = pc1) (kk : ∀ (r : Int32) (s2 : SS), RC l wl own bs mL rt d pc1 L (.int r :: st) s2 (k r s2)) : RC l wl own bs mL rt d pc L stk s0 (bd e1 k) := by
  subst hp; subst hs
  intro r s1 he p en s m args below meth c D T ad A H locs ls C hP hD hS hl
  cases he1 : e1 with
  | none =>
    rw [he1] at he
    cases he
  | some q =>
    obtain ⟨r1, s2⟩ := q
    rw [he1] at he
    have he : k r1 s2 = some (r, s1) := he
    have hMt := hM r1 s2 he1 D T ad A
    obtain ⟨⟨gi, gc, gy⟩, gl, gm, gs⟩ := G
    obtain ⟨host, gl⟩ := gl
    have cb := va_cnB (R := rmd d) (rm := rmd d1) (own := own) (host := host) (index := idx) n C.2.2.2.2.2.2.1 (goodAll (ws := (.code y bs1 mL1 (some ty) :: gw)) (fun w hw => by
      rcases List.mem_cons.mp hw with e | e
      · rw [e]; exact gc
      · exact e)) rfl rfl rfl (C.2.2.2.2.2.2.2.2.2.2.2.2.2 _ gl) (C.2.2.2.2.2.2.1 _ gi) gy (rmd_le hd)
    have cw := And.intro cb (And.intro (C.2.2.2.2.2.2.1 _ gm) (C.2.2.2.2.2.2.1 _ gs))
    have hroom : 2 * (F0 m pc ls ((As.reverse ++ .ref b :: st).map (cv ad))).monitorRoom + ((st.map (cv ad)).map (fun v => v.category)).sum ≤ 8 := lv_room (by rw [sum_cv]; exact hst)
    refine va_calli (A1 := A) (va_runVN (C := y.cls) (As := As.map (cv ad)) (rest := st.map (cv ad)) (Ts := gw) (own := own) ⟨C.1, C.2.1, C.2.2.1, C.2.2.2.2.2.1, C.2.2.2.2.2.2.1⟩ hMt cw ⟨ctBlind, hR D T ad A s H s0 locs C.2.2.2.2.2.2.2.1 hP hS C.2.2.2.2.2.2.2.2, fun U hU hW1 => ⟨rfl, ⟨by rw [hU]; exact hP, va_K.moved hW1.alike C.2.2.2.2.2.2.2.1, hD⟩, SX.call C.2.2.2.2.2.2.2.2 hS hU hW1⟩⟩ rfl (by rw [List.length_map]; exact hn) hl.1 (by simp [cv]) hroom h ⟨Nat.le_refl 0, Nat.le_refl 0⟩) hS (fun _ _ z => z) (fun _ z => z) (fun rr u t H1 locs1 ht hvm hw hB hz1 hk1 hS1 => ?_)
    obtain rfl := hw
    obtain ⟨b1, b2, b3⟩ := hB
    rw [ht] at b1
    exact kk rr s2 r s1 he p en s m args below meth c D T ad A H1 locs1 ls C b1 b3 hS1 hl
theorem r_callVNv {b : Nat} {y : MethodName} {bs1 : ByteArray} {mL1 d1 idx n : Nat} {As : List Value} {e1 : Res} {k : Int32 → SS → Res} (hR : RV wl b y.cls) (G : LVN own idx y bs1 mL1 none n) (hM : Ct l wl y bs1 mL1 none d1 (.ref b :: As) s0 e1) (hs : stk = As.reverse ++ .ref b :: st) (hn : As.length = n) (hd : d1 + 1 ≤ d ∧ mL1 ≤ 21) (hst : (st.map (fun v => v.category)).sum ≤ 8) (h : decode bs pc = .ok (.invokevirtual idx, 3)) (hp : pc + 3 = pc1) (kk : ∀ (r : Int32) (s2 : SS), RC l wl own bs mL rt d pc1 L st s2 (k r s2)) : RC l wl own bs mL rt d pc L stk s0 (bd e1 k) := by
  subst hp; subst hs
  intro r s1 he p en s m args below meth c D T ad A H locs ls C hP hD hS hl
  cases he1 : e1 with
  | none =>
    rw [he1] at he
    cases he
  | some q =>
    obtain ⟨r1, s2⟩ := q
    rw [he1] at he
    have he : k r1 s2 = some (r, s1) := he
    have hMt := hM r1 s2 he1 D T ad A
    obtain ⟨⟨gi, gc, gy⟩, gl, gm, gs⟩ := G
    obtain ⟨host, gl⟩ := gl
    have cb := va_cnB (R := rmd d) (rm := rmd d1) (own := own) (host := host) (index := idx) n C.2.2.2.2.2.2.1 (goodAll (ws := (.code y bs1 mL1 none :: gw)) (fun w hw => by
      rcases List.mem_cons.mp hw with e | e
      · rw [e]; exact gc
      · exact e)) rfl rfl rfl (C.2.2.2.2.2.2.2.2.2.2.2.2.2 _ gl) (C.2.2.2.2.2.2.1 _ gi) gy (rmd_le hd)
    have cw := And.intro cb (And.intro (C.2.2.2.2.2.2.1 _ gm) (C.2.2.2.2.2.2.1 _ gs))
    have hroom : 2 * (F0 m pc ls ((As.reverse ++ .ref b :: st).map (cv ad))).monitorRoom + ((st.map (cv ad)).map (fun v => v.category)).sum ≤ 8 := lv_room (by rw [sum_cv]; exact hst)
    refine va_callv (A1 := A) (va_runVN (C := y.cls) (As := As.map (cv ad)) (rest := st.map (cv ad)) (Ts := gw) (own := own) ⟨C.1, C.2.1, C.2.2.1, C.2.2.2.2.2.1, C.2.2.2.2.2.2.1⟩ hMt cw ⟨ctBlind, hR D T ad A s H s0 locs C.2.2.2.2.2.2.2.1 hP hS C.2.2.2.2.2.2.2.2, fun U hU hW1 => ⟨rfl, ⟨by rw [hU]; exact hP, va_K.moved hW1.alike C.2.2.2.2.2.2.2.1, hD⟩, SX.call C.2.2.2.2.2.2.2.2 hS hU hW1⟩⟩ rfl (by rw [List.length_map]; exact hn) hl.1 (by simp [cv]) hroom h ⟨Nat.le_refl 0, Nat.le_refl 0⟩) hS (fun _ _ z => z) (fun _ z => z) (fun u t H1 locs1 ht hvm hw hB hz1 hk1 hS1 => ?_)
    obtain ⟨b1, b2, b3⟩ := hB
    rw [ht] at b1
    exact kk r1 s2 r s1 he p en s m args below meth c D T ad A H1 locs1 ls C b1 b3 hS1 hl
theorem r_callSNi {ty : FieldType} {y : MethodName} {bs1 : ByteArray} {mL1 d1 idx n : Nat} {As : List Value} {e1 : Res} {k : Int32 → SS → Res} (G : LTN own idx y bs1 mL1 (some ty) n) (hM : Ct l wl y bs1 mL1 (some ty) d1 As s0 e1) (hs : stk = As.reverse ++ st) (hn : As.length = n) (hd : d1 + 1 ≤ d ∧ mL1 ≤ 21) (hst : (st.map (fun v => v.category)).sum ≤ 8) (h : decode bs pc = .ok (.invokestatic idx, 3)) (hp : pc + 3 = pc1) (kk : ∀ (r : Int32) (s2 : SS), RC l wl own bs mL rt d pc1 L (.int r :: st) s2 (k r s2)) : RC l wl own bs mL rt d pc L stk s0 (bd e1 k) := by
  subst hp; subst hs
  intro r s1 he p en s m args below meth c D T ad A H locs ls C hP hD hS hl
  cases he1 : e1 with
  | none =>
    rw [he1] at he
    cases he
  | some q =>
    obtain ⟨r1, s2⟩ := q
    rw [he1] at he
    have he : k r1 s2 = some (r, s1) := he
    have hMt := hM r1 s2 he1 D T ad A
    obtain ⟨⟨gi, gc, gy⟩, gl, gm⟩ := G
    obtain ⟨host, gl⟩ := gl
    have cb := va_cnB (R := rmd d) (rm := rmd d1) (own := own) (host := host) (index := idx) n C.2.2.2.2.2.2.1 (goodAll (ws := (.code y bs1 mL1 (some ty) :: gw)) (fun w hw => by
      rcases List.mem_cons.mp hw with e | e
      · rw [e]; exact gc
      · exact e)) rfl rfl rfl (C.2.2.2.2.2.2.2.2.2.2.2.2.2 _ gl) (C.2.2.2.2.2.2.1 _ gi) gy (rmd_le hd)
    have cw := And.intro cb (And.intro (C.2.2.2.2.2.2.1 _ gm) True.intro)
    have hroom : 2 * (F0 m pc ls ((As.reverse ++ st).map (cv ad))).monitorRoom + ((st.map (cv ad)).map (fun v => v.category)).sum ≤ 8 := lv_room (by rw [sum_cv]; exact hst)
    refine va_calli (A1 := A) (va_runSN (As := As.map (cv ad)) (rest := st.map (cv ad)) (Ts := gw) (own := own) ⟨C.1, C.2.1, C.2.2.1, C.2.2.2.2.2.1, C.2.2.2.2.2.2.1⟩ hMt cw ⟨ctBlind, fun U hU hW1 => ⟨rfl, ⟨by rw [hU]; exact hP, va_K.moved hW1.alike C.2.2.2.2.2.2.2.1, hD⟩, SX.call C.2.2.2.2.2.2.2.2 hS hU hW1⟩⟩ rfl (by rw [List.length_map]; exact hn) hl.1 (by simp) hroom h ⟨Nat.le_refl 0, Nat.le_refl 0⟩) hS (fun _ _ z => z) (fun _ z => z) (fun rr u t H1 locs1 ht hvm hw hB hz1 hk1 hS1 => ?_)
    obtain rfl := hw
    obtain ⟨b1, b2, b3⟩ := hB
    rw [ht] at b1
    exact kk rr s2 r s1 he p en s m args below meth c D T ad A H1 locs1 ls C b1 b3 hS1 hl
theorem r_callSNv {y : MethodName} {bs1 : ByteArray} {mL1 d1 idx n : Nat} {As : List Value} {e1 : Res} {k : Int32 → SS → Res} (G : LTN own idx y bs1 mL1 none n) (hM : Ct l wl y bs1 mL1 none d1 As s0 e1) (hs : stk = As.reverse ++ st) (hn : As.length = n) (hd : d1 + 1 ≤ d ∧ mL1 ≤ 21) (hst : (st.map (fun v => v.category)).sum ≤ 8) (h : decode bs pc = .ok (.invokestatic idx, 3)) (hp : pc + 3 = pc1) (kk : ∀ (r : Int32) (s2 : SS), RC l wl own bs mL rt d pc1 L st s2 (k r s2)) : RC l wl own bs mL rt d pc L stk s0 (bd e1 k) := by
  subst hp; subst hs
  intro r s1 he p en s m args below meth c D T ad A H locs ls C hP hD hS hl
  cases he1 : e1 with
  | none =>
    rw [he1] at he
    cases he
  | some q =>
    obtain ⟨r1, s2⟩ := q
    rw [he1] at he
    have he : k r1 s2 = some (r, s1) := he
    have hMt := hM r1 s2 he1 D T ad A
    obtain ⟨⟨gi, gc, gy⟩, gl, gm⟩ := G
    obtain ⟨host, gl⟩ := gl
    have cb := va_cnB (R := rmd d) (rm := rmd d1) (own := own) (host := host) (index := idx) n C.2.2.2.2.2.2.1 (goodAll (ws := (.code y bs1 mL1 none :: gw)) (fun w hw => by
      rcases List.mem_cons.mp hw with e | e
      · rw [e]; exact gc
      · exact e)) rfl rfl rfl (C.2.2.2.2.2.2.2.2.2.2.2.2.2 _ gl) (C.2.2.2.2.2.2.1 _ gi) gy (rmd_le hd)
    have cw := And.intro cb (And.intro (C.2.2.2.2.2.2.1 _ gm) True.intro)
    have hroom : 2 * (F0 m pc ls ((As.reverse ++ st).map (cv ad))).monitorRoom + ((st.map (cv ad)).map (fun v => v.category)).sum ≤ 8 := lv_room (by rw [sum_cv]; exact hst)
    refine va_callv (A1 := A) (va_runSN (As := As.map (cv ad)) (rest := st.map (cv ad)) (Ts := gw) (own := own) ⟨C.1, C.2.1, C.2.2.1, C.2.2.2.2.2.1, C.2.2.2.2.2.2.1⟩ hMt cw ⟨ctBlind, fun U hU hW1 => ⟨rfl, ⟨by rw [hU]; exact hP, va_K.moved hW1.alike C.2.2.2.2.2.2.2.1, hD⟩, SX.call C.2.2.2.2.2.2.2.2 hS hU hW1⟩⟩ rfl (by rw [List.length_map]; exact hn) hl.1 (by simp) hroom h ⟨Nat.le_refl 0, Nat.le_refl 0⟩) hS (fun _ _ z => z) (fun _ z => z) (fun u t H1 locs1 ht hvm hw hB hz1 hk1 hS1 => ?_)
    obtain ⟨b1, b2, b3⟩ := hB
    rw [ht] at b1
    exact kk r1 s2 r s1 he p en s m args below meth c D T ad A H1 locs1 ls C b1 b3 hS1 hl
theorem r_callVp {ty : FieldType} {b : Nat} {y : MethodName} {bs1 : ByteArray} {mL1 d1 idx n : Nat} {As : List Value} {e1 : Option Int32} {k : Int32 → Res} (hR : RV wl b y.cls) (G : LV own idx y bs1 mL1 (some ty) n) (hM : Ct l wl y bs1 mL1 (some ty) d1 (.ref b :: As) s0 (pu e1 s0)) (hs : stk = As.reverse ++ .ref b :: st) (hn : As.length = n) (hd : d1 + 1 ≤ d ∧ mL1 ≤ 21) (hst : (st.map (fun v => v.category)).sum ≤ 8) (h : decode bs pc = .ok (.invokevirtual idx, 3)) (hp : pc + 3 = pc1) (kk : ∀ (r : Int32), RC l wl own bs mL rt d pc1 L (.int r :: st) s0 (k r)) : RC l wl own bs mL rt d pc L stk s0 (bdp e1 k) := by
  subst hp; subst hs
  intro r s1 he p en s m args below meth c D T ad A H locs ls C hP hD hS hl
  cases he1 : e1 with
  | none =>
    rw [he1] at he
    cases he
  | some q =>
    rw [he1] at he
    have he : k q = some (r, s1) := he
    have hMt := hM q s0 (by rw [he1]; rfl) D T ad A
    obtain ⟨⟨gi, gc, gy⟩, gl, gm, gs⟩ := G
    have cw := cwV (R := rmd d) (rm := rmd d1) n C.2.2.2.2.2.2.1 (goodAll (ws := wsV own idx y.cls y (.code y bs1 mL1 (some ty) :: gw)) (fun w hw => by
      rcases List.mem_append.mp hw with z | z
      · simp only [List.mem_cons, List.not_mem_nil, or_false] at z
        rcases z with rfl | rfl | rfl | rfl <;> assumption
      · rcases List.mem_cons.mp z with e | e
        · rw [e]; exact gc
        · exact e)) rfl rfl rfl ⟨rfl, gy⟩ (rmd_le hd)
    have hroom : 2 * (F0 m pc ls ((As.reverse ++ .ref b :: st).map (cv ad))).monitorRoom + ((st.map (cv ad)).map (fun v => v.category)).sum ≤ 8 := lv_room (by rw [sum_cv]; exact hst)
    refine va_calli (A1 := A) (va_runV (C := y.cls) (As := As.map (cv ad)) (rest := st.map (cv ad)) (Ts := gw) (own := own) ⟨C.1, C.2.1, C.2.2.1, C.2.2.2.2.2.1, C.2.2.2.2.2.2.1⟩ hMt cw ⟨ctBlind, hR D T ad A s H s0 locs C.2.2.2.2.2.2.2.1 hP hS C.2.2.2.2.2.2.2.2, fun U hU hW1 => ⟨rfl, ⟨by rw [hU]; exact hP, va_K.moved hW1.alike C.2.2.2.2.2.2.2.1, hD⟩, SX.call C.2.2.2.2.2.2.2.2 hS hU hW1⟩⟩ rfl (by rw [List.length_map]; exact hn) hl.1 (by simp [cv]) hroom h ⟨Nat.le_refl 0, Nat.le_refl 0⟩) hS (fun _ _ z => z) (fun _ z => z) (fun rr u t H1 locs1 ht hvm hw hB hz1 hk1 hS1 => ?_)
    obtain rfl := hw
    obtain ⟨b1, b2, b3⟩ := hB
    rw [ht] at b1
    exact kk rr r s1 he p en s m args below meth c D T ad A H1 locs1 ls C b1 b3 hS1 hl
theorem p_callVp {ty : FieldType} {b : Nat} {y : MethodName} {bs1 : ByteArray} {mL1 d1 idx n : Nat} {As : List Value} {e1 : Option Int32} {k : Int32 → Option Int32} (hR : RV wl b y.cls) (G : LV own idx y bs1 mL1 (some ty) n) (hM : Ct l wl y bs1 mL1 (some ty) d1 (.ref b :: As) s0 (pu e1 s0)) (hs : stk = As.reverse ++ .ref b :: st) (hn : As.length = n) (hd : d1 + 1 ≤ d ∧ mL1 ≤ 21) (hst : (st.map (fun v => v.category)).sum ≤ 8) (h : decode bs pc = .ok (.invokevirtual idx, 3)) (hp : pc + 3 = pc1) (kk : ∀ (r : Int32), RC l wl own bs mL rt d pc1 L (.int r :: st) s0 (pu (k r) s0)) : RC l wl own bs mL rt d pc L stk s0 (pu (bdp e1 k) s0) := by
  rw [pu_bdp]
  exact r_callVp hR G hM hs hn hd hst h hp kk
theorem r_callSp {ty : FieldType} {y : MethodName} {bs1 : ByteArray} {mL1 d1 idx n : Nat} {As : List Value} {e1 : Option Int32} {k : Int32 → Res} (G : LT own idx y bs1 mL1 (some ty) n) (hM : Ct l wl y bs1 mL1 (some ty) d1 As s0 (pu e1 s0)) (hs : stk = As.reverse ++ st) (hn : As.length = n) (hd : d1 + 1 ≤ d ∧ mL1 ≤ 21) (hst : (st.map (fun v => v.category)).sum ≤ 8) (h : decode bs pc = .ok (.invokestatic idx, 3)) (hp : pc + 3 = pc1) (kk : ∀ (r : Int32), RC l wl own bs mL rt d pc1 L (.int r :: st) s0 (k r)) : RC l wl own bs mL rt d pc L stk s0 (bdp e1 k) := by
  subst hp; subst hs
  intro r s1 he p en s m args below meth c D T ad A H locs ls C hP hD hS hl
  cases he1 : e1 with
  | none =>
    rw [he1] at he
    cases he
  | some q =>
    rw [he1] at he
    have he : k q = some (r, s1) := he
    have hMt := hM q s0 (by rw [he1]; rfl) D T ad A
    obtain ⟨⟨gi, gc, gy⟩, gl, gm⟩ := G
    have cw := va_cwS (R := rmd d) (rm := rmd d1) n C.2.2.2.2.2.2.1 (goodAll (ws := va_wsS own idx y (.code y bs1 mL1 (some ty) :: gw)) (fun w hw => by
      rcases List.mem_append.mp hw with z | z
      · simp only [List.mem_cons, List.not_mem_nil, or_false] at z
        rcases z with rfl | rfl | rfl <;> assumption
      · rcases List.mem_cons.mp z with e | e
        · rw [e]; exact gc
        · exact e)) rfl rfl rfl gy (rmd_le hd)
    have hroom : 2 * (F0 m pc ls ((As.reverse ++ st).map (cv ad))).monitorRoom + ((st.map (cv ad)).map (fun v => v.category)).sum ≤ 8 := lv_room (by rw [sum_cv]; exact hst)
    refine va_calli (A1 := A) (va_runS (As := As.map (cv ad)) (rest := st.map (cv ad)) (Ts := gw) (own := own) ⟨C.1, C.2.1, C.2.2.1, C.2.2.2.2.2.1, C.2.2.2.2.2.2.1⟩ hMt cw ⟨ctBlind, fun U hU hW1 => ⟨rfl, ⟨by rw [hU]; exact hP, va_K.moved hW1.alike C.2.2.2.2.2.2.2.1, hD⟩, SX.call C.2.2.2.2.2.2.2.2 hS hU hW1⟩⟩ rfl (by rw [List.length_map]; exact hn) hl.1 (by simp) hroom h ⟨Nat.le_refl 0, Nat.le_refl 0⟩) hS (fun _ _ z => z) (fun _ z => z) (fun rr u t H1 locs1 ht hvm hw hB hz1 hk1 hS1 => ?_)
    obtain rfl := hw
    obtain ⟨b1, b2, b3⟩ := hB
    rw [ht] at b1
    exact kk rr r s1 he p en s m args below meth c D T ad A H1 locs1 ls C b1 b3 hS1 hl
theorem p_callSp {ty : FieldType} {y : MethodName} {bs1 : ByteArray} {mL1 d1 idx n : Nat} {As : List Value} {e1 : Option Int32} {k : Int32 → Option Int32} (G : LT own idx y bs1 mL1 (some ty) n) (hM : Ct l wl y bs1 mL1 (some ty) d1 As s0 (pu e1 s0)) (hs : stk = As.reverse ++ st) (hn : As.length = n) (hd : d1 + 1 ≤ d ∧ mL1 ≤ 21) (hst : (st.map (fun v => v.category)).sum ≤ 8) (h : decode bs pc = .ok (.invokestatic idx, 3)) (hp : pc + 3 = pc1) (kk : ∀ (r : Int32), RC l wl own bs mL rt d pc1 L (.int r :: st) s0 (pu (k r) s0)) : RC l wl own bs mL rt d pc L stk s0 (pu (bdp e1 k) s0) := by
  rw [pu_bdp]
  exact r_callSp G hM hs hn hd hst h hp kk
theorem r_callVNp {ty : FieldType} {b : Nat} {y : MethodName} {bs1 : ByteArray} {mL1 d1 idx n : Nat} {As : List Value} {e1 : Option Int32} {k : Int32 → Res} (hR : RV wl b y.cls) (G : LVN own idx y bs1 mL1 (some ty) n) (hM : Ct l wl y bs1 mL1 (some ty) d1 (.ref b :: As) s0 (pu e1 s0)) (hs : stk = As.reverse ++ .ref b :: st) (hn : As.length = n) (hd : d1 + 1 ≤ d ∧ mL1 ≤ 21) (hst : (st.map (fun v => v.category)).sum ≤ 8) (h : decode bs pc = .ok (.invokevirtual idx, 3)) (hp : pc + 3 = pc1) (kk : ∀ (r : Int32), RC l wl own bs mL rt d pc1 L (.int r :: st) s0 (k r)) : RC l wl own bs mL rt d pc L stk s0 (bdp e1 k) := by
  subst hp; subst hs
  intro r s1 he p en s m args below meth c D T ad A H locs ls C hP hD hS hl
  cases he1 : e1 with
  | none =>
    rw [he1] at he
    cases he
  | some q =>
    rw [he1] at he
    have he : k q = some (r, s1) := he
    have hMt := hM q s0 (by rw [he1]; rfl) D T ad A
    obtain ⟨⟨gi, gc, gy⟩, gl, gm, gs⟩ := G
    obtain ⟨host, gl⟩ := gl
    have cb := va_cnB (R := rmd d) (rm := rmd d1) (own := own) (host := host) (index := idx) n C.2.2.2.2.2.2.1 (goodAll (ws := (.code y bs1 mL1 (some ty) :: gw)) (fun w hw => by
      rcases List.mem_cons.mp hw with e | e
      · rw [e]; exact gc
      · exact e)) rfl rfl rfl (C.2.2.2.2.2.2.2.2.2.2.2.2.2 _ gl) (C.2.2.2.2.2.2.1 _ gi) gy (rmd_le hd)
    have cw := And.intro cb (And.intro (C.2.2.2.2.2.2.1 _ gm) (C.2.2.2.2.2.2.1 _ gs))
    have hroom : 2 * (F0 m pc ls ((As.reverse ++ .ref b :: st).map (cv ad))).monitorRoom + ((st.map (cv ad)).map (fun v => v.category)).sum ≤ 8 := lv_room (by rw [sum_cv]; exact hst)
    refine va_calli (A1 := A) (va_runVN (C := y.cls) (As := As.map (cv ad)) (rest := st.map (cv ad)) (Ts := gw) (own := own) ⟨C.1, C.2.1, C.2.2.1, C.2.2.2.2.2.1, C.2.2.2.2.2.2.1⟩ hMt cw ⟨ctBlind, hR D T ad A s H s0 locs C.2.2.2.2.2.2.2.1 hP hS C.2.2.2.2.2.2.2.2, fun U hU hW1 => ⟨rfl, ⟨by rw [hU]; exact hP, va_K.moved hW1.alike C.2.2.2.2.2.2.2.1, hD⟩, SX.call C.2.2.2.2.2.2.2.2 hS hU hW1⟩⟩ rfl (by rw [List.length_map]; exact hn) hl.1 (by simp [cv]) hroom h ⟨Nat.le_refl 0, Nat.le_refl 0⟩) hS (fun _ _ z => z) (fun _ z => z) (fun rr u t H1 locs1 ht hvm hw hB hz1 hk1 hS1 => ?_)
    obtain rfl := hw
    obtain ⟨b1, b2, b3⟩ := hB
    rw [ht] at b1
    exact kk rr r s1 he p en s m args below meth c D T ad A H1 locs1 ls C b1 b3 hS1 hl
theorem p_callVNp {ty : FieldType} {b : Nat} {y : MethodName} {bs1 : ByteArray} {mL1 d1 idx n : Nat} {As : List Value} {e1 : Option Int32} {k : Int32 → Option Int32} (hR : RV wl b y.cls) (G : LVN own idx y bs1 mL1 (some ty) n) (hM : Ct l wl y bs1 mL1 (some ty) d1 (.ref b :: As) s0 (pu e1 s0)) (hs : stk = As.reverse ++ .ref b :: st) (hn : As.length = n) (hd : d1 + 1 ≤ d ∧ mL1 ≤ 21) (hst : (st.map (fun v => v.category)).sum ≤ 8) (h : decode bs pc = .ok (.invokevirtual idx, 3)) (hp : pc + 3 = pc1) (kk : ∀ (r : Int32), RC l wl own bs mL rt d pc1 L (.int r :: st) s0 (pu (k r) s0)) : RC l wl own bs mL rt d pc L stk s0 (pu (bdp e1 k) s0) := by
  rw [pu_bdp]
  exact r_callVNp hR G hM hs hn hd hst h hp kk
theorem r_callSNp {ty : FieldType} {y : MethodName} {bs1 : ByteArray} {mL1 d1 idx n : Nat} {As : List Value} {e1 : Option Int32} {k : Int32 → Res} (G : LTN own idx y bs1 mL1 (some ty) n) (hM : Ct l wl y bs1 mL1 (some ty) d1 As s0 (pu e1 s0)) (hs : stk = As.reverse ++ st) (hn : As.length = n) (hd : d1 + 1 ≤ d ∧ mL1 ≤ 21) (hst : (st.map (fun v => v.category)).sum ≤ 8) (h : decode bs pc = .ok (.invokestatic idx, 3)) (hp : pc + 3 = pc1) (kk : ∀ (r : Int32), RC l wl own bs mL rt d pc1 L (.int r :: st) s0 (k r)) : RC l wl own bs mL rt d pc L stk s0 (bdp e1 k) := by
  subst hp; subst hs
  intro r s1 he p en s m args below meth c D T ad A H locs ls C hP hD hS hl
  cases he1 : e1 with
  | none =>
    rw [he1] at he
    cases he
  | some q =>
    rw [he1] at he
    have he : k q = some (r, s1) := he
    have hMt := hM q s0 (by rw [he1]; rfl) D T ad A
    obtain ⟨⟨gi, gc, gy⟩, gl, gm⟩ := G
    obtain ⟨host, gl⟩ := gl
    have cb := va_cnB (R := rmd d) (rm := rmd d1) (own := own) (host := host) (index := idx) n C.2.2.2.2.2.2.1 (goodAll (ws := (.code y bs1 mL1 (some ty) :: gw)) (fun w hw => by
      rcases List.mem_cons.mp hw with e | e
      · rw [e]; exact gc
      · exact e)) rfl rfl rfl (C.2.2.2.2.2.2.2.2.2.2.2.2.2 _ gl) (C.2.2.2.2.2.2.1 _ gi) gy (rmd_le hd)
    have cw := And.intro cb (And.intro (C.2.2.2.2.2.2.1 _ gm) True.intro)
    have hroom : 2 * (F0 m pc ls ((As.reverse ++ st).map (cv ad))).monitorRoom + ((st.map (cv ad)).map (fun v => v.category)).sum ≤ 8 := lv_room (by rw [sum_cv]; exact hst)
    refine va_calli (A1 := A) (va_runSN (As := As.map (cv ad)) (rest := st.map (cv ad)) (Ts := gw) (own := own) ⟨C.1, C.2.1, C.2.2.1, C.2.2.2.2.2.1, C.2.2.2.2.2.2.1⟩ hMt cw ⟨ctBlind, fun U hU hW1 => ⟨rfl, ⟨by rw [hU]; exact hP, va_K.moved hW1.alike C.2.2.2.2.2.2.2.1, hD⟩, SX.call C.2.2.2.2.2.2.2.2 hS hU hW1⟩⟩ rfl (by rw [List.length_map]; exact hn) hl.1 (by simp) hroom h ⟨Nat.le_refl 0, Nat.le_refl 0⟩) hS (fun _ _ z => z) (fun _ z => z) (fun rr u t H1 locs1 ht hvm hw hB hz1 hk1 hS1 => ?_)
    obtain rfl := hw
    obtain ⟨b1, b2, b3⟩ := hB
    rw [ht] at b1
    exact kk rr r s1 he p en s m args below meth c D T ad A H1 locs1 ls C b1 b3 hS1 hl
theorem p_callSNp {ty : FieldType} {y : MethodName} {bs1 : ByteArray} {mL1 d1 idx n : Nat} {As : List Value} {e1 : Option Int32} {k : Int32 → Option Int32} (G : LTN own idx y bs1 mL1 (some ty) n) (hM : Ct l wl y bs1 mL1 (some ty) d1 As s0 (pu e1 s0)) (hs : stk = As.reverse ++ st) (hn : As.length = n) (hd : d1 + 1 ≤ d ∧ mL1 ≤ 21) (hst : (st.map (fun v => v.category)).sum ≤ 8) (h : decode bs pc = .ok (.invokestatic idx, 3)) (hp : pc + 3 = pc1) (kk : ∀ (r : Int32), RC l wl own bs mL rt d pc1 L (.int r :: st) s0 (pu (k r) s0)) : RC l wl own bs mL rt d pc L stk s0 (pu (bdp e1 k) s0) := by
  rw [pu_bdp]
  exact r_callSNp G hM hs hn hd hst h hp kk
end RCcalls
/-- Math's three, System.arraycopy, the text FACTS, switches -/
def ML (own : String) (idx : Nat) (y : MethodName) (bs : ByteArray) (mL : Nat) : Prop := Cond.methodLink own idx y ∈ gw ∧ Cond.static y ∈ gw ∧ Cond.initialized "java/lang/Math" ∈ gw ∧ Cond.code y bs mL (some .int) ∈ gw
def CK (own : String) (idx : Nat) : Prop := Cond.methodLink own idx arraycopyName ∈ gw ∧ Cond.native arraycopyName ∈ gw ∧ Cond.static arraycopyName ∈ gw ∧ Cond.initialized "java/lang/System" ∈ gw
section RCmore
variable {l : Launch} {wl : WT} {own : String} {bs : ByteArray} {mL : Nat} {rt : Option FieldType} {d pc pc1 : Nat} {L st : List Value} {s0 : SS} {e : Res}

theorem r_mmax {x y : Int32} {idx : Nat} (G : ML own idx Lib.Math.max.name Lib.Math.max.code 2) (hd : 1 ≤ d) (h : decode bs pc = .ok (.invokestatic idx, 3)) (hp : pc + 3 = pc1) (hst : (st.map (fun v => v.category)).sum ≤ 8) (k : RC l wl own bs mL rt d pc1 L (.int (if x < y then y else x) :: st) s0 e) : RC l wl own bs mL rt d pc L (.int y :: .int x :: st) s0 e := by
  subst hp
  intro r s1 he p en s m args below meth c D T ad A H locs ls C hP hD hS hl
  obtain ⟨g1, g2, g3, g4⟩ := G
  have hq := sum_cv ad st
  refine va_mmax C.1 C.2.1 (C.2.2.1.trans hl.1.symm) C.2.2.2.2.2.1 (C.2.2.2.2.2.2.1 _ g1) (C.2.2.2.2.2.2.1 _ g2) (C.2.2.2.2.2.2.1 _ g3) (C.2.2.2.2.2.2.1 _ g4) (show 1 ≤ d from hd) (show _ + 13 ≤ 40 * d by omega) (Nat.le_refl _) (Nat.le_refl _) h ?_
  exact (k r s1 he p en s m args below meth c D T ad A H locs ls C hP hD hS hl)
theorem r_mmin {x y : Int32} {idx : Nat} (G : ML own idx Lib.Math.min.name Lib.Math.min.code 2) (hd : 1 ≤ d) (h : decode bs pc = .ok (.invokestatic idx, 3)) (hp : pc + 3 = pc1) (hst : (st.map (fun v => v.category)).sum ≤ 8) (k : RC l wl own bs mL rt d pc1 L (.int (if y < x then y else x) :: st) s0 e) : RC l wl own bs mL rt d pc L (.int y :: .int x :: st) s0 e := by
  subst hp
  intro r s1 he p en s m args below meth c D T ad A H locs ls C hP hD hS hl
  obtain ⟨g1, g2, g3, g4⟩ := G
  have hq := sum_cv ad st
  refine va_mmin C.1 C.2.1 (C.2.2.1.trans hl.1.symm) C.2.2.2.2.2.1 (C.2.2.2.2.2.2.1 _ g1) (C.2.2.2.2.2.2.1 _ g2) (C.2.2.2.2.2.2.1 _ g3) (C.2.2.2.2.2.2.1 _ g4) (show 1 ≤ d from hd) (show _ + 13 ≤ 40 * d by omega) (Nat.le_refl _) (Nat.le_refl _) h ?_
  exact (k r s1 he p en s m args below meth c D T ad A H locs ls C hP hD hS hl)
theorem r_mabs {x : Int32} {idx : Nat} (G : ML own idx Lib.Math.abs.name Lib.Math.abs.code 1) (hd : 1 ≤ d) (h : decode bs pc = .ok (.invokestatic idx, 3)) (hp : pc + 3 = pc1) (hst : (st.map (fun v => v.category)).sum ≤ 8) (k : RC l wl own bs mL rt d pc1 L (.int (if 0 ≤ x then x else 0 - x) :: st) s0 e) : RC l wl own bs mL rt d pc L (.int x :: st) s0 e := by
  subst hp
  intro r s1 he p en s m args below meth c D T ad A H locs ls C hP hD hS hl
  obtain ⟨g1, g2, g3, g4⟩ := G
  have hq := sum_cv ad st
  refine va_mabs C.1 C.2.1 (C.2.2.1.trans hl.1.symm) C.2.2.2.2.2.1 (C.2.2.2.2.2.2.1 _ g1) (C.2.2.2.2.2.2.1 _ g2) (C.2.2.2.2.2.2.1 _ g3) (C.2.2.2.2.2.2.1 _ g4) (show 1 ≤ d from hd) (show _ + 13 ≤ 40 * d by omega) (Nat.le_refl _) (Nat.le_refl _) h ?_
  exact (k r s1 he p en s m args below meth c D T ad A H locs ls C hP hD hS hl)
theorem r_copy {k0 k1 N idx : Nat} {n : Int32} (hW0 : WI wl k0 (AE 0 N)) (hW1 : WI wl k1 (AE 0 N)) (G : CK own idx) (hd : 1 ≤ d) (hN : n.toNatClampNeg = N ∧ ¬ n < 0) (h : decode bs pc = .ok (.invokestatic idx, 3)) (hp : pc + 3 = pc1) (k : RC l wl own bs mL rt d pc1 L [] (upr s0 k1 (va_cpy (s0 k0) (s0 k1) 0 0 N)) e) : RC l wl own bs mL rt d pc L [.int n, .int 0, .ref k1, .int 0, .ref k0] s0 e := by
  subst hp
  intro r s1 he p en s m args below meth c D T ad A H locs ls C hP hD hS hl
  obtain ⟨q0, hg0, -⟩ := hW0
  obtain ⟨q1, hg1, hs1⟩ := hW1
  obtain ⟨g1, g2, g3, g4⟩ := G
  obtain ⟨hN, hn⟩ := hN
  subst hN
  refine va_copyi C.1 C.2.1 (C.2.2.1.trans hl.1.symm) C.2.2.2.2.2.1 (C.2.2.2.2.2.2.1 _ g1) (C.2.2.2.2.2.2.1 _ g2) (C.2.2.2.2.2.2.1 _ g3) (C.2.2.2.2.2.2.1 _ g4) C.2.2.2.2.2.2.2.1 hP hD hS q0 q1 0 0 (hg0 T ad s0) (hg1 T ad s0) rfl rfl rfl (by decide) (by decide) hn (by show (0 : Int32).toNatClampNeg + _ ≤ _; rw [show (0 : Int32).toNatClampNeg = 0 from rfl]; omega) (by show (0 : Int32).toNatClampNeg + _ ≤ _; rw [show (0 : Int32).toNatClampNeg = 0 from rfl]; omega) (fun _ _ => rfl) (show 1 ≤ d from hd) ?_ h (fun H1 locs1 a1 a2 a3 => ?_)
  · show 0 + (nativeFrameWords "java/lang/System" "arraycopy" 5 + 11) ≤ 40 * d
    have : nativeFrameWords "java/lang/System" "arraycopy" 5 ≤ 29 := by decide
    omega
  · have hws : (wl T ad s0).set q1 (ad k1, .inl (T 0, n.toNatClampNeg, .inl (va_cpy (s0 k0) (s0 k1) (0 : Int32).toNatClampNeg (0 : Int32).toNatClampNeg n.toNatClampNeg))) = wl T ad (upr s0 k1 (va_cpy (s0 k0) (s0 k1) 0 0 n.toNatClampNeg)) := hs1 T ad s0 (va_cpy (s0 k0) (s0 k1) 0 0 n.toNatClampNeg)
    rw [hws] at a1 a2
    exact k r s1 he p en s m args below meth c D T ad A H1 locs1 ls C a1 a2 a3 hl
theorem r_look {dflt off : Int} {ps : Array (Int × Int)} {len tgt : Nat} {x : Int32} (h : decode bs pc = .ok (.lookupswitch dflt ps, len)) (hp : (ps.toList.zip (ps.toList.drop 1)).all (fun (a, next) => a.1 < next.1) = true) (ho : Op.lookupswitch.offset ps.toList dflt x.toInt = off) (ht : (pc : Int) + off = (tgt : Int)) (k : RC l wl own bs mL rt d tgt L st s0 e) : RC l wl own bs mL rt d pc L (.int x :: st) s0 e := by
  intro r s1 he p en s m args below meth c D T ad A H locs ls C hP hD hS hl
  exact lv_lookup C.1 C.2.1 h hp ho ht (k r s1 he p en s m args below meth c D T ad A H locs ls C hP hD hS hl)
theorem r_tabOut {dflt lo hi : Int} {offs : Array Int} {len tgt : Nat} {x : Int32} (h : decode bs pc = .ok (.tableswitch dflt lo hi offs, len)) (hq : x.toInt < lo ∨ hi < x.toInt) (ht : (pc : Int) + dflt = (tgt : Int)) (k : RC l wl own bs mL rt d tgt L st s0 e) : RC l wl own bs mL rt d pc L (.int x :: st) s0 e := by
  intro r s1 he p en s m args below meth c D T ad A H locs ls C hP hD hS hl
  exact lv_tableOut C.1 C.2.1 h hq ht (k r s1 he p en s m args below meth c D T ad A H locs ls C hP hD hS hl)
theorem r_tabIn {dflt lo hi off : Int} {offs : Array Int} {len tgt : Nat} {x : Int32} (h : decode bs pc = .ok (.tableswitch dflt lo hi offs, len)) (h1 : ¬ x.toInt < lo) (h2 : ¬ hi < x.toInt) (ho : offs[(x.toInt - lo).toNat]? = some off) (ht : (pc : Int) + off = (tgt : Int)) (k : RC l wl own bs mL rt d tgt L st s0 e) : RC l wl own bs mL rt d pc L (.int x :: st) s0 e := by
  intro r s1 he p en s m args below meth c D T ad A H locs ls C hP hD hS hl
  exact lv_tableIn C.1 C.2.1 h h1 h2 ho ht (k r s1 he p en s m args below meth c D T ad A H locs ls C hP hD hS hl)
theorem r_ite {g : Prop} [Decidable g] {e1 e2 : Res} (k1 : g → RC l wl own bs mL rt d pc L st s0 e1) (k2 : ¬ g → RC l wl own bs mL rt d pc L st s0 e2) : RC l wl own bs mL rt d pc L st s0 (if g then e1 else e2) := by
  by_cases hg : g
  · rw [if_pos hg]; exact k1 hg
  · rw [if_neg hg]; exact k2 hg
theorem p_ite {g : Prop} [Decidable g] {e1 e2 : Option Int32} (k1 : g → RC l wl own bs mL rt d pc L st s0 (pu e1 s0)) (k2 : ¬ g → RC l wl own bs mL rt d pc L st s0 (pu e2 s0)) : RC l wl own bs mL rt d pc L st s0 (pu (if g then e1 else e2) s0) := by
  by_cases hg : g
  · rw [if_pos hg]; exact k1 hg
  · rw [if_neg hg]; exact k2 hg
theorem r_facts (h : decode bs pc = .ok (.ldc 114, 2)) (hp : pc + 2 = pc1) (k : RC l wl RX4 bs mL rt d pc1 L (.ref 1001 :: st) s0 e) : RC l wl RX4 bs mL rt d pc L st s0 e := by
  subst hp
  intro r s1 he p en s m args below meth c D T ad A H locs ls C hP hD hS hl
  exact va_ldcS C.1 C.2.1 C.2.2.2.2.2.1 C.2.2.2.2.2.2.2.2.2.2.2.1 h (k r s1 he p en s m args below meth c D T ad A H locs ls C hP hD hS hl)
theorem r_strV {idx : Nat} (hc : Cond.fieldLink own idx "java/lang/String" "value" "[B" ∈ gw) (h : decode bs pc = .ok (.getfield idx, 3)) (hp : pc + 3 = pc1) (k : RC l wl own bs mL rt d pc1 L (.ref 1002 :: st) s0 e) : RC l wl own bs mL rt d pc L (.ref 1001 :: st) s0 e := by
  subst hp
  intro r s1 he p en s m args below meth c D T ad A H locs ls C hP hD hS hl
  exact vk_getf C.1 C.2.1 (C.2.2.2.2.2.2.2.2.2.2.2.2.1.1 0 (by decide)).2.2.1 hS C.2.2.2.2.2.1 (C.2.2.2.2.2.2.1 _ hc) (fun _ hx => hx) h (k r s1 he p en s m args below meth c D T ad A H locs ls C hP hD hS hl)
theorem r_strC {idx : Nat} (hc : Cond.fieldLink own idx "java/lang/String" "coder" "B" ∈ gw) (h : decode bs pc = .ok (.getfield idx, 3)) (hp : pc + 3 = pc1) (k : RC l wl own bs mL rt d pc1 L (.int 0 :: st) s0 e) : RC l wl own bs mL rt d pc L (.ref 1001 :: st) s0 e := by
  subst hp
  intro r s1 he p en s m args below meth c D T ad A H locs ls C hP hD hS hl
  exact vk_getf C.1 C.2.1 (C.2.2.2.2.2.2.2.2.2.2.2.2.1.1 0 (by decide)).2.1 hS C.2.2.2.2.2.1 (C.2.2.2.2.2.2.1 _ hc) (fun _ hx => hx) h (k r s1 he p en s m args below meth c D T ad A H locs ls C hP hD hS hl)
theorem r_compact {idx : Nat} (hc : Cond.fieldLink own idx "java/lang/String" "COMPACT_STRINGS" "Z" ∈ gw) (h : decode bs pc = .ok (.getstatic idx, 3)) (hp : pc + 3 = pc1) (k : RC l wl own bs mL rt d pc1 L (.int 1 :: st) s0 e) : RC l wl own bs mL rt d pc L st s0 e := by
  subst hp
  intro r s1 he p en s m args below meth c D T ad A H locs ls C hP hD hS hl
  exact va_gets C.1 C.2.1 C.2.2.2.2.2.2.2.2.2.2.1 hS C.2.2.2.2.2.1 (C.2.2.2.2.2.2.1 _ hc) (fun _ hx => hx) h (k r s1 he p en s m args below meth c D T ad A H locs ls C hP hD hS hl)
theorem r_factLd {i : Int32} (h : decode bs pc = .ok (.baload, 1)) (hp : pc + 1 = pc1) (k : RC l wl own bs mL rt d pc1 L (.int (factsB.getD i.toNatClampNeg 0) :: st) s0 e) : RC l wl own bs mL rt d pc L (.int i :: .ref 1002 :: st) s0 (gd (inb i 11) e) := by
  subst hp
  intro r s1 he p en s m args below meth c D T ad A H locs ls C hP hD hS hl
  by_cases hg0 : inb i 11
  case neg =>
    rw [gd, if_neg hg0] at he
    cases he
  rw [gd, if_pos hg0] at he
  exact va_tb C.1 C.2.1 (C.2.2.2.2.2.2.2.2.2.2.2.2.1.1 0 (by decide)).2.2.2 hS (inb_in hg0) rfl h (k r s1 he p en s m args below meth c D T ad A H locs ls C hP hD hS hl)
theorem p_factLd {i : Int32} {e : Option Int32} (h : decode bs pc = .ok (.baload, 1)) (hp : pc + 1 = pc1) (k : RC l wl own bs mL rt d pc1 L (.int (factsB.getD i.toNatClampNeg 0) :: st) s0 (pu e s0)) : RC l wl own bs mL rt d pc L (.int i :: .ref 1002 :: st) s0 (pu (gd (inb i 11) e) s0) := by
  rw [pu_gd]
  exact r_factLd h hp k
theorem r_factLen {v : Int32} (hv : Int32.ofNat 11 = v) (h : decode bs pc = .ok (.arraylength, 1)) (hp : pc + 1 = pc1) (k : RC l wl own bs mL rt d pc1 L (.int v :: st) s0 e) : RC l wl own bs mL rt d pc L (.ref 1002 :: st) s0 e := by
  subst hp
  intro r s1 he p en s m args below meth c D T ad A H locs ls C hP hD hS hl
  exact va_tlen C.1 C.2.1 (C.2.2.2.2.2.2.2.2.2.2.2.2.1.1 0 (by decide)).2.2.2 hS hv h (k r s1 he p en s m args below meth c D T ad A H locs ls C hP hD hS hl)
end RCmore
def CtL (l : Launch) (wl : WT) (y : MethodName) (bs : ByteArray) (mL d : Nat) (As : List Value) (v : Int64) : Prop :=
  ∀ (D : va_G) (T : CT) (ad : AD) (A : Nat → Prop) (s0 : SS), Met l y (.code y bs mL (some .long) :: gw) (rmd d) (va_Pc (As.map (cv ad)) (fun U => WPt wl D T ad A s0 U ∧ SX ad A U U.heap)) (va_Ql (fun q (_ : Unit) => q = v) (fun _ t => WPt wl D T ad A s0 t) A) 0 0 A
theorem r_callSNl {l : Launch} {wl : WT} {own : String} {bs : ByteArray} {mL : Nat} {rt : Option FieldType} {d pc pc1 : Nat} {L st stk : List Value} {s0 : SS} {e : Res} {y : MethodName} {bs1 : ByteArray} {mL1 d1 idx n : Nat} {As : List Value} {v : Int64} (G : LTN own idx y bs1 mL1 (some .long) n) (hM : CtL l wl y bs1 mL1 d1 As v) (hs : stk = As.reverse ++ st) (hn : As.length = n) (hd : d1 + 1 ≤ d ∧ mL1 ≤ 21) (hst : (st.map (fun v => v.category)).sum ≤ 8) (h : decode bs pc = .ok (.invokestatic idx, 3)) (hp : pc + 3 = pc1) (k : RC l wl own bs mL rt d pc1 L (.long v :: st) s0 e) : RC l wl own bs mL rt d pc L stk s0 e := by
  subst hp; subst hs
  intro r s1 he p en s m args below meth c D T ad A H locs ls C hP hD hS hl
  have hMt := hM D T ad A s0
  obtain ⟨⟨gi, gc, gy⟩, gl, gm⟩ := G
  obtain ⟨host, gl⟩ := gl
  have cb := va_cnB (R := rmd d) (rm := rmd d1) (own := own) (host := host) (index := idx) n C.2.2.2.2.2.2.1 (goodAll (ws := (.code y bs1 mL1 (some .long) :: gw)) (fun w hw => by
      rcases List.mem_cons.mp hw with e | e
      · rw [e]; exact gc
      · exact e)) rfl rfl rfl (C.2.2.2.2.2.2.2.2.2.2.2.2.2 _ gl) (C.2.2.2.2.2.2.1 _ gi) gy (rmd_le hd)
  have cw := And.intro cb (And.intro (C.2.2.2.2.2.2.1 _ gm) True.intro)
  have hroom : 2 * (F0 m pc ls ((As.reverse ++ st).map (cv ad))).monitorRoom + ((st.map (cv ad)).map (fun v => v.category)).sum ≤ 8 := lv_room (by rw [sum_cv]; exact hst)
  refine va_calll (A1 := A) (va_runSN (As := As.map (cv ad)) (rest := st.map (cv ad)) (Ts := gw) (own := own) ⟨C.1, C.2.1, C.2.2.1, C.2.2.2.2.2.1, C.2.2.2.2.2.2.1⟩ hMt cw ⟨ctBlind, fun U hU hW1 => ⟨rfl, ⟨by rw [hU]; exact hP, va_K.moved hW1.alike C.2.2.2.2.2.2.2.1, hD⟩, SX.call C.2.2.2.2.2.2.2.2 hS hU hW1⟩⟩ rfl (by rw [List.length_map]; exact hn) hl.1 (by simp) hroom h ⟨Nat.le_refl 0, Nat.le_refl 0⟩) hS (fun _ _ z => z) (fun _ z => z) (fun rr u t H1 locs1 ht hvm hw hB hz1 hk1 hS1 => ?_)
  obtain rfl := hw
  obtain ⟨b1, b2, b3⟩ := hB
  rw [ht] at b1
  exact k r s1 he p en s m args below meth c D T ad A H1 locs1 ls C b1 b3 hS1 hl
