/-- links of calls: virtual and static, plain and between nest mates -/
def LB (y : MethodName) (bs : ByteArray) (mL : Nat) (rt : Option FieldType) (n : Nat) : Prop := Cond.initialized y.cls ∈ gw ∧ Cond.code y bs mL rt ∈ gw ∧ (y.cls ≠ "java/lang/invoke/MethodHandle" ∧ y.cls ≠ "java/lang/invoke/VarHandle" ∧ (parseMethodDescriptor y.desc).map (fun d => d.parameters.length) = some n)
def LV (own : String) (idx : Nat) (y : MethodName) (bs : ByteArray) (mL : Nat) (rt : Option FieldType) (n : Nat) : Prop := LB y bs mL rt n ∧ Cond.methodLink own idx y ∈ gw ∧ Cond.instanceMethod y ∈ gw ∧ Cond.selects y.cls y y ∈ gw
def LT (own : String) (idx : Nat) (y : MethodName) (bs : ByteArray) (mL : Nat) (rt : Option FieldType) (n : Nat) : Prop := LB y bs mL rt n ∧ Cond.methodLink own idx y ∈ gw ∧ Cond.static y ∈ gw
def LVN (own : String) (idx : Nat) (y : MethodName) (bs : ByteArray) (mL : Nat) (rt : Option FieldType) (n : Nat) : Prop := LB y bs mL rt n ∧ (∃ host : String, Cond.methodLinkNest own idx y host ∈ nestW) ∧ Cond.instanceMethod y ∈ gw ∧ Cond.selects y.cls y y ∈ gw
def LTN (own : String) (idx : Nat) (y : MethodName) (bs : ByteArray) (mL : Nat) (rt : Option FieldType) (n : Nat) : Prop := LB y bs mL rt n ∧ (∃ host : String, Cond.methodLinkNest own idx y host ∈ nestW) ∧ Cond.static y ∈ gw
theorem goodAll {ws : List Cond} (h : ∀ w ∈ ws, w ∈ gw) : GoodIn gw ws := fun w hw => ⟨h w hw, good_of_word (List.mem_filter.mp (h w hw)).2⟩
theorem ctBlind {wl : WT} {D : va_G} {T : CT} {ad : AD} {A : Nat → Prop} {s0 : SS} {av : List Value} : FrameBlind (va_Pc av (fun U => WPt wl D T ad A s0 U ∧ SX ad A U U.heap)) := by
  intro a U g mk h
  obtain ⟨h1, ⟨h2, h3, h4⟩, h5⟩ := h
  exact ⟨h1, ⟨h2, va_K.moved (u := U) (U := U.calling g mk a) (Vm.Alike.refl U.vm) h3, h4⟩, h5.calling g mk a⟩
theorem rmd_le {d d1 mL : Nat} (h : d1 + 1 ≤ d ∧ mL ≤ 21) : (rmd d1).frames + 1 ≤ (rmd d).frames ∧ 8 + (mL + 11) + (rmd d1).locals ≤ (rmd d).locals := by
  refine ⟨h.1, ?_⟩
  show 8 + (mL + 11) + 40 * d1 ≤ 40 * d
  omega
theorem sum_cv (ad : AD) (st : List Value) : ((st.map (cv ad)).map (fun v => v.category)).sum = (st.map (fun v => v.category)).sum := by
  rw [List.map_map]
  congr 1
  exact List.map_congr_left (fun v _ => cv_cat ad v)
theorem lu_cut (d : Nat) : d ≤ d := Nat.le_refl d
section RCcalls
variable {l : Launch} {wl : WT} {own : String} {bs : ByteArray} {mL : Nat} {rt : Option FieldType} {d pc pc1 : Nat} {L st stk : List Value} {s0 : SS}

theorem r_callVi {ty : FieldType} {b ci : Nat} {refs : List (Option Nat)} {y : MethodName} {bs1 : ByteArray} {mL1 d1 idx n : Nat} {As : List Value} {e1 : Res} {k : Int32 → SS → Res} (hW : WI wl b (OE ci refs)) (hcl : ∃ (Tf : u_T) (N : Nat), vwCl[ci]? = some (y.cls, Tf, N)) (G : LV own idx y bs1 mL1 (some ty) n) (hM : Ct l wl y bs1 mL1 (some ty) d1 (.ref b :: As) s0 e1) (hn : As.length = n) (hd : d1 + 1 ≤ d ∧ mL1 ≤ 21) (hst : (st.map (fun v => v.category)).sum ≤ 8) (hs : stk = As.reverse ++ .ref b :: st) (h : decode bs pc = .ok (.invokevirtual idx, 3)) (hp : pc + 3 = pc1) (kk : ∀ (r : Int32) (s2 : SS), RC l wl own bs mL rt d pc1 L (.int r :: st) s2 (k r s2)) : RC l wl own bs mL rt d pc L stk s0 (bd e1 k) := by
  subst hp; subst hs
  intro r s1 he p en s m args below meth c D T ad A H locs ls C hP hD hS hl
  cases he1 : e1 with
  | none =>
    rw [he1] at he
    cases he
  | some q =>
    obtain ⟨r1, s2⟩ := q
    rw [he1] at he
    have he : k r1 s2 = some (r, s1) := he
    have hMt := hM r1 s2 he1 D T ad A
    obtain ⟨q, hg, -⟩ := hW
    obtain ⟨Tf, N, hcl⟩ := hcl
    obtain ⟨⟨gi, gc, gy⟩, gl, gm, gs⟩ := G
    have cw := cwV (R := rmd d) (rm := rmd d1) n C.2.2.2.2.2.2.1 (goodAll (ws := wsV own idx y.cls y (.code y bs1 mL1 (some ty) :: gw)) (fun w hw => by
      rcases List.mem_append.mp hw with z | z
      · simp only [List.mem_cons, List.not_mem_nil, or_false] at z
        rcases z with rfl | rfl | rfl | rfl <;> assumption
      · rcases List.mem_cons.mp z with e | e
        · rw [e]; exact gc
        · exact e)) rfl rfl rfl ⟨rfl, gy⟩ (rmd_le hd)
    have hroom : 2 * (F0 m pc ls ((As.reverse ++ .ref b :: st).map (cv ad))).monitorRoom + ((st.map (cv ad)).map (fun v => v.category)).sum ≤ 8 := lv_room (by rw [sum_cv]; exact hst)
    refine va_calli (A1 := A) (va_runV (C := y.cls) (As := As.map (cv ad)) (rest := st.map (cv ad)) (Ts := gw) (own := own) ⟨C.1, C.2.1, C.2.2.1, C.2.2.2.2.2.1, C.2.2.2.2.2.2.1⟩ hMt cw ⟨ctBlind, va_recv C.2.2.2.2.2.2.2.1 hP hcl (hg T ad s0), fun U hU hW1 => ⟨rfl, ⟨by rw [hU]; exact hP, va_K.moved hW1.alike C.2.2.2.2.2.2.2.1, hD⟩, SX.call C.2.2.2.2.2.2.2.2 hS hU hW1⟩⟩ rfl (by rw [List.length_map]; exact hn) hl.1 (by simp [cv]) hroom h ⟨Nat.le_refl 0, Nat.le_refl 0⟩) hS (fun _ _ z => z) (fun _ z => z) (fun rr u t H1 locs1 ht hvm hw hB hz1 hk1 hS1 => ?_)
    obtain rfl := hw
    obtain ⟨b1, b2, b3⟩ := hB
    rw [ht] at b1
    exact kk rr s2 r s1 he p en s m args below meth c D T ad A H1 locs1 ls C b1 b3 hS1 hl
theorem r_callVv {b ci : Nat} {refs : List (Option Nat)} {y : MethodName} {bs1 : ByteArray} {mL1 d1 idx n : Nat} {As : List Value} {e1 : Res} {k : Int32 → SS → Res} (hW : WI wl b (OE ci refs)) (hcl : ∃ (Tf : u_T) (N : Nat), vwCl[ci]? = some (y.cls, Tf, N)) (G : LV own idx y bs1 mL1 none n) (hM : Ct l wl y bs1 mL1 none d1 (.ref b :: As) s0 e1) (hn : As.length = n) (hd : d1 + 1 ≤ d ∧ mL1 ≤ 21) (hst : (st.map (fun v => v.category)).sum ≤ 8) (hs : stk = As.reverse ++ .ref b :: st) (h : decode bs pc = .ok (.invokevirtual idx, 3)) (hp : pc + 3 = pc1) (kk : ∀ (r : Int32) (s2 : SS), RC l wl own bs mL rt d pc1 L st s2 (k r s2)) : RC l wl own bs mL rt d pc L stk s0 (bd e1 k) := by
  subst hp; subst hs
  intro r s1 he p en s m args below meth c D T ad A H locs ls C hP hD hS hl
  cases he1 : e1 with
  | none =>
    rw [he1] at he
    cases he
  | some q =>
    obtain ⟨r1, s2⟩ := q
    rw [he1] at he
    have he : k r1 s2 = some (r, s1) := he
    have hMt := hM r1 s2 he1 D T ad A
    obtain ⟨q, hg, -⟩ := hW
    obtain ⟨Tf, N, hcl⟩ := hcl
    obtain ⟨⟨gi, gc, gy⟩, gl, gm, gs⟩ := G
    have cw := cwV (R := rmd d) (rm := rmd d1) n C.2.2.2.2.2.2.1 (goodAll (ws := wsV own idx y.cls y (.code y bs1 mL1 none :: gw)) (fun w hw => by
      rcases List.mem_append.mp hw with z | z
      · simp only [List.mem_cons, List.not_mem_nil, or_false] at z
        rcases z with rfl | rfl | rfl | rfl <;> assumption
      · rcases List.mem_cons.mp z with e | e
        · rw [e]; exact gc
        · exact e)) rfl rfl rfl ⟨rfl, gy⟩ (rmd_le hd)
    have hroom : 2 * (F0 m pc ls ((As.reverse ++ .ref b :: st).map (cv ad))).monitorRoom + ((st.map (cv ad)).map (fun v => v.category)).sum ≤ 8 := lv_room (by rw [sum_cv]; exact hst)
    refine va_callv (A1 := A) (va_runV (C := y.cls) (As := As.map (cv ad)) (rest := st.map (cv ad)) (Ts := gw) (own := own) ⟨C.1, C.2.1, C.2.2.1, C.2.2.2.2.2.1, C.2.2.2.2.2.2.1⟩ hMt cw ⟨ctBlind, va_recv C.2.2.2.2.2.2.2.1 hP hcl (hg T ad s0), fun U hU hW1 => ⟨rfl, ⟨by rw [hU]; exact hP, va_K.moved hW1.alike C.2.2.2.2.2.2.2.1, hD⟩, SX.call C.2.2.2.2.2.2.2.2 hS hU hW1⟩⟩ rfl (by rw [List.length_map]; exact hn) hl.1 (by simp [cv]) hroom h ⟨Nat.le_refl 0, Nat.le_refl 0⟩) hS (fun _ _ z => z) (fun _ z => z) (fun u t H1 locs1 ht hvm hw hB hz1 hk1 hS1 => ?_)
    obtain ⟨b1, b2, b3⟩ := hB
    rw [ht] at b1
    exact kk r1 s2 r s1 he p en s m args below meth c D T ad A H1 locs1 ls C b1 b3 hS1 hl
theorem r_callSi {ty : FieldType} {y : MethodName} {bs1 : ByteArray} {mL1 d1 idx n : Nat} {As : List Value} {e1 : Res} {k : Int32 → SS → Res} (G : LT own idx y bs1 mL1 (some ty) n) (hM : Ct l wl y bs1 mL1 (some ty) d1 As s0 e1) (hn : As.length = n) (hd : d1 + 1 ≤ d ∧ mL1 ≤ 21) (hst : (st.map (fun v => v.category)).sum ≤ 8) (hs : stk = As.reverse ++ st) (h : decode bs pc = .ok (.invokestatic idx, 3)) (hp : pc + 3 = pc1) (kk : ∀ (r : Int32) (s2 : SS), RC l wl own bs mL rt d pc1 L (.int r :: st) s2 (k r s2)) : RC l wl own bs mL rt d pc L stk s0 (bd e1 k) := by
  subst hp; subst hs
  intro r s1 he p en s m args below meth c D T ad A H locs ls C hP hD hS hl
  cases he1 : e1 with
  | none =>
    rw [he1] at he
    cases he
  | some q =>
    obtain ⟨r1, s2⟩ := q
    rw [he1] at he
    have he : k r1 s2 = some (r, s1) := he
    have hMt := hM r1 s2 he1 D T ad A
    obtain ⟨⟨gi, gc, gy⟩, gl, gm⟩ := G
    have cw := va_cwS (R := rmd d) (rm := rmd d1) n C.2.2.2.2.2.2.1 (goodAll (ws := va_wsS own idx y (.code y bs1 mL1 (some ty) :: gw)) (fun w hw => by
      rcases List.mem_append.mp hw with z | z
      · simp only [List.mem_cons, List.not_mem_nil, or_false] at z
        rcases z with rfl | rfl | rfl <;> assumption
      · rcases List.mem_cons.mp z with e | e
        · rw [e]; exact gc
        · exact e)) rfl rfl rfl gy (rmd_le hd)
    have hroom : 2 * (F0 m pc ls ((As.reverse ++ st).map (cv ad))).monitorRoom + ((st.map (cv ad)).map (fun v => v.category)).sum ≤ 8 := lv_room (by rw [sum_cv]; exact hst)
    refine va_calli (A1 := A) (va_runS (As := As.map (cv ad)) (rest := st.map (cv ad)) (Ts := gw) (own := own) ⟨C.1, C.2.1, C.2.2.1, C.2.2.2.2.2.1, C.2.2.2.2.2.2.1⟩ hMt cw ⟨ctBlind, fun U hU hW1 => ⟨rfl, ⟨by rw [hU]; exact hP, va_K.moved hW1.alike C.2.2.2.2.2.2.2.1, hD⟩, SX.call C.2.2.2.2.2.2.2.2 hS hU hW1⟩⟩ rfl (by rw [List.length_map]; exact hn) hl.1 (by simp) hroom h ⟨Nat.le_refl 0, Nat.le_refl 0⟩) hS (fun _ _ z => z) (fun _ z => z) (fun rr u t H1 locs1 ht hvm hw hB hz1 hk1 hS1 => ?_)
    obtain rfl := hw
    obtain ⟨b1, b2, b3⟩ := hB
    rw [ht] at b1
    exact kk rr s2 r s1 he p en s m args below meth c D T ad A H1 locs1 ls C b1 b3 hS1 hl
theorem r_callSv {y : MethodName} {bs1 : ByteArray} {mL1 d1 idx n : Nat} {As : List Value} {e1 : Res} {k : Int32 → SS → Res} (G : LT own idx y bs1 mL1 none n) (hM : Ct l wl y bs1 mL1 none d1 As s0 e1) (hn : As.length = n) (hd : d1 + 1 ≤ d ∧ mL1 ≤ 21) (hst : (st.map (fun v => v.category)).sum ≤ 8) (hs : stk = As.reverse ++ st) (h : decode bs pc = .ok (.invokestatic idx, 3)) (hp : pc + 3 = pc1) (kk : ∀ (r : Int32) (s2 : SS), RC l wl own bs mL rt d pc1 L st s2 (k r s2)) : RC l wl own bs mL rt d pc L stk s0 (bd e1 k) := by
  subst hp; subst hs
  intro r s1 he p en s m args below meth c D T ad A H locs ls C hP hD hS hl
  cases he1 : e1 with
  | none =>
    rw [he1] at he
    cases he
  | some q =>
    obtain ⟨r1, s2⟩ := q
    rw [he1] at he
    have he : k r1 s2 = some (r, s1) := he
    have hMt := hM r1 s2 he1 D T ad A
    obtain ⟨⟨gi, gc, gy⟩, gl, gm⟩ := G
    have cw := va_cwS (R := rmd d) (rm := rmd d1) n C.2.2.2.2.2.2.1 (goodAll (ws := va_wsS own idx y (.code y bs1 mL1 none :: gw)) (fun w hw => by
      rcases List.mem_append.mp hw with z | z
      · simp only [List.mem_cons, List.not_mem_nil, or_false] at z
        rcases z with rfl | rfl | rfl <;> assumption
      · rcases List.mem_cons.mp z with e | e
        · rw [e]; exact gc
        · exact e)) rfl rfl rfl gy (rmd_le hd)
    have hroom : 2 * (F0 m pc ls ((As.reverse ++ st).map (cv ad))).monitorRoom + ((st.map (cv ad)).map (fun v => v.category)).sum ≤ 8 := lv_room (by rw [sum_cv]; exact hst)
    refine va_callv (A1 := A) (va_runS (As := As.map (cv ad)) (rest := st.map (cv ad)) (Ts := gw) (own := own) ⟨C.1, C.2.1, C.2.2.1, C.2.2.2.2.2.1, C.2.2.2.2.2.2.1⟩ hMt cw ⟨ctBlind, fun U hU hW1 => ⟨rfl, ⟨by rw [hU]; exact hP, va_K.moved hW1.alike C.2.2.2.2.2.2.2.1, hD⟩, SX.call C.2.2.2.2.2.2.2.2 hS hU hW1⟩⟩ rfl (by rw [List.length_map]; exact hn) hl.1 (by simp) hroom h ⟨Nat.le_refl 0, Nat.le_refl 0⟩) hS (fun _ _ z => z) (fun _ z => z) (fun u t H1 locs1 ht hvm hw hB hz1 hk1 hS1 => ?_)
    obtain ⟨b1, b2, b3⟩ := hB
    rw [ht] at b1
    exact kk r1 s2 r s1 he p en s m args below meth c D T ad A H1 locs1 ls C b1 b3 hS1 hl
theorem r_callVNi {ty : FieldType} {b ci : Nat} {refs : List (Option Nat)} {y : MethodName} {bs1 : ByteArray} {mL1 d1 idx n : Nat} {As : List Value} {e1 : Res} {k : Int32 → SS → Res} (hW : WI wl b (OE ci refs)) (hcl : ∃ (Tf : u_T) (N : Nat), vwCl[ci]? = some (y.cls, Tf, N)) (G : LVN own idx y bs1 mL1 (some ty) n) (hM : Ct l wl y bs1 mL1 (some ty) d1 (.ref b :: As) s0 e1) (hn : As.length = n) (hd : d1 + 1 ≤ d ∧ mL1 ≤ 21) (hst : (st.map (fun v => v.category)).sum ≤ 8) (hs : stk = As.reverse ++ .ref b :: st) (h : decode bs pc = .ok (.invokevirtual idx, 3)) (hp : pc + 3 = pc1) (kk : ∀ (r : Int32) (s2 : SS), RC l wl own bs mL rt d pc1 L (.int r :: st) s2 (k r s2)) : RC l wl own bs mL rt d pc L stk s0 (bd e1 k) := by
  subst hp; subst hs
  intro r s1 he p en s m args below meth c D T ad A H locs ls C hP hD hS hl
  cases he1 : e1 with
  | none =>
    rw [he1] at he
    cases he
  | some q =>
    obtain ⟨r1, s2⟩ := q
    rw [he1] at he
    have he : k r1 s2 = some (r, s1) := he
    have hMt := hM r1 s2 he1 D T ad A
    obtain ⟨q, hg, -⟩ := hW
    obtain ⟨Tf, N, hcl⟩ := hcl
    obtain ⟨⟨gi, gc, gy⟩, gl, gm, gs⟩ := G
    obtain ⟨host, gl⟩ := gl
    have cb := va_cnB (R := rmd d) (rm := rmd d1) (own := own) (host := host) (index := idx) n C.2.2.2.2.2.2.1 (goodAll (ws := (.code y bs1 mL1 (some ty) :: gw)) (fun w hw => by
      rcases List.mem_cons.mp hw with e | e
      · rw [e]; exact gc
      · exact e)) rfl rfl rfl (C.2.2.2.2.2.2.2.2.2.2.2.2.2 _ gl) (C.2.2.2.2.2.2.1 _ gi) gy (rmd_le hd)
    have cw := And.intro cb (And.intro (C.2.2.2.2.2.2.1 _ gm) (C.2.2.2.2.2.2.1 _ gs))
    have hroom : 2 * (F0 m pc ls ((As.reverse ++ .ref b :: st).map (cv ad))).monitorRoom + ((st.map (cv ad)).map (fun v => v.category)).sum ≤ 8 := lv_room (by rw [sum_cv]; exact hst)
    refine va_calli (A1 := A) (va_runVN (C := y.cls) (As := As.map (cv ad)) (rest := st.map (cv ad)) (Ts := gw) (own := own) ⟨C.1, C.2.1, C.2.2.1, C.2.2.2.2.2.1, C.2.2.2.2.2.2.1⟩ hMt cw ⟨ctBlind, va_recv C.2.2.2.2.2.2.2.1 hP hcl (hg T ad s0), fun U hU hW1 => ⟨rfl, ⟨by rw [hU]; exact hP, va_K.moved hW1.alike C.2.2.2.2.2.2.2.1, hD⟩, SX.call C.2.2.2.2.2.2.2.2 hS hU hW1⟩⟩ rfl (by rw [List.length_map]; exact hn) hl.1 (by simp [cv]) hroom h ⟨Nat.le_refl 0, Nat.le_refl 0⟩) hS (fun _ _ z => z) (fun _ z => z) (fun rr u t H1 locs1 ht hvm hw hB hz1 hk1 hS1 => ?_)
    obtain rfl := hw
    obtain ⟨b1, b2, b3⟩ := hB
    rw [ht] at b1
    exact kk rr s2 r s1 he p en s m args below meth c D T ad A H1 locs1 ls C b1 b3 hS1 hl
theorem r_callVNv {b ci : Nat} {refs : List (Option Nat)} {y : MethodName} {bs1 : ByteArray} {mL1 d1 idx n : Nat} {As : List Value} {e1 : Res} {k : Int32 → SS → Res} (hW : WI wl b (OE ci refs)) (hcl : ∃ (Tf : u_T) (N : Nat), vwCl[ci]? = some (y.cls, Tf, N)) (G : LVN own idx y bs1 mL1 none n) (hM : Ct l wl y bs1 mL1 none d1 (.ref b :: As) s0 e1) (hn : As.length = n) (hd : d1 + 1 ≤ d ∧ mL1 ≤ 21) (hst : (st.map (fun v => v.category)).sum ≤ 8) (hs : stk = As.reverse ++ .ref b :: st) (h : decode bs pc = .ok (.invokevirtual idx, 3)) (hp : pc + 3 = pc1) (kk : ∀ (r : Int32) (s2 : SS), RC l wl own bs mL rt d pc1 L st s2 (k r s2)) : RC l wl own bs mL rt d pc L stk s0 (bd e1 k) := by
  subst hp; subst hs
  intro r s1 he p en s m args below meth c D T ad A H locs ls C hP hD hS hl
  cases he1 : e1 with
  | none =>
    rw [he1] at he
    cases he
  | some q =>
    obtain ⟨r1, s2⟩ := q
    rw [he1] at he
    have he : k r1 s2 = some (r, s1) := he
    have hMt := hM r1 s2 he1 D T ad A
    obtain ⟨q, hg, -⟩ := hW
    obtain ⟨Tf, N, hcl⟩ := hcl
    obtain ⟨⟨gi, gc, gy⟩, gl, gm, gs⟩ := G
    obtain ⟨host, gl⟩ := gl
    have cb := va_cnB (R := rmd d) (rm := rmd d1) (own := own) (host := host) (index := idx) n C.2.2.2.2.2.2.1 (goodAll (ws := (.code y bs1 mL1 none :: gw)) (fun w hw => by
      rcases List.mem_cons.mp hw with e | e
      · rw [e]; exact gc
      · exact e)) rfl rfl rfl (C.2.2.2.2.2.2.2.2.2.2.2.2.2 _ gl) (C.2.2.2.2.2.2.1 _ gi) gy (rmd_le hd)
    have cw := And.intro cb (And.intro (C.2.2.2.2.2.2.1 _ gm) (C.2.2.2.2.2.2.1 _ gs))
    have hroom : 2 * (F0 m pc ls ((As.reverse ++ .ref b :: st).map (cv ad))).monitorRoom + ((st.map (cv ad)).map (fun v => v.category)).sum ≤ 8 := lv_room (by rw [sum_cv]; exact hst)
    refine va_callv (A1 := A) (va_runVN (C := y.cls) (As := As.map (cv ad)) (rest := st.map (cv ad)) (Ts := gw) (own := own) ⟨C.1, C.2.1, C.2.2.1, C.2.2.2.2.2.1, C.2.2.2.2.2.2.1⟩ hMt cw ⟨ctBlind, va_recv C.2.2.2.2.2.2.2.1 hP hcl (hg T ad s0), fun U hU hW1 => ⟨rfl, ⟨by rw [hU]; exact hP, va_K.moved hW1.alike C.2.2.2.2.2.2.2.1, hD⟩, SX.call C.2.2.2.2.2.2.2.2 hS hU hW1⟩⟩ rfl (by rw [List.length_map]; exact hn) hl.1 (by simp [cv]) hroom h ⟨Nat.le_refl 0, Nat.le_refl 0⟩) hS (fun _ _ z => z) (fun _ z => z) (fun u t H1 locs1 ht hvm hw hB hz1 hk1 hS1 => ?_)
    obtain ⟨b1, b2, b3⟩ := hB
    rw [ht] at b1
    exact kk r1 s2 r s1 he p en s m args below meth c D T ad A H1 locs1 ls C b1 b3 hS1 hl
theorem r_callSNi {ty : FieldType} {y : MethodName} {bs1 : ByteArray} {mL1 d1 idx n : Nat} {As : List Value} {e1 : Res} {k : Int32 → SS → Res} (G : LTN own idx y bs1 mL1 (some ty) n) (hM : Ct l wl y bs1 mL1 (some ty) d1 As s0 e1) (hn : As.length = n) (hd : d1 + 1 ≤ d ∧ mL1 ≤ 21) (hst : (st.map (fun v => v.category)).sum ≤ 8) (hs : stk = As.reverse ++ st) (h : decode bs pc = .ok (.invokestatic idx, 3)) (hp : pc + 3 = pc1) (kk : ∀ (r : Int32) (s2 : SS), RC l wl own bs mL rt d pc1 L (.int r :: st) s2 (k r s2)) : RC l wl own bs mL rt d pc L stk s0 (bd e1 k) := by
  subst hp; subst hs
  intro r s1 he p en s m args below meth c D T ad A H locs ls C hP hD hS hl
  cases he1 : e1 with
  | none =>
    rw [he1] at he
    cases he
  | some q =>
    obtain ⟨r1, s2⟩ := q
    rw [he1] at he
    have he : k r1 s2 = some (r, s1) := he
    have hMt := hM r1 s2 he1 D T ad A
    obtain ⟨⟨gi, gc, gy⟩, gl, gm⟩ := G
    obtain ⟨host, gl⟩ := gl
    have cb := va_cnB (R := rmd d) (rm := rmd d1) (own := own) (host := host) (index := idx) n C.2.2.2.2.2.2.1 (goodAll (ws := (.code y bs1 mL1 (some ty) :: gw)) (fun w hw => by
      rcases List.mem_cons.mp hw with e | e
      · rw [e]; exact gc
      · exact e)) rfl rfl rfl (C.2.2.2.2.2.2.2.2.2.2.2.2.2 _ gl) (C.2.2.2.2.2.2.1 _ gi) gy (rmd_le hd)
    have cw := And.intro cb (And.intro (C.2.2.2.2.2.2.1 _ gm) True.intro)
    have hroom : 2 * (F0 m pc ls ((As.reverse ++ st).map (cv ad))).monitorRoom + ((st.map (cv ad)).map (fun v => v.category)).sum ≤ 8 := lv_room (by rw [sum_cv]; exact hst)
    refine va_calli (A1 := A) (va_runSN (As := As.map (cv ad)) (rest := st.map (cv ad)) (Ts := gw) (own := own) ⟨C.1, C.2.1, C.2.2.1, C.2.2.2.2.2.1, C.2.2.2.2.2.2.1⟩ hMt cw ⟨ctBlind, fun U hU hW1 => ⟨rfl, ⟨by rw [hU]; exact hP, va_K.moved hW1.alike C.2.2.2.2.2.2.2.1, hD⟩, SX.call C.2.2.2.2.2.2.2.2 hS hU hW1⟩⟩ rfl (by rw [List.length_map]; exact hn) hl.1 (by simp) hroom h ⟨Nat.le_refl 0, Nat.le_refl 0⟩) hS (fun _ _ z => z) (fun _ z => z) (fun rr u t H1 locs1 ht hvm hw hB hz1 hk1 hS1 => ?_)
    obtain rfl := hw
    obtain ⟨b1, b2, b3⟩ := hB
    rw [ht] at b1
    exact kk rr s2 r s1 he p en s m args below meth c D T ad A H1 locs1 ls C b1 b3 hS1 hl
theorem r_callSNv {y : MethodName} {bs1 : ByteArray} {mL1 d1 idx n : Nat} {As : List Value} {e1 : Res} {k : Int32 → SS → Res} (G : LTN own idx y bs1 mL1 none n) (hM : Ct l wl y bs1 mL1 none d1 As s0 e1) (hn : As.length = n) (hd : d1 + 1 ≤ d ∧ mL1 ≤ 21) (hst : (st.map (fun v => v.category)).sum ≤ 8) (hs : stk = As.reverse ++ st) (h : decode bs pc = .ok (.invokestatic idx, 3)) (hp : pc + 3 = pc1) (kk : ∀ (r : Int32) (s2 : SS), RC l wl own bs mL rt d pc1 L st s2 (k r s2)) : RC l wl own bs mL rt d pc L stk s0 (bd e1 k) := by
  subst hp; subst hs
  intro r s1 he p en s m args below meth c D T ad A H locs ls C hP hD hS hl
  cases he1 : e1 with
  | none =>
    rw [he1] at he
    cases he
  | some q =>
    obtain ⟨r1, s2⟩ := q
    rw [he1] at he
    have he : k r1 s2 = some (r, s1) := he
    have hMt := hM r1 s2 he1 D T ad A
    obtain ⟨⟨gi, gc, gy⟩, gl, gm⟩ := G
    obtain ⟨host, gl⟩ := gl
    have cb := va_cnB (R := rmd d) (rm := rmd d1) (own := own) (host := host) (index := idx) n C.2.2.2.2.2.2.1 (goodAll (ws := (.code y bs1 mL1 none :: gw)) (fun w hw => by
      rcases List.mem_cons.mp hw with e | e
      · rw [e]; exact gc
      · exact e)) rfl rfl rfl (C.2.2.2.2.2.2.2.2.2.2.2.2.2 _ gl) (C.2.2.2.2.2.2.1 _ gi) gy (rmd_le hd)
    have cw := And.intro cb (And.intro (C.2.2.2.2.2.2.1 _ gm) True.intro)
    have hroom : 2 * (F0 m pc ls ((As.reverse ++ st).map (cv ad))).monitorRoom + ((st.map (cv ad)).map (fun v => v.category)).sum ≤ 8 := lv_room (by rw [sum_cv]; exact hst)
    refine va_callv (A1 := A) (va_runSN (As := As.map (cv ad)) (rest := st.map (cv ad)) (Ts := gw) (own := own) ⟨C.1, C.2.1, C.2.2.1, C.2.2.2.2.2.1, C.2.2.2.2.2.2.1⟩ hMt cw ⟨ctBlind, fun U hU hW1 => ⟨rfl, ⟨by rw [hU]; exact hP, va_K.moved hW1.alike C.2.2.2.2.2.2.2.1, hD⟩, SX.call C.2.2.2.2.2.2.2.2 hS hU hW1⟩⟩ rfl (by rw [List.length_map]; exact hn) hl.1 (by simp) hroom h ⟨Nat.le_refl 0, Nat.le_refl 0⟩) hS (fun _ _ z => z) (fun _ z => z) (fun u t H1 locs1 ht hvm hw hB hz1 hk1 hS1 => ?_)
    obtain ⟨b1, b2, b3⟩ := hB
    rw [ht] at b1
    exact kk r1 s2 r s1 he p en s m args below meth c D T ad A H1 locs1 ls C b1 b3 hS1 hl
end RCcalls
