/-! the law's own body: the relation, a call -/
def rmLaw (d1 mL : Nat) (h : d1 ≤ 2000 ∧ mL ≤ 21) : (rmd d1).frames + 1 ≤ room_1.frames ∧ 8 + (mL + 11) + (rmd d1).locals ≤ room_1.locals := by
  refine ⟨?_, ?_⟩
  · show d1 + 1 ≤ 2048
    omega
  · show 8 + (mL + 11) + 40 * d1 ≤ 84000
    omega
def LCW (l : Launch) (p : Program) (en : Env) (s : State) (m : MethodId) (args : Array Value) (below : List Frame) (meth : Method) (c : Code) (D : va_G) (T : CT) (ad : AD) (A : Nat → Prop) (Cn Sn : Nat) (Q : State → Prop) (pc : Nat) (L st : List Value) (s0 : SS) : Prop :=
  ∀ (H : Heap) (locs : List Loc) (ls : Array Slot), va_P D vwCl (wF T ad s0) H → va_D A (wF T ad s0) → va_S A s.heap H locs → lvh ls 4 ad L → W p l en room_1 s m args below meth c H locs Cn Sn Q (F0 m pc ls (st.map (cv ad)))
theorem k_callVi {l : Launch} {p : Program} {en : Env} {s : State} {m : MethodId} {args : Array Value} {below : List Frame} {meth : Method} {c : Code} {D : va_G} {T : CT} {ad : AD} {A : Nat → Prop} {Cn Sn : Nat} {Q : State → Prop} {pc : Nat} {L st stk : List Value} {s0 s2 : SS} {rt : Option FieldType} {ty : FieldType} {b : Nat} {y : MethodName} {bs1 : ByteArray} {mL1 d1 idx n : Nat} {As : List Value} {e1 : Res} {r1 : Int32} (C : CX "NineLawsLaw" code 4 rt p s m args meth c D T ad A) (hR : RV wF b y.cls) (G : LV "NineLawsLaw" idx y bs1 mL1 (some ty) n) (hM : Ct l wF y bs1 mL1 (some ty) d1 (.ref b :: As) s0 e1) (he1 : e1 = some (r1, s2)) (hs : stk = As.reverse ++ .ref b :: st) (hn : As.length = n) (hd : d1 ≤ 2000 ∧ mL1 ≤ 21) (hst : (st.map (fun v => v.category)).sum ≤ 8) (hC : Cn ≤ room_1.cells ∧ Sn ≤ room_1.slots) (h : decode code pc = .ok (.invokevirtual idx, 3)) (kk : LCW l p en s m args below meth c D T ad A Cn Sn Q (pc + 3) L (.int r1 :: st) s2) : LCW l p en s m args below meth c D T ad A Cn Sn Q pc L stk s0 := by
  subst hs
  intro H locs ls hP hD hS hl
  have hMt := hM r1 s2 he1 D T ad A
  obtain ⟨⟨gi, gc, gy⟩, gl, gm, gs⟩ := G
  have cw := cwV (R := room_1) (rm := rmd d1) n C.2.2.2.2.2.2.1 (goodAll (ws := wsV "NineLawsLaw" idx y.cls y (.code y bs1 mL1 (some ty) :: gw)) (fun w hw => by
    rcases List.mem_append.mp hw with z | z
    · simp only [List.mem_cons, List.not_mem_nil, or_false] at z
      rcases z with rfl | rfl | rfl | rfl <;> assumption
    · rcases List.mem_cons.mp z with e | e
      · rw [e]; exact gc
      · exact e)) rfl rfl rfl ⟨rfl, gy⟩ (rmLaw d1 mL1 hd)
  have hroom : 2 * (F0 m pc ls ((As.reverse ++ .ref b :: st).map (cv ad))).monitorRoom + ((st.map (cv ad)).map (fun v => v.category)).sum ≤ 8 := lv_room (by rw [sum_cv]; exact hst)
  refine va_calli (A1 := A) (va_runV (C := y.cls) (As := As.map (cv ad)) (rest := st.map (cv ad)) (Ts := gw) (own := "NineLawsLaw") ⟨C.1, C.2.1, C.2.2.1, C.2.2.2.2.2.1, C.2.2.2.2.2.2.1⟩ hMt cw ⟨ctBlind, hR D T ad A s H s0 locs C.2.2.2.2.2.2.2.1 hP hS C.2.2.2.2.2.2.2.2, fun U hU hW1 => ⟨rfl, ⟨by rw [hU]; exact hP, va_K.moved hW1.alike C.2.2.2.2.2.2.2.1, hD⟩, SX.call C.2.2.2.2.2.2.2.2 hS hU hW1⟩⟩ rfl (by rw [List.length_map]; exact hn) hl.1 (by simp [cv]) hroom h hC) hS (fun _ _ z => z) (fun _ z => z) (fun rr u t H1 locs1 ht hvm hw hB hz1 hk1 hS1 => ?_)
  obtain rfl := hw
  obtain ⟨b1, b2, b3⟩ := hB
  rw [ht] at b1
  exact kk H1 locs1 ls b1 b3 hS1 hl
