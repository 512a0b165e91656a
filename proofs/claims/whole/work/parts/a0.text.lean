/-! text: a step -/
variable {T : TW} {kd tl tn : Nat → Nat} {n c x p dy X k x2 p2 dy2 X2 k2 z cl : Nat} {en : Nat → Nat → Int32} {kf : Bool} {b : Nat → Nat} {d : Nat → Int32} {ed : Nat} {s t u : SS}
theorem cpA {K : SS → Res} {L : Nat} (hL : L ≤ 14) : ∀ (m N i : Nat) (s : SS), i + m = L → m < N → s 56 33 = iI L → ∃ t, lp_X12_text_142 K N (iI i) s = K t ∧ (∀ q, q < 65 ∨ 68 < q → t q = s q) ∧ (∀ j, i ≤ j → j < L → t 65 j = s 71 j ∧ t 66 j = s 72 j ∧ t 67 j = s 73 j ∧ t 68 j = s 74 j) ∧ ∀ j, j < i → t 65 j = s 65 j ∧ t 66 j = s 66 j ∧ t 67 j = s 67 j ∧ t 68 j = s 68 j := by
  intro m
  induction m with
  | zero =>
    intro N i s hi hN h33
    obtain ⟨N, rfl⟩ : ∃ M, N = M + 1 := ⟨N - 1, by omega⟩
    refine ⟨s, ?_, fun _ _ => rfl, fun j a b => by omega, fun j _ => ⟨rfl, rfl, rfl, rfl⟩⟩
    rw [lp_X12_text_142]
    exact e_if_t (by rw [h33]; simp (disch := omega) only [Int.toNat_natCast, iI_lt, iI_le, iI_eq, iI_add, iI_sub, iI_mul, iI_neg, iI_clamp, inb_ii]; omega) rfl
  | succ m ih =>
    intro N i s hi hN h33
    obtain ⟨N, rfl⟩ : ∃ M, N = M + 1 := ⟨N - 1, by omega⟩
    have gi : inb (iI (i : Int)) 14 := by simp (disch := omega) only [Int.toNat_natCast, iI_lt, iI_le, iI_eq, iI_add, iI_sub, iI_mul, iI_neg, iI_clamp, inb_ii]; omega
    have cl : Int32.toNatClampNeg (iI (i : Int)) = i := by rw [iI_clamp (by omega), Int.toNat_natCast]
    let s4 : SS := up (up (up (up s 65 i (s 71 i)) 66 i (s 72 i)) 67 i (s 73 i)) 68 i (s 74 i)
    obtain ⟨t, e1, e2, e3, e4⟩ := ih N (i + 1) s4 (by omega) (by omega) h33
    refine ⟨t, ?_, fun q hq => ?_, fun j a b => ?_, fun j hj => ?_⟩
    · rw [lp_X12_text_142, cl]
      refine e_if_f (by rw [h33]; simp (disch := omega) only [Int.toNat_natCast, iI_lt, iI_le, iI_eq, iI_add, iI_sub, iI_mul, iI_neg, iI_clamp, inb_ii]; omega) ?_
      refine e_gd gi ?_
      refine e_gd gi ?_
      refine e_lts ?_
      refine e_gd gi ?_
      refine e_gd gi ?_
      refine e_lts ?_
      refine e_gd gi ?_
      refine e_gd gi ?_
      refine e_lts ?_
      refine e_gd gi ?_
      refine e_gd gi ?_
      refine e_lts ?_
      rw [nx_s]
      exact e1
    · rw [e2 q hq]
      show up (up (up (up s 65 i (s 71 i)) 66 i (s 72 i)) 67 i (s 73 i)) 68 i (s 74 i) q = _
      rw [up_cell (by omega), up_cell (by omega), up_cell (by omega), up_cell (by omega)]
    · by_cases y : j = i
      · subst y
        have := e4 j (by omega)
        rw [this.1, this.2.1, this.2.2.1, this.2.2.2]
        refine ⟨?_, ?_, ?_, ?_⟩
        · show upd (s 65) j (s 71 j) j = _
          exact upd_eq _ _ _
        · show upd (s 66) j (s 72 j) j = _
          exact upd_eq _ _ _
        · show upd (s 67) j (s 73 j) j = _
          exact upd_eq _ _ _
        · show upd (s 68) j (s 74 j) j = _
          exact upd_eq _ _ _
      · exact e3 j (by omega) b
    · have := e4 j (by omega)
      rw [this.1, this.2.1, this.2.2.1, this.2.2.2]
      refine ⟨?_, ?_, ?_, ?_⟩
      · show upd (s 65) i (s 71 i) j = _
        exact upd_ne (by omega)
      · show upd (s 66) i (s 72 i) j = _
        exact upd_ne (by omega)
      · show upd (s 67) i (s 73 i) j = _
        exact upd_ne (by omega)
      · show upd (s 68) i (s 74 i) j = _
        exact upd_ne (by omega)
theorem cpB {K : SS → Res} {L : Nat} (hL : L ≤ 200) : ∀ (m N i : Nat) (s : SS), i + m = L → m < N → s 56 34 = iI L → ∃ t, lp_X12_text_206 K N (iI i) s = K t ∧ (∀ q, q < 69 ∨ 70 < q → t q = s q) ∧ (∀ j, i ≤ j → j < L → t 69 j = s 75 j ∧ t 70 j = s 76 j) ∧ ∀ j, j < i → t 69 j = s 69 j ∧ t 70 j = s 70 j := by
  intro m
  induction m with
  | zero =>
    intro N i s hi hN h33
    obtain ⟨N, rfl⟩ : ∃ M, N = M + 1 := ⟨N - 1, by omega⟩
    refine ⟨s, ?_, fun _ _ => rfl, fun j a b => by omega, fun j _ => ⟨rfl, rfl⟩⟩
    rw [lp_X12_text_206]
    exact e_if_t (by rw [h33]; simp (disch := omega) only [Int.toNat_natCast, iI_lt, iI_le, iI_eq, iI_add, iI_sub, iI_mul, iI_neg, iI_clamp, inb_ii]; omega) rfl
  | succ m ih =>
    intro N i s hi hN h33
    obtain ⟨N, rfl⟩ : ∃ M, N = M + 1 := ⟨N - 1, by omega⟩
    have gi : inb (iI (i : Int)) 200 := by simp (disch := omega) only [Int.toNat_natCast, iI_lt, iI_le, iI_eq, iI_add, iI_sub, iI_mul, iI_neg, iI_clamp, inb_ii]; omega
    have cl : Int32.toNatClampNeg (iI (i : Int)) = i := by rw [iI_clamp (by omega), Int.toNat_natCast]
    let s4 : SS := up (up s 69 i (s 75 i)) 70 i (s 76 i)
    obtain ⟨t, e1, e2, e3, e4⟩ := ih N (i + 1) s4 (by omega) (by omega) h33
    refine ⟨t, ?_, fun q hq => ?_, fun j a b => ?_, fun j hj => ?_⟩
    · rw [lp_X12_text_206, cl]
      refine e_if_f (by rw [h33]; simp (disch := omega) only [Int.toNat_natCast, iI_lt, iI_le, iI_eq, iI_add, iI_sub, iI_mul, iI_neg, iI_clamp, inb_ii]; omega) ?_
      refine e_gd gi ?_
      refine e_gd gi ?_
      refine e_lts ?_
      refine e_gd gi ?_
      refine e_gd gi ?_
      refine e_lts ?_
      rw [nx_s]
      exact e1
    · rw [e2 q hq]
      show up (up s 69 i (s 75 i)) 70 i (s 76 i) q = _
      rw [up_cell (by omega), up_cell (by omega)]
    · by_cases y : j = i
      · subst y
        have := e4 j (by omega)
        rw [this.1, this.2]
        refine ⟨?_, ?_⟩
        · show upd (s 69) j (s 75 j) j = _
          exact upd_eq _ _ _
        · show upd (s 70) j (s 76 j) j = _
          exact upd_eq _ _ _
      · exact e3 j (by omega) b
    · have := e4 j (by omega)
      rw [this.1, this.2]
      refine ⟨?_, ?_⟩
      · show upd (s 69) i (s 75 i) j = _
        exact upd_ne (by omega)
      · show upd (s 70) i (s 76 i) j = _
        exact upd_ne (by omega)
