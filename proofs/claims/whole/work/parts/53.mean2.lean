/-! mean and number -/
variable {T : TW} {kd tl tn : Nat → Nat} {n c x p : Nat} {s t u : SS}
def gcI (v : Int32) (b : Nat) : Int32 := iI ((Nat.gcd v.toInt.natAbs b : Nat) : Int)
theorem abs_f {v : Int32} (h : -2147483648 < v.toInt) : (if (0 : Int32) ≤ v then v else 0 - v) = iI ((v.toInt.natAbs : Nat) : Int) := by
  by_cases q : (0 : Int32) ≤ v
  · rw [if_pos q]
    rw [le32] at q
    have z0 : (0 : Int32).toInt = 0 := rfl
    rw [show ((v.toInt.natAbs : Nat) : Int) = v.toInt by omega]
    exact iI_of v
  · rw [if_neg q]
    rw [le32] at q
    have z0 : (0 : Int32).toInt = 0 := rfl
    rw [show ((v.toInt.natAbs : Nat) : Int) = 0 - v.toInt by omega, ← iI_sub, ← iI_of]
    rfl
theorem gc_pos {v : Int32} {b : Nat} (hb : 1 ≤ b ∧ b ≤ 18724) : 1 ≤ Nat.gcd v.toInt.natAbs b ∧ Nat.gcd v.toInt.natAbs b ≤ 18724 := by
  have h1 := Nat.gcd_pos_of_pos_right v.toInt.natAbs (show 0 < b by omega)
  have h2 := Nat.gcd_le_right v.toInt.natAbs (show 0 < b by omega)
  omega
theorem gc_ne {v : Int32} {b : Nat} (hb : 1 ≤ b ∧ b ≤ 18724) : ¬ gcI v b = 0 := by
  have := gc_pos (v := v) hb
  unfold gcI
  simp (disch := omega) only [Int.toNat_natCast, iI_lt, iI_le, iI_eq, iI_add, iI_sub, iI_mul, iI_neg, iI_clamp, inb_ii, z_0]; omega
theorem cc_red {a v : Int32} {b : Nat} (h : -2147483648 < v.toInt) (hb : 1 ≤ b ∧ b ≤ 18724) (s : SS) : f_X11_reduced a v (iI b) s = some (a / gcI v b) := by
  unfold f_X11_reduced
  refine e_bdp (v := gcI v b) ?_ ?_
  · unfold f_X11_commonDivisor
    refine e_lt ?_
    refine e_lt ?_
    have eb : (if (0 : Int32) ≤ iI (b : Int) then iI (b : Int) else 0 - iI (b : Int)) = iI b := if_pos (by simp (disch := omega) only [Int.toNat_natCast, iI_lt, iI_le, iI_eq, iI_add, iI_sub, iI_mul, iI_neg, iI_clamp, inb_ii, z_0]; omega)
    rw [abs_f h, eb]
    have := v.toInt_lt
    exact euC 15 FU v.toInt.natAbs b 0 s (by omega) (fu_lt (by omega)) (by omega) (by omega) (by omega)
  · refine e_if_f (gc_ne hb) ?_
    exact e_gd (gc_ne hb) rfl
theorem cr_div {v : Int32} {b : Nat} (h : -2147483648 < v.toInt) (hb : 1 ≤ b ∧ b ≤ 18724) (s : SS) : f_X12_divisor v (iI b) s = some (gcI v b) := by
  unfold f_X12_divisor
  have h2 := v.toInt_lt
  have e := euR FU v.toInt.natAbs b s (fu_lt (by omega)) (by omega) (by omega)
  have a := abs_f h
  refine e_jn ?_
  by_cases q : (0 : Int32) ≤ v
  · refine e_if_t q ?_
    rw [if_pos q] at a
    rw [a]
    have := e
    rw [← a] at e ⊢
    exact e
  · refine e_if_f q ?_
    rw [if_neg q, show (0 : Int32) - v = -v by rw [iI_of v, z_0, iI_sub, iI_neg]; congr 1; omega] at a
    rw [a]
    exact e
def ansMean (T : TW) (kd tl : Nat → Nat) (n c : Nat) (tn : Nat → Nat) (x p : Nat) (D A : Nat) (a : Int32) : Int32 :=
  if a = 0 then iI A else if a = 1 then iI ((D - A : Nat) : Int)
  else if 10 ≤ a.toInt ∧ a.toInt ≤ 13 then rgS T kd tl n c tn x p D (a.toInt - 10).toNat (D - A) / gcI (rgS T kd tl n c tn x p D (a.toInt - 10).toNat (D - A)) (D - A)
  else if 20 ≤ a.toInt ∧ a.toInt ≤ 23 then iI ((D - A : Nat) : Int) / gcI (rgS T kd tl n c tn x p D (a.toInt - 20).toNat (D - A)) (D - A) else -1000000
theorem e_lit {a : Int32} {k : Int} (h : a.toInt = k) : a = iI k := by rw [← h]; exact iI_of a
theorem cc_sum (W : WOK T kd tl n c tn) (hx : x < szR n) (hv : VR T x) {D A a : Nat} (hR : RNG (qcR T kd tl n c tn x p) D A) (ha : a < 4) {s : SS} (h : CW T kd tl c tn s) (h5 : s 39 4 = iI ((D - A : Nat) : Int)) (h6 : s 39 5 = stR T kd tl n c tn x p A) : ∃ t, f_X5_sumOf (iI a) s = some (rgS T kd tl n c tn x p D a (D - A), t) ∧ CZ 39 40 s t ∧ CW T kd tl c tn t ∧ t 39 4 = iI ((D - A : Nat) : Int) := by
  have := hR.1
  have := hR.2.1
  unfold f_X5_sumOf
  rw [h6, rgS_per W hR]
  exact cc_sumL W hx hv (D := A) (M := D - A) (by omega) ha (D - A) FU 0 s (by omega) (fu_lt (by omega)) h h5
theorem cc_mean (W : WOK T kd tl n c tn) (hx : x < szR n) (hv : VR T x) (hp : p < c) {D A : Nat} (hR : RNG (qcR T kd tl n c tn x p) D A) (a : Int32) {s : SS} (h : CW T kd tl c tn s) (hw : s 52 0 = wl_ n x) (hp2 : s 52 1 = iI p) : ∃ t, f_X11_mean a s = some (ansMean T kd tl n c tn x p D A a, t) ∧ CZ 39 40 s t ∧ CW T kd tl c tn t := by
  have hD := hR.2.1
  have hA := hR.1
  obtain ⟨t, e1, e2, e3, e4, e5, e6⟩ := cc_find W hx hv hp hR h
  rw [← hw, ← hp2] at e1
  have sm : ∀ a : Nat, a < 4 → ∃ u, f_X5_sumOf (iI a) t = some (rgS T kd tl n c tn x p D a (D - A), u) ∧ CZ 39 40 s u ∧ CW T kd tl c tn u ∧ u 39 4 = iI ((D - A : Nat) : Int) := by
    intro a ha
    obtain ⟨u, f1, f2, f3, f4⟩ := cc_sum W hx hv hR ha e3 e5 e6
    exact ⟨u, f1, e2.tr f2, f3, f4⟩
  have bnd : ∀ a : Nat, -2147483648 < (rgS T kd tl n c tn x p D a (D - A)).toInt := by
    intro a
    have := rgS_in (kd := kd) (tl := tl) (tn := tn) (n := n) (c := c) (x := x) (p := p) W.1 D a (D - A) (by omega)
    omega
  unfold f_X11_mean
  by_cases q0 : a = 0
  · subst q0
    refine ⟨t, ?_, e2, e3⟩
    repeat (first
      | with_reducible refine e_jn ?_
      | (with_reducible refine e_if_t ?sd ?_; case sd => decide)
      | (with_reducible refine e_if_f ?sd ?_; case sd => decide)
      | with_reducible refine e_bd e1 ?_)
    rw [e4]
    rfl
  · by_cases q1 : a = 1
    · subst q1
      refine ⟨t, ?_, e2, e3⟩
      repeat (first
        | with_reducible refine e_jn ?_
        | (with_reducible refine e_if_t ?sd ?_; case sd => decide)
        | (with_reducible refine e_if_f ?sd ?_; case sd => decide)
        | with_reducible refine e_bd e1 ?_)
      rw [e5]
      rfl
    · by_cases q2 : 10 ≤ a.toInt ∧ a.toInt ≤ 13
      · have hm : ∃ j : Nat, j < 4 ∧ a = iI ((10 + j : Nat) : Int) := ⟨(a.toInt - 10).toNat, by omega, e_lit (by omega)⟩
        obtain ⟨j, hj, ea⟩ := hm
        obtain ⟨u, f1, f2, f3, f4⟩ := sm j hj
        refine ⟨u, ?_, f2, f3⟩
        have ej : (a.toInt - 10).toNat = j := by rw [ea, iI_toInt (by omega)]; omega
        have fin : ansMean T kd tl n c tn x p D A a = rgS T kd tl n c tn x p D j (D - A) / gcI (rgS T kd tl n c tn x p D j (D - A)) (D - A) := by
          unfold ansMean
          rw [if_neg q0, if_neg q1, if_pos q2, ej]
        rw [fin]
        have er : a - a / 10 * 10 = iI j := by
          rw [ea, z_10, iI_rem (by omega) (by omega)]
          congr 1
          omega
        have rd := cc_red (a := rgS T kd tl n c tn x p D j (D - A)) (b := D - A) (bnd j) (by omega) u
        rw [← f4] at rd
        have c1 : ¬ a < 10 := by rw [ea]; simp (disch := omega) only [Int.toNat_natCast, iI_lt, iI_le, iI_eq, iI_add, iI_sub, iI_mul, iI_neg, iI_clamp, inb_ii, z_10]; omega
        have c2 : ¬ (13 : Int32) < a := by rw [ea]; simp (disch := omega) only [Int.toNat_natCast, iI_lt, iI_le, iI_eq, iI_add, iI_sub, iI_mul, iI_neg, iI_clamp, inb_ii, z_13]; omega
        have c3 : a < 20 := by rw [ea]; simp (disch := omega) only [Int.toNat_natCast, iI_lt, iI_le, iI_eq, iI_add, iI_sub, iI_mul, iI_neg, iI_clamp, inb_ii, z_20]; omega
        refine e_jn ?_
        refine e_jn ?_
        refine e_if_f c1 ?_
        refine e_if_f c2 ?_
        refine e_jn ?_
        refine e_jn ?_
        refine e_if_t c3 ?_
        refine e_jn ?_
        refine e_if_f q0 ?_
        refine e_if_f q1 ?_
        refine e_if_f (by decide) ?_
        refine e_bd e1 ?_
        refine e_if_f q0 ?_
        refine e_if_f q1 ?_
        refine e_gd (by decide) ?_
        rw [er]
        refine e_bd f1 ?_
        refine e_jn ?_
        refine e_if_f (by decide) ?_
        exact e_bdp rd rfl
      · by_cases q3 : 20 ≤ a.toInt ∧ a.toInt ≤ 23
        · have hm : ∃ j : Nat, j < 4 ∧ a = iI ((20 + j : Nat) : Int) := ⟨(a.toInt - 20).toNat, by omega, e_lit (by omega)⟩
          obtain ⟨j, hj, ea⟩ := hm
          obtain ⟨u, f1, f2, f3, f4⟩ := sm j hj
          refine ⟨u, ?_, f2, f3⟩
          have ej : (a.toInt - 20).toNat = j := by rw [ea, iI_toInt (by omega)]; omega
          have fin : ansMean T kd tl n c tn x p D A a = iI ((D - A : Nat) : Int) / gcI (rgS T kd tl n c tn x p D j (D - A)) (D - A) := by
            unfold ansMean
            rw [if_neg q0, if_neg q1, if_neg q2, if_pos q3, ej]
          rw [fin]
          have er : a - a / 10 * 10 = iI j := by
            rw [ea, z_10, iI_rem (by omega) (by omega)]
            congr 1
            omega
          have rd := cc_red (a := iI ((D - A : Nat) : Int)) (b := D - A) (bnd j) (by omega) u
          rw [← f4] at rd
          have c1 : ¬ a < 10 := by rw [ea]; simp (disch := omega) only [Int.toNat_natCast, iI_lt, iI_le, iI_eq, iI_add, iI_sub, iI_mul, iI_neg, iI_clamp, inb_ii, z_10]; omega
          have c2 : (13 : Int32) < a := by rw [ea]; simp (disch := omega) only [Int.toNat_natCast, iI_lt, iI_le, iI_eq, iI_add, iI_sub, iI_mul, iI_neg, iI_clamp, inb_ii, z_13]; omega
          have c3 : ¬ a < 20 := by rw [ea]; simp (disch := omega) only [Int.toNat_natCast, iI_lt, iI_le, iI_eq, iI_add, iI_sub, iI_mul, iI_neg, iI_clamp, inb_ii, z_20]; omega
          have c4 : ¬ (23 : Int32) < a := by rw [ea]; simp (disch := omega) only [Int.toNat_natCast, iI_lt, iI_le, iI_eq, iI_add, iI_sub, iI_mul, iI_neg, iI_clamp, inb_ii, z_23]; omega
          refine e_jn ?_
          refine e_jn ?_
          refine e_if_f c1 ?_
          refine e_if_t c2 ?_
          refine e_jn ?_
          refine e_jn ?_
          refine e_if_f c3 ?_
          refine e_if_f c4 ?_
          refine e_jn ?_
          refine e_if_f q0 ?_
          refine e_if_f q1 ?_
          refine e_if_t rfl ?_
          refine e_if_f (by decide) ?_
          refine e_bd e1 ?_
          refine e_if_f q0 ?_
          refine e_if_f q1 ?_
          refine e_gd (by decide) ?_
          rw [er]
          refine e_bd f1 ?_
          refine e_jn ?_
          refine e_if_t rfl ?_
          refine e_bdp rd ?_
          rw [f4]
        · refine ⟨s, ?_, CZ.rf _ _ _, h⟩
          have fin : ansMean T kd tl n c tn x p D A a = -1000000 := by
            unfold ansMean
            rw [if_neg q0, if_neg q1, if_neg q2, if_neg q3]
          rw [fin]
          have w10 : (10 : Int32).toInt = 10 := rfl
          have w13 : (13 : Int32).toInt = 13 := rfl
          have w20 : (20 : Int32).toInt = 20 := rfl
          have w23 : (23 : Int32).toInt = 23 := rfl
          refine e_jn ?_
          refine e_jn ?_
          have last : ∀ r : Res, (if a = 0 then r else if a = 1 then r else if (0 : Int32) = 0 then if (0 : Int32) = 0 then some (-1000000, s) else r else r) = some (-1000000, s) := by
            intro r
            refine e_if_f q0 ?_
            refine e_if_f q1 ?_
            refine e_if_t rfl ?_
            exact e_if_t rfl rfl
          by_cases c1 : a < 10
          · refine e_if_t c1 ?_
            refine e_jn ?_
            refine e_jn ?_
            refine e_if_t (by rw [lt32] at c1 ⊢; omega) ?_
            exact e_jn (last _)
          · refine e_if_f c1 ?_
            refine e_if_t (by rw [lt32] at c1 ⊢; omega) ?_
            refine e_jn ?_
            refine e_jn ?_
            by_cases c3 : a < 20
            · refine e_if_t c3 ?_
              exact e_jn (last _)
            · refine e_if_f c3 ?_
              refine e_if_t (by rw [lt32] at c3 ⊢; omega) ?_
              exact e_jn (last _)
