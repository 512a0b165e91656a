/-! mean: the ring of the class -/
variable {T : TW} {kd tl tn : Nat → Nat} {n c x p : Nat} {s t u : SS}
def qcR (T : TW) (kd tl : Nat → Nat) (n c : Nat) (tn : Nat → Nat) (x p : Nat) (d : Nat) : Nat := 4 * itR T kd tl n c tn x p d + (p + d) % c
theorem it_s (d : Nat) : itR T kd tl n c tn x p (d + 1) = bh n (itR T kd tl n c tn x p d) (cho T kd tl n (itR T kd tl n c tn x p d) (tn ((p + d) % c))) := rfl
theorem qc_lt (W : WOK T kd tl n c tn) (hx : x < szR n) (hv : VR T x) (d : Nat) : qcR T kd tl n c tn x p d < 18724 := by
  have h1 := it_ok (p := p) W hx hv d
  have h2 := W.pl (p + d)
  have h3 := W.cc
  have h4 := (W.sz h1.1).2
  unfold qcR
  omega
theorem cell4 (W : WOK T kd tl n c tn) (hx : x < szR n) (q : Nat) (hq : q < 4) : wl_ n x * 4 + iI q = iI ((4 * br n + (4 * x + q) : Nat) : Int) := by
  unfold wl_
  rw [z_4, iI_mul, iI_add]
  congr 1
  omega
/-- a wall and a place as one number -/
def stR (T : TW) (kd tl : Nat → Nat) (n c : Nat) (tn : Nat → Nat) (x p : Nat) (d : Nat) : Int32 := iI ((4 * br n + qcR T kd tl n c tn x p d : Nat) : Int)
theorem st_div (W : WOK T kd tl n c tn) (hx : x < szR n) (hv : VR T x) (d : Nat) : stR T kd tl n c tn x p d / 4 = wl_ n (itR T kd tl n c tn x p d) := by
  have hi := it_ok (p := p) W hx hv d
  have h2 := W.pl (p + d)
  have h3 := W.cc
  have h4 := W.sz hi.1
  unfold stR wl_ qcR
  rw [z_4, iI_div (by omega) (by omega)]
  congr 1
  omega
theorem st_rem (W : WOK T kd tl n c tn) (hx : x < szR n) (hv : VR T x) (d : Nat) : stR T kd tl n c tn x p d - stR T kd tl n c tn x p d / 4 * 4 = iI (((p + d) % c : Nat) : Int) := by
  have hi := it_ok (p := p) W hx hv d
  have h2 := W.pl (p + d)
  have h3 := W.cc
  have h4 := W.sz hi.1
  unfold stR qcR
  rw [z_4, iI_rem (by omega) (by omega)]
  congr 1
  omega
theorem st_eq (W : WOK T kd tl n c tn) (hx : x < szR n) (hv : VR T x) (i j : Nat) : (stR T kd tl n c tn x p i = stR T kd tl n c tn x p j) ↔ qcR T kd tl n c tn x p i = qcR T kd tl n c tn x p j := by
  have a := qc_lt (p := p) W hx hv i
  have b := qc_lt (p := p) W hx hv j
  have d := br_le W.2.2.2
  unfold stR
  rw [iI_eq (by omega) (by omega)]
  omega
theorem cw_step (W : WOK T kd tl n c tn) (hx : x < szR n) (hv : VR T x) (d : Nat) (h : CW T kd tl c tn s) : ∃ t : SS, f_X5_stateAfter (stR T kd tl n c tn x p d) s = some (stR T kd tl n c tn x p (d + 1), t) ∧ CQ s t ∧ CW T kd tl c tn t := by
  have hi := it_ok (p := p) W hx hv d
  have hp := W.pl (p + d)
  obtain ⟨t, e1, e2, e3⟩ := cw_choice W h hi.1 (W.tt hp)
  have hl := W.cho (W.tt hp) hi.1
  have zb := cw_behind W e3 hi.1 hl
  have hi1 := it_ok (p := p) W hx hv (d + 1)
  have h4 := W.cc
  have hp1 := W.pl (p + (d + 1))
  refine ⟨t, ?_, e2, e3⟩
  unfold f_X5_stateAfter
  rw [st_rem W hx hv, st_div W hx hv]
  refine e_gd (by decide) ?_
  refine e_lt ?_
  refine e_gd (by decide) ?_
  refine e_lt ?_
  refine e_bdp (cw_turn W h hp) ?_
  refine e_bd e1 ?_
  refine e_bdp zb ?_
  refine e_bdp (cw_after W e3 hp) ?_
  rw [pl_s]
  show some (wl_ n (itR T kd tl n c tn x p (d + 1)) * 4 + iI (((p + (d + 1)) % c : Nat) : Int), t) = _
  rw [cell4 W hi1.1 _ (by omega)]
  rfl
/-! the ring's numbers -/
theorem qc_step (W : WOK T kd tl n c tn) {i j : Nat} (h : qcR T kd tl n c tn x p i = qcR T kd tl n c tn x p j) : qcR T kd tl n c tn x p (i + 1) = qcR T kd tl n c tn x p (j + 1) := by
  have h3 := W.cc
  have a := W.pl (p + i)
  have b := W.pl (p + j)
  unfold qcR at *
  have e1 : itR T kd tl n c tn x p i = itR T kd tl n c tn x p j := by omega
  have e2 : (p + i) % c = (p + j) % c := by omega
  rw [it_s, it_s, ← pl_s p i c, ← pl_s p j c, e1, e2]
theorem qc_it (W : WOK T kd tl n c tn) {i j : Nat} (h : qcR T kd tl n c tn x p i = qcR T kd tl n c tn x p j) : itR T kd tl n c tn x p i = itR T kd tl n c tn x p j := by
  have h3 := W.cc
  have a := W.pl (p + i)
  have b := W.pl (p + j)
  unfold qcR at h
  omega
theorem qc_add (W : WOK T kd tl n c tn) {i j : Nat} (h : qcR T kd tl n c tn x p i = qcR T kd tl n c tn x p j) : ∀ k, qcR T kd tl n c tn x p (i + k) = qcR T kd tl n c tn x p (j + k) := by
  intro k
  induction k with
  | zero => exact h
  | succ k ih => exact qc_step W ih
theorem qc_per (W : WOK T kd tl n c tn) {D A : Nat} (hR : RNG (qcR T kd tl n c tn x p) D A) {k : Nat} (hk : A ≤ k) : qcR T kd tl n c tn x p (k + (D - A)) = qcR T kd tl n c tn x p k := by
  have h := qc_add W hR.2.2.1 (k - A)
  have hA := hR.1
  rw [show D + (k - A) = k + (D - A) by omega, show A + (k - A) = k by omega] at h
  exact h
theorem qc_mul (W : WOK T kd tl n c tn) {D A : Nat} (hR : RNG (qcR T kd tl n c tn x p) D A) {k : Nat} (hk : A ≤ k) : ∀ m, qcR T kd tl n c tn x p (k + m * (D - A)) = qcR T kd tl n c tn x p k := by
  intro m
  induction m with
  | zero => rw [Nat.zero_mul, Nat.add_zero]
  | succ m ih =>
    rw [Nat.succ_mul, ← Nat.add_assoc, qc_per W hR (by omega)]
    exact ih
theorem qc_red (W : WOK T kd tl n c tn) {D A : Nat} (hR : RNG (qcR T kd tl n c tn x p) D A) {k : Nat} (hk : A ≤ k) : qcR T kd tl n c tn x p k = qcR T kd tl n c tn x p (A + (k - A) % (D - A)) := by
  have h := qc_mul W hR (k := A + (k - A) % (D - A)) (by omega) ((k - A) / (D - A))
  have e := Nat.mod_add_div (k - A) (D - A)
  rw [Nat.mul_comm] at e
  rw [show A + (k - A) % (D - A) + (k - A) / (D - A) * (D - A) = k by omega] at h
  exact h
theorem qc_iff (W : WOK T kd tl n c tn) {D A : Nat} (hR : RNG (qcR T kd tl n c tn x p) D A) {i d : Nat} (hd : 1 ≤ d) (h : qcR T kd tl n c tn x p (i + d) = qcR T kd tl n c tn x p i) : A ≤ i ∧ (D - A) ∣ d := by
  have hA := hR.1
  have inj : ∀ a b, a < D → b < D → qcR T kd tl n c tn x p a = qcR T kd tl n c tn x p b → a = b := by
    intro a b ha hb e
    rcases Nat.lt_trichotomy a b with w | w | w
    · exact absurd e (hR.2.2.2 a b w hb)
    · exact w
    · exact absurd e.symm (hR.2.2.2 b a w ha)
  have m1 := Nat.mod_lt (i + d - A) (show 0 < D - A by omega)
  have m2 := Nat.mod_lt (i - A) (show 0 < D - A by omega)
  by_cases q : A ≤ i
  · refine ⟨q, ?_⟩
    rw [qc_red W hR (k := i + d) (by omega), qc_red W hR (k := i) q] at h
    have e := inj _ _ (by omega) (by omega) h
    have e2 : (i + d - A) % (D - A) = (i - A) % (D - A) := by omega
    have e3 := Nat.sub_mod_eq_zero_of_mod_eq e2
    rw [show i + d - A - (i - A) = d by omega] at e3
    exact Nat.dvd_of_mod_eq_zero e3
  · exfalso
    by_cases q2 : A ≤ i + d
    · rw [qc_red W hR (k := i + d) q2] at h
      have e := inj _ _ (by omega) (by omega) h
      omega
    · have e := inj _ _ (by omega) (by omega) h
      omega
/-- the first loop: one waits, the other goes -/
theorem cc_brent (W : WOK T kd tl n c tn) (hx : x < szR n) (hv : VR T x) {D A : Nat} (hR : RNG (qcR T kd tl n c tn x p) D A) (v1 : Int32) (k6 : SS → Res) : ∀ (m N P d : Nat) (s : SS), P - 1 + d + m = 80000 → m < N → 1 ≤ d → d ≤ P → (P ≤ 2 * A + 2 ∨ P ≤ 2 * (D - A)) → (A ≤ P - 1 → d ≤ D - A) → CW T kd tl c tn s → s 39 4 = iI d → ∃ t, lp_X5_find_27 v1 k6 N (stR T kd tl n c tn x p (P - 1)) (stR T kd tl n c tn x p (P - 1 + d)) (iI P) (iI ((P - 1 + d - 1 : Nat) : Int)) s = k6 t ∧ CZ 39 39 s t ∧ CW T kd tl c tn t ∧ t 39 4 = iI ((D - A : Nat) : Int) := by
  have hD := hR.2.1
  have hA := hR.1
  intro m
  induction m with
  | zero => intro N P d s h0 _ _ h1 h2; omega
  | succ m ih =>
    intro N P d s h0 hN hd hdP hP hI hs h4
    cases N with
    | zero => omega
    | succ N =>
      have c1 : ¬ (1000000 : Int32) ≤ iI ((P - 1 + d - 1 : Nat) : Int) := by simp (disch := omega) only [Int.toNat_natCast, iI_lt, iI_le, iI_eq, iI_add, iI_sub, iI_mul, iI_neg, iI_clamp, inb_ii, z_1000000]; omega
      by_cases e : qcR T kd tl n c tn x p (P - 1 + d) = qcR T kd tl n c tn x p (P - 1)
      · obtain ⟨w1, w2⟩ := qc_iff W hR hd e
        have w3 := Nat.le_of_dvd (by omega) w2
        have w4 := hI w1
        refine ⟨s, ?_, CZ.rf _ _ _, hs, ?_⟩
        · rw [lp_X5_find_27]
          refine e_if_f c1 ?_
          exact e_if_t ((st_eq W hx hv _ _).mpr e) rfl
        · rw [h4]
          congr 1
          omega
      · have c2 : ¬ stR T kd tl n c tn x p (P - 1 + d) = stR T kd tl n c tn x p (P - 1) := fun w => e ((st_eq W hx hv _ _).mp w)
        have hI2 : A ≤ P - 1 → d ≠ D - A := fun w1 w2 => e (by rw [w2]; exact qc_per W hR w1)
        by_cases q : d = P
        · subst q
          obtain ⟨t1, e1, e2, e3⟩ := cw_step (p := p) (s := up s 39 4 0) W hx hv (d - 1 + d) (hs.up1 (by omega))
          have q39 : t1 39 4 = iI 0 := by rw [e2.1 39 (by omega) (by omega) (by omega) (by omega) (by omega), up_at]; rfl
          obtain ⟨t, f1, f2, f3, f4⟩ := ih N (2 * d) 1 (up t1 39 4 (iI (1 : Nat))) (by omega) (by omega) (by omega) (by omega) (by
            by_cases w : A ≤ d - 1
            · have := hI w
              have := hI2 w
              omega
            · omega) (by intro _; omega) (e3.up1 (by omega)) (up_at _ _ _ _)
          refine ⟨t, ?_, (((CZ.up1 (by omega)).tr e2.z).tr (CZ.up1 (by omega))).tr f2, f3, f4⟩
          rw [lp_X5_find_27]
          refine e_if_f c1 ?_
          refine e_if_f c2 ?_
          refine e_jn ?_
          refine e_if_t h4 ?_
          refine e_lt ?_
          refine e_lts ?_
          refine e_bd e1 ?_
          refine e_lts ?_
          rw [q39, nx_s, z_2, iI_mul]
          rw [show 2 * d - 1 = d - 1 + d by omega, show (((d - 1 + d + 1 - 1 : Nat) : Nat) : Int) = ((d - 1 + d - 1 + 1 : Nat) : Int) by omega, show ((2 * d : Nat) : Int) = (d : Int) * 2 by omega] at f1
          rw [show iI 0 + 1 = iI ((1 : Nat) : Int) from rfl]
          exact f1
        · obtain ⟨t1, e1, e2, e3⟩ := cw_step (p := p) W hx hv (P - 1 + d) hs
          have q39 : t1 39 4 = iI d := by rw [e2.1 39 (by omega) (by omega) (by omega) (by omega) (by omega)]; exact h4
          obtain ⟨t, f1, f2, f3, f4⟩ := ih N P (d + 1) (up t1 39 4 (iI ((d + 1 : Nat) : Int))) (by omega) (by omega) (by omega) (by omega) hP (fun w => by
            have := hI w
            have := hI2 w
            omega) (e3.up1 (by omega)) (up_at _ _ _ _)
          refine ⟨t, ?_, (e2.z.tr (CZ.up1 (by omega))).tr f2, f3, f4⟩
          rw [lp_X5_find_27]
          refine e_if_f c1 ?_
          refine e_if_f c2 ?_
          refine e_jn ?_
          refine e_if_f (by rw [h4, iI_eq (by omega) (by omega)]; omega) ?_
          refine e_bd e1 ?_
          refine e_lts ?_
          rw [q39, nx_s, nx_s]
          rw [show P - 1 + (d + 1) = P - 1 + d + 1 by omega, show P - 1 + d + 1 - 1 = P - 1 + d - 1 + 1 by omega] at f1
          exact f1
/-- the second: one goes ahead by the ring's length -/
theorem cc_ahead (W : WOK T kd tl n c tn) (hx : x < szR n) (hv : VR T x) {L : Nat} (hL : L ≤ 18724) (v1 : Int32) (k9 : Int32 → SS → Res) : ∀ (m N j : Nat) (s : SS), j + m = L → m < N → CW T kd tl c tn s → s 39 4 = iI L → ∃ t, lp_X5_find_95 v1 k9 N (stR T kd tl n c tn x p j) (iI j) s = k9 (stR T kd tl n c tn x p L) t ∧ CQ s t ∧ CW T kd tl c tn t := by
  intro m
  induction m with
  | zero =>
    intro N j s hj hN hs h4
    cases N with
    | zero => omega
    | succ N =>
      obtain rfl : j = L := by omega
      refine ⟨s, ?_, CQ.rf s, hs⟩
      rw [lp_X5_find_95]
      exact e_if_t (by rw [h4]; simp (disch := omega) only [Int.toNat_natCast, iI_lt, iI_le, iI_eq, iI_add, iI_sub, iI_mul, iI_neg, iI_clamp, inb_ii]; omega) rfl
  | succ m ih =>
    intro N j s hj hN hs h4
    cases N with
    | zero => omega
    | succ N =>
      obtain ⟨t1, e1, e2, e3⟩ := cw_step (p := p) W hx hv j hs
      obtain ⟨t, f1, f2, f3⟩ := ih N (j + 1) t1 (by omega) (by omega) e3 (by rw [e2.1 39 (by omega) (by omega) (by omega) (by omega) (by omega)]; exact h4)
      refine ⟨t, ?_, e2.tr f2, f3⟩
      rw [lp_X5_find_95]
      refine e_if_f (by rw [h4]; simp (disch := omega) only [Int.toNat_natCast, iI_lt, iI_le, iI_eq, iI_add, iI_sub, iI_mul, iI_neg, iI_clamp, inb_ii]; omega) ?_
      refine e_bd e1 ?_
      rw [nx_s]
      exact f1
/-- the third: both go till they meet -/
theorem cc_meet (W : WOK T kd tl n c tn) (hx : x < szR n) (hv : VR T x) {D A : Nat} (hR : RNG (qcR T kd tl n c tn x p) D A) : ∀ (m N j : Nat) (s : SS), j + m = A → m < N → CW T kd tl c tn s → s 39 5 = stR T kd tl n c tn x p j → s 39 3 = iI j → ∃ t, lp_X5_find_131 N (stR T kd tl n c tn x p (D - A + j)) (iI j) s = some (0, t) ∧ CZ 39 39 s t ∧ CW T kd tl c tn t ∧ t 39 5 = stR T kd tl n c tn x p A ∧ t 39 3 = iI A ∧ t 39 4 = s 39 4 := by
  have hD := hR.2.1
  have hA := hR.1
  intro m
  induction m with
  | zero =>
    intro N j s hj hN hs h5 h3
    cases N with
    | zero => omega
    | succ N =>
      obtain rfl : j = A := by omega
      refine ⟨s, ?_, CZ.rf _ _ _, hs, h5, h3, rfl⟩
      rw [lp_X5_find_131]
      refine e_if_f (by simp (disch := omega) only [Int.toNat_natCast, iI_lt, iI_le, iI_eq, iI_add, iI_sub, iI_mul, iI_neg, iI_clamp, inb_ii, z_1000000]; omega) ?_
      refine e_if_t ?_ rfl
      rw [h5, st_eq W hx hv, Nat.add_comm]
      exact qc_per W hR (Nat.le_refl _)
  | succ m ih =>
    intro N j s hj hN hs h5 h3
    cases N with
    | zero => omega
    | succ N =>
      obtain ⟨t1, e1, e2, e3⟩ := cw_step (p := p) W hx hv (D - A + j) hs
      have q1 : t1 39 = s 39 := e2.1 39 (by omega) (by omega) (by omega) (by omega) (by omega)
      obtain ⟨t2, g1, g2, g3⟩ := cw_step (p := p) W hx hv j e3
      have q2 : t2 39 = s 39 := (g2.1 39 (by omega) (by omega) (by omega) (by omega) (by omega)).trans q1
      obtain ⟨t, f1, f2, f3, f4, f5, f6⟩ := ih N (j + 1) (up (up t2 39 5 (stR T kd tl n c tn x p (j + 1))) 39 3 (iI ((j + 1 : Nat) : Int))) (by omega) (by omega) ((g3.up1 (by omega)).up1 (by omega)) (by rw [up_slot (by omega), up_at]) (up_at _ _ _ _)
      refine ⟨t, ?_, ((e2.z.tr g2.z).tr ((CZ.up1 (by omega)).tr (CZ.up1 (by omega)))).tr f2, f3, f4, f5, ?_⟩
      · rw [lp_X5_find_131]
        refine e_if_f (by simp (disch := omega) only [Int.toNat_natCast, iI_lt, iI_le, iI_eq, iI_add, iI_sub, iI_mul, iI_neg, iI_clamp, inb_ii, z_1000000]; omega) ?_
        refine e_if_f ?_ ?_
        · rw [h5, st_eq W hx hv, Nat.add_comm]
          intro w
          have := (qc_iff W hR (by omega) w).1
          omega
        · refine e_bd e1 ?_
          rw [q1, h5]
          refine e_bd g1 ?_
          refine e_lts ?_
          refine e_lts ?_
          rw [up_slot (by omega), q2, h3, nx_s]
          exact f1
      · rw [f6, up_slot (by omega), up_slot (by omega), q2]
theorem cc_find (W : WOK T kd tl n c tn) (hx : x < szR n) (hv : VR T x) (hp : p < c) {D A : Nat} (hR : RNG (qcR T kd tl n c tn x p) D A) {s : SS} (h : CW T kd tl c tn s) : ∃ t, f_X5_find (wl_ n x) (iI p) s = some (0, t) ∧ CZ 39 40 s t ∧ CW T kd tl c tn t ∧ t 39 3 = iI A ∧ t 39 4 = iI ((D - A : Nat) : Int) ∧ t 39 5 = stR T kd tl n c tn x p A := by
  have hD := hR.2.1
  have hA := hR.1
  have h4 := W.cc
  have e0 : wl_ n x * 4 + iI p = stR T kd tl n c tn x p 0 := by
    rw [cell4 W hx p (by omega)]
    unfold stR qcR
    rw [Nat.add_zero, Nat.mod_eq_of_lt hp]
    rfl
  obtain ⟨t1, a1, a2, a3⟩ := cw_step (p := p) W hx hv 0 h
  obtain ⟨t2, b1, b2, b3, b4⟩ := cc_brent W hx hv hR (stR T kd tl n c tn x p 0) (fun (s5 : SS) => jn (fun (v7 : Int32) (s8 : SS) => lts (up s8 39 5 (stR T kd tl n c tn x p 0)) (fun (s10 : SS) => lts (up s10 39 3 0) (fun (s11 : SS) => lp_X5_find_131 FU v7 0 s11))) (fun (k9 : Int32 → SS → Res) => lp_X5_find_95 (stR T kd tl n c tn x p 0) k9 FU (stR T kd tl n c tn x p 0) 0 s5)) 79999 FU 1 1 (up t1 39 4 1) (by omega) (fu_lt (by omega)) (by omega) (by omega) (Or.inl (by omega)) (fun _ => by omega) (a3.up1 (by omega)) (up_at _ _ _ _)
  obtain ⟨t3, d1, d2, d3⟩ := cc_ahead (p := p) W hx hv (L := D - A) (by omega) (stR T kd tl n c tn x p 0) (fun (v7 : Int32) (s8 : SS) => lts (up s8 39 5 (stR T kd tl n c tn x p 0)) (fun (s10 : SS) => lts (up s10 39 3 0) (fun (s11 : SS) => lp_X5_find_131 FU v7 0 s11))) (D - A) FU 0 t2 (by omega) (fu_lt (by omega)) b3 b4
  have q3 : t3 39 = t2 39 := d2.1 39 (by omega) (by omega) (by omega) (by omega) (by omega)
  obtain ⟨t, f1, f2, f3, f4, f5, f6⟩ := cc_meet W hx hv hR A FU 0 (up (up t3 39 5 (stR T kd tl n c tn x p 0)) 39 3 0) (by omega) (fu_lt (by omega)) ((d3.up1 (by omega)).up1 (by omega)) (by rw [up_slot (by omega), up_at]) (up_at _ _ _ _)
  have z1 : CZ 39 40 s t := (((((a2.z.tr (CZ.up1 (by omega))).tr b2).tr d2.z).tr ((CZ.up1 (by omega)).tr (CZ.up1 (by omega)))).tr f2).m (by omega) (by omega)
  refine ⟨t, ?_, z1, f3, f5, ?_, f4⟩
  · unfold f_X5_find
    rw [e0]
    refine e_lt ?_
    refine e_bd a1 ?_
    refine e_lts ?_
    refine e_jn ?_
    refine Eq.trans b1 ?_
    refine e_jn ?_
    refine Eq.trans d1 ?_
    refine e_lts ?_
    refine e_lts ?_
    exact f1
  · rw [f6, up_slot (by omega), up_slot (by omega), q3, b4]
/-- worth once round -/
def rgS (T : TW) (kd tl : Nat → Nat) (n c : Nat) (tn : Nat → Nat) (x p : Nat) (D a : Nat) : Nat → Int32
  | 0 => 0
  | k + 1 => rgS T kd tl n c tn x p D a k + wth T n (itR T kd tl n c tn x p (D + k + 1)) a
theorem rgS_in (hT : TOK T) (D a : Nat) : ∀ k : Nat, k ≤ 18724 → -400 * (k : Int) ≤ (rgS T kd tl n c tn x p D a k).toInt ∧ (rgS T kd tl n c tn x p D a k).toInt ≤ 400 * (k : Int) := by
  intro k
  induction k with
  | zero => intro _; unfold rgS; decide
  | succ k ih =>
    intro hk
    have h1 := ih (by omega)
    have h2 := wth_in T hT n (itR T kd tl n c tn x p (D + k + 1)) a
    unfold rgS
    generalize rgS T kd tl n c tn x p D a k = v at h1 ⊢
    generalize wth T n (itR T kd tl n c tn x p (D + k + 1)) a = w at h2 ⊢
    rw [iI_of v, iI_of w, iI_add, iI_toInt (by omega)]
    omega
theorem cc_sumL (W : WOK T kd tl n c tn) (hx : x < szR n) (hv : VR T x) {D M a : Nat} (hM : M ≤ 18724) (ha : a < 4) : ∀ (m N k : Nat) (s : SS), k + m = M → m < N → CW T kd tl c tn s → s 39 4 = iI M → ∃ t, lp_X5_sumOf_10 (iI a) N (rgS T kd tl n c tn x p D a k) (stR T kd tl n c tn x p (D + k)) (iI k) s = some (rgS T kd tl n c tn x p D a M, t) ∧ CZ 39 40 s t ∧ CW T kd tl c tn t ∧ t 39 4 = iI M := by
  intro m
  induction m with
  | zero =>
    intro N k s hk hN hs h4
    cases N with
    | zero => omega
    | succ N =>
      obtain rfl : k = M := by omega
      refine ⟨s, ?_, CZ.rf _ _ _, hs, h4⟩
      rw [lp_X5_sumOf_10]
      exact e_if_t (by rw [h4]; simp (disch := omega) only [Int.toNat_natCast, iI_lt, iI_le, iI_eq, iI_add, iI_sub, iI_mul, iI_neg, iI_clamp, inb_ii]; omega) rfl
  | succ m ih =>
    intro N k s hk hN hs h4
    cases N with
    | zero => omega
    | succ N =>
      have hi := it_ok (p := p) W hx hv (D + k + 1)
      obtain ⟨t1, e1, e2, e3⟩ := cw_step (p := p) W hx hv (D + k) hs
      obtain ⟨t2, g1, g2, g3⟩ := cw_worth W e3 (m := a) hi.1 ha
      have q39 : t2 39 = s 39 := (g2.1 39 (by omega) (by omega) (by omega) (by omega) (by omega)).trans (e2.1 39 (by omega) (by omega) (by omega) (by omega) (by omega))
      obtain ⟨t, f1, f2, f3⟩ := ih N (k + 1) t2 (by omega) (by omega) g3 (by rw [q39]; exact h4)
      refine ⟨t, ?_, (e2.z.tr g2.z).tr f2, f3⟩
      rw [lp_X5_sumOf_10]
      refine e_if_f (by rw [h4]; simp (disch := omega) only [Int.toNat_natCast, iI_lt, iI_le, iI_eq, iI_add, iI_sub, iI_mul, iI_neg, iI_clamp, inb_ii]; omega) ?_
      refine e_bd e1 ?_
      refine e_gd (by decide) ?_
      rw [st_div W hx hv]
      refine e_bd g1 ?_
      refine e_lt ?_
      rw [nx_s]
      exact f1
theorem rgS_per (W : WOK T kd tl n c tn) {D A a : Nat} (hR : RNG (qcR T kd tl n c tn x p) D A) : ∀ k, rgS T kd tl n c tn x p D a k = rgS T kd tl n c tn x p A a k := by
  intro k
  induction k with
  | zero => rfl
  | succ k ih =>
    unfold rgS
    have e := qc_it W (qc_add W hR.2.2.1 (k + 1))
    rw [ih, show D + k + 1 = D + (k + 1) by omega, show A + k + 1 = A + (k + 1) by omega, e]
