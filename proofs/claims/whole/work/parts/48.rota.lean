/-! the rota: c makers tn 0 .. tn (c - 1) -/
def ROK (c : Nat) (tn : Nat → Nat) : Prop := (1 ≤ c ∧ c ≤ 4) ∧ ∀ i, i < c → tn i < 4
def RTC (c : Nat) (tn : Nat → Nat) (s : SS) : Prop := s 35 5 = iI c ∧ ∀ i, i < c → s 38 i = iI (tn i)
def RTR (c : Nat) (tn : Nat → Nat) (s : SS) : Prop := s 56 5 = iI c ∧ ∀ i, i < c → s 62 i = iI (tn i)
theorem CQ.rc {c : Nat} {tn : Nat → Nat} {s t : SS} (h : CQ s t) (g : RTC c tn s) : RTC c tn t := by
  unfold RTC
  rw [h.1 35 (by omega) (by omega) (by omega) (by omega) (by omega), h.1 38 (by omega) (by omega) (by omega) (by omega) (by omega)]
  exact g
theorem RQ.rr {c : Nat} {tn : Nat → Nat} {s t : SS} (h : RQ s t) (g : RTR c tn s) : RTR c tn t := by
  unfold RTR
  rw [h.2 5 (by unfold rsl; omega) (by omega) (by omega) (by omega), h.1 62 (by omega) (by omega)]
  exact g
def qF (T : TW) (n x : Nat) (tn : Nat → Nat) : Nat → Bool
  | 0 => true
  | i + 1 => qF T n x tn i && decide (may T n x (tn i) = 0)
theorem qF_no {T : TW} {n x : Nat} {tn : Nat → Nat} {i : Nat} (h : qF T n x tn i = false) : ∀ k, i ≤ k → qF T n x tn k = false := by
  intro k
  induction k with
  | zero => intro w; rw [show i = 0 by omega] at h; exact h
  | succ k ih =>
    intro w
    by_cases e : i = k + 1
    · rw [← e]; exact h
    · show (qF T n x tn k && _) = false
      rw [ih (by omega)]
      rfl
theorem ct_quiet {T : TW} (hT : TOK T) {n x c : Nat} {tn : Nat → Nat} (hr : ROK c tn) {s : SS} (hs : CT_ T s) (hc : RTC c tn s) (hn : 1 ≤ n ∧ n ≤ 4) (hx : x < szR n) : ∃ t : SS, f_X2_quietOn (wl_ n x) s = some (if qF T n x tn c = true then 1 else 0, t) ∧ CQ s t ∧ CT_ T t := by
  obtain ⟨⟨h1, h2⟩, h3⟩ := hr
  have lp : ∀ (m N i : Nat) (u : SS), i + m = c → m < N → CT_ T u → RTC c tn u → qF T n x tn i = true → ∃ t : SS, lp_X2_quietOn_2 (wl_ n x) N (iI i) u = some (if qF T n x tn c = true then 1 else 0, t) ∧ CQ u t ∧ CT_ T t := by
    intro m
    induction m with
    | zero =>
      intro N i u hi hN hu hcu hq
      cases N with
      | zero => omega
      | succ N =>
        obtain rfl : i = c := by omega
        refine ⟨u, ?_, CQ.rf u, hu⟩
        rw [lp_X2_quietOn_2, if_pos hq]
        exact e_if_t (by rw [hcu.1]; simp (disch := omega) only [Int.toNat_natCast, iI_lt, iI_le, iI_eq, iI_add, iI_sub, iI_mul, iI_neg, iI_clamp, inb_ii]; omega) rfl
    | succ m ih =>
      intro N i u hi hN hu hcu hq
      cases N with
      | zero => omega
      | succ N =>
        have cl : Int32.toNatClampNeg (iI (i : Int)) = i := by simp (disch := omega) only [Int.toNat_natCast, iI_lt, iI_le, iI_eq, iI_add, iI_sub, iI_mul, iI_neg, iI_clamp, inb_ii]
        obtain ⟨u1, e1, e2, e3⟩ := ct_may (p := tn i) hT hu hn hx (h3 i (by omega))
        have un : qF T n x tn (i + 1) = (qF T n x tn i && decide (may T n x (tn i) = 0)) := rfl
        have e1 : f_X10_mayOf (wl_ n x) (u 38 (Int32.toNatClampNeg (iI (i : Int)))) u = some (may T n x (tn i), u1) := by rw [cl, hcu.2 i (by omega)]; exact e1
        have nx : iI (i : Int) + 1 = iI ((i + 1 : Nat) : Int) := by rw [z_1, iI_add]; rfl
        rw [lp_X2_quietOn_2]
        by_cases q : may T n x (tn i) = 0
        · obtain ⟨t, f1, f2, f3⟩ := ih N (i + 1) u1 (by omega) (by omega) e3 (e2.rc hcu) (by rw [un, hq, decide_eq_true q]; rfl)
          refine ⟨t, ?_, e2.tr f2, f3⟩
          refine e_if_f (by rw [hcu.1]; simp (disch := omega) only [Int.toNat_natCast, iI_lt, iI_le, iI_eq, iI_add, iI_sub, iI_mul, iI_neg, iI_clamp, inb_ii]; omega) ?_
          refine e_if_f (by simp (disch := omega) only [Int.toNat_natCast, iI_lt, iI_le, iI_eq, iI_add, iI_sub, iI_mul, iI_neg, iI_clamp, inb_ii, z_4]; omega) ?_
          refine e_gd (by simp (disch := omega) only [Int.toNat_natCast, iI_lt, iI_le, iI_eq, iI_add, iI_sub, iI_mul, iI_neg, iI_clamp, inb_ii]; omega) ?_
          refine e_bd e1 ?_
          refine e_if_t q ?_
          rw [nx]
          exact f1
        · have nq : qF T n x tn c = false := qF_no (i := i + 1) (by rw [un, decide_eq_false q, Bool.and_false]) c (by omega)
          refine ⟨u1, ?_, e2, e3⟩
          refine e_if_f (by rw [hcu.1]; simp (disch := omega) only [Int.toNat_natCast, iI_lt, iI_le, iI_eq, iI_add, iI_sub, iI_mul, iI_neg, iI_clamp, inb_ii]; omega) ?_
          refine e_if_f (by simp (disch := omega) only [Int.toNat_natCast, iI_lt, iI_le, iI_eq, iI_add, iI_sub, iI_mul, iI_neg, iI_clamp, inb_ii, z_4]; omega) ?_
          refine e_gd (by simp (disch := omega) only [Int.toNat_natCast, iI_lt, iI_le, iI_eq, iI_add, iI_sub, iI_mul, iI_neg, iI_clamp, inb_ii]; omega) ?_
          refine e_bd e1 ?_
          refine e_if_f q ?_
          rw [nq]
          rfl
  unfold f_X2_quietOn
  exact lp c FU 0 s (by omega) (fu_lt (by omega)) hs hc rfl
theorem rt_quiet {T : TW} (hT : TOK T) {n x c : Nat} {tn : Nat → Nat} (hr : ROK c tn) {s : SS} (hs : RT_ T n s) (hc : RTR c tn s) (hn : 1 ≤ n ∧ n ≤ 4) (hx : x < szR n) (hv : VR T x) : ∃ t : SS, f_X12_isQuiet (iI x) s = some (if qF T n x tn c = true then 1 else 0, t) ∧ RQ s t ∧ RT_ T n t := by
  obtain ⟨⟨h1, h2⟩, h3⟩ := hr
  have lp : ∀ (m N i : Nat) (u : SS), i + m = c → m < N → RT_ T n u → RTR c tn u → qF T n x tn i = true → ∃ t : SS, lp_X12_isQuiet_2 (iI x) N (iI i) u = some (if qF T n x tn c = true then 1 else 0, t) ∧ RQ u t ∧ RT_ T n t := by
    intro m
    induction m with
    | zero =>
      intro N i u hi hN hu hcu hq
      cases N with
      | zero => omega
      | succ N =>
        obtain rfl : i = c := by omega
        refine ⟨u, ?_, RQ.rf u, hu⟩
        rw [lp_X12_isQuiet_2, if_pos hq]
        exact e_if_t (by rw [hcu.1]; simp (disch := omega) only [Int.toNat_natCast, iI_lt, iI_le, iI_eq, iI_add, iI_sub, iI_mul, iI_neg, iI_clamp, inb_ii]; omega) rfl
    | succ m ih =>
      intro N i u hi hN hu hcu hq
      cases N with
      | zero => omega
      | succ N =>
        have cl : Int32.toNatClampNeg (iI (i : Int)) = i := by simp (disch := omega) only [Int.toNat_natCast, iI_lt, iI_le, iI_eq, iI_add, iI_sub, iI_mul, iI_neg, iI_clamp, inb_ii]
        obtain ⟨u1, e1, e2, e3⟩ := rt_may (p := tn i) hT hu hn hx hv (h3 i (by omega))
        have un : qF T n x tn (i + 1) = (qF T n x tn i && decide (may T n x (tn i) = 0)) := rfl
        have e1 : f_X12_mayOf (iI x) (u 62 (Int32.toNatClampNeg (iI (i : Int)))) u = some (may T n x (tn i), u1) := by rw [cl, hcu.2 i (by omega)]; exact e1
        have nx : iI (i : Int) + 1 = iI ((i + 1 : Nat) : Int) := by rw [z_1, iI_add]; rfl
        rw [lp_X12_isQuiet_2]
        by_cases q : may T n x (tn i) = 0
        · obtain ⟨t, f1, f2, f3⟩ := ih N (i + 1) u1 (by omega) (by omega) e3 (e2.rr hcu) (by rw [un, hq, decide_eq_true q]; rfl)
          refine ⟨t, ?_, e2.tr f2, f3⟩
          refine e_if_f (by rw [hcu.1]; simp (disch := omega) only [Int.toNat_natCast, iI_lt, iI_le, iI_eq, iI_add, iI_sub, iI_mul, iI_neg, iI_clamp, inb_ii]; omega) ?_
          refine e_gd (by simp (disch := omega) only [Int.toNat_natCast, iI_lt, iI_le, iI_eq, iI_add, iI_sub, iI_mul, iI_neg, iI_clamp, inb_ii]; omega) ?_
          refine e_bd e1 ?_
          refine e_if_t q ?_
          rw [nx]
          exact f1
        · have nq : qF T n x tn c = false := qF_no (i := i + 1) (by rw [un, decide_eq_false q, Bool.and_false]) c (by omega)
          refine ⟨u1, ?_, e2, e3⟩
          refine e_if_f (by rw [hcu.1]; simp (disch := omega) only [Int.toNat_natCast, iI_lt, iI_le, iI_eq, iI_add, iI_sub, iI_mul, iI_neg, iI_clamp, inb_ii]; omega) ?_
          refine e_gd (by simp (disch := omega) only [Int.toNat_natCast, iI_lt, iI_le, iI_eq, iI_add, iI_sub, iI_mul, iI_neg, iI_clamp, inb_ii]; omega) ?_
          refine e_bd e1 ?_
          refine e_if_f q ?_
          rw [nq]
          rfl
  unfold f_X12_isQuiet
  exact lp c FU 0 s (by omega) (fu_lt (by omega)) hs hc rfl
theorem cc_quiet {T : TW} (hT : TOK T) {n x c : Nat} {tn : Nat → Nat} (hr : ROK c tn) {s : SS} (hs : CT_ T s) (hc : RTC c tn s) (hn : 1 ≤ n ∧ n ≤ 4) (hx : x < szR n) (hw : s 52 0 = wl_ n x) : ∃ t : SS, f_X11_quiet s = some (if qF T n x tn c = true then 1 else 0, t) ∧ CQ s t ∧ CT_ T t := by
  obtain ⟨t, e1, e2, e3⟩ := ct_quiet hT hr hs hc hn hx
  refine ⟨t, ?_, e2, e3⟩
  unfold f_X11_quiet
  rw [hw]
  refine e_bd e1 ?_
  exact e_gd (zb01 _) rfl
theorem cr_quiet {T : TW} (hT : TOK T) {n x c : Nat} {tn : Nat → Nat} (hr : ROK c tn) {s : SS} (hs : RT_ T n s) (hc : RTR c tn s) (hn : 1 ≤ n ∧ n ≤ 4) (hx : x < szR n) (hv : VR T x) (hw : s 56 4 = iI x) : ∃ t : SS, f_X12_quiet s = some (if qF T n x tn c = true then 1 else 0, t) ∧ RQ s t ∧ RT_ T n t := by
  obtain ⟨t, e1, e2, e3⟩ := rt_quiet hT hr hs hc hn hx hv
  refine ⟨t, ?_, e2, e3⟩
  unfold f_X12_quiet
  rw [hw]
  refine e_bd e1 ?_
  exact e_gd (zb01 _) rfl
/-! days by kinds -/
theorem mod_next {c p : Nat} (hp : p < c) : (if (c : Int) ≤ (p : Int) + 1 then (0 : Nat) else p + 1) = (p + 1) % c := by
  by_cases q : c ≤ p + 1
  · rw [if_pos (by omega), show p + 1 = c by omega, Nat.mod_self]
  · rw [if_neg (by omega), Nat.mod_eq_of_lt (by omega)]
theorem ct_after {c p : Nat} {tn : Nat → Nat} {s : SS} (hr : ROK c tn) (hc : RTC c tn s) (hp : p < c) : f_X2_placeAfter (iI p) s = some (iI (((p + 1) % c : Nat) : Int)) := by
  obtain ⟨⟨h1, h2⟩, -⟩ := hr
  unfold f_X2_placeAfter
  rw [hc.1, z_1, iI_add, ← mod_next hp]
  by_cases q : (c : Int) ≤ (p : Int) + 1
  · rw [if_pos q]
    exact e_if_t ((iI_le (by omega) (by omega)).mpr q) rfl
  · rw [if_neg q]
    exact e_if_f (mt (iI_le (by omega) (by omega)).mp q) rfl
theorem ct_turn {c p : Nat} {tn : Nat → Nat} {s : SS} (hr : ROK c tn) (hc : RTC c tn s) (hp : p < c) : f_X2_onTurn (iI p) s = some (iI (tn p)) := by
  obtain ⟨⟨h1, h2⟩, -⟩ := hr
  have cl : Int32.toNatClampNeg (iI (p : Int)) = p := by simp (disch := omega) only [Int.toNat_natCast, iI_lt, iI_le, iI_eq, iI_add, iI_sub, iI_mul, iI_neg, iI_clamp, inb_ii]
  unfold f_X2_onTurn
  refine e_if_f (by simp (disch := omega) only [Int.toNat_natCast, iI_lt, iI_le, iI_eq, iI_add, iI_sub, iI_mul, iI_neg, iI_clamp, inb_ii, z_0]; omega) ?_
  refine e_if_f (by rw [hc.1]; simp (disch := omega) only [Int.toNat_natCast, iI_lt, iI_le, iI_eq, iI_add, iI_sub, iI_mul, iI_neg, iI_clamp, inb_ii]; omega) ?_
  refine e_if_f (by simp (disch := omega) only [Int.toNat_natCast, iI_lt, iI_le, iI_eq, iI_add, iI_sub, iI_mul, iI_neg, iI_clamp, inb_ii, z_4]; omega) ?_
  refine e_gd (by simp (disch := omega) only [Int.toNat_natCast, iI_lt, iI_le, iI_eq, iI_add, iI_sub, iI_mul, iI_neg, iI_clamp, inb_ii]; omega) ?_
  rw [cl, hc.2 p hp]
theorem rt_on {c p d : Nat} {tn : Nat → Nat} {s : SS} (hr : ROK c tn) (hc : RTR c tn s) (h6 : s 56 6 = iI p) (hp : p < c) (hd : d < 1000000) : f_X12_makerOn (iI d) s = some (iI (tn ((p + d) % c))) := by
  obtain ⟨⟨h1, h2⟩, -⟩ := hr
  have hm : (p + d) % c < c := Nat.mod_lt _ (by omega)
  have e : (s 56 6 + iI (d : Int)) - (s 56 6 + iI (d : Int)) / s 56 5 * s 56 5 = iI (((p + d) % c : Nat) : Int) := by
    rw [h6, hc.1, iI_add, iI_rem (by omega) (by omega)]
    congr 1
  unfold f_X12_makerOn
  rw [e]
  refine e_gd (by rw [hc.1, z_0, iI_eq (by omega) (by omega)]; omega) ?_
  refine e_gd (by simp (disch := omega) only [Int.toNat_natCast, iI_lt, iI_le, iI_eq, iI_add, iI_sub, iI_mul, iI_neg, iI_clamp, inb_ii]; omega) ?_
  rw [iI_clamp (by omega), Int.toNat_natCast, hc.2 _ hm]
/-- the row after d days by kinds, from x and place p -/
def itR (T : TW) (kd tl : Nat → Nat) (n c : Nat) (tn : Nat → Nat) (x p : Nat) : Nat → Nat
  | 0 => x
  | d + 1 => bh n (itR T kd tl n c tn x p d) (cho T kd tl n (itR T kd tl n c tn x p d) (tn ((p + d) % c)))
theorem itR_ok {T : TW} (hT : T.1 ≤ 8) {kd tl : Nat → Nat} (hk : KOK kd tl) {n c x p : Nat} {tn : Nat → Nat} (hr : ROK c tn) (hn : 1 ≤ n ∧ n ≤ 4) (hx : x < szR n) (hv : VR T x) : ∀ d, itR T kd tl n c tn x p d < szR n ∧ VR T (itR T kd tl n c tn x p d) := by
  intro d
  induction d with
  | zero => exact ⟨hx, hv⟩
  | succ d ih => exact vr_cho hT hk (hr.2 _ (Nat.mod_lt _ (by have := hr.1; omega))) hn ih.1 ih.2
