def UNK : Int32 := -1000000000
def CTB (T : TW) (s : SS) : Prop := s 27 9 = iI T.1 ∧ ∀ i, i < 8 → s 28 i = T.2.1 0 i ∧ s 29 i = T.2.1 1 i ∧ s 30 i = T.2.1 2 i ∧ s 31 i = T.2.1 3 i
/-- the law of laws as the class holds it answers as T says -/
def CVT (T : TW) (s : SS) : Prop := ∀ c : Int32, c = 118 ∨ c = 109 → ∀ (F : Nat → Int32) (t : SS), (∀ k, 9 ≤ k → k ≤ 15 → t k = s k) → (∀ i, i < 11 → t 32 i = F i) → ∃ R : Nat → Int32, f_X1_valueOf c t = some (T.2.2 c F, upr t 16 R)
def CCH (T : TW) (s : SS) : Prop := (s 27 10 = 0 ∨ s 27 10 = 1) ∧ (s 27 10 = 0 → ∀ n x p : Nat, 1 ≤ n ∧ n ≤ 4 → x < szR n → p < 4 → (gl 16 s 33 (br n + x) p = 0 ∨ gl 16 s 33 (br n + x) p = wth T n x p + 1000) ∧ (gl 16 s 34 (br n + x) p = 0 ∨ gl 16 s 34 (br n + x) p = may T n x p + 1))
def CT_ (T : TW) (s : SS) : Prop := RW s ∧ CTB T s ∧ CVT T s ∧ CCH T s
/-- what a question about the town may change -/
def CQ (s t : SS) : Prop := (∀ k, k ≠ 16 → k ≠ 27 → k ≠ 32 → k ≠ 33 → k ≠ 34 → t k = s k) ∧ ∀ j, j ≠ 10 → t 27 j = s 27 j
def CS (s t : SS) : Prop := ∀ k, k ≠ 16 → k ≠ 32 → t k = s k
theorem CQ.rf (s : SS) : CQ s s := ⟨fun _ _ _ _ _ _ => rfl, fun _ _ => rfl⟩
theorem CQ.tr {s t u : SS} (h : CQ s t) (g : CQ t u) : CQ s u := ⟨fun k a b c d e => (g.1 k a b c d e).trans (h.1 k a b c d e), fun j a => (g.2 j a).trans (h.2 j a)⟩
theorem CS.rf (s : SS) : CS s s := fun _ _ _ => rfl
theorem CS.tr {s t u : SS} (h : CS s t) (g : CS t u) : CS s u := fun k a b => (g k a b).trans (h k a b)
theorem CS.q {s t : SS} (h : CS s t) : CQ s t := ⟨fun k a _ c _ _ => h k a c, fun j _ => by rw [h 27 (by omega) (by omega)]⟩
theorem CVT.of {T : TW} {s t : SS} (h : CVT T s) (e : ∀ k, 9 ≤ k → k ≤ 15 → t k = s k) : CVT T t := fun c hc F u hu hF => h c hc F u (fun k a b => (hu k a b).trans (e k a b)) hF
theorem CTB.of {T : TW} {s t : SS} (h : CTB T s) (e : t 27 9 = s 27 9) (e2 : ∀ k, 28 ≤ k → k ≤ 31 → t k = s k) : CTB T t := by
  refine ⟨e.trans h.1, fun i hi => ?_⟩
  rw [e2 28 (by omega) (by omega), e2 29 (by omega) (by omega), e2 30 (by omega) (by omega), e2 31 (by omega) (by omega)]
  exact h.2 i hi
theorem CS.ct {T : TW} {s t : SS} (h : CS s t) (g : CT_ T s) : CT_ T t := by
  obtain ⟨g1, g2, g3, g4⟩ := g
  refine ⟨g1.of (fun k _ _ => h k (by omega) (by omega)), g2.of (by rw [h 27 (by omega) (by omega)]) (fun k _ _ => h k (by omega) (by omega)), g3.of (fun k _ _ => h k (by omega) (by omega)), ?_⟩
  unfold CCH gl at *
  rw [h 27 (by omega) (by omega), h 33 (by omega) (by omega), h 34 (by omega) (by omega)]
  exact g4
theorem CQ.ct {T : TW} {s t : SS} (h : CQ s t) (g : CT_ T s) (c : CCH T t) : CT_ T t := by
  obtain ⟨g1, g2, g3, g4⟩ := g
  exact ⟨g1.of (fun k _ _ => h.1 k (by omega) (by omega) (by omega) (by omega) (by omega)), g2.of (h.2 9 (by omega)) (fun k _ _ => h.1 k (by omega) (by omega) (by omega) (by omega) (by omega)), g3.of (fun k _ _ => h.1 k (by omega) (by omega) (by omega) (by omega) (by omega)), c⟩
/-- a value: the facts are filled in, the law of laws is asked -/
theorem ct_val {s : SS} {T : TW} {n x l i p : Nat} {c : Int32} (h : CT_ T s) (hn : 1 ≤ n ∧ n ≤ 4) (hx : x < szR n) (hl : l < 8) (hc : c = 118 ∨ c = 109) :
    ∃ u t : SS, f_X10_describe (wl_ n x) (iI l) (iI i) (iI p) s = some (0, u) ∧ f_X1_valueOf c u = some (T.2.2 c (fct T n x l i p), t) ∧ CS s t := by
  obtain ⟨g1, g2, g3, g4⟩ := h
  obtain ⟨R, e1, e2⟩ := ct_describe T (i := i) (p := p) g1 hn hx hl (g2.2 l hl).1 (g2.2 l hl).2.1
  obtain ⟨R2, e3⟩ := g3 c hc (fct T n x l i p) (upr s 32 R) (fun k a b => upr_ne (by omega)) (fun j hj => by rw [upr_eq]; exact e2 j hj)
  exact ⟨_, _, e1, e3, fun k a b => by rw [upr_ne a, upr_ne b]⟩
/-- what holds on a wall -/
theorem ct_holding {s : SS} {T : TW} {n x : Nat} (h1 : RW s) (h2 : CTB T s) (hn : 1 ≤ n ∧ n ≤ 4) (hx : x < szR n) : f_X10_holdingOn (wl_ n x) s = some (hold T x) := by
  have lp : ∀ m N k : Nat, k + m = 8 → m < N → lp_X10_holdingOn_14 s (stn x) N (hI T x k) (iI k) = some (hI T x 8) := by
    intro m
    induction m with
    | zero =>
      intro N k hk hN
      obtain rfl : k = 8 := by omega
      cases N with
      | zero => omega
      | succ N =>
        rw [lp_X10_holdingOn_14]
        exact e_if_t (by simp (disch := omega) only [Int.toNat_natCast, iI_lt, iI_le, iI_eq, iI_add, iI_sub, iI_mul, iI_neg, iI_clamp, inb_ii, z_8]; omega) rfl
    | succ m ih =>
      intro N k hk hN
      cases N with
      | zero => omega
      | succ N =>
        have c1 : ¬ (8 : Int32) ≤ iI (k : Int) := by simp (disch := omega) only [Int.toNat_natCast, iI_lt, iI_le, iI_eq, iI_add, iI_sub, iI_mul, iI_neg, iI_clamp, inb_ii, z_8]; omega
        have c3 : inb (iI (k : Int)) 8 := by simp (disch := omega) only [Int.toNat_natCast, iI_lt, iI_le, iI_eq, iI_add, iI_sub, iI_mul, iI_neg, iI_clamp, inb_ii]; omega
        have cl : Int32.toNatClampNeg (iI (k : Int)) = k := by simp (disch := omega) only [Int.toNat_natCast, iI_lt, iI_le, iI_eq, iI_add, iI_sub, iI_mul, iI_neg, iI_clamp, inb_ii]
        have d1 : (((stn x >>> (iI (k : Int) &&& 31)) &&& 1 : Int32) = 1) = (bt (stn x) k = true) := propext (has_bt (by omega))
        have d2 : ((s 29 (Int32.toNatClampNeg (iI (k : Int))) &&& (stn x ^^^ (-1))) = 0) = ((T.2.1 1 k &&& (stn x ^^^ (-1))) = 0) := by rw [cl, (h2.2 k (by omega)).2.1]
        have nx : iI (k : Int) + 1 = iI ((k + 1 : Nat) : Int) := by rw [z_1, iI_add]; rfl
        have ih2 := ih N (k + 1) (by omega) (by omega)
        have un : hI T x (k + 1) = if hcond T x k = true then hI T x k ||| sh1 k else hI T x k := rfl
        rw [lp_X10_holdingOn_14]
        by_cases q1 : bt (stn x) k = true
        · by_cases q2 : (T.2.1 1 k &&& (stn x ^^^ (-1))) = 0
          · have hc : hcond T x k = true := by unfold hcond; rw [q1, decide_eq_true q2]; rfl
            rw [if_pos hc] at un
            have un : hI T x (k + 1) = hI T x k ||| 1 <<< (iI (k : Int) &&& 31) := un
            repeat (first
              | (with_reducible refine e_gd ?sd ?_; case sd => first | decide | exact c3)
              | with_reducible refine e_up ?_
              | with_reducible refine e_up0 ?_
              | with_reducible refine e_upl ?_
              | with_reducible refine e_upl0 ?_
              | with_reducible refine e_jn ?_
              | with_reducible refine e_lt ?_
              | with_reducible refine e_if_f (c1) ?_
              | with_reducible refine e_if_t (d1.mpr q1) ?_
              | with_reducible refine e_if_t (d2.mpr q2) ?_)
            rw [nx, ← un]
            exact ih2
          · have hc : ¬ hcond T x k = true := by unfold hcond; rw [decide_eq_false q2, Bool.and_false]; decide
            rw [if_neg hc] at un
            repeat (first
              | (with_reducible refine e_gd ?sd ?_; case sd => first | decide | exact c3)
              | with_reducible refine e_up ?_
              | with_reducible refine e_up0 ?_
              | with_reducible refine e_upl ?_
              | with_reducible refine e_upl0 ?_
              | with_reducible refine e_jn ?_
              | with_reducible refine e_lt ?_
              | with_reducible refine e_if_f (c1) ?_
              | with_reducible refine e_if_t (d1.mpr q1) ?_
              | with_reducible refine e_if_f (mt d2.mp q2) ?_)
            rw [nx, ← un]
            exact ih2
        · have hc : ¬ hcond T x k = true := by unfold hcond; simp [q1]
          rw [if_neg hc] at un
          repeat (first
            | (with_reducible refine e_gd ?sd ?_; case sd => first | decide | exact c3)
            | with_reducible refine e_up ?_
            | with_reducible refine e_up0 ?_
            | with_reducible refine e_upl ?_
            | with_reducible refine e_upl0 ?_
            | with_reducible refine e_jn ?_
            | with_reducible refine e_lt ?_
            | with_reducible refine e_if_f (c1) ?_
            | with_reducible refine e_if_f (mt d1.mp q1) ?_)
          rw [nx, ← un]
          exact ih2
  unfold f_X10_holdingOn
  refine e_bdp (rw_stand h1 hn hx) ?_
  exact lp 8 FU 0 rfl (fu_lt (by omega))
