/-! the reference's codes work an expression -/
variable {s t u : SS}
def RE (CD AR : Nat → Int32) (k k2 : Nat) (e : EV) : Prop := k < k2 ∧ ∀ (F : Nat → Int32) (s : SS) (to N j : Nat), (∀ i, k ≤ i → i < k2 → s 69 i = CD i ∧ s 70 i = AR i) → FA F s → k2 ≤ to → to ≤ 200 → j + (k2 - k) ≤ 240 → k2 - k < N → ∃ t N2, N ≤ N2 + (k2 - k) ∧ lp_X12_works_5 (iI to) N (iI j) (iI k) s = lp_X12_works_5 (iI to) N2 (iI ((j + 1 : Nat) : Int)) (iI k2) t ∧ RS s t ∧ (∀ i, i < j → t 78 i = s 78 i ∧ t 79 i = s 79 i) ∧ (e F = none → t 79 j = 1) ∧ ∀ v, e F = some v → t 79 j = 0 ∧ t 78 j = v
def BLE (e : EV) : Prop := ∀ F v, e F = some v → v = 0 ∨ v = 1
theorem RS.fa {F : Nat → Int32} (h : RS s t) (g : FA F s) : FA F t := by
  intro j hj
  have := g j hj
  unfold f_X12_valueOf at this ⊢
  rw [h 56 (by omega) (by omega), h 58 (by omega) (by omega), h 80 (by omega) (by omega)]
  exact this
theorem RE.of {CD AR CD2 AR2 : Nat → Int32} {k k2 : Nat} {e : EV} (h : RE CD AR k k2 e) (g : ∀ i, k ≤ i → i < k2 → CD2 i = CD i ∧ AR2 i = AR i) : RE CD2 AR2 k k2 e := by
  refine ⟨h.1, fun F s to N j h1 h2 h3 h4 h5 h6 => h.2 F s to N j (fun i a b => ?_) h2 h3 h4 h5 h6⟩
  have := h1 i a b
  have g2 := g i a b
  exact ⟨this.1.trans g2.1, this.2.trans g2.2⟩
theorem wk_num {to N j k : Nat} {v : Int32} (hk : k < to) (ht : to ≤ 200) (hj : j < 240) (h : (s 69 k = 0 ∧ s 70 k = v) ∨ (s 69 k = 1 ∧ ∃ c, s 70 k = c ∧ f_X12_valueOf c (up s 79 j (vp_nar .boolean 0)) = some v)) : lp_X12_works_5 (iI to) (N + 1) (iI j) (iI k) s = lp_X12_works_5 (iI to) N (iI ((j + 1 : Nat) : Int)) (iI ((k + 1 : Nat) : Int)) (up (up s 79 j (vp_nar .boolean 0)) 78 j v) := by
  have gk : inb (iI (k : Int)) 200 := by simp (disch := omega) only [Int.toNat_natCast, iI_lt, iI_le, iI_eq, iI_add, iI_sub, iI_mul, iI_neg, iI_clamp, inb_ii]; omega
  have gj : inb (iI (j : Int)) 240 := by simp (disch := omega) only [Int.toNat_natCast, iI_lt, iI_le, iI_eq, iI_add, iI_sub, iI_mul, iI_neg, iI_clamp, inb_ii]; omega
  have ck : Int32.toNatClampNeg (iI (k : Int)) = k := by rw [iI_clamp (by omega), Int.toNat_natCast]
  have cj : Int32.toNatClampNeg (iI (j : Int)) = j := by rw [iI_clamp (by omega), Int.toNat_natCast]
  rw [lp_X12_works_5, ck, cj]
  refine e_if_f (by simp (disch := omega) only [Int.toNat_natCast, iI_lt, iI_le, iI_eq, iI_add, iI_sub, iI_mul, iI_neg, iI_clamp, inb_ii]; omega) ?_
  refine e_gd gk ?_
  refine e_jn ?_
  rcases h with ⟨h1, h2⟩ | ⟨h1, c, h2, h3⟩
  · refine e_if_t (by rw [h1]; decide) ?_
    refine e_gd gk ?_
    refine e_if_f (by rw [h1]; decide) ?_
    refine e_gd gj ?_
    refine e_lts ?_
    refine e_gd gk ?_
    refine e_jn ?_
    rw [up_cell (k := 79) (q := 69) (by omega), up_cell (k := 79) (q := 70) (by omega), h1, h2]
    refine e_if_t rfl ?_
    refine e_gd gk ?_
    refine e_gd gj ?_
    refine e_lts ?_
    rw [nx_s, nx_s]
  · refine e_if_t (by rw [h1]; decide) ?_
    refine e_gd gk ?_
    refine e_if_f (by rw [h1]; decide) ?_
    refine e_gd gj ?_
    refine e_lts ?_
    refine e_gd gk ?_
    refine e_jn ?_
    rw [up_cell (k := 79) (q := 69) (by omega), up_cell (k := 79) (q := 70) (by omega), h1, h2]
    refine e_if_f (by decide) ?_
    refine e_gd gk ?_
    refine e_bdp h3 ?_
    refine e_gd gj ?_
    refine e_lts ?_
    rw [nx_s, nx_s]
theorem RE_val {CD AR : Nat → Int32} {k : Nat} {e : EV} (h : ∀ (F : Nat → Int32) (s : SS) (j : Nat), s 69 k = CD k → s 70 k = AR k → FA F s → ∃ v, e F = some v ∧ ((s 69 k = 0 ∧ s 70 k = v) ∨ (s 69 k = 1 ∧ ∃ c, s 70 k = c ∧ f_X12_valueOf c (up s 79 j (vp_nar .boolean 0)) = some v))) : RE CD AR k (k + 1) e := by
  refine ⟨by omega, fun F s to N j h1 h2 h3 h4 h5 h6 => ?_⟩
  obtain ⟨N, rfl⟩ : ∃ M, N = M + 1 := ⟨N - 1, by omega⟩
  have hk := h1 k (by omega) (by omega)
  obtain ⟨v, e1, e2⟩ := h F s j hk.1 hk.2 h2
  refine ⟨up (up s 79 j (vp_nar .boolean 0)) 78 j v, N, by omega, wk_num (by omega) h4 (by omega) e2, fun q a b => by rw [up_cell a, up_cell b], fun i hi => ⟨by rw [up_slot (by omega), up_cell (by omega)], by rw [up_cell (by omega), up_slot (by omega)]⟩, (fun w => by rw [e1] at w; cases w), fun w hw => ?_⟩
  rw [e1] at hw
  obtain rfl := Option.some.inj hw
  exact ⟨by rw [up_cell (by omega), up_at]; decide, up_at _ _ _ _⟩
theorem RE_num {CD AR : Nat → Int32} {k : Nat} {v : Int32} (h1 : CD k = 0) (h2 : AR k = v) : RE CD AR k (k + 1) (fun _ => some v) := RE_val (fun F s j a b _ => ⟨v, rfl, Or.inl ⟨a.trans h1, b.trans h2⟩⟩)
theorem RE_fact {CD AR : Nat → Int32} {k f : Nat} (hf : f < 11) (h1 : CD k = 1) (h2 : AR k = fcode f) : RE CD AR k (k + 1) (fun F => some (F f)) := RE_val (fun F s j a b g => ⟨F f, rfl, Or.inr ⟨a.trans h1, fcode f, b.trans h2, (RS.fa (t := up s 79 j (vp_nar .boolean 0)) (fun _ _ y => up_cell y) g) f hf⟩⟩)
theorem RE_not {CD AR : Nat → Int32} {k k2 : Nat} {e : EV} (h : RE CD AR k k2 e) (h1 : CD k2 = 2) : RE CD AR k (k2 + 1) (notE e) := by
  have hl := h.1
  refine ⟨by omega, fun F s to N j a1 a2 a3 a4 a5 a6 => ?_⟩
  obtain ⟨t, N2, b1, b2, b3, b4, b5, b6⟩ := h.2 F s to N j (fun i x y => a1 i x (by omega)) a2 (by omega) a4 (by omega) (by omega)
  obtain ⟨N2, rfl⟩ : ∃ M, N2 = M + 1 := ⟨N2 - 1, by omega⟩
  have hc : t 69 k2 = 2 := by rw [b3 69 (by omega) (by omega)]; exact (a1 k2 (by omega) (by omega)).1.trans h1
  have gk : inb (iI (k2 : Int)) 200 := by simp (disch := omega) only [Int.toNat_natCast, iI_lt, iI_le, iI_eq, iI_add, iI_sub, iI_mul, iI_neg, iI_clamp, inb_ii]; omega
  have gj : inb (iI (j : Int)) 240 := by simp (disch := omega) only [Int.toNat_natCast, iI_lt, iI_le, iI_eq, iI_add, iI_sub, iI_mul, iI_neg, iI_clamp, inb_ii]; omega
  have ck : Int32.toNatClampNeg (iI (k2 : Int)) = k2 := by rw [iI_clamp (by omega), Int.toNat_natCast]
  have cj : Int32.toNatClampNeg (iI (j : Int)) = j := by rw [iI_clamp (by omega), Int.toNat_natCast]
  refine ⟨up t 78 j (1 - t 78 j), N2, by omega, b2.trans ?_, b3.tr (fun q a b => up_cell a), fun i hi => ⟨by rw [up_slot (by omega)]; exact (b4 i hi).1, by rw [up_cell (by omega)]; exact (b4 i hi).2⟩, fun w => ?_, fun v w => ?_⟩
  · rw [lp_X12_works_5, ck, pr_s, cj]
    refine e_if_f (by simp (disch := omega) only [Int.toNat_natCast, iI_lt, iI_le, iI_eq, iI_add, iI_sub, iI_mul, iI_neg, iI_clamp, inb_ii]; omega) ?_
    refine e_gd gk ?_
    refine e_jn ?_
    refine e_if_t (by rw [hc]; decide) ?_
    refine e_gd gk ?_
    refine e_if_t hc ?_
    refine e_gd gj ?_
    refine e_gd gj ?_
    refine e_lts ?_
    rw [nx_s]
  · unfold notE at w
    rw [up_cell (by omega)]
    refine b5 ?_
    cases c : e F with
    | none => rfl
    | some x => rw [c] at w; cases w
  · unfold notE at w
    cases c : e F with
    | none => rw [c] at w; cases w
    | some x =>
      rw [c] at w
      obtain ⟨y1, y2⟩ := b6 x c
      rw [up_cell (by omega), up_at, y2]
      exact ⟨y1, Option.some.inj w⟩
/-- a code that joins the two highest -/
theorem RE_two {CD AR : Nat → Int32} {k m k2 op : Nat} {e1 e2 e : EV} (h : RE CD AR k m e1) (g : RE CD AR m k2 e2) (ho : 3 ≤ op ∧ op < 200) (h1 : CD k2 = iI op) (hd : ∀ (F : Nat → Int32) (s : SS) (j : Nat), j + 1 < 240 → (e1 F = none → s 79 j = 1) → (∀ v, e1 F = some v → s 79 j = 0 ∧ s 78 j = v) → (e2 F = none → s 79 (j + 1) = 1) → (∀ v, e2 F = some v → s 79 (j + 1) = 0 ∧ s 78 (j + 1) = v) → ∃ t, f_X12_does (iI op) (iI j) s = some (0, t) ∧ RS s t ∧ (∀ i, i < j → t 78 i = s 78 i ∧ t 79 i = s 79 i) ∧ (e F = none → t 79 j = 1) ∧ ∀ v, e F = some v → t 79 j = 0 ∧ t 78 j = v) : RE CD AR k (k2 + 1) e := by
  have hl := h.1
  have gl := g.1
  refine ⟨by omega, fun F s to N j a1 a2 a3 a4 a5 a6 => ?_⟩
  obtain ⟨t, N2, b1, b2, b3, b4, b5, b6⟩ := h.2 F s to N j (fun i x y => a1 i x (by omega)) a2 (by omega) a4 (by omega) (by omega)
  obtain ⟨t2, N3, c1, c2, c3, c4, c5, c6⟩ := g.2 F t to N2 (j + 1) (fun i x y => by
    rw [b3 69 (by omega) (by omega), b3 70 (by omega) (by omega)]
    exact a1 i (by omega) (by omega)) (b3.fa a2) (by omega) a4 (by omega) (by omega)
  obtain ⟨N3, rfl⟩ : ∃ M, N3 = M + 1 := ⟨N3 - 1, by omega⟩
  have cj := c4 j (by omega)
  obtain ⟨t3, d1, d2, d3, d4, d5⟩ := hd F t2 j (by omega) (fun w => cj.2.trans (b5 w)) (fun v w => ⟨cj.2.trans (b6 v w).1, cj.1.trans (b6 v w).2⟩) c5 c6
  have hc : t2 69 k2 = iI op := by rw [c3 69 (by omega) (by omega), b3 69 (by omega) (by omega)]; exact (a1 k2 (by omega) (by omega)).1.trans h1
  have gk : inb (iI (k2 : Int)) 200 := by simp (disch := omega) only [Int.toNat_natCast, iI_lt, iI_le, iI_eq, iI_add, iI_sub, iI_mul, iI_neg, iI_clamp, inb_ii]; omega
  have ck : Int32.toNatClampNeg (iI (k2 : Int)) = k2 := by rw [iI_clamp (by omega), Int.toNat_natCast]
  have m1 : iI ((j + 1 + 1 : Nat) : Int) + (-1) = iI ((j + 1 : Nat) : Int) := by
    rw [z_m1, iI_add]
    congr 1
    omega
  refine ⟨t3, N3, by omega, (b2.trans c2).trans ?_, (b3.tr c3).tr d2, fun i hi => ?_, d4, d5⟩
  · rw [lp_X12_works_5, ck, m1, pr_s j]
    refine e_if_f (by simp (disch := omega) only [Int.toNat_natCast, iI_lt, iI_le, iI_eq, iI_add, iI_sub, iI_mul, iI_neg, iI_clamp, inb_ii]; omega) ?_
    refine e_gd gk ?_
    refine e_jn ?_
    rw [hc]
    refine e_if_f (by rw [show (2 : Int32) = iI 2 from rfl]; simp (disch := omega) only [Int.toNat_natCast, iI_lt, iI_le, iI_eq, iI_add, iI_sub, iI_mul, iI_neg, iI_clamp, inb_ii]; omega) ?_
    refine e_gd gk ?_
    refine e_bd d1 ?_
    rw [nx_s]
  · have x1 := d3 i hi
    have x2 := c4 i (by omega)
    have x3 := b4 i hi
    exact ⟨(x1.1.trans x2.1).trans x3.1, (x1.2.trans x2.2).trans x3.2⟩
theorem n_add1 {j : Nat} : iI (j : Int) + 1 = iI ((j + 1 : Nat) : Int) := nx_s j
theorem RE_bin {CD AR : Nat → Int32} {k m k2 op : Nat} {e1 e2 : EV} (h : RE CD AR k m e1) (g : RE CD AR m k2 e2) (ho : OPS op) (h1 : CD k2 = iI op) : RE CD AR k (k2 + 1) (binE op e1 e2) := by
  refine RE_two h g (by unfold OPS at ho; omega) h1 (fun F s j hj a1 a2 a3 a4 => ?_)
  have L : ∀ q : Nat, q < 200 → (iI (op : Int) = iI (q : Int)) = (op = q) := fun q hq => propext ((iI_eq (by unfold OPS at ho; omega) (by omega)).trans (by omega))
  have L124 : (iI (op : Int) = 124) = (op = 124) := L 124 (by omega)
  have L38 : (iI (op : Int) = 38) = (op = 38) := L 38 (by omega)
  have L47 : (iI (op : Int) = 47) = (op = 47) := L 47 (by omega)
  have L37 : (iI (op : Int) = 37) = (op = 37) := L 37 (by omega)
  have gj : inb (iI (j : Int)) 240 := by simp (disch := omega) only [Int.toNat_natCast, iI_lt, iI_le, iI_eq, iI_add, iI_sub, iI_mul, iI_neg, iI_clamp, inb_ii]; omega
  have gj1 : inb (iI ((j + 1 : Nat) : Int)) 240 := by simp (disch := omega) only [Int.toNat_natCast, iI_lt, iI_le, iI_eq, iI_add, iI_sub, iI_mul, iI_neg, iI_clamp, inb_ii]; omega
  have cj : Int32.toNatClampNeg (iI (j : Int)) = j := by rw [iI_clamp (by omega), Int.toNat_natCast]
  have cj1 : Int32.toNatClampNeg (iI ((j + 1 : Nat) : Int)) = j + 1 := by rw [iI_clamp (by omega), Int.toNat_natCast]
  have go : ∀ fl : Int32, (gd (inb (iI (j : Int)) 240) (lts (up s 79 j (vp_nar .boolean fl)) (fun (s14 : SS) => gd (inb (iI (j : Int)) 240) (gd (inb (iI ((j + 1 : Nat) : Int)) 240) (bdp (f_X12_worked (iI op) (s14 78 j) (s14 78 (j + 1)) s14) (fun (v15 : Int32) => gd (inb (iI (j : Int)) 240) (lts (up s14 78 j v15) (fun (s16 : SS) => some ((0 : Int32), s16)))))))) : Res) = some (0, up (up s 79 j (vp_nar .boolean fl)) 78 j (wkd (iI op) (s 78 j) (s 78 (j + 1)))) := by
    intro fl
    refine e_gd gj ?_
    refine e_lts ?_
    refine e_gd gj ?_
    refine e_gd gj1 ?_
    rw [up_cell (k := 79) (q := 78) (by omega)]
    refine e_bdp (worked_f _ _ _ _) ?_
    refine e_gd gj ?_
    exact e_lts rfl
  let fl : Int32 := if s 79 j = 0 ∧ s 79 (j + 1) = 0 ∧ ¬ ((op = 47 ∨ op = 37) ∧ s 78 (j + 1) = 0) then 0 else 1
  have run : f_X12_does (iI op) (iI j) s = some (0, up (up s 79 j (vp_nar .boolean fl)) 78 j (wkd (iI op) (s 78 j) (s 78 (j + 1)))) := by
    unfold f_X12_does
    rw [nx_s, cj]
    refine e_lt ?_
    rw [cj1]
    refine e_jn ?_
    refine e_if_f (by rw [L38]; unfold OPS at ho; omega) ?_
    refine e_if_f (by rw [L124]; unfold OPS at ho; omega) ?_
    refine e_gd gj ?_
    refine e_jn ?_
    refine e_jn ?_
    by_cases q1 : s 79 j = 0
    · refine e_if_t q1 ?_
      refine e_gd gj1 ?_
      by_cases q2 : s 79 (j + 1) = 0
      · refine e_if_t q2 ?_
        refine e_jn ?_
        refine e_jn ?_
        by_cases q3 : op = 47 ∨ op = 37
        · have inner : ∀ (A B r : Res), (s 78 (j + 1) = 0 → A = r) → (¬ s 78 (j + 1) = 0 → B = r) → (gd (inb (iI ((j + 1 : Nat) : Int)) 240) (if (s 78 (j + 1) : Int32) = 0 then A else B)) = r := by
            intro A B r hA hB
            refine e_gd gj1 ?_
            by_cases q4 : s 78 (j + 1) = 0
            · exact e_if_t q4 (hA q4)
            · exact e_if_f q4 (hB q4)
          have hx : fl = if s 78 (j + 1) = 0 then 1 else 0 := by
            show (if s 79 j = 0 ∧ s 79 (j + 1) = 0 ∧ ¬ ((op = 47 ∨ op = 37) ∧ s 78 (j + 1) = 0) then (0 : Int32) else 1) = _
            by_cases q4 : s 78 (j + 1) = 0
            · rw [if_neg (fun w => w.2.2 ⟨q3, q4⟩), if_pos q4]
            · rw [if_pos ⟨q1, q2, fun w => q4 w.2⟩, if_neg q4]
          rcases q3 with w | w
          · refine e_if_t (L47.mpr w) (inner _ _ _ (fun q4 => ?_) (fun q4 => ?_))
            · rw [hx, if_pos q4]; exact go 1
            · rw [hx, if_neg q4]; exact go 0
          · refine e_if_f (by rw [L47]; omega) ?_
            refine e_if_t (L37.mpr w) (inner _ _ _ (fun q4 => ?_) (fun q4 => ?_))
            · rw [hx, if_pos q4]; exact go 1
            · rw [hx, if_neg q4]; exact go 0
        · refine e_if_f (fun w => q3 (Or.inl (L47.mp w))) ?_
          refine e_if_f (fun w => q3 (Or.inr (L37.mp w))) ?_
          have hx : fl = 0 := if_pos ⟨q1, q2, fun w => q3 w.1⟩
          rw [hx]
          exact go 0
      · refine e_if_f q2 ?_
        have hx : fl = 1 := if_neg (fun w => q2 w.2.1)
        rw [hx]
        exact go 1
    · refine e_if_f q1 ?_
      have hx : fl = 1 := if_neg (fun w => q1 w.1)
      rw [hx]
      exact go 1
  refine ⟨_, run, fun q a b => by rw [up_cell a, up_cell b], fun i hi => ⟨by rw [up_slot (by omega), up_cell (by omega)], by rw [up_cell (by omega), up_slot (by omega)]⟩, fun w => ?_, fun v w => ?_⟩
  · rw [up_cell (by omega), up_at]
    have hx : fl = 1 := by
      refine if_neg (fun y => ?_)
      obtain ⟨y1, y2, y3⟩ := y
      unfold binE at w
      cases c1 : e1 F with
      | none => rw [a1 c1] at y1; exact absurd y1 (by decide)
      | some x =>
        cases c2 : e2 F with
        | none => rw [a3 c2] at y2; exact absurd y2 (by decide)
        | some y =>
          rw [c1, c2] at w
          have w2 : (if (op = 47 ∨ op = 37) ∧ y = 0 then none else some (wkd (iI op) x y)) = none := w
          rw [(a4 y c2).2] at y3
          rw [if_neg y3] at w2
          cases w2
    rw [hx]
    decide
  · unfold binE at w
    cases c1 : e1 F with
    | none => rw [c1] at w; cases w
    | some x =>
      cases c2 : e2 F with
      | none => rw [c1, c2] at w; cases w
      | some y =>
        rw [c1, c2] at w
        have w2 : (if (op = 47 ∨ op = 37) ∧ y = 0 then none else some (wkd (iI op) x y)) = some v := w
        obtain ⟨x1, x2⟩ := a2 x c1
        obtain ⟨x3, x4⟩ := a4 y c2
        by_cases q : (op = 47 ∨ op = 37) ∧ y = 0
        · rw [if_pos q] at w2; cases w2
        · rw [if_neg q] at w2
          have hx : fl = 0 := if_pos ⟨x1, x3, by rw [x4]; exact q⟩
          rw [up_cell (by omega), up_at, up_at, hx, x2, x4]
          exact ⟨by decide, Option.some.inj w2⟩
theorem RE_bool {CD AR : Nat → Int32} {k m k2 : Nat} {e1 e2 e : EV} {op : Nat} {z : Int32} (h : RE CD AR k m e1) (g : RE CD AR m k2 e2) (ho : op = 38 ∨ op = 124) (hz : (if (iI (op : Int)) = (38 : Int32) then (1 : Int32) else 0) = z) (h1 : CD k2 = iI op) (he : ∀ F, e F = match e1 F with | none => none | some x => if x = z then e2 F else some x) : RE CD AR k (k2 + 1) e := by
  refine RE_two h g (by omega) h1 (fun F s j hj a1 a2 a3 a4 => ?_)
  have L : ∀ q : Nat, q < 200 → (iI (op : Int) = iI (q : Int)) = (op = q) := fun q hq => propext ((iI_eq (by omega) (by omega)).trans (by omega))
  have L124 : (iI (op : Int) = 124) = (op = 124) := L 124 (by omega)
  have L38 : (iI (op : Int) = 38) = (op = 38) := L 38 (by omega)
  have gj : inb (iI (j : Int)) 240 := by simp (disch := omega) only [Int.toNat_natCast, iI_lt, iI_le, iI_eq, iI_add, iI_sub, iI_mul, iI_neg, iI_clamp, inb_ii]; omega
  have gj1 : inb (iI ((j + 1 : Nat) : Int)) 240 := by simp (disch := omega) only [Int.toNat_natCast, iI_lt, iI_le, iI_eq, iI_add, iI_sub, iI_mul, iI_neg, iI_clamp, inb_ii]; omega
  have cj : Int32.toNatClampNeg (iI (j : Int)) = j := by rw [iI_clamp (by omega), Int.toNat_natCast]
  have cj1 : Int32.toNatClampNeg (iI ((j + 1 : Nat) : Int)) = j + 1 := by rw [iI_clamp (by omega), Int.toNat_natCast]
  have hF := he F
  have head : ∀ r, ((gd (inb (iI (j : Int)) 240) (if (s 79 j : Int32) = 0 then gd (inb (iI (j : Int)) 240) (if (s 78 j : Int32) = (z : Int32) then gd (inb (iI ((j + 1 : Nat) : Int)) 240) (gd (inb (iI (j : Int)) 240) (lts (up s 78 j (s 78 (j + 1))) (fun (s7 : SS) => gd (inb (iI ((j + 1 : Nat) : Int)) 240) (gd (inb (iI (j : Int)) 240) (lts (up s7 79 j (vp_nar .boolean (s7 79 (j + 1)))) (fun (s8 : SS) => some ((0 : Int32), s8))))))) else some (0, s)) else some (0, s))) : Res) = r → f_X12_does (iI op) (iI j) s = r := by
    intro r hr
    have inner : (gd (inb (iI (j : Int)) 240) (if (s 79 j : Int32) = 0 then gd (inb (iI (j : Int)) 240) (jn (fun (v4 : Int32) => if (s 78 j : Int32) = (v4 : Int32) then gd (inb (iI ((j + 1 : Nat) : Int)) 240) (gd (inb (iI (j : Int)) 240) (lts (up s 78 j (s 78 (j + 1))) (fun (s7 : SS) => gd (inb (iI ((j + 1 : Nat) : Int)) 240) (gd (inb (iI (j : Int)) 240) (lts (up s7 79 j (vp_nar .boolean (s7 79 (j + 1)))) (fun (s8 : SS) => some ((0 : Int32), s8))))))) else some (0, s)) (fun (k5 : Int32 → Res) => if (iI (op : Int) : Int32) = (38 : Int32) then k5 1 else k5 0)) else some (0, s))) = r := by
      rw [← hr]
      by_cases q : iI (op : Int) = (38 : Int32)
      · rw [if_pos q] at hz
        subst hz
        unfold jn
        dsimp only
        rw [if_pos q]
      · rw [if_neg q] at hz
        subst hz
        unfold jn
        dsimp only
        rw [if_neg q]
    unfold f_X12_does
    rw [nx_s, cj]
    refine e_lt ?_
    rw [cj1]
    refine e_jn ?_
    rcases ho with w | w
    · exact e_if_t (L38.mpr w) inner
    · refine e_if_f (by rw [L38]; omega) ?_
      exact e_if_t (L124.mpr w) inner
  cases c1 : e1 F with
  | none =>
    rw [c1] at hF
    have x1 := a1 c1
    refine ⟨s, head _ (e_gd gj (e_if_f (by rw [x1]; decide) rfl)), RS.rf s, fun i hi => ⟨rfl, rfl⟩, fun _ => x1, fun v w => ?_⟩
    rw [hF] at w
    cases w
  | some x =>
    rw [c1] at hF
    have hF2 : e F = if x = z then e2 F else some x := hF
    obtain ⟨x1, x2⟩ := a2 x c1
    by_cases q : x = z
    · rw [if_pos q] at hF2
      refine ⟨up (up s 78 j (s 78 (j + 1))) 79 j (vp_nar .boolean (s 79 (j + 1))), head _ (e_gd gj (e_if_t x1 (e_gd gj (e_if_t (x2.trans q) (e_gd gj1 (e_gd gj (e_lts (e_gd gj1 (e_gd gj (e_lts (by rw [up_cell (k := 78) (q := 79) (by omega)]))))))))))), fun q a b => by rw [up_cell b, up_cell a], fun i hi => ⟨by rw [up_cell (by omega), up_slot (by omega)], by rw [up_slot (by omega), up_cell (by omega)]⟩, fun w => ?_, fun v w => ?_⟩
      · rw [hF2] at w
        rw [up_at, a3 w]
        decide
      · rw [hF2] at w
        obtain ⟨y1, y2⟩ := a4 v w
        rw [up_at, up_cell (by omega), up_at, y1, y2]
        exact ⟨by decide, rfl⟩
    · rw [if_neg q] at hF2
      refine ⟨s, head _ (e_gd gj (e_if_t x1 (e_gd gj (e_if_f (by rw [x2]; exact q) rfl)))), RS.rf s, fun i hi => ⟨rfl, rfl⟩, fun w => ?_, fun v w => ?_⟩
      · rw [hF2] at w
        cases w
      · rw [hF2] at w
        obtain rfl := Option.some.inj w
        exact ⟨x1, x2⟩
theorem RE_or {CD AR : Nat → Int32} {k m k2 : Nat} {e1 e2 : EV} (h : RE CD AR k m e1) (g : RE CD AR m k2 e2) (h1 : CD k2 = 124) : RE CD AR k (k2 + 1) (orE e1 e2) := RE_bool (op := 124) (z := 0) h g (Or.inr rfl) (by decide) h1 (fun F => rfl)
theorem RE_and {CD AR : Nat → Int32} {k m k2 : Nat} {e1 e2 : EV} (h : RE CD AR k m e1) (g : RE CD AR m k2 e2) (hb : BLE e1) (h1 : CD k2 = 38) : RE CD AR k (k2 + 1) (andE e1 e2) := by
  refine RE_bool (op := 38) (z := 1) h g (Or.inl rfl) (by decide) h1 (fun F => ?_)
  unfold andE
  cases c : e1 F with
  | none => rfl
  | some x =>
    show (if x = 0 then some x else e2 F) = if x = 1 then e2 F else some x
    rcases hb F x c with w | w
    · subst w
      rw [if_pos rfl, if_neg (by decide)]
    · subst w
      rw [if_neg (by decide), if_pos rfl]
theorem BLE_not {e : EV} (h : BLE e) : BLE (notE e) := by
  intro F v w
  unfold notE at w
  cases c : e F with
  | none => rw [c] at w; cases w
  | some x =>
    rw [c] at w
    obtain rfl := Option.some.inj w
    rcases h F x c with y | y
    · subst y; exact Or.inr (by decide)
    · subst y; exact Or.inl (by decide)
theorem BLE_or {e1 e2 : EV} (h : BLE e1) (g : BLE e2) : BLE (orE e1 e2) := by
  intro F v w
  unfold orE at w
  cases c : e1 F with
  | none => rw [c] at w; cases w
  | some x =>
    rw [c] at w
    have w2 : (if x = 0 then e2 F else some x) = some v := w
    by_cases q : x = 0
    · rw [if_pos q] at w2; exact g F v w2
    · rw [if_neg q] at w2
      obtain rfl := Option.some.inj w2
      exact h F _ c
theorem BLE_and {e1 e2 : EV} (h : BLE e1) (g : BLE e2) : BLE (andE e1 e2) := by
  intro F v w
  unfold andE at w
  cases c : e1 F with
  | none => rw [c] at w; cases w
  | some x =>
    rw [c] at w
    have w2 : (if x = 0 then some x else e2 F) = some v := w
    by_cases q : x = 0
    · rw [if_pos q] at w2
      obtain rfl := Option.some.inj w2
      exact h F _ c
    · rw [if_neg q] at w2; exact g F v w2
theorem BLE_cmp {e1 e2 : EV} {op : Nat} (ho : isS op) : BLE (binE op e1 e2) := by
  intro F v w
  unfold binE at w
  cases c1 : e1 F with
  | none => rw [c1] at w; cases w
  | some x =>
    cases c2 : e2 F with
    | none => rw [c1, c2] at w; cases w
    | some y =>
      rw [c1, c2] at w
      have w2 : (if (op = 47 ∨ op = 37) ∧ y = 0 then none else some (wkd (iI op) x y)) = some v := w
      unfold isS at ho
      rw [if_neg (by omega)] at w2
      obtain rfl := Option.some.inj w2
      rcases ho with o | o | o
      · subst o
        show (if y ≤ x then (0 : Int32) else 1) = 0 ∨ (if y ≤ x then (0 : Int32) else 1) = 1
        by_cases q : y ≤ x
        · exact Or.inl (if_pos q)
        · exact Or.inr (if_neg q)
      · subst o
        show (if x ≤ y then (0 : Int32) else 1) = 0 ∨ (if x ≤ y then (0 : Int32) else 1) = 1
        by_cases q : x ≤ y
        · exact Or.inl (if_pos q)
        · exact Or.inr (if_neg q)
      · subst o
        show (if x = y then (1 : Int32) else 0) = 0 ∨ (if x = y then (1 : Int32) else 0) = 1
        by_cases q : x = y
        · exact Or.inr (if_pos q)
        · exact Or.inl (if_neg q)
