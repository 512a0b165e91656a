/-! held: friends take the longest, the others the shortest -/
variable {T : TW} {kd tl tn : Nat → Nat} {n c x p : Nat} {s t u : SS}
def extH (b : Bool) (f : Nat → Nat) (mb : Int32) : Nat → Nat
  | 0 => f 8
  | l + 1 => if bt mb l = true then (if b = true then max (extH b f mb l) (f l) else min (extH b f mb l) (f l)) else extH b f mb l
def sbT (S : Int32) (g : Nat → Nat) (z : Nat) : Nat := if stn z &&& S = S then 1 + g z else 0
def hvT (T : TW) (n c : Nat) (tn : Nat → Nat) (S G : Int32) (e : Nat) : Nat → Nat → Nat
  | 0, _ => 0
  | j + 1, y => extH (bt G (tn (plE c e (j + 1)))) (fun l => sbT S (hvT T n c tn S G e j) (bh n y l)) (may T n y (tn (plE c e (j + 1)))) 8
theorem ext_le {b : Bool} {f : Nat → Nat} {mb : Int32} {M : Nat} (h : ∀ l, f l ≤ M) : ∀ k, extH b f mb k ≤ M := by
  intro k
  induction k with
  | zero => exact h 8
  | succ k ih =>
    have := h k
    unfold extH
    split
    · split <;> omega
    · exact ih
theorem ext_0 {f : Nat → Nat} {mb : Int32} {l : Nat} (h : extH false f mb l = 0) : ∀ k, l ≤ k → extH false f mb k = 0 := by
  intro k
  induction k with
  | zero => intro w; rw [show l = 0 by omega] at h; exact h
  | succ k ih =>
    intro w
    by_cases q : l = k + 1
    · rw [← q]; exact h
    · have := ih (by omega)
      unfold extH
      split
      · rw [if_neg (by decide)]; omega
      · exact this
theorem ext_M {f : Nat → Nat} {mb : Int32} {l M : Nat} (hM : ∀ l, f l ≤ M) (h : extH true f mb l = M) : ∀ k, l ≤ k → extH true f mb k = M := by
  intro k
  induction k with
  | zero => intro w; rw [show l = 0 by omega] at h; exact h
  | succ k ih =>
    intro w
    by_cases q : l = k + 1
    · rw [← q]; exact h
    · have := ih (by omega)
      have := hM k
      unfold extH
      split
      · rw [if_pos rfl]; omega
      · omega
theorem hv_le (S G : Int32) (e : Nat) : ∀ j y, hvT T n c tn S G e j y ≤ j := by
  intro j
  induction j with
  | zero => intro y; exact Nat.le_refl 0
  | succ j ih =>
    intro y
    refine ext_le ?_ 8
    intro l
    have := ih (bh n y l)
    show sbT S (hvT T n c tn S G e j) (bh n y l) ≤ j + 1
    unfold sbT
    split <;> omega
theorem sb_le (S G : Int32) (e j z : Nat) : sbT S (hvT T n c tn S G e j) z ≤ j + 1 := by
  have := hv_le (T := T) (n := n) (c := c) (tn := tn) S G e j z
  unfold sbT
  split <;> omega
def MSG (T : TW) (n c : Nat) (tn : Nat → Nat) (S G : Int32) (e : Nat) (s : SS) : Prop := ∀ y j, y < szR n → j < 12 → gl 4 s 51 (br n + y) j = 0 ∨ gl 4 s 51 (br n + y) j = iI ((hvT T n c tn S G e (j + 1) y + 1 : Nat) : Int)
def SGS (T : TW) (kd tl : Nat → Nat) (n c : Nat) (tn : Nat → Nat) (S G : Int32) (e : Nat) (s : SS) : Prop := CW T kd tl c tn s ∧ MSG T n c tn S G e s ∧ s 50 4 = S ∧ s 50 5 = G
theorem SGS.q {S G : Int32} {e : Nat} (h : SGS T kd tl n c tn S G e s) (g : CQ s t) (f : CW T kd tl c tn t) : SGS T kd tl n c tn S G e t ∧ CZ 51 51 s t := by
  have e2 : ∀ k, 34 < k → t k = s k := fun k a => g.1 k (by omega) (by omega) (by omega) (by omega) (by omega)
  refine ⟨⟨f, ?_, by rw [e2 50 (by omega)]; exact h.2.2.1, by rw [e2 50 (by omega)]; exact h.2.2.2⟩, g.z⟩
  unfold MSG gl
  rw [e2 51 (by omega)]
  exact h.2.1
/-- of i and more days left nothing new is told -/
def UQ (i : Nat) (s t : SS) : Prop := ∀ w j, i ≤ j → j < 12 → gl 4 t 51 w j = gl 4 s 51 w j
theorem UQ.rf (i : Nat) (s : SS) : UQ i s s := fun _ _ _ _ => rfl
theorem UQ.tr {i : Nat} (h : UQ i s t) (g : UQ i t u) : UQ i s u := fun w j a b => (g w j a b).trans (h w j a b)
theorem UQ.m {i k : Nat} (h : UQ i s t) (hk : i ≤ k) : UQ k s t := fun w j a b => h w j (by omega) b
theorem CQ.uq {i : Nat} (g : CQ s t) : UQ i s t := fun w j _ _ => gl_cell (g.1 51 (by omega) (by omega) (by omega) (by omega) (by omega))
def SGH (T : TW) (kd tl : Nat → Nat) (n c : Nat) (tn : Nat → Nat) (S G : Int32) (e : Nat) (i : Nat) (rf : Int32 → Int32 → Int32 → SS → Res) : Prop := ∀ (y : Nat) (s : SS), y < szR n → SGS T kd tl n c tn S G e s → ∃ t, rf (wl_ n y) (iI (plE c e i)) (iI i) s = some (iI (hvT T n c tn S G e i y), t) ∧ CZ 51 51 s t ∧ SGS T kd tl n c tn S G e t ∧ UQ i s t
theorem cs_behind (W : WOK T kd tl n c tn) {S G : Int32} {e i : Nat} (hi : i < 12) {rf : Int32 → Int32 → Int32 → SS → Res} (H : SGH T kd tl n c tn S G e i rf) {z : Nat} (hz : z < szR n) {s : SS} (hs : SGS T kd tl n c tn S G e s) : ∃ t, f_X7_spanBehind rf (wl_ n z) (iI (plE c e i)) (iI ((i + 1 : Nat) : Int)) s = some (iI (sbT S (hvT T n c tn S G e i) z), t) ∧ CZ 51 51 s t ∧ SGS T kd tl n c tn S G e t ∧ UQ i s t := by
  have h0 := hv_le (T := T) (n := n) (c := c) (tn := tn) S G e i z
  unfold f_X7_spanBehind sbT
  by_cases q : stn z &&& S = S
  · rw [if_pos q]
    obtain ⟨t, e1, e2, e3, e4⟩ := H z s hz hs
    refine ⟨t, ?_, e2, e3, e4⟩
    refine e_bdp (rw_stand hs.1.1.1 W.2.2.2 hz) ?_
    refine e_jn ?_
    refine e_if_t (by rw [hs.2.2.1]; exact q) ?_
    refine e_if_f (by decide) ?_
    rw [pr_s]
    refine e_bd e1 ?_
    rw [z_1, iI_add]
    congr 3
  · rw [if_neg q]
    refine ⟨s, ?_, CZ.rf _ _ _, hs, UQ.rf _ _⟩
    refine e_bdp (rw_stand hs.1.1.1 W.2.2.2 hz) ?_
    refine e_jn ?_
    refine e_if_f (by rw [hs.2.2.1]; exact q) ?_
    exact e_if_t rfl rfl
theorem cs_loop (W : WOK T kd tl n c tn) {S G : Int32} {e i : Nat} (hi : i < 12) {rf : Int32 → Int32 → Int32 → SS → Res} (H : SGH T kd tl n c tn S G e i rf) {y m : Nat} (hy : y < szR n) (hm : m < 4) (b : Bool) (K : Int32 → SS → Res) : ∀ (k F l : Nat) (s : SS), l + k = 8 → k < F → SGS T kd tl n c tn S G e s → ∃ t, lp_X7_spanFrom_136 rf (wl_ n y) (iI ((i + 1 : Nat) : Int)) (if b = true then 1 else 0) (if b = true then iI ((i + 1 : Nat) : Int) else 0) (may T n y m) (iI (plE c e i)) K F (iI (extH b (fun l => sbT S (hvT T n c tn S G e i) (bh n y l)) (may T n y m) l)) (iI l) s = K (iI (extH b (fun l => sbT S (hvT T n c tn S G e i) (bh n y l)) (may T n y m) 8)) t ∧ CZ 51 51 s t ∧ SGS T kd tl n c tn S G e t ∧ UQ i s t := by
  have hM : ∀ l, (fun l => sbT S (hvT T n c tn S G e i) (bh n y l)) l ≤ i + 1 := fun l => sb_le S G e i (bh n y l)
  intro k
  induction k with
  | zero =>
    intro F l s hl hF hs
    cases F with
    | zero => omega
    | succ F =>
      obtain rfl : l = 8 := by omega
      refine ⟨s, ?_, CZ.rf _ _ _, hs, UQ.rf _ _⟩
      rw [lp_X7_spanFrom_136]
      exact e_if_t (by decide) rfl
  | succ k ih =>
    intro F l s hl hF hs
    cases F with
    | zero => omega
    | succ F =>
      have ea : extH b (fun l => sbT S (hvT T n c tn S G e i) (bh n y l)) (may T n y m) (l + 1) = if bt (may T n y m) l = true then (if b = true then max (extH b (fun l => sbT S (hvT T n c tn S G e i) (bh n y l)) (may T n y m) l) (sbT S (hvT T n c tn S G e i) (bh n y l)) else min (extH b (fun l => sbT S (hvT T n c tn S G e i) (bh n y l)) (may T n y m) l) (sbT S (hvT T n c tn S G e i) (bh n y l))) else extH b (fun l => sbT S (hvT T n c tn S G e i) (bh n y l)) (may T n y m) l := rfl
      have el := ext_le (b := b) (mb := may T n y m) hM l
      have s0 := @ext_0 (fun l => sbT S (hvT T n c tn S G e i) (bh n y l)) (may T n y m) l
      have s1 := @ext_M (fun l => sbT S (hvT T n c tn S G e i) (bh n y l)) (may T n y m) l (i + 1) hM
      have hh := has_bt (x := may T n y m) (l := l) (by omega)
      have hf := sb_le (T := T) (n := n) (c := c) (tn := tn) S G e i (bh n y l)
      have cf : ¬ (8 : Int32) ≤ iI (l : Int) := by simp (disch := omega) only [Int.toNat_natCast, iI_lt, iI_le, iI_eq, iI_add, iI_sub, iI_mul, iI_neg, iI_clamp, inb_ii, z_8]; omega
      by_cases qe : iI (extH b (fun l => sbT S (hvT T n c tn S G e i) (bh n y l)) (may T n y m) l : Int) = (if b = true then iI ((i + 1 : Nat) : Int) else 0)
      · refine ⟨s, ?_, CZ.rf _ _ _, hs, UQ.rf _ _⟩
        rw [lp_X7_spanFrom_136]
        refine e_if_f cf ?_
        refine e_if_t qe ?_
        congr 2
        cases b with
        | true =>
          rw [if_pos rfl, iI_eq (by omega) (by omega)] at qe
          have qe2 : extH true (fun l => sbT S (hvT T n c tn S G e i) (bh n y l)) (may T n y m) l = i + 1 := by omega
          rw [s1 qe2 8 (by omega), qe2]
        | false =>
          rw [if_neg (by decide), z_0, iI_eq (by omega) (by omega)] at qe
          have qe2 : extH false (fun l => sbT S (hvT T n c tn S G e i) (bh n y l)) (may T n y m) l = 0 := by omega
          rw [s0 qe2 8 (by omega), qe2]
      · by_cases q : bt (may T n y m) l = true
        · rw [if_pos q] at ea
          have hb2 := bh_lt W.2.2.2 hy (l := l) (by omega)
          obtain ⟨t1, e1, e2, e3, e4⟩ := cs_behind W hi H hb2 hs
          obtain ⟨t, f1, f2, f3, f4⟩ := ih F (l + 1) t1 (by omega) (by omega) e3
          refine ⟨t, ?_, e2.tr f2, f3, e4.tr f4⟩
          rw [lp_X7_spanFrom_136]
          refine e_if_f cf ?_
          refine e_if_f qe ?_
          refine e_jn ?_
          refine e_if_t (hh.mpr q) ?_
          refine e_bdp (cw_behind W hs.1 hy (l := l) (by omega)) ?_
          refine e_bd e1 ?_
          refine e_jn ?_
          rw [ea] at f1
          generalize extH b (fun l => sbT S (hvT T n c tn S G e i) (bh n y l)) (may T n y m) l = r at el f1 ⊢
          generalize sbT S (hvT T n c tn S G e i) (bh n y l) = w at hf f1 ⊢
          rw [nx_s]
          cases b with
          | true =>
            rw [if_pos rfl] at f1
            refine e_if_f (by decide) ?_
            refine e_lt ?_
            have ev : (if iI (r : Int) < iI (w : Int) then iI (w : Int) else iI (r : Int)) = iI ((max r w : Nat) : Int) := by
              by_cases z : r < w
              · rw [if_pos (by simp (disch := omega) only [Int.toNat_natCast, iI_lt, iI_le, iI_eq, iI_add, iI_sub, iI_mul, iI_neg, iI_clamp, inb_ii]; omega), Nat.max_eq_right (by omega)]
              · rw [if_neg (by simp (disch := omega) only [Int.toNat_natCast, iI_lt, iI_le, iI_eq, iI_add, iI_sub, iI_mul, iI_neg, iI_clamp, inb_ii]; omega), Nat.max_eq_left (by omega)]
            rw [ev]
            exact f1
          | false =>
            rw [if_neg (by decide)] at f1
            refine e_if_t rfl ?_
            refine e_lt ?_
            have ev : (if iI (w : Int) < iI (r : Int) then iI (w : Int) else iI (r : Int)) = iI ((min r w : Nat) : Int) := by
              by_cases z : w < r
              · rw [if_pos (by simp (disch := omega) only [Int.toNat_natCast, iI_lt, iI_le, iI_eq, iI_add, iI_sub, iI_mul, iI_neg, iI_clamp, inb_ii]; omega), Nat.min_eq_right (by omega)]
              · rw [if_neg (by simp (disch := omega) only [Int.toNat_natCast, iI_lt, iI_le, iI_eq, iI_add, iI_sub, iI_mul, iI_neg, iI_clamp, inb_ii]; omega), Nat.min_eq_left (by omega)]
            rw [ev]
            exact f1
        · rw [if_neg q] at ea
          obtain ⟨t, f1, f2, f3, f4⟩ := ih F (l + 1) s (by omega) (by omega) hs
          rw [ea] at f1
          refine ⟨t, ?_, f2, f3, f4⟩
          rw [lp_X7_spanFrom_136]
          refine e_if_f cf ?_
          refine e_if_f qe ?_
          refine e_jn ?_
          refine e_if_f (mt hh.mp q) ?_
          rw [nx_s]
          exact f1
theorem cs_span (W : WOK T kd tl n c tn) {S G : Int32} {e : Nat} : ∀ (j F : Nat), j ≤ 12 → j + 1 ≤ F → SGH T kd tl n c tn S G e j (f_X7_spanFrom F) := by
  intro j
  induction j with
  | zero =>
    intro F hj hF y s hy hs
    obtain ⟨N, rfl⟩ : ∃ N, F = N + 1 := ⟨F - 1, by omega⟩
    refine ⟨s, ?_, CZ.rf _ _ _, hs, UQ.rf _ _⟩
    rw [f_X7_spanFrom]
    unfold o_X7_spanFrom
    exact e_if_t (by decide) rfl
  | succ i ih =>
    intro F hj hF y s hy hs
    obtain ⟨N, rfl⟩ : ∃ N, F = N + 1 := ⟨F - 1, by omega⟩
    have H := ih N (by omega) (by omega)
    have hb := W.sz hy
    have hp : plE c e (i + 1) < c := plE_lt W.cc.1
    have hm := W.tt hp
    have c1 : ¬ iI ((i + 1 : Nat) : Int) < 1 := by simp (disch := omega) only [Int.toNat_natCast, iI_lt, iI_le, iI_eq, iI_add, iI_sub, iI_mul, iI_neg, iI_clamp, inb_ii, z_1]; omega
    have c2 : ¬ (12 : Int32) < iI ((i + 1 : Nat) : Int) := by simp (disch := omega) only [Int.toNat_natCast, iI_lt, iI_le, iI_eq, iI_add, iI_sub, iI_mul, iI_neg, iI_clamp, inb_ii, z_12]; omega
    have c3 := wl_c0 W.2.2.2 hy
    have c5 := wl_c2 W.2.2.2 hy
    have c4 := wl_in W.2.2.2 hy
    have ht := cw_turn W hs.1 hp
    have unf : hvT T n c tn S G e (i + 1) y = extH (bt G (tn (plE c e (i + 1)))) (fun l => sbT S (hvT T n c tn S G e i) (bh n y l)) (may T n y (tn (plE c e (i + 1)))) 8 := rfl
    have sk := gl_of (B := 4) (k := 51) (p := i) W.2.2.2 hy s s
    have hle := hv_le (T := T) (n := n) (c := c) (tn := tn) S G e (i + 1) y
    rw [f_X7_spanFrom]
    unfold o_X7_spanFrom
    by_cases q : gl 4 s 51 (br n + y) i = 0
    · obtain ⟨t1, e1, e2, e3⟩ := cw_may W hs.1 hy hm
      have ha := cw_after W e3 hp
      rw [plE_s W.cc.1 (by omega)] at ha
      obtain ⟨g1, g2⟩ := hs.q e2 e3
      obtain ⟨t2, a1, a2, a3, a4⟩ := cs_behind W (by omega) H hy g1
      obtain ⟨t, f1, f2, f3, f4⟩ := cs_loop W (by omega) H hy hm (bt G (tn (plE c e (i + 1)))) (fun v18 s19 => gd (inb (wl_ n y) 5348) (gd (inb (wl_ n y) 5348) (lts (upl s19 51 (Int32.toNatClampNeg (wl_ n y)) (wsl (lgt (s19 51) (Int32.toNatClampNeg (wl_ n y))) (iI ((i + 1 : Nat) : Int) - 1) 4 (v18 + 1))) (fun (s21 : SS) => some (v18, s21))))) 8 FU 0 t2 rfl (fu_lt (by omega)) a3
      rw [← unf] at f1
      have e80 : extH (bt G (tn (plE c e (i + 1)))) (fun l => sbT S (hvT T n c tn S G e i) (bh n y l)) (may T n y (tn (plE c e (i + 1)))) 0 = sbT S (hvT T n c tn S G e i) y := by
        show sbT S (hvT T n c tn S G e i) (bh n y 8) = _
        rw [bh_8]
      rw [e80] at f1
      have uq : UQ i s t := ((e2.uq).tr a4).tr f4
      have q0 : gl 4 t 51 (br n + y) i = 0 := by rw [uq _ _ (Nat.le_refl _) (by omega)]; exact q
      have vs : sml 4 (iI ((hvT T n c tn S G e (i + 1) y + 1 : Nat) : Int)) := sml_of (by omega) (by omega)
      have fe : (gd (inb (wl_ n y) 5348) (gd (inb (wl_ n y) 5348) (lts (upl t 51 (Int32.toNatClampNeg (wl_ n y)) (wsl (lgt (t 51) (Int32.toNatClampNeg (wl_ n y))) (iI ((i + 1 : Nat) : Int) - 1) 4 (iI (hvT T n c tn S G e (i + 1) y : Int) + 1))) (fun (s21 : SS) => some (iI (hvT T n c tn S G e (i + 1) y : Int), s21))))) = some (iI (hvT T n c tn S G e (i + 1) y : Int), upr t 51 (lset (t 51) (br n + y) (wsl (lgt (t 51) (br n + y)) (iI i) 4 (iI ((hvT T n c tn S G e (i + 1) y + 1 : Nat) : Int))))) := by
        refine e_gd c4 ?_
        refine e_gd c4 ?_
        refine e_upl0 ?_
        rw [wl_cl W.2.2.2 hy, pr_s, nx_s]
      refine ⟨upr t 51 (lset (t 51) (br n + y) (wsl (lgt (t 51) (br n + y)) (iI i) 4 (iI ((hvT T n c tn S G e (i + 1) y + 1 : Nat) : Int)))), ?_, (g2.tr a2).tr (f2.tr (CZ.ur (by omega))), ⟨f3.1.ur (by omega), ?_, by rw [upr_ne (by omega)]; exact f3.2.2.1, by rw [upr_ne (by omega)]; exact f3.2.2.2⟩, ?_⟩
      · refine e_if_f c1 ?_
        refine e_if_f c2 ?_
        refine e_if_f c3 ?_
        refine e_if_t c5 ?_
        refine e_gd c4 ?_
        rw [pr_s]
        refine e_bdp sk ?_
        refine e_if_t q ?_
        refine e_bdp ht ?_
        refine e_bdp (person_ok hm) ?_
        refine e_jn ?_
        refine e_jn ?_
        refine e_if_f (by decide) ?_
        rw [pr_s] at f1 fe
        have hh := has_bt (x := G) (l := tn (plE c e (i + 1))) (by omega)
        by_cases z : bt G (tn (plE c e (i + 1))) = true
        · refine e_if_t (by rw [hs.2.2.2]; exact hh.mpr z) ?_
          refine e_jn ?_
          refine e_if_f (by decide) ?_
          rw [z] at f1
          refine e_bd e1 ?_
          refine e_bdp ha ?_
          refine e_bd a1 ?_
          refine e_jn ?_
          refine Eq.trans f1 ?_
          exact fe
        · refine e_if_f (by rw [hs.2.2.2]; exact mt hh.mp z) ?_
          refine e_jn ?_
          refine e_if_t rfl ?_
          rw [show bt G (tn (plE c e (i + 1))) = false by simpa using z] at f1
          refine e_bd e1 ?_
          refine e_bdp ha ?_
          refine e_bd a1 ?_
          refine e_jn ?_
          refine Eq.trans f1 ?_
          exact fe
      · intro y2 j2 hy2 hj2
        by_cases w : y2 = y ∧ j2 = i
        · obtain ⟨rfl, rfl⟩ := w
          right
          exact gl_put B4 (by omega) q0 vs
        · rw [gl_oth B4 (by omega) (by omega) (by omega) vs]
          exact f3.2.1 y2 j2 hy2 hj2
      · intro w j a b
        rw [gl_oth B4 (by omega) (by omega) (by omega) vs]
        exact uq w j (by omega) b
    · have hv := (hs.2.1 y i hy (by omega)).resolve_left q
      refine ⟨s, ?_, CZ.rf _ _ _, hs, UQ.rf _ _⟩
      refine e_if_f c1 ?_
      refine e_if_f c2 ?_
      refine e_if_f c3 ?_
      refine e_if_t c5 ?_
      refine e_gd c4 ?_
      rw [pr_s]
      refine e_bdp sk ?_
      refine e_if_f q ?_
      rw [hv, pr_s]
def ansHeld (T : TW) (n c : Nat) (tn : Nat → Nat) (x p : Nat) (a1 a2 a3 : Int32) : Int32 :=
  if (0 ≤ a1.toInt ∧ a1.toInt ≤ (T.1 : Int) - 1) ∧ (0 ≤ a2.toInt ∧ a2.toInt ≤ (T.1 : Int) - 1) ∧ (0 ≤ a3.toInt ∧ a3.toInt ≤ 15) then iI (hvT T n c tn ((1 <<< (a1 &&& 31)) ||| (1 <<< (a2 &&& 31))) a3 ((p + 12) % c) 12 x) else -1
theorem cc_held (W : WOK T kd tl n c tn) (hx : x < szR n) (hp : p < c) (a1 a2 a3 : Int32) {s : SS} (h : CW T kd tl c tn s) (hw : s 52 0 = wl_ n x) (hp2 : s 52 1 = iI p) : ∃ t, f_X11_held a1 a2 a3 s = some (ansHeld T n c tn x p a1 a2 a3, t) ∧ CZ 50 51 s t ∧ CW T kd tl c tn t := by
  have hT := W.1.1
  have f1 := isLawC_f hT a1 (s := s) h.1.2.1.1
  have f2 := isLawC_f hT a2 (s := s) h.1.2.1.1
  have f3 := within_f a3 15 s
  have w15 : (15 : Int32).toInt = 15 := rfl
  rw [w15] at f3
  unfold f_X11_held ansHeld
  by_cases q1 : 0 ≤ a1.toInt ∧ a1.toInt ≤ (T.1 : Int) - 1
  · rw [if_pos q1] at f1
    by_cases q2 : 0 ≤ a2.toInt ∧ a2.toInt ≤ (T.1 : Int) - 1
    · rw [if_pos q2] at f2
      by_cases q3 : 0 ≤ a3.toInt ∧ a3.toInt ≤ 15
      · rw [if_pos q3] at f3
        rw [if_pos ⟨q1, q2, q3⟩]
        have hn := W.2.2.2
        have hb := br_le hn
        obtain ⟨R, r1, r2, r3⟩ := fillr_51 (lo := br n) (hi := br n + szR n) 0 (up (up s 50 4 ((1 <<< (a1 &&& 31)) ||| (1 <<< (a2 &&& 31)))) 50 5 a3) (by omega) (by omega)
        have p0 := plE_p (p := p) (c := c) (N := 12) (d := 0) W.cc.1 (by omega) (by omega)
        rw [Nat.add_zero p, Nat.mod_eq_of_lt hp, Nat.sub_zero] at p0
        have hh : SGS T kd tl n c tn ((1 <<< (a1 &&& 31)) ||| (1 <<< (a2 &&& 31))) a3 ((p + 12) % c) (upr (up (up s 50 4 ((1 <<< (a1 &&& 31)) ||| (1 <<< (a2 &&& 31)))) 50 5 a3) 51 R) := ⟨((h.up1 (by omega)).up1 (by omega)).ur (by omega), by
          intro y j hy hj
          left
          exact gl_0 B4 (by omega) (by rw [upr_eq]; exact r2 _ (by omega) (by omega)), by rw [upr_ne (by omega), up_slot (by omega), up_at], by rw [upr_ne (by omega), up_at]⟩
        obtain ⟨t, g1, g2, g3, _⟩ := cs_span W 12 40 (by omega) (by omega) x _ hx hh
        rw [p0] at g1
        refine ⟨t, ?_, (((CZ.up1 (by omega)).tr (CZ.up1 (by omega))).tr (CZ.ur (by omega))).tr (g2.m (by omega) (by omega)), g3.1⟩
        refine e_bdp f1 ?_
        refine e_if_f (by decide) ?_
        refine e_bdp f2 ?_
        refine e_if_f (by decide) ?_
        refine e_bdp f3 ?_
        refine e_if_f (by decide) ?_
        refine e_bd (v := iI (hvT T n c tn ((1 <<< (a1 &&& 31)) ||| (1 <<< (a2 &&& 31))) a3 ((p + 12) % c) 12 x)) (t := t) ?_ rfl
        unfold f_X7_solve
        refine e_lts ?_
        refine e_lts ?_
        have e52 : (up (up s 50 4 ((1 <<< (a1 &&& 31)) ||| (1 <<< (a2 &&& 31)))) 50 5 a3) 52 = s 52 := by rw [up_cell (by omega), up_cell (by omega)]
        rw [e52, hw]
        refine e_bdp (rw_len ((h.up1 (by omega)).up1 (by omega)).1.1 hn hx) ?_
        refine e_bdp (rw_bare (by omega)) ?_
        refine e_bdp (rw_bare1 hn) ?_
        refine e_bd r1 ?_
        rw [upr_ne (k := 51) (q := 52) (by omega), e52, hw, hp2]
        exact e_bd g1 rfl
      · rw [if_neg q3] at f3
        rw [if_neg (fun w => q3 w.2.2)]
        refine ⟨s, ?_, CZ.rf _ _ _, h⟩
        refine e_bdp f1 ?_
        refine e_if_f (by decide) ?_
        refine e_bdp f2 ?_
        refine e_if_f (by decide) ?_
        refine e_bdp f3 ?_
        exact e_if_t rfl rfl
    · rw [if_neg q2] at f2
      rw [if_neg (fun w => q2 w.2.1)]
      refine ⟨s, ?_, CZ.rf _ _ _, h⟩
      refine e_bdp f1 ?_
      refine e_if_f (by decide) ?_
      refine e_bdp f2 ?_
      exact e_if_t rfl rfl
  · rw [if_neg q1] at f1
    rw [if_neg (fun w => q1 w.1)]
    refine ⟨s, ?_, CZ.rf _ _ _, h⟩
    refine e_bdp f1 ?_
    exact e_if_t rfl rfl
