/-! held of the reference -/
variable {T : TW} {kd tl tn : Nat → Nat} {n c x p : Nat} {s t u : SS}
theorem stand_iff (S v : Int32) : (S &&& (v ^^^ (-1)) = 0) ↔ v &&& S = S := by
  constructor
  · intro h
    apply b_ext
    intro i hi
    have h2 := congrArg (fun z => bt z i) h
    simp only [b_and, b_xor, b_m1 i hi, b_0] at h2
    rw [b_and]
    cases e1 : bt v i <;> cases e2 : bt S i <;> simp [e1, e2] at h2 ⊢
  · intro h
    apply b_ext
    intro i hi
    have h2 := congrArg (fun z => bt z i) h
    simp only [b_and] at h2
    rw [b_and, b_xor, b_m1 i hi, b_0]
    cases e1 : bt v i <;> cases e2 : bt S i <;> simp [e1, e2] at h2 ⊢
theorem ext_T (hT : T.1 ≤ 8) {m y : Nat} {b : Bool} (f : Nat → Nat) : ∀ k, T.1 ≤ k → k ≤ 8 → extH b f (may T n y m) k = extH b f (may T n y m) T.1 := by
  intro k
  induction k with
  | zero => intro h _; rw [show T.1 = 0 by omega]
  | succ k ih =>
    intro h h2
    by_cases q : T.1 ≤ k
    · rw [← ih q (by omega)]
      show (if bt (may T n y m) k = true then _ else extH b f (may T n y m) k) = _
      rw [if_neg (fun w => by have := may_lt hT (by omega) w; omega)]
    · rw [show k + 1 = T.1 by omega]
def VLH (T : TW) (n c : Nat) (tn : Nat → Nat) (S G : Int32) (e : Nat) (d0 : Nat) (s : SS) : Prop := ∀ d y, d0 ≤ d → d ≤ 12 → y < 4681 → s 90 (4681 * d + y) = 1 → s 91 (4681 * d + y) = iI (hvT T n c tn S G e (12 - d) y)
theorem VLH.q {S G : Int32} {e d0 : Nat} (h : VLH T n c tn S G e d0 s) (g : RQ s t) : VLH T n c tn S G e d0 t := by
  unfold VLH
  rw [g.hi (k := 90) (by omega), g.hi (k := 91) (by omega)]
  exact h
theorem cr_hby (W : WOK T kd tl n c tn) {S G : Int32} {fr : Nat} (h : BST T kd tl n c tn x p fr 12 s) {e d i y l : Nat} (hi : d + (i + 1) = 12) (hy : y < szR n) (hl : l ≤ 8) (hr : s 90 (4681 * (d + 1) + bh n y l) = 1) (hV : VLH T n c tn S G e (d + 1) s) : ∃ t, f_X12_heldBy (iI d) (iI y) (iI l) S s = some (iI (sbT S (hvT T n c tn S G e i) (bh n y l)), t) ∧ RQ s t ∧ RW_ T kd tl n c tn t := by
  have hb := bh_lt W.2.2.2 hy hl
  have hsz := W.sz hb
  obtain ⟨t, e1, e2, e3, e4⟩ := rw_lay W h.1.1 hsz.2
  have hv := hV (d + 1) (bh n y l) (Nat.le_refl _) (by omega) hsz.2 hr
  rw [show 12 - (d + 1) = i by omega] at hv
  have h0 := hv_le (T := T) (n := n) (c := c) (tn := tn) S G e i (bh n y l)
  have hst := stand_iff S (stn (bh n y l))
  refine ⟨t, ?_, e2, e3⟩
  unfold f_X12_heldBy sbT
  refine e_bdp (rw_bh W h.1.1 hy hl) ?_
  by_cases q : stn (bh n y l) &&& S = S
  · rw [if_pos q]
    refine e_bd (v := 1) (t := t) ?_ ?_
    · unfold f_X12_stand
      refine e_bd e1 ?_
      exact e_if_t (by rw [e4.2.2.1]; exact hst.mpr q) rfl
    · refine e_if_f (by decide) ?_
      rw [lay_i]
      refine e_gd (by simp (disch := omega) only [Int.toNat_natCast, iI_lt, iI_le, iI_eq, iI_add, iI_sub, iI_mul, iI_neg, iI_clamp, inb_ii]; omega) ?_
      rw [iI_clamp (by omega), Int.toNat_natCast, e2.hi (by omega), hv, z_1, iI_add]
      congr 3
  · rw [if_neg q]
    refine e_bd (v := 0) (t := t) ?_ ?_
    · unfold f_X12_stand
      refine e_bd e1 ?_
      exact e_if_f (by rw [e4.2.2.1]; exact mt hst.mp q) rfl
    · exact e_if_t rfl rfl
theorem cr_hL0 (W : WOK T kd tl n c tn) {S G : Int32} {fr e m d i y : Nat} (hi : d + (i + 1) = 12) (hy : y < szR n) (hv : VR T y) (hm : m < 4) (K : Int32 → SS → Res) : ∀ (k F l : Nat) (s : SS), l + k = T.1 → k < F → BST T kd tl n c tn x p fr 12 s → VLH T n c tn S G e (d + 1) s → (∀ l, l < T.1 → bt (may T n y m) l = true → s 90 (4681 * (d + 1) + bh n y l) = 1) → ∃ t, lp_X12_held_141 G S (iI d) (iI m) (iI y) K F (iI (extH (bt G m) (fun l => sbT S (hvT T n c tn S G e i) (bh n y l)) (may T n y m) l)) (iI l) s = K (iI (extH (bt G m) (fun l => sbT S (hvT T n c tn S G e i) (bh n y l)) (may T n y m) 8)) t ∧ RQ s t ∧ RW_ T kd tl n c tn t := by
  have h8 := W.1.1
  have hM : ∀ l, (fun l => sbT S (hvT T n c tn S G e i) (bh n y l)) l ≤ i + 1 := fun l => sb_le S G e i (bh n y l)
  intro k
  induction k with
  | zero =>
    intro F l s hl hF hs hV hr
    cases F with
    | zero => omega
    | succ F =>
      obtain rfl : l = T.1 := by omega
      refine ⟨s, ?_, RQ.rf s, hs.1.1⟩
      rw [lp_X12_held_141, ext_T h8 _ 8 h8 (Nat.le_refl 8)]
      exact e_if_t (by rw [hs.1.1.1.1.1]; simp (disch := omega) only [Int.toNat_natCast, iI_lt, iI_le, iI_eq, iI_add, iI_sub, iI_mul, iI_neg, iI_clamp, inb_ii]; omega) rfl
  | succ k ih =>
    intro F l s hl hF hs hV hr
    cases F with
    | zero => omega
    | succ F =>
      obtain ⟨s1, e1, e2, e3⟩ := rw_may W hs.1.1 hy hv hm
      have zh := has_f (v := may T n y m) (l := l) s1 (by omega)
      have hs1 := hs.q e2 e3
      have hr1 : ∀ l, l < T.1 → bt (may T n y m) l = true → s1 90 (4681 * (d + 1) + bh n y l) = 1 := by rw [e2.hi (by omega)]; exact hr
      have ea : extH (bt G m) (fun l => sbT S (hvT T n c tn S G e i) (bh n y l)) (may T n y m) (l + 1) = if bt (may T n y m) l = true then (if bt G m = true then max (extH (bt G m) (fun l => sbT S (hvT T n c tn S G e i) (bh n y l)) (may T n y m) l) (sbT S (hvT T n c tn S G e i) (bh n y l)) else min (extH (bt G m) (fun l => sbT S (hvT T n c tn S G e i) (bh n y l)) (may T n y m) l) (sbT S (hvT T n c tn S G e i) (bh n y l))) else extH (bt G m) (fun l => sbT S (hvT T n c tn S G e i) (bh n y l)) (may T n y m) l := rfl
      have el := ext_le (b := bt G m) (mb := may T n y m) hM l
      have hf := sb_le (T := T) (n := n) (c := c) (tn := tn) S G e i (bh n y l)
      have cf : ¬ s 56 2 ≤ iI (l : Int) := by rw [hs.1.1.1.1.1]; simp (disch := omega) only [Int.toNat_natCast, iI_lt, iI_le, iI_eq, iI_add, iI_sub, iI_mul, iI_neg, iI_clamp, inb_ii]; omega
      by_cases q : bt (may T n y m) l = true
      · rw [if_pos q] at zh ea
        obtain ⟨s2, g1, g2, g3⟩ := cr_hby (l := l) W hs1 hi hy (by omega) (hr1 l (by omega) q) (hV.q e2)
        obtain ⟨t, f1, f2, f3⟩ := ih F (l + 1) s2 (by omega) (by omega) (hs1.q g2 g3) ((hV.q e2).q g2) (by rw [g2.hi (by omega)]; exact hr1)
        refine ⟨t, ?_, (e2.tr g2).tr f2, f3⟩
        rw [lp_X12_held_141]
        refine e_if_f cf ?_
        refine e_bd e1 ?_
        refine e_bdp zh ?_
        refine e_jn ?_
        refine e_if_f (by decide) ?_
        refine e_bd g1 ?_
        rw [ea] at f1
        have zg := has_f (v := G) (l := m) s2 (by omega)
        refine e_bdp zg ?_
        refine e_jn ?_
        generalize extH (bt G m) (fun l => sbT S (hvT T n c tn S G e i) (bh n y l)) (may T n y m) l = r at el f1 ⊢
        generalize sbT S (hvT T n c tn S G e i) (bh n y l) = w at hf f1 ⊢
        by_cases z : w ≤ r
        · refine e_if_t (by simp (disch := omega) only [Int.toNat_natCast, iI_lt, iI_le, iI_eq, iI_add, iI_sub, iI_mul, iI_neg, iI_clamp, inb_ii]; omega) ?_
          refine e_jn ?_
          cases b : bt G m with
          | true =>
            rw [b, if_pos rfl, Nat.max_eq_left z] at f1
            rw [if_pos rfl]
            refine e_if_f (by decide) ?_
            rw [nx_s, ← b]
            rw [← b] at f1
            exact f1
          | false =>
            rw [b, if_neg (by decide), Nat.min_eq_right z] at f1
            refine e_if_t rfl ?_
            rw [nx_s, ← b]
            rw [← b] at f1
            exact f1
        · refine e_if_f (by simp (disch := omega) only [Int.toNat_natCast, iI_lt, iI_le, iI_eq, iI_add, iI_sub, iI_mul, iI_neg, iI_clamp, inb_ii]; omega) ?_
          refine e_jn ?_
          cases b : bt G m with
          | true =>
            rw [b, if_pos rfl, Nat.max_eq_right (by omega)] at f1
            rw [if_pos rfl]
            refine e_if_t rfl ?_
            rw [nx_s, ← b]
            rw [← b] at f1
            exact f1
          | false =>
            rw [b, if_neg (by decide), Nat.min_eq_left (by omega)] at f1
            refine e_if_f (by decide) ?_
            rw [nx_s, ← b]
            rw [← b] at f1
            exact f1
      · rw [if_neg q] at zh ea
        obtain ⟨t, f1, f2, f3⟩ := ih F (l + 1) s1 (by omega) (by omega) hs1 (hV.q e2) hr1
        rw [ea] at f1
        refine ⟨t, ?_, e2.tr f2, f3⟩
        rw [lp_X12_held_141]
        refine e_if_f cf ?_
        refine e_bd e1 ?_
        refine e_bdp zh ?_
        refine e_jn ?_
        refine e_if_t rfl ?_
        rw [nx_s]
        exact f1
theorem cr_hL1 (W : WOK T kd tl n c tn) {S G : Int32} (hp : p < c) {d i : Nat} (hi : d + (i + 1) = 12) (K : SS → Res) : ∀ (k F y : Nat) (s : SS), y + k = 4681 → k < F → BST T kd tl n c tn x p 9 12 s → VLH T n c tn S G ((p + 12) % c) (d + 1) s → (∀ r, r < y → s 90 (4681 * d + r) = 1 → s 91 (4681 * d + r) = iI (hvT T n c tn S G ((p + 12) % c) (12 - d) r)) → ∃ t, lp_X12_held_96 G S (iI d) (iI (tn ((p + d) % c))) K F (iI y) s = K t ∧ RZ s t ∧ BST T kd tl n c tn x p 9 12 t ∧ VLH T n c tn S G ((p + 12) % c) d t := by
  have hm := W.tt (W.pl (p + d))
  intro k
  induction k with
  | zero =>
    intro F y s hl hF hs hV hr
    cases F with
    | zero => omega
    | succ F =>
      obtain rfl : y = 4681 := by omega
      refine ⟨s, ?_, RZ.rf s, hs, ?_⟩
      · rw [lp_X12_held_96]
        exact e_if_t (by decide) rfl
      · intro d2 y2 h1 h2 h3 h4
        by_cases w : d2 = d
        · subst w; exact hr y2 h3 h4
        · exact hV d2 y2 (by omega) h2 h3 h4
  | succ k ih =>
    intro F y s hl hF hs hV hr
    cases F with
    | zero => omega
    | succ F =>
      have cf : ¬ (4681 : Int32) ≤ iI (y : Int) := by simp (disch := omega) only [Int.toNat_natCast, iI_lt, iI_le, iI_eq, iI_add, iI_sub, iI_mul, iI_neg, iI_clamp, inb_ii, z_4681]; omega
      have ig : inb (iI ((4681 * d + y : Nat) : Int)) 60853 := by simp (disch := omega) only [Int.toNat_natCast, iI_lt, iI_le, iI_eq, iI_add, iI_sub, iI_mul, iI_neg, iI_clamp, inb_ii]; omega
      have icl : Int32.toNatClampNeg (iI ((4681 * d + y : Nat) : Int)) = 4681 * d + y := by rw [iI_clamp (by omega), Int.toNat_natCast]
      by_cases q : s 90 (4681 * d + y) = 0
      · obtain ⟨t, f1, f2, f3⟩ := ih F (y + 1) s (by omega) (by omega) hs hV (by
          intro r hr2 h1
          by_cases w : r = y
          · subst w; rw [q] at h1; exact absurd h1 (by decide)
          · exact hr r (by omega) h1)
        refine ⟨t, ?_, f2, f3⟩
        rw [lp_X12_held_96]
        refine e_if_f cf ?_
        rw [lay_0]
        refine e_gd ig ?_
        refine e_jn ?_
        rw [icl]
        refine e_if_t q ?_
        rw [nx_s]
        exact f1
      · have hz := (hs.1.2.2.2 d y (by omega) (by omega)).resolve_left q
        have hc := hs.2.2 d (by omega) y (by omega) hz.1
        unfold CLd at hc
        rw [if_pos (Or.inl rfl)] at hc
        obtain ⟨u, g1, g2, g3⟩ := cr_hby (l := 8) (S := S) (G := G) (e := (p + 12) % c) W hs hi hz.2.1 (by omega) (by rw [bh_8]; exact hc.1) hV
        rw [bh_8] at g1
        have hsu := hs.q g2 g3
        obtain ⟨v, k1, k2, k3⟩ := cr_hL0 (x := x) (p := p) (S := S) (G := G) (fr := 9) (e := (p + 12) % c) (m := tn ((p + d) % c)) W hi hz.2.1 hz.2.2 hm (fun (v30 : Int32) (s31 : SS) => gd (inb (iI ((4681 * d + y : Nat) : Int)) 60853) (lts (up s31 91 (4681 * d + y) v30) (fun (s33 : SS) => lp_X12_held_96 G S (iI d) (iI (tn ((p + d) % c))) K F (iI y + 1) s33))) T.1 FU 0 u (by omega) (fu_lt (by have := W.1.1; omega)) hsu (hV.q g2) (by rw [g2.hi (by omega)]; exact hc.2)
        have ey : extH (bt G (tn ((p + d) % c))) (fun l => sbT S (hvT T n c tn S G ((p + 12) % c) i) (bh n y l)) (may T n y (tn ((p + d) % c))) 8 = hvT T n c tn S G ((p + 12) % c) (12 - d) y := by
          have e := plE_p (p := p) (c := c) (N := 12) (d := d) W.cc.1 (by omega) (by omega)
          rw [show 12 - d = i + 1 by omega] at e ⊢
          show _ = extH (bt G (tn (plE c ((p + 12) % c) (i + 1)))) _ (may T n y (tn (plE c ((p + 12) % c) (i + 1)))) 8
          rw [e]
        have e0 : extH (bt G (tn ((p + d) % c))) (fun l => sbT S (hvT T n c tn S G ((p + 12) % c) i) (bh n y l)) (may T n y (tn ((p + d) % c))) 0 = sbT S (hvT T n c tn S G ((p + 12) % c) i) y := by
          show sbT S (hvT T n c tn S G ((p + 12) % c) i) (bh n y 8) = _
          rw [bh_8]
        rw [ey, e0] at k1
        have hsv := hsu.q k2 k3
        have q91 : v 91 = s 91 := (k2.hi (by omega)).trans (g2.hi (by omega))
        have q90 : v 90 = s 90 := (k2.hi (by omega)).trans (g2.hi (by omega))
        obtain ⟨t, f1, f2, f3⟩ := ih F (y + 1) (up v 91 (4681 * d + y) (iI (hvT T n c tn S G ((p + 12) % c) (12 - d) y))) (by omega) (by omega) (hsv.w (by omega)) (by
          intro d2 y2 h1 h2 h3 h4
          rw [up_cell (by omega), q90] at h4
          rw [up_slot (by omega), q91]
          exact hV d2 y2 h1 h2 h3 h4) (by
          intro r hr2 h1
          rw [up_cell (by omega), q90] at h1
          by_cases w : r = y
          · subst w; exact up_at _ _ _ _
          · rw [up_slot (by omega), q91]
            exact hr r (by omega) h1)
        refine ⟨t, ?_, (g2.z.tr k2.z).tr ((RZ.up1 (by omega)).tr f2), f3⟩
        rw [lp_X12_held_96]
        refine e_if_f cf ?_
        rw [lay_0]
        refine e_gd ig ?_
        refine e_jn ?_
        rw [icl]
        refine e_if_f q ?_
        refine e_bd g1 ?_
        refine e_jn ?_
        refine Eq.trans k1 ?_
        refine e_gd ig ?_
        refine e_lts ?_
        rw [nx_s]
        exact f1
theorem cr_hL2 (W : WOK T kd tl n c tn) {S G : Int32} (hp : p < c) (K : SS → Res) : ∀ (k F : Nat) (s : SS), k < F → k ≤ 12 → BST T kd tl n c tn x p 9 12 s → VLH T n c tn S G ((p + 12) % c) k s → ∃ t, lp_X12_held_80 G S K F (iI ((k : Int) - 1)) s = K t ∧ RZ s t ∧ BST T kd tl n c tn x p 9 12 t ∧ VLH T n c tn S G ((p + 12) % c) 0 t := by
  intro k
  induction k with
  | zero =>
    intro F s hF hk hs hV
    cases F with
    | zero => omega
    | succ F =>
      refine ⟨s, ?_, RZ.rf s, hs, hV⟩
      rw [lp_X12_held_80]
      exact e_if_t (by decide) rfl
  | succ k ih =>
    intro F s hF hk hs hV
    cases F with
    | zero => omega
    | succ F =>
      have on := rw_on W hs.1.1 hs.1.2.2.1 hp (d := k) (by omega)
      obtain ⟨u, g1, g2, g3, g4⟩ := cr_hL1 (x := x) (S := S) (G := G) W hp (d := k) (i := 12 - k - 1) (by omega) (fun s10 => lp_X12_held_80 G S K F (iI (k : Int) + (-1)) s10) 4681 FU 0 s (by omega) (fu_lt (by omega)) hs hV (by intro r hr; omega)
      obtain ⟨t, f1, f2, f3⟩ := ih F u (by omega) (by omega) g3 g4
      refine ⟨t, ?_, g2.tr f2, f3⟩
      rw [lp_X12_held_80, show ((k + 1 : Nat) : Int) - 1 = (k : Int) by omega]
      refine e_if_f (by simp (disch := omega) only [Int.toNat_natCast, iI_lt, iI_le, iI_eq, iI_add, iI_sub, iI_mul, iI_neg, iI_clamp, inb_ii, z_0]; omega) ?_
      refine e_bdp on ?_
      refine e_jn ?_
      refine Eq.trans g1 ?_
      show lp_X12_held_80 G S K F (iI (k : Int) + (-1)) u = _
      rw [show iI (k : Int) + (-1) = iI ((k : Int) - 1) by rw [z_m1, iI_add]; rfl]
      exact f1
theorem cr_h0 {a3 v7 : Int32} (k : SS → Res) (s : SS) : lp_X12_held_50 a3 v7 k FU 0 s = k (upr s 91 (fun j => if 4681 * 12 ≤ j ∧ j < 4681 * 12 + 4681 then 0 else s 91 j)) := by
  have lp : ∀ m F i : Nat, ∀ R : Nat → Int32, i + m = 4681 → m < F → lp_X12_held_50 a3 v7 k F (iI i) (upr s 91 R) = k (upr s 91 (fun j => if 4681 * 12 + i ≤ j ∧ j < 4681 * 12 + 4681 then 0 else R j)) := by
    intro m
    induction m with
    | zero =>
      intro F i R hi2 hF
      cases F with
      | zero => omega
      | succ F =>
        rw [lp_X12_held_50]
        refine e_if_t (by simp (disch := omega) only [Int.toNat_natCast, iI_lt, iI_le, iI_eq, iI_add, iI_sub, iI_mul, iI_neg, iI_clamp, inb_ii, z_4681]; omega) ?_
        congr 2
        funext j
        rw [if_neg (by omega)]
    | succ m ih =>
      intro F i R hi2 hF
      cases F with
      | zero => omega
      | succ F =>
        rw [lp_X12_held_50]
        refine e_if_f (by simp (disch := omega) only [Int.toNat_natCast, iI_lt, iI_le, iI_eq, iI_add, iI_sub, iI_mul, iI_neg, iI_clamp, inb_ii, z_4681]; omega) ?_
        have ea : (56172 : Int32) + iI (i : Int) = iI ((4681 * 12 + i : Nat) : Int) := by
          rw [show (56172 : Int32) = iI 56172 from rfl, iI_add]
          congr 1
        rw [ea]
        refine e_gd (by simp (disch := omega) only [Int.toNat_natCast, iI_lt, iI_le, iI_eq, iI_add, iI_sub, iI_mul, iI_neg, iI_clamp, inb_ii]; omega) ?_
        refine e_up ?_
        rw [nx_s, ih F (i + 1) _ (by omega) (by omega)]
        congr 2
        funext j
        rw [iI_clamp (by omega), Int.toNat_natCast]
        by_cases q : j = 4681 * 12 + i
        · subst q; rw [upd_eq, if_neg (by omega), if_pos (by omega)]
        · rw [upd_ne q]
          by_cases q2 : 4681 * 12 + (i + 1) ≤ j ∧ j < 4681 * 12 + 4681
          · rw [if_pos q2, if_pos (by omega)]
          · rw [if_neg q2, if_neg (by omega)]
  have := lp 4681 FU 0 (s 91) (by omega) (fu_lt (by omega))
  rw [upr_self] at this
  exact this
theorem cr_held (W : WOK T kd tl n c tn) (hx : x < szR n) (hv : VR T x) (hp : p < c) (a1 a2 a3 : Int32) {s : SS} (h : RW_ T kd tl n c tn s) (h4 : s 56 4 = iI x) (h6 : s 56 6 = iI p) : ∃ t, f_X12_held a1 a2 a3 s = some (ansHeld T n c tn x p a1 a2 a3, t) ∧ RZ s t ∧ RW_ T kd tl n c tn t := by
  have hT := W.1.1
  have f1 := isLawR_f hT a1 (s := s) h.1.1.1
  have f2 := isLawR_f hT a2 (s := s) h.1.1.1
  have f3 : f_X12_lies (a3.toInt64) 0 15 s = some (if 0 ≤ a3.toInt ∧ a3.toInt ≤ 15 then 1 else 0) := by rw [lies_f, i64_toInt]; rfl
  unfold f_X12_held ansHeld
  by_cases q1 : 0 ≤ a1.toInt ∧ a1.toInt ≤ (T.1 : Int) - 1
  · rw [if_pos q1] at f1
    by_cases q2 : 0 ≤ a2.toInt ∧ a2.toInt ≤ (T.1 : Int) - 1
    · rw [if_pos q2] at f2
      by_cases q3 : 0 ≤ a3.toInt ∧ a3.toInt ≤ 15
      · rw [if_pos q3] at f3
        rw [if_pos ⟨q1, q2, q3⟩]
        have hsz := W.sz hx
        obtain ⟨u, g1, g2, g3, g4⟩ := cr_reaches (N := 12) (fr := 9) W hx hv hp (Or.inl rfl) (by omega) h h4 h6
        have hb : BST T kd tl n c tn x p 9 12 (upr u 91 (fun j => if 4681 * 12 ≤ j ∧ j < 4681 * 12 + 4681 then 0 else u 91 j)) := BST.of (s := u) ⟨g3, g4⟩ (g3.1.ur (by omega)) (upr_ne (by omega)) (by rw [upr_ne (by omega)]) (by rw [upr_ne (by omega)])
        obtain ⟨t, k1, k2, k3, k4⟩ := cr_hL2 (x := x) (S := (1 <<< (a1 &&& 31)) ||| (1 <<< (a2 &&& 31))) (G := a3) W hp (fun (s12 : SS) => gd (inb (s12 56 4) 60853) (some (s12 91 (Int32.toNatClampNeg (s12 56 4)), s12))) 12 FU (upr u 91 (fun j => if 4681 * 12 ≤ j ∧ j < 4681 * 12 + 4681 then 0 else u 91 j)) (fu_lt (by omega)) (by omega) hb (by
          intro d y h1 h2 h3 _
          obtain rfl : d = 12 := by omega
          rw [upr_eq, if_pos (by omega), Nat.sub_self]
          rfl)
        refine ⟨t, ?_, (g2.tr (RZ.ur (by omega))).tr k2, k3.1.1⟩
        refine e_bdp f1 ?_
        refine e_if_f (by decide) ?_
        refine e_bdp f2 ?_
        refine e_if_f (by decide) ?_
        refine e_bdp f3 ?_
        refine e_if_f (by decide) ?_
        refine e_lt ?_
        refine e_bd g1 ?_
        refine e_jn ?_
        refine (cr_h0 _ u).trans ?_
        refine e_jn ?_
        refine Eq.trans k1 ?_
        have h0 := k4 0 x (by omega) (by omega) hsz.2 (by rw [Nat.mul_zero, Nat.zero_add]; exact k3.2.1)
        rw [Nat.mul_zero, Nat.zero_add, Nat.sub_zero] at h0
        rw [k3.1.2.1]
        refine e_gd (by simp (disch := omega) only [Int.toNat_natCast, iI_lt, iI_le, iI_eq, iI_add, iI_sub, iI_mul, iI_neg, iI_clamp, inb_ii]; omega) ?_
        rw [iI_clamp (by omega), Int.toNat_natCast, h0]
      · rw [if_neg q3] at f3
        rw [if_neg (fun w => q3 w.2.2)]
        refine ⟨s, ?_, RZ.rf s, h⟩
        refine e_bdp f1 ?_
        refine e_if_f (by decide) ?_
        refine e_bdp f2 ?_
        refine e_if_f (by decide) ?_
        refine e_bdp f3 ?_
        exact e_if_t rfl rfl
    · rw [if_neg q2] at f2
      rw [if_neg (fun w => q2 w.2.1)]
      refine ⟨s, ?_, RZ.rf s, h⟩
      refine e_bdp f1 ?_
      refine e_if_f (by decide) ?_
      refine e_bdp f2 ?_
      exact e_if_t rfl rfl
  · rw [if_neg q1] at f1
    rw [if_neg (fun w => q1 w.1)]
    refine ⟨s, ?_, RZ.rf s, h⟩
    refine e_bdp f1 ?_
    exact e_if_t rfl rfl
