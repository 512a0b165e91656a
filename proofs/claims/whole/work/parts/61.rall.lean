/-! all of the reference -/
variable {T : TW} {kd tl tn : Nat → Nat} {n c x p : Nat} {s t u : SS}
def VLA (T : TW) (kd tl : Nat → Nat) (n c : Nat) (tn : Nat → Nat) (e N : Nat) (d0 : Nat) (s : SS) : Prop := ∀ d y q, d0 ≤ d → d ≤ N → y < 4681 → q < 4 → s 90 (4681 * d + y) = 1 → s 92 (4 * (4681 * d + y) + q) = ytL T kd tl n c tn 15 e (N - d) y q
theorem VLA.q {e N d0 : Nat} (h : VLA T kd tl n c tn e N d0 s) (g : RQ s t) : VLA T kd tl n c tn e N d0 t := by
  unfold VLA
  rw [g.hi (k := 90) (by omega), g.hi (k := 92) (by omega)]
  exact h
theorem VLA.le {e N d0 d1 : Nat} (h : VLA T kd tl n c tn e N d0 s) (g : d0 ≤ d1) : VLA T kd tl n c tn e N d1 s := fun d y q a b e1 f => h d y q (by omega) b e1 f
theorem lay_4 (a q : Nat) : (4 : Int32) * iI (a : Int) + iI (q : Int) = iI ((4 * a + q : Nat) : Int) := by
  rw [z_4, iI_mul, iI_add]
  congr 1
theorem cr_aby (W : WOK T kd tl n c tn) {fr N : Nat} (hN : N ≤ 8) (h : BST T kd tl n c tn x p fr N s) {e m d i y l : Nat} (hi : d + (i + 1) = N) (hy : y < szR n) (hl : l ≤ 8) (hm : m < 4) (hr : s 90 (4681 * (d + 1) + bh n y l) = 1) (hV : VLA T kd tl n c tn e N (d + 1) s) : ∃ t, f_X12_allBy (iI d) (iI y) (iI l) (iI m) s = some (totL T kd tl n c tn 15 e i (bh n y l) m, t) ∧ RQ s t ∧ RW_ T kd tl n c tn t := by
  have hb := bh_lt W.2.2.2 hy hl
  have hsz := W.sz hb
  have hok := h.ok (d := d + 1) (by omega) hsz.2 hr
  obtain ⟨t, e1, e2, e3⟩ := rw_worth W h.1.1 hb hok.2 hm
  have hv := hV (d + 1) (bh n y l) m (Nat.le_refl _) (by omega) hsz.2 hm hr
  rw [show N - (d + 1) = i by omega] at hv
  refine ⟨t, ?_, e2, e3⟩
  unfold f_X12_allBy
  refine e_bdp (rw_bh W h.1.1 hy hl) ?_
  refine e_bd e1 ?_
  refine e_bdp (rw_bh W e3 hy hl) ?_
  rw [lay_i, lay_4]
  refine e_gd (by simp (disch := omega) only [Int.toNat_natCast, iI_lt, iI_le, iI_eq, iI_add, iI_sub, iI_mul, iI_neg, iI_clamp, inb_ii]; omega) ?_
  rw [iI_clamp (by omega), Int.toNat_natCast, e2.hi (by omega), hv, tot_yt]
theorem cr_aonL (W : WOK T kd tl n c tn) {fr N : Nat} (hN : N ≤ 8) {e m d i y : Nat} (hi : d + (i + 1) = N) (hy : y < szR n) (hv : VR T y) (hm : m < 4) : ∀ (k F l : Nat) (s : SS), l + k = T.1 → k < F → BST T kd tl n c tn x p fr N s → VLA T kd tl n c tn e N (d + 1) s → (s 90 (4681 * (d + 1) + y) = 1 ∧ ∀ l, l < T.1 → bt (may T n y m) l = true → s 90 (4681 * (d + 1) + bh n y l) = 1) → ∃ t, lp_X12_allOn_13 (iI d) (iI y) (iI m) F (iI (amx (fun l => totL T kd tl n c tn 15 e i (bh n y l) m) (may T n y m) l).1) (iI l) s = some (iI (amx (fun l => totL T kd tl n c tn 15 e i (bh n y l) m) (may T n y m) 8).1, t) ∧ RQ s t ∧ RW_ T kd tl n c tn t := by
  have h8 := W.1.1
  intro k
  induction k with
  | zero =>
    intro F l s hl hF hs hV hr
    cases F with
    | zero => omega
    | succ F =>
      obtain rfl : l = T.1 := by omega
      refine ⟨s, ?_, RQ.rf s, hs.1.1⟩
      rw [lp_X12_allOn_13, amx_T h8 _ 8 h8 (Nat.le_refl 8)]
      exact e_if_t (by rw [hs.1.1.1.1.1]; simp (disch := omega) only [Int.toNat_natCast, iI_lt, iI_le, iI_eq, iI_add, iI_sub, iI_mul, iI_neg, iI_clamp, inb_ii]; omega) rfl
  | succ k ih =>
    intro F l s hl hF hs hV hr
    cases F with
    | zero => omega
    | succ F =>
      obtain ⟨s1, e1, e2, e3⟩ := rw_may W hs.1.1 hy hv hm
      have zh := has_f (v := may T n y m) (l := l) s1 (by omega)
      have hs1 := hs.q e2 e3
      have hr1 : s1 90 (4681 * (d + 1) + y) = 1 ∧ ∀ l, l < T.1 → bt (may T n y m) l = true → s1 90 (4681 * (d + 1) + bh n y l) = 1 := by rw [e2.hi (by omega)]; exact hr
      have ea : amx (fun l => totL T kd tl n c tn 15 e i (bh n y l) m) (may T n y m) (l + 1) = if bt (may T n y m) l = true ∧ (amx (fun l => totL T kd tl n c tn 15 e i (bh n y l) m) (may T n y m) l).2 < totL T kd tl n c tn 15 e i (bh n y l) m then (l, totL T kd tl n c tn 15 e i (bh n y l) m) else amx (fun l => totL T kd tl n c tn 15 e i (bh n y l) m) (may T n y m) l := rfl
      have av := amx_v (fun l => totL T kd tl n c tn 15 e i (bh n y l) m) (may T n y m) l
      have ab := amx_b (fun l => totL T kd tl n c tn 15 e i (bh n y l) m) (may T n y m) l
      have al := amx_le (fun l => totL T kd tl n c tn 15 e i (bh n y l) m) (may T n y m) l (by omega)
      generalize amx (fun l => totL T kd tl n c tn 15 e i (bh n y l) m) (may T n y m) l = r at ea av ab al ⊢
      by_cases q : bt (may T n y m) l = true
      · rw [if_pos q] at zh
        obtain ⟨s2, g1, g2, g3⟩ := cr_aby (l := l) W hN hs1 hi hy (by omega) hm (hr1.2 l (by omega) q) (hV.q e2)
        have hs2 := hs1.q g2 g3
        have hr2 : s2 90 (4681 * (d + 1) + y) = 1 ∧ ∀ l, l < T.1 → bt (may T n y m) l = true → s2 90 (4681 * (d + 1) + bh n y l) = 1 := by rw [g2.hi (by omega)]; exact hr1
        have hrr : s2 90 (4681 * (d + 1) + bh n y r.1) = 1 := by
          rcases ab with a | a
          · rw [a, bh_8]; exact hr2.1
          · exact hr2.2 _ (by omega) a.2
        obtain ⟨s3, k1, k2, k3⟩ := cr_aby (l := r.1) W hN hs2 hi hy al hm hrr ((hV.q e2).q g2)
        have hs3 := hs2.q k2 k3
        obtain ⟨t, f1, f2, f3⟩ := ih F (l + 1) s3 (by omega) (by omega) hs3 (((hV.q e2).q g2).q k2) (by rw [k2.hi (by omega)]; exact hr2)
        refine ⟨t, ?_, ((e2.tr g2).tr k2).tr f2, f3⟩
        rw [lp_X12_allOn_13]
        refine e_if_f (by rw [hs.1.1.1.1.1]; simp (disch := omega) only [Int.toNat_natCast, iI_lt, iI_le, iI_eq, iI_add, iI_sub, iI_mul, iI_neg, iI_clamp, inb_ii]; omega) ?_
        refine e_bd e1 ?_
        refine e_bdp zh ?_
        refine e_jn ?_
        refine e_if_f (by decide) ?_
        refine e_bd g1 ?_
        refine e_bd k1 ?_
        by_cases q2 : r.2 < totL T kd tl n c tn 15 e i (bh n y l) m
        · rw [if_pos ⟨q, q2⟩] at ea
          rw [ea] at f1
          refine e_if_f (Int32.not_le.mpr (by rw [← av]; exact q2)) ?_
          rw [nx_s]
          exact f1
        · rw [if_neg (fun w => q2 w.2)] at ea
          rw [ea] at f1
          refine e_if_t (Int32.not_lt.mp (by rw [← av]; exact q2)) ?_
          rw [nx_s]
          exact f1
      · rw [if_neg q] at zh
        rw [if_neg (fun w => q w.1)] at ea
        obtain ⟨t, f1, f2, f3⟩ := ih F (l + 1) s1 (by omega) (by omega) hs1 (hV.q e2) hr1
        rw [ea] at f1
        refine ⟨t, ?_, e2.tr f2, f3⟩
        rw [lp_X12_allOn_13]
        refine e_if_f (by rw [hs.1.1.1.1.1]; simp (disch := omega) only [Int.toNat_natCast, iI_lt, iI_le, iI_eq, iI_add, iI_sub, iI_mul, iI_neg, iI_clamp, inb_ii]; omega) ?_
        refine e_bd e1 ?_
        refine e_bdp zh ?_
        refine e_jn ?_
        refine e_if_t rfl ?_
        rw [nx_s]
        exact f1
theorem cr_aon (W : WOK T kd tl n c tn) (hp : p < c) {N : Nat} (hN : N ≤ 8) {d i y : Nat} (hi : d + (i + 1) = N) (hy : y < 4681) (hs : BST T kd tl n c tn x p 9 N s) (hV : VLA T kd tl n c tn ((p + N) % c) N (d + 1) s) (hr : s 90 (4681 * d + y) = 1) : ∃ t, f_X12_allOn (iI d) (iI y) s = some (iI (pkL T kd tl n c tn 15 ((p + N) % c) (i + 1) y), t) ∧ RQ s t ∧ RW_ T kd tl n c tn t := by
  have hok := hs.ok (by omega) hy hr
  have hpk := pk_day (p := p) (y := y) W lfr_9 (by omega) hi
  have on := rw_on W hs.1.1 hs.1.2.2.1 hp (d := d) (by omega)
  have hc := hs.2.2 d (by omega) y hy hr
  have hmk := W.tt (W.pl (p + d))
  unfold CLd at hc
  rw [if_pos (Or.inl rfl)] at hpk hc
  obtain ⟨t, e1, e2, e3⟩ := cr_aonL (x := x) (p := p) (fr := 9) (e := (p + N) % c) W hN hi hok.1 hok.2 hmk T.1 FU 0 s (by omega) (fu_lt (by have := W.1.1; omega)) hs hV hc
  refine ⟨t, ?_, e2, e3⟩
  unfold f_X12_allOn
  refine e_bdp on ?_
  rw [hpk]
  exact e1
theorem cr_aL0 (W : WOK T kd tl n c tn) {N : Nat} (hN : N ≤ 8) {d i y : Nat} (hi : d + (i + 1) = N) {e : Nat} {a2 : Int32} (hy : y < 4681) (hyn : y < szR n) {l : Nat} (hl : l ≤ 8) (K : SS → Res) : ∀ (k F q : Nat) (s : SS), q + k = 4 → k < F → BST T kd tl n c tn x p 9 N s → VLA T kd tl n c tn e N (d + 1) s → s 90 (4681 * (d + 1) + bh n y l) = 1 → (∀ r, r < q → s 92 (4 * (4681 * d + y) + r) = totL T kd tl n c tn 15 e i (bh n y l) r) → ∃ t, lp_X12_all_124 a2 (iI d) (iI y) K (iI l) F (iI q) s = K t ∧ RZ s t ∧ BST T kd tl n c tn x p 9 N t ∧ VLA T kd tl n c tn e N (d + 1) t ∧ t 90 = s 90 ∧ (∀ r, r < 4 → t 92 (4 * (4681 * d + y) + r) = totL T kd tl n c tn 15 e i (bh n y l) r) ∧ ∀ k, (k < 4 * (4681 * d + y) ∨ 4 * (4681 * d + y) + 4 ≤ k) → t 92 k = s 92 k := by
  intro k
  induction k with
  | zero =>
    intro F q s hq hF hs hV hr h92
    cases F with
    | zero => omega
    | succ F =>
      obtain rfl : q = 4 := by omega
      refine ⟨s, ?_, RZ.rf s, hs, hV, rfl, h92, fun _ _ => rfl⟩
      rw [lp_X12_all_124]
      exact e_if_t (by decide) rfl
  | succ k ih =>
    intro F q s hq hF hs hV hr h92
    cases F with
    | zero => omega
    | succ F =>
      obtain ⟨u, g1, g2, g3⟩ := cr_aby (l := l) (m := q) W hN hs hi hyn hl (by omega) hr hV
      have q90 : u 90 = s 90 := g2.hi (by omega)
      have q92 : u 92 = s 92 := g2.hi (by omega)
      obtain ⟨t, f1, f2, f3, f4, f5, f6, f7⟩ := ih F (q + 1) (up u 92 (4 * (4681 * d + y) + q) (totL T kd tl n c tn 15 e i (bh n y l) q)) (by omega) (by omega) ((hs.q g2 g3).w (by omega)) (by
        intro d2 y2 q2 h1 h2 h3 h4 h5
        rw [up_cell (by omega), q90] at h5
        rw [up_slot (by omega), q92]
        exact hV d2 y2 q2 h1 h2 h3 h4 h5) (by rw [up_cell (by omega), q90]; exact hr) (by
        intro r hr2
        by_cases w : r = q
        · subst w; exact up_at _ _ _ _
        · rw [up_slot (by omega), q92]; exact h92 r (by omega))
      refine ⟨t, ?_, g2.z.tr ((RZ.up1 (by omega)).tr f2), f3, f4, by rw [f5, up_cell (by omega), q90], f6, ?_⟩
      · rw [lp_X12_all_124]
        refine e_if_f (by simp (disch := omega) only [Int.toNat_natCast, iI_lt, iI_le, iI_eq, iI_add, iI_sub, iI_mul, iI_neg, iI_clamp, inb_ii, z_4]; omega) ?_
        refine e_bd g1 ?_
        rw [lay_0, lay_4]
        refine e_gd (by simp (disch := omega) only [Int.toNat_natCast, iI_lt, iI_le, iI_eq, iI_add, iI_sub, iI_mul, iI_neg, iI_clamp, inb_ii]; omega) ?_
        refine e_lts ?_
        rw [iI_clamp (by omega), Int.toNat_natCast, nx_s]
        exact f1
      · intro k2 hk2
        rw [f7 k2 hk2, up_slot (by omega), q92]
theorem cr_aL1 (W : WOK T kd tl n c tn) (hp : p < c) {N : Nat} (hN : N ≤ 8) {d i : Nat} {a2 : Int32} (hi : d + (i + 1) = N) (K : SS → Res) : ∀ (k F y : Nat) (s : SS), y + k = 4681 → k < F → BST T kd tl n c tn x p 9 N s → VLA T kd tl n c tn ((p + N) % c) N (d + 1) s → (∀ r q, r < y → q < 4 → s 90 (4681 * d + r) = 1 → s 92 (4 * (4681 * d + r) + q) = ytL T kd tl n c tn 15 ((p + N) % c) (N - d) r q) → ∃ t, lp_X12_all_85 a2 (iI d) K F (iI y) s = K t ∧ RZ s t ∧ BST T kd tl n c tn x p 9 N t ∧ VLA T kd tl n c tn ((p + N) % c) N d t := by
  intro k
  induction k with
  | zero =>
    intro F y s hl hF hs hV hr
    cases F with
    | zero => omega
    | succ F =>
      obtain rfl : y = 4681 := by omega
      refine ⟨s, ?_, RZ.rf s, hs, ?_⟩
      · rw [lp_X12_all_85]
        exact e_if_t (by decide) rfl
      · intro d2 y2 q2 h1 h2 h3 h4 h5
        by_cases w : d2 = d
        · subst w; exact hr y2 q2 h3 h4 h5
        · exact hV d2 y2 q2 (by omega) h2 h3 h4 h5
  | succ k ih =>
    intro F y s hl hF hs hV hr
    cases F with
    | zero => omega
    | succ F =>
      have cf : ¬ (4681 : Int32) ≤ iI (y : Int) := by simp (disch := omega) only [Int.toNat_natCast, iI_lt, iI_le, iI_eq, iI_add, iI_sub, iI_mul, iI_neg, iI_clamp, inb_ii, z_4681]; omega
      have ig : inb (iI ((4681 * d + y : Nat) : Int)) 60853 := by simp (disch := omega) only [Int.toNat_natCast, iI_lt, iI_le, iI_eq, iI_add, iI_sub, iI_mul, iI_neg, iI_clamp, inb_ii]; omega
      have icl : Int32.toNatClampNeg (iI ((4681 * d + y : Nat) : Int)) = 4681 * d + y := by rw [iI_clamp (by omega), Int.toNat_natCast]
      by_cases q : s 90 (4681 * d + y) = 0
      · obtain ⟨t, f1, f2, f3⟩ := ih F (y + 1) s (by omega) (by omega) hs hV (by
          intro r q2 hr2 hq2 h1
          by_cases w : r = y
          · subst w; rw [q] at h1; exact absurd h1 (by decide)
          · exact hr r q2 (by omega) hq2 h1)
        refine ⟨t, ?_, f2, f3⟩
        rw [lp_X12_all_85]
        refine e_if_f cf ?_
        rw [lay_0]
        refine e_gd ig ?_
        refine e_jn ?_
        rw [icl]
        refine e_if_t q ?_
        rw [nx_s]
        exact f1
      · have hz := (hs.1.2.2.2 d y (by omega) (by omega)).resolve_left q
        obtain ⟨u, g1, g2, g3⟩ := cr_aon W hp hN hi (by omega) hs hV hz.1
        have hsu := hs.q g2 g3
        have hnx := hs.nx W lfr_9 (by omega) hi (by omega) hz.1
        have hpl := pkL_le W 15 ((p + N) % c) (i + 1) hz.2.1
        have q90 : u 90 = s 90 := g2.hi (by omega)
        have q92 : u 92 = s 92 := g2.hi (by omega)
        obtain ⟨v, k1, k2, k3, k4, k5, k6, k7⟩ := cr_aL0 (x := x) (p := p) (a2 := a2) W hN hi (show y < 4681 by omega) hz.2.1 hpl (fun s34 => lp_X12_all_85 a2 (iI d) K F (iI y + 1) s34) 4 FU 0 u rfl (fu_lt (by omega)) hsu (hV.q g2) (by rw [q90]; exact hnx) (by intro r hr2; omega)
        obtain ⟨t, f1, f2, f3⟩ := ih F (y + 1) v (by omega) (by omega) k3 k4 (by
          intro r q2 hr2 hq2 h1
          rw [k5, q90] at h1
          by_cases w : r = y
          · subst w
            rw [k6 q2 hq2, show N - d = i + 1 by omega]
            rfl
          · rw [k7 _ (by omega), q92]
            exact hr r q2 (by omega) hq2 h1)
        refine ⟨t, ?_, (g2.z.tr k2).tr f2, f3⟩
        rw [lp_X12_all_85]
        refine e_if_f cf ?_
        rw [lay_0]
        refine e_gd ig ?_
        refine e_jn ?_
        rw [icl]
        refine e_if_f q ?_
        refine e_bd g1 ?_
        refine Eq.trans k1 ?_
        rw [nx_s]
        exact f1
theorem cr_aL2 (W : WOK T kd tl n c tn) (hp : p < c) {N : Nat} (hN : N ≤ 8) {a2 : Int32} (K : SS → Res) : ∀ (k F : Nat) (s : SS), k < F → k ≤ N → BST T kd tl n c tn x p 9 N s → VLA T kd tl n c tn ((p + N) % c) N k s → ∃ t, lp_X12_all_78 a2 K F (iI ((k : Int) - 1)) s = K t ∧ RZ s t ∧ BST T kd tl n c tn x p 9 N t ∧ VLA T kd tl n c tn ((p + N) % c) N 0 t := by
  intro k
  induction k with
  | zero =>
    intro F s hF hk hs hV
    cases F with
    | zero => omega
    | succ F =>
      refine ⟨s, ?_, RZ.rf s, hs, hV⟩
      rw [lp_X12_all_78]
      exact e_if_t (by decide) rfl
  | succ k ih =>
    intro F s hF hk hs hV
    cases F with
    | zero => omega
    | succ F =>
      obtain ⟨u, g1, g2, g3, g4⟩ := cr_aL1 (x := x) (a2 := a2) W hp hN (d := k) (i := N - k - 1) (by omega) (fun s28 => lp_X12_all_78 a2 K F (iI (k : Int) + (-1)) s28) 4681 FU 0 s (by omega) (fu_lt (by omega)) hs hV (by intro r q hr; omega)
      obtain ⟨t, f1, f2, f3⟩ := ih F u (by omega) (by omega) g3 g4
      refine ⟨t, ?_, g2.tr f2, f3⟩
      rw [lp_X12_all_78, show ((k + 1 : Nat) : Int) - 1 = (k : Int) by omega]
      refine e_if_f (by simp (disch := omega) only [Int.toNat_natCast, iI_lt, iI_le, iI_eq, iI_add, iI_sub, iI_mul, iI_neg, iI_clamp, inb_ii, z_0]; omega) ?_
      refine e_jn ?_
      refine Eq.trans g1 ?_
      show lp_X12_all_78 a2 K F (iI (k : Int) + (-1)) u = _
      rw [show iI (k : Int) + (-1) = iI ((k : Int) - 1) by rw [z_m1, iI_add]; rfl]
      exact f1
theorem cr_a0 {a2 : Int32} {N : Nat} (hN : N ≤ 8) (k : SS → Res) (s : SS) : lp_X12_all_48 (iI N) a2 k FU 0 s = k (upr s 92 (fun j => if 18724 * N ≤ j ∧ j < 18724 * N + 18724 then 0 else s 92 j)) := by
  have lp : ∀ m F i : Nat, ∀ R : Nat → Int32, i + m = 18724 → m < F → lp_X12_all_48 (iI N) a2 k F (iI i) (upr s 92 R) = k (upr s 92 (fun j => if 18724 * N + i ≤ j ∧ j < 18724 * N + 18724 then 0 else R j)) := by
    intro m
    induction m with
    | zero =>
      intro F i R hi2 hF
      cases F with
      | zero => omega
      | succ F =>
        rw [lp_X12_all_48]
        refine e_if_t (by simp (disch := omega) only [Int.toNat_natCast, iI_lt, iI_le, iI_eq, iI_add, iI_sub, iI_mul, iI_neg, iI_clamp, inb_ii, z_18724]; omega) ?_
        congr 2
        funext j
        rw [if_neg (by omega)]
    | succ m ih =>
      intro F i R hi2 hF
      cases F with
      | zero => omega
      | succ F =>
        rw [lp_X12_all_48]
        refine e_if_f (by simp (disch := omega) only [Int.toNat_natCast, iI_lt, iI_le, iI_eq, iI_add, iI_sub, iI_mul, iI_neg, iI_clamp, inb_ii, z_18724]; omega) ?_
        rw [show (18724 : Int32) * iI (N : Int) + iI (i : Int) = iI ((18724 * N + i : Nat) : Int) by rw [z_18724, iI_mul, iI_add]; congr 1]
        refine e_gd (by simp (disch := omega) only [Int.toNat_natCast, iI_lt, iI_le, iI_eq, iI_add, iI_sub, iI_mul, iI_neg, iI_clamp, inb_ii]; omega) ?_
        refine e_up ?_
        rw [nx_s, ih F (i + 1) _ (by omega) (by omega)]
        congr 2
        funext j
        rw [iI_clamp (by omega), Int.toNat_natCast]
        by_cases q : j = 18724 * N + i
        · subst q; rw [upd_eq, if_neg (by omega), if_pos (by omega)]
        · rw [upd_ne q]
          by_cases q2 : 18724 * N + (i + 1) ≤ j ∧ j < 18724 * N + 18724
          · rw [if_pos q2, if_pos (by omega)]
          · rw [if_neg q2, if_neg (by omega)]
  have := lp 18724 FU 0 (s 92) (by omega) (fu_lt (by omega))
  rw [upr_self] at this
  exact this
theorem cr_apL (W : WOK T kd tl n c tn) (hx : x < szR n) (hp : p < c) {N D : Nat} {a2 : Int32} (hN : N ≤ 8) (hD : D < N) (ha : a2 - 10 = iI D) : ∀ (k F d : Nat) (v : Int32) (s : SS), d + k = D + 1 → k < F → BST T kd tl n c tn x p 9 N s → VLA T kd tl n c tn ((p + N) % c) N 0 s → (k = 0 → v = iI (pkL T kd tl n c tn 15 ((p + N) % c) (N - D) (pthL T kd tl n c tn 15 ((p + N) % c) N x D))) → ∃ t, lp_X12_all_210 a2 F (iI (pthL T kd tl n c tn 15 ((p + N) % c) N x d)) v (iI d) s = some (iI (pkL T kd tl n c tn 15 ((p + N) % c) (N - D) (pthL T kd tl n c tn 15 ((p + N) % c) N x D)), t) ∧ RZ s t ∧ RW_ T kd tl n c tn t := by
  intro k
  induction k with
  | zero =>
    intro F d v s hd hF hs hV hv
    cases F with
    | zero => omega
    | succ F =>
      refine ⟨s, ?_, RZ.rf s, hs.1.1⟩
      rw [lp_X12_all_210, hv rfl, ha]
      exact e_if_t (by simp (disch := omega) only [Int.toNat_natCast, iI_lt, iI_le, iI_eq, iI_add, iI_sub, iI_mul, iI_neg, iI_clamp, inb_ii]; omega) rfl
  | succ k ih =>
    intro F d v s hd hF hs hV hv
    cases F with
    | zero => omega
    | succ F =>
      have hy := pth_lt W 15 ((p + N) % c) N hx d
      have hr := pth_r W lfr_9 (by omega) hx hs d (by omega)
      obtain ⟨u, g1, g2, g3⟩ := cr_aon W hp hN (i := N - d - 1) (by omega) (W.sz hy).2 hs (hV.le (by omega)) hr
      rw [show N - d - 1 + 1 = N - d by omega] at g1
      obtain ⟨t, f1, f2, f3⟩ := ih F (d + 1) (iI (pkL T kd tl n c tn 15 ((p + N) % c) (N - d) (pthL T kd tl n c tn 15 ((p + N) % c) N x d))) u (by omega) (by omega) (hs.q g2 g3) (hV.q g2) (by
        intro hk
        obtain rfl : d = D := by omega
        rfl)
      refine ⟨t, ?_, g2.z.tr f2, f3⟩
      rw [lp_X12_all_210, ha]
      refine e_if_f (by simp (disch := omega) only [Int.toNat_natCast, iI_lt, iI_le, iI_eq, iI_add, iI_sub, iI_mul, iI_neg, iI_clamp, inb_ii]; omega) ?_
      refine e_bd g1 ?_
      refine e_bdp (rw_bh W g3 hy (pkL_le W 15 ((p + N) % c) (N - d) hy)) ?_
      rw [nx_s]
      exact f1
theorem cr_all (W : WOK T kd tl n c tn) (hx : x < szR n) (hv : VR T x) (hp : p < c) (a1 a2 : Int32) {s : SS} (h : RW_ T kd tl n c tn s) (h4 : s 56 4 = iI x) (h6 : s 56 6 = iI p) : ∃ t, f_X12_all a1 a2 s = some (ansAll T kd tl n c tn x p a1 a2, t) ∧ RZ s t ∧ RW_ T kd tl n c tn t := by
  have l1 : f_X12_lies (a1.toInt64) 1 8 s = some (if 1 ≤ a1.toInt ∧ a1.toInt ≤ 8 then 1 else 0) := by rw [lies_f, i64_toInt]; rfl
  have pf := isSort_f a2
  have l2 : f_X12_lies (a2.toInt64) 10 ((9 + a1).toInt64) s = some (if 10 ≤ a2.toInt ∧ a2.toInt ≤ (9 + a1).toInt then 1 else 0) := by rw [lies_f, i64_toInt, i64_toInt]; rfl
  unfold f_X12_all ansAll
  by_cases q1 : 1 ≤ a1.toInt ∧ a1.toInt ≤ 8
  · rw [if_pos q1] at l1
    have e9 : (9 + a1).toInt = 9 + a1.toInt := by rw [iI_of a1, show (9 : Int32) = iI 9 from rfl, iI_add, iI_toInt (by omega), iI_toInt (by omega)]
    by_cases q3 : (0 ≤ a2.toInt ∧ a2.toInt ≤ 3) ∨ (10 ≤ a2.toInt ∧ a2.toInt < 10 + a1.toInt)
    · rw [if_neg (show ¬ (¬ (1 ≤ a1.toInt ∧ a1.toInt ≤ 8) ∨ ¬ ((0 ≤ a2.toInt ∧ a2.toInt ≤ 3) ∨ (10 ≤ a2.toInt ∧ a2.toInt < 10 + a1.toInt))) by omega)]
      have eN := e_lit (a := a1) (k := (a1.toInt.toNat : Nat)) (by omega)
      generalize hNN : a1.toInt.toNat = N at eN ⊢
      obtain ⟨u, g1, g2, g3, g4⟩ := cr_reaches (fr := 9) (N := N) W hx hv hp (Or.inl rfl) (by omega) h h4 h6
      have hb : BST T kd tl n c tn x p 9 N (upr u 92 (fun j => if 18724 * N ≤ j ∧ j < 18724 * N + 18724 then 0 else u 92 j)) := BST.of (s := u) ⟨g3, g4⟩ (g3.1.ur (by omega)) (upr_ne (by omega)) (by rw [upr_ne (by omega)]) (by rw [upr_ne (by omega)])
      obtain ⟨v, f1, f2, f3, f4⟩ := cr_aL2 (x := x) (a2 := a2) W hp (N := N) (by omega) (fun s10 => bdp (f_X12_isSort a2 s10) (fun (v12 : Int32) => if (v12 : Int32) = 0 then lt (s10 56 4) (fun (v14 : Int32) => lp_X12_all_210 a2 FU v14 8 0 s10) else gd (inb ((4 * (s10 56 4)) + a2) 168516) (some (s10 92 (Int32.toNatClampNeg ((4 * (s10 56 4)) + a2)), s10)))) N FU (upr u 92 (fun j => if 18724 * N ≤ j ∧ j < 18724 * N + 18724 then 0 else u 92 j)) (fu_lt (by omega)) (Nat.le_refl N) hb (by
        intro d y q a1 a2 a3 a4 _
        obtain rfl : d = N := by omega
        rw [upr_eq, if_pos (by omega), Nat.sub_self]
        rfl)
      have z2 : RZ s v := (g2.tr (RZ.ur (by omega))).tr f2
      have hsz := W.sz hx
      have run : ∀ r, (bdp (f_X12_isSort a2 v) (fun (v12 : Int32) => if (v12 : Int32) = 0 then lt (v 56 4) (fun (v14 : Int32) => lp_X12_all_210 a2 FU v14 8 0 v) else gd (inb ((4 * (v 56 4)) + a2) 168516) (some (v 92 (Int32.toNatClampNeg ((4 * (v 56 4)) + a2)), v)))) = r → (bd (f_X12_reaches (iI N) 9 s) (fun (v5 : Int32) (s6 : SS) => jn (fun (s7 : SS) => lt (iI (N : Int) - 1) (fun (v9 : Int32) => jn (fun (s10 : SS) => bdp (f_X12_isSort a2 s10) (fun (v12 : Int32) => if (v12 : Int32) = 0 then lt (s10 56 4) (fun (v14 : Int32) => lp_X12_all_210 a2 FU v14 8 0 s10) else gd (inb ((4 * (s10 56 4)) + a2) 168516) (some (s10 92 (Int32.toNatClampNeg ((4 * (s10 56 4)) + a2)), s10)))) (fun (k11 : SS → Res) => lp_X12_all_78 a2 k11 FU v9 s7))) (fun (k8 : SS → Res) => lp_X12_all_48 (iI N) a2 k8 FU 0 s6))) = r := by
        intro r hr
        refine e_bd g1 ?_
        refine e_jn ?_
        refine (cr_a0 (by omega) _ u).trans ?_
        refine e_lt ?_
        refine e_jn ?_
        rw [show iI (N : Int) - 1 = iI ((N : Int) - 1) by rw [z_1, iI_sub]]
        exact f1.trans hr
      rw [eN] at l1 l2
      by_cases z : a2.toInt ≤ 3
      · refine ⟨v, ?_, z2, f3.1.1⟩
        obtain ⟨m, hm4, ea⟩ := per_nat (a := a2) (by omega)
        have em : a2.toInt.toNat = m := by rw [ea, iI_toInt (by omega)]; omega
        have hq : 0 ≤ a2.toInt ∧ a2.toInt ≤ 3 := by omega
        have p1 := pf s
        have p2 := pf v
        rw [if_pos hq] at p1 p2
        rw [if_pos z, em]
        rw [eN]
        refine e_bdp l1 ?_
        refine e_if_f (by decide) ?_
        refine e_bdp p1 ?_
        refine e_jn ?_
        refine e_if_f (by decide) ?_
        refine run _ ?_
        refine e_bdp p2 ?_
        refine e_if_f (by decide) ?_
        rw [f3.1.2.1, ea, lay_4]
        refine e_gd (by simp (disch := omega) only [Int.toNat_natCast, iI_lt, iI_le, iI_eq, iI_add, iI_sub, iI_mul, iI_neg, iI_clamp, inb_ii]; omega) ?_
        rw [iI_clamp (by omega), Int.toNat_natCast]
        have h0 := f4 0 x m (by omega) (by omega) hsz.2 hm4 (by rw [Nat.mul_zero, Nat.zero_add]; exact f3.2.1)
        rw [Nat.mul_zero, Nat.zero_add, Nat.sub_zero] at h0
        rw [h0]
        obtain ⟨i, rfl⟩ : ∃ i, N = i + 1 := ⟨N - 1, by omega⟩
        rfl
      · have hq : ¬ (0 ≤ a2.toInt ∧ a2.toInt ≤ 3) := by omega
        have p1 := pf s
        have p2 := pf v
        rw [if_neg hq] at p1 p2
        rw [if_neg z]
        have ed : a2 - 10 = iI (((a2.toInt - 10).toNat : Nat) : Int) := by
          rw [iI_of a2, z_10, iI_sub, iI_toInt (by have := a2.toInt_lt; have := a2.le_toInt; omega)]
          congr 1
          omega
        have hd : (a2.toInt - 10).toNat < N := by omega
        generalize (a2.toInt - 10).toNat = d at ed hd ⊢
        obtain ⟨w, k1, k2, k3⟩ := cr_apL W hx hp (N := N) (D := d) (a2 := a2) (by omega) hd ed (d + 1) FU 0 8 v (by omega) (fu_lt (by omega)) f3 f4 (by intro w; omega)
        refine ⟨w, ?_, z2.tr k2, k3⟩
        rw [eN]
        refine e_bdp l1 ?_
        refine e_if_f (by decide) ?_
        refine e_bdp p1 ?_
        refine e_jn ?_
        refine e_if_t rfl ?_
        refine e_bdp l2 ?_
        refine e_if_f (by rw [if_pos (by rw [← eN]; omega)]; decide) ?_
        refine run _ ?_
        refine e_bdp p2 ?_
        refine e_if_t rfl ?_
        refine e_lt ?_
        rw [f3.1.2.1]
        exact k1
    · rw [if_pos (show ¬ (1 ≤ a1.toInt ∧ a1.toInt ≤ 8) ∨ ¬ ((0 ≤ a2.toInt ∧ a2.toInt ≤ 3) ∨ (10 ≤ a2.toInt ∧ a2.toInt < 10 + a1.toInt)) by omega)]
      have p1 := pf s
      rw [if_neg (by omega)] at p1
      rw [if_neg (by omega)] at l2
      refine ⟨s, ?_, RZ.rf s, h⟩
      refine e_bdp l1 ?_
      refine e_if_f (by decide) ?_
      refine e_bdp p1 ?_
      refine e_jn ?_
      refine e_if_t rfl ?_
      refine e_bdp l2 ?_
      exact e_if_t rfl rfl
  · rw [if_neg q1] at l1
    rw [if_pos (show ¬ (1 ≤ a1.toInt ∧ a1.toInt ≤ 8) ∨ ¬ ((0 ≤ a2.toInt ∧ a2.toInt ≤ 3) ∨ (10 ≤ a2.toInt ∧ a2.toInt < 10 + a1.toInt)) by omega)]
    refine ⟨s, ?_, RZ.rf s, h⟩
    refine e_bdp l1 ?_
    exact e_if_t rfl rfl
