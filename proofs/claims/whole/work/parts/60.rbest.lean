/-! best of the reference -/
variable {T : TW} {kd tl tn : Nat → Nat} {n c x p : Nat} {s t u : SS}
theorem amx_b (f : Nat → Int32) (mb : Int32) : ∀ k, (amx f mb k).1 = 8 ∨ ((amx f mb k).1 < k ∧ bt mb (amx f mb k).1 = true) := by
  intro k
  induction k with
  | zero => exact Or.inl rfl
  | succ k ih =>
    unfold amx
    split
    · rename_i q
      exact Or.inr ⟨Nat.lt_succ_self k, q.1⟩
    · rcases ih with a | a
      · exact Or.inl a
      · exact Or.inr ⟨by omega, a.2⟩
theorem amx_T (hT : T.1 ≤ 8) {m y : Nat} (f : Nat → Int32) : ∀ k, T.1 ≤ k → k ≤ 8 → amx f (may T n y m) k = amx f (may T n y m) T.1 := by
  intro k
  induction k with
  | zero => intro h _; rw [show T.1 = 0 by omega]
  | succ k ih =>
    intro h h2
    by_cases q : T.1 ≤ k
    · rw [← ih q (by omega)]
      show (if bt (may T n y m) k = true ∧ _ then _ else amx f (may T n y m) k) = _
      rw [if_neg (fun w => by have := may_lt hT (by omega) w.1; omega)]
    · rw [show k + 1 = T.1 by omega]
def ytL (T : TW) (kd tl : Nat → Nat) (n c : Nat) (tn : Nat → Nat) (L : Int32) (e : Nat) : Nat → Nat → Nat → Int32
  | 0, _, _ => 0
  | j + 1, y, q => totL T kd tl n c tn L e j (bh n y (pkL T kd tl n c tn L e (j + 1) y)) q
theorem tot_yt (L : Int32) (e j y q : Nat) : totL T kd tl n c tn L e j y q = wth T n y q + ytL T kd tl n c tn L e j y q := by
  cases j with
  | zero => rfl
  | succ j => rfl
/-- the makers that look are those that the reference lets free -/
def LFR (L : Int32) (fr : Nat) : Prop := ∀ m, m < 4 → ((fr = 9 ∨ fr = m) ↔ bt L m = true)
theorem lfr_1 {m : Nat} (hm : m < 4) : LFR (sh1 m) m := by
  intro k hk
  rw [sh1_bt (by omega) (by omega)]
  constructor
  · intro h; rw [decide_eq_true]; omega
  · intro h; have := of_decide_eq_true h; omega
theorem lfr_9 : LFR 15 9 := by
  intro k hk
  have : ∀ k, k < 4 → bt 15 k = true := by decide +kernel
  exact ⟨fun _ => this k hk, fun _ => Or.inl rfl⟩
theorem pk_day (W : WOK T kd tl n c tn) {L : Int32} {fr N d i y : Nat} (hf : LFR L fr) (hN : N ≤ 12) (hi : d + (i + 1) = N) : pkL T kd tl n c tn L ((p + N) % c) (i + 1) y = if fr = 9 ∨ fr = tn ((p + d) % c) then (amx (fun l => totL T kd tl n c tn L ((p + N) % c) i (bh n y l) (tn ((p + d) % c))) (may T n y (tn ((p + d) % c))) 8).1 else cho T kd tl n y (tn ((p + d) % c)) := by
  have e := plE_p (p := p) (c := c) (N := N) (d := d) W.cc.1 (by omega) hN
  rw [show N - d = i + 1 by omega] at e
  show pkT T kd tl n c tn L ((p + N) % c) (totL T kd tl n c tn L ((p + N) % c) i) (i + 1) y = _
  unfold pkT
  rw [e]
  have := hf _ (W.tt (W.pl (p + d)))
  by_cases q : fr = 9 ∨ fr = tn ((p + d) % c)
  · rw [if_pos q, if_pos (this.mp q)]
  · rw [if_neg q, if_neg (mt this.mpr q)]
def BST (T : TW) (kd tl : Nat → Nat) (n c : Nat) (tn : Nat → Nat) (x p fr N : Nat) (s : SS) : Prop := RHS T kd tl n c tn x p N s ∧ RCL T kd tl n c tn x p fr N s
theorem BST.of {fr N : Nat} (h : BST T kd tl n c tn x p fr N s) (f : RW_ T kd tl n c tn t) (e : t 90 = s 90) (e4 : t 56 4 = s 56 4) (e6 : t 56 6 = s 56 6) : BST T kd tl n c tn x p fr N t := by
  refine ⟨⟨f, e4.trans h.1.2.1, e6.trans h.1.2.2.1, ?_⟩, ?_⟩
  · unfold RHA
    rw [e]
    exact h.1.2.2.2
  · have := h.2
    unfold RCL CLd at this ⊢
    rw [e]
    exact this
theorem BST.q {fr N : Nat} (h : BST T kd tl n c tn x p fr N s) (g : RQ s t) (f : RW_ T kd tl n c tn t) : BST T kd tl n c tn x p fr N t := h.of f (g.hi (by omega)) (g.sl (by omega)) (g.sl (by omega))
theorem BST.w {fr N : Nat} (h : BST T kd tl n c tn x p fr N s) {k j : Nat} {v : Int32} (hk : k = 91 ∨ k = 92) : BST T kd tl n c tn x p fr N (up s k j v) := h.of (h.1.1.up1 (by omega)) (up_cell (by omega)) (by rw [up_cell (by omega)]) (by rw [up_cell (by omega)])
theorem BST.ok {fr N : Nat} (h : BST T kd tl n c tn x p fr N s) {d y : Nat} (hd : d ≤ N) (hy : y < 4681) (hr : s 90 (4681 * d + y) = 1) : y < szR n ∧ VR T y := by
  rcases h.1.2.2.2 d y hd hy with a | a
  · rw [a] at hr; exact absurd hr (by decide)
  · exact a.2
theorem bh_8 (n y : Nat) : bh n y 8 = y := by unfold bh; rw [if_pos rfl]
/-- whom one comes to on the next day -/
theorem BST.nx (W : WOK T kd tl n c tn) {L : Int32} {fr N : Nat} (hf : LFR L fr) (hN : N ≤ 12) (h : BST T kd tl n c tn x p fr N s) {d i y : Nat} (hi : d + (i + 1) = N) (hy : y < 4681) (hr : s 90 (4681 * d + y) = 1) : s 90 (4681 * (d + 1) + bh n y (pkL T kd tl n c tn L ((p + N) % c) (i + 1) y)) = 1 := by
  have hc := h.2.2 d (by omega) y hy hr
  rw [pk_day W hf hN hi]
  unfold CLd at hc
  by_cases q : fr = 9 ∨ fr = tn ((p + d) % c)
  · rw [if_pos q] at hc ⊢
    rcases amx_b (fun l => totL T kd tl n c tn L ((p + N) % c) i (bh n y l) (tn ((p + d) % c))) (may T n y (tn ((p + d) % c))) 8 with a | a
    · rw [a, bh_8]; exact hc.1
    · exact hc.2 _ (may_lt W.1.1 (by omega) a.2) a.2
  · rw [if_neg q] at hc ⊢
    exact hc
def VLB (T : TW) (kd tl : Nat → Nat) (n c : Nat) (tn : Nat → Nat) (L : Int32) (e N m : Nat) (d0 : Nat) (s : SS) : Prop := ∀ d y, d0 ≤ d → d ≤ N → y < 4681 → s 90 (4681 * d + y) = 1 → s 91 (4681 * d + y) = ytL T kd tl n c tn L e (N - d) y m
theorem VLB.q {L : Int32} {e N m d0 : Nat} (h : VLB T kd tl n c tn L e N m d0 s) (g : RQ s t) : VLB T kd tl n c tn L e N m d0 t := by
  unfold VLB
  rw [g.hi (k := 90) (by omega), g.hi (k := 91) (by omega)]
  exact h
theorem cr_by (W : WOK T kd tl n c tn) {L : Int32} {fr N : Nat} (hN : N ≤ 12) (h : BST T kd tl n c tn x p fr N s) {e m d i y l : Nat} (hi : d + (i + 1) = N) (hy : y < szR n) (hl : l ≤ 8) (hm : m < 4) (hr : s 90 (4681 * (d + 1) + bh n y l) = 1) (hV : VLB T kd tl n c tn L e N m (d + 1) s) : ∃ t, f_X12_bestBy (iI d) (iI y) (iI l) (iI m) s = some (totL T kd tl n c tn L e i (bh n y l) m, t) ∧ RQ s t ∧ RW_ T kd tl n c tn t := by
  have hb := bh_lt W.2.2.2 hy hl
  have hsz := W.sz hb
  have hok := h.ok (d := d + 1) (by omega) hsz.2 hr
  obtain ⟨t, e1, e2, e3⟩ := rw_worth W h.1.1 hb hok.2 hm
  have hv := hV (d + 1) (bh n y l) (Nat.le_refl _) (by omega) hsz.2 hr
  rw [show N - (d + 1) = i by omega] at hv
  refine ⟨t, ?_, e2, e3⟩
  unfold f_X12_bestBy
  refine e_bdp (rw_bh W h.1.1 hy hl) ?_
  refine e_bd e1 ?_
  refine e_bdp (rw_bh W e3 hy hl) ?_
  rw [lay_i]
  refine e_gd (by simp (disch := omega) only [Int.toNat_natCast, iI_lt, iI_le, iI_eq, iI_add, iI_sub, iI_mul, iI_neg, iI_clamp, inb_ii]; omega) ?_
  rw [iI_clamp (by omega), Int.toNat_natCast, e2.hi (by omega), hv, tot_yt]
theorem cr_onL (W : WOK T kd tl n c tn) {L : Int32} {fr N : Nat} (hN : N ≤ 12) {e m d i y : Nat} (hi : d + (i + 1) = N) (hy : y < szR n) (hv : VR T y) (hm : m < 4) : ∀ (k F l : Nat) (s : SS), l + k = T.1 → k < F → BST T kd tl n c tn x p fr N s → VLB T kd tl n c tn L e N m (d + 1) s → (s 90 (4681 * (d + 1) + y) = 1 ∧ ∀ l, l < T.1 → bt (may T n y m) l = true → s 90 (4681 * (d + 1) + bh n y l) = 1) → ∃ t, lp_X12_bestOn_7 (iI d) (iI y) (iI m) F (iI (amx (fun l => totL T kd tl n c tn L e i (bh n y l) m) (may T n y m) l).1) (iI l) s = some (iI (amx (fun l => totL T kd tl n c tn L e i (bh n y l) m) (may T n y m) 8).1, t) ∧ RQ s t ∧ RW_ T kd tl n c tn t := by
  have h8 := W.1.1
  intro k
  induction k with
  | zero =>
    intro F l s hl hF hs hV hr
    cases F with
    | zero => omega
    | succ F =>
      obtain rfl : l = T.1 := by omega
      refine ⟨s, ?_, RQ.rf s, hs.1.1⟩
      rw [lp_X12_bestOn_7, amx_T h8 _ 8 h8 (Nat.le_refl 8)]
      exact e_if_t (by rw [hs.1.1.1.1.1]; simp (disch := omega) only [Int.toNat_natCast, iI_lt, iI_le, iI_eq, iI_add, iI_sub, iI_mul, iI_neg, iI_clamp, inb_ii]; omega) rfl
  | succ k ih =>
    intro F l s hl hF hs hV hr
    cases F with
    | zero => omega
    | succ F =>
      obtain ⟨s1, e1, e2, e3⟩ := rw_may W hs.1.1 hy hv hm
      have zh := has_f (v := may T n y m) (l := l) s1 (by omega)
      have hs1 := hs.q e2 e3
      have hr1 : s1 90 (4681 * (d + 1) + y) = 1 ∧ ∀ l, l < T.1 → bt (may T n y m) l = true → s1 90 (4681 * (d + 1) + bh n y l) = 1 := by rw [e2.hi (by omega)]; exact hr
      have ea : amx (fun l => totL T kd tl n c tn L e i (bh n y l) m) (may T n y m) (l + 1) = if bt (may T n y m) l = true ∧ (amx (fun l => totL T kd tl n c tn L e i (bh n y l) m) (may T n y m) l).2 < totL T kd tl n c tn L e i (bh n y l) m then (l, totL T kd tl n c tn L e i (bh n y l) m) else amx (fun l => totL T kd tl n c tn L e i (bh n y l) m) (may T n y m) l := rfl
      have av := amx_v (fun l => totL T kd tl n c tn L e i (bh n y l) m) (may T n y m) l
      have ab := amx_b (fun l => totL T kd tl n c tn L e i (bh n y l) m) (may T n y m) l
      have al := amx_le (fun l => totL T kd tl n c tn L e i (bh n y l) m) (may T n y m) l (by omega)
      generalize amx (fun l => totL T kd tl n c tn L e i (bh n y l) m) (may T n y m) l = r at ea av ab al ⊢
      by_cases q : bt (may T n y m) l = true
      · rw [if_pos q] at zh
        obtain ⟨s2, g1, g2, g3⟩ := cr_by (l := l) W hN hs1 hi hy (by omega) hm (hr1.2 l (by omega) q) (hV.q e2)
        have hs2 := hs1.q g2 g3
        have hr2 : s2 90 (4681 * (d + 1) + y) = 1 ∧ ∀ l, l < T.1 → bt (may T n y m) l = true → s2 90 (4681 * (d + 1) + bh n y l) = 1 := by rw [g2.hi (by omega)]; exact hr1
        have hrr : s2 90 (4681 * (d + 1) + bh n y r.1) = 1 := by
          rcases ab with a | a
          · rw [a, bh_8]; exact hr2.1
          · exact hr2.2 _ (by omega) a.2
        obtain ⟨s3, k1, k2, k3⟩ := cr_by (l := r.1) W hN hs2 hi hy al hm hrr ((hV.q e2).q g2)
        have hs3 := hs2.q k2 k3
        obtain ⟨t, f1, f2, f3⟩ := ih F (l + 1) s3 (by omega) (by omega) hs3 (((hV.q e2).q g2).q k2) (by rw [k2.hi (by omega)]; exact hr2)
        refine ⟨t, ?_, ((e2.tr g2).tr k2).tr f2, f3⟩
        rw [lp_X12_bestOn_7]
        refine e_if_f (by rw [hs.1.1.1.1.1]; simp (disch := omega) only [Int.toNat_natCast, iI_lt, iI_le, iI_eq, iI_add, iI_sub, iI_mul, iI_neg, iI_clamp, inb_ii]; omega) ?_
        refine e_bd e1 ?_
        refine e_bdp zh ?_
        refine e_jn ?_
        refine e_if_f (by decide) ?_
        refine e_bd g1 ?_
        refine e_bd k1 ?_
        by_cases q2 : r.2 < totL T kd tl n c tn L e i (bh n y l) m
        · rw [if_pos ⟨q, q2⟩] at ea
          rw [ea] at f1
          refine e_if_f (Int32.not_le.mpr (by rw [← av]; exact q2)) ?_
          rw [nx_s]
          exact f1
        · rw [if_neg (fun w => q2 w.2)] at ea
          rw [ea] at f1
          refine e_if_t (Int32.not_lt.mp (by rw [← av]; exact q2)) ?_
          rw [nx_s]
          exact f1
      · rw [if_neg q] at zh
        rw [if_neg (fun w => q w.1)] at ea
        obtain ⟨t, f1, f2, f3⟩ := ih F (l + 1) s1 (by omega) (by omega) hs1 (hV.q e2) hr1
        rw [ea] at f1
        refine ⟨t, ?_, e2.tr f2, f3⟩
        rw [lp_X12_bestOn_7]
        refine e_if_f (by rw [hs.1.1.1.1.1]; simp (disch := omega) only [Int.toNat_natCast, iI_lt, iI_le, iI_eq, iI_add, iI_sub, iI_mul, iI_neg, iI_clamp, inb_ii]; omega) ?_
        refine e_bd e1 ?_
        refine e_bdp zh ?_
        refine e_jn ?_
        refine e_if_t rfl ?_
        rw [nx_s]
        exact f1
/-- what is made on a day, by the one that looks and by the others -/
theorem cr_dayB (W : WOK T kd tl n c tn) (hp : p < c) {N m : Nat} (hN : N ≤ 12) (hm : m < 4) {d i y : Nat} (hi : d + (i + 1) = N) (hy : y < 4681) (hs : BST T kd tl n c tn x p m N s) (hV : VLB T kd tl n c tn (sh1 m) ((p + N) % c) N m (d + 1) s) (hr : s 90 (4681 * d + y) = 1) (K : Int32 → SS → Res) : ∃ t, bdp (f_X12_makerOn (iI d) s) (fun (v19 : Int32) => jn K (fun (k22 : Int32 → SS → Res) => if (v19 : Int32) = iI m then bd (f_X12_bestOn (iI d) (iI y) (iI m) s) (fun (v27 : Int32) (s28 : SS) => k22 v27 s28) else bdp (f_X12_makerOn (iI d) s) (fun (v29 : Int32) => bd (f_X12_makes (iI y) v29 s) (fun (v30 : Int32) (s31 : SS) => k22 v30 s31)))) = K (iI (pkL T kd tl n c tn (sh1 m) ((p + N) % c) (i + 1) y)) t ∧ RQ s t ∧ RW_ T kd tl n c tn t := by
  have hok := hs.ok (by omega) hy hr
  have hpk := pk_day (p := p) (y := y) W (lfr_1 hm) hN hi
  have on := rw_on W hs.1.1 hs.1.2.2.1 hp (d := d) (by omega)
  have hc := hs.2.2 d (by omega) y hy hr
  have hmk := W.tt (W.pl (p + d))
  unfold CLd at hc
  by_cases q : m = tn ((p + d) % c)
  · rw [if_pos (Or.inr q)] at hpk hc
    rw [← q] at hpk on hc
    obtain ⟨t, e1, e2, e3⟩ := cr_onL (x := x) (p := p) (fr := m) (L := sh1 m) (e := (p + N) % c) W hN hi hok.1 hok.2 hm T.1 FU 0 s (by omega) (fu_lt (by have := W.1.1; omega)) hs hV hc
    refine ⟨t, ?_, e2, e3⟩
    refine e_bdp on ?_
    refine e_jn ?_
    refine e_if_t rfl ?_
    rw [hpk]
    exact e_bd e1 rfl
  · rw [if_neg (by omega)] at hpk
    obtain ⟨t, e1, e2, e3⟩ := rw_makes W hs.1.1 hok.1 hok.2 hmk
    refine ⟨t, ?_, e2, e3⟩
    refine e_bdp on ?_
    refine e_jn ?_
    refine e_if_f (by simp (disch := omega) only [Int.toNat_natCast, iI_lt, iI_le, iI_eq, iI_add, iI_sub, iI_mul, iI_neg, iI_clamp, inb_ii]; omega) ?_
    refine e_bdp on ?_
    rw [hpk]
    exact e_bd e1 rfl
theorem cr_bL1 (W : WOK T kd tl n c tn) (hp : p < c) {N m : Nat} (hN : N ≤ 12) (hm : m < 4) {d i : Nat} (hi : d + (i + 1) = N) (K : SS → Res) : ∀ (k F y : Nat) (s : SS), y + k = 4681 → k < F → BST T kd tl n c tn x p m N s → VLB T kd tl n c tn (sh1 m) ((p + N) % c) N m (d + 1) s → (∀ r, r < y → s 90 (4681 * d + r) = 1 → s 91 (4681 * d + r) = ytL T kd tl n c tn (sh1 m) ((p + N) % c) (N - d) r m) → ∃ t, lp_X12_laysBest_45 (iI m) (iI d) K F (iI y) s = K t ∧ RZ s t ∧ BST T kd tl n c tn x p m N t ∧ VLB T kd tl n c tn (sh1 m) ((p + N) % c) N m d t := by
  intro k
  induction k with
  | zero =>
    intro F y s hl hF hs hV hr
    cases F with
    | zero => omega
    | succ F =>
      obtain rfl : y = 4681 := by omega
      refine ⟨s, ?_, RZ.rf s, hs, ?_⟩
      · rw [lp_X12_laysBest_45]
        exact e_if_t (by decide) rfl
      · intro d2 y2 h1 h2 h3 h4
        by_cases w : d2 = d
        · subst w; exact hr y2 h3 h4
        · exact hV d2 y2 (by omega) h2 h3 h4
  | succ k ih =>
    intro F y s hl hF hs hV hr
    cases F with
    | zero => omega
    | succ F =>
      have cf : ¬ (4681 : Int32) ≤ iI (y : Int) := by simp (disch := omega) only [Int.toNat_natCast, iI_lt, iI_le, iI_eq, iI_add, iI_sub, iI_mul, iI_neg, iI_clamp, inb_ii, z_4681]; omega
      have ig : inb (iI ((4681 * d + y : Nat) : Int)) 60853 := by simp (disch := omega) only [Int.toNat_natCast, iI_lt, iI_le, iI_eq, iI_add, iI_sub, iI_mul, iI_neg, iI_clamp, inb_ii]; omega
      have icl : Int32.toNatClampNeg (iI ((4681 * d + y : Nat) : Int)) = 4681 * d + y := by rw [iI_clamp (by omega), Int.toNat_natCast]
      by_cases q : s 90 (4681 * d + y) = 0
      · obtain ⟨t, f1, f2, f3⟩ := ih F (y + 1) s (by omega) (by omega) hs hV (by
          intro r hr2 h1
          by_cases w : r = y
          · subst w; rw [q] at h1; exact absurd h1 (by decide)
          · exact hr r (by omega) h1)
        refine ⟨t, ?_, f2, f3⟩
        rw [lp_X12_laysBest_45]
        refine e_if_f cf ?_
        rw [lay_0]
        refine e_gd ig ?_
        refine e_jn ?_
        rw [icl]
        refine e_if_t q ?_
        rw [nx_s]
        exact f1
      · have hz := (hs.1.2.2.2 d y (by omega) (by omega)).resolve_left q
        obtain ⟨u, g1, g2, g3⟩ := cr_dayB W hp hN hm hi (by omega) hs hV hz.1 (fun (v20 : Int32) (s21 : SS) => bd (f_X12_bestBy (iI d) (iI y) v20 (iI m) s21) (fun (v23 : Int32) (s24 : SS) => gd (inb (iI ((4681 * d + y : Nat) : Int)) 60853) (lts (up s24 91 (4681 * d + y) v23) (fun (s25 : SS) => lp_X12_laysBest_45 (iI m) (iI d) K F (iI y + 1) s25))))
        have hsu := hs.q g2 g3
        have hnx := hs.nx W (lfr_1 hm) hN hi (by omega) hz.1
        have hpl := pkL_le W (sh1 m) ((p + N) % c) (i + 1) hz.2.1
        obtain ⟨v, k1, k2, k3⟩ := cr_by (l := pkL T kd tl n c tn (sh1 m) ((p + N) % c) (i + 1) y) W hN hsu hi hz.2.1 hpl hm (by rw [g2.hi (by omega)]; exact hnx) (hV.q g2)
        have hsv := hsu.q k2 k3
        have q91 : v 91 = s 91 := (k2.hi (by omega)).trans (g2.hi (by omega))
        have q90 : v 90 = s 90 := (k2.hi (by omega)).trans (g2.hi (by omega))
        have ey : ytL T kd tl n c tn (sh1 m) ((p + N) % c) (N - d) y m = totL T kd tl n c tn (sh1 m) ((p + N) % c) i (bh n y (pkL T kd tl n c tn (sh1 m) ((p + N) % c) (i + 1) y)) m := by rw [show N - d = i + 1 by omega]; rfl
        obtain ⟨t, f1, f2, f3⟩ := ih F (y + 1) (up v 91 (4681 * d + y) (ytL T kd tl n c tn (sh1 m) ((p + N) % c) (N - d) y m)) (by omega) (by omega) (hsv.w (by omega)) (by
          intro d2 y2 h1 h2 h3 h4
          rw [up_cell (by omega), q90] at h4
          rw [up_slot (by omega), q91]
          exact hV d2 y2 h1 h2 h3 h4) (by
          intro r hr2 h1
          rw [up_cell (by omega), q90] at h1
          by_cases w : r = y
          · subst w; exact up_at _ _ _ _
          · rw [up_slot (by omega), q91]
            exact hr r (by omega) h1)
        refine ⟨t, ?_, (g2.z.tr k2.z).tr ((RZ.up1 (by omega)).tr f2), f3⟩
        rw [lp_X12_laysBest_45]
        refine e_if_f cf ?_
        rw [lay_0]
        refine e_gd ig ?_
        refine e_jn ?_
        rw [icl]
        refine e_if_f q ?_
        refine Eq.trans g1 ?_
        refine e_bd k1 ?_
        refine e_gd ig ?_
        refine e_lts ?_
        rw [nx_s, ← ey]
        exact f1
theorem cr_bL2 (W : WOK T kd tl n c tn) (hp : p < c) {N m : Nat} (hN : N ≤ 12) (hm : m < 4) : ∀ (k F : Nat) (s : SS), k < F → k ≤ N → BST T kd tl n c tn x p m N s → VLB T kd tl n c tn (sh1 m) ((p + N) % c) N m k s → ∃ t, lp_X12_laysBest_38 (iI m) F (iI ((k : Int) - 1)) s = some (0, t) ∧ RZ s t ∧ BST T kd tl n c tn x p m N t ∧ VLB T kd tl n c tn (sh1 m) ((p + N) % c) N m 0 t := by
  intro k
  induction k with
  | zero =>
    intro F s hF hk hs hV
    cases F with
    | zero => omega
    | succ F =>
      refine ⟨s, ?_, RZ.rf s, hs, hV⟩
      rw [lp_X12_laysBest_38]
      exact e_if_t (by decide) rfl
  | succ k ih =>
    intro F s hF hk hs hV
    cases F with
    | zero => omega
    | succ F =>
      obtain ⟨u, g1, g2, g3, g4⟩ := cr_bL1 (x := x) W hp hN hm (d := k) (i := N - k - 1) (by omega) (fun s10 => lp_X12_laysBest_38 (iI m) F (iI (k : Int) + (-1)) s10) 4681 FU 0 s (by omega) (fu_lt (by omega)) hs hV (by intro r hr; omega)
      obtain ⟨t, f1, f2, f3⟩ := ih F u (by omega) (by omega) g3 g4
      refine ⟨t, ?_, g2.tr f2, f3⟩
      rw [lp_X12_laysBest_38, show ((k + 1 : Nat) : Int) - 1 = (k : Int) by omega]
      refine e_if_f (by simp (disch := omega) only [Int.toNat_natCast, iI_lt, iI_le, iI_eq, iI_add, iI_sub, iI_mul, iI_neg, iI_clamp, inb_ii, z_0]; omega) ?_
      refine e_jn ?_
      refine Eq.trans g1 ?_
      show lp_X12_laysBest_38 (iI m) F (iI (k : Int) + (-1)) u = _
      rw [show iI (k : Int) + (-1) = iI ((k : Int) - 1) by rw [z_m1, iI_add]; rfl]
      exact f1
theorem cr_b0 {a2 : Int32} {N : Nat} (hN : N ≤ 12) (k : SS → Res) (s : SS) : lp_X12_laysBest_8 (iI N) a2 k FU 0 s = k (upr s 91 (fun j => if 4681 * N ≤ j ∧ j < 4681 * N + 4681 then 0 else s 91 j)) := by
  have lp : ∀ m F i : Nat, ∀ R : Nat → Int32, i + m = 4681 → m < F → lp_X12_laysBest_8 (iI N) a2 k F (iI i) (upr s 91 R) = k (upr s 91 (fun j => if 4681 * N + i ≤ j ∧ j < 4681 * N + 4681 then 0 else R j)) := by
    intro m
    induction m with
    | zero =>
      intro F i R hi2 hF
      cases F with
      | zero => omega
      | succ F =>
        rw [lp_X12_laysBest_8]
        refine e_if_t (by simp (disch := omega) only [Int.toNat_natCast, iI_lt, iI_le, iI_eq, iI_add, iI_sub, iI_mul, iI_neg, iI_clamp, inb_ii, z_4681]; omega) ?_
        congr 2
        funext j
        rw [if_neg (by omega)]
    | succ m ih =>
      intro F i R hi2 hF
      cases F with
      | zero => omega
      | succ F =>
        rw [lp_X12_laysBest_8]
        refine e_if_f (by simp (disch := omega) only [Int.toNat_natCast, iI_lt, iI_le, iI_eq, iI_add, iI_sub, iI_mul, iI_neg, iI_clamp, inb_ii, z_4681]; omega) ?_
        rw [lay_0]
        refine e_gd (by simp (disch := omega) only [Int.toNat_natCast, iI_lt, iI_le, iI_eq, iI_add, iI_sub, iI_mul, iI_neg, iI_clamp, inb_ii]; omega) ?_
        refine e_up ?_
        rw [nx_s, ih F (i + 1) _ (by omega) (by omega)]
        congr 2
        funext j
        rw [iI_clamp (by omega), Int.toNat_natCast]
        by_cases q : j = 4681 * N + i
        · subst q; rw [upd_eq, if_neg (by omega), if_pos (by omega)]
        · rw [upd_ne q]
          by_cases q2 : 4681 * N + (i + 1) ≤ j ∧ j < 4681 * N + 4681
          · rw [if_pos q2, if_pos (by omega)]
          · rw [if_neg q2, if_neg (by omega)]
  have := lp 4681 FU 0 (s 91) (by omega) (fu_lt (by omega))
  rw [upr_self] at this
  exact this
theorem cr_lays (W : WOK T kd tl n c tn) (hx : x < szR n) (hv : VR T x) (hp : p < c) {N m : Nat} (hN : 1 ≤ N ∧ N ≤ 12) (hm : m < 4) (h : RW_ T kd tl n c tn s) (h4 : s 56 4 = iI x) (h6 : s 56 6 = iI p) : ∃ t, f_X12_laysBest (iI N) (iI m) s = some (0, t) ∧ RZ s t ∧ BST T kd tl n c tn x p m N t ∧ VLB T kd tl n c tn (sh1 m) ((p + N) % c) N m 0 t := by
  obtain ⟨u, g1, g2, g3, g4⟩ := cr_reaches (fr := m) W hx hv hp (Or.inr hm) hN.2 h h4 h6
  have hb : BST T kd tl n c tn x p m N (upr u 91 (fun j => if 4681 * N ≤ j ∧ j < 4681 * N + 4681 then 0 else u 91 j)) := BST.of (s := u) ⟨g3, g4⟩ (g3.1.ur (by omega)) (upr_ne (by omega)) (by rw [upr_ne (by omega)]) (by rw [upr_ne (by omega)])
  obtain ⟨t, f1, f2, f3⟩ := cr_bL2 (x := x) W hp hN.2 hm N FU (upr u 91 (fun j => if 4681 * N ≤ j ∧ j < 4681 * N + 4681 then 0 else u 91 j)) (fu_lt (by omega)) (Nat.le_refl N) hb (by
    intro d y h1 h2 h3 _
    obtain rfl : d = N := by omega
    rw [upr_eq, if_pos (by omega), Nat.sub_self]
    rfl)
  refine ⟨t, ?_, (g2.tr (RZ.ur (by omega))).tr f2, f3⟩
  unfold f_X12_laysBest
  refine e_bd g1 ?_
  refine e_jn ?_
  refine (cr_b0 hN.2 _ u).trans ?_
  refine e_lt ?_
  rw [show iI (N : Int) - 1 = iI ((N : Int) - 1) by rw [z_1, iI_sub]]
  exact f1
theorem VLB.le {L : Int32} {e N m d0 d1 : Nat} (h : VLB T kd tl n c tn L e N m d0 s) (g : d0 ≤ d1) : VLB T kd tl n c tn L e N m d1 s := fun d y a b e1 f => h d y (by omega) b e1 f
theorem pth_r (W : WOK T kd tl n c tn) {L : Int32} {fr N : Nat} (hf : LFR L fr) (hN : N ≤ 12) (hx : x < szR n) (h : BST T kd tl n c tn x p fr N s) : ∀ d, d ≤ N → s 90 (4681 * d + pthL T kd tl n c tn L ((p + N) % c) N x d) = 1 := by
  intro d
  induction d with
  | zero => intro _; rw [Nat.mul_zero, Nat.zero_add]; exact h.2.1
  | succ d ih =>
    intro hd
    have h1 := ih (by omega)
    have h2 := W.sz (pth_lt W L ((p + N) % c) N hx d)
    have := h.nx W hf hN (i := N - d - 1) (by omega) h2.2 h1
    rw [show N - d - 1 + 1 = N - d by omega] at this
    exact this
theorem cr_pL (W : WOK T kd tl n c tn) (hx : x < szR n) (hp : p < c) {N m D : Nat} (hN : N ≤ 12) (hm : m < 4) (hD : D < N) : ∀ (k F d : Nat) (v : Int32) (s : SS), d + k = D + 1 → k < F → BST T kd tl n c tn x p m N s → VLB T kd tl n c tn (sh1 m) ((p + N) % c) N m 0 s → (k = 0 → v = iI (pkL T kd tl n c tn (sh1 m) ((p + N) % c) (N - D) (pthL T kd tl n c tn (sh1 m) ((p + N) % c) N x D))) → ∃ t, lp_X12_best_72 (iI m) (iI D) F (iI (pthL T kd tl n c tn (sh1 m) ((p + N) % c) N x d)) v (iI d) s = some (iI (pkL T kd tl n c tn (sh1 m) ((p + N) % c) (N - D) (pthL T kd tl n c tn (sh1 m) ((p + N) % c) N x D)), t) ∧ RZ s t ∧ RW_ T kd tl n c tn t := by
  intro k
  induction k with
  | zero =>
    intro F d v s hd hF hs hV hv
    cases F with
    | zero => omega
    | succ F =>
      refine ⟨s, ?_, RZ.rf s, hs.1.1⟩
      rw [lp_X12_best_72, hv rfl]
      exact e_if_t (by simp (disch := omega) only [Int.toNat_natCast, iI_lt, iI_le, iI_eq, iI_add, iI_sub, iI_mul, iI_neg, iI_clamp, inb_ii]; omega) rfl
  | succ k ih =>
    intro F d v s hd hF hs hV hv
    cases F with
    | zero => omega
    | succ F =>
      have hy := pth_lt W (sh1 m) ((p + N) % c) N hx d
      have hr := pth_r W (lfr_1 hm) hN hx hs d (by omega)
      obtain ⟨u, g1, g2, g3⟩ := cr_dayB W hp hN hm (i := N - d - 1) (by omega) (W.sz hy).2 hs (hV.le (by omega)) hr (fun (v18 : Int32) (s19 : SS) => bdp (f_X12_behind (iI (pthL T kd tl n c tn (sh1 m) ((p + N) % c) N x d)) v18 s19) (fun (v21 : Int32) => lp_X12_best_72 (iI m) (iI D) F v21 v18 (iI (d : Int) + 1) s19))
      rw [show N - d - 1 + 1 = N - d by omega] at g1
      obtain ⟨t, f1, f2, f3⟩ := ih F (d + 1) (iI (pkL T kd tl n c tn (sh1 m) ((p + N) % c) (N - d) (pthL T kd tl n c tn (sh1 m) ((p + N) % c) N x d))) u (by omega) (by omega) (hs.q g2 g3) (hV.q g2) (by
        intro hk
        obtain rfl : d = D := by omega
        rfl)
      refine ⟨t, ?_, g2.z.tr f2, f3⟩
      rw [lp_X12_best_72]
      refine e_if_f (by simp (disch := omega) only [Int.toNat_natCast, iI_lt, iI_le, iI_eq, iI_add, iI_sub, iI_mul, iI_neg, iI_clamp, inb_ii]; omega) ?_
      refine Eq.trans g1 ?_
      refine e_bdp (rw_bh W g3 hy (pkL_le W (sh1 m) ((p + N) % c) (N - d) hy)) ?_
      rw [nx_s]
      exact f1
theorem cr_best (W : WOK T kd tl n c tn) (hx : x < szR n) (hv : VR T x) (hp : p < c) (a1 a2 a3 : Int32) {s : SS} (h : RW_ T kd tl n c tn s) (h4 : s 56 4 = iI x) (h6 : s 56 6 = iI p) : ∃ t, f_X12_best a1 a2 a3 s = some (ansBest T kd tl n c tn x p a1 a2 a3, t) ∧ RZ s t ∧ RW_ T kd tl n c tn t := by
  have pf := isMaker_f a1 s
  have l2 : f_X12_lies (a2.toInt64) 1 8 s = some (if 1 ≤ a2.toInt ∧ a2.toInt ≤ 8 then 1 else 0) := by rw [lies_f, i64_toInt]; rfl
  have l3 : f_X12_lies (a3.toInt64) (-1) ((a2 - 1).toInt64) s = some (if -1 ≤ a3.toInt ∧ a3.toInt ≤ (a2 - 1).toInt then 1 else 0) := by rw [lies_f, i64_toInt, i64_toInt]; rfl
  unfold f_X12_best ansBest
  by_cases q1 : 0 ≤ a1.toInt ∧ a1.toInt ≤ 3
  · rw [if_pos q1] at pf
    by_cases q2 : 1 ≤ a2.toInt ∧ a2.toInt ≤ 8
    · rw [if_pos q2] at l2
      have e1 : (a2 - 1).toInt = a2.toInt - 1 := by rw [iI_of a2, z_1, iI_sub, iI_toInt (by omega), iI_toInt (by omega)]
      by_cases q3 : -1 ≤ a3.toInt ∧ a3.toInt < a2.toInt
      · rw [if_pos (by omega)] at l3
        rw [if_neg (show ¬ (¬ (0 ≤ a1.toInt ∧ a1.toInt ≤ 3) ∨ ¬ (1 ≤ a2.toInt ∧ a2.toInt ≤ 8) ∨ ¬ (-1 ≤ a3.toInt ∧ a3.toInt < a2.toInt)) by omega)]
        obtain ⟨m, hm4, ea⟩ := per_nat q1
        have em : a1.toInt.toNat = m := by rw [ea, iI_toInt (by omega)]; omega
        have eN := e_lit (a := a2) (k := (a2.toInt.toNat : Nat)) (by omega)
        rw [em]
        generalize hNN : a2.toInt.toNat = N at eN ⊢
        obtain ⟨t, f1, f2, f3, f4⟩ := cr_lays W hx hv hp (N := N) (m := m) (by omega) hm4 h h4 h6
        have hsz := W.sz hx
        by_cases z : a3.toInt = -1
        · refine ⟨t, ?_, f2, f3.1.1⟩
          rw [if_pos z]
          have wm : (-1 : Int32).toInt = -1 := rfl
          have h0 := f4 0 x (by omega) (by omega) hsz.2 (by rw [Nat.mul_zero, Nat.zero_add]; exact f3.2.1)
          rw [Nat.mul_zero, Nat.zero_add, Nat.sub_zero] at h0
          refine e_bdp pf ?_
          refine e_if_f (by decide) ?_
          refine e_bdp l2 ?_
          refine e_if_f (by decide) ?_
          refine e_bdp l3 ?_
          refine e_if_f (by decide) ?_
          rw [eN, ea]
          refine e_bd f1 ?_
          refine e_if_t (Int32.toInt_inj.mp (z.trans wm.symm)) ?_
          rw [f3.1.2.1]
          refine e_gd (by simp (disch := omega) only [Int.toNat_natCast, iI_lt, iI_le, iI_eq, iI_add, iI_sub, iI_mul, iI_neg, iI_clamp, inb_ii]; omega) ?_
          rw [iI_clamp (by omega), Int.toNat_natCast, h0]
          obtain ⟨i, rfl⟩ : ∃ i, N = i + 1 := ⟨N - 1, by omega⟩
          rfl
        · have ed := e_lit (a := a3) (k := (a3.toInt.toNat : Nat)) (by omega)
          have hd : a3.toInt.toNat < N := by omega
          rw [if_neg z]
          generalize hdd : a3.toInt.toNat = d at ed hd ⊢
          obtain ⟨u, g1, g2, g3⟩ := cr_pL W hx hp (N := N) (m := m) (D := d) (by omega) hm4 hd (d + 1) FU 0 8 t (by omega) (fu_lt (by omega)) f3 f4 (by intro w; omega)
          refine ⟨u, ?_, f2.tr g2, g3⟩
          refine e_bdp pf ?_
          refine e_if_f (by decide) ?_
          refine e_bdp l2 ?_
          refine e_if_f (by decide) ?_
          refine e_bdp l3 ?_
          refine e_if_f (by decide) ?_
          rw [eN, ea]
          refine e_bd f1 ?_
          refine e_if_f (by intro w; apply z; rw [w]; rfl) ?_
          refine e_lt ?_
          rw [f3.1.2.1, ed]
          exact g1
      · rw [if_neg (by omega)] at l3
        rw [if_pos (show ¬ (0 ≤ a1.toInt ∧ a1.toInt ≤ 3) ∨ ¬ (1 ≤ a2.toInt ∧ a2.toInt ≤ 8) ∨ ¬ (-1 ≤ a3.toInt ∧ a3.toInt < a2.toInt) by omega)]
        refine ⟨s, ?_, RZ.rf s, h⟩
        refine e_bdp pf ?_
        refine e_if_f (by decide) ?_
        refine e_bdp l2 ?_
        refine e_if_f (by decide) ?_
        refine e_bdp l3 ?_
        exact e_if_t rfl rfl
    · rw [if_neg q2] at l2
      rw [if_pos (show ¬ (0 ≤ a1.toInt ∧ a1.toInt ≤ 3) ∨ ¬ (1 ≤ a2.toInt ∧ a2.toInt ≤ 8) ∨ ¬ (-1 ≤ a3.toInt ∧ a3.toInt < a2.toInt) by omega)]
      refine ⟨s, ?_, RZ.rf s, h⟩
      refine e_bdp pf ?_
      refine e_if_f (by decide) ?_
      refine e_bdp l2 ?_
      exact e_if_t rfl rfl
  · rw [if_neg q1] at pf
    rw [if_pos (show ¬ (0 ≤ a1.toInt ∧ a1.toInt ≤ 3) ∨ ¬ (1 ≤ a2.toInt ∧ a2.toInt ≤ 8) ∨ ¬ (-1 ≤ a3.toInt ∧ a3.toInt < a2.toInt) by omega)]
    refine ⟨s, ?_, RZ.rf s, h⟩
    refine e_bdp pf ?_
    exact e_if_t rfl rfl
