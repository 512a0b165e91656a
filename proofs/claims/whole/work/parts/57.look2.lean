/-! looking ahead: look, tell, solve -/
variable {T : TW} {kd tl tn : Nat → Nat} {n c x p : Nat} {s t u : SS}
theorem ce_ne {y j y2 j2 : Nat} (hj : j < 8) (hj2 : j2 < 8) (h : ¬ (y = y2 ∧ j = j2)) : 8 * (br n + y) + j ≠ 8 * (br n + y2) + j2 := by omega
theorem LKS.p43 (W : WOK T kd tl n c tn) {L : Int32} {e : Nat} (h : LKS T kd tl n c tn L e s) {y j q : Nat} (hj : j < 8) (hq : q < 4) : LKS T kd tl n c tn L e (up s 43 ((8 * (br n + y) + j) * 4 + q) (totL T kd tl n c tn L e j y q)) ∧ FM s (up s 43 ((8 * (br n + y) + j) * 4 + q) (totL T kd tl n c tn L e j y q)) := by
  refine ⟨⟨h.1.up1 (by omega), ?_, by rw [up_cell (by omega)]; exact h.2.2⟩, fun k a => by rw [up_cell (by omega)]; exact a⟩
  intro y2 j2 hy2 hj2
  rw [up_cell (by omega)]
  rcases h.2.1 y2 j2 hy2 hj2 with a | a
  · exact Or.inl a
  · refine Or.inr ⟨a.1, ?_, a.2.2⟩
    intro q2 hq2
    by_cases w : (8 * (br n + y2) + j2) * 4 + q2 = (8 * (br n + y) + j) * 4 + q
    · have : y2 = y ∧ j2 = j ∧ q2 = q := by omega
      obtain ⟨rfl, rfl, rfl⟩ := this
      exact up_at _ _ _ _
    · rw [up_slot w]
      exact a.2.1 q2 hq2
theorem pk_unk (W : WOK T kd tl n c tn) (L : Int32) (e j : Nat) {y : Nat} (hy : y < szR n) : iI (pkL T kd tl n c tn L e j y : Int) ≠ UNK := by
  have := pkL_le W L e j hy
  show ¬ iI (pkL T kd tl n c tn L e j y : Int) = iI (-1000000000)
  rw [iI_eq (by omega) (by omega)]
  omega
theorem LKS.p42 (W : WOK T kd tl n c tn) {L : Int32} {e : Nat} (h : LKS T kd tl n c tn L e s) {y j : Nat} (hy : y < szR n) (hj : j < 8) (h43 : ∀ q, q < 4 → s 43 ((8 * (br n + y) + j) * 4 + q) = totL T kd tl n c tn L e j y q) (hn : ∀ i, j = i + 1 → s 42 (8 * (br n + bh n y (pkL T kd tl n c tn L e j y)) + i) ≠ UNK) : LKS T kd tl n c tn L e (up s 42 (8 * (br n + y) + j) (iI (pkL T kd tl n c tn L e j y))) ∧ FM s (up s 42 (8 * (br n + y) + j) (iI (pkL T kd tl n c tn L e j y))) := by
  have fm : FM s (up s 42 (8 * (br n + y) + j) (iI (pkL T kd tl n c tn L e j y))) := by
    intro k a
    by_cases w : k = 8 * (br n + y) + j
    · rw [w, up_at]; exact pk_unk W L e j hy
    · rw [up_slot w]; exact a
  refine ⟨⟨h.1.up1 (by omega), ?_, by rw [up_cell (by omega)]; exact h.2.2⟩, fm⟩
  intro y2 j2 hy2 hj2
  rw [up_cell (q := 43) (by omega)]
  by_cases w : y2 = y ∧ j2 = j
  · obtain ⟨rfl, rfl⟩ := w
    refine Or.inr ⟨up_at _ _ _ _, h43, ?_⟩
    intro i hi
    exact fm _ (hn i hi)
  · rw [up_slot (ce_ne hj2 hj w)]
    rcases h.2.1 y2 j2 hy2 hj2 with a | a
    · exact Or.inl a
    · exact Or.inr ⟨a.1, a.2.1, fun i hi => fm _ (a.2.2 i hi)⟩
theorem cl_lookL (W : WOK T kd tl n c tn) {L : Int32} {e j y : Nat} (hj : j < 8) (hy : y < szR n) {v5 v8 : Int32} (K : SS → Res) (s0 : SS) (Z : Nat → Int32) (hZ : ∀ q, q < 4 → totL T kd tl n c tn L e j y q = wth T n y q + Z q) (hT : ∀ (q : Nat) (u : SS), q < 4 → LKS T kd tl n c tn L e u → FM s0 u → f_X3_totalOf v8 (iI (j : Int) - 1) (iI q) u = some (Z q)) : ∀ (k N q : Nat) (s : SS), q + k = 4 → k < N → LKS T kd tl n c tn L e s → FM s0 s → (∀ r, r < q → s 43 ((8 * (br n + y) + j) * 4 + r) = totL T kd tl n c tn L e j y r) → ∃ t, lp_X3_look_85 (wl_ n y) (iI j) (iI ((8 * (br n + y) + j : Nat) : Int)) v5 v8 K N (iI q) s = K t ∧ CZ 42 43 s t ∧ LKS T kd tl n c tn L e t ∧ FM s t ∧ ∀ r, r < 4 → t 43 ((8 * (br n + y) + j) * 4 + r) = totL T kd tl n c tn L e j y r := by
  have hb := W.sz hy
  intro k
  induction k with
  | zero =>
    intro N q s hq hN hs hf h43
    cases N with
    | zero => omega
    | succ N =>
      obtain rfl : q = 4 := by omega
      refine ⟨s, ?_, CZ.rf _ _ _, hs, FM.rf s, h43⟩
      rw [lp_X3_look_85]
      exact e_if_t (by decide) rfl
  | succ k ih =>
    intro N q s hq hN hs hf h43
    cases N with
    | zero => omega
    | succ N =>
      have ec : iI ((8 * (br n + y) + j : Nat) : Int) * 4 + iI q = iI (((8 * (br n + y) + j) * 4 + q : Nat) : Int) := by
        rw [z_4, iI_mul, iI_add]
        congr 1
      obtain ⟨t1, e1, e2, e3⟩ := cw_worth W hs.1 hy (m := q) (by omega)
      obtain ⟨g1, g2, g3⟩ := hs.q e2 e3
      have h2 := g1.p43 W (y := y) (j := j) (q := q) hj (by omega)
      have e43 : t1 43 = s 43 := e2.1 43 (by omega) (by omega) (by omega) (by omega) (by omega)
      obtain ⟨t, f1, f2, f3, f4, f5⟩ := ih N (q + 1) _ (by omega) (by omega) h2.1 (hf.tr (g2.tr h2.2)) (by
        intro r hr
        by_cases w : r = q
        · subst w; exact up_at _ _ _ _
        · rw [up_slot (by omega), e43]; exact h43 r (by omega))
      refine ⟨t, ?_, (g3.tr (CZ.up1 (by omega))).tr f2, f3, (g2.tr h2.2).tr f4, f5⟩
      rw [lp_X3_look_85]
      refine e_if_f (by simp (disch := omega) only [Int.toNat_natCast, iI_lt, iI_le, iI_eq, iI_add, iI_sub, iI_mul, iI_neg, iI_clamp, inb_ii, z_4]; omega) ?_
      refine e_lt ?_
      rw [ec]
      refine e_jn ?_
      refine e_if_f (by simp (disch := omega) only [Int.toNat_natCast, iI_lt, iI_le, iI_eq, iI_add, iI_sub, iI_mul, iI_neg, iI_clamp, inb_ii, z_171136]; omega) ?_
      refine e_bd e1 ?_
      refine e_bdp (hT q t1 (by omega) g1 (hf.tr g2)) ?_
      refine e_gd (by simp (disch := omega) only [Int.toNat_natCast, iI_lt, iI_le, iI_eq, iI_add, iI_sub, iI_mul, iI_neg, iI_clamp, inb_ii]; omega) ?_
      refine e_lts ?_
      rw [iI_clamp (by omega), Int.toNat_natCast, nx_s, ← hZ q (by omega)]
      exact f1
theorem cl_look (W : WOK T kd tl n c tn) {L : Int32} {e : Nat} : ∀ (j F : Nat), j < 8 → j + 2 ≤ F → LKH T kd tl n c tn L e j (f_X3_look F) := by
  have hN : ∀ (F : Nat) (w p : Int32) (s : SS), 1 ≤ F → f_X3_look F w p (-1) s = some (0, s) := by
    intro F w p s hF
    obtain ⟨G, rfl⟩ : ∃ G, F = G + 1 := ⟨F - 1, by omega⟩
    rw [f_X3_look]
    unfold o_X3_look
    refine e_bdp (ol_cellN _ _) ?_
    exact e_if_t (by decide) rfl
  have fin : ∀ (j : Nat) (hj : j < 8) (rf : Int32 → Int32 → Int32 → SS → Res) (y : Nat) (hy : y < szR n) (s : SS) (hs : LKS T kd tl n c tn L e s) (Z : Nat → Int32) (hZ : ∀ q, q < 4 → totL T kd tl n c tn L e j y q = wth T n y q + Z q) (pl : Int32)
      (hr : ∃ t1, rf (wl_ n (bh n y (pkL T kd tl n c tn L e j y))) pl (iI (j : Int) - 1) s = some (0, t1) ∧ CZ 42 43 s t1 ∧ LKS T kd tl n c tn L e t1 ∧ FM s t1 ∧ (∀ i, j = i + 1 → t1 42 (8 * (br n + bh n y (pkL T kd tl n c tn L e j y)) + i) ≠ UNK) ∧ ∀ (q : Nat) (u : SS), q < 4 → LKS T kd tl n c tn L e u → FM t1 u → f_X3_totalOf (wl_ n (bh n y (pkL T kd tl n c tn L e j y))) (iI (j : Int) - 1) (iI q) u = some (Z q)),
      ∃ t, bd (rf (wl_ n (bh n y (pkL T kd tl n c tn L e j y))) pl (iI (j : Int) - 1) s) (fun (v10 : Int32) (s11 : SS) => jn (fun (s12 : SS) => gd (inb (iI ((8 * (br n + y) + j : Nat) : Int)) 42784) (lts (up s12 42 (8 * (br n + y) + j) (iI (pkL T kd tl n c tn L e j y))) (fun (s14 : SS) => some (0, s14)))) (fun (k13 : SS → Res) => lp_X3_look_85 (wl_ n y) (iI j) (iI ((8 * (br n + y) + j : Nat) : Int)) (iI (pkL T kd tl n c tn L e j y)) (wl_ n (bh n y (pkL T kd tl n c tn L e j y))) k13 FU 0 s11)) = some (0, t) ∧ CZ 42 43 s t ∧ LKS T kd tl n c tn L e t ∧ FM s t ∧ t 42 (8 * (br n + y) + j) ≠ UNK := by
    intro j hj rf y hy s hs Z hZ pl ⟨t1, a1, a2, a3, a4, a5, a6⟩
    have hb := W.sz hy
    obtain ⟨t, f1, f2, f3, f4, f5⟩ := cl_lookL W (v5 := iI (pkL T kd tl n c tn L e j y)) hj hy (fun (s12 : SS) => gd (inb (iI ((8 * (br n + y) + j : Nat) : Int)) 42784) (lts (up s12 42 (8 * (br n + y) + j) (iI (pkL T kd tl n c tn L e j y))) (fun (s14 : SS) => some (0, s14)))) t1 Z hZ a6 4 FU 0 t1 rfl (fu_lt (by omega)) a3 (FM.rf _) (by intro r hr; omega)
    have h2 := f3.p42 W hy hj f5 (fun i hi => f4 _ (a5 i hi))
    refine ⟨_, ?_, (a2.tr f2).tr (CZ.up1 (by omega)), h2.1, (a4.tr f4).tr h2.2, by rw [up_at]; exact pk_unk W L e j hy⟩
    refine e_bd a1 ?_
    refine e_jn ?_
    refine Eq.trans f1 ?_
    refine e_gd (by simp (disch := omega) only [Int.toNat_natCast, iI_lt, iI_le, iI_eq, iI_add, iI_sub, iI_mul, iI_neg, iI_clamp, inb_ii]; omega) ?_
    exact e_lts rfl
  intro j
  induction j with
  | zero =>
    intro F hj hF y s hy hs
    obtain ⟨G, rfl⟩ : ∃ G, F = G + 1 := ⟨F - 1, by omega⟩
    have hb := W.sz hy
    rw [f_X3_look]
    unfold o_X3_look
    by_cases q : s 42 (8 * (br n + y) + 0) = UNK
    · have ha := cw_after W hs.1 (p := plE c e 0) (plE_lt W.cc.1)
      have zb := cw_behind W hs.1 hy (l := 8) (by omega)
      obtain ⟨t, f1, f2⟩ := fin 0 hj (f_X3_look G) y hy s hs (fun _ => 0) (fun q hq => rfl) (iI (((plE c e 0 + 1) % c : Nat) : Int)) ⟨s, hN G _ _ _ (by omega), CZ.rf _ _ _, hs, FM.rf s, fun i hi => by omega, fun q u hq _ _ => ol_totN hq _ _⟩
      refine ⟨t, ?_, f2⟩
      refine e_bdp (ol_cell W.2.2.2 hj s) ?_
      refine e_if_f (by simp (disch := omega) only [Int.toNat_natCast, iI_lt, iI_le, iI_eq, iI_add, iI_sub, iI_mul, iI_neg, iI_clamp, inb_ii, z_0]; omega) ?_
      refine e_if_f (by simp (disch := omega) only [Int.toNat_natCast, iI_lt, iI_le, iI_eq, iI_add, iI_sub, iI_mul, iI_neg, iI_clamp, inb_ii, z_42784]; omega) ?_
      refine e_gd (by simp (disch := omega) only [Int.toNat_natCast, iI_lt, iI_le, iI_eq, iI_add, iI_sub, iI_mul, iI_neg, iI_clamp, inb_ii]; omega) ?_
      rw [iI_clamp (by omega), Int.toNat_natCast]
      refine e_if_t q ?_
      refine e_jn ?_
      refine e_if_t rfl ?_
      refine e_bdp zb ?_
      refine e_bdp ha ?_
      exact f1
    · refine ⟨s, ?_, CZ.rf _ _ _, hs, FM.rf s, q⟩
      refine e_bdp (ol_cell W.2.2.2 hj s) ?_
      refine e_if_f (by simp (disch := omega) only [Int.toNat_natCast, iI_lt, iI_le, iI_eq, iI_add, iI_sub, iI_mul, iI_neg, iI_clamp, inb_ii, z_0]; omega) ?_
      refine e_if_f (by simp (disch := omega) only [Int.toNat_natCast, iI_lt, iI_le, iI_eq, iI_add, iI_sub, iI_mul, iI_neg, iI_clamp, inb_ii, z_42784]; omega) ?_
      refine e_gd (by simp (disch := omega) only [Int.toNat_natCast, iI_lt, iI_le, iI_eq, iI_add, iI_sub, iI_mul, iI_neg, iI_clamp, inb_ii]; omega) ?_
      rw [iI_clamp (by omega), Int.toNat_natCast]
      exact e_if_f q rfl
  | succ i ih =>
    intro F hj hF y s hy hs
    obtain ⟨G, rfl⟩ : ∃ G, F = G + 1 := ⟨F - 1, by omega⟩
    have H := ih G (by omega) (by omega)
    have hb := W.sz hy
    rw [f_X3_look]
    unfold o_X3_look
    by_cases q : s 42 (8 * (br n + y) + (i + 1)) = UNK
    · obtain ⟨t1, a1, a2, a3, a4⟩ := cl_pick W (by omega) H hy hs
      have hpl := pkL_le W L e (i + 1) hy
      have hpt := pkL_lt W L e (i + 1) hy
      have ha := cw_after W a3.1 (p := plE c e (i + 1)) (plE_lt W.cc.1)
      rw [plE_s W.cc.1 (by omega)] at ha
      have zb := cw_behind W a3.1 hy hpl
      obtain ⟨t2, b1, b2, b3, b4, b5⟩ := H _ t1 hpt a3
      obtain ⟨t, f1, f2, f3, f4⟩ := fin (i + 1) hj (f_X3_look G) y hy t1 a3 (fun q => totL T kd tl n c tn L e i (bh n y (pkL T kd tl n c tn L e (i + 1) y)) q) (fun q hq => rfl) (iI ((plE c e i : Nat) : Int)) ⟨t2, by rw [pr_s]; exact b1, b2, b3, b4, fun i2 hi2 => by
        obtain rfl : i2 = i := by omega
        exact b5, fun q u hq hu hf => by
          rw [pr_s]
          have et := ol_tot W hpt (show i < 8 by omega) hq u
          rw [(hu.2.1.tot hpt (by omega) (hf _ b5)).2.1 q hq] at et
          exact et⟩
      refine ⟨t, ?_, a2.tr f2, f3, a4.tr f4.1, f4.2⟩
      refine e_bdp (ol_cell W.2.2.2 hj s) ?_
      refine e_if_f (by simp (disch := omega) only [Int.toNat_natCast, iI_lt, iI_le, iI_eq, iI_add, iI_sub, iI_mul, iI_neg, iI_clamp, inb_ii, z_0]; omega) ?_
      refine e_if_f (by simp (disch := omega) only [Int.toNat_natCast, iI_lt, iI_le, iI_eq, iI_add, iI_sub, iI_mul, iI_neg, iI_clamp, inb_ii, z_42784]; omega) ?_
      refine e_gd (by simp (disch := omega) only [Int.toNat_natCast, iI_lt, iI_le, iI_eq, iI_add, iI_sub, iI_mul, iI_neg, iI_clamp, inb_ii]; omega) ?_
      rw [iI_clamp (by omega), Int.toNat_natCast]
      refine e_if_t q ?_
      refine e_jn ?_
      refine e_if_f (by simp (disch := omega) only [Int.toNat_natCast, iI_lt, iI_le, iI_eq, iI_add, iI_sub, iI_mul, iI_neg, iI_clamp, inb_ii, z_0]; omega) ?_
      refine e_bd a1 ?_
      refine e_bdp zb ?_
      refine e_bdp ha ?_
      exact f1
    · refine ⟨s, ?_, CZ.rf _ _ _, hs, FM.rf s, q⟩
      refine e_bdp (ol_cell W.2.2.2 hj s) ?_
      refine e_if_f (by simp (disch := omega) only [Int.toNat_natCast, iI_lt, iI_le, iI_eq, iI_add, iI_sub, iI_mul, iI_neg, iI_clamp, inb_ii, z_0]; omega) ?_
      refine e_if_f (by simp (disch := omega) only [Int.toNat_natCast, iI_lt, iI_le, iI_eq, iI_add, iI_sub, iI_mul, iI_neg, iI_clamp, inb_ii, z_42784]; omega) ?_
      refine e_gd (by simp (disch := omega) only [Int.toNat_natCast, iI_lt, iI_le, iI_eq, iI_add, iI_sub, iI_mul, iI_neg, iI_clamp, inb_ii]; omega) ?_
      rw [iI_clamp (by omega), Int.toNat_natCast]
      exact e_if_f q rfl
/-- the rows that one comes to -/
def pthL (T : TW) (kd tl : Nat → Nat) (n c : Nat) (tn : Nat → Nat) (L : Int32) (e N x : Nat) : Nat → Nat
  | 0 => x
  | d + 1 => bh n (pthL T kd tl n c tn L e N x d) (pkL T kd tl n c tn L e (N - d) (pthL T kd tl n c tn L e N x d))
theorem pth_lt (W : WOK T kd tl n c tn) (L : Int32) (e N : Nat) (hx : x < szR n) : ∀ d, pthL T kd tl n c tn L e N x d < szR n := by
  intro d
  induction d with
  | zero => exact hx
  | succ d ih => exact pkL_lt W L e (N - d) ih
theorem cl_tellL (W : WOK T kd tl n c tn) {L : Int32} {e N : Nat} (hN : N ≤ 8) (hx : x < szR n) : ∀ (k F d : Nat) (s : SS), d + k = N → k < F → 1 ≤ d → LKS T kd tl n c tn L e s → (d < N → s 42 (8 * (br n + pthL T kd tl n c tn L e N x d) + (N - d)) ≠ UNK) → (∀ i, i < d → s 44 i = iI (pkL T kd tl n c tn L e (N - i) (pthL T kd tl n c tn L e N x i))) → ∃ t, lp_X3_tell_13 (iI N) F (wl_ n (pthL T kd tl n c tn L e N x d)) (iI d) s = some (0, t) ∧ CZ 44 44 s t ∧ LKS T kd tl n c tn L e t ∧ ∀ i, i < N → t 44 i = iI (pkL T kd tl n c tn L e (N - i) (pthL T kd tl n c tn L e N x i)) := by
  intro k
  induction k with
  | zero =>
    intro F d s hd hF h1 hs hf h44
    cases F with
    | zero => omega
    | succ F =>
      obtain rfl : d = N := by omega
      refine ⟨s, ?_, CZ.rf _ _ _, hs, h44⟩
      rw [lp_X3_tell_13]
      exact e_if_t (by simp (disch := omega) only [Int.toNat_natCast, iI_lt, iI_le, iI_eq, iI_add, iI_sub, iI_mul, iI_neg, iI_clamp, inb_ii]; omega) rfl
  | succ k ih =>
    intro F d s hd hF h1 hs hf h44
    cases F with
    | zero => omega
    | succ F =>
      have hw := pth_lt W L e N hx d
      have hb := W.sz hw
      have hv := hs.2.1.tot hw (j := N - d) (by omega) (hf (by omega))
      have hpl := pkL_le W L e (N - d) hw
      have es : iI (N : Int) - iI (d : Int) = iI ((N - d : Nat) : Int) := by rw [iI_sub]; congr 1; omega
      have hs1 : LKS T kd tl n c tn L e (up s 44 d (iI (pkL T kd tl n c tn L e (N - d) (pthL T kd tl n c tn L e N x d)))) := ⟨hs.1.up1 (by omega), by
        unfold MO
        rw [up_cell (q := 42) (by omega), up_cell (q := 43) (by omega)]
        exact hs.2.1, by rw [up_cell (by omega)]; exact hs.2.2⟩
      obtain ⟨t, f1, f2, f3⟩ := ih F (d + 1) (up s 44 d (iI (pkL T kd tl n c tn L e (N - d) (pthL T kd tl n c tn L e N x d)))) (by omega) (by omega) (by omega) hs1 (by
        intro hd2
        rw [up_cell (by omega)]
        exact hv.2.2 (N - (d + 1)) (by omega)) (by
        intro i hi
        by_cases w : i = d
        · subst w; exact up_at _ _ _ _
        · rw [up_slot w]; exact h44 i (by omega))
      refine ⟨t, ?_, (CZ.up1 (by omega)).tr f2, f3⟩
      rw [lp_X3_tell_13]
      refine e_if_f (by simp (disch := omega) only [Int.toNat_natCast, iI_lt, iI_le, iI_eq, iI_add, iI_sub, iI_mul, iI_neg, iI_clamp, inb_ii]; omega) ?_
      refine e_if_f (by simp (disch := omega) only [Int.toNat_natCast, iI_lt, iI_le, iI_eq, iI_add, iI_sub, iI_mul, iI_neg, iI_clamp, inb_ii, z_8]; omega) ?_
      rw [es]
      refine e_bdp (ol_cell W.2.2.2 (by omega) s) ?_
      refine e_jn ?_
      refine e_jn ?_
      refine e_if_f (by simp (disch := omega) only [Int.toNat_natCast, iI_lt, iI_le, iI_eq, iI_add, iI_sub, iI_mul, iI_neg, iI_clamp, inb_ii, z_0]; omega) ?_
      refine e_if_t (by simp (disch := omega) only [Int.toNat_natCast, iI_lt, iI_le, iI_eq, iI_add, iI_sub, iI_mul, iI_neg, iI_clamp, inb_ii, z_42784]; omega) ?_
      refine e_gd (by simp (disch := omega) only [Int.toNat_natCast, iI_lt, iI_le, iI_eq, iI_add, iI_sub, iI_mul, iI_neg, iI_clamp, inb_ii]; omega) ?_
      rw [iI_clamp (by omega), Int.toNat_natCast, iI_clamp (by omega), Int.toNat_natCast, hv.1]
      refine e_gd (by simp (disch := omega) only [Int.toNat_natCast, iI_lt, iI_le, iI_eq, iI_add, iI_sub, iI_mul, iI_neg, iI_clamp, inb_ii]; omega) ?_
      refine e_lts ?_
      refine e_gd (by simp (disch := omega) only [Int.toNat_natCast, iI_lt, iI_le, iI_eq, iI_add, iI_sub, iI_mul, iI_neg, iI_clamp, inb_ii]; omega) ?_
      rw [up_at]
      refine e_bdp (cw_behind W hs1.1 hw hpl) ?_
      rw [nx_s]
      exact f1
