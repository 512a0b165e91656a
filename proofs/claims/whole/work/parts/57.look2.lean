/-! looking ahead: look, tell, solve -/
variable {T : TW} {kd tl tn : Nat → Nat} {n c x p : Nat} {s t u : SS}
theorem pk_unk (W : WOK T kd tl n c tn) (L : Int32) (e j : Nat) {y : Nat} (hy : y < szR n) : iI ((pkL T kd tl n c tn L e j y + 1 : Nat) : Int) ≠ 0 ∧ sml 4 (iI ((pkL T kd tl n c tn L e j y + 1 : Nat) : Int)) := by
  have := pkL_le W L e j hy
  refine ⟨?_, sml_of (by omega) (by omega)⟩
  intro h
  rw [z_0, iI_eq (by omega) (by omega)] at h
  omega
/-- a day's answers are written down -/
def wrL (s : SS) (w j : Nat) (P : Int64) (v : Int32) : SS := upr (upr s 43 (lset (s 43) (8 * w + j) P)) 42 (lset (s 42) w (wsl (lgt (s 42) w) (iI j) 4 v))
theorem LKS.wr (W : WOK T kd tl n c tn) {L : Int32} {e : Nat} (h : LKS T kd tl n c tn L e s) {y j : Nat} (hy : y < szR n) (hj : j < 8) {P : Int64} (hP : ∀ q : Nat, q < 4 → slt P (iI q) 16 = totL T kd tl n c tn L e j y q + 10000) (h0 : gl 4 s 42 (br n + y) j = 0) (hn : ∀ i, j = i + 1 → gl 4 s 42 (br n + bh n y (pkL T kd tl n c tn L e j y)) i ≠ 0) :
    LKS T kd tl n c tn L e (wrL s (br n + y) j P (iI ((pkL T kd tl n c tn L e j y + 1 : Nat) : Int))) ∧ FM s (wrL s (br n + y) j P (iI ((pkL T kd tl n c tn L e j y + 1 : Nat) : Int))) ∧ gl 4 (wrL s (br n + y) j P (iI ((pkL T kd tl n c tn L e j y + 1 : Nat) : Int))) 42 (br n + y) j ≠ 0 ∧ UP j s (wrL s (br n + y) j P (iI ((pkL T kd tl n c tn L e j y + 1 : Nat) : Int))) ∧ CZ 42 43 s (wrL s (br n + y) j P (iI ((pkL T kd tl n c tn L e j y + 1 : Nat) : Int))) := by
  obtain ⟨v0, vs⟩ := pk_unk W L e j hy
  generalize hv : iI ((pkL T kd tl n c tn L e j y + 1 : Nat) : Int) = v at v0 vs ⊢
  have e42 : wrL s (br n + y) j P v 42 = lset (s 42) (br n + y) (wsl (lgt (s 42) (br n + y)) (iI j) 4 v) := upr_eq _ _ _
  have e43 : wrL s (br n + y) j P v 43 = lset (s 43) (8 * (br n + y) + j) P := by
    unfold wrL
    rw [upr_ne (by omega), upr_eq]
  have same : gl 4 (wrL s (br n + y) j P v) 42 (br n + y) j = v := by
    unfold gl
    rw [e42, lgt_lset]
    exact slt_same B4 (by omega) h0 vs
  have oth : ∀ w i, i < 8 → ¬ (w = br n + y ∧ i = j) → gl 4 (wrL s (br n + y) j P v) 42 w i = gl 4 s 42 w i := by
    intro w i hi hne
    unfold gl
    rw [e42]
    by_cases q : w = br n + y
    · subst q
      rw [lgt_lset]
      exact slt_ne B4 (by omega) (by omega) (fun z => hne ⟨rfl, z⟩) vs
    · rw [lgt_ne _ _ _ _ q]
  have fm : FM s (wrL s (br n + y) j P v) := by
    intro w i hi a
    by_cases q : w = br n + y ∧ i = j
    · obtain ⟨rfl, rfl⟩ := q
      exact absurd h0 a
    · rw [oth w i hi q]
      exact a
  refine ⟨⟨(h.1.ur (by omega)).ur (by omega), ?_, ?_⟩, fm, by rw [same]; exact v0, fun w i a b => oth w i b (by omega), (CZ.ur (by omega)).tr (CZ.ur (by omega))⟩
  · intro y2 j2 hy2 hj2
    by_cases q : y2 = y ∧ j2 = j
    · obtain ⟨rfl, rfl⟩ := q
      refine Or.inr ⟨by rw [same, hv], ?_, fun i hi => fm _ _ (by omega) (hn i hi)⟩
      intro r hr
      unfold gl
      rw [e43, lgt_lset]
      exact hP r hr
    · rw [oth _ _ hj2 (by omega)]
      rcases h.2.1 y2 j2 hy2 hj2 with a | a
      · exact Or.inl a
      · refine Or.inr ⟨a.1, ?_, fun i hi => fm _ _ (by omega) (a.2.2 i hi)⟩
        intro r hr
        have := a.2.1 r hr
        unfold gl at this ⊢
        rw [e43, lgt_ne _ _ _ _ (by omega)]
        exact this
  · unfold wrL
    rw [upr_ne (by omega), upr_ne (by omega)]
    exact h.2.2
theorem cl_lookL (W : WOK T kd tl n c tn) {L : Int32} {e j y : Nat} (hj : j < 8) (hy : y < szR n) {v1 v9 v12 : Int32} (K : Int64 → SS → Res) (s0 : SS) (Z : Nat → Int32) (hZ : ∀ q, q < 4 → totL T kd tl n c tn L e j y q = wth T n y q + Z q) (hT : ∀ (q : Nat) (u : SS), q < 4 → LKS T kd tl n c tn L e u → FM s0 u → f_X3_totalOf v12 (iI (j : Int) - 1) (iI q) u = some (Z q)) : ∀ (k N q : Nat) (P : Int64) (s : SS), q + k = 4 → k < N → LKS T kd tl n c tn L e s → FM s0 s → (∀ r : Nat, r < q → slt P (iI r) 16 = totL T kd tl n c tn L e j y r + 10000) → (∀ r : Nat, q ≤ r → r < 4 → slt P (iI r) 16 = 0) → ∃ t Q, lp_X3_look_110 (wl_ n y) (iI j) v1 v9 v12 K N P (iI q) s = K Q t ∧ CQ s t ∧ LKS T kd tl n c tn L e t ∧ ∀ r : Nat, r < 4 → slt Q (iI r) 16 = totL T kd tl n c tn L e j y r + 10000 := by
  intro k
  induction k with
  | zero =>
    intro N q P s hq hN hs hf h43 _
    cases N with
    | zero => omega
    | succ N =>
      obtain rfl : q = 4 := by omega
      refine ⟨s, P, ?_, CQ.rf s, hs, h43⟩
      rw [lp_X3_look_110]
      exact e_if_t (by decide) rfl
  | succ k ih =>
    intro N q P s hq hN hs hf h43 hz
    cases N with
    | zero => omega
    | succ N =>
      obtain ⟨t1, e1, e2, e3⟩ := cw_worth W hs.1 hy (m := q) (by omega)
      obtain ⟨g1, g2, g3⟩ := hs.q e2 e3
      have sm := totL_sml (kd := kd) (tl := tl) (tn := tn) (n := n) (c := c) W.1 L e (j := j) (y := y) (q := q) hj
      obtain ⟨t, Q, f1, f2, f3, f4⟩ := ih N (q + 1) (wsl P (iI q) 16 (totL T kd tl n c tn L e j y q + 10000)) t1 (by omega) (by omega) g1 (hf.tr g2) (by
        intro r hr
        by_cases w : r = q
        · subst w; exact slt_same B16 (by omega) (hz r (by omega) (by omega)) sm
        · rw [slt_ne B16 (by omega) (by omega) w sm]; exact h43 r (by omega)) (by
        intro r a b
        rw [slt_ne B16 (by omega) (by omega) (by omega) sm]
        exact hz r (by omega) b)
      refine ⟨t, Q, ?_, e2.tr f2, f3, f4⟩
      rw [lp_X3_look_110]
      refine e_if_f (by simp (disch := omega) only [Int.toNat_natCast, iI_lt, iI_le, iI_eq, iI_add, iI_sub, iI_mul, iI_neg, iI_clamp, inb_ii, z_4]; omega) ?_
      refine e_bd e1 ?_
      refine e_bdp (hT q t1 (by omega) g1 (hf.tr g2)) ?_
      refine e_lt ?_
      rw [nx_s, ← hZ q (by omega)]
      exact f1
theorem cl_look (W : WOK T kd tl n c tn) {L : Int32} {e : Nat} : ∀ (j F : Nat), j < 8 → j + 2 ≤ F → LKH T kd tl n c tn L e j (f_X3_look F) := by
  have hN : ∀ (F : Nat) (w p : Int32) (s : SS), 1 ≤ F → f_X3_look F w p (-1) s = some (0, s) := by
    intro F w p s hF
    obtain ⟨G, rfl⟩ : ∃ G, F = G + 1 := ⟨F - 1, by omega⟩
    rw [f_X3_look]
    unfold o_X3_look
    refine e_lt ?_
    exact e_if_t (by decide) rfl
  have fin : ∀ (j : Nat) (hj : j < 8) (rf : Int32 → Int32 → Int32 → SS → Res) (y : Nat) (hy : y < szR n) (s : SS) (hs : LKS T kd tl n c tn L e s) (Z : Nat → Int32) (hZ : ∀ q, q < 4 → totL T kd tl n c tn L e j y q = wth T n y q + Z q) (pl : Int32) (h0 : gl 4 s 42 (br n + y) j = 0)
      (hr : ∃ t1, rf (wl_ n (bh n y (pkL T kd tl n c tn L e j y))) pl (iI (j : Int) - 1) s = some (0, t1) ∧ CZ 42 43 s t1 ∧ LKS T kd tl n c tn L e t1 ∧ FM s t1 ∧ (∀ i, j = i + 1 → gl 4 t1 42 (br n + bh n y (pkL T kd tl n c tn L e j y)) i ≠ 0) ∧ (∀ w, gl 4 t1 42 w j = gl 4 s 42 w j) ∧ UP j s t1 ∧ ∀ (q : Nat) (u : SS), q < 4 → LKS T kd tl n c tn L e u → FM t1 u → f_X3_totalOf (wl_ n (bh n y (pkL T kd tl n c tn L e j y))) (iI (j : Int) - 1) (iI q) u = some (Z q)),
      ∃ t, bd (rf (wl_ n (bh n y (pkL T kd tl n c tn L e j y))) pl (iI (j : Int) - 1) s) (fun (v14 : Int32) (s15 : SS) => jn (fun (v16 : Int64) (s17 : SS) => gd (inb (iI ((8 * (br n + y) + j : Nat) : Int)) 42784) (lts (upl s17 43 (Int32.toNatClampNeg (iI ((8 * (br n + y) + j : Nat) : Int))) v16) (fun (s19 : SS) => gd (inb (wl_ n y) 5348) (gd (inb (wl_ n y) 5348) (lts (upl s19 42 (Int32.toNatClampNeg (wl_ n y)) (wsl (lgt (s19 42) (Int32.toNatClampNeg (wl_ n y))) (iI j) 4 (iI (pkL T kd tl n c tn L e j y) + 1))) (fun (s20 : SS) => some (0, s20))))))) (fun (k18 : Int64 → SS → Res) => lp_X3_look_110 (wl_ n y) (iI j) (iI ((8 * (br n + y) + j : Nat) : Int)) (iI (pkL T kd tl n c tn L e j y)) (wl_ n (bh n y (pkL T kd tl n c tn L e j y))) k18 FU 0 0 s15)) = some (0, t) ∧ CZ 42 43 s t ∧ LKS T kd tl n c tn L e t ∧ FM s t ∧ gl 4 t 42 (br n + y) j ≠ 0 ∧ UP j s t := by
    intro j hj rf y hy s hs Z hZ pl h0 ⟨t1, a1, a2, a3, a4, a5, a7, a8, a6⟩
    have hb := W.sz hy
    obtain ⟨t, Q, f1, f2, f3, f4⟩ := cl_lookL W (v1 := iI ((8 * (br n + y) + j : Nat) : Int)) (v9 := iI (pkL T kd tl n c tn L e j y)) hj hy (fun (v16 : Int64) (s17 : SS) => gd (inb (iI ((8 * (br n + y) + j : Nat) : Int)) 42784) (lts (upl s17 43 (Int32.toNatClampNeg (iI ((8 * (br n + y) + j : Nat) : Int))) v16) (fun (s19 : SS) => gd (inb (wl_ n y) 5348) (gd (inb (wl_ n y) 5348) (lts (upl s19 42 (Int32.toNatClampNeg (wl_ n y)) (wsl (lgt (s19 42) (Int32.toNatClampNeg (wl_ n y))) (iI j) 4 (iI (pkL T kd tl n c tn L e j y) + 1))) (fun (s20 : SS) => some (0, s20))))))) t1 Z hZ a6 4 FU 0 0 t1 rfl (fu_lt (by omega)) a3 (FM.rf _) (by intro r hr; omega) (fun r _ hr => slt_0 B16 (by omega))
    have q42 : t 42 = t1 42 := f2.1 42 (by omega) (by omega) (by omega) (by omega) (by omega)
    have h2 := f3.wr W hy hj f4 (by rw [gl_cell q42, a7]; exact h0) (fun i hi => by rw [gl_cell q42]; exact a5 i hi)
    have fm : FM t1 t := fun w i _ a => by rw [gl_cell q42]; exact a
    refine ⟨_, ?_, (a2.tr f2.z).tr h2.2.2.2.2, h2.1, (a4.tr fm).tr h2.2.1, h2.2.2.1, (a8.tr (UP.cell q42)).tr h2.2.2.2.1⟩
    refine e_bd a1 ?_
    refine e_jn ?_
    refine Eq.trans f1 ?_
    refine e_gd (by simp (disch := omega) only [Int.toNat_natCast, iI_lt, iI_le, iI_eq, iI_add, iI_sub, iI_mul, iI_neg, iI_clamp, inb_ii]; omega) ?_
    refine e_upl0 ?_
    refine e_gd (wl_in W.2.2.2 hy) ?_
    refine e_gd (wl_in W.2.2.2 hy) ?_
    refine e_upl0 ?_
    rw [iI_clamp (by omega), Int.toNat_natCast, wl_cl W.2.2.2 hy, nx_s, upr_ne (by omega)]
    rfl
  have beg : ∀ (j : Nat) (_ : j < 8) (G : Nat) (y : Nat) (_ : y < szR n) (s : SS) (pl : Int32) (r : Res), (gl 4 s 42 (br n + y) j = 0 → (jn (fun (v9 : Int32) (s10 : SS) => bdp (f_X6_behind (wl_ n y) v9 s10) (fun (v12 : Int32) => bdp (f_X2_placeAfter pl s10) (fun (v13 : Int32) => bd (f_X3_look G v12 v13 (iI j - 1) s10) (fun (v14 : Int32) (s15 : SS) => jn (fun (v16 : Int64) (s17 : SS) => gd (inb (iI ((8 * (br n + y) + j : Nat) : Int)) 42784) (lts (upl s17 43 (Int32.toNatClampNeg (iI ((8 * (br n + y) + j : Nat) : Int))) v16) (fun (s19 : SS) => gd (inb (wl_ n y) 5348) (gd (inb (wl_ n y) 5348) (lts (upl s19 42 (Int32.toNatClampNeg (wl_ n y)) (wsl (lgt (s19 42) (Int32.toNatClampNeg (wl_ n y))) (iI j) 4 (v9 + 1))) (fun (s20 : SS) => some (0, s20))))))) (fun (k18 : Int64 → SS → Res) => lp_X3_look_110 (wl_ n y) (iI j) (iI ((8 * (br n + y) + j : Nat) : Int)) v9 v12 k18 FU 0 0 s15))))) (fun (k11 : Int32 → SS → Res) => if (iI j : Int32) = 0 then k11 8 s else bd (f_X3_pickOn (f_X3_look G) (wl_ n y) pl (iI j) s) (fun (v31 : Int32) (s32 : SS) => k11 v31 s32))) = r) → (gl 4 s 42 (br n + y) j ≠ 0 → some (0, s) = r) → f_X3_look (G + 1) (wl_ n y) pl (iI j) s = r := by
    intro j hj G y hy s pl r h1 h2
    have hb := W.sz hy
    rw [f_X3_look]
    unfold o_X3_look
    refine e_lt ?_
    rw [ol_c8]
    refine e_if_f (by simp (disch := omega) only [Int.toNat_natCast, iI_lt, iI_le, iI_eq, iI_add, iI_sub, iI_mul, iI_neg, iI_clamp, inb_ii, z_0]; omega) ?_
    refine e_if_f (by simp (disch := omega) only [Int.toNat_natCast, iI_lt, iI_le, iI_eq, iI_add, iI_sub, iI_mul, iI_neg, iI_clamp, inb_ii, z_8]; omega) ?_
    refine e_if_f (wl_c0 W.2.2.2 hy) ?_
    refine e_if_f (wl_c1 W.2.2.2 hy) ?_
    refine e_if_t (by simp (disch := omega) only [Int.toNat_natCast, iI_lt, iI_le, iI_eq, iI_add, iI_sub, iI_mul, iI_neg, iI_clamp, inb_ii, z_42784]; omega) ?_
    refine e_gd (wl_in W.2.2.2 hy) ?_
    refine e_bdp (gl_of W.2.2.2 hy s s) ?_
    by_cases q : gl 4 s 42 (br n + y) j = 0
    · refine e_if_t q ?_
      exact h1 q
    · refine e_if_f q ?_
      exact h2 q
  intro j
  induction j with
  | zero =>
    intro F hj hF y s hy hs
    obtain ⟨G, rfl⟩ : ∃ G, F = G + 1 := ⟨F - 1, by omega⟩
    have hb := W.sz hy
    by_cases q : gl 4 s 42 (br n + y) 0 = 0
    · have ha := cw_after W hs.1 (p := plE c e 0) (plE_lt W.cc.1)
      have zb := cw_behind W hs.1 hy (l := 8) (by omega)
      obtain ⟨t, f1, f2⟩ := fin 0 hj (f_X3_look G) y hy s hs (fun _ => 0) (fun q hq => rfl) (iI (((plE c e 0 + 1) % c : Nat) : Int)) q ⟨s, hN G _ _ _ (by omega), CZ.rf _ _ _, hs, FM.rf s, fun i hi => by omega, fun _ => rfl, UP.rf _ _, fun q u hq _ _ => ol_totN hq _ _⟩
      refine ⟨t, ?_, f2⟩
      refine beg 0 hj G y hy s _ _ (fun _ => ?_) (fun w => absurd q w)
      refine e_jn ?_
      refine e_if_t rfl ?_
      refine e_bdp zb ?_
      refine e_bdp ha ?_
      exact f1
    · refine ⟨s, ?_, CZ.rf _ _ _, hs, FM.rf s, q, UP.rf _ _⟩
      exact beg 0 hj G y hy s _ _ (fun w => absurd w q) (fun _ => rfl)
  | succ i ih =>
    intro F hj hF y s hy hs
    obtain ⟨G, rfl⟩ : ∃ G, F = G + 1 := ⟨F - 1, by omega⟩
    have H := ih G (by omega) (by omega)
    have hb := W.sz hy
    by_cases q : gl 4 s 42 (br n + y) (i + 1) = 0
    · obtain ⟨t1, a1, a2, a3, a4, a5⟩ := cl_pick W (by omega) H hy hs
      have hpl := pkL_le W L e (i + 1) hy
      have hpt := pkL_lt W L e (i + 1) hy
      have ha := cw_after W a3.1 (p := plE c e (i + 1)) (plE_lt W.cc.1)
      rw [plE_s W.cc.1 (by omega)] at ha
      have zb := cw_behind W a3.1 hy hpl
      obtain ⟨t2, b1, b2, b3, b4, b5, b6⟩ := H _ t1 hpt a3
      obtain ⟨t, f1, f2, f3, f4, f5, f6⟩ := fin (i + 1) hj (f_X3_look G) y hy t1 a3 (fun q => totL T kd tl n c tn L e i (bh n y (pkL T kd tl n c tn L e (i + 1) y)) q) (fun q hq => rfl) (iI ((plE c e i : Nat) : Int)) (by rw [a5 _ _ (by omega) hj]; exact q) ⟨t2, by rw [pr_s]; exact b1, b2, b3, b4, fun i2 hi2 => by
        obtain rfl : i2 = i := by omega
        exact b5, fun w => b6 w _ (by omega) hj, b6.m (by omega), fun q u hq hu hf => by
          rw [pr_s]
          exact ol_tot W hpt (show i < 8 by omega) hq u ((hu.2.1.tot hpt (by omega) (hf _ _ (by omega) b5)).2.1 q hq)⟩
      refine ⟨t, ?_, a2.tr f2, f3, a4.tr f4, f5, (a5.m (by omega)).tr f6⟩
      refine beg (i + 1) hj G y hy s _ _ (fun _ => ?_) (fun w => absurd q w)
      refine e_jn ?_
      refine e_if_f (by simp (disch := omega) only [Int.toNat_natCast, iI_lt, iI_le, iI_eq, iI_add, iI_sub, iI_mul, iI_neg, iI_clamp, inb_ii, z_0]; omega) ?_
      refine e_bd a1 ?_
      refine e_bdp zb ?_
      refine e_bdp ha ?_
      exact f1
    · refine ⟨s, ?_, CZ.rf _ _ _, hs, FM.rf s, q, UP.rf _ _⟩
      exact beg (i + 1) hj G y hy s _ _ (fun w => absurd w q) (fun _ => rfl)
/-- the rows that one comes to -/
def pthL (T : TW) (kd tl : Nat → Nat) (n c : Nat) (tn : Nat → Nat) (L : Int32) (e N x : Nat) : Nat → Nat
  | 0 => x
  | d + 1 => bh n (pthL T kd tl n c tn L e N x d) (pkL T kd tl n c tn L e (N - d) (pthL T kd tl n c tn L e N x d))
theorem pth_lt (W : WOK T kd tl n c tn) (L : Int32) (e N : Nat) (hx : x < szR n) : ∀ d, pthL T kd tl n c tn L e N x d < szR n := by
  intro d
  induction d with
  | zero => exact hx
  | succ d ih => exact pkL_lt W L e (N - d) ih
theorem cl_tellL (W : WOK T kd tl n c tn) {L : Int32} {e N : Nat} (hN : N ≤ 8) (hx : x < szR n) : ∀ (k F d : Nat) (s : SS), d + k = N → k < F → 1 ≤ d → LKS T kd tl n c tn L e s → (d < N → gl 4 s 42 (br n + pthL T kd tl n c tn L e N x d) (N - d) ≠ 0) → (∀ i, i < d → s 44 i = iI (pkL T kd tl n c tn L e (N - i) (pthL T kd tl n c tn L e N x i))) → ∃ t, lp_X3_tell_13 (iI N) F (wl_ n (pthL T kd tl n c tn L e N x d)) (iI d) s = some (0, t) ∧ CZ 44 44 s t ∧ LKS T kd tl n c tn L e t ∧ ∀ i, i < N → t 44 i = iI (pkL T kd tl n c tn L e (N - i) (pthL T kd tl n c tn L e N x i)) := by
  intro k
  induction k with
  | zero =>
    intro F d s hd hF h1 hs hf h44
    cases F with
    | zero => omega
    | succ F =>
      obtain rfl : d = N := by omega
      refine ⟨s, ?_, CZ.rf _ _ _, hs, h44⟩
      rw [lp_X3_tell_13]
      exact e_if_t (by simp (disch := omega) only [Int.toNat_natCast, iI_lt, iI_le, iI_eq, iI_add, iI_sub, iI_mul, iI_neg, iI_clamp, inb_ii]; omega) rfl
  | succ k ih =>
    intro F d s hd hF h1 hs hf h44
    cases F with
    | zero => omega
    | succ F =>
      have hw := pth_lt W L e N hx d
      have hb := W.sz hw
      have hv := hs.2.1.tot hw (j := N - d) (by omega) (hf (by omega))
      have hpl := pkL_le W L e (N - d) hw
      have es : iI (N : Int) - iI (d : Int) = iI ((N - d : Nat) : Int) := by rw [iI_sub]; congr 1; omega
      have hs1 : LKS T kd tl n c tn L e (up s 44 d (iI (pkL T kd tl n c tn L e (N - d) (pthL T kd tl n c tn L e N x d)))) := ⟨hs.1.up1 (by omega), by
        unfold MO gl
        rw [up_cell (q := 42) (by omega), up_cell (q := 43) (by omega)]
        exact hs.2.1, by rw [up_cell (by omega)]; exact hs.2.2⟩
      obtain ⟨t, f1, f2, f3⟩ := ih F (d + 1) (up s 44 d (iI (pkL T kd tl n c tn L e (N - d) (pthL T kd tl n c tn L e N x d)))) (by omega) (by omega) (by omega) hs1 (by
        intro hd2
        rw [gl_cell (up_cell (by omega))]
        exact hv.2.2 (N - (d + 1)) (by omega)) (by
        intro i hi
        by_cases w : i = d
        · subst w; exact up_at _ _ _ _
        · rw [up_slot w]; exact h44 i (by omega))
      refine ⟨t, ?_, (CZ.up1 (by omega)).tr f2, f3⟩
      rw [lp_X3_tell_13]
      refine e_if_f (by simp (disch := omega) only [Int.toNat_natCast, iI_lt, iI_le, iI_eq, iI_add, iI_sub, iI_mul, iI_neg, iI_clamp, inb_ii]; omega) ?_
      refine e_if_f (by simp (disch := omega) only [Int.toNat_natCast, iI_lt, iI_le, iI_eq, iI_add, iI_sub, iI_mul, iI_neg, iI_clamp, inb_ii, z_8]; omega) ?_
      have sk := gl_of (B := 4) (k := 42) (p := N - d) W.2.2.2 hw s s
      rw [hv.1] at sk
      rw [es]
      refine e_jn ?_
      refine e_jn ?_
      refine e_if_f (wl_c0 W.2.2.2 hw) ?_
      refine e_if_t (wl_c2 W.2.2.2 hw) ?_
      refine e_gd (wl_in W.2.2.2 hw) ?_
      refine e_bdp sk ?_
      rw [pr_s, iI_clamp (by omega), Int.toNat_natCast]
      refine e_gd (by simp (disch := omega) only [Int.toNat_natCast, iI_lt, iI_le, iI_eq, iI_add, iI_sub, iI_mul, iI_neg, iI_clamp, inb_ii]; omega) ?_
      refine e_lts ?_
      refine e_gd (by simp (disch := omega) only [Int.toNat_natCast, iI_lt, iI_le, iI_eq, iI_add, iI_sub, iI_mul, iI_neg, iI_clamp, inb_ii]; omega) ?_
      rw [up_at]
      refine e_bdp (cw_behind W hs1.1 hw hpl) ?_
      rw [nx_s]
      exact f1
