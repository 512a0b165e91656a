/-! how soon, the class: the loops, the answer -/
variable {T : TW} {kd tl tn : Nat → Nat} {n c x p : Nat} {s t u : SS}
theorem BIV.q {i m f : Nat} (h : BIV T kd tl n c tn x p i m f s) (g : CQ s t) (hc : CW T kd tl c tn t) : BIV T kd tl n c tn x p i m f t := by
  have e46 : t 46 = s 46 := g.1 46 (by omega) (by omega) (by omega) (by omega) (by omega)
  have e47 : t 47 = s 47 := g.1 47 (by omega) (by omega) (by omega) (by omega) (by omega)
  have e48 : t 48 = s 48 := g.1 48 (by omega) (by omega) (by omega) (by omega) (by omega)
  have e49 : t 49 = s 49 := g.1 49 (by omega) (by omega) (by omega) (by omega) (by omega)
  obtain ⟨lev, h1, h2, h3, h4, h5⟩ := h
  refine ⟨lev, ?_, ?_, ?_, ?_, ?_⟩
  · unfold QI at h1 ⊢
    rw [e46, e48]
    exact ⟨hc, h1.2⟩
  · unfold QQ at h2 ⊢
    rw [e47, e48]
    exact h2
  · unfold QS at h3 ⊢
    rw [e47]
    exact h3
  · unfold QB at h4 ⊢
    rw [e47, e48]
    exact h4
  · unfold G0 GFI CHN at h5 ⊢
    rw [e47, e48, e49]
    exact h5
theorem CQ.kep (g : CQ s t) : KEP s t := ⟨g.z, fun j _ _ => by rw [g.1 46 (by omega) (by omega) (by omega) (by omega) (by omega)]⟩
theorem biv_skip (W : WOK T kd tl n c tn) (hx : x < szR n) (hp : p < c) {i m f y w : Nat} (h : BIV T kd tl n c tn x p i m f s) (hy : y < szR n) (hw : w < c) (h47 : s 47 i = iI (ce n y w)) (hal : alB T n tn y w (if m = 0 then 8 else m - 1) = false) : BIV T kd tl n c tn x p i (m + 1) f s := by
  have hn := W.2.2.2
  have hc := W.cc
  refine biv_mono h (fun k => ?_)
  by_cases q : ∃ ik lev, GFI T n c tn x p i m f lev k ik s ∧ i = ik
  · left
    obtain ⟨ik, lev, a, e⟩ := q
    obtain ⟨a1, a2, a3, a4, a5, a6, a7, a8, a9, a10, a11, a12⟩ := a
    obtain ⟨g1, g2, g3⟩ := gpt_ok hn hx hp a1 k (by omega)
    rw [← e, h47] at a6
    obtain ⟨ey, ew⟩ := ce_ii hn hy (by omega) g1 (by have := W.pl (p + k); omega) a6
    rw [← ey, ← ew]
    cases z : gP T n c tn y w (if m = 0 then 8 else m - 1) with
    | false => rfl
    | true =>
      have := (gP_iff.mp z).1
      rw [hal] at this
      cases this
  · right
    intro ik lev a e
    exact q ⟨ik, lev, a, e⟩
theorem dne_no (W : WOK T kd tl n c tn) (hx : x < szR n) (hp : p < c) (h : DNE T kd tl n c tn x p s) : (0 : Int32) ≤ s 46 7 := by
  obtain ⟨-, a, b, d, -⟩ := h
  have g := gpt_ok W.2.2.2 hx hp a (dq T n c tn x p) (Nat.le_refl _)
  have := ce_lt W.2.2.2 g.1 (show (p + dq T n c tn x p) % c < 4 by have := W.pl (p + dq T n c tn x p); have := W.cc; omega)
  rw [d]
  simp (disch := omega) only [Int.toNat_natCast, iI_lt, iI_le, iI_eq, iI_add, iI_sub, iI_mul, iI_neg, iI_clamp, inb_ii, z_0]
  omega
theorem biv_f (W : WOK T kd tl n c tn) {i m f : Nat} (h : BIV T kd tl n c tn x p i m f s) : f ≤ 18724 := by
  have hbl := br_le W.2.2.2
  obtain ⟨lev, b, -⟩ := h
  rw [b.2.2.2]
  have := dcF_le UNK (s 48) (4 * br n) (4 * szR n)
  omega
theorem biv_rel (W : WOK T kd tl n c tn) {i m f : Nat} (h : BIV T kd tl n c tn x p i m f s) {sa : SS} (hR : REL n s sa) : RELf n f s sa := by
  have hf := biv_f W h
  obtain ⟨lev, b, -⟩ := h
  exact hR.at b.2.1 (by omega)
theorem cs_accL (W : WOK T kd tl n c tn) (hx : x < szR n) (hp : p < c) {i y w : Nat} (hy : y < szR n) (hw : w < c) (hi : i < 21392) (K : SS → Res) : ∀ (k F l : Nat) (s sa : SS), l + k = 8 → k < F → REL n s sa → ((∃ f, i < f ∧ BIV T kd tl n c tn x p i (l + 1) f s ∧ s 47 i = iI (ce n y w)) ∨ DNE T kd tl n c tn x p s) → ∃ ta t, lp_X0_solve_210 (iI i) (wl_ n y) (may T n y (tn w)) (iI (((w + 1) % c : Nat) : Int)) K F (iI l) sa = K ta ∧ REL n t ta ∧ KEPA sa ta ∧ KEP s t ∧ ((∃ f, i < f ∧ BIV T kd tl n c tn x p i 9 f t ∧ t 47 i = iI (ce n y w)) ∨ DNE T kd tl n c tn x p t) := by
  intro k
  induction k with
  | zero =>
    intro F l s sa hl hF hR h
    cases F with
    | zero => omega
    | succ F =>
      obtain rfl : l = 8 := by omega
      refine ⟨sa, s, ?_, hR, KEPA.rf sa, KEP.rf s, h⟩
      rw [lp_X0_solve_210]
      exact e_if_t (by decide) rfl
  | succ k ih =>
    intro F l s sa hl hF hR h
    cases F with
    | zero => omega
    | succ F =>
      have hh := has_bt (x := may T n y (tn w)) (l := l) (by omega)
      have hal := al_l (T := T) (n := n) (tn := tn) (y := y) (w := w) (l := l) (by omega)
      have cf : ¬ (8 : Int32) ≤ iI (l : Int) := by simp (disch := omega) only [Int.toNat_natCast, iI_lt, iI_le, iI_eq, iI_add, iI_sub, iI_mul, iI_neg, iI_clamp, inb_ii, z_8]; omega
      by_cases q : bt (may T n y (tn w)) l = true
      · have key : ∃ ta t1, f_X0_comeTo (wl_ n (bh n y l)) (iI (((w + 1) % c : Nat) : Int)) (iI l) (iI i) sa = some (0, ta) ∧ REL n t1 ta ∧ KEPA sa ta ∧ KEP s t1 ∧ ((∃ f, i < f ∧ BIV T kd tl n c tn x p i (l + 1 + 1) f t1 ∧ t1 47 i = iI (ce n y w)) ∨ DNE T kd tl n c tn x p t1) := by
          rcases h with ⟨f, a, b, d⟩ | h
          · obtain ⟨ta, t1, e1, eR, eK, e2, e3⟩ := cs_act W hx hp (m := l + 1) (by omega) a hy hw d b (by rw [if_neg (by omega), Nat.add_sub_cancel, hal]; exact q) (biv_rel W b hR)
            rw [if_neg (by omega), Nat.add_sub_cancel] at e1
            refine ⟨ta, t1, e1, eR, eK, e2, ?_⟩
            rcases e3 with ⟨f2, g1, g2, g3⟩ | g
            · exact Or.inl ⟨f2, by omega, g2, by rw [g3]; exact d⟩
            · exact Or.inr g
          · exact ⟨sa, s, co_done ((hR.no W.2.2.2).mpr (dne_no W hx hp h)), hR, KEPA.rf sa, KEP.rf s, Or.inr h⟩
        have hcw : CW T kd tl c tn sa := by
          refine hR.cw ?_
          rcases h with ⟨f, a, ⟨lev, b, -⟩, d⟩ | h
          · exact b.1
          · exact h.1
        obtain ⟨ta1, t1, e1, eR, eK, e2, e3⟩ := key
        obtain ⟨ta, t, f1, fR, fK, f2, f3⟩ := ih F (l + 1) t1 ta1 (by omega) (by omega) eR e3
        refine ⟨ta, t, ?_, fR, eK.tr fK, e2.tr f2, f3⟩
        rw [lp_X0_solve_210]
        refine e_if_f cf ?_
        refine e_jn ?_
        refine e_if_t (hh.mpr q) ?_
        refine e_bdp (cw_behind W hcw hy (l := l) (by omega)) ?_
        refine e_bd e1 ?_
        rw [nx_s]
        exact f1
      · obtain ⟨ta, t, f1, fR, fK, f2, f3⟩ := ih F (l + 1) s sa (by omega) (by omega) hR (by
          rcases h with ⟨f, a, b, d⟩ | h
          · exact Or.inl ⟨f, a, biv_skip W hx hp b hy hw d (by rw [if_neg (by omega), Nat.add_sub_cancel, hal]; simpa using q), d⟩
          · exact Or.inr h)
        refine ⟨ta, t, ?_, fR, fK, f2, f3⟩
        rw [lp_X0_solve_210]
        refine e_if_f cf ?_
        refine e_jn ?_
        refine e_if_f (mt hh.mp q) ?_
        rw [nx_s]
        exact f1
theorem biv_next (W : WOK T kd tl n c tn) (hx : x < szR n) (hp : p < c) {i f : Nat} (hi : i < f) (h : BIV T kd tl n c tn x p i 9 f s) : BIV T kd tl n c tn x p (i + 1) 0 f s := by
  have hn := W.2.2.2
  obtain ⟨lev, h1, h2, h3, h4, h5⟩ := h
  refine ⟨lev, h1, h2, h3, ?_, ?_⟩
  · intro hi2 y w y2 w2 a1 a2 a3 a4 a5 a6
    obtain ⟨y3, w3, b1, b2, b3, b4, b5⟩ := h2.1 i hi
    have u1 := h4 hi y3 w3 y2 w2 b1 b2 a3 a4 b3 a6
    have u2 := h3 i (i + 1) y3 w3 y w (by omega) hi2 b1 b2 a1 a2 b3 a5
    omega
  · rcases h5 with a | ⟨k, ik, a⟩
    · exact Or.inl a
    · right
      obtain ⟨a1, a2, a3, a4, a5, a6, a7, a8, a9, a10, a11, a12⟩ := a
      obtain ⟨g1, g2, g3⟩ := gpt_ok hn hx hp a1 k (by omega)
      have hne : i ≠ ik := by
        intro e
        obtain ⟨u1, u2, -⟩ := gct_ok g2 (by omega)
        have := a12 e (gct T n c tn (gpt T n c tn x p k) ((p + k) % c)) (by unfold thr; omega)
        rw [this] at u1
        cases u1
      exact ⟨k, ik, a1, a2, a3, by omega, a5, a6, a7, a8, a9, a10, a11, fun _ l hl => by unfold thr at hl; omega⟩
theorem cs_main (W : WOK T kd tl n c tn) (hx : x < szR n) (hp : p < c) (K : SS → Res) : ∀ (m N i f : Nat) (s sa : SS), i + m = 18725 → m < N → i ≤ f → RELf n f s sa → BIV T kd tl n c tn x p i 0 f s → ∃ ta t, lp_X0_solve_110 K N (iI i) sa = K ta ∧ REL n t ta ∧ KEPA sa ta ∧ (DNE T kd tl n c tn x p t ∨ (¬ FQ T n c tn x p ∧ CW T kd tl c tn t ∧ t 46 7 = -1)) := by
  have hn := W.2.2.2
  have hc := W.cc
  have stop : ∀ (N i : Nat) (s sa : SS), i < 18725 → 0 < N → REL n s sa → DNE T kd tl n c tn x p s → lp_X0_solve_110 K N (iI i) sa = K sa := by
    intro N i s sa hi hN hR h
    obtain ⟨N, rfl⟩ : ∃ M, N = M + 1 := ⟨N - 1, by omega⟩
    rw [lp_X0_solve_110]
    by_cases q : sa 46 5 ≤ iI (i : Int)
    · exact e_if_t q rfl
    · refine e_if_f q ?_
      refine e_if_f (by simp (disch := omega) only [Int.toNat_natCast, iI_lt, iI_le, iI_eq, iI_add, iI_sub, iI_mul, iI_neg, iI_clamp, inb_ii, z_21392]; omega) ?_
      exact e_if_t ((hR.no hn).mpr (dne_no W hx hp h)) rfl
  intro m
  induction m with
  | zero =>
    intro N i f s sa hi hN hif hR h
    have := biv_f W h
    omega
  | succ m ih =>
    intro N i f s sa hi hN hif hR h
    have hf := biv_f W h
    cases N with
    | zero => omega
    | succ N =>
      obtain ⟨lev, h1, h2, h3, h4, h5⟩ := id h
      by_cases q : i = f
      · refine ⟨sa, s, ?_, ⟨f, hR⟩, KEPA.rf sa, ?_⟩
        · rw [lp_X0_solve_110]
          exact e_if_t (by rw [hR.2.2.1]; simp (disch := omega) only [Int.toNat_natCast, iI_lt, iI_le, iI_eq, iI_add, iI_sub, iI_mul, iI_neg, iI_clamp, inb_ii]; omega) rfl
        · right
          rcases h5 with a | ⟨k, ik, a⟩
          · exact ⟨a.1, h1.1, h1.2.2.1⟩
          · obtain ⟨a1, a2, a3, a4, a5, -⟩ := a
            omega
      · have hi2 : i < f := by omega
        obtain ⟨y, w, b1, b2, b3, b4, b5⟩ := h2.1 i hi2
        have hw := W.tt b2
        obtain ⟨y9, w9, l9, ip9, d1, d2, d3, d4, d5, d6, -⟩ := hR.2.2.2.2.2.1 i hi2
        rw [b3] at d3
        obtain ⟨ey, ew⟩ := ce_ii hn b1 (by omega) d1 d2 d3
        rw [← ey] at d5
        rw [← ew] at d6
        have icl : Int32.toNatClampNeg (iI (i : Int)) = i := by rw [iI_clamp (by omega), Int.toNat_natCast]
        have k0 : f_X11_slotOf (lgt (sa 47) (Int32.toNatClampNeg (iI (i : Int)))) 0 16 sa = some (wl_ n y) := by rw [icl, ← d5]; rfl
        have k1 : f_X11_slotOf (lgt (sa 47) (Int32.toNatClampNeg (iI (i : Int)))) 1 16 sa = some (iI w) := by rw [icl, ← d6]; rfl
        have hca : CW T kd tl c tn sa := REL.cw ⟨f, hR⟩ h1.1
        have h6 := REL.m1 hn ⟨f, hR⟩ h1.2.2.1
        obtain ⟨sa1, e1, e2, e3⟩ := cw_may W hca b1 hw
        obtain ⟨s1, eR, eq, ec⟩ := hR.q e2 e3
        have e47 : s1 47 = s 47 := eq.1 47 (by omega) (by omega) (by omega) (by omega) (by omega)
        obtain ⟨sa2, s2, g1, gR, gK, g2, g3⟩ := cs_act W hx hp (m := 0) (by omega) hi2 b1 b2 (by rw [e47]; exact b3) (h.q eq ec) al_8 eR
        rw [if_pos rfl, bh_8] at g1
        obtain ⟨ta, t, m1, mR, mK, m2, m3⟩ := cs_accL W hx hp b1 b2 (show i < 21392 by omega) (fun (s35 : SS) => lp_X0_solve_110 K N (iI (i : Int) + 1) s35) 8 FU 0 s2 sa2 rfl (fu_lt (by omega)) gR (by
          rcases g3 with ⟨f2, z1, z2, z3⟩ | z
          · exact Or.inl ⟨f2, by omega, z2, by rw [z3, e47]; exact b3⟩
          · exact Or.inr z)
        have run : lp_X0_solve_110 K (N + 1) (iI i) sa = lp_X0_solve_110 K N (iI ((i + 1 : Nat) : Int)) ta := by
          rw [lp_X0_solve_110]
          refine e_if_f (by rw [hR.2.2.1]; simp (disch := omega) only [Int.toNat_natCast, iI_lt, iI_le, iI_eq, iI_add, iI_sub, iI_mul, iI_neg, iI_clamp, inb_ii]; omega) ?_
          refine e_if_f (by simp (disch := omega) only [Int.toNat_natCast, iI_lt, iI_le, iI_eq, iI_add, iI_sub, iI_mul, iI_neg, iI_clamp, inb_ii, z_21392]; omega) ?_
          refine e_if_f (by rw [h6]; decide) ?_
          refine e_gd (by simp (disch := omega) only [Int.toNat_natCast, iI_lt, iI_le, iI_eq, iI_add, iI_sub, iI_mul, iI_neg, iI_clamp, inb_ii]; omega) ?_
          refine e_bdp k0 ?_
          refine e_gd (by simp (disch := omega) only [Int.toNat_natCast, iI_lt, iI_le, iI_eq, iI_add, iI_sub, iI_mul, iI_neg, iI_clamp, inb_ii]; omega) ?_
          refine e_bdp k1 ?_
          refine e_bdp (cw_turn W hca b2) ?_
          refine e_bd e1 ?_
          refine e_bdp (cw_after W e3 b2) ?_
          refine e_bd g1 ?_
          refine e_jn ?_
          refine Eq.trans m1 ?_
          rw [nx_s]
        have kk : KEPA sa ta := (e2.kepa.tr gK).tr mK
        rcases m3 with ⟨f2, z1, z2, z3⟩ | z
        · obtain ⟨ua, u, r1, rR, rK, r3⟩ := ih N (i + 1) f2 t ta (by omega) (by omega) (by omega) (biv_rel W z2 mR) (biv_next W hx hp z1 z2)
          exact ⟨ua, u, run.trans r1, rR, kk.tr rK, r3⟩
        · refine ⟨ta, t, run.trans (stop N (i + 1) t ta (by omega) (by omega) mR z), mR, kk, Or.inl z⟩
