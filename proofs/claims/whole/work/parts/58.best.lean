/-! best and all of the class -/
variable {T : TW} {kd tl tn : Nat → Nat} {n c x p : Nat} {s t u : SS}
/-- what the class keeps of its last look -/
def MEM (T : TW) (kd tl : Nat → Nat) (c : Nat) (tn : Nat → Nat) (s : SS) : Prop := (s 41 8).toInt ≤ (s 0 15).toInt ∧ (s 41 8 = s 0 15 → ∃ (m e : Nat) (L : Int32), (1 ≤ m ∧ m ≤ 4) ∧ e < c ∧ s 41 9 = iI m ∧ s 41 10 = iI e ∧ s 41 7 = L ∧ MO T kd tl m c tn L e s)
theorem MO.of {L : Int32} {e : Nat} (h : MO T kd tl n c tn L e s) (e1 : t 42 = s 42) (e2 : t 43 = s 43) : MO T kd tl n c tn L e t := by
  unfold MO gl
  rw [e1, e2]
  exact h
theorem cl_recall (W : WOK T kd tl n c tn) {L : Int32} {e : Nat} (he : e < c) (h : CW T kd tl c tn s) (hm : MEM T kd tl c tn s) : ∃ t, f_X3_recall (iI n) (iI e) L (s 0 15) s = some (0, t) ∧ CZ 41 43 s t ∧ LKS T kd tl n c tn L e t ∧ t 41 8 = s 0 15 ∧ t 41 9 = iI n ∧ t 41 10 = iI e := by
  have hn := W.2.2.2
  have hb := br_le hn
  have hc := W.cc
  have fresh : ∃ t, (lts (up s 41 8 (s 0 15)) (fun (s4 : SS) => lts (up s4 41 9 (iI n)) (fun (s5 : SS) => lts (up s5 41 10 (iI e)) (fun (s6 : SS) => lts (up s6 41 7 L) (fun (s7 : SS) => bdp (f_X6_bareOf (iI n) s7) (fun (v8 : Int32) => bdp (f_X6_bareOf (iI n + 1) s7) (fun (v9 : Int32) => bd (f_J7_fill_bad5a_42 v8 v9 0 s7) (fun (v10 : Int32) (s11 : SS) => some (0, s11))))))))) = some (0, t) ∧ CZ 41 43 s t ∧ LKS T kd tl n c tn L e t ∧ t 41 8 = s 0 15 ∧ t 41 9 = iI n ∧ t 41 10 = iI e := by
    obtain ⟨R, r1, r2, r3⟩ := fillr_42 (lo := br n) (hi := br n + szR n) 0 (up (up (up (up s 41 8 (s 0 15)) 41 9 (iI n)) 41 10 (iI e)) 41 7 L) (by omega) (by omega)
    refine ⟨upr (up (up (up (up s 41 8 (s 0 15)) 41 9 (iI n)) 41 10 (iI e)) 41 7 L) 42 R, ?_, ?_, ⟨?_, ?_, ?_⟩, ?_, ?_, ?_⟩
    · refine e_lts ?_
      refine e_lts ?_
      refine e_lts ?_
      refine e_lts ?_
      refine e_bdp (rw_bare (by omega)) ?_
      refine e_bdp (rw_bare1 hn) ?_
      exact e_bd r1 rfl
    · exact (((CZ.up1 (by omega)).tr (CZ.up1 (by omega))).tr ((CZ.up1 (by omega)).tr (CZ.up1 (by omega)))).tr (CZ.ur (by omega))
    · exact ((((h.up1 (by omega)).up1 (by omega)).up1 (by omega)).up1 (by omega)).ur (by omega)
    · intro y j hy hj
      left
      exact gl_0 B4 (by omega) (by rw [upr_eq]; exact r2 _ (by omega) (by omega))
    · rw [upr_ne (by omega), up_at]
    · rw [upr_ne (by omega), up_slot (by omega), up_slot (by omega), up_slot (by omega), up_at]
    · rw [upr_ne (by omega), up_slot (by omega), up_slot (by omega), up_at]
    · rw [upr_ne (by omega), up_slot (by omega), up_at]
  obtain ⟨tf, ff⟩ := fresh
  unfold f_X3_recall
  by_cases q1 : s 41 8 = s 0 15
  · by_cases q2 : s 41 9 = iI n
    · by_cases q3 : s 41 10 = iI e
      · by_cases q4 : s 41 7 = L
        · obtain ⟨m, e2, L2, a1, a2, a3, a4, a5, a6⟩ := hm.2 q1
          have : m = n := by
            have := a3.symm.trans q2
            rw [iI_eq (by omega) (by omega)] at this
            omega
          subst this
          have : e2 = e := by
            have := a4.symm.trans q3
            rw [iI_eq (by omega) (by omega)] at this
            omega
          subst this
          have : L2 = L := a5.symm.trans q4
          subst this
          refine ⟨s, ?_, CZ.rf _ _ _, ⟨h, a6, a5⟩, q1, a3, a4⟩
          refine e_jn ?_
          refine e_jn ?_
          refine e_if_t q1 ?_
          refine e_if_t q2 ?_
          refine e_jn ?_
          refine e_if_f (by decide) ?_
          refine e_if_t q3 ?_
          exact e_if_t q4 rfl
        · refine ⟨tf, ?_, ff.2⟩
          refine e_jn ?_
          refine e_jn ?_
          refine e_if_t q1 ?_
          refine e_if_t q2 ?_
          refine e_jn ?_
          refine e_if_f (by decide) ?_
          refine e_if_t q3 ?_
          exact e_if_f q4 ff.1
      · refine ⟨tf, ?_, ff.2⟩
        refine e_jn ?_
        refine e_jn ?_
        refine e_if_t q1 ?_
        refine e_if_t q2 ?_
        refine e_jn ?_
        refine e_if_f (by decide) ?_
        exact e_if_f q3 ff.1
    · refine ⟨tf, ?_, ff.2⟩
      refine e_jn ?_
      refine e_jn ?_
      refine e_if_t q1 ?_
      refine e_if_f q2 ?_
      refine e_jn ?_
      exact e_if_t rfl ff.1
  · refine ⟨tf, ?_, ff.2⟩
    refine e_jn ?_
    refine e_jn ?_
    refine e_if_f q1 ?_
    refine e_jn ?_
    exact e_if_t rfl ff.1
theorem LKS.w {L : Int32} {e : Nat} (h : LKS T kd tl n c tn L e s) {k j : Nat} {v : Int32} (g : k = 44 ∨ k = 45) : LKS T kd tl n c tn L e (up s k j v) := ⟨h.1.up1 (by omega), h.2.1.of (up_cell (by omega)) (up_cell (by omega)), by rw [up_cell (by omega)]; exact h.2.2⟩
theorem cl_sums (W : WOK T kd tl n c tn) {L : Int32} {e i y : Nat} {N v5 : Int32} (hi : i < 8) (hy : y < szR n) (hN : N - 1 = iI i) (K : SS → Res) : ∀ (k F q : Nat) (s : SS), q + k = 4 → k < F → LKS T kd tl n c tn L e s → gl 4 s 42 (br n + y) i ≠ 0 → (∀ r, r < q → s 45 r = totL T kd tl n c tn L e i y r) → ∃ t, lp_X3_solve_83 N v5 (wl_ n y) K F (iI q) s = K t ∧ CZ 45 45 s t ∧ LKS T kd tl n c tn L e t ∧ ∀ r, r < 4 → t 45 r = totL T kd tl n c tn L e i y r := by
  intro k
  induction k with
  | zero =>
    intro F q s hq hF hs hf h45
    cases F with
    | zero => omega
    | succ F =>
      obtain rfl : q = 4 := by omega
      refine ⟨s, ?_, CZ.rf _ _ _, hs, h45⟩
      rw [lp_X3_solve_83]
      exact e_if_t (by decide) rfl
  | succ k ih =>
    intro F q s hq hF hs hf h45
    cases F with
    | zero => omega
    | succ F =>
      have et := ol_tot W hy hi (show q < 4 by omega) s ((hs.2.1.tot hy hi hf).2.1 q (by omega))
      obtain ⟨t, f1, f2, f3⟩ := ih F (q + 1) (up s 45 q (totL T kd tl n c tn L e i y q)) (by omega) (by omega) (hs.w (by omega)) (by rw [gl_cell (up_cell (by omega))]; exact hf) (by
        intro r hr
        by_cases w : r = q
        · subst w; exact up_at _ _ _ _
        · rw [up_slot w]; exact h45 r (by omega))
      refine ⟨t, ?_, (CZ.up1 (by omega)).tr f2, f3⟩
      rw [lp_X3_solve_83]
      refine e_if_f (by simp (disch := omega) only [Int.toNat_natCast, iI_lt, iI_le, iI_eq, iI_add, iI_sub, iI_mul, iI_neg, iI_clamp, inb_ii, z_4]; omega) ?_
      rw [hN]
      refine e_bdp et ?_
      refine e_gd (by simp (disch := omega) only [Int.toNat_natCast, iI_lt, iI_le, iI_eq, iI_add, iI_sub, iI_mul, iI_neg, iI_clamp, inb_ii]; omega) ?_
      refine e_lts ?_
      rw [iI_clamp (by omega), Int.toNat_natCast, nx_s]
      exact f1
theorem cl_days (W : WOK T kd tl n c tn) (h : CW T kd tl c tn s) (hp : p < c) {N : Nat} (hN : N ≤ 12) : f_X2_placeAfterDays (iI p) (iI N) s = some (iI (((p + N) % c : Nat) : Int)) := by
  have hc := W.cc
  unfold f_X2_placeAfterDays
  rw [h.2.2.1]
  refine e_if_t (by simp (disch := omega) only [Int.toNat_natCast, iI_lt, iI_le, iI_eq, iI_add, iI_sub, iI_mul, iI_neg, iI_clamp, inb_ii, z_1]; omega) ?_
  refine e_gd (by simp (disch := omega) only [Int.toNat_natCast, iI_lt, iI_le, iI_eq, iI_add, iI_sub, iI_mul, iI_neg, iI_clamp, inb_ii, z_0]; omega) ?_
  rw [iI_add, show (p : Int) + (N : Int) = ((p + N : Nat) : Int) by omega, iI_rem (by omega) (by omega)]
  congr 1
theorem cl_solve (W : WOK T kd tl n c tn) (L : Int32) (hx : x < szR n) (hp : p < c) {N : Nat} (hN : 1 ≤ N ∧ N ≤ 8) (h : CW T kd tl c tn s) (hm : MEM T kd tl c tn s) (hw : s 52 0 = wl_ n x) (hp2 : s 52 1 = iI p) : ∃ t, f_X3_solve (iI N) L (s 0 15) s = some (0, t) ∧ CZ 41 45 s t ∧ CW T kd tl c tn t ∧ MEM T kd tl c tn t ∧ (∀ q, q < 4 → t 45 q = totL T kd tl n c tn L ((p + N) % c) (N - 1) (bh n x (pkL T kd tl n c tn L ((p + N) % c) N x)) q) ∧ ∀ i, i < N → t 44 i = iI (pkL T kd tl n c tn L ((p + N) % c) (N - i) (pthL T kd tl n c tn L ((p + N) % c) N x i)) := by
  have hc := W.cc
  have he := W.pl (p + N)
  have p0 := plE_p (p := p) (c := c) (N := N) (d := 0) (by omega) (by omega) (by omega)
  have p1 := plE_p (p := p) (c := c) (N := N) (d := 1) (by omega) (by omega) (by omega)
  rw [Nat.add_zero, Nat.mod_eq_of_lt hp, Nat.sub_zero] at p0
  have pd := cl_days W h hp (N := N) (by omega)
  obtain ⟨t1, a1, a2, a3, a4, a5, a6⟩ := cl_recall W (L := L) he h hm
  generalize (p + N) % c = e at *
  obtain ⟨i, rfl⟩ : ∃ i, N = i + 1 := ⟨N - 1, by omega⟩
  have H : LKH T kd tl n c tn L e i (f_X3_look 40) := cl_look W i 40 (by omega) (by omega)
  have w1 : t1 52 = s 52 := a2.at (by omega) (by omega)
  obtain ⟨t2, b1, b2, b3, b4, _⟩ := cl_pick W (by omega) H hx a3
  have w2 : t2 52 = s 52 := (b2.at (by omega) (by omega)).trans w1
  have hpl := pkL_le W L e (i + 1) hx
  have hpt := pkL_lt W L e (i + 1) hx
  have zb := cw_behind W b3.1 hx hpl
  have za := cw_after W b3.1 hp
  obtain ⟨t3, c1, c2, c3, c4, c5, _⟩ := H _ t2 hpt b3
  have e1 : i + 1 - 1 = i := by omega
  rw [e1] at p1
  rw [p0] at b1
  rw [p1] at c1
  obtain ⟨t4, d1, d2, d3, d4⟩ := cl_sums W (v5 := iI (pkL T kd tl n c tn L e (i + 1) x)) (N := iI ((i + 1 : Nat) : Int)) (show i < 8 by omega) hpt (pr_s i) (fun (s11 : SS) => bd (f_X3_tell (iI (pkL T kd tl n c tn L e (i + 1) x)) (wl_ n (bh n x (pkL T kd tl n c tn L e (i + 1) x))) (iI ((i + 1 : Nat) : Int)) s11) (fun (v13 : Int32) (s14 : SS) => some (0, s14))) 4 FU 0 t3 rfl (fu_lt (by omega)) c3 c5 (by intro r hr; omega)
  have q42 : t4 42 = t3 42 := d2.at (by omega) (by omega)
  obtain ⟨t5, g1, g2, g3, g4⟩ := cl_tellL W (L := L) (e := e) (N := i + 1) (by omega) hx i FU 1 (up t4 44 0 (iI (pkL T kd tl n c tn L e (i + 1) x))) (by omega) (fu_lt (by omega)) (by omega) (d3.w (by omega)) (by
    intro hd
    rw [gl_cell (up_cell (by omega)), gl_cell q42]
    obtain ⟨i2, rfl⟩ : ∃ i2, i = i2 + 1 := ⟨i - 1, by omega⟩
    exact c5) (by
    intro r hr
    obtain rfl : r = 0 := by omega
    exact up_at _ _ _ _)
  refine ⟨t5, ?_, ?_, g3.1, ?_, ?_, g4⟩
  · unfold f_X3_solve
    rw [hw, hp2]
    refine e_bdp (rw_len h.1.1 W.2.2.2 hx) ?_
    refine e_bdp pd ?_
    refine e_bd a1 ?_
    rw [w1, hw, hp2]
    refine e_bd b1 ?_
    rw [w2, hw, hp2]
    refine e_bdp zb ?_
    refine e_bdp za ?_
    rw [pr_s]
    refine e_bd c1 ?_
    refine e_jn ?_
    refine Eq.trans d1 ?_
    refine e_bd (v := 0) (t := t5) ?_ rfl
    unfold f_X3_tell
    refine e_gd (by decide) ?_
    refine e_lts ?_
    exact g1
  · exact ((a2.m (by omega) (by omega)).tr ((b2.m (by omega) (by omega)).tr (c2.m (by omega) (by omega)))).tr ((d2.m (by omega) (by omega)).tr ((CZ.up1 (by omega)).tr (g2.m (by omega) (by omega))))
  · have k41 : t5 41 = t1 41 := by
      rw [g2.at (k := 41) (by omega) (by omega), up_cell (by omega), d2.at (k := 41) (by omega) (by omega), c2.at (k := 41) (by omega) (by omega), b2.at (k := 41) (by omega) (by omega)]
    have k0 : t5 0 = s 0 := by
      have zz := ((a2.m (lo2 := 41) (hi2 := 45) (by omega) (by omega)).tr ((b2.m (by omega) (by omega)).tr (c2.m (by omega) (by omega)))).tr ((d2.m (by omega) (by omega)).tr ((CZ.up1 (by omega)).tr (g2.m (by omega) (by omega))))
      exact zz.1 0 (by omega) (by omega) (by omega) (by omega) (by omega) (by omega)
    refine ⟨by rw [k41, a4, k0]; exact Int.le_refl _, fun _ => ?_⟩
    exact ⟨n, e, L, W.2.2.2, he, by rw [k41]; exact a5, by rw [k41]; exact a6, g3.2.2, g3.2.1⟩
  · intro q hq
    rw [g2.at (k := 45) (by omega) (by omega), up_cell (by omega)]
    exact d4 q hq
def ansBest (T : TW) (kd tl : Nat → Nat) (n c : Nat) (tn : Nat → Nat) (x p : Nat) (a1 a2 a3 : Int32) : Int32 :=
  if ¬ (0 ≤ a1.toInt ∧ a1.toInt ≤ 3) ∨ ¬ (1 ≤ a2.toInt ∧ a2.toInt ≤ 8) ∨ ¬ (-1 ≤ a3.toInt ∧ a3.toInt < a2.toInt) then -1000000
  else if a3.toInt = -1 then totL T kd tl n c tn (sh1 a1.toInt.toNat) ((p + a2.toInt.toNat) % c) (a2.toInt.toNat - 1) (bh n x (pkL T kd tl n c tn (sh1 a1.toInt.toNat) ((p + a2.toInt.toNat) % c) a2.toInt.toNat x)) a1.toInt.toNat
  else iI (pkL T kd tl n c tn (sh1 a1.toInt.toNat) ((p + a2.toInt.toNat) % c) (a2.toInt.toNat - a3.toInt.toNat) (pthL T kd tl n c tn (sh1 a1.toInt.toNat) ((p + a2.toInt.toNat) % c) a2.toInt.toNat x a3.toInt.toNat))
theorem cl_made {i : Nat} (hi : i < 8) (s : SS) : f_X3_madeOn (iI i) s = some (s 44 i) := by
  unfold f_X3_madeOn
  refine e_if_f (by simp (disch := omega) only [Int.toNat_natCast, iI_lt, iI_le, iI_eq, iI_add, iI_sub, iI_mul, iI_neg, iI_clamp, inb_ii, z_0]; omega) ?_
  refine e_if_f (by simp (disch := omega) only [Int.toNat_natCast, iI_lt, iI_le, iI_eq, iI_add, iI_sub, iI_mul, iI_neg, iI_clamp, inb_ii, z_8]; omega) ?_
  refine e_gd (by simp (disch := omega) only [Int.toNat_natCast, iI_lt, iI_le, iI_eq, iI_add, iI_sub, iI_mul, iI_neg, iI_clamp, inb_ii]; omega) ?_
  rw [iI_clamp (by omega), Int.toNat_natCast]
theorem cl_sumo {q : Nat} (hq : q < 4) (s : SS) : f_X3_sumOf (iI q) s = some (s 45 q) := by
  unfold f_X3_sumOf
  refine e_bdp (person_ok hq) ?_
  refine e_if_f (by decide) ?_
  refine e_gd (by simp (disch := omega) only [Int.toNat_natCast, iI_lt, iI_le, iI_eq, iI_add, iI_sub, iI_mul, iI_neg, iI_clamp, inb_ii]; omega) ?_
  rw [iI_clamp (by omega), Int.toNat_natCast]
theorem cc_best (W : WOK T kd tl n c tn) (hx : x < szR n) (hp : p < c) (a1 a2 a3 : Int32) {s : SS} (h : CW T kd tl c tn s) (hm : MEM T kd tl c tn s) (hw : s 52 0 = wl_ n x) (hp2 : s 52 1 = iI p) : ∃ t, f_X11_best a1 a2 a3 s = some (ansBest T kd tl n c tn x p a1 a2 a3, t) ∧ CZ 41 45 s t ∧ CW T kd tl c tn t ∧ MEM T kd tl c tn t := by
  have pf := person_f a1 s
  have w1 : (1 : Int32).toInt = 1 := rfl
  have w8 : (8 : Int32).toInt = 8 := rfl
  have wm : (-1 : Int32).toInt = -1 := rfl
  unfold f_X11_best ansBest
  by_cases q1 : 0 ≤ a1.toInt ∧ a1.toInt ≤ 3
  · rw [if_pos q1] at pf
    by_cases q2 : 1 ≤ a2.toInt ∧ a2.toInt ≤ 8
    · have c1 : ¬ a2 < 1 := by rw [lt32]; omega
      have c2 : ¬ (8 : Int32) < a2 := by rw [lt32]; omega
      by_cases q3 : -1 ≤ a3.toInt ∧ a3.toInt < a2.toInt
      · have c3 : ¬ a3 < -1 := by rw [lt32]; omega
        have c4 : a3 < a2 := by rw [lt32]; omega
        rw [if_neg (show ¬ (¬ (0 ≤ a1.toInt ∧ a1.toInt ≤ 3) ∨ ¬ (1 ≤ a2.toInt ∧ a2.toInt ≤ 8) ∨ ¬ (-1 ≤ a3.toInt ∧ a3.toInt < a2.toInt)) by omega)]
        obtain ⟨m, hm4, ea⟩ := per_nat q1
        have em : a1.toInt.toNat = m := by rw [ea, iI_toInt (by omega)]; omega
        have eN := e_lit (a := a2) (k := (a2.toInt.toNat : Nat)) (by omega)
        rw [em]
        generalize hNN : a2.toInt.toNat = N at eN ⊢
        obtain ⟨t, f1, f2, f3, f4, f5, f6⟩ := cl_solve W (sh1 m) hx hp (N := N) (by omega) h hm hw hp2
        refine ⟨t, ?_, f2, f3, f4⟩
        refine e_bdp pf ?_
        refine e_if_f (by decide) ?_
        refine e_if_f c1 ?_
        refine e_if_f c2 ?_
        refine e_if_f c3 ?_
        refine e_if_t c4 ?_
        rw [ea, sh1_one, eN]
        refine e_bd f1 ?_
        by_cases z : a3.toInt = -1
        · rw [if_pos z]
          refine e_if_t (Int32.toInt_inj.mp (z.trans wm.symm)) ?_
          refine e_bdp (cl_sumo hm4 t) ?_
          rw [f5 m hm4]
        · rw [if_neg z]
          refine e_if_f (by intro w; apply z; rw [w]; rfl) ?_
          have ed := e_lit (a := a3) (k := (a3.toInt.toNat : Nat)) (by omega)
          have hd : a3.toInt.toNat < N := by omega
          generalize a3.toInt.toNat = d at ed hd ⊢
          rw [ed]
          refine e_bdp (cl_made (by omega) t) ?_
          rw [f6 d hd]
      · rw [if_pos (show ¬ (0 ≤ a1.toInt ∧ a1.toInt ≤ 3) ∨ ¬ (1 ≤ a2.toInt ∧ a2.toInt ≤ 8) ∨ ¬ (-1 ≤ a3.toInt ∧ a3.toInt < a2.toInt) by omega)]
        refine ⟨s, ?_, CZ.rf _ _ _, h, hm⟩
        refine e_bdp pf ?_
        refine e_if_f (by decide) ?_
        refine e_if_f c1 ?_
        refine e_if_f c2 ?_
        by_cases z : a3 < -1
        · exact e_if_t z rfl
        · refine e_if_f z ?_
          exact e_if_f (by rw [lt32] at z ⊢; omega) rfl
    · rw [if_pos (show ¬ (0 ≤ a1.toInt ∧ a1.toInt ≤ 3) ∨ ¬ (1 ≤ a2.toInt ∧ a2.toInt ≤ 8) ∨ ¬ (-1 ≤ a3.toInt ∧ a3.toInt < a2.toInt) by omega)]
      refine ⟨s, ?_, CZ.rf _ _ _, h, hm⟩
      refine e_bdp pf ?_
      refine e_if_f (by decide) ?_
      by_cases z : a2 < 1
      · exact e_if_t z rfl
      · refine e_if_f z ?_
        exact e_if_t (by rw [lt32] at z ⊢; omega) rfl
  · rw [if_neg q1] at pf
    rw [if_pos (show ¬ (0 ≤ a1.toInt ∧ a1.toInt ≤ 3) ∨ ¬ (1 ≤ a2.toInt ∧ a2.toInt ≤ 8) ∨ ¬ (-1 ≤ a3.toInt ∧ a3.toInt < a2.toInt) by omega)]
    refine ⟨s, ?_, CZ.rf _ _ _, h, hm⟩
    refine e_bdp pf ?_
    exact e_if_t rfl rfl
def ansAll (T : TW) (kd tl : Nat → Nat) (n c : Nat) (tn : Nat → Nat) (x p : Nat) (a1 a2 : Int32) : Int32 :=
  if ¬ (1 ≤ a1.toInt ∧ a1.toInt ≤ 8) ∨ ¬ ((0 ≤ a2.toInt ∧ a2.toInt ≤ 3) ∨ (10 ≤ a2.toInt ∧ a2.toInt < 10 + a1.toInt)) then -1000000
  else if a2.toInt ≤ 3 then totL T kd tl n c tn 15 ((p + a1.toInt.toNat) % c) (a1.toInt.toNat - 1) (bh n x (pkL T kd tl n c tn 15 ((p + a1.toInt.toNat) % c) a1.toInt.toNat x)) a2.toInt.toNat
  else iI (pkL T kd tl n c tn 15 ((p + a1.toInt.toNat) % c) (a1.toInt.toNat - (a2.toInt - 10).toNat) (pthL T kd tl n c tn 15 ((p + a1.toInt.toNat) % c) a1.toInt.toNat x (a2.toInt - 10).toNat))
theorem cc_all (W : WOK T kd tl n c tn) (hx : x < szR n) (hp : p < c) (a1 a2 : Int32) {s : SS} (h : CW T kd tl c tn s) (hm : MEM T kd tl c tn s) (hw : s 52 0 = wl_ n x) (hp2 : s 52 1 = iI p) : ∃ t, f_X11_all a1 a2 s = some (ansAll T kd tl n c tn x p a1 a2, t) ∧ CZ 41 45 s t ∧ CW T kd tl c tn t ∧ MEM T kd tl c tn t := by
  have pf := within_f a2 3 s
  have w1 : (1 : Int32).toInt = 1 := rfl
  have w8 : (8 : Int32).toInt = 8 := rfl
  have w3 : (3 : Int32).toInt = 3 := rfl
  have w10 : (10 : Int32).toInt = 10 := rfl
  unfold f_X11_all ansAll
  by_cases q2 : 1 ≤ a1.toInt ∧ a1.toInt ≤ 8
  · have c1 : ¬ a1 < 1 := by rw [lt32]; omega
    have c2 : ¬ (8 : Int32) < a1 := by rw [lt32]; omega
    have eN := e_lit (a := a1) (k := (a1.toInt.toNat : Nat)) (by omega)
    generalize hNN : a1.toInt.toNat = N at eN ⊢
    have e10 : ((10 : Int32) + a1).toInt = 10 + a1.toInt := by rw [eN, z_10, iI_add, iI_toInt (by omega), iI_toInt (by omega)]
    by_cases q3 : (0 ≤ a2.toInt ∧ a2.toInt ≤ 3) ∨ (10 ≤ a2.toInt ∧ a2.toInt < 10 + a1.toInt)
    · obtain ⟨t, f1, f2, f3, f4, f5, f6⟩ := cl_solve W 15 hx hp (N := N) (by omega) h hm hw hp2
      refine ⟨t, ?_, f2, f3, f4⟩
      have fin : (bd (f_X3_solve a1 15 (s 0 15) s) (fun (v5 : Int32) (s6 : SS) => if (3 : Int32) < (a2 : Int32) then bdp (f_X3_madeOn (a2 - 10) s6) (fun (v8 : Int32) => some (v8, s6)) else bdp (f_X3_sumOf a2 s6) (fun (v9 : Int32) => some (v9, s6)))) = some (if a2.toInt ≤ 3 then totL T kd tl n c tn 15 ((p + N) % c) (N - 1) (bh n x (pkL T kd tl n c tn 15 ((p + N) % c) N x)) a2.toInt.toNat else iI (pkL T kd tl n c tn 15 ((p + N) % c) (N - (a2.toInt - 10).toNat) (pthL T kd tl n c tn 15 ((p + N) % c) N x (a2.toInt - 10).toNat)), t) := by
        rw [eN]
        refine e_bd f1 ?_
        by_cases z : a2.toInt ≤ 3
        · rw [if_pos z]
          obtain ⟨m, hm4, ea⟩ := per_nat (a := a2) (by omega)
          have em : a2.toInt.toNat = m := by rw [ea, iI_toInt (by omega)]; omega
          refine e_if_f (by rw [lt32]; omega) ?_
          rw [em, ea]
          refine e_bdp (cl_sumo hm4 t) ?_
          rw [f5 m hm4]
        · rw [if_neg z]
          refine e_if_t (by rw [lt32]; omega) ?_
          have ed : a2 - 10 = iI (((a2.toInt - 10).toNat : Nat) : Int) := by
            rw [iI_of a2, z_10, iI_sub, iI_toInt (by have := a2.toInt_lt; have := a2.le_toInt; omega)]
            congr 1
            omega
          have hd : (a2.toInt - 10).toNat < N := by omega
          generalize (a2.toInt - 10).toNat = d at ed hd ⊢
          rw [ed]
          refine e_bdp (cl_made (by omega) t) ?_
          rw [f6 d hd]
      rw [if_neg (show ¬ (¬ (1 ≤ a1.toInt ∧ a1.toInt ≤ 8) ∨ ¬ ((0 ≤ a2.toInt ∧ a2.toInt ≤ 3) ∨ (10 ≤ a2.toInt ∧ a2.toInt < 10 + a1.toInt))) by omega)]
      refine e_if_f c1 ?_
      refine e_if_f c2 ?_
      refine e_bdp pf ?_
      refine e_jn ?_
      by_cases z : 0 ≤ a2.toInt ∧ a2.toInt ≤ 3
      · refine e_if_f (by rw [if_pos (by omega)]; decide) ?_
        exact fin
      · refine e_if_t (by rw [if_neg (by omega)]) ?_
        refine e_if_f (by rw [lt32]; omega) ?_
        refine e_if_t (by rw [lt32]; omega) ?_
        exact fin
    · rw [if_pos (show ¬ (1 ≤ a1.toInt ∧ a1.toInt ≤ 8) ∨ ¬ ((0 ≤ a2.toInt ∧ a2.toInt ≤ 3) ∨ (10 ≤ a2.toInt ∧ a2.toInt < 10 + a1.toInt)) by omega)]
      refine ⟨s, ?_, CZ.rf _ _ _, h, hm⟩
      refine e_if_f c1 ?_
      refine e_if_f c2 ?_
      refine e_bdp pf ?_
      refine e_jn ?_
      refine e_if_t (by rw [if_neg (by omega)]) ?_
      by_cases z : a2 < 10
      · exact e_if_t z rfl
      · refine e_if_f z ?_
        exact e_if_f (by rw [lt32] at z ⊢; omega) rfl
  · rw [if_pos (show ¬ (1 ≤ a1.toInt ∧ a1.toInt ≤ 8) ∨ ¬ ((0 ≤ a2.toInt ∧ a2.toInt ≤ 3) ∨ (10 ≤ a2.toInt ∧ a2.toInt < 10 + a1.toInt)) by omega)]
    refine ⟨s, ?_, CZ.rf _ _ _, h, hm⟩
    by_cases z : a1 < 1
    · exact e_if_t z rfl
    · refine e_if_f z ?_
      exact e_if_t (by rw [lt32] at z ⊢; omega) rfl
