/-! how soon, the class: the answer, what is kept of it -/
variable {T : TW} {kd tl tn : Nat → Nat} {n c x p : Nat} {s t u : SS}
/-- the way back from the quiet one through the places of the queue -/
def WAY (T : TW) (n c : Nat) (tn : Nat → Nat) (x p D : Nat) (s : SS) : Prop := ∃ J : Nat → Nat, s 46 6 = iI (J D) ∧ J 0 = 0 ∧ (∀ d, d ≤ D → J d < 21392) ∧ ∀ d, d < D → 0 < J (d + 1) ∧ gl 16 s 47 (J (d + 1)) 3 = iI (J d) ∧ gl 16 s 47 (J (d + 1)) 2 = iI (gct T n c tn (gpt T n c tn x p d) ((p + d) % c))
def SOL (T : TW) (n c : Nat) (tn : Nat → Nat) (x p : Nat) (s : SS) : Prop := (¬ FQ T n c tn x p ∧ s 46 7 = -1) ∨ (FQ T n c tn x p ∧ dq T n c tn x p ≤ 18724 ∧ s 46 7 = iI (dq T n c tn x p) ∧ WAY T n c tn x p (dq T n c tn x p) s)
def SMEM (T : TW) (c : Nat) (tn : Nat → Nat) (s : SS) : Prop := (s 46 8).toInt ≤ (s 0 15).toInt ∧ (s 46 8 = s 0 15 → ∃ m y w : Nat, (1 ≤ m ∧ m ≤ 4) ∧ y < szR m ∧ w < c ∧ s 46 9 = wl_ m y ∧ s 46 10 = iI w ∧ SOL T m c tn y w s)
theorem wl_inj {m y x : Nat} (hm : 1 ≤ m ∧ m ≤ 4) (hn : 1 ≤ n ∧ n ≤ 4) (hy : y < szR m) (hx : x < szR n) (h : wl_ m y = wl_ n x) : m = n ∧ y = x := by
  have h1 := (sz_lt hm hy).1
  have h2 := (sz_lt hn hx).1
  unfold wl_ at h
  rw [iI_eq (by omega) (by omega)] at h
  have e2 : br m + y = br n + x := by omega
  clear h h1 h2
  unfold br szR at *
  obtain ⟨a1, a2⟩ := hm
  obtain ⟨b1, b2⟩ := hn
  obtain rfl | rfl | rfl | rfl : m = 1 ∨ m = 2 ∨ m = 3 ∨ m = 4 := by omega
  all_goals obtain rfl | rfl | rfl | rfl : n = 1 ∨ n = 2 ∨ n = 3 ∨ n = 4 := by omega
  all_goals simp at *
  all_goals omega
theorem gpt_ce (W : WOK T kd tl n c tn) (hx : x < szR n) (hp : p < c) (h : FQ T n c tn x p) {d : Nat} (hd : d ≤ dq T n c tn x p) : ce n (gpt T n c tn x p d) ((p + d) % c) < 21392 := by
  have g := gpt_ok W.2.2.2 hx hp h d hd
  exact ce_lt W.2.2.2 g.1 (by have := W.pl (p + d); have := W.cc; omega)
theorem cs_way (W : WOK T kd tl n c tn) (hx : x < szR n) (hp : p < c) {g : SS} (hR : REL n g s) (h : DNE T kd tl n c tn x p g) : WAY T n c tn x p (dq T n c tn x p) s := by
  have hn := W.2.2.2
  obtain ⟨h1, h2, h3, h4, h5⟩ := id h
  obtain ⟨f, hR⟩ := hR
  obtain ⟨r1, r2, r3, r4, r5, r6, r7⟩ := id hR
  have hce := fun d (hd : d ≤ dq T n c tn x p) => gpt_ce W hx hp h2 hd
  have hok := fun d (hd : d ≤ dq T n c tn x p) => gpt_ok hn hx hp h2 d hd
  have hpl := fun d => W.pl (p + d)
  have hc := W.cc
  have key : ∀ e, e ≤ dq T n c tn x p → ∃ J : Nat → Nat, s 46 6 = iI (J (dq T n c tn x p)) ∧ (∀ d, dq T n c tn x p - e ≤ d → d ≤ dq T n c tn x p → J d < f ∧ g 47 (J d) = iI (ce n (gpt T n c tn x p d) ((p + d) % c))) ∧ ∀ d, dq T n c tn x p - e ≤ d → d < dq T n c tn x p → 0 < J (d + 1) ∧ gl 16 s 47 (J (d + 1)) 3 = iI (J d) ∧ gl 16 s 47 (J (d + 1)) 2 = iI (gct T n c tn (gpt T n c tn x p d) ((p + d) % c)) := by
    intro e
    induction e with
    | zero =>
      intro _
      have z := dne_no W hx hp h
      rw [← REL.no hn ⟨f, hR⟩] at z
      rcases r7 with ⟨a1, a2⟩ | ⟨j, a1, a2, a3⟩
      · rw [a1] at z
        exact absurd z (by decide)
      · refine ⟨fun _ => j, a2, fun d b1 b2 => ?_, fun d b1 b2 => by omega⟩
        obtain rfl : d = dq T n c tn x p := by omega
        exact ⟨a1, by rw [← a3]; exact h4⟩
    | succ e ih =>
      intro he
      obtain ⟨J, j1, j2, j3⟩ := ih (by omega)
      obtain ⟨D, hD⟩ : ∃ D, dq T n c tn x p - e = D + 1 := ⟨dq T n c tn x p - e - 1, by omega⟩
      have hDq : D < dq T n c tn x p := by omega
      obtain ⟨u1, u2⟩ := j2 (D + 1) (by omega) (by omega)
      obtain ⟨y, w, l, ip, b1, b2, b3, b4, b5, b6, b7, b8, b9, b10⟩ := r6 _ u1
      rw [u2] at b3
      have g1 := hok (D + 1) (by omega)
      have w1 := hpl (D + 1)
      obtain ⟨ey, ew⟩ := ce_ii hn g1.1 (by omega) b1 b2 b3
      obtain ⟨v1, v2⟩ := h5.2 D hDq
      rw [← ey, ← ew] at b8 b10
      have cl := hce D (by omega)
      have par : 0 < J (D + 1) ∧ ip < J (D + 1) ∧ g 47 ip = iI (ce n (gpt T n c tn x p D) ((p + D) % c)) := by
        rcases b10 with ⟨-, a⟩ | ⟨a, b, d⟩
        · rw [v1, z_m1, iI_eq (by omega) (by omega)] at a
          omega
        · exact ⟨a, b, by rw [← d]; exact v1⟩
      refine ⟨fun d => if d = D then ip else J d, ?_, ?_, ?_⟩
      · show s 46 6 = iI ((if dq T n c tn x p = D then ip else J (dq T n c tn x p) : Nat) : Int)
        rw [if_neg (by omega)]
        exact j1
      · intro d a b
        show (if d = D then ip else J d) < f ∧ g 47 (if d = D then ip else J d) = _
        by_cases z : d = D
        · subst z
          rw [if_pos rfl]
          exact ⟨by omega, par.2.2⟩
        · rw [if_neg z]
          exact j2 d (by omega) b
      · intro d a b
        show 0 < (if d + 1 = D then ip else J (d + 1)) ∧ gl 16 s 47 (if d + 1 = D then ip else J (d + 1)) 3 = iI ((if d = D then ip else J d : Nat) : Int) ∧ gl 16 s 47 (if d + 1 = D then ip else J (d + 1)) 2 = _
        rw [if_neg (show ¬ d + 1 = D by omega)]
        by_cases z : d = D
        · subst z
          rw [if_pos rfl]
          refine ⟨par.1, b9, ?_⟩
          rw [b7, ← v2, b8]
        · rw [if_neg z]
          exact j3 d (by omega) b
  obtain ⟨J, j1, j2, j3⟩ := key (dq T n c tn x p) (Nat.le_refl _)
  refine ⟨J, j1, ?_, fun d hd => by have := (j2 d (by omega) hd).1; omega, fun d hd => j3 d (by omega) hd⟩
  obtain ⟨u1, u2⟩ := j2 0 (by omega) (by omega)
  obtain ⟨y, w, l, ip, b1, b2, b3, b4, b5, b6, b7, b8, b9, b10⟩ := r6 _ u1
  rw [u2] at b3
  have g1 := hok 0 (by omega)
  have w1 := hpl 0
  obtain ⟨ey, ew⟩ := ce_ii hn g1.1 (by omega) b1 b2 b3
  rcases b10 with ⟨a, -⟩ | ⟨a, b, d⟩
  · exact a
  · exfalso
    rw [← ey, ← ew, Nat.add_zero, Nat.mod_eq_of_lt hp] at d
    have d2 : g 48 (ce n x p) = g 47 ip := d
    rw [h5.1] at d2
    obtain ⟨y3, w3, l3, ip3, c1, c2, c3, -⟩ := r6 ip (by omega)
    have := ce_lt hn c1 c2
    rw [c3, z_m1, iI_eq (by omega) (by omega)] at d2
    omega
theorem cs_steps {D : Nat} (hle : D ≤ 18724) {J : Nat → Nat} (j0 : J 0 = 0) (j1 : ∀ d, d ≤ D → J d < 21392) (j2 : ∀ d, d < D → 0 < J (d + 1) ∧ gl 16 s 47 (J (d + 1)) 3 = iI (J d)) : f_X0_daysTo (iI (J D)) s = some (iI D) := by
  have lp : ∀ (d N : Nat), d ≤ D → d < N → lp_X0_daysTo_4 s N (iI ((D - d : Nat) : Int)) (iI (J d)) = some (iI D) := by
    intro d
    induction d with
    | zero =>
      intro N hd hN
      obtain ⟨N, rfl⟩ : ∃ M, N = M + 1 := ⟨N - 1, by omega⟩
      rw [lp_X0_daysTo_4, j0]
      exact e_if_t (by decide) rfl
    | succ d ih =>
      intro N hd hN
      obtain ⟨N, rfl⟩ : ∃ M, N = M + 1 := ⟨N - 1, by omega⟩
      obtain ⟨a1, a2⟩ := j2 d (by omega)
      have a3 := j1 (d + 1) hd
      have sk : f_X11_slotOf (lgt (s 47) (Int32.toNatClampNeg (iI ((J (d + 1) : Nat) : Int)))) 3 16 s = some (iI (J d)) := by
        rw [iI_clamp (by omega), Int.toNat_natCast, ← a2]
        rfl
      rw [lp_X0_daysTo_4]
      refine e_if_f (by simp (disch := omega) only [Int.toNat_natCast, iI_lt, iI_le, iI_eq, iI_add, iI_sub, iI_mul, iI_neg, iI_clamp, inb_ii, z_0]; omega) ?_
      refine e_if_f (by simp (disch := omega) only [Int.toNat_natCast, iI_lt, iI_le, iI_eq, iI_add, iI_sub, iI_mul, iI_neg, iI_clamp, inb_ii, z_21392]; omega) ?_
      refine e_if_f (by simp (disch := omega) only [Int.toNat_natCast, iI_lt, iI_le, iI_eq, iI_add, iI_sub, iI_mul, iI_neg, iI_clamp, inb_ii, z_21392]; omega) ?_
      refine e_gd (by simp (disch := omega) only [Int.toNat_natCast, iI_lt, iI_le, iI_eq, iI_add, iI_sub, iI_mul, iI_neg, iI_clamp, inb_ii]; omega) ?_
      refine e_bdp sk ?_
      rw [nx_s, show D - (d + 1) + 1 = D - d by omega]
      exact ih N (by omega) (by omega)
  unfold f_X0_daysTo
  have := lp D FU (Nat.le_refl _) (fu_lt (by omega))
  rw [Nat.sub_self] at this
  exact this
theorem cs_made {D : Nat} (hle : D ≤ 18724) (h7 : s 46 7 = iI D) {J G : Nat → Nat} (h6 : s 46 6 = iI (J D)) (j1 : ∀ d, d ≤ D → J d < 21392) (j2 : ∀ d, d < D → 0 < J (d + 1) ∧ gl 16 s 47 (J (d + 1)) 3 = iI (J d) ∧ gl 16 s 47 (J (d + 1)) 2 = iI (G d)) {d : Nat} (hd : d < D) : f_X0_madeOn (iI d) s = some (iI (G d)) := by
  have lp : ∀ (j N : Nat) (K : Int32 → Option Int32), d + 1 + j ≤ D → j < N → lp_X0_madeOn_26 (iI d) s K N (iI (J (d + 1 + j))) (iI ((d + j : Nat) : Int)) = K (iI (J (d + 1))) := by
    intro j
    induction j with
    | zero =>
      intro N K hj hN
      obtain ⟨N, rfl⟩ : ∃ M, N = M + 1 := ⟨N - 1, by omega⟩
      rw [lp_X0_madeOn_26]
      exact e_if_t (by simp (disch := omega) only [Int.toNat_natCast, iI_lt, iI_le, iI_eq, iI_add, iI_sub, iI_mul, iI_neg, iI_clamp, inb_ii]; omega) rfl
    | succ j ih =>
      intro N K hj hN
      obtain ⟨N, rfl⟩ : ∃ M, N = M + 1 := ⟨N - 1, by omega⟩
      obtain ⟨a1, a2, -⟩ := j2 (d + 1 + j) (by omega)
      have a3 := j1 (d + 1 + j + 1) (by omega)
      have sk : f_X11_slotOf (lgt (s 47) (Int32.toNatClampNeg (iI ((J (d + 1 + j + 1) : Nat) : Int)))) 3 16 s = some (iI (J (d + 1 + j))) := by
        rw [iI_clamp (by omega), Int.toNat_natCast, ← a2]
        rfl
      show lp_X0_madeOn_26 (iI d) s K (N + 1) (iI (J (d + 1 + j + 1))) (iI ((d + (j + 1) : Nat) : Int)) = _
      rw [lp_X0_madeOn_26]
      refine e_if_f (by simp (disch := omega) only [Int.toNat_natCast, iI_lt, iI_le, iI_eq, iI_add, iI_sub, iI_mul, iI_neg, iI_clamp, inb_ii]; omega) ?_
      refine e_if_f (by simp (disch := omega) only [Int.toNat_natCast, iI_lt, iI_le, iI_eq, iI_add, iI_sub, iI_mul, iI_neg, iI_clamp, inb_ii, z_0]; omega) ?_
      refine e_if_f (by simp (disch := omega) only [Int.toNat_natCast, iI_lt, iI_le, iI_eq, iI_add, iI_sub, iI_mul, iI_neg, iI_clamp, inb_ii, z_21392]; omega) ?_
      refine e_gd (by simp (disch := omega) only [Int.toNat_natCast, iI_lt, iI_le, iI_eq, iI_add, iI_sub, iI_mul, iI_neg, iI_clamp, inb_ii]; omega) ?_
      refine e_bdp sk ?_
      rw [z_m1, iI_add, show ((d + (j + 1) : Nat) : Int) + -1 = ((d + j : Nat) : Int) by omega]
      exact ih N K (by omega) (by omega)
  obtain ⟨b1, b2, b3⟩ := j2 d hd
  have b4 := j1 (d + 1) (by omega)
  have sk : f_X11_slotOf (lgt (s 47) (Int32.toNatClampNeg (iI ((J (d + 1) : Nat) : Int)))) 2 16 s = some (iI (G d)) := by
    rw [iI_clamp (by omega), Int.toNat_natCast, ← b3]
    rfl
  unfold f_X0_madeOn
  refine e_if_f (by simp (disch := omega) only [Int.toNat_natCast, iI_lt, iI_le, iI_eq, iI_add, iI_sub, iI_mul, iI_neg, iI_clamp, inb_ii, z_0]; omega) ?_
  refine e_if_t (by rw [h7]; simp (disch := omega) only [Int.toNat_natCast, iI_lt, iI_le, iI_eq, iI_add, iI_sub, iI_mul, iI_neg, iI_clamp, inb_ii]; omega) ?_
  refine e_lt ?_
  refine e_lt ?_
  refine e_jn ?_
  rw [h6, h7]
  have := lp (D - (d + 1)) FU (fun (v5 : Int32) => if (v5 : Int32) < 0 then some ((-1)) else if (21392 : Int32) ≤ (v5 : Int32) then some ((-1)) else gd (inb v5 21392) (bdp (f_X11_slotOf (lgt (s 47) (Int32.toNatClampNeg v5)) 2 16 s) (fun (v9 : Int32) => some v9))) (by omega) (fu_lt (by omega))
  rw [show d + 1 + (D - (d + 1)) = D by omega] at this
  have a1 : iI (D : Int) - 1 = iI ((d + (D - (d + 1)) : Nat) : Int) := by
    rw [z_1, iI_sub]
    congr 1
    omega
  rw [a1]
  refine Eq.trans this ?_
  refine e_if_f (by simp (disch := omega) only [Int.toNat_natCast, iI_lt, iI_le, iI_eq, iI_add, iI_sub, iI_mul, iI_neg, iI_clamp, inb_ii, z_0]; omega) ?_
  refine e_if_f (by simp (disch := omega) only [Int.toNat_natCast, iI_lt, iI_le, iI_eq, iI_add, iI_sub, iI_mul, iI_neg, iI_clamp, inb_ii, z_21392]; omega) ?_
  refine e_gd (by simp (disch := omega) only [Int.toNat_natCast, iI_lt, iI_le, iI_eq, iI_add, iI_sub, iI_mul, iI_neg, iI_clamp, inb_ii]; omega) ?_
  exact e_bdp sk rfl
theorem dcF_all {v : Int32} {R : Nat → Int32} {b : Nat} : ∀ m, (∀ j, j < m → R (b + j) = v) → dcF v R b m = 0 := by
  intro m
  induction m with
  | zero => intro _; rfl
  | succ m ih =>
    intro h
    unfold dcF
    rw [ih (fun j hj => h j (by omega)), if_pos (h m (by omega))]
/-- what is done when the queue is through -/
noncomputable def endQ (s14 : SS) : Res := jn (fun (v16 : Int32) => lts (up s14 46 7 v16) (fun (s18 : SS) => some (0, s18))) (fun (k17 : Int32 → Res) => if (0 : Int32) ≤ (s14 46 6) then bdp (f_X0_daysTo (s14 46 6) s14) (fun (v20 : Int32) => k17 v20) else k17 ((-1)))
theorem cs_solve (W : WOK T kd tl n c tn) (hx : x < szR n) (hp : p < c) (h : CW T kd tl c tn s) (hm : SMEM T c tn s) (hw : s 52 0 = wl_ n x) (hp2 : s 52 1 = iI p) : ∃ t, f_X0_solve (s 0 15) s = some (0, t) ∧ CZ 46 49 s t ∧ CW T kd tl c tn t ∧ SOL T n c tn x p t ∧ t 46 8 = s 0 15 ∧ t 46 9 = wl_ n x ∧ t 46 10 = iI p := by
  have hn := W.2.2.2
  have hb := br_le hn
  have hc := W.cc
  have hcl := ce_lt hn hx (show p < 4 by omega)
  -- the state in which the root is come to
  let s1 : SS := up (up (up s 46 8 (s 0 15)) 46 9 (wl_ n x)) 46 10 (iI p)
  let s2 : SS := upr s1 48 (fun j => if br n ≤ j ∧ j < br n + szR n then 0 else s1 48 j)
  let s3 : SS := up (up s2 46 5 0) 46 6 (-1)
  have q1 : CW T kd tl c tn s1 := ((h.up1 (by omega)).up1 (by omega)).up1 (by omega)
  have q3 : CW T kd tl c tn s3 := ((q1.ur (by omega)).up1 (by omega)).up1 (by omega)
  have z3 : CZ 46 49 s s3 := (((CZ.up1 (by omega)).tr (CZ.up1 (by omega))).tr (CZ.up1 (by omega))).tr ((CZ.ur (by omega)).tr ((CZ.up1 (by omega)).tr (CZ.up1 (by omega))))
  have s352 : s3 52 = s 52 := z3.at (by omega) (by omega)
  have s152 : s1 52 = s 52 := by show up (up (up s 46 8 _) 46 9 _) 46 10 _ 52 = _; rw [up_cell (by omega), up_cell (by omega), up_cell (by omega)]
  have s348 : s3 48 = fun j => if br n ≤ j ∧ j < br n + szR n then 0 else s1 48 j := by show up (up s2 46 5 0) 46 6 (-1) 48 = _; rw [up_cell (by omega), up_cell (by omega)]; exact upr_eq _ _ _
  have s346 : ∀ j, j ≠ 5 → j ≠ 6 → s3 46 j = s1 46 j := by
    intro j a b
    show up (up s2 46 5 0) 46 6 (-1) 46 j = _
    rw [up_slot b, up_slot a]
    show upr s1 48 _ 46 j = _
    rw [upr_ne (by omega)]
  have a9 : s3 46 8 = s 0 15 := by rw [s346 8 (by omega) (by omega)]; show up (up (up s 46 8 _) 46 9 _) 46 10 _ 46 8 = _; rw [up_slot (by omega), up_slot (by omega), up_at]
  have a10 : s3 46 9 = wl_ n x := by rw [s346 9 (by omega) (by omega)]; show up (up (up s 46 8 _) 46 9 _) 46 10 _ 46 9 = _; rw [up_slot (by omega), up_at]
  have a11 : s3 46 10 = iI p := by rw [s346 10 (by omega) (by omega)]; show up (up (up s 46 8 _) 46 9 _) 46 10 _ 46 10 = _; rw [up_at]
  have h5 : s3 46 5 = iI ((0 : Nat) : Int) := by show up (up s2 46 5 0) 46 6 (-1) 46 5 = _; rw [up_slot (by omega), up_at]; rfl
  have h6 : s3 46 6 = -1 := up_at _ _ _ _
  -- the picture
  let g3 : SS := gho s3 (upd (upd (fun _ => 0) 6 (iI ((0 : Nat) : Int))) 7 (-1)) (fun _ => 0) (fun _ => UNK) (fun _ => 0)
  have hg3 : CW T kd tl c tn g3 := q3.of (fun k hk => gho_o _ _ _ _ _ (by omega))
  have g3u : ∀ y w, g3 48 (ce n y w) = UNK := fun y w => by show gho _ _ _ _ _ 48 _ = _; rw [gho_48]
  have g37 : g3 46 7 = -1 := by show gho _ _ _ _ _ 46 _ = _; rw [gho_46, upd_eq]
  have R3 : RELf n 0 g3 s3 := by
    refine ⟨fun k hk => (gho_o _ _ _ _ _ hk).symm, by show gho _ _ _ _ _ 46 _ = _; rw [gho_46, upd_ne (by omega), upd_eq], h5, by omega, ?_, fun j hj => by omega, Or.inl ⟨h6, g37⟩⟩
    intro y w hy hw4
    have hsz := sz_lt hn hy
    rw [g3u, s348]
    show (bt (if br n ≤ br n + y ∧ br n + y < br n + szR n then 0 else s1 48 (br n + y)) w = true) ↔ _
    rw [if_pos (by omega), b_0]
    simp
  obtain ⟨ta1, t1, e1, eR, eK, e2, e3, e4, e5, e6, e7, e8, e9⟩ := co_newG W R3 hg3 (l := 8) (ip := 0) (a3 := -1) hx hp (by omega) (Or.inl ⟨rfl, rfl, rfl⟩) (by omega) g37 (g3u x p)
  have fin : ∃ ta2 t2, lp_X0_solve_110 endQ FU 0 ta1 = endQ ta2 ∧ REL n t2 ta2 ∧ KEPA ta1 ta2 ∧ (DNE T kd tl n c tn x p t2 ∨ (¬ FQ T n c tn x p ∧ CW T kd tl c tn t2 ∧ t2 46 7 = -1)) := by
    by_cases qq : qF T n x tn c = true
    · refine ⟨ta1, t1, ?_, ⟨_, eR⟩, KEPA.rf ta1, Or.inl ?_⟩
      · have no : (0 : Int32) ≤ ta1 46 6 := by
          refine (REL.no hn ⟨_, eR⟩).mpr ?_
          rw [e8, if_pos qq]
          simp (disch := omega) only [Int.toNat_natCast, iI_lt, iI_le, iI_eq, iI_add, iI_sub, iI_mul, iI_neg, iI_clamp, inb_ii, z_0]
          omega
        rw [fu_eq, show (1000000000 : Nat) = 999999999 + 1 from rfl, lp_X0_solve_110]
        refine e_if_f (by rw [eR.2.2.1]; decide) ?_
        refine e_if_f (by decide) ?_
        exact e_if_t no rfl
      · obtain ⟨z1, z2⟩ := (dq_0 (T := T) (n := n) (c := c) (tn := tn) (y := x) (w := p)).mpr qq
        rw [if_pos qq] at e8
        refine ⟨e3, z1, by omega, ?_, ?_⟩
        · rw [z2, Nat.add_zero, Nat.mod_eq_of_lt hp]
          exact e8
        · rw [z2]
          exact ⟨by rw [e4, upd_eq], fun j hj => by omega⟩
    · rw [if_neg qq] at e8
      have hce : ce n x p = 4 * br n + (4 * x + p) := by unfold ce; omega
      refine cs_main W hx hp endQ 18725 FU 0 1 t1 ta1 (by omega) (fu_lt (by omega)) (by omega) eR ⟨fun _ => 0, ⟨e3, e7, e8, ?_⟩, ⟨?_, ?_⟩, ?_, ?_, ?_⟩
      · rw [e4, hce, dcF_up (by rw [← hce]; exact g3u x p) unk_m1 _ (by omega), dcF_all _ (by
          intro j hj
          have := g3u (j / 4) (j % 4)
          rw [← this]
          congr 1
          unfold ce
          omega)]
      · intro j hj
        obtain rfl : j = 0 := by omega
        exact ⟨x, p, hx, hp, by rw [e6, upd_eq], by rw [e4, upd_eq]; exact unk_m1, Nat.le_refl 0⟩
      · intro y w a b d
        refine ⟨0, by omega, ?_⟩
        by_cases z : ce n y w = ce n x p
        · rw [e6, upd_eq, z]
        · rw [e4, upd_ne z] at d
          exact absurd (g3u y w) d
      · intro j j2 y w y2 w2 _ _ _ _ _ _ _ _
        exact Nat.le_refl 0
      · intro _ y w y2 w2 _ _ _ _ _ _
        exact Nat.zero_le _
      · have only : ∀ y w, y < szR n → w < c → t1 48 (ce n y w) ≠ UNK → y = x ∧ w = p := by
          intro y w a b d
          by_cases z : ce n y w = ce n x p
          · exact ce_inj z (by omega) (by omega)
          · rw [e4, upd_ne z] at d
            exact absurd (g3u y w) d
        by_cases f : FQ T n c tn x p
        · right
          have h0 : dq T n c tn x p ≠ 0 := fun e => qq (dq_0.mp ⟨f, e⟩)
          have pm : (p + 0) % c = p := by rw [Nat.add_zero, Nat.mod_eq_of_lt hp]
          refine ⟨0, 0, f, ?_, by omega, Nat.le_refl 0, by omega, ?_, rfl, ?_, ?_, ⟨by rw [e4, upd_eq], fun j hj => by omega⟩, ?_, ?_⟩
          · intro y w a b d _
            obtain ⟨rfl, rfl⟩ := only y w a b d
            exact Nat.le_refl _
          · rw [e6, upd_eq, pm]
            rfl
          · intro j y w hj
            omega
          · intro y w _ _ _ _ _
            exact Nat.le_refl 0
          · intro j hj
            obtain rfl : j = 0 := by omega
            rw [pm]
            show t1 48 (ce n x p) ≠ UNK
            rw [e4, upd_eq]
            exact unk_m1
          · intro _ l hl
            unfold thr at hl
            omega
        · left
          refine ⟨f, fun y w a b d => ?_⟩
          obtain ⟨rfl, rfl⟩ := only y w a b d
          exact f
  obtain ⟨ta2, t2, g1, gR, gK, g4⟩ := fin
  have kk : KEPA s3 ta2 := eK.tr gK
  have run : ∀ t, endQ ta2 = some (0, t) → ((lts (up s 46 8 (s 0 15)) (fun (s2 : SS) => lts (up s2 46 9 (s2 52 0)) (fun (s3 : SS) => lts (up s3 46 10 (s3 52 1)) (fun (s4 : SS) => bdp (f_X6_lengthOf (s4 52 0) s4) (fun (v5 : Int32) => bdp (f_X6_bareOf v5 s4) (fun (v6 : Int32) => bdp (f_X6_bareOf (v5 + 1) s4) (fun (v7 : Int32) => bd (f_J7_fill_fda19 v6 v7 0 s4) (fun (v8 : Int32) (s9 : SS) => lts (up s9 46 5 0) (fun (s10 : SS) => lts (up s10 46 6 ((-1))) (fun (s11 : SS) => bd (f_X0_comeTo (s11 52 0) (s11 52 1) 8 0 s11) (fun (v12 : Int32) (s13 : SS) => jn (fun (s14 : SS) => jn (fun (v16 : Int32) => lts (up s14 46 7 v16) (fun (s18 : SS) => some (0, s18))) (fun (k17 : Int32 → Res) => if (0 : Int32) ≤ (s14 46 6) then bdp (f_X0_daysTo (s14 46 6) s14) (fun (v20 : Int32) => k17 v20) else k17 ((-1)))) (fun (k15 : SS → Res) => lp_X0_solve_110 k15 FU 0 s13)))))))))))) : Res) = some (0, t) := by
    intro t hv
    refine e_lts ?_
    rw [show (up s 46 8 (s 0 15)) 52 0 = wl_ n x from hw]
    refine e_lts ?_
    rw [show (up (up s 46 8 (s 0 15)) 46 9 (wl_ n x)) 52 1 = iI p from hp2]
    refine e_lts ?_
    show bdp (f_X6_lengthOf (s1 52 0) s1) _ = _
    rw [s152, hw]
    refine e_bdp (rw_len q1.1.1 hn hx) ?_
    refine e_bdp (rw_bare (by omega)) ?_
    refine e_bdp (rw_bare1 hn) ?_
    refine e_bd (fillr_48 _ _ (by omega) (by omega)) ?_
    refine e_lts ?_
    refine e_lts ?_
    show bd (f_X0_comeTo (s3 52 0) (s3 52 1) 8 0 s3) _ = _
    rw [s352, hw, hp2]
    refine e_bd e1 ?_
    refine e_jn ?_
    refine Eq.trans g1 ?_
    exact hv
  have keep : ∀ v, CZ 46 49 s (up ta2 46 7 v) ∧ (up ta2 46 7 v) 46 8 = s 0 15 ∧ (up ta2 46 7 v) 46 9 = wl_ n x ∧ (up ta2 46 7 v) 46 10 = iI p := by
    intro v
    refine ⟨(z3.tr kk.1).tr (CZ.up1 (by omega)), ?_, ?_, ?_⟩
    · rw [up_slot (by omega), kk.2 8 (by omega) (by omega)]; exact a9
    · rw [up_slot (by omega), kk.2 9 (by omega) (by omega)]; exact a10
    · rw [up_slot (by omega), kk.2 10 (by omega) (by omega)]; exact a11
  have ende : ∃ t, endQ ta2 = some (0, t) ∧ CZ 46 49 s t ∧ CW T kd tl c tn t ∧ SOL T n c tn x p t ∧ t 46 8 = s 0 15 ∧ t 46 9 = wl_ n x ∧ t 46 10 = iI p := by
    rcases g4 with a | ⟨a1, a2, a3⟩
    · have way := cs_way W hx hp gR a
      have no := (gR.no hn).mpr (dne_no W hx hp a)
      obtain ⟨b1, b2, b3, -⟩ := a
      obtain ⟨r1, r2, r3, r4⟩ := keep (iI (dq T n c tn x p))
      obtain ⟨J, j1, j2, j3, j4⟩ := id way
      have days := cs_steps (s := ta2) b3 j2 j3 (fun d hd => ⟨(j4 d hd).1, (j4 d hd).2.1⟩)
      rw [← j1] at days
      refine ⟨up ta2 46 7 (iI (dq T n c tn x p)), ?_, r1, (gR.cw b1).up1 (by omega), Or.inr ⟨b2, b3, up_at _ _ _ _, ⟨J, by rw [up_slot (by omega)]; exact j1, j2, j3, ?_⟩⟩, r2, r3, r4⟩
      · unfold endQ
        refine e_jn ?_
        refine e_if_t no ?_
        refine e_bdp days ?_
        exact e_lts rfl
      · unfold gl at j4 ⊢
        rw [up_cell (by omega)]
        exact j4
    · obtain ⟨r1, r2, r3, r4⟩ := keep (-1)
      have m1 := gR.m1 hn a3
      refine ⟨up ta2 46 7 (-1), ?_, r1, (gR.cw a2).up1 (by omega), Or.inl ⟨a1, up_at _ _ _ _⟩, r2, r3, r4⟩
      unfold endQ
      refine e_jn ?_
      refine e_if_f (by rw [m1]; decide) ?_
      exact e_lts rfl
  obtain ⟨t, r0, r2⟩ := ende
  have r1 := run t r0
  unfold f_X0_solve
  by_cases u1 : s 46 8 = s 0 15
  · by_cases u2 : s 46 9 = s 52 0
    · by_cases u3 : s 46 10 = s 52 1
      · obtain ⟨m, y, w, b1, b2, b3, b4, b5, b6⟩ := hm.2 u1
        rw [u2, hw] at b4
        obtain ⟨rfl, rfl⟩ := wl_inj hn b1 hx b2 b4
        rw [u3, hp2, iI_eq (by omega) (by omega)] at b5
        have : w = p := by omega
        subst this
        refine ⟨s, ?_, CZ.rf _ _ _, h, b6, u1, by rw [u2]; exact hw, by rw [u3]; exact hp2⟩
        refine e_jn ?_
        refine e_if_t u1 ?_
        refine e_if_t u2 ?_
        exact e_if_t u3 rfl
      · refine ⟨t, ?_, r2⟩
        refine e_jn ?_
        refine e_if_t u1 ?_
        refine e_if_t u2 ?_
        exact e_if_f u3 r1
    · refine ⟨t, ?_, r2⟩
      refine e_jn ?_
      refine e_if_t u1 ?_
      exact e_if_f u2 r1
  · refine ⟨t, ?_, r2⟩
    refine e_jn ?_
    exact e_if_f u1 r1
theorem cc_soon (W : WOK T kd tl n c tn) (hx : x < szR n) (hp : p < c) (a : Int32) {s : SS} (h : CW T kd tl c tn s) (hm : SMEM T c tn s) (hw : s 52 0 = wl_ n x) (hp2 : s 52 1 = iI p) : ∃ t, f_X11_soon a s = some (ansSoon T n c tn x p a, t) ∧ CZ 46 49 s t ∧ CW T kd tl c tn t ∧ SMEM T c tn t := by
  have hn := W.2.2.2
  have hc := W.cc
  unfold f_X11_soon ansSoon
  by_cases q : a.toInt < -1
  · rw [if_pos q]
    refine ⟨s, ?_, CZ.rf _ _ _, h, hm⟩
    exact e_if_f (by rw [le32]; show ¬ (-1 : Int) ≤ a.toInt; omega) rfl
  · rw [if_neg q]
    obtain ⟨t, e1, e2, e3, e4, e5, e6, e7⟩ := cs_solve W hx hp h hm hw hp2
    have e015 : t 0 15 = s 0 15 := by rw [e2.1 0 (by omega) (by omega) (by omega) (by omega) (by omega) (by omega)]
    refine ⟨t, ?_, e2, e3, by rw [e5, e015]; exact Int.le_refl _, fun _ => ⟨n, x, p, hn, hx, hp, e6, e7, e4⟩⟩
    refine e_if_t (by rw [le32]; show (-1 : Int) ≤ a.toInt; omega) ?_
    refine e_bd e1 ?_
    rcases e4 with ⟨g1, g2⟩ | ⟨g1, g2, g3, J, j1, j2, j3, j4⟩
    · rw [if_neg g1]
      exact e_if_f (by rw [g2]; decide) rfl
    · rw [if_pos g1]
      refine e_if_t (by rw [g3]; simp (disch := omega) only [Int.toNat_natCast, iI_lt, iI_le, iI_eq, iI_add, iI_sub, iI_mul, iI_neg, iI_clamp, inb_ii, z_0]; omega) ?_
      by_cases z : a.toInt = -1
      · rw [if_pos z]
        refine e_if_t ((m1_iff a).mpr z) ?_
        rw [g3]
      · rw [if_neg z]
        refine e_if_f (fun w => z ((m1_iff a).mp w)) ?_
        by_cases z2 : (dq T n c tn x p : Int) ≤ a.toInt
        · rw [if_pos z2]
          refine e_bdp (v := -1) ?_ rfl
          unfold f_X0_madeOn
          refine e_if_f (by rw [lt32]; show ¬ a.toInt < 0; omega) ?_
          exact e_if_f (by rw [g3, lt32, iI_toInt (by omega)]; omega) rfl
        · rw [if_neg z2]
          have ed := e_lit (a := a) (k := (a.toInt.toNat : Nat)) (by omega)
          have hd : a.toInt.toNat < dq T n c tn x p := by omega
          generalize a.toInt.toNat = d at ed hd ⊢
          rw [ed]
          exact e_bdp (cs_made g2 g3 (G := fun d => gct T n c tn (gpt T n c tn x p d) ((p + d) % c)) j1 j3 j4 hd) rfl
