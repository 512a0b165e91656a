/-! how soon, the class: the answer, what is kept of it -/
variable {T : TW} {kd tl tn : Nat → Nat} {n c x p : Nat} {s t u : SS}
def SOL (T : TW) (n c : Nat) (tn : Nat → Nat) (x p : Nat) (s : SS) : Prop := (¬ FQ T n c tn x p ∧ s 46 8 = -1) ∨ (FQ T n c tn x p ∧ dq T n c tn x p ≤ 18724 ∧ s 46 8 = iI (dq T n c tn x p) ∧ s 46 7 = iI (ce n (gpt T n c tn x p (dq T n c tn x p)) ((p + dq T n c tn x p) % c)) ∧ CHN T n c tn x p (dq T n c tn x p) s)
def SMEM (T : TW) (c : Nat) (tn : Nat → Nat) (s : SS) : Prop := (s 46 9).toInt ≤ (s 0 15).toInt ∧ (s 46 9 = s 0 15 → ∃ m y w : Nat, (1 ≤ m ∧ m ≤ 4) ∧ y < szR m ∧ w < c ∧ s 46 10 = wl_ m y ∧ s 46 11 = iI w ∧ SOL T m c tn y w s)
theorem wl_inj {m y x : Nat} (hm : 1 ≤ m ∧ m ≤ 4) (hn : 1 ≤ n ∧ n ≤ 4) (hy : y < szR m) (hx : x < szR n) (h : wl_ m y = wl_ n x) : m = n ∧ y = x := by
  have h1 := (sz_lt hm hy).1
  have h2 := (sz_lt hn hx).1
  unfold wl_ at h
  rw [iI_eq (by omega) (by omega)] at h
  have e2 : br m + y = br n + x := by omega
  clear h h1 h2
  unfold br szR at *
  obtain ⟨a1, a2⟩ := hm
  obtain ⟨b1, b2⟩ := hn
  obtain rfl | rfl | rfl | rfl : m = 1 ∨ m = 2 ∨ m = 3 ∨ m = 4 := by omega
  all_goals obtain rfl | rfl | rfl | rfl : n = 1 ∨ n = 2 ∨ n = 3 ∨ n = 4 := by omega
  all_goals simp at *
  all_goals omega
theorem gpt_ce (W : WOK T kd tl n c tn) (hx : x < szR n) (hp : p < c) (h : FQ T n c tn x p) {d : Nat} (hd : d ≤ dq T n c tn x p) : ce n (gpt T n c tn x p d) ((p + d) % c) < 21392 := by
  have g := gpt_ok W.2.2.2 hx hp h d hd
  exact ce_lt W.2.2.2 g.1 (by have := W.pl (p + d); have := W.cc; omega)
theorem cs_steps (W : WOK T kd tl n c tn) (hx : x < szR n) (hp : p < c) (hf : FQ T n c tn x p) (hle : dq T n c tn x p ≤ 18724) (h7 : s 46 7 = iI (ce n (gpt T n c tn x p (dq T n c tn x p)) ((p + dq T n c tn x p) % c))) (hc : CHN T n c tn x p (dq T n c tn x p) s) : f_X0_stepsToQuiet s = some (iI (dq T n c tn x p)) := by
  have lp : ∀ (d N : Nat), d ≤ dq T n c tn x p → d + 2 ≤ N → lp_X0_stepsToQuiet_9 s N (iI ((dq T n c tn x p - d : Nat) : Int) - 1) (iI (ce n (gpt T n c tn x p d) ((p + d) % c))) (iI ((dq T n c tn x p - d : Nat) : Int)) = some (iI (dq T n c tn x p)) := by
    intro d
    induction d with
    | zero =>
      intro N hd hN
      obtain ⟨N, rfl⟩ : ∃ M, N = M + 1 + 1 := ⟨N - 2, by omega⟩
      have hcl := gpt_ce W hx hp hf (d := 0) (by omega)
      have e0 : s 48 (ce n (gpt T n c tn x p 0) ((p + 0) % c)) = -1 := by
        rw [Nat.add_zero, Nat.mod_eq_of_lt hp]
        exact hc.1
      rw [lp_X0_stepsToQuiet_9]
      refine e_if_f (by simp (disch := omega) only [Int.toNat_natCast, iI_lt, iI_le, iI_eq, iI_add, iI_sub, iI_mul, iI_neg, iI_clamp, inb_ii, z_21392]; omega) ?_
      refine e_if_f (by simp (disch := omega) only [Int.toNat_natCast, iI_lt, iI_le, iI_eq, iI_add, iI_sub, iI_mul, iI_neg, iI_clamp, inb_ii, z_0]; omega) ?_
      refine e_if_f (by simp (disch := omega) only [Int.toNat_natCast, iI_lt, iI_le, iI_eq, iI_add, iI_sub, iI_mul, iI_neg, iI_clamp, inb_ii, z_21392]; omega) ?_
      refine e_gd (by simp (disch := omega) only [Int.toNat_natCast, iI_lt, iI_le, iI_eq, iI_add, iI_sub, iI_mul, iI_neg, iI_clamp, inb_ii]; omega) ?_
      rw [iI_clamp (by omega), Int.toNat_natCast, e0]
      refine e_lt ?_
      rw [lp_X0_stepsToQuiet_9, Nat.sub_zero, nx_s]
      refine e_if_f (by simp (disch := omega) only [Int.toNat_natCast, iI_lt, iI_le, iI_eq, iI_add, iI_sub, iI_mul, iI_neg, iI_clamp, inb_ii, z_21392]; omega) ?_
      refine e_if_t (by decide) ?_
      rw [z_1, iI_sub, iI_add]
      congr 2
      omega
    | succ d ih =>
      intro N hd hN
      obtain ⟨N, rfl⟩ : ∃ M, N = M + 1 := ⟨N - 1, by omega⟩
      have hcl := gpt_ce W hx hp hf hd
      have e1 := (hc.2 d (by omega)).1
      have ih2 := ih N (by omega) (by omega)
      rw [lp_X0_stepsToQuiet_9]
      refine e_if_f (by simp (disch := omega) only [Int.toNat_natCast, iI_lt, iI_le, iI_eq, iI_add, iI_sub, iI_mul, iI_neg, iI_clamp, inb_ii, z_21392]; omega) ?_
      refine e_if_f (by simp (disch := omega) only [Int.toNat_natCast, iI_lt, iI_le, iI_eq, iI_add, iI_sub, iI_mul, iI_neg, iI_clamp, inb_ii, z_0]; omega) ?_
      refine e_if_f (by simp (disch := omega) only [Int.toNat_natCast, iI_lt, iI_le, iI_eq, iI_add, iI_sub, iI_mul, iI_neg, iI_clamp, inb_ii, z_21392]; omega) ?_
      refine e_gd (by simp (disch := omega) only [Int.toNat_natCast, iI_lt, iI_le, iI_eq, iI_add, iI_sub, iI_mul, iI_neg, iI_clamp, inb_ii]; omega) ?_
      rw [iI_clamp (by omega), Int.toNat_natCast, e1]
      refine e_lt ?_
      have a1 : iI ((dq T n c tn x p - (d + 1) : Nat) : Int) - 1 + 1 = iI ((dq T n c tn x p - d : Nat) : Int) - 1 := by
        rw [z_1, iI_sub, iI_add, iI_sub]
        congr 1
        omega
      have a2 : iI ((dq T n c tn x p - (d + 1) : Nat) : Int) + 1 = iI ((dq T n c tn x p - d : Nat) : Int) := by
        rw [nx_s]
        congr 2
        omega
      rw [a1, a2]
      exact ih2
  unfold f_X0_stepsToQuiet
  refine e_lt ?_
  rw [h7]
  have := lp (dq T n c tn x p) FU (Nat.le_refl _) (Nat.le_of_lt (fu_lt (by omega)))
  rw [Nat.sub_self] at this
  exact this
theorem cs_made (W : WOK T kd tl n c tn) (hx : x < szR n) (hp : p < c) (hf : FQ T n c tn x p) (hle : dq T n c tn x p ≤ 18724) (h8 : s 46 8 = iI (dq T n c tn x p)) (h7 : s 46 7 = iI (ce n (gpt T n c tn x p (dq T n c tn x p)) ((p + dq T n c tn x p) % c))) (hc : CHN T n c tn x p (dq T n c tn x p) s) {d : Nat} (hd : d < dq T n c tn x p) : f_X0_madeOn (iI d) s = some (iI (gct T n c tn (gpt T n c tn x p d) ((p + d) % c))) := by
  have lp : ∀ (j N : Nat) (K : Int32 → Option Int32), d + 1 + j ≤ dq T n c tn x p → j < N → lp_X0_madeOn_26 (iI d) s K N (iI (ce n (gpt T n c tn x p (d + 1 + j)) ((p + (d + 1 + j)) % c))) (iI ((d + j : Nat) : Int)) = K (iI (ce n (gpt T n c tn x p (d + 1)) ((p + (d + 1)) % c))) := by
    intro j
    induction j with
    | zero =>
      intro N K hj hN
      obtain ⟨N, rfl⟩ : ∃ M, N = M + 1 := ⟨N - 1, by omega⟩
      rw [lp_X0_madeOn_26]
      exact e_if_t (by simp (disch := omega) only [Int.toNat_natCast, iI_lt, iI_le, iI_eq, iI_add, iI_sub, iI_mul, iI_neg, iI_clamp, inb_ii]; omega) rfl
    | succ j ih =>
      intro N K hj hN
      obtain ⟨N, rfl⟩ : ∃ M, N = M + 1 := ⟨N - 1, by omega⟩
      have hcl := gpt_ce W hx hp hf hj
      have e1 := (hc.2 (d + 1 + j) (by omega)).1
      rw [lp_X0_madeOn_26]
      refine e_if_f (by simp (disch := omega) only [Int.toNat_natCast, iI_lt, iI_le, iI_eq, iI_add, iI_sub, iI_mul, iI_neg, iI_clamp, inb_ii]; omega) ?_
      refine e_if_f (by simp (disch := omega) only [Int.toNat_natCast, iI_lt, iI_le, iI_eq, iI_add, iI_sub, iI_mul, iI_neg, iI_clamp, inb_ii, z_0]; omega) ?_
      refine e_if_f (by simp (disch := omega) only [Int.toNat_natCast, iI_lt, iI_le, iI_eq, iI_add, iI_sub, iI_mul, iI_neg, iI_clamp, inb_ii, z_21392]; omega) ?_
      refine e_gd (by simp (disch := omega) only [Int.toNat_natCast, iI_lt, iI_le, iI_eq, iI_add, iI_sub, iI_mul, iI_neg, iI_clamp, inb_ii]; omega) ?_
      rw [iI_clamp (by omega), Int.toNat_natCast]
      refine e_lt ?_
      have e1 : s 48 (ce n (gpt T n c tn x p (d + 1 + (j + 1))) ((p + (d + 1 + (j + 1))) % c)) = iI (ce n (gpt T n c tn x p (d + 1 + j)) ((p + (d + 1 + j)) % c)) := e1
      rw [e1, z_m1, iI_add, show ((d + (j + 1) : Nat) : Int) + -1 = ((d + j : Nat) : Int) by omega]
      exact ih N K (by omega) (by omega)
  have hcl := gpt_ce W hx hp hf (d := d + 1) (by omega)
  have e2 := (hc.2 d hd).2
  unfold f_X0_madeOn
  refine e_if_f (by simp (disch := omega) only [Int.toNat_natCast, iI_lt, iI_le, iI_eq, iI_add, iI_sub, iI_mul, iI_neg, iI_clamp, inb_ii, z_0]; omega) ?_
  refine e_if_t (by rw [h8]; simp (disch := omega) only [Int.toNat_natCast, iI_lt, iI_le, iI_eq, iI_add, iI_sub, iI_mul, iI_neg, iI_clamp, inb_ii]; omega) ?_
  refine e_lt ?_
  refine e_lt ?_
  refine e_jn ?_
  rw [h7, h8]
  have := lp (dq T n c tn x p - (d + 1)) FU (fun (v5 : Int32) => if (v5 : Int32) < 0 then some ((-1)) else if (21392 : Int32) ≤ (v5 : Int32) then some ((-1)) else gd (inb v5 21392) (some (s 49 (Int32.toNatClampNeg v5)))) (by omega) (fu_lt (by omega))
  rw [show d + 1 + (dq T n c tn x p - (d + 1)) = dq T n c tn x p by omega] at this
  have a1 : iI (dq T n c tn x p : Int) - 1 = iI ((d + (dq T n c tn x p - (d + 1)) : Nat) : Int) := by
    rw [z_1, iI_sub]
    congr 1
    omega
  rw [a1]
  refine Eq.trans this ?_
  refine e_if_f (by simp (disch := omega) only [Int.toNat_natCast, iI_lt, iI_le, iI_eq, iI_add, iI_sub, iI_mul, iI_neg, iI_clamp, inb_ii, z_0]; omega) ?_
  refine e_if_f (by simp (disch := omega) only [Int.toNat_natCast, iI_lt, iI_le, iI_eq, iI_add, iI_sub, iI_mul, iI_neg, iI_clamp, inb_ii, z_21392]; omega) ?_
  refine e_gd (by simp (disch := omega) only [Int.toNat_natCast, iI_lt, iI_le, iI_eq, iI_add, iI_sub, iI_mul, iI_neg, iI_clamp, inb_ii]; omega) ?_
  rw [iI_clamp (by omega), Int.toNat_natCast, e2]
theorem dcF_all {v : Int32} {R : Nat → Int32} {b : Nat} : ∀ m, (∀ j, j < m → R (b + j) = v) → dcF v R b m = 0 := by
  intro m
  induction m with
  | zero => intro _; rfl
  | succ m ih =>
    intro h
    unfold dcF
    rw [ih (fun j hj => h j (by omega)), if_pos (h m (by omega))]
theorem cs_solve (W : WOK T kd tl n c tn) (hx : x < szR n) (hp : p < c) (h : CW T kd tl c tn s) (hm : SMEM T c tn s) (hw : s 52 0 = wl_ n x) (hp2 : s 52 1 = iI p) : ∃ t, f_X0_solve (s 0 15) s = some (0, t) ∧ CZ 46 49 s t ∧ CW T kd tl c tn t ∧ SOL T n c tn x p t ∧ t 46 9 = s 0 15 ∧ t 46 10 = wl_ n x ∧ t 46 11 = iI p := by
  have hn := W.2.2.2
  have hb := br_le hn
  have hc := W.cc
  have m4 : ∀ a : Nat, iI (a : Int) * 4 = iI ((a * 4 : Nat) : Int) := fun a => by rw [z_4, iI_mul]; congr 1
  have hcl := ce_lt hn hx (show p < 4 by omega)
  -- the state in which the root is come to
  let s1 : SS := up (up (up s 46 9 (s 0 15)) 46 10 (wl_ n x)) 46 11 (iI p)
  let s2 : SS := upr s1 48 (fun j => if br n * 4 ≤ j ∧ j < (br n + szR n) * 4 then -1000000000 else s1 48 j)
  let s3 : SS := up (up s2 46 6 0) 46 7 (-1)
  have q1 : CW T kd tl c tn s1 := ((h.up1 (by omega)).up1 (by omega)).up1 (by omega)
  have q3 : CW T kd tl c tn s3 := ((q1.ur (by omega)).up1 (by omega)).up1 (by omega)
  have z3 : CZ 46 49 s s3 := (((CZ.up1 (by omega)).tr (CZ.up1 (by omega))).tr (CZ.up1 (by omega))).tr ((CZ.ur (by omega)).tr ((CZ.up1 (by omega)).tr (CZ.up1 (by omega))))
  have s352 : s3 52 = s 52 := z3.at (by omega) (by omega)
  have s152 : s1 52 = s 52 := by show up (up (up s 46 9 _) 46 10 _) 46 11 _ 52 = _; rw [up_cell (by omega), up_cell (by omega), up_cell (by omega)]
  have s348 : s3 48 = fun j => if br n * 4 ≤ j ∧ j < (br n + szR n) * 4 then -1000000000 else s1 48 j := by show up (up s2 46 6 0) 46 7 (-1) 48 = _; rw [up_cell (by omega), up_cell (by omega)]; exact upr_eq _ _ _
  have s3u : ∀ y w, y < szR n → w < 4 → s3 48 (ce n y w) = UNK := by
    intro y w hy hw4
    rw [s348]
    show (if br n * 4 ≤ ce n y w ∧ ce n y w < (br n + szR n) * 4 then -1000000000 else s1 48 (ce n y w)) = UNK
    rw [if_pos (by unfold ce; omega)]
    rfl
  have s346 : ∀ j, j ≠ 6 → j ≠ 7 → s3 46 j = s1 46 j := by
    intro j a b
    show up (up s2 46 6 0) 46 7 (-1) 46 j = _
    rw [up_slot b, up_slot a]
    show upr s1 48 _ 46 j = _
    rw [upr_ne (by omega)]
  have a9 : s3 46 9 = s 0 15 := by rw [s346 9 (by omega) (by omega)]; show up (up (up s 46 9 _) 46 10 _) 46 11 _ 46 9 = _; rw [up_slot (by omega), up_slot (by omega), up_at]
  have a10 : s3 46 10 = wl_ n x := by rw [s346 10 (by omega) (by omega)]; show up (up (up s 46 9 _) 46 10 _) 46 11 _ 46 10 = _; rw [up_slot (by omega), up_at]
  have a11 : s3 46 11 = iI p := by rw [s346 11 (by omega) (by omega)]; show up (up (up s 46 9 _) 46 10 _) 46 11 _ 46 11 = _; rw [up_at]
  have h6 : s3 46 6 = iI ((0 : Nat) : Int) := by show up (up s2 46 6 0) 46 7 (-1) 46 6 = _; rw [up_slot (by omega), up_at]; rfl
  have h7 : s3 46 7 = -1 := up_at _ _ _ _
  obtain ⟨t1, e1, e2, e3, e4, e5, e6, e7, e8, e9⟩ := co_new W q3 (f := 0) hx hp (-1) 8 h6 (by omega) h7 (s3u x p hx (by omega))
  have k1 : KEP s3 t1 := ⟨e2, e9⟩
  have fin : ∃ t2, lp_X0_solve_115 (fun (s14 : SS) => bdp (f_X0_stepsToQuiet s14) (fun (v16 : Int32) => lts (up s14 46 8 v16) (fun (s17 : SS) => some ((0 : Int32), s17)))) FU 0 t1 = bdp (f_X0_stepsToQuiet t2) (fun (v16 : Int32) => lts (up t2 46 8 v16) (fun (s17 : SS) => some ((0 : Int32), s17))) ∧ KEP t1 t2 ∧ (DNE T kd tl n c tn x p t2 ∨ (¬ FQ T n c tn x p ∧ CW T kd tl c tn t2 ∧ t2 46 7 = -1)) := by
    by_cases qq : qF T n x tn c = true
    · refine ⟨t1, ?_, KEP.rf t1, Or.inl ?_⟩
      · obtain ⟨z1, z2⟩ := (dq_0 (T := T) (n := n) (c := c) (tn := tn) (y := x) (w := p)).mpr qq
        rw [fu_eq, show (1000000000 : Nat) = 999999999 + 1 from rfl, lp_X0_solve_115]
        refine e_if_f (by rw [e7]; decide) ?_
        refine e_if_f (by decide) ?_
        refine e_if_t ?_ rfl
        rw [e8, if_pos qq]
        simp (disch := omega) only [Int.toNat_natCast, iI_lt, iI_le, iI_eq, iI_add, iI_sub, iI_mul, iI_neg, iI_clamp, inb_ii, z_0]
        omega
      · obtain ⟨z1, z2⟩ := (dq_0 (T := T) (n := n) (c := c) (tn := tn) (y := x) (w := p)).mpr qq
        rw [if_pos qq] at e8
        refine ⟨e3, z1, by omega, ?_, ?_⟩
        · rw [z2, Nat.add_zero, Nat.mod_eq_of_lt hp]
          exact e8
        · rw [z2]
          exact ⟨by rw [e4, upd_eq], fun j hj => by omega⟩
    · rw [if_neg qq] at e8
      have hce : ce n x p = 4 * br n + (4 * x + p) := by unfold ce; omega
      refine cs_main W hx hp _ 18725 FU 0 1 t1 (by omega) (fu_lt (by omega)) (by omega) ⟨fun _ => 0, ⟨e3, e7, e8, ?_⟩, ⟨?_, ?_⟩, ?_, ?_, ?_⟩
      · rw [e4, hce, dcF_up (by rw [← hce]; exact s3u x p hx (by omega)) unk_m1 _ (by omega), dcF_all _ (by
          intro j hj
          have := s3u (j / 4) (j % 4) (by omega) (by omega)
          rw [← this]
          congr 1
          unfold ce
          omega)]
      · intro j hj
        obtain rfl : j = 0 := by omega
        exact ⟨x, p, hx, hp, by rw [e6, upd_eq], by rw [e4, upd_eq]; exact unk_m1, Nat.le_refl 0⟩
      · intro y w a b d
        refine ⟨0, by omega, ?_⟩
        by_cases z : ce n y w = ce n x p
        · rw [e6, upd_eq, z]
        · rw [e4, upd_ne z] at d
          exact absurd (s3u y w a (by omega)) d
      · intro j j2 y w y2 w2 _ _ _ _ _ _ _ _
        exact Nat.le_refl 0
      · intro _ y w y2 w2 _ _ _ _ _ _
        exact Nat.zero_le _
      · have only : ∀ y w, y < szR n → w < c → t1 48 (ce n y w) ≠ UNK → y = x ∧ w = p := by
          intro y w a b d
          by_cases z : ce n y w = ce n x p
          · exact ce_inj z (by omega) (by omega)
          · rw [e4, upd_ne z] at d
            exact absurd (s3u y w a (by omega)) d
        by_cases f : FQ T n c tn x p
        · right
          have h0 : dq T n c tn x p ≠ 0 := fun e => qq (dq_0.mp ⟨f, e⟩)
          have pm : (p + 0) % c = p := by rw [Nat.add_zero, Nat.mod_eq_of_lt hp]
          refine ⟨0, 0, f, ?_, by omega, Nat.le_refl 0, by omega, ?_, rfl, ?_, ?_, ⟨by rw [e4, upd_eq], fun j hj => by omega⟩, ?_, ?_⟩
          · intro y w a b d _
            obtain ⟨rfl, rfl⟩ := only y w a b d
            exact Nat.le_refl _
          · rw [e6, upd_eq, pm]
            rfl
          · intro j y w hj
            omega
          · intro y w _ _ _ _ _
            exact Nat.le_refl 0
          · intro j hj
            obtain rfl : j = 0 := by omega
            rw [pm]
            show t1 48 (ce n x p) ≠ UNK
            rw [e4, upd_eq]
            exact unk_m1
          · intro _ l hl
            unfold thr at hl
            omega
        · left
          refine ⟨f, fun y w a b d => ?_⟩
          obtain ⟨rfl, rfl⟩ := only y w a b d
          exact f
  obtain ⟨t2, g1, g2, g3⟩ := fin
  have kk := k1.tr g2
  have run : ∀ v, f_X0_stepsToQuiet t2 = some v → ((lts (up s 46 9 (s 0 15)) (fun (s2 : SS) => lts (up s2 46 10 (s2 52 0)) (fun (s3 : SS) => lts (up s3 46 11 (s3 52 1)) (fun (s4 : SS) => bdp (f_X6_lengthOf (s4 52 0) s4) (fun (v5 : Int32) => bdp (f_X6_bareOf v5 s4) (fun (v6 : Int32) => bdp (f_X6_bareOf (v5 + 1) s4) (fun (v7 : Int32) => bd (f_J7_fill_fda19_48 (v6 * 4) (v7 * 4) ((-1000000000)) s4) (fun (v8 : Int32) (s9 : SS) => lts (up s9 46 6 0) (fun (s10 : SS) => lts (up s10 46 7 ((-1))) (fun (s11 : SS) => bd (f_X0_comeTo (s11 52 0) (s11 52 1) ((-1)) 8 s11) (fun (v12 : Int32) (s13 : SS) => jn (fun (s14 : SS) => bdp (f_X0_stepsToQuiet s14) (fun (v16 : Int32) => lts (up s14 46 8 v16) (fun (s17 : SS) => some ((0 : Int32), s17)))) (fun (k15 : SS → Res) => lp_X0_solve_115 k15 FU 0 s13)))))))))))) : Res) = some (0, up t2 46 8 v) := by
    intro v hv
    refine e_lts ?_
    rw [show (up s 46 9 (s 0 15)) 52 0 = wl_ n x from hw]
    refine e_lts ?_
    rw [show (up (up s 46 9 (s 0 15)) 46 10 (wl_ n x)) 52 1 = iI p from hp2]
    refine e_lts ?_
    show bdp (f_X6_lengthOf (s1 52 0) s1) _ = _
    rw [s152, hw]
    refine e_bdp (rw_len q1.1.1 hn hx) ?_
    refine e_bdp (rw_bare (by omega)) ?_
    refine e_bdp (rw_bare1 hn) ?_
    rw [m4, m4]
    refine e_bd (fillr_48 _ _ (by omega) (by omega)) ?_
    refine e_lts ?_
    refine e_lts ?_
    show bd (f_X0_comeTo (s3 52 0) (s3 52 1) (-1) 8 s3) _ = _
    rw [s352, hw, hp2]
    refine e_bd e1 ?_
    refine e_jn ?_
    refine Eq.trans g1 ?_
    refine e_bdp hv ?_
    exact e_lts rfl
  have keep : ∀ v, CZ 46 49 s (up t2 46 8 v) ∧ (up t2 46 8 v) 46 9 = s 0 15 ∧ (up t2 46 8 v) 46 10 = wl_ n x ∧ (up t2 46 8 v) 46 11 = iI p := by
    intro v
    refine ⟨(z3.tr kk.1).tr (CZ.up1 (by omega)), ?_, ?_, ?_⟩
    · rw [up_slot (by omega), kk.2 9 (by omega) (by omega)]; exact a9
    · rw [up_slot (by omega), kk.2 10 (by omega) (by omega)]; exact a10
    · rw [up_slot (by omega), kk.2 11 (by omega) (by omega)]; exact a11
  have fresh : ∃ t, (∀ k1 : Res, True) ∧ ((lts (up s 46 9 (s 0 15)) (fun (s2 : SS) => lts (up s2 46 10 (s2 52 0)) (fun (s3 : SS) => lts (up s3 46 11 (s3 52 1)) (fun (s4 : SS) => bdp (f_X6_lengthOf (s4 52 0) s4) (fun (v5 : Int32) => bdp (f_X6_bareOf v5 s4) (fun (v6 : Int32) => bdp (f_X6_bareOf (v5 + 1) s4) (fun (v7 : Int32) => bd (f_J7_fill_fda19_48 (v6 * 4) (v7 * 4) ((-1000000000)) s4) (fun (v8 : Int32) (s9 : SS) => lts (up s9 46 6 0) (fun (s10 : SS) => lts (up s10 46 7 ((-1))) (fun (s11 : SS) => bd (f_X0_comeTo (s11 52 0) (s11 52 1) ((-1)) 8 s11) (fun (v12 : Int32) (s13 : SS) => jn (fun (s14 : SS) => bdp (f_X0_stepsToQuiet s14) (fun (v16 : Int32) => lts (up s14 46 8 v16) (fun (s17 : SS) => some ((0 : Int32), s17)))) (fun (k15 : SS → Res) => lp_X0_solve_115 k15 FU 0 s13)))))))))))) : Res) = some (0, t) ∧ CZ 46 49 s t ∧ CW T kd tl c tn t ∧ SOL T n c tn x p t ∧ t 46 9 = s 0 15 ∧ t 46 10 = wl_ n x ∧ t 46 11 = iI p := by
    rcases g3 with a | ⟨a1, a2, a3⟩
    · obtain ⟨b1, b2, b3, b4, b5⟩ := a
      obtain ⟨r1, r2, r3, r4⟩ := keep (iI (dq T n c tn x p))
      refine ⟨up t2 46 8 (iI (dq T n c tn x p)), fun _ => trivial, run _ (cs_steps W hx hp b2 b3 b4 b5), r1, b1.up1 (by omega), Or.inr ⟨b2, b3, up_at _ _ _ _, by rw [up_slot (by omega)]; exact b4, ?_⟩, r2, r3, r4⟩
      unfold CHN
      rw [up_cell (by omega), up_cell (by omega)]
      exact b5
    · obtain ⟨r1, r2, r3, r4⟩ := keep (-1)
      refine ⟨up t2 46 8 (-1), fun _ => trivial, run _ ?_, r1, a2.up1 (by omega), Or.inl ⟨a1, up_at _ _ _ _⟩, r2, r3, r4⟩
      unfold f_X0_stepsToQuiet
      refine e_lt ?_
      rw [a3, fu_eq, show (1000000000 : Nat) = 999999999 + 1 from rfl, lp_X0_stepsToQuiet_9]
      refine e_if_f (by decide) ?_
      exact e_if_t (by decide) rfl
  obtain ⟨t, -, r1, r2⟩ := fresh
  unfold f_X0_solve
  by_cases u1 : s 46 9 = s 0 15
  · by_cases u2 : s 46 10 = s 52 0
    · by_cases u3 : s 46 11 = s 52 1
      · obtain ⟨m, y, w, b1, b2, b3, b4, b5, b6⟩ := hm.2 u1
        rw [u2, hw] at b4
        obtain ⟨rfl, rfl⟩ := wl_inj hn b1 hx b2 b4
        rw [u3, hp2, iI_eq (by omega) (by omega)] at b5
        have : w = p := by omega
        subst this
        refine ⟨s, ?_, CZ.rf _ _ _, h, b6, u1, by rw [u2]; exact hw, by rw [u3]; exact hp2⟩
        refine e_jn ?_
        refine e_if_t u1 ?_
        refine e_if_t u2 ?_
        exact e_if_t u3 rfl
      · refine ⟨t, ?_, r2⟩
        refine e_jn ?_
        refine e_if_t u1 ?_
        refine e_if_t u2 ?_
        exact e_if_f u3 r1
    · refine ⟨t, ?_, r2⟩
      refine e_jn ?_
      refine e_if_t u1 ?_
      exact e_if_f u2 r1
  · refine ⟨t, ?_, r2⟩
    refine e_jn ?_
    exact e_if_f u1 r1
theorem cc_soon (W : WOK T kd tl n c tn) (hx : x < szR n) (hp : p < c) (a : Int32) {s : SS} (h : CW T kd tl c tn s) (hm : SMEM T c tn s) (hw : s 52 0 = wl_ n x) (hp2 : s 52 1 = iI p) : ∃ t, f_X11_soon a s = some (ansSoon T n c tn x p a, t) ∧ CZ 46 49 s t ∧ CW T kd tl c tn t ∧ SMEM T c tn t := by
  have hn := W.2.2.2
  have hc := W.cc
  unfold f_X11_soon ansSoon
  by_cases q : a.toInt < -1
  · rw [if_pos q]
    refine ⟨s, ?_, CZ.rf _ _ _, h, hm⟩
    exact e_if_f (by rw [le32]; show ¬ (-1 : Int) ≤ a.toInt; omega) rfl
  · rw [if_neg q]
    obtain ⟨t, e1, e2, e3, e4, e5, e6, e7⟩ := cs_solve W hx hp h hm hw hp2
    have e015 : t 0 15 = s 0 15 := by rw [e2.1 0 (by omega) (by omega) (by omega) (by omega) (by omega) (by omega)]
    refine ⟨t, ?_, e2, e3, by rw [e5, e015]; exact Int.le_refl _, fun _ => ⟨n, x, p, hn, hx, hp, e6, e7, e4⟩⟩
    refine e_if_t (by rw [le32]; show (-1 : Int) ≤ a.toInt; omega) ?_
    refine e_bd e1 ?_
    rcases e4 with ⟨g1, g2⟩ | ⟨g1, g2, g3, g4, g5⟩
    · rw [if_neg g1]
      exact e_if_f (by rw [g2]; decide) rfl
    · rw [if_pos g1]
      refine e_if_t (by rw [g3]; simp (disch := omega) only [Int.toNat_natCast, iI_lt, iI_le, iI_eq, iI_add, iI_sub, iI_mul, iI_neg, iI_clamp, inb_ii, z_0]; omega) ?_
      by_cases z : a.toInt = -1
      · rw [if_pos z]
        refine e_if_t ((m1_iff a).mpr z) ?_
        rw [g3]
      · rw [if_neg z]
        refine e_if_f (fun w => z ((m1_iff a).mp w)) ?_
        by_cases z2 : (dq T n c tn x p : Int) ≤ a.toInt
        · rw [if_pos z2]
          refine e_bdp (v := -1) ?_ rfl
          unfold f_X0_madeOn
          refine e_if_f (by rw [lt32]; show ¬ a.toInt < 0; omega) ?_
          exact e_if_f (by rw [g3, lt32, iI_toInt (by omega)]; omega) rfl
        · rw [if_neg z2]
          have ed := e_lit (a := a) (k := (a.toInt.toNat : Nat)) (by omega)
          have hd : a.toInt.toNat < dq T n c tn x p := by omega
          generalize a.toInt.toNat = d at ed hd ⊢
          rw [ed]
          exact e_bdp (cs_made W hx hp g1 g2 g3 g4 g5 hd) rfl
