/-! mean of the reference -/
variable {T : TW} {kd tl tn : Nat → Nat} {n c x p : Nat} {s t u : SS}
theorem rr_clear {a1 a2 a3 : Int32} (k : SS → Res) (s : SS) : lp_X12_goesRound_3 a1 a2 a3 k FU 0 s = k (upr s 89 (fun j => if j < 18724 then -1 else s 89 j)) := by
  have lp : ∀ m N i : Nat, ∀ R : Nat → Int32, i + m = 18724 → m < N → lp_X12_goesRound_3 a1 a2 a3 k N (iI i) (upr s 89 R) = k (upr s 89 (fun j => if i ≤ j ∧ j < 18724 then -1 else R j)) := by
    intro m
    induction m with
    | zero =>
      intro N i R hi2 hN
      cases N with
      | zero => omega
      | succ N =>
        rw [lp_X12_goesRound_3]
        refine e_if_t (by simp (disch := omega) only [Int.toNat_natCast, iI_lt, iI_le, iI_eq, iI_add, iI_sub, iI_mul, iI_neg, iI_clamp, inb_ii, z_18724]; omega) ?_
        congr 2
        funext j
        rw [if_neg (by omega)]
    | succ m ih =>
      intro N i R hi2 hN
      cases N with
      | zero => omega
      | succ N =>
        rw [lp_X12_goesRound_3]
        refine e_if_f (by simp (disch := omega) only [Int.toNat_natCast, iI_lt, iI_le, iI_eq, iI_add, iI_sub, iI_mul, iI_neg, iI_clamp, inb_ii, z_18724]; omega) ?_
        refine e_gd (by simp (disch := omega) only [Int.toNat_natCast, iI_lt, iI_le, iI_eq, iI_add, iI_sub, iI_mul, iI_neg, iI_clamp, inb_ii]; omega) ?_
        refine e_up ?_
        rw [nx_s, ih N (i + 1) _ (by omega) (by omega)]
        congr 2
        funext j
        rw [iI_clamp (by omega), Int.toNat_natCast]
        by_cases q : j = i
        · subst q; rw [upd_eq, if_neg (by omega), if_pos (by omega)]
        · rw [upd_ne q]
          by_cases q2 : i + 1 ≤ j ∧ j < 18724
          · rw [if_pos q2, if_pos (by omega)]
          · rw [if_neg q2, if_neg (by omega)]
  have := lp 18724 FU 0 (s 89) rfl (fu_lt (by omega))
  rw [upr_self] at this
  refine Eq.trans this ?_
  congr 2
  funext j
  by_cases q : j < 18724
  · rw [if_pos (by omega), if_pos q]
  · rw [if_neg (by omega), if_neg q]
theorem rr_cell (q : Nat) (a : Nat) (ha : a < 18724) (h : a = 4 * x + q) : (4 : Int32) * iI (x : Int) + iI (q : Int) = iI (a : Int) := by
  rw [z_4, iI_mul, iI_add]
  congr 1
  omega
theorem rr_step (W : WOK T kd tl n c tn) (h : RW_ T kd tl n c tn s) {q : Nat} (hq : q < c) : (iI (q : Int) + 1) - (iI (q : Int) + 1) / (s 56 5) * (s 56 5) = iI (((q + 1) % c : Nat) : Int) := by
  have h4 := W.cc
  rw [h.2.2.1, nx_s, iI_rem (by omega) (by omega)]
  congr 1
theorem cr_ringL (W : WOK T kd tl n c tn) (hx : x < szR n) (hv : VR T x) {D A : Nat} (hR : RNG (qcR T kd tl n c tn x p) D A) (a3 : Int32) (k : Int32 → Int32 → Int32 → SS → Res) : ∀ (m N d : Nat) (s : SS), d + m = D → m < N → RW_ T kd tl n c tn s → (∀ i, i < d → s 89 (qcR T kd tl n c tn x p i) = iI i) → (∀ y, y < 18724 → (∀ i, i < d → y ≠ qcR T kd tl n c tn x p i) → s 89 y = -1) → ∃ t, lp_X12_goesRound_34 a3 k N (iI (itR T kd tl n c tn x p d)) (iI (((p + d) % c : Nat) : Int)) (iI d) s = k (iI (itR T kd tl n c tn x p D)) (iI (((p + D) % c : Nat) : Int)) (iI D) t ∧ RZ s t ∧ RW_ T kd tl n c tn t ∧ t 89 (qcR T kd tl n c tn x p D) = iI A := by
  have hD := hR.2.1
  have hA := hR.1
  have h4 := W.cc
  intro m
  induction m with
  | zero =>
    intro N d s hd hN hs ht hu
    cases N with
    | zero => omega
    | succ N =>
      obtain rfl : d = D := by omega
      have hp := W.pl (p + d)
      have hq := qc_lt (p := p) W hx hv d
      have ec := rr_cell (x := itR T kd tl n c tn x p d) ((p + d) % c) (qcR T kd tl n c tn x p d) hq rfl
      have ecl : Int32.toNatClampNeg (iI ((qcR T kd tl n c tn x p d : Nat) : Int)) = qcR T kd tl n c tn x p d := by rw [iI_clamp (by omega), Int.toNat_natCast]
      have eA : s 89 (qcR T kd tl n c tn x p d) = iI A := by rw [hR.2.2.1]; exact ht A hR.1
      refine ⟨s, ?_, RZ.rf s, hs, eA⟩
      rw [lp_X12_goesRound_34]
      rw [ec]
      refine e_gd (by simp (disch := omega) only [Int.toNat_natCast, iI_lt, iI_le, iI_eq, iI_add, iI_sub, iI_mul, iI_neg, iI_clamp, inb_ii]; omega) ?_
      rw [ecl, eA]
      exact e_if_t (by simp (disch := omega) only [Int.toNat_natCast, iI_lt, iI_le, iI_eq, iI_add, iI_sub, iI_mul, iI_neg, iI_clamp, inb_ii, z_0]; omega) rfl
  | succ m ih =>
    intro N d s hd hN hs ht hu
    cases N with
    | zero => omega
    | succ N =>
      have hi := it_ok (p := p) W hx hv d
      have hp := W.pl (p + d)
      have hq := qc_lt (p := p) W hx hv d
      have ec := rr_cell (x := itR T kd tl n c tn x p d) ((p + d) % c) (qcR T kd tl n c tn x p d) hq rfl
      have ecl : Int32.toNatClampNeg (iI ((qcR T kd tl n c tn x p d : Nat) : Int)) = qcR T kd tl n c tn x p d := by rw [iI_clamp (by omega), Int.toNat_natCast]
      have hne : ∀ i, i < d → qcR T kd tl n c tn x p d ≠ qcR T kd tl n c tn x p i := fun i a b => hR.2.2.2 i d a (by omega) b.symm
      have eU : s 89 (qcR T kd tl n c tn x p d) = -1 := hu _ hq hne
      have hs1 : RW_ T kd tl n c tn (up s 89 (qcR T kd tl n c tn x p d) (iI d)) := hs.up1 (by omega)
      obtain ⟨t1, e1, e2, e3⟩ := rw_makes W hs1 hi.1 hi.2 (W.tt hp)
      have e62 : (up s 89 (qcR T kd tl n c tn x p d) (iI d)) 62 ((p + d) % c) = iI (tn ((p + d) % c)) := hs1.2.2.2 _ hp
      have hl := W.cho (W.tt hp) hi.1
      have zb := rw_bh W e3 hi.1 hl
      have st := rr_step W e3 hp
      rw [pl_s] at st
      have e89 : t1 89 = (up s 89 (qcR T kd tl n c tn x p d) (iI d)) 89 := e2.hi (by omega)
      obtain ⟨t, f1, f2, f3⟩ := ih N (d + 1) t1 (by omega) (by omega) e3 (by
        intro i hi2
        rw [e89]
        by_cases e : i = d
        · subst e; exact up_at _ _ _ _
        · rw [up_slot (by have := hne i (by omega); omega)]
          exact ht i (by omega)) (by
        intro y hy hy2
        rw [e89, up_slot (by have := hy2 d (by omega); omega)]
        exact hu y hy (fun i a => hy2 i (by omega)))
      refine ⟨t, ?_, ((RZ.up1 (by omega)).tr e2.z).tr f2, f3⟩
      rw [lp_X12_goesRound_34]
      rw [ec]
      refine e_gd (by simp (disch := omega) only [Int.toNat_natCast, iI_lt, iI_le, iI_eq, iI_add, iI_sub, iI_mul, iI_neg, iI_clamp, inb_ii]; omega) ?_
      rw [ecl]
      refine e_if_f (by rw [eU]; decide) ?_
      refine e_gd (by simp (disch := omega) only [Int.toNat_natCast, iI_lt, iI_le, iI_eq, iI_add, iI_sub, iI_mul, iI_neg, iI_clamp, inb_ii]; omega) ?_
      refine e_lts ?_
      refine e_gd (by simp (disch := omega) only [Int.toNat_natCast, iI_lt, iI_le, iI_eq, iI_add, iI_sub, iI_mul, iI_neg, iI_clamp, inb_ii]; omega) ?_
      rw [show Int32.toNatClampNeg (iI (((p + d) % c : Nat) : Int)) = (p + d) % c by rw [iI_clamp (by omega), Int.toNat_natCast], e62]
      refine e_bd e1 ?_
      refine e_bdp zb ?_
      refine e_gd (by rw [e3.2.2.1]; simp (disch := omega) only [Int.toNat_natCast, iI_lt, iI_le, iI_eq, iI_add, iI_sub, iI_mul, iI_neg, iI_clamp, inb_ii, z_0]; omega) ?_
      refine e_lt ?_
      rw [st, nx_s]
      exact f1
theorem cr_ringS (W : WOK T kd tl n c tn) (hx : x < szR n) (hv : VR T x) {D M a : Nat} (hM : M ≤ 18724) (ha : a < 4) : ∀ (m N k : Nat) (s : SS), k + m = M → m < N → RW_ T kd tl n c tn s → s 56 61 = iI M → s 56 62 = rgS T kd tl n c tn x p D a k → ∃ t, lp_X12_goesRound_136 (iI a) N (iI (itR T kd tl n c tn x p (D + k))) (iI (((p + (D + k)) % c : Nat) : Int)) (iI k) s = some (0, t) ∧ RZ s t ∧ RW_ T kd tl n c tn t ∧ t 56 60 = s 56 60 ∧ t 56 61 = s 56 61 ∧ t 56 62 = rgS T kd tl n c tn x p D a M := by
  have h4 := W.cc
  intro m
  induction m with
  | zero =>
    intro N k s hk hN hs h61 h62
    cases N with
    | zero => omega
    | succ N =>
      obtain rfl : k = M := by omega
      refine ⟨s, ?_, RZ.rf s, hs, rfl, rfl, h62⟩
      rw [lp_X12_goesRound_136]
      exact e_if_t (by rw [h61]; simp (disch := omega) only [Int.toNat_natCast, iI_lt, iI_le, iI_eq, iI_add, iI_sub, iI_mul, iI_neg, iI_clamp, inb_ii]; omega) rfl
  | succ m ih =>
    intro N k s hk hN hs h61 h62
    cases N with
    | zero => omega
    | succ N =>
      have hi := it_ok (p := p) W hx hv (D + k)
      have hi2 := it_ok (p := p) W hx hv (D + k + 1)
      have hp := W.pl (p + (D + k))
      obtain ⟨t1, e1, e2, e3⟩ := rw_makes W hs hi.1 hi.2 (W.tt hp)
      have e62 : s 62 ((p + (D + k)) % c) = iI (tn ((p + (D + k)) % c)) := hs.2.2.2 _ hp
      have hl := W.cho (W.tt hp) hi.1
      have zb := rw_bh W e3 hi.1 hl
      have st := rr_step W e3 hp
      rw [pl_s] at st
      obtain ⟨t2, g1, g2, g3⟩ := rw_worth W e3 (m := a) hi2.1 hi2.2 ha
      have eS : ∀ j, 60 ≤ j → t2 56 j = s 56 j := fun j hj => (g2.sl (by omega)).trans (e2.sl (by omega))
      have eS1 : ∀ j, 60 ≤ j → t1 56 j = s 56 j := fun j hj => e2.sl (by omega)
      obtain ⟨t, f1, f2, f3, f4, f5, f6⟩ := ih N (k + 1) (up t2 56 62 (t1 56 62 + wth T n (itR T kd tl n c tn x p (D + k + 1)) a)) (by omega) (by omega) (g3.us (by omega)) (by rw [up_slot (by omega), eS 61 (by omega)]; exact h61) (by
        rw [up_at, eS1 62 (by omega), h62]
        rfl)
      refine ⟨t, ?_, ((e2.z.tr g2.z).tr (RZ.us (by omega))).tr f2, f3, ?_, ?_, f6⟩
      · rw [lp_X12_goesRound_136]
        refine e_if_f (by rw [h61]; simp (disch := omega) only [Int.toNat_natCast, iI_lt, iI_le, iI_eq, iI_add, iI_sub, iI_mul, iI_neg, iI_clamp, inb_ii]; omega) ?_
        refine e_gd (by simp (disch := omega) only [Int.toNat_natCast, iI_lt, iI_le, iI_eq, iI_add, iI_sub, iI_mul, iI_neg, iI_clamp, inb_ii]; omega) ?_
        rw [show Int32.toNatClampNeg (iI (((p + (D + k)) % c : Nat) : Int)) = (p + (D + k)) % c by rw [iI_clamp (by omega), Int.toNat_natCast], e62]
        refine e_bd e1 ?_
        refine e_bdp zb ?_
        refine e_gd (by rw [e3.2.2.1]; simp (disch := omega) only [Int.toNat_natCast, iI_lt, iI_le, iI_eq, iI_add, iI_sub, iI_mul, iI_neg, iI_clamp, inb_ii, z_0]; omega) ?_
        refine e_lt ?_
        refine e_bd g1 ?_
        refine e_lts ?_
        rw [st, nx_s]
        exact f1
      · rw [f4, up_slot (by omega), eS 60 (by omega)]
      · rw [f5, up_slot (by omega), eS 61 (by omega)]
theorem cr_ring (W : WOK T kd tl n c tn) (hx : x < szR n) (hv : VR T x) (hp : p < c) {D A a : Nat} (hR : RNG (qcR T kd tl n c tn x p) D A) (ha : a < 4) {s : SS} (h : RW_ T kd tl n c tn s) : ∃ t, f_X12_goesRound (iI x) (iI p) (iI a) s = some (0, t) ∧ RZ s t ∧ RW_ T kd tl n c tn t ∧ t 56 60 = iI A ∧ t 56 61 = iI ((D - A : Nat) : Int) ∧ t 56 62 = rgS T kd tl n c tn x p D a (D - A) := by
  have hD := hR.2.1
  have hA := hR.1
  have h4 := W.cc
  have hpl := W.pl (p + D)
  have hq := qc_lt (p := p) W hx hv D
  have ec := rr_cell (x := itR T kd tl n c tn x p D) ((p + D) % c) (qcR T kd tl n c tn x p D) hq rfl
  have ecl : Int32.toNatClampNeg (iI ((qcR T kd tl n c tn x p D : Nat) : Int)) = qcR T kd tl n c tn x p D := by rw [iI_clamp (by omega), Int.toNat_natCast]
  obtain ⟨t, f1, f2, f3, f4⟩ := cr_ringL W hx hv hR (iI a) (fun v3 v4 v5 s6 => gd (inb ((4 * v3) + v4) 18724) (lts (up s6 56 60 (s6 89 (Int32.toNatClampNeg ((4 * v3) + v4)))) (fun (s8 : SS) => lts (up s8 56 61 (v5 - (s8 56 60))) (fun (s9 : SS) => lts (up s9 56 62 0) (fun (s10 : SS) => lp_X12_goesRound_136 (iI a) FU v3 v4 0 s10))))) D FU 0 (upr s 89 (fun j => if j < 18724 then -1 else s 89 j)) (by omega) (fu_lt (by omega)) (h.ur (by omega)) (by intro i a; omega) (by
    intro y hy _
    rw [upr_eq, if_pos hy])
  rw [Nat.add_zero, Nat.mod_eq_of_lt hp] at f1
  obtain ⟨u, g1, g2, g3, g4, g5, g6⟩ := cr_ringS (p := p) (D := D) (M := D - A) (a := a) W hx hv (by omega) ha (D - A) FU 0 (up (up (up t 56 60 (iI A)) 56 61 (iI ((D - A : Nat) : Int))) 56 62 0) (by omega) (fu_lt (by omega)) (((f3.us (by omega)).us (by omega)).us (by omega)) (by rw [up_slot (by omega), up_at]) (by rw [up_at]; rfl)
  refine ⟨u, ?_, (((RZ.ur (by omega)).tr f2).tr (((RZ.us (by omega)).tr (RZ.us (by omega))).tr (RZ.us (by omega)))).tr g2, g3, ?_, ?_, g6⟩
  · unfold f_X12_goesRound
    refine e_jn ?_
    refine (rr_clear _ s).trans ?_
    refine e_jn ?_
    refine Eq.trans f1 ?_
    rw [ec]
    refine e_gd (by simp (disch := omega) only [Int.toNat_natCast, iI_lt, iI_le, iI_eq, iI_add, iI_sub, iI_mul, iI_neg, iI_clamp, inb_ii]; omega) ?_
    refine e_lts ?_
    refine e_lts ?_
    refine e_lts ?_
    rw [ecl, f4, up_at, iI_sub, show (D : Int) - (A : Int) = ((D - A : Nat) : Int) by omega]
    exact g1
  · rw [g4, up_slot (by omega), up_slot (by omega), up_at]
  · rw [g5, up_slot (by omega), up_at]
theorem cr_mean (W : WOK T kd tl n c tn) (hx : x < szR n) (hv : VR T x) (hp : p < c) {D A : Nat} (hR : RNG (qcR T kd tl n c tn x p) D A) (a : Int32) {s : SS} (h : RW_ T kd tl n c tn s) (hw : s 56 4 = iI x) (hp2 : s 56 6 = iI p) : ∃ t, f_X12_mean a s = some (ansMean T kd tl n c tn x p D A a, t) ∧ RZ s t ∧ RW_ T kd tl n c tn t := by
  have hD := hR.2.1
  have hA := hR.1
  have bnd : ∀ a : Nat, -2147483648 < (rgS T kd tl n c tn x p D a (D - A)).toInt := by
    intro a
    have := rgS_in (kd := kd) (tl := tl) (tn := tn) (n := n) (c := c) (x := x) (p := p) W.1 D a (D - A) (by omega)
    omega
  have l1 : f_X12_lies (a.toInt64) 0 1 s = some (if 0 ≤ a.toInt ∧ a.toInt ≤ 1 then 1 else 0) := by rw [lies_f, i64_toInt]; rfl
  have l2 : f_X12_lies (a.toInt64) 10 13 s = some (if 10 ≤ a.toInt ∧ a.toInt ≤ 13 then 1 else 0) := by rw [lies_f, i64_toInt]; rfl
  have l3 : f_X12_lies (a.toInt64) 20 23 s = some (if 20 ≤ a.toInt ∧ a.toInt ≤ 23 then 1 else 0) := by rw [lies_f, i64_toInt]; rfl
  have go : ∀ j : Nat, j < 4 → ∃ t, f_X12_goesRound (s 56 4) (s 56 6) (iI j) s = some (0, t) ∧ RZ s t ∧ RW_ T kd tl n c tn t ∧ t 56 60 = iI A ∧ t 56 61 = iI ((D - A : Nat) : Int) ∧ t 56 62 = rgS T kd tl n c tn x p D j (D - A) := fun j hj => by rw [hw, hp2]; exact cr_ring W hx hv hp hR hj h
  unfold f_X12_mean
  have w0 : (0 : Int32).toInt = 0 := rfl
  have w1 : (1 : Int32).toInt = 1 := rfl
  by_cases q0 : a.toInt = 0 ∨ a.toInt = 1
  · obtain ⟨j, hj, ea⟩ : ∃ j : Nat, j < 2 ∧ a = iI j := ⟨a.toInt.toNat, by omega, e_lit (by omega)⟩
    obtain ⟨t, e1, e2, e3, e4, e5, e6⟩ := go j (by omega)
    refine ⟨t, ?_, e2, e3⟩
    rw [if_pos (by omega)] at l1
    have er : a - a / 10 * 10 = iI j := by
      rw [ea, z_10, iI_rem (by omega) (by omega)]
      congr 1
      omega
    refine e_bdp l1 ?_
    refine e_jn ?_
    refine e_if_f (by decide) ?_
    refine e_gd (by decide) ?_
    refine e_jn ?_
    rw [er]
    refine e_if_f (by simp (disch := omega) only [Int.toNat_natCast, iI_lt, iI_le, iI_eq, iI_add, iI_sub, iI_mul, iI_neg, iI_clamp, inb_ii, z_4]; omega) ?_
    refine e_gd (by decide) ?_
    refine e_bd e1 ?_
    refine e_if_f (by rw [ea]; simp (disch := omega) only [Int.toNat_natCast, iI_lt, iI_le, iI_eq, iI_add, iI_sub, iI_mul, iI_neg, iI_clamp, inb_ii, z_2]; omega) ?_
    unfold ansMean
    by_cases q : a = 0
    · refine e_if_t q ?_
      rw [if_pos q, e4]
    · refine e_if_f q ?_
      rw [if_neg q, if_pos, e5]
      apply Int32.toInt_inj.mp
      rcases q0 with q1 | q1
      · exact absurd (Int32.toInt_inj.mp (q1.trans w0.symm)) q
      · exact q1.trans w1.symm
  · have n0 : ¬ a = 0 := by intro e; rw [e] at q0; exact q0 (Or.inl rfl)
    have n1 : ¬ a = 1 := by intro e; rw [e] at q0; exact q0 (Or.inr rfl)
    rw [if_neg (by omega)] at l1
    by_cases q2 : 10 ≤ a.toInt ∧ a.toInt ≤ 13
    · obtain ⟨j, hj, ea⟩ : ∃ j : Nat, j < 4 ∧ a = iI ((10 + j : Nat) : Int) := ⟨(a.toInt - 10).toNat, by omega, e_lit (by omega)⟩
      obtain ⟨t, e1, e2, e3, e4, e5, e6⟩ := go j (by omega)
      refine ⟨t, ?_, e2, e3⟩
      rw [if_pos q2] at l2
      have er : a - a / 10 * 10 = iI j := by
        rw [ea, z_10, iI_rem (by omega) (by omega)]
        congr 1
        omega
      have ej : (a.toInt - 10).toNat = j := by rw [ea, iI_toInt (by omega)]; omega
      have fin : ansMean T kd tl n c tn x p D A a = rgS T kd tl n c tn x p D j (D - A) / gcI (rgS T kd tl n c tn x p D j (D - A)) (D - A) := by
        unfold ansMean
        rw [if_neg n0, if_neg n1, if_pos q2, ej]
      rw [fin]
      have dv := cr_div (b := D - A) (bnd j) (by omega) t
      have gn := gc_ne (v := rgS T kd tl n c tn x p D j (D - A)) (b := D - A) (by omega)
      rw [← e5, ← e6] at dv
      rw [e6] at dv
      refine e_bdp l1 ?_
      refine e_jn ?_
      refine e_if_t rfl ?_
      refine e_bdp l2 ?_
      refine e_if_f (by decide) ?_
      refine e_gd (by decide) ?_
      refine e_jn ?_
      rw [er]
      refine e_if_f (by simp (disch := omega) only [Int.toNat_natCast, iI_lt, iI_le, iI_eq, iI_add, iI_sub, iI_mul, iI_neg, iI_clamp, inb_ii, z_4]; omega) ?_
      refine e_gd (by decide) ?_
      refine e_bd e1 ?_
      refine e_if_t (by rw [ea]; simp (disch := omega) only [Int.toNat_natCast, iI_lt, iI_le, iI_eq, iI_add, iI_sub, iI_mul, iI_neg, iI_clamp, inb_ii, z_2]; omega) ?_
      rw [e6]
      refine e_bdp dv ?_
      refine e_if_f (by rw [ea]; simp (disch := omega) only [Int.toNat_natCast, iI_lt, iI_le, iI_eq, iI_add, iI_sub, iI_mul, iI_neg, iI_clamp, inb_ii, z_20]; omega) ?_
      exact e_gd gn rfl
    · rw [if_neg q2] at l2
      by_cases q3 : 20 ≤ a.toInt ∧ a.toInt ≤ 23
      · obtain ⟨j, hj, ea⟩ : ∃ j : Nat, j < 4 ∧ a = iI ((20 + j : Nat) : Int) := ⟨(a.toInt - 20).toNat, by omega, e_lit (by omega)⟩
        obtain ⟨t, e1, e2, e3, e4, e5, e6⟩ := go j (by omega)
        refine ⟨t, ?_, e2, e3⟩
        rw [if_pos q3] at l3
        have er : a - a / 10 * 10 = iI j := by
          rw [ea, z_10, iI_rem (by omega) (by omega)]
          congr 1
          omega
        have ej : (a.toInt - 20).toNat = j := by rw [ea, iI_toInt (by omega)]; omega
        have fin : ansMean T kd tl n c tn x p D A a = iI ((D - A : Nat) : Int) / gcI (rgS T kd tl n c tn x p D j (D - A)) (D - A) := by
          unfold ansMean
          rw [if_neg n0, if_neg n1, if_neg q2, if_pos q3, ej]
        rw [fin]
        have dv := cr_div (b := D - A) (bnd j) (by omega) t
        have gn := gc_ne (v := rgS T kd tl n c tn x p D j (D - A)) (b := D - A) (by omega)
        rw [← e5, ← e6] at dv
        rw [e6] at dv
        refine e_bdp l1 ?_
        refine e_jn ?_
        refine e_if_t rfl ?_
        refine e_bdp l2 ?_
        refine e_if_t rfl ?_
        refine e_bdp l3 ?_
        refine e_if_f (by decide) ?_
        refine e_gd (by decide) ?_
        refine e_jn ?_
        rw [er]
        refine e_if_f (by simp (disch := omega) only [Int.toNat_natCast, iI_lt, iI_le, iI_eq, iI_add, iI_sub, iI_mul, iI_neg, iI_clamp, inb_ii, z_4]; omega) ?_
        refine e_gd (by decide) ?_
        refine e_bd e1 ?_
        refine e_if_t (by rw [ea]; simp (disch := omega) only [Int.toNat_natCast, iI_lt, iI_le, iI_eq, iI_add, iI_sub, iI_mul, iI_neg, iI_clamp, inb_ii, z_2]; omega) ?_
        rw [e6]
        refine e_bdp dv ?_
        refine e_if_t (by rw [ea]; simp (disch := omega) only [Int.toNat_natCast, iI_lt, iI_le, iI_eq, iI_add, iI_sub, iI_mul, iI_neg, iI_clamp, inb_ii, z_20]; omega) ?_
        rw [e5]
        exact e_gd gn rfl
      · rw [if_neg q3] at l3
        refine ⟨s, ?_, RZ.rf s, h⟩
        have fin : ansMean T kd tl n c tn x p D A a = -1000000 := by
          unfold ansMean
          rw [if_neg n0, if_neg n1, if_neg q2, if_neg q3]
        rw [fin]
        refine e_bdp l1 ?_
        refine e_jn ?_
        refine e_if_t rfl ?_
        refine e_bdp l2 ?_
        refine e_if_t rfl ?_
        refine e_bdp l3 ?_
        exact e_if_t rfl rfl
