/-! fits of the reference -/
variable {T : TW} {kd tl tn : Nat → Nat} {n c x p : Nat} {s t u : SS}
theorem rw_isRow (W : WOK T kd tl n c tn) (h : RW_ T kd tl n c tn s) (hx : x < 4681) : ∃ t, f_X12_isRow (iI x) s = some (if vrB T x (mny x) = true then 1 else 0, t) ∧ RQ s t ∧ RW_ T kd tl n c tn t ∧ Laid T x t := by
  have h4 := mny_le x
  have h8 := W.1.1
  obtain ⟨t, e1, e2, e3, e4⟩ := rw_lay W h hx
  refine ⟨t, ?_, e2, e3, e4⟩
  have no : ∀ k j, k ≤ j → vrB T x k = false → vrB T x j = false := by
    intro k j
    induction j with
    | zero => intro w e; rw [show k = 0 by omega] at e; exact e
    | succ j ih =>
      intro w e
      by_cases q : k = j + 1
      · rw [← q]; exact e
      · show (vrB T x j && _) = false
        rw [ih (by omega) e]
        rfl
  have lp : ∀ (m N i : Nat), i + m = mny x → m < N → vrB T x i = true → lp_X12_isRow_7 t N (iI i) = some (if vrB T x (mny x) = true then 1 else 0, t) := by
    intro m
    induction m with
    | zero =>
      intro N i hi hN hd
      cases N with
      | zero => omega
      | succ N =>
        obtain rfl : i = mny x := by omega
        rw [lp_X12_isRow_7, if_pos hd]
        exact e_if_t (by rw [e4.1]; simp (disch := omega) only [Int.toNat_natCast, iI_lt, iI_le, iI_eq, iI_add, iI_sub, iI_mul, iI_neg, iI_clamp, inb_ii]; omega) rfl
    | succ m ih =>
      intro N i hi hN hd
      cases N with
      | zero => omega
      | succ N =>
        have cl : Int32.toNatClampNeg (iI (i : Int)) = i := by simp (disch := omega) only [Int.toNat_natCast, iI_lt, iI_le, iI_eq, iI_add, iI_sub, iI_mul, iI_neg, iI_clamp, inb_ii]
        have e80 := e4.2.1 i (by omega)
        have hl := lwA_lt x i
        have un : vrB T x (i + 1) = (vrB T x i && decide (lwA x i < T.1)) := rfl
        rw [lp_X12_isRow_7]
        refine e_if_f (by rw [e4.1]; simp (disch := omega) only [Int.toNat_natCast, iI_lt, iI_le, iI_eq, iI_add, iI_sub, iI_mul, iI_neg, iI_clamp, inb_ii]; omega) ?_
        refine e_gd (by simp (disch := omega) only [Int.toNat_natCast, iI_lt, iI_le, iI_eq, iI_add, iI_sub, iI_mul, iI_neg, iI_clamp, inb_ii]; omega) ?_
        rw [cl, e80]
        by_cases q : lwA x i < T.1
        · refine e_if_t (by rw [e3.1.1.1]; simp (disch := omega) only [Int.toNat_natCast, iI_lt, iI_le, iI_eq, iI_add, iI_sub, iI_mul, iI_neg, iI_clamp, inb_ii]; omega) ?_
          rw [nx_s]
          exact ih N (i + 1) (by omega) (by omega) (by rw [un, hd, decide_eq_true q]; rfl)
        · refine e_if_f (by rw [e3.1.1.1]; simp (disch := omega) only [Int.toNat_natCast, iI_lt, iI_le, iI_eq, iI_add, iI_sub, iI_mul, iI_neg, iI_clamp, inb_ii]; omega) ?_
          rw [no (i + 1) (mny x) (by omega) (by rw [un, decide_eq_false q]; simp)]
          rfl
  unfold f_X12_isRow
  refine e_bd e1 ?_
  exact lp (mny x) FU 0 (by omega) (fu_lt (by omega)) rfl
theorem sby_eq {v : Nat} (h : v < 256) (k : Nat) (hk : k < 128) : (sby v ≤ (k : Int) ∧ 0 ≤ sby v) ↔ v ≤ k := by
  unfold sby
  split <;> omega
theorem sby_in {v : Nat} (h : v < 256) : -128 ≤ sby v ∧ sby v < 128 := by
  unfold sby
  split <;> omega
theorem sby_lo {v : Nat} (h : v < 128) : sby v = v := if_pos h
theorem cr_okD {z m : Nat} {b : Nat → Nat} (ho : TPO z b) (h : ∀ i, i < z → s 57 i = iI (sby (b i))) (hm : 2 * m ≤ z) (a2 : Int32) (K : Res) : lp_X12_fits_43 (iI m) a2 s K FU 0 = if okD b m = true then K else some (-2, s) := by
  have hz := ho.1
  have lp : ∀ (j N k : Nat), k + j = m → j < N → okD b k = true → lp_X12_fits_43 (iI m) a2 s K N (iI k) = if okD b m = true then K else some (-2, s) := by
    intro j
    induction j with
    | zero =>
      intro N k hk hN hd
      cases N with
      | zero => omega
      | succ N =>
        obtain rfl : k = m := by omega
        rw [lp_X12_fits_43, if_pos hd]
        exact e_if_t (by simp (disch := omega) only [Int.toNat_natCast, iI_lt, iI_le, iI_eq, iI_add, iI_sub, iI_mul, iI_neg, iI_clamp, inb_ii]; omega) rfl
    | succ j ih =>
      intro N k hk hN hd
      cases N with
      | zero => omega
      | succ N =>
        have b0 := ho.2 (2 * k) (by omega)
        have b1 := ho.2 (2 * k + 1) (by omega)
        have un : okD b (k + 1) = (okD b k && (decide (b (2 * k) ≤ 7) && decide (b (2 * k + 1) ≤ 1))) := rfl
        have s0 := sby_in b0
        have s1 := sby_in b1
        have r0 := sby_eq b0 7 (by omega)
        have r1 := sby_eq b1 1 (by omega)
        have c0 : Int32.toNatClampNeg (iI ((2 * k : Nat) : Int)) = 2 * k := by rw [iI_clamp (by omega), Int.toNat_natCast]
        have c1 : Int32.toNatClampNeg (iI ((2 * k + 1 : Nat) : Int)) = 2 * k + 1 := by rw [iI_clamp (by omega), Int.toNat_natCast]
        have w7 := isDeed_f (iI (sby (b (2 * k)))) s
        rw [iI_toInt (by omega)] at w7
        have w1 : f_X12_lies ((iI (sby (b (2 * k + 1))) : Int32).toInt64) 0 1 s = some (if 0 ≤ sby (b (2 * k + 1)) ∧ sby (b (2 * k + 1)) ≤ 1 then 1 else 0) := by
          rw [lies_f, i64_toInt, iI_toInt (by omega)]
          rfl
        rw [lp_X12_fits_43]
        refine e_if_f (by simp (disch := omega) only [Int.toNat_natCast, iI_lt, iI_le, iI_eq, iI_add, iI_sub, iI_mul, iI_neg, iI_clamp, inb_ii]; omega) ?_
        rw [tw_i]
        refine e_gd (by simp (disch := omega) only [Int.toNat_natCast, iI_lt, iI_le, iI_eq, iI_add, iI_sub, iI_mul, iI_neg, iI_clamp, inb_ii]; omega) ?_
        rw [c0, h _ (by omega)]
        by_cases q : b (2 * k) ≤ 7
        · rw [if_pos (by omega)] at w7
          refine e_bdp w7 ?_
          refine e_if_f (by decide) ?_
          rw [nx_s]
          refine e_gd (by simp (disch := omega) only [Int.toNat_natCast, iI_lt, iI_le, iI_eq, iI_add, iI_sub, iI_mul, iI_neg, iI_clamp, inb_ii]; omega) ?_
          rw [c1, h _ (by omega)]
          by_cases q2 : b (2 * k + 1) ≤ 1
          · rw [if_pos (by omega)] at w1
            refine e_bdp w1 ?_
            refine e_if_f (by decide) ?_
            rw [nx_s]
            exact ih N (k + 1) (by omega) (by omega) (by rw [un, hd, decide_eq_true q, decide_eq_true q2]; rfl)
          · rw [if_neg (by omega)] at w1
            refine e_bdp w1 ?_
            rw [okD_no (k := k + 1) (by rw [un, decide_eq_false q2]; simp) m (by omega)]
            exact e_if_t rfl rfl
        · rw [if_neg (by omega)] at w7
          refine e_bdp w7 ?_
          rw [okD_no (k := k + 1) (by rw [un, decide_eq_false q]; simp) m (by omega)]
          exact e_if_t rfl rfl
  exact lp m FU 0 (by omega) (fu_lt (by omega)) rfl
theorem cr_fTo (W : WOK T kd tl n c tn) {z m : Nat} {b : Nat → Nat} {d : Nat → Int32} (ho : TPO z b) (h : ∀ i, i < z → s 57 i = iI (sby (b i))) (hm : 2 * m ≤ z) (hk : okD b m = true) (hd : ∀ i, i < 8 → s 94 i = d i) (hx : x < 4681) (hv : VR T x) (hL : Laid T x s) : f_X12_fitsAll (iI m) s = some (if fTo T x d b m = true then 1 else 0) := by
  have hz := ho.1
  have lp : ∀ (j N k : Nat), k + j = m → j < N → fTo T x d b k = true → lp_X12_fitsAll_2 (iI m) s N (iI k) = some (if fTo T x d b m = true then 1 else 0) := by
    intro j
    induction j with
    | zero =>
      intro N k hk hN hd2
      cases N with
      | zero => omega
      | succ N =>
        obtain rfl : k = m := by omega
        rw [lp_X12_fitsAll_2, if_pos hd2]
        exact e_if_t (by simp (disch := omega) only [Int.toNat_natCast, iI_lt, iI_le, iI_eq, iI_add, iI_sub, iI_mul, iI_neg, iI_clamp, inb_ii]; omega) rfl
    | succ j ih =>
      intro N k hk2 hN hd2
      cases N with
      | zero => omega
      | succ N =>
        have hb := okD_at hk k (by omega)
        have un : fTo T x d b (k + 1) = (fTo T x d b k && decide ((if d (b (2 * k)) &&& hold T x = 0 then 1 else 0) = b (2 * k + 1))) := rfl
        have c0 : Int32.toNatClampNeg (iI ((2 * k : Nat) : Int)) = 2 * k := by rw [iI_clamp (by omega), Int.toNat_natCast]
        have c1 : Int32.toNatClampNeg (iI ((2 * k + 1 : Nat) : Int)) = 2 * k + 1 := by rw [iI_clamp (by omega), Int.toNat_natCast]
        have cl : Int32.toNatClampNeg (iI (b (2 * k) : Int)) = b (2 * k) := by simp (disch := omega) only [Int.toNat_natCast, iI_lt, iI_le, iI_eq, iI_add, iI_sub, iI_mul, iI_neg, iI_clamp, inb_ii]
        have zl : f_X12_isLawful (iI (b (2 * k) : Int)) s = some (iI ((if d (b (2 * k)) &&& hold T x = 0 then 1 else 0 : Nat) : Int)) := by
          unfold f_X12_isLawful
          refine e_gd (by simp (disch := omega) only [Int.toNat_natCast, iI_lt, iI_le, iI_eq, iI_add, iI_sub, iI_mul, iI_neg, iI_clamp, inb_ii]; omega) ?_
          rw [cl, hd _ (by omega), hL.2.2.2, laid_hold W.1.1 hv hx]
          by_cases q : d (b (2 * k)) &&& hold T x = 0
          · rw [if_pos q, if_pos q]; rfl
          · rw [if_neg q, if_neg q]; rfl
        have hle : (if d (b (2 * k)) &&& hold T x = 0 then 1 else 0 : Nat) ≤ 1 := by split <;> omega
        generalize (if d (b (2 * k)) &&& hold T x = 0 then 1 else 0 : Nat) = v at un zl hle
        rw [lp_X12_fitsAll_2]
        refine e_if_f (by simp (disch := omega) only [Int.toNat_natCast, iI_lt, iI_le, iI_eq, iI_add, iI_sub, iI_mul, iI_neg, iI_clamp, inb_ii]; omega) ?_
        rw [tw_i]
        refine e_gd (by simp (disch := omega) only [Int.toNat_natCast, iI_lt, iI_le, iI_eq, iI_add, iI_sub, iI_mul, iI_neg, iI_clamp, inb_ii]; omega) ?_
        rw [c0, h _ (by omega), sby_lo (by omega)]
        refine e_bdp zl ?_
        rw [nx_s]
        refine e_gd (by simp (disch := omega) only [Int.toNat_natCast, iI_lt, iI_le, iI_eq, iI_add, iI_sub, iI_mul, iI_neg, iI_clamp, inb_ii]; omega) ?_
        rw [c1, h _ (by omega), sby_lo (by omega)]
        by_cases q : v = b (2 * k + 1)
        · refine e_if_t (by rw [q]) ?_
          rw [nx_s]
          exact ih N (k + 1) (by omega) (by omega) (by rw [un, hd2, decide_eq_true q]; rfl)
        · refine e_if_f (by simp (disch := omega) only [Int.toNat_natCast, iI_lt, iI_le, iI_eq, iI_add, iI_sub, iI_mul, iI_neg, iI_clamp, inb_ii]; omega) ?_
          rw [fTo_no (k := k + 1) (by rw [un, decide_eq_false q]; simp) m (by omega)]
          rfl
  unfold f_X12_fitsAll
  exact lp m FU 0 (by omega) (fu_lt (by omega)) rfl
theorem cr_fits (W : WOK T kd tl n c tn) {z : Nat} {b : Nat → Nat} {d : Nat → Int32} (ho : TPO z b) (a1 a2 : Int32) {s : SS} (h : RW_ T kd tl n c tn s) (ht : TPR z b s) (hd : ∀ i, i < 8 → s 94 i = d i) : (¬ fitsIn z a1 a2 → f_X12_fits a1 a2 s = some (-1, s)) ∧ (fitsIn z a1 a2 → ∃ t, f_X12_fits a1 a2 s = some (ansFt T n d b a1 a2, t) ∧ RQ (up s 56 1 0) t ∧ RW_ T kd tl n c tn t) := by
  have hn := W.2.2.2
  have hT := W.1.1
  have hz := ho.1
  have w1 : f_X12_lies (a1.toInt64) 0 20 s = some (if 0 ≤ a1.toInt ∧ a1.toInt ≤ 20 then 1 else 0) := by rw [lies_f, i64_toInt]; rfl
  have w2 : f_X12_lies (a2.toInt64) 0 2 s = some (if 0 ≤ a2.toInt ∧ a2.toInt ≤ 2 then 1 else 0) := by rw [lies_f, i64_toInt]; rfl
  refine ⟨fun hf => ?_, fun hf => ?_⟩
  · unfold f_X12_fits
    refine e_bdp w1 ?_
    by_cases q1 : 0 ≤ a1.toInt ∧ a1.toInt ≤ 20
    · rw [if_pos q1]
      refine e_if_f (by decide) ?_
      refine e_bdp w2 ?_
      by_cases q2 : 0 ≤ a2.toInt ∧ a2.toInt ≤ 2
      · rw [if_pos q2]
        refine e_if_f (by decide) ?_
        refine e_if_f ?_ rfl
        intro w
        apply hf
        refine ⟨q1, q2, ?_⟩
        rw [ht.1, iI_of a1, z_2, iI_mul, iI_le (by omega) (by omega)] at w
        exact w
      · rw [if_neg q2]
        exact e_if_t rfl rfl
    · rw [if_neg q1]
      exact e_if_t rfl rfl
  · obtain ⟨q1, q2, q3⟩ := hf
    rw [if_pos q1] at w1
    rw [if_pos q2] at w2
    have em := e_lit (a := a1) (k := (a1.toInt.toNat : Nat)) (by omega)
    unfold ansFt
    generalize hmm : a1.toInt.toNat = m at em ⊢
    have hm : 2 * m ≤ z := by omega
    have hm20 : m ≤ 20 := by omega
    have h0 : RW_ T kd tl n c tn (up s 56 1 0) := h.of (fun q _ _ _ _ _ => up_cell (by omega)) (fun j hj => up_slot (by omega))
    have k57 : ∀ i, i < z → (up s 56 1 0) 57 i = iI (sby (b i)) := by rw [up_cell (by omega)]; exact ht.2
    have k94 : ∀ i, i < 8 → (up s 56 1 0) 94 i = d i := by rw [up_cell (by omega)]; exact hd
    have k3 : (up s 56 1 0) 56 3 = iI n := h0.1.2.1
    have zt : (2 * a1 : Int32) ≤ (s 56 1 : Int32) := by rw [em, tw_i, ht.1, iI_le (by omega) (by omega)]; omega
    by_cases qk : okD b m = true
    · rw [if_pos qk]
      have hbl := br_le hn
      have lp : ∀ (j N k : Nat) (K : Int32 → Int32 → Int32 → SS → Res) (u : SS), fsz n + k + j = szR n → j < N → RQ (up s 56 1 0) u → RW_ T kd tl n c tn u → ∃ t, lp_X12_fits_134 (iI m) a2 (iI (szR n)) K N (iI (ftF T n d b m k).1) (ftF T n d b m k).2.1 (ftF T n d b m k).2.2 (iI ((fsz n + k : Nat) : Int)) u = K (iI (ftF T n d b m (szR n - fsz n)).1) (ftF T n d b m (szR n - fsz n)).2.1 (ftF T n d b m (szR n - fsz n)).2.2 t ∧ RQ (up s 56 1 0) t ∧ RW_ T kd tl n c tn t := by
        intro j
        induction j with
        | zero =>
          intro N k K u hk hN hu hw
          cases N with
          | zero => omega
          | succ N =>
            obtain rfl : k = szR n - fsz n := by omega
            refine ⟨u, ?_, hu, hw⟩
            rw [lp_X12_fits_134]
            exact e_if_t (by simp (disch := omega) only [Int.toNat_natCast, iI_lt, iI_le, iI_eq, iI_add, iI_sub, iI_mul, iI_neg, iI_clamp, inb_ii]; omega) rfl
        | succ j ih =>
          intro N k K u hk hN hu hw
          cases N with
          | zero => omega
          | succ N =>
            have hy : fsz n + k < szR n := by omega
            have hy2 := (W.sz hy).2
            have hmf := mny_full hn hy
            obtain ⟨u1, e1, e2, e3, e4⟩ := rw_isRow W hw hy2
            rw [hmf] at e1
            have hu1 := hu.tr e2
            have un : ftF T n d b m (k + 1) = if vrB T (fsz n + k) n = true ∧ fTo T (fsz n + k) d b m = true then ((ftF T n d b m k).1 + 1, (ftF T n d b m k).2.1 &&& stn (fsz n + k), (ftF T n d b m k).2.2 ||| stn (fsz n + k)) else ftF T n d b m k := rfl
            obtain ⟨t, f1, f2, f3⟩ := ih N (k + 1) K u1 (by omega) (by omega) hu1 e3
            refine ⟨t, ?_, f2, f3⟩
            rw [lp_X12_fits_134]
            refine e_if_f (by simp (disch := omega) only [Int.toNat_natCast, iI_lt, iI_le, iI_eq, iI_add, iI_sub, iI_mul, iI_neg, iI_clamp, inb_ii]; omega) ?_
            refine e_bd e1 ?_
            refine e_jn ?_
            rw [nx_s]
            by_cases p1 : vrB T (fsz n + k) n = true
            · rw [if_pos p1]
              refine e_if_f (by decide) ?_
              have hv : VR T (fsz n + k) := vr_iff.mp (by rw [hmf]; exact p1)
              refine e_bdp (cr_fTo W ho (by rw [hu1.1 57 (by omega) (by omega)]; exact k57) hm qk (by rw [hu1.hi (by omega)]; exact k94) hy2 hv e4) ?_
              by_cases p2 : fTo T (fsz n + k) d b m = true
              · rw [if_pos p2]
                rw [if_pos ⟨p1, p2⟩] at un
                rw [un] at f1
                refine e_if_f (by decide) ?_
                refine e_lt ?_
                refine e_lt ?_
                rw [nx_s, e4.2.2.1]
                exact f1
              · rw [if_neg p2]
                rw [if_neg (fun w => p2 w.2)] at un
                rw [un] at f1
                exact e_if_t rfl f1
            · rw [if_neg p1]
              rw [if_neg (fun w => p1 w.1)] at un
              rw [un] at f1
              exact e_if_t rfl f1
      have hle := ftF_le (T := T) (n := n) d b m (szR n - fsz n)
      obtain ⟨t, f1, f2, f3⟩ := lp (szR n - fsz n) FU 0 (fun (v11 : Int32) (v12 : Int32) (v13 : Int32) (s14 : SS) => if (a2 : Int32) = 0 then some (v11, s14) else if (v11 : Int32) = 0 then some (0, s14) else if (a2 : Int32) = (1 : Int32) then some (v12, s14) else some (((1 <<< ((s14 56 2) &&& 31)) - 1) &&& (v13 ^^^ ((-1))), s14)) (up s 56 1 0) (by have := fsz_sz hn; omega) (fu_lt (by omega)) (RQ.rf _) h0
      refine ⟨t, ?_, f2, f3⟩
      unfold f_X12_fits
      refine e_bdp w1 ?_
      refine e_if_f (by decide) ?_
      refine e_bdp w2 ?_
      refine e_if_f (by decide) ?_
      refine e_if_t zt ?_
      refine e_lts ?_
      refine e_jn ?_
      rw [em]
      refine (cr_okD ho k57 hm a2 _).trans ?_
      rw [if_pos qk]
      refine e_jn ?_
      refine (rr_end0 hn _ _ k3).trans ?_
      rw [k3]
      refine e_bdp (rr_first (by omega) _) ?_
      refine e_jn ?_
      refine Eq.trans f1 ?_
      have z0 : (a2 = 0) = (a2.toInt = 0) := by rw [z_0]; exact lit32 0 (by omega) a2
      have z1 : (a2 = 1) = (a2.toInt = 1) := by rw [z_1]; exact lit32 1 (by omega) a2
      by_cases p1 : a2.toInt = 0
      · rw [if_pos (Or.inl p1)]
        exact e_if_t (z0.mpr p1) rfl
      · refine e_if_f (fun w => p1 (z0.mp w)) ?_
        by_cases p2 : (ftF T n d b m (szR n - fsz n)).1 = 0
        · rw [if_pos (Or.inr p2), p2]
          exact e_if_t rfl rfl
        · rw [if_neg (show ¬ (a2.toInt = 0 ∨ (ftF T n d b m (szR n - fsz n)).1 = 0) from fun w => w.elim p1 p2)]
          refine e_if_f (by simp (disch := omega) only [Int.toNat_natCast, iI_lt, iI_le, iI_eq, iI_add, iI_sub, iI_mul, iI_neg, iI_clamp, inb_ii, z_0]; omega) ?_
          by_cases p3 : a2.toInt = 1
          · rw [if_pos p3]
            exact e_if_t (z1.mpr p3) rfl
          · rw [if_neg p3]
            refine e_if_f (fun w => p3 (z1.mp w)) ?_
            rw [f3.1.1.1]
    · rw [if_neg qk]
      refine ⟨up s 56 1 0, ?_, RQ.rf _, h0⟩
      unfold f_X12_fits
      refine e_bdp w1 ?_
      refine e_if_f (by decide) ?_
      refine e_bdp w2 ?_
      refine e_if_f (by decide) ?_
      refine e_if_t zt ?_
      refine e_lts ?_
      refine e_jn ?_
      rw [em]
      refine (cr_okD ho k57 hm a2 _).trans ?_
      rw [if_neg qk]
