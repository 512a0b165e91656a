/-! the best row of the reference -/
variable {T : TW} {kd tl tn : Nat → Nat} {n c x p : Nat} {s t u : SS}
theorem rw_diff (W : WOK T kd tl n c tn) (h : RW_ T kd tl n c tn s) (hx : x < 4681) (hL : Laid T x s) : f_X12_areDifferent s = some (if difB T x (mny x) = true then 1 else 0) := by
  have h4 := mny_le x
  have h8 := W.1.1
  have mono : ∀ k j, k ≤ j → difB T x k = false → difB T x j = false := by
    intro k j
    induction j with
    | zero => intro w e; rw [show k = 0 by omega] at e; exact e
    | succ j ih =>
      intro w e
      by_cases q : k = j + 1
      · rw [← q]; exact e
      · show (difB T x j && _) = false
        rw [ih (by omega) e]
        rfl
  have lp : ∀ (m N i : Nat), i + m = mny x → m < N → difB T x i = true → lp_X12_areDifferent_4 s N (sFx x i) (iI i) = some (if difB T x (mny x) = true then 1 else 0) := by
    intro m
    induction m with
    | zero =>
      intro N i hi hN hd
      cases N with
      | zero => omega
      | succ N =>
        obtain rfl : i = mny x := by omega
        rw [lp_X12_areDifferent_4, if_pos hd]
        exact e_if_t (by rw [hL.1]; simp (disch := omega) only [Int.toNat_natCast, iI_lt, iI_le, iI_eq, iI_add, iI_sub, iI_mul, iI_neg, iI_clamp, inb_ii]; omega) rfl
    | succ m ih =>
      intro N i hi hN hd
      cases N with
      | zero => omega
      | succ N =>
        have cl : Int32.toNatClampNeg (iI (i : Int)) = i := by simp (disch := omega) only [Int.toNat_natCast, iI_lt, iI_le, iI_eq, iI_add, iI_sub, iI_mul, iI_neg, iI_clamp, inb_ii]
        have ci : inb (iI (i : Int)) 4 := by simp (disch := omega) only [Int.toNat_natCast, iI_lt, iI_le, iI_eq, iI_add, iI_sub, iI_mul, iI_neg, iI_clamp, inb_ii]; omega
        have e80 := hL.2.1 i (by omega)
        have hl := lwA_lt x i
        have zh := has_f (v := sFx x i) (l := lwA x i) s (by omega)
        have un : difB T x (i + 1) = (difB T x i && (!bt (sFx x i) (lwA x i) && decide (lwA x i < T.1))) := rfl
        rw [lp_X12_areDifferent_4]
        refine e_if_f (by rw [hL.1]; simp (disch := omega) only [Int.toNat_natCast, iI_lt, iI_le, iI_eq, iI_add, iI_sub, iI_mul, iI_neg, iI_clamp, inb_ii]; omega) ?_
        refine e_gd ci ?_
        rw [cl, e80]
        refine e_bdp zh ?_
        by_cases q : bt (sFx x i) (lwA x i) = true
        · rw [if_pos q]
          refine e_if_f (by decide) ?_
          rw [mono (i + 1) (mny x) (by omega) (by rw [un, q]; simp)]
          rfl
        · rw [if_neg q]
          refine e_if_t rfl ?_
          refine e_gd ci ?_
          by_cases q2 : lwA x i < T.1
          · refine e_if_t (by rw [h.1.1.1]; simp (disch := omega) only [Int.toNat_natCast, iI_lt, iI_le, iI_eq, iI_add, iI_sub, iI_mul, iI_neg, iI_clamp, inb_ii]; omega) ?_
            refine e_gd ci ?_
            refine e_lt ?_
            rw [nx_s]
            exact ih N (i + 1) (by omega) (by omega) (by rw [un, hd, decide_eq_true q2]; simpa using q)
          · refine e_if_f (by rw [h.1.1.1]; simp (disch := omega) only [Int.toNat_natCast, iI_lt, iI_le, iI_eq, iI_add, iI_sub, iI_mul, iI_neg, iI_clamp, inb_ii]; omega) ?_
            rw [mono (i + 1) (mny x) (by omega) (by rw [un, decide_eq_false q2]; simp)]
            rfl
  unfold f_X12_areDifferent
  exact lp (mny x) FU 0 (by omega) (fu_lt (by omega)) rfl
/-- the reference's sum: those that are asked -/
def vrF (T : TW) (n : Nat) (a : Int32) (x : Nat) : Nat → Int32
  | 0 => 0
  | k + 1 => vrF T n a x k + if a = -1 ∨ a = iI (k : Int) then wth T n x k else 0
theorem vrF_4 {a : Int32} (ha : -1 ≤ a.toInt ∧ a.toInt ≤ 3) : vrF T n a x 4 = vBR T n a x := by
  unfold vBR
  by_cases z : a = -1
  · rw [if_pos z]
    have : ∀ k, vrF T n a x k = wsA T n x k := by
      intro k
      induction k with
      | zero => rfl
      | succ k ih =>
        show vrF T n a x k + _ = wsA T n x k + _
        rw [ih, if_pos (Or.inl z)]
    exact this 4
  · rw [if_neg z]
    have hz : a.toInt ≠ -1 := fun w => z ((m1_iff a).mpr w)
    obtain ⟨m, hm4, ea⟩ := per_nat (a := a) (by omega)
    have em : a.toInt.toNat = m := by rw [ea, iI_toInt (by omega)]; omega
    rw [em]
    have ak : ∀ k : Nat, k < 4 → (a = -1 ∨ a = iI (k : Int)) = (k = m) := by
      intro k hk
      rw [ea]
      apply propext
      constructor
      · rintro (w | w)
        · exact absurd (ea.trans w) z
        · have := (iI_eq (by omega) (by omega)).mp w; omega
      · intro w; right; rw [w]
    have : ∀ k, k ≤ 4 → vrF T n a x k = if m < k then wth T n x m else 0 := by
      intro k
      induction k with
      | zero => intro _; rfl
      | succ k ih =>
        intro hk
        show vrF T n a x k + (if a = -1 ∨ a = iI (k : Int) then wth T n x k else 0) = _
        rw [ih (by omega)]
        by_cases q : k = m
        · rw [if_pos ((ak k (by omega)).mpr q), if_neg (by omega), if_pos (by omega), q, Int32.zero_add]
        · rw [if_neg (fun w => q ((ak k (by omega)).mp w)), Int32.add_zero]
          by_cases q2 : m < k
          · rw [if_pos q2, if_pos (by omega)]
          · rw [if_neg q2, if_neg (by omega)]
    rw [this 4 (by omega), if_pos hm4]
theorem cr_brI (W : WOK T kd tl n c tn) {a1 a2 v5 v15 v16 : Int32} (hx : x < szR n) (hv : VR T x) (K : Int32 → SS → Res) : ∀ (j N k : Nat) (s : SS), k + j = 4 → j < N → RW_ T kd tl n c tn s → ∃ t, lp_X12_bestRow_113 a1 a2 v5 v15 v16 (iI x) K N (vrF T n a1 x k) (iI k) s = K (vrF T n a1 x 4) t ∧ RQ s t ∧ RW_ T kd tl n c tn t := by
  intro j
  induction j with
  | zero =>
    intro N k s hk hN hs
    cases N with
    | zero => omega
    | succ N =>
      obtain rfl : k = 4 := by omega
      refine ⟨s, ?_, RQ.rf s, hs⟩
      rw [lp_X12_bestRow_113]
      exact e_if_t (by decide) rfl
  | succ j ih =>
    intro N k s hk hN hs
    cases N with
    | zero => omega
    | succ N =>
      have un : vrF T n a1 x (k + 1) = vrF T n a1 x k + if a1 = -1 ∨ a1 = iI (k : Int) then wth T n x k else 0 := rfl
      by_cases q : a1 = -1 ∨ a1 = iI (k : Int)
      · rw [if_pos q] at un
        obtain ⟨s1, e1, e2, e3⟩ := rw_worth W hs hx hv (m := k) (by omega)
        obtain ⟨t, f1, f2, f3⟩ := ih N (k + 1) s1 (by omega) (by omega) e3
        rw [un] at f1
        refine ⟨t, ?_, e2.tr f2, f3⟩
        rw [lp_X12_bestRow_113]
        refine e_if_f (by simp (disch := omega) only [Int.toNat_natCast, iI_lt, iI_le, iI_eq, iI_add, iI_sub, iI_mul, iI_neg, iI_clamp, inb_ii, z_4]; omega) ?_
        refine e_jn ?_
        refine e_jn ?_
        by_cases z : a1 = -1
        · refine e_if_t z ?_
          refine e_bd e1 ?_
          refine e_lt ?_
          rw [nx_s]
          exact f1
        · refine e_if_f z ?_
          refine e_if_t (q.resolve_left z) ?_
          refine e_bd e1 ?_
          refine e_lt ?_
          rw [nx_s]
          exact f1
      · rw [if_neg q] at un
        obtain ⟨t, f1, f2, f3⟩ := ih N (k + 1) s (by omega) (by omega) hs
        rw [un] at f1
        refine ⟨t, ?_, f2, f3⟩
        rw [lp_X12_bestRow_113]
        refine e_if_f (by simp (disch := omega) only [Int.toNat_natCast, iI_lt, iI_le, iI_eq, iI_add, iI_sub, iI_mul, iI_neg, iI_clamp, inb_ii, z_4]; omega) ?_
        refine e_jn ?_
        refine e_jn ?_
        refine e_if_f (fun w => q (Or.inl w)) ?_
        refine e_if_f (fun w => q (Or.inr w)) ?_
        refine e_lt ?_
        rw [nx_s]
        exact f1
theorem cr_brL (W : WOK T kd tl n c tn) {a1 a2 : Int32} (ha : -1 ≤ a1.toInt ∧ a1.toInt ≤ 3) (K : Int32 → Int32 → SS → Res) : ∀ (j N k : Nat) (s : SS), fsz n + k + j = szR n → j < N → RW_ T kd tl n c tn s → ∃ t, lp_X12_bestRow_84 a1 a2 (iI (szR n)) K N (if (bst T n a1 k).1 = 5000 then -1 else iI (bst T n a1 k).1) (bst T n a1 k).2 (iI ((fsz n + k : Nat) : Int)) s = K (if (bst T n a1 (szR n - fsz n)).1 = 5000 then -1 else iI (bst T n a1 (szR n - fsz n)).1) (bst T n a1 (szR n - fsz n)).2 t ∧ RQ s t ∧ RW_ T kd tl n c tn t := by
  have hn := W.2.2.2
  have hbl := br_le hn
  have hT := W.1.1
  intro j
  induction j with
  | zero =>
    intro N k s hk hN hs
    cases N with
    | zero => omega
    | succ N =>
      obtain rfl : k = szR n - fsz n := by omega
      refine ⟨s, ?_, RQ.rf s, hs⟩
      rw [lp_X12_bestRow_84]
      exact e_if_t (by simp (disch := omega) only [Int.toNat_natCast, iI_lt, iI_le, iI_eq, iI_add, iI_sub, iI_mul, iI_neg, iI_clamp, inb_ii]; omega) rfl
  | succ j ih =>
    intro N k s hk hN hs
    cases N with
    | zero => omega
    | succ N =>
      have hx : fsz n + k < szR n := by omega
      have hsz := W.sz hx
      have hm := mny_full hn hx
      have cf : ¬ iI (szR n : Int) ≤ iI ((fsz n + k : Nat) : Int) := by simp (disch := omega) only [Int.toNat_natCast, iI_lt, iI_le, iI_eq, iI_add, iI_sub, iI_mul, iI_neg, iI_clamp, inb_ii]; omega
      have nx : iI ((fsz n + k : Nat) : Int) + 1 = iI ((fsz n + (k + 1) : Nat) : Int) := nx_s _
      have un : bst T n a1 (k + 1) = if difB T (fsz n + k) n = true ∧ ((bst T n a1 k).1 = 5000 ∨ (bst T n a1 k).2 < vBR T n a1 (fsz n + k)) then (fsz n + k, vBR T n a1 (fsz n + k)) else bst T n a1 k := rfl
      have hin := bst_in (T := T) hn a1 k (by omega)
      obtain ⟨s1, e1, e2, e3, e4⟩ := rw_lay W hs hsz.2
      have zd := rw_diff W e3 hsz.2 e4
      rw [hm] at zd
      have hd := pc_dif T (fsz n + k) n
      generalize hr : bst T n a1 k = r at un hin ⊢
      by_cases q : difB T (fsz n + k) n = true
      · rw [if_pos q] at zd
        have hv : VR T (fsz n + k) := vr_iff.mp (by rw [hm]; exact (hd.mp q).1)
        by_cases q3 : r.1 = 5000 ∨ r.2 < vBR T n a1 (fsz n + k)
        · rw [if_pos ⟨q, q3⟩] at un
          obtain ⟨s2, g1, g2, g3⟩ := cr_brI (a1 := a1) (a2 := a2) (v5 := iI (szR n)) (v15 := if r.1 = 5000 then -1 else iI r.1) (v16 := r.2) W hx hv (fun (v29 : Int32) (s30 : SS) => jn (lp_X12_bestRow_84 a1 a2 (iI (szR n)) K N (iI ((fsz n + k : Nat) : Int)) v29 (iI ((fsz n + k : Nat) : Int) + 1) s30) (fun (k32 : Res) => if ((if r.1 = 5000 then -1 else iI r.1) : Int32) = ((-1) : Int32) then k32 else if (r.2 : Int32) < (v29 : Int32) then k32 else lp_X12_bestRow_84 a1 a2 (iI (szR n)) K N (if r.1 = 5000 then -1 else iI r.1) r.2 (iI ((fsz n + k : Nat) : Int) + 1) s30)) 4 FU 0 s1 rfl (fu_lt (by omega)) e3
          rw [vrF_4 ha] at g1
          obtain ⟨t, f1, f2, f3⟩ := ih N (k + 1) s2 (by omega) (by omega) g3
          rw [un] at f1
          rw [if_neg (show ¬ fsz n + k = 5000 by omega)] at f1
          refine ⟨t, ?_, (e2.tr g2).tr f2, f3⟩
          rw [lp_X12_bestRow_84]
          refine e_if_f cf ?_
          refine e_bd e1 ?_
          refine e_bdp zd ?_
          refine e_jn ?_
          refine e_if_f (by decide) ?_
          refine e_jn ?_
          refine Eq.trans g1 ?_
          refine e_jn ?_
          rw [nx]
          by_cases z : r.1 = 5000
          · refine e_if_t (by rw [if_pos z]) ?_
            exact f1
          · have hr1 := hin.resolve_left z
            refine e_if_f (by rw [if_neg z]; have := W.sz hr1.1; simp (disch := omega) only [Int.toNat_natCast, iI_lt, iI_le, iI_eq, iI_add, iI_sub, iI_mul, iI_neg, iI_clamp, inb_ii, z_m1]; omega) ?_
            exact e_if_t (q3.resolve_left z) f1
        · rw [if_neg (fun w => q3 w.2)] at un
          have z : ¬ r.1 = 5000 := fun w => q3 (Or.inl w)
          have hr1 := hin.resolve_left z
          obtain ⟨s2, g1, g2, g3⟩ := cr_brI (a1 := a1) (a2 := a2) (v5 := iI (szR n)) (v15 := if r.1 = 5000 then -1 else iI r.1) (v16 := r.2) W hx hv (fun (v29 : Int32) (s30 : SS) => jn (lp_X12_bestRow_84 a1 a2 (iI (szR n)) K N (iI ((fsz n + k : Nat) : Int)) v29 (iI ((fsz n + k : Nat) : Int) + 1) s30) (fun (k32 : Res) => if ((if r.1 = 5000 then -1 else iI r.1) : Int32) = ((-1) : Int32) then k32 else if (r.2 : Int32) < (v29 : Int32) then k32 else lp_X12_bestRow_84 a1 a2 (iI (szR n)) K N (if r.1 = 5000 then -1 else iI r.1) r.2 (iI ((fsz n + k : Nat) : Int) + 1) s30)) 4 FU 0 s1 rfl (fu_lt (by omega)) e3
          rw [vrF_4 ha] at g1
          obtain ⟨t, f1, f2, f3⟩ := ih N (k + 1) s2 (by omega) (by omega) g3
          rw [un] at f1
          refine ⟨t, ?_, (e2.tr g2).tr f2, f3⟩
          rw [lp_X12_bestRow_84]
          refine e_if_f cf ?_
          refine e_bd e1 ?_
          refine e_bdp zd ?_
          refine e_jn ?_
          refine e_if_f (by decide) ?_
          refine e_jn ?_
          refine Eq.trans g1 ?_
          refine e_jn ?_
          rw [nx]
          refine e_if_f (by rw [if_neg z]; have := W.sz hr1.1; simp (disch := omega) only [Int.toNat_natCast, iI_lt, iI_le, iI_eq, iI_add, iI_sub, iI_mul, iI_neg, iI_clamp, inb_ii, z_m1]; omega) ?_
          exact e_if_f (fun w => q3 (Or.inr w)) f1
      · rw [if_neg q] at zd
        rw [if_neg (fun w => q w.1)] at un
        obtain ⟨t, f1, f2, f3⟩ := ih N (k + 1) s1 (by omega) (by omega) e3
        rw [un] at f1
        refine ⟨t, ?_, e2.tr f2, f3⟩
        rw [lp_X12_bestRow_84]
        refine e_if_f cf ?_
        refine e_bd e1 ?_
        refine e_bdp zd ?_
        refine e_jn ?_
        refine e_if_t rfl ?_
        rw [nx]
        exact f1
theorem rr_end0 (hn : 1 ≤ n ∧ n ≤ 4) (k6 : Int32 → Res) (s : SS) (h3 : s 56 3 = iI n) : (if (s 56 3 : Int32) = (4 : Int32) then k6 4681 else bdp (f_X12_firstOf ((s 56 3) + 1) s) (fun (v50 : Int32) => k6 v50)) = k6 (iI (szR n)) := by
  rw [h3]
  obtain rfl | rfl | rfl | rfl : n = 1 ∨ n = 2 ∨ n = 3 ∨ n = 4 := by omega
  all_goals rfl
theorem cr_bestRow (W : WOK T kd tl n c tn) (a1 a2 : Int32) {s : SS} (h : RW_ T kd tl n c tn s) : ∃ t, f_X12_bestRow a1 a2 s = some (ansBR T n a1 a2, t) ∧ RQ s t ∧ RW_ T kd tl n c tn t := by
  have hn := W.2.2.2
  have hT := W.1.1
  have h3 := h.1.2.1
  have h2 := h.1.1.1
  have sf := isSort_f a1 s
  have l2 : f_X12_lies (a2.toInt64) (-1) ((s 56 3 - 1).toInt64) s = some (if -1 ≤ a2.toInt ∧ a2.toInt ≤ (n : Int) - 1 then 1 else 0) := by
    rw [lies_f, i64_toInt, i64_toInt, h3, z_1, iI_sub, iI_toInt (by omega)]
    rfl
  have z0 := m1_iff a1
  -- the first question
  have first : ∀ (k1 r : Res), (¬ (-1 ≤ a1.toInt ∧ a1.toInt ≤ 3) → r = some (-1000000, s)) → ((-1 ≤ a1.toInt ∧ a1.toInt ≤ 3) → k1 = r) → (if (a1 : Int32) = ((-1) : Int32) then k1 else bdp (f_X12_isSort a1 s) (fun (v52 : Int32) => if (v52 : Int32) = 0 then some ((-1000000), s) else k1)) = r := by
    intro k1 r hr hk
    by_cases z : a1 = -1
    · exact e_if_t z (hk (by rw [z0] at z; omega))
    · refine e_if_f z ?_
      refine e_bdp sf ?_
      rw [z0] at z
      by_cases q : 0 ≤ a1.toInt ∧ a1.toInt ≤ 3
      · rw [if_pos q]
        exact e_if_f (by decide) (hk (by omega))
      · rw [if_neg q]
        exact e_if_t rfl (hr (by omega)).symm
  unfold f_X12_bestRow
  by_cases q1 : -1 ≤ a1.toInt ∧ a1.toInt ≤ 3
  · by_cases q2 : -1 ≤ a2.toInt ∧ a2.toInt < n
    · rw [if_pos (by omega)] at l2
      by_cases q3 : n ≤ T.1
      · have ea : ansBR T n a1 a2 = if a2.toInt = -1 then (bst T n a1 (szR n - fsz n)).2 else iI (lwA (bst T n a1 (szR n - fsz n)).1 a2.toInt.toNat) := by unfold ansBR; rw [if_pos ⟨q1, q2, q3⟩]
        rw [ea]
        have hfull := bst_full hn q3 a1
        have hf := fsz_sz hn
        have hbl := br_le hn
        obtain ⟨t, f1, f2, f3⟩ := cr_brL W (a2 := a2) q1 (fun (v8 : Int32) (v9 : Int32) (s10 : SS) => bd (f_X12_laysRow v8 s10) (fun v12 s13 => if (a2 : Int32) = ((-1) : Int32) then some (v9, s13) else gd (inb a2 4) (some (s13 80 (Int32.toNatClampNeg a2), s13)))) (szR n - fsz n) FU 0 s (by omega) (fu_lt (by omega)) h
        obtain ⟨u, g1, g2, g3, g4⟩ := rw_lay W f3 (W.sz hfull.1).2
        refine ⟨u, ?_, f2.tr g2, g3⟩
        refine e_jn ?_
        refine first _ _ (fun w => absurd q1 w) (fun _ => ?_)
        refine e_bdp l2 ?_
        refine e_if_f (by decide) ?_
        refine e_if_t (by rw [h3, h2, iI_le (by omega) (by omega)]; omega) ?_
        refine e_jn ?_
        refine (rr_end0 hn _ s h3).trans ?_
        rw [h3]
        refine e_bdp (rr_first (by omega) s) ?_
        refine e_jn ?_
        refine Eq.trans f1 ?_
        rw [if_neg (show ¬ (bst T n a1 (szR n - fsz n)).1 = 5000 by omega)]
        refine e_bd g1 ?_
        by_cases z : a2.toInt = -1
        · rw [if_pos z]
          exact e_if_t ((m1_iff a2).mpr z) rfl
        · rw [if_neg z]
          refine e_if_f (fun w => z ((m1_iff a2).mp w)) ?_
          have ed := e_lit (a := a2) (k := (a2.toInt.toNat : Nat)) (by omega)
          have hd : a2.toInt.toNat < n := by omega
          generalize a2.toInt.toNat = d at ed hd ⊢
          rw [ed]
          refine e_gd (by simp (disch := omega) only [Int.toNat_natCast, iI_lt, iI_le, iI_eq, iI_add, iI_sub, iI_mul, iI_neg, iI_clamp, inb_ii]; omega) ?_
          rw [iI_clamp (by omega), Int.toNat_natCast, g4.2.1 d (by omega)]
      · rw [show ansBR T n a1 a2 = -1000000 from if_neg (fun w => q3 w.2.2)]
        refine ⟨s, ?_, RQ.rf s, h⟩
        refine e_jn ?_
        refine first _ _ (fun _ => rfl) (fun _ => ?_)
        refine e_bdp l2 ?_
        refine e_if_f (by decide) ?_
        exact e_if_f (by rw [h3, h2, iI_le (by omega) (by omega)]; omega) rfl
    · rw [if_neg (by omega)] at l2
      rw [show ansBR T n a1 a2 = -1000000 from if_neg (fun w => q2 w.2.1)]
      refine ⟨s, ?_, RQ.rf s, h⟩
      refine e_jn ?_
      refine first _ _ (fun _ => rfl) (fun _ => ?_)
      refine e_bdp l2 ?_
      exact e_if_t rfl rfl
  · rw [show ansBR T n a1 a2 = -1000000 from if_neg (fun w => q1 w.1)]
    refine ⟨s, ?_, RQ.rf s, h⟩
    refine e_jn ?_
    exact first _ _ (fun _ => rfl) (fun w => absurd w q1)
