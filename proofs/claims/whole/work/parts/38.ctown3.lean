/-- all laws there are -/
theorem all_bt : ∀ N : Nat, N ≤ 8 → ∀ l : Nat, l < 32 → bt ((1 <<< (iI (N : Int) &&& 31)) - 1) l = decide (l < N) := by decide +kernel
theorem ct_open {s : SS} {T : TW} {n x m : Nat} (hT : T.1 ≤ 8) (h1 : RW s) (h2 : CTB T s) (hn : 1 ≤ n ∧ n ≤ 4) (hx : x < szR n) (hm : m < 4) : ∃ O : Int32, f_X10_openTo (wl_ n x) (iI m) s = some O ∧ ∀ l, l < 32 → bt O l = (decide (l < T.1) && opn T x m l 8) := by
  have lp : ∀ j N k : Nat, ∀ v : Int32, k + j = 8 → j < N → (∀ l, l < 32 → bt v l = (decide (l < T.1) && opn T x m l k)) → ∃ O : Int32, lp_X10_openTo_15 (iI m) s (hold T x) N v (iI k) = some O ∧ ∀ l, l < 32 → bt O l = (decide (l < T.1) && opn T x m l 8) := by
    intro j
    induction j with
    | zero =>
      intro N k v hk hN hv
      obtain rfl : k = 8 := by omega
      cases N with
      | zero => omega
      | succ N =>
        refine ⟨v, ?_, hv⟩
        rw [lp_X10_openTo_15]
        exact e_if_t (by simp (disch := omega) only [Int.toNat_natCast, iI_lt, iI_le, iI_eq, iI_add, iI_sub, iI_mul, iI_neg, iI_clamp, inb_ii, z_8]; omega) rfl
    | succ j ih =>
      intro N k v hk hN hv
      cases N with
      | zero => omega
      | succ N =>
        have c1 : ¬ (8 : Int32) ≤ iI (k : Int) := by simp (disch := omega) only [Int.toNat_natCast, iI_lt, iI_le, iI_eq, iI_add, iI_sub, iI_mul, iI_neg, iI_clamp, inb_ii, z_8]; omega
        have c3 : inb (iI (k : Int)) 8 := by simp (disch := omega) only [Int.toNat_natCast, iI_lt, iI_le, iI_eq, iI_add, iI_sub, iI_mul, iI_neg, iI_clamp, inb_ii]; omega
        have cl : Int32.toNatClampNeg (iI (k : Int)) = k := by simp (disch := omega) only [Int.toNat_natCast, iI_lt, iI_le, iI_eq, iI_add, iI_sub, iI_mul, iI_neg, iI_clamp, inb_ii]
        have d1 : (((hold T x >>> (iI (k : Int) &&& 31)) &&& 1 : Int32) = 1) = (hcond T x k = true) := by rw [← hold_bt T (l := k) (by omega)]; exact propext (has_bt (by omega))
        have d2 : (((s 31 (Int32.toNatClampNeg (iI (k : Int))) >>> (iI (m : Int) &&& 31)) &&& 1 : Int32) = 1) = (bt (T.2.1 3 k) m = true) := by rw [cl, (h2.2 k (by omega)).2.2.2]; exact propext (has_bt (by omega))
        have nx : iI (k : Int) + 1 = iI ((k + 1 : Nat) : Int) := by rw [z_1, iI_add]; rfl
        have un : ∀ l, opn T x m l (k + 1) = (opn T x m l k && !(hcond T x k && (bt (T.2.1 2 k) l || bt (T.2.1 3 k) m))) := fun _ => rfl
        by_cases q1 : hcond T x k = true
        · by_cases q2 : bt (T.2.1 3 k) m = true
          · obtain ⟨O, e1, e2⟩ := ih N (k + 1) (v &&& 0) (by omega) (by omega) (fun l hl => by rw [b_and, b_0, un, q1, q2]; simp)
            refine ⟨O, ?_, e2⟩
            rw [lp_X10_openTo_15]
            repeat (first
              | (with_reducible refine e_gd ?sd ?_; case sd => first | decide | exact c3)
              | with_reducible refine e_up ?_
              | with_reducible refine e_up0 ?_
              | with_reducible refine e_upl ?_
              | with_reducible refine e_upl0 ?_
              | with_reducible refine e_jn ?_
              | with_reducible refine e_lt ?_
              | with_reducible refine e_if_f (c1) ?_
              | with_reducible refine e_if_t (d1.mpr q1) ?_
              | with_reducible refine e_if_t (d2.mpr q2) ?_)
            rw [nx]
            exact e1
          · obtain ⟨O, e1, e2⟩ := ih N (k + 1) (v &&& (s 30 (Int32.toNatClampNeg (iI (k : Int))) ^^^ (-1))) (by omega) (by omega) (fun l hl => by
              rw [b_and, b_xor, b_m1 l hl, un, q1, hv l hl, cl, (h2.2 k (by omega)).2.2.1]
              simp at q2
              simp [q2, Bool.and_assoc])
            refine ⟨O, ?_, e2⟩
            rw [lp_X10_openTo_15]
            repeat (first
              | (with_reducible refine e_gd ?sd ?_; case sd => first | decide | exact c3)
              | with_reducible refine e_up ?_
              | with_reducible refine e_up0 ?_
              | with_reducible refine e_upl ?_
              | with_reducible refine e_upl0 ?_
              | with_reducible refine e_jn ?_
              | with_reducible refine e_lt ?_
              | with_reducible refine e_if_f (c1) ?_
              | with_reducible refine e_if_t (d1.mpr q1) ?_
              | with_reducible refine e_if_f (mt d2.mp q2) ?_)
            rw [nx]
            exact e1
        · obtain ⟨O, e1, e2⟩ := ih N (k + 1) v (by omega) (by omega) (fun l hl => by
            rw [un, hv l hl]
            simp at q1
            simp [q1])
          refine ⟨O, ?_, e2⟩
          rw [lp_X10_openTo_15]
          repeat (first
            | (with_reducible refine e_gd ?sd ?_; case sd => first | decide | exact c3)
            | with_reducible refine e_up ?_
            | with_reducible refine e_up0 ?_
            | with_reducible refine e_upl ?_
            | with_reducible refine e_upl0 ?_
            | with_reducible refine e_jn ?_
            | with_reducible refine e_lt ?_
            | with_reducible refine e_if_f (c1) ?_
            | with_reducible refine e_if_f (mt d1.mp q1) ?_)
          rw [nx]
          exact e1
  unfold f_X10_openTo
  obtain ⟨O, e1, e2⟩ := lp 8 FU 0 ((1 <<< (iI (T.1 : Int) &&& 31)) - 1) rfl (fu_lt (by omega)) (fun l hl => by rw [all_bt T.1 hT l hl]; simp [opn])
  refine ⟨O, ?_, e2⟩
  refine e_bdp (ct_holding h1 h2 hn hx) ?_
  refine e_bdp (v := (1 <<< (iI (T.1 : Int) &&& 31)) - 1) (by unfold f_X10_allLaws; rw [h2.1]) ?_
  exact e1
/-- Arrays.fill over the two tables of answers -/
theorem fill_33 (v : Int64) (s : SS) : ∃ R : Nat → Int32, f_J7_fill_d0a16_33 v s = some (0, upr s 33 R) ∧ ∀ j, j < 5348 → lgt R j = v := by
  have lp : ∀ m N i : Nat, ∀ R : Nat → Int32, i + m = 5348 → m < N → (∀ j, j < i → lgt R j = v) → ∃ Q : Nat → Int32, lp_J7_fill_d0a16_33_6 v N (iI i) (upr s 33 R) = some (0, upr s 33 Q) ∧ ∀ j, j < 5348 → lgt Q j = v := by
    intro m
    induction m with
    | zero =>
      intro N i R hi hN hR
      cases N with
      | zero => omega
      | succ N =>
        obtain rfl : i = 5348 := by omega
        rw [lp_J7_fill_d0a16_33_6]
        exact ⟨R, e_if_t (by simp (disch := omega) only [Int.toNat_natCast, iI_lt, iI_le, iI_eq, iI_add, iI_sub, iI_mul, iI_neg, iI_clamp, inb_ii, z_5348]; omega) rfl, hR⟩
    | succ m ih =>
      intro N i R hi hN hR
      cases N with
      | zero => omega
      | succ N =>
        obtain ⟨Q, q1, q2⟩ := ih N (i + 1) (lset R i v) (by omega) (by omega) (fun j hj => by
          by_cases q : j = i
          · subst q; exact lgt_lset R j v
          · rw [lgt_ne _ _ _ _ q]; exact hR j (by omega))
        refine ⟨Q, ?_, q2⟩
        rw [lp_J7_fill_d0a16_33_6]
        refine e_if_f (by simp (disch := omega) only [Int.toNat_natCast, iI_lt, iI_le, iI_eq, iI_add, iI_sub, iI_mul, iI_neg, iI_clamp, inb_ii, z_5348]; omega) ?_
        refine e_gd (by simp (disch := omega) only [Int.toNat_natCast, iI_lt, iI_le, iI_eq, iI_add, iI_sub, iI_mul, iI_neg, iI_clamp, inb_ii]; omega) ?_
        refine e_upl ?_
        rw [iI_clamp (by omega), Int.toNat_natCast, z_1, iI_add, show (i : Int) + 1 = ((i + 1 : Nat) : Int) by omega]
        exact q1
  obtain ⟨Q, q1, q2⟩ := lp 5348 FU 0 (s 33) rfl (fu_lt (by omega)) (fun j hj => by omega)
  rw [upr_self] at q1
  exact ⟨Q, q1, q2⟩
theorem fill_34 (v : Int64) (s : SS) : ∃ R : Nat → Int32, f_J7_fill_d0a16_34 v s = some (0, upr s 34 R) ∧ ∀ j, j < 5348 → lgt R j = v := by
  have lp : ∀ m N i : Nat, ∀ R : Nat → Int32, i + m = 5348 → m < N → (∀ j, j < i → lgt R j = v) → ∃ Q : Nat → Int32, lp_J7_fill_d0a16_34_6 v N (iI i) (upr s 34 R) = some (0, upr s 34 Q) ∧ ∀ j, j < 5348 → lgt Q j = v := by
    intro m
    induction m with
    | zero =>
      intro N i R hi hN hR
      cases N with
      | zero => omega
      | succ N =>
        obtain rfl : i = 5348 := by omega
        rw [lp_J7_fill_d0a16_34_6]
        exact ⟨R, e_if_t (by simp (disch := omega) only [Int.toNat_natCast, iI_lt, iI_le, iI_eq, iI_add, iI_sub, iI_mul, iI_neg, iI_clamp, inb_ii, z_5348]; omega) rfl, hR⟩
    | succ m ih =>
      intro N i R hi hN hR
      cases N with
      | zero => omega
      | succ N =>
        obtain ⟨Q, q1, q2⟩ := ih N (i + 1) (lset R i v) (by omega) (by omega) (fun j hj => by
          by_cases q : j = i
          · subst q; exact lgt_lset R j v
          · rw [lgt_ne _ _ _ _ q]; exact hR j (by omega))
        refine ⟨Q, ?_, q2⟩
        rw [lp_J7_fill_d0a16_34_6]
        refine e_if_f (by simp (disch := omega) only [Int.toNat_natCast, iI_lt, iI_le, iI_eq, iI_add, iI_sub, iI_mul, iI_neg, iI_clamp, inb_ii, z_5348]; omega) ?_
        refine e_gd (by simp (disch := omega) only [Int.toNat_natCast, iI_lt, iI_le, iI_eq, iI_add, iI_sub, iI_mul, iI_neg, iI_clamp, inb_ii]; omega) ?_
        refine e_upl ?_
        rw [iI_clamp (by omega), Int.toNat_natCast, z_1, iI_add, show (i : Int) + 1 = ((i + 1 : Nat) : Int) by omega]
        exact q1
  obtain ⟨Q, q1, q2⟩ := lp 5348 FU 0 (s 34) rfl (fu_lt (by omega)) (fun j hj => by omega)
  rw [upr_self] at q1
  exact ⟨Q, q1, q2⟩
