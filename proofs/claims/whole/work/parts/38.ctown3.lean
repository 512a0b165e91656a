/-- all laws there are -/
theorem all_bt : ∀ N : Nat, N ≤ 8 → ∀ l : Nat, l < 32 → bt ((1 <<< (iI (N : Int) &&& 31)) - 1) l = decide (l < N) := by decide +kernel
theorem ct_open {s : SS} {T : TW} {n x m : Nat} (hT : T.1 ≤ 8) (h1 : RW s) (h2 : CTB T s) (hn : 1 ≤ n ∧ n ≤ 4) (hx : x < szR n) (hm : m < 4) : ∃ O : Int32, f_X10_openTo (wl_ n x) (iI m) s = some O ∧ ∀ l, l < 32 → bt O l = (decide (l < T.1) && opn T x m l 8) := by
  have lp : ∀ j N k : Nat, ∀ v : Int32, k + j = 8 → j < N → (∀ l, l < 32 → bt v l = (decide (l < T.1) && opn T x m l k)) → ∃ O : Int32, lp_X10_openTo_15 (iI m) s (hold T x) N v (iI k) = some O ∧ ∀ l, l < 32 → bt O l = (decide (l < T.1) && opn T x m l 8) := by
    intro j
    induction j with
    | zero =>
      intro N k v hk hN hv
      obtain rfl : k = 8 := by omega
      cases N with
      | zero => omega
      | succ N =>
        refine ⟨v, ?_, hv⟩
        rw [lp_X10_openTo_15]
        exact e_if_t (by simp (disch := omega) only [Int.toNat_natCast, iI_lt, iI_le, iI_eq, iI_add, iI_sub, iI_mul, iI_neg, iI_clamp, inb_ii, z_8]; omega) rfl
    | succ j ih =>
      intro N k v hk hN hv
      cases N with
      | zero => omega
      | succ N =>
        have c1 : ¬ (8 : Int32) ≤ iI (k : Int) := by simp (disch := omega) only [Int.toNat_natCast, iI_lt, iI_le, iI_eq, iI_add, iI_sub, iI_mul, iI_neg, iI_clamp, inb_ii, z_8]; omega
        have c3 : inb (iI (k : Int)) 8 := by simp (disch := omega) only [Int.toNat_natCast, iI_lt, iI_le, iI_eq, iI_add, iI_sub, iI_mul, iI_neg, iI_clamp, inb_ii]; omega
        have cl : Int32.toNatClampNeg (iI (k : Int)) = k := by simp (disch := omega) only [Int.toNat_natCast, iI_lt, iI_le, iI_eq, iI_add, iI_sub, iI_mul, iI_neg, iI_clamp, inb_ii]
        have d1 : (((hold T x >>> (iI (k : Int) &&& 31)) &&& 1 : Int32) = 1) = (hcond T x k = true) := by rw [← hold_bt T (l := k) (by omega)]; exact propext (has_bt (by omega))
        have d2 : (((s 31 (Int32.toNatClampNeg (iI (k : Int))) >>> (iI (m : Int) &&& 31)) &&& 1 : Int32) = 1) = (bt (T.2.1 3 k) m = true) := by rw [cl, (h2.2 k (by omega)).2.2.2]; exact propext (has_bt (by omega))
        have nx : iI (k : Int) + 1 = iI ((k + 1 : Nat) : Int) := by rw [z_1, iI_add]; rfl
        have un : ∀ l, opn T x m l (k + 1) = (opn T x m l k && !(hcond T x k && (bt (T.2.1 2 k) l || bt (T.2.1 3 k) m))) := fun _ => rfl
        by_cases q1 : hcond T x k = true
        · by_cases q2 : bt (T.2.1 3 k) m = true
          · obtain ⟨O, e1, e2⟩ := ih N (k + 1) (v &&& 0) (by omega) (by omega) (fun l hl => by rw [b_and, b_0, un, q1, q2]; simp)
            refine ⟨O, ?_, e2⟩
            rw [lp_X10_openTo_15]
            repeat (first
              | (with_reducible refine e_gd ?sd ?_; case sd => first | decide | exact c3)
              | with_reducible refine e_up ?_
              | with_reducible refine e_up0 ?_
              | with_reducible refine e_jn ?_
              | with_reducible refine e_lt ?_
              | with_reducible refine e_if_f (c1) ?_
              | with_reducible refine e_if_t (d1.mpr q1) ?_
              | with_reducible refine e_if_t (d2.mpr q2) ?_)
            rw [nx]
            exact e1
          · obtain ⟨O, e1, e2⟩ := ih N (k + 1) (v &&& (s 30 (Int32.toNatClampNeg (iI (k : Int))) ^^^ (-1))) (by omega) (by omega) (fun l hl => by
              rw [b_and, b_xor, b_m1 l hl, un, q1, hv l hl, cl, (h2.2 k (by omega)).2.2.1]
              simp at q2
              simp [q2, Bool.and_assoc])
            refine ⟨O, ?_, e2⟩
            rw [lp_X10_openTo_15]
            repeat (first
              | (with_reducible refine e_gd ?sd ?_; case sd => first | decide | exact c3)
              | with_reducible refine e_up ?_
              | with_reducible refine e_up0 ?_
              | with_reducible refine e_jn ?_
              | with_reducible refine e_lt ?_
              | with_reducible refine e_if_f (c1) ?_
              | with_reducible refine e_if_t (d1.mpr q1) ?_
              | with_reducible refine e_if_f (mt d2.mp q2) ?_)
            rw [nx]
            exact e1
        · obtain ⟨O, e1, e2⟩ := ih N (k + 1) v (by omega) (by omega) (fun l hl => by
            rw [un, hv l hl]
            simp at q1
            simp [q1])
          refine ⟨O, ?_, e2⟩
          rw [lp_X10_openTo_15]
          repeat (first
            | (with_reducible refine e_gd ?sd ?_; case sd => first | decide | exact c3)
            | with_reducible refine e_up ?_
            | with_reducible refine e_up0 ?_
            | with_reducible refine e_jn ?_
            | with_reducible refine e_lt ?_
            | with_reducible refine e_if_f (c1) ?_
            | with_reducible refine e_if_f (mt d1.mp q1) ?_)
          rw [nx]
          exact e1
  unfold f_X10_openTo
  obtain ⟨O, e1, e2⟩ := lp 8 FU 0 ((1 <<< (iI (T.1 : Int) &&& 31)) - 1) rfl (fu_lt (by omega)) (fun l hl => by rw [all_bt T.1 hT l hl]; simp [opn])
  refine ⟨O, ?_, e2⟩
  refine e_bdp (ct_holding h1 h2 hn hx) ?_
  refine e_bdp (v := (1 <<< (iI (T.1 : Int) &&& 31)) - 1) (by unfold f_X10_allLaws; rw [h2.1]) ?_
  exact e1
/-- Arrays.fill over the two tables of answers -/
theorem fill_33 (v : Int32) (s : SS) : f_J7_fill_53178_33 v s = some (0, upr s 33 (fun j => if j < 21392 then v else s 33 j)) := by
  have lp : ∀ m N i : Nat, ∀ R : Nat → Int32, i + m = 21392 → m < N → lp_J7_fill_53178_33_5 v N (iI i) (upr s 33 R) = some (0, upr s 33 (fun j => if i ≤ j ∧ j < 21392 then v else R j)) := by
    intro m
    induction m with
    | zero =>
      intro N i R hi hN
      cases N with
      | zero => omega
      | succ N =>
        rw [lp_J7_fill_53178_33_5]
        refine e_if_t (by simp (disch := omega) only [Int.toNat_natCast, iI_lt, iI_le, iI_eq, iI_add, iI_sub, iI_mul, iI_neg, iI_clamp, inb_ii, z_21392]; omega) ?_
        congr 3
        funext j
        rw [if_neg (by omega)]
    | succ m ih =>
      intro N i R hi hN
      cases N with
      | zero => omega
      | succ N =>
        rw [lp_J7_fill_53178_33_5]
        refine e_if_f (by simp (disch := omega) only [Int.toNat_natCast, iI_lt, iI_le, iI_eq, iI_add, iI_sub, iI_mul, iI_neg, iI_clamp, inb_ii, z_21392]; omega) ?_
        refine e_gd (by simp (disch := omega) only [Int.toNat_natCast, iI_lt, iI_le, iI_eq, iI_add, iI_sub, iI_mul, iI_neg, iI_clamp, inb_ii]; omega) ?_
        refine e_up ?_
        rw [z_1, iI_add, show (i : Int) + 1 = ((i + 1 : Nat) : Int) by omega, ih N (i + 1) _ (by omega) (by omega)]
        congr 3
        funext j
        rw [iI_clamp (by omega), Int.toNat_natCast]
        by_cases q : j = i
        · subst q; rw [upd_eq, if_neg (by omega), if_pos (by omega)]
        · rw [upd_ne q]
          by_cases q2 : i + 1 ≤ j ∧ j < 21392
          · rw [if_pos q2, if_pos (by omega)]
          · rw [if_neg q2, if_neg (by omega)]
  unfold f_J7_fill_53178_33
  have := lp 21392 FU 0 (s 33) rfl (fu_lt (by omega))
  rw [upr_self] at this
  refine Eq.trans this ?_
  congr 3
  funext j
  by_cases q : j < 21392
  · rw [if_pos (by omega), if_pos q]
  · rw [if_neg (by omega), if_neg q]
theorem fill_34 (v : Int32) (s : SS) : f_J7_fill_53178_34 v s = some (0, upr s 34 (fun j => if j < 21392 then v else s 34 j)) := by
  have lp : ∀ m N i : Nat, ∀ R : Nat → Int32, i + m = 21392 → m < N → lp_J7_fill_53178_34_5 v N (iI i) (upr s 34 R) = some (0, upr s 34 (fun j => if i ≤ j ∧ j < 21392 then v else R j)) := by
    intro m
    induction m with
    | zero =>
      intro N i R hi hN
      cases N with
      | zero => omega
      | succ N =>
        rw [lp_J7_fill_53178_34_5]
        refine e_if_t (by simp (disch := omega) only [Int.toNat_natCast, iI_lt, iI_le, iI_eq, iI_add, iI_sub, iI_mul, iI_neg, iI_clamp, inb_ii, z_21392]; omega) ?_
        congr 3
        funext j
        rw [if_neg (by omega)]
    | succ m ih =>
      intro N i R hi hN
      cases N with
      | zero => omega
      | succ N =>
        rw [lp_J7_fill_53178_34_5]
        refine e_if_f (by simp (disch := omega) only [Int.toNat_natCast, iI_lt, iI_le, iI_eq, iI_add, iI_sub, iI_mul, iI_neg, iI_clamp, inb_ii, z_21392]; omega) ?_
        refine e_gd (by simp (disch := omega) only [Int.toNat_natCast, iI_lt, iI_le, iI_eq, iI_add, iI_sub, iI_mul, iI_neg, iI_clamp, inb_ii]; omega) ?_
        refine e_up ?_
        rw [z_1, iI_add, show (i : Int) + 1 = ((i + 1 : Nat) : Int) by omega, ih N (i + 1) _ (by omega) (by omega)]
        congr 3
        funext j
        rw [iI_clamp (by omega), Int.toNat_natCast]
        by_cases q : j = i
        · subst q; rw [upd_eq, if_neg (by omega), if_pos (by omega)]
        · rw [upd_ne q]
          by_cases q2 : i + 1 ≤ j ∧ j < 21392
          · rw [if_pos q2, if_pos (by omega)]
          · rw [if_neg q2, if_neg (by omega)]
  unfold f_J7_fill_53178_34
  have := lp 21392 FU 0 (s 34) rfl (fu_lt (by omega))
  rw [upr_self] at this
  refine Eq.trans this ?_
  congr 3
  funext j
  by_cases q : j < 21392
  · rw [if_pos (by omega), if_pos q]
  · rw [if_neg (by omega), if_neg q]
theorem ct_freshen {s : SS} {T : TW} (h : CT_ T s) : ∃ t : SS, f_X10_freshen s = some (0, t) ∧ CQ s t ∧ CT_ T t ∧ t 27 10 = 0 := by
  unfold f_X10_freshen
  by_cases q : s 27 10 = 0
  · exact ⟨s, e_if_t q rfl, CQ.rf s, h, q⟩
  · let t : SS := upr (upr (upr s 33 (fun j => if j < 21392 then UNK else s 33 j)) 34 (fun j => if j < 21392 then UNK else s 34 j)) 27 (upd (s 27) 10 0)
    have e33 : t 33 = fun j => if j < 21392 then UNK else s 33 j := rfl
    have e34 : t 34 = fun j => if j < 21392 then UNK else s 34 j := rfl
    have e27 : t 27 = upd (s 27) 10 0 := rfl
    have hq : CQ s t := ⟨fun k a b c d e => by
      show upr (upr (upr s 33 _) 34 _) 27 _ k = s k
      rw [upr_ne b, upr_ne e, upr_ne d], fun j a => by rw [e27, upd_ne a]⟩
    refine ⟨t, ?_, hq, hq.ct h ⟨Or.inl (by rw [e27, upd_eq]), fun _ n x p hn hx hp => ?_⟩, by rw [e27, upd_eq]⟩
    · refine e_if_f q ?_
      refine e_bd (fill_33 _ s) ?_
      refine e_bd (fill_34 _ _) ?_
      rfl
    · have hb := (sz_lt hn hx).1
      rw [e33, e34]
      refine ⟨Or.inl ?_, Or.inl ?_⟩
      · show (if 4 * (br n + x) + p < 21392 then UNK else _) = UNK
        rw [if_pos (by omega)]
      · show (if 4 * (br n + x) + p < 21392 then UNK else _) = UNK
        rw [if_pos (by omega)]
