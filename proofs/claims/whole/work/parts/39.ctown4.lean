theorem cell_in {n x p : Nat} (hn : 1 ≤ n ∧ n ≤ 4) (hx : x < szR n) (hp : p < 4) : 4 * (br n + x) + p < 21392 := by
  have := (sz_lt hn hx).1
  omega
theorem cell_eq (n x p : Nat) : wl_ n x * 4 + iI p = iI ((4 * (br n + x) + p : Nat) : Int) := by
  unfold wl_
  rw [z_4, iI_mul, iI_add]
  congr 1
  omega
theorem unk_wth {T : TW} (hT : TOK T) (n x p : Nat) : ¬ wth T n x p = UNK := by
  intro h
  have := wth_in T hT n x p
  rw [h] at this
  exact absurd this (by decide)
theorem unk_may {T : TW} (hT : T.1 ≤ 8) (n x p : Nat) : ¬ may T n x p = UNK := by
  intro h
  obtain ⟨k, hk, e⟩ := may_small T hT n x p
  rw [h] at e
  have : (UNK).toInt = (k : Int) := by rw [e, iI_toInt (by omega)]
  have h2 : UNK.toInt = -1000000000 := by decide
  omega
/-- what is asked of another cell of the answers stays -/
theorem cch_put {T : TW} {s t : SS} {n x p : Nat} (hn : 1 ≤ n ∧ n ≤ 4) (hx : x < szR n) (hp : p < 4) (h : CCH T s) (h0 : s 27 10 = 0) (hb : t 27 10 = 0) (h33 : ∀ q, q ≠ 4 * (br n + x) + p → t 33 q = s 33 q) (h34 : ∀ q, q ≠ 4 * (br n + x) + p → t 34 q = s 34 q)
    (v33 : t 33 (4 * (br n + x) + p) = wth T n x p ∨ t 33 (4 * (br n + x) + p) = s 33 (4 * (br n + x) + p)) (v34 : t 34 (4 * (br n + x) + p) = may T n x p ∨ t 34 (4 * (br n + x) + p) = s 34 (4 * (br n + x) + p)) : CCH T t := by
  refine ⟨Or.inl hb, fun _ n2 x2 p2 hn2 hx2 hp2 => ?_⟩
  have g := h.2 h0 n2 x2 p2 hn2 hx2 hp2
  by_cases e : 4 * (br n2 + x2) + p2 = 4 * (br n + x) + p
  · have hnx : n2 = n ∧ x2 = x ∧ p2 = p := by
      have e1 : p2 = p := by omega
      have e2 : br n2 + x2 = br n + x := by omega
      unfold br szR at *
      obtain ⟨a1, a2⟩ := hn
      obtain ⟨b1, b2⟩ := hn2
      obtain rfl | rfl | rfl | rfl : n = 1 ∨ n = 2 ∨ n = 3 ∨ n = 4 := by omega
      all_goals obtain rfl | rfl | rfl | rfl : n2 = 1 ∨ n2 = 2 ∨ n2 = 3 ∨ n2 = 4 := by omega
      all_goals simp at *
      all_goals omega
    obtain ⟨rfl, rfl, rfl⟩ := hnx
    refine ⟨?_, ?_⟩
    · rcases v33 with q | q
      · exact Or.inr q
      · rw [q]; exact g.1
    · rcases v34 with q | q
      · exact Or.inr q
      · rw [q]; exact g.2
  · rw [h33 _ e, h34 _ e]
    exact g
/-- WORTH of a wall to a sort -/
theorem ct_worth {s : SS} {T : TW} {n x p : Nat} (hT : TOK T) (h : CT_ T s) (hn : 1 ≤ n ∧ n ≤ 4) (hx : x < szR n) (hp : p < 4) : ∃ t : SS, f_X10_worthOf (wl_ n x) (iI p) s = some (wth T n x p, t) ∧ CQ s t ∧ CT_ T t := by
  have hm := mny_le x
  have lp : ∀ m N i : Nat, ∀ (u : SS) (k : Int32 → SS → Res), i + m = mny x → m < N → CT_ T u → ∃ t : SS, lp_X10_worthOf_52 (wl_ n x) (iI p) (iI ((4 * (br n + x) + p : Nat) : Int)) (iI (mny x)) k N (wsm T n x p i) (iI i) u = k (wth T n x p) t ∧ CS u t := by
    intro m
    induction m with
    | zero =>
      intro N i u k hi hN hu
      cases N with
      | zero => omega
      | succ N =>
        obtain rfl : i = mny x := by omega
        refine ⟨u, ?_, CS.rf u⟩
        rw [lp_X10_worthOf_52]
        exact e_if_t (by simp (disch := omega) only [Int.toNat_natCast, iI_lt, iI_le, iI_eq, iI_add, iI_sub, iI_mul, iI_neg, iI_clamp, inb_ii]; omega) rfl
    | succ m ih =>
      intro N i u k hi hN hu
      cases N with
      | zero => omega
      | succ N =>
        obtain ⟨u1, u2, e1, e2, e3⟩ := ct_val (l := lwA x i) (i := i) (p := p) (c := 118) hu hn hx (lwA_lt x i) (Or.inl rfl)
        obtain ⟨t, e4, e5⟩ := ih N (i + 1) u2 k (by omega) (by omega) (e3.ct hu)
        refine ⟨t, ?_, e3.tr e5⟩
        rw [lp_X10_worthOf_52]
        refine e_if_f (by simp (disch := omega) only [Int.toNat_natCast, iI_lt, iI_le, iI_eq, iI_add, iI_sub, iI_mul, iI_neg, iI_clamp, inb_ii]; omega) ?_
        refine e_bdp (rw_lawOn hu.1 hn hx (by omega)) ?_
        refine e_bd e1 ?_
        refine e_bd e2 ?_
        refine e_lt ?_
        rw [z_1, iI_add]
        exact e4
  have hc := cell_in hn hx hp
  obtain ⟨s1, f1, f2, f3, f4⟩ := ct_freshen h
  have g := f3.2.2.2.2 f4 n x p hn hx hp
  have ci : inb (iI ((4 * (br n + x) + p : Nat) : Int)) 21392 := by simp (disch := omega) only [Int.toNat_natCast, iI_lt, iI_le, iI_eq, iI_add, iI_sub, iI_mul, iI_neg, iI_clamp, inb_ii]; omega
  have cl : Int32.toNatClampNeg (iI ((4 * (br n + x) + p : Nat) : Int)) = 4 * (br n + x) + p := by simp (disch := omega) only [Int.toNat_natCast, iI_lt, iI_le, iI_eq, iI_add, iI_sub, iI_mul, iI_neg, iI_clamp, inb_ii]
  have c1 : ¬ iI ((4 * (br n + x) + p : Nat) : Int) < 0 := by simp (disch := omega) only [Int.toNat_natCast, iI_lt, iI_le, iI_eq, iI_add, iI_sub, iI_mul, iI_neg, iI_clamp, inb_ii, z_0]; omega
  have c2 : iI ((4 * (br n + x) + p : Nat) : Int) < 21392 := by simp (disch := omega) only [Int.toNat_natCast, iI_lt, iI_le, iI_eq, iI_add, iI_sub, iI_mul, iI_neg, iI_clamp, inb_ii, z_21392]; omega
  have zs := rw_size f3.1 hn hx
  unfold f_X10_worthOf
  rw [cell_eq]
  by_cases q : s1 33 (4 * (br n + x) + p) = UNK
  · obtain ⟨t, e1, e2⟩ := lp (mny x) FU 0 s1 (fun v10 s11 => gd (inb (iI ((4 * (br n + x) + p : Nat) : Int)) 21392) (lts (up s11 33 (Int32.toNatClampNeg (iI ((4 * (br n + x) + p : Nat) : Int))) v10) (fun s13 => gd (inb (iI ((4 * (br n + x) + p : Nat) : Int)) 21392) (some (s13 33 (Int32.toNatClampNeg (iI ((4 * (br n + x) + p : Nat) : Int))), s13))))) (by omega) (fu_lt (by omega)) f3
    have q2 : s1 33 (Int32.toNatClampNeg (iI ((4 * (br n + x) + p : Nat) : Int))) = -1000000000 := by rw [cl]; exact q
    have ht := e2.ct f3
    have hqq : CQ t (upr t 33 (upd (t 33) (4 * (br n + x) + p) (wth T n x p))) := ⟨fun k a b c d e => upr_ne d, fun j _ => by rw [upr_ne (by omega)]⟩
    refine ⟨upr t 33 (upd (t 33) (4 * (br n + x) + p) (wth T n x p)), ?_, f2.tr (e2.q.tr hqq), hqq.ct ht ?_⟩
    · repeat (first
        | (with_reducible refine e_gd ?sd ?_; case sd => first | decide | exact ci)
        | with_reducible refine e_up ?_
        | with_reducible refine e_up0 ?_
        | with_reducible refine e_jn ?_
        | with_reducible refine e_lt ?_
        | with_reducible refine e_if_f (c1) ?_
        | with_reducible refine e_if_t (c2) ?_
        | with_reducible refine e_bd (f1) ?_
        | with_reducible refine e_if_t (q2) ?_
        | with_reducible refine e_bdp (zs) ?_)
      refine Eq.trans e1 ?_
      repeat (first
        | (with_reducible refine e_gd ?sd ?_; case sd => first | decide | exact ci)
        | with_reducible refine e_up ?_
        | with_reducible refine e_up0 ?_
        | with_reducible refine e_jn ?_
        | with_reducible refine e_lt ?_)
      rw [cl, upr_eq, upd_eq]
    · have z0 : t 27 10 = 0 := by rw [e2 27 (by omega) (by omega)]; exact f4
      exact cch_put hn hx hp ht.2.2.2 z0 (by rw [upr_ne (by omega)]; exact z0) (fun j hj => by rw [upr_eq, upd_ne hj]) (fun j hj => by rw [upr_ne (by omega)]) (Or.inl (by rw [upr_eq, upd_eq])) (Or.inr (by rw [upr_ne (by omega)]))
  · have q2 : ¬ s1 33 (Int32.toNatClampNeg (iI ((4 * (br n + x) + p : Nat) : Int))) = -1000000000 := by rw [cl]; exact q
    have gv : s1 33 (4 * (br n + x) + p) = wth T n x p := by
      rcases g.1 with z | z
      · exact absurd z q
      · exact z
    refine ⟨s1, ?_, f2, f3⟩
    repeat (first
      | (with_reducible refine e_gd ?sd ?_; case sd => first | decide | exact ci)
      | with_reducible refine e_up ?_
      | with_reducible refine e_up0 ?_
      | with_reducible refine e_jn ?_
      | with_reducible refine e_lt ?_
      | with_reducible refine e_if_f (c1) ?_
      | with_reducible refine e_if_t (c2) ?_
      | with_reducible refine e_bd (f1) ?_
      | with_reducible refine e_if_f (q2) ?_)
    rw [cl, gv]
/-- LAWS that a maker MAY make on a wall -/
theorem ct_may {s : SS} {T : TW} {n x p : Nat} (hT : TOK T) (h : CT_ T s) (hn : 1 ≤ n ∧ n ≤ 4) (hx : x < szR n) (hp : p < 4) : ∃ t : SS, f_X10_mayOf (wl_ n x) (iI p) s = some (may T n x p, t) ∧ CQ s t ∧ CT_ T t := by
  have hc := cell_in hn hx hp
  have h8 := hT.1
  obtain ⟨s1, f1, f2, f3, f4⟩ := ct_freshen h
  obtain ⟨O, o1, o2⟩ := ct_open hT.1 f3.1 f3.2.1 hn hx hp
  have lp : ∀ m N i : Nat, ∀ (u : SS) (k : Int32 → SS → Res), i + m = T.1 → m < N → CT_ T u → ∃ t : SS, lp_X10_mayOf_50 (wl_ n x) (iI p) (iI ((4 * (br n + x) + p : Nat) : Int)) O k N (mF T n x p i) (iI i) u = k (may T n x p) t ∧ CS u t := by
    intro m
    induction m with
    | zero =>
      intro N i u k hi hN hu
      cases N with
      | zero => omega
      | succ N =>
        obtain rfl : i = T.1 := by omega
        refine ⟨u, ?_, CS.rf u⟩
        rw [lp_X10_mayOf_50]
        refine e_if_t (by rw [hu.2.1.1]; simp (disch := omega) only [Int.toNat_natCast, iI_lt, iI_le, iI_eq, iI_add, iI_sub, iI_mul, iI_neg, iI_clamp, inb_ii]; omega) rfl
    | succ m ih =>
      intro N i u k hi hN hu
      cases N with
      | zero => omega
      | succ N =>
        have nx : iI (i : Int) + 1 = iI ((i + 1 : Nat) : Int) := by rw [z_1, iI_add]; rfl
        have cc : ¬ u 27 9 ≤ iI (i : Int) := by rw [hu.2.1.1]; simp (disch := omega) only [Int.toNat_natCast, iI_lt, iI_le, iI_eq, iI_add, iI_sub, iI_mul, iI_neg, iI_clamp, inb_ii]; omega
        have d1 : (((O >>> (iI (i : Int) &&& 31)) &&& 1 : Int32) = 1) = (opn T x p i 8 = true) := by
          rw [propext (has_bt (by omega)), o2 i (by omega)]
          have : i < T.1 := by omega
          simp [this]
        have un : mF T n x p (i + 1) = if opn T x p i 8 = true ∧ T.2.2 109 (fct T n x i 0 p) = 1 then mF T n x p i ||| sh1 i else mF T n x p i := rfl
        by_cases q1 : opn T x p i 8 = true
        · obtain ⟨u1, u2, e1, e2, e3⟩ := ct_val (l := i) (i := 0) (p := p) (c := 109) hu hn hx (by omega) (Or.inr rfl)
          obtain ⟨t, e4, e5⟩ := ih N (i + 1) u2 k (by omega) (by omega) (e3.ct hu)
          refine ⟨t, ?_, e3.tr e5⟩
          have ev : mF T n x p (i + 1) = mF T n x p i ||| (T.2.2 109 (fct T n x i 0 p) <<< (iI (i : Int) &&& 31)) := by
            rw [un]
            rcases hT.2.2 (fct T n x i 0 p) with z | z
            · rw [if_neg (by rw [z]; exact fun w => absurd w.2 (by decide)), z]
              have : (0 : Int32) <<< (iI (i : Int) &&& 31) = 0 := (by decide +kernel : ∀ i : Nat, i < 8 → (0 : Int32) <<< (iI (i : Int) &&& 31) = 0) i (by omega)
              rw [this]
              apply b_ext
              intro l hl
              rw [b_or, b_0, Bool.or_false]
            · rw [if_pos ⟨q1, z⟩, z]
              rfl
          have e1 : f_X10_describe (wl_ n x) (iI i) 0 (iI p) u = some (0, u1) := e1
          rw [lp_X10_mayOf_50]
          repeat (first
            | (with_reducible refine e_gd ?sd ?_; case sd => first | decide)
            | with_reducible refine e_up ?_
            | with_reducible refine e_up0 ?_
            | with_reducible refine e_jn ?_
            | with_reducible refine e_lt ?_
            | with_reducible refine e_if_f (cc) ?_
            | with_reducible refine e_if_t (d1.mpr q1) ?_
            | with_reducible refine e_bd (e1) ?_
            | with_reducible refine e_bd (e2) ?_)
          rw [nx, ← ev]
          exact e4
        · obtain ⟨t, e4, e5⟩ := ih N (i + 1) u k (by omega) (by omega) hu
          refine ⟨t, ?_, e5⟩
          have ev : mF T n x p (i + 1) = mF T n x p i := by rw [un, if_neg (fun w => q1 w.1)]
          rw [lp_X10_mayOf_50]
          repeat (first
            | (with_reducible refine e_gd ?sd ?_; case sd => first | decide)
            | with_reducible refine e_up ?_
            | with_reducible refine e_up0 ?_
            | with_reducible refine e_jn ?_
            | with_reducible refine e_lt ?_
            | with_reducible refine e_if_f (cc) ?_
            | with_reducible refine e_if_f (mt d1.mp q1) ?_)
          rw [nx, ← ev]
          exact e4
  have g := f3.2.2.2.2 f4 n x p hn hx hp
  have ci : inb (iI ((4 * (br n + x) + p : Nat) : Int)) 21392 := by simp (disch := omega) only [Int.toNat_natCast, iI_lt, iI_le, iI_eq, iI_add, iI_sub, iI_mul, iI_neg, iI_clamp, inb_ii]; omega
  have cl : Int32.toNatClampNeg (iI ((4 * (br n + x) + p : Nat) : Int)) = 4 * (br n + x) + p := by simp (disch := omega) only [Int.toNat_natCast, iI_lt, iI_le, iI_eq, iI_add, iI_sub, iI_mul, iI_neg, iI_clamp, inb_ii]
  have c1 : ¬ iI ((4 * (br n + x) + p : Nat) : Int) < 0 := by simp (disch := omega) only [Int.toNat_natCast, iI_lt, iI_le, iI_eq, iI_add, iI_sub, iI_mul, iI_neg, iI_clamp, inb_ii, z_0]; omega
  have c2 : iI ((4 * (br n + x) + p : Nat) : Int) < 21392 := by simp (disch := omega) only [Int.toNat_natCast, iI_lt, iI_le, iI_eq, iI_add, iI_sub, iI_mul, iI_neg, iI_clamp, inb_ii, z_21392]; omega
  unfold f_X10_mayOf
  rw [cell_eq]
  by_cases q : s1 34 (4 * (br n + x) + p) = UNK
  · obtain ⟨t, e1, e2⟩ := lp T.1 FU 0 s1 (fun v10 s11 => gd (inb (iI ((4 * (br n + x) + p : Nat) : Int)) 21392) (lts (up s11 34 (Int32.toNatClampNeg (iI ((4 * (br n + x) + p : Nat) : Int))) v10) (fun s13 => gd (inb (iI ((4 * (br n + x) + p : Nat) : Int)) 21392) (some (s13 34 (Int32.toNatClampNeg (iI ((4 * (br n + x) + p : Nat) : Int))), s13))))) (by omega) (fu_lt (by omega)) f3
    have q2 : s1 34 (Int32.toNatClampNeg (iI ((4 * (br n + x) + p : Nat) : Int))) = -1000000000 := by rw [cl]; exact q
    have ht := e2.ct f3
    have hqq : CQ t (upr t 34 (upd (t 34) (4 * (br n + x) + p) (may T n x p))) := ⟨fun k a b c d e => upr_ne e, fun j _ => by rw [upr_ne (by omega)]⟩
    refine ⟨upr t 34 (upd (t 34) (4 * (br n + x) + p) (may T n x p)), ?_, f2.tr (e2.q.tr hqq), hqq.ct ht ?_⟩
    · repeat (first
        | (with_reducible refine e_gd ?sd ?_; case sd => first | decide | exact ci)
        | with_reducible refine e_up ?_
        | with_reducible refine e_up0 ?_
        | with_reducible refine e_jn ?_
        | with_reducible refine e_lt ?_
        | with_reducible refine e_if_f (c1) ?_
        | with_reducible refine e_if_t (c2) ?_
        | with_reducible refine e_bd (f1) ?_
        | with_reducible refine e_if_t (q2) ?_
        | with_reducible refine e_bdp (o1) ?_)
      refine Eq.trans e1 ?_
      repeat (first
        | (with_reducible refine e_gd ?sd ?_; case sd => first | decide | exact ci)
        | with_reducible refine e_up ?_
        | with_reducible refine e_up0 ?_
        | with_reducible refine e_jn ?_
        | with_reducible refine e_lt ?_)
      rw [cl, upr_eq, upd_eq]
    · have z0 : t 27 10 = 0 := by rw [e2 27 (by omega) (by omega)]; exact f4
      exact cch_put hn hx hp ht.2.2.2 z0 (by rw [upr_ne (by omega)]; exact z0) (fun j hj => by rw [upr_ne (by omega)]) (fun j hj => by rw [upr_eq, upd_ne hj]) (Or.inr (by rw [upr_ne (by omega)])) (Or.inl (by rw [upr_eq, upd_eq]))
  · have q2 : ¬ s1 34 (Int32.toNatClampNeg (iI ((4 * (br n + x) + p : Nat) : Int))) = -1000000000 := by rw [cl]; exact q
    have gv : s1 34 (4 * (br n + x) + p) = may T n x p := by
      rcases g.2 with z | z
      · exact absurd z q
      · exact z
    refine ⟨s1, ?_, f2, f3⟩
    repeat (first
      | (with_reducible refine e_gd ?sd ?_; case sd => first | decide | exact ci)
      | with_reducible refine e_up ?_
      | with_reducible refine e_up0 ?_
      | with_reducible refine e_jn ?_
      | with_reducible refine e_lt ?_
      | with_reducible refine e_if_f (c1) ?_
      | with_reducible refine e_if_t (c2) ?_
      | with_reducible refine e_bd (f1) ?_
      | with_reducible refine e_if_f (q2) ?_)
    rw [cl, gv]
theorem ct_valOld {s : SS} {T : TW} {n x p : Nat} (h : CT_ T s) (hn : 1 ≤ n ∧ n ≤ 4) (hx : x < szR n) (h0 : 0 < mny x) : ∃ t : SS, f_X10_valueOfOldest (wl_ n x) (iI p) s = some (T.2.2 118 (fct T n x (old x) 0 p), t) ∧ CS s t := by
  have ho := (old_lt (sz_lt hn hx).2).2 (mny_pos h0)
  obtain ⟨u1, u2, e1, e2, e3⟩ := ct_val (l := old x) (i := 0) (p := p) (c := 118) h hn hx ho (Or.inl rfl)
  refine ⟨u2, ?_, e3⟩
  unfold f_X10_valueOfOldest
  refine e_bdp (rw_old h.1 hn hx) ?_
  refine e_bd e1 ?_
  exact e_bd e2 rfl
