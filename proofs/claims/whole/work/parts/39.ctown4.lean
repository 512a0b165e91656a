theorem ct_freshen {s : SS} {T : TW} (h : CT_ T s) : ∃ t : SS, f_X10_freshen s = some (0, t) ∧ CQ s t ∧ CT_ T t ∧ t 27 10 = 0 := by
  unfold f_X10_freshen
  by_cases q : s 27 10 = 0
  · exact ⟨s, e_if_t q rfl, CQ.rf s, h, q⟩
  · obtain ⟨R, r1, r2⟩ := fill_33 0 s
    obtain ⟨Q, q1, q2⟩ := fill_34 0 (upr s 33 R)
    let t : SS := upr (upr (upr s 33 R) 34 Q) 27 (upd (s 27) 10 0)
    have e33 : t 33 = R := rfl
    have e34 : t 34 = Q := rfl
    have e27 : t 27 = upd (s 27) 10 0 := rfl
    have hq : CQ s t := ⟨fun k a b c d e => by
      show upr (upr (upr s 33 _) 34 _) 27 _ k = s k
      rw [upr_ne b, upr_ne e, upr_ne d], fun j a => by rw [e27, upd_ne a]⟩
    refine ⟨t, ?_, hq, hq.ct h ⟨Or.inl (by rw [e27, upd_eq]), fun _ n x p hn hx hp => ?_⟩, by rw [e27, upd_eq]⟩
    · refine e_if_f q ?_
      refine e_bd r1 ?_
      refine e_bd q1 ?_
      rfl
    · have hb := (sz_lt hn hx).1
      exact ⟨Or.inl (gl_0 B16 (by omega) (by rw [e33]; exact r2 _ hb)), Or.inl (gl_0 B16 (by omega) (by rw [e34]; exact q2 _ hb))⟩
theorem wl_cl {n x : Nat} (hn : 1 ≤ n ∧ n ≤ 4) (hx : x < szR n) : Int32.toNatClampNeg (wl_ n x) = br n + x := rw_cl hn hx
theorem wl_in {n x : Nat} (hn : 1 ≤ n ∧ n ≤ 4) (hx : x < szR n) : inb (wl_ n x) 5348 := by
  have hb := (sz_lt hn hx).1
  unfold wl_
  simp (disch := omega) only [Int.toNat_natCast, iI_lt, iI_le, iI_eq, iI_add, iI_sub, iI_mul, iI_neg, iI_clamp, inb_ii]
  omega
theorem wl_c0 {n x : Nat} (hn : 1 ≤ n ∧ n ≤ 4) (hx : x < szR n) : ¬ wl_ n x < 0 := by
  have hb := (sz_lt hn hx).1
  unfold wl_
  simp (disch := omega) only [Int.toNat_natCast, iI_lt, iI_le, iI_eq, iI_add, iI_sub, iI_mul, iI_neg, iI_clamp, inb_ii, z_0]
  omega
theorem wl_c1 {n x : Nat} (hn : 1 ≤ n ∧ n ≤ 4) (hx : x < szR n) : ¬ (5348 : Int32) ≤ wl_ n x := by
  have hb := (sz_lt hn hx).1
  unfold wl_
  simp (disch := omega) only [Int.toNat_natCast, iI_lt, iI_le, iI_eq, iI_add, iI_sub, iI_mul, iI_neg, iI_clamp, inb_ii, z_5348]
  omega
theorem wl_c2 {n x : Nat} (hn : 1 ≤ n ∧ n ≤ 4) (hx : x < szR n) : wl_ n x < (5348 : Int32) := by
  have hb := (sz_lt hn hx).1
  unfold wl_
  simp (disch := omega) only [Int.toNat_natCast, iI_lt, iI_le, iI_eq, iI_add, iI_sub, iI_mul, iI_neg, iI_clamp, inb_ii, z_5348]
  omega
theorem gl_of {n x p k : Nat} {B : Int32} (hn : 1 ≤ n ∧ n ≤ 4) (hx : x < szR n) (s u : SS) : f_X11_slotOf (lgt (s k) (Int32.toNatClampNeg (wl_ n x))) (iI p) B u = some (gl B s k (br n + x) p) := by rw [wl_cl hn hx]; rfl
theorem cell_in {n x p : Nat} (hn : 1 ≤ n ∧ n ≤ 4) (hx : x < szR n) (hp : p < 4) : 4 * (br n + x) + p < 21392 := by
  have := (sz_lt hn hx).1
  omega
theorem cell_eq (n x p : Nat) : wl_ n x * 4 + iI p = iI ((4 * (br n + x) + p : Nat) : Int) := by
  unfold wl_
  rw [z_4, iI_mul, iI_add]
  congr 1
  omega
theorem unk_wth {T : TW} (hT : TOK T) (n x p : Nat) : ¬ wth T n x p = UNK := by
  intro h
  have := wth_in T hT n x p
  rw [h] at this
  exact absurd this (by decide)
theorem unk_may {T : TW} (hT : T.1 ≤ 8) (n x p : Nat) : ¬ may T n x p = UNK := by
  intro h
  obtain ⟨k, hk, e⟩ := may_small T hT n x p
  rw [h] at e
  have : (UNK).toInt = (k : Int) := by rw [e, iI_toInt (by omega)]
  have h2 : UNK.toInt = -1000000000 := by decide
  omega
theorem wth_some {T : TW} (hT : TOK T) (n x p : Nat) : ∃ z : Int, 600 ≤ z ∧ z ≤ 1400 ∧ wth T n x p + 1000 = iI z ∧ wth T n x p = iI (z - 1000) := by
  have h := wth_in T hT n x p
  generalize wth T n x p = a at h ⊢
  refine ⟨a.toInt + 1000, by omega, by omega, ?_, ?_⟩
  · conv => lhs; rw [iI_of a]
    rw [z_1000, iI_add]
  · conv => lhs; rw [iI_of a]
    congr 1
    omega
theorem may_some {T : TW} (hT : T.1 ≤ 8) (n x p : Nat) : ∃ z : Int, 1 ≤ z ∧ z ≤ 256 ∧ may T n x p + 1 = iI z ∧ may T n x p = iI (z - 1) := by
  obtain ⟨k, hk, e⟩ := may_small T hT n x p
  refine ⟨(k : Int) + 1, by omega, by omega, ?_, ?_⟩
  · rw [e, z_1, iI_add]
  · rw [e]
    congr 1
    omega
/-- where a wall stands tells its length and its row -/
theorem wall_inj {n x n2 x2 : Nat} (hn : 1 ≤ n ∧ n ≤ 4) (hx : x < szR n) (hn2 : 1 ≤ n2 ∧ n2 ≤ 4) (hx2 : x2 < szR n2) (e2 : br n2 + x2 = br n + x) : n2 = n ∧ x2 = x := by
  unfold br szR at *
  obtain ⟨a1, a2⟩ := hn
  obtain ⟨b1, b2⟩ := hn2
  obtain rfl | rfl | rfl | rfl : n = 1 ∨ n = 2 ∨ n = 3 ∨ n = 4 := by omega
  all_goals obtain rfl | rfl | rfl | rfl : n2 = 1 ∨ n2 = 2 ∨ n2 = 3 ∨ n2 = 4 := by omega
  all_goals simp at *
  all_goals omega
/-- what is asked of another cell of the answers stays -/
theorem cch_put {T : TW} {s t : SS} {n x p : Nat} (hn : 1 ≤ n ∧ n ≤ 4) (hx : x < szR n) (hp : p < 4) (h : CCH T s) (h0 : s 27 10 = 0) (hb : t 27 10 = 0) (h33 : ∀ w i, i < 4 → ¬ (w = br n + x ∧ i = p) → gl 16 t 33 w i = gl 16 s 33 w i) (h34 : ∀ w i, i < 4 → ¬ (w = br n + x ∧ i = p) → gl 16 t 34 w i = gl 16 s 34 w i)
    (v33 : gl 16 t 33 (br n + x) p = wth T n x p + 1000 ∨ gl 16 t 33 (br n + x) p = gl 16 s 33 (br n + x) p) (v34 : gl 16 t 34 (br n + x) p = may T n x p + 1 ∨ gl 16 t 34 (br n + x) p = gl 16 s 34 (br n + x) p) : CCH T t := by
  refine ⟨Or.inl hb, fun _ n2 x2 p2 hn2 hx2 hp2 => ?_⟩
  have g := h.2 h0 n2 x2 p2 hn2 hx2 hp2
  by_cases e : br n2 + x2 = br n + x ∧ p2 = p
  · obtain ⟨e2, rfl⟩ := e
    obtain ⟨rfl, rfl⟩ := wall_inj hn hx hn2 hx2 e2
    refine ⟨?_, ?_⟩
    · rcases v33 with q | q
      · exact Or.inr q
      · rw [q]; exact g.1
    · rcases v34 with q | q
      · exact Or.inr q
      · rw [q]; exact g.2
  · rw [h33 _ _ hp2 e, h34 _ _ hp2 e]
    exact g
theorem per_ok {s : SS} {m : Nat} (hm : m < 4) : f_X11_isPerson (iI m) s = some 1 := by
  unfold f_X11_isPerson
  repeat (first
    | (with_reducible refine e_gd ?sd ?_; case sd => first | decide | (first | omega | (simp (disch := omega) only [Int.toNat_natCast, iI_lt, iI_le, iI_eq, iI_add, iI_sub, iI_mul, iI_neg, iI_clamp, inb_ii, z_0, z_1, z_2, z_3, z_4, z_5, z_6, z_7, z_8, z_9, z_10, z_11, z_12, z_13, z_14, z_15, z_20, z_23, z_25, z_40, z_60, z_73, z_100, z_220, z_240, z_255, z_400, z_585, z_4681, z_5348, z_18724, z_21392, z_42784, z_60853, z_64176, z_65535, z_65536, z_168516, z_171136, z_m1, z_m2, z_m1000000, z_m1000000000, z_1000000000, z_25173, z_13849, z_1000, z_m1000, z_m100, z_200, z_32, z_88, z_118, z_109, z_16, z_10000, z_1000000]; omega) | (simp (disch := omega) only [Int.toNat_natCast, iI_lt, iI_le, iI_eq, iI_add, iI_sub, iI_mul, iI_neg, iI_clamp, inb_ii, z_0, z_1, z_2, z_3, z_4, z_5, z_6, z_7, z_8, z_9, z_10, z_11, z_12, z_13, z_14, z_15, z_20, z_23, z_25, z_40, z_60, z_73, z_100, z_220, z_240, z_255, z_400, z_585, z_4681, z_5348, z_18724, z_21392, z_42784, z_60853, z_64176, z_65535, z_65536, z_168516, z_171136, z_m1, z_m2, z_m1000000, z_m1000000000, z_1000000000, z_25173, z_13849, z_1000, z_m1000, z_m100, z_200, z_32, z_88, z_118, z_109, z_16, z_10000, z_1000000]; done)))
    | with_reducible refine e_up ?_
    | with_reducible refine e_up0 ?_
    | with_reducible refine e_upl ?_
    | with_reducible refine e_upl0 ?_
    | with_reducible refine e_jn ?_
    | with_reducible refine e_lt ?_
    | (with_reducible refine e_if_t ?sd ?_; case sd => first | omega | (simp (disch := omega) only [Int.toNat_natCast, iI_lt, iI_le, iI_eq, iI_add, iI_sub, iI_mul, iI_neg, iI_clamp, inb_ii, z_0, z_1, z_2, z_3, z_4, z_5, z_6, z_7, z_8, z_9, z_10, z_11, z_12, z_13, z_14, z_15, z_20, z_23, z_25, z_40, z_60, z_73, z_100, z_220, z_240, z_255, z_400, z_585, z_4681, z_5348, z_18724, z_21392, z_42784, z_60853, z_64176, z_65535, z_65536, z_168516, z_171136, z_m1, z_m2, z_m1000000, z_m1000000000, z_1000000000, z_25173, z_13849, z_1000, z_m1000, z_m100, z_200, z_32, z_88, z_118, z_109, z_16, z_10000, z_1000000]; omega) | (simp (disch := omega) only [Int.toNat_natCast, iI_lt, iI_le, iI_eq, iI_add, iI_sub, iI_mul, iI_neg, iI_clamp, inb_ii, z_0, z_1, z_2, z_3, z_4, z_5, z_6, z_7, z_8, z_9, z_10, z_11, z_12, z_13, z_14, z_15, z_20, z_23, z_25, z_40, z_60, z_73, z_100, z_220, z_240, z_255, z_400, z_585, z_4681, z_5348, z_18724, z_21392, z_42784, z_60853, z_64176, z_65535, z_65536, z_168516, z_171136, z_m1, z_m2, z_m1000000, z_m1000000000, z_1000000000, z_25173, z_13849, z_1000, z_m1000, z_m100, z_200, z_32, z_88, z_118, z_109, z_16, z_10000, z_1000000]; done))
    | (with_reducible refine e_if_f ?sd ?_; case sd => first | omega | (simp (disch := omega) only [Int.toNat_natCast, iI_lt, iI_le, iI_eq, iI_add, iI_sub, iI_mul, iI_neg, iI_clamp, inb_ii, z_0, z_1, z_2, z_3, z_4, z_5, z_6, z_7, z_8, z_9, z_10, z_11, z_12, z_13, z_14, z_15, z_20, z_23, z_25, z_40, z_60, z_73, z_100, z_220, z_240, z_255, z_400, z_585, z_4681, z_5348, z_18724, z_21392, z_42784, z_60853, z_64176, z_65535, z_65536, z_168516, z_171136, z_m1, z_m2, z_m1000000, z_m1000000000, z_1000000000, z_25173, z_13849, z_1000, z_m1000, z_m100, z_200, z_32, z_88, z_118, z_109, z_16, z_10000, z_1000000]; omega) | (simp (disch := omega) only [Int.toNat_natCast, iI_lt, iI_le, iI_eq, iI_add, iI_sub, iI_mul, iI_neg, iI_clamp, inb_ii, z_0, z_1, z_2, z_3, z_4, z_5, z_6, z_7, z_8, z_9, z_10, z_11, z_12, z_13, z_14, z_15, z_20, z_23, z_25, z_40, z_60, z_73, z_100, z_220, z_240, z_255, z_400, z_585, z_4681, z_5348, z_18724, z_21392, z_42784, z_60853, z_64176, z_65535, z_65536, z_168516, z_171136, z_m1, z_m2, z_m1000000, z_m1000000000, z_1000000000, z_25173, z_13849, z_1000, z_m1000, z_m100, z_200, z_32, z_88, z_118, z_109, z_16, z_10000, z_1000000]; done)))
  rfl
/-- WORTH of a wall to a sort -/
theorem ct_worth {s : SS} {T : TW} {n x p : Nat} (hT : TOK T) (h : CT_ T s) (hn : 1 ≤ n ∧ n ≤ 4) (hx : x < szR n) (hp : p < 4) : ∃ t : SS, f_X10_worthOf (wl_ n x) (iI p) s = some (wth T n x p, t) ∧ CQ s t ∧ CT_ T t := by
  have hm := mny_le x
  have lp : ∀ m N i : Nat, ∀ (u : SS) (k : Int32 → SS → Res), i + m = mny x → m < N → CT_ T u → ∃ t : SS, lp_X10_worthOf_65 (wl_ n x) (iI p) (iI (mny x)) k N (wsm T n x p i) (iI i) u = k (wth T n x p) t ∧ CS u t := by
    intro m
    induction m with
    | zero =>
      intro N i u k hi hN hu
      cases N with
      | zero => omega
      | succ N =>
        obtain rfl : i = mny x := by omega
        refine ⟨u, ?_, CS.rf u⟩
        rw [lp_X10_worthOf_65]
        exact e_if_t (by simp (disch := omega) only [Int.toNat_natCast, iI_lt, iI_le, iI_eq, iI_add, iI_sub, iI_mul, iI_neg, iI_clamp, inb_ii]; omega) rfl
    | succ m ih =>
      intro N i u k hi hN hu
      cases N with
      | zero => omega
      | succ N =>
        obtain ⟨u1, u2, e1, e2, e3⟩ := ct_val (l := lwA x i) (i := i) (p := p) (c := 118) hu hn hx (lwA_lt x i) (Or.inl rfl)
        obtain ⟨t, e4, e5⟩ := ih N (i + 1) u2 k (by omega) (by omega) (e3.ct hu)
        refine ⟨t, ?_, e3.tr e5⟩
        rw [lp_X10_worthOf_65]
        refine e_if_f (by simp (disch := omega) only [Int.toNat_natCast, iI_lt, iI_le, iI_eq, iI_add, iI_sub, iI_mul, iI_neg, iI_clamp, inb_ii]; omega) ?_
        refine e_bdp (rw_lawOn hu.1 hn hx (by omega)) ?_
        refine e_bd e1 ?_
        refine e_bd e2 ?_
        refine e_lt ?_
        rw [z_1, iI_add]
        exact e4
  obtain ⟨s1, f1, f2, f3, f4⟩ := ct_freshen h
  have g := f3.2.2.2.2 f4 n x p hn hx hp
  have ci := wl_in hn hx
  have c1 := wl_c0 hn hx
  have c2 := wl_c1 hn hx
  have zs := rw_size f3.1 hn hx
  have pk := per_ok (s := s) hp
  have c3 : ¬ (1 : Int32) = 0 := by decide
  have sk := gl_of (B := 16) (k := 33) (p := p) hn hx s1 s1
  obtain ⟨z, z1, z2, z3, z4⟩ := wth_some hT n x p
  unfold f_X10_worthOf
  by_cases q : gl 16 s1 33 (br n + x) p = 0
  · obtain ⟨t, e1, e2⟩ := lp (mny x) FU 0 s1 (fun v10 s11 => gd (inb (wl_ n x) 5348) (gd (inb (wl_ n x) 5348) (lts (upl s11 33 (Int32.toNatClampNeg (wl_ n x)) (wsl (lgt (s11 33) (Int32.toNatClampNeg (wl_ n x))) (iI p) 16 (v10 + 1000))) (fun s13 => some (v10, s13))))) (by omega) (fu_lt (by omega)) f3
    have ht := e2.ct f3
    have hq0 : gl 16 t 33 (br n + x) p = 0 := by rw [gl_cell (e2 33 (by omega) (by omega))]; exact q
    have hv : sml 16 (wth T n x p + 1000) := by rw [z3]; exact sml_of (by omega) (by omega)
    have hqq : CQ t (upr t 33 (lset (t 33) (br n + x) (wsl (lgt (t 33) (br n + x)) (iI p) 16 (wth T n x p + 1000)))) := ⟨fun k a b c d e => upr_ne d, fun j _ => by rw [upr_ne (by omega)]⟩
    refine ⟨upr t 33 (lset (t 33) (br n + x) (wsl (lgt (t 33) (br n + x)) (iI p) 16 (wth T n x p + 1000))), ?_, f2.tr (e2.q.tr hqq), hqq.ct ht ?_⟩
    · repeat (first
        | (with_reducible refine e_gd ?sd ?_; case sd => first | decide | exact ci)
        | with_reducible refine e_up ?_
        | with_reducible refine e_up0 ?_
        | with_reducible refine e_upl ?_
        | with_reducible refine e_upl0 ?_
        | with_reducible refine e_jn ?_
        | with_reducible refine e_lt ?_
        | with_reducible refine e_if_f (c1) ?_
        | with_reducible refine e_if_f (c2) ?_
        | with_reducible refine e_bdp (pk) ?_
        | with_reducible refine e_if_f (c3) ?_
        | with_reducible refine e_bd (f1) ?_
        | with_reducible refine e_bdp (sk) ?_
        | with_reducible refine e_if_t (q) ?_
        | with_reducible refine e_bdp (zs) ?_)
      refine Eq.trans e1 ?_
      repeat (first
        | (with_reducible refine e_gd ?sd ?_; case sd => first | decide | exact ci)
        | with_reducible refine e_up ?_
        | with_reducible refine e_up0 ?_
        | with_reducible refine e_upl ?_
        | with_reducible refine e_upl0 ?_
        | with_reducible refine e_jn ?_
        | with_reducible refine e_lt ?_)
      rw [wl_cl hn hx]
    · have z0 : t 27 10 = 0 := by rw [e2 27 (by omega) (by omega)]; exact f4
      exact cch_put hn hx hp ht.2.2.2 z0 (by rw [upr_ne (by omega)]; exact z0) (fun w i hi hne => gl_oth B16 (by omega) (by omega) hne hv) (fun w i hi hne => gl_cell (upr_ne (by omega))) (Or.inl (gl_put B16 (by omega) hq0 hv)) (Or.inr (gl_cell (upr_ne (by omega))))
  · have gv : gl 16 s1 33 (br n + x) p = wth T n x p + 1000 := by
      rcases g.1 with z | z
      · exact absurd z q
      · exact z
    refine ⟨s1, ?_, f2, f3⟩
    repeat (first
      | (with_reducible refine e_gd ?sd ?_; case sd => first | decide | exact ci)
      | with_reducible refine e_up ?_
      | with_reducible refine e_up0 ?_
      | with_reducible refine e_upl ?_
      | with_reducible refine e_upl0 ?_
      | with_reducible refine e_jn ?_
      | with_reducible refine e_lt ?_
      | with_reducible refine e_if_f (c1) ?_
      | with_reducible refine e_if_f (c2) ?_
      | with_reducible refine e_bdp (pk) ?_
      | with_reducible refine e_if_f (c3) ?_
      | with_reducible refine e_bd (f1) ?_
      | with_reducible refine e_bdp (sk) ?_
      | with_reducible refine e_if_f (q) ?_)
    rw [gv, z3, z_1000, iI_sub, ← z4]
/-- LAWS that a maker MAY make on a wall -/
theorem ct_may {s : SS} {T : TW} {n x p : Nat} (hT : TOK T) (h : CT_ T s) (hn : 1 ≤ n ∧ n ≤ 4) (hx : x < szR n) (hp : p < 4) : ∃ t : SS, f_X10_mayOf (wl_ n x) (iI p) s = some (may T n x p, t) ∧ CQ s t ∧ CT_ T t := by
  have h8 := hT.1
  obtain ⟨s1, f1, f2, f3, f4⟩ := ct_freshen h
  obtain ⟨O, o1, o2⟩ := ct_open hT.1 f3.1 f3.2.1 hn hx hp
  have lp : ∀ m N i : Nat, ∀ (u : SS) (k : Int32 → SS → Res), i + m = T.1 → m < N → CT_ T u → ∃ t : SS, lp_X10_mayOf_61 (wl_ n x) (iI p) O k N (mF T n x p i) (iI i) u = k (may T n x p) t ∧ CS u t := by
    intro m
    induction m with
    | zero =>
      intro N i u k hi hN hu
      cases N with
      | zero => omega
      | succ N =>
        obtain rfl : i = T.1 := by omega
        refine ⟨u, ?_, CS.rf u⟩
        rw [lp_X10_mayOf_61]
        refine e_if_t (by rw [hu.2.1.1]; simp (disch := omega) only [Int.toNat_natCast, iI_lt, iI_le, iI_eq, iI_add, iI_sub, iI_mul, iI_neg, iI_clamp, inb_ii]; omega) rfl
    | succ m ih =>
      intro N i u k hi hN hu
      cases N with
      | zero => omega
      | succ N =>
        have nx : iI (i : Int) + 1 = iI ((i + 1 : Nat) : Int) := by rw [z_1, iI_add]; rfl
        have cc : ¬ u 27 9 ≤ iI (i : Int) := by rw [hu.2.1.1]; simp (disch := omega) only [Int.toNat_natCast, iI_lt, iI_le, iI_eq, iI_add, iI_sub, iI_mul, iI_neg, iI_clamp, inb_ii]; omega
        have d1 : (((O >>> (iI (i : Int) &&& 31)) &&& 1 : Int32) = 1) = (opn T x p i 8 = true) := by
          rw [propext (has_bt (by omega)), o2 i (by omega)]
          have : i < T.1 := by omega
          simp [this]
        have un : mF T n x p (i + 1) = if opn T x p i 8 = true ∧ T.2.2 109 (fct T n x i 0 p) = 1 then mF T n x p i ||| sh1 i else mF T n x p i := rfl
        by_cases q1 : opn T x p i 8 = true
        · obtain ⟨u1, u2, e1, e2, e3⟩ := ct_val (l := i) (i := 0) (p := p) (c := 109) hu hn hx (by omega) (Or.inr rfl)
          obtain ⟨t, e4, e5⟩ := ih N (i + 1) u2 k (by omega) (by omega) (e3.ct hu)
          refine ⟨t, ?_, e3.tr e5⟩
          have ev : mF T n x p (i + 1) = mF T n x p i ||| (T.2.2 109 (fct T n x i 0 p) <<< (iI (i : Int) &&& 31)) := by
            rw [un]
            rcases hT.2.2 (fct T n x i 0 p) with z | z
            · rw [if_neg (by rw [z]; exact fun w => absurd w.2 (by decide)), z]
              have : (0 : Int32) <<< (iI (i : Int) &&& 31) = 0 := (by decide +kernel : ∀ i : Nat, i < 8 → (0 : Int32) <<< (iI (i : Int) &&& 31) = 0) i (by omega)
              rw [this]
              apply b_ext
              intro l hl
              rw [b_or, b_0, Bool.or_false]
            · rw [if_pos ⟨q1, z⟩, z]
              rfl
          have e1 : f_X10_describe (wl_ n x) (iI i) 0 (iI p) u = some (0, u1) := e1
          rw [lp_X10_mayOf_61]
          repeat (first
            | (with_reducible refine e_gd ?sd ?_; case sd => first | decide)
            | with_reducible refine e_up ?_
            | with_reducible refine e_up0 ?_
            | with_reducible refine e_upl ?_
            | with_reducible refine e_upl0 ?_
            | with_reducible refine e_jn ?_
            | with_reducible refine e_lt ?_
            | with_reducible refine e_if_f (cc) ?_
            | with_reducible refine e_if_t (d1.mpr q1) ?_
            | with_reducible refine e_bd (e1) ?_
            | with_reducible refine e_bd (e2) ?_)
          rw [nx, ← ev]
          exact e4
        · obtain ⟨t, e4, e5⟩ := ih N (i + 1) u k (by omega) (by omega) hu
          refine ⟨t, ?_, e5⟩
          have ev : mF T n x p (i + 1) = mF T n x p i := by rw [un, if_neg (fun w => q1 w.1)]
          rw [lp_X10_mayOf_61]
          repeat (first
            | (with_reducible refine e_gd ?sd ?_; case sd => first | decide)
            | with_reducible refine e_up ?_
            | with_reducible refine e_up0 ?_
            | with_reducible refine e_upl ?_
            | with_reducible refine e_upl0 ?_
            | with_reducible refine e_jn ?_
            | with_reducible refine e_lt ?_
            | with_reducible refine e_if_f (cc) ?_
            | with_reducible refine e_if_f (mt d1.mp q1) ?_)
          rw [nx, ← ev]
          exact e4
  have g := f3.2.2.2.2 f4 n x p hn hx hp
  have ci := wl_in hn hx
  have c1 := wl_c0 hn hx
  have c2 := wl_c1 hn hx
  have pk := per_ok (s := s) hp
  have c3 : ¬ (1 : Int32) = 0 := by decide
  have sk := gl_of (B := 16) (k := 34) (p := p) hn hx s1 s1
  obtain ⟨z, z1, z2, z3, z4⟩ := may_some hT.1 n x p
  unfold f_X10_mayOf
  by_cases q : gl 16 s1 34 (br n + x) p = 0
  · obtain ⟨t, e1, e2⟩ := lp T.1 FU 0 s1 (fun v10 s11 => gd (inb (wl_ n x) 5348) (gd (inb (wl_ n x) 5348) (lts (upl s11 34 (Int32.toNatClampNeg (wl_ n x)) (wsl (lgt (s11 34) (Int32.toNatClampNeg (wl_ n x))) (iI p) 16 (v10 + 1))) (fun s13 => some (v10, s13))))) (by omega) (fu_lt (by omega)) f3
    have ht := e2.ct f3
    have hq0 : gl 16 t 34 (br n + x) p = 0 := by rw [gl_cell (e2 34 (by omega) (by omega))]; exact q
    have hv : sml 16 (may T n x p + 1) := by rw [z3]; exact sml_of (by omega) (by omega)
    have hqq : CQ t (upr t 34 (lset (t 34) (br n + x) (wsl (lgt (t 34) (br n + x)) (iI p) 16 (may T n x p + 1)))) := ⟨fun k a b c d e => upr_ne e, fun j _ => by rw [upr_ne (by omega)]⟩
    refine ⟨upr t 34 (lset (t 34) (br n + x) (wsl (lgt (t 34) (br n + x)) (iI p) 16 (may T n x p + 1))), ?_, f2.tr (e2.q.tr hqq), hqq.ct ht ?_⟩
    · repeat (first
        | (with_reducible refine e_gd ?sd ?_; case sd => first | decide | exact ci)
        | with_reducible refine e_up ?_
        | with_reducible refine e_up0 ?_
        | with_reducible refine e_upl ?_
        | with_reducible refine e_upl0 ?_
        | with_reducible refine e_jn ?_
        | with_reducible refine e_lt ?_
        | with_reducible refine e_if_f (c1) ?_
        | with_reducible refine e_if_f (c2) ?_
        | with_reducible refine e_bdp (pk) ?_
        | with_reducible refine e_if_f (c3) ?_
        | with_reducible refine e_bd (f1) ?_
        | with_reducible refine e_bdp (sk) ?_
        | with_reducible refine e_if_t (q) ?_
        | with_reducible refine e_bdp (o1) ?_)
      refine Eq.trans e1 ?_
      repeat (first
        | (with_reducible refine e_gd ?sd ?_; case sd => first | decide | exact ci)
        | with_reducible refine e_up ?_
        | with_reducible refine e_up0 ?_
        | with_reducible refine e_upl ?_
        | with_reducible refine e_upl0 ?_
        | with_reducible refine e_jn ?_
        | with_reducible refine e_lt ?_)
      rw [wl_cl hn hx]
    · have z0 : t 27 10 = 0 := by rw [e2 27 (by omega) (by omega)]; exact f4
      exact cch_put hn hx hp ht.2.2.2 z0 (by rw [upr_ne (by omega)]; exact z0) (fun w i hi hne => gl_cell (upr_ne (by omega))) (fun w i hi hne => gl_oth B16 (by omega) (by omega) hne hv) (Or.inr (gl_cell (upr_ne (by omega)))) (Or.inl (gl_put B16 (by omega) hq0 hv))
  · have gv : gl 16 s1 34 (br n + x) p = may T n x p + 1 := by
      rcases g.2 with z | z
      · exact absurd z q
      · exact z
    refine ⟨s1, ?_, f2, f3⟩
    repeat (first
      | (with_reducible refine e_gd ?sd ?_; case sd => first | decide | exact ci)
      | with_reducible refine e_up ?_
      | with_reducible refine e_up0 ?_
      | with_reducible refine e_upl ?_
      | with_reducible refine e_upl0 ?_
      | with_reducible refine e_jn ?_
      | with_reducible refine e_lt ?_
      | with_reducible refine e_if_f (c1) ?_
      | with_reducible refine e_if_f (c2) ?_
      | with_reducible refine e_bdp (pk) ?_
      | with_reducible refine e_if_f (c3) ?_
      | with_reducible refine e_bd (f1) ?_
      | with_reducible refine e_bdp (sk) ?_
      | with_reducible refine e_if_f (q) ?_)
    rw [gv, z3, z_1, iI_sub, ← z4]
theorem ct_valOld {s : SS} {T : TW} {n x p : Nat} (h : CT_ T s) (hn : 1 ≤ n ∧ n ≤ 4) (hx : x < szR n) (h0 : 0 < mny x) : ∃ t : SS, f_X10_valueOfOldest (wl_ n x) (iI p) s = some (T.2.2 118 (fct T n x (old x) 0 p), t) ∧ CS s t := by
  have ho := (old_lt (sz_lt hn hx).2).2 (mny_pos h0)
  obtain ⟨u1, u2, e1, e2, e3⟩ := ct_val (l := old x) (i := 0) (p := p) (c := 118) h hn hx ho (Or.inl rfl)
  refine ⟨u2, ?_, e3⟩
  unfold f_X10_valueOfOldest
  refine e_bdp (rw_old h.1 hn hx) ?_
  refine e_bd e1 ?_
  exact e_bd e2 rfl
