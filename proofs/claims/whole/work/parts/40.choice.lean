/-! what a maker makes by its kind -/
def wnt (T : TW) (n x m : Nat) (v0 : Int32) : Nat → Nat × Int32
  | 0 => (8, v0)
  | l + 1 => if bt (may T n x m) l = true ∧ (wnt T n x m v0 l).2 < wth T n (bh n x l) m then (l, wth T n (bh n x l) m) else wnt T n x m v0 l
def cho (T : TW) (kd tl : Nat → Nat) (n x m : Nat) : Nat :=
  if kd m = 0 then 8 else if kd m = 4 then (if bt (may T n x m) (tl m) = true ∧ ¬ bt (stn x) (tl m) = true then tl m else 8)
  else if kd m = 1 then (wnt T n x m (wth T n x m) 8).1
  else if mny x = n then (if kd m = 2 then (if 0 < T.2.2 118 (fct T n x (old x) 0 m) ∧ bt (may T n x m) (old x) = true then old x else 8) else (if T.2.2 118 (fct T n x (old x) 0 m) < 0 then (wnt T n x m UNK 8).1 else 8))
  else 8
/-- kinds as they are: below 5, told laws below 8 -/
def KOK (kd tl : Nat → Nat) : Prop := ∀ m, m < 4 → kd m ≤ 4 ∧ (kd m = 4 → tl m < 8)
def CKD (kd tl : Nat → Nat) (s : SS) : Prop := ∀ m, m < 4 → s 36 m = iI (kd m) ∧ (kd m = 4 → s 37 m = iI (tl m))
theorem CQ.ck {kd tl : Nat → Nat} {s t : SS} (h : CQ s t) (g : CKD kd tl s) : CKD kd tl t := by
  intro m hm
  rw [h.1 36 (by omega) (by omega) (by omega) (by omega) (by omega), h.1 37 (by omega) (by omega) (by omega) (by omega) (by omega)]
  exact g m hm
theorem wnt_le (T : TW) (n x m : Nat) (v0 : Int32) : ∀ k, k ≤ 8 → (wnt T n x m v0 k).1 ≤ 8 := by
  intro k
  induction k with
  | zero => intro _; exact Nat.le_refl 8
  | succ k ih =>
    intro hk
    unfold wnt
    split
    · show k ≤ 8; omega
    · exact ih (by omega)
theorem cho_le (T : TW) (kd tl : Nat → Nat) (hk : KOK kd tl) {n x m : Nat} (hm : m < 4) (hx : x < 4681) : cho T kd tl n x m ≤ 8 := by
  have h1 := hk m hm
  have h2 := (old_lt hx).1
  unfold cho
  repeat' split
  all_goals first | omega | exact wnt_le T n x m _ 8 (Nat.le_refl 8) | skip
  all_goals (have := h1.2 (by assumption); omega)
theorem unk_lt {T : TW} (hT : TOK T) (n x p : Nat) : UNK < wth T n x p := by
  have := wth_in T hT n x p
  rw [Int32.lt_iff_toInt_lt]
  have h2 : UNK.toInt = -1000000000 := by decide
  omega
theorem wnt_unk {T : TW} (hT : TOK T) (n x m : Nat) {v0 : Int32} (h : UNK ≤ v0) : ∀ k, UNK ≤ (wnt T n x m v0 k).2 := by
  intro k
  induction k with
  | zero => exact h
  | succ k ih =>
    unfold wnt
    split
    · have := unk_lt hT n (bh n x k) m
      rw [Int32.lt_iff_toInt_lt] at this
      rw [Int32.le_iff_toInt_le]
      show UNK.toInt ≤ (wth T n (bh n x k) m).toInt
      omega
    · exact ih
theorem person_ok {s : SS} {m : Nat} (hm : m < 4) : f_X11_isPerson (iI m) s = some 1 := by
  unfold f_X11_isPerson
  repeat (first
    | (with_reducible refine e_gd ?sd ?_; case sd => first | decide | (first | omega | (simp (disch := omega) only [Int.toNat_natCast, iI_lt, iI_le, iI_eq, iI_add, iI_sub, iI_mul, iI_neg, iI_clamp, inb_ii, z_0, z_1, z_2, z_3, z_4, z_5, z_6, z_7, z_8, z_9, z_10, z_11, z_12, z_13, z_14, z_15, z_20, z_23, z_25, z_40, z_60, z_73, z_100, z_220, z_240, z_255, z_400, z_585, z_4681, z_5348, z_18724, z_21392, z_42784, z_60853, z_64176, z_65535, z_65536, z_168516, z_171136, z_m1, z_m2, z_m1000000, z_m1000000000, z_1000000000, z_25173, z_13849, z_1000, z_m1000, z_m100, z_200, z_32, z_88, z_118, z_109, z_16, z_10000, z_1000000]; omega) | (simp (disch := omega) only [Int.toNat_natCast, iI_lt, iI_le, iI_eq, iI_add, iI_sub, iI_mul, iI_neg, iI_clamp, inb_ii, z_0, z_1, z_2, z_3, z_4, z_5, z_6, z_7, z_8, z_9, z_10, z_11, z_12, z_13, z_14, z_15, z_20, z_23, z_25, z_40, z_60, z_73, z_100, z_220, z_240, z_255, z_400, z_585, z_4681, z_5348, z_18724, z_21392, z_42784, z_60853, z_64176, z_65535, z_65536, z_168516, z_171136, z_m1, z_m2, z_m1000000, z_m1000000000, z_1000000000, z_25173, z_13849, z_1000, z_m1000, z_m100, z_200, z_32, z_88, z_118, z_109, z_16, z_10000, z_1000000]; done)))
    | with_reducible refine e_up ?_
    | with_reducible refine e_up0 ?_
    | with_reducible refine e_upl ?_
    | with_reducible refine e_upl0 ?_
    | with_reducible refine e_jn ?_
    | with_reducible refine e_lt ?_
    | (with_reducible refine e_if_t ?sd ?_; case sd => first | omega | (simp (disch := omega) only [Int.toNat_natCast, iI_lt, iI_le, iI_eq, iI_add, iI_sub, iI_mul, iI_neg, iI_clamp, inb_ii, z_0, z_1, z_2, z_3, z_4, z_5, z_6, z_7, z_8, z_9, z_10, z_11, z_12, z_13, z_14, z_15, z_20, z_23, z_25, z_40, z_60, z_73, z_100, z_220, z_240, z_255, z_400, z_585, z_4681, z_5348, z_18724, z_21392, z_42784, z_60853, z_64176, z_65535, z_65536, z_168516, z_171136, z_m1, z_m2, z_m1000000, z_m1000000000, z_1000000000, z_25173, z_13849, z_1000, z_m1000, z_m100, z_200, z_32, z_88, z_118, z_109, z_16, z_10000, z_1000000]; omega) | (simp (disch := omega) only [Int.toNat_natCast, iI_lt, iI_le, iI_eq, iI_add, iI_sub, iI_mul, iI_neg, iI_clamp, inb_ii, z_0, z_1, z_2, z_3, z_4, z_5, z_6, z_7, z_8, z_9, z_10, z_11, z_12, z_13, z_14, z_15, z_20, z_23, z_25, z_40, z_60, z_73, z_100, z_220, z_240, z_255, z_400, z_585, z_4681, z_5348, z_18724, z_21392, z_42784, z_60853, z_64176, z_65535, z_65536, z_168516, z_171136, z_m1, z_m2, z_m1000000, z_m1000000000, z_1000000000, z_25173, z_13849, z_1000, z_m1000, z_m100, z_200, z_32, z_88, z_118, z_109, z_16, z_10000, z_1000000]; done))
    | (with_reducible refine e_if_f ?sd ?_; case sd => first | omega | (simp (disch := omega) only [Int.toNat_natCast, iI_lt, iI_le, iI_eq, iI_add, iI_sub, iI_mul, iI_neg, iI_clamp, inb_ii, z_0, z_1, z_2, z_3, z_4, z_5, z_6, z_7, z_8, z_9, z_10, z_11, z_12, z_13, z_14, z_15, z_20, z_23, z_25, z_40, z_60, z_73, z_100, z_220, z_240, z_255, z_400, z_585, z_4681, z_5348, z_18724, z_21392, z_42784, z_60853, z_64176, z_65535, z_65536, z_168516, z_171136, z_m1, z_m2, z_m1000000, z_m1000000000, z_1000000000, z_25173, z_13849, z_1000, z_m1000, z_m100, z_200, z_32, z_88, z_118, z_109, z_16, z_10000, z_1000000]; omega) | (simp (disch := omega) only [Int.toNat_natCast, iI_lt, iI_le, iI_eq, iI_add, iI_sub, iI_mul, iI_neg, iI_clamp, inb_ii, z_0, z_1, z_2, z_3, z_4, z_5, z_6, z_7, z_8, z_9, z_10, z_11, z_12, z_13, z_14, z_15, z_20, z_23, z_25, z_40, z_60, z_73, z_100, z_220, z_240, z_255, z_400, z_585, z_4681, z_5348, z_18724, z_21392, z_42784, z_60853, z_64176, z_65535, z_65536, z_168516, z_171136, z_m1, z_m2, z_m1000000, z_m1000000000, z_1000000000, z_25173, z_13849, z_1000, z_m1000, z_m100, z_200, z_32, z_88, z_118, z_109, z_16, z_10000, z_1000000]; done)))
  rfl
theorem ct_wnt {T : TW} (hT : TOK T) {n x m : Nat} (hn : 1 ≤ n ∧ n ≤ 4) (hx : x < szR n) (hm : m < 4) (v0 : Int32) (h0 : UNK ≤ v0) : ∀ (j N k : Nat) (s : SS), k + j = 8 → j < N → CT_ T s → ∃ t : SS, lp_X2_choice_193 (iI m) (wl_ n x) (may T n x m) N (iI (wnt T n x m v0 k).1) (wnt T n x m v0 k).2 (iI k) s = some (iI (wnt T n x m v0 8).1, t) ∧ CQ s t ∧ CT_ T t := by
  intro j
  induction j with
  | zero =>
    intro N k s hk hN hs
    cases N with
    | zero => omega
    | succ N =>
      obtain rfl : k = 8 := by omega
      refine ⟨s, ?_, CQ.rf s, hs⟩
      rw [lp_X2_choice_193]
      exact e_if_t (by simp (disch := omega) only [Int.toNat_natCast, iI_lt, iI_le, iI_eq, iI_add, iI_sub, iI_mul, iI_neg, iI_clamp, inb_ii, z_8]; omega) rfl
  | succ j ih =>
    intro N k s hk hN hs
    cases N with
    | zero => omega
    | succ N =>
      have c1 : ¬ (8 : Int32) ≤ iI (k : Int) := by simp (disch := omega) only [Int.toNat_natCast, iI_lt, iI_le, iI_eq, iI_add, iI_sub, iI_mul, iI_neg, iI_clamp, inb_ii, z_8]; omega
      have d1 : (((may T n x m >>> (iI (k : Int) &&& 31)) &&& 1 : Int32) = 1) = (bt (may T n x m) k = true) := propext (has_bt (by omega))
      have nx : iI (k : Int) + 1 = iI ((k + 1 : Nat) : Int) := by rw [z_1, iI_add]; rfl
      have un : wnt T n x m v0 (k + 1) = if bt (may T n x m) k = true ∧ (wnt T n x m v0 k).2 < wth T n (bh n x k) m then (k, wth T n (bh n x k) m) else wnt T n x m v0 k := rfl
      by_cases q1 : bt (may T n x m) k = true
      · obtain ⟨s1, e1, e2, e3⟩ := ct_worth (x := bh n x k) hT hs hn (bh_lt hn hx (by omega)) hm
        obtain ⟨t, e4, e5, e6⟩ := ih N (k + 1) s1 (by omega) (by omega) e3
        refine ⟨t, ?_, e2.tr e5, e6⟩
        have zb := rw_behind (l := k) hs.1 hn hx (by omega)
        rw [lp_X2_choice_193]
        by_cases q2 : wth T n (bh n x k) m ≤ (wnt T n x m v0 k).2
        · rw [if_neg (fun w => absurd q2 (Int32.not_le.mpr w.2))] at un
          repeat (first
            | (with_reducible refine e_gd ?sd ?_; case sd => first | decide)
            | with_reducible refine e_up ?_
            | with_reducible refine e_up0 ?_
            | with_reducible refine e_upl ?_
            | with_reducible refine e_upl0 ?_
            | with_reducible refine e_jn ?_
            | with_reducible refine e_lt ?_
            | with_reducible refine e_if_f (c1) ?_
            | with_reducible refine e_if_t (d1.mpr q1) ?_
            | with_reducible refine e_bdp (zb) ?_
            | with_reducible refine e_bd (e1) ?_
            | with_reducible refine e_if_t (q2) ?_)
          rw [nx, ← un]
          exact e4
        · rw [if_pos ⟨q1, Int32.not_le.mp q2⟩] at un
          rw [un] at e4
          repeat (first
            | (with_reducible refine e_gd ?sd ?_; case sd => first | decide)
            | with_reducible refine e_up ?_
            | with_reducible refine e_up0 ?_
            | with_reducible refine e_upl ?_
            | with_reducible refine e_upl0 ?_
            | with_reducible refine e_jn ?_
            | with_reducible refine e_lt ?_
            | with_reducible refine e_if_f (c1) ?_
            | with_reducible refine e_if_t (d1.mpr q1) ?_
            | with_reducible refine e_bdp (zb) ?_
            | with_reducible refine e_bd (e1) ?_
            | with_reducible refine e_if_f (q2) ?_)
          rw [nx]
          exact e4
      · rw [if_neg (fun w => q1 w.1)] at un
        obtain ⟨t, e4, e5, e6⟩ := ih N (k + 1) s (by omega) (by omega) hs
        refine ⟨t, ?_, e5, e6⟩
        have q2 : (-1000000000 : Int32) ≤ (wnt T n x m v0 k).2 := wnt_unk hT n x m h0 k
        rw [lp_X2_choice_193]
        repeat (first
          | (with_reducible refine e_gd ?sd ?_; case sd => first | decide)
          | with_reducible refine e_up ?_
          | with_reducible refine e_up0 ?_
          | with_reducible refine e_upl ?_
          | with_reducible refine e_upl0 ?_
          | with_reducible refine e_jn ?_
          | with_reducible refine e_lt ?_
          | with_reducible refine e_if_f (c1) ?_
          | with_reducible refine e_if_f (mt d1.mp q1) ?_
          | with_reducible refine e_if_t (q2) ?_)
        rw [nx, ← un]
        exact e4
theorem and7 : ∀ l : Nat, l < 8 → (iI (l : Int) &&& 7) = iI (l : Int) := by decide +kernel
theorem ct_choice {T : TW} (hT : TOK T) {kd tl : Nat → Nat} (hk : KOK kd tl) {n x m : Nat} {s : SS} (hs : CT_ T s) (hc : CKD kd tl s) (hn : 1 ≤ n ∧ n ≤ 4) (hx : x < szR n) (hm : m < 4) : ∃ t : SS, f_X2_choice (iI m) (wl_ n x) s = some (iI (cho T kd tl n x m), t) ∧ CQ s t ∧ CT_ T t := by
  have k1 := hk m hm
  have c1 := hc m hm
  have cl : Int32.toNatClampNeg (iI (m : Int)) = m := by simp (disch := omega) only [Int.toNat_natCast, iI_lt, iI_le, iI_eq, iI_add, iI_sub, iI_mul, iI_neg, iI_clamp, inb_ii]
  have ci : inb (iI (m : Int)) 4 := by simp (disch := omega) only [Int.toNat_natCast, iI_lt, iI_le, iI_eq, iI_add, iI_sub, iI_mul, iI_neg, iI_clamp, inb_ii]; omega
  have zp := person_ok (s := s) hm
  have n1 : ¬ (1 : Int32) = 0 := by decide
  have hol := old_lt (sz_lt hn hx).2
  unfold f_X2_choice
  by_cases q0 : kd m = 0
  · refine ⟨s, ?_, CQ.rf s, hs⟩
    have r : cho T kd tl n x m = 8 := by unfold cho; rw [if_pos q0]
    have a1 : s 36 (Int32.toNatClampNeg (iI (m : Int))) = 0 := by rw [cl, c1.1, q0]; rfl
    repeat (first
      | (with_reducible refine e_gd ?sd ?_; case sd => first | decide | exact ci)
      | with_reducible refine e_up ?_
      | with_reducible refine e_up0 ?_
      | with_reducible refine e_upl ?_
      | with_reducible refine e_upl0 ?_
      | with_reducible refine e_jn ?_
      | with_reducible refine e_lt ?_
      | with_reducible refine e_bdp (zp) ?_
      | with_reducible refine e_if_f (n1) ?_
      | with_reducible refine e_if_t (a1) ?_)
    rw [r]
    rfl
  · obtain ⟨s1, e1, e2, e3⟩ := ct_may (n := n) (x := x) (p := m) hT hs hn hx hm
    have a1 : ∀ j : Nat, j ≤ 4 → (s 36 (Int32.toNatClampNeg (iI (m : Int))) = iI (j : Int)) = (kd m = j) := fun j hj => by rw [cl, c1.1]; exact propext ((iI_eq (by omega) (by omega)).trans (by omega))
    have b0 : ¬ s 36 (Int32.toNatClampNeg (iI (m : Int))) = 0 := mt (a1 0 (by omega)).mp q0
    have zst := rw_stand e3.1 hn hx
    by_cases q4 : kd m = 4
    · have b4 : s 36 (Int32.toNatClampNeg (iI (m : Int))) = 4 := (a1 4 (by omega)).mpr q4
      have ht := k1.2 q4
      have et : s1 37 (Int32.toNatClampNeg (iI (m : Int))) &&& 7 = iI (tl m) := by
        rw [cl, e2.1 37 (by omega) (by omega) (by omega) (by omega) (by omega), c1.2 q4, and7 _ ht]
      have dd : ((((may T n x m &&& (stn x ^^^ (-1))) >>> ((s1 37 (Int32.toNatClampNeg (iI (m : Int))) &&& 7) &&& 31)) &&& 1 : Int32) = 1) = (bt (may T n x m) (tl m) = true ∧ ¬ bt (stn x) (tl m) = true) := by
        rw [et, propext (has_bt (by omega)), b_and, b_xor, b_m1 _ (by omega)]
        cases bt (may T n x m) (tl m) <;> cases bt (stn x) (tl m) <;> simp
      have r : cho T kd tl n x m = if bt (may T n x m) (tl m) = true ∧ ¬ bt (stn x) (tl m) = true then tl m else 8 := by unfold cho; rw [if_neg q0, if_pos q4]
      refine ⟨s1, ?_, e2, e3⟩
      by_cases q : bt (may T n x m) (tl m) = true ∧ ¬ bt (stn x) (tl m) = true
      · rw [if_pos q] at r
        repeat (first
          | (with_reducible refine e_gd ?sd ?_; case sd => first | decide | exact ci)
          | with_reducible refine e_up ?_
          | with_reducible refine e_up0 ?_
          | with_reducible refine e_upl ?_
          | with_reducible refine e_upl0 ?_
          | with_reducible refine e_jn ?_
          | with_reducible refine e_lt ?_
          | with_reducible refine e_bdp (zp) ?_
          | with_reducible refine e_if_f (n1) ?_
          | with_reducible refine e_if_f (b0) ?_
          | with_reducible refine e_bd (e1) ?_
          | with_reducible refine e_if_t (b4) ?_
          | with_reducible refine e_bdp (zst) ?_
          | with_reducible refine e_if_t (dd.mpr q) ?_)
        rw [r, et]
      · rw [if_neg q] at r
        repeat (first
          | (with_reducible refine e_gd ?sd ?_; case sd => first | decide | exact ci)
          | with_reducible refine e_up ?_
          | with_reducible refine e_up0 ?_
          | with_reducible refine e_upl ?_
          | with_reducible refine e_upl0 ?_
          | with_reducible refine e_jn ?_
          | with_reducible refine e_lt ?_
          | with_reducible refine e_bdp (zp) ?_
          | with_reducible refine e_if_f (n1) ?_
          | with_reducible refine e_if_f (b0) ?_
          | with_reducible refine e_bd (e1) ?_
          | with_reducible refine e_if_t (b4) ?_
          | with_reducible refine e_bdp (zst) ?_
          | with_reducible refine e_if_f (mt dd.mp q) ?_)
        rw [r]
        rfl
    · have b4 : ¬ s 36 (Int32.toNatClampNeg (iI (m : Int))) = 4 := mt (a1 4 (by omega)).mp q4
      by_cases q1 : kd m = 1
      · have b1 : s 36 (Int32.toNatClampNeg (iI (m : Int))) = 1 := (a1 1 (by omega)).mpr q1
        have b2 : ¬ s 36 (Int32.toNatClampNeg (iI (m : Int))) = 2 := mt (a1 2 (by omega)).mp (by omega)
        have b3 : ¬ s 36 (Int32.toNatClampNeg (iI (m : Int))) = 3 := mt (a1 3 (by omega)).mp (by omega)
        obtain ⟨s2, f1, f2, f3⟩ := ct_worth hT e3 hn hx hm
        obtain ⟨t, g1, g2, g3⟩ := ct_wnt hT hn hx hm (wth T n x m) (Int32.le_of_lt (unk_lt hT n x m)) 8 FU 0 s2 rfl (fu_lt (by omega)) f3
        refine ⟨t, ?_, e2.tr (f2.tr g2), g3⟩
        have r : cho T kd tl n x m = (wnt T n x m (wth T n x m) 8).1 := by unfold cho; rw [if_neg q0, if_neg q4, if_pos q1]
        repeat (first
          | (with_reducible refine e_gd ?sd ?_; case sd => first | decide | exact ci)
          | with_reducible refine e_up ?_
          | with_reducible refine e_up0 ?_
          | with_reducible refine e_upl ?_
          | with_reducible refine e_upl0 ?_
          | with_reducible refine e_jn ?_
          | with_reducible refine e_lt ?_
          | with_reducible refine e_bdp (zp) ?_
          | with_reducible refine e_if_f (n1) ?_
          | with_reducible refine e_if_f (b0) ?_
          | with_reducible refine e_bd (e1) ?_
          | with_reducible refine e_if_f (b4) ?_
          | with_reducible refine e_if_f (b2) ?_
          | with_reducible refine e_if_f (b3) ?_
          | with_reducible refine e_if_t (b1) ?_
          | with_reducible refine e_bd (f1) ?_)
        rw [r]
        exact g1
      · have b1 : ¬ s 36 (Int32.toNatClampNeg (iI (m : Int))) = 1 := mt (a1 1 (by omega)).mp q1
        have zf := rw_full e3.1 hn hx
        have r : cho T kd tl n x m = if mny x = n then (if kd m = 2 then (if 0 < T.2.2 118 (fct T n x (old x) 0 m) ∧ bt (may T n x m) (old x) = true then old x else 8) else (if T.2.2 118 (fct T n x (old x) 0 m) < 0 then (wnt T n x m UNK 8).1 else 8)) else 8 := by unfold cho; rw [if_neg q0, if_neg q4, if_neg q1]
        by_cases qf : mny x = n
        · rw [if_pos qf] at r zf
          obtain ⟨s2, f1, f2⟩ := ct_valOld (p := m) e3 hn hx (by omega)
          have f3 := f2.ct e3
          have zo := rw_old f3.1 hn hx
          have dd : (((may T n x m >>> (iI (old x : Int) &&& 31)) &&& 1 : Int32) = 1) = (bt (may T n x m) (old x) = true) := propext (has_bt (by omega))
          by_cases q2 : kd m = 2
          · have b2 : s 36 (Int32.toNatClampNeg (iI (m : Int))) = 2 := (a1 2 (by omega)).mpr q2
            rw [if_pos q2] at r
            refine ⟨s2, ?_, e2.tr f2.q, f3⟩
            by_cases v1 : T.2.2 118 (fct T n x (old x) 0 m) ≤ 0
            · rw [if_neg (fun w => absurd v1 (Int32.not_le.mpr w.1))] at r
              repeat (first
                | (with_reducible refine e_gd ?sd ?_; case sd => first | decide | exact ci)
                | with_reducible refine e_up ?_
                | with_reducible refine e_up0 ?_
                | with_reducible refine e_upl ?_
                | with_reducible refine e_upl0 ?_
                | with_reducible refine e_jn ?_
                | with_reducible refine e_lt ?_
                | with_reducible refine e_bdp (zp) ?_
                | with_reducible refine e_if_f (n1) ?_
                | with_reducible refine e_if_f (b0) ?_
                | with_reducible refine e_bd (e1) ?_
                | with_reducible refine e_if_f (b4) ?_
                | with_reducible refine e_if_t (b2) ?_
                | with_reducible refine e_bdp (zf) ?_
                | with_reducible refine e_bd (f1) ?_
                | with_reducible refine e_bdp (zo) ?_
                | with_reducible refine e_if_t (v1) ?_)
              rw [r]
              rfl
            · by_cases v2 : bt (may T n x m) (old x) = true
              · rw [if_pos ⟨Int32.not_le.mp v1, v2⟩] at r
                repeat (first
                  | (with_reducible refine e_gd ?sd ?_; case sd => first | decide | exact ci)
                  | with_reducible refine e_up ?_
                  | with_reducible refine e_up0 ?_
                  | with_reducible refine e_upl ?_
                  | with_reducible refine e_upl0 ?_
                  | with_reducible refine e_jn ?_
                  | with_reducible refine e_lt ?_
                  | with_reducible refine e_bdp (zp) ?_
                  | with_reducible refine e_if_f (n1) ?_
                  | with_reducible refine e_if_f (b0) ?_
                  | with_reducible refine e_bd (e1) ?_
                  | with_reducible refine e_if_f (b4) ?_
                  | with_reducible refine e_if_t (b2) ?_
                  | with_reducible refine e_bdp (zf) ?_
                  | with_reducible refine e_bd (f1) ?_
                  | with_reducible refine e_bdp (zo) ?_
                  | with_reducible refine e_if_f (v1) ?_
                  | with_reducible refine e_if_t (dd.mpr v2) ?_)
                rw [r]
              · rw [if_neg (fun w => v2 w.2)] at r
                repeat (first
                  | (with_reducible refine e_gd ?sd ?_; case sd => first | decide | exact ci)
                  | with_reducible refine e_up ?_
                  | with_reducible refine e_up0 ?_
                  | with_reducible refine e_upl ?_
                  | with_reducible refine e_upl0 ?_
                  | with_reducible refine e_jn ?_
                  | with_reducible refine e_lt ?_
                  | with_reducible refine e_bdp (zp) ?_
                  | with_reducible refine e_if_f (n1) ?_
                  | with_reducible refine e_if_f (b0) ?_
                  | with_reducible refine e_bd (e1) ?_
                  | with_reducible refine e_if_f (b4) ?_
                  | with_reducible refine e_if_t (b2) ?_
                  | with_reducible refine e_bdp (zf) ?_
                  | with_reducible refine e_bd (f1) ?_
                  | with_reducible refine e_bdp (zo) ?_
                  | with_reducible refine e_if_f (v1) ?_
                  | with_reducible refine e_if_f (mt dd.mp v2) ?_)
                rw [r]
                rfl
          · have b2 : ¬ s 36 (Int32.toNatClampNeg (iI (m : Int))) = 2 := mt (a1 2 (by omega)).mp q2
            have b3 : s 36 (Int32.toNatClampNeg (iI (m : Int))) = 3 := (a1 3 (by omega)).mpr (by omega)
            rw [if_neg q2] at r
            by_cases v1 : T.2.2 118 (fct T n x (old x) 0 m) < 0
            · rw [if_pos v1] at r
              obtain ⟨t, g1, g2, g3⟩ := ct_wnt hT hn hx hm UNK (Int32.le_refl UNK) 8 FU 0 s2 rfl (fu_lt (by omega)) f3
              refine ⟨t, ?_, e2.tr (f2.q.tr g2), g3⟩
              repeat (first
                | (with_reducible refine e_gd ?sd ?_; case sd => first | decide | exact ci)
                | with_reducible refine e_up ?_
                | with_reducible refine e_up0 ?_
                | with_reducible refine e_upl ?_
                | with_reducible refine e_upl0 ?_
                | with_reducible refine e_jn ?_
                | with_reducible refine e_lt ?_
                | with_reducible refine e_bdp (zp) ?_
                | with_reducible refine e_if_f (n1) ?_
                | with_reducible refine e_if_f (b0) ?_
                | with_reducible refine e_bd (e1) ?_
                | with_reducible refine e_if_f (b4) ?_
                | with_reducible refine e_if_f (b2) ?_
                | with_reducible refine e_if_t (b3) ?_
                | with_reducible refine e_bdp (zf) ?_
                | with_reducible refine e_bd (f1) ?_
                | with_reducible refine e_bdp (zo) ?_
                | with_reducible refine e_if_t (v1) ?_
                | with_reducible refine e_if_f (b1) ?_)
              rw [r]
              exact g1
            · rw [if_neg v1] at r
              refine ⟨s2, ?_, e2.tr f2.q, f3⟩
              repeat (first
                | (with_reducible refine e_gd ?sd ?_; case sd => first | decide | exact ci)
                | with_reducible refine e_up ?_
                | with_reducible refine e_up0 ?_
                | with_reducible refine e_upl ?_
                | with_reducible refine e_upl0 ?_
                | with_reducible refine e_jn ?_
                | with_reducible refine e_lt ?_
                | with_reducible refine e_bdp (zp) ?_
                | with_reducible refine e_if_f (n1) ?_
                | with_reducible refine e_if_f (b0) ?_
                | with_reducible refine e_bd (e1) ?_
                | with_reducible refine e_if_f (b4) ?_
                | with_reducible refine e_if_f (b2) ?_
                | with_reducible refine e_if_t (b3) ?_
                | with_reducible refine e_bdp (zf) ?_
                | with_reducible refine e_bd (f1) ?_
                | with_reducible refine e_bdp (zo) ?_
                | with_reducible refine e_if_f (v1) ?_)
              rw [r]
              rfl
        · rw [if_neg qf] at r zf
          have zo := rw_old e3.1 hn hx
          refine ⟨s1, ?_, e2, e3⟩
          have u1 : (0 : Int32) ≤ 0 := by decide
          have u2 : ¬ (0 : Int32) < 0 := by decide
          have u3 : (0 : Int32) = 0 := rfl
          by_cases q2 : kd m = 2
          · have b2 : s 36 (Int32.toNatClampNeg (iI (m : Int))) = 2 := (a1 2 (by omega)).mpr q2
            repeat (first
              | (with_reducible refine e_gd ?sd ?_; case sd => first | decide | exact ci)
              | with_reducible refine e_up ?_
              | with_reducible refine e_up0 ?_
              | with_reducible refine e_upl ?_
              | with_reducible refine e_upl0 ?_
              | with_reducible refine e_jn ?_
              | with_reducible refine e_lt ?_
              | with_reducible refine e_bdp (zp) ?_
              | with_reducible refine e_if_f (n1) ?_
              | with_reducible refine e_if_f (b0) ?_
              | with_reducible refine e_bd (e1) ?_
              | with_reducible refine e_if_f (b4) ?_
              | with_reducible refine e_if_t (b2) ?_
              | with_reducible refine e_bdp (zf) ?_
              | with_reducible refine e_if_t (u3) ?_
              | with_reducible refine e_bdp (zo) ?_
              | with_reducible refine e_if_t (u1) ?_)
            rw [r]
            rfl
          · have b2 : ¬ s 36 (Int32.toNatClampNeg (iI (m : Int))) = 2 := mt (a1 2 (by omega)).mp q2
            have b3 : s 36 (Int32.toNatClampNeg (iI (m : Int))) = 3 := (a1 3 (by omega)).mpr (by omega)
            repeat (first
              | (with_reducible refine e_gd ?sd ?_; case sd => first | decide | exact ci)
              | with_reducible refine e_up ?_
              | with_reducible refine e_up0 ?_
              | with_reducible refine e_upl ?_
              | with_reducible refine e_upl0 ?_
              | with_reducible refine e_jn ?_
              | with_reducible refine e_lt ?_
              | with_reducible refine e_bdp (zp) ?_
              | with_reducible refine e_if_f (n1) ?_
              | with_reducible refine e_if_f (b0) ?_
              | with_reducible refine e_bd (e1) ?_
              | with_reducible refine e_if_f (b4) ?_
              | with_reducible refine e_if_f (b2) ?_
              | with_reducible refine e_if_t (b3) ?_
              | with_reducible refine e_bdp (zf) ?_
              | with_reducible refine e_if_t (u3) ?_
              | with_reducible refine e_bdp (zo) ?_
              | with_reducible refine e_if_f (u2) ?_)
            rw [r]
            rfl
