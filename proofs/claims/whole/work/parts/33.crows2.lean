theorem fu_lt {n : Nat} (h : n < 1000000000) : n < FU := by rw [fu_eq]; exact h
theorem anc_lt : ∀ (j x : Nat), x < 4681 → anc j x < 4681 := by
  intro j
  induction j with
  | zero => intro x h; exact h
  | succ j ih => intro x h; exact ih _ (by omega)
theorem anc_pos : ∀ (j x : Nat), x < 4681 → j < mny x → 0 < anc j x := by
  intro j
  induction j with
  | zero =>
    intro x h hj
    show 0 < x
    by_cases q : x < 1
    · rw [mny_0 q] at hj; omega
    · omega
  | succ j ih =>
    intro x h hj
    have h0 : 0 < x := by
      by_cases q : x < 1
      · rw [mny_0 q] at hj; omega
      · omega
    have := mny_up h0 h
    exact ih _ (by omega) (by omega)
theorem lp_lawOn {s : SS} {k : Int32 → Option Int32} (i : Nat) (hi : i < 10) : ∀ (j n row : Nat), j < 5 → j < n → row < 4681 → j ≤ mny row → lp_X6_lawOn_34 (iI i) s k n (iI row) (iI ((i + j : Nat) : Int)) = k (iI (anc j row)) := by
  intro j
  induction j with
  | zero =>
    intro n row _ hn hr _
    cases n with
    | zero => omega
    | succ n =>
      rw [lp_X6_lawOn_34]
      simp (disch := omega) only [jn, lt, lts, bd_s, bdp_s, bd_n, bdp_n, gd, Int.toNat_natCast, iI_lt, iI_le, iI_eq, iI_add, iI_sub, iI_mul, iI_neg, iI_clamp, inb_ii, z_0, z_1, z_2, z_3, z_4, z_5, z_6, z_7, z_8, z_9, z_10, z_11, z_12, z_13, z_14, z_15, z_20, z_23, z_25, z_40, z_60, z_73, z_100, z_220, z_240, z_255, z_400, z_585, z_4681, z_5348, z_18724, z_21392, z_42784, z_60853, z_64176, z_65535, z_65536, z_168516, z_171136, z_m1, z_m2, z_m1000000, z_m1000000000, z_1000000000, z_25173, z_13849, z_1000, z_m1000, z_m100, z_200, z_32, z_88, z_118, z_109, z_16, z_10000, z_1000000, if_pos, if_neg]
      rfl
  | succ j ih =>
    intro n row hj hn hr hm
    cases n with
    | zero => omega
    | succ n =>
      have h0 : 0 < row := anc_pos 0 row hr (by omega)
      have hu := mny_up h0 hr
      have := ih n ((row - 1) / 8) (by omega) (by omega) (by omega) (by omega)
      rw [lp_X6_lawOn_34]
      simp (disch := omega) only [jn, lt, lts, bd_s, bdp_s, bd_n, bdp_n, gd, Int.toNat_natCast, iI_lt, iI_le, iI_eq, iI_add, iI_sub, iI_mul, iI_neg, iI_clamp, inb_ii, z_0, z_1, z_2, z_3, z_4, z_5, z_6, z_7, z_8, z_9, z_10, z_11, z_12, z_13, z_14, z_15, z_20, z_23, z_25, z_40, z_60, z_73, z_100, z_220, z_240, z_255, z_400, z_585, z_4681, z_5348, z_18724, z_21392, z_42784, z_60853, z_64176, z_65535, z_65536, z_168516, z_171136, z_m1, z_m2, z_m1000000, z_m1000000000, z_1000000000, z_25173, z_13849, z_1000, z_m1000, z_m100, z_200, z_32, z_88, z_118, z_109, z_16, z_10000, z_1000000, if_pos, if_neg, iI_div]
      show _ = k (iI (anc j ((row - 1) / 8)))
      rw [← this]
      congr 2 <;> omega
theorem mny_pos {x : Nat} (h : 0 < mny x) : 0 < x := by
  by_cases q : x < 1
  · rw [mny_0 q] at h; omega
  · omega
theorem lwA_lt (x i : Nat) : lwA x i < 8 := by unfold lwA; omega
theorem rw_lawOn {s : SS} {n x i : Nat} (h : RW s) (hn : 1 ≤ n ∧ n ≤ 4) (hx : x < szR n) (hi : i < mny x) : f_X6_lawOn (wl_ n x) (iI i) s = some (iI (lwA x i)) := by
  have hb := sz_lt hn hx
  have hm := mny_le x
  have h0 := mny_pos (x := x) (by omega)
  unfold f_X6_lawOn
  rw [rw_size h hn hx, rw_len h hn hx]
  simp (disch := omega) only [jn, lt, lts, bd_s, bdp_s, bd_n, bdp_n, gd, rw_bare, Int.toNat_natCast, iI_lt, iI_le, iI_eq, iI_add, iI_sub, iI_mul, iI_neg, iI_clamp, inb_ii, z_0, z_1, z_2, z_3, z_4, z_5, z_6, z_7, z_8, z_9, z_10, z_11, z_12, z_13, z_14, z_15, z_20, z_23, z_25, z_40, z_60, z_73, z_100, z_220, z_240, z_255, z_400, z_585, z_4681, z_5348, z_18724, z_21392, z_42784, z_60853, z_64176, z_65535, z_65536, z_168516, z_171136, z_m1, z_m2, z_m1000000, z_m1000000000, z_1000000000, z_25173, z_13849, z_1000, z_m1000, z_m100, z_200, z_32, z_88, z_118, z_109, z_16, z_10000, z_1000000, if_pos, if_neg]
  rw [show wl_ n x = iI ((br n + x : Nat) : Int) from rfl]
  simp (disch := omega) only [Int.toNat_natCast, iI_lt, iI_le, iI_eq, iI_add, iI_sub, iI_mul, iI_neg, iI_clamp, inb_ii]
  have hp := anc_pos (mny x - 1 - i) x hb.2 (by omega)
  have hl := anc_lt (mny x - 1 - i) x hb.2
  have := lp_lawOn (s := s) (k := fun v8 => some (v8 - iI 1 - (v8 - iI 1) / iI 8 * iI 8)) i (by omega) (mny x - 1 - i) FU x (by omega) (fu_lt (by omega)) hb.2 (by omega)
  rw [show ((br n + x : Nat) : Int) - (br n : Int) = (x : Int) by omega, show (mny x : Int) - 1 = ((i + (mny x - 1 - i) : Nat) : Int) by omega]
  refine Eq.trans this ?_
  simp (disch := omega) only [Int.toNat_natCast, iI_lt, iI_le, iI_eq, iI_add, iI_sub, iI_mul, iI_neg, iI_clamp, inb_ii, iI_rem]
  unfold lwA
  congr 2
  omega
theorem rw_lawOn_out {s : SS} {n x : Nat} {i : Int32} (h : RW s) (hn : 1 ≤ n ∧ n ≤ 4) (hx : x < szR n) (hi : i.toInt < 0 ∨ (mny x : Int) ≤ i.toInt) : f_X6_lawOn (wl_ n x) i s = some (-1) := by
  have hm := mny_le x
  unfold f_X6_lawOn
  rw [rw_size h hn hx, iI_of i]
  have h1 := Int32.toInt_lt i
  have h2 := Int32.le_toInt i
  simp (disch := omega) only [jn, lt, lts, bd_s, bdp_s, bd_n, bdp_n, gd, Int.toNat_natCast, iI_lt, iI_le, iI_eq, iI_add, iI_sub, iI_mul, iI_neg, iI_clamp, inb_ii, z_0, z_1, z_2, z_3, z_4, z_5, z_6, z_7, z_8, z_9, z_10, z_11, z_12, z_13, z_14, z_15, z_20, z_23, z_25, z_40, z_60, z_73, z_100, z_220, z_240, z_255, z_400, z_585, z_4681, z_5348, z_18724, z_21392, z_42784, z_60853, z_64176, z_65535, z_65536, z_168516, z_171136, z_m1, z_m2, z_m1000000, z_m1000000000, z_1000000000, z_25173, z_13849, z_1000, z_m1000, z_m100, z_200, z_32, z_88, z_118, z_109, z_16, z_10000, z_1000000]
  rcases hi with q | q
  · rw [if_pos (by omega)]
  · by_cases q2 : i.toInt < 0
    · rw [if_pos q2]
    · rw [if_neg q2, if_neg (by omega)]
def tmF : Nat → Nat → Nat → Nat
  | 0, _, _ => 0
  | j + 1, row, l => (if (row - 1) % 8 = l then 1 else 0) + tmF j ((row - 1) / 8) l
def tms (x l : Nat) : Nat := tmF (mny x) x l
theorem tmF_le : ∀ (j row l : Nat), tmF j row l ≤ j := by
  intro j
  induction j with
  | zero => intros; exact Nat.le_refl 0
  | succ j ih =>
    intro row l
    have := ih ((row - 1) / 8) l
    unfold tmF
    split <;> omega
theorem lp_times {s : SS} (l : Nat) (hl : l < 8) : ∀ (j n row t : Nat), j < 5 → j < n → row < 4681 → j ≤ mny row → t + j < 100 → lp_X6_timesOn_21 (iI l) s n (iI t) (iI row) (iI j) = some (iI ((t + tmF j row l : Nat) : Int)) := by
  intro j
  induction j with
  | zero =>
    intro n row t _ hn hr _ _
    cases n with
    | zero => omega
    | succ n =>
      rw [lp_X6_timesOn_21]
      simp (disch := omega) only [jn, lt, lts, bd_s, bdp_s, bd_n, bdp_n, gd, Int.toNat_natCast, iI_lt, iI_le, iI_eq, iI_add, iI_sub, iI_mul, iI_neg, iI_clamp, inb_ii, z_0, z_1, z_2, z_3, z_4, z_5, z_6, z_7, z_8, z_9, z_10, z_11, z_12, z_13, z_14, z_15, z_20, z_23, z_25, z_40, z_60, z_73, z_100, z_220, z_240, z_255, z_400, z_585, z_4681, z_5348, z_18724, z_21392, z_42784, z_60853, z_64176, z_65535, z_65536, z_168516, z_171136, z_m1, z_m2, z_m1000000, z_m1000000000, z_1000000000, z_25173, z_13849, z_1000, z_m1000, z_m100, z_200, z_32, z_88, z_118, z_109, z_16, z_10000, z_1000000, if_pos, if_neg]
      rfl
  | succ j ih =>
    intro n row t hj hn hr hm ht
    cases n with
    | zero => omega
    | succ n =>
      have h0 : 0 < row := anc_pos 0 row hr (by omega)
      have hu := mny_up h0 hr
      rw [lp_X6_timesOn_21]
      simp (disch := omega) only [jn, lt, lts, bd_s, bdp_s, bd_n, bdp_n, gd, Int.toNat_natCast, iI_lt, iI_le, iI_eq, iI_add, iI_sub, iI_mul, iI_neg, iI_clamp, inb_ii, z_0, z_1, z_2, z_3, z_4, z_5, z_6, z_7, z_8, z_9, z_10, z_11, z_12, z_13, z_14, z_15, z_20, z_23, z_25, z_40, z_60, z_73, z_100, z_220, z_240, z_255, z_400, z_585, z_4681, z_5348, z_18724, z_21392, z_42784, z_60853, z_64176, z_65535, z_65536, z_168516, z_171136, z_m1, z_m2, z_m1000000, z_m1000000000, z_1000000000, z_25173, z_13849, z_1000, z_m1000, z_m100, z_200, z_32, z_88, z_118, z_109, z_16, z_10000, z_1000000, if_pos, if_neg, iI_rem, iI_div]
      have e1 : ((row : Int) - 1) / 8 = (((row - 1) / 8 : Nat) : Int) := by omega
      have e2 : ((j + 1 : Nat) : Int) + -1 = (j : Int) := by omega
      rw [e1, e2]
      unfold tmF
      by_cases q : (row - 1) % 8 = l
      · rw [if_pos (by omega), if_pos q, show (t : Int) + 1 = ((t + 1 : Nat) : Int) by omega, ih n ((row - 1) / 8) (t + 1) (by omega) (by omega) (by omega) (by omega) (by omega)]
        congr 3
        omega
      · rw [if_neg (by omega), if_neg q, show (t : Int) + 0 = (t : Int) by omega, ih n ((row - 1) / 8) t (by omega) (by omega) (by omega) (by omega) (by omega)]
        congr 3
        omega
theorem rw_times {s : SS} {n x l : Nat} (h : RW s) (hn : 1 ≤ n ∧ n ≤ 4) (hx : x < szR n) (hl : l < 8) : f_X6_timesOn (wl_ n x) (iI l) s = some (iI (tms x l)) := by
  have hb := sz_lt hn hx
  have hm := mny_le x
  unfold f_X6_timesOn
  rw [rw_len h hn hx, rw_size h hn hx]
  simp (disch := omega) only [jn, lt, lts, bd_s, bdp_s, bd_n, bdp_n, gd, rw_bare, Int.toNat_natCast, iI_lt, iI_le, iI_eq, iI_add, iI_sub, iI_mul, iI_neg, iI_clamp, inb_ii, z_0, z_1, z_2, z_3, z_4, z_5, z_6, z_7, z_8, z_9, z_10, z_11, z_12, z_13, z_14, z_15, z_20, z_23, z_25, z_40, z_60, z_73, z_100, z_220, z_240, z_255, z_400, z_585, z_4681, z_5348, z_18724, z_21392, z_42784, z_60853, z_64176, z_65535, z_65536, z_168516, z_171136, z_m1, z_m2, z_m1000000, z_m1000000000, z_1000000000, z_25173, z_13849, z_1000, z_m1000, z_m100, z_200, z_32, z_88, z_118, z_109, z_16, z_10000, z_1000000]
  rw [show wl_ n x = iI ((br n + x : Nat) : Int) from rfl]
  simp (disch := omega) only [Int.toNat_natCast, iI_lt, iI_le, iI_eq, iI_add, iI_sub, iI_mul, iI_neg, iI_clamp, inb_ii]
  rw [show ((br n + x : Nat) : Int) - (br n : Int) = (x : Int) by omega]
  have := lp_times (s := s) l hl (mny x) FU x 0 (by omega) (fu_lt (by omega)) hb.2 (by omega) (by omega)
  refine Eq.trans this ?_
  unfold tms
  rw [Nat.zero_add]
theorem rw_first {s : SS} {n : Nat} (hn : 1 ≤ n ∧ n ≤ 4) : f_X6_firstFullOf (iI n) s = some (iI ((br n + fsz n : Nat) : Int)) := by
  have step : ∀ (m : Nat) (a b c : Int), 0 ≤ a → a < 10000 → 0 ≤ c → c < 10000 → lp_X6_firstFullOf_9 (iI n) s (m + 1) (iI a) (iI b) (iI c) = if (n : Int) ≤ b ∨ 4 ≤ b ∨ b < 0 then lp_X6_firstFullOf_9 (iI n) s (m + 1) (iI a) (iI b) (iI c) else lp_X6_firstFullOf_9 (iI n) s m (iI (a + c)) (iI (b + 1)) (iI (c * 8)) := by
    intro m a b c h1 h2 h3 h4
    by_cases q : (n : Int) ≤ b ∨ 4 ≤ b ∨ b < 0
    · rw [if_pos q]
    · rw [if_neg q, lp_X6_firstFullOf_9]
      simp (disch := omega) only [jn, lt, lts, bd_s, bdp_s, bd_n, bdp_n, gd, Int.toNat_natCast, iI_lt, iI_le, iI_eq, iI_add, iI_sub, iI_mul, iI_neg, iI_clamp, inb_ii, z_0, z_1, z_2, z_3, z_4, z_5, z_6, z_7, z_8, z_9, z_10, z_11, z_12, z_13, z_14, z_15, z_20, z_23, z_25, z_40, z_60, z_73, z_100, z_220, z_240, z_255, z_400, z_585, z_4681, z_5348, z_18724, z_21392, z_42784, z_60853, z_64176, z_65535, z_65536, z_168516, z_171136, z_m1, z_m2, z_m1000000, z_m1000000000, z_1000000000, z_25173, z_13849, z_1000, z_m1000, z_m100, z_200, z_32, z_88, z_118, z_109, z_16, z_10000, z_1000000, if_pos, if_neg]
  have fin : ∀ (m : Nat) (a c : Int), lp_X6_firstFullOf_9 (iI n) s (m + 1) (iI a) (iI n) (iI c) = some (iI a) := by
    intro m a c
    rw [lp_X6_firstFullOf_9]
    simp (disch := omega) only [jn, lt, lts, bd_s, bdp_s, bd_n, bdp_n, gd, Int.toNat_natCast, iI_lt, iI_le, iI_eq, iI_add, iI_sub, iI_mul, iI_neg, iI_clamp, inb_ii, z_0, z_1, z_2, z_3, z_4, z_5, z_6, z_7, z_8, z_9, z_10, z_11, z_12, z_13, z_14, z_15, z_20, z_23, z_25, z_40, z_60, z_73, z_100, z_220, z_240, z_255, z_400, z_585, z_4681, z_5348, z_18724, z_21392, z_42784, z_60853, z_64176, z_65535, z_65536, z_168516, z_171136, z_m1, z_m2, z_m1000000, z_m1000000000, z_1000000000, z_25173, z_13849, z_1000, z_m1000, z_m100, z_200, z_32, z_88, z_118, z_109, z_16, z_10000, z_1000000, if_pos, if_neg]
  unfold f_X6_firstFullOf
  simp (disch := omega) only [jn, lt, lts, bd_s, bdp_s, bd_n, bdp_n, gd, rw_bare, z_0, z_1, z_2, z_3, z_4, z_5, z_6, z_7, z_8, z_9, z_10, z_11, z_12, z_13, z_14, z_15, z_20, z_23, z_25, z_40, z_60, z_73, z_100, z_220, z_240, z_255, z_400, z_585, z_4681, z_5348, z_18724, z_21392, z_42784, z_60853, z_64176, z_65535, z_65536, z_168516, z_171136, z_m1, z_m2, z_m1000000, z_m1000000000, z_1000000000, z_25173, z_13849, z_1000, z_m1000, z_m100, z_200, z_32, z_88, z_118, z_109, z_16, z_10000, z_1000000]
  rw [fu_eq, show (1000000000 : Nat) = 999999995 + 1 + 1 + 1 + 1 + 1 from rfl]
  obtain rfl | rfl | rfl | rfl : n = 1 ∨ n = 2 ∨ n = 3 ∨ n = 4 := by omega
  · rw [step _ _ _ _ (by decide) (by decide) (by decide) (by decide), if_neg (by decide)]
    exact fin _ _ _
  · rw [step _ _ _ _ (by decide) (by decide) (by decide) (by decide), if_neg (by decide)]
    rw [step _ _ _ _ (by decide) (by decide) (by decide) (by decide), if_neg (by decide)]
    exact fin _ _ _
  · rw [step _ _ _ _ (by decide) (by decide) (by decide) (by decide), if_neg (by decide)]
    rw [step _ _ _ _ (by decide) (by decide) (by decide) (by decide), if_neg (by decide)]
    rw [step _ _ _ _ (by decide) (by decide) (by decide) (by decide), if_neg (by decide)]
    exact fin _ _ _
  · rw [step _ _ _ _ (by decide) (by decide) (by decide) (by decide), if_neg (by decide)]
    rw [step _ _ _ _ (by decide) (by decide) (by decide) (by decide), if_neg (by decide)]
    rw [step _ _ _ _ (by decide) (by decide) (by decide) (by decide), if_neg (by decide)]
    rw [step _ _ _ _ (by decide) (by decide) (by decide) (by decide), if_neg (by decide)]
    exact fin _ _ _
