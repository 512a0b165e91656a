/-! the class's rows -/
def RW (s : SS) : Prop := ∀ n x : Nat, 1 ≤ n ∧ n ≤ 4 → x < szR n → s 4 (br n + x) = iI n ∧ s 5 (br n + x) = iI (mny x) ∧ s 6 (br n + x) = stn x ∧ s 7 (br n + x) = iI (old x) ∧ s 8 (br n + x) = iI ((br n + (8 * cut n x + 1) : Nat) : Int)
/-- the number of a wall -/
def wl_ (n x : Nat) : Int32 := iI ((br n + x : Nat) : Int)
theorem rw_len {s : SS} {n x : Nat} (h : RW s) (hn : 1 ≤ n ∧ n ≤ 4) (hx : x < szR n) : f_X6_lengthOf (wl_ n x) s = some (iI n) := by
  have hb := (sz_lt hn hx).1
  unfold f_X6_lengthOf wl_
  simp (disch := omega) only [jn, lt, lts, bd_s, bdp_s, bd_n, bdp_n, gd, Int.toNat_natCast, iI_lt, iI_le, iI_eq, iI_add, iI_sub, iI_mul, iI_neg, iI_clamp, inb_ii, z_0, z_1, z_2, z_3, z_4, z_5, z_6, z_7, z_8, z_9, z_10, z_11, z_12, z_13, z_14, z_15, z_20, z_23, z_25, z_40, z_60, z_73, z_100, z_220, z_240, z_255, z_400, z_585, z_4681, z_5348, z_18724, z_21392, z_42784, z_60853, z_64176, z_65535, z_65536, z_168516, z_171136, z_m1, z_m2, z_m1000000, z_m1000000000, z_1000000000, z_25173, z_13849, z_1000, z_m1000, z_m100, z_200, z_32, z_88, z_118, z_109, if_pos, if_neg]
  rw [(h n x hn hx).1]
theorem rw_size {s : SS} {n x : Nat} (h : RW s) (hn : 1 ≤ n ∧ n ≤ 4) (hx : x < szR n) : f_X6_sizeOf (wl_ n x) s = some (iI (mny x)) := by
  have hb := (sz_lt hn hx).1
  unfold f_X6_sizeOf wl_
  simp (disch := omega) only [jn, lt, lts, bd_s, bdp_s, bd_n, bdp_n, gd, Int.toNat_natCast, iI_lt, iI_le, iI_eq, iI_add, iI_sub, iI_mul, iI_neg, iI_clamp, inb_ii, z_0, z_1, z_2, z_3, z_4, z_5, z_6, z_7, z_8, z_9, z_10, z_11, z_12, z_13, z_14, z_15, z_20, z_23, z_25, z_40, z_60, z_73, z_100, z_220, z_240, z_255, z_400, z_585, z_4681, z_5348, z_18724, z_21392, z_42784, z_60853, z_64176, z_65535, z_65536, z_168516, z_171136, z_m1, z_m2, z_m1000000, z_m1000000000, z_1000000000, z_25173, z_13849, z_1000, z_m1000, z_m100, z_200, z_32, z_88, z_118, z_109, if_pos, if_neg]
  rw [(h n x hn hx).2.1]
theorem rw_stand {s : SS} {n x : Nat} (h : RW s) (hn : 1 ≤ n ∧ n ≤ 4) (hx : x < szR n) : f_X6_standingOn (wl_ n x) s = some (stn x) := by
  have hb := (sz_lt hn hx).1
  unfold f_X6_standingOn wl_
  simp (disch := omega) only [jn, lt, lts, bd_s, bdp_s, bd_n, bdp_n, gd, Int.toNat_natCast, iI_lt, iI_le, iI_eq, iI_add, iI_sub, iI_mul, iI_neg, iI_clamp, inb_ii, z_0, z_1, z_2, z_3, z_4, z_5, z_6, z_7, z_8, z_9, z_10, z_11, z_12, z_13, z_14, z_15, z_20, z_23, z_25, z_40, z_60, z_73, z_100, z_220, z_240, z_255, z_400, z_585, z_4681, z_5348, z_18724, z_21392, z_42784, z_60853, z_64176, z_65535, z_65536, z_168516, z_171136, z_m1, z_m2, z_m1000000, z_m1000000000, z_1000000000, z_25173, z_13849, z_1000, z_m1000, z_m100, z_200, z_32, z_88, z_118, z_109, if_pos, if_neg]
  rw [(h n x hn hx).2.2.1]
theorem rw_old {s : SS} {n x : Nat} (h : RW s) (hn : 1 ≤ n ∧ n ≤ 4) (hx : x < szR n) : f_X6_oldestOn (wl_ n x) s = some (iI (old x)) := by
  have hb := (sz_lt hn hx).1
  unfold f_X6_oldestOn wl_
  simp (disch := omega) only [jn, lt, lts, bd_s, bdp_s, bd_n, bdp_n, gd, Int.toNat_natCast, iI_lt, iI_le, iI_eq, iI_add, iI_sub, iI_mul, iI_neg, iI_clamp, inb_ii, z_0, z_1, z_2, z_3, z_4, z_5, z_6, z_7, z_8, z_9, z_10, z_11, z_12, z_13, z_14, z_15, z_20, z_23, z_25, z_40, z_60, z_73, z_100, z_220, z_240, z_255, z_400, z_585, z_4681, z_5348, z_18724, z_21392, z_42784, z_60853, z_64176, z_65535, z_65536, z_168516, z_171136, z_m1, z_m2, z_m1000000, z_m1000000000, z_1000000000, z_25173, z_13849, z_1000, z_m1000, z_m100, z_200, z_32, z_88, z_118, z_109, if_pos, if_neg]
  rw [(h n x hn hx).2.2.2.1]
theorem rw_full {s : SS} {n x : Nat} (h : RW s) (hn : 1 ≤ n ∧ n ≤ 4) (hx : x < szR n) : f_X6_isFull (wl_ n x) s = some (if mny x = n then 1 else 0) := by
  have hm := mny_le x
  unfold f_X6_isFull
  rw [rw_size h hn hx, rw_len h hn hx]
  simp (disch := omega) only [jn, lt, lts, bd_s, bdp_s, bd_n, bdp_n, gd, iI_eq]
  by_cases q : mny x = n
  · rw [if_pos q, if_pos (by omega)]
  · rw [if_neg q, if_neg (by omega)]
theorem rw_bare {s : SS} {n : Nat} (hn : 1 ≤ n ∧ n ≤ 5) : f_X6_bareOf (iI n) s = some (iI (br n)) := by
  unfold f_X6_bareOf
  simp (disch := omega) only [jn, lt, lts, bd_s, bdp_s, bd_n, bdp_n, gd, Int.toNat_natCast, iI_lt, iI_le, iI_eq, iI_add, iI_sub, iI_mul, iI_neg, iI_clamp, inb_ii, z_0, z_1, z_2, z_3, z_4, z_5, z_6, z_7, z_8, z_9, z_10, z_11, z_12, z_13, z_14, z_15, z_20, z_23, z_25, z_40, z_60, z_73, z_100, z_220, z_240, z_255, z_400, z_585, z_4681, z_5348, z_18724, z_21392, z_42784, z_60853, z_64176, z_65535, z_65536, z_168516, z_171136, z_m1, z_m2, z_m1000000, z_m1000000000, z_1000000000, z_25173, z_13849, z_1000, z_m1000, z_m100, z_200, z_32, z_88, z_118, z_109, if_pos, if_neg]
  obtain rfl | rfl | rfl | rfl | rfl : n = 1 ∨ n = 2 ∨ n = 3 ∨ n = 4 ∨ n = 5 := by omega
  all_goals rfl
theorem rw_behind {s : SS} {n x l : Nat} (h : RW s) (hn : 1 ≤ n ∧ n ≤ 4) (hx : x < szR n) (hl : l ≤ 8) : f_X6_behind (wl_ n x) (iI l) s = some (wl_ n (bh n x l)) := by
  have hb := (sz_lt hn hx).1
  have hc := cut_lt hn hx
  unfold f_X6_behind wl_
  by_cases q : l = 8
  · subst q
    simp (disch := omega) only [jn, lt, lts, bd_s, bdp_s, bd_n, bdp_n, gd, Int.toNat_natCast, iI_lt, iI_le, iI_eq, iI_add, iI_sub, iI_mul, iI_neg, iI_clamp, inb_ii, z_0, z_1, z_2, z_3, z_4, z_5, z_6, z_7, z_8, z_9, z_10, z_11, z_12, z_13, z_14, z_15, z_20, z_23, z_25, z_40, z_60, z_73, z_100, z_220, z_240, z_255, z_400, z_585, z_4681, z_5348, z_18724, z_21392, z_42784, z_60853, z_64176, z_65535, z_65536, z_168516, z_171136, z_m1, z_m2, z_m1000000, z_m1000000000, z_1000000000, z_25173, z_13849, z_1000, z_m1000, z_m100, z_200, z_32, z_88, z_118, z_109, if_pos, if_neg]
    rfl
  · simp (disch := omega) only [jn, lt, lts, bd_s, bdp_s, bd_n, bdp_n, gd, Int.toNat_natCast, iI_lt, iI_le, iI_eq, iI_add, iI_sub, iI_mul, iI_neg, iI_clamp, inb_ii, z_0, z_1, z_2, z_3, z_4, z_5, z_6, z_7, z_8, z_9, z_10, z_11, z_12, z_13, z_14, z_15, z_20, z_23, z_25, z_40, z_60, z_73, z_100, z_220, z_240, z_255, z_400, z_585, z_4681, z_5348, z_18724, z_21392, z_42784, z_60853, z_64176, z_65535, z_65536, z_168516, z_171136, z_m1, z_m2, z_m1000000, z_m1000000000, z_1000000000, z_25173, z_13849, z_1000, z_m1000, z_m100, z_200, z_32, z_88, z_118, z_109, if_pos, if_neg]
    rw [(h n x hn hx).2.2.2.2]
    simp (disch := omega) only [Int.toNat_natCast, iI_lt, iI_le, iI_eq, iI_add, iI_sub, iI_mul, iI_neg, iI_clamp, inb_ii]
    unfold bh
    rw [if_neg q]
    congr 2
    omega
