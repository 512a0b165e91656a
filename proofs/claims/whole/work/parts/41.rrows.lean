/-! the reference's rows -/
theorem up_at (s : SS) (k j : Nat) (v : Int32) : up s k j v k j = v := by rw [up_def, upr_eq, upd_eq]
theorem up_cell {s : SS} {k j q : Nat} {v : Int32} (h : q ≠ k) : up s k j v q = s q := by rw [up_def, upr_ne h]
theorem up_slot {s : SS} {k j i : Nat} {v : Int32} (h : i ≠ j) : up s k j v k i = s k i := by rw [up_def, upr_eq, upd_ne h]
theorem has_f {v : Int32} {l : Nat} (s : SS) (hl : l < 32) : f_X12_has v (iI l) s = some (if bt v l = true then 1 else 0) := by
  unfold f_X12_has
  by_cases q : bt v l = true
  · rw [if_pos q]; exact e_if_t ((has_bt hl).mpr q) rfl
  · rw [if_neg q]; exact e_if_f (mt (has_bt hl).mp q) rfl
theorem rr_many {x : Nat} (hx : x < 4681) (s : SS) : f_X12_manyOf (iI x) s = some (iI (mny x)) := by
  unfold f_X12_manyOf
  by_cases h0 : x < 1
  · rw [mny_0 h0]
    repeat (first
      | (with_reducible refine e_gd ?sd ?_; case sd => first | decide | (first | omega | (simp (disch := omega) only [Int.toNat_natCast, iI_lt, iI_le, iI_eq, iI_add, iI_sub, iI_mul, iI_neg, iI_clamp, inb_ii, z_0, z_1, z_2, z_3, z_4, z_5, z_6, z_7, z_8, z_9, z_10, z_11, z_12, z_13, z_14, z_15, z_20, z_23, z_25, z_40, z_60, z_73, z_100, z_220, z_240, z_255, z_400, z_585, z_4681, z_5348, z_18724, z_21392, z_42784, z_60853, z_64176, z_65535, z_65536, z_168516, z_171136, z_m1, z_m2, z_m1000000, z_m1000000000, z_1000000000, z_25173, z_13849, z_1000, z_m1000, z_m100, z_200, z_32, z_88, z_118, z_109, z_16, z_10000, z_1000000]; omega) | (simp (disch := omega) only [Int.toNat_natCast, iI_lt, iI_le, iI_eq, iI_add, iI_sub, iI_mul, iI_neg, iI_clamp, inb_ii, z_0, z_1, z_2, z_3, z_4, z_5, z_6, z_7, z_8, z_9, z_10, z_11, z_12, z_13, z_14, z_15, z_20, z_23, z_25, z_40, z_60, z_73, z_100, z_220, z_240, z_255, z_400, z_585, z_4681, z_5348, z_18724, z_21392, z_42784, z_60853, z_64176, z_65535, z_65536, z_168516, z_171136, z_m1, z_m2, z_m1000000, z_m1000000000, z_1000000000, z_25173, z_13849, z_1000, z_m1000, z_m100, z_200, z_32, z_88, z_118, z_109, z_16, z_10000, z_1000000]; done)))
      | with_reducible refine e_up ?_
      | with_reducible refine e_up0 ?_
      | with_reducible refine e_upl ?_
      | with_reducible refine e_upl0 ?_
      | with_reducible refine e_jn ?_
      | with_reducible refine e_lt ?_
      | (with_reducible refine e_if_t ?sd ?_; case sd => first | omega | (simp (disch := omega) only [Int.toNat_natCast, iI_lt, iI_le, iI_eq, iI_add, iI_sub, iI_mul, iI_neg, iI_clamp, inb_ii, z_0, z_1, z_2, z_3, z_4, z_5, z_6, z_7, z_8, z_9, z_10, z_11, z_12, z_13, z_14, z_15, z_20, z_23, z_25, z_40, z_60, z_73, z_100, z_220, z_240, z_255, z_400, z_585, z_4681, z_5348, z_18724, z_21392, z_42784, z_60853, z_64176, z_65535, z_65536, z_168516, z_171136, z_m1, z_m2, z_m1000000, z_m1000000000, z_1000000000, z_25173, z_13849, z_1000, z_m1000, z_m100, z_200, z_32, z_88, z_118, z_109, z_16, z_10000, z_1000000]; omega) | (simp (disch := omega) only [Int.toNat_natCast, iI_lt, iI_le, iI_eq, iI_add, iI_sub, iI_mul, iI_neg, iI_clamp, inb_ii, z_0, z_1, z_2, z_3, z_4, z_5, z_6, z_7, z_8, z_9, z_10, z_11, z_12, z_13, z_14, z_15, z_20, z_23, z_25, z_40, z_60, z_73, z_100, z_220, z_240, z_255, z_400, z_585, z_4681, z_5348, z_18724, z_21392, z_42784, z_60853, z_64176, z_65535, z_65536, z_168516, z_171136, z_m1, z_m2, z_m1000000, z_m1000000000, z_1000000000, z_25173, z_13849, z_1000, z_m1000, z_m100, z_200, z_32, z_88, z_118, z_109, z_16, z_10000, z_1000000]; done))
      | (with_reducible refine e_if_f ?sd ?_; case sd => first | omega | (simp (disch := omega) only [Int.toNat_natCast, iI_lt, iI_le, iI_eq, iI_add, iI_sub, iI_mul, iI_neg, iI_clamp, inb_ii, z_0, z_1, z_2, z_3, z_4, z_5, z_6, z_7, z_8, z_9, z_10, z_11, z_12, z_13, z_14, z_15, z_20, z_23, z_25, z_40, z_60, z_73, z_100, z_220, z_240, z_255, z_400, z_585, z_4681, z_5348, z_18724, z_21392, z_42784, z_60853, z_64176, z_65535, z_65536, z_168516, z_171136, z_m1, z_m2, z_m1000000, z_m1000000000, z_1000000000, z_25173, z_13849, z_1000, z_m1000, z_m100, z_200, z_32, z_88, z_118, z_109, z_16, z_10000, z_1000000]; omega) | (simp (disch := omega) only [Int.toNat_natCast, iI_lt, iI_le, iI_eq, iI_add, iI_sub, iI_mul, iI_neg, iI_clamp, inb_ii, z_0, z_1, z_2, z_3, z_4, z_5, z_6, z_7, z_8, z_9, z_10, z_11, z_12, z_13, z_14, z_15, z_20, z_23, z_25, z_40, z_60, z_73, z_100, z_220, z_240, z_255, z_400, z_585, z_4681, z_5348, z_18724, z_21392, z_42784, z_60853, z_64176, z_65535, z_65536, z_168516, z_171136, z_m1, z_m2, z_m1000000, z_m1000000000, z_1000000000, z_25173, z_13849, z_1000, z_m1000, z_m100, z_200, z_32, z_88, z_118, z_109, z_16, z_10000, z_1000000]; done)))
    rfl
  · by_cases h1 : x < 9
    · rw [mny_1 (by omega)]
      repeat (first
        | (with_reducible refine e_gd ?sd ?_; case sd => first | decide | (first | omega | (simp (disch := omega) only [Int.toNat_natCast, iI_lt, iI_le, iI_eq, iI_add, iI_sub, iI_mul, iI_neg, iI_clamp, inb_ii, z_0, z_1, z_2, z_3, z_4, z_5, z_6, z_7, z_8, z_9, z_10, z_11, z_12, z_13, z_14, z_15, z_20, z_23, z_25, z_40, z_60, z_73, z_100, z_220, z_240, z_255, z_400, z_585, z_4681, z_5348, z_18724, z_21392, z_42784, z_60853, z_64176, z_65535, z_65536, z_168516, z_171136, z_m1, z_m2, z_m1000000, z_m1000000000, z_1000000000, z_25173, z_13849, z_1000, z_m1000, z_m100, z_200, z_32, z_88, z_118, z_109, z_16, z_10000, z_1000000]; omega) | (simp (disch := omega) only [Int.toNat_natCast, iI_lt, iI_le, iI_eq, iI_add, iI_sub, iI_mul, iI_neg, iI_clamp, inb_ii, z_0, z_1, z_2, z_3, z_4, z_5, z_6, z_7, z_8, z_9, z_10, z_11, z_12, z_13, z_14, z_15, z_20, z_23, z_25, z_40, z_60, z_73, z_100, z_220, z_240, z_255, z_400, z_585, z_4681, z_5348, z_18724, z_21392, z_42784, z_60853, z_64176, z_65535, z_65536, z_168516, z_171136, z_m1, z_m2, z_m1000000, z_m1000000000, z_1000000000, z_25173, z_13849, z_1000, z_m1000, z_m100, z_200, z_32, z_88, z_118, z_109, z_16, z_10000, z_1000000]; done)))
        | with_reducible refine e_up ?_
        | with_reducible refine e_up0 ?_
        | with_reducible refine e_upl ?_
        | with_reducible refine e_upl0 ?_
        | with_reducible refine e_jn ?_
        | with_reducible refine e_lt ?_
        | (with_reducible refine e_if_t ?sd ?_; case sd => first | omega | (simp (disch := omega) only [Int.toNat_natCast, iI_lt, iI_le, iI_eq, iI_add, iI_sub, iI_mul, iI_neg, iI_clamp, inb_ii, z_0, z_1, z_2, z_3, z_4, z_5, z_6, z_7, z_8, z_9, z_10, z_11, z_12, z_13, z_14, z_15, z_20, z_23, z_25, z_40, z_60, z_73, z_100, z_220, z_240, z_255, z_400, z_585, z_4681, z_5348, z_18724, z_21392, z_42784, z_60853, z_64176, z_65535, z_65536, z_168516, z_171136, z_m1, z_m2, z_m1000000, z_m1000000000, z_1000000000, z_25173, z_13849, z_1000, z_m1000, z_m100, z_200, z_32, z_88, z_118, z_109, z_16, z_10000, z_1000000]; omega) | (simp (disch := omega) only [Int.toNat_natCast, iI_lt, iI_le, iI_eq, iI_add, iI_sub, iI_mul, iI_neg, iI_clamp, inb_ii, z_0, z_1, z_2, z_3, z_4, z_5, z_6, z_7, z_8, z_9, z_10, z_11, z_12, z_13, z_14, z_15, z_20, z_23, z_25, z_40, z_60, z_73, z_100, z_220, z_240, z_255, z_400, z_585, z_4681, z_5348, z_18724, z_21392, z_42784, z_60853, z_64176, z_65535, z_65536, z_168516, z_171136, z_m1, z_m2, z_m1000000, z_m1000000000, z_1000000000, z_25173, z_13849, z_1000, z_m1000, z_m100, z_200, z_32, z_88, z_118, z_109, z_16, z_10000, z_1000000]; done))
        | (with_reducible refine e_if_f ?sd ?_; case sd => first | omega | (simp (disch := omega) only [Int.toNat_natCast, iI_lt, iI_le, iI_eq, iI_add, iI_sub, iI_mul, iI_neg, iI_clamp, inb_ii, z_0, z_1, z_2, z_3, z_4, z_5, z_6, z_7, z_8, z_9, z_10, z_11, z_12, z_13, z_14, z_15, z_20, z_23, z_25, z_40, z_60, z_73, z_100, z_220, z_240, z_255, z_400, z_585, z_4681, z_5348, z_18724, z_21392, z_42784, z_60853, z_64176, z_65535, z_65536, z_168516, z_171136, z_m1, z_m2, z_m1000000, z_m1000000000, z_1000000000, z_25173, z_13849, z_1000, z_m1000, z_m100, z_200, z_32, z_88, z_118, z_109, z_16, z_10000, z_1000000]; omega) | (simp (disch := omega) only [Int.toNat_natCast, iI_lt, iI_le, iI_eq, iI_add, iI_sub, iI_mul, iI_neg, iI_clamp, inb_ii, z_0, z_1, z_2, z_3, z_4, z_5, z_6, z_7, z_8, z_9, z_10, z_11, z_12, z_13, z_14, z_15, z_20, z_23, z_25, z_40, z_60, z_73, z_100, z_220, z_240, z_255, z_400, z_585, z_4681, z_5348, z_18724, z_21392, z_42784, z_60853, z_64176, z_65535, z_65536, z_168516, z_171136, z_m1, z_m2, z_m1000000, z_m1000000000, z_1000000000, z_25173, z_13849, z_1000, z_m1000, z_m100, z_200, z_32, z_88, z_118, z_109, z_16, z_10000, z_1000000]; done)))
      rfl
    · by_cases h2 : x < 73
      · rw [mny_2 (by omega)]
        repeat (first
          | (with_reducible refine e_gd ?sd ?_; case sd => first | decide | (first | omega | (simp (disch := omega) only [Int.toNat_natCast, iI_lt, iI_le, iI_eq, iI_add, iI_sub, iI_mul, iI_neg, iI_clamp, inb_ii, z_0, z_1, z_2, z_3, z_4, z_5, z_6, z_7, z_8, z_9, z_10, z_11, z_12, z_13, z_14, z_15, z_20, z_23, z_25, z_40, z_60, z_73, z_100, z_220, z_240, z_255, z_400, z_585, z_4681, z_5348, z_18724, z_21392, z_42784, z_60853, z_64176, z_65535, z_65536, z_168516, z_171136, z_m1, z_m2, z_m1000000, z_m1000000000, z_1000000000, z_25173, z_13849, z_1000, z_m1000, z_m100, z_200, z_32, z_88, z_118, z_109, z_16, z_10000, z_1000000]; omega) | (simp (disch := omega) only [Int.toNat_natCast, iI_lt, iI_le, iI_eq, iI_add, iI_sub, iI_mul, iI_neg, iI_clamp, inb_ii, z_0, z_1, z_2, z_3, z_4, z_5, z_6, z_7, z_8, z_9, z_10, z_11, z_12, z_13, z_14, z_15, z_20, z_23, z_25, z_40, z_60, z_73, z_100, z_220, z_240, z_255, z_400, z_585, z_4681, z_5348, z_18724, z_21392, z_42784, z_60853, z_64176, z_65535, z_65536, z_168516, z_171136, z_m1, z_m2, z_m1000000, z_m1000000000, z_1000000000, z_25173, z_13849, z_1000, z_m1000, z_m100, z_200, z_32, z_88, z_118, z_109, z_16, z_10000, z_1000000]; done)))
          | with_reducible refine e_up ?_
          | with_reducible refine e_up0 ?_
          | with_reducible refine e_upl ?_
          | with_reducible refine e_upl0 ?_
          | with_reducible refine e_jn ?_
          | with_reducible refine e_lt ?_
          | (with_reducible refine e_if_t ?sd ?_; case sd => first | omega | (simp (disch := omega) only [Int.toNat_natCast, iI_lt, iI_le, iI_eq, iI_add, iI_sub, iI_mul, iI_neg, iI_clamp, inb_ii, z_0, z_1, z_2, z_3, z_4, z_5, z_6, z_7, z_8, z_9, z_10, z_11, z_12, z_13, z_14, z_15, z_20, z_23, z_25, z_40, z_60, z_73, z_100, z_220, z_240, z_255, z_400, z_585, z_4681, z_5348, z_18724, z_21392, z_42784, z_60853, z_64176, z_65535, z_65536, z_168516, z_171136, z_m1, z_m2, z_m1000000, z_m1000000000, z_1000000000, z_25173, z_13849, z_1000, z_m1000, z_m100, z_200, z_32, z_88, z_118, z_109, z_16, z_10000, z_1000000]; omega) | (simp (disch := omega) only [Int.toNat_natCast, iI_lt, iI_le, iI_eq, iI_add, iI_sub, iI_mul, iI_neg, iI_clamp, inb_ii, z_0, z_1, z_2, z_3, z_4, z_5, z_6, z_7, z_8, z_9, z_10, z_11, z_12, z_13, z_14, z_15, z_20, z_23, z_25, z_40, z_60, z_73, z_100, z_220, z_240, z_255, z_400, z_585, z_4681, z_5348, z_18724, z_21392, z_42784, z_60853, z_64176, z_65535, z_65536, z_168516, z_171136, z_m1, z_m2, z_m1000000, z_m1000000000, z_1000000000, z_25173, z_13849, z_1000, z_m1000, z_m100, z_200, z_32, z_88, z_118, z_109, z_16, z_10000, z_1000000]; done))
          | (with_reducible refine e_if_f ?sd ?_; case sd => first | omega | (simp (disch := omega) only [Int.toNat_natCast, iI_lt, iI_le, iI_eq, iI_add, iI_sub, iI_mul, iI_neg, iI_clamp, inb_ii, z_0, z_1, z_2, z_3, z_4, z_5, z_6, z_7, z_8, z_9, z_10, z_11, z_12, z_13, z_14, z_15, z_20, z_23, z_25, z_40, z_60, z_73, z_100, z_220, z_240, z_255, z_400, z_585, z_4681, z_5348, z_18724, z_21392, z_42784, z_60853, z_64176, z_65535, z_65536, z_168516, z_171136, z_m1, z_m2, z_m1000000, z_m1000000000, z_1000000000, z_25173, z_13849, z_1000, z_m1000, z_m100, z_200, z_32, z_88, z_118, z_109, z_16, z_10000, z_1000000]; omega) | (simp (disch := omega) only [Int.toNat_natCast, iI_lt, iI_le, iI_eq, iI_add, iI_sub, iI_mul, iI_neg, iI_clamp, inb_ii, z_0, z_1, z_2, z_3, z_4, z_5, z_6, z_7, z_8, z_9, z_10, z_11, z_12, z_13, z_14, z_15, z_20, z_23, z_25, z_40, z_60, z_73, z_100, z_220, z_240, z_255, z_400, z_585, z_4681, z_5348, z_18724, z_21392, z_42784, z_60853, z_64176, z_65535, z_65536, z_168516, z_171136, z_m1, z_m2, z_m1000000, z_m1000000000, z_1000000000, z_25173, z_13849, z_1000, z_m1000, z_m100, z_200, z_32, z_88, z_118, z_109, z_16, z_10000, z_1000000]; done)))
        rfl
      · by_cases h3 : x < 585
        · rw [mny_3 (by omega)]
          repeat (first
            | (with_reducible refine e_gd ?sd ?_; case sd => first | decide | (first | omega | (simp (disch := omega) only [Int.toNat_natCast, iI_lt, iI_le, iI_eq, iI_add, iI_sub, iI_mul, iI_neg, iI_clamp, inb_ii, z_0, z_1, z_2, z_3, z_4, z_5, z_6, z_7, z_8, z_9, z_10, z_11, z_12, z_13, z_14, z_15, z_20, z_23, z_25, z_40, z_60, z_73, z_100, z_220, z_240, z_255, z_400, z_585, z_4681, z_5348, z_18724, z_21392, z_42784, z_60853, z_64176, z_65535, z_65536, z_168516, z_171136, z_m1, z_m2, z_m1000000, z_m1000000000, z_1000000000, z_25173, z_13849, z_1000, z_m1000, z_m100, z_200, z_32, z_88, z_118, z_109, z_16, z_10000, z_1000000]; omega) | (simp (disch := omega) only [Int.toNat_natCast, iI_lt, iI_le, iI_eq, iI_add, iI_sub, iI_mul, iI_neg, iI_clamp, inb_ii, z_0, z_1, z_2, z_3, z_4, z_5, z_6, z_7, z_8, z_9, z_10, z_11, z_12, z_13, z_14, z_15, z_20, z_23, z_25, z_40, z_60, z_73, z_100, z_220, z_240, z_255, z_400, z_585, z_4681, z_5348, z_18724, z_21392, z_42784, z_60853, z_64176, z_65535, z_65536, z_168516, z_171136, z_m1, z_m2, z_m1000000, z_m1000000000, z_1000000000, z_25173, z_13849, z_1000, z_m1000, z_m100, z_200, z_32, z_88, z_118, z_109, z_16, z_10000, z_1000000]; done)))
            | with_reducible refine e_up ?_
            | with_reducible refine e_up0 ?_
            | with_reducible refine e_upl ?_
            | with_reducible refine e_upl0 ?_
            | with_reducible refine e_jn ?_
            | with_reducible refine e_lt ?_
            | (with_reducible refine e_if_t ?sd ?_; case sd => first | omega | (simp (disch := omega) only [Int.toNat_natCast, iI_lt, iI_le, iI_eq, iI_add, iI_sub, iI_mul, iI_neg, iI_clamp, inb_ii, z_0, z_1, z_2, z_3, z_4, z_5, z_6, z_7, z_8, z_9, z_10, z_11, z_12, z_13, z_14, z_15, z_20, z_23, z_25, z_40, z_60, z_73, z_100, z_220, z_240, z_255, z_400, z_585, z_4681, z_5348, z_18724, z_21392, z_42784, z_60853, z_64176, z_65535, z_65536, z_168516, z_171136, z_m1, z_m2, z_m1000000, z_m1000000000, z_1000000000, z_25173, z_13849, z_1000, z_m1000, z_m100, z_200, z_32, z_88, z_118, z_109, z_16, z_10000, z_1000000]; omega) | (simp (disch := omega) only [Int.toNat_natCast, iI_lt, iI_le, iI_eq, iI_add, iI_sub, iI_mul, iI_neg, iI_clamp, inb_ii, z_0, z_1, z_2, z_3, z_4, z_5, z_6, z_7, z_8, z_9, z_10, z_11, z_12, z_13, z_14, z_15, z_20, z_23, z_25, z_40, z_60, z_73, z_100, z_220, z_240, z_255, z_400, z_585, z_4681, z_5348, z_18724, z_21392, z_42784, z_60853, z_64176, z_65535, z_65536, z_168516, z_171136, z_m1, z_m2, z_m1000000, z_m1000000000, z_1000000000, z_25173, z_13849, z_1000, z_m1000, z_m100, z_200, z_32, z_88, z_118, z_109, z_16, z_10000, z_1000000]; done))
            | (with_reducible refine e_if_f ?sd ?_; case sd => first | omega | (simp (disch := omega) only [Int.toNat_natCast, iI_lt, iI_le, iI_eq, iI_add, iI_sub, iI_mul, iI_neg, iI_clamp, inb_ii, z_0, z_1, z_2, z_3, z_4, z_5, z_6, z_7, z_8, z_9, z_10, z_11, z_12, z_13, z_14, z_15, z_20, z_23, z_25, z_40, z_60, z_73, z_100, z_220, z_240, z_255, z_400, z_585, z_4681, z_5348, z_18724, z_21392, z_42784, z_60853, z_64176, z_65535, z_65536, z_168516, z_171136, z_m1, z_m2, z_m1000000, z_m1000000000, z_1000000000, z_25173, z_13849, z_1000, z_m1000, z_m100, z_200, z_32, z_88, z_118, z_109, z_16, z_10000, z_1000000]; omega) | (simp (disch := omega) only [Int.toNat_natCast, iI_lt, iI_le, iI_eq, iI_add, iI_sub, iI_mul, iI_neg, iI_clamp, inb_ii, z_0, z_1, z_2, z_3, z_4, z_5, z_6, z_7, z_8, z_9, z_10, z_11, z_12, z_13, z_14, z_15, z_20, z_23, z_25, z_40, z_60, z_73, z_100, z_220, z_240, z_255, z_400, z_585, z_4681, z_5348, z_18724, z_21392, z_42784, z_60853, z_64176, z_65535, z_65536, z_168516, z_171136, z_m1, z_m2, z_m1000000, z_m1000000000, z_1000000000, z_25173, z_13849, z_1000, z_m1000, z_m100, z_200, z_32, z_88, z_118, z_109, z_16, z_10000, z_1000000]; done)))
          rfl
        · rw [mny_4 (by omega)]
          repeat (first
            | (with_reducible refine e_gd ?sd ?_; case sd => first | decide | (first | omega | (simp (disch := omega) only [Int.toNat_natCast, iI_lt, iI_le, iI_eq, iI_add, iI_sub, iI_mul, iI_neg, iI_clamp, inb_ii, z_0, z_1, z_2, z_3, z_4, z_5, z_6, z_7, z_8, z_9, z_10, z_11, z_12, z_13, z_14, z_15, z_20, z_23, z_25, z_40, z_60, z_73, z_100, z_220, z_240, z_255, z_400, z_585, z_4681, z_5348, z_18724, z_21392, z_42784, z_60853, z_64176, z_65535, z_65536, z_168516, z_171136, z_m1, z_m2, z_m1000000, z_m1000000000, z_1000000000, z_25173, z_13849, z_1000, z_m1000, z_m100, z_200, z_32, z_88, z_118, z_109, z_16, z_10000, z_1000000]; omega) | (simp (disch := omega) only [Int.toNat_natCast, iI_lt, iI_le, iI_eq, iI_add, iI_sub, iI_mul, iI_neg, iI_clamp, inb_ii, z_0, z_1, z_2, z_3, z_4, z_5, z_6, z_7, z_8, z_9, z_10, z_11, z_12, z_13, z_14, z_15, z_20, z_23, z_25, z_40, z_60, z_73, z_100, z_220, z_240, z_255, z_400, z_585, z_4681, z_5348, z_18724, z_21392, z_42784, z_60853, z_64176, z_65535, z_65536, z_168516, z_171136, z_m1, z_m2, z_m1000000, z_m1000000000, z_1000000000, z_25173, z_13849, z_1000, z_m1000, z_m100, z_200, z_32, z_88, z_118, z_109, z_16, z_10000, z_1000000]; done)))
            | with_reducible refine e_up ?_
            | with_reducible refine e_up0 ?_
            | with_reducible refine e_upl ?_
            | with_reducible refine e_upl0 ?_
            | with_reducible refine e_jn ?_
            | with_reducible refine e_lt ?_
            | (with_reducible refine e_if_t ?sd ?_; case sd => first | omega | (simp (disch := omega) only [Int.toNat_natCast, iI_lt, iI_le, iI_eq, iI_add, iI_sub, iI_mul, iI_neg, iI_clamp, inb_ii, z_0, z_1, z_2, z_3, z_4, z_5, z_6, z_7, z_8, z_9, z_10, z_11, z_12, z_13, z_14, z_15, z_20, z_23, z_25, z_40, z_60, z_73, z_100, z_220, z_240, z_255, z_400, z_585, z_4681, z_5348, z_18724, z_21392, z_42784, z_60853, z_64176, z_65535, z_65536, z_168516, z_171136, z_m1, z_m2, z_m1000000, z_m1000000000, z_1000000000, z_25173, z_13849, z_1000, z_m1000, z_m100, z_200, z_32, z_88, z_118, z_109, z_16, z_10000, z_1000000]; omega) | (simp (disch := omega) only [Int.toNat_natCast, iI_lt, iI_le, iI_eq, iI_add, iI_sub, iI_mul, iI_neg, iI_clamp, inb_ii, z_0, z_1, z_2, z_3, z_4, z_5, z_6, z_7, z_8, z_9, z_10, z_11, z_12, z_13, z_14, z_15, z_20, z_23, z_25, z_40, z_60, z_73, z_100, z_220, z_240, z_255, z_400, z_585, z_4681, z_5348, z_18724, z_21392, z_42784, z_60853, z_64176, z_65535, z_65536, z_168516, z_171136, z_m1, z_m2, z_m1000000, z_m1000000000, z_1000000000, z_25173, z_13849, z_1000, z_m1000, z_m100, z_200, z_32, z_88, z_118, z_109, z_16, z_10000, z_1000000]; done))
            | (with_reducible refine e_if_f ?sd ?_; case sd => first | omega | (simp (disch := omega) only [Int.toNat_natCast, iI_lt, iI_le, iI_eq, iI_add, iI_sub, iI_mul, iI_neg, iI_clamp, inb_ii, z_0, z_1, z_2, z_3, z_4, z_5, z_6, z_7, z_8, z_9, z_10, z_11, z_12, z_13, z_14, z_15, z_20, z_23, z_25, z_40, z_60, z_73, z_100, z_220, z_240, z_255, z_400, z_585, z_4681, z_5348, z_18724, z_21392, z_42784, z_60853, z_64176, z_65535, z_65536, z_168516, z_171136, z_m1, z_m2, z_m1000000, z_m1000000000, z_1000000000, z_25173, z_13849, z_1000, z_m1000, z_m100, z_200, z_32, z_88, z_118, z_109, z_16, z_10000, z_1000000]; omega) | (simp (disch := omega) only [Int.toNat_natCast, iI_lt, iI_le, iI_eq, iI_add, iI_sub, iI_mul, iI_neg, iI_clamp, inb_ii, z_0, z_1, z_2, z_3, z_4, z_5, z_6, z_7, z_8, z_9, z_10, z_11, z_12, z_13, z_14, z_15, z_20, z_23, z_25, z_40, z_60, z_73, z_100, z_220, z_240, z_255, z_400, z_585, z_4681, z_5348, z_18724, z_21392, z_42784, z_60853, z_64176, z_65535, z_65536, z_168516, z_171136, z_m1, z_m2, z_m1000000, z_m1000000000, z_1000000000, z_25173, z_13849, z_1000, z_m1000, z_m100, z_200, z_32, z_88, z_118, z_109, z_16, z_10000, z_1000000]; done)))
          rfl
theorem rr_first {n : Nat} (hn : n ≤ 4) (s : SS) : f_X12_firstOf (iI n) s = some (iI (fsz n)) := by
  obtain rfl | rfl | rfl | rfl | rfl : n = 0 ∨ n = 1 ∨ n = 2 ∨ n = 3 ∨ n = 4 := by omega
  all_goals rfl
theorem fsz_le {x : Nat} : fsz (mny x) ≤ x := by
  by_cases h0 : x < 1
  · rw [mny_0 h0]; exact Nat.zero_le _
  · by_cases h1 : x < 9
    · rw [mny_1 (by omega)]; show 1 ≤ x; omega
    · by_cases h2 : x < 73
      · rw [mny_2 (by omega)]; show 9 ≤ x; omega
      · by_cases h3 : x < 585
        · rw [mny_3 (by omega)]; show 73 ≤ x; omega
        · rw [mny_4 (by omega)]; show 585 ≤ x; omega
theorem fsz_s (n : Nat) (h : n ≤ 3) : fsz (n + 1) = 8 * fsz n + 1 := by
  obtain rfl | rfl | rfl | rfl : n = 0 ∨ n = 1 ∨ n = 2 ∨ n = 3 := by omega
  all_goals rfl
def RTB (T : TW) (s : SS) : Prop := s 56 2 = iI T.1 ∧ ∀ i, i < 8 → s 58 i = T.2.1 0 i ∧ s 59 i = T.2.1 1 i ∧ s 60 i = T.2.1 2 i ∧ s 61 i = T.2.1 3 i
/-- the row that is laid out -/
def Laid (T : TW) (x : Nat) (s : SS) : Prop := s 56 48 = iI (mny x) ∧ (∀ i, i < mny x → s 80 i = iI (lwA x i)) ∧ s 56 49 = stn x ∧ s 56 50 = hI T x T.1
/-- what laying out a row may change -/
def RL (s t : SS) : Prop := (∀ k, k ≠ 56 → k ≠ 80 → t k = s k) ∧ ∀ j, j ≠ 48 → j ≠ 49 → j ≠ 50 → t 56 j = s 56 j
theorem RL.rf (s : SS) : RL s s := ⟨fun _ _ _ => rfl, fun _ _ _ _ => rfl⟩
theorem RL.tr {s t u : SS} (h : RL s t) (g : RL t u) : RL s u := ⟨fun k a b => (g.1 k a b).trans (h.1 k a b), fun j a b c => (g.2 j a b c).trans (h.2 j a b c)⟩
theorem RL.b {T : TW} {s t : SS} (h : RL s t) (g : RTB T s) : RTB T t := by
  unfold RTB
  rw [h.2 2 (by omega) (by omega) (by omega), h.1 58 (by omega) (by omega), h.1 59 (by omega) (by omega), h.1 60 (by omega) (by omega), h.1 61 (by omega) (by omega)]
  exact g
theorem RL.u1 {s : SS} {j : Nat} {v : Int32} (h : j = 48 ∨ j = 49 ∨ j = 50) : RL s (up s 56 j v) := ⟨fun k a _ => up_cell a, fun i a b c => up_slot (by omega)⟩
theorem RL.u8 {s : SS} {j : Nat} {v : Int32} : RL s (up s 80 j v) := ⟨fun k _ b => up_cell b, fun i _ _ _ => by rw [up_cell (by omega)]⟩
theorem or_mix (a b c : Int32) : (a ||| b) ||| c = a ||| (c ||| b) := by
  apply b_ext
  intro i hi
  rw [b_or, b_or, b_or, b_or]
  cases bt a i <;> cases bt b i <;> cases bt c i <;> rfl
theorem or_0 (a : Int32) : a ||| 0 = a := by
  apply b_ext
  intro i hi
  rw [b_or, b_0, Bool.or_false]
theorem stF_big : ∀ (k x : Nat), x < 4681 → mny x ≤ k → stF k x = stF (mny x) x := by
  intro k
  induction k with
  | zero => intro x hx h; rw [show mny x = 0 by omega]
  | succ k ih =>
    intro x hx h
    by_cases h0 : x = 0
    · subst h0; rw [mny_0 (by omega)]; show (if (0 : Nat) = 0 then (0 : Int32) else _) = 0; rw [if_pos rfl]
    · have hu := mny_up (x := x) (by omega) hx
      rw [hu]
      show (if x = 0 then (0 : Int32) else stF k ((x - 1) / 8) ||| sh1 ((x - 1) % 8)) = (if x = 0 then (0 : Int32) else stF (mny ((x - 1) / 8)) ((x - 1) / 8) ||| sh1 ((x - 1) % 8))
      rw [ih ((x - 1) / 8) (by omega) (by omega)]
theorem stn_up {x : Nat} (h0 : 0 < x) (hx : x < 4681) : stn x = stn ((x - 1) / 8) ||| sh1 ((x - 1) % 8) := by
  have hu := mny_up h0 hx
  have h4 := mny_le x
  unfold stn
  rw [stF_big 4 x hx h4, stF_big 4 ((x - 1) / 8) (by omega) (by omega), hu]
  show (if x = 0 then (0 : Int32) else stF (mny ((x - 1) / 8)) ((x - 1) / 8) ||| sh1 ((x - 1) % 8)) = _
  rw [if_neg (by omega)]
theorem stn_0 : stn 0 = 0 := rfl
theorem lwA_last {x : Nat} : lwA x (mny x - 1) = (x - 1) % 8 := by
  unfold lwA
  rw [show mny x - 1 - (mny x - 1) = 0 by omega]
  rfl
theorem lwA_up {x i : Nat} (h0 : 0 < x) (hx : x < 4681) (hi : i < mny ((x - 1) / 8)) : lwA x i = lwA ((x - 1) / 8) i := by
  have hu := mny_up h0 hx
  unfold lwA
  rw [show mny x - 1 - i = (mny ((x - 1) / 8) - 1 - i) + 1 by omega]
  rfl
theorem lp_lay {k : SS → Res} : ∀ (m N x : Nat) (s : SS), mny x = m → m < N → x < 4681 → ∃ t : SS, lp_X12_laysRow_30 k N (iI ((x - fsz (mny x) : Nat) : Int)) (iI ((m : Int) - 1)) s = k t ∧ (∀ i, i < m → t 80 i = iI (lwA x i)) ∧ (∀ i, m ≤ i → t 80 i = s 80 i) ∧ t 56 49 = s 56 49 ||| stn x ∧ t 56 48 = s 56 48 ∧ RL s t := by
  intro m
  induction m with
  | zero =>
    intro N x s hm hN hx
    cases N with
    | zero => omega
    | succ N =>
      have h0 : x = 0 := by
        by_cases q : x = 0
        · exact q
        · have := mny_up (x := x) (by omega) hx; omega
      subst h0
      refine ⟨s, ?_, fun i hi => absurd hi (by omega), fun i _ => rfl, by rw [stn_0, or_0], rfl, RL.rf s⟩
      rw [lp_X12_laysRow_30]
      exact e_if_t (by simp (disch := omega) only [Int.toNat_natCast, iI_lt, iI_le, iI_eq, iI_add, iI_sub, iI_mul, iI_neg, iI_clamp, inb_ii, z_0]; omega) rfl
  | succ m ih =>
    intro N x s hm hN hx
    cases N with
    | zero => omega
    | succ N =>
      have h4 := mny_le x
      have h0 : 0 < x := mny_pos (by omega)
      have hu := mny_up h0 hx
      have hf := fsz_le (x := x)
      have hf2 := fsz_le (x := (x - 1) / 8)
      have hs := fsz_s (mny ((x - 1) / 8)) (by omega)
      rw [← hu] at hs
      have ci : inb (iI ((m + 1 : Nat) - 1 : Int)) 4 := by simp (disch := omega) only [Int.toNat_natCast, iI_lt, iI_le, iI_eq, iI_add, iI_sub, iI_mul, iI_neg, iI_clamp, inb_ii]; omega
      have cl : Int32.toNatClampNeg (iI ((m + 1 : Nat) - 1 : Int)) = m := by simp (disch := omega) only [Int.toNat_natCast, iI_lt, iI_le, iI_eq, iI_add, iI_sub, iI_mul, iI_neg, iI_clamp, inb_ii]; omega
      have e1 : iI ((x - fsz (mny x) : Nat) : Int) - iI ((x - fsz (mny x) : Nat) : Int) / 8 * 8 = iI (((x - 1) % 8 : Nat) : Int) := by
        rw [z_8, iI_rem (by omega) (by omega)]
        congr 1
        omega
      have e2 : iI ((x - fsz (mny x) : Nat) : Int) / 8 = iI (((x - 1) / 8 - fsz (mny ((x - 1) / 8)) : Nat) : Int) := by
        rw [z_8, iI_div (by omega) (by omega)]
        congr 1
        omega
      have e3 : iI ((m + 1 : Nat) - 1 : Int) + (-1) = iI ((m : Int) - 1) := by
        rw [z_m1, iI_add]
        congr 1
        omega
      have nz : ¬ (8 : Int32) = 0 := by decide
      have e4 : (up s 80 m (iI (((x - 1) % 8 : Nat) : Int))) 80 m = iI (((x - 1) % 8 : Nat) : Int) := up_at _ _ _ _
      obtain ⟨t, g1, g2, g3, g4, g5, g6⟩ := ih N ((x - 1) / 8) (up (up s 80 m (iI (((x - 1) % 8 : Nat) : Int))) 56 49 ((up s 80 m (iI (((x - 1) % 8 : Nat) : Int))) 56 49 ||| sh1 ((x - 1) % 8))) (by omega) (by omega) (by omega)
      refine ⟨t, ?_, ?_, ?_, ?_, ?_, (RL.u8.tr (RL.u1 (j := 49) (by omega))).tr g6⟩
      · rw [lp_X12_laysRow_30]
        refine e_if_f (by simp (disch := omega) only [Int.toNat_natCast, iI_lt, iI_le, iI_eq, iI_add, iI_sub, iI_mul, iI_neg, iI_clamp, inb_ii, z_0]; omega) ?_
        refine e_gd nz ?_
        refine e_gd ci ?_
        refine e_lts ?_
        refine e_gd nz ?_
        refine e_lt ?_
        refine e_gd ci ?_
        refine e_lts ?_
        rw [e1, e2, e3, cl, e4]
        exact g1
      · intro i hi
        by_cases q : i < m
        · rw [g2 i q, lwA_up h0 hx (by omega)]
        · obtain rfl : i = m := by omega
          rw [g3 i (Nat.le_refl i), up_cell (by omega), up_at, show i = mny x - 1 by omega, lwA_last]
      · intro i hi
        rw [g3 i (by omega), up_cell (by omega), up_slot (by omega)]
      · rw [g4, up_at, up_cell (by omega), or_mix, ← stn_up h0 hx]
      · rw [g5, up_slot (by omega), up_cell (by omega)]
theorem lp_hold {T : TW} (hT : T.1 ≤ 8) {x : Nat} : ∀ (m N i : Nat) (s : SS), i + m = T.1 → m < N → RTB T s → s 56 49 = stn x → s 56 50 = hI T x i → ∃ t : SS, lp_X12_laysRow_79 N (iI i) s = some (0, t) ∧ t 56 50 = hI T x T.1 ∧ t 56 49 = s 56 49 ∧ t 56 48 = s 56 48 ∧ t 80 = s 80 ∧ RL s t := by
  intro m
  induction m with
  | zero =>
    intro N i s hi hN hs h49 h50
    cases N with
    | zero => omega
    | succ N =>
      obtain rfl : i = T.1 := by omega
      refine ⟨s, ?_, h50, rfl, rfl, rfl, RL.rf s⟩
      rw [lp_X12_laysRow_79]
      exact e_if_t (by rw [hs.1]; simp (disch := omega) only [Int.toNat_natCast, iI_lt, iI_le, iI_eq, iI_add, iI_sub, iI_mul, iI_neg, iI_clamp, inb_ii]; omega) rfl
  | succ m ih =>
    intro N i s hi hN hs h49 h50
    cases N with
    | zero => omega
    | succ N =>
      have cc : ¬ s 56 2 ≤ iI (i : Int) := by rw [hs.1]; simp (disch := omega) only [Int.toNat_natCast, iI_lt, iI_le, iI_eq, iI_add, iI_sub, iI_mul, iI_neg, iI_clamp, inb_ii]; omega
      have ci : inb (iI (i : Int)) 8 := by simp (disch := omega) only [Int.toNat_natCast, iI_lt, iI_le, iI_eq, iI_add, iI_sub, iI_mul, iI_neg, iI_clamp, inb_ii]; omega
      have cl : Int32.toNatClampNeg (iI (i : Int)) = i := by simp (disch := omega) only [Int.toNat_natCast, iI_lt, iI_le, iI_eq, iI_add, iI_sub, iI_mul, iI_neg, iI_clamp, inb_ii]
      have nx : iI (i : Int) + 1 = iI ((i + 1 : Nat) : Int) := by rw [z_1, iI_add]; rfl
      have zh := has_f (v := s 56 49) (l := i) s (by omega)
      have d2 : ((s 59 (Int32.toNatClampNeg (iI (i : Int))) &&& (s 56 49 ^^^ (-1))) = 0) = ((T.2.1 1 i &&& (stn x ^^^ (-1))) = 0) := by rw [cl, (hs.2 i (by omega)).2.1, h49]
      have un : hI T x (i + 1) = if hcond T x i = true then hI T x i ||| sh1 i else hI T x i := rfl
      have go : ∀ v : Int32, s 56 50 ||| v = hI T x (i + 1) → ∃ t : SS, lp_X12_laysRow_79 N (iI ((i + 1 : Nat) : Int)) (up s 56 50 (s 56 50 ||| v)) = some (0, t) ∧ t 56 50 = hI T x T.1 ∧ t 56 49 = s 56 49 ∧ t 56 48 = s 56 48 ∧ t 80 = s 80 ∧ RL s t := by
        intro v hv
        obtain ⟨t, g1, g2, g3, g4, g5, g6⟩ := ih N (i + 1) (up s 56 50 (s 56 50 ||| v)) (by omega) (by omega) ((RL.u1 (j := 50) (by omega)).b hs) (by rw [up_slot (by omega)]; exact h49) (by rw [up_at]; exact hv)
        exact ⟨t, g1, g2, by rw [g3, up_slot (by omega)], by rw [g4, up_slot (by omega)], by rw [g5, up_cell (by omega)], (RL.u1 (j := 50) (by omega)).tr g6⟩
      by_cases q1 : bt (stn x) i = true
      · rw [h49, if_pos q1] at zh
        rw [← h49] at zh
        have n1 : ¬ (1 : Int32) = 0 := by decide
        by_cases q2 : (T.2.1 1 i &&& (stn x ^^^ (-1))) = 0
        · have hc : hcond T x i = true := by unfold hcond; rw [q1, decide_eq_true q2]; rfl
          rw [if_pos hc] at un
          obtain ⟨t, g1, g2⟩ := go (1 <<< (iI (i : Int) &&& 31)) (by rw [un, h50]; rfl)
          refine ⟨t, ?_, g2⟩
          rw [lp_X12_laysRow_79]
          repeat (first
            | (with_reducible refine e_gd ?sd ?_; case sd => first | decide | exact ci)
            | with_reducible refine e_up ?_
            | with_reducible refine e_up0 ?_
            | with_reducible refine e_upl ?_
            | with_reducible refine e_upl0 ?_
            | with_reducible refine e_jn ?_
            | with_reducible refine e_lt ?_
            | with_reducible refine e_if_f (cc) ?_
            | with_reducible refine e_bdp (zh) ?_
            | with_reducible refine e_if_f (n1) ?_
            | with_reducible refine e_if_t (d2.mpr q2) ?_)
          refine e_lts ?_
          rw [nx]
          exact g1
        · have hc : ¬ hcond T x i = true := by unfold hcond; rw [decide_eq_false q2, Bool.and_false]; decide
          rw [if_neg hc] at un
          obtain ⟨t, g1, g2⟩ := go 0 (by rw [un, h50, or_0])
          refine ⟨t, ?_, g2⟩
          rw [lp_X12_laysRow_79]
          repeat (first
            | (with_reducible refine e_gd ?sd ?_; case sd => first | decide | exact ci)
            | with_reducible refine e_up ?_
            | with_reducible refine e_up0 ?_
            | with_reducible refine e_upl ?_
            | with_reducible refine e_upl0 ?_
            | with_reducible refine e_jn ?_
            | with_reducible refine e_lt ?_
            | with_reducible refine e_if_f (cc) ?_
            | with_reducible refine e_bdp (zh) ?_
            | with_reducible refine e_if_f (n1) ?_
            | with_reducible refine e_if_f (mt d2.mp q2) ?_)
          refine e_lts ?_
          rw [nx]
          exact g1
      · rw [h49, if_neg q1] at zh
        rw [← h49] at zh
        have hc : ¬ hcond T x i = true := by unfold hcond; simp [q1]
        rw [if_neg hc] at un
        have n0 : (0 : Int32) = 0 := rfl
        obtain ⟨t, g1, g2⟩ := go 0 (by rw [un, h50, or_0])
        refine ⟨t, ?_, g2⟩
        rw [lp_X12_laysRow_79]
        repeat (first
          | (with_reducible refine e_gd ?sd ?_; case sd => first | decide | exact ci)
          | with_reducible refine e_up ?_
          | with_reducible refine e_up0 ?_
          | with_reducible refine e_upl ?_
          | with_reducible refine e_upl0 ?_
          | with_reducible refine e_jn ?_
          | with_reducible refine e_lt ?_
          | with_reducible refine e_if_f (cc) ?_
          | with_reducible refine e_bdp (zh) ?_
          | with_reducible refine e_if_t (n0) ?_)
        refine e_lts ?_
        rw [nx]
        exact g1
theorem rr_lay {T : TW} (hT : T.1 ≤ 8) {x : Nat} {s : SS} (hs : RTB T s) (hx : x < 4681) : ∃ t : SS, f_X12_laysRow (iI x) s = some (0, t) ∧ RL s t ∧ Laid T x t := by
  have h4 := mny_le x
  have hf := fsz_le (x := x)
  let s2 := up s 56 48 (iI (mny x))
  let s5 := up s2 56 49 0
  have r5 : RL s s5 := (RL.u1 (j := 48) (by omega)).tr (RL.u1 (j := 49) (by omega))
  have e48 : s5 56 48 = iI (mny x) := by show up s2 56 49 0 56 48 = _; rw [up_slot (by omega)]; exact up_at _ _ _ _
  have e49 : s5 56 49 = 0 := up_at _ _ _ _
  obtain ⟨t1, g1, g2, -, g4, g5, g6⟩ := lp_lay (k := fun s7 => lts (up s7 56 50 0) (fun s9 => lp_X12_laysRow_79 FU 0 s9)) (mny x) FU x s5 rfl (fu_lt (by omega)) hx
  have r9 : RL s (up t1 56 50 0) := (r5.tr g6).tr (RL.u1 (j := 50) (by omega))
  obtain ⟨t, f1, f2, f3, f4, f5, f6⟩ := lp_hold hT (x := x) T.1 FU 0 (up t1 56 50 0) (by omega) (fu_lt (by omega)) (r9.b hs) (by rw [up_slot (by omega), g4, e49]; apply b_ext; intro i hi; rw [b_or, b_0, Bool.false_or]) (by rw [up_at]; rfl)
  refine ⟨t, ?_, r9.tr f6, by rw [f4, up_slot (by omega), g5, e48], fun i hi => by rw [f5, up_cell (by omega)]; exact g2 i hi, ?_, f2⟩
  · unfold f_X12_laysRow
    refine e_bdp (rr_many hx s) ?_
    refine e_lts ?_
    refine e_bdp (v := iI (fsz (mny x))) (by rw [up_at]; exact rr_first h4 _) ?_
    refine e_lt ?_
    refine e_lts ?_
    refine e_lt ?_
    refine e_jn ?_
    have a1 : iI (x : Int) - iI (fsz (mny x) : Int) = iI ((x - fsz (mny x) : Nat) : Int) := by rw [iI_sub]; congr 1; omega
    have a2 : s5 56 48 - 1 = iI ((mny x : Int) - 1) := by rw [e48, z_1, iI_sub]
    rw [a1]
    show lp_X12_laysRow_30 _ FU (iI ((x - fsz (mny x) : Nat) : Int)) (s5 56 48 - 1) s5 = _
    rw [a2]
    refine Eq.trans g1 ?_
    refine e_lts ?_
    exact f1
  · rw [f3, up_slot (by omega), g4, e49]
    apply b_ext
    intro i hi
    rw [b_or, b_0, Bool.false_or]
