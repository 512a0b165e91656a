/-! the class's rows come out of listAll -/
variable {s t u : SS}
def RWE (n x : Nat) (s : SS) : Prop := s 4 (br n + x) >>> (16 &&& 31) = iI n ∧ (s 4 (br n + x) >>> (12 &&& 31)) &&& 15 = iI (mny x) ∧ s 4 (br n + x) &&& 255 = stn x ∧ (s 4 (br n + x) >>> (8 &&& 31)) &&& 15 = iI (old x) ∧ s 8 (br n + x) = iI ((br n + (8 * cut n x + 1) : Nat) : Int)
def DW (w : Nat) (s t : SS) : Prop := (∀ q, q < 4 ∨ 8 < q → t q = s q) ∧ ∀ q j, j ≠ w → t q j = s q j
theorem lts_eq {a b : SS} {F : SS → Res} {r : Res} (h : a = b) (k : F b = r) : lts a F = r := by
  subst h
  exact k
theorem DW.rf (w : Nat) (s : SS) : DW w s s := ⟨fun _ _ => rfl, fun _ _ _ => rfl⟩
theorem DW.tr {w : Nat} (h : DW w s t) (g : DW w t u) : DW w s u := ⟨fun q a => (g.1 q a).trans (h.1 q a), fun q j a => (g.2 q j a).trans (h.2 q j a)⟩
theorem DW.uu {w k : Nat} {v : Int32} (h : 4 ≤ k ∧ k ≤ 8) : DW w s (up s k w v) := ⟨fun q a => up_cell (by omega), fun q j a => by
  by_cases e : q = k
  · subst e; exact up_slot a
  · rw [up_cell e]⟩
theorem RWE.dw {n x w : Nat} (h : RWE n x s) (g : DW w s t) (hw : br n + x ≠ w) : RWE n x t := by
  unfold RWE at h ⊢
  rw [g.2 4 _ hw, g.2 8 _ hw]
  exact h
theorem b_15 (i : Nat) : bt 15 i = decide (i < 4) := by
  rcases Nat.lt_or_ge i 32 with h | h
  · exact (by decide +kernel : ∀ i, i < 32 → bt 15 i = decide (i < 4)) i h
  · rw [b_big h, decide_eq_false (by omega)]
theorem b_shl12 (x : Int32) {i : Nat} (hi : i < 32) : bt (x <<< ((12 : Int32) &&& 31)) i = (decide (12 ≤ i) && bt x (i - 12)) := b_shl 12 (by omega) x hi
theorem b_sshr12 (x : Int32) {i : Nat} (hi : i < 32) : bt (x >>> ((12 : Int32) &&& 31)) i = if 12 + i < 32 then bt x (12 + i) else bt x 31 := b_sshr 12 (by omega) x hi
theorem b_sshr16 (x : Int32) {i : Nat} (hi : i < 32) : bt (x >>> ((16 : Int32) &&& 31)) i = if 16 + i < 32 then bt x (16 + i) else bt x 31 := b_sshr 16 (by omega) x hi
/-- length, how many, which stand and the oldest side by side -/
theorem pkw {st o m k : Int32} (h1 : sml 8 st) (h2 : sml 4 o) (h3 : sml 3 m) (h4 : sml 3 k) : (((st ||| (o <<< (8 &&& 31))) ||| (m <<< (12 &&& 31))) ||| (k <<< (16 &&& 31))) >>> (16 &&& 31) = k ∧ ((((st ||| (o <<< (8 &&& 31))) ||| (m <<< (12 &&& 31))) ||| (k <<< (16 &&& 31))) >>> (12 &&& 31)) &&& 15 = m ∧ (((st ||| (o <<< (8 &&& 31))) ||| (m <<< (12 &&& 31))) ||| (k <<< (16 &&& 31))) &&& 255 = st ∧ ((((st ||| (o <<< (8 &&& 31))) ||| (m <<< (12 &&& 31))) ||| (k <<< (16 &&& 31))) >>> (8 &&& 31)) &&& 15 = o := by
  have hv : ∀ i, i < 32 → bt (((st ||| (o <<< (8 &&& 31))) ||| (m <<< (12 &&& 31))) ||| (k <<< (16 &&& 31))) i = (((bt st i || (decide (8 ≤ i) && bt o (i - 8))) || (decide (12 ≤ i) && bt m (i - 12))) || (decide (16 ≤ i) && bt k (i - 16))) := by
    intro i hi
    rw [b_or, b_or, b_or, b_shl8 _ hi, b_shl12 _ hi, b_shl16 _ hi]
  generalize (((st ||| (o <<< (8 &&& 31))) ||| (m <<< (12 &&& 31))) ||| (k <<< (16 &&& 31))) = V at hv ⊢
  refine ⟨?_, ?_, ?_, ?_⟩
  · apply b_ext
    intro i hi
    rw [b_sshr16 V hi]
    by_cases q : 16 + i < 32
    · rw [if_pos q, hv _ q, h1 _ (by omega), h2 _ (show 4 ≤ 16 + i - 8 by omega), h3 _ (show 3 ≤ 16 + i - 12 by omega), decide_eq_true (show 16 ≤ 16 + i by omega), show 16 + i - 16 = i by omega]
      simp
    · rw [if_neg q, hv 31 (by omega), h1 31 (by omega), h2 (31 - 8) (by omega), h3 (31 - 12) (by omega), h4 (31 - 16) (by omega), h4 i (by omega)]
      simp
  · apply b_ext
    intro i hi
    rw [b_and, b_15, b_sshr12 V hi]
    by_cases q : i < 4
    · rw [if_pos (by omega), hv _ (by omega), h1 _ (by omega), h2 _ (show 4 ≤ 12 + i - 8 by omega), decide_eq_true q, decide_eq_true (show 12 ≤ 12 + i by omega), decide_eq_false (show ¬ 16 ≤ 12 + i by omega), show 12 + i - 12 = i by omega]
      simp
    · rw [decide_eq_false q, h3 i (by omega), Bool.and_false]
  · apply b_ext
    intro i hi
    rw [b_and, b_255]
    by_cases q : i < 8
    · rw [hv _ hi, decide_eq_true q, decide_eq_false (show ¬ 8 ≤ i by omega), decide_eq_false (show ¬ 12 ≤ i by omega), decide_eq_false (show ¬ 16 ≤ i by omega)]
      simp
    · rw [decide_eq_false q, h1 i (by omega), Bool.and_false]
  · apply b_ext
    intro i hi
    rw [b_and, b_15, b_sshr8 V hi]
    by_cases q : i < 4
    · rw [if_pos (by omega), hv _ (by omega), h1 _ (by omega), decide_eq_true q, decide_eq_true (show 8 ≤ 8 + i by omega), decide_eq_false (show ¬ 12 ≤ 8 + i by omega), decide_eq_false (show ¬ 16 ≤ 8 + i by omega), show 8 + i - 8 = i by omega]
      simp
    · rw [decide_eq_false q, h2 i (by omega), Bool.and_false]
theorem stF_sml : ∀ k x : Nat, sml 8 (stF k x) := by
  intro k
  induction k with
  | zero => intro x i _; exact b_0 i
  | succ k ih =>
    intro x i hi
    unfold stF
    by_cases q : x = 0
    · rw [if_pos q]; exact b_0 i
    · rw [if_neg q, b_or, ih _ i hi]
      rcases Nat.lt_or_ge i 32 with h | h
      · rw [sh1_bt (by omega) h, decide_eq_false (by omega)]
        rfl
      · rw [b_big h]
        rfl
theorem sh_p : ∀ n : Nat, n < 5 → 1 ≤ n → ∀ k : Nat, k < 10 → (iI (k : Int)) <<< (((3 : Int32) * (iI (n : Int) - 1)) &&& 31) = iI ((k * p8 (n - 1) : Nat) : Int) := by decide +kernel
theorem fall_le {n y : Nat} (hn : 1 ≤ n ∧ n ≤ 4) (hm : mny y = n) : (old y + 1) * p8 (n - 1) ≤ y := by
  by_cases h0 : y < 1
  · rw [mny_0 h0] at hm; omega
  · by_cases h1 : y < 9
    · rw [mny_1 (by omega)] at hm
      subst hm
      rw [old_1 (by omega)]
      show (y - 1 + 1) * 1 ≤ y
      omega
    · by_cases h2 : y < 73
      · rw [mny_2 (by omega)] at hm
        subst hm
        rw [old_2 (by omega)]
        show ((y - 9) / 8 + 1) * 8 ≤ y
        omega
      · by_cases h3 : y < 585
        · rw [mny_3 (by omega)] at hm
          subst hm
          rw [old_3 (by omega)]
          show ((y - 73) / 64 + 1) * 64 ≤ y
          omega
        · rw [mny_4 (by omega)] at hm
          subst hm
          rw [old_4 (by omega)]
          show ((y - 585) / 512 + 1) * 512 ≤ y
          omega
/-- a row's entry is written -/
def wrR (s : SS) (n y : Nat) : SS := up (up s 4 (br n + y) (((stn y ||| (iI (old y) <<< (8 &&& 31))) ||| (iI (mny y) <<< (12 &&& 31))) ||| (iI n <<< (16 &&& 31)))) 8 (br n + y) (iI ((br n + (8 * cut n y + 1) : Nat) : Int))
theorem wrR_ok {n y : Nat} (hn : 1 ≤ n ∧ n ≤ 4) (hy : y < szR n) (s : SS) : DW (br n + y) s (wrR s n y) ∧ RWE n y (wrR s n y) := by
  have hb := sz_lt hn hy
  have ml := mny_le y
  have ol := (old_lt hb.2).1
  refine ⟨(DW.uu (by omega)).tr (DW.uu (by omega)), ?_⟩
  have e4 : wrR s n y 4 (br n + y) = (((stn y ||| (iI (old y) <<< (8 &&& 31))) ||| (iI (mny y) <<< (12 &&& 31))) ||| (iI n <<< (16 &&& 31))) := by
    unfold wrR
    rw [up_cell (by omega), up_at]
  have e8 : wrR s n y 8 (br n + y) = iI ((br n + (8 * cut n y + 1) : Nat) : Int) := up_at _ _ _ _
  unfold RWE
  rw [e4, e8]
  obtain ⟨a, b, c, d⟩ := pkw (st := stn y) (o := iI (old y)) (m := iI (mny y)) (k := iI n) (stF_sml 4 y) (sml_of (by omega) (by omega)) (sml_of (by omega) (by omega)) (sml_of (by omega) (by omega))
  exact ⟨a, b, c, d, rfl⟩
theorem la_fin {n y w : Nat} (hn : 1 ≤ n ∧ n ≤ 4) (hy : y < szR n) (hw : w = br n + y) (K : SS → Res) (s : SS) : (gd (inb (iI (w : Int)) 5348) (lts (up s 4 (Int32.toNatClampNeg (iI (w : Int))) (((stn y ||| (iI (old y) <<< (8 &&& 31))) ||| (iI (mny y) <<< (12 &&& 31))) ||| (iI n <<< (16 &&& 31)))) (fun (s12 : SS) => jn (fun (v13 : Int32) => gd (inb (iI (w : Int)) 5348) (lts (up s12 8 (Int32.toNatClampNeg (iI (w : Int))) ((iI (br n : Int) + (((iI (w : Int) - iI (br n : Int)) - v13) * 8)) + 1)) (fun (s15 : SS) => K s15))) (fun (k14 : Int32 → Res) => if (iI (mny y : Int) : Int32) = (iI (n : Int) : Int32) then k14 ((iI (old y : Int) + 1) <<< ((3 * (iI (n : Int) - 1)) &&& 31)) else k14 0)))) = K (wrR s n y) := by
  have hb := sz_lt hn hy
  have gw : inb (iI (w : Int)) 5348 := by simp (disch := omega) only [Int.toNat_natCast, iI_lt, iI_le, iI_eq, iI_add, iI_sub, iI_mul, iI_neg, iI_clamp, inb_ii]; omega
  have cw : Int32.toNatClampNeg (iI (w : Int)) = w := by rw [iI_clamp (by omega), Int.toNat_natCast]
  have ml := mny_le y
  have fin : ∀ f : Nat, f ≤ y → (iI (br n : Int) + (((iI (w : Int) - iI (br n : Int)) - iI (f : Int)) * 8)) + 1 = iI ((br n + (8 * (y - f) + 1) : Nat) : Int) := by
    intro f hf
    rw [show (8 : Int32) = iI 8 from rfl, show (1 : Int32) = iI 1 from rfl, iI_sub, iI_sub, iI_mul, iI_add, iI_add]
    congr 1
    omega
  rw [cw]
  refine e_gd gw ?_
  refine e_lts ?_
  refine e_jn ?_
  by_cases q : mny y = n
  · refine e_if_t (by rw [q]) ?_
    refine e_gd gw ?_
    have ol := (old_lt hb.2).1
    have o2 := fall_le hn q
    rw [nx_s, sh_p n (by omega) hn.1 (old y + 1) (by omega), fin _ o2]
    refine lts_eq (b := wrR s n y) ?_ rfl
    unfold wrR
    rw [hw, show cut n y = y - (old y + 1) * p8 (n - 1) from if_pos q]
  · refine e_if_f (by rw [iI_eq (by omega) (by omega)]; omega) ?_
    refine e_gd gw ?_
    rw [show (0 : Int32) = iI ((0 : Nat) : Int) from rfl, fin 0 (Nat.zero_le _), Nat.sub_zero]
    refine lts_eq (b := wrR s n y) ?_ rfl
    unfold wrR
    rw [hw, show cut n y = y from if_neg q]
theorem la_lp {n : Nat} (hn : 1 ≤ n ∧ n ≤ 4) : ∀ (m N y : Nat) (s : SS), y + m = szR n → m < N → (∀ x, x < y → RWE n x s) → ∃ t, lp_X6_listAll_15 (iI n) (iI (br n)) (iI ((br n + szR n : Nat) : Int)) N (iI ((br n + y : Nat) : Int)) s = some (0, t) ∧ (∀ x, x < szR n → RWE n x t) ∧ (∀ q, q < 4 ∨ 8 < q → t q = s q) ∧ ∀ q j, (j < br n ∨ br n + szR n ≤ j) → t q j = s q j := by
  intro m
  induction m with
  | zero =>
    intro N y s hy hN h1
    obtain ⟨N, rfl⟩ : ∃ M, N = M + 1 := ⟨N - 1, by omega⟩
    refine ⟨s, ?_, fun x hx => h1 x (by omega), fun _ _ => rfl, fun _ _ _ => rfl⟩
    rw [lp_X6_listAll_15, show y = szR n by omega]
    exact e_if_t (by rw [le32]; exact Int.le_refl _) rfl
  | succ m ih =>
    intro N y s hy hN h1
    obtain ⟨N, rfl⟩ : ∃ M, N = M + 1 := ⟨N - 1, by omega⟩
    have hyn : y < szR n := by omega
    have hb := sz_lt hn hyn
    have hbe : br n + szR n ≤ 5348 := by
      obtain rfl | rfl | rfl | rfl : n = 1 ∨ n = 2 ∨ n = 3 ∨ n = 4 := by omega
      all_goals decide
    obtain ⟨hD, hE⟩ := wrR_ok hn hyn s
    obtain ⟨t, g1, g2, g3, g4⟩ := ih N (y + 1) (wrR s n y) (by omega) (by omega) (fun x hx => by
      by_cases e : x = y
      · subst e; exact hE
      · exact (h1 x (by omega)).dw hD (by omega))
    refine ⟨t, ?_, g2, fun q hq => (g3 q hq).trans (hD.1 q hq), fun q j hj => (g4 q j hj).trans (hD.2 q j (by omega))⟩
    obtain ⟨w, hw⟩ : ∃ w, w = br n + y := ⟨_, rfl⟩
    rw [show br n + (y + 1) = w + 1 by omega, ← nx_s] at g1
    have fin := (la_fin hn hyn hw (fun (s15 : SS) => lp_X6_listAll_15 (iI n) (iI (br n)) (iI ((br n + szR n : Nat) : Int)) N (iI (w : Int) + 1) s15) s).trans g1
    rw [← hw]
    rw [lp_X6_listAll_15]
    refine e_if_f (by simp (disch := omega) only [Int.toNat_natCast, iI_lt, iI_le, iI_eq, iI_add, iI_sub, iI_mul, iI_neg, iI_clamp, inb_ii]; omega) ?_
    refine e_if_f (by rw [show (5348 : Int32) = iI 5348 from rfl]; simp (disch := omega) only [Int.toNat_natCast, iI_lt, iI_le, iI_eq, iI_add, iI_sub, iI_mul, iI_neg, iI_clamp, inb_ii]; omega) ?_
    refine e_jn ?_
    by_cases y0 : y = 0
    · subst y0
      have w0 : w = br n := by omega
      rw [show stn 0 = 0 from rfl, show old 0 = 8 by decide, show mny 0 = 0 by decide] at fin
      refine e_if_t (by rw [w0, le32]; exact Int.le_refl _) ?_
      exact fin
    · have hx' : (y - 1) / 8 < y := by omega
      have hx2 : (y - 1) / 8 < szR n := by omega
      have hb2 := sz_lt hn hx2
      obtain ⟨r4, r5, r6, r7, r8⟩ := h1 ((y - 1) / 8) hx'
      have d1 : (iI (w : Int) - iI (br n : Int)) - 1 = iI ((y - 1 : Nat) : Int) := by
        rw [show (1 : Int32) = iI 1 from rfl, iI_sub, iI_sub]
        congr 1
        omega
      have d2 : iI ((y - 1 : Nat) : Int) / 8 = iI (((y - 1) / 8 : Nat) : Int) := by
        rw [z_8, iI_div (by omega) (by omega)]
        congr 1
      have d3 : iI ((y - 1 : Nat) : Int) - iI ((y - 1 : Nat) : Int) / 8 * 8 = iI (((y - 1) % 8 : Nat) : Int) := by
        rw [z_8, iI_rem (by omega) (by omega)]
        congr 1
      have d4 : iI (br n : Int) + iI (((y - 1) / 8 : Nat) : Int) = iI ((br n + (y - 1) / 8 : Nat) : Int) := by
        rw [iI_add]
        congr 1
      obtain ⟨v, hv⟩ : ∃ v, v = br n + (y - 1) / 8 := ⟨_, rfl⟩
      rw [← hv] at r4 r5 r6 r7 r8 d4
      have gv : inb (iI (v : Int)) 5348 := by simp (disch := omega) only [Int.toNat_natCast, iI_lt, iI_le, iI_eq, iI_add, iI_sub, iI_mul, iI_neg, iI_clamp, inb_ii]; omega
      have cv' : Int32.toNatClampNeg (iI (v : Int)) = v := by rw [iI_clamp (by omega), Int.toNat_natCast]
      have c1 : ¬ iI (v : Int) < 0 := by simp (disch := omega) only [Int.toNat_natCast, iI_lt, iI_le, iI_eq, iI_add, iI_sub, iI_mul, iI_neg, iI_clamp, inb_ii, z_0]; omega
      have c2 : iI (v : Int) < (5348 : Int32) := by rw [show (5348 : Int32) = iI 5348 from rfl]; simp (disch := omega) only [Int.toNat_natCast, iI_lt, iI_le, iI_eq, iI_add, iI_sub, iI_mul, iI_neg, iI_clamp, inb_ii]; omega
      have e19 : f_X6_sizeOf (iI v) s = some (iI (mny ((y - 1) / 8))) := by
        unfold f_X6_sizeOf
        refine e_jn ?_
        refine e_if_f c1 ?_
        refine e_if_t c2 ?_
        refine e_gd gv ?_
        rw [cv', r5]
      have e21 : f_X6_standingOn (iI v) s = some (stn ((y - 1) / 8)) := by
        unfold f_X6_standingOn
        refine e_jn ?_
        refine e_if_f c1 ?_
        refine e_if_t c2 ?_
        refine e_gd gv ?_
        rw [cv', r6]
      have e27 : f_X6_oldestOn (iI v) s = some (iI (old ((y - 1) / 8))) := by
        unfold f_X6_oldestOn
        refine e_jn ?_
        refine e_if_f c1 ?_
        refine e_if_t c2 ?_
        refine e_gd gv ?_
        rw [cv', r7]
      refine e_if_f (by simp (disch := omega) only [Int.toNat_natCast, iI_lt, iI_le, iI_eq, iI_add, iI_sub, iI_mul, iI_neg, iI_clamp, inb_ii]; omega) ?_
      rw [d1, d3, d2, d4]
      refine e_gd (by decide) ?_
      refine e_lt ?_
      refine e_gd (by decide) ?_
      refine e_lt ?_
      refine e_bdp e19 ?_
      refine e_lt ?_
      refine e_bdp e21 ?_
      refine e_lt ?_
      refine e_jn ?_
      have ou := old_up (x := y) (by omega) hb.2
      have um := mny_up (x := y) (by omega) hb.2
      have us : stn ((y - 1) / 8) ||| (1 <<< (iI (((y - 1) % 8 : Nat) : Int) &&& 31)) = stn y := (stn_up (by omega) hb.2).symm
      rw [nx_s (mny ((y - 1) / 8)), ← um, us]
      by_cases v0 : (y - 1) / 8 = 0
      · rw [if_pos v0] at ou
        refine e_if_t (by rw [hv, v0]; rfl) ?_
        rw [← ou]
        exact fin
      · rw [if_neg v0] at ou
        refine e_if_f (by rw [iI_eq (by omega) (by omega)]; omega) ?_
        refine e_bdp e27 ?_
        rw [← ou]
        exact fin
