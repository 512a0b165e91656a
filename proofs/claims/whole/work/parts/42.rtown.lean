theorem p8_s {n : Nat} (h : n ≤ 3) : p8 (n + 1) = p8 n * 8 := by
  obtain rfl | rfl | rfl | rfl : n = 0 ∨ n = 1 ∨ n = 2 ∨ n = 3 := by omega
  all_goals rfl
theorem lp_keep {a2 v4 : Int32} {s : SS} {k : Int32 → Option Int32} {m : Nat} (hm : m ≤ 4) : ∀ (j N i : Nat), 1 ≤ i → i + j = m → j < N → lp_X12_behind_50 a2 s (iI m) v4 k N (iI (p8 (i - 1))) (iI i) = k (iI (p8 (m - 1))) := by
  intro j
  induction j with
  | zero =>
    intro N i hi hj hN
    cases N with
    | zero => omega
    | succ N =>
      obtain rfl : i = m := by omega
      rw [lp_X12_behind_50]
      exact e_if_t (by simp (disch := omega) only [Int.toNat_natCast, iI_lt, iI_le, iI_eq, iI_add, iI_sub, iI_mul, iI_neg, iI_clamp, inb_ii]; omega) rfl
  | succ j ih =>
    intro N i hi hj hN
    cases N with
    | zero => omega
    | succ N =>
      rw [lp_X12_behind_50]
      refine e_if_f (by simp (disch := omega) only [Int.toNat_natCast, iI_lt, iI_le, iI_eq, iI_add, iI_sub, iI_mul, iI_neg, iI_clamp, inb_ii]; omega) ?_
      refine e_lt ?_
      have e1 : iI (p8 (i - 1) : Int) * 8 = iI (p8 (i + 1 - 1) : Int) := by
        rw [z_8, iI_mul, show i + 1 - 1 = (i - 1) + 1 by omega, p8_s (by omega)]
        rfl
      have e2 : iI (i : Int) + 1 = iI ((i + 1 : Nat) : Int) := by rw [z_1, iI_add]; rfl
      rw [e1, e2]
      exact ih N (i + 1) (by omega) (by omega) (by omega)
theorem rr_behind {s : SS} {n x l : Nat} (h3 : s 56 3 = iI n) (hn : 1 ≤ n ∧ n ≤ 4) (hx : x < szR n) (hl : l ≤ 8) : f_X12_behind (iI x) (iI l) s = some (iI (bh n x l)) := by
  have hx2 := (sz_lt hn hx).2
  have h4 := mny_le x
  have hf := fsz_le (x := x)
  have hmn := mny_sz hn hx
  unfold f_X12_behind
  by_cases q : l = 8
  · subst q
    have : bh n x 8 = x := by unfold bh; rw [if_pos rfl]
    rw [this]
    exact e_if_t (by simp (disch := omega) only [Int.toNat_natCast, iI_lt, iI_le, iI_eq, iI_add, iI_sub, iI_mul, iI_neg, iI_clamp, inb_ii, z_8]; rfl) rfl
  · have hb : bh n x l = 8 * cut n x + 1 + l := by unfold bh; rw [if_neg q]
    refine e_if_f (by simp (disch := omega) only [Int.toNat_natCast, iI_lt, iI_le, iI_eq, iI_add, iI_sub, iI_mul, iI_neg, iI_clamp, inb_ii, z_8]; omega) ?_
    refine e_bdp (rr_many hx2 s) ?_
    refine e_bdp (rr_first h4 s) ?_
    refine e_lt ?_
    have a1 : iI (x : Int) - iI (fsz (mny x) : Int) = iI ((x - fsz (mny x) : Nat) : Int) := by rw [iI_sub]; congr 1; omega
    rw [a1]
    by_cases q2 : mny x = n
    · refine e_if_t (by rw [h3]; simp (disch := omega) only [Int.toNat_natCast, iI_lt, iI_le, iI_eq, iI_add, iI_sub, iI_mul, iI_neg, iI_clamp, inb_ii]; omega) ?_
      refine e_jn ?_
      refine Eq.trans (lp_keep (m := mny x) h4 (mny x - 1) FU 1 (by omega) (by omega) (fu_lt (by omega))) ?_
      refine e_bdp (rr_first h4 s) ?_
      have hp : 0 < p8 (mny x - 1) ∧ p8 (mny x - 1) ≤ 512 := by
        obtain e | e | e | e : mny x = 1 ∨ mny x = 2 ∨ mny x = 3 ∨ mny x = 4 := by omega
        all_goals rw [e]; decide
      refine e_gd (by simp (disch := omega) only [Int.toNat_natCast, iI_lt, iI_le, iI_eq, iI_add, iI_sub, iI_mul, iI_neg, iI_clamp, inb_ii, z_0]; omega) ?_
      rw [iI_rem (by omega) (by omega), z_8, iI_mul, iI_add, iI_add, hb]
      congr 2
      subst q2
      obtain e | e | e | e : mny x = 1 ∨ mny x = 2 ∨ mny x = 3 ∨ mny x = 4 := by omega
      · have hx3 : 1 ≤ x ∧ x < 9 := ⟨mny_pos (by omega), by rw [e] at hx; exact hx⟩
        rw [e, cut_1 hx3]
        show (1 : Int) + 8 * (((x - 1 : Nat) : Int) % 1) + l = _
        omega
      · have hx3 : 9 ≤ x ∧ x < 73 := by
          refine ⟨?_, by rw [e] at hx; exact hx⟩
          by_cases w : x < 9
          · by_cases w2 : x < 1
            · rw [mny_0 w2] at e; omega
            · rw [mny_1 (by omega)] at e; omega
          · omega
        rw [e, cut_2 hx3]
        show (9 : Int) + 8 * (((x - 9 : Nat) : Int) % 8) + l = _
        omega
      · have hx3 : 73 ≤ x ∧ x < 585 := by
          refine ⟨?_, by rw [e] at hx; exact hx⟩
          have := hf
          rw [e] at this
          exact this
        rw [e, cut_3 hx3]
        show (73 : Int) + 8 * (((x - 73 : Nat) : Int) % 64) + l = _
        omega
      · have hx3 : 585 ≤ x := by
          have := hf
          rw [e] at this
          exact this
        rw [e, cut_4 hx3]
        show (585 : Int) + 8 * (((x - 585 : Nat) : Int) % 512) + l = _
        omega
    · refine e_if_f (by rw [h3]; simp (disch := omega) only [Int.toNat_natCast, iI_lt, iI_le, iI_eq, iI_add, iI_sub, iI_mul, iI_neg, iI_clamp, inb_ii]; omega) ?_
      have a2 : iI (mny x : Int) + 1 = iI ((mny x + 1 : Nat) : Int) := by rw [z_1, iI_add]; rfl
      rw [a2]
      refine e_bdp (rr_first (by omega) s) ?_
      rw [z_8, iI_mul, iI_add, iI_add, hb, cut_n (by omega), fsz_s (mny x) (by omega)]
      congr 2
      omega
/-- how often, from the oldest on -/
def cnF (x l : Nat) : Nat → Nat
  | 0 => 0
  | k + 1 => cnF x l k + if lwA x k = l then 1 else 0
theorem cnF_up {x l : Nat} (h0 : 0 < x) (hx : x < 4681) : ∀ k, k ≤ mny ((x - 1) / 8) → cnF x l k = cnF ((x - 1) / 8) l k := by
  intro k
  induction k with
  | zero => intro _; rfl
  | succ k ih =>
    intro hk
    show cnF x l k + (if lwA x k = l then 1 else 0) = cnF ((x - 1) / 8) l k + (if lwA ((x - 1) / 8) k = l then 1 else 0)
    rw [ih (by omega), lwA_up h0 hx (by omega)]
theorem cnF_tms (l : Nat) : ∀ (m x : Nat), x < 4681 → mny x = m → cnF x l m = tms x l := by
  intro m
  induction m with
  | zero => intro x _ h; unfold tms; rw [h]; rfl
  | succ m ih =>
    intro x hx hm
    have h0 : 0 < x := mny_pos (by omega)
    have hu := mny_up h0 hx
    have e := ih ((x - 1) / 8) (by omega) (by omega)
    unfold tms at e ⊢
    rw [hm]
    show cnF x l m + (if lwA x m = l then 1 else 0) = (if (x - 1) % 8 = l then 1 else 0) + tmF m ((x - 1) / 8) l
    rw [cnF_up h0 hx m (by omega), e, show mny ((x - 1) / 8) = m by omega, show lwA x m = (x - 1) % 8 by rw [← lwA_last (x := x)]; congr 1; omega]
    omega
theorem cnF_le (x l : Nat) : ∀ k, cnF x l k ≤ k := by
  intro k
  induction k with
  | zero => exact Nat.le_refl 0
  | succ k ih => unfold cnF; split <;> omega
theorem rr_often {s : SS} {x l : Nat} (hx : x < 4681) (h48 : s 56 48 = iI (mny x)) (h80 : ∀ i, i < mny x → s 80 i = iI (lwA x i)) (hl : l < 8) : f_X12_oftenOf (iI l) s = some (iI (tms x l)) := by
  have h4 := mny_le x
  have lp : ∀ (m N i : Nat), i + m = mny x → m < N → lp_X12_oftenOf_4 (iI l) s N (iI (cnF x l i)) (iI i) = some (iI (cnF x l (mny x))) := by
    intro m
    induction m with
    | zero =>
      intro N i hi hN
      cases N with
      | zero => omega
      | succ N =>
        obtain rfl : i = mny x := by omega
        rw [lp_X12_oftenOf_4]
        exact e_if_t (by rw [h48]; simp (disch := omega) only [Int.toNat_natCast, iI_lt, iI_le, iI_eq, iI_add, iI_sub, iI_mul, iI_neg, iI_clamp, inb_ii]; omega) rfl
    | succ m ih =>
      intro N i hi hN
      cases N with
      | zero => omega
      | succ N =>
        have cc : ¬ s 56 48 ≤ iI (i : Int) := by rw [h48]; simp (disch := omega) only [Int.toNat_natCast, iI_lt, iI_le, iI_eq, iI_add, iI_sub, iI_mul, iI_neg, iI_clamp, inb_ii]; omega
        have ci : inb (iI (i : Int)) 4 := by simp (disch := omega) only [Int.toNat_natCast, iI_lt, iI_le, iI_eq, iI_add, iI_sub, iI_mul, iI_neg, iI_clamp, inb_ii]; omega
        have cl : Int32.toNatClampNeg (iI (i : Int)) = i := by simp (disch := omega) only [Int.toNat_natCast, iI_lt, iI_le, iI_eq, iI_add, iI_sub, iI_mul, iI_neg, iI_clamp, inb_ii]
        have hw := lwA_lt x i
        have d : (s 80 (Int32.toNatClampNeg (iI (i : Int))) = iI (l : Int)) = (lwA x i = l) := by
          rw [cl, h80 i (by omega)]
          exact propext ((iI_eq (by omega) (by omega)).trans (by omega))
        have nx : iI (i : Int) + 1 = iI ((i + 1 : Nat) : Int) := by rw [z_1, iI_add]; rfl
        have ih2 := ih N (i + 1) (by omega) (by omega)
        have un : cnF x l (i + 1) = cnF x l i + if lwA x i = l then 1 else 0 := rfl
        rw [lp_X12_oftenOf_4]
        by_cases q : lwA x i = l
        · rw [if_pos q] at un
          repeat (first
            | (with_reducible refine e_gd ?sd ?_; case sd => first | decide | exact ci)
            | with_reducible refine e_up ?_
            | with_reducible refine e_up0 ?_
            | with_reducible refine e_upl ?_
            | with_reducible refine e_upl0 ?_
            | with_reducible refine e_jn ?_
            | with_reducible refine e_lt ?_
            | with_reducible refine e_if_f (cc) ?_
            | with_reducible refine e_if_t (d.mpr q) ?_)
          rw [nx, z_1, iI_add, show (cnF x l i : Int) + 1 = ((cnF x l (i + 1) : Nat) : Int) by omega]
          exact ih2
        · rw [if_neg q] at un
          repeat (first
            | (with_reducible refine e_gd ?sd ?_; case sd => first | decide | exact ci)
            | with_reducible refine e_up ?_
            | with_reducible refine e_up0 ?_
            | with_reducible refine e_upl ?_
            | with_reducible refine e_upl0 ?_
            | with_reducible refine e_jn ?_
            | with_reducible refine e_lt ?_
            | with_reducible refine e_if_f (cc) ?_
            | with_reducible refine e_if_f (mt d.mp q) ?_)
          rw [nx, z_0, iI_add, show (cnF x l i : Int) + 0 = ((cnF x l (i + 1) : Nat) : Int) by omega]
          exact ih2
  unfold f_X12_oftenOf
  rw [← cnF_tms l (mny x) x hx rfl]
  exact lp (mny x) FU 0 (by omega) (fu_lt (by omega))
