/-! fills of a stretch, Euclid, the ring -/
theorem fillr_42 {lo hi : Nat} (v : Int64) (s : SS) (h1 : lo ≤ hi) (h2 : hi ≤ 5348) : ∃ R : Nat → Int32, f_J7_fill_bad5a_42 (iI lo) (iI hi) v s = some (0, upr s 42 R) ∧ (∀ j, lo ≤ j → j < hi → lgt R j = v) ∧ ∀ j, ¬ (lo ≤ j ∧ j < hi) → lgt R j = lgt (s 42) j := by
  have lp : ∀ m N i : Nat, ∀ R : Nat → Int32, i + m = hi → m < N → ∃ Q : Nat → Int32, lp_J7_fill_bad5a_42_10 (iI hi) v N (iI i) (upr s 42 R) = some (0, upr s 42 Q) ∧ (∀ j, i ≤ j → j < hi → lgt Q j = v) ∧ ∀ j, ¬ (i ≤ j ∧ j < hi) → lgt Q j = lgt R j := by
    intro m
    induction m with
    | zero =>
      intro N i R hi2 hN
      cases N with
      | zero => omega
      | succ N =>
        refine ⟨R, ?_, fun j a b => by omega, fun j _ => rfl⟩
        rw [lp_J7_fill_bad5a_42_10]
        exact e_if_t (by simp (disch := omega) only [Int.toNat_natCast, iI_lt, iI_le, iI_eq, iI_add, iI_sub, iI_mul, iI_neg, iI_clamp, inb_ii]; omega) rfl
    | succ m ih =>
      intro N i R hi2 hN
      cases N with
      | zero => omega
      | succ N =>
        obtain ⟨Q, q1, q2, q3⟩ := ih N (i + 1) (lset R i v) (by omega) (by omega)
        refine ⟨Q, ?_, fun j a b => ?_, fun j a => ?_⟩
        · rw [lp_J7_fill_bad5a_42_10]
          refine e_if_f (by simp (disch := omega) only [Int.toNat_natCast, iI_lt, iI_le, iI_eq, iI_add, iI_sub, iI_mul, iI_neg, iI_clamp, inb_ii]; omega) ?_
          refine e_gd (by simp (disch := omega) only [Int.toNat_natCast, iI_lt, iI_le, iI_eq, iI_add, iI_sub, iI_mul, iI_neg, iI_clamp, inb_ii]; omega) ?_
          refine e_upl ?_
          rw [iI_clamp (by omega), Int.toNat_natCast, z_1, iI_add, show (i : Int) + 1 = ((i + 1 : Nat) : Int) by omega]
          exact q1
        · by_cases q : j = i
          · subst q
            rw [q3 j (by omega), lgt_lset]
          · exact q2 j (by omega) b
        · rw [q3 j (by omega), lgt_ne _ _ _ _ (by omega)]
  obtain ⟨Q, q1, q2, q3⟩ := lp (hi - lo) FU lo (s 42) (by omega) (fu_lt (by omega))
  rw [upr_self] at q1
  refine ⟨Q, ?_, q2, q3⟩
  unfold f_J7_fill_bad5a_42
  refine e_bd (v := 0) (t := s) ?_ q1
  unfold f_J7_rangeCheck_23922
  refine e_if_t (by simp (disch := omega) only [Int.toNat_natCast, iI_lt, iI_le, iI_eq, iI_add, iI_sub, iI_mul, iI_neg, iI_clamp, inb_ii]; omega) ?_
  refine e_if_t (by simp (disch := omega) only [Int.toNat_natCast, iI_lt, iI_le, iI_eq, iI_add, iI_sub, iI_mul, iI_neg, iI_clamp, inb_ii, z_0]; omega) ?_
  refine e_if_t (by simp (disch := omega) only [Int.toNat_natCast, iI_lt, iI_le, iI_eq, iI_add, iI_sub, iI_mul, iI_neg, iI_clamp, inb_ii, z_5348]; omega) rfl
theorem fillr_48 {lo hi : Nat} (v : Int32) (s : SS) (h1 : lo ≤ hi) (h2 : hi ≤ 5348) : f_J7_fill_fda19 (iI lo) (iI hi) v s = some (0, upr s 48 (fun j => if lo ≤ j ∧ j < hi then v else s 48 j)) := by
  have lp : ∀ m N i : Nat, ∀ R : Nat → Int32, i + m = hi → m < N → lp_J7_fill_fda19_10 (iI hi) v N (iI i) (upr s 48 R) = some (0, upr s 48 (fun j => if i ≤ j ∧ j < hi then v else R j)) := by
    intro m
    induction m with
    | zero =>
      intro N i R hi2 hN
      cases N with
      | zero => omega
      | succ N =>
        rw [lp_J7_fill_fda19_10]
        refine e_if_t (by simp (disch := omega) only [Int.toNat_natCast, iI_lt, iI_le, iI_eq, iI_add, iI_sub, iI_mul, iI_neg, iI_clamp, inb_ii]; omega) ?_
        congr 3
        funext j
        rw [if_neg (by omega)]
    | succ m ih =>
      intro N i R hi2 hN
      cases N with
      | zero => omega
      | succ N =>
        rw [lp_J7_fill_fda19_10]
        refine e_if_f (by simp (disch := omega) only [Int.toNat_natCast, iI_lt, iI_le, iI_eq, iI_add, iI_sub, iI_mul, iI_neg, iI_clamp, inb_ii]; omega) ?_
        refine e_gd (by simp (disch := omega) only [Int.toNat_natCast, iI_lt, iI_le, iI_eq, iI_add, iI_sub, iI_mul, iI_neg, iI_clamp, inb_ii]; omega) ?_
        refine e_up ?_
        rw [z_1, iI_add, show (i : Int) + 1 = ((i + 1 : Nat) : Int) by omega, ih N (i + 1) _ (by omega) (by omega)]
        congr 3
        funext j
        rw [iI_clamp (by omega), Int.toNat_natCast]
        by_cases q : j = i
        · subst q; rw [upd_eq, if_neg (by omega), if_pos (by omega)]
        · rw [upd_ne q]
          by_cases q2 : i + 1 ≤ j ∧ j < hi
          · rw [if_pos q2, if_pos (by omega)]
          · rw [if_neg q2, if_neg (by omega)]
  unfold f_J7_fill_fda19
  refine e_bd (v := 0) (t := s) ?_ ?_
  · unfold f_J7_rangeCheck_23922
    refine e_if_t (by simp (disch := omega) only [Int.toNat_natCast, iI_lt, iI_le, iI_eq, iI_add, iI_sub, iI_mul, iI_neg, iI_clamp, inb_ii]; omega) ?_
    refine e_if_t (by simp (disch := omega) only [Int.toNat_natCast, iI_lt, iI_le, iI_eq, iI_add, iI_sub, iI_mul, iI_neg, iI_clamp, inb_ii, z_0]; omega) ?_
    refine e_if_t (by simp (disch := omega) only [Int.toNat_natCast, iI_lt, iI_le, iI_eq, iI_add, iI_sub, iI_mul, iI_neg, iI_clamp, inb_ii, z_5348]; omega) rfl
  · have := lp (hi - lo) FU lo (s 48) (by omega) (fu_lt (by omega))
    rw [upr_self] at this
    exact this
theorem fillr_51 {lo hi : Nat} (v : Int64) (s : SS) (h1 : lo ≤ hi) (h2 : hi ≤ 5348) : ∃ R : Nat → Int32, f_J7_fill_bad5a_51 (iI lo) (iI hi) v s = some (0, upr s 51 R) ∧ (∀ j, lo ≤ j → j < hi → lgt R j = v) ∧ ∀ j, ¬ (lo ≤ j ∧ j < hi) → lgt R j = lgt (s 51) j := by
  have lp : ∀ m N i : Nat, ∀ R : Nat → Int32, i + m = hi → m < N → ∃ Q : Nat → Int32, lp_J7_fill_bad5a_51_10 (iI hi) v N (iI i) (upr s 51 R) = some (0, upr s 51 Q) ∧ (∀ j, i ≤ j → j < hi → lgt Q j = v) ∧ ∀ j, ¬ (i ≤ j ∧ j < hi) → lgt Q j = lgt R j := by
    intro m
    induction m with
    | zero =>
      intro N i R hi2 hN
      cases N with
      | zero => omega
      | succ N =>
        refine ⟨R, ?_, fun j a b => by omega, fun j _ => rfl⟩
        rw [lp_J7_fill_bad5a_51_10]
        exact e_if_t (by simp (disch := omega) only [Int.toNat_natCast, iI_lt, iI_le, iI_eq, iI_add, iI_sub, iI_mul, iI_neg, iI_clamp, inb_ii]; omega) rfl
    | succ m ih =>
      intro N i R hi2 hN
      cases N with
      | zero => omega
      | succ N =>
        obtain ⟨Q, q1, q2, q3⟩ := ih N (i + 1) (lset R i v) (by omega) (by omega)
        refine ⟨Q, ?_, fun j a b => ?_, fun j a => ?_⟩
        · rw [lp_J7_fill_bad5a_51_10]
          refine e_if_f (by simp (disch := omega) only [Int.toNat_natCast, iI_lt, iI_le, iI_eq, iI_add, iI_sub, iI_mul, iI_neg, iI_clamp, inb_ii]; omega) ?_
          refine e_gd (by simp (disch := omega) only [Int.toNat_natCast, iI_lt, iI_le, iI_eq, iI_add, iI_sub, iI_mul, iI_neg, iI_clamp, inb_ii]; omega) ?_
          refine e_upl ?_
          rw [iI_clamp (by omega), Int.toNat_natCast, z_1, iI_add, show (i : Int) + 1 = ((i + 1 : Nat) : Int) by omega]
          exact q1
        · by_cases q : j = i
          · subst q
            rw [q3 j (by omega), lgt_lset]
          · exact q2 j (by omega) b
        · rw [q3 j (by omega), lgt_ne _ _ _ _ (by omega)]
  obtain ⟨Q, q1, q2, q3⟩ := lp (hi - lo) FU lo (s 51) (by omega) (fu_lt (by omega))
  rw [upr_self] at q1
  refine ⟨Q, ?_, q2, q3⟩
  unfold f_J7_fill_bad5a_51
  refine e_bd (v := 0) (t := s) ?_ q1
  unfold f_J7_rangeCheck_23922
  refine e_if_t (by simp (disch := omega) only [Int.toNat_natCast, iI_lt, iI_le, iI_eq, iI_add, iI_sub, iI_mul, iI_neg, iI_clamp, inb_ii]; omega) ?_
  refine e_if_t (by simp (disch := omega) only [Int.toNat_natCast, iI_lt, iI_le, iI_eq, iI_add, iI_sub, iI_mul, iI_neg, iI_clamp, inb_ii, z_0]; omega) ?_
  refine e_if_t (by simp (disch := omega) only [Int.toNat_natCast, iI_lt, iI_le, iI_eq, iI_add, iI_sub, iI_mul, iI_neg, iI_clamp, inb_ii, z_5348]; omega) rfl
theorem br_s {n : Nat} (hn : 1 ≤ n ∧ n ≤ 4) : br (n + 1) = br n + szR n := by
  obtain rfl | rfl | rfl | rfl : n = 1 ∨ n = 2 ∨ n = 3 ∨ n = 4 := by omega
  all_goals rfl
theorem br_le {n : Nat} (hn : 1 ≤ n ∧ n ≤ 4) : br n + szR n ≤ 5348 ∧ szR n ≤ 4681 ∧ 9 ≤ szR n := by
  obtain rfl | rfl | rfl | rfl : n = 1 ∨ n = 2 ∨ n = 3 ∨ n = 4 := by omega
  all_goals decide
theorem rw_bare1 {s : SS} {n : Nat} (hn : 1 ≤ n ∧ n ≤ 4) : f_X6_bareOf (iI n + 1) s = some (iI ((br n + szR n : Nat) : Int)) := by
  rw [nx_s, rw_bare (by omega), br_s hn]
theorem euR : ∀ (N h l : Nat) (s : SS), l < N → h < 2147483648 → l < 2147483648 → lp_X12_divisor_13 s N (iI h) (iI l) = some (iI ((Nat.gcd h l : Nat) : Int)) := by
  intro N
  induction N with
  | zero => intro h l s a; omega
  | succ N ih =>
    intro h l s a b d
    rw [lp_X12_divisor_13]
    by_cases q : l = 0
    · subst q
      refine e_if_t rfl ?_
      rw [Nat.gcd_zero_right]
    · have z : ¬ iI (l : Int) = 0 := by simp (disch := omega) only [Int.toNat_natCast, iI_lt, iI_le, iI_eq, iI_add, iI_sub, iI_mul, iI_neg, iI_clamp, inb_ii, z_0]; omega
      refine e_if_f z ?_
      refine e_gd z ?_
      refine e_lt ?_
      have m := Nat.mod_lt h (Nat.pos_of_ne_zero q)
      rw [iI_rem (by omega) (by omega), show (h : Int) % (l : Int) = ((h % l : Nat) : Int) by omega, ih l (h % l) s (by omega) (by omega) (by omega)]
      rw [Nat.gcd_comm h l, Nat.gcd_rec l h, Nat.gcd_comm]
theorem euC : ∀ (k N h l st : Nat) (s : SS), l < 2 ^ k → 2 * k + 1 < N → st + 2 * k ≤ 100 → h < 2147483648 → l < 2147483648 → lp_X11_commonDivisor_13 s N (iI h) (iI l) (iI st) = some (iI ((Nat.gcd h l : Nat) : Int)) := by
  intro k
  induction k with
  | zero =>
    intro N h l st s a b d e f
    obtain rfl : l = 0 := by simpa using a
    cases N with
    | zero => omega
    | succ N =>
      rw [lp_X11_commonDivisor_13, Nat.gcd_zero_right]
      by_cases q : (100 : Int32) ≤ iI (st : Int)
      · exact e_if_t q rfl
      · refine e_if_f q ?_
        exact e_if_t rfl rfl
  | succ k ih =>
    intro N h l st s a b d e f
    obtain ⟨M, rfl⟩ : ∃ M, N = M + 2 := ⟨N - 2, by omega⟩
    rw [lp_X11_commonDivisor_13]
    refine e_if_f (by simp (disch := omega) only [Int.toNat_natCast, iI_lt, iI_le, iI_eq, iI_add, iI_sub, iI_mul, iI_neg, iI_clamp, inb_ii, z_100]; omega) ?_
    by_cases q : l = 0
    · subst q
      refine e_if_t rfl ?_
      rw [Nat.gcd_zero_right]
    · have z : ¬ iI (l : Int) = 0 := by simp (disch := omega) only [Int.toNat_natCast, iI_lt, iI_le, iI_eq, iI_add, iI_sub, iI_mul, iI_neg, iI_clamp, inb_ii, z_0]; omega
      refine e_if_f z ?_
      refine e_gd z ?_
      refine e_lt ?_
      have m := Nat.mod_lt h (Nat.pos_of_ne_zero q)
      rw [iI_rem (by omega) (by omega), show (h : Int) % (l : Int) = ((h % l : Nat) : Int) by omega, nx_s]
      have g1 : Nat.gcd h l = Nat.gcd l (h % l) := by rw [Nat.gcd_comm h l, Nat.gcd_rec l h, Nat.gcd_comm]
      rw [g1]
      generalize h % l = r at m ⊢
      rw [lp_X11_commonDivisor_13]
      refine e_if_f (by simp (disch := omega) only [Int.toNat_natCast, iI_lt, iI_le, iI_eq, iI_add, iI_sub, iI_mul, iI_neg, iI_clamp, inb_ii, z_100]; omega) ?_
      by_cases q2 : r = 0
      · subst q2
        refine e_if_t rfl ?_
        rw [Nat.gcd_zero_right]
      · have z2 : ¬ iI (r : Int) = 0 := by simp (disch := omega) only [Int.toNat_natCast, iI_lt, iI_le, iI_eq, iI_add, iI_sub, iI_mul, iI_neg, iI_clamp, inb_ii, z_0]; omega
        refine e_if_f z2 ?_
        refine e_gd z2 ?_
        refine e_lt ?_
        have m2 := Nat.mod_lt l (Nat.pos_of_ne_zero q2)
        rw [iI_rem (by omega) (by omega), show (l : Int) % (r : Int) = ((l % r : Nat) : Int) by omega, nx_s]
        have g2 : Nat.gcd l r = Nat.gcd r (l % r) := by rw [Nat.gcd_comm l r, Nat.gcd_rec r l, Nat.gcd_comm]
        have g3 : l % r + r ≤ l := by
          have h1 := Nat.div_add_mod l r
          have h2 : 1 ≤ l / r := Nat.div_pos (by omega) (by omega)
          have h3 : r * 1 ≤ r * (l / r) := Nat.mul_le_mul_left r h2
          omega
        rw [g2]
        refine ih M r (l % r) (st + 1 + 1) s ?_ (by omega) (by omega) (by omega) (by omega)
        rw [Nat.pow_succ] at a
        omega
theorem pig : ∀ (M : Nat) (f : Nat → Nat), (∀ i, i ≤ M → f i < M) → ∃ i j, i < j ∧ j ≤ M ∧ f i = f j := by
  intro M
  induction M with
  | zero => intro f h; exact absurd (h 0 (by omega)) (by omega)
  | succ M ih =>
    intro f h
    by_cases q : ∃ i, i ≤ M ∧ f i = f (M + 1)
    · obtain ⟨i, a, b⟩ := q
      exact ⟨i, M + 1, by omega, by omega, b⟩
    · have q2 : ∀ i, i ≤ M → f i ≠ f (M + 1) := fun i a b => q ⟨i, a, b⟩
      obtain ⟨i, j, a, b, d⟩ := ih (fun i => if f (M + 1) < f i then f i - 1 else f i) (fun i hi => by
        have h1 := h i (by omega)
        have h2 := h (M + 1) (by omega)
        have h3 := q2 i hi
        show (if f (M + 1) < f i then f i - 1 else f i) < M
        split <;> omega)
      refine ⟨i, j, a, by omega, ?_⟩
      have h1 := q2 i (by omega)
      have h2 := q2 j (by omega)
      split at d <;> split at d <;> omega
def RNG (q : Nat → Nat) (D A : Nat) : Prop := A < D ∧ D ≤ 18724 ∧ q D = q A ∧ ∀ i j, i < j → j < D → q i ≠ q j
theorem rng_ex (q : Nat → Nat) (h : ∀ i, q i < 18724) : ∃ D A, RNG q D A := by
  have key : ∀ k, (∃ D A, RNG q D A) ∨ k ≤ 18725 → (∃ D A, RNG q D A) ∨ ∀ i j, i < j → j < k → q i ≠ q j := by
    intro k
    induction k with
    | zero => intro _; exact Or.inr (fun i j _ b => by omega)
    | succ k ih =>
      intro hk
      by_cases e : ∃ D A, RNG q D A
      · exact Or.inl e
      · have hk2 : k + 1 ≤ 18725 := hk.resolve_left e
        have ih2 := (ih (Or.inr (by omega))).resolve_left e
        by_cases w : ∃ A, A < k ∧ q k = q A
        · obtain ⟨A, a, b⟩ := w
          exact Or.inl ⟨k, A, a, by omega, b, ih2⟩
        · right
          intro i j hi hj
          by_cases e2 : j = k
          · subst e2
            intro e3
            exact w ⟨i, hi, e3.symm⟩
          · exact ih2 i j hi (by omega)
  rcases key 18725 (Or.inr (Nat.le_refl _)) with w | w
  · exact w
  · obtain ⟨i, j, a, b, d⟩ := pig 18724 q (fun i _ => h i)
    exact absurd d (w i j a (by omega))
