/-! the four lengths' rows -/
variable {s t u : SS}
theorem bare_f (s : SS) : f_X6_bareOf 1 s = some 0 ∧ f_X6_bareOf 2 s = some 9 ∧ f_X6_bareOf 3 s = some 82 ∧ f_X6_bareOf 4 s = some 667 ∧ f_X6_bareOf 5 s = some 5348 := by
  unfold f_X6_bareOf
  refine ⟨?_, ?_, ?_, ?_, ?_⟩
  all_goals exact e_jn (e_if_f (by decide) (e_if_t (by decide) (e_gd (by decide) rfl)))
def LAO (n : Nat) (s t : SS) : Prop := (∀ x, x < szR n → RWE n x t) ∧ (∀ q, q < 4 ∨ 8 < q → t q = s q) ∧ ∀ q j, (j < br n ∨ br n + szR n ≤ j) → t q j = s q j
theorem la_n {n : Nat} (hn : 1 ≤ n ∧ n ≤ 4) (s : SS) : ∃ t, lp_X6_listAll_15 (iI n) (iI (br n)) (iI ((br n + szR n : Nat) : Int)) FU (iI (br n)) s = some (0, t) ∧ LAO n s t := by
  have hb : szR n < 100000 := by
    obtain rfl | rfl | rfl | rfl : n = 1 ∨ n = 2 ∨ n = 3 ∨ n = 4 := by omega
    all_goals decide
  exact la_lp hn (szR n) FU 0 s (by omega) (fu_lt (by omega)) (fun x hx => absurd hx (Nat.not_lt_zero x))
theorem RWE.lao {n m x : Nat} (h : RWE n x s) (g : LAO m s t) (hx : br n + x < br m ∨ br m + szR m ≤ br n + x) : RWE n x t := by
  unfold RWE at h ⊢
  rw [g.2.2 4 _ hx, g.2.2 8 _ hx]
  exact h
theorem la_all (s : SS) : ∃ t1 t2 t3 t4, f_X6_listAll 1 s = some (0, t1) ∧ f_X6_listAll 2 t1 = some (0, t2) ∧ f_X6_listAll 3 t2 = some (0, t3) ∧ f_X6_listAll 4 t3 = some (0, t4) ∧ RW t4 ∧ ∀ q, q < 4 ∨ 8 < q → t4 q = s q := by
  have b1 : br 1 = 0 := rfl
  have b2 : br 2 = 9 := rfl
  have b3 : br 3 = 82 := rfl
  have b4 : br 4 = 667 := rfl
  obtain ⟨t1, e1, g1⟩ := la_n (n := 1) (by omega) s
  obtain ⟨t2, e2, g2⟩ := la_n (n := 2) (by omega) t1
  obtain ⟨t3, e3, g3⟩ := la_n (n := 3) (by omega) t2
  obtain ⟨t4, e4, g4⟩ := la_n (n := 4) (by omega) t3
  refine ⟨t1, t2, t3, t4, ?_, ?_, ?_, ?_, fun n x hn hx => ?_, fun q hq => by rw [g4.2.1 q hq, g3.2.1 q hq, g2.2.1 q hq, g1.2.1 q hq]⟩
  · unfold f_X6_listAll
    exact e_bdp (bare_f s).1 (e_bdp (show f_X6_bareOf (1 + 1) s = some 9 from (bare_f s).2.1) e1)
  · unfold f_X6_listAll
    exact e_bdp (bare_f t1).2.1 (e_bdp (show f_X6_bareOf (2 + 1) t1 = some 82 from (bare_f t1).2.2.1) e2)
  · unfold f_X6_listAll
    exact e_bdp (bare_f t2).2.2.1 (e_bdp (show f_X6_bareOf (3 + 1) t2 = some 667 from (bare_f t2).2.2.2.1) e3)
  · unfold f_X6_listAll
    exact e_bdp (bare_f t3).2.2.2.1 (e_bdp (show f_X6_bareOf (4 + 1) t3 = some 5348 from (bare_f t3).2.2.2.2) e4)
  · show RWE n x t4
    obtain rfl | rfl | rfl | rfl : n = 1 ∨ n = 2 ∨ n = 3 ∨ n = 4 := by omega
    · have hx1 := hx
      rw [sz_1] at hx1
      exact (((g1.1 x hx).lao g2 (by rw [b1, b2]; omega)).lao g3 (by rw [b1, b3]; omega)).lao g4 (by rw [b1, b4]; omega)
    · have hx1 := hx
      rw [sz_2] at hx1
      exact ((g2.1 x hx).lao g3 (by rw [b2, b3]; omega)).lao g4 (by rw [b2, b4]; omega)
    · have hx1 := hx
      rw [sz_3] at hx1
      exact (g3.1 x hx).lao g4 (by rw [b3, b4]; omega)
    · exact g4.1 x hx
