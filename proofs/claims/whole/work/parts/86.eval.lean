/-! the law of laws: what an expression answers; the class's steps reckon it -/
variable {s t u : SS}
abbrev EV : Type := (Nat → Int32) → Option Int32
def wkd (op x y : Int32) : Int32 := if op = 37 then (if y = 0 then 0 else x - x / y * y) else if op = 42 then x * y else if op = 43 then x + y else if op = 45 then x - y else if op = 47 then (if y = 0 then 0 else x / y) else if op = 60 then (if y ≤ x then 0 else 1) else if op = 62 then (if x ≤ y then 0 else 1) else if x = y then 1 else 0
def binE (op : Nat) (e1 e2 : EV) : EV := fun F => match e1 F with
  | none => none
  | some x => match e2 F with
    | none => none
    | some y => if (op = 47 ∨ op = 37) ∧ y = 0 then none else some (wkd (iI op) x y)
def notE (e : EV) : EV := fun F => match e F with
  | none => none
  | some x => some (1 - x)
def orE (e1 e2 : EV) : EV := fun F => match e1 F with
  | none => none
  | some x => if x = 0 then e2 F else some x
def andE (e1 e2 : EV) : EV := fun F => match e1 F with
  | none => none
  | some x => if x = 0 then some x else e2 F
theorem joined_f (op x y : Int32) (s : SS) : f_X1_joined op x y s = some (wkd op x y) := by
  unfold f_X1_joined wkd
  by_cases h1 : op = 37
  · rw [if_pos h1, if_pos h1]
    by_cases hy : y = 0
    · rw [if_pos hy, if_pos hy]
    · rw [if_neg hy, if_neg hy]; exact e_gd hy rfl
  · rw [if_neg h1, if_neg h1]
    by_cases h2 : op = 42
    · rw [if_pos h2, if_pos h2]
    · rw [if_neg h2, if_neg h2]
      by_cases h3 : op = 43
      · rw [if_pos h3, if_pos h3]
      · rw [if_neg h3, if_neg h3]
        by_cases h4 : op = 45
        · rw [if_pos h4, if_pos h4]
        · rw [if_neg h4, if_neg h4]
          by_cases h5 : op = 47
          · rw [if_pos h5, if_pos h5]
            by_cases hy : y = 0
            · rw [if_pos hy, if_pos hy]
            · rw [if_neg hy, if_neg hy]; exact e_gd hy rfl
          · rw [if_neg h5, if_neg h5]
            repeat' split
            all_goals rfl
theorem worked_f (op x y : Int32) (s : SS) : f_X12_worked op x y s = some (wkd op x y) := joined_f op x y s
def OPS (op : Nat) : Prop := op = 37 ∨ op = 42 ∨ op = 43 ∨ op = 45 ∨ op = 47 ∨ op = 60 ∨ op = 61 ∨ op = 62
/-- one step of the class -/
theorem rk_push {to N j i : Nat} {K : Int32 → SS → Res} {v : Int32} (hi : i < to) (ht : to ≤ 200) (hj : j < 40) (h : (s 10 i = 48 ∧ s 11 i = v) ∨ (s 10 i = 108 ∧ ∃ f : Nat, f < 11 ∧ s 11 i = iI f ∧ s 32 f = v)) : lp_X1_reckon_6 (iI to) K (N + 1) (iI j) (iI i) s = lp_X1_reckon_6 (iI to) K N (iI ((j + 1 : Nat) : Int)) (iI ((i + 1 : Nat) : Int)) (up s 16 j v) := by
  rw [lp_X1_reckon_6]
  refine e_if_f (by simp (disch := omega) only [Int.toNat_natCast, iI_lt, iI_le, iI_eq, iI_add, iI_sub, iI_mul, iI_neg, iI_clamp, inb_ii, z_0]; omega) ?_
  refine e_if_f (by simp (disch := omega) only [Int.toNat_natCast, iI_lt, iI_le, iI_eq, iI_add, iI_sub, iI_mul, iI_neg, iI_clamp, inb_ii]; omega) ?_
  refine e_if_f (by simp (disch := omega) only [Int.toNat_natCast, iI_lt, iI_le, iI_eq, iI_add, iI_sub, iI_mul, iI_neg, iI_clamp, inb_ii, z_200]; omega) ?_
  refine e_gd (by simp (disch := omega) only [Int.toNat_natCast, iI_lt, iI_le, iI_eq, iI_add, iI_sub, iI_mul, iI_neg, iI_clamp, inb_ii]; omega) ?_
  rw [iI_clamp (by omega), Int.toNat_natCast]
  refine e_lt ?_
  refine e_gd (by simp (disch := omega) only [Int.toNat_natCast, iI_lt, iI_le, iI_eq, iI_add, iI_sub, iI_mul, iI_neg, iI_clamp, inb_ii]; omega) ?_
  refine e_lt ?_
  refine e_jn ?_
  refine e_jn ?_
  have gj : inb (iI (j : Int)) 40 := by simp (disch := omega) only [Int.toNat_natCast, iI_lt, iI_le, iI_eq, iI_add, iI_sub, iI_mul, iI_neg, iI_clamp, inb_ii]; omega
  have nj : ¬ (40 : Int32) ≤ iI (j : Int) := by simp (disch := omega) only [Int.toNat_natCast, iI_lt, iI_le, iI_eq, iI_add, iI_sub, iI_mul, iI_neg, iI_clamp, inb_ii, z_40]; omega
  rcases h with ⟨h1, h2⟩ | ⟨h1, f, hf, h2, h3⟩
  · refine e_if_t h1 ?_
    refine e_if_f nj ?_
    refine e_jn ?_
    rw [h1, h2]
    refine e_if_f (by decide) ?_
    refine e_jn ?_
    refine e_if_t rfl ?_
    refine e_gd gj ?_
    rw [iI_clamp (by omega), Int.toNat_natCast]
    refine e_lts ?_
    rw [nx_s]
    show lp_X1_reckon_6 (iI to) K N _ (iI (i : Int) + 1) _ = _
    rw [nx_s]
  · refine e_if_f (by rw [h1]; decide) ?_
    refine e_if_t h1 ?_
    refine e_if_f nj ?_
    refine e_jn ?_
    rw [h1, h2]
    refine e_if_t rfl ?_
    refine e_if_f (by simp (disch := omega) only [Int.toNat_natCast, iI_lt, iI_le, iI_eq, iI_add, iI_sub, iI_mul, iI_neg, iI_clamp, inb_ii, z_0]; omega) ?_
    refine e_if_t (by simp (disch := omega) only [Int.toNat_natCast, iI_lt, iI_le, iI_eq, iI_add, iI_sub, iI_mul, iI_neg, iI_clamp, inb_ii, z_11]; omega) ?_
    refine e_jn ?_
    refine e_if_f (by decide) ?_
    refine e_gd (by simp (disch := omega) only [Int.toNat_natCast, iI_lt, iI_le, iI_eq, iI_add, iI_sub, iI_mul, iI_neg, iI_clamp, inb_ii]; omega) ?_
    refine e_gd gj ?_
    rw [iI_clamp (by omega), Int.toNat_natCast, iI_clamp (by omega), Int.toNat_natCast, h3]
    refine e_lts ?_
    rw [nx_s]
    show lp_X1_reckon_6 (iI to) K N _ (iI (i : Int) + 1) _ = _
    rw [nx_s]
theorem rk_not {to N j i : Nat} {K : Int32 → SS → Res} (hi : i < to) (ht : to ≤ 200) (hj : j < 40) (h : s 10 i = 33) : lp_X1_reckon_6 (iI to) K (N + 1) (iI ((j + 1 : Nat) : Int)) (iI i) s = lp_X1_reckon_6 (iI to) K N (iI ((j + 1 : Nat) : Int)) (iI ((i + 1 : Nat) : Int)) (up s 16 j (1 - s 16 j)) := by
  have gj : inb (iI (j : Int)) 40 := by simp (disch := omega) only [Int.toNat_natCast, iI_lt, iI_le, iI_eq, iI_add, iI_sub, iI_mul, iI_neg, iI_clamp, inb_ii]; omega
  rw [lp_X1_reckon_6]
  refine e_if_f (by simp (disch := omega) only [Int.toNat_natCast, iI_lt, iI_le, iI_eq, iI_add, iI_sub, iI_mul, iI_neg, iI_clamp, inb_ii, z_0]; omega) ?_
  refine e_if_f (by simp (disch := omega) only [Int.toNat_natCast, iI_lt, iI_le, iI_eq, iI_add, iI_sub, iI_mul, iI_neg, iI_clamp, inb_ii]; omega) ?_
  refine e_if_f (by simp (disch := omega) only [Int.toNat_natCast, iI_lt, iI_le, iI_eq, iI_add, iI_sub, iI_mul, iI_neg, iI_clamp, inb_ii, z_200]; omega) ?_
  refine e_gd (by simp (disch := omega) only [Int.toNat_natCast, iI_lt, iI_le, iI_eq, iI_add, iI_sub, iI_mul, iI_neg, iI_clamp, inb_ii]; omega) ?_
  rw [iI_clamp (by omega), Int.toNat_natCast]
  refine e_lt ?_
  refine e_gd (by simp (disch := omega) only [Int.toNat_natCast, iI_lt, iI_le, iI_eq, iI_add, iI_sub, iI_mul, iI_neg, iI_clamp, inb_ii]; omega) ?_
  refine e_lt ?_
  refine e_jn ?_
  refine e_jn ?_
  rw [h]
  refine e_if_f (by decide) ?_
  refine e_if_f (by decide) ?_
  refine e_if_f (by simp (disch := omega) only [Int.toNat_natCast, iI_lt, iI_le, iI_eq, iI_add, iI_sub, iI_mul, iI_neg, iI_clamp, inb_ii, z_1]; omega) ?_
  refine e_if_t (by simp (disch := omega) only [Int.toNat_natCast, iI_lt, iI_le, iI_eq, iI_add, iI_sub, iI_mul, iI_neg, iI_clamp, inb_ii, z_40]; omega) ?_
  refine e_if_t rfl ?_
  rw [pr_s]
  refine e_gd gj ?_
  refine e_gd gj ?_
  rw [iI_clamp (by omega), Int.toNat_natCast]
  refine e_lts ?_
  show lp_X1_reckon_6 (iI to) K N _ (iI (i : Int) + 1) _ = _
  rw [nx_s]
theorem rk_op {to N j i op : Nat} {K : Int32 → SS → Res} (hi : i < to) (ht : to ≤ 200) (hj : j + 2 ≤ 40) (ho : OPS op) (h : s 10 i = iI op) : (((op = 47 ∨ op = 37) ∧ s 16 (j + 1) = 0) → lp_X1_reckon_6 (iI to) K (N + 1) (iI ((j + 2 : Nat) : Int)) (iI i) s = some (0, s)) ∧ (¬ ((op = 47 ∨ op = 37) ∧ s 16 (j + 1) = 0) → lp_X1_reckon_6 (iI to) K (N + 1) (iI ((j + 2 : Nat) : Int)) (iI i) s = lp_X1_reckon_6 (iI to) K N (iI ((j + 1 : Nat) : Int)) (iI ((i + 1 : Nat) : Int)) (up s 16 j (wkd (iI op) (s 16 j) (s 16 (j + 1))))) := by
  suffices H : ∀ r : Res, (((op = 47 ∨ op = 37) ∧ s 16 (j + 1) = 0) → some (0, s) = r) → (¬ ((op = 47 ∨ op = 37) ∧ s 16 (j + 1) = 0) → lp_X1_reckon_6 (iI to) K N (iI ((j + 1 : Nat) : Int)) (iI ((i + 1 : Nat) : Int)) (up s 16 j (wkd (iI op) (s 16 j) (s 16 (j + 1)))) = r) → lp_X1_reckon_6 (iI to) K (N + 1) (iI ((j + 2 : Nat) : Int)) (iI i) s = r from ⟨fun z => H _ (fun _ => rfl) (fun z2 => absurd z z2), fun z => H _ (fun z2 => absurd z2 z) (fun _ => rfl)⟩
  intro r hr1 hr2
  have gj : inb (iI (j : Int)) 40 := by simp (disch := omega) only [Int.toNat_natCast, iI_lt, iI_le, iI_eq, iI_add, iI_sub, iI_mul, iI_neg, iI_clamp, inb_ii]; omega
  have gj1 : inb (iI ((j + 1 : Nat) : Int)) 40 := by simp (disch := omega) only [Int.toNat_natCast, iI_lt, iI_le, iI_eq, iI_add, iI_sub, iI_mul, iI_neg, iI_clamp, inb_ii]; omega
  have m1 : iI ((j + 2 : Nat) : Int) + (-1) = iI ((j + 1 : Nat) : Int) := by
    rw [z_m1, iI_add]
    congr 1
    omega
  have m2 : iI ((j + 2 : Nat) : Int) - 1 = iI ((j + 1 : Nat) : Int) := pr_s (j + 1)
  have L : ∀ q : Nat, q < 200 → (iI (op : Int) = iI (q : Int)) = (op = q) := fun q hq => propext ((iI_eq (by unfold OPS at ho; omega) (by omega)).trans (by omega))
  have L48 : (iI (op : Int) = 48) = (op = 48) := L 48 (by omega)
  have L108 : (iI (op : Int) = 108) = (op = 108) := L 108 (by omega)
  have L33 : (iI (op : Int) = 33) = (op = 33) := L 33 (by omega)
  have L124 : (iI (op : Int) = 124) = (op = 124) := L 124 (by omega)
  have L38 : (iI (op : Int) = 38) = (op = 38) := L 38 (by omega)
  have L47 : (iI (op : Int) = 47) = (op = 47) := L 47 (by omega)
  have L37 : (iI (op : Int) = 37) = (op = 37) := L 37 (by omega)
  unfold OPS at ho
  rw [lp_X1_reckon_6]
  refine e_if_f (by simp (disch := omega) only [Int.toNat_natCast, iI_lt, iI_le, iI_eq, iI_add, iI_sub, iI_mul, iI_neg, iI_clamp, inb_ii, z_0]; omega) ?_
  refine e_if_f (by simp (disch := omega) only [Int.toNat_natCast, iI_lt, iI_le, iI_eq, iI_add, iI_sub, iI_mul, iI_neg, iI_clamp, inb_ii]; omega) ?_
  refine e_if_f (by simp (disch := omega) only [Int.toNat_natCast, iI_lt, iI_le, iI_eq, iI_add, iI_sub, iI_mul, iI_neg, iI_clamp, inb_ii, z_200]; omega) ?_
  refine e_gd (by simp (disch := omega) only [Int.toNat_natCast, iI_lt, iI_le, iI_eq, iI_add, iI_sub, iI_mul, iI_neg, iI_clamp, inb_ii]; omega) ?_
  rw [iI_clamp (by omega), Int.toNat_natCast]
  refine e_lt ?_
  refine e_gd (by simp (disch := omega) only [Int.toNat_natCast, iI_lt, iI_le, iI_eq, iI_add, iI_sub, iI_mul, iI_neg, iI_clamp, inb_ii]; omega) ?_
  refine e_lt ?_
  refine e_jn ?_
  refine e_jn ?_
  rw [h]
  refine e_if_f (by rw [L48]; omega) ?_
  refine e_if_f (by rw [L108]; omega) ?_
  refine e_if_f (by simp (disch := omega) only [Int.toNat_natCast, iI_lt, iI_le, iI_eq, iI_add, iI_sub, iI_mul, iI_neg, iI_clamp, inb_ii, z_1]; omega) ?_
  refine e_if_t (by simp (disch := omega) only [Int.toNat_natCast, iI_lt, iI_le, iI_eq, iI_add, iI_sub, iI_mul, iI_neg, iI_clamp, inb_ii, z_40]; omega) ?_
  refine e_if_f (by rw [L33]; omega) ?_
  refine e_jn ?_
  refine e_if_f (by rw [L124]; omega) ?_
  refine e_if_f (by rw [L38]; omega) ?_
  rw [m1, pr_s]
  refine e_if_f (by simp (disch := omega) only [Int.toNat_natCast, iI_lt, iI_le, iI_eq, iI_add, iI_sub, iI_mul, iI_neg, iI_clamp, inb_ii, z_1]; omega) ?_
  refine e_gd gj1 ?_
  refine e_jn ?_
  rw [iI_clamp (by omega), Int.toNat_natCast, iI_clamp (by omega), Int.toNat_natCast]
  have go : ∀ r, lp_X1_reckon_6 (iI to) K N (iI ((j + 1 : Nat) : Int)) (iI ((i + 1 : Nat) : Int)) (up s 16 j (wkd (iI op) (s 16 j) (s 16 (j + 1)))) = r → (gd (inb (iI (j : Int)) 40) (gd (inb (iI ((j + 1 : Nat) : Int)) 40) (bdp (f_X1_joined (iI op) (s 16 j) (s 16 (j + 1)) s) (fun (v53 : Int32) => gd (inb (iI (j : Int)) 40) (lts (up s 16 j v53) (fun (s54 : SS) => lp_X1_reckon_6 (iI to) K N (iI ((j + 1 : Nat) : Int)) (iI (i : Int) + 1) s54)))))) = r := by
    intro r hr
    refine e_gd gj ?_
    refine e_gd gj1 ?_
    refine e_bdp (joined_f _ _ _ s) ?_
    refine e_gd gj ?_
    refine e_lts ?_
    rw [nx_s]
    exact hr
  by_cases y : s 16 (j + 1) = 0
  · refine e_if_t y ?_
    by_cases o1 : op = 47
    · exact e_if_t (L47.mpr o1) (hr1 ⟨Or.inl o1, y⟩)
    · refine e_if_f (fun w => o1 (L47.mp w)) ?_
      by_cases o2 : op = 37
      · exact e_if_t (L37.mpr o2) (hr1 ⟨Or.inr o2, y⟩)
      · exact e_if_f (fun w => o2 (L37.mp w)) (go _ (hr2 (fun w => w.1.elim o1 o2)))
  · exact e_if_f y (go _ (hr2 (fun w => y w.2)))
theorem rk_bool {to N j i l : Nat} {K : Int32 → SS → Res} {op : Int32} (hi : i < to) (ht : to ≤ 200) (hj : j < 40) (ho : op = 124 ∨ op = 38) (h : s 10 i = op) (ha : s 11 i = iI l) (hl : i < l) (hl2 : l ≤ 200) : (((op = 124 ∧ s 16 j ≠ 0) ∨ (op = 38 ∧ s 16 j = 0)) → lp_X1_reckon_6 (iI to) K (N + 1) (iI ((j + 1 : Nat) : Int)) (iI i) s = lp_X1_reckon_6 (iI to) K N (iI ((j + 1 : Nat) : Int)) (iI l) s) ∧ (¬ ((op = 124 ∧ s 16 j ≠ 0) ∨ (op = 38 ∧ s 16 j = 0)) → lp_X1_reckon_6 (iI to) K (N + 1) (iI ((j + 1 : Nat) : Int)) (iI i) s = lp_X1_reckon_6 (iI to) K N (iI j) (iI ((i + 1 : Nat) : Int)) s) := by
  suffices H : ∀ r : Res, (((op = 124 ∧ s 16 j ≠ 0) ∨ (op = 38 ∧ s 16 j = 0)) → lp_X1_reckon_6 (iI to) K N (iI ((j + 1 : Nat) : Int)) (iI l) s = r) → (¬ ((op = 124 ∧ s 16 j ≠ 0) ∨ (op = 38 ∧ s 16 j = 0)) → lp_X1_reckon_6 (iI to) K N (iI j) (iI ((i + 1 : Nat) : Int)) s = r) → lp_X1_reckon_6 (iI to) K (N + 1) (iI ((j + 1 : Nat) : Int)) (iI i) s = r from ⟨fun z => H _ (fun _ => rfl) (fun z2 => absurd z z2), fun z => H _ (fun z2 => absurd z2 z) (fun _ => rfl)⟩
  intro r hr1 hr2
  have gj : inb (iI (j : Int)) 40 := by simp (disch := omega) only [Int.toNat_natCast, iI_lt, iI_le, iI_eq, iI_add, iI_sub, iI_mul, iI_neg, iI_clamp, inb_ii]; omega
  have m1 : iI ((j + 1 : Nat) : Int) + (-1) = iI (j : Int) := by
    rw [z_m1, iI_add]
    congr 1
    omega
  have l1 : iI (l : Int) - 1 = iI ((l - 1 : Nat) : Int) := by
    rw [z_1, iI_sub]
    congr 1
    omega
  have mx : (if iI (i : Int) < iI (l : Int) - 1 then iI (l : Int) - 1 else iI (i : Int)) + 1 = iI (l : Int) := by
    rw [l1]
    by_cases y : i < l - 1
    · rw [if_pos (by simp (disch := omega) only [Int.toNat_natCast, iI_lt, iI_le, iI_eq, iI_add, iI_sub, iI_mul, iI_neg, iI_clamp, inb_ii]; omega), nx_s]
      congr 2
      omega
    · rw [if_neg (by simp (disch := omega) only [Int.toNat_natCast, iI_lt, iI_le, iI_eq, iI_add, iI_sub, iI_mul, iI_neg, iI_clamp, inb_ii]; omega), nx_s]
      congr 2
      omega
  have n1 : ¬ (124 : Int32) = 38 := by decide
  have n2 : ¬ (38 : Int32) = 124 := by decide
  rw [lp_X1_reckon_6]
  refine e_if_f (by simp (disch := omega) only [Int.toNat_natCast, iI_lt, iI_le, iI_eq, iI_add, iI_sub, iI_mul, iI_neg, iI_clamp, inb_ii, z_0]; omega) ?_
  refine e_if_f (by simp (disch := omega) only [Int.toNat_natCast, iI_lt, iI_le, iI_eq, iI_add, iI_sub, iI_mul, iI_neg, iI_clamp, inb_ii]; omega) ?_
  refine e_if_f (by simp (disch := omega) only [Int.toNat_natCast, iI_lt, iI_le, iI_eq, iI_add, iI_sub, iI_mul, iI_neg, iI_clamp, inb_ii, z_200]; omega) ?_
  refine e_gd (by simp (disch := omega) only [Int.toNat_natCast, iI_lt, iI_le, iI_eq, iI_add, iI_sub, iI_mul, iI_neg, iI_clamp, inb_ii]; omega) ?_
  rw [iI_clamp (by omega), Int.toNat_natCast]
  refine e_lt ?_
  refine e_gd (by simp (disch := omega) only [Int.toNat_natCast, iI_lt, iI_le, iI_eq, iI_add, iI_sub, iI_mul, iI_neg, iI_clamp, inb_ii]; omega) ?_
  refine e_lt ?_
  refine e_jn ?_
  refine e_jn ?_
  rw [h, ha]
  refine e_if_f (by rcases ho with w | w <;> rw [w] <;> decide) ?_
  refine e_if_f (by rcases ho with w | w <;> rw [w] <;> decide) ?_
  refine e_if_f (by simp (disch := omega) only [Int.toNat_natCast, iI_lt, iI_le, iI_eq, iI_add, iI_sub, iI_mul, iI_neg, iI_clamp, inb_ii, z_1]; omega) ?_
  refine e_if_t (by simp (disch := omega) only [Int.toNat_natCast, iI_lt, iI_le, iI_eq, iI_add, iI_sub, iI_mul, iI_neg, iI_clamp, inb_ii, z_40]; omega) ?_
  refine e_if_f (by rcases ho with w | w <;> rw [w] <;> decide) ?_
  refine e_jn ?_
  rw [pr_s, m1]
  rcases ho with w | w
  · subst w
    refine e_if_t rfl ?_
    refine e_gd gj ?_
    rw [iI_clamp (by omega), Int.toNat_natCast]
    refine e_jn ?_
    by_cases y : s 16 j = 0
    · refine e_if_t y ?_
      refine e_jn ?_
      refine e_if_t rfl ?_
      refine e_jn ?_
      refine e_if_f (by decide) ?_
      refine e_jn ?_
      refine e_if_t rfl ?_
      show lp_X1_reckon_6 (iI to) K N _ (iI (i : Int) + 1) _ = _
      rw [nx_s]
      exact hr2 (fun w => w.elim (fun w => w.2 y) (fun w => n1 w.1))
    · refine e_if_f y ?_
      refine e_jn ?_
      refine e_if_t rfl ?_
      refine e_jn ?_
      refine e_if_t rfl ?_
      refine e_jn ?_
      refine e_if_f (by decide) ?_
      refine e_lt ?_
      show lp_X1_reckon_6 (iI to) K N _ ((if iI (i : Int) < iI (l : Int) - 1 then iI (l : Int) - 1 else iI (i : Int)) + 1) _ = _
      rw [mx]
      exact hr1 (Or.inl ⟨rfl, y⟩)
  · subst w
    refine e_if_f n2 ?_
    refine e_if_t rfl ?_
    refine e_gd gj ?_
    rw [iI_clamp (by omega), Int.toNat_natCast]
    refine e_jn ?_
    by_cases y : s 16 j = 0
    · refine e_if_t y ?_
      refine e_jn ?_
      refine e_if_f n2 ?_
      refine e_jn ?_
      refine e_if_t rfl ?_
      refine e_jn ?_
      refine e_if_f (by decide) ?_
      refine e_lt ?_
      show lp_X1_reckon_6 (iI to) K N _ ((if iI (i : Int) < iI (l : Int) - 1 then iI (l : Int) - 1 else iI (i : Int)) + 1) _ = _
      rw [mx]
      exact hr1 (Or.inr ⟨rfl, y⟩)
    · refine e_if_f y ?_
      refine e_jn ?_
      refine e_if_f n2 ?_
      refine e_jn ?_
      refine e_if_f (by decide) ?_
      refine e_jn ?_
      refine e_if_t rfl ?_
      show lp_X1_reckon_6 (iI to) K N _ (iI (i : Int) + 1) _ = _
      rw [nx_s]
      exact hr2 (fun w => w.elim (fun w => n2 w.1) (fun w => y w.2))
/-- the steps k .. k2 reckon e with Q places of the stack -/
def CE (Q : Nat) (ST AM : Nat → Int32) (k k2 : Nat) (e : EV) : Prop := k ≤ k2 ∧ ∀ (F : Nat → Int32) (s : SS) (to N j : Nat) (K : Int32 → SS → Res), (∀ i, k ≤ i → i < k2 → s 10 i = ST i ∧ s 11 i = AM i) → (∀ i, i < 11 → s 32 i = F i) → k2 ≤ to → to ≤ 200 → j + Q ≤ 40 → k2 - k < N → (e F = none → ∃ R, lp_X1_reckon_6 (iI to) K N (iI j) (iI k) s = some (0, upr s 16 R)) ∧ ∀ v, e F = some v → ∃ R N2, N ≤ N2 + (k2 - k) ∧ lp_X1_reckon_6 (iI to) K N (iI j) (iI k) s = lp_X1_reckon_6 (iI to) K N2 (iI ((j + 1 : Nat) : Int)) (iI k2) (upr s 16 R) ∧ R j = v ∧ ∀ i, i < j → R i = s 16 i
theorem CE.of {Q k k2 : Nat} {ST AM ST2 AM2 : Nat → Int32} {e : EV} (h : CE Q ST AM k k2 e) (g : ∀ i, k ≤ i → i < k2 → ST2 i = ST i ∧ AM2 i = AM i) : CE Q ST2 AM2 k k2 e := by
  refine ⟨h.1, fun F s to N j K h1 h2 h3 h4 h5 h6 => h.2 F s to N j K (fun i a b => ?_) h2 h3 h4 h5 h6⟩
  have := h1 i a b
  have g2 := g i a b
  exact ⟨this.1.trans g2.1, this.2.trans g2.2⟩
theorem CE.m {Q Q2 k k2 : Nat} {ST AM : Nat → Int32} {e : EV} (h : CE Q ST AM k k2 e) (g : Q ≤ Q2) : CE Q2 ST AM k k2 e := ⟨h.1, fun F s to N j K h1 h2 h3 h4 h5 h6 => h.2 F s to N j K h1 h2 h3 h4 (by omega) h6⟩
theorem CE_num {k : Nat} {ST AM : Nat → Int32} {v : Int32} (h1 : ST k = 48) (h2 : AM k = v) : CE 1 ST AM k (k + 1) (fun _ => some v) := by
  refine ⟨by omega, fun F s to N j K a1 a2 a3 a4 a5 a6 => ⟨(fun w => by cases w), fun w hw => ?_⟩⟩
  obtain ⟨N, rfl⟩ : ∃ M, N = M + 1 := ⟨N - 1, by omega⟩
  have hk := a1 k (by omega) (by omega)
  refine ⟨upd (s 16) j v, N, by omega, rk_push (by omega) a4 (by omega) (Or.inl ⟨hk.1.trans h1, hk.2.trans h2⟩), ?_, fun i hi => upd_ne (by omega)⟩
  rw [upd_eq]
  exact Option.some.inj hw
theorem CE_fact {k f : Nat} {ST AM : Nat → Int32} (hf : f < 11) (h1 : ST k = 108) (h2 : AM k = iI f) : CE 1 ST AM k (k + 1) (fun F => some (F f)) := by
  refine ⟨by omega, fun F s to N j K a1 a2 a3 a4 a5 a6 => ⟨(fun w => by cases w), fun w hw => ?_⟩⟩
  obtain ⟨N, rfl⟩ : ∃ M, N = M + 1 := ⟨N - 1, by omega⟩
  have hk := a1 k (by omega) (by omega)
  refine ⟨upd (s 16) j (F f), N, by omega, rk_push (by omega) a4 (by omega) (Or.inr ⟨hk.1.trans h1, f, hf, hk.2.trans h2, a2 f hf⟩), ?_, fun i hi => upd_ne (by omega)⟩
  rw [upd_eq]
  exact Option.some.inj hw
theorem CE_bin {Q1 Q2 Q k m l op : Nat} {ST AM : Nat → Int32} {e1 e2 : EV} (h1 : CE Q1 ST AM k m e1) (h2 : CE Q2 ST AM m l e2) (ho : OPS op) (h : ST l = iI op) (hQ1 : Q1 ≤ Q) (hQ2 : Q2 + 1 ≤ Q) (hQ : 1 ≤ Q2) : CE Q ST AM k (l + 1) (binE op e1 e2) := by
  have hk := h1.1
  have hm := h2.1
  refine ⟨by omega, fun F s to N j K a1 a2 a3 a4 a5 a6 => ?_⟩
  obtain ⟨n1, n2⟩ := h1.2 F s to N j K (fun i a b => a1 i (by omega) (by omega)) a2 (by omega) a4 (by omega) (by omega)
  have e0 : e1 F = none → binE op e1 e2 F = none := fun w => by unfold binE; rw [w]
  have e0b : ∀ x, e1 F = some x → e2 F = none → binE op e1 e2 F = none := fun x w w2 => by unfold binE; rw [w, w2]
  have e0c : ∀ x y, e1 F = some x → e2 F = some y → binE op e1 e2 F = if (op = 47 ∨ op = 37) ∧ y = 0 then none else some (wkd (iI op) x y) := fun x y w w2 => by unfold binE; rw [w, w2]
  cases c1 : e1 F with
  | none =>
    rw [e0 c1]
    exact ⟨fun _ => n1 c1, fun v w => by cases w⟩
  | some x =>
    obtain ⟨R, N2, b1, b2, b3, b4⟩ := n2 x c1
    obtain ⟨m1, m2⟩ := h2.2 F (upr s 16 R) to N2 (j + 1) K (fun i a b => by rw [upr_ne (by omega), upr_ne (by omega)]; exact a1 i (by omega) (by omega)) (fun i hi => by rw [upr_ne (by omega)]; exact a2 i hi) (by omega) a4 (by omega) (by omega)
    cases c2 : e2 F with
    | none =>
      rw [e0b x c1 c2]
      obtain ⟨R2, d1⟩ := m1 c2
      rw [upr_upr] at d1
      exact ⟨fun _ => ⟨R2, b2.trans d1⟩, fun v w => by cases w⟩
    | some y =>
      obtain ⟨R2, N3, d1, d2, d3, d4⟩ := m2 y c2
      rw [upr_upr] at d2
      obtain ⟨N3, rfl⟩ : ∃ M, N3 = M + 1 := ⟨N3 - 1, by omega⟩
      have hl := a1 l (by omega) (by omega)
      have st := rk_op (s := upr s 16 R2) (to := to) (N := N3) (j := j) (i := l) (K := K) (by omega) a4 (by omega) ho (by rw [upr_ne (by omega)]; exact hl.1.trans h)
      rw [upr_eq, d3, d4 j (by omega), upr_eq, b3] at st
      have st1 := fun z => b2.trans (d2.trans (st.1 z))
      have st2 := fun z => b2.trans (d2.trans (st.2 z))
      rw [e0c x y c1 c2]
      by_cases z : (op = 47 ∨ op = 37) ∧ y = 0
      · have all := st1 z
        rw [if_pos z]
        exact ⟨fun _ => ⟨R2, all⟩, fun v w => by cases w⟩
      · have all := st2 z
        rw [if_neg z]
        refine ⟨(fun w => by cases w), fun v w => ⟨upd R2 j (wkd (iI op) x y), N3, by omega, ?_, ?_, ?_⟩⟩
        · rw [up_def, upr_upr, upr_eq] at all
          exact all
        · rw [upd_eq]
          exact Option.some.inj w
        · intro i hi
          rw [upd_ne (by omega), d4 i (by omega), upr_eq, b4 i hi]
theorem CE_not {Q k l : Nat} {ST AM : Nat → Int32} {e : EV} (h1 : CE Q ST AM k l e) (h : ST l = 33) (hQ : 1 ≤ Q) : CE Q ST AM k (l + 1) (notE e) := by
  have hk := h1.1
  refine ⟨by omega, fun F s to N j K a1 a2 a3 a4 a5 a6 => ?_⟩
  obtain ⟨n1, n2⟩ := h1.2 F s to N j K (fun i a b => a1 i (by omega) (by omega)) a2 (by omega) a4 (by omega) (by omega)
  have e0 : e F = none → notE e F = none := fun w => by unfold notE; rw [w]
  have e0b : ∀ x, e F = some x → notE e F = some (1 - x) := fun x w => by unfold notE; rw [w]
  cases c1 : e F with
  | none =>
    rw [e0 c1]
    exact ⟨fun _ => n1 c1, fun v w => by cases w⟩
  | some x =>
    obtain ⟨R, N2, b1, b2, b3, b4⟩ := n2 x c1
    obtain ⟨N2, rfl⟩ : ∃ M, N2 = M + 1 := ⟨N2 - 1, by omega⟩
    have hl := a1 l (by omega) (by omega)
    have st := rk_not (s := upr s 16 R) (to := to) (N := N2) (j := j) (i := l) (K := K) (by omega) a4 (by omega) (by rw [upr_ne (by omega)]; exact hl.1.trans h)
    rw [upr_eq, b3] at st
    rw [e0b x c1]
    refine ⟨(fun w => by cases w), fun v w => ⟨upd R j (1 - x), N2, by omega, ?_, ?_, ?_⟩⟩
    · have := b2.trans st
      rw [up_def, upr_upr, upr_eq] at this
      exact this
    · rw [upd_eq]
      exact Option.some.inj w
    · intro i hi
      rw [upd_ne (by omega), b4 i hi]
theorem CE_or {Q k m l : Nat} {ST AM : Nat → Int32} {e1 e2 : EV} (h1 : CE Q ST AM k m e1) (h2 : CE Q ST AM (m + 1) l e2) (h : ST m = 124) (ha : AM m = iI l) (hQ : 1 ≤ Q) : CE Q ST AM k l (orE e1 e2) := by
  have hk := h1.1
  have hm := h2.1
  refine ⟨by omega, fun F s to N j K a1 a2 a3 a4 a5 a6 => ?_⟩
  obtain ⟨n1, n2⟩ := h1.2 F s to N j K (fun i a b => a1 i (by omega) (by omega)) a2 (by omega) a4 (by omega) (by omega)
  have e0 : e1 F = none → orE e1 e2 F = none := fun w => by unfold orE; rw [w]
  have e0b : ∀ x, e1 F = some x → orE e1 e2 F = if x = 0 then e2 F else some x := fun x w => by unfold orE; rw [w]
  cases c1 : e1 F with
  | none =>
    rw [e0 c1]
    exact ⟨fun _ => n1 c1, fun v w => by cases w⟩
  | some x =>
    obtain ⟨R, N2, b1, b2, b3, b4⟩ := n2 x c1
    obtain ⟨N2, rfl⟩ : ∃ M, N2 = M + 1 := ⟨N2 - 1, by omega⟩
    have hl := a1 m (by omega) (by omega)
    have st := rk_bool (s := upr s 16 R) (to := to) (N := N2) (j := j) (i := m) (l := l) (K := K) (op := 124) (by omega) a4 (by omega) (Or.inl rfl) (by rw [upr_ne (by omega)]; exact hl.1.trans h) (by rw [upr_ne (by omega)]; exact hl.2.trans ha) (by omega) (by omega)
    rw [upr_eq, b3] at st
    have st1 := fun z => b2.trans (st.1 z)
    have st2 := fun z => b2.trans (st.2 z)
    rw [e0b x c1]
    by_cases z : x = 0
    · rw [if_pos z]
      have all := st2 (fun w => w.elim (fun w => w.2 z) (fun w => absurd w.1 (by decide)))
      obtain ⟨m1, m2⟩ := h2.2 F (upr s 16 R) to N2 j K (fun i a b => by rw [upr_ne (by omega), upr_ne (by omega)]; exact a1 i (by omega) (by omega)) (fun i hi => by rw [upr_ne (by omega)]; exact a2 i hi) (by omega) a4 (by omega) (by omega)
      refine ⟨fun w => ?_, fun v w => ?_⟩
      · obtain ⟨R2, d1⟩ := m1 w
        rw [upr_upr] at d1
        exact ⟨R2, all.trans d1⟩
      · obtain ⟨R2, N3, d1, d2, d3, d4⟩ := m2 v w
        rw [upr_upr] at d2
        exact ⟨R2, N3, by omega, all.trans d2, d3, fun i hi => by rw [d4 i hi, upr_eq, b4 i hi]⟩
    · rw [if_neg z]
      have all := st1 (Or.inl ⟨rfl, z⟩)
      exact ⟨(fun w => by cases w), fun v w => ⟨R, N2, by omega, all, by rw [b3]; exact Option.some.inj w, b4⟩⟩
theorem CE_and {Q k m l : Nat} {ST AM : Nat → Int32} {e1 e2 : EV} (h1 : CE Q ST AM k m e1) (h2 : CE Q ST AM (m + 1) l e2) (h : ST m = 38) (ha : AM m = iI l) (hQ : 1 ≤ Q) : CE Q ST AM k l (andE e1 e2) := by
  have hk := h1.1
  have hm := h2.1
  refine ⟨by omega, fun F s to N j K a1 a2 a3 a4 a5 a6 => ?_⟩
  obtain ⟨n1, n2⟩ := h1.2 F s to N j K (fun i a b => a1 i (by omega) (by omega)) a2 (by omega) a4 (by omega) (by omega)
  have e0 : e1 F = none → andE e1 e2 F = none := fun w => by unfold andE; rw [w]
  have e0b : ∀ x, e1 F = some x → andE e1 e2 F = if x = 0 then some x else e2 F := fun x w => by unfold andE; rw [w]
  cases c1 : e1 F with
  | none =>
    rw [e0 c1]
    exact ⟨fun _ => n1 c1, fun v w => by cases w⟩
  | some x =>
    obtain ⟨R, N2, b1, b2, b3, b4⟩ := n2 x c1
    obtain ⟨N2, rfl⟩ : ∃ M, N2 = M + 1 := ⟨N2 - 1, by omega⟩
    have hl := a1 m (by omega) (by omega)
    have st := rk_bool (s := upr s 16 R) (to := to) (N := N2) (j := j) (i := m) (l := l) (K := K) (op := 38) (by omega) a4 (by omega) (Or.inr rfl) (by rw [upr_ne (by omega)]; exact hl.1.trans h) (by rw [upr_ne (by omega)]; exact hl.2.trans ha) (by omega) (by omega)
    rw [upr_eq, b3] at st
    have st1 := fun z => b2.trans (st.1 z)
    have st2 := fun z => b2.trans (st.2 z)
    rw [e0b x c1]
    by_cases z : x = 0
    · rw [if_pos z]
      have all := st1 (Or.inr ⟨rfl, z⟩)
      exact ⟨(fun w => by cases w), fun v w => ⟨R, N2, by omega, all, by rw [b3]; exact Option.some.inj w, b4⟩⟩
    · rw [if_neg z]
      have all := st2 (fun w => w.elim (fun w => absurd w.1 (by decide)) (fun w => z w.2))
      obtain ⟨m1, m2⟩ := h2.2 F (upr s 16 R) to N2 j K (fun i a b => by rw [upr_ne (by omega), upr_ne (by omega)]; exact a1 i (by omega) (by omega)) (fun i hi => by rw [upr_ne (by omega)]; exact a2 i hi) (by omega) a4 (by omega) (by omega)
      refine ⟨fun w => ?_, fun v w => ?_⟩
      · obtain ⟨R2, d1⟩ := m1 w
        rw [upr_upr] at d1
        exact ⟨R2, all.trans d1⟩
      · obtain ⟨R2, N3, d1, d2, d3, d4⟩ := m2 v w
        rw [upr_upr] at d2
        exact ⟨R2, N3, by omega, all.trans d2, d3, fun i hi => by rw [d4 i hi, upr_eq, b4 i hi]⟩
