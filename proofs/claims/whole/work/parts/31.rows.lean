/-! rows: a row of laws as a number x below 4681, oldest first in eights; a wall of the class is br n + x -/
def mny (x : Nat) : Nat := if x < 1 then 0 else if x < 9 then 1 else if x < 73 then 2 else if x < 585 then 3 else 4
def fsz (n : Nat) : Nat := if n = 0 then 0 else if n = 1 then 1 else if n = 2 then 9 else if n = 3 then 73 else 585
def szR (n : Nat) : Nat := if n = 1 then 9 else if n = 2 then 73 else if n = 3 then 585 else 4681
def br (n : Nat) : Nat := if n = 1 then 0 else if n = 2 then 9 else if n = 3 then 82 else if n = 4 then 667 else 5348
def p8 (n : Nat) : Nat := if n = 0 then 1 else if n = 1 then 8 else if n = 2 then 64 else if n = 3 then 512 else 4096
def old (x : Nat) : Nat := if mny x = 0 then 8 else (x - fsz (mny x)) / p8 (mny x - 1)
/-- one bit -/
def sh1 (l : Nat) : Int32 := iI 1 <<< (iI l &&& 31)
def stF : Nat → Nat → Int32
  | 0, _ => 0
  | n + 1, x => if x = 0 then 0 else stF n ((x - 1) / 8) ||| sh1 ((x - 1) % 8)
def stn (x : Nat) : Int32 := stF 4 x
/-- the j-th before the newest -/
def anc : Nat → Nat → Nat
  | 0, x => x
  | j + 1, x => anc j ((x - 1) / 8)
def lwA (x i : Nat) : Nat := (anc (mny x - 1 - i) x - 1) % 8
def cut (n x : Nat) : Nat := if mny x = n then x - (old x + 1) * p8 (n - 1) else x
def bh (n x l : Nat) : Nat := if l = 8 then x else 8 * cut n x + 1 + l
theorem mny_le (x : Nat) : mny x ≤ 4 := by
  unfold mny
  repeat' split
  all_goals omega
theorem mny_up {x : Nat} (h0 : 0 < x) (h : x < 4681) : mny x = mny ((x - 1) / 8) + 1 := by
  unfold mny
  repeat' split
  all_goals omega
theorem mny_0 {x : Nat} (h : x < 1) : mny x = 0 := by unfold mny; simp (disch := omega) only [if_pos, if_neg]
theorem mny_1 {x : Nat} (h : 1 ≤ x ∧ x < 9) : mny x = 1 := by unfold mny; simp (disch := omega) only [if_pos, if_neg]
theorem mny_2 {x : Nat} (h : 9 ≤ x ∧ x < 73) : mny x = 2 := by unfold mny; simp (disch := omega) only [if_pos, if_neg]
theorem mny_3 {x : Nat} (h : 73 ≤ x ∧ x < 585) : mny x = 3 := by unfold mny; simp (disch := omega) only [if_pos, if_neg]
theorem mny_4 {x : Nat} (h : 585 ≤ x) : mny x = 4 := by unfold mny; simp (disch := omega) only [if_pos, if_neg]
theorem old_0 {x : Nat} (h : x < 1) : old x = 8 := by unfold old; rw [mny_0 h]; rfl
theorem old_1 {x : Nat} (h : 1 ≤ x ∧ x < 9) : old x = x - 1 := by unfold old; rw [mny_1 h]; show (x - 1) / 1 = _; omega
theorem old_2 {x : Nat} (h : 9 ≤ x ∧ x < 73) : old x = (x - 9) / 8 := by unfold old; rw [mny_2 h]; rfl
theorem old_3 {x : Nat} (h : 73 ≤ x ∧ x < 585) : old x = (x - 73) / 64 := by unfold old; rw [mny_3 h]; rfl
theorem old_4 {x : Nat} (h : 585 ≤ x) : old x = (x - 585) / 512 := by unfold old; rw [mny_4 h]; rfl
theorem old_up {x : Nat} (h0 : 0 < x) (h : x < 4681) : old x = if (x - 1) / 8 = 0 then (x - 1) % 8 else old ((x - 1) / 8) := by
  by_cases h1 : x < 9
  · rw [if_pos (by omega), old_1 (by omega)]; omega
  · rw [if_neg (by omega)]
    by_cases h2 : x < 73
    · rw [old_2 (by omega), old_1 (by omega)]; omega
    · by_cases h3 : x < 585
      · rw [old_3 (by omega), old_2 (by omega)]; omega
      · rw [old_4 (by omega), old_3 (by omega)]; omega
theorem mny_sz {n x : Nat} (hn : 1 ≤ n ∧ n ≤ 4) (h : x < szR n) : mny x ≤ n := by
  unfold szR at h
  unfold mny
  repeat' split
  all_goals (repeat' split at h)
  all_goals omega
theorem sz_lt {n x : Nat} (hn : 1 ≤ n ∧ n ≤ 4) (h : x < szR n) : br n + x < 5348 ∧ x < 4681 := by
  unfold szR at h
  unfold br
  repeat' split
  all_goals (repeat' split at h)
  all_goals omega
theorem old_lt {x : Nat} (h : x < 4681) : old x ≤ 8 ∧ (0 < x → old x < 8) := by
  by_cases h0 : x < 1
  · rw [old_0 h0]; omega
  · by_cases h1 : x < 9
    · rw [old_1 (by omega)]; omega
    · by_cases h2 : x < 73
      · rw [old_2 (by omega)]; omega
      · by_cases h3 : x < 585
        · rw [old_3 (by omega)]; omega
        · rw [old_4 (by omega)]; omega
theorem cut_n {n x : Nat} (h : mny x < n) : cut n x = x := by unfold cut; rw [if_neg (by omega)]
theorem cut_1 {x : Nat} (h : 1 ≤ x ∧ x < 9) : cut 1 x = 0 := by unfold cut; rw [mny_1 h, if_pos rfl, old_1 h]; show x - (x - 1 + 1) * 1 = 0; omega
theorem cut_2 {x : Nat} (h : 9 ≤ x ∧ x < 73) : cut 2 x = 1 + (x - 9) % 8 := by unfold cut; rw [mny_2 h, if_pos rfl, old_2 h]; show x - ((x - 9) / 8 + 1) * 8 = _; omega
theorem cut_3 {x : Nat} (h : 73 ≤ x ∧ x < 585) : cut 3 x = 9 + (x - 73) % 64 := by unfold cut; rw [mny_3 h, if_pos rfl, old_3 h]; show x - ((x - 73) / 64 + 1) * 64 = _; omega
theorem cut_4 {x : Nat} (h : 585 ≤ x) : cut 4 x = 73 + (x - 585) % 512 := by unfold cut; rw [mny_4 h, if_pos rfl, old_4 h]; show x - ((x - 585) / 512 + 1) * 512 = _; omega
theorem sz_1 : szR 1 = 9 := rfl
theorem sz_2 : szR 2 = 73 := rfl
theorem sz_3 : szR 3 = 585 := rfl
theorem sz_4 : szR 4 = 4681 := rfl
theorem cut_lt {n x : Nat} (hn : 1 ≤ n ∧ n ≤ 4) (h : x < szR n) : 8 * cut n x + 8 < szR n := by
  by_cases hm : mny x < n
  · rw [cut_n hm]
    by_cases h1 : x < 1
    · obtain rfl | rfl | rfl | rfl : n = 1 ∨ n = 2 ∨ n = 3 ∨ n = 4 := by omega
      all_goals simp only [sz_1, sz_2, sz_3, sz_4] at *
      all_goals omega
    · by_cases h2 : x < 9
      · rw [mny_1 (by omega)] at hm
        obtain rfl | rfl | rfl : n = 2 ∨ n = 3 ∨ n = 4 := by omega
        all_goals simp only [sz_1, sz_2, sz_3, sz_4] at *
        all_goals omega
      · by_cases h3 : x < 73
        · rw [mny_2 (by omega)] at hm
          obtain rfl | rfl : n = 3 ∨ n = 4 := by omega
          all_goals simp only [sz_1, sz_2, sz_3, sz_4] at *
          all_goals omega
        · by_cases h4 : x < 585
          · rw [mny_3 (by omega)] at hm
            obtain rfl : n = 4 := by omega
            simp only [sz_4] at *
            omega
          · rw [mny_4 (by omega)] at hm
            omega
  · have := mny_sz hn h
    have he : mny x = n := by omega
    obtain rfl | rfl | rfl | rfl : n = 1 ∨ n = 2 ∨ n = 3 ∨ n = 4 := by omega
    · have hx : 1 ≤ x ∧ x < 9 := by
        refine ⟨?_, by simpa only [sz_1] using h⟩
        by_cases q : x < 1
        · rw [mny_0 q] at he; omega
        · omega
      rw [cut_1 hx, sz_1]; omega
    · simp only [sz_2] at h
      have hx : 9 ≤ x ∧ x < 73 := by
        refine ⟨?_, h⟩
        by_cases q : x < 1
        · rw [mny_0 q] at he; omega
        · by_cases q2 : x < 9
          · rw [mny_1 (by omega)] at he; omega
          · omega
      rw [cut_2 hx, sz_2]; omega
    · simp only [sz_3] at h
      have hx : 73 ≤ x ∧ x < 585 := by
        refine ⟨?_, h⟩
        by_cases q : x < 1
        · rw [mny_0 q] at he; omega
        · by_cases q2 : x < 9
          · rw [mny_1 (by omega)] at he; omega
          · by_cases q3 : x < 73
            · rw [mny_2 (by omega)] at he; omega
            · omega
      rw [cut_3 hx, sz_3]; omega
    · simp only [sz_4] at h
      have hx : 585 ≤ x := by
        by_cases q : x < 1
        · rw [mny_0 q] at he; omega
        · by_cases q2 : x < 9
          · rw [mny_1 (by omega)] at he; omega
          · by_cases q3 : x < 73
            · rw [mny_2 (by omega)] at he; omega
            · by_cases q4 : x < 585
              · rw [mny_3 (by omega)] at he; omega
              · omega
      rw [cut_4 hx, sz_4]; omega
theorem bh_lt {n x l : Nat} (hn : 1 ≤ n ∧ n ≤ 4) (h : x < szR n) (hl : l ≤ 8) : bh n x l < szR n := by
  have := cut_lt hn h
  unfold bh
  split
  · exact h
  · omega
