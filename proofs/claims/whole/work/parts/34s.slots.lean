/-! ===== small numbers side by side in a long ===== -/
def slt (x : Int64) (a b : Int32) : Int32 := ((lsr x (a * b) : Int64).toInt32) &&& ((1 <<< (b &&& 31)) - 1)
theorem slot_of (x : Int64) (a b : Int32) (s : SS) : f_X11_slotOf x a b s = some (slt x a b) := rfl
def bl (x : Int64) (i : Nat) : Bool := x.toBitVec.getLsbD i
theorem bl_or (x y : Int64) (i : Nat) : bl (x ||| y) i = (bl x i || bl y i) := by unfold bl; rw [Int64.toBitVec_or, BitVec.getLsbD_or]
theorem bl_big {x : Int64} {i : Nat} (h : 64 ≤ i) : bl x i = false := BitVec.getLsbD_of_ge _ _ h
theorem bl_0 (i : Nat) : bl 0 i = false := BitVec.getLsbD_zero
theorem s64_u : ∀ n : Nat, n < 64 → (((iI n).toInt64.toUInt64 &&& Int64.toUInt64 63).toBitVec % 64).toNat = n := by decide +kernel
theorem s64_l : ∀ n : Nat, n < 64 → (((iI n).toInt64 &&& 63).toBitVec.smod 64).toNat = n := by decide +kernel
theorem bl_lsr (n : Nat) (hn : n < 64) (x : Int64) (i : Nat) : bl (lsr x (iI n)) i = bl x (n + i) := by
  unfold lsr
  show (x.toUInt64 >>> ((iI n).toInt64.toUInt64 &&& Int64.toUInt64 63)).toBitVec.getLsbD i = x.toUInt64.toBitVec.getLsbD (n + i)
  rw [UInt64.toBitVec_shiftRight]
  show (x.toUInt64.toBitVec >>> (((iI n).toInt64.toUInt64 &&& Int64.toUInt64 63).toBitVec % 64).toNat).getLsbD i = _
  rw [s64_u n hn, BitVec.getLsbD_ushiftRight]
theorem bl_shl (n : Nat) (hn : n < 64) (x : Int64) {i : Nat} (hi : i < 64) : bl (x <<< ((iI n).toInt64 &&& 63)) i = (decide (n ≤ i) && bl x (i - n)) := by
  unfold bl
  rw [Int64.toBitVec_shiftLeft]
  show (x.toBitVec <<< (((iI n).toInt64 &&& 63).toBitVec.smod 64).toNat).getLsbD i = _
  rw [s64_l n hn, BitVec.getLsbD_shiftLeft]
  rcases Nat.lt_or_ge i n with h | h
  · simp [h, Nat.not_le.mpr h]
  · simp [hi, h, Nat.not_lt.mpr h]
theorem bt_l2i (x : Int64) {i : Nat} (hi : i < 32) : bt x.toInt32 i = bl x i := by
  show (x.toBitVec.signExtend 32).getLsbD i = x.toBitVec.getLsbD i
  rw [BitVec.getLsbD_signExtend, if_pos (by omega)]
  simp [hi]
theorem bl_i2l (v : Int32) {i : Nat} (hi : i < 64) : bl v.toInt64 i = if i < 32 then bt v i else bt v 31 := by
  show (v.toBitVec.signExtend 64).getLsbD i = _
  rw [BitVec.getLsbD_signExtend, BitVec.msb_eq_getLsbD_last]
  simp only [hi, decide_true, Bool.true_and]
  rfl
/-- a number below 2 ^ b -/
def sml (b : Nat) (v : Int32) : Prop := ∀ i, b ≤ i → bt v i = false
theorem sml_of {b : Nat} {z : Int} (hb : b ≤ 31) (h : 0 ≤ z ∧ z < (2 ^ b : Nat)) : sml b (iI z) := by
  obtain ⟨k, rfl⟩ : ∃ k : Nat, z = k := ⟨z.toNat, by omega⟩
  intro i hi
  rw [← iI_nat]
  show (BitVec.ofNat 32 k).getLsbD i = false
  rw [BitVec.getLsbD_ofNat]
  have h1 : k < 2 ^ b := by omega
  have h2 : k < 2 ^ i := Nat.lt_of_lt_of_le h1 (Nat.pow_le_pow_right (by omega) hi)
  rw [Nat.testBit_lt_two_pow h2, Bool.and_false]
def BB (b : Nat) (B : Int32) : Prop := B = iI b ∧ (∀ j, j < 32 → bt ((1 <<< (B &&& 31)) - 1) j = decide (j < b)) ∧ 0 < b ∧ b ≤ 16
theorem B16 : BB 16 16 := ⟨rfl, by decide +kernel, by omega, by omega⟩
theorem B4 : BB 4 4 := ⟨rfl, by decide +kernel, by omega, by omega⟩
theorem bt_slt {b : Nat} {B : Int32} (h : BB b B) {x : Int64} {i j : Nat} (hi : b * i + b ≤ 64) (hj : j < 32) : bt (slt x (iI i) B) j = (decide (j < b) && bl x (b * i + j)) := by
  obtain ⟨h1, h2, h3, h4⟩ := h
  have e : iI (i : Int) * B = iI ((b * i : Nat) : Int) := by
    rw [h1, iI_mul]
    congr 1
    rw [Int.mul_comm]
    rfl
  unfold slt
  rw [b_and, h2 j hj, e, bt_l2i _ hj, bl_lsr _ (by omega), Bool.and_comm]
theorem bl_wsl {b : Nat} {B : Int32} (h : BB b B) {x : Int64} {v : Int32} {i k : Nat} (hi : b * i + b ≤ 64) (hk : k < 64) : bl (wsl x (iI i) B v) k = (bl x k || (decide (b * i ≤ k) && bl v.toInt64 (k - b * i))) := by
  obtain ⟨h1, h2, h3, h4⟩ := h
  have e : iI (i : Int) * B = iI ((b * i : Nat) : Int) := by
    rw [h1, iI_mul]
    congr 1
    rw [Int.mul_comm]
    rfl
  unfold wsl
  rw [bl_or, e, bl_shl _ (by omega) _ hk]
theorem slt_0 {b : Nat} {B : Int32} (h : BB b B) {i : Nat} (hi : b * i + b ≤ 64) : slt 0 (iI i) B = 0 := by
  apply b_ext
  intro j hj
  rw [bt_slt h hi hj, bl_0, b_0, Bool.and_false]
theorem slt_same {b : Nat} {B : Int32} (h : BB b B) {x : Int64} {v : Int32} {i : Nat} (hi : b * i + b ≤ 64) (h0 : slt x (iI i) B = 0) (hv : sml b v) : slt (wsl x (iI i) B v) (iI i) B = v := by
  have h4 := h.2.2.2
  apply b_ext
  intro j hj
  rw [bt_slt h hi hj]
  by_cases q : j < b
  · have z : bl x (b * i + j) = false := by
      have z1 := bt_slt h (x := x) hi hj
      rw [h0, b_0] at z1
      simpa [q] using z1.symm
    rw [bl_wsl h hi (by omega), z, decide_eq_true q, decide_eq_true (show b * i ≤ b * i + j by omega), show b * i + j - b * i = j by omega, bl_i2l v (by omega), if_pos hj]
    simp
  · rw [decide_eq_false q, hv j (by omega)]
    rfl
theorem slt_ne {b : Nat} {B : Int32} (h : BB b B) {x : Int64} {v : Int32} {i k : Nat} (hi : b * i + b ≤ 64) (hk : b * k + b ≤ 64) (hik : ¬ k = i) (hv : sml b v) : slt (wsl x (iI i) B v) (iI k) B = slt x (iI k) B := by
  have h3 := h.2.2.1
  have h4 := h.2.2.2
  apply b_ext
  intro j hj
  rw [bt_slt h hk hj, bt_slt h hk hj]
  by_cases q : j < b
  · rw [bl_wsl h hi (by omega)]
    rcases Nat.lt_or_gt_of_ne hik with c | c
    · have : b * k + b ≤ b * i := by
        have := Nat.mul_le_mul_left b (show k + 1 ≤ i by omega)
        rw [Nat.mul_add, Nat.mul_one] at this
        exact this
      rw [decide_eq_false (show ¬ b * i ≤ b * k + j by omega)]
      simp
    · have : b * i + b ≤ b * k := by
        have := Nat.mul_le_mul_left b (show i + 1 ≤ k by omega)
        rw [Nat.mul_add, Nat.mul_one] at this
        exact this
      rw [bl_i2l v (by omega)]
      have z : (if b * k + j - b * i < 32 then bt v (b * k + j - b * i) else bt v 31) = false := by
        split
        · exact hv _ (by omega)
        · exact hv _ (by omega)
      rw [z]
      simp
  · rw [decide_eq_false q]
    rfl
/-- slot i of the long at place w of cell k -/
def gl (B : Int32) (s : SS) (k w i : Nat) : Int32 := slt (lgt (s k) w) (iI i) B
theorem gl_put {b : Nat} {B : Int32} (h : BB b B) {s : SS} {k w i : Nat} {v : Int32} (hi : b * i + b ≤ 64) (h0 : gl B s k w i = 0) (hv : sml b v) : gl B (upr s k (lset (s k) w (wsl (lgt (s k) w) (iI i) B v))) k w i = v := by
  unfold gl
  rw [upr_eq, lgt_lset]
  exact slt_same h hi h0 hv
theorem gl_oth {b : Nat} {B : Int32} (h : BB b B) {s : SS} {k w i w1 i1 : Nat} {v : Int32} (hi : b * i + b ≤ 64) (hi1 : b * i1 + b ≤ 64) (hne : ¬ (w1 = w ∧ i1 = i)) (hv : sml b v) : gl B (upr s k (lset (s k) w (wsl (lgt (s k) w) (iI i) B v))) k w1 i1 = gl B s k w1 i1 := by
  unfold gl
  rw [upr_eq]
  by_cases q : w1 = w
  · subst q
    rw [lgt_lset]
    exact slt_ne h hi hi1 (fun z => hne ⟨rfl, z⟩) hv
  · rw [lgt_ne _ _ _ _ q]
theorem gl_cell {B : Int32} {s t : SS} {k w i : Nat} (h : t k = s k) : gl B t k w i = gl B s k w i := by unfold gl; rw [h]
theorem gl_0 {b : Nat} {B : Int32} (h : BB b B) {s : SS} {k w i : Nat} (hi : b * i + b ≤ 64) (h0 : lgt (s k) w = 0) : gl B s k w i = 0 := by
  unfold gl
  rw [h0]
  exact slt_0 h hi
theorem e_upl0 {β : Type} {s : SS} {q j : Nat} {v : Int64} {f : SS → β} {r : β} (k : f (upr s q (lset (s q) j v)) = r) : lts (upl s q j v) f = r := k
theorem e_upl {β : Type} {s : SS} {R : Nat → Int32} {q j : Nat} {v : Int64} {f : SS → β} {r : β} (k : f (upr s q (lset R j v)) = r) : lts (upl (upr s q R) q j v) f = r := by
  show f (upr (upr s q R) q (lset (upr s q R q) j v)) = r
  rw [upr_upr, upr_eq]
  exact k
