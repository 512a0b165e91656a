/-! check, rota as steps -/
variable {T : TW} {kd tl tn : Nat → Nat} {n c x p dy X k x2 p2 dy2 X2 k2 z cl : Nat} {en : Nat → Nat → Int32} {kf : Bool} {b : Nat → Nat} {d : Nat → Int32} {ed : Nat} {s t u : SS}
/-- the i-th number of the tape, by its first j bytes -/
def nbr (b : Nat → Nat) (i : Nat) : Nat → Int32
  | 0 => 0
  | j + 1 => (nbr b i j <<< ((8 : Int32) &&& 31)) ||| (iI (b (4 * i + j) : Int) &&& 255)
def ckF (k : Nat) (en : Nat → Nat → Int32) (b : Nat → Nat) (m : Nat) : Nat → Nat → Int32
  | 0, _ => if m < k then iI ((3 * m : Nat) : Int) else -1
  | j + 1, i => if k ≤ i / 3 then iI i else if en (i / 3) (i % 3) = nbr b i 4 then ckF k en b m j (i + 1) else iI i
theorem sby_255 : ∀ v : Nat, v < 256 → (iI (sby v) &&& 255 : Int32) = (iI (v : Int) &&& 255) := by decide +kernel
theorem fo_i (i j : Nat) : (4 : Int32) * iI (i : Int) + iI (j : Int) = iI ((4 * i + j : Nat) : Int) := lay_4 i j
theorem th_i (i : Nat) : (3 : Int32) * iI (i : Int) = iI ((3 * i : Nat) : Int) := by
  rw [z_3, iI_mul]
  congr 1
theorem tp_num {z i : Nat} {b : Nat → Nat} (ho : TPO z b) (h : TPC z b s) (hi : 4 * i + 4 ≤ z) : f_X9_numberOn (iI i) s = some (nbr b i 4) := by
  have hz := ho.1
  have lp : ∀ (m N j : Nat), j + m = 4 → m < N → lp_X9_numberOn_4 (iI i) s N (nbr b i j) (iI j) = some (nbr b i 4) := by
    intro m
    induction m with
    | zero =>
      intro N j hj hN
      cases N with
      | zero => omega
      | succ N =>
        obtain rfl : j = 4 := by omega
        rw [lp_X9_numberOn_4]
        exact e_if_t (by decide) rfl
    | succ m ih =>
      intro N j hj hN
      cases N with
      | zero => omega
      | succ N =>
        rw [lp_X9_numberOn_4]
        refine e_if_f (by simp (disch := omega) only [Int.toNat_natCast, iI_lt, iI_le, iI_eq, iI_add, iI_sub, iI_mul, iI_neg, iI_clamp, inb_ii, z_4]; omega) ?_
        rw [fo_i]
        refine e_bdp (tp_byte ho h (by omega)) ?_
        refine e_lt ?_
        rw [nx_s]
        exact ih N (j + 1) (by omega) (by omega)
  unfold f_X9_numberOn
  exact lp 4 FU 0 rfl (fu_lt (by omega))
theorem tr_num {z i : Nat} {b : Nat → Nat} (ho : TPO z b) (h : ∀ j, j < z → s 57 j = iI (sby (b j))) (hi : 4 * i + 4 ≤ z) : f_X12_numberAt (iI i) s = some (nbr b i 4) := by
  have hz := ho.1
  have lp : ∀ (m N j : Nat), j + m = 4 → m < N → lp_X12_numberAt_4 (iI i) s N (nbr b i j) (iI j) = some (nbr b i 4) := by
    intro m
    induction m with
    | zero =>
      intro N j hj hN
      cases N with
      | zero => omega
      | succ N =>
        obtain rfl : j = 4 := by omega
        rw [lp_X12_numberAt_4]
        exact e_if_t (by decide) rfl
    | succ m ih =>
      intro N j hj hN
      cases N with
      | zero => omega
      | succ N =>
        have hb := ho.2 (4 * i + j) (by omega)
        rw [lp_X12_numberAt_4]
        refine e_if_f (by simp (disch := omega) only [Int.toNat_natCast, iI_lt, iI_le, iI_eq, iI_add, iI_sub, iI_mul, iI_neg, iI_clamp, inb_ii, z_4]; omega) ?_
        rw [fo_i]
        refine e_gd (by simp (disch := omega) only [Int.toNat_natCast, iI_lt, iI_le, iI_eq, iI_add, iI_sub, iI_mul, iI_neg, iI_clamp, inb_ii]; omega) ?_
        rw [iI_clamp (by omega), Int.toNat_natCast, h _ (by omega), sby_255 _ hb]
        refine e_lt ?_
        rw [nx_s]
        exact ih N (j + 1) (by omega) (by omega)
  unfold f_X12_numberAt
  exact lp 4 FU 0 rfl (fu_lt (by omega))
theorem cc_ckF (h : JC T kd tl n c tn x p dy X k en kf x2 p2 dy2 X2 k2 z b d cl ed s) {m : Nat} (hm : 12 * m ≤ z) : f_X11_firstUnlike (iI m) s = some (ckF k en b m (3 * m) 0) := by
  obtain ⟨h1, h2, h3, h4, h5, h6, h7, h8, h9, h10, h11, h12⟩ := h
  have ho := h1.2.2.2.2.2.1
  have hz := ho.1
  have hk : k ≤ 100 := h1.2.2.2.2.1
  have ek := h6.2.2.2.2
  have lp : ∀ (j N i : Nat) (K : Option Int32), i + j = 3 * m → j < N → K = some (if m < k then iI ((3 * m : Nat) : Int) else -1) → lp_X11_firstUnlike_2 (iI m) s K N (iI i) = some (ckF k en b m j i) := by
    intro j
    induction j with
    | zero =>
      intro N i K hi hN hK
      cases N with
      | zero => omega
      | succ N =>
        rw [lp_X11_firstUnlike_2, th_i]
        refine e_if_t (by simp (disch := omega) only [Int.toNat_natCast, iI_lt, iI_le, iI_eq, iI_add, iI_sub, iI_mul, iI_neg, iI_clamp, inb_ii]; omega) ?_
        rw [hK]
        rfl
    | succ j ih =>
      intro N i K hi hN hK
      cases N with
      | zero => omega
      | succ N =>
        have d3 : iI (i : Int) / 3 = iI ((i / 3 : Nat) : Int) := by
          rw [z_3, iI_div (by omega) (by omega)]
          congr 1
        have r3 : iI (i : Int) - iI (i : Int) / 3 * 3 = iI ((i % 3 : Nat) : Int) := by
          rw [z_3, iI_rem (by omega) (by omega)]
          congr 1
        have ix : iI ((i / 3 : Nat) : Int) * 4 + iI ((i % 3 : Nat) : Int) = iI ((4 * (i / 3) + i % 3 : Nat) : Int) := by
          rw [z_4, iI_mul, iI_add]
          congr 1
          omega
        have un : ckF k en b m (j + 1) i = if k ≤ i / 3 then iI i else if en (i / 3) (i % 3) = nbr b i 4 then ckF k en b m j (i + 1) else iI i := rfl
        rw [lp_X11_firstUnlike_2, th_i, d3, show iI (i : Int) - iI ((i / 3 : Nat) : Int) * 3 = iI ((i % 3 : Nat) : Int) by rw [← d3]; exact r3]
        refine e_if_f (by simp (disch := omega) only [Int.toNat_natCast, iI_lt, iI_le, iI_eq, iI_add, iI_sub, iI_mul, iI_neg, iI_clamp, inb_ii]; omega) ?_
        refine e_gd (by decide) ?_
        refine e_lt ?_
        by_cases q1 : k ≤ i / 3
        · rw [if_pos q1] at un
          refine e_if_t (by rw [ek]; simp (disch := omega) only [Int.toNat_natCast, iI_lt, iI_le, iI_eq, iI_add, iI_sub, iI_mul, iI_neg, iI_clamp, inb_ii]; omega) ?_
          rw [un]
        · rw [if_neg q1] at un
          refine e_if_f (by rw [ek]; simp (disch := omega) only [Int.toNat_natCast, iI_lt, iI_le, iI_eq, iI_add, iI_sub, iI_mul, iI_neg, iI_clamp, inb_ii]; omega) ?_
          refine e_if_f (by simp (disch := omega) only [Int.toNat_natCast, iI_lt, iI_le, iI_eq, iI_add, iI_sub, iI_mul, iI_neg, iI_clamp, inb_ii, z_100]; omega) ?_
          refine e_gd (by decide) ?_
          rw [ix]
          refine e_gd (by simp (disch := omega) only [Int.toNat_natCast, iI_lt, iI_le, iI_eq, iI_add, iI_sub, iI_mul, iI_neg, iI_clamp, inb_ii]; omega) ?_
          refine e_bdp (tp_num ho h8 (by omega)) ?_
          rw [iI_clamp (by omega), Int.toNat_natCast, h7 (i / 3) (i % 3) (by omega) (by omega)]
          by_cases q2 : en (i / 3) (i % 3) = nbr b i 4
          · rw [if_pos q2] at un
            refine e_if_t q2 ?_
            rw [nx_s, un]
            exact ih N (i + 1) K (by omega) (by omega) hK
          · rw [if_neg q2] at un
            refine e_if_f q2 ?_
            rw [un]
  unfold f_X11_firstUnlike
  refine e_jn ?_
  refine lp (3 * m) FU 0 _ (by omega) (fu_lt (by omega)) ?_
  rw [ek, th_i]
  by_cases q : k ≤ m
  · rw [if_neg (show ¬ m < k by omega)]
    exact e_if_t (by simp (disch := omega) only [Int.toNat_natCast, iI_lt, iI_le, iI_eq, iI_add, iI_sub, iI_mul, iI_neg, iI_clamp, inb_ii]; omega) rfl
  · rw [if_pos (show m < k by omega)]
    exact e_if_f (by simp (disch := omega) only [Int.toNat_natCast, iI_lt, iI_le, iI_eq, iI_add, iI_sub, iI_mul, iI_neg, iI_clamp, inb_ii]; omega) rfl
