/-! the best row: rows of different laws -/
variable {T : TW} {kd tl tn : Nat → Nat} {n c x p : Nat} {s t u : SS}
/-- the laws that stand on the first k places -/
def sFx (x : Nat) : Nat → Int32
  | 0 => 0
  | k + 1 => sFx x k ||| sh1 (lwA x k)
def difB (T : TW) (x : Nat) : Nat → Bool
  | 0 => true
  | k + 1 => difB T x k && (!bt (sFx x k) (lwA x k) && decide (lwA x k < T.1))
def vrB (T : TW) (x : Nat) : Nat → Bool
  | 0 => true
  | k + 1 => vrB T x k && decide (lwA x k < T.1)
def pcF (v : Int32) : Nat → Nat
  | 0 => 0
  | l + 1 => pcF v l + if bt v l = true then 1 else 0
def bcF (a1 : Int32) : Int32 :=
  let v1 := a1 - ((((a1 : Int32).toUInt32 >>> (Int32.toUInt32 1 &&& Int32.toUInt32 31)).toInt32) &&& 1431655765)
  let v2 := (v1 &&& 858993459) + ((((v1 : Int32).toUInt32 >>> (Int32.toUInt32 2 &&& Int32.toUInt32 31)).toInt32) &&& 858993459)
  let v3 := (v2 + (((v2 : Int32).toUInt32 >>> (Int32.toUInt32 4 &&& Int32.toUInt32 31)).toInt32)) &&& 252645135
  let v4 := v3 + (((v3 : Int32).toUInt32 >>> (Int32.toUInt32 8 &&& Int32.toUInt32 31)).toInt32)
  let v5 := v4 + (((v4 : Int32).toUInt32 >>> (Int32.toUInt32 16 &&& Int32.toUInt32 31)).toInt32)
  v5 &&& 63
theorem bc_dec : ∀ k : Nat, k < 256 → bcF (iI (k : Int)) = iI (pcF (iI (k : Int)) 8 : Int) := by decide +kernel
theorem pc_dec : ∀ k : Nat, k < 256 → ∀ m : Nat, m < 8 → pcF (iI (k : Int) ||| sh1 m) 8 = pcF (iI (k : Int)) 8 + if bt (iI (k : Int)) m = true then 0 else 1 := by decide +kernel
theorem sF_bt (x : Nat) : ∀ (k l : Nat), l < 32 → (bt (sFx x k) l = true ↔ ∃ i, i < k ∧ lwA x i = l) := by
  intro k
  induction k with
  | zero =>
    intro l _
    show bt 0 l = true ↔ _
    rw [b_0]
    constructor
    · intro h; cases h
    · rintro ⟨i, hi, -⟩; omega
  | succ k ih =>
    intro l hl
    show bt (sFx x k ||| sh1 (lwA x k)) l = true ↔ _
    have h8 := lwA_lt x k
    rw [b_or, sh1_bt (by omega) hl, Bool.or_eq_true, ih l hl]
    constructor
    · rintro (⟨i, h1, h2⟩ | h)
      · exact ⟨i, by omega, h2⟩
      · exact ⟨k, by omega, (of_decide_eq_true h).symm⟩
    · rintro ⟨i, h1, h2⟩
      by_cases q : i = k
      · right; subst q; exact decide_eq_true h2.symm
      · left; exact ⟨i, by omega, h2⟩
theorem stn_sF {x : Nat} (hx : x < 4681) : stn x = sFx x (mny x) := by
  apply b_ext
  intro i hi
  have h1 := stn_bt (mny x) x i rfl hx hi
  have h2 := sF_bt x (mny x) i hi
  rw [Bool.eq_iff_iff, h1, h2]
theorem sF_small (x k : Nat) : ∃ j : Nat, j < 256 ∧ sFx x k = iI j := by
  have h : sFx x k &&& 255 = sFx x k := by
    apply b_ext
    intro i hi
    rw [b_and, b_255]
    by_cases q : i < 8
    · simp [q]
    · have : bt (sFx x k) i = false := by
        cases e : bt (sFx x k) i with
        | false => rfl
        | true =>
          obtain ⟨j, -, h2⟩ := (sF_bt x k i hi).mp e
          have := lwA_lt x j
          omega
      simp [this]
  obtain ⟨j, hj, e⟩ := pk_andE (sFx x k) (m := 255) 8 (by decide)
  exact ⟨j, by omega, by rw [← h, e, iI_nat]⟩
theorem pc_s (x k : Nat) : pcF (sFx x (k + 1)) 8 = pcF (sFx x k) 8 + if bt (sFx x k) (lwA x k) = true then 0 else 1 := by
  obtain ⟨j, hj, e⟩ := sF_small x k
  show pcF (sFx x k ||| sh1 (lwA x k)) 8 = _
  rw [e]
  exact pc_dec j hj _ (lwA_lt x k)
theorem pc_0 : pcF 0 8 = 0 := by decide
theorem pc_le (x : Nat) : ∀ k, pcF (sFx x k) 8 ≤ k := by
  intro k
  induction k with
  | zero => show pcF 0 8 ≤ 0; rw [pc_0]; exact Nat.le_refl 0
  | succ k ih => rw [pc_s]; split <;> omega
theorem pc_dif (T : TW) (x : Nat) : ∀ k, (difB T x k = true ↔ (vrB T x k = true ∧ k ≤ pcF (sFx x k) 8)) := by
  intro k
  induction k with
  | zero =>
    constructor
    · intro _; exact ⟨rfl, Nat.zero_le _⟩
    · intro _; rfl
  | succ k ih =>
    have h1 := pc_le x k
    have e1 : difB T x (k + 1) = (difB T x k && (!bt (sFx x k) (lwA x k) && decide (lwA x k < T.1))) := rfl
    have e2 : vrB T x (k + 1) = (vrB T x k && decide (lwA x k < T.1)) := rfl
    rw [e1, e2, pc_s]
    cases q : bt (sFx x k) (lwA x k) with
    | true =>
      rw [if_pos rfl]
      constructor
      · intro h; simp at h
      · rintro ⟨-, h⟩; omega
    | false =>
      rw [if_neg (by decide)]
      constructor
      · intro h
        simp only [Bool.not_false, Bool.true_and, Bool.and_eq_true] at h
        have := ih.mp h.1
        exact ⟨by rw [this.1, h.2]; rfl, by omega⟩
      · rintro ⟨h, h2⟩
        rw [Bool.and_eq_true] at h
        rw [ih.mpr ⟨h.1, by omega⟩, h.2]
        rfl
theorem vrB_iff (T : TW) (x : Nat) : ∀ k, vrB T x k = true ↔ ∀ i, i < k → lwA x i < T.1 := by
  intro k
  induction k with
  | zero => exact ⟨fun _ i hi => by omega, fun _ => rfl⟩
  | succ k ih =>
    show (vrB T x k && decide (lwA x k < T.1)) = true ↔ _
    rw [Bool.and_eq_true, ih]
    constructor
    · rintro ⟨h1, h2⟩ i hi
      by_cases q : i = k
      · rw [q]; exact of_decide_eq_true h2
      · exact h1 i (by omega)
    · intro h
      exact ⟨fun i hi => h i (by omega), decide_eq_true (h k (by omega))⟩
theorem vr_iff : vrB T x (mny x) = true ↔ VR T x := vrB_iff T x (mny x)
theorem bc_f {x : Nat} (hx : x < 4681) (s : SS) : f_J6_bitCount_0f7a4 (stn x) s = some (iI (pcF (sFx x (mny x)) 8 : Int)) := by
  rw [stn_sF hx]
  obtain ⟨j, hj, e⟩ := sF_small x (mny x)
  rw [e]
  show some (bcF (iI (j : Int))) = _
  rw [bc_dec j hj]
theorem ofLaws (hT : T.1 ≤ 8) (hx : x < 4681) : (stn x &&& (((1 <<< (iI (T.1 : Int) &&& 31)) - 1) ^^^ (-1)) = 0) ↔ VR T x := by
  constructor
  · intro h i hi
    have h8 := lwA_lt x i
    have h2 := congrArg (fun z => bt z (lwA x i)) h
    simp only [b_and, b_xor, b_m1 _ (show lwA x i < 32 by omega), b_0, all_bt T.1 hT _ (show lwA x i < 32 by omega)] at h2
    rw [(stn_bt (mny x) x (lwA x i) rfl hx (by omega)).mpr ⟨i, hi, rfl⟩] at h2
    simpa using h2
  · intro h
    apply b_ext
    intro l hl
    rw [b_and, b_xor, b_m1 _ hl, b_0, all_bt T.1 hT _ hl]
    cases e : bt (stn x) l with
    | false => rfl
    | true =>
      obtain ⟨i, h1, h2⟩ := (stn_bt (mny x) x l rfl hx hl).mp e
      have := h i h1
      simp
      omega
theorem ct_ofLaws (hT : T.1 ≤ 8) (h : CT_ T s) (hn : 1 ≤ n ∧ n ≤ 4) (hx : x < szR n) : f_X10_isOfLaws (wl_ n x) s = some (if vrB T x (mny x) = true then 1 else 0) := by
  have hb := (sz_lt hn hx).2
  unfold f_X10_isOfLaws
  refine e_bdp (rw_stand h.1 hn hx) ?_
  refine e_bdp (v := (1 <<< (iI T.1 &&& 31)) - 1) (by unfold f_X10_allLaws; rw [h.2.1.1]) ?_
  have := ofLaws hT hb
  by_cases q : vrB T x (mny x) = true
  · rw [if_pos q]
    exact e_if_t (this.mpr (vr_iff.mp q)) rfl
  · rw [if_neg q]
    exact e_if_f (fun w => q (vr_iff.mpr (this.mp w))) rfl
/-- a row's worth to one or to all -/
def wsA (T : TW) (n x : Nat) : Nat → Int32
  | 0 => 0
  | k + 1 => wsA T n x k + wth T n x k
def vBR (T : TW) (n : Nat) (a : Int32) (x : Nat) : Int32 := if a = -1 then wsA T n x 4 else wth T n x a.toInt.toNat
/-- 5000: none yet -/
def bst (T : TW) (n : Nat) (a : Int32) : Nat → Nat × Int32
  | 0 => (5000, 0)
  | k + 1 => if difB T (fsz n + k) n = true ∧ ((bst T n a k).1 = 5000 ∨ (bst T n a k).2 < vBR T n a (fsz n + k)) then (fsz n + k, vBR T n a (fsz n + k)) else bst T n a k
theorem mny_full {k : Nat} (hn : 1 ≤ n ∧ n ≤ 4) (hk : fsz n + k < szR n) : mny (fsz n + k) = n := by
  obtain rfl | rfl | rfl | rfl : n = 1 ∨ n = 2 ∨ n = 3 ∨ n = 4 := by omega
  · exact mny_1 (by simp only [sz_1] at hk; show 1 ≤ 1 + k ∧ 1 + k < 9; have : fsz 1 = 1 := rfl; omega)
  · exact mny_2 (by simp only [sz_2] at hk; show 9 ≤ 9 + k ∧ 9 + k < 73; have : fsz 2 = 9 := rfl; omega)
  · exact mny_3 (by simp only [sz_3] at hk; show 73 ≤ 73 + k ∧ 73 + k < 585; have : fsz 3 = 73 := rfl; omega)
  · exact mny_4 (by show 585 ≤ 585 + k; omega)
theorem fsz_sz (hn : 1 ≤ n ∧ n ≤ 4) : fsz n < szR n := by
  obtain rfl | rfl | rfl | rfl : n = 1 ∨ n = 2 ∨ n = 3 ∨ n = 4 := by omega
  all_goals decide
theorem bst_in (hn : 1 ≤ n ∧ n ≤ 4) (a : Int32) : ∀ k, fsz n + k ≤ szR n → (bst T n a k).1 = 5000 ∨ ((bst T n a k).1 < szR n ∧ mny (bst T n a k).1 = n) := by
  intro k
  induction k with
  | zero => intro _; exact Or.inl rfl
  | succ k ih =>
    intro hk
    unfold bst
    split
    · right
      exact ⟨by show fsz n + k < szR n; omega, mny_full hn (by omega)⟩
    · exact ih (by omega)
theorem bst_some (a : Int32) {j : Nat} (h : difB T (fsz n + j) n = true) (hs : szR n ≤ 4681) : ∀ k, j < k → fsz n + k ≤ szR n → (bst T n a k).1 ≠ 5000 := by
  intro k
  induction k with
  | zero => intro h2; omega
  | succ k ih =>
    intro h2 hk
    unfold bst
    split
    · show fsz n + k ≠ 5000; omega
    · rename_i q
      by_cases e : j = k
      · subst e
        intro w
        exact q ⟨h, Or.inl w⟩
      · exact ih (by omega) (by omega)
def exr (n : Nat) : Nat := if n = 1 then 0 else if n = 2 then 1 else if n = 3 then 10 else 83
theorem exr_1 : lwA 1 0 = 0 := by decide
theorem exr_2 : lwA 10 0 = 0 ∧ lwA 10 1 = 1 := by decide
theorem exr_3 : lwA 83 0 = 0 ∧ lwA 83 1 = 1 ∧ lwA 83 2 = 2 := by decide
theorem exr_4 : lwA 668 0 = 0 ∧ lwA 668 1 = 1 ∧ lwA 668 2 = 2 ∧ lwA 668 3 = 3 := by decide
theorem exr_p : pcF (sFx 1 1) 8 = 1 ∧ pcF (sFx 10 2) 8 = 2 ∧ pcF (sFx 83 3) 8 = 3 ∧ pcF (sFx 668 4) 8 = 4 := by decide +kernel
theorem exr_dif (hn : 1 ≤ n ∧ n ≤ 4) (hT : n ≤ T.1) : difB T (fsz n + exr n) n = true := by
  rw [pc_dif, vrB_iff]
  have e1 := exr_1
  have e2 := exr_2
  have e3 := exr_3
  have e4 := exr_4
  have ep := exr_p
  obtain rfl | rfl | rfl | rfl : n = 1 ∨ n = 2 ∨ n = 3 ∨ n = 4 := by omega
  · show (∀ i, i < 1 → lwA 1 i < T.1) ∧ 1 ≤ pcF (sFx 1 1) 8
    refine ⟨fun i hi => ?_, by omega⟩
    obtain rfl : i = 0 := by omega
    omega
  · show (∀ i, i < 2 → lwA 10 i < T.1) ∧ 2 ≤ pcF (sFx 10 2) 8
    refine ⟨fun i hi => ?_, by omega⟩
    obtain rfl | rfl : i = 0 ∨ i = 1 := by omega
    all_goals omega
  · show (∀ i, i < 3 → lwA 83 i < T.1) ∧ 3 ≤ pcF (sFx 83 3) 8
    refine ⟨fun i hi => ?_, by omega⟩
    obtain rfl | rfl | rfl : i = 0 ∨ i = 1 ∨ i = 2 := by omega
    all_goals omega
  · show (∀ i, i < 4 → lwA 668 i < T.1) ∧ 4 ≤ pcF (sFx 668 4) 8
    refine ⟨fun i hi => ?_, by omega⟩
    obtain rfl | rfl | rfl | rfl : i = 0 ∨ i = 1 ∨ i = 2 ∨ i = 3 := by omega
    all_goals omega
theorem bst_full (hn : 1 ≤ n ∧ n ≤ 4) (hT : n ≤ T.1) (a : Int32) : (bst T n a (szR n - fsz n)).1 < szR n ∧ mny (bst T n a (szR n - fsz n)).1 = n := by
  have hf := fsz_sz hn
  have he : exr n < szR n - fsz n := by
    obtain rfl | rfl | rfl | rfl : n = 1 ∨ n = 2 ∨ n = 3 ∨ n = 4 := by omega
    all_goals decide
  have hb := br_le hn
  have h1 := bst_some (T := T) (n := n) a (exr_dif hn hT) hb.2.1 (szR n - fsz n) he (by omega)
  exact (bst_in hn a _ (by omega)).resolve_left h1
/-- the answer -/
def ansBR (T : TW) (n : Nat) (a1 a2 : Int32) : Int32 :=
  if (-1 ≤ a1.toInt ∧ a1.toInt ≤ 3) ∧ (-1 ≤ a2.toInt ∧ a2.toInt < n) ∧ n ≤ T.1 then (if a2.toInt = -1 then (bst T n a1 (szR n - fsz n)).2 else iI (lwA (bst T n a1 (szR n - fsz n)).1 a2.toInt.toNat)) else -1000000
theorem m1_iff (a : Int32) : (a = -1) = (a.toInt = -1) := by rw [z_m1]; exact lit32 (-1) (by omega) a
theorem cc_wall (W : WOK T kd tl n c tn) (hx : x < szR n) : ∀ (j N k : Nat) (s : SS), k + j = 4 → j < N → CW T kd tl c tn s → ∃ t, lp_X11_worthToAll_4 (wl_ n x) N (wsA T n x k) (iI k) s = some (wsA T n x 4, t) ∧ CQ s t ∧ CW T kd tl c tn t := by
  intro j
  induction j with
  | zero =>
    intro N k s hk hN hs
    cases N with
    | zero => omega
    | succ N =>
      obtain rfl : k = 4 := by omega
      refine ⟨s, ?_, CQ.rf s, hs⟩
      rw [lp_X11_worthToAll_4]
      exact e_if_t (by decide) rfl
  | succ j ih =>
    intro N k s hk hN hs
    cases N with
    | zero => omega
    | succ N =>
      obtain ⟨s1, e1, e2, e3⟩ := cw_worth W hs hx (m := k) (by omega)
      obtain ⟨t, f1, f2, f3⟩ := ih N (k + 1) s1 (by omega) (by omega) e3
      refine ⟨t, ?_, e2.tr f2, f3⟩
      rw [lp_X11_worthToAll_4]
      refine e_if_f (by simp (disch := omega) only [Int.toNat_natCast, iI_lt, iI_le, iI_eq, iI_add, iI_sub, iI_mul, iI_neg, iI_clamp, inb_ii, z_4]; omega) ?_
      refine e_bd e1 ?_
      refine e_lt ?_
      rw [nx_s]
      exact f1
theorem cc_brL (W : WOK T kd tl n c tn) {a1 a2 : Int32} (ha : -1 ≤ a1.toInt ∧ a1.toInt ≤ 3) (K : Int32 → Int32 → SS → Res) : ∀ (j N k : Nat) (s : SS), fsz n + k + j = szR n → j < N → CW T kd tl c tn s → ∃ t, lp_X11_bestRow_69 a1 a2 (iI n) (iI ((br n + szR n : Nat) : Int)) K N (if (bst T n a1 k).1 = 5000 then -1 else wl_ n (bst T n a1 k).1) (bst T n a1 k).2 (wl_ n (fsz n + k)) s = K (if (bst T n a1 (szR n - fsz n)).1 = 5000 then -1 else wl_ n (bst T n a1 (szR n - fsz n)).1) (bst T n a1 (szR n - fsz n)).2 t ∧ CQ s t ∧ CW T kd tl c tn t := by
  have hn := W.2.2.2
  have hbl := br_le hn
  have hT := W.1.1
  intro j
  induction j with
  | zero =>
    intro N k s hk hN hs
    cases N with
    | zero => omega
    | succ N =>
      obtain rfl : k = szR n - fsz n := by omega
      refine ⟨s, ?_, CQ.rf s, hs⟩
      rw [lp_X11_bestRow_69]
      exact e_if_t (by unfold wl_; simp (disch := omega) only [Int.toNat_natCast, iI_lt, iI_le, iI_eq, iI_add, iI_sub, iI_mul, iI_neg, iI_clamp, inb_ii]; omega) rfl
  | succ j ih =>
    intro N k s hk hN hs
    cases N with
    | zero => omega
    | succ N =>
      have hx : fsz n + k < szR n := by omega
      have hsz := W.sz hx
      have hm := mny_full hn hx
      have cf : ¬ iI ((br n + szR n : Nat) : Int) ≤ wl_ n (fsz n + k) := by unfold wl_; simp (disch := omega) only [Int.toNat_natCast, iI_lt, iI_le, iI_eq, iI_add, iI_sub, iI_mul, iI_neg, iI_clamp, inb_ii]; omega
      have nx : wl_ n (fsz n + k) + 1 = wl_ n (fsz n + (k + 1)) := by unfold wl_; rw [nx_s]; rfl
      have zo := ct_ofLaws hT hs.1 hn hx
      rw [hm] at zo
      have zs := rw_stand hs.1.1 hn hx
      have zb := bc_f hsz.2 s
      rw [hm] at zb
      have hd := pc_dif T (fsz n + k) n
      have hp := pc_le (fsz n + k) n
      have un : bst T n a1 (k + 1) = if difB T (fsz n + k) n = true ∧ ((bst T n a1 k).1 = 5000 ∨ (bst T n a1 k).2 < vBR T n a1 (fsz n + k)) then (fsz n + k, vBR T n a1 (fsz n + k)) else bst T n a1 k := rfl
      have hin := bst_in (T := T) hn a1 k (by omega)
      generalize hr : bst T n a1 k = r at un hin ⊢
      by_cases q : difB T (fsz n + k) n = true
      · have q2 := hd.mp q
        rw [if_pos q2.1] at zo
        -- the worth
        obtain ⟨s1, e1, e2, e3⟩ : ∃ s1, (if a1 = -1 then f_X11_worthToAll (wl_ n (fsz n + k)) s else f_X10_worthOf (wl_ n (fsz n + k)) a1 s) = some (vBR T n a1 (fsz n + k), s1) ∧ CQ s s1 ∧ CW T kd tl c tn s1 := by
          unfold vBR
          by_cases z : a1 = -1
          · rw [if_pos z, if_pos z]
            exact cc_wall W hx 4 FU 0 s rfl (fu_lt (by omega)) hs
          · rw [if_neg z, if_neg z]
            have : a1.toInt ≠ -1 := fun w => z ((m1_iff a1).mpr w)
            obtain ⟨m, hm4, ea⟩ := per_nat (a := a1) (by omega)
            have em : a1.toInt.toNat = m := by rw [ea, iI_toInt (by omega)]; omega
            rw [em, ea]
            exact cw_worth W hs hx hm4
        have fin : ∀ (b : Nat) (v : Int32) (u : SS), CQ s u → CW T kd tl c tn u → bst T n a1 (k + 1) = (b, v) → ∃ t, lp_X11_bestRow_69 a1 a2 (iI n) (iI ((br n + szR n : Nat) : Int)) K N (if b = 5000 then -1 else wl_ n b) v (wl_ n (fsz n + k) + 1) u = K (if (bst T n a1 (szR n - fsz n)).1 = 5000 then -1 else wl_ n (bst T n a1 (szR n - fsz n)).1) (bst T n a1 (szR n - fsz n)).2 t ∧ CQ s t ∧ CW T kd tl c tn t := by
          intro b v u g1 g2 g3
          obtain ⟨t, f1, f2, f3⟩ := ih N (k + 1) u (by omega) (by omega) g2
          refine ⟨t, ?_, g1.tr f2, f3⟩
          rw [g3] at f1
          rw [nx]
          exact f1
        have key : ∀ (F2 : Int32 → SS → Res) (r0 : Res), F2 (vBR T n a1 (fsz n + k)) s1 = r0 → (if a1 = -1 then bd (f_X11_worthToAll (wl_ n (fsz n + k)) s) F2 else bd (f_X10_worthOf (wl_ n (fsz n + k)) a1 s) F2) = r0 := by
          intro F2 r0 h0
          by_cases z : a1 = -1
          · rw [if_pos z] at e1 ⊢
            exact e_bd e1 h0
          · rw [if_neg z] at e1 ⊢
            exact e_bd e1 h0
        by_cases q3 : r.1 = 5000 ∨ r.2 < vBR T n a1 (fsz n + k)
        · rw [if_pos ⟨q, q3⟩] at un
          obtain ⟨t, f1, f2, f3⟩ := fin _ _ s1 e2 e3 un
          rw [if_neg (by omega)] at f1
          refine ⟨t, ?_, f2, f3⟩
          rw [lp_X11_bestRow_69]
          refine e_if_f cf ?_
          refine e_bdp zo ?_
          refine e_jn ?_
          refine e_if_f (by decide) ?_
          refine e_bdp zs ?_
          refine e_bdp zb ?_
          refine e_if_t (by simp (disch := omega) only [Int.toNat_natCast, iI_lt, iI_le, iI_eq, iI_add, iI_sub, iI_mul, iI_neg, iI_clamp, inb_ii]; omega) ?_
          refine e_jn ?_
          refine key _ _ ?_
          refine e_jn ?_
          by_cases z : r.1 = 5000
          · rw [if_pos z]
            exact e_if_t rfl f1
          · rw [if_neg z]
            have hr1 := hin.resolve_left z
            refine e_if_f (by unfold wl_; have := W.sz hr1.1; simp (disch := omega) only [Int.toNat_natCast, iI_lt, iI_le, iI_eq, iI_add, iI_sub, iI_mul, iI_neg, iI_clamp, inb_ii, z_m1]; omega) ?_
            exact e_if_f (Int32.not_le.mpr (q3.resolve_left z)) f1
        · rw [if_neg (fun w => q3 w.2)] at un
          have z : ¬ r.1 = 5000 := fun w => q3 (Or.inl w)
          have hr1 := hin.resolve_left z
          obtain ⟨t, f1, f2, f3⟩ := fin r.1 r.2 s1 e2 e3 un
          refine ⟨t, ?_, f2, f3⟩
          rw [lp_X11_bestRow_69]
          refine e_if_f cf ?_
          refine e_bdp zo ?_
          refine e_jn ?_
          refine e_if_f (by decide) ?_
          refine e_bdp zs ?_
          refine e_bdp zb ?_
          refine e_if_t (by simp (disch := omega) only [Int.toNat_natCast, iI_lt, iI_le, iI_eq, iI_add, iI_sub, iI_mul, iI_neg, iI_clamp, inb_ii]; omega) ?_
          refine e_jn ?_
          refine key _ _ ?_
          refine e_jn ?_
          refine e_if_f (by rw [if_neg z]; unfold wl_; have := W.sz hr1.1; simp (disch := omega) only [Int.toNat_natCast, iI_lt, iI_le, iI_eq, iI_add, iI_sub, iI_mul, iI_neg, iI_clamp, inb_ii, z_m1]; omega) ?_
          exact e_if_t (Int32.not_lt.mp (fun w => q3 (Or.inr w))) f1
      · rw [if_neg (fun w => q w.1)] at un
        obtain ⟨t, f1, f2, f3⟩ := ih N (k + 1) s (by omega) (by omega) hs
        rw [un] at f1
        refine ⟨t, ?_, f2, f3⟩
        rw [lp_X11_bestRow_69]
        refine e_if_f cf ?_
        refine e_bdp zo ?_
        refine e_jn ?_
        rw [nx]
        by_cases q2 : vrB T (fsz n + k) n = true
        · rw [if_pos q2]
          refine e_if_f (by decide) ?_
          refine e_bdp zs ?_
          refine e_bdp zb ?_
          have : ¬ n ≤ pcF (sFx (fsz n + k) n) 8 := fun w => q (hd.mpr ⟨q2, w⟩)
          exact e_if_f (by simp (disch := omega) only [Int.toNat_natCast, iI_lt, iI_le, iI_eq, iI_add, iI_sub, iI_mul, iI_neg, iI_clamp, inb_ii]; omega) f1
        · rw [if_neg q2]
          exact e_if_t rfl f1
theorem cc_bestRow (W : WOK T kd tl n c tn) (hx : x < szR n) (a1 a2 : Int32) {s : SS} (h : CW T kd tl c tn s) (hw : s 52 0 = wl_ n x) : ∃ t, f_X11_bestRow a1 a2 s = some (ansBR T n a1 a2, t) ∧ CQ s t ∧ CW T kd tl c tn t := by
  have hn := W.2.2.2
  have hT := W.1.1
  have wm : (-1 : Int32).toInt = -1 := rfl
  have w4 : (4 : Int32).toInt = 4 := rfl
  have zl := rw_len h.1.1 hn hx
  have zc : f_X10_lawCount s = some (iI T.1) := by unfold f_X10_lawCount; rw [h.1.2.1.1]
  have en : (iI (n : Int)).toInt = n := iI_toInt (by omega)
  unfold f_X11_bestRow ansBR
  rw [hw]
  by_cases q1 : -1 ≤ a1.toInt ∧ a1.toInt ≤ 3
  · by_cases q2 : -1 ≤ a2.toInt ∧ a2.toInt < n
    · by_cases q3 : n ≤ T.1
      · rw [if_pos ⟨q1, q2, q3⟩]
        have hfull := bst_full hn q3 a1
        have hf := fsz_sz hn
        obtain ⟨t, f1, f2, f3⟩ := cc_brL W (a2 := a2) q1 (fun (v10 : Int32) (v11 : Int32) (s12 : SS) => if (a2 : Int32) = ((-1) : Int32) then some (v11, s12) else bdp (f_X6_lawOn v10 a2 s12) (fun (v15 : Int32) => some (v15, s12))) (szR n - fsz n) FU 0 s (by omega) (fu_lt (by have := br_le hn; omega)) h
        refine ⟨t, ?_, f2, f3⟩
        refine e_bdp zl ?_
        refine e_if_f (by rw [lt32]; omega) ?_
        refine e_if_f (by rw [le32]; omega) ?_
        refine e_if_f (by rw [lt32]; omega) ?_
        refine e_if_f (by rw [le32]; omega) ?_
        refine e_bdp zc ?_
        refine e_if_t (by rw [le32, en, iI_toInt (by omega)]; omega) ?_
        refine e_bdp (rw_bare1 hn) ?_
        refine e_bdp (rw_first hn) ?_
        refine e_jn ?_
        refine Eq.trans f1 ?_
        rw [if_neg (show ¬ (bst T n a1 (szR n - fsz n)).1 = 5000 by have := br_le hn; omega)]
        by_cases z : a2.toInt = -1
        · rw [if_pos z]
          exact e_if_t ((m1_iff a2).mpr z) rfl
        · rw [if_neg z]
          refine e_if_f (fun w => z ((m1_iff a2).mp w)) ?_
          have ed := e_lit (a := a2) (k := (a2.toInt.toNat : Nat)) (by omega)
          have hd : a2.toInt.toNat < n := by omega
          generalize a2.toInt.toNat = d at ed hd ⊢
          rw [ed]
          exact e_bdp (rw_lawOn f3.1.1 hn hfull.1 (by omega)) rfl
      · rw [if_neg (fun w => q3 w.2.2)]
        refine ⟨s, ?_, CQ.rf s, h⟩
        refine e_bdp zl ?_
        refine e_if_f (by rw [lt32]; omega) ?_
        refine e_if_f (by rw [le32]; omega) ?_
        refine e_if_f (by rw [lt32]; omega) ?_
        refine e_if_f (by rw [le32]; omega) ?_
        refine e_bdp zc ?_
        exact e_if_f (by rw [le32, en, iI_toInt (by omega)]; omega) rfl
    · rw [if_neg (fun w => q2 w.2.1)]
      refine ⟨s, ?_, CQ.rf s, h⟩
      refine e_bdp zl ?_
      refine e_if_f (by rw [lt32]; omega) ?_
      refine e_if_f (by rw [le32]; omega) ?_
      by_cases z : a2 < -1
      · exact e_if_t z rfl
      · refine e_if_f z ?_
        exact e_if_t (by rw [lt32] at z; rw [le32]; omega) rfl
  · rw [if_neg (fun w => q1 w.1)]
    refine ⟨s, ?_, CQ.rf s, h⟩
    refine e_bdp zl ?_
    by_cases z : a1 < -1
    · exact e_if_t z rfl
    · refine e_if_f z ?_
      exact e_if_t (by rw [lt32] at z; rw [le32]; omega) rfl
