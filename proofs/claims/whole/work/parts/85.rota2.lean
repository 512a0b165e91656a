/-! check and rota as steps -/
variable {T : TW} {kd tl tn : Nat → Nat} {n c x p dy X k x2 p2 dy2 X2 k2 z cl : Nat} {en : Nat → Nat → Int32} {kf : Bool} {b : Nat → Nat} {d : Nat → Int32} {ed : Nat} {s t u : SS}
theorem jr_en (h : JR T kd tl n c tn x p dy X k en kf x2 p2 dy2 X2 k2 z b d cl s) {i j : Nat} (hi : i < k) (hj : j < 3) : f_X12_book (iI i) (iI j) s = some (en i j) := by
  have hk : k ≤ 100 := h.1.2.2.2.2.1
  rw [cr_book _ _ h]
  unfold ansBook
  rw [iI_toInt (by omega), iI_toInt (by omega), if_pos (by omega)]
  rfl
theorem cr_ckF (h : JR T kd tl n c tn x p dy X k en kf x2 p2 dy2 X2 k2 z b d cl s) {m : Nat} (hm : 12 * m ≤ 220) (hb : ∀ i, i < 12 * m → b i < 256) (h57 : ∀ i, i < 12 * m → s 57 i = iI (sby (b i))) : jn (some (3 * iI (m : Int), s)) (fun (k4 : Res) => jn (fun (v5 : Int32) (v6 : Int32) => some ((3 * v5) + v6, s)) (fun (k7 : Int32 → Int32 → Res) => jn (if (iI (m : Int) : Int32) = (s 56 9 : Int32) then some ((-1), s) else some (3 * (s 56 9), s)) (fun (k8 : Res) => lp_X12_check_25 (iI m) s k4 k7 k8 FU 0))) = some (ckF k en b m (3 * m) 0, s) := by
  have hk : k ≤ 100 := h.1.2.2.2.2.1
  have ek := h.2.2.1.2.2.2.2
  have ho : TPO (12 * m) b := ⟨hm, hb⟩
  -- within one entry
  have inn : ∀ (j N a i : Nat) (K r : Res), a + j = 3 → j < N → i < m → i < k → (K = some (ckF k en b m (3 * m - 3 * (i + 1)) (3 * (i + 1)), s)) → lp_X12_check_44 (iI m) s (fun (v5 : Int32) (v6 : Int32) => some ((3 * v5) + v6, s)) (iI i) K N (iI a) = some (ckF k en b m (3 * m - (3 * i + a)) (3 * i + a), s) := by
    intro j
    induction j with
    | zero =>
      intro N a i K r ha hN hi hik hK
      cases N with
      | zero => omega
      | succ N =>
        obtain rfl : a = 3 := by omega
        rw [lp_X12_check_44]
        refine e_if_t (by decide) ?_
        rw [hK]
        rfl
    | succ j ih =>
      intro N a i K r ha hN hi hik hK
      cases N with
      | zero => omega
      | succ N =>
        have e3 : (3 : Int32) * iI (i : Int) + iI (a : Int) = iI ((3 * i + a : Nat) : Int) := by rw [th_i, iI_add]; congr 1
        have un : ckF k en b m (3 * m - (3 * i + a)) (3 * i + a) = if k ≤ (3 * i + a) / 3 then iI ((3 * i + a : Nat) : Int) else if en ((3 * i + a) / 3) ((3 * i + a) % 3) = nbr b (3 * i + a) 4 then ckF k en b m (3 * m - (3 * i + (a + 1))) (3 * i + a + 1) else iI ((3 * i + a : Nat) : Int) := by
          rw [show 3 * m - (3 * i + a) = (3 * m - (3 * i + (a + 1))) + 1 by omega]
          rfl
        rw [show (3 * i + a) / 3 = i by omega, show (3 * i + a) % 3 = a by omega, if_neg (by omega)] at un
        rw [lp_X12_check_44]
        refine e_if_f (by simp (disch := omega) only [Int.toNat_natCast, iI_lt, iI_le, iI_eq, iI_add, iI_sub, iI_mul, iI_neg, iI_clamp, inb_ii, z_3]; omega) ?_
        rw [e3]
        refine e_bdp (tr_num ho h57 (by omega)) ?_
        refine e_bdp (jr_en h hik (by omega)) ?_
        by_cases q : en i a = nbr b (3 * i + a) 4
        · rw [if_pos q] at un
          refine e_if_t q.symm ?_
          rw [nx_s, un]
          exact ih N (a + 1) i K r (by omega) (by omega) hi hik hK
        · rw [if_neg q] at un
          refine e_if_f (fun w => q w.symm) ?_
          rw [un]
  -- the entries
  have out : ∀ (j N i : Nat) (k8 : Res), i + j = m → j < N → i ≤ k → (k8 = some (if m = k then -1 else iI ((3 * k : Nat) : Int), s)) → lp_X12_check_25 (iI m) s (some (3 * iI (m : Int), s)) (fun (v5 : Int32) (v6 : Int32) => some ((3 * v5) + v6, s)) k8 N (iI i) = some (ckF k en b m (3 * m - 3 * i) (3 * i), s) := by
    intro j
    induction j with
    | zero =>
      intro N i k8 hi hN hik h8
      cases N with
      | zero => omega
      | succ N =>
        obtain rfl : i = m := by omega
        rw [lp_X12_check_25, Nat.sub_self]
        by_cases q : k ≤ i
        · refine e_if_t (by rw [ek]; simp (disch := omega) only [Int.toNat_natCast, iI_lt, iI_le, iI_eq, iI_add, iI_sub, iI_mul, iI_neg, iI_clamp, inb_ii]; omega) ?_
          rw [h8, if_pos (by omega)]
          show some (-1, s) = some (if i < k then iI ((3 * i : Nat) : Int) else -1, s)
          rw [if_neg (by omega)]
        · refine e_if_f (by rw [ek]; simp (disch := omega) only [Int.toNat_natCast, iI_lt, iI_le, iI_eq, iI_add, iI_sub, iI_mul, iI_neg, iI_clamp, inb_ii]; omega) ?_
          refine e_if_t rfl ?_
          rw [th_i]
          show _ = some (if i < k then iI ((3 * i : Nat) : Int) else -1, s)
          rw [if_pos (by omega)]
    | succ j ih =>
      intro N i k8 hi hN hik h8
      cases N with
      | zero => omega
      | succ N =>
        rw [lp_X12_check_25]
        by_cases q : k ≤ i
        · refine e_if_t (by rw [ek]; simp (disch := omega) only [Int.toNat_natCast, iI_lt, iI_le, iI_eq, iI_add, iI_sub, iI_mul, iI_neg, iI_clamp, inb_ii]; omega) ?_
          have hki : k = i := by omega
          rw [h8, if_neg (by omega), show 3 * m - 3 * i = (3 * m - 3 * i - 1) + 1 by omega]
          show _ = some (if k ≤ 3 * i / 3 then iI ((3 * i : Nat) : Int) else _, s)
          rw [if_pos (by omega), hki]
        · refine e_if_f (by rw [ek]; simp (disch := omega) only [Int.toNat_natCast, iI_lt, iI_le, iI_eq, iI_add, iI_sub, iI_mul, iI_neg, iI_clamp, inb_ii]; omega) ?_
          refine e_if_f (by simp (disch := omega) only [Int.toNat_natCast, iI_lt, iI_le, iI_eq, iI_add, iI_sub, iI_mul, iI_neg, iI_clamp, inb_ii]; omega) ?_
          refine e_jn ?_
          have := inn 3 FU 0 i (lp_X12_check_25 (iI m) s (some (3 * iI (m : Int), s)) (fun (v5 : Int32) (v6 : Int32) => some ((3 * v5) + v6, s)) k8 N (iI (i : Int) + 1)) none rfl (fu_lt (by omega)) (by omega) (by omega) (by
            rw [nx_s]
            exact ih N (i + 1) k8 (by omega) (by omega) (by omega) h8)
          exact this
  refine e_jn ?_
  refine e_jn ?_
  refine e_jn ?_
  have := out m FU 0 (if (iI (m : Int) : Int32) = (s 56 9 : Int32) then some ((-1), s) else some (3 * (s 56 9), s)) (by omega) (fu_lt (by omega)) (by omega) (by
    rw [ek, th_i]
    by_cases q : m = k
    · rw [if_pos q, if_pos (by rw [q])]
    · rw [if_neg q, if_neg (by rw [iI_eq (by omega) (by omega)]; omega)])
  exact this
theorem out_check (a1 : Int32) (hV : JV T kd tl n c tn x p X k kf x2 p2 X2 k2 z b) : OUT (f_X11_check a1) (f_X12_check a1) T kd tl n c tn x p dy X k en kf x2 p2 dy2 X2 k2 z b d cl ed := by
  have ho := hV.2.2.2.2.2.1
  have hz := ho.1
  have d12 : iI (z : Int) / 12 = iI ((z / 12 : Nat) : Int) := by
    rw [show (12 : Int32) = iI 12 from rfl, iI_div (by omega) (by omega)]
    congr 1
  by_cases q : 0 ≤ a1.toInt ∧ a1.toInt ≤ ((z / 12 : Nat) : Int)
  · have ea := e_lit (a := a1) (k := (a1.toInt.toNat : Nat)) (by omega)
    have hm : 12 * a1.toInt.toNat ≤ z := by omega
    generalize a1.toInt.toNat = m at ea hm
    have V1 : JV T kd tl n c tn x p X k kf x2 p2 X2 k2 0 b := ⟨hV.1, hV.2.1, hV.2.2.1, hV.2.2.2.1, hV.2.2.2.2.1, ⟨by omega, fun i hi => by omega⟩, hV.2.2.2.2.2.2⟩
    refine ⟨T, kd, tl, n, c, tn, x, p, dy, X, k, en, kf, x2, p2, dy2, X2, k2, 0, b, d, cl, ed, by omega, ckF k en b m (3 * m) 0, fun s h => ?_, fun s h => ?_⟩
    · have e := cc_ckF h hm
      have h81 := h.2.2.2.2.2.2.2.1.1
      obtain ⟨g1, g2, g3, g4, g5⟩ := h.w (t := up s 1 1 0) (fun q a b => up_cell (by omega)) (by rw [up_cell (by omega)])
      obtain ⟨h1, h2, h3, h4, h5, h6, h7, h8, h9, h10, h11, h12⟩ := h
      refine ⟨up s 1 1 0, ?_, ⟨V1, g1, g2, g3, g4, by rw [up_cell (by omega)]; exact h6, by rw [up_cell (by omega)]; exact h7, ⟨up_at _ _ _ _, fun i hi => by omega⟩, by rw [up_cell (by omega)]; exact h9, by rw [up_cell (by omega)]; exact h10, by rw [up_cell (by omega)]; exact h11, g5⟩, fun q hq => up_cell (by omega)⟩
      show f_X11_check a1 s = _
      unfold f_X11_check
      rw [ea]
      refine e_if_f (by simp (disch := omega) only [Int.toNat_natCast, iI_lt, iI_le, iI_eq, iI_add, iI_sub, iI_mul, iI_neg, iI_clamp, inb_ii, z_0]; omega) ?_
      refine e_bdp (v := iI z) (by unfold f_X9_size; rw [h81]) ?_
      refine e_gd (by decide) ?_
      rw [d12]
      refine e_if_t (by simp (disch := omega) only [Int.toNat_natCast, iI_lt, iI_le, iI_eq, iI_add, iI_sub, iI_mul, iI_neg, iI_clamp, inb_ii]; omega) ?_
      refine e_bdp e ?_
      exact e_bd (v := 0) (t := up s 1 1 0) rfl rfl
    · have h51 := h.2.2.2.2.1
      have hr : JR T kd tl n c tn x p dy X k en kf x2 p2 dy2 X2 k2 0 b d cl (up s 56 1 0) := by
        obtain ⟨h1, h2, h3, h4, h5, h6, h7, h8, h9⟩ := h
        exact ⟨V1, h2.of (fun q _ _ _ _ _ => up_cell (by omega)) (fun j hj => up_slot (by omega)), by rw [up_slot (by omega), up_slot (by omega), up_slot (by omega), up_slot (by omega), up_slot (by omega)]; exact h3, by rw [up_cell (by omega), up_cell (by omega), up_cell (by omega), up_cell (by omega)]; exact h4, ⟨up_at _ _ _ _, fun i hi => by omega⟩, by rw [up_cell (by omega)]; exact h6, by rw [up_slot (by omega)]; exact h7, by rw [up_slot (by omega), up_slot (by omega), up_slot (by omega), up_slot (by omega), up_slot (by omega)]; exact h8, by rw [up_slot (by omega)]; exact h9⟩
      have e := cr_ckF hr (m := m) (by omega) (fun i hi => ho.2 i (by omega)) (fun i hi => by rw [up_cell (by omega)]; exact h51.2 i (by omega))
      refine ⟨up s 56 1 0, ?_, hr, fun q hq => up_cell (by omega)⟩
      show f_X12_check a1 s = _
      unfold f_X12_check
      rw [ea, h51.1, d12]
      refine e_if_f (by simp (disch := omega) only [Int.toNat_natCast, iI_lt, iI_le, iI_eq, iI_add, iI_sub, iI_mul, iI_neg, iI_clamp, inb_ii, z_0]; omega) ?_
      refine e_gd (by decide) ?_
      refine e_if_t (by simp (disch := omega) only [Int.toNat_natCast, iI_lt, iI_le, iI_eq, iI_add, iI_sub, iI_mul, iI_neg, iI_clamp, inb_ii]; omega) ?_
      refine e_lts ?_
      exact e
  · refine out_no (-2) (fun s h => ?_) (fun s h => ?_)
    · unfold f_X11_check
      by_cases z1 : a1 < 0
      · exact e_if_t z1 rfl
      · refine e_if_f z1 ?_
        rw [lt32] at z1
        have z2 : ¬ a1.toInt < 0 := z1
        refine e_bdp (v := iI z) (by unfold f_X9_size; rw [h.2.2.2.2.2.2.2.1.1]) ?_
        refine e_gd (by decide) ?_
        exact e_if_f (by rw [d12, le32, iI_toInt (by omega)]; omega) rfl
    · unfold f_X12_check
      by_cases z1 : a1 < 0
      · exact e_if_t z1 rfl
      · refine e_if_f z1 ?_
        rw [lt32] at z1
        have z2 : ¬ a1.toInt < 0 := z1
        refine e_gd (by decide) ?_
        exact e_if_f (by rw [h.2.2.2.2.1.1, d12, le32, iI_toInt (by omega)]; omega) rfl
/-- rota -/
def rkB (b : Nat → Nat) : Nat → Bool
  | 0 => true
  | i + 1 => rkB b i && decide (b i ≤ 3)
theorem rkB_no {b : Nat → Nat} {i : Nat} (h : rkB b i = false) : ∀ j, i ≤ j → rkB b j = false := by
  intro j
  induction j with
  | zero => intro w; rw [show i = 0 by omega] at h; exact h
  | succ j ih =>
    intro w
    by_cases q : i = j + 1
    · rw [← q]; exact h
    · show (rkB b j && _) = false
      rw [ih (by omega)]
      rfl
theorem rkB_at {b : Nat → Nat} : ∀ {m : Nat}, rkB b m = true → ∀ i, i < m → b i ≤ 3 := by
  intro m
  induction m with
  | zero => intro _ i hi; omega
  | succ m ih =>
    intro h i hi
    have h2 : (rkB b m && decide (b m ≤ 3)) = true := h
    rw [Bool.and_eq_true] at h2
    by_cases q : i = m
    · rw [q]; exact of_decide_eq_true h2.2
    · exact ih h2.1 i (by omega)
theorem out_rota (a1 : Int32) (hV : JV T kd tl n c tn x p X k kf x2 p2 X2 k2 z b) (he : ed < 1000000) : OUT (f_X11_rota a1) (f_X12_rota a1) T kd tl n c tn x p dy X k en kf x2 p2 dy2 X2 k2 z b d cl ed := by
  have ho := hV.2.2.2.2.2.1
  have hz := ho.1
  have l1 : ∀ s, f_X12_lies (a1.toInt64) 1 4 s = some (if 1 ≤ a1.toInt ∧ a1.toInt ≤ 4 then 1 else 0) := fun s => by rw [lies_f, i64_toInt]; rfl
  have zs : ∀ s, JC T kd tl n c tn x p dy X k en kf x2 p2 dy2 X2 k2 z b d cl ed s → f_X9_size s = some (iI z) := fun s h => by unfold f_X9_size; rw [h.2.2.2.2.2.2.2.1.1]
  by_cases q : (1 ≤ a1.toInt ∧ a1.toInt ≤ 4) ∧ a1.toInt ≤ z
  · have ea := e_lit (a := a1) (k := (a1.toInt.toNat : Nat)) (by omega)
    have hm : (1 ≤ a1.toInt.toNat ∧ a1.toInt.toNat ≤ 4) ∧ a1.toInt.toNat ≤ z := by omega
    generalize a1.toInt.toNat = m at ea hm
    -- the class looks at the bytes
    have ck : ∀ (s : SS) (K : Res), TPC z b s → lp_X2_takeRota_2 (iI m) s K FU 0 = if rkB b m = true then K else some (0, s) := by
      intro s K h8
      have lp : ∀ (j N i : Nat), i + j = m → j < N → rkB b i = true → lp_X2_takeRota_2 (iI m) s K N (iI i) = if rkB b m = true then K else some (0, s) := by
        intro j
        induction j with
        | zero =>
          intro N i hi hN hb
          cases N with
          | zero => omega
          | succ N =>
            obtain rfl : i = m := by omega
            rw [lp_X2_takeRota_2, if_pos hb]
            exact e_if_t (by simp (disch := omega) only [Int.toNat_natCast, iI_lt, iI_le, iI_eq, iI_add, iI_sub, iI_mul, iI_neg, iI_clamp, inb_ii]; omega) rfl
        | succ j ih =>
          intro N i hi hN hb
          cases N with
          | zero => omega
          | succ N =>
            have b0 := ho.2 i (by omega)
            have un : rkB b (i + 1) = (rkB b i && decide (b i ≤ 3)) := rfl
            have pf := person_f (iI (b i : Int)) s
            rw [iI_toInt (by omega)] at pf
            rw [lp_X2_takeRota_2]
            refine e_if_f (by simp (disch := omega) only [Int.toNat_natCast, iI_lt, iI_le, iI_eq, iI_add, iI_sub, iI_mul, iI_neg, iI_clamp, inb_ii]; omega) ?_
            refine e_bdp (tp_byte ho h8 (by omega)) ?_
            by_cases y : b i ≤ 3
            · rw [if_pos (by omega)] at pf
              refine e_bdp pf ?_
              refine e_if_f (by decide) ?_
              rw [nx_s]
              exact ih N (i + 1) (by omega) (by omega) (by rw [un, hb, decide_eq_true y]; rfl)
            · rw [if_neg (by omega)] at pf
              refine e_bdp pf ?_
              rw [if_neg (show ¬ rkB b m = true by rw [rkB_no (i := i + 1) (by rw [un, decide_eq_false y]; simp) m (by omega)]; decide)]
              exact e_if_t rfl rfl
      exact lp m FU 0 (by omega) (fu_lt (by omega)) rfl
    have cr : ∀ (s : SS) (K : Res), (∀ i, i < z → s 57 i = iI (sby (b i))) → lp_X12_rota_29 (iI m) s K FU 0 = if rkB b m = true then K else some (0, s) := by
      intro s K h57
      have lp : ∀ (j N i : Nat), i + j = m → j < N → rkB b i = true → lp_X12_rota_29 (iI m) s K N (iI i) = if rkB b m = true then K else some (0, s) := by
        intro j
        induction j with
        | zero =>
          intro N i hi hN hb
          cases N with
          | zero => omega
          | succ N =>
            obtain rfl : i = m := by omega
            rw [lp_X12_rota_29, if_pos hb]
            exact e_if_t (by simp (disch := omega) only [Int.toNat_natCast, iI_lt, iI_le, iI_eq, iI_add, iI_sub, iI_mul, iI_neg, iI_clamp, inb_ii]; omega) rfl
        | succ j ih =>
          intro N i hi hN hb
          cases N with
          | zero => omega
          | succ N =>
            have b0 := ho.2 i (by omega)
            have s0 := sby_in b0
            have r0 := sby_eq b0 3 (by omega)
            have un : rkB b (i + 1) = (rkB b i && decide (b i ≤ 3)) := rfl
            have pf := isMaker_f (iI (sby (b i))) s
            rw [iI_toInt (by omega)] at pf
            rw [lp_X12_rota_29]
            refine e_if_f (by simp (disch := omega) only [Int.toNat_natCast, iI_lt, iI_le, iI_eq, iI_add, iI_sub, iI_mul, iI_neg, iI_clamp, inb_ii]; omega) ?_
            refine e_gd (by simp (disch := omega) only [Int.toNat_natCast, iI_lt, iI_le, iI_eq, iI_add, iI_sub, iI_mul, iI_neg, iI_clamp, inb_ii]; omega) ?_
            rw [iI_clamp (by omega), Int.toNat_natCast, h57 i (by omega)]
            by_cases y : b i ≤ 3
            · rw [if_pos (by omega)] at pf
              refine e_bdp pf ?_
              refine e_if_f (by decide) ?_
              rw [nx_s]
              exact ih N (i + 1) (by omega) (by omega) (by rw [un, hb, decide_eq_true y]; rfl)
            · rw [if_neg (by omega)] at pf
              refine e_bdp pf ?_
              rw [if_neg (show ¬ rkB b m = true by rw [rkB_no (i := i + 1) (by rw [un, decide_eq_false y]; simp) m (by omega)]; decide)]
              exact e_if_t rfl rfl
      exact lp m FU 0 (by omega) (fu_lt (by omega)) rfl
    by_cases y : rkB b m = true
    · have hb3 := rkB_at y
      have V1 : JV T kd tl n m b x 0 X k false x2 p2 X2 k2 0 b := ⟨⟨hV.1.1, hV.1.2.1, ⟨hm.1, fun i hi => by have := hb3 i hi; omega⟩, hV.1.2.2.2⟩, hV.2.1, by omega, hV.2.2.2.1, hV.2.2.2.2.1, ⟨by omega, fun i hi => by omega⟩, fun e => absurd e (by decide)⟩
      refine ⟨T, kd, tl, n, m, b, x, 0, dy, X, k, en, false, x2, p2, dy2, X2, k2, 0, b, d, cl, ed + 1, by omega, 1, fun s h => ?_, fun s h => ?_⟩
      · have h8 := h.2.2.2.2.2.2.2.1
        -- the turns are taken
        have lp : ∀ (j N i : Nat) (u : SS) (K : SS → Res), i + j = m → j < N → (∀ q, q ≠ 38 → u q = s q) → (∀ r, r < i → u 38 r = iI (b r)) → ∃ t, lp_X2_takeRota_28 (iI m) K N (iI i) u = K t ∧ (∀ q, q ≠ 38 → t q = s q) ∧ ∀ r, r < m → t 38 r = iI (b r) := by
          intro j
          induction j with
          | zero =>
            intro N i u K hi hN h1 h2
            cases N with
            | zero => omega
            | succ N =>
              obtain rfl : i = m := by omega
              refine ⟨u, ?_, h1, h2⟩
              rw [lp_X2_takeRota_28]
              exact e_if_t (by simp (disch := omega) only [Int.toNat_natCast, iI_lt, iI_le, iI_eq, iI_add, iI_sub, iI_mul, iI_neg, iI_clamp, inb_ii]; omega) rfl
          | succ j ih =>
            intro N i u K hi hN h1 h2
            cases N with
            | zero => omega
            | succ N =>
              obtain ⟨t, f1, f2⟩ := ih N (i + 1) (up u 38 i (iI (b i))) K (by omega) (by omega) (fun q a => by rw [up_cell a]; exact h1 q a) (by
                intro r hr
                by_cases e : r = i
                · rw [e]; exact up_at _ _ _ _
                · rw [up_slot e]; exact h2 r (by omega))
              refine ⟨t, ?_, f2⟩
              have hu8 : TPC z b u := by
                unfold TPC
                rw [h1 1 (by omega), h1 2 (by omega)]
                exact h8
              rw [lp_X2_takeRota_28]
              refine e_if_f (by simp (disch := omega) only [Int.toNat_natCast, iI_lt, iI_le, iI_eq, iI_add, iI_sub, iI_mul, iI_neg, iI_clamp, inb_ii]; omega) ?_
              refine e_if_f (by simp (disch := omega) only [Int.toNat_natCast, iI_lt, iI_le, iI_eq, iI_add, iI_sub, iI_mul, iI_neg, iI_clamp, inb_ii, z_4]; omega) ?_
              refine e_bdp (tp_byte ho hu8 (by omega)) ?_
              refine e_gd (by simp (disch := omega) only [Int.toNat_natCast, iI_lt, iI_le, iI_eq, iI_add, iI_sub, iI_mul, iI_neg, iI_clamp, inb_ii]; omega) ?_
              rw [iI_clamp (by omega), Int.toNat_natCast]
              refine e_lts ?_
              rw [nx_s]
              exact f1
        obtain ⟨u, f1, f2, f3⟩ := lp m FU 0 s (fun (s2 : SS) => lts (up s2 35 5 (iI m)) (fun (s4 : SS) => some ((1 : Int32), s4))) (by omega) (fu_lt (by omega)) (fun _ _ => rfl) (fun r hr => by omega)
        have h5 := h.2.2.2.2.1
        let t : SS := up (up (up (up (up u 35 5 (iI m)) 1 1 0) 52 1 0) 0 14 0) 0 15 (iI ((ed + 1 : Nat) : Int))
        have tq : ∀ q, q ≠ 0 → q ≠ 1 → q ≠ 35 → q ≠ 38 → q ≠ 52 → t q = s q := fun q a b d e f => by show up (up (up (up (up u 35 5 _) 1 1 0) 52 1 0) 0 14 0) 0 15 _ q = _; rw [up_cell a, up_cell a, up_cell f, up_cell b, up_cell d, f2 q e]
        have t38 : t 38 = u 38 := rfl
        have t355 : t 35 5 = iI m := rfl
        have t52 : ∀ j, j ≠ 1 → t 52 j = s 52 j := fun j a => by
          show up (up (up (up (up u 35 5 (iI m)) 1 1 0) 52 1 0) 0 14 0) 0 15 _ 52 j = _
          rw [up_cell (by omega), up_cell (by omega), up_slot a, up_cell (by omega), up_cell (by omega), f2 52 (by omega)]
        obtain ⟨h1, h2, h3, h4, h5, h6, h7, h8, h9, h10, h11, h12⟩ := h
        refine ⟨t, ?_, ⟨V1, ⟨h2.1.of3 (fun q a _ => tq q (by omega) (by omega) (by omega) (by omega) (by omega)), ?_, ⟨t355, fun i hi => by rw [t38]; exact f3 i hi⟩⟩, h3.new h5 he (up_at _ _ _ _) (by rw [tq 41 (by omega) (by omega) (by omega) (by omega) (by omega)]), h4.new h5 he (up_at _ _ _ _) (by rw [tq 46 (by omega) (by omega) (by omega) (by omega) (by omega)]), up_at _ _ _ _, ⟨by rw [t52 0 (by omega)]; exact h6.1, rfl, by rw [t52 2 (by omega)]; exact h6.2.2.1, by rw [t52 3 (by omega)]; exact h6.2.2.2.1, by rw [t52 4 (by omega)]; exact h6.2.2.2.2⟩, by rw [tq 55 (by omega) (by omega) (by omega) (by omega) (by omega)]; exact h7, ⟨rfl, fun i hi => by omega⟩, by rw [tq 54 (by omega) (by omega) (by omega) (by omega) (by omega)]; exact h9, rfl, fun e => absurd e (by decide), by rw [tq 9 (by omega) (by omega) (by omega) (by omega) (by omega)]; exact h12⟩, fun q hq => tq q (by omega) (by omega) (by omega) (by omega) (by omega)⟩
        · show f_X11_rota a1 s = _
          unfold f_X11_rota
          rw [ea]
          refine e_if_f (by simp (disch := omega) only [Int.toNat_natCast, iI_lt, iI_le, iI_eq, iI_add, iI_sub, iI_mul, iI_neg, iI_clamp, inb_ii, z_1]; omega) ?_
          refine e_if_f (by simp (disch := omega) only [Int.toNat_natCast, iI_lt, iI_le, iI_eq, iI_add, iI_sub, iI_mul, iI_neg, iI_clamp, inb_ii, z_4]; omega) ?_
          refine e_bdp (v := iI z) (by unfold f_X9_size; rw [h8.1]) ?_
          refine e_if_t (by simp (disch := omega) only [Int.toNat_natCast, iI_lt, iI_le, iI_eq, iI_add, iI_sub, iI_mul, iI_neg, iI_clamp, inb_ii]; omega) ?_
          refine e_bd (v := 1) (t := up u 35 5 (iI m)) ?_ ?_
          · unfold f_X2_takeRota
            refine e_jn ?_
            refine (ck s _ h8).trans ?_
            rw [if_pos y]
            refine e_jn ?_
            refine f1.trans ?_
            exact e_lts rfl
          · refine e_bd (v := 0) (t := up (up u 35 5 (iI m)) 1 1 0) rfl ?_
            refine e_if_f (by decide) ?_
            refine e_lts ?_
            refine e_lts ?_
            have e15 : (up (up (up (up u 35 5 (iI m)) 1 1 0) 52 1 0) 0 14 0) 0 15 = iI ed := by
              rw [up_slot (by omega), up_cell (by omega), up_cell (by omega), up_cell (by omega), f2 0 (by omega)]
              exact h5
            rw [e15, nx_s]
            refine e_lts ?_
            exact e_gd (Or.inr rfl) rfl
        · have := h2.2.1
          unfold CKD at this ⊢
          rw [tq 36 (by omega) (by omega) (by omega) (by omega) (by omega), tq 37 (by omega) (by omega) (by omega) (by omega) (by omega)]
          exact this
      · have h5 := h.2.2.2.2.1
        have lp : ∀ (j N i : Nat) (u : SS) (K : SS → Res), i + j = m → j < N → (∀ q, q ≠ 62 → u q = (up s 56 1 0) q) → (∀ r, r < i → u 62 r = iI (b r)) → ∃ t, lp_X12_rota_56 (iI m) K N (iI i) u = K t ∧ (∀ q, q ≠ 62 → t q = (up s 56 1 0) q) ∧ ∀ r, r < m → t 62 r = iI (b r) := by
          intro j
          induction j with
          | zero =>
            intro N i u K hi hN h1 h2
            cases N with
            | zero => omega
            | succ N =>
              obtain rfl : i = m := by omega
              refine ⟨u, ?_, h1, h2⟩
              rw [lp_X12_rota_56]
              exact e_if_t (by simp (disch := omega) only [Int.toNat_natCast, iI_lt, iI_le, iI_eq, iI_add, iI_sub, iI_mul, iI_neg, iI_clamp, inb_ii]; omega) rfl
          | succ j ih =>
            intro N i u K hi hN h1 h2
            cases N with
            | zero => omega
            | succ N =>
              obtain ⟨t, f1, f2⟩ := ih N (i + 1) (up u 62 i (iI (b i))) K (by omega) (by omega) (fun q a => by rw [up_cell a]; exact h1 q a) (by
                intro r hr
                by_cases e : r = i
                · rw [e]; exact up_at _ _ _ _
                · rw [up_slot e]; exact h2 r (by omega))
              refine ⟨t, ?_, f2⟩
              have b3 := hb3 i (by omega)
              rw [lp_X12_rota_56]
              refine e_if_f (by simp (disch := omega) only [Int.toNat_natCast, iI_lt, iI_le, iI_eq, iI_add, iI_sub, iI_mul, iI_neg, iI_clamp, inb_ii]; omega) ?_
              refine e_gd (by simp (disch := omega) only [Int.toNat_natCast, iI_lt, iI_le, iI_eq, iI_add, iI_sub, iI_mul, iI_neg, iI_clamp, inb_ii]; omega) ?_
              refine e_gd (by simp (disch := omega) only [Int.toNat_natCast, iI_lt, iI_le, iI_eq, iI_add, iI_sub, iI_mul, iI_neg, iI_clamp, inb_ii]; omega) ?_
              rw [iI_clamp (by omega), Int.toNat_natCast, h1 57 (by omega), up_cell (by omega), h5.2 i (by omega), sby_lo (by omega)]
              refine e_lts ?_
              rw [nx_s]
              exact f1
        obtain ⟨u, f1, f2, f3⟩ := lp m FU 0 (up s 56 1 0) (fun (s6 : SS) => lts (up s6 56 5 (iI m)) (fun (s8 : SS) => lts (up s8 56 6 0) (fun (s9 : SS) => lts (up s9 56 68 0) (fun (s10 : SS) => some ((1 : Int32), s10))))) (by omega) (fu_lt (by omega)) (fun _ _ => rfl) (fun r hr => by omega)
        let t : SS := up (up (up u 56 5 (iI m)) 56 6 0) 56 68 0
        have tq : ∀ q, q ≠ 56 → q ≠ 62 → t q = s q := fun q a b => by show up (up (up u 56 5 _) 56 6 0) 56 68 0 q = _; rw [up_cell a, up_cell a, up_cell a, f2 q b, up_cell a]
        have t0 : ∀ j, j ≠ 1 → j ≠ 5 → j ≠ 6 → j ≠ 68 → t 56 j = s 56 j := fun j a b d e => by show up (up (up u 56 5 _) 56 6 0) 56 68 0 56 j = _; rw [up_slot e, up_slot d, up_slot b, f2 56 (by omega), up_slot a]
        have t62 : t 62 = u 62 := rfl
        have t1 : t 56 1 = 0 := by show up (up (up u 56 5 (iI m)) 56 6 0) 56 68 0 56 1 = _; rw [up_slot (by omega), up_slot (by omega), up_slot (by omega), f2 56 (by omega), up_at]
        obtain ⟨h1, h2, h3, h4, -, h6, h7, h8, h9⟩ := h
        have hrt : RT_ T n t := by
          obtain ⟨r1, r2, r3, r4⟩ := h2.1
          refine ⟨?_, by rw [t0 3 (by omega) (by omega) (by omega) (by omega)]; exact r2, r3.of (fun q _ _ => tq q (by omega) (by omega)) (t0 17 (by omega) (by omega) (by omega) (by omega)), r4.of (tq 81 (by omega) (by omega)) (tq 82 (by omega) (by omega)) (tq 83 (by omega) (by omega)) (tq 84 (by omega) (by omega))⟩
          unfold RTB at r1 ⊢
          rw [t0 2 (by omega) (by omega) (by omega) (by omega), tq 58 (by omega) (by omega), tq 59 (by omega) (by omega), tq 60 (by omega) (by omega), tq 61 (by omega) (by omega)]
          exact r1
        refine ⟨t, ?_, ⟨V1, ⟨hrt, ?_, ⟨rfl, fun i hi => by rw [t62]; exact f3 i hi⟩⟩, ⟨by rw [t0 4 (by omega) (by omega) (by omega) (by omega)]; exact h3.1, rfl, by rw [t0 7 (by omega) (by omega) (by omega) (by omega)]; exact h3.2.2.1, by rw [t0 8 (by omega) (by omega) (by omega) (by omega)]; exact h3.2.2.2.1, by rw [t0 9 (by omega) (by omega) (by omega) (by omega)]; exact h3.2.2.2.2⟩, by rw [tq 85 (by omega) (by omega), tq 86 (by omega) (by omega), tq 87 (by omega) (by omega), tq 88 (by omega) (by omega)]; exact h4, ⟨t1, fun i hi => by omega⟩, by rw [tq 94 (by omega) (by omega)]; exact h6, up_at _ _ _ _, fun e => absurd e (by decide), by rw [t0 17 (by omega) (by omega) (by omega) (by omega)]; exact h9⟩, fun q hq => tq q (by omega) (by omega)⟩
        · show f_X12_rota a1 s = _
          unfold f_X12_rota
          refine e_bdp (l1 s) ?_
          rw [if_pos q.1]
          refine e_if_f (by decide) ?_
          rw [ea, h5.1]
          refine e_if_t (by simp (disch := omega) only [Int.toNat_natCast, iI_lt, iI_le, iI_eq, iI_add, iI_sub, iI_mul, iI_neg, iI_clamp, inb_ii]; omega) ?_
          refine e_lts ?_
          refine e_jn ?_
          refine (cr (up s 56 1 0) _ (fun i hi => by rw [up_cell (by omega)]; exact h5.2 i hi)).trans ?_
          rw [if_pos y]
          refine e_jn ?_
          refine f1.trans ?_
          refine e_lts ?_
          refine e_lts ?_
          exact e_lts rfl
        · have := h2.2.1
          unfold RKD at this ⊢
          rw [tq 63 (by omega) (by omega), tq 64 (by omega) (by omega)]
          exact this
    · have V1 : JV T kd tl n c tn x p X k kf x2 p2 X2 k2 0 b := ⟨hV.1, hV.2.1, hV.2.2.1, hV.2.2.2.1, hV.2.2.2.2.1, ⟨by omega, fun i hi => by omega⟩, hV.2.2.2.2.2.2⟩
      refine ⟨T, kd, tl, n, c, tn, x, p, dy, X, k, en, kf, x2, p2, dy2, X2, k2, 0, b, d, cl, ed, by omega, 0, fun s h => ?_, fun s h => ?_⟩
      · have h8 := h.2.2.2.2.2.2.2.1
        obtain ⟨g1, g2, g3, g4, g5⟩ := h.w (t := up s 1 1 0) (fun q a b => up_cell (by omega)) (by rw [up_cell (by omega)])
        obtain ⟨h1, h2, h3, h4, h5, h6, h7, -, h9, h10, h11, h12⟩ := h
        refine ⟨up s 1 1 0, ?_, ⟨V1, g1, g2, g3, g4, by rw [up_cell (by omega)]; exact h6, by rw [up_cell (by omega)]; exact h7, ⟨up_at _ _ _ _, fun i hi => by omega⟩, by rw [up_cell (by omega)]; exact h9, by rw [up_cell (by omega)]; exact h10, by rw [up_cell (by omega)]; exact h11, g5⟩, fun q hq => up_cell (by omega)⟩
        show f_X11_rota a1 s = _
        unfold f_X11_rota
        rw [ea]
        refine e_if_f (by simp (disch := omega) only [Int.toNat_natCast, iI_lt, iI_le, iI_eq, iI_add, iI_sub, iI_mul, iI_neg, iI_clamp, inb_ii, z_1]; omega) ?_
        refine e_if_f (by simp (disch := omega) only [Int.toNat_natCast, iI_lt, iI_le, iI_eq, iI_add, iI_sub, iI_mul, iI_neg, iI_clamp, inb_ii, z_4]; omega) ?_
        refine e_bdp (v := iI z) (by unfold f_X9_size; rw [h8.1]) ?_
        refine e_if_t (by simp (disch := omega) only [Int.toNat_natCast, iI_lt, iI_le, iI_eq, iI_add, iI_sub, iI_mul, iI_neg, iI_clamp, inb_ii]; omega) ?_
        refine e_bd (v := 0) (t := s) ?_ ?_
        · unfold f_X2_takeRota
          refine e_jn ?_
          refine (ck s _ h8).trans ?_
          rw [if_neg y]
        · refine e_bd (v := 0) (t := up s 1 1 0) rfl ?_
          refine e_if_t rfl ?_
          exact e_gd (Or.inl rfl) rfl
      · have h51 := h.2.2.2.2.1
        obtain ⟨h1, h2, h3, h4, -, h6, h7, h8, h9⟩ := h
        refine ⟨up s 56 1 0, ?_, ⟨V1, h2.of (fun q _ _ _ _ _ => up_cell (by omega)) (fun j hj => up_slot (by omega)), by rw [up_slot (by omega), up_slot (by omega), up_slot (by omega), up_slot (by omega), up_slot (by omega)]; exact h3, by rw [up_cell (by omega), up_cell (by omega), up_cell (by omega), up_cell (by omega)]; exact h4, ⟨up_at _ _ _ _, fun i hi => by omega⟩, by rw [up_cell (by omega)]; exact h6, by rw [up_slot (by omega)]; exact h7, by rw [up_slot (by omega), up_slot (by omega), up_slot (by omega), up_slot (by omega), up_slot (by omega)]; exact h8, by rw [up_slot (by omega)]; exact h9⟩, fun q hq => up_cell (by omega)⟩
        show f_X12_rota a1 s = _
        unfold f_X12_rota
        refine e_bdp (l1 s) ?_
        rw [if_pos q.1]
        refine e_if_f (by decide) ?_
        rw [ea, h51.1]
        refine e_if_t (by simp (disch := omega) only [Int.toNat_natCast, iI_lt, iI_le, iI_eq, iI_add, iI_sub, iI_mul, iI_neg, iI_clamp, inb_ii]; omega) ?_
        refine e_lts ?_
        refine e_jn ?_
        refine (cr (up s 56 1 0) _ (fun i hi => by rw [up_cell (by omega)]; exact h51.2 i hi)).trans ?_
        rw [if_neg y]
  · refine out_no 0 (fun s h => ?_) (fun s h => ?_)
    · unfold f_X11_rota
      by_cases z1 : a1 < 1
      · exact e_if_t z1 rfl
      · refine e_if_f z1 ?_
        rw [lt32] at z1
        have z3 : ¬ a1.toInt < 1 := z1
        by_cases z2 : (4 : Int32) < a1
        · exact e_if_t z2 rfl
        · refine e_if_f z2 ?_
          rw [lt32] at z2
          have z4 : ¬ (4 : Int) < a1.toInt := z2
          refine e_bdp (zs s h) ?_
          exact e_if_f (by rw [le32, iI_toInt (by omega)]; omega) rfl
    · unfold f_X12_rota
      refine e_bdp (l1 s) ?_
      by_cases z1 : 1 ≤ a1.toInt ∧ a1.toInt ≤ 4
      · rw [if_pos z1]
        refine e_if_f (by decide) ?_
        exact e_if_f (by rw [h.2.2.2.2.1.1, le32, iI_toInt (by omega)]; omega) rfl
      · rw [if_neg z1]
        exact e_if_t rfl rfl
