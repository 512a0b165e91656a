/-! calls that write: what a step is; deed, seed, book, keep, undo, count, length, kind -/
variable {T : TW} {kd tl tn : Nat → Nat} {n c x p dy X k x2 p2 dy2 X2 k2 z cl : Nat} {en : Nat → Nat → Int32} {kf : Bool} {b : Nat → Nat} {d : Nat → Int32} {ed : Nat} {s t u : SS}
def OUT (F G : SS → Res) (T : TW) (kd tl : Nat → Nat) (n c : Nat) (tn : Nat → Nat) (x p dy X k : Nat) (en : Nat → Nat → Int32) (kf : Bool) (x2 p2 dy2 X2 k2 z : Nat) (b : Nat → Nat) (d : Nat → Int32) (cl : Nat) (ed : Nat) : Prop := ∃ (T1 : TW) (kd1 tl1 : Nat → Nat) (n1 c1 : Nat) (tn1 : Nat → Nat) (x1 p1 dy1 X1 k1 : Nat) (en1 : Nat → Nat → Int32) (kf1 : Bool) (x3 p3 dy3 X3 k3 z1 : Nat) (b1 : Nat → Nat) (d1 : Nat → Int32) (cl1 ed1 : Nat), ed1 ≤ ed + 1 ∧ ∃ v : Int32, (∀ s, JC T kd tl n c tn x p dy X k en kf x2 p2 dy2 X2 k2 z b d cl ed s → ∃ t, F s = some (v, t) ∧ JC T1 kd1 tl1 n1 c1 tn1 x1 p1 dy1 X1 k1 en1 kf1 x3 p3 dy3 X3 k3 z1 b1 d1 cl1 ed1 t ∧ KR s t) ∧ ∀ s, JR T kd tl n c tn x p dy X k en kf x2 p2 dy2 X2 k2 z b d cl s → ∃ t, G s = some (v, t) ∧ JR T1 kd1 tl1 n1 c1 tn1 x1 p1 dy1 X1 k1 en1 kf1 x3 p3 dy3 X3 k3 z1 b1 d1 cl1 t ∧ KC s t
theorem ASK.out {F G : SS → Res} (h : ASK F G T kd tl n c tn x p dy X k en kf x2 p2 dy2 X2 k2 z b d cl ed) : OUT F G T kd tl n c tn x p dy X k en kf x2 p2 dy2 X2 k2 z b d cl ed := by
  obtain ⟨v, h1, h2⟩ := h
  exact ⟨T, kd, tl, n, c, tn, x, p, dy, X, k, en, kf, x2, p2, dy2, X2, k2, z, b, d, cl, ed, by omega, v, h1, h2⟩
/-- refused: nothing changes -/
theorem out_no {F G : SS → Res} (v : Int32) (h1 : ∀ s, JC T kd tl n c tn x p dy X k en kf x2 p2 dy2 X2 k2 z b d cl ed s → F s = some (v, s)) (h2 : ∀ s, JR T kd tl n c tn x p dy X k en kf x2 p2 dy2 X2 k2 z b d cl s → G s = some (v, s)) : OUT F G T kd tl n c tn x p dy X k en kf x2 p2 dy2 X2 k2 z b d cl ed := by
  refine ASK.out ⟨v, fun s h => ⟨s, h1 s h, h, KR.rf s⟩, fun s h => ⟨s, h2 s h, h, KC.rf s⟩⟩
theorem CT_.of3 (h : CT_ T s) (e : ∀ k, 3 ≤ k → k ≤ 34 → t k = s k) : CT_ T t := by
  refine ⟨h.1.of (fun k _ _ => e k (by omega) (by omega)), h.2.1.of (by rw [e 27 (by omega) (by omega)]) (fun k _ _ => e k (by omega) (by omega)), h.2.2.1.of (fun k _ _ => e k (by omega) (by omega)), ?_⟩
  have := h.2.2.2
  unfold CCH gl at this ⊢
  rw [e 27 (by omega) (by omega), e 33 (by omega) (by omega), e 34 (by omega) (by omega)]
  exact this
theorem CW.of3 (h : CW T kd tl c tn s) (e : ∀ k, 3 ≤ k → k ≤ 38 → t k = s k) : CW T kd tl c tn t := by
  refine ⟨h.1.of3 (fun k a _ => e k a (by omega)), ?_, ?_⟩
  · have := h.2.1
    unfold CKD at this ⊢
    rw [e 36 (by omega) (by omega), e 37 (by omega) (by omega)]
    exact this
  · have := h.2.2
    unfold RTC at this ⊢
    rw [e 35 (by omega) (by omega), e 38 (by omega) (by omega)]
    exact this
theorem JC.w (h : JC T kd tl n c tn x p dy X k en kf x2 p2 dy2 X2 k2 z b d cl ed s) (e : ∀ q, 3 ≤ q → q ≤ 51 → t q = s q) (e0 : t 0 15 = s 0 15) : CW T kd tl c tn t ∧ MEM T kd tl c tn t ∧ SMEM T c tn t ∧ t 0 15 = iI ed ∧ t 9 8 = iI cl := by
  obtain ⟨h1, h2, h3, h4, h5, h6, h7, h8, h9, h10, h11, h12⟩ := h
  exact ⟨h2.of3 (fun q a b => e q a (by omega)), h3.of e0 (e 41 (by omega) (by omega)) (e 42 (by omega) (by omega)) (e 43 (by omega) (by omega)), h4.of e0 (e 46 (by omega) (by omega)) (e 47 (by omega) (by omega)), e0.trans h5, by rw [e 9 (by omega) (by omega)]; exact h12⟩
theorem out_deed (a1 a2 : Int32) (hV : JV T kd tl n c tn x p X k kf x2 p2 X2 k2 z b) : OUT (f_X11_deed a1 a2) (f_X12_deed a1 a2) T kd tl n c tn x p dy X k en kf x2 p2 dy2 X2 k2 z b d cl ed := by
  have w2 := fun s => within_f a2 255 s
  have l2 : ∀ s, f_X12_lies (a2.toInt64) 0 255 s = some (if 0 ≤ a2.toInt ∧ a2.toInt ≤ 255 then 1 else 0) := fun s => by rw [lies_f, i64_toInt]; rfl
  have t255 : (255 : Int32).toInt = 255 := rfl
  rw [t255] at w2
  by_cases q1 : 0 ≤ a1.toInt ∧ a1.toInt ≤ 7
  · have c1 : ¬ a1 < 0 := by rw [lt32]; show ¬ a1.toInt < 0; omega
    have c2 : ¬ (8 : Int32) ≤ a1 := by rw [le32]; show ¬ (8 : Int) ≤ a1.toInt; omega
    have hd : ∀ s, f_X12_isDeed a1 s = some 1 := fun s => by rw [isDeed_f, if_pos q1]
    by_cases q2 : 0 ≤ a2.toInt ∧ a2.toInt ≤ 255
    · have ea := e_lit (a := a1) (k := (a1.toInt.toNat : Nat)) (by omega)
      have hm : a1.toInt.toNat < 8 := by omega
      generalize a1.toInt.toNat = m at ea hm
      refine ⟨T, kd, tl, n, c, tn, x, p, dy, X, k, en, kf, x2, p2, dy2, X2, k2, z, b, upd d m a2, cl, ed, by omega, 1, fun s h => ?_, fun s h => ?_⟩
      · refine ⟨up s 54 m a2, ?_, ?_, fun q hq => up_cell (by omega)⟩
        · show f_X11_deed a1 a2 s = _
          unfold f_X11_deed
          refine e_if_f c1 ?_
          refine e_if_f c2 ?_
          refine e_bdp (w2 s) ?_
          rw [if_pos q2]
          refine e_if_f (by decide) ?_
          rw [ea]
          refine e_gd (by simp (disch := omega) only [Int.toNat_natCast, iI_lt, iI_le, iI_eq, iI_add, iI_sub, iI_mul, iI_neg, iI_clamp, inb_ii]; omega) ?_
          rw [iI_clamp (by omega), Int.toNat_natCast]
          exact e_lts rfl
        · obtain ⟨g1, g2, g3, g4, g5⟩ := h.w (t := up s 54 m a2) (fun q a b => up_cell (by omega)) (by rw [up_cell (by omega)])
          obtain ⟨h1, h2, h3, h4, h5, h6, h7, h8, h9, h10, h11, h12⟩ := h
          refine ⟨h1, g1, g2, g3, g4, by rw [up_cell (by omega)]; exact h6, by rw [up_cell (by omega)]; exact h7, ?_, ?_, by rw [up_cell (by omega)]; exact h10, by rw [up_cell (by omega)]; exact h11, g5⟩
          · unfold TPC at h8 ⊢
            rw [up_cell (by omega), up_cell (by omega)]
            exact h8
          · intro i hi
            by_cases e : i = m
            · rw [e, up_at, upd_eq]
            · rw [up_slot e, upd_ne e]
              exact h9 i hi
      · refine ⟨up s 94 m a2, ?_, ?_, fun q hq => up_cell (by omega)⟩
        · show f_X12_deed a1 a2 s = _
          unfold f_X12_deed
          refine e_bdp (hd s) ?_
          refine e_if_f (by decide) ?_
          refine e_bdp (l2 s) ?_
          rw [if_pos q2]
          refine e_if_f (by decide) ?_
          rw [ea]
          refine e_gd (by simp (disch := omega) only [Int.toNat_natCast, iI_lt, iI_le, iI_eq, iI_add, iI_sub, iI_mul, iI_neg, iI_clamp, inb_ii]; omega) ?_
          rw [iI_clamp (by omega), Int.toNat_natCast]
          exact e_lts rfl
        · obtain ⟨h1, h2, h3, h4, h5, h6, h7, h8, h9⟩ := h
          refine ⟨h1, h2.up1 (by omega), by rw [up_cell (by omega)]; exact h3, by rw [up_cell (by omega), up_cell (by omega), up_cell (by omega), up_cell (by omega)]; exact h4, ?_, ?_, by rw [up_cell (by omega)]; exact h7, by rw [up_cell (by omega)]; exact h8, by rw [up_cell (by omega)]; exact h9⟩
          · unfold TPR at h5 ⊢
            rw [up_cell (by omega), up_cell (by omega)]
            exact h5
          · intro i hi
            by_cases e : i = m
            · rw [e, up_at, upd_eq]
            · rw [up_slot e, upd_ne e]
              exact h6 i hi
    · refine out_no 0 (fun s _ => ?_) (fun s _ => ?_)
      · unfold f_X11_deed
        refine e_if_f c1 ?_
        refine e_if_f c2 ?_
        refine e_bdp (w2 s) ?_
        rw [if_neg q2]
        exact e_if_t rfl rfl
      · unfold f_X12_deed
        refine e_bdp (hd s) ?_
        refine e_if_f (by decide) ?_
        refine e_bdp (l2 s) ?_
        rw [if_neg q2]
        exact e_if_t rfl rfl
  · refine out_no 0 (fun s _ => ?_) (fun s _ => ?_)
    · unfold f_X11_deed
      by_cases z1 : a1 < 0
      · exact e_if_t z1 rfl
      · refine e_if_f z1 ?_
        exact e_if_t (by rw [lt32] at z1; rw [le32]; have : ¬ a1.toInt < 0 := z1; show (8 : Int) ≤ a1.toInt; omega) rfl
    · unfold f_X12_deed
      refine e_bdp (isDeed_f a1 s) ?_
      rw [if_neg q1]
      exact e_if_t rfl rfl
theorem out_seed (a1 : Int32) (hV : JV T kd tl n c tn x p X k kf x2 p2 X2 k2 z b) : OUT (f_X11_seed a1) (f_X12_seed a1) T kd tl n c tn x p dy X k en kf x2 p2 dy2 X2 k2 z b d cl ed := by
  have w2 := fun s => within_f a1 65535 s
  have l2 : ∀ s, f_X12_lies (a1.toInt64) 0 65535 s = some (if 0 ≤ a1.toInt ∧ a1.toInt ≤ 65535 then 1 else 0) := fun s => by rw [lies_f, i64_toInt]; rfl
  have t255 : (65535 : Int32).toInt = 65535 := rfl
  rw [t255] at w2
  by_cases q2 : 0 ≤ a1.toInt ∧ a1.toInt ≤ 65535
  · have ea := e_lit (a := a1) (k := (a1.toInt.toNat : Nat)) (by omega)
    have hm : a1.toInt.toNat < 65536 := by omega
    generalize a1.toInt.toNat = m at ea hm
    refine ⟨T, kd, tl, n, c, tn, x, p, dy, m, k, en, kf, x2, p2, dy2, X2, k2, z, b, d, cl, ed, by omega, 1, fun s h => ?_, fun s h => ?_⟩
    · refine ⟨up s 52 3 (iI m), ?_, ?_, fun q hq => up_cell (by omega)⟩
      · show f_X11_seed a1 s = _
        unfold f_X11_seed
        refine e_bdp (w2 s) ?_
        rw [if_pos q2]
        refine e_if_f (by decide) ?_
        rw [ea]
        exact e_lts rfl
      · obtain ⟨g1, g2, g3, g4, g5⟩ := h.w (t := up s 52 3 (iI m)) (fun q a b => up_cell (by omega)) (by rw [up_cell (by omega)])
        obtain ⟨h1, h2, h3, h4, h5, h6, h7, h8, h9, h10, h11, h12⟩ := h
        refine ⟨⟨h1.1, h1.2.1, h1.2.2.1, hm, h1.2.2.2.2⟩, g1, g2, g3, g4, ?_, by rw [up_cell (by omega)]; exact h7, ?_, by rw [up_cell (by omega)]; exact h9, by rw [up_cell (by omega)]; exact h10, by rw [up_cell (by omega)]; exact h11, g5⟩
        · exact ⟨by rw [up_slot (by omega)]; exact h6.1, by rw [up_slot (by omega)]; exact h6.2.1, by rw [up_slot (by omega)]; exact h6.2.2.1, up_at _ _ _ _, by rw [up_slot (by omega)]; exact h6.2.2.2.2⟩
        · unfold TPC at h8 ⊢
          rw [up_cell (by omega), up_cell (by omega)]
          exact h8
    · refine ⟨up s 56 8 (iI m), ?_, ?_, fun q hq => up_cell (by omega)⟩
      · show f_X12_seed a1 s = _
        unfold f_X12_seed
        refine e_bdp (l2 s) ?_
        rw [if_pos q2]
        refine e_if_f (by decide) ?_
        rw [ea]
        exact e_lts rfl
      · obtain ⟨h1, h2, h3, h4, h5, h6, h7, h8, h9⟩ := h
        refine ⟨⟨h1.1, h1.2.1, h1.2.2.1, hm, h1.2.2.2.2⟩, h2.of (fun q _ _ _ _ _ => up_cell (by omega)) (fun j hj => up_slot (by omega)), ?_, by rw [up_cell (by omega), up_cell (by omega), up_cell (by omega), up_cell (by omega)]; exact h4, ?_, by rw [up_cell (by omega)]; exact h6, by rw [up_slot (by omega)]; exact h7, by rw [up_slot (by omega), up_slot (by omega), up_slot (by omega), up_slot (by omega), up_slot (by omega)]; exact h8, by rw [up_slot (by omega)]; exact h9⟩
        · exact ⟨by rw [up_slot (by omega)]; exact h3.1, by rw [up_slot (by omega)]; exact h3.2.1, by rw [up_slot (by omega)]; exact h3.2.2.1, up_at _ _ _ _, by rw [up_slot (by omega)]; exact h3.2.2.2.2⟩
        · unfold TPR at h5 ⊢
          rw [up_slot (by omega), up_cell (by omega)]
          exact h5
  · refine out_no 0 (fun s _ => ?_) (fun s _ => ?_)
    · unfold f_X11_seed
      refine e_bdp (w2 s) ?_
      rw [if_neg q2]
      exact e_if_t rfl rfl
    · unfold f_X12_seed
      refine e_bdp (l2 s) ?_
      rw [if_neg q2]
      exact e_if_t rfl rfl
/-- the book -/
def ansBook (k : Nat) (en : Nat → Nat → Int32) (a1 a2 : Int32) : Int32 := if (0 ≤ a1.toInt ∧ a1.toInt < k) ∧ (0 ≤ a2.toInt ∧ a2.toInt ≤ 3) then en a1.toInt.toNat a2.toInt.toNat else -1
theorem cc_book (a1 a2 : Int32) (h : JC T kd tl n c tn x p dy X k en kf x2 p2 dy2 X2 k2 z b d cl ed s) : f_X11_book a1 a2 s = some (ansBook k en a1 a2) := by
  obtain ⟨h1, h2, h3, h4, h5, h6, h7, h8, h9, h10, h11, h12⟩ := h
  have hk : k ≤ 100 := h1.2.2.2.2.1
  have w2 := within_f a2 3 s
  rw [show (3 : Int32).toInt = 3 from rfl] at w2
  have ek := h6.2.2.2.2
  have apos : (0 ≤ a1.toInt ∧ a1.toInt < k) → (0 ≤ a2.toInt ∧ a2.toInt ≤ 3) → ansBook k en a1 a2 = en a1.toInt.toNat a2.toInt.toNat := fun u v => if_pos ⟨u, v⟩
  have aneg : ¬ ((0 ≤ a1.toInt ∧ a1.toInt < k) ∧ (0 ≤ a2.toInt ∧ a2.toInt ≤ 3)) → ansBook k en a1 a2 = -1 := fun u => if_neg u
  unfold f_X11_book
  by_cases q1 : 0 ≤ a1.toInt ∧ a1.toInt < k
  · have c1 : ¬ a1 < 0 := by rw [lt32]; show ¬ a1.toInt < 0; omega
    have c2 : ¬ s 52 4 ≤ a1 := by rw [ek, le32, iI_toInt (by omega)]; omega
    have c3 : ¬ (100 : Int32) ≤ a1 := by rw [le32]; show ¬ (100 : Int) ≤ a1.toInt; omega
    by_cases q2 : 0 ≤ a2.toInt ∧ a2.toInt ≤ 3
    · rw [apos q1 q2]
      refine e_if_f c1 ?_
      refine e_if_f c2 ?_
      refine e_if_f c3 ?_
      refine e_bdp w2 ?_
      rw [if_pos q2]
      refine e_if_f (by decide) ?_
      have ea := e_lit (a := a1) (k := (a1.toInt.toNat : Nat)) (by omega)
      have eb := e_lit (a := a2) (k := (a2.toInt.toNat : Nat)) (by omega)
      have ha : a1.toInt.toNat < k := by omega
      have hb : a2.toInt.toNat < 4 := by omega
      generalize a1.toInt.toNat = i at ea ha ⊢
      generalize a2.toInt.toNat = j at eb hb ⊢
      have e : a1 * 4 + a2 = iI ((4 * i + j : Nat) : Int) := by
        rw [ea, eb, z_4, iI_mul, iI_add]
        congr 1
        omega
      rw [e]
      refine e_gd (by simp (disch := omega) only [Int.toNat_natCast, iI_lt, iI_le, iI_eq, iI_add, iI_sub, iI_mul, iI_neg, iI_clamp, inb_ii]; omega) ?_
      rw [iI_clamp (by omega), Int.toNat_natCast, h7 i j ha hb]
    · rw [aneg (fun w => q2 w.2)]
      refine e_if_f c1 ?_
      refine e_if_f c2 ?_
      refine e_if_f c3 ?_
      refine e_bdp w2 ?_
      rw [if_neg q2]
      exact e_if_t rfl rfl
  · rw [aneg (fun w => q1 w.1)]
    by_cases z1 : a1 < 0
    · exact e_if_t z1 rfl
    · refine e_if_f z1 ?_
      refine e_if_t ?_ rfl
      rw [lt32] at z1
      rw [ek, le32, iI_toInt (by omega)]
      have : ¬ a1.toInt < 0 := z1
      omega
theorem cr_book (a1 a2 : Int32) (h : JR T kd tl n c tn x p dy X k en kf x2 p2 dy2 X2 k2 z b d cl s) : f_X12_book a1 a2 s = some (ansBook k en a1 a2) := by
  obtain ⟨h1, h2, h3, h4, h5, h6, h7, h8, h9⟩ := h
  have hk : k ≤ 100 := h1.2.2.2.2.1
  have ek := h3.2.2.2.2
  have l1 : f_X12_lies (a1.toInt64) 0 ((s 56 9 - 1).toInt64) s = some (if 0 ≤ a1.toInt ∧ a1.toInt ≤ (k : Int) - 1 then 1 else 0) := by
    rw [lies_f, i64_toInt, i64_toInt, ek, z_1, iI_sub, iI_toInt (by omega)]
    rfl
  have z0 : (a2 = 0) = (a2.toInt = 0) := by rw [z_0]; exact lit32 0 (by omega) a2
  have z1 : (a2 = 1) = (a2.toInt = 1) := by rw [z_1]; exact lit32 1 (by omega) a2
  have z2 : (a2 = 2) = (a2.toInt = 2) := by rw [z_2]; exact lit32 2 (by omega) a2
  have z3 : (a2 = 3) = (a2.toInt = 3) := by rw [z_3]; exact lit32 3 (by omega) a2
  have apos : (0 ≤ a1.toInt ∧ a1.toInt < k) → (0 ≤ a2.toInt ∧ a2.toInt ≤ 3) → ansBook k en a1 a2 = en a1.toInt.toNat a2.toInt.toNat := fun u v => if_pos ⟨u, v⟩
  have aneg : ¬ ((0 ≤ a1.toInt ∧ a1.toInt < k) ∧ (0 ≤ a2.toInt ∧ a2.toInt ≤ 3)) → ansBook k en a1 a2 = -1 := fun u => if_neg u
  unfold f_X12_book
  by_cases q1 : 0 ≤ a1.toInt ∧ a1.toInt < k
  · rw [if_pos (by omega)] at l1
    have ha : a1.toInt.toNat < k := by omega
    have gi : inb a1 100 := ⟨by omega, by omega⟩
    have cl2 : Int32.toNatClampNeg a1 = a1.toInt.toNat := rfl
    have he := h4 a1.toInt.toNat ha
    refine e_bdp l1 ?_
    refine e_if_f (by decide) ?_
    by_cases y0 : a2.toInt = 0
    · rw [apos q1 (by omega)]
      refine e_if_t (z0.mpr y0) ?_
      refine e_gd gi ?_
      rw [cl2, he.1, y0]
      rfl
    · refine e_if_f (fun w => y0 (z0.mp w)) ?_
      by_cases y1 : a2.toInt = 1
      · rw [apos q1 (by omega)]
        refine e_if_t (z1.mpr y1) ?_
        refine e_gd gi ?_
        rw [cl2, he.2.1, y1]
        rfl
      · refine e_if_f (fun w => y1 (z1.mp w)) ?_
        by_cases y2 : a2.toInt = 2
        · rw [apos q1 (by omega)]
          refine e_if_t (z2.mpr y2) ?_
          refine e_gd gi ?_
          rw [cl2, he.2.2.1, y2]
          rfl
        · refine e_if_f (fun w => y2 (z2.mp w)) ?_
          by_cases y3 : a2.toInt = 3
          · rw [apos q1 (by omega)]
            refine e_if_t (z3.mpr y3) ?_
            refine e_gd gi ?_
            rw [cl2, he.2.2.2, y3]
            rfl
          · rw [aneg (fun w => by omega)]
            exact e_if_f (fun w => y3 (z3.mp w)) rfl
  · rw [if_neg (by omega)] at l1
    rw [aneg (fun w => q1 w.1)]
    refine e_bdp l1 ?_
    exact e_if_t rfl rfl
theorem out_book (a1 a2 : Int32) : OUT (fun s => pu (f_X11_book a1 a2 s) s) (fun s => pu (f_X12_book a1 a2 s) s) T kd tl n c tn x p dy X k en kf x2 p2 dy2 X2 k2 z b d cl ed := by
  refine out_no (ansBook k en a1 a2) (fun s h => ?_) (fun s h => ?_)
  · show pu (f_X11_book a1 a2 s) s = _
    rw [cc_book a1 a2 h]
    rfl
  · show pu (f_X12_book a1 a2 s) s = _
    rw [cr_book a1 a2 h]
    rfl
