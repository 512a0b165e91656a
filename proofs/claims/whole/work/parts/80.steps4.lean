/-! law; fits -/
variable {T : TW} {kd tl tn : Nat → Nat} {n c x p dy X k x2 p2 dy2 X2 k2 z cl : Nat} {en : Nat → Nat → Int32} {kf : Bool} {b : Nat → Nat} {d : Nat → Int32} {ed : Nat} {s t u : SS}
/-- one more law -/
def addT (T : TW) (a1 a2 a3 a4 : Int32) : TW := (T.1 + 1, fun j => if j = 0 then upd (T.2.1 0) T.1 a1 else if j = 1 then upd (T.2.1 1) T.1 a2 else if j = 2 then upd (T.2.1 2) T.1 a3 else upd (T.2.1 3) T.1 a4, T.2.2)
theorem VR.add {a1 a2 a3 a4 : Int32} (h : VR T x) : VR (addT T a1 a2 a3 a4) x := fun i hi => Nat.lt_succ_of_lt (h i hi)
theorem out_law (a1 a2 a3 a4 : Int32) (hV : JV T kd tl n c tn x p X k kf x2 p2 X2 k2 z b) (he : ed < 1000000) : OUT (f_X11_law a1 a2 a3 a4) (f_X12_law a1 a2 a3 a4) T kd tl n c tn x p dy X k en kf x2 p2 dy2 X2 k2 z b d cl ed := by
  have hT := hV.1.1.1
  have w1 := fun s => within_f a1 9 s
  have w2 := fun s => within_f a2 255 s
  have w3 := fun s => within_f a3 255 s
  have w4 := fun s => within_f a4 15 s
  rw [show (9 : Int32).toInt = 9 from rfl] at w1
  rw [show (255 : Int32).toInt = 255 from rfl] at w2 w3
  rw [show (15 : Int32).toInt = 15 from rfl] at w4
  have l1 : ∀ s, f_X12_lies (a1.toInt64) 0 9 s = some (if 0 ≤ a1.toInt ∧ a1.toInt ≤ 9 then 1 else 0) := fun s => by rw [lies_f, i64_toInt]; rfl
  have l2 : ∀ s, f_X12_lies (a2.toInt64) 0 255 s = some (if 0 ≤ a2.toInt ∧ a2.toInt ≤ 255 then 1 else 0) := fun s => by rw [lies_f, i64_toInt]; rfl
  have l3 : ∀ s, f_X12_lies (a3.toInt64) 0 255 s = some (if 0 ≤ a3.toInt ∧ a3.toInt ≤ 255 then 1 else 0) := fun s => by rw [lies_f, i64_toInt]; rfl
  have l4 : ∀ s, f_X12_lies (a4.toInt64) 0 15 s = some (if 0 ≤ a4.toInt ∧ a4.toInt ≤ 15 then 1 else 0) := fun s => by rw [lies_f, i64_toInt]; rfl
  by_cases q8 : T.1 = 8
  · refine out_no (-1) (fun s h => ?_) (fun s h => ?_)
    · have e9 := h.2.1.1.2.1.1
      have zc : f_X10_lawCount s = some (iI T.1) := by unfold f_X10_lawCount; rw [e9]
      have last : ∀ v : Int32, (if (v : Int32) = 0 then some ((-1), s) else bdp (f_X10_lawCount s) (fun (v5 : Int32) => if (v5 : Int32) < (8 : Int32) then lts (up s 0 15 ((s 0 15) + 1)) (fun (s7 : SS) => bd (f_X10_addLaw a1 a2 a3 a4 s7) (fun (v8 : Int32) (s9 : SS) => some (v8, s9))) else some ((-1), s))) = (some (-1, s) : Res) := by
        intro v
        by_cases y : v = 0
        · exact e_if_t y rfl
        · refine e_if_f y ?_
          refine e_bdp zc ?_
          exact e_if_f (by rw [q8]; decide) rfl
      unfold f_X11_law
      refine e_bdp (w1 s) ?_
      refine e_jn ?_
      refine e_jn ?_
      by_cases q1 : 0 ≤ a1.toInt ∧ a1.toInt ≤ 9
      · rw [if_pos q1]
        refine e_if_f (by decide) ?_
        refine e_bdp (w2 s) ?_
        by_cases q2 : 0 ≤ a2.toInt ∧ a2.toInt ≤ 255
        · rw [if_pos q2]
          refine e_if_f (by decide) ?_
          refine e_bdp (w3 s) ?_
          by_cases q3 : 0 ≤ a3.toInt ∧ a3.toInt ≤ 255
          · rw [if_pos q3]
            refine e_if_f (by decide) ?_
            refine e_bdp (w4 s) ?_
            by_cases q4 : 0 ≤ a4.toInt ∧ a4.toInt ≤ 15
            · rw [if_pos q4]
              exact e_if_f (by decide) (last 1)
            · rw [if_neg q4]
              exact e_if_t rfl (last 0)
          · rw [if_neg q3]
            exact e_if_t rfl (last 0)
        · rw [if_neg q2]
          exact e_if_t rfl (last 0)
      · rw [if_neg q1]
        exact e_if_t rfl (last 0)
    · unfold f_X12_law
      exact e_if_t (by rw [h.2.1.1.1.1, q8]; rfl) rfl
  · by_cases q : (0 ≤ a1.toInt ∧ a1.toInt ≤ 9) ∧ (0 ≤ a2.toInt ∧ a2.toInt ≤ 255) ∧ (0 ≤ a3.toInt ∧ a3.toInt ≤ 255) ∧ (0 ≤ a4.toInt ∧ a4.toInt ≤ 15)
    · obtain ⟨q1, q2, q3, q4⟩ := q
      have T8 : T.1 < 8 := by omega
      have W1 : WOK (addT T a1 a2 a3 a4) kd tl n c tn := ⟨⟨by show T.1 + 1 ≤ 8; omega, hV.1.1.2⟩, hV.1.2⟩
      have V1 : JV (addT T a1 a2 a3 a4) kd tl n c tn x p X k kf x2 p2 X2 k2 z b := ⟨W1, ⟨hV.2.1.1, hV.2.1.2.add⟩, hV.2.2.1, hV.2.2.2.1, hV.2.2.2.2.1, hV.2.2.2.2.2.1, fun e => by
        have := hV.2.2.2.2.2.2 e
        exact ⟨⟨this.1.1, this.1.2.add⟩, this.2⟩⟩
      have cl0 : Int32.toNatClampNeg (iI (T.1 : Int)) = T.1 := by rw [iI_clamp (by omega), Int.toNat_natCast]
      have gi : inb (iI (T.1 : Int)) 8 := by simp (disch := omega) only [Int.toNat_natCast, iI_lt, iI_le, iI_eq, iI_add, iI_sub, iI_mul, iI_neg, iI_clamp, inb_ii]; omega
      refine ⟨addT T a1 a2 a3 a4, kd, tl, n, c, tn, x, p, dy, X, k, en, kf, x2, p2, dy2, X2, k2, z, b, d, cl, ed + 1, by omega, iI T.1, fun s h => ?_, fun s h => ?_⟩
      · obtain ⟨h1, h2, h3, h4, h5, h6, h7, h8, h9, h10, h11, h12⟩ := h
        have e9 := h2.1.2.1.1
        let t : SS := up (up (up (up (up (up (up s 0 15 (iI ((ed + 1 : Nat) : Int))) 28 T.1 a1) 29 T.1 a2) 30 T.1 a3) 31 T.1 a4) 27 9 (iI ((T.1 + 1 : Nat) : Int))) 27 10 1
        have tq : ∀ q, q ≠ 0 → q ≠ 27 → q ≠ 28 → q ≠ 29 → q ≠ 30 → q ≠ 31 → t q = s q := fun q a b d e f g => by show up (up (up (up (up (up (up s 0 15 _) 28 _ _) 29 _ _) 30 _ _) 31 _ _) 27 9 _) 27 10 1 q = _; rw [up_cell b, up_cell b, up_cell g, up_cell f, up_cell e, up_cell d, up_cell a]
        have t0 : ∀ j, j ≠ 15 → t 0 j = s 0 j := fun j a => by show up (up (up (up (up (up (up s 0 15 _) 28 _ _) 29 _ _) 30 _ _) 31 _ _) 27 9 _) 27 10 1 0 j = _; rw [up_cell (by omega), up_cell (by omega), up_cell (by omega), up_cell (by omega), up_cell (by omega), up_cell (by omega), up_slot a]
        have t28 : t 28 = upd (s 28) T.1 a1 := rfl
        have t29 : t 29 = upd (s 29) T.1 a2 := rfl
        have t30 : t 30 = upd (s 30) T.1 a3 := rfl
        have t31 : t 31 = upd (s 31) T.1 a4 := rfl
        have hct : CT_ (addT T a1 a2 a3 a4) t := by
          obtain ⟨g1, g2, g3, g4⟩ := h2.1
          refine ⟨g1.of (fun q _ _ => tq q (by omega) (by omega) (by omega) (by omega) (by omega) (by omega)), ⟨rfl, fun i hi => ?_⟩, g3.of (fun q _ _ => tq q (by omega) (by omega) (by omega) (by omega) (by omega) (by omega)), Or.inr rfl, fun w => absurd w (by show ¬ (1 : Int32) = 0; decide)⟩
          rw [t28, t29, t30, t31]
          show upd (s 28) T.1 a1 i = upd (T.2.1 0) T.1 a1 i ∧ upd (s 29) T.1 a2 i = upd (T.2.1 1) T.1 a2 i ∧ upd (s 30) T.1 a3 i = upd (T.2.1 2) T.1 a3 i ∧ upd (s 31) T.1 a4 i = upd (T.2.1 3) T.1 a4 i
          by_cases e : i = T.1
          · rw [e, upd_eq, upd_eq, upd_eq, upd_eq, upd_eq, upd_eq, upd_eq, upd_eq]
            exact ⟨rfl, rfl, rfl, rfl⟩
          · rw [upd_ne e, upd_ne e, upd_ne e, upd_ne e, upd_ne e, upd_ne e, upd_ne e, upd_ne e]
            exact g2.2 i hi
        refine ⟨t, ?_, ⟨V1, ⟨hct, ?_, ?_⟩, h3.new h5 he rfl (by rw [tq 41 (by omega) (by omega) (by omega) (by omega) (by omega) (by omega)]), h4.new h5 he rfl (by rw [tq 46 (by omega) (by omega) (by omega) (by omega) (by omega) (by omega)]), rfl, by rw [tq 52 (by omega) (by omega) (by omega) (by omega) (by omega) (by omega)]; exact h6, by rw [tq 55 (by omega) (by omega) (by omega) (by omega) (by omega) (by omega)]; exact h7, ?_, by rw [tq 54 (by omega) (by omega) (by omega) (by omega) (by omega) (by omega)]; exact h9, by rw [t0 14 (by omega)]; exact h10, by rw [tq 53 (by omega) (by omega) (by omega) (by omega) (by omega) (by omega)]; exact h11, by rw [tq 9 (by omega) (by omega) (by omega) (by omega) (by omega) (by omega)]; exact h12⟩, fun q hq => tq q (by omega) (by omega) (by omega) (by omega) (by omega) (by omega)⟩
        · unfold f_X11_law
          refine e_bdp (w1 s) ?_
          rw [if_pos q1]
          refine e_jn ?_
          refine e_jn ?_
          refine e_if_f (by decide) ?_
          refine e_bdp (w2 s) ?_
          rw [if_pos q2]
          refine e_if_f (by decide) ?_
          refine e_bdp (w3 s) ?_
          rw [if_pos q3]
          refine e_if_f (by decide) ?_
          refine e_bdp (w4 s) ?_
          rw [if_pos q4]
          refine e_if_f (by decide) ?_
          refine e_if_f (by decide) ?_
          refine e_bdp (v := iI T.1) (by unfold f_X10_lawCount; rw [e9]) ?_
          refine e_if_t (by simp (disch := omega) only [Int.toNat_natCast, iI_lt, iI_le, iI_eq, iI_add, iI_sub, iI_mul, iI_neg, iI_clamp, inb_ii, z_8]; omega) ?_
          rw [h5, nx_s]
          refine e_lts ?_
          refine e_bd (v := iI T.1) (t := t) ?_ rfl
          unfold f_X10_addLaw
          have f9 : (up s 0 15 (iI ((ed + 1 : Nat) : Int))) 27 9 = iI T.1 := by rw [up_cell (by omega)]; exact e9
          rw [f9, cl0]
          refine e_if_f (by simp (disch := omega) only [Int.toNat_natCast, iI_lt, iI_le, iI_eq, iI_add, iI_sub, iI_mul, iI_neg, iI_clamp, inb_ii, z_0]; omega) ?_
          refine e_if_t (by simp (disch := omega) only [Int.toNat_natCast, iI_lt, iI_le, iI_eq, iI_add, iI_sub, iI_mul, iI_neg, iI_clamp, inb_ii, z_8]; omega) ?_
          refine e_gd gi ?_
          refine e_lts ?_
          rw [up_cell (k := 28) (q := 27) (by omega), f9, cl0]
          refine e_gd gi ?_
          refine e_lts ?_
          rw [up_cell (k := 29) (q := 27) (by omega), up_cell (k := 28) (q := 27) (by omega), f9, cl0]
          refine e_gd gi ?_
          refine e_lts ?_
          rw [up_cell (k := 30) (q := 27) (by omega), up_cell (k := 29) (q := 27) (by omega), up_cell (k := 28) (q := 27) (by omega), f9, cl0]
          refine e_gd gi ?_
          refine e_lts ?_
          rw [up_cell (k := 31) (q := 27) (by omega), up_cell (k := 30) (q := 27) (by omega), up_cell (k := 29) (q := 27) (by omega), up_cell (k := 28) (q := 27) (by omega), f9, nx_s]
          refine e_lts ?_
          refine e_bd (v := 0) (t := t) rfl ?_
          show some (iI ((T.1 + 1 : Nat) : Int) - 1, t) = _
          rw [pr_s]
        · have := h2.2.1
          unfold CKD at this ⊢
          rw [tq 36 (by omega) (by omega) (by omega) (by omega) (by omega) (by omega), tq 37 (by omega) (by omega) (by omega) (by omega) (by omega) (by omega)]
          exact this
        · have := h2.2.2
          unfold RTC at this ⊢
          rw [tq 35 (by omega) (by omega) (by omega) (by omega) (by omega) (by omega), tq 38 (by omega) (by omega) (by omega) (by omega) (by omega) (by omega)]
          exact this
        · unfold TPC at h8 ⊢
          rw [tq 1 (by omega) (by omega) (by omega) (by omega) (by omega) (by omega), tq 2 (by omega) (by omega) (by omega) (by omega) (by omega) (by omega)]
          exact h8
      · obtain ⟨h1, h2, h3, h4, h5, h6, h7, h8, h9⟩ := h
        have e2 := h2.1.1.1
        let s1 : SS := up (up (up (up (up s 58 T.1 a1) 59 T.1 a2) 60 T.1 a3) 61 T.1 a4) 56 2 (iI ((T.1 + 1 : Nat) : Int))
        have sq : ∀ q, q ≠ 56 → q ≠ 58 → q ≠ 59 → q ≠ 60 → q ≠ 61 → s1 q = s q := fun q b d e f g => by show up (up (up (up (up s 58 _ _) 59 _ _) 60 _ _) 61 _ _) 56 2 _ q = _; rw [up_cell b, up_cell g, up_cell f, up_cell e, up_cell d]
        have s0 : ∀ j, j ≠ 2 → s1 56 j = s 56 j := fun j a => by show up (up (up (up (up s 58 _ _) 59 _ _) 60 _ _) 61 _ _) 56 2 _ 56 j = _; rw [up_slot a, up_cell (by omega), up_cell (by omega), up_cell (by omega), up_cell (by omega)]
        obtain ⟨t, f1, f2, f3⟩ := rr_changes s1
        have tq : ∀ q, q ≠ 56 → q ≠ 58 → q ≠ 59 → q ≠ 60 → q ≠ 61 → q ≠ 81 → q ≠ 83 → t q = s q := fun q a b d e f g w => by rw [f2 q g w, sq q a b d e f]
        have t0 : ∀ j, j ≠ 2 → t 56 j = s 56 j := fun j a => by rw [f2 56 (by omega) (by omega), s0 j a]
        have t58 : t 58 = upd (s 58) T.1 a1 := by rw [f2 58 (by omega) (by omega)]; rfl
        have t59 : t 59 = upd (s 59) T.1 a2 := by rw [f2 59 (by omega) (by omega)]; rfl
        have t60 : t 60 = upd (s 60) T.1 a3 := by rw [f2 60 (by omega) (by omega)]; rfl
        have t61 : t 61 = upd (s 61) T.1 a4 := by rw [f2 61 (by omega) (by omega)]; rfl
        have t2 : t 56 2 = iI ((T.1 + 1 : Nat) : Int) := by rw [f2 56 (by omega) (by omega)]; rfl
        have hrt : RT_ (addT T a1 a2 a3 a4) n t := by
          obtain ⟨r1, r2, r3, r4⟩ := h2.1
          refine ⟨⟨t2, fun i hi => ?_⟩, by rw [t0 3 (by omega)]; exact r2, r3.of (fun q _ _ => tq q (by omega) (by omega) (by omega) (by omega) (by omega) (by omega) (by omega)) (t0 17 (by omega)), fun y p1 hy _ hp1 => ?_⟩
          · rw [t58, t59, t60, t61]
            show upd (s 58) T.1 a1 i = upd (T.2.1 0) T.1 a1 i ∧ upd (s 59) T.1 a2 i = upd (T.2.1 1) T.1 a2 i ∧ upd (s 60) T.1 a3 i = upd (T.2.1 2) T.1 a3 i ∧ upd (s 61) T.1 a4 i = upd (T.2.1 3) T.1 a4 i
            by_cases e : i = T.1
            · rw [e, upd_eq, upd_eq, upd_eq, upd_eq, upd_eq, upd_eq, upd_eq, upd_eq]
              exact ⟨rfl, rfl, rfl, rfl⟩
            · rw [upd_ne e, upd_ne e, upd_ne e, upd_ne e, upd_ne e, upd_ne e, upd_ne e, upd_ne e]
              exact r1.2 i hi
          · have hy2 := (hV.1.sz hy).2
            have := f3 (4 * y + p1) (by omega)
            exact ⟨Or.inl this.1, Or.inl this.2⟩
        refine ⟨t, ?_, ⟨V1, ⟨hrt, ?_, ?_⟩, by rw [t0 4 (by omega), t0 6 (by omega), t0 7 (by omega), t0 8 (by omega), t0 9 (by omega)]; exact h3, by rw [tq 85 (by omega) (by omega) (by omega) (by omega) (by omega) (by omega) (by omega), tq 86 (by omega) (by omega) (by omega) (by omega) (by omega) (by omega) (by omega), tq 87 (by omega) (by omega) (by omega) (by omega) (by omega) (by omega) (by omega), tq 88 (by omega) (by omega) (by omega) (by omega) (by omega) (by omega) (by omega)]; exact h4, ?_, by rw [tq 94 (by omega) (by omega) (by omega) (by omega) (by omega) (by omega) (by omega)]; exact h6, by rw [t0 68 (by omega)]; exact h7, by rw [t0 69 (by omega), t0 70 (by omega), t0 71 (by omega), t0 72 (by omega), t0 73 (by omega)]; exact h8, by rw [t0 17 (by omega)]; exact h9⟩, fun q hq => tq q (by omega) (by omega) (by omega) (by omega) (by omega) (by omega) (by omega)⟩
        · unfold f_X12_law
          refine e_if_f (by rw [e2]; simp (disch := omega) only [Int.toNat_natCast, iI_lt, iI_le, iI_eq, iI_add, iI_sub, iI_mul, iI_neg, iI_clamp, inb_ii, z_8]; omega) ?_
          refine e_bdp (l1 s) ?_
          rw [if_pos q1]
          refine e_if_f (by decide) ?_
          refine e_bdp (l2 s) ?_
          rw [if_pos q2]
          refine e_if_f (by decide) ?_
          refine e_bdp (l3 s) ?_
          rw [if_pos q3]
          refine e_if_f (by decide) ?_
          refine e_bdp (l4 s) ?_
          rw [if_pos q4]
          refine e_if_f (by decide) ?_
          rw [e2, cl0]
          refine e_gd gi ?_
          refine e_lts ?_
          rw [up_cell (k := 58) (q := 56) (by omega), e2, cl0]
          refine e_gd gi ?_
          refine e_lts ?_
          rw [up_cell (k := 59) (q := 56) (by omega), up_cell (k := 58) (q := 56) (by omega), e2, cl0]
          refine e_gd gi ?_
          refine e_lts ?_
          rw [up_cell (k := 60) (q := 56) (by omega), up_cell (k := 59) (q := 56) (by omega), up_cell (k := 58) (q := 56) (by omega), e2, cl0]
          refine e_gd gi ?_
          refine e_lts ?_
          rw [up_cell (k := 61) (q := 56) (by omega), up_cell (k := 60) (q := 56) (by omega), up_cell (k := 59) (q := 56) (by omega), up_cell (k := 58) (q := 56) (by omega), e2, nx_s]
          refine e_lts ?_
          refine e_bd f1 ?_
          rw [t2, pr_s]
        · have := h2.2.1
          unfold RKD at this ⊢
          rw [tq 63 (by omega) (by omega) (by omega) (by omega) (by omega) (by omega) (by omega), tq 64 (by omega) (by omega) (by omega) (by omega) (by omega) (by omega) (by omega)]
          exact this
        · have := h2.2.2
          unfold RTR at this ⊢
          rw [t0 5 (by omega), tq 62 (by omega) (by omega) (by omega) (by omega) (by omega) (by omega) (by omega)]
          exact this
        · unfold TPR at h5 ⊢
          rw [t0 1 (by omega), tq 57 (by omega) (by omega) (by omega) (by omega) (by omega) (by omega) (by omega)]
          exact h5
    · refine out_no (-1) (fun s h => ?_) (fun s h => ?_)
      · unfold f_X11_law
        refine e_bdp (w1 s) ?_
        refine e_jn ?_
        refine e_jn ?_
        by_cases q1 : 0 ≤ a1.toInt ∧ a1.toInt ≤ 9
        · rw [if_pos q1]
          refine e_if_f (by decide) ?_
          refine e_bdp (w2 s) ?_
          by_cases q2 : 0 ≤ a2.toInt ∧ a2.toInt ≤ 255
          · rw [if_pos q2]
            refine e_if_f (by decide) ?_
            refine e_bdp (w3 s) ?_
            by_cases q3 : 0 ≤ a3.toInt ∧ a3.toInt ≤ 255
            · rw [if_pos q3]
              refine e_if_f (by decide) ?_
              refine e_bdp (w4 s) ?_
              rw [if_neg (fun q4 => q ⟨q1, q2, q3, q4⟩)]
              refine e_if_t rfl ?_
              exact e_if_t rfl rfl
            · rw [if_neg q3]
              refine e_if_t rfl ?_
              exact e_if_t rfl rfl
          · rw [if_neg q2]
            refine e_if_t rfl ?_
            exact e_if_t rfl rfl
        · rw [if_neg q1]
          refine e_if_t rfl ?_
          exact e_if_t rfl rfl
      · unfold f_X12_law
        refine e_if_f (by rw [h.2.1.1.1.1]; simp (disch := omega) only [Int.toNat_natCast, iI_lt, iI_le, iI_eq, iI_add, iI_sub, iI_mul, iI_neg, iI_clamp, inb_ii, z_8]; omega) ?_
        refine e_bdp (l1 s) ?_
        by_cases q1 : 0 ≤ a1.toInt ∧ a1.toInt ≤ 9
        · rw [if_pos q1]
          refine e_if_f (by decide) ?_
          refine e_bdp (l2 s) ?_
          by_cases q2 : 0 ≤ a2.toInt ∧ a2.toInt ≤ 255
          · rw [if_pos q2]
            refine e_if_f (by decide) ?_
            refine e_bdp (l3 s) ?_
            by_cases q3 : 0 ≤ a3.toInt ∧ a3.toInt ≤ 255
            · rw [if_pos q3]
              refine e_if_f (by decide) ?_
              refine e_bdp (l4 s) ?_
              rw [if_neg (fun q4 => q ⟨q1, q2, q3, q4⟩)]
              exact e_if_t rfl rfl
            · rw [if_neg q3]
              exact e_if_t rfl rfl
          · rw [if_neg q2]
            exact e_if_t rfl rfl
        · rw [if_neg q1]
          exact e_if_t rfl rfl
theorem out_fits (a1 a2 : Int32) (hV : JV T kd tl n c tn x p X k kf x2 p2 X2 k2 z b) : OUT (f_X11_fits a1 a2) (f_X12_fits a1 a2) T kd tl n c tn x p dy X k en kf x2 p2 dy2 X2 k2 z b d cl ed := by
  have W := hV.1
  have ho := hV.2.2.2.2.2.1
  by_cases q : fitsIn z a1 a2
  · have V1 : JV T kd tl n c tn x p X k kf x2 p2 X2 k2 0 b := ⟨hV.1, hV.2.1, hV.2.2.1, hV.2.2.2.1, hV.2.2.2.2.1, ⟨by omega, fun i hi => by omega⟩, hV.2.2.2.2.2.2⟩
    refine ⟨T, kd, tl, n, c, tn, x, p, dy, X, k, en, kf, x2, p2, dy2, X2, k2, 0, b, d, cl, ed, by omega, ansFt T n d b a1 a2, fun s h => ?_, fun s h => ?_⟩
    · have e := (cc_fits W hV.2.1.1 ho a1 a2 h.2.1 h.2.2.2.2.2.1.1 h.2.2.2.2.2.2.2.1 h.2.2.2.2.2.2.2.2.1).2 q
      obtain ⟨g1, g2, g3, g4, g5⟩ := h.w (t := up s 1 1 0) (fun q a b => up_cell (by omega)) (by rw [up_cell (by omega)])
      obtain ⟨h1, h2, h3, h4, h5, h6, h7, h8, h9, h10, h11, h12⟩ := h
      exact ⟨_, e, ⟨V1, g1, g2, g3, g4, by rw [up_cell (by omega)]; exact h6, by rw [up_cell (by omega)]; exact h7, ⟨up_at _ _ _ _, fun i hi => by omega⟩, by rw [up_cell (by omega)]; exact h9, by rw [up_cell (by omega)]; exact h10, by rw [up_cell (by omega)]; exact h11, g5⟩, fun q hq => up_cell (by omega)⟩
    · obtain ⟨t, e1, e2, e3⟩ := (cr_fits W ho a1 a2 h.2.1 h.2.2.2.2.1 h.2.2.2.2.2.1).2 q
      obtain ⟨h1, h2, h3, h4, h5, h6, h7, h8, h9⟩ := h
      have ks : ∀ j, j < 40 ∨ 50 < j → j ≠ 1 → t 56 j = s 56 j := fun j a b => by rw [e2.sl a, up_slot b]
      have kq : ∀ q, q ≠ 56 → (q < 78 ∨ 84 < q) → t q = s q := fun q a b => by rw [e2.1 q a b, up_cell a]
      exact ⟨t, e1, ⟨V1, e3, by rw [ks 4 (by omega) (by omega), ks 6 (by omega) (by omega), ks 7 (by omega) (by omega), ks 8 (by omega) (by omega), ks 9 (by omega) (by omega)]; exact h3, by rw [kq 85 (by omega) (by omega), kq 86 (by omega) (by omega), kq 87 (by omega) (by omega), kq 88 (by omega) (by omega)]; exact h4, ⟨by rw [e2.sl (by omega), up_at]; rfl, fun i hi => by omega⟩, by rw [kq 94 (by omega) (by omega)]; exact h6, by rw [ks 68 (by omega) (by omega)]; exact h7, by rw [ks 69 (by omega) (by omega), ks 70 (by omega) (by omega), ks 71 (by omega) (by omega), ks 72 (by omega) (by omega), ks 73 (by omega) (by omega)]; exact h8, by rw [ks 17 (by omega) (by omega)]; exact h9⟩, fun q hq => kq q (by omega) (by omega)⟩
  · refine out_no (-1) (fun s h => ?_) (fun s h => ?_)
    · exact (cc_fits W hV.2.1.1 ho a1 a2 h.2.1 h.2.2.2.2.2.1.1 h.2.2.2.2.2.2.2.1 h.2.2.2.2.2.2.2.2.1).1 q
    · exact (cr_fits W ho a1 a2 h.2.1 h.2.2.2.2.1 h.2.2.2.2.2.1).1 q
