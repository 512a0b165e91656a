/-! keep, undo, count, length, kind -/
variable {T : TW} {kd tl tn : Nat → Nat} {n c x p dy X k x2 p2 dy2 X2 k2 z cl : Nat} {en : Nat → Nat → Int32} {kf : Bool} {b : Nat → Nat} {d : Nat → Int32} {ed : Nat} {s t u : SS}
theorem out_keep : OUT f_X11_keep f_X12_keep T kd tl n c tn x p dy X k en kf x2 p2 dy2 X2 k2 z b d cl ed := by
  refine ⟨T, kd, tl, n, c, tn, x, p, dy, X, k, en, true, x, p, dy, X, k, z, b, d, cl, ed, by omega, iI (mny x), fun s h => ?_, fun s h => ?_⟩
  · obtain ⟨h1, h2, h3, h4, h5, h6, h7, h8, h9, h10, h11, h12⟩ := id h
    obtain ⟨e0, e1, e2, e3, e4⟩ := h6
    let t : SS := up (up (up (up (up (up s 53 0 (wl_ n x)) 53 1 (iI p)) 53 2 (iI dy)) 53 3 (iI X)) 53 4 (iI k)) 0 14 1
    have tq : ∀ q, q ≠ 53 → q ≠ 0 → t q = s q := fun q a b => by show up (up (up (up (up (up s 53 0 _) 53 1 _) 53 2 _) 53 3 _) 53 4 _) 0 14 1 q = _; rw [up_cell b, up_cell a, up_cell a, up_cell a, up_cell a, up_cell a]
    have t0 : ∀ j, j ≠ 14 → t 0 j = s 0 j := fun j a => by show up (up (up (up (up (up s 53 0 _) 53 1 _) 53 2 _) 53 3 _) 53 4 _) 0 14 1 0 j = _; rw [up_slot a, up_cell (by omega), up_cell (by omega), up_cell (by omega), up_cell (by omega), up_cell (by omega)]
    obtain ⟨g1, g2, g3, g4, g5⟩ := h.w (t := t) (fun q a b => tq q (by omega) (by omega)) (t0 15 (by omega))
    refine ⟨t, ?_, ⟨⟨h1.1, h1.2.1, h1.2.2.1, h1.2.2.2.1, h1.2.2.2.2.1, h1.2.2.2.2.2.1, fun _ => ⟨h1.2.1, h1.2.2.1, h1.2.2.2.1, Nat.le_refl k⟩⟩, g1, g2, g3, g4, ?_, ?_, ?_, ?_, up_at _ _ _ _, fun _ => ⟨rfl, rfl, rfl, rfl, rfl⟩, g5⟩, fun q hq => tq q (by omega) (by omega)⟩
    · unfold f_X11_keep
      refine e_bd (v := 0) (t := up (up (up (up (up s 53 0 (wl_ n x)) 53 1 (iI p)) 53 2 (iI dy)) 53 3 (iI X)) 53 4 (iI k)) ?_ ?_
      · unfold f_X8_copyFrom_53_52
        rw [e0]
        refine e_lts ?_
        rw [show (up s 53 0 (wl_ n x)) 52 1 = iI p from e1]
        refine e_lts ?_
        rw [show (up (up s 53 0 (wl_ n x)) 53 1 (iI p)) 52 2 = iI dy from e2]
        refine e_lts ?_
        rw [show (up (up (up s 53 0 (wl_ n x)) 53 1 (iI p)) 53 2 (iI dy)) 52 3 = iI X from e3]
        refine e_lts ?_
        rw [show (up (up (up (up s 53 0 (wl_ n x)) 53 1 (iI p)) 53 2 (iI dy)) 53 3 (iI X)) 52 4 = iI k from e4]
        exact e_lts rfl
      · refine e_lts ?_
        show bdp (f_X6_sizeOf (t 52 0) t) _ = _
        rw [tq 52 (by omega) (by omega), e0]
        exact e_bdp (rw_size g1.1.1 h1.1.2.2.2 h1.2.1.1) rfl
    · rw [tq 52 (by omega) (by omega)]; exact ⟨e0, e1, e2, e3, e4⟩
    · rw [tq 55 (by omega) (by omega)]; exact h7
    · unfold TPC at h8 ⊢
      rw [tq 1 (by omega) (by omega), tq 2 (by omega) (by omega)]
      exact h8
    · rw [tq 54 (by omega) (by omega)]; exact h9
  · obtain ⟨h1, h2, h3, h4, h5, h6, h7, h8, h9⟩ := id h
    obtain ⟨e0, e1, e2, e3, e4⟩ := h3
    let t : SS := up (up (up (up (up (up s 56 68 1) 56 69 (iI x)) 56 70 (iI p)) 56 71 (iI dy)) 56 72 (iI X)) 56 73 (iI k)
    have tq : ∀ q, q ≠ 56 → t q = s q := fun q a => by show up (up (up (up (up (up s 56 68 1) 56 69 _) 56 70 _) 56 71 _) 56 72 _) 56 73 _ q = _; rw [up_cell a, up_cell a, up_cell a, up_cell a, up_cell a, up_cell a]
    have t0 : ∀ j, j < 68 → t 56 j = s 56 j := fun j a => by show up (up (up (up (up (up s 56 68 1) 56 69 _) 56 70 _) 56 71 _) 56 72 _) 56 73 _ 56 j = _; rw [up_slot (by omega), up_slot (by omega), up_slot (by omega), up_slot (by omega), up_slot (by omega), up_slot (by omega)]
    refine ⟨t, ?_, ⟨⟨h1.1, h1.2.1, h1.2.2.1, h1.2.2.2.1, h1.2.2.2.2.1, h1.2.2.2.2.2.1, fun _ => ⟨h1.2.1, h1.2.2.1, h1.2.2.2.1, Nat.le_refl k⟩⟩, h2.of (fun q a _ _ _ _ => tq q (by omega)) (fun j hj => t0 j (by omega)), ?_, ?_, ?_, ?_, rfl, fun _ => ⟨rfl, rfl, rfl, rfl, rfl⟩, ?_⟩, fun q hq => tq q (by omega)⟩
    · unfold f_X12_keep
      refine e_lts ?_
      rw [show (up s 56 68 1) 56 4 = iI x from e0]
      refine e_lts ?_
      rw [show (up (up s 56 68 1) 56 69 (iI x)) 56 6 = iI p from e1]
      refine e_lts ?_
      rw [show (up (up (up s 56 68 1) 56 69 (iI x)) 56 70 (iI p)) 56 7 = iI dy from e2]
      refine e_lts ?_
      rw [show (up (up (up (up s 56 68 1) 56 69 (iI x)) 56 70 (iI p)) 56 71 (iI dy)) 56 8 = iI X from e3]
      refine e_lts ?_
      rw [show (up (up (up (up (up s 56 68 1) 56 69 (iI x)) 56 70 (iI p)) 56 71 (iI dy)) 56 72 (iI X)) 56 9 = iI k from e4]
      refine e_lts ?_
      show bdp (f_X12_manyOf (t 56 4) t) _ = _
      rw [t0 4 (by omega), e0]
      exact e_bdp (rr_many (h1.1.sz h1.2.1.1).2 t) rfl
    · rw [t0 4 (by omega), t0 6 (by omega), t0 7 (by omega), t0 8 (by omega), t0 9 (by omega)]; exact ⟨e0, e1, e2, e3, e4⟩
    · rw [tq 85 (by omega), tq 86 (by omega), tq 87 (by omega), tq 88 (by omega)]; exact h4
    · unfold TPR at h5 ⊢
      rw [t0 1 (by omega), tq 57 (by omega)]
      exact h5
    · rw [tq 94 (by omega)]; exact h6
    · rw [t0 17 (by omega)]; exact h9
theorem out_undo (hV : JV T kd tl n c tn x p X k kf x2 p2 X2 k2 z b) : OUT f_X11_undo f_X12_undo T kd tl n c tn x p dy X k en kf x2 p2 dy2 X2 k2 z b d cl ed := by
  by_cases q : kf = true
  · subst q
    obtain ⟨v1, v2, v3, v4⟩ := hV.2.2.2.2.2.2 rfl
    refine ⟨T, kd, tl, n, c, tn, x2, p2, dy2, X2, k2, en, true, x2, p2, dy2, X2, k2, z, b, d, cl, ed, by omega, 1, fun s h => ?_, fun s h => ?_⟩
    · obtain ⟨h1, h2, h3, h4, h5, h6, h7, h8, h9, h10, h11, h12⟩ := id h
      obtain ⟨e0, e1, e2, e3, e4⟩ := h11 rfl
      let t : SS := up (up (up (up (up s 52 0 (wl_ n x2)) 52 1 (iI p2)) 52 2 (iI dy2)) 52 3 (iI X2)) 52 4 (iI k2)
      have tq : ∀ q, q ≠ 52 → t q = s q := fun q a => by show up (up (up (up (up s 52 0 _) 52 1 _) 52 2 _) 52 3 _) 52 4 _ q = _; rw [up_cell a, up_cell a, up_cell a, up_cell a, up_cell a]
      obtain ⟨g1, g2, g3, g4, g5⟩ := h.w (t := t) (fun q a b => tq q (by omega)) (by rw [tq 0 (by omega)])
      refine ⟨t, ?_, ⟨⟨h1.1, v1, v2, v3, by have := h1.2.2.2.2.1; omega, h1.2.2.2.2.2.1, fun _ => ⟨v1, v2, v3, Nat.le_refl k2⟩⟩, g1, g2, g3, g4, ⟨rfl, rfl, rfl, rfl, rfl⟩, ?_, ?_, ?_, by rw [tq 0 (by omega)]; exact h10, ?_, g5⟩, fun q hq => tq q (by omega)⟩
      · unfold f_X11_undo
        refine e_if_f (by rw [h10, if_pos rfl]; decide) ?_
        refine e_bd (v := 0) (t := t) ?_ rfl
        unfold f_X8_copyFrom_52_53
        rw [e0]
        refine e_lts ?_
        rw [show (up s 52 0 (wl_ n x2)) 53 1 = iI p2 from e1]
        refine e_lts ?_
        rw [show (up (up s 52 0 (wl_ n x2)) 52 1 (iI p2)) 53 2 = iI dy2 from e2]
        refine e_lts ?_
        rw [show (up (up (up s 52 0 (wl_ n x2)) 52 1 (iI p2)) 52 2 (iI dy2)) 53 3 = iI X2 from e3]
        refine e_lts ?_
        rw [show (up (up (up (up s 52 0 (wl_ n x2)) 52 1 (iI p2)) 52 2 (iI dy2)) 52 3 (iI X2)) 53 4 = iI k2 from e4]
        exact e_lts rfl
      · intro i j a b
        rw [tq 55 (by omega)]; exact h7 i j (by omega) b
      · unfold TPC at h8 ⊢
        rw [tq 1 (by omega), tq 2 (by omega)]
        exact h8
      · rw [tq 54 (by omega)]; exact h9
      · intro _
        rw [tq 53 (by omega)]
        exact ⟨e0, e1, e2, e3, e4⟩
    · obtain ⟨h1, h2, h3, h4, h5, h6, h7, h8, h9⟩ := id h
      obtain ⟨e0, e1, e2, e3, e4⟩ := h8 rfl
      let t : SS := up (up (up (up (up s 56 4 (iI x2)) 56 6 (iI p2)) 56 7 (iI dy2)) 56 8 (iI X2)) 56 9 (iI k2)
      have tq : ∀ q, q ≠ 56 → t q = s q := fun q a => by show up (up (up (up (up s 56 4 _) 56 6 _) 56 7 _) 56 8 _) 56 9 _ q = _; rw [up_cell a, up_cell a, up_cell a, up_cell a, up_cell a]
      have t0 : ∀ j, j ≠ 4 → j ≠ 6 → j ≠ 7 → j ≠ 8 → j ≠ 9 → t 56 j = s 56 j := fun j a1 a2 a3 a4 a5 => by show up (up (up (up (up s 56 4 _) 56 6 _) 56 7 _) 56 8 _) 56 9 _ 56 j = _; rw [up_slot a5, up_slot a4, up_slot a3, up_slot a2, up_slot a1]
      refine ⟨t, ?_, ⟨⟨h1.1, v1, v2, v3, by have := h1.2.2.2.2.1; omega, h1.2.2.2.2.2.1, fun _ => ⟨v1, v2, v3, Nat.le_refl k2⟩⟩, h2.of (fun q a _ _ _ _ => tq q (by omega)) (fun j hj => t0 j (by omega) (by omega) (by omega) (by omega) (by omega)), ⟨rfl, rfl, rfl, rfl, rfl⟩, ?_, ?_, ?_, ?_, ?_, ?_⟩, fun q hq => tq q (by omega)⟩
      · unfold f_X12_undo
        refine e_if_f (by rw [h7, if_pos rfl]; decide) ?_
        rw [e0]
        refine e_lts ?_
        rw [show (up s 56 4 (iI x2)) 56 70 = iI p2 from e1]
        refine e_lts ?_
        rw [show (up (up s 56 4 (iI x2)) 56 6 (iI p2)) 56 71 = iI dy2 from e2]
        refine e_lts ?_
        rw [show (up (up (up s 56 4 (iI x2)) 56 6 (iI p2)) 56 7 (iI dy2)) 56 72 = iI X2 from e3]
        refine e_lts ?_
        rw [show (up (up (up (up s 56 4 (iI x2)) 56 6 (iI p2)) 56 7 (iI dy2)) 56 8 (iI X2)) 56 73 = iI k2 from e4]
        exact e_lts rfl
      · intro i a
        rw [tq 85 (by omega), tq 86 (by omega), tq 87 (by omega), tq 88 (by omega)]; exact h4 i (by omega)
      · unfold TPR at h5 ⊢
        rw [t0 1 (by omega) (by omega) (by omega) (by omega) (by omega), tq 57 (by omega)]
        exact h5
      · rw [tq 94 (by omega)]; exact h6
      · rw [t0 68 (by omega) (by omega) (by omega) (by omega) (by omega)]; exact h7
      · intro _
        rw [t0 69 (by omega) (by omega) (by omega) (by omega) (by omega), t0 70 (by omega) (by omega) (by omega) (by omega) (by omega), t0 71 (by omega) (by omega) (by omega) (by omega) (by omega), t0 72 (by omega) (by omega) (by omega) (by omega) (by omega), t0 73 (by omega) (by omega) (by omega) (by omega) (by omega)]
        exact ⟨e0, e1, e2, e3, e4⟩
      · rw [t0 17 (by omega) (by omega) (by omega) (by omega) (by omega)]; exact h9
  · refine out_no 0 (fun s h => ?_) (fun s h => ?_)
    · unfold f_X11_undo
      exact e_if_t (by rw [h.2.2.2.2.2.2.2.2.2.1, if_neg q]) rfl
    · unfold f_X12_undo
      exact e_if_t (by rw [h.2.2.2.2.2.2.1, if_neg q]) rfl
def ansCount (T : TW) (n c : Nat) (tn : Nat → Nat) (x p dy X k z cl : Nat) (a : Int32) : Int32 := if 10 ≤ a.toInt ∧ a.toInt < 10 + (c : Int) then iI (tn (a.toInt - 10).toNat) else if a.toInt = 0 then iI T.1 else if a.toInt = 1 then iI (mny x) else if a.toInt = 2 then iI n else if a.toInt = 3 then iI cl else if a.toInt = 4 then iI z else if a.toInt = 5 then iI X else if a.toInt = 6 then iI dy else if a.toInt = 7 then iI p else if a.toInt = 8 then iI k else -1
theorem sub10i {a : Int32} (h : -2147483638 ≤ a.toInt) : a - 10 = iI (a.toInt - 10) := by
  conv => lhs; rw [iI_of a, z_10, iI_sub]
theorem cc_count (a : Int32) (h : JC T kd tl n c tn x p dy X k en kf x2 p2 dy2 X2 k2 z b d cl ed s) : f_X11_count a s = some (ansCount T n c tn x p dy X k z cl a) := by
  obtain ⟨h1, h2, h3, h4, h5, ⟨e0, e1, e2, e3, e4⟩, h7, h8, h9, h10, h11, h12⟩ := h
  have W := h1.1
  have hc := W.cc
  have hx := h1.2.1.1
  have L : ∀ j : Nat, j ≤ 8 → (a = iI (j : Int)) = (a.toInt = j) := fun j hj => lit32 j (by omega) a
  have z0 : (a = 0) = (a.toInt = 0) := L 0 (by omega)
  have z1 : (a = 1) = (a.toInt = 1) := L 1 (by omega)
  have z2 : (a = 2) = (a.toInt = 2) := L 2 (by omega)
  have z3 : (a = 3) = (a.toInt = 3) := L 3 (by omega)
  have z4 : (a = 4) = (a.toInt = 4) := L 4 (by omega)
  have z5 : (a = 5) = (a.toInt = 5) := L 5 (by omega)
  have z6 : (a = 6) = (a.toInt = 6) := L 6 (by omega)
  have z7 : (a = 7) = (a.toInt = 7) := L 7 (by omega)
  have z8 : (a = 8) = (a.toInt = 8) := L 8 (by omega)
  generalize hA : ansCount T n c tn x p dy X k z cl a = A
  unfold ansCount at hA
  unfold f_X11_count
  by_cases q : a.toInt < 0 ∨ 8 < a.toInt
  · refine e_if_t q ?_
    by_cases q1 : 10 ≤ a.toInt ∧ a.toInt < 14
    · refine e_if_f (by rw [lt32]; show ¬ a.toInt < 10; omega) ?_
      refine e_if_f (by rw [le32]; show ¬ (14 : Int) ≤ a.toInt; omega) ?_
      have ea : a - 10 = iI (((a.toInt - 10).toNat : Nat) : Int) := by
        rw [sub10i (by omega)]
        congr 1
        omega
      have hd : (a.toInt - 10).toNat < 4 := by omega
      rw [ea]
      by_cases q2 : a.toInt < 10 + (c : Int)
      · rw [if_pos ⟨q1.1, q2⟩] at hA
        refine e_bdp (ct_turn W.2.2.1 h2.2.2 (show (a.toInt - 10).toNat < c by omega)) ?_
        rw [hA]
      · rw [if_neg (by omega), if_neg (by omega), if_neg (by omega), if_neg (by omega), if_neg (by omega), if_neg (by omega), if_neg (by omega), if_neg (by omega), if_neg (by omega), if_neg (by omega)] at hA
        refine e_bdp (v := -1) ?_ (by rw [hA])
        unfold f_X2_onTurn
        refine e_if_f (by simp (disch := omega) only [Int.toNat_natCast, iI_lt, iI_le, iI_eq, iI_add, iI_sub, iI_mul, iI_neg, iI_clamp, inb_ii, z_0]; omega) ?_
        exact e_if_t (by rw [h2.2.2.1]; simp (disch := omega) only [Int.toNat_natCast, iI_lt, iI_le, iI_eq, iI_add, iI_sub, iI_mul, iI_neg, iI_clamp, inb_ii]; omega) rfl
    · rw [if_neg (by omega), if_neg (by omega), if_neg (by omega), if_neg (by omega), if_neg (by omega), if_neg (by omega), if_neg (by omega), if_neg (by omega), if_neg (by omega), if_neg (by omega)] at hA
      rw [← hA]
      by_cases y : a < 10
      · exact e_if_t y rfl
      · refine e_if_f y ?_
        rw [lt32] at y
        have y2 : ¬ a.toInt < 10 := y
        exact e_if_t (by rw [le32]; show (14 : Int) ≤ a.toInt; omega) rfl
  · refine e_if_f q ?_
    rw [if_neg (by omega)] at hA
    by_cases y0 : a.toInt = 0
    · rw [if_pos y0] at hA
      refine e_if_t (z0.mpr y0) ?_
      refine e_bdp (v := iI T.1) (by unfold f_X10_lawCount; rw [h2.1.2.1.1]) ?_
      rw [hA]
    · rw [if_neg y0] at hA
      refine e_if_f (fun w => y0 (z0.mp w)) ?_
      by_cases y1 : a.toInt = 1
      · rw [if_pos y1] at hA
        refine e_if_t (z1.mpr y1) ?_
        rw [e0]
        refine e_bdp (rw_size h2.1.1 W.2.2.2 hx) ?_
        rw [hA]
      · rw [if_neg y1] at hA
        refine e_if_f (fun w => y1 (z1.mp w)) ?_
        by_cases y2 : a.toInt = 2
        · rw [if_pos y2] at hA
          refine e_if_t (z2.mpr y2) ?_
          rw [e0]
          refine e_bdp (rw_len h2.1.1 W.2.2.2 hx) ?_
          rw [hA]
        · rw [if_neg y2] at hA
          refine e_if_f (fun w => y2 (z2.mp w)) ?_
          by_cases y3 : a.toInt = 3
          · rw [if_pos y3] at hA
            refine e_if_t (z3.mpr y3) ?_
            refine e_bdp (v := iI cl) (by unfold f_X1_clauseCount_9; rw [h12]) ?_
            rw [hA]
          · rw [if_neg y3] at hA
            refine e_if_f (fun w => y3 (z3.mp w)) ?_
            by_cases y4 : a.toInt = 4
            · rw [if_pos y4] at hA
              refine e_if_t (z4.mpr y4) ?_
              refine e_bdp (v := iI z) (by unfold f_X9_size; rw [h8.1]) ?_
              rw [hA]
            · rw [if_neg y4] at hA
              refine e_if_f (fun w => y4 (z4.mp w)) ?_
              by_cases y5 : a.toInt = 5
              · rw [if_pos y5] at hA
                refine e_if_t (z5.mpr y5) ?_
                rw [e3, hA]
              · rw [if_neg y5] at hA
                refine e_if_f (fun w => y5 (z5.mp w)) ?_
                by_cases y6 : a.toInt = 6
                · rw [if_pos y6] at hA
                  refine e_if_t (z6.mpr y6) ?_
                  rw [e2, hA]
                · rw [if_neg y6] at hA
                  refine e_if_f (fun w => y6 (z6.mp w)) ?_
                  by_cases y7 : a.toInt = 7
                  · rw [if_pos y7] at hA
                    refine e_if_t (z7.mpr y7) ?_
                    rw [e1, hA]
                  · rw [if_neg y7] at hA
                    refine e_if_f (fun w => y7 (z7.mp w)) ?_
                    have y8 : a.toInt = 8 := by omega
                    rw [if_pos y8] at hA
                    refine e_if_t (z8.mpr y8) ?_
                    rw [e4, hA]
theorem cr_count (a : Int32) (h : JR T kd tl n c tn x p dy X k en kf x2 p2 dy2 X2 k2 z b d cl s) : f_X12_count a s = some (ansCount T n c tn x p dy X k z cl a) := by
  obtain ⟨h1, h2, ⟨e0, e1, e2, e3, e4⟩, h4, h5, h6, h7, h8, h9⟩ := h
  have W := h1.1
  have hc := W.cc
  have hx := h1.2.1.1
  have L : ∀ j : Nat, j ≤ 8 → (a = iI (j : Int)) = (a.toInt = j) := fun j hj => lit32 j (by omega) a
  have z0 : (a = 0) = (a.toInt = 0) := L 0 (by omega)
  have z1 : (a = 1) = (a.toInt = 1) := L 1 (by omega)
  have z2 : (a = 2) = (a.toInt = 2) := L 2 (by omega)
  have z3 : (a = 3) = (a.toInt = 3) := L 3 (by omega)
  have z4 : (a = 4) = (a.toInt = 4) := L 4 (by omega)
  have z5 : (a = 5) = (a.toInt = 5) := L 5 (by omega)
  have z6 : (a = 6) = (a.toInt = 6) := L 6 (by omega)
  have z7 : (a = 7) = (a.toInt = 7) := L 7 (by omega)
  have z8 : (a = 8) = (a.toInt = 8) := L 8 (by omega)
  have low := a.le_toInt
  have high := a.toInt_lt
  have l1 : f_X12_lies ((a - 10).toInt64) 0 ((s 56 5 - 1).toInt64) s = some (if 10 ≤ a.toInt ∧ a.toInt < 10 + (c : Int) then 1 else 0) := by
    rw [lies_f, i64_toInt, i64_toInt, h2.2.2.1, z_1, iI_sub, iI_toInt (show -2147483648 ≤ (c : Int) - 1 ∧ (c : Int) - 1 < 2147483648 by omega)]
    by_cases y : -2147483638 ≤ a.toInt
    · rw [sub10i y, iI_toInt (by omega)]
      by_cases y2 : 10 ≤ a.toInt ∧ a.toInt < 10 + (c : Int)
      · rw [if_pos y2, if_pos (by show (0 : Int) ≤ _ ∧ _; omega)]
      · rw [if_neg y2, if_neg (by show ¬ ((0 : Int) ≤ _ ∧ _); omega)]
    · have e : (a - 10).toInt = a.toInt - 10 + 4294967296 := by
        conv => lhs; rw [iI_of a, z_10, iI_sub]
        rw [show iI (a.toInt - 10) = iI (a.toInt - 10 + 4294967296) by
          unfold iI
          apply Int32.toInt_inj.mp
          rw [Int32.toInt_ofInt, Int32.toInt_ofInt]
          show Int.bmod _ 4294967296 = Int.bmod _ 4294967296
          unfold Int.bmod
          have e9 : (a.toInt - 10 + 4294967296) % ((4294967296 : Nat) : Int) = (a.toInt - 10) % ((4294967296 : Nat) : Int) := by omega
          rw [e9], iI_toInt (by omega)]
      rw [e, if_neg (by omega), if_neg (by omega)]
  generalize hA : ansCount T n c tn x p dy X k z cl a = A
  unfold ansCount at hA
  unfold f_X12_count
  by_cases q1 : 10 ≤ a.toInt ∧ a.toInt < 10 + (c : Int)
  · rw [if_pos q1] at l1 hA
    refine e_bdp l1 ?_
    refine e_if_f (by decide) ?_
    have ea : a - 10 = iI (((a.toInt - 10).toNat : Nat) : Int) := by
      rw [sub10i (by omega)]
      congr 1
      omega
    rw [ea]
    refine e_gd (by simp (disch := omega) only [Int.toNat_natCast, iI_lt, iI_le, iI_eq, iI_add, iI_sub, iI_mul, iI_neg, iI_clamp, inb_ii]; omega) ?_
    rw [iI_clamp (by omega), Int.toNat_natCast, h2.2.2.2 _ (by omega), hA]
  · rw [if_neg q1] at l1 hA
    refine e_bdp l1 ?_
    refine e_if_t rfl ?_
    by_cases q : a.toInt < 0 ∨ 8 < a.toInt
    · refine e_if_t q ?_
      rw [if_neg (by omega), if_neg (by omega), if_neg (by omega), if_neg (by omega), if_neg (by omega), if_neg (by omega), if_neg (by omega), if_neg (by omega), if_neg (by omega)] at hA
      rw [hA]
    · refine e_if_f q ?_
      by_cases y0 : a.toInt = 0
      · rw [if_pos y0] at hA
        refine e_if_t (z0.mpr y0) ?_
        rw [h2.1.1.1, hA]
      · rw [if_neg y0] at hA
        refine e_if_f (fun w => y0 (z0.mp w)) ?_
        by_cases y1 : a.toInt = 1
        · rw [if_pos y1] at hA
          refine e_if_t (z1.mpr y1) ?_
          rw [e0]
          refine e_bdp (rr_many (W.sz hx).2 s) ?_
          rw [hA]
        · rw [if_neg y1] at hA
          refine e_if_f (fun w => y1 (z1.mp w)) ?_
          by_cases y2 : a.toInt = 2
          · rw [if_pos y2] at hA
            refine e_if_t (z2.mpr y2) ?_
            rw [h2.1.2.1, hA]
          · rw [if_neg y2] at hA
            refine e_if_f (fun w => y2 (z2.mp w)) ?_
            by_cases y3 : a.toInt = 3
            · rw [if_pos y3] at hA
              refine e_if_t (z3.mpr y3) ?_
              rw [h9, hA]
            · rw [if_neg y3] at hA
              refine e_if_f (fun w => y3 (z3.mp w)) ?_
              by_cases y4 : a.toInt = 4
              · rw [if_pos y4] at hA
                refine e_if_t (z4.mpr y4) ?_
                rw [h5.1, hA]
              · rw [if_neg y4] at hA
                refine e_if_f (fun w => y4 (z4.mp w)) ?_
                by_cases y5 : a.toInt = 5
                · rw [if_pos y5] at hA
                  refine e_if_t (z5.mpr y5) ?_
                  rw [e3, hA]
                · rw [if_neg y5] at hA
                  refine e_if_f (fun w => y5 (z5.mp w)) ?_
                  by_cases y6 : a.toInt = 6
                  · rw [if_pos y6] at hA
                    refine e_if_t (z6.mpr y6) ?_
                    rw [e2, hA]
                  · rw [if_neg y6] at hA
                    refine e_if_f (fun w => y6 (z6.mp w)) ?_
                    by_cases y7 : a.toInt = 7
                    · rw [if_pos y7] at hA
                      refine e_if_t (z7.mpr y7) ?_
                      rw [e1, hA]
                    · rw [if_neg y7] at hA
                      refine e_if_f (fun w => y7 (z7.mp w)) ?_
                      have y8 : a.toInt = 8 := by omega
                      rw [if_pos y8] at hA
                      refine e_if_t (z8.mpr y8) ?_
                      rw [e4, hA]
theorem out_count (a : Int32) : OUT (fun s => pu (f_X11_count a s) s) (fun s => pu (f_X12_count a s) s) T kd tl n c tn x p dy X k en kf x2 p2 dy2 X2 k2 z b d cl ed := by
  refine out_no (ansCount T n c tn x p dy X k z cl a) (fun s h => ?_) (fun s h => ?_)
  · show pu (f_X11_count a s) s = _
    rw [cc_count a h]
    rfl
  · show pu (f_X12_count a s) s = _
    rw [cr_count a h]
    rfl
