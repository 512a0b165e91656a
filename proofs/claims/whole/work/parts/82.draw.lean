/-! make, draw as steps -/
variable {T : TW} {kd tl tn : Nat → Nat} {n c x p dy X k x2 p2 dy2 X2 k2 z cl : Nat} {en : Nat → Nat → Int32} {kf : Bool} {b : Nat → Nat} {d : Nat → Int32} {ed : Nat} {s t u : SS}
theorem cho_T (W : WOK T kd tl n c tn) (hx : x < szR n) (hv : VR T x) {m : Nat} (hm : m < 4) : cho T kd tl n x m = 8 ∨ cho T kd tl n x m < T.1 := by
  have h8 := W.1.1
  have hsz := W.sz hx
  have wn : ∀ v0 k, k ≤ 8 → (wnt T n x m v0 k).1 = 8 ∨ (wnt T n x m v0 k).1 < T.1 := by
    intro v0 k
    induction k with
    | zero => intro _; exact Or.inl rfl
    | succ k ih =>
      intro hk
      unfold wnt
      split
      · rename_i q
        exact Or.inr (may_lt h8 (by omega) q.1)
      · exact ih (by omega)
  unfold cho
  split
  · exact Or.inl rfl
  · split
    · split
      · rename_i q
        have := W.2.1 m hm
        exact Or.inr (may_lt h8 (by have := this.2 (by assumption); omega) q.1)
      · exact Or.inl rfl
    · split
      · exact wn _ 8 (Nat.le_refl 8)
      · split
        · split
          · split
            · rename_i q
              have := (old_lt hsz.2).1
              exact Or.inr (may_lt h8 (by omega) q.2)
            · exact Or.inl rfl
          · split
            · exact wn _ 8 (Nat.le_refl 8)
            · exact Or.inl rfl
        · exact Or.inl rfl
theorem out_make (a1 : Int32) (hV : JV T kd tl n c tn x p X k kf x2 p2 X2 k2 z b) : OUT (f_X11_make a1) (f_X12_make a1) T kd tl n c tn x p dy X k en kf x2 p2 dy2 X2 k2 z b d cl ed := by
  have W := hV.1
  have hn := W.2.2.2
  have hx := hV.2.1
  have hp := hV.2.2.1
  have hc := W.cc
  have hT := W.1.1
  have hm := W.tt hp
  have zt : ∀ s, JC T kd tl n c tn x p dy X k en kf x2 p2 dy2 X2 k2 z b d cl ed s → f_X2_onTurn (s 52 1) s = some (iI (tn p)) := fun s h => by rw [h.2.2.2.2.2.1.2.1]; exact cw_turn W h.2.1 hp
  have z62 : ∀ s, JR T kd tl n c tn x p dy X k en kf x2 p2 dy2 X2 k2 z b d cl s → (inb (s 56 6) 4 ∧ s 62 (Int32.toNatClampNeg (s 56 6)) = iI (tn p)) := fun s h => by
    rw [h.2.2.1.2.1]
    refine ⟨by simp (disch := omega) only [Int.toNat_natCast, iI_lt, iI_le, iI_eq, iI_add, iI_sub, iI_mul, iI_neg, iI_clamp, inb_ii]; omega, ?_⟩
    rw [iI_clamp (by omega), Int.toNat_natCast, h.2.1.2.2.2 p hp]
  by_cases q0 : a1.toInt = -1
  · have e0 : a1 = -1 := (m1_iff a1).mpr q0
    refine ⟨T, kd, tl, n, c, tn, bh n x 8, (p + 1) % c, dy + 1, X, nk k 8, nen en n x dy k (tn p) 8, kf, x2, p2, dy2, X2, k2, z, b, d, cl, ed, by omega, iI (fel n x 8), fun s h => ?_, fun s h => ?_⟩
    · obtain ⟨t, f1, f2⟩ := cc_day (l := 8) h hm (Or.inl rfl)
      refine ⟨t, ?_, f2⟩
      show f_X11_make a1 s = _
      unfold f_X11_make
      refine e_jn ?_
      refine e_if_t e0 ?_
      refine e_bdp (zt s h) ?_
      refine e_jn ?_
      refine e_if_t e0 ?_
      refine e_jn ?_
      refine e_if_t e0 ?_
      exact e_bd f1 rfl
    · obtain ⟨t, f1, f2⟩ := cr_day (l := 8) h hm (Or.inl rfl)
      refine ⟨t, ?_, f2⟩
      show f_X12_make a1 s = _
      unfold f_X12_make
      refine e_jn ?_
      refine e_if_t e0 ?_
      refine e_gd (z62 s h).1 ?_
      rw [(z62 s h).2]
      refine e_lt ?_
      refine e_jn ?_
      refine e_if_t e0 ?_
      refine e_jn ?_
      refine e_if_t e0 ?_
      exact e_bd f1 rfl
  · have e0 : ¬ a1 = -1 := fun w => q0 ((m1_iff a1).mp w)
    by_cases q1 : 0 ≤ a1.toInt ∧ a1.toInt ≤ (T.1 : Int) - 1
    · have ea := e_lit (a := a1) (k := (a1.toInt.toNat : Nat)) (by omega)
      have hl : a1.toInt.toNat < T.1 := by omega
      have il1 : ∀ s, JC T kd tl n c tn x p dy X k en kf x2 p2 dy2 X2 k2 z b d cl ed s → f_X11_isLaw a1 s = some 1 := fun s h => by rw [isLawC_f hT a1 h.2.1.1.2.1.1, if_pos q1]
      have il2 : ∀ s, JR T kd tl n c tn x p dy X k en kf x2 p2 dy2 X2 k2 z b d cl s → f_X12_isLaw a1 s = some 1 := fun s h => by rw [isLawR_f hT a1 h.2.1.1.1.1, if_pos q1]
      generalize a1.toInt.toNat = l at ea hl
      have hb0 := has_bt0 (x := may T n x (tn p)) (l := l) (by omega)
      by_cases q2 : bt (may T n x (tn p)) l = true
      · refine ⟨T, kd, tl, n, c, tn, bh n x l, (p + 1) % c, dy + 1, X, nk k l, nen en n x dy k (tn p) l, kf, x2, p2, dy2, X2, k2, z, b, d, cl, ed, by omega, iI (fel n x l), fun s h => ?_, fun s h => ?_⟩
        · obtain ⟨s1, g1, g2, g3⟩ := cw_may W h.2.1 hx.1 hm
          have ha := h.askQ g2 g3
          obtain ⟨t, f1, f2, f3⟩ := cc_day (l := l) ha.1 hm (Or.inr hl)
          refine ⟨t, ?_, f2, fun q hq => by rw [f3 q hq, ha.2 q hq]⟩
          show f_X11_make a1 s = _
          unfold f_X11_make
          refine e_jn ?_
          refine e_if_f e0 ?_
          refine e_bdp (il1 s h) ?_
          refine e_if_f (by decide) ?_
          refine e_bdp (zt s h) ?_
          refine e_jn ?_
          refine e_if_f e0 ?_
          rw [h.2.2.2.2.2.1.1]
          refine e_bd g1 ?_
          refine e_if_f (by rw [ea]; exact mt hb0.mp (by rw [q2]; decide)) ?_
          refine e_jn ?_
          refine e_if_f e0 ?_
          rw [ea]
          exact e_bd f1 rfl
        · obtain ⟨s1, g1, g2, g3⟩ := rw_may W h.2.1 hx.1 hx.2 hm
          have ha := h.ask g2.z g3
          obtain ⟨t, f1, f2, f3⟩ := cr_day (l := l) ha.1 hm (Or.inr hl)
          refine ⟨t, ?_, f2, fun q hq => by rw [f3 q hq, ha.2 q hq]⟩
          have zh := has_f (v := may T n x (tn p)) (l := l) s1 (by omega)
          rw [if_pos q2] at zh
          show f_X12_make a1 s = _
          unfold f_X12_make
          refine e_jn ?_
          refine e_if_f e0 ?_
          refine e_bdp (il2 s h) ?_
          refine e_if_f (by decide) ?_
          refine e_gd (z62 s h).1 ?_
          rw [(z62 s h).2]
          refine e_lt ?_
          refine e_jn ?_
          refine e_if_f e0 ?_
          rw [h.2.2.1.1]
          refine e_bd g1 ?_
          rw [ea]
          refine e_bdp zh ?_
          refine e_if_f (by decide) ?_
          refine e_jn ?_
          refine e_if_f (by rw [← ea]; exact e0) ?_
          exact e_bd f1 rfl
      · refine ASK.out ⟨-2, fun s h => ?_, fun s h => ?_⟩
        · obtain ⟨s1, g1, g2, g3⟩ := cw_may W h.2.1 hx.1 hm
          have ha := h.askQ g2 g3
          refine ⟨s1, ?_, ha⟩
          unfold f_X11_make
          refine e_jn ?_
          refine e_if_f e0 ?_
          refine e_bdp (il1 s h) ?_
          refine e_if_f (by decide) ?_
          refine e_bdp (zt s h) ?_
          refine e_jn ?_
          refine e_if_f e0 ?_
          rw [h.2.2.2.2.2.1.1]
          refine e_bd g1 ?_
          exact e_if_t (by rw [ea]; exact hb0.mpr (by simpa using q2)) rfl
        · obtain ⟨s1, g1, g2, g3⟩ := rw_may W h.2.1 hx.1 hx.2 hm
          have ha := h.ask g2.z g3
          refine ⟨s1, ?_, ha⟩
          have zh := has_f (v := may T n x (tn p)) (l := l) s1 (by omega)
          rw [if_neg q2] at zh
          unfold f_X12_make
          refine e_jn ?_
          refine e_if_f e0 ?_
          refine e_bdp (il2 s h) ?_
          refine e_if_f (by decide) ?_
          refine e_gd (z62 s h).1 ?_
          rw [(z62 s h).2]
          refine e_lt ?_
          refine e_jn ?_
          refine e_if_f e0 ?_
          rw [h.2.2.1.1]
          refine e_bd g1 ?_
          rw [ea]
          refine e_bdp zh ?_
          exact e_if_t rfl rfl
    · refine out_no (-1) (fun s h => ?_) (fun s h => ?_)
      · unfold f_X11_make
        refine e_jn ?_
        refine e_if_f e0 ?_
        refine e_bdp (isLawC_f hT a1 h.2.1.1.2.1.1) ?_
        rw [if_neg q1]
        exact e_if_t rfl rfl
      · unfold f_X12_make
        refine e_jn ?_
        refine e_if_f e0 ?_
        refine e_bdp (isLawR_f hT a1 h.2.1.1.1.1) ?_
        rw [if_neg q1]
        exact e_if_t rfl rfl
/-- the days that are drawn -/
abbrev DST : Type := (Nat × Nat × Nat × Nat × Nat × (Nat → Nat → Int32)) × Nat
def nxX (X : Nat) : Nat := (25173 * X + 13849) % 65536
def dS1 (T : TW) (kd tl : Nat → Nat) (n c : Nat) (r : DST) : DST := ((bh n r.1.1 (cho T kd tl n r.1.1 (nxX r.1.2.2.2.1 % 4)), (r.1.2.1 + 1) % c, r.1.2.2.1 + 1, nxX r.1.2.2.2.1, nk r.1.2.2.2.2.1 (cho T kd tl n r.1.1 (nxX r.1.2.2.2.1 % 4)), nen r.1.2.2.2.2.2 n r.1.1 r.1.2.2.1 r.1.2.2.2.2.1 (nxX r.1.2.2.2.1 % 4) (cho T kd tl n r.1.1 (nxX r.1.2.2.2.1 % 4))), r.2 + if cho T kd tl n r.1.1 (nxX r.1.2.2.2.1 % 4) = 8 then 0 else 1)
def dSN (T : TW) (kd tl : Nat → Nat) (n c : Nat) (r : DST) : Nat → DST
  | 0 => r
  | i + 1 => dS1 T kd tl n c (dSN T kd tl n c r i)
theorem nxX_lt (X : Nat) : nxX X < 65536 := Nat.mod_lt _ (by omega)
theorem nx_i (hX : X < 65536) : (((25173 : Int32) * iI (X : Int)) + 13849) - ((25173 * iI (X : Int)) + 13849) / 65536 * 65536 = iI (nxX X : Int) := by
  rw [z_25173, iI_mul, z_13849, iI_add, z_65536, iI_rem (by omega) (by omega)]
  unfold nxX
  congr 1
theorem md4 (q : Nat) (hq : q < 65536) : iI (q : Int) - iI (q : Int) / 4 * 4 = iI ((q % 4 : Nat) : Int) := by
  rw [z_4, iI_rem (by omega) (by omega)]
  congr 1
theorem jc_X (h : JC T kd tl n c tn x p dy X k en kf x2 p2 dy2 X2 k2 z b d cl ed s) {m : Nat} (hm : m < 65536) : JC T kd tl n c tn x p dy m k en kf x2 p2 dy2 X2 k2 z b d cl ed (up s 52 3 (iI m)) ∧ KR s (up s 52 3 (iI m)) := by
  obtain ⟨g1, g2, g3, g4, g5⟩ := h.w (t := up s 52 3 (iI m)) (fun q a b => up_cell (by omega)) (by rw [up_cell (by omega)])
  obtain ⟨h1, h2, h3, h4, h5, h6, h7, h8, h9, h10, h11, h12⟩ := h
  refine ⟨⟨⟨h1.1, h1.2.1, h1.2.2.1, hm, h1.2.2.2.2⟩, g1, g2, g3, g4, ?_, by rw [up_cell (by omega)]; exact h7, ?_, by rw [up_cell (by omega)]; exact h9, by rw [up_cell (by omega)]; exact h10, by rw [up_cell (by omega)]; exact h11, g5⟩, fun q hq => up_cell (by omega)⟩
  · exact ⟨by rw [up_slot (by omega)]; exact h6.1, by rw [up_slot (by omega)]; exact h6.2.1, by rw [up_slot (by omega)]; exact h6.2.2.1, up_at _ _ _ _, by rw [up_slot (by omega)]; exact h6.2.2.2.2⟩
  · unfold TPC at h8 ⊢
    rw [up_cell (by omega), up_cell (by omega)]
    exact h8
theorem jr_X (h : JR T kd tl n c tn x p dy X k en kf x2 p2 dy2 X2 k2 z b d cl s) {m : Nat} (hm : m < 65536) : JR T kd tl n c tn x p dy m k en kf x2 p2 dy2 X2 k2 z b d cl (up s 56 8 (iI m)) ∧ KC s (up s 56 8 (iI m)) := by
  obtain ⟨h1, h2, h3, h4, h5, h6, h7, h8, h9⟩ := h
  refine ⟨⟨⟨h1.1, h1.2.1, h1.2.2.1, hm, h1.2.2.2.2⟩, h2.of (fun q _ _ _ _ _ => up_cell (by omega)) (fun j hj => up_slot (by omega)), ?_, by rw [up_cell (by omega), up_cell (by omega), up_cell (by omega), up_cell (by omega)]; exact h4, ?_, by rw [up_cell (by omega)]; exact h6, by rw [up_slot (by omega)]; exact h7, by rw [up_slot (by omega), up_slot (by omega), up_slot (by omega), up_slot (by omega), up_slot (by omega)]; exact h8, by rw [up_slot (by omega)]; exact h9⟩, fun q hq => up_cell (by omega)⟩
  · exact ⟨by rw [up_slot (by omega)]; exact h3.1, by rw [up_slot (by omega)]; exact h3.2.1, by rw [up_slot (by omega)]; exact h3.2.2.1, up_at _ _ _ _, by rw [up_slot (by omega)]; exact h3.2.2.2.2⟩
  · unfold TPR at h5 ⊢
    rw [up_slot (by omega), up_cell (by omega)]
    exact h5
/-- one day drawn -/
theorem cc_draw1 (h : JC T kd tl n c tn x p dy X k en kf x2 p2 dy2 X2 k2 z b d cl ed s) : ∃ s1 t, f_X2_choice (iI ((nxX X % 4 : Nat) : Int)) (wl_ n x) (up s 52 3 (iI (nxX X))) = some (iI (cho T kd tl n x (nxX X % 4)), s1) ∧ f_X11_passDay (iI ((nxX X % 4 : Nat) : Int)) (iI (cho T kd tl n x (nxX X % 4))) s1 = some (iI (fel n x (cho T kd tl n x (nxX X % 4))), t) ∧ JC T kd tl n c tn (bh n x (cho T kd tl n x (nxX X % 4))) ((p + 1) % c) (dy + 1) (nxX X) (nk k (cho T kd tl n x (nxX X % 4))) (nen en n x dy k (nxX X % 4) (cho T kd tl n x (nxX X % 4))) kf x2 p2 dy2 X2 k2 z b d cl ed t ∧ KR s t := by
  have W := h.1.1
  have hx := h.1.2.1
  have hm : nxX X % 4 < 4 := Nat.mod_lt _ (by omega)
  have hX := jc_X h (nxX_lt X)
  obtain ⟨s1, e1, e2, e3⟩ := cw_choice W hX.1.2.1 hx.1 hm
  have ha := hX.1.askQ e2 e3
  obtain ⟨t, f1, f2, f3⟩ := cc_day ha.1 hm (cho_T W hx.1 hx.2 hm)
  exact ⟨s1, t, e1, f1, f2, fun q hq => by rw [f3 q hq, ha.2 q hq, hX.2 q hq]⟩
theorem cr_draw1 (h : JR T kd tl n c tn x p dy X k en kf x2 p2 dy2 X2 k2 z b d cl s) : ∃ s1 t, f_X12_makes (iI x) (iI ((nxX X % 4 : Nat) : Int)) (up s 56 8 (iI (nxX X))) = some (iI (cho T kd tl n x (nxX X % 4)), s1) ∧ s1 56 8 = iI (nxX X) ∧ f_X12_done (iI ((nxX X % 4 : Nat) : Int)) (iI (cho T kd tl n x (nxX X % 4))) s1 = some (iI (fel n x (cho T kd tl n x (nxX X % 4))), t) ∧ JR T kd tl n c tn (bh n x (cho T kd tl n x (nxX X % 4))) ((p + 1) % c) (dy + 1) (nxX X) (nk k (cho T kd tl n x (nxX X % 4))) (nen en n x dy k (nxX X % 4) (cho T kd tl n x (nxX X % 4))) kf x2 p2 dy2 X2 k2 z b d cl t ∧ KC s t := by
  have W := h.1.1
  have hx := h.1.2.1
  have hm : nxX X % 4 < 4 := Nat.mod_lt _ (by omega)
  have hX := jr_X h (nxX_lt X)
  obtain ⟨s1, e1, e2, e3⟩ := rw_makes W hX.1.2.1 hx.1 hx.2 hm
  have ha := hX.1.ask e2.z e3
  obtain ⟨t, f1, f2, f3⟩ := cr_day ha.1 hm (cho_T W hx.1 hx.2 hm)
  exact ⟨s1, t, e1, ha.1.2.2.1.2.2.2.1, f1, f2, fun q hq => by rw [f3 q hq, ha.2 q hq, hX.2 q hq]⟩
theorem dSN_le (T : TW) (kd tl : Nat → Nat) (n c : Nat) (r : DST) : ∀ i, (dSN T kd tl n c r i).2 ≤ r.2 + i := by
  intro i
  induction i with
  | zero => exact Nat.le_refl _
  | succ i ih =>
    show (dSN T kd tl n c r i).2 + (if _ then 0 else 1) ≤ _
    split <;> omega
theorem out_draw (a1 : Int32) (hV : JV T kd tl n c tn x p X k kf x2 p2 X2 k2 z b) : OUT (f_X11_draw a1) (f_X12_draw a1) T kd tl n c tn x p dy X k en kf x2 p2 dy2 X2 k2 z b d cl ed := by
  have l1 : ∀ s, f_X12_lies (a1.toInt64) 1 100 s = some (if 1 ≤ a1.toInt ∧ a1.toInt ≤ 100 then 1 else 0) := fun s => by rw [lies_f, i64_toInt]; rfl
  by_cases q : 1 ≤ a1.toInt ∧ a1.toInt ≤ 100
  · have ea := e_lit (a := a1) (k := (a1.toInt.toNat : Nat)) (by omega)
    have hD : a1.toInt.toNat ≤ 100 := by omega
    generalize a1.toInt.toNat = D at ea hD
    generalize hr : (((x, p, dy, X, k, en), 0) : DST) = r
    have r2 : r.2 = 0 := by rw [← hr]
    refine ⟨T, kd, tl, n, c, tn, (dSN T kd tl n c r D).1.1, (dSN T kd tl n c r D).1.2.1, (dSN T kd tl n c r D).1.2.2.1, (dSN T kd tl n c r D).1.2.2.2.1, (dSN T kd tl n c r D).1.2.2.2.2.1, (dSN T kd tl n c r D).1.2.2.2.2.2, kf, x2, p2, dy2, X2, k2, z, b, d, cl, ed, by omega, iI (dSN T kd tl n c r D).2, fun s h => ?_, fun s h => ?_⟩
    · have lp : ∀ (j N i : Nat) (u : SS), i + j = D → j < N → JC T kd tl n c tn (dSN T kd tl n c r i).1.1 (dSN T kd tl n c r i).1.2.1 (dSN T kd tl n c r i).1.2.2.1 (dSN T kd tl n c r i).1.2.2.2.1 (dSN T kd tl n c r i).1.2.2.2.2.1 (dSN T kd tl n c r i).1.2.2.2.2.2 kf x2 p2 dy2 X2 k2 z b d cl ed u → ∃ t, lp_X11_draw_17 (iI D) N (iI (dSN T kd tl n c r i).2) (iI i) u = some (iI (dSN T kd tl n c r D).2, t) ∧ JC T kd tl n c tn (dSN T kd tl n c r D).1.1 (dSN T kd tl n c r D).1.2.1 (dSN T kd tl n c r D).1.2.2.1 (dSN T kd tl n c r D).1.2.2.2.1 (dSN T kd tl n c r D).1.2.2.2.2.1 (dSN T kd tl n c r D).1.2.2.2.2.2 kf x2 p2 dy2 X2 k2 z b d cl ed t ∧ KR u t := by
        intro j
        induction j with
        | zero =>
          intro N i u hi hN hu
          cases N with
          | zero => omega
          | succ N =>
            obtain rfl : i = D := by omega
            refine ⟨u, ?_, hu, KR.rf u⟩
            rw [lp_X11_draw_17]
            exact e_if_t (by simp (disch := omega) only [Int.toNat_natCast, iI_lt, iI_le, iI_eq, iI_add, iI_sub, iI_mul, iI_neg, iI_clamp, inb_ii]; omega) rfl
        | succ j ih =>
          intro N i u hi hN hu
          cases N with
          | zero => omega
          | succ N =>
            have hle := dSN_le T kd tl n c r i
            obtain ⟨s1, t1, e1, e2, e3, e4⟩ := cc_draw1 hu
            obtain ⟨t, f1, f2, f3⟩ := ih N (i + 1) t1 (by omega) (by omega) e3
            refine ⟨t, ?_, f2, fun q hq => by rw [f3 q hq, e4 q hq]⟩
            have hX := hu.1.2.2.2.1
            have u0 := hu.2.2.2.2.2.1.1
            have u3 := hu.2.2.2.2.2.1.2.2.2.1
            have hmm : nxX (dSN T kd tl n c r i).1.2.2.2.1 % 4 < 4 := Nat.mod_lt _ (by omega)
            have d8 := cho_8 hu.1.1.1.1 hu.1.1.2.1 (n := n) hmm (hu.1.1.sz hu.1.2.1.1).2
            have un : (dSN T kd tl n c r (i + 1)).2 = (dSN T kd tl n c r i).2 + if cho T kd tl n (dSN T kd tl n c r i).1.1 (nxX (dSN T kd tl n c r i).1.2.2.2.1 % 4) = 8 then 0 else 1 := rfl
            rw [lp_X11_draw_17]
            refine e_if_f (by simp (disch := omega) only [Int.toNat_natCast, iI_lt, iI_le, iI_eq, iI_add, iI_sub, iI_mul, iI_neg, iI_clamp, inb_ii]; omega) ?_
            refine e_gd (by decide) ?_
            rw [u3, nx_i hX]
            refine e_lts ?_
            refine e_gd (by decide) ?_
            rw [up_at, md4 _ (nxX_lt _), up_slot (k := 52) (j := 3) (i := 0) (by omega), u0]
            refine e_lt ?_
            refine e_bd e1 ?_
            refine e_jn ?_
            by_cases y : cho T kd tl n (dSN T kd tl n c r i).1.1 (nxX (dSN T kd tl n c r i).1.2.2.2.1 % 4) = 8
            · rw [if_pos y] at un
              refine e_if_t (d8.mpr y) ?_
              refine e_bd e2 ?_
              rw [nx_s]
              have un2 : (dSN T kd tl n c r (i + 1)).2 = (dSN T kd tl n c r i).2 := by omega
              rw [un2] at f1
              exact f1
            · rw [if_neg y] at un
              refine e_if_f (mt d8.mp y) ?_
              refine e_bd e2 ?_
              rw [nx_s, nx_s, ← un]
              exact f1
      obtain ⟨t, f1, f2, f3⟩ := lp D FU 0 s (by omega) (fu_lt (by omega)) (by
        show JC T kd tl n c tn r.1.1 r.1.2.1 r.1.2.2.1 r.1.2.2.2.1 r.1.2.2.2.2.1 r.1.2.2.2.2.2 kf x2 p2 dy2 X2 k2 z b d cl ed s
        rw [← hr]
        exact h)
      refine ⟨t, ?_, f2, f3⟩
      show f_X11_draw a1 s = _
      unfold f_X11_draw
      refine e_if_f (by rw [lt32]; show ¬ a1.toInt < 1; omega) ?_
      refine e_if_t (by rw [le32]; show a1.toInt ≤ 100; omega) ?_
      have e0 : (dSN T kd tl n c r 0).2 = 0 := r2
      rw [e0] at f1
      rw [ea]
      exact f1
    · have lp : ∀ (j N i : Nat) (u : SS), i + j = D → j < N → JR T kd tl n c tn (dSN T kd tl n c r i).1.1 (dSN T kd tl n c r i).1.2.1 (dSN T kd tl n c r i).1.2.2.1 (dSN T kd tl n c r i).1.2.2.2.1 (dSN T kd tl n c r i).1.2.2.2.2.1 (dSN T kd tl n c r i).1.2.2.2.2.2 kf x2 p2 dy2 X2 k2 z b d cl u → ∃ t, lp_X12_draw_18 (iI D) N (iI (dSN T kd tl n c r i).2) (iI i) u = some (iI (dSN T kd tl n c r D).2, t) ∧ JR T kd tl n c tn (dSN T kd tl n c r D).1.1 (dSN T kd tl n c r D).1.2.1 (dSN T kd tl n c r D).1.2.2.1 (dSN T kd tl n c r D).1.2.2.2.1 (dSN T kd tl n c r D).1.2.2.2.2.1 (dSN T kd tl n c r D).1.2.2.2.2.2 kf x2 p2 dy2 X2 k2 z b d cl t ∧ KC u t := by
        intro j
        induction j with
        | zero =>
          intro N i u hi hN hu
          cases N with
          | zero => omega
          | succ N =>
            obtain rfl : i = D := by omega
            refine ⟨u, ?_, hu, KC.rf u⟩
            rw [lp_X12_draw_18]
            exact e_if_t (by simp (disch := omega) only [Int.toNat_natCast, iI_lt, iI_le, iI_eq, iI_add, iI_sub, iI_mul, iI_neg, iI_clamp, inb_ii]; omega) rfl
        | succ j ih =>
          intro N i u hi hN hu
          cases N with
          | zero => omega
          | succ N =>
            have hle := dSN_le T kd tl n c r i
            obtain ⟨s1, t1, e1, e18, e2, e3, e4⟩ := cr_draw1 hu
            obtain ⟨t, f1, f2, f3⟩ := ih N (i + 1) t1 (by omega) (by omega) e3
            refine ⟨t, ?_, f2, fun q hq => by rw [f3 q hq, e4 q hq]⟩
            have hX := hu.1.2.2.2.1
            have u0 := hu.2.2.1.1
            have u3 := hu.2.2.1.2.2.2.1
            have hmm : nxX (dSN T kd tl n c r i).1.2.2.2.1 % 4 < 4 := Nat.mod_lt _ (by omega)
            have hch := hu.1.1.cho hmm hu.1.2.1.1
            have un : (dSN T kd tl n c r (i + 1)).2 = (dSN T kd tl n c r i).2 + if cho T kd tl n (dSN T kd tl n c r i).1.1 (nxX (dSN T kd tl n c r i).1.2.2.2.1 % 4) = 8 then 0 else 1 := rfl
            rw [lp_X12_draw_18]
            refine e_if_f (by simp (disch := omega) only [Int.toNat_natCast, iI_lt, iI_le, iI_eq, iI_add, iI_sub, iI_mul, iI_neg, iI_clamp, inb_ii]; omega) ?_
            refine e_gd (by decide) ?_
            rw [u3, nx_i hX]
            refine e_lts ?_
            refine e_gd (by decide) ?_
            rw [up_at, md4 _ (nxX_lt _), up_slot (k := 56) (j := 8) (i := 4) (by omega), u0]
            refine e_bd e1 ?_
            refine e_jn ?_
            rw [e18, md4 _ (nxX_lt _)]
            by_cases y : cho T kd tl n (dSN T kd tl n c r i).1.1 (nxX (dSN T kd tl n c r i).1.2.2.2.1 % 4) = 8
            · rw [if_pos y] at un
              refine e_if_t (by rw [y]; decide) ?_
              refine e_lt ?_
              refine e_gd (by decide) ?_
              refine e_bd e2 ?_
              rw [nx_s, z_0, iI_add, show ((dSN T kd tl n c r i).2 : Int) + 0 = ((dSN T kd tl n c r (i + 1)).2 : Int) by omega]
              exact f1
            · rw [if_neg y] at un
              refine e_if_f (by simp (disch := omega) only [Int.toNat_natCast, iI_lt, iI_le, iI_eq, iI_add, iI_sub, iI_mul, iI_neg, iI_clamp, inb_ii, z_8]; omega) ?_
              refine e_lt ?_
              refine e_gd (by decide) ?_
              refine e_bd e2 ?_
              rw [nx_s, nx_s, ← un]
              exact f1
      obtain ⟨t, f1, f2, f3⟩ := lp D FU 0 s (by omega) (fu_lt (by omega)) (by
        show JR T kd tl n c tn r.1.1 r.1.2.1 r.1.2.2.1 r.1.2.2.2.1 r.1.2.2.2.2.1 r.1.2.2.2.2.2 kf x2 p2 dy2 X2 k2 z b d cl s
        rw [← hr]
        exact h)
      refine ⟨t, ?_, f2, f3⟩
      show f_X12_draw a1 s = _
      unfold f_X12_draw
      refine e_bdp (l1 s) ?_
      rw [if_pos q]
      refine e_if_f (by decide) ?_
      have e0 : (dSN T kd tl n c r 0).2 = 0 := r2
      rw [e0] at f1
      rw [ea]
      exact f1
  · refine out_no (-1) (fun s h => ?_) (fun s h => ?_)
    · unfold f_X11_draw
      by_cases z1 : a1 < 1
      · exact e_if_t z1 rfl
      · refine e_if_f z1 ?_
        rw [lt32] at z1
        have : ¬ a1.toInt < 1 := z1
        exact e_if_f (by rw [le32]; show ¬ a1.toInt ≤ 100; omega) rfl
    · unfold f_X12_draw
      refine e_bdp (l1 s) ?_
      rw [if_neg q]
      exact e_if_t rfl rfl
