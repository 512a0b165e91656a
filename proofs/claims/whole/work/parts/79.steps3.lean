/-! length, kind, law -/
variable {T : TW} {kd tl tn : Nat → Nat} {n c x p dy X k x2 p2 dy2 X2 k2 z cl : Nat} {en : Nat → Nat → Int32} {kf : Bool} {b : Nat → Nat} {d : Nat → Int32} {ed : Nat} {s t u : SS}
theorem ed_new {v : Int32} (h1 : v.toInt ≤ (ed : Int)) (h2 : ed < 1000000) : ∀ w : Int32, w = iI ((ed + 1 : Nat) : Int) → v.toInt ≤ w.toInt ∧ (v = w → False) := by
  intro w hw
  rw [hw, iI_toInt (by omega)]
  refine ⟨by omega, fun e => ?_⟩
  rw [e, iI_toInt (by omega)] at h1
  omega
theorem MEM.new {T1 : TW} {kd1 tl1 tn1 : Nat → Nat} {c1 : Nat} (h : MEM T kd tl c tn s) (h0 : s 0 15 = iI ed) (he : ed < 1000000) (e0 : t 0 15 = iI ((ed + 1 : Nat) : Int)) (e41 : t 41 8 = s 41 8) : MEM T1 kd1 tl1 c1 tn1 t := by
  have h1 := h.1
  rw [h0, iI_toInt (by omega)] at h1
  have := ed_new h1 he _ e0
  refine ⟨by rw [e41]; exact this.1, fun e => ?_⟩
  rw [e41] at e
  exact absurd e this.2
theorem SMEM.new {T1 : TW} {tn1 : Nat → Nat} {c1 : Nat} (h : SMEM T c tn s) (h0 : s 0 15 = iI ed) (he : ed < 1000000) (e0 : t 0 15 = iI ((ed + 1 : Nat) : Int)) (e46 : t 46 8 = s 46 8) : SMEM T1 c1 tn1 t := by
  have h1 := h.1
  rw [h0, iI_toInt (by omega)] at h1
  have := ed_new h1 he _ e0
  refine ⟨by rw [e46]; exact this.1, fun e => ?_⟩
  rw [e46] at e
  exact absurd e this.2
theorem up_swap {q j i : Nat} {v w : Int32} (h : j ≠ i) : up (up s q j v) q i w = up (up s q i w) q j v := by
  rw [up_def, up_def, up_def, up_def, upr_upr, upr_upr, upr_eq, upr_eq]
  congr 1
  funext a
  by_cases e1 : a = i
  · subst e1
    rw [upd_eq, upd_ne (fun e => h e.symm), upd_eq]
  · by_cases e2 : a = j
    · subst e2
      rw [upd_ne e1, upd_eq, upd_eq]
    · rw [upd_ne e1, upd_ne e2, upd_ne e2, upd_ne e1]
theorem out_length (a1 : Int32) (hV : JV T kd tl n c tn x p X k kf x2 p2 X2 k2 z b) : OUT (f_X11_length a1) (f_X12_length a1) T kd tl n c tn x p dy X k en kf x2 p2 dy2 X2 k2 z b d cl ed := by
  have l1 : ∀ s, f_X12_lies (a1.toInt64) 1 4 s = some (if 1 ≤ a1.toInt ∧ a1.toInt ≤ 4 then 1 else 0) := fun s => by rw [lies_f, i64_toInt]; rfl
  by_cases q : 1 ≤ a1.toInt ∧ a1.toInt ≤ 4
  · have ea := e_lit (a := a1) (k := (a1.toInt.toNat : Nat)) (by omega)
    have hm : 1 ≤ a1.toInt.toNat ∧ a1.toInt.toNat ≤ 4 := by omega
    generalize a1.toInt.toNat = m at ea hm
    have V1 : JV T kd tl m c tn 0 p X k false x2 p2 X2 k2 z b := ⟨hV.1.len hm, ⟨sz_pos hm, vr_0⟩, hV.2.2.1, hV.2.2.2.1, hV.2.2.2.2.1, hV.2.2.2.2.2.1, fun e => absurd e (by decide)⟩
    refine ⟨T, kd, tl, m, c, tn, 0, p, dy, X, k, en, false, x2, p2, dy2, X2, k2, z, b, d, cl, ed, by omega, 1, fun s h => ?_, fun s h => ?_⟩
    · have tq : ∀ q, q ≠ 52 → q ≠ 0 → (up (up s 52 0 (iI (br m))) 0 14 0) q = s q := fun q a b => by rw [up_cell b, up_cell a]
      have t0 : ∀ j, j ≠ 14 → (up (up s 52 0 (iI (br m))) 0 14 0) 0 j = s 0 j := fun j a => by rw [up_slot a, up_cell (by omega)]
      obtain ⟨g1, g2, g3, g4, g5⟩ := h.w (t := up (up s 52 0 (iI (br m))) 0 14 0) (fun q a b => tq q (by omega) (by omega)) (t0 15 (by omega))
      obtain ⟨h1, h2, h3, h4, h5, h6, h7, h8, h9, h10, h11, h12⟩ := h
      refine ⟨up (up s 52 0 (iI (br m))) 0 14 0, ?_, ⟨V1, g1, g2, g3, g4, ?_, by rw [tq 55 (by omega) (by omega)]; exact h7, ?_, by rw [tq 54 (by omega) (by omega)]; exact h9, up_at _ _ _ _, fun e => absurd e (by decide), g5⟩, fun q hq => tq q (by omega) (by omega)⟩
      · unfold f_X11_length
        refine e_if_f (by rw [lt32]; show ¬ a1.toInt < 1; omega) ?_
        refine e_if_t (by rw [le32]; show a1.toInt ≤ 4; omega) ?_
        rw [ea]
        refine e_bdp (rw_bare (by omega)) ?_
        refine e_lts ?_
        exact e_lts rfl
      · rw [up_cell (by omega)]
        exact ⟨up_at _ _ _ _, by rw [up_slot (by omega)]; exact h6.2.1, by rw [up_slot (by omega)]; exact h6.2.2.1, by rw [up_slot (by omega)]; exact h6.2.2.2.1, by rw [up_slot (by omega)]; exact h6.2.2.2.2⟩
      · unfold TPC at h8 ⊢
        rw [tq 1 (by omega) (by omega), tq 2 (by omega) (by omega)]
        exact h8
    · have hs0 : RW_ T kd tl n c tn (up (up s 56 4 0) 56 68 0) := h.2.1.of (fun q _ _ _ _ _ => by rw [up_cell (by omega), up_cell (by omega)]) (fun j hj => by rw [up_slot (by omega), up_slot (by omega)])
      obtain ⟨t, e1, e2, e3, e4⟩ := rw_len_to hs0 hm
      have es : ∀ j, j ≠ 3 → j ≠ 4 → j ≠ 68 → t 56 j = s 56 j := fun j a b d => by rw [e4 j a, up_slot d, up_slot b]
      have eq : ∀ q, q ≠ 81 → q ≠ 83 → q ≠ 56 → t q = s q := fun q a b d => by rw [e3 q a b d, up_cell d, up_cell d]
      have ecm : up (up (up s 56 3 (iI m)) 56 4 0) 56 68 0 = up (up (up s 56 4 0) 56 68 0) 56 3 (iI m) := by
        rw [up_swap (j := 3) (i := 4) (by omega), up_swap (j := 3) (i := 68) (by omega)]
      obtain ⟨h1, h2, h3, h4, h5, h6, h7, h8, h9⟩ := h
      refine ⟨t, ?_, ⟨V1, e2, ?_, by rw [eq 85 (by omega) (by omega) (by omega), eq 86 (by omega) (by omega) (by omega), eq 87 (by omega) (by omega) (by omega), eq 88 (by omega) (by omega) (by omega)]; exact h4, ?_, by rw [eq 94 (by omega) (by omega) (by omega)]; exact h6, by rw [e4 68 (by omega), up_at]; rfl, fun e => absurd e (by decide), by rw [es 17 (by omega) (by omega) (by omega)]; exact h9⟩, fun q hq => eq q (by omega) (by omega) (by omega)⟩
      · unfold f_X12_length
        refine e_bdp (l1 s) ?_
        rw [if_pos q]
        refine e_if_f (by decide) ?_
        rw [ea]
        refine e_lts ?_
        refine e_lts ?_
        refine e_lts ?_
        rw [ecm]
        exact e_bd e1 rfl
      · refine ⟨by rw [e4 4 (by omega), up_slot (by omega), up_at]; rfl, by rw [es 6 (by omega) (by omega) (by omega)]; exact h3.2.1, by rw [es 7 (by omega) (by omega) (by omega)]; exact h3.2.2.1, by rw [es 8 (by omega) (by omega) (by omega)]; exact h3.2.2.2.1, by rw [es 9 (by omega) (by omega) (by omega)]; exact h3.2.2.2.2⟩
      · unfold TPR at h5 ⊢
        rw [es 1 (by omega) (by omega) (by omega), eq 57 (by omega) (by omega) (by omega)]
        exact h5
  · refine out_no 0 (fun s h => ?_) (fun s h => ?_)
    · unfold f_X11_length
      by_cases z1 : a1 < 1
      · exact e_if_t z1 rfl
      · refine e_if_f z1 ?_
        rw [lt32] at z1
        have : ¬ a1.toInt < 1 := z1
        exact e_if_f (by rw [le32]; show ¬ a1.toInt ≤ 4; omega) rfl
    · unfold f_X12_length
      refine e_bdp (l1 s) ?_
      rw [if_neg q]
      exact e_if_t rfl rfl
theorem out_kind (a1 a2 a3 : Int32) (hV : JV T kd tl n c tn x p X k kf x2 p2 X2 k2 z b) (he : ed < 1000000) : OUT (f_X11_kind a1 a2 a3) (f_X12_kind a1 a2 a3) T kd tl n c tn x p dy X k en kf x2 p2 dy2 X2 k2 z b d cl ed := by
  have hT := hV.1.1.1
  have w2 := fun s => within_f a2 4 s
  have l2 : ∀ s, f_X12_lies (a2.toInt64) 0 4 s = some (if 0 ≤ a2.toInt ∧ a2.toInt ≤ 4 then 1 else 0) := fun s => by rw [lies_f, i64_toInt]; rfl
  have t4 : (4 : Int32).toInt = 4 := rfl
  rw [t4] at w2
  have z4 : (a2 = 4) = (a2.toInt = 4) := lit32 4 (by omega) a2
  by_cases q : (0 ≤ a1.toInt ∧ a1.toInt ≤ 3) ∧ (0 ≤ a2.toInt ∧ a2.toInt ≤ 4) ∧ (a2.toInt = 4 → 0 ≤ a3.toInt ∧ a3.toInt ≤ (T.1 : Int) - 1)
  · obtain ⟨q1, q2, q3⟩ := q
    have ea := e_lit (a := a1) (k := (a1.toInt.toNat : Nat)) (by omega)
    have hm : a1.toInt.toNat < 4 := by omega
    have eb := e_lit (a := a2) (k := (a2.toInt.toNat : Nat)) (by omega)
    have hb : a2.toInt.toNat ≤ 4 := by omega
    have eb4 : a2.toInt = 4 ↔ a2.toInt.toNat = 4 := by omega
    have p1 : ∀ s, f_X11_isPerson a1 s = some 1 := fun s => by rw [person_f, if_pos q1]
    have m1 : ∀ s, f_X12_isMaker a1 s = some 1 := fun s => by rw [isMaker_f, if_pos q1]
    generalize hmm : a1.toInt.toNat = m at ea hm
    generalize hkk : a2.toInt.toNat = kk at eb hb eb4
    have K1 : KOK (fun i => if i = m then kk else kd i) (fun i => if i = m then a3.toInt.toNat else tl i) := by
      intro i hi
      show (if i = m then kk else kd i) ≤ 4 ∧ ((if i = m then kk else kd i) = 4 → (if i = m then a3.toInt.toNat else tl i) < 8)
      by_cases e : i = m
      · rw [if_pos e, if_pos e]
        exact ⟨hb, fun w => by have := q3 (eb4.mpr w); omega⟩
      · rw [if_neg e, if_neg e]
        exact hV.1.2.1 i hi
    have V1 : JV T (fun i => if i = m then kk else kd i) (fun i => if i = m then a3.toInt.toNat else tl i) n c tn x p X k kf x2 p2 X2 k2 z b := ⟨⟨hV.1.1, K1, hV.1.2.2⟩, hV.2⟩
    refine ⟨T, (fun i => if i = m then kk else kd i), (fun i => if i = m then a3.toInt.toNat else tl i), n, c, tn, x, p, dy, X, k, en, kf, x2, p2, dy2, X2, k2, z, b, d, cl, ed + 1, by omega, 1, fun s h => ?_, fun s h => ?_⟩
    · obtain ⟨h1, h2, h3, h4, h5, h6, h7, h8, h9, h10, h11, h12⟩ := h
      let t : SS := up (up (up s 36 m a2) 37 m a3) 0 15 (iI ((ed + 1 : Nat) : Int))
      have tq : ∀ q, q ≠ 36 → q ≠ 37 → q ≠ 0 → t q = s q := fun q a b d => by show up (up (up s 36 m a2) 37 m a3) 0 15 _ q = _; rw [up_cell d, up_cell b, up_cell a]
      have t0 : ∀ j, j ≠ 15 → t 0 j = s 0 j := fun j a => by show up (up (up s 36 m a2) 37 m a3) 0 15 _ 0 j = _; rw [up_slot a, up_cell (by omega), up_cell (by omega)]
      have t36 : t 36 = upd (s 36) m a2 := by show up (up (up s 36 m a2) 37 m a3) 0 15 _ 36 = _; rw [up_cell (by omega), up_cell (by omega), up_def, upr_eq]
      have t37 : t 37 = upd (s 37) m a3 := by show up (up (up s 36 m a2) 37 m a3) 0 15 _ 37 = _; rw [up_cell (by omega), up_def, upr_eq, up_cell (by omega)]
      refine ⟨t, ?_, ⟨V1, ⟨h2.1.of3 (fun q a _ => tq q (by omega) (by omega) (by omega)), ?_, ?_⟩, h3.new h5 he (up_at _ _ _ _) (by rw [tq 41 (by omega) (by omega) (by omega)]), h4.new h5 he (up_at _ _ _ _) (by rw [tq 46 (by omega) (by omega) (by omega)]), up_at _ _ _ _, by rw [tq 52 (by omega) (by omega) (by omega)]; exact h6, by rw [tq 55 (by omega) (by omega) (by omega)]; exact h7, ?_, by rw [tq 54 (by omega) (by omega) (by omega)]; exact h9, by rw [t0 14 (by omega)]; exact h10, by rw [tq 53 (by omega) (by omega) (by omega)]; exact h11, by rw [tq 9 (by omega) (by omega) (by omega)]; exact h12⟩, fun q hq => tq q (by omega) (by omega) (by omega)⟩
      · have hset : bd (f_X2_setKind a1 a2 a3 s) (fun (v6 : Int32) (s7 : SS) => lts (up s7 0 15 ((s7 0 15) + 1)) (fun (s8 : SS) => some ((1 : Int32), s8))) = some (1, t) := by
          refine e_bd (v := 0) (t := up (up s 36 m a2) 37 m a3) ?_ ?_
          · unfold f_X2_setKind
            refine e_bdp (p1 s) ?_
            refine e_if_f (by decide) ?_
            rw [ea]
            refine e_gd (by simp (disch := omega) only [Int.toNat_natCast, iI_lt, iI_le, iI_eq, iI_add, iI_sub, iI_mul, iI_neg, iI_clamp, inb_ii]; omega) ?_
            rw [iI_clamp (by omega), Int.toNat_natCast]
            refine e_lts ?_
            refine e_gd (by simp (disch := omega) only [Int.toNat_natCast, iI_lt, iI_le, iI_eq, iI_add, iI_sub, iI_mul, iI_neg, iI_clamp, inb_ii]; omega) ?_
            exact e_lts rfl
          · rw [show (up (up s 36 m a2) 37 m a3) 0 15 = iI ed from h5, nx_s]
            exact e_lts rfl
        unfold f_X11_kind
        refine e_bdp (p1 s) ?_
        refine e_if_f (by decide) ?_
        refine e_bdp (w2 s) ?_
        rw [if_pos q2]
        refine e_if_f (by decide) ?_
        refine e_jn ?_
        by_cases w : a2.toInt = 4
        · refine e_if_t (z4.mpr w) ?_
          refine e_bdp (isLawC_f hT a3 h2.1.2.1.1) ?_
          rw [if_pos (q3 w)]
          exact e_if_f (by decide) hset
        · exact e_if_f (fun w2 => w (z4.mp w2)) hset
      · intro i hi
        rw [t36, t37]
        show upd (s 36) m a2 i = iI ((if i = m then kk else kd i : Nat) : Int) ∧ ((if i = m then kk else kd i) = 4 → upd (s 37) m a3 i = iI ((if i = m then a3.toInt.toNat else tl i : Nat) : Int))
        by_cases e : i = m
        · rw [if_pos e, if_pos e, e, upd_eq, upd_eq]
          exact ⟨eb, fun w => e_lit (by have := q3 (eb4.mpr w); omega)⟩
        · rw [if_neg e, if_neg e, upd_ne e, upd_ne e]
          exact h2.2.1 i hi
      · unfold RTC
        rw [tq 35 (by omega) (by omega) (by omega), tq 38 (by omega) (by omega) (by omega)]
        exact h2.2.2
      · unfold TPC at h8 ⊢
        rw [tq 1 (by omega) (by omega) (by omega), tq 2 (by omega) (by omega) (by omega)]
        exact h8
    · obtain ⟨h1, h2, h3, h4, h5, h6, h7, h8, h9⟩ := h
      let v : Int32 := if a2.toInt = 4 then a3 else 0
      let t : SS := up (up s 63 m a2) 64 m v
      have tq : ∀ q, q ≠ 63 → q ≠ 64 → t q = s q := fun q a b => by show up (up s 63 m a2) 64 m v q = _; rw [up_cell b, up_cell a]
      have t63 : t 63 = upd (s 63) m a2 := by show up (up s 63 m a2) 64 m v 63 = _; rw [up_cell (by omega), up_def, upr_eq]
      have t64 : t 64 = upd (s 64) m v := by show up (up s 63 m a2) 64 m v 64 = _; rw [up_def, upr_eq, up_cell (by omega)]
      have hr : RT_ T n t := by
        obtain ⟨r1, r2, r3, r4⟩ := h2.1
        refine ⟨?_, by rw [tq 56 (by omega) (by omega)]; exact r2, r3.of (fun q _ _ => tq q (by omega) (by omega)) (by rw [tq 56 (by omega) (by omega)]), r4.of (tq 81 (by omega) (by omega)) (tq 82 (by omega) (by omega)) (tq 83 (by omega) (by omega)) (tq 84 (by omega) (by omega))⟩
        unfold RTB at r1 ⊢
        rw [tq 56 (by omega) (by omega), tq 58 (by omega) (by omega), tq 59 (by omega) (by omega), tq 60 (by omega) (by omega), tq 61 (by omega) (by omega)]
        exact r1
      refine ⟨t, ?_, ⟨V1, ⟨hr, ?_, ?_⟩, by rw [tq 56 (by omega) (by omega)]; exact h3, by rw [tq 85 (by omega) (by omega), tq 86 (by omega) (by omega), tq 87 (by omega) (by omega), tq 88 (by omega) (by omega)]; exact h4, ?_, by rw [tq 94 (by omega) (by omega)]; exact h6, by rw [tq 56 (by omega) (by omega)]; exact h7, by rw [tq 56 (by omega) (by omega)]; exact h8, by rw [tq 56 (by omega) (by omega)]; exact h9⟩, fun q hq => tq q (by omega) (by omega)⟩
      · have hset : (gd (inb a1 4) (lts (up s 63 (Int32.toNatClampNeg a1) a2) (fun (s6 : SS) => jn (fun (v7 : Int32) => gd (inb a1 4) (lts (up s6 64 (Int32.toNatClampNeg a1) v7) (fun (s9 : SS) => some ((1 : Int32), s9)))) (fun (k8 : Int32 → Res) => if (a2 : Int32) = (4 : Int32) then k8 a3 else k8 0)))) = some (1, t) := by
          rw [ea]
          refine e_gd (by simp (disch := omega) only [Int.toNat_natCast, iI_lt, iI_le, iI_eq, iI_add, iI_sub, iI_mul, iI_neg, iI_clamp, inb_ii]; omega) ?_
          rw [iI_clamp (by omega), Int.toNat_natCast]
          refine e_lts ?_
          refine e_jn ?_
          by_cases w : a2.toInt = 4
          · refine e_if_t (z4.mpr w) ?_
            refine e_gd (by simp (disch := omega) only [Int.toNat_natCast, iI_lt, iI_le, iI_eq, iI_add, iI_sub, iI_mul, iI_neg, iI_clamp, inb_ii]; omega) ?_
            refine e_lts ?_
            show some (1, up (up s 63 m a2) 64 m a3) = some (1, up (up s 63 m a2) 64 m (if a2.toInt = 4 then a3 else 0))
            rw [if_pos w]
          · refine e_if_f (fun w2 => w (z4.mp w2)) ?_
            refine e_gd (by simp (disch := omega) only [Int.toNat_natCast, iI_lt, iI_le, iI_eq, iI_add, iI_sub, iI_mul, iI_neg, iI_clamp, inb_ii]; omega) ?_
            refine e_lts ?_
            show some (1, up (up s 63 m a2) 64 m 0) = some (1, up (up s 63 m a2) 64 m (if a2.toInt = 4 then a3 else 0))
            rw [if_neg w]
        unfold f_X12_kind
        refine e_bdp (m1 s) ?_
        refine e_if_f (by decide) ?_
        refine e_bdp (l2 s) ?_
        rw [if_pos q2]
        refine e_if_f (by decide) ?_
        refine e_jn ?_
        by_cases w : a2.toInt = 4
        · refine e_if_t (z4.mpr w) ?_
          refine e_bdp (isLawR_f hT a3 h2.1.1.1) ?_
          rw [if_pos (q3 w)]
          exact e_if_f (by decide) hset
        · exact e_if_f (fun w2 => w (z4.mp w2)) hset
      · intro i hi
        rw [t63, t64]
        show upd (s 63) m a2 i = iI ((if i = m then kk else kd i : Nat) : Int) ∧ ((if i = m then kk else kd i) = 4 → upd (s 64) m v i = iI ((if i = m then a3.toInt.toNat else tl i : Nat) : Int))
        by_cases e : i = m
        · rw [if_pos e, if_pos e, e, upd_eq, upd_eq]
          refine ⟨eb, fun w => ?_⟩
          show (if a2.toInt = 4 then a3 else 0) = _
          rw [if_pos (eb4.mpr w)]
          exact e_lit (by have := q3 (eb4.mpr w); omega)
        · rw [if_neg e, if_neg e, upd_ne e, upd_ne e]
          exact h2.2.1 i hi
      · unfold RTR
        rw [tq 56 (by omega) (by omega), tq 62 (by omega) (by omega)]
        exact h2.2.2
      · unfold TPR at h5 ⊢
        rw [tq 56 (by omega) (by omega), tq 57 (by omega) (by omega)]
        exact h5
  · refine out_no 0 (fun s h => ?_) (fun s h => ?_)
    · unfold f_X11_kind
      refine e_bdp (person_f a1 s) ?_
      by_cases q1 : 0 ≤ a1.toInt ∧ a1.toInt ≤ 3
      · rw [if_pos q1]
        refine e_if_f (by decide) ?_
        refine e_bdp (w2 s) ?_
        by_cases q2 : 0 ≤ a2.toInt ∧ a2.toInt ≤ 4
        · rw [if_pos q2]
          refine e_if_f (by decide) ?_
          refine e_jn ?_
          have w : a2.toInt = 4 ∧ ¬ (0 ≤ a3.toInt ∧ a3.toInt ≤ (T.1 : Int) - 1) := by
            by_cases w : a2.toInt = 4
            · exact ⟨w, fun w2 => q ⟨q1, q2, fun _ => w2⟩⟩
            · exact absurd ⟨q1, q2, fun w2 => absurd w2 w⟩ q
          refine e_if_t (z4.mpr w.1) ?_
          refine e_bdp (isLawC_f hT a3 h.2.1.1.2.1.1) ?_
          rw [if_neg w.2]
          exact e_if_t rfl rfl
        · rw [if_neg q2]
          exact e_if_t rfl rfl
      · rw [if_neg q1]
        exact e_if_t rfl rfl
    · unfold f_X12_kind
      refine e_bdp (isMaker_f a1 s) ?_
      by_cases q1 : 0 ≤ a1.toInt ∧ a1.toInt ≤ 3
      · rw [if_pos q1]
        refine e_if_f (by decide) ?_
        refine e_bdp (l2 s) ?_
        by_cases q2 : 0 ≤ a2.toInt ∧ a2.toInt ≤ 4
        · rw [if_pos q2]
          refine e_if_f (by decide) ?_
          refine e_jn ?_
          have w : a2.toInt = 4 ∧ ¬ (0 ≤ a3.toInt ∧ a3.toInt ≤ (T.1 : Int) - 1) := by
            by_cases w : a2.toInt = 4
            · exact ⟨w, fun w2 => q ⟨q1, q2, fun _ => w2⟩⟩
            · exact absurd ⟨q1, q2, fun w2 => absurd w2 w⟩ q
          refine e_if_t (z4.mpr w.1) ?_
          refine e_bdp (isLawR_f hT a3 h.2.1.1.1.1) ?_
          rw [if_neg w.2]
          exact e_if_t rfl rfl
        · rw [if_neg q2]
          exact e_if_t rfl rfl
      · rw [if_neg q1]
        exact e_if_t rfl rfl
