/-! a day that is done: make, draw -/
variable {T : TW} {kd tl tn : Nat → Nat} {n c x p dy X k x2 p2 dy2 X2 k2 z cl : Nat} {en : Nat → Nat → Int32} {kf : Bool} {b : Nat → Nat} {d : Nat → Int32} {ed : Nat} {s t u : SS}
theorem old_lw {y : Nat} (hy : y < 4681) (h : 0 < mny y) : old y = lwA y 0 := by
  have key : ∀ (m y : Nat), mny y = m + 1 → y < 4681 → old y = lwA y 0 := by
    intro m
    induction m with
    | zero =>
      intro y hy hy2
      have h0 : 0 < y := mny_pos (by omega)
      have hu := mny_up h0 hy2
      have hz : (y - 1) / 8 = 0 := by
        by_cases q : (y - 1) / 8 = 0
        · exact q
        · have := mny_up (x := (y - 1) / 8) (by omega) (by omega); omega
      rw [old_up h0 hy2, if_pos hz, ← lwA_last (x := y)]
      congr 1
      omega
    | succ m ih =>
      intro y hy hy2
      have h0 : 0 < y := mny_pos (by omega)
      have hu := mny_up h0 hy2
      have hp : 0 < (y - 1) / 8 := mny_pos (by omega)
      rw [old_up h0 hy2, if_neg (by omega), ih ((y - 1) / 8) (by omega) (by omega), lwA_up h0 hy2 (by omega)]
  exact key (mny y - 1) y (by omega) hy
def fel (n x l : Nat) : Nat := if l ≠ 8 ∧ mny x = n then old x else 8
def nk (k l : Nat) : Nat := if l ≠ 8 ∧ k < 100 then k + 1 else k
def nen (en : Nat → Nat → Int32) (n x dy k m l : Nat) : Nat → Nat → Int32 := fun i j => if l ≠ 8 ∧ i = k ∧ k < 100 then (if j = 0 then iI dy else if j = 1 then iI m else if j = 2 then iI l else iI (fel n x l)) else en i j
theorem jv_day (hV : JV T kd tl n c tn x p X k kf x2 p2 X2 k2 z b) {l : Nat} (hl : l = 8 ∨ l < T.1) : JV T kd tl n c tn (bh n x l) ((p + 1) % c) X (nk k l) kf x2 p2 X2 k2 z b := by
  obtain ⟨h1, h2, h3, h4, h5, h6, h7⟩ := hV
  have h8 := h1.1.1
  refine ⟨h1, ⟨bh_lt h1.2.2.2 h2.1 (by omega), vr_bh h1.2.2.2 h2.1 h2.2 (by omega)⟩, h1.pl _, h4, ?_, h6, fun e => ?_⟩
  · unfold nk; split <;> omega
  · have := h7 e
    refine ⟨this.1, this.2.1, this.2.2.1, ?_⟩
    unfold nk; split <;> omega
theorem cc_day (h : JC T kd tl n c tn x p dy X k en kf x2 p2 dy2 X2 k2 z b d cl ed s) {m l : Nat} (hm : m < 4) (hl : l = 8 ∨ l < T.1) : ∃ t, f_X11_passDay (iI m) (iI l) s = some (iI (fel n x l), t) ∧ JC T kd tl n c tn (bh n x l) ((p + 1) % c) (dy + 1) X (nk k l) (nen en n x dy k m l) kf x2 p2 dy2 X2 k2 z b d cl ed t ∧ KR s t := by
  obtain ⟨h1, h2, h3, h4, h5, ⟨e0, e1, e2, e3, e4⟩, h7, h8, h9, h10, h11, h12⟩ := id h
  have W := h1.1
  have hn := W.2.2.2
  have hx := h1.2.1.1
  have hT := W.1.1
  have hk := h1.2.2.2.2.1
  have hp := h1.2.2.1
  -- the end of the day
  have fin : ∀ (u : SS) (v : Int32), (∀ q, q ≠ 52 → q ≠ 55 → u q = s q) → u 52 0 = wl_ n (bh n x l) → u 52 1 = iI p → u 52 2 = iI dy → u 52 3 = iI X → u 52 4 = iI (nk k l) → (∀ i j, i < nk k l → j < 4 → u 55 (4 * i + j) = nen en n x dy k m l i j) → ∃ t, (lts (up u 52 2 ((u 52 2) + 1)) (fun (s4 : SS) => bdp (f_X2_placeAfter (s4 52 1) s4) (fun (v5 : Int32) => lts (up s4 52 1 v5) (fun (s6 : SS) => some (v, s6))))) = some (v, t) ∧ JC T kd tl n c tn (bh n x l) ((p + 1) % c) (dy + 1) X (nk k l) (nen en n x dy k m l) kf x2 p2 dy2 X2 k2 z b d cl ed t ∧ KR s t := by
    intro u v uq u0 u1 u2 u3 u4 u55
    let t : SS := up (up u 52 2 (iI ((dy + 1 : Nat) : Int))) 52 1 (iI (((p + 1) % c : Nat) : Int))
    have tq : ∀ q, q ≠ 52 → t q = u q := fun q a => by show up (up u 52 2 _) 52 1 _ q = _; rw [up_cell a, up_cell a]
    have t0 : ∀ j, j ≠ 1 → j ≠ 2 → t 52 j = u 52 j := fun j a b => by show up (up u 52 2 _) 52 1 _ 52 j = _; rw [up_slot a, up_slot b]
    obtain ⟨g1, g2, g3, g4, g5⟩ := h.w (t := t) (fun q a b => by rw [tq q (by omega), uq q (by omega) (by omega)]) (by rw [tq 0 (by omega), uq 0 (by omega) (by omega)])
    have hcu : CW T kd tl c tn (up u 52 2 (iI ((dy + 1 : Nat) : Int))) := h2.of3 (fun q a b => by rw [up_cell (by omega), uq q (by omega) (by omega)])
    refine ⟨t, ?_, ⟨jv_day h1 hl, g1, g2, g3, g4, ⟨by rw [t0 0 (by omega) (by omega)]; exact u0, up_at _ _ _ _, rfl, by rw [t0 3 (by omega) (by omega)]; exact u3, by rw [t0 4 (by omega) (by omega)]; exact u4⟩, by rw [tq 55 (by omega)]; exact u55, ?_, by rw [tq 54 (by omega), uq 54 (by omega) (by omega)]; exact h9, by rw [tq 0 (by omega), uq 0 (by omega) (by omega)]; exact h10, by rw [tq 53 (by omega), uq 53 (by omega) (by omega)]; exact h11, g5⟩, fun q hq => by rw [tq q (by omega), uq q (by omega) (by omega)]⟩
    · rw [u2, nx_s]
      refine e_lts ?_
      rw [up_slot (k := 52) (j := 2) (i := 1) (by omega), u1]
      refine e_bdp (cw_after W hcu hp) ?_
      exact e_lts rfl
    · unfold TPC at h8 ⊢
      rw [tq 1 (by omega), tq 2 (by omega), uq 1 (by omega) (by omega), uq 2 (by omega) (by omega)]
      exact h8
  unfold f_X11_passDay
  by_cases q8 : l = 8
  · subst q8
    have ek : nk k 8 = k := by unfold nk; rw [if_neg (by omega)]
    have ee : nen en n x dy k m 8 = en := by funext i j; unfold nen; rw [if_neg (by omega)]
    obtain ⟨t, f1, f2⟩ := fin s 8 (fun _ _ _ => rfl) (by rw [bh_8]; exact e0) e1 e2 e3 (by rw [ek]; exact e4) (by rw [ek, ee]; exact h7)
    refine ⟨t, ?_, f2⟩
    refine e_jn ?_
    refine e_if_t (by decide) ?_
    have : fel n x 8 = 8 := by unfold fel; rw [if_neg (by omega)]
    rw [this]
    exact f1
  · have hl8 : l < T.1 := hl.resolve_left q8
    have hol := old_lt (W.sz hx).2
    have hfe : fel n x l = if mny x = n then old x else 8 := by
      unfold fel
      by_cases y : mny x = n
      · rw [if_pos ⟨q8, y⟩, if_pos y]
      · rw [if_neg (fun w => y w.2), if_neg y]
    have hfl : fel n x l ≤ 8 := by rw [hfe]; split <;> omega
    have zf := rw_full h2.1.1 hn hx
    have zo := rw_old h2.1.1 hn hx
    -- behind the entry
    have main : ∃ t, bd (f_X11_enter (iI m) (iI l) (iI (fel n x l)) s) (fun (v11 : Int32) (s12 : SS) => bdp (f_X6_behind (s12 52 0) (iI l) s12) (fun (v13 : Int32) => lts (up s12 52 0 v13) (fun (s14 : SS) => (lts (up s14 52 2 ((s14 52 2) + 1)) (fun (s4 : SS) => bdp (f_X2_placeAfter (s4 52 1) s4) (fun (v5 : Int32) => lts (up s4 52 1 v5) (fun (s6 : SS) => some (iI (fel n x l), s6)))))))) = some (iI (fel n x l), t) ∧ JC T kd tl n c tn (bh n x l) ((p + 1) % c) (dy + 1) X (nk k l) (nen en n x dy k m l) kf x2 p2 dy2 X2 k2 z b d cl ed t ∧ KR s t := by
      obtain ⟨u, a1, a2, a3, a4, a5⟩ : ∃ u, f_X11_enter (iI m) (iI l) (iI (fel n x l)) s = some (0, u) ∧ (∀ q, q ≠ 52 → q ≠ 55 → u q = s q) ∧ (∀ j, j ≠ 4 → u 52 j = s 52 j) ∧ u 52 4 = iI (nk k l) ∧ ∀ i j, i < nk k l → j < 4 → u 55 (4 * i + j) = nen en n x dy k m l i j := by
        unfold f_X11_enter
        rw [e4]
        by_cases k1 : k < 100
        · have ek : nk k l = k + 1 := by unfold nk; rw [if_pos ⟨q8, k1⟩]
          let u : SS := up (up (up (up (up s 55 (4 * k) (iI dy)) 55 (4 * k + 1) (iI m)) 55 (4 * k + 2) (iI l)) 55 (4 * k + 3) (iI (fel n x l))) 52 4 (iI ((k + 1 : Nat) : Int))
          have m4 : iI (k : Int) * 4 = iI ((4 * k : Nat) : Int) := by rw [z_4, iI_mul]; congr 1; omega
          have p2 : iI ((4 * k : Nat) : Int) + 2 = iI ((4 * k + 2 : Nat) : Int) := by rw [z_2, iI_add]; congr 1
          have p3 : iI ((4 * k : Nat) : Int) + 3 = iI ((4 * k + 3 : Nat) : Int) := by rw [z_3, iI_add]; congr 1
          refine ⟨u, ?_, fun q a b => by show up (up (up (up (up s 55 _ _) 55 _ _) 55 _ _) 55 _ _) 52 4 _ q = _; rw [up_cell a, up_cell b, up_cell b, up_cell b, up_cell b], fun j a => by show up (up (up (up (up s 55 _ _) 55 _ _) 55 _ _) 55 _ _) 52 4 _ 52 j = _; rw [up_slot a, up_cell (by omega), up_cell (by omega), up_cell (by omega), up_cell (by omega)], by rw [ek]; exact up_at _ _ _ _, ?_⟩
          · refine e_if_f (by simp (disch := omega) only [Int.toNat_natCast, iI_lt, iI_le, iI_eq, iI_add, iI_sub, iI_mul, iI_neg, iI_clamp, inb_ii, z_0]; omega) ?_
            refine e_if_t (by simp (disch := omega) only [Int.toNat_natCast, iI_lt, iI_le, iI_eq, iI_add, iI_sub, iI_mul, iI_neg, iI_clamp, inb_ii, z_100]; omega) ?_
            refine e_lt ?_
            rw [m4, e2]
            refine e_gd (by simp (disch := omega) only [Int.toNat_natCast, iI_lt, iI_le, iI_eq, iI_add, iI_sub, iI_mul, iI_neg, iI_clamp, inb_ii]; omega) ?_
            rw [iI_clamp (by omega), Int.toNat_natCast]
            refine e_lts ?_
            rw [nx_s]
            refine e_gd (by simp (disch := omega) only [Int.toNat_natCast, iI_lt, iI_le, iI_eq, iI_add, iI_sub, iI_mul, iI_neg, iI_clamp, inb_ii]; omega) ?_
            rw [iI_clamp (by omega), Int.toNat_natCast]
            refine e_lts ?_
            rw [p2]
            refine e_gd (by simp (disch := omega) only [Int.toNat_natCast, iI_lt, iI_le, iI_eq, iI_add, iI_sub, iI_mul, iI_neg, iI_clamp, inb_ii]; omega) ?_
            rw [iI_clamp (by omega), Int.toNat_natCast]
            refine e_lts ?_
            rw [p3]
            refine e_gd (by simp (disch := omega) only [Int.toNat_natCast, iI_lt, iI_le, iI_eq, iI_add, iI_sub, iI_mul, iI_neg, iI_clamp, inb_ii]; omega) ?_
            rw [iI_clamp (by omega), Int.toNat_natCast]
            refine e_lts ?_
            rw [up_cell (k := 55) (q := 52) (by omega), up_cell (k := 55) (q := 52) (by omega), up_cell (k := 55) (q := 52) (by omega), up_cell (k := 55) (q := 52) (by omega), e4, nx_s]
            exact e_lts rfl
          · intro i j hi hj
            rw [ek] at hi
            show up (up (up (up (up s 55 (4 * k) (iI dy)) 55 (4 * k + 1) (iI m)) 55 (4 * k + 2) (iI l)) 55 (4 * k + 3) (iI (fel n x l))) 52 4 _ 55 (4 * i + j) = _
            rw [up_cell (by omega)]
            unfold nen
            by_cases ei : i = k
            · rw [if_pos ⟨q8, ei, k1⟩, ei]
              obtain rfl | rfl | rfl | rfl : j = 0 ∨ j = 1 ∨ j = 2 ∨ j = 3 := by omega
              · rw [up_slot (by omega), up_slot (by omega), up_slot (by omega)]
                exact up_at _ _ _ _
              · rw [up_slot (by omega), up_slot (by omega)]
                exact up_at _ _ _ _
              · rw [up_slot (by omega)]
                exact up_at _ _ _ _
              · exact up_at _ _ _ _
            · rw [if_neg (fun w => ei w.2.1), up_slot (by omega), up_slot (by omega), up_slot (by omega), up_slot (by omega)]
              exact h7 i j (by omega) hj
        · have ek : nk k l = k := by unfold nk; rw [if_neg (fun w => k1 w.2)]
          refine ⟨s, ?_, fun _ _ _ => rfl, fun _ _ => rfl, by rw [ek]; exact e4, ?_⟩
          · refine e_if_f (by simp (disch := omega) only [Int.toNat_natCast, iI_lt, iI_le, iI_eq, iI_add, iI_sub, iI_mul, iI_neg, iI_clamp, inb_ii, z_0]; omega) ?_
            exact e_if_f (by simp (disch := omega) only [Int.toNat_natCast, iI_lt, iI_le, iI_eq, iI_add, iI_sub, iI_mul, iI_neg, iI_clamp, inb_ii, z_100]; omega) rfl
          · intro i j hi hj
            rw [ek] at hi
            unfold nen
            rw [if_neg (fun w => k1 w.2.2)]
            exact h7 i j hi hj
      have hcu : CW T kd tl c tn u := h2.of3 (fun q a b => a2 q (by omega) (by omega))
      obtain ⟨t, f1, f2⟩ := fin (up u 52 0 (wl_ n (bh n x l))) (iI (fel n x l)) (fun q a b => by rw [up_cell a, a2 q a b]) (up_at _ _ _ _) (by rw [up_slot (by omega), a3 1 (by omega)]; exact e1) (by rw [up_slot (by omega), a3 2 (by omega)]; exact e2) (by rw [up_slot (by omega), a3 3 (by omega)]; exact e3) (by rw [up_slot (by omega)]; exact a4) (by rw [up_cell (by omega)]; exact a5)
      refine ⟨t, ?_, f2⟩
      refine e_bd a1 ?_
      rw [a3 0 (by omega), e0]
      refine e_bdp (cw_behind W hcu hx (by omega)) ?_
      refine e_lts ?_
      exact f1
    obtain ⟨t, f1, f2⟩ := main
    refine ⟨t, ?_, f2⟩
    refine e_jn ?_
    refine e_if_f (by simp (disch := omega) only [Int.toNat_natCast, iI_lt, iI_le, iI_eq, iI_add, iI_sub, iI_mul, iI_neg, iI_clamp, inb_ii, z_8]; omega) ?_
    rw [e0]
    refine e_bdp zf ?_
    refine e_jn ?_
    by_cases y : mny x = n
    · rw [if_pos y]
      refine e_if_f (by decide) ?_
      refine e_bdp zo ?_
      rw [if_pos y] at hfe
      rw [← hfe]
      exact f1
    · rw [if_neg y]
      refine e_if_t rfl ?_
      rw [if_neg y] at hfe
      rw [hfe] at f1 ⊢
      exact f1
theorem cr_day (h : JR T kd tl n c tn x p dy X k en kf x2 p2 dy2 X2 k2 z b d cl s) {m l : Nat} (hm : m < 4) (hl : l = 8 ∨ l < T.1) : ∃ t, f_X12_done (iI m) (iI l) s = some (iI (fel n x l), t) ∧ JR T kd tl n c tn (bh n x l) ((p + 1) % c) (dy + 1) X (nk k l) (nen en n x dy k m l) kf x2 p2 dy2 X2 k2 z b d cl t ∧ KC s t := by
  have W := h.1.1
  have hn := W.2.2.2
  have hx := h.1.2.1.1
  have hT := W.1.1
  have hk := h.1.2.2.2.2.1
  have hp := h.1.2.2.1
  have hc := W.cc
  have hsz := W.sz hx
  have hpm : (p + 1) % c < c := W.pl _
  -- the end of the day
  have fin : ∀ (s0 u : SS) (v : Int32), JR T kd tl n c tn x p dy X k en kf x2 p2 dy2 X2 k2 z b d cl s0 → (∀ q, q ≠ 56 → q ≠ 85 → q ≠ 86 → q ≠ 87 → q ≠ 88 → u q = s0 q) → (∀ j, j ≠ 9 → u 56 j = s0 56 j) → u 56 9 = iI (nk k l) → (∀ i, i < nk k l → u 85 i = nen en n x dy k m l i 0 ∧ u 86 i = nen en n x dy k m l i 1 ∧ u 87 i = nen en n x dy k m l i 2 ∧ u 88 i = nen en n x dy k m l i 3) → ∃ t, bdp (f_X12_behind (u 56 4) (iI l) u) (fun (v6 : Int32) => lts (up u 56 4 v6) (fun (s7 : SS) => lts (up s7 56 7 ((s7 56 7) + 1)) (fun (s8 : SS) => gd (¬ ((s8 56 5) : Int32) = 0) (lts (up s8 56 6 (((s8 56 6) + 1) - ((s8 56 6) + 1) / (s8 56 5) * (s8 56 5))) (fun (s9 : SS) => some (v, s9)))))) = some (v, t) ∧ JR T kd tl n c tn (bh n x l) ((p + 1) % c) (dy + 1) X (nk k l) (nen en n x dy k m l) kf x2 p2 dy2 X2 k2 z b d cl t ∧ KC s0 t := by
    intro s0 u v h0 uq u0 u9 ue
    obtain ⟨h1, h2, ⟨e0, e1, e2, e3, e4⟩, h4, h5, h6, h7, h8, h9⟩ := h0
    let t : SS := up (up (up u 56 4 (iI (bh n x l))) 56 7 (iI ((dy + 1 : Nat) : Int))) 56 6 (iI (((p + 1) % c : Nat) : Int))
    have tq : ∀ q, q ≠ 56 → t q = u q := fun q a => by show up (up (up u 56 4 _) 56 7 _) 56 6 _ q = _; rw [up_cell a, up_cell a, up_cell a]
    have t0 : ∀ j, j ≠ 4 → j ≠ 6 → j ≠ 7 → t 56 j = u 56 j := fun j a b d => by show up (up (up u 56 4 _) 56 7 _) 56 6 _ 56 j = _; rw [up_slot b, up_slot d, up_slot a]
    have hru : RW_ T kd tl n c tn u := h2.of (fun q a b _ _ _ => uq q (by omega) (by omega) (by omega) (by omega) (by omega)) (fun j hj => u0 j (by omega))
    have u5 : u 56 5 = iI c := hru.2.2.1
    have u6 : u 56 6 = iI p := by rw [u0 6 (by omega)]; exact e1
    have u7 : u 56 7 = iI dy := by rw [u0 7 (by omega)]; exact e2
    have u4 : u 56 4 = iI x := by rw [u0 4 (by omega)]; exact e0
    refine ⟨t, ?_, ⟨jv_day h1 hl, hru.of (fun q a _ _ _ _ => tq q (by omega)) (fun j hj => t0 j (by omega) (by omega) (by omega)), ⟨rfl, up_at _ _ _ _, rfl, by rw [t0 8 (by omega) (by omega) (by omega), u0 8 (by omega)]; exact e3, by rw [t0 9 (by omega) (by omega) (by omega)]; exact u9⟩, by rw [tq 85 (by omega), tq 86 (by omega), tq 87 (by omega), tq 88 (by omega)]; exact ue, ?_, by rw [tq 94 (by omega), uq 94 (by omega) (by omega) (by omega) (by omega) (by omega)]; exact h6, by rw [t0 68 (by omega) (by omega) (by omega), u0 68 (by omega)]; exact h7, by rw [t0 69 (by omega) (by omega) (by omega), t0 70 (by omega) (by omega) (by omega), t0 71 (by omega) (by omega) (by omega), t0 72 (by omega) (by omega) (by omega), t0 73 (by omega) (by omega) (by omega), u0 69 (by omega), u0 70 (by omega), u0 71 (by omega), u0 72 (by omega), u0 73 (by omega)]; exact h8, by rw [t0 17 (by omega) (by omega) (by omega), u0 17 (by omega)]; exact h9⟩, fun q hq => by rw [tq q (by omega), uq q (by omega) (by omega) (by omega) (by omega) (by omega)]⟩
    · rw [u4]
      refine e_bdp (rw_bh W hru hx (by omega)) ?_
      refine e_lts ?_
      rw [up_slot (k := 56) (j := 4) (i := 7) (by omega), u7, nx_s]
      refine e_lts ?_
      rw [up_slot (k := 56) (j := 7) (i := 5) (by omega), up_slot (k := 56) (j := 4) (i := 5) (by omega), up_slot (k := 56) (j := 7) (i := 6) (by omega), up_slot (k := 56) (j := 4) (i := 6) (by omega), u5, u6, nx_s, iI_rem (by omega) (by omega), show (((p + 1 : Nat) : Int) % (c : Int)) = (((p + 1) % c : Nat) : Int) by omega]
      refine e_gd (by simp (disch := omega) only [Int.toNat_natCast, iI_lt, iI_le, iI_eq, iI_add, iI_sub, iI_mul, iI_neg, iI_clamp, inb_ii, z_0]; omega) ?_
      exact e_lts rfl
    · unfold TPR at h5 ⊢
      rw [t0 1 (by omega) (by omega) (by omega), tq 57 (by omega), u0 1 (by omega), uq 57 (by omega) (by omega) (by omega) (by omega) (by omega)]
      exact h5
  unfold f_X12_done
  by_cases q8 : l = 8
  · subst q8
    have ek : nk k 8 = k := by unfold nk; rw [if_neg (by omega)]
    have ee : nen en n x dy k m 8 = en := by funext i j; unfold nen; rw [if_neg (by omega)]
    obtain ⟨t, f1, f2⟩ := fin s s 8 h (fun _ _ _ _ _ _ => rfl) (fun _ _ => rfl) (by rw [ek]; exact h.2.2.1.2.2.2.2) (by rw [ek, ee]; exact h.2.2.2.1)
    refine ⟨t, ?_, f2⟩
    have : fel n x 8 = 8 := by unfold fel; rw [if_neg (by omega)]
    rw [this]
    refine e_jn ?_
    refine e_jn ?_
    refine e_if_t (by decide) ?_
    refine e_jn ?_
    refine e_if_t (by decide) ?_
    exact f1
  · have hl8 : l < T.1 := hl.resolve_left q8
    have hol := old_lt hsz.2
    have hfe : fel n x l = if mny x = n then old x else 8 := by
      unfold fel
      by_cases y : mny x = n
      · rw [if_pos ⟨q8, y⟩, if_pos y]
      · rw [if_neg (fun w => y w.2), if_neg y]
    have cf : ¬ (8 : Int32) ≤ iI (l : Int) := by simp (disch := omega) only [Int.toNat_natCast, iI_lt, iI_le, iI_eq, iI_add, iI_sub, iI_mul, iI_neg, iI_clamp, inb_ii, z_8]; omega
    -- the entry
    have main : ∀ s0, JR T kd tl n c tn x p dy X k en kf x2 p2 dy2 X2 k2 z b d cl s0 → ∃ t, jn (fun (s4 : SS) => bdp (f_X12_behind (s4 56 4) (iI l) s4) (fun (v6 : Int32) => lts (up s4 56 4 v6) (fun (s7 : SS) => lts (up s7 56 7 ((s7 56 7) + 1)) (fun (s8 : SS) => gd (¬ ((s8 56 5) : Int32) = 0) (lts (up s8 56 6 (((s8 56 6) + 1) - ((s8 56 6) + 1) / (s8 56 5) * (s8 56 5))) (fun (s9 : SS) => some (iI (fel n x l : Int), s9))))))) (fun (k5 : SS → Res) => if (8 : Int32) ≤ (iI (l : Int) : Int32) then k5 s0 else if (100 : Int32) ≤ (s0 56 9 : Int32) then k5 s0 else gd (inb (s0 56 9) 100) (lts (up s0 85 (Int32.toNatClampNeg (s0 56 9)) (s0 56 7)) (fun (s12 : SS) => gd (inb (s12 56 9) 100) (lts (up s12 86 (Int32.toNatClampNeg (s12 56 9)) (iI (m : Int))) (fun (s13 : SS) => gd (inb (s13 56 9) 100) (lts (up s13 87 (Int32.toNatClampNeg (s13 56 9)) (iI (l : Int))) (fun (s14 : SS) => gd (inb (s14 56 9) 100) (lts (up s14 88 (Int32.toNatClampNeg (s14 56 9)) (iI (fel n x l : Int))) (fun (s15 : SS) => lts (up s15 56 9 ((s15 56 9) + 1)) (fun (s16 : SS) => k5 s16)))))))))) = some (iI (fel n x l : Int), t) ∧ JR T kd tl n c tn (bh n x l) ((p + 1) % c) (dy + 1) X (nk k l) (nen en n x dy k m l) kf x2 p2 dy2 X2 k2 z b d cl t ∧ KC s0 t := by
      intro s0 h0
      obtain ⟨h1, h2, ⟨e0, e1, e2, e3, e4⟩, h4, h5, h6, h7, h8, h9⟩ := id h0
      by_cases k1 : k < 100
      · have ek : nk k l = k + 1 := by unfold nk; rw [if_pos ⟨q8, k1⟩]
        let u : SS := up (up (up (up (up s0 85 k (iI dy)) 86 k (iI m)) 87 k (iI l)) 88 k (iI (fel n x l))) 56 9 (iI ((k + 1 : Nat) : Int))
        obtain ⟨t, f1, f2⟩ := fin s0 u (iI (fel n x l)) h0 (fun q a b d e f => by show up (up (up (up (up s0 85 _ _) 86 _ _) 87 _ _) 88 _ _) 56 9 _ q = _; rw [up_cell a, up_cell f, up_cell e, up_cell d, up_cell b]) (fun j a => by show up (up (up (up (up s0 85 _ _) 86 _ _) 87 _ _) 88 _ _) 56 9 _ 56 j = _; rw [up_slot a, up_cell (by omega), up_cell (by omega), up_cell (by omega), up_cell (by omega)]) (by rw [ek]; exact up_at _ _ _ _) (by
          intro i hi
          rw [ek] at hi
          have u85 : u 85 = upd (s0 85) k (iI dy) := rfl
          have u86 : u 86 = upd (s0 86) k (iI m) := rfl
          have u87 : u 87 = upd (s0 87) k (iI l) := rfl
          have u88 : u 88 = upd (s0 88) k (iI (fel n x l)) := rfl
          rw [u85, u86, u87, u88]
          by_cases ei : i = k
          · have hn2 : ∀ j, nen en n x dy k m l k j = (if j = 0 then iI dy else if j = 1 then iI m else if j = 2 then iI l else iI (fel n x l)) := fun j => if_pos ⟨q8, rfl, k1⟩
            rw [ei, upd_eq, upd_eq, upd_eq, upd_eq, hn2, hn2, hn2, hn2]
            exact ⟨rfl, rfl, rfl, rfl⟩
          · have hn2 : ∀ j, nen en n x dy k m l i j = en i j := fun j => if_neg (fun w => ei w.2.1)
            rw [upd_ne ei, upd_ne ei, upd_ne ei, upd_ne ei, hn2, hn2, hn2, hn2]
            exact h4 i (by omega))
        refine ⟨t, ?_, f2⟩
        have cl0 : Int32.toNatClampNeg (iI (k : Int)) = k := by rw [iI_clamp (by omega), Int.toNat_natCast]
        have gi : inb (iI (k : Int)) 100 := by simp (disch := omega) only [Int.toNat_natCast, iI_lt, iI_le, iI_eq, iI_add, iI_sub, iI_mul, iI_neg, iI_clamp, inb_ii]; omega
        refine e_jn ?_
        refine e_if_f cf ?_
        rw [e4, e2, cl0]
        refine e_if_f (by simp (disch := omega) only [Int.toNat_natCast, iI_lt, iI_le, iI_eq, iI_add, iI_sub, iI_mul, iI_neg, iI_clamp, inb_ii, z_100]; omega) ?_
        refine e_gd gi ?_
        refine e_lts ?_
        rw [up_cell (k := 85) (q := 56) (by omega), e4, cl0]
        refine e_gd gi ?_
        refine e_lts ?_
        rw [up_cell (k := 86) (q := 56) (by omega), up_cell (k := 85) (q := 56) (by omega), e4, cl0]
        refine e_gd gi ?_
        refine e_lts ?_
        rw [up_cell (k := 87) (q := 56) (by omega), up_cell (k := 86) (q := 56) (by omega), up_cell (k := 85) (q := 56) (by omega), e4, cl0]
        refine e_gd gi ?_
        refine e_lts ?_
        rw [up_cell (k := 88) (q := 56) (by omega), up_cell (k := 87) (q := 56) (by omega), up_cell (k := 86) (q := 56) (by omega), up_cell (k := 85) (q := 56) (by omega), e4, nx_s]
        refine e_lts ?_
        exact f1
      · have ek : nk k l = k := by unfold nk; rw [if_neg (fun w => k1 w.2)]
        have ee : nen en n x dy k m l = en := by funext i j; unfold nen; rw [if_neg (fun w => k1 w.2.2)]
        obtain ⟨t, f1, f2⟩ := fin s0 s0 (iI (fel n x l)) h0 (fun _ _ _ _ _ _ => rfl) (fun _ _ => rfl) (by rw [ek]; exact e4) (by rw [ek, ee]; exact h4)
        refine ⟨t, ?_, f2⟩
        refine e_jn ?_
        refine e_if_f cf ?_
        refine e_if_t (by rw [e4]; simp (disch := omega) only [Int.toNat_natCast, iI_lt, iI_le, iI_eq, iI_add, iI_sub, iI_mul, iI_neg, iI_clamp, inb_ii, z_100]; omega) ?_
        exact f1
    obtain ⟨h1, h2, ⟨e0, e1, e2, e3, e4⟩, h4, h5, h6, h7, h8, h9⟩ := id h
    have dm : (iI (mny x : Int) = s 56 3) = (mny x = n) := by
      have := mny_le x
      rw [h2.1.2.1]
      exact propext ((iI_eq (by omega) (by omega)).trans (by omega))
    by_cases y : mny x = n
    · rw [if_pos y] at hfe
      obtain ⟨s1, g1, g2, g3, g4⟩ := rw_lay W h2 hsz.2
      have ha := h.ask g2.z g3
      obtain ⟨t, f1, f2, f3⟩ := main s1 ha.1
      refine ⟨t, ?_, f2, fun q hq => by rw [f3 q hq, ha.2 q hq]⟩
      refine e_jn ?_
      refine e_jn ?_
      refine e_if_f cf ?_
      rw [e0]
      refine e_bdp (rr_many hsz.2 s) ?_
      refine e_if_t (dm.mpr y) ?_
      refine e_bd (v := iI (fel n x l)) (t := s1) ?_ f1
      unfold f_X12_oldestOf
      refine e_bd g1 ?_
      refine e_if_f (by rw [g4.1]; have := mny_le x; simp (disch := omega) only [Int.toNat_natCast, iI_lt, iI_le, iI_eq, iI_add, iI_sub, iI_mul, iI_neg, iI_clamp, inb_ii, z_0]; omega) ?_
      refine e_gd (by decide) ?_
      rw [hfe, old_lw hsz.2 (by omega)]
      show some (s1 80 0, s1) = _
      rw [g4.2.1 0 (by omega)]
    · rw [if_neg y] at hfe
      obtain ⟨t, f1, f2⟩ := main s h
      refine ⟨t, ?_, f2⟩
      rw [hfe] at f1 ⊢
      refine e_jn ?_
      refine e_jn ?_
      refine e_if_f cf ?_
      rw [e0]
      refine e_bdp (rr_many hsz.2 s) ?_
      refine e_if_f (mt dm.mp y) ?_
      exact f1
