/-! the class's rows come out of listAll -/
variable {s t u : SS}
def RWE (n x : Nat) (s : SS) : Prop := s 4 (br n + x) = iI n ∧ s 5 (br n + x) = iI (mny x) ∧ s 6 (br n + x) = stn x ∧ s 7 (br n + x) = iI (old x) ∧ s 8 (br n + x) = iI ((br n + (8 * cut n x + 1) : Nat) : Int)
def DW (w : Nat) (s t : SS) : Prop := (∀ q, q < 4 ∨ 8 < q → t q = s q) ∧ ∀ q j, j ≠ w → t q j = s q j
theorem lts_eq {a b : SS} {F : SS → Res} {r : Res} (h : a = b) (k : F b = r) : lts a F = r := by
  subst h
  exact k
theorem DW.rf (w : Nat) (s : SS) : DW w s s := ⟨fun _ _ => rfl, fun _ _ _ => rfl⟩
theorem DW.tr {w : Nat} (h : DW w s t) (g : DW w t u) : DW w s u := ⟨fun q a => (g.1 q a).trans (h.1 q a), fun q j a => (g.2 q j a).trans (h.2 q j a)⟩
theorem DW.uu {w k : Nat} {v : Int32} (h : 4 ≤ k ∧ k ≤ 8) : DW w s (up s k w v) := ⟨fun q a => up_cell (by omega), fun q j a => by
  by_cases e : q = k
  · subst e; exact up_slot a
  · rw [up_cell e]⟩
theorem RWE.dw {n x w : Nat} (h : RWE n x s) (g : DW w s t) (hw : br n + x ≠ w) : RWE n x t := by
  unfold RWE at h ⊢
  rw [g.2 4 _ hw, g.2 5 _ hw, g.2 6 _ hw, g.2 7 _ hw, g.2 8 _ hw]
  exact h
theorem sh_p : ∀ n : Nat, n < 5 → 1 ≤ n → ∀ k : Nat, k < 10 → (iI (k : Int)) <<< (((3 : Int32) * (iI (n : Int) - 1)) &&& 31) = iI ((k * p8 (n - 1) : Nat) : Int) := by decide +kernel
theorem fall_le {n y : Nat} (hn : 1 ≤ n ∧ n ≤ 4) (hm : mny y = n) : (old y + 1) * p8 (n - 1) ≤ y := by
  by_cases h0 : y < 1
  · rw [mny_0 h0] at hm; omega
  · by_cases h1 : y < 9
    · rw [mny_1 (by omega)] at hm
      subst hm
      rw [old_1 (by omega)]
      show (y - 1 + 1) * 1 ≤ y
      omega
    · by_cases h2 : y < 73
      · rw [mny_2 (by omega)] at hm
        subst hm
        rw [old_2 (by omega)]
        show ((y - 9) / 8 + 1) * 8 ≤ y
        omega
      · by_cases h3 : y < 585
        · rw [mny_3 (by omega)] at hm
          subst hm
          rw [old_3 (by omega)]
          show ((y - 73) / 64 + 1) * 64 ≤ y
          omega
        · rw [mny_4 (by omega)] at hm
          subst hm
          rw [old_4 (by omega)]
          show ((y - 585) / 512 + 1) * 512 ≤ y
          omega
theorem la_fin {n y w : Nat} (hn : 1 ≤ n ∧ n ≤ 4) (hy : y < szR n) (hw : w = br n + y) (K : SS → Res) (h5 : s 5 w = iI (mny y)) (h7 : s 7 w = iI (old y)) : (gd (inb (iI (w : Int)) 5348) (jn (fun (v12 : Int32) => gd (inb (iI (w : Int)) 5348) (lts (up s 8 w ((iI (br n : Int) + (((iI (w : Int) - iI (br n : Int)) - v12) * 8)) + 1)) (fun (s14 : SS) => K s14))) (fun (k13 : Int32 → Res) => if (s 5 w : Int32) = (iI (n : Int) : Int32) then gd (inb (iI (w : Int)) 5348) (k13 (((s 7 w) + 1) <<< ((3 * (iI (n : Int) - 1)) &&& 31))) else k13 0))) = K (up s 8 w (iI ((br n + (8 * cut n y + 1) : Nat) : Int))) := by
  have hb := sz_lt hn hy
  have gw : inb (iI (w : Int)) 5348 := by simp (disch := omega) only [Int.toNat_natCast, iI_lt, iI_le, iI_eq, iI_add, iI_sub, iI_mul, iI_neg, iI_clamp, inb_ii]; omega
  have ml := mny_le y
  have fin : ∀ f : Nat, f ≤ y → (iI (br n : Int) + (((iI (w : Int) - iI (br n : Int)) - iI (f : Int)) * 8)) + 1 = iI ((br n + (8 * (y - f) + 1) : Nat) : Int) := by
    intro f hf
    rw [show (8 : Int32) = iI 8 from rfl, show (1 : Int32) = iI 1 from rfl, iI_sub, iI_sub, iI_mul, iI_add, iI_add]
    congr 1
    omega
  refine e_gd gw ?_
  refine e_jn ?_
  by_cases q : mny y = n
  · refine e_if_t (by rw [h5, q]) ?_
    refine e_gd gw ?_
    refine e_gd gw ?_
    have ol := (old_lt hb.2).1
    have o2 := fall_le hn q
    rw [h7, nx_s, sh_p n (by omega) hn.1 (old y + 1) (by omega), fin _ o2, show cut n y = y - (old y + 1) * p8 (n - 1) from if_pos q]
    exact e_lts rfl
  · refine e_if_f (by rw [h5, iI_eq (by omega) (by omega)]; omega) ?_
    refine e_gd gw ?_
    rw [show (0 : Int32) = iI ((0 : Nat) : Int) from rfl, fin 0 (Nat.zero_le _), show cut n y = y from if_neg q, Nat.sub_zero]
    exact e_lts rfl
theorem la_lp {n : Nat} (hn : 1 ≤ n ∧ n ≤ 4) : ∀ (m N y : Nat) (s : SS), y + m = szR n → m < N → (∀ x, x < y → RWE n x s) → (∀ x, y ≤ x → x < szR n → s 5 (br n + x) = 0 ∧ s 6 (br n + x) = 0) → ∃ t, lp_X6_listAll_15 (iI n) (iI (br n)) (iI ((br n + szR n : Nat) : Int)) N (iI ((br n + y : Nat) : Int)) s = some (0, t) ∧ (∀ x, x < szR n → RWE n x t) ∧ (∀ q, q < 4 ∨ 8 < q → t q = s q) ∧ ∀ q j, (j < br n ∨ br n + szR n ≤ j) → t q j = s q j := by
  intro m
  induction m with
  | zero =>
    intro N y s hy hN h1 h2
    obtain ⟨N, rfl⟩ : ∃ M, N = M + 1 := ⟨N - 1, by omega⟩
    refine ⟨s, ?_, fun x hx => h1 x (by omega), fun _ _ => rfl, fun _ _ _ => rfl⟩
    rw [lp_X6_listAll_15, show y = szR n by omega]
    exact e_if_t (by rw [le32]; exact Int.le_refl _) rfl
  | succ m ih =>
    intro N y s hy hN h1 h2
    obtain ⟨N, rfl⟩ : ∃ M, N = M + 1 := ⟨N - 1, by omega⟩
    have hyn : y < szR n := by omega
    have hb := sz_lt hn hyn
    have hbe : br n + szR n ≤ 5348 := by
      obtain rfl | rfl | rfl | rfl : n = 1 ∨ n = 2 ∨ n = 3 ∨ n = 4 := by omega
      all_goals decide
    obtain ⟨w, hw⟩ : ∃ w, w = br n + y := ⟨_, rfl⟩
    have gw : inb (iI (w : Int)) 5348 := by simp (disch := omega) only [Int.toNat_natCast, iI_lt, iI_le, iI_eq, iI_add, iI_sub, iI_mul, iI_neg, iI_clamp, inb_ii]; omega
    have cw : Int32.toNatClampNeg (iI (w : Int)) = w := by rw [iI_clamp (by omega), Int.toNat_natCast]
    obtain ⟨z5, z6⟩ := h2 y (Nat.le_refl _) hyn
    rw [← hw] at z5 z6 ⊢
    let s9 : SS := up (up s 4 w (iI n)) 7 w 8
    have D9 : DW w s s9 := (DW.uu (by omega)).tr (DW.uu (by omega))
    have s95 : s9 5 = s 5 := rfl
    have s96 : s9 6 = s 6 := rfl
    -- what follows once the sizes, the standing laws and the oldest stand
    have go : ∀ s10 : SS, DW w s s10 → s10 4 w = iI n → s10 5 w = iI (mny y) → s10 6 w = stn y → s10 7 w = iI (old y) → ∃ t, (gd (inb (iI (w : Int)) 5348) (jn (fun (v12 : Int32) => gd (inb (iI (w : Int)) 5348) (lts (up s10 8 w ((iI (br n : Int) + (((iI (w : Int) - iI (br n : Int)) - v12) * 8)) + 1)) (fun (s14 : SS) => lp_X6_listAll_15 (iI n) (iI (br n)) (iI ((br n + szR n : Nat) : Int)) N (iI (w : Int) + 1) s14))) (fun (k13 : Int32 → Res) => if (s10 5 w : Int32) = (iI (n : Int) : Int32) then gd (inb (iI (w : Int)) 5348) (k13 (((s10 7 w) + 1) <<< ((3 * (iI (n : Int) - 1)) &&& 31))) else k13 0))) = some (0, t) ∧ (∀ x, x < szR n → RWE n x t) ∧ (∀ q, q < 4 ∨ 8 < q → t q = s q) ∧ ∀ q j, (j < br n ∨ br n + szR n ≤ j) → t q j = s q j := by
      intro s10 hD e4 e5 e6 e7
      have hD2 : DW w s (up s10 8 w (iI ((br n + (8 * cut n y + 1) : Nat) : Int))) := hD.tr (DW.uu (by omega))
      have hE : RWE n y (up s10 8 w (iI ((br n + (8 * cut n y + 1) : Nat) : Int))) := by
        unfold RWE
        rw [← hw]
        exact ⟨by rw [up_cell (by omega)]; exact e4, by rw [up_cell (by omega)]; exact e5, by rw [up_cell (by omega)]; exact e6, by rw [up_cell (by omega)]; exact e7, up_at _ _ _ _⟩
      obtain ⟨t, g1, g2, g3, g4⟩ := ih N (y + 1) (up s10 8 w (iI ((br n + (8 * cut n y + 1) : Nat) : Int))) (by omega) (by omega) (fun x hx => by
        by_cases e : x = y
        · subst e; exact hE
        · exact (h1 x (by omega)).dw hD2 (by omega)) (fun x hx hx2 => by
        have := h2 x (by omega) hx2
        rw [hD2.2 5 _ (by omega), hD2.2 6 _ (by omega)]
        exact this)
      refine ⟨t, ?_, g2, fun q hq => (g3 q hq).trans (hD2.1 q hq), fun q j hj => (g4 q j hj).trans (hD2.2 q j (by omega))⟩
      refine (la_fin hn hyn hw _ e5 e7).trans ?_
      rw [nx_s, show w + 1 = br n + (y + 1) by omega]
      exact g1
    have head : ∀ r, (if (iI (w : Int) : Int32) ≤ (iI (br n : Int) : Int32) then (gd (inb (iI (w : Int)) 5348) (jn (fun (v12 : Int32) => gd (inb (iI (w : Int)) 5348) (lts (up s9 8 w ((iI (br n : Int) + (((iI (w : Int) - iI (br n : Int)) - v12) * 8)) + 1)) (fun (s14 : SS) => lp_X6_listAll_15 (iI n) (iI (br n)) (iI ((br n + szR n : Nat) : Int)) N (iI (w : Int) + 1) s14))) (fun (k13 : Int32 → Res) => if (s9 5 w : Int32) = (iI (n : Int) : Int32) then gd (inb (iI (w : Int)) 5348) (k13 (((s9 7 w) + 1) <<< ((3 * (iI (n : Int) - 1)) &&& 31))) else k13 0))) else gd (¬ (8 : Int32) = 0) (lt (((iI (w : Int) - iI (br n : Int)) - 1) - ((iI (w : Int) - iI (br n : Int)) - 1) / 8 * 8) (fun (v17 : Int32) => gd (¬ (8 : Int32) = 0) (lt (iI (br n : Int) + (((iI (w : Int) - iI (br n : Int)) - 1) / 8)) (fun (v18 : Int32) => bdp (f_X6_sizeOf v18 s9) (fun (v19 : Int32) => gd (inb (iI (w : Int)) 5348) (lts (up s9 5 w (v19 + 1)) (fun (s20 : SS) => bdp (f_X6_standingOn v18 s20) (fun (v21 : Int32) => gd (inb (iI (w : Int)) 5348) (lts (up s20 6 w (v21 ||| (1 <<< (v17 &&& 31)))) (fun (s22 : SS) => jn (fun (v23 : Int32) => gd (inb (iI (w : Int)) 5348) (lts (up s22 7 w v23) (fun (s10 : SS) => (gd (inb (iI (w : Int)) 5348) (jn (fun (v12 : Int32) => gd (inb (iI (w : Int)) 5348) (lts (up s10 8 w ((iI (br n : Int) + (((iI (w : Int) - iI (br n : Int)) - v12) * 8)) + 1)) (fun (s14 : SS) => lp_X6_listAll_15 (iI n) (iI (br n)) (iI ((br n + szR n : Nat) : Int)) N (iI (w : Int) + 1) s14))) (fun (k13 : Int32 → Res) => if (s10 5 w : Int32) = (iI (n : Int) : Int32) then gd (inb (iI (w : Int)) 5348) (k13 (((s10 7 w) + 1) <<< ((3 * (iI (n : Int) - 1)) &&& 31))) else k13 0)))))) (fun (k24 : Int32 → Res) => if (v18 : Int32) = (iI (br n : Int) : Int32) then k24 v17 else bdp (f_X6_oldestOn v18 s22) (fun (v27 : Int32) => k24 v27))))))))))))) = r → lp_X6_listAll_15 (iI n) (iI (br n)) (iI ((br n + szR n : Nat) : Int)) (N + 1) (iI (w : Int)) s = r := by
      intro r hr
      rw [lp_X6_listAll_15, cw]
      refine e_if_f (by simp (disch := omega) only [Int.toNat_natCast, iI_lt, iI_le, iI_eq, iI_add, iI_sub, iI_mul, iI_neg, iI_clamp, inb_ii]; omega) ?_
      refine e_if_f (by rw [show (5348 : Int32) = iI 5348 from rfl]; simp (disch := omega) only [Int.toNat_natCast, iI_lt, iI_le, iI_eq, iI_add, iI_sub, iI_mul, iI_neg, iI_clamp, inb_ii]; omega) ?_
      refine e_gd gw ?_
      refine e_lts ?_
      refine e_gd gw ?_
      refine e_lts ?_
      refine e_jn ?_
      exact hr
    by_cases y0 : y = 0
    · subst y0
      have w0 : w = br n := by omega
      obtain ⟨t, g1, g2⟩ := go s9 D9 (by show up (up s 4 w (iI n)) 7 w 8 4 w = _; rw [up_cell (by omega), up_at]) (by rw [s95, z5, show mny 0 = 0 by decide]; rfl) (by rw [s96, z6, stn_0]) (by rw [show old 0 = 8 by decide]; exact up_at _ _ _ _)
      exact ⟨t, head _ (e_if_t (by rw [w0, le32]; exact Int.le_refl _) g1), g2⟩
    · have hx' : (y - 1) / 8 < y := by omega
      have hx2 : (y - 1) / 8 < szR n := by omega
      have hb2 := sz_lt hn hx2
      obtain ⟨r4, r5, r6, r7, r8⟩ := h1 ((y - 1) / 8) hx'
      have d1 : (iI (w : Int) - iI (br n : Int)) - 1 = iI ((y - 1 : Nat) : Int) := by
        rw [show (1 : Int32) = iI 1 from rfl, iI_sub, iI_sub]
        congr 1
        omega
      have d2 : iI ((y - 1 : Nat) : Int) / 8 = iI (((y - 1) / 8 : Nat) : Int) := by
        rw [z_8, iI_div (by omega) (by omega)]
        congr 1
      have d3 : iI ((y - 1 : Nat) : Int) - iI ((y - 1 : Nat) : Int) / 8 * 8 = iI (((y - 1) % 8 : Nat) : Int) := by
        rw [z_8, iI_rem (by omega) (by omega)]
        congr 1
      have d4 : iI (br n : Int) + iI (((y - 1) / 8 : Nat) : Int) = iI ((br n + (y - 1) / 8 : Nat) : Int) := by
        rw [iI_add]
        congr 1
      obtain ⟨v, hv⟩ : ∃ v, v = br n + (y - 1) / 8 := ⟨_, rfl⟩
      rw [← hv] at r4 r5 r6 r7 r8 d4
      have gv : inb (iI (v : Int)) 5348 := by simp (disch := omega) only [Int.toNat_natCast, iI_lt, iI_le, iI_eq, iI_add, iI_sub, iI_mul, iI_neg, iI_clamp, inb_ii]; omega
      have cv' : Int32.toNatClampNeg (iI (v : Int)) = v := by rw [iI_clamp (by omega), Int.toNat_natCast]
      have c1 : ¬ iI (v : Int) < 0 := by simp (disch := omega) only [Int.toNat_natCast, iI_lt, iI_le, iI_eq, iI_add, iI_sub, iI_mul, iI_neg, iI_clamp, inb_ii, z_0]; omega
      have c2 : iI (v : Int) < (5348 : Int32) := by rw [show (5348 : Int32) = iI 5348 from rfl]; simp (disch := omega) only [Int.toNat_natCast, iI_lt, iI_le, iI_eq, iI_add, iI_sub, iI_mul, iI_neg, iI_clamp, inb_ii]; omega
      let s20 : SS := up s9 5 w (iI ((mny ((y - 1) / 8) + 1 : Nat) : Int))
      let s22 : SS := up s20 6 w (stn ((y - 1) / 8) ||| (1 <<< (iI (((y - 1) % 8 : Nat) : Int) &&& 31)))
      let s25 : SS := up s22 7 w (iI (old y))
      have e19 : f_X6_sizeOf (iI v) s9 = some (iI (mny ((y - 1) / 8))) := by
        unfold f_X6_sizeOf
        refine e_jn ?_
        refine e_if_f c1 ?_
        refine e_if_t c2 ?_
        refine e_gd gv ?_
        rw [cv', s95, r5]
      have e21 : f_X6_standingOn (iI v) s20 = some (stn ((y - 1) / 8)) := by
        unfold f_X6_standingOn
        refine e_jn ?_
        refine e_if_f c1 ?_
        refine e_if_t c2 ?_
        refine e_gd gv ?_
        rw [cv', show s20 6 = s 6 from rfl, r6]
      have e27 : f_X6_oldestOn (iI v) s22 = some (iI (old ((y - 1) / 8))) := by
        unfold f_X6_oldestOn
        refine e_jn ?_
        refine e_if_f c1 ?_
        refine e_if_t c2 ?_
        refine e_gd gv ?_
        rw [cv', show s22 7 = upd (s 7) w 8 from rfl, upd_ne (by omega), r7]
      have D25 : DW w s s25 := ((D9.tr (DW.uu (by omega))).tr (DW.uu (by omega))).tr (DW.uu (by omega))
      obtain ⟨t, g1, g2⟩ := go s25 D25 (by
        show up s22 7 w (iI (old y)) 4 w = _
        rw [up_cell (by omega)]
        show upd (s 4) w (iI n) w = _
        exact upd_eq _ _ _) (by
        rw [mny_up (by omega) hb.2]
        show up s22 7 w (iI (old y)) 5 w = _
        rw [up_cell (by omega)]
        show upd (s 5) w _ w = _
        exact upd_eq _ _ _) (by
        rw [stn_up (by omega) hb.2]
        show up s22 7 w (iI (old y)) 6 w = _
        rw [up_cell (by omega)]
        show upd (s 6) w _ w = _
        exact upd_eq _ _ _) (up_at _ _ _ _)
      refine ⟨t, head _ (e_if_f (by simp (disch := omega) only [Int.toNat_natCast, iI_lt, iI_le, iI_eq, iI_add, iI_sub, iI_mul, iI_neg, iI_clamp, inb_ii]; omega) ?_), g2⟩
      rw [d1, d3, d2, d4]
      refine e_gd (by decide) ?_
      refine e_lt ?_
      refine e_gd (by decide) ?_
      refine e_lt ?_
      refine e_bdp e19 ?_
      refine e_gd gw ?_
      rw [nx_s]
      refine e_lts ?_
      refine e_bdp e21 ?_
      refine e_gd gw ?_
      refine e_lts ?_
      refine e_jn ?_
      have ou := old_up (x := y) (by omega) hb.2
      by_cases v0 : (y - 1) / 8 = 0
      · rw [if_pos v0] at ou
        refine e_if_t (by rw [hv, v0]; rfl) ?_
        refine e_gd gw ?_
        refine lts_eq (b := s25) ?_ g1
        show up s22 7 w _ = up s22 7 w (iI (old y))
        rw [ou]
      · rw [if_neg v0] at ou
        refine e_if_f (by rw [iI_eq (by omega) (by omega)]; omega) ?_
        refine e_bdp e27 ?_
        refine e_gd gw ?_
        rw [← ou]
        exact e_lts g1
