/-! mean: the ring of the class -/
variable {T : TW} {kd tl tn : Nat → Nat} {n c x p : Nat} {s t u : SS}
def qcR (T : TW) (kd tl : Nat → Nat) (n c : Nat) (tn : Nat → Nat) (x p : Nat) (d : Nat) : Nat := 4 * itR T kd tl n c tn x p d + (p + d) % c
theorem it_s (d : Nat) : itR T kd tl n c tn x p (d + 1) = bh n (itR T kd tl n c tn x p d) (cho T kd tl n (itR T kd tl n c tn x p d) (tn ((p + d) % c))) := rfl
theorem qc_lt (W : WOK T kd tl n c tn) (hx : x < szR n) (hv : VR T x) (d : Nat) : qcR T kd tl n c tn x p d < 18724 := by
  have h1 := it_ok (p := p) W hx hv d
  have h2 := W.pl (p + d)
  have h3 := W.cc
  have h4 := (W.sz h1.1).2
  unfold qcR
  omega
theorem cw_goOn (W : WOK T kd tl n c tn) (hx : x < szR n) (hv : VR T x) {d : Nat} (h : CW T kd tl c tn s) (h6 : s 39 6 = wl_ n (itR T kd tl n c tn x p d)) (h7 : s 39 7 = iI (((p + d) % c : Nat) : Int)) : ∃ t : SS, f_X5_goOn s = some (0, t) ∧ CZ 39 39 s t ∧ CW T kd tl c tn t ∧ t 39 6 = wl_ n (itR T kd tl n c tn x p (d + 1)) ∧ t 39 7 = iI (((p + (d + 1)) % c : Nat) : Int) ∧ t 39 5 = s 39 5 ∧ t 39 4 = s 39 4 := by
  have hi := it_ok (p := p) W hx hv d
  have hp := W.pl (p + d)
  obtain ⟨t, e1, e2, e3⟩ := cw_choice W h hi.1 (W.tt hp)
  have hl := W.cho (W.tt hp) hi.1
  have q39 : t 39 = s 39 := e2.1 39 (by omega) (by omega) (by omega) (by omega) (by omega)
  have zb := cw_behind W e3 hi.1 hl
  refine ⟨up (up t 39 6 (wl_ n (itR T kd tl n c tn x p (d + 1)))) 39 7 (iI (((p + (d + 1)) % c : Nat) : Int)), ?_, e2.z.tr ((CZ.up1 (by omega)).tr (CZ.up1 (by omega))), (e3.up1 (by omega)).up1 (by omega), ?_, up_at _ _ _ _, ?_, ?_⟩
  · unfold f_X5_goOn
    rw [h6, h7]
    refine e_bdp (cw_turn W h hp) ?_
    refine e_bd e1 ?_
    rw [q39, h6]
    refine e_bdp zb ?_
    refine e_lts ?_
    refine e_bdp (v := iI (((p + (d + 1)) % c : Nat) : Int)) ?_ (e_lts rfl)
    rw [up_slot (by omega), q39, h7, ← pl_s]
    exact cw_after W (e3.up1 (by omega)) hp
  · rw [up_slot (by omega), up_at]
  · rw [up_slot (by omega), up_slot (by omega), q39]
  · rw [up_slot (by omega), up_slot (by omega), q39]
theorem cell4 (W : WOK T kd tl n c tn) (hx : x < szR n) (q : Nat) (hq : q < 4) : wl_ n x * 4 + iI q = iI ((4 * br n + (4 * x + q) : Nat) : Int) := by
  unfold wl_
  rw [z_4, iI_mul, iI_add]
  congr 1
  omega
theorem cc_findL (W : WOK T kd tl n c tn) (hx : x < szR n) (hv : VR T x) {D A : Nat} (hR : RNG (qcR T kd tl n c tn x p) D A) (k : Int32 → Int32 → SS → Res) : ∀ (m N d : Nat) (s : SS), d + m = D → m < N → CW T kd tl c tn s → s 39 6 = wl_ n (itR T kd tl n c tn x p d) → s 39 7 = iI (((p + d) % c : Nat) : Int) → (∀ i, i < d → s 40 (4 * br n + qcR T kd tl n c tn x p i) = iI i) → (∀ y, y < 4 * szR n → (∀ i, i < d → y ≠ qcR T kd tl n c tn x p i) → s 40 (4 * br n + y) = UNK) → ∃ t, lp_X5_find_55 k N (iI d) s = k (iI D) (iI ((4 * br n + qcR T kd tl n c tn x p D : Nat) : Int)) t ∧ CZ 39 40 s t ∧ CW T kd tl c tn t ∧ t 39 6 = wl_ n (itR T kd tl n c tn x p D) ∧ t 39 7 = iI (((p + D) % c : Nat) : Int) ∧ t 40 (4 * br n + qcR T kd tl n c tn x p D) = iI A := by
  have hD := hR.2.1
  have h4 := W.cc
  have hb := br_le W.2.2.2
  intro m
  induction m with
  | zero =>
    intro N d s hd hN hs h6 h7 ht hu
    cases N with
    | zero => omega
    | succ N =>
      obtain rfl : d = D := by omega
      have hi := it_ok (p := p) W hx hv d
      have hp := W.pl (p + d)
      have hq := qc_lt (p := p) W hx hv d
      have hsz := W.sz hi.1
      have ec : s 39 6 * 4 + s 39 7 = iI ((4 * br n + qcR T kd tl n c tn x p d : Nat) : Int) := by rw [h6, h7]; exact cell4 W hi.1 _ (by omega)
      have hlt : 4 * br n + qcR T kd tl n c tn x p d < 21392 := by unfold qcR at *; omega
      have eA : s 40 (4 * br n + qcR T kd tl n c tn x p d) = iI A := by rw [hR.2.2.1]; exact ht A hR.1
      refine ⟨s, ?_, CZ.rf _ _ _, hs, h6, h7, eA⟩
      rw [lp_X5_find_55]
      refine e_if_f (by simp (disch := omega) only [Int.toNat_natCast, iI_lt, iI_le, iI_eq, iI_add, iI_sub, iI_mul, iI_neg, iI_clamp, inb_ii, z_21392]; omega) ?_
      refine e_lt ?_
      rw [ec]
      refine e_if_f (by simp (disch := omega) only [Int.toNat_natCast, iI_lt, iI_le, iI_eq, iI_add, iI_sub, iI_mul, iI_neg, iI_clamp, inb_ii, z_0]; omega) ?_
      refine e_if_t (by simp (disch := omega) only [Int.toNat_natCast, iI_lt, iI_le, iI_eq, iI_add, iI_sub, iI_mul, iI_neg, iI_clamp, inb_ii, z_21392]; omega) ?_
      refine e_gd (by simp (disch := omega) only [Int.toNat_natCast, iI_lt, iI_le, iI_eq, iI_add, iI_sub, iI_mul, iI_neg, iI_clamp, inb_ii]; omega) ?_
      have hA := hR.1
      refine e_if_f ?_ rfl
      rw [iI_clamp (by omega), Int.toNat_natCast, eA]
      simp (disch := omega) only [Int.toNat_natCast, iI_lt, iI_le, iI_eq, iI_add, iI_sub, iI_mul, iI_neg, iI_clamp, inb_ii, z_m1000000000]; omega
  | succ m ih =>
    intro N d s hd hN hs h6 h7 ht hu
    cases N with
    | zero => omega
    | succ N =>
      have hi := it_ok (p := p) W hx hv d
      have hp := W.pl (p + d)
      have hq := qc_lt (p := p) W hx hv d
      have hsz := W.sz hi.1
      have ec : s 39 6 * 4 + s 39 7 = iI ((4 * br n + qcR T kd tl n c tn x p d : Nat) : Int) := by rw [h6, h7]; exact cell4 W hi.1 _ (by omega)
      have hlt : 4 * br n + qcR T kd tl n c tn x p d < 21392 := by unfold qcR at *; omega
      have hne : ∀ i, i < d → qcR T kd tl n c tn x p d ≠ qcR T kd tl n c tn x p i := fun i a b => hR.2.2.2 i d a (by omega) b.symm
      have eU : s 40 (4 * br n + qcR T kd tl n c tn x p d) = UNK := hu _ (by unfold qcR; omega) hne
      have ecl : Int32.toNatClampNeg (iI ((4 * br n + qcR T kd tl n c tn x p d : Nat) : Int)) = 4 * br n + qcR T kd tl n c tn x p d := by rw [iI_clamp (by omega), Int.toNat_natCast]
      obtain ⟨t1, e1, e2, e3, e4, e5, _, _⟩ := cw_goOn (s := up s 40 (4 * br n + qcR T kd tl n c tn x p d) (iI d)) W hx hv (d := d) (hs.up1 (by omega)) (by rw [up_cell (by omega)]; exact h6) (by rw [up_cell (by omega)]; exact h7)
      have e40 : t1 40 = up s 40 (4 * br n + qcR T kd tl n c tn x p d) (iI d) 40 := e2.at (by omega) (by omega)
      obtain ⟨t, f1, f2, f3⟩ := ih N (d + 1) t1 (by omega) (by omega) e3 e4 e5 (by
        intro i hi2
        rw [e40]
        by_cases e : i = d
        · subst e; exact up_at _ _ _ _
        · rw [up_slot (by have := hne i (by omega); omega)]
          exact ht i (by omega)) (by
        intro y hy hy2
        rw [e40, up_slot (by have := hy2 d (by omega); omega)]
        exact hu y hy (fun i a => hy2 i (by omega)))
      refine ⟨t, ?_, ((CZ.up1 (by omega)).tr (e2.m (by omega) (by omega))).tr f2, f3⟩
      rw [lp_X5_find_55]
      refine e_if_f (by simp (disch := omega) only [Int.toNat_natCast, iI_lt, iI_le, iI_eq, iI_add, iI_sub, iI_mul, iI_neg, iI_clamp, inb_ii, z_21392]; omega) ?_
      refine e_lt ?_
      rw [ec]
      refine e_if_f (by simp (disch := omega) only [Int.toNat_natCast, iI_lt, iI_le, iI_eq, iI_add, iI_sub, iI_mul, iI_neg, iI_clamp, inb_ii, z_0]; omega) ?_
      refine e_if_t (by simp (disch := omega) only [Int.toNat_natCast, iI_lt, iI_le, iI_eq, iI_add, iI_sub, iI_mul, iI_neg, iI_clamp, inb_ii, z_21392]; omega) ?_
      refine e_gd (by simp (disch := omega) only [Int.toNat_natCast, iI_lt, iI_le, iI_eq, iI_add, iI_sub, iI_mul, iI_neg, iI_clamp, inb_ii]; omega) ?_
      rw [ecl]
      refine e_if_t (by rw [eU]; rfl) ?_
      refine e_gd (by simp (disch := omega) only [Int.toNat_natCast, iI_lt, iI_le, iI_eq, iI_add, iI_sub, iI_mul, iI_neg, iI_clamp, inb_ii]; omega) ?_
      refine e_lts ?_
      refine e_bd e1 ?_
      rw [nx_s]
      exact f1
theorem cc_find (W : WOK T kd tl n c tn) (hx : x < szR n) (hv : VR T x) (hp : p < c) {D A : Nat} (hR : RNG (qcR T kd tl n c tn x p) D A) {s : SS} (h : CW T kd tl c tn s) : ∃ t, f_X5_find (wl_ n x) (iI p) s = some (0, t) ∧ CZ 39 40 s t ∧ CW T kd tl c tn t ∧ t 39 4 = iI A ∧ t 39 5 = iI ((D - A : Nat) : Int) ∧ t 39 6 = wl_ n (itR T kd tl n c tn x p D) ∧ t 39 7 = iI (((p + D) % c : Nat) : Int) := by
  have hb := br_le W.2.2.2
  have hn := W.2.2.2
  have hD := hR.2.1
  have hA := hR.1
  have hq := qc_lt (p := p) W hx hv D
  have hi := it_ok (p := p) W hx hv D
  have hsz := W.sz hi.1
  have h4 := W.cc
  have hpl := W.pl (p + D)
  have hlt : 4 * br n + qcR T kd tl n c tn x p D < 21392 := by unfold qcR; omega
  have m4 : ∀ a : Nat, iI (a : Int) * 4 = iI ((a * 4 : Nat) : Int) := fun a => by rw [z_4, iI_mul]; congr 1
  obtain ⟨t, f1, f2, f3, f4, f5, f6⟩ := cc_findL W hx hv hR (fun v10 v11 s12 => gd (inb v11 21392) (lts (up s12 39 4 (s12 40 (Int32.toNatClampNeg v11))) (fun (s14 : SS) => lt (if (1 : Int32) < (v10 - (s14 39 4) : Int32) then v10 - (s14 39 4) else 1) (fun (v15 : Int32) => lts (up s14 39 5 v15) (fun (s16 : SS) => some (0, s16)))))) D FU 0 (up (up (up (up (upr s 40 (fun j => if br n * 4 ≤ j ∧ j < (br n + szR n) * 4 then -1000000000 else s 40 j)) 39 4 0) 39 5 1) 39 6 (wl_ n x)) 39 7 (iI p)) (by omega) (fu_lt (by omega)) (((((h.ur (by omega)).up1 (by omega)).up1 (by omega)).up1 (by omega)).up1 (by omega)) (by rw [up_slot (by omega), up_at]; rfl) (by rw [up_at, Nat.add_zero, Nat.mod_eq_of_lt hp]) (by intro i a; omega) (by
    intro y hy _
    rw [up_cell (by omega), up_cell (by omega), up_cell (by omega), up_cell (by omega), upr_eq, if_pos (by omega)]
    rfl)
  refine ⟨up (up t 39 4 (iI A)) 39 5 (iI ((D - A : Nat) : Int)), ?_, ?_, (f3.up1 (by omega)).up1 (by omega), ?_, up_at _ _ _ _, ?_, ?_⟩
  · unfold f_X5_find
    refine e_bdp (rw_len h.1.1 hn hx) ?_
    refine e_bdp (rw_bare (by omega)) ?_
    refine e_bdp (rw_bare1 hn) ?_
    rw [m4, m4]
    refine e_bd (fillr_40 _ _ (by omega) (by omega)) ?_
    refine e_lts ?_
    refine e_lts ?_
    refine e_lts ?_
    refine e_lts ?_
    refine e_jn ?_
    refine Eq.trans f1 ?_
    refine e_gd (by simp (disch := omega) only [Int.toNat_natCast, iI_lt, iI_le, iI_eq, iI_add, iI_sub, iI_mul, iI_neg, iI_clamp, inb_ii]; omega) ?_
    refine e_lts ?_
    refine e_lt ?_
    refine e_lts ?_
    rw [iI_clamp (by omega), Int.toNat_natCast, f6, up_at]
    congr 3
    rw [iI_sub, show (D : Int) - (A : Int) = ((D - A : Nat) : Int) by omega]
    by_cases q : (1 : Int32) < iI ((D - A : Nat) : Int)
    · rw [if_pos q]
    · rw [if_neg q]
      rw [z_1, iI_lt (by omega) (by omega)] at q
      rw [z_1]
      congr 1
      omega
  · exact ((((((CZ.ur (by omega)).tr (CZ.up1 (by omega))).tr (CZ.up1 (by omega))).tr (CZ.up1 (by omega))).tr (CZ.up1 (by omega))).tr f2).tr ((CZ.up1 (by omega)).tr (CZ.up1 (by omega)))
  · rw [up_slot (by omega), up_at]
  · rw [up_slot (by omega), up_slot (by omega)]; exact f4
  · rw [up_slot (by omega), up_slot (by omega)]; exact f5
/-- worth once round -/
def rgS (T : TW) (kd tl : Nat → Nat) (n c : Nat) (tn : Nat → Nat) (x p : Nat) (D a : Nat) : Nat → Int32
  | 0 => 0
  | k + 1 => rgS T kd tl n c tn x p D a k + wth T n (itR T kd tl n c tn x p (D + k + 1)) a
theorem rgS_in (hT : TOK T) (D a : Nat) : ∀ k : Nat, k ≤ 18724 → -400 * (k : Int) ≤ (rgS T kd tl n c tn x p D a k).toInt ∧ (rgS T kd tl n c tn x p D a k).toInt ≤ 400 * (k : Int) := by
  intro k
  induction k with
  | zero => intro _; unfold rgS; decide
  | succ k ih =>
    intro hk
    have h1 := ih (by omega)
    have h2 := wth_in T hT n (itR T kd tl n c tn x p (D + k + 1)) a
    unfold rgS
    generalize rgS T kd tl n c tn x p D a k = v at h1 ⊢
    generalize wth T n (itR T kd tl n c tn x p (D + k + 1)) a = w at h2 ⊢
    rw [iI_of v, iI_of w, iI_add, iI_toInt (by omega)]
    omega
theorem cc_sumL (W : WOK T kd tl n c tn) (hx : x < szR n) (hv : VR T x) {D M a : Nat} (hM : M ≤ 18724) (ha : a < 4) : ∀ (m N k : Nat) (s : SS), k + m = M → m < N → CW T kd tl c tn s → s 39 5 = iI M → s 39 6 = wl_ n (itR T kd tl n c tn x p (D + k)) → s 39 7 = iI (((p + (D + k)) % c : Nat) : Int) → ∃ t, lp_X5_sumOf_4 (iI a) N (rgS T kd tl n c tn x p D a k) (iI k) s = some (rgS T kd tl n c tn x p D a M, t) ∧ CZ 39 40 s t ∧ CW T kd tl c tn t ∧ t 39 5 = iI M := by
  intro m
  induction m with
  | zero =>
    intro N k s hk hN hs h5 h6 h7
    cases N with
    | zero => omega
    | succ N =>
      obtain rfl : k = M := by omega
      refine ⟨s, ?_, CZ.rf _ _ _, hs, h5⟩
      rw [lp_X5_sumOf_4]
      exact e_if_t (by rw [h5]; simp (disch := omega) only [Int.toNat_natCast, iI_lt, iI_le, iI_eq, iI_add, iI_sub, iI_mul, iI_neg, iI_clamp, inb_ii]; omega) rfl
  | succ m ih =>
    intro N k s hk hN hs h5 h6 h7
    cases N with
    | zero => omega
    | succ N =>
      have hi := it_ok (p := p) W hx hv (D + k + 1)
      obtain ⟨t1, e1, e2, e3, e4, e5, e6, _⟩ := cw_goOn W hx hv hs h6 h7
      obtain ⟨t2, g1, g2, g3⟩ := cw_worth W e3 (m := a) hi.1 ha
      have q39 : t2 39 = t1 39 := g2.1 39 (by omega) (by omega) (by omega) (by omega) (by omega)
      obtain ⟨t, f1, f2, f3⟩ := ih N (k + 1) t2 (by omega) (by omega) g3 (by rw [q39, e6]; exact h5) (by rw [q39]; exact e4) (by rw [q39]; exact e5)
      refine ⟨t, ?_, ((e2.m (by omega) (by omega)).tr g2.z).tr f2, f3⟩
      rw [lp_X5_sumOf_4]
      refine e_if_f (by rw [h5]; simp (disch := omega) only [Int.toNat_natCast, iI_lt, iI_le, iI_eq, iI_add, iI_sub, iI_mul, iI_neg, iI_clamp, inb_ii]; omega) ?_
      refine e_bd e1 ?_
      rw [e4]
      refine e_bd g1 ?_
      refine e_lt ?_
      rw [nx_s]
      exact f1
