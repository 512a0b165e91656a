/-! feed, check as steps -/
variable {T : TW} {kd tl tn : Nat → Nat} {n c x p dy X k x2 p2 dy2 X2 k2 z cl : Nat} {en : Nat → Nat → Int32} {kf : Bool} {b : Nat → Nat} {d : Nat → Int32} {ed : Nat} {s t u : SS}
theorem nb_eq (v : Int32) {k : Nat} (hk : k < 256) (e : v &&& 255 = iI k) : vp_nar .byte v.toInt8.toInt32 = iI (sby k) := by
  have h := sby_in hk
  rw [pk_vb]
  apply Int32.toInt_inj.mp
  rw [iI_toInt (by omega), Int8.toInt_toInt32, Int32.toInt_toInt8]
  have e2 := pk_and v (m := 255) 8 (by decide)
  rw [e, iI_nat, iI_eq (by omega) (by omega)] at e2
  have e3 : v.toInt = if 2 * v.toBitVec.toNat < 2 ^ 32 then (v.toBitVec.toNat : Int) else (v.toBitVec.toNat : Int) - ((2 ^ 32 : Nat) : Int) := BitVec.toInt_eq_toNat_cond v.toBitVec
  have e4 : v.toInt % 256 = k := by
    rw [e3]
    split <;> omega
  show Int.bmod v.toInt 256 = sby k
  unfold Int.bmod sby
  have e5 : v.toInt % ((256 : Nat) : Int) = k := e4
  simp only [e5]
  split <;> split <;> omega
/-- the j-th byte of an int, the highest first -/
def byI (a : Int32) (j : Nat) : Nat := ((a >>> (iI (24 - 8 * (j : Int)) &&& 31)) &&& 255).toInt.toNat
theorem byI_ok (a : Int32) (j : Nat) : byI a j < 256 ∧ (a >>> (iI (24 - 8 * (j : Int)) &&& 31)) &&& 255 = iI (byI a j) := by
  obtain ⟨q, hq, e⟩ := pk_andE (a >>> (iI (24 - 8 * (j : Int)) &&& 31)) (m := 255) 8 (by decide)
  unfold byI
  rw [e, iI_nat, iI_toInt (by omega)]
  exact ⟨by omega, rfl⟩
/-- the tape with one more int -/
def fdB (z : Nat) (b : Nat → Nat) (a : Int32) (m : Nat) : Nat → Nat := fun i => if z ≤ i ∧ i < z + m then byI a (i - z) else b i
theorem cc_put {z : Nat} {b : Nat → Nat} (a : Int32) (hz : z + 4 ≤ 220) (h : TPC z b s) : ∃ t, f_X9_put a s = some (0, t) ∧ TPC (z + 4) (fdB z b a 4) t ∧ (∀ q, q ≠ 1 → q ≠ 2 → t q = s q) ∧ ∀ j, j ≠ 1 → t 1 j = s 1 j := by
  have lp : ∀ (k N m : Nat) (u : SS), m + k = 4 → k < N → TPC (z + m) (fdB z b a m) u → (∀ q, q ≠ 1 → q ≠ 2 → u q = s q) → (∀ j, j ≠ 1 → u 1 j = s 1 j) → ∃ t, lp_X9_put_3 a N (iI (24 - 8 * (m : Int))) u = some (0, t) ∧ TPC (z + 4) (fdB z b a 4) t ∧ (∀ q, q ≠ 1 → q ≠ 2 → t q = s q) ∧ ∀ j, j ≠ 1 → t 1 j = s 1 j := by
    intro k
    induction k with
    | zero =>
      intro N m u hm hN h1 h2 h3
      cases N with
      | zero => omega
      | succ N =>
        obtain rfl : m = 4 := by omega
        refine ⟨u, ?_, h1, h2, h3⟩
        rw [lp_X9_put_3]
        exact e_if_t (by decide) rfl
    | succ k ih =>
      intro N m u hm hN h1 h2 h3
      cases N with
      | zero => omega
      | succ N =>
        have hb := byI_ok a m
        obtain ⟨t, f1, f2⟩ := ih N (m + 1) (up (up u 2 (z + m) (iI (byI a m))) 1 1 (iI ((z + m + 1 : Nat) : Int))) (by omega) (by omega) ⟨up_at _ _ _ _, by
          intro i hi
          rw [up_cell (by omega)]
          unfold fdB
          by_cases e : i = z + m
          · rw [e, up_at, if_pos (by omega), show z + m - z = m by omega]
          · rw [up_slot e]
            have := h1.2 i (by omega)
            rw [this]
            unfold fdB
            by_cases e2 : z ≤ i
            · rw [if_pos (by omega), if_pos (by omega)]
            · rw [if_neg (by omega), if_neg (by omega)]⟩ (fun q a b => by rw [up_cell a, up_cell b]; exact h2 q a b) (fun j a => by rw [up_slot a, up_cell (by omega)]; exact h3 j a)
        refine ⟨t, ?_, f2⟩
        rw [lp_X9_put_3]
        refine e_if_f (by simp (disch := omega) only [Int.toNat_natCast, iI_lt, iI_le, iI_eq, iI_add, iI_sub, iI_mul, iI_neg, iI_clamp, inb_ii, z_0]; omega) ?_
        refine e_jn ?_
        rw [h1.1, hb.2]
        refine e_if_f (by simp (disch := omega) only [Int.toNat_natCast, iI_lt, iI_le, iI_eq, iI_add, iI_sub, iI_mul, iI_neg, iI_clamp, inb_ii, z_0]; omega) ?_
        refine e_if_f (by simp (disch := omega) only [Int.toNat_natCast, iI_lt, iI_le, iI_eq, iI_add, iI_sub, iI_mul, iI_neg, iI_clamp, inb_ii, z_220]; omega) ?_
        refine e_gd (by simp (disch := omega) only [Int.toNat_natCast, iI_lt, iI_le, iI_eq, iI_add, iI_sub, iI_mul, iI_neg, iI_clamp, inb_ii]; omega) ?_
        rw [iI_clamp (by omega), Int.toNat_natCast]
        refine e_lts ?_
        rw [up_cell (k := 2) (q := 1) (by omega), h1.1, nx_s]
        refine e_lts ?_
        rw [show iI (24 - 8 * (m : Int)) + (-8) = iI (24 - 8 * ((m + 1 : Nat) : Int)) by
          rw [show (-8 : Int32) = iI (-8) from rfl, iI_add]
          congr 1
          omega]
        exact f1
  unfold f_X9_put
  exact lp 4 FU 0 s rfl (fu_lt (by omega)) ⟨h.1, fun i hi => by
    unfold fdB
    rw [if_neg (by omega)]
    exact h.2 i hi⟩ (fun _ _ _ => rfl) (fun _ _ => rfl)
theorem cr_put {z : Nat} {b : Nat → Nat} (a : Int32) (hz : z + 4 ≤ 220) (h : TPR z b s) : ∃ t, f_X12_push a s = some (0, t) ∧ TPR (z + 4) (fdB z b a 4) t ∧ (∀ q, q ≠ 56 → q ≠ 57 → t q = s q) ∧ ∀ j, j ≠ 1 → t 56 j = s 56 j := by
  have lp : ∀ (k N m : Nat) (u : SS), m + k = 4 → k < N → TPR (z + m) (fdB z b a m) u → (∀ q, q ≠ 56 → q ≠ 57 → u q = s q) → (∀ j, j ≠ 1 → u 56 j = s 56 j) → ∃ t, lp_X12_push_3 a N (iI (24 - 8 * (m : Int))) u = some (0, t) ∧ TPR (z + 4) (fdB z b a 4) t ∧ (∀ q, q ≠ 56 → q ≠ 57 → t q = s q) ∧ ∀ j, j ≠ 1 → t 56 j = s 56 j := by
    intro k
    induction k with
    | zero =>
      intro N m u hm hN h1 h2 h3
      cases N with
      | zero => omega
      | succ N =>
        obtain rfl : m = 4 := by omega
        refine ⟨u, ?_, h1, h2, h3⟩
        rw [lp_X12_push_3]
        exact e_if_t (by decide) rfl
    | succ k ih =>
      intro N m u hm hN h1 h2 h3
      cases N with
      | zero => omega
      | succ N =>
        have hb := byI_ok a m
        have hnb := nb_eq _ hb.1 hb.2
        obtain ⟨t, f1, f2⟩ := ih N (m + 1) (up (up u 57 (z + m) (iI (sby (byI a m)))) 56 1 (iI ((z + m + 1 : Nat) : Int))) (by omega) (by omega) ⟨up_at _ _ _ _, by
          intro i hi
          rw [up_cell (by omega)]
          unfold fdB
          by_cases e : i = z + m
          · rw [e, up_at, if_pos (by omega), show z + m - z = m by omega]
          · rw [up_slot e]
            have := h1.2 i (by omega)
            rw [this]
            unfold fdB
            by_cases e2 : z ≤ i
            · rw [if_pos (by omega), if_pos (by omega)]
            · rw [if_neg (by omega), if_neg (by omega)]⟩ (fun q a b => by rw [up_cell a, up_cell b]; exact h2 q a b) (fun j a => by rw [up_slot a, up_cell (by omega)]; exact h3 j a)
        refine ⟨t, ?_, f2⟩
        rw [lp_X12_push_3]
        refine e_if_f (by simp (disch := omega) only [Int.toNat_natCast, iI_lt, iI_le, iI_eq, iI_add, iI_sub, iI_mul, iI_neg, iI_clamp, inb_ii, z_0]; omega) ?_
        rw [h1.1, hnb]
        refine e_gd (by simp (disch := omega) only [Int.toNat_natCast, iI_lt, iI_le, iI_eq, iI_add, iI_sub, iI_mul, iI_neg, iI_clamp, inb_ii]; omega) ?_
        rw [iI_clamp (by omega), Int.toNat_natCast]
        refine e_lts ?_
        rw [up_cell (k := 57) (q := 56) (by omega), h1.1, nx_s]
        refine e_lts ?_
        rw [show iI (24 - 8 * (m : Int)) + (-8) = iI (24 - 8 * ((m + 1 : Nat) : Int)) by
          rw [show (-8 : Int32) = iI (-8) from rfl, iI_add]
          congr 1
          omega]
        exact f1
  unfold f_X12_push
  exact lp 4 FU 0 s rfl (fu_lt (by omega)) ⟨h.1, fun i hi => by
    unfold fdB
    rw [if_neg (by omega)]
    exact h.2 i hi⟩ (fun _ _ _ => rfl) (fun _ _ => rfl)
def fd5 (z : Nat) (b : Nat → Nat) (a1 a2 a3 a4 a5 : Int32) : Nat → Nat := fdB (z + 16) (fdB (z + 12) (fdB (z + 8) (fdB (z + 4) (fdB z b a1 4) a2 4) a3 4) a4 4) a5 4
theorem fdB_ok {z : Nat} {b : Nat → Nat} (a : Int32) (h : ∀ i, i < z → b i < 256) : ∀ i, i < z + 4 → fdB z b a 4 i < 256 := by
  intro i hi
  unfold fdB
  split
  · exact (byI_ok a _).1
  · exact h i (by omega)
theorem out_feed (a1 a2 a3 a4 a5 : Int32) (hV : JV T kd tl n c tn x p X k kf x2 p2 X2 k2 z b) : OUT (f_X11_feed a1 a2 a3 a4 a5) (f_X12_feed a1 a2 a3 a4 a5) T kd tl n c tn x p dy X k en kf x2 p2 dy2 X2 k2 z b d cl ed := by
  have ho := hV.2.2.2.2.2.1
  have hz := ho.1
  by_cases q : z ≤ 200
  · have V1 : JV T kd tl n c tn x p X k kf x2 p2 X2 k2 (z + 20) (fd5 z b a1 a2 a3 a4 a5) := ⟨hV.1, hV.2.1, hV.2.2.1, hV.2.2.2.1, hV.2.2.2.2.1, ⟨by omega, fdB_ok a5 (fdB_ok a4 (fdB_ok a3 (fdB_ok a2 (fdB_ok a1 ho.2))))⟩, hV.2.2.2.2.2.2⟩
    refine ⟨T, kd, tl, n, c, tn, x, p, dy, X, k, en, kf, x2, p2, dy2, X2, k2, z + 20, fd5 z b a1 a2 a3 a4 a5, d, cl, ed, by omega, iI ((z + 20 : Nat) : Int), fun s h => ?_, fun s h => ?_⟩
    · have h8 := h.2.2.2.2.2.2.2.1
      obtain ⟨s1, e1, t1, u1, v1⟩ := cc_put a1 (by omega) h8
      obtain ⟨s2, e2, t2, u2, v2⟩ := cc_put a2 (by omega) t1
      obtain ⟨s3, e3, t3, u3, v3⟩ := cc_put a3 (by omega) t2
      obtain ⟨s4, e4, t4, u4, v4⟩ := cc_put a4 (by omega) t3
      obtain ⟨s5, e5, t5, u5, v5⟩ := cc_put a5 (by omega) t4
      have tq : ∀ q, q ≠ 1 → q ≠ 2 → s5 q = s q := fun q a b => by rw [u5 q a b, u4 q a b, u3 q a b, u2 q a b, u1 q a b]
      obtain ⟨g1, g2, g3, g4, g5⟩ := h.w (t := s5) (fun q a b => tq q (by omega) (by omega)) (by rw [tq 0 (by omega) (by omega)])
      obtain ⟨h1, h2, h3, h4, h5, h6, h7, h8, h9, h10, h11, h12⟩ := h
      refine ⟨s5, ?_, ⟨V1, g1, g2, g3, g4, by rw [tq 52 (by omega) (by omega)]; exact h6, by rw [tq 55 (by omega) (by omega)]; exact h7, t5, by rw [tq 54 (by omega) (by omega)]; exact h9, by rw [tq 0 (by omega) (by omega)]; exact h10, by rw [tq 53 (by omega) (by omega)]; exact h11, g5⟩, fun q hq => tq q (by omega) (by omega)⟩
      show f_X11_feed a1 a2 a3 a4 a5 s = _
      unfold f_X11_feed
      refine e_bdp (v := 1) ?_ ?_
      · unfold f_X9_hasRoom
        rw [h8.1]
        exact e_if_f (by simp (disch := omega) only [Int.toNat_natCast, iI_lt, iI_le, iI_eq, iI_add, iI_sub, iI_mul, iI_neg, iI_clamp, inb_ii, z_220, z_20]; omega) rfl
      · refine e_if_f (by decide) ?_
        refine e_bd e1 ?_
        refine e_bd e2 ?_
        refine e_bd e3 ?_
        refine e_bd e4 ?_
        refine e_bd e5 ?_
        exact e_bdp (v := iI ((z + 20 : Nat) : Int)) (by unfold f_X9_size; rw [t5.1]) rfl
    · have h5 := h.2.2.2.2.1
      obtain ⟨s1, e1, t1, u1, v1⟩ := cr_put a1 (by omega) h5
      obtain ⟨s2, e2, t2, u2, v2⟩ := cr_put a2 (by omega) t1
      obtain ⟨s3, e3, t3, u3, v3⟩ := cr_put a3 (by omega) t2
      obtain ⟨s4, e4, t4, u4, v4⟩ := cr_put a4 (by omega) t3
      obtain ⟨s5, e5, t5, u5, v5⟩ := cr_put a5 (by omega) t4
      have tq : ∀ q, q ≠ 56 → q ≠ 57 → s5 q = s q := fun q a b => by rw [u5 q a b, u4 q a b, u3 q a b, u2 q a b, u1 q a b]
      have t0 : ∀ j, j ≠ 1 → s5 56 j = s 56 j := fun q a => by rw [v5 q a, v4 q a, v3 q a, v2 q a, v1 q a]
      have h20 := h5.1
      obtain ⟨h1, h2, h3, h4, h5, h6, h7, h8, h9⟩ := h
      refine ⟨s5, ?_, ⟨V1, h2.of (fun q a _ _ _ _ => tq q (by omega) (by omega)) (fun j hj => t0 j (by omega)), by rw [t0 4 (by omega), t0 6 (by omega), t0 7 (by omega), t0 8 (by omega), t0 9 (by omega)]; exact h3, by rw [tq 85 (by omega) (by omega), tq 86 (by omega) (by omega), tq 87 (by omega) (by omega), tq 88 (by omega) (by omega)]; exact h4, t5, by rw [tq 94 (by omega) (by omega)]; exact h6, by rw [t0 68 (by omega)]; exact h7, by rw [t0 69 (by omega), t0 70 (by omega), t0 71 (by omega), t0 72 (by omega), t0 73 (by omega)]; exact h8, by rw [t0 17 (by omega)]; exact h9⟩, fun q hq => tq q (by omega) (by omega)⟩
      show f_X12_feed a1 a2 a3 a4 a5 s = _
      unfold f_X12_feed
      refine e_if_t (by rw [h20]; simp (disch := omega) only [Int.toNat_natCast, iI_lt, iI_le, iI_eq, iI_add, iI_sub, iI_mul, iI_neg, iI_clamp, inb_ii, z_220, z_20]; omega) ?_
      refine e_bd e1 ?_
      refine e_bd e2 ?_
      refine e_bd e3 ?_
      refine e_bd e4 ?_
      refine e_bd e5 ?_
      rw [t5.1]
  · refine out_no (-1) (fun s h => ?_) (fun s h => ?_)
    · unfold f_X11_feed
      refine e_bdp (v := 0) ?_ (e_if_t rfl rfl)
      unfold f_X9_hasRoom
      rw [h.2.2.2.2.2.2.2.1.1]
      exact e_if_t (by simp (disch := omega) only [Int.toNat_natCast, iI_lt, iI_le, iI_eq, iI_add, iI_sub, iI_mul, iI_neg, iI_clamp, inb_ii, z_220, z_20]; omega) rfl
    · unfold f_X12_feed
      exact e_if_f (by rw [h.2.2.2.2.1.1]; simp (disch := omega) only [Int.toNat_natCast, iI_lt, iI_le, iI_eq, iI_add, iI_sub, iI_mul, iI_neg, iI_clamp, inb_ii, z_220, z_20]; omega) rfl
