/-! looking ahead: what a day is worth together with the days behind it -/
variable {T : TW} {kd tl tn : Nat → Nat} {n c x p : Nat} {s t u : SS}
def plE (c e j : Nat) : Nat := (e + 12 * c - j) % c
theorem plE_s {e j : Nat} (hc : 1 ≤ c) (hj : j + 1 ≤ 12) : (plE c e (j + 1) + 1) % c = plE c e j := by
  unfold plE
  rw [Nat.mod_add_mod]
  congr 1
  omega
theorem plE_0 {e : Nat} (he : e < c) : plE c e 0 = e := by
  unfold plE
  rw [Nat.sub_zero, Nat.add_mul_mod_self_right, Nat.mod_eq_of_lt he]
theorem plE_p {N d : Nat} (hc : 1 ≤ c) (hd : d ≤ N) (hN : N ≤ 12) : plE c ((p + N) % c) (N - d) = (p + d) % c := by
  have h := Nat.div_add_mod (p + N) c
  unfold plE
  have e : ((p + N) % c + 12 * c - (N - d)) + c * ((p + N) / c) = (p + d) + 12 * c := by omega
  rw [← Nat.add_mul_mod_self_left _ c ((p + N) / c), e, Nat.add_mul_mod_self_right]
theorem plE_lt {e j : Nat} (hc : 1 ≤ c) : plE c e j < c := Nat.mod_lt _ (by omega)
/-- the first greatest: none, then by the number of the law -/
def amx (f : Nat → Int32) (mb : Int32) : Nat → Nat × Int32
  | 0 => (8, f 8)
  | l + 1 => if bt mb l = true ∧ (amx f mb l).2 < f l then (l, f l) else amx f mb l
theorem amx_le (f : Nat → Int32) (mb : Int32) : ∀ l, l ≤ 8 → (amx f mb l).1 ≤ 8 := by
  intro l
  induction l with
  | zero => intro _; exact Nat.le_refl 8
  | succ l ih =>
    intro hl
    unfold amx
    split
    · show l ≤ 8; omega
    · exact ih (by omega)
theorem amx_v (f : Nat → Int32) (mb : Int32) : ∀ l, (amx f mb l).2 = f (amx f mb l).1 := by
  intro l
  induction l with
  | zero => rfl
  | succ l ih =>
    unfold amx
    split
    · rfl
    · exact ih
def pkT (T : TW) (kd tl : Nat → Nat) (n c : Nat) (tn : Nat → Nat) (L : Int32) (e : Nat) (f : Nat → Nat → Int32) (j y : Nat) : Nat :=
  if bt L (tn (plE c e j)) = true then (amx (fun l => f (bh n y l) (tn (plE c e j))) (may T n y (tn (plE c e j))) 8).1 else cho T kd tl n y (tn (plE c e j))
def totL (T : TW) (kd tl : Nat → Nat) (n c : Nat) (tn : Nat → Nat) (L : Int32) (e : Nat) : Nat → Nat → Nat → Int32
  | 0, y, q => wth T n y q + 0
  | j + 1, y, q => wth T n y q + totL T kd tl n c tn L e j (bh n y (pkT T kd tl n c tn L e (totL T kd tl n c tn L e j) (j + 1) y)) q
def pkL (T : TW) (kd tl : Nat → Nat) (n c : Nat) (tn : Nat → Nat) (L : Int32) (e : Nat) : Nat → Nat → Nat
  | 0, _ => 8
  | j + 1, y => pkT T kd tl n c tn L e (totL T kd tl n c tn L e j) (j + 1) y
theorem totL_s (L : Int32) (e j y q : Nat) : totL T kd tl n c tn L e (j + 1) y q = wth T n y q + totL T kd tl n c tn L e j (bh n y (pkL T kd tl n c tn L e (j + 1) y)) q := rfl
theorem pkL_le (W : WOK T kd tl n c tn) (L : Int32) (e j : Nat) {y : Nat} (hy : y < szR n) : pkL T kd tl n c tn L e j y ≤ 8 := by
  cases j with
  | zero => exact Nat.le_refl 8
  | succ j =>
    show pkT T kd tl n c tn L e (totL T kd tl n c tn L e j) (j + 1) y ≤ 8
    unfold pkT
    split
    · exact amx_le _ _ 8 (Nat.le_refl 8)
    · exact W.cho (W.tt (plE_lt W.cc.1)) hy
theorem pkL_lt (W : WOK T kd tl n c tn) (L : Int32) (e j : Nat) {y : Nat} (hy : y < szR n) : bh n y (pkL T kd tl n c tn L e j y) < szR n := bh_lt W.2.2.2 hy (pkL_le W L e j hy)
def MO (T : TW) (kd tl : Nat → Nat) (n c : Nat) (tn : Nat → Nat) (L : Int32) (e : Nat) (s : SS) : Prop := ∀ y j, y < szR n → j < 8 → s 42 (8 * (br n + y) + j) = UNK ∨ (s 42 (8 * (br n + y) + j) = iI (pkL T kd tl n c tn L e j y) ∧ (∀ q, q < 4 → s 43 ((8 * (br n + y) + j) * 4 + q) = totL T kd tl n c tn L e j y q) ∧ ∀ i, j = i + 1 → s 42 (8 * (br n + bh n y (pkL T kd tl n c tn L e j y)) + i) ≠ UNK)
def LKS (T : TW) (kd tl : Nat → Nat) (n c : Nat) (tn : Nat → Nat) (L : Int32) (e : Nat) (s : SS) : Prop := CW T kd tl c tn s ∧ MO T kd tl n c tn L e s ∧ s 41 7 = L
def FM (s t : SS) : Prop := ∀ k, s 42 k ≠ UNK → t 42 k ≠ UNK
theorem FM.rf (s : SS) : FM s s := fun _ h => h
theorem FM.tr (h : FM s t) (g : FM t u) : FM s u := fun k a => g k (h k a)
theorem LKS.q {L : Int32} {e : Nat} (h : LKS T kd tl n c tn L e s) (g : CQ s t) (f : CW T kd tl c tn t) : LKS T kd tl n c tn L e t ∧ FM s t ∧ CZ 42 43 s t := by
  have e2 : ∀ k, 34 < k → t k = s k := fun k a => g.1 k (by omega) (by omega) (by omega) (by omega) (by omega)
  refine ⟨⟨f, ?_, by rw [e2 41 (by omega)]; exact h.2.2⟩, fun k a => by rw [e2 42 (by omega)]; exact a, g.z⟩
  unfold MO
  rw [e2 42 (by omega), e2 43 (by omega)]
  exact h.2.1
theorem has_bt0 {x : Int32} {l : Nat} (hl : l < 32) : ((x >>> (iI l &&& 31)) &&& 1 = 0) ↔ bt x l = false := by
  obtain ⟨j, hj, e⟩ := pk_andE (x >>> (iI l &&& 31)) (m := 1) 1 (by decide)
  have h := has_bt (x := x) (l := l) hl
  rw [e] at h ⊢
  obtain rfl | rfl : j = 0 ∨ j = 1 := by omega
  · have h2 : ¬ bt x l = true := mt h.mpr (by decide)
    constructor
    · intro _; simpa using h2
    · intro _; rfl
  · have h2 : bt x l = true := h.mp rfl
    constructor
    · intro w; exact absurd w (by decide)
    · intro w; rw [h2] at w; exact absurd w (by decide)
theorem ol_cell (hn : 1 ≤ n ∧ n ≤ 4) {y j : Nat} (hj : j < 8) (s : SS) : f_X3_cellOf (wl_ n y) (iI j) s = some (iI ((8 * (br n + y) + j : Nat) : Int)) := by
  unfold f_X3_cellOf
  refine e_jn ?_
  refine e_if_f (by simp (disch := omega) only [Int.toNat_natCast, iI_lt, iI_le, iI_eq, iI_add, iI_sub, iI_mul, iI_neg, iI_clamp, inb_ii, z_0]; omega) ?_
  refine e_if_t (by simp (disch := omega) only [Int.toNat_natCast, iI_lt, iI_le, iI_eq, iI_add, iI_sub, iI_mul, iI_neg, iI_clamp, inb_ii, z_8]; omega) ?_
  unfold wl_
  rw [z_8, iI_mul, iI_add]
  congr 2
  omega
theorem ol_cellN (w : Int32) (s : SS) : f_X3_cellOf w (-1) s = some (-1) := by
  unfold f_X3_cellOf
  refine e_jn ?_
  exact e_if_t (by decide) rfl
theorem ol_tot (W : WOK T kd tl n c tn) {y j q : Nat} (hy : y < szR n) (hj : j < 8) (hq : q < 4) (s : SS) : f_X3_totalOf (wl_ n y) (iI j) (iI q) s = some (s 43 ((8 * (br n + y) + j) * 4 + q)) := by
  have hb := W.sz hy
  have ec : iI ((8 * (br n + y) + j : Nat) : Int) * 4 + iI q = iI (((8 * (br n + y) + j) * 4 + q : Nat) : Int) := by
    rw [z_4, iI_mul, iI_add]
    congr 1
  unfold f_X3_totalOf
  refine e_bdp (ol_cell W.2.2.2 hj s) ?_
  refine e_lt ?_
  rw [ec]
  refine e_jn ?_
  refine e_if_f (by simp (disch := omega) only [Int.toNat_natCast, iI_lt, iI_le, iI_eq, iI_add, iI_sub, iI_mul, iI_neg, iI_clamp, inb_ii, z_0]; omega) ?_
  refine e_if_t (by simp (disch := omega) only [Int.toNat_natCast, iI_lt, iI_le, iI_eq, iI_add, iI_sub, iI_mul, iI_neg, iI_clamp, inb_ii, z_171136]; omega) ?_
  refine e_gd (by simp (disch := omega) only [Int.toNat_natCast, iI_lt, iI_le, iI_eq, iI_add, iI_sub, iI_mul, iI_neg, iI_clamp, inb_ii]; omega) ?_
  rw [iI_clamp (by omega), Int.toNat_natCast]
theorem ol_totN {q : Nat} (hq : q < 4) (w : Int32) (s : SS) : f_X3_totalOf w (-1) (iI q) s = some 0 := by
  unfold f_X3_totalOf
  refine e_bdp (ol_cellN w s) ?_
  refine e_lt ?_
  refine e_jn ?_
  refine e_if_t ?_ rfl
  rw [z_m1, z_4, iI_mul, iI_add, z_0, iI_lt (by omega) (by omega)]
  omega
theorem pr_s (i : Nat) : iI ((i + 1 : Nat) : Int) - 1 = iI (i : Int) := by
  rw [z_1, iI_sub]
  congr 1
  omega
/-- what is told of the look for i days left -/
def LKH (T : TW) (kd tl : Nat → Nat) (n c : Nat) (tn : Nat → Nat) (L : Int32) (e : Nat) (i : Nat) (rf : Int32 → Int32 → Int32 → SS → Res) : Prop := ∀ (y : Nat) (s : SS), y < szR n → LKS T kd tl n c tn L e s → ∃ t, rf (wl_ n y) (iI (plE c e i)) (iI i) s = some (0, t) ∧ CZ 42 43 s t ∧ LKS T kd tl n c tn L e t ∧ FM s t ∧ t 42 (8 * (br n + y) + i) ≠ UNK
theorem MO.tot {L : Int32} {e : Nat} (h : MO T kd tl n c tn L e s) {y j : Nat} (hy : y < szR n) (hj : j < 8) (hf : s 42 (8 * (br n + y) + j) ≠ UNK) : s 42 (8 * (br n + y) + j) = iI (pkL T kd tl n c tn L e j y) ∧ (∀ q, q < 4 → s 43 ((8 * (br n + y) + j) * 4 + q) = totL T kd tl n c tn L e j y q) ∧ ∀ i, j = i + 1 → s 42 (8 * (br n + bh n y (pkL T kd tl n c tn L e j y)) + i) ≠ UNK := (h y j hy hj).resolve_left hf
theorem cl_pickL (W : WOK T kd tl n c tn) {L : Int32} {e i : Nat} (hi : i < 8) {rf : Int32 → Int32 → Int32 → SS → Res} (H : LKH T kd tl n c tn L e i rf) {y m : Nat} (hy : y < szR n) (hm : m < 4) : ∀ (k N l : Nat) (s : SS), l + k = 8 → k < N → LKS T kd tl n c tn L e s → ∃ t, lp_X3_pickOn_92 rf (wl_ n y) (iI ((i + 1 : Nat) : Int)) (iI m) (iI (plE c e i)) (may T n y m) N (iI (amx (fun l => totL T kd tl n c tn L e i (bh n y l) m) (may T n y m) l).1) (amx (fun l => totL T kd tl n c tn L e i (bh n y l) m) (may T n y m) l).2 (iI l) s = some (iI (amx (fun l => totL T kd tl n c tn L e i (bh n y l) m) (may T n y m) 8).1, t) ∧ CZ 42 43 s t ∧ LKS T kd tl n c tn L e t ∧ FM s t := by
  intro k
  induction k with
  | zero =>
    intro N l s hl hN hs
    cases N with
    | zero => omega
    | succ N =>
      obtain rfl : l = 8 := by omega
      refine ⟨s, ?_, CZ.rf _ _ _, hs, FM.rf s⟩
      rw [lp_X3_pickOn_92]
      exact e_if_t (by decide) rfl
  | succ k ih =>
    intro N l s hl hN hs
    cases N with
    | zero => omega
    | succ N =>
      have hl8 : l < 8 := by omega
      have ea : amx (fun l => totL T kd tl n c tn L e i (bh n y l) m) (may T n y m) (l + 1) = if bt (may T n y m) l = true ∧ (amx (fun l => totL T kd tl n c tn L e i (bh n y l) m) (may T n y m) l).2 < totL T kd tl n c tn L e i (bh n y l) m then (l, totL T kd tl n c tn L e i (bh n y l) m) else amx (fun l => totL T kd tl n c tn L e i (bh n y l) m) (may T n y m) l := rfl
      generalize amx (fun l => totL T kd tl n c tn L e i (bh n y l) m) (may T n y m) l = r at ea ⊢
      have hh := has_bt (x := may T n y m) (l := l) (by omega)
      by_cases q : bt (may T n y m) l = true
      · have zb := cw_behind W hs.1 hy (l := l) (by omega)
        have hb2 := bh_lt W.2.2.2 hy (l := l) (by omega)
        obtain ⟨t1, e1, e2, e3, e4, e5⟩ := H _ _ hb2 hs
        have et := ol_tot W hb2 hi hm t1
        rw [(e3.2.1.tot hb2 hi e5).2.1 m hm] at et
        obtain ⟨t, f1, f2, f3, f4⟩ := ih N (l + 1) t1 (by omega) (by omega) e3
        refine ⟨t, ?_, e2.tr f2, f3, e4.tr f4⟩
        rw [lp_X3_pickOn_92]
        refine e_if_f (by simp (disch := omega) only [Int.toNat_natCast, iI_lt, iI_le, iI_eq, iI_add, iI_sub, iI_mul, iI_neg, iI_clamp, inb_ii, z_8]; omega) ?_
        refine e_jn ?_
        refine e_if_t (hh.mpr q) ?_
        refine e_bdp zb ?_
        rw [pr_s]
        refine e_bd e1 ?_
        refine e_bdp et ?_
        by_cases q2 : r.2 < totL T kd tl n c tn L e i (bh n y l) m
        · rw [if_pos ⟨q, q2⟩] at ea
          rw [ea] at f1
          refine e_if_f (Int32.not_le.mpr q2) ?_
          rw [nx_s]
          exact f1
        · rw [if_neg (fun w => q2 w.2)] at ea
          rw [ea] at f1
          refine e_if_t (Int32.not_lt.mp q2) ?_
          rw [nx_s]
          exact f1
      · rw [if_neg (fun w => q w.1)] at ea
        obtain ⟨t, f1, f2, f3, f4⟩ := ih N (l + 1) s (by omega) (by omega) hs
        rw [ea] at f1
        refine ⟨t, ?_, f2, f3, f4⟩
        rw [lp_X3_pickOn_92]
        refine e_if_f (by simp (disch := omega) only [Int.toNat_natCast, iI_lt, iI_le, iI_eq, iI_add, iI_sub, iI_mul, iI_neg, iI_clamp, inb_ii, z_8]; omega) ?_
        refine e_jn ?_
        refine e_if_f (mt hh.mp q) ?_
        rw [nx_s]
        exact f1
theorem cl_pick (W : WOK T kd tl n c tn) {L : Int32} {e i : Nat} (hi : i < 8) {rf : Int32 → Int32 → Int32 → SS → Res} (H : LKH T kd tl n c tn L e i rf) {y : Nat} (hy : y < szR n) {s : SS} (hs : LKS T kd tl n c tn L e s) : ∃ t, f_X3_pickOn rf (wl_ n y) (iI (plE c e (i + 1))) (iI ((i + 1 : Nat) : Int)) s = some (iI (pkL T kd tl n c tn L e (i + 1) y), t) ∧ CZ 42 43 s t ∧ LKS T kd tl n c tn L e t ∧ FM s t := by
  have hp : plE c e (i + 1) < c := plE_lt W.cc.1
  have hm := W.tt hp
  have ep : pkL T kd tl n c tn L e (i + 1) y = if bt L (tn (plE c e (i + 1))) = true then (amx (fun l => totL T kd tl n c tn L e i (bh n y l) (tn (plE c e (i + 1)))) (may T n y (tn (plE c e (i + 1)))) 8).1 else cho T kd tl n y (tn (plE c e (i + 1))) := rfl
  have ht := cw_turn W hs.1 hp
  have ha := cw_after W hs.1 hp
  rw [plE_s W.cc.1 (by omega)] at ha
  generalize tn (plE c e (i + 1)) = m at hm ep ht
  have hb0 := has_bt0 (x := L) (l := m) (by omega)
  unfold f_X3_pickOn
  by_cases q : bt L m = true
  · rw [if_pos q] at ep
    obtain ⟨t1, e1, e2, e3⟩ := cw_may W hs.1 hy hm
    obtain ⟨g1, g2, g3⟩ := hs.q e2 e3
    obtain ⟨t2, a1, a2, a3, a4, a5⟩ := H y t1 hy g1
    have et := ol_tot W hy hi hm t2
    rw [(a3.2.1.tot hy hi a5).2.1 m hm] at et
    obtain ⟨t, f1, f2, f3, f4⟩ := cl_pickL W hi H hy hm 8 FU 0 t2 rfl (fu_lt (by omega)) a3
    refine ⟨t, ?_, (g3.tr a2).tr f2, f3, (g2.tr a4).tr f4⟩
    refine e_bdp ht ?_
    refine e_bdp (person_ok hm) ?_
    refine e_jn ?_
    refine e_if_f (by decide) ?_
    refine e_if_f (by rw [hs.2.2]; exact mt hb0.mp (by rw [q]; decide)) ?_
    refine e_bdp ha ?_
    refine e_bd e1 ?_
    rw [pr_s]
    refine e_bd a1 ?_
    refine e_bdp et ?_
    rw [ep]
    exact f1
  · rw [if_neg q] at ep
    obtain ⟨t1, e1, e2, e3⟩ := cw_choice W hs.1 hy hm
    obtain ⟨g1, g2, g3⟩ := hs.q e2 e3
    refine ⟨t1, ?_, g3, g1, g2⟩
    refine e_bdp ht ?_
    refine e_bdp (person_ok hm) ?_
    refine e_jn ?_
    refine e_if_f (by decide) ?_
    refine e_if_t (by rw [hs.2.2]; exact hb0.mpr (by simpa using q)) ?_
    refine e_bd e1 ?_
    rw [ep]
