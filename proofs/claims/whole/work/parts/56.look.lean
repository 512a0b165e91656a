/-! looking ahead: what a day is worth together with the days behind it -/
variable {T : TW} {kd tl tn : Nat → Nat} {n c x p : Nat} {s t u : SS}
def plE (c e j : Nat) : Nat := (e + 12 * c - j) % c
theorem plE_s {e j : Nat} (hc : 1 ≤ c) (hj : j + 1 ≤ 12) : (plE c e (j + 1) + 1) % c = plE c e j := by
  unfold plE
  rw [Nat.mod_add_mod]
  congr 1
  omega
theorem plE_0 {e : Nat} (he : e < c) : plE c e 0 = e := by
  unfold plE
  rw [Nat.sub_zero, Nat.add_mul_mod_self_right, Nat.mod_eq_of_lt he]
theorem plE_p {N d : Nat} (hc : 1 ≤ c) (hd : d ≤ N) (hN : N ≤ 12) : plE c ((p + N) % c) (N - d) = (p + d) % c := by
  have h := Nat.div_add_mod (p + N) c
  unfold plE
  have e : ((p + N) % c + 12 * c - (N - d)) + c * ((p + N) / c) = (p + d) + 12 * c := by omega
  rw [← Nat.add_mul_mod_self_left _ c ((p + N) / c), e, Nat.add_mul_mod_self_right]
theorem plE_lt {e j : Nat} (hc : 1 ≤ c) : plE c e j < c := Nat.mod_lt _ (by omega)
/-- the first greatest: none, then by the number of the law -/
def amx (f : Nat → Int32) (mb : Int32) : Nat → Nat × Int32
  | 0 => (8, f 8)
  | l + 1 => if bt mb l = true ∧ (amx f mb l).2 < f l then (l, f l) else amx f mb l
theorem amx_le (f : Nat → Int32) (mb : Int32) : ∀ l, l ≤ 8 → (amx f mb l).1 ≤ 8 := by
  intro l
  induction l with
  | zero => intro _; exact Nat.le_refl 8
  | succ l ih =>
    intro hl
    unfold amx
    split
    · show l ≤ 8; omega
    · exact ih (by omega)
theorem amx_v (f : Nat → Int32) (mb : Int32) : ∀ l, (amx f mb l).2 = f (amx f mb l).1 := by
  intro l
  induction l with
  | zero => rfl
  | succ l ih =>
    unfold amx
    split
    · rfl
    · exact ih
def pkT (T : TW) (kd tl : Nat → Nat) (n c : Nat) (tn : Nat → Nat) (L : Int32) (e : Nat) (f : Nat → Nat → Int32) (j y : Nat) : Nat :=
  if bt L (tn (plE c e j)) = true then (amx (fun l => f (bh n y l) (tn (plE c e j))) (may T n y (tn (plE c e j))) 8).1 else cho T kd tl n y (tn (plE c e j))
def totL (T : TW) (kd tl : Nat → Nat) (n c : Nat) (tn : Nat → Nat) (L : Int32) (e : Nat) : Nat → Nat → Nat → Int32
  | 0, y, q => wth T n y q + 0
  | j + 1, y, q => wth T n y q + totL T kd tl n c tn L e j (bh n y (pkT T kd tl n c tn L e (totL T kd tl n c tn L e j) (j + 1) y)) q
def pkL (T : TW) (kd tl : Nat → Nat) (n c : Nat) (tn : Nat → Nat) (L : Int32) (e : Nat) : Nat → Nat → Nat
  | 0, _ => 8
  | j + 1, y => pkT T kd tl n c tn L e (totL T kd tl n c tn L e j) (j + 1) y
theorem totL_s (L : Int32) (e j y q : Nat) : totL T kd tl n c tn L e (j + 1) y q = wth T n y q + totL T kd tl n c tn L e j (bh n y (pkL T kd tl n c tn L e (j + 1) y)) q := rfl
theorem pkL_le (W : WOK T kd tl n c tn) (L : Int32) (e j : Nat) {y : Nat} (hy : y < szR n) : pkL T kd tl n c tn L e j y ≤ 8 := by
  cases j with
  | zero => exact Nat.le_refl 8
  | succ j =>
    show pkT T kd tl n c tn L e (totL T kd tl n c tn L e j) (j + 1) y ≤ 8
    unfold pkT
    split
    · exact amx_le _ _ 8 (Nat.le_refl 8)
    · exact W.cho (W.tt (plE_lt W.cc.1)) hy
theorem pkL_lt (W : WOK T kd tl n c tn) (L : Int32) (e j : Nat) {y : Nat} (hy : y < szR n) : bh n y (pkL T kd tl n c tn L e j y) < szR n := bh_lt W.2.2.2 hy (pkL_le W L e j hy)
theorem totL_in (hT : TOK T) (L : Int32) (e : Nat) : ∀ j y q : Nat, j ≤ 8 → -400 * ((j : Int) + 1) ≤ (totL T kd tl n c tn L e j y q).toInt ∧ (totL T kd tl n c tn L e j y q).toInt ≤ 400 * ((j : Int) + 1) := by
  intro j
  induction j with
  | zero =>
    intro y q _
    have h := wth_in T hT n y q
    show -400 * (((0 : Nat) : Int) + 1) ≤ (wth T n y q + 0).toInt ∧ (wth T n y q + 0).toInt ≤ 400 * (((0 : Nat) : Int) + 1)
    generalize wth T n y q = a at h ⊢
    rw [iI_of a, z_0, iI_add, iI_toInt (by omega)]
    omega
  | succ j ih =>
    intro y q hj
    have h := wth_in T hT n y q
    have h2 := ih (bh n y (pkL T kd tl n c tn L e (j + 1) y)) q (by omega)
    rw [totL_s]
    generalize wth T n y q = a at h ⊢
    generalize totL T kd tl n c tn L e j (bh n y (pkL T kd tl n c tn L e (j + 1) y)) q = b at h2 ⊢
    rw [iI_of a, iI_of b, iI_add, iI_toInt (by omega)]
    omega
theorem totL_sml (hT : TOK T) (L : Int32) (e : Nat) {j y q : Nat} (hj : j < 8) : sml 16 (totL T kd tl n c tn L e j y q + 10000) := by
  have h := totL_in (kd := kd) (tl := tl) (tn := tn) (n := n) (c := c) hT L e j y q (by omega)
  generalize totL T kd tl n c tn L e j y q = a at h ⊢
  rw [iI_of a, z_10000, iI_add]
  exact sml_of (by omega) (by omega)
theorem back_10000 (a : Int32) : a + 10000 - 10000 = a := by
  rw [iI_of a, z_10000, iI_add, iI_sub]
  congr 1
  omega
def MO (T : TW) (kd tl : Nat → Nat) (n c : Nat) (tn : Nat → Nat) (L : Int32) (e : Nat) (s : SS) : Prop := ∀ y j, y < szR n → j < 8 → gl 4 s 42 (br n + y) j = 0 ∨ (gl 4 s 42 (br n + y) j = iI ((pkL T kd tl n c tn L e j y + 1 : Nat) : Int) ∧ (∀ q, q < 4 → gl 16 s 43 (8 * (br n + y) + j) q = totL T kd tl n c tn L e j y q + 10000) ∧ ∀ i, j = i + 1 → gl 4 s 42 (br n + bh n y (pkL T kd tl n c tn L e j y)) i ≠ 0)
def LKS (T : TW) (kd tl : Nat → Nat) (n c : Nat) (tn : Nat → Nat) (L : Int32) (e : Nat) (s : SS) : Prop := CW T kd tl c tn s ∧ MO T kd tl n c tn L e s ∧ s 41 7 = L
def FM (s t : SS) : Prop := ∀ w j, j < 8 → gl 4 s 42 w j ≠ 0 → gl 4 t 42 w j ≠ 0
theorem FM.rf (s : SS) : FM s s := fun _ _ _ h => h
theorem FM.tr (h : FM s t) (g : FM t u) : FM s u := fun w j b a => g w j b (h w j b a)
/-- of more than i days left nothing new is told -/
def UP (i : Nat) (s t : SS) : Prop := ∀ w j, i < j → j < 8 → gl 4 t 42 w j = gl 4 s 42 w j
theorem UP.rf (i : Nat) (s : SS) : UP i s s := fun _ _ _ _ => rfl
theorem UP.tr {i : Nat} (h : UP i s t) (g : UP i t u) : UP i s u := fun w j a b => (g w j a b).trans (h w j a b)
theorem UP.m {i k : Nat} (h : UP i s t) (hk : i ≤ k) : UP k s t := fun w j a b => h w j (by omega) b
theorem UP.cell {i : Nat} (e : t 42 = s 42) : UP i s t := fun w j _ _ => gl_cell e
theorem LKS.q {L : Int32} {e : Nat} (h : LKS T kd tl n c tn L e s) (g : CQ s t) (f : CW T kd tl c tn t) : LKS T kd tl n c tn L e t ∧ FM s t ∧ CZ 42 43 s t := by
  have e2 : ∀ k, 34 < k → t k = s k := fun k a => g.1 k (by omega) (by omega) (by omega) (by omega) (by omega)
  refine ⟨⟨f, ?_, by rw [e2 41 (by omega)]; exact h.2.2⟩, fun w j _ a => by rw [gl_cell (e2 42 (by omega))]; exact a, g.z⟩
  unfold MO gl
  rw [e2 42 (by omega), e2 43 (by omega)]
  exact h.2.1
theorem CQ.up42 {i : Nat} (g : CQ s t) : UP i s t := UP.cell (g.1 42 (by omega) (by omega) (by omega) (by omega) (by omega))
theorem has_bt0 {x : Int32} {l : Nat} (hl : l < 32) : ((x >>> (iI l &&& 31)) &&& 1 = 0) ↔ bt x l = false := by
  obtain ⟨j, hj, e⟩ := pk_andE (x >>> (iI l &&& 31)) (m := 1) 1 (by decide)
  have h := has_bt (x := x) (l := l) hl
  rw [e] at h ⊢
  obtain rfl | rfl : j = 0 ∨ j = 1 := by omega
  · have h2 : ¬ bt x l = true := mt h.mpr (by decide)
    constructor
    · intro _; simpa using h2
    · intro _; rfl
  · have h2 : bt x l = true := h.mp rfl
    constructor
    · intro w; exact absurd w (by decide)
    · intro w; rw [h2] at w; exact absurd w (by decide)
theorem ol_c8 (n y j : Nat) : wl_ n y * 8 + iI j = iI ((8 * (br n + y) + j : Nat) : Int) := by
  unfold wl_
  rw [z_8, iI_mul, iI_add]
  congr 1
  omega
theorem ol_tot (W : WOK T kd tl n c tn) {y j q : Nat} {v : Int32} (hy : y < szR n) (hj : j < 8) (hq : q < 4) (s : SS) (h : gl 16 s 43 (8 * (br n + y) + j) q = v + 10000) : f_X3_totalOf (wl_ n y) (iI j) (iI q) s = some v := by
  have hb := W.sz hy
  unfold f_X3_totalOf
  refine e_lt ?_
  rw [ol_c8]
  refine e_if_f (by simp (disch := omega) only [Int.toNat_natCast, iI_lt, iI_le, iI_eq, iI_add, iI_sub, iI_mul, iI_neg, iI_clamp, inb_ii, z_0]; omega) ?_
  refine e_if_f (by simp (disch := omega) only [Int.toNat_natCast, iI_lt, iI_le, iI_eq, iI_add, iI_sub, iI_mul, iI_neg, iI_clamp, inb_ii, z_0]; omega) ?_
  refine e_if_t (by simp (disch := omega) only [Int.toNat_natCast, iI_lt, iI_le, iI_eq, iI_add, iI_sub, iI_mul, iI_neg, iI_clamp, inb_ii, z_42784]; omega) ?_
  refine e_gd (by simp (disch := omega) only [Int.toNat_natCast, iI_lt, iI_le, iI_eq, iI_add, iI_sub, iI_mul, iI_neg, iI_clamp, inb_ii]; omega) ?_
  rw [iI_clamp (by omega), Int.toNat_natCast]
  refine e_bdp (slot_of _ _ _ _) ?_
  show some (gl 16 s 43 (8 * (br n + y) + j) q - 10000) = some v
  rw [h, back_10000]
theorem ol_totN {q : Nat} (hq : q < 4) (w : Int32) (s : SS) : f_X3_totalOf w (-1) (iI q) s = some 0 := by
  unfold f_X3_totalOf
  refine e_lt ?_
  exact e_if_t (by decide) rfl
theorem pr_s (i : Nat) : iI ((i + 1 : Nat) : Int) - 1 = iI (i : Int) := by
  rw [z_1, iI_sub]
  congr 1
  omega
/-- what is told of the look for i days left -/
def LKH (T : TW) (kd tl : Nat → Nat) (n c : Nat) (tn : Nat → Nat) (L : Int32) (e : Nat) (i : Nat) (rf : Int32 → Int32 → Int32 → SS → Res) : Prop := ∀ (y : Nat) (s : SS), y < szR n → LKS T kd tl n c tn L e s → ∃ t, rf (wl_ n y) (iI (plE c e i)) (iI i) s = some (0, t) ∧ CZ 42 43 s t ∧ LKS T kd tl n c tn L e t ∧ FM s t ∧ gl 4 t 42 (br n + y) i ≠ 0 ∧ UP i s t
theorem MO.tot {L : Int32} {e : Nat} (h : MO T kd tl n c tn L e s) {y j : Nat} (hy : y < szR n) (hj : j < 8) (hf : gl 4 s 42 (br n + y) j ≠ 0) : gl 4 s 42 (br n + y) j = iI ((pkL T kd tl n c tn L e j y + 1 : Nat) : Int) ∧ (∀ q, q < 4 → gl 16 s 43 (8 * (br n + y) + j) q = totL T kd tl n c tn L e j y q + 10000) ∧ ∀ i, j = i + 1 → gl 4 s 42 (br n + bh n y (pkL T kd tl n c tn L e j y)) i ≠ 0 := (h y j hy hj).resolve_left hf
theorem cl_pickL (W : WOK T kd tl n c tn) {L : Int32} {e i : Nat} (hi : i < 8) {rf : Int32 → Int32 → Int32 → SS → Res} (H : LKH T kd tl n c tn L e i rf) {y m : Nat} (hy : y < szR n) (hm : m < 4) : ∀ (k N l : Nat) (s : SS), l + k = 8 → k < N → LKS T kd tl n c tn L e s → ∃ t, lp_X3_pickOn_92 rf (wl_ n y) (iI ((i + 1 : Nat) : Int)) (iI m) (iI (plE c e i)) (may T n y m) N (iI (amx (fun l => totL T kd tl n c tn L e i (bh n y l) m) (may T n y m) l).1) (amx (fun l => totL T kd tl n c tn L e i (bh n y l) m) (may T n y m) l).2 (iI l) s = some (iI (amx (fun l => totL T kd tl n c tn L e i (bh n y l) m) (may T n y m) 8).1, t) ∧ CZ 42 43 s t ∧ LKS T kd tl n c tn L e t ∧ FM s t ∧ UP i s t := by
  intro k
  induction k with
  | zero =>
    intro N l s hl hN hs
    cases N with
    | zero => omega
    | succ N =>
      obtain rfl : l = 8 := by omega
      refine ⟨s, ?_, CZ.rf _ _ _, hs, FM.rf s, UP.rf _ _⟩
      rw [lp_X3_pickOn_92]
      exact e_if_t (by decide) rfl
  | succ k ih =>
    intro N l s hl hN hs
    cases N with
    | zero => omega
    | succ N =>
      have hl8 : l < 8 := by omega
      have ea : amx (fun l => totL T kd tl n c tn L e i (bh n y l) m) (may T n y m) (l + 1) = if bt (may T n y m) l = true ∧ (amx (fun l => totL T kd tl n c tn L e i (bh n y l) m) (may T n y m) l).2 < totL T kd tl n c tn L e i (bh n y l) m then (l, totL T kd tl n c tn L e i (bh n y l) m) else amx (fun l => totL T kd tl n c tn L e i (bh n y l) m) (may T n y m) l := rfl
      generalize amx (fun l => totL T kd tl n c tn L e i (bh n y l) m) (may T n y m) l = r at ea ⊢
      have hh := has_bt (x := may T n y m) (l := l) (by omega)
      by_cases q : bt (may T n y m) l = true
      · have zb := cw_behind W hs.1 hy (l := l) (by omega)
        have hb2 := bh_lt W.2.2.2 hy (l := l) (by omega)
        obtain ⟨t1, e1, e2, e3, e4, e5, e6⟩ := H _ _ hb2 hs
        have et := ol_tot W hb2 hi hm t1 ((e3.2.1.tot hb2 hi e5).2.1 m hm)
        obtain ⟨t, f1, f2, f3, f4, f5⟩ := ih N (l + 1) t1 (by omega) (by omega) e3
        refine ⟨t, ?_, e2.tr f2, f3, e4.tr f4, e6.tr f5⟩
        rw [lp_X3_pickOn_92]
        refine e_if_f (by simp (disch := omega) only [Int.toNat_natCast, iI_lt, iI_le, iI_eq, iI_add, iI_sub, iI_mul, iI_neg, iI_clamp, inb_ii, z_8]; omega) ?_
        refine e_jn ?_
        refine e_if_t (hh.mpr q) ?_
        refine e_bdp zb ?_
        rw [pr_s]
        refine e_bd e1 ?_
        refine e_bdp et ?_
        by_cases q2 : r.2 < totL T kd tl n c tn L e i (bh n y l) m
        · rw [if_pos ⟨q, q2⟩] at ea
          rw [ea] at f1
          refine e_if_f (Int32.not_le.mpr q2) ?_
          rw [nx_s]
          exact f1
        · rw [if_neg (fun w => q2 w.2)] at ea
          rw [ea] at f1
          refine e_if_t (Int32.not_lt.mp q2) ?_
          rw [nx_s]
          exact f1
      · rw [if_neg (fun w => q w.1)] at ea
        obtain ⟨t, f1, f2, f3, f4, f5⟩ := ih N (l + 1) s (by omega) (by omega) hs
        rw [ea] at f1
        refine ⟨t, ?_, f2, f3, f4, f5⟩
        rw [lp_X3_pickOn_92]
        refine e_if_f (by simp (disch := omega) only [Int.toNat_natCast, iI_lt, iI_le, iI_eq, iI_add, iI_sub, iI_mul, iI_neg, iI_clamp, inb_ii, z_8]; omega) ?_
        refine e_jn ?_
        refine e_if_f (mt hh.mp q) ?_
        rw [nx_s]
        exact f1
theorem cl_pick (W : WOK T kd tl n c tn) {L : Int32} {e i : Nat} (hi : i < 8) {rf : Int32 → Int32 → Int32 → SS → Res} (H : LKH T kd tl n c tn L e i rf) {y : Nat} (hy : y < szR n) {s : SS} (hs : LKS T kd tl n c tn L e s) : ∃ t, f_X3_pickOn rf (wl_ n y) (iI (plE c e (i + 1))) (iI ((i + 1 : Nat) : Int)) s = some (iI (pkL T kd tl n c tn L e (i + 1) y), t) ∧ CZ 42 43 s t ∧ LKS T kd tl n c tn L e t ∧ FM s t ∧ UP i s t := by
  have hp : plE c e (i + 1) < c := plE_lt W.cc.1
  have hm := W.tt hp
  have ep : pkL T kd tl n c tn L e (i + 1) y = if bt L (tn (plE c e (i + 1))) = true then (amx (fun l => totL T kd tl n c tn L e i (bh n y l) (tn (plE c e (i + 1)))) (may T n y (tn (plE c e (i + 1)))) 8).1 else cho T kd tl n y (tn (plE c e (i + 1))) := rfl
  have ht := cw_turn W hs.1 hp
  have ha := cw_after W hs.1 hp
  rw [plE_s W.cc.1 (by omega)] at ha
  generalize tn (plE c e (i + 1)) = m at hm ep ht
  have hb0 := has_bt0 (x := L) (l := m) (by omega)
  unfold f_X3_pickOn
  by_cases q : bt L m = true
  · rw [if_pos q] at ep
    obtain ⟨t1, e1, e2, e3⟩ := cw_may W hs.1 hy hm
    obtain ⟨g1, g2, g3⟩ := hs.q e2 e3
    obtain ⟨t2, a1, a2, a3, a4, a5, a6⟩ := H y t1 hy g1
    have et := ol_tot W hy hi hm t2 ((a3.2.1.tot hy hi a5).2.1 m hm)
    obtain ⟨t, f1, f2, f3, f4, f5⟩ := cl_pickL W hi H hy hm 8 FU 0 t2 rfl (fu_lt (by omega)) a3
    refine ⟨t, ?_, (g3.tr a2).tr f2, f3, (g2.tr a4).tr f4, ((e2.up42).tr a6).tr f5⟩
    refine e_bdp ht ?_
    refine e_bdp (person_ok hm) ?_
    refine e_jn ?_
    refine e_if_f (by decide) ?_
    refine e_if_f (by rw [hs.2.2]; exact mt hb0.mp (by rw [q]; decide)) ?_
    refine e_bdp ha ?_
    refine e_bd e1 ?_
    rw [pr_s]
    refine e_bd a1 ?_
    refine e_bdp et ?_
    rw [ep]
    exact f1
  · rw [if_neg q] at ep
    obtain ⟨t1, e1, e2, e3⟩ := cw_choice W hs.1 hy hm
    obtain ⟨g1, g2, g3⟩ := hs.q e2 e3
    refine ⟨t1, ?_, g3, g1, g2, e2.up42⟩
    refine e_bdp ht ?_
    refine e_bdp (person_ok hm) ?_
    refine e_jn ?_
    refine e_if_f (by decide) ?_
    refine e_if_t (by rw [hs.2.2]; exact hb0.mpr (by simpa using q)) ?_
    refine e_bd e1 ?_
    rw [ep]
