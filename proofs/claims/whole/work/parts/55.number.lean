/-! number -/
variable {T : TW} {kd tl tn : Nat → Nat} {n c x p : Nat} {s t u : SS}
theorem rr_changes (s : SS) : ∃ t, f_X12_changes s = some (0, t) ∧ (∀ k, k ≠ 81 → k ≠ 83 → t k = s k) ∧ ∀ j, j < 18724 → t 81 j = 0 ∧ t 83 j = 0 := by
  have lp : ∀ m N i : Nat, ∀ s : SS, i + m = 18724 → m < N → ∃ t, lp_X12_changes_2 N (iI i) s = some (0, t) ∧ (∀ k, k ≠ 81 → k ≠ 83 → t k = s k) ∧ (∀ j, i ≤ j → j < 18724 → t 81 j = 0 ∧ t 83 j = 0) ∧ ∀ j, j < i → t 81 j = s 81 j ∧ t 83 j = s 83 j := by
    intro m
    induction m with
    | zero =>
      intro N i s hi2 hN
      cases N with
      | zero => omega
      | succ N =>
        refine ⟨s, ?_, fun _ _ _ => rfl, fun j a b => by omega, fun _ _ => ⟨rfl, rfl⟩⟩
        rw [lp_X12_changes_2]
        exact e_if_t (by simp (disch := omega) only [Int.toNat_natCast, iI_lt, iI_le, iI_eq, iI_add, iI_sub, iI_mul, iI_neg, iI_clamp, inb_ii, z_18724]; omega) rfl
    | succ m ih =>
      intro N i s hi2 hN
      cases N with
      | zero => omega
      | succ N =>
        obtain ⟨t, f1, f2, f3, f4⟩ := ih N (i + 1) (up (up s 81 i 0) 83 i 0) (by omega) (by omega)
        have ecl : Int32.toNatClampNeg (iI (i : Int)) = i := by rw [iI_clamp (by omega), Int.toNat_natCast]
        refine ⟨t, ?_, fun k a b => by rw [f2 k a b, up_cell b, up_cell a], ?_, ?_⟩
        · rw [lp_X12_changes_2]
          refine e_if_f (by simp (disch := omega) only [Int.toNat_natCast, iI_lt, iI_le, iI_eq, iI_add, iI_sub, iI_mul, iI_neg, iI_clamp, inb_ii, z_18724]; omega) ?_
          refine e_gd (by simp (disch := omega) only [Int.toNat_natCast, iI_lt, iI_le, iI_eq, iI_add, iI_sub, iI_mul, iI_neg, iI_clamp, inb_ii]; omega) ?_
          refine e_lts ?_
          refine e_gd (by simp (disch := omega) only [Int.toNat_natCast, iI_lt, iI_le, iI_eq, iI_add, iI_sub, iI_mul, iI_neg, iI_clamp, inb_ii]; omega) ?_
          refine e_lts ?_
          rw [nx_s, ecl, vnb0]
          exact f1
        · intro j a b
          by_cases e : j = i
          · subst e
            have := f4 j (by omega)
            rw [this.1, this.2, up_at, up_cell (by omega), up_at]
            exact ⟨rfl, rfl⟩
          · exact f3 j (by omega) b
        · intro j a
          have := f4 j (by omega)
          rw [this.1, this.2, up_slot (by omega), up_cell (by omega), up_slot (by omega), up_cell (by omega)]
          exact ⟨rfl, rfl⟩
  obtain ⟨t, f1, f2, f3, _⟩ := lp 18724 FU 0 s rfl (fu_lt (by omega))
  exact ⟨t, f1, f2, fun j a => f3 j (by omega) a⟩
/-- the reference with another length, its kept answers forgotten -/
theorem rw_len_to {m : Nat} (h : RW_ T kd tl n c tn s) (hm : 1 ≤ m ∧ m ≤ 4) : ∃ t, f_X12_changes (up s 56 3 (iI m)) = some (0, t) ∧ RW_ T kd tl m c tn t ∧ (∀ k, k ≠ 81 → k ≠ 83 → k ≠ 56 → t k = s k) ∧ ∀ j, j ≠ 3 → t 56 j = s 56 j := by
  obtain ⟨t, e1, e2, e3⟩ := rr_changes (up s 56 3 (iI m))
  obtain ⟨⟨h1, h2, h3, h4⟩, h5, h6⟩ := h
  have ek : ∀ k, k ≠ 81 → k ≠ 83 → k ≠ 56 → t k = s k := fun k a b d => by rw [e2 k a b, up_cell d]
  have es : ∀ j, j ≠ 3 → t 56 j = s 56 j := fun j a => by rw [e2 56 (by omega) (by omega), up_slot a]
  refine ⟨t, e1, ⟨⟨?_, by rw [e2 56 (by omega) (by omega), up_at], h3.of (fun k _ _ => ek k (by omega) (by omega) (by omega)) (es 17 (by omega)), ?_⟩, ?_, ?_⟩, ek, es⟩
  · unfold RTB at h1 ⊢
    rw [es 2 (by omega), ek 58 (by omega) (by omega) (by omega), ek 59 (by omega) (by omega) (by omega), ek 60 (by omega) (by omega) (by omega), ek 61 (by omega) (by omega) (by omega)]
    exact h1
  · intro y p hy hv hp
    have hy2 := (sz_lt hm hy).2
    have := e3 (4 * y + p) (by omega)
    exact ⟨Or.inl this.1, Or.inl this.2⟩
  · unfold RKD at h5 ⊢
    rw [ek 63 (by omega) (by omega) (by omega), ek 64 (by omega) (by omega) (by omega)]
    exact h5
  · unfold RTR at h6 ⊢
    rw [es 5 (by omega), ek 62 (by omega) (by omega) (by omega)]
    exact h6
theorem WOK.len (W : WOK T kd tl n c tn) {m : Nat} (hm : 1 ≤ m ∧ m ≤ 4) : WOK T kd tl m c tn := ⟨W.1, W.2.1, W.2.2.1, hm⟩
/-- the best of the lengths 1 .. k: length, sum, days -/
def nbF (T : TW) (kd tl : Nat → Nat) (c : Nat) (tn : Nat → Nat) (D A : Nat → Nat) (a : Nat) : Nat → Int32 × Int32 × Nat
  | 0 => (0, 0, 1)
  | k + 1 =>
    let r := nbF T kd tl c tn D A a k
    let v := rgS T kd tl (k + 1) c tn 0 0 (D (k + 1)) a (D (k + 1) - A (k + 1))
    if r.1 = 0 ∨ (0 : Int32) < lg_cmp (v.toInt64 * (iI (r.2.2 : Int)).toInt64) (r.2.1.toInt64 * (iI ((D (k + 1) - A (k + 1) : Nat) : Int)).toInt64) then (iI ((k + 1 : Nat) : Int), v, D (k + 1) - A (k + 1)) else r
theorem nbF_s (D A : Nat → Nat) (a k : Nat) : nbF T kd tl c tn D A a (k + 1) = if (nbF T kd tl c tn D A a k).1 = 0 ∨ (0 : Int32) < lg_cmp ((rgS T kd tl (k + 1) c tn 0 0 (D (k + 1)) a (D (k + 1) - A (k + 1))).toInt64 * (iI ((nbF T kd tl c tn D A a k).2.2 : Int)).toInt64) ((nbF T kd tl c tn D A a k).2.1.toInt64 * (iI ((D (k + 1) - A (k + 1) : Nat) : Int)).toInt64) then (iI ((k + 1 : Nat) : Int), rgS T kd tl (k + 1) c tn 0 0 (D (k + 1)) a (D (k + 1) - A (k + 1)), D (k + 1) - A (k + 1)) else nbF T kd tl c tn D A a k := rfl
def RN4 (T : TW) (kd tl : Nat → Nat) (c : Nat) (tn : Nat → Nat) (D A : Nat → Nat) : Prop := ∀ m, 1 ≤ m → m ≤ 4 → RNG (qcR T kd tl m c tn 0 0) (D m) (A m)
theorem nbF_in (hT : TOK T) {D A : Nat → Nat} (hR : RN4 T kd tl c tn D A) (a : Nat) : ∀ k, k ≤ 4 → (0 ≤ (nbF T kd tl c tn D A a k).1.toInt ∧ (nbF T kd tl c tn D A a k).1.toInt ≤ 4) ∧ -2147483648 < (nbF T kd tl c tn D A a k).2.1.toInt ∧ 1 ≤ (nbF T kd tl c tn D A a k).2.2 ∧ (nbF T kd tl c tn D A a k).2.2 ≤ 18724 := by
  intro k
  induction k with
  | zero => intro _; unfold nbF; decide
  | succ k ih =>
    intro hk
    rw [nbF_s]
    have hr := hR (k + 1) (by omega) hk
    have h1 := hr.1
    have h2 := hr.2.1
    have h3 := rgS_in (kd := kd) (tl := tl) (tn := tn) (n := k + 1) (c := c) (x := 0) (p := 0) hT (D (k + 1)) a (D (k + 1) - A (k + 1)) (by omega)
    split
    · refine ⟨?_, by show -2147483648 < (rgS T kd tl (k + 1) c tn 0 0 (D (k + 1)) a (D (k + 1) - A (k + 1))).toInt; omega, by show 1 ≤ D (k + 1) - A (k + 1); omega, by show D (k + 1) - A (k + 1) ≤ 18724; omega⟩
      show 0 ≤ (iI ((k + 1 : Nat) : Int)).toInt ∧ (iI ((k + 1 : Nat) : Int)).toInt ≤ 4
      rw [iI_toInt (by omega)]
      omega
    · exact ih (by omega)
def ansNum (T : TW) (kd tl : Nat → Nat) (c : Nat) (tn : Nat → Nat) (D A : Nat → Nat) (a1 a2 : Int32) : Int32 :=
  if ¬ (0 ≤ a1.toInt ∧ a1.toInt ≤ 3) ∨ ¬ (0 ≤ a2.toInt ∧ a2.toInt ≤ 2) then -1000000
  else
    let r := nbF T kd tl c tn D A a1.toInt.toNat 4
    if a2 = 0 then r.1 else if a2 = 1 then r.2.1 / gcI r.2.1 r.2.2 else iI r.2.2 / gcI r.2.1 r.2.2
theorem vr_0 : VR T 0 := fun i h => by rw [mny_0 (by omega)] at h; omega
theorem sz_pos {m : Nat} (hm : 1 ≤ m ∧ m ≤ 4) : 0 < szR m := by have := br_le hm; omega
theorem wl_0 (m : Nat) : wl_ m 0 = iI (br m) := rfl
theorem cc_numL (W : WOK T kd tl n c tn) {D A : Nat → Nat} (hR : RN4 T kd tl c tn D A) {a : Nat} (ha : a < 4) (a2 : Int32) (K : Int32 → Int32 → Int32 → SS → Res) : ∀ (m N k : Nat) (s : SS), k + m = 4 → m < N → CW T kd tl c tn s → ∃ t, lp_X11_number_29 (iI a) a2 K N (nbF T kd tl c tn D A a k).1 (nbF T kd tl c tn D A a k).2.1 (iI (nbF T kd tl c tn D A a k).2.2) (iI ((k + 1 : Nat) : Int)) s = K (nbF T kd tl c tn D A a 4).1 (nbF T kd tl c tn D A a 4).2.1 (iI (nbF T kd tl c tn D A a 4).2.2) t ∧ CZ 39 40 s t ∧ CW T kd tl c tn t := by
  intro m
  induction m with
  | zero =>
    intro N k s hk hN hs
    cases N with
    | zero => omega
    | succ N =>
      obtain rfl : k = 4 := by omega
      refine ⟨s, ?_, CZ.rf _ _ _, hs⟩
      rw [lp_X11_number_29]
      exact e_if_t (by decide) rfl
  | succ m ih =>
    intro N k s hk hN hs
    cases N with
    | zero => omega
    | succ N =>
      have hk4 : 1 ≤ k + 1 ∧ k + 1 ≤ 4 := by omega
      have W2 := W.len hk4
      have hr := hR (k + 1) (by omega) (by omega)
      have hc := W.cc
      obtain ⟨t1, e1, e2, e3, _, e5, e6⟩ := cc_find W2 (sz_pos hk4) vr_0 (by omega) hr hs
      obtain ⟨t2, g1, g2, g3, g4⟩ := cc_sum W2 (sz_pos hk4) vr_0 hr ha e3 e5 e6
      obtain ⟨t, f1, f2, f3⟩ := ih N (k + 1) t2 (by omega) (by omega) g3
      refine ⟨t, ?_, (e2.tr g2).tr f2, f3⟩
      have hb := (nbF_in (hT := W.1) hR a k (by omega)).1
      rw [nbF_s] at f1
      rw [lp_X11_number_29]
      refine e_if_f (by simp (disch := omega) only [Int.toNat_natCast, iI_lt, iI_le, iI_eq, iI_add, iI_sub, iI_mul, iI_neg, iI_clamp, inb_ii, z_4]; omega) ?_
      refine e_bdp (rw_bare (by omega)) ?_
      rw [wl_0] at e1
      refine e_bd e1 ?_
      refine e_bd g1 ?_
      refine e_jn ?_
      refine e_jn ?_
      rw [g4]
      rw [nx_s (k + 1)]
      by_cases q : (nbF T kd tl c tn D A a k).1 = 0
      · rw [if_pos (Or.inl q)] at f1
        refine e_if_t q ?_
        exact e_lt f1
      · refine e_if_f q ?_
        by_cases q2 : (0 : Int32) < lg_cmp ((rgS T kd tl (k + 1) c tn 0 0 (D (k + 1)) a (D (k + 1) - A (k + 1))).toInt64 * (iI ((nbF T kd tl c tn D A a k).2.2 : Int)).toInt64) ((nbF T kd tl c tn D A a k).2.1.toInt64 * (iI ((D (k + 1) - A (k + 1) : Nat) : Int)).toInt64)
        · rw [if_pos (Or.inr q2)] at f1
          refine e_if_f (Int32.not_le.mpr q2) ?_
          exact e_lt f1
        · rw [if_neg (by intro w; rcases w with w | w; exact q w; exact q2 w)] at f1
          refine e_if_t (Int32.not_lt.mp q2) ?_
          exact f1
theorem cc_number (W : WOK T kd tl n c tn) {D A : Nat → Nat} (hR : RN4 T kd tl c tn D A) (a1 a2 : Int32) {s : SS} (h : CW T kd tl c tn s) : ∃ t, f_X11_number a1 a2 s = some (ansNum T kd tl c tn D A a1 a2, t) ∧ CZ 39 40 s t ∧ CW T kd tl c tn t := by
  have pf := person_f a1 s
  have wf := within_f a2 2 s
  have w2 : (2 : Int32).toInt = 2 := rfl
  unfold f_X11_number
  by_cases q1 : 0 ≤ a1.toInt ∧ a1.toInt ≤ 3
  · rw [if_pos q1] at pf
    by_cases q2 : 0 ≤ a2.toInt ∧ a2.toInt ≤ 2
    · rw [if_pos (by omega)] at wf
      have ea := e_lit (a := a1) (k := (a1.toInt.toNat : Nat)) (by omega)
      obtain ⟨t, f1, f2, f3⟩ := cc_numL W hR (a := a1.toInt.toNat) (by omega) a2 (fun v5 v6 v7 s8 => if a2 = 0 then some (v5, s8) else jn (fun (v11 : Int32) => bdp (f_X11_reduced v11 v6 v7 s8) (fun (v13 : Int32) => some (v13, s8))) (fun (k12 : Int32 → Res) => if a2 = (1 : Int32) then k12 v6 else k12 v7)) 4 FU 0 s rfl (fu_lt (by omega)) h
      refine ⟨t, ?_, f2, f3⟩
      refine e_bdp pf ?_
      refine e_if_f (by decide) ?_
      refine e_bdp wf ?_
      refine e_if_f (by decide) ?_
      refine e_jn ?_
      rw [← ea] at f1
      refine Eq.trans f1 ?_
      have hb := nbF_in (hT := W.1) hR a1.toInt.toNat 4 (by omega)
      have fin : ansNum T kd tl c tn D A a1 a2 = (if a2 = 0 then (nbF T kd tl c tn D A a1.toInt.toNat 4).1 else if a2 = 1 then (nbF T kd tl c tn D A a1.toInt.toNat 4).2.1 / gcI (nbF T kd tl c tn D A a1.toInt.toNat 4).2.1 (nbF T kd tl c tn D A a1.toInt.toNat 4).2.2 else iI (nbF T kd tl c tn D A a1.toInt.toNat 4).2.2 / gcI (nbF T kd tl c tn D A a1.toInt.toNat 4).2.1 (nbF T kd tl c tn D A a1.toInt.toNat 4).2.2) := by
        unfold ansNum
        exact if_neg (by omega)
      rw [fin]
      by_cases z : a2 = 0
      · refine e_if_t z ?_
        rw [if_pos z]
      · refine e_if_f z ?_
        rw [if_neg z]
        refine e_jn ?_
        by_cases z1 : a2 = 1
        · refine e_if_t z1 ?_
          rw [if_pos z1]
          exact e_bdp (cc_red hb.2.1 hb.2.2 t) rfl
        · refine e_if_f z1 ?_
          rw [if_neg z1]
          exact e_bdp (cc_red hb.2.1 hb.2.2 t) rfl
    · rw [if_neg (by omega)] at wf
      refine ⟨s, ?_, CZ.rf _ _ _, h⟩
      unfold ansNum
      rw [if_pos (Or.inr q2)]
      refine e_bdp pf ?_
      refine e_if_f (by decide) ?_
      refine e_bdp wf ?_
      exact e_if_t rfl rfl
  · rw [if_neg q1] at pf
    refine ⟨s, ?_, CZ.rf _ _ _, h⟩
    unfold ansNum
    rw [if_pos (Or.inl q1)]
    refine e_bdp pf ?_
    exact e_if_t rfl rfl
/-- what number of the reference may change -/
def RN (s t : SS) : Prop := (∀ k, k ≠ 56 → (k < 78 ∨ (84 < k ∧ k < 89) ∨ 93 < k) → t k = s k) ∧ ∀ j, ¬ rsl j → j ≠ 3 → j ≠ 48 → j ≠ 49 → j ≠ 50 → j ≠ 60 → j ≠ 61 → j ≠ 62 → t 56 j = s 56 j
theorem RN.tr (h : RN s t) (g : RN t u) : RN s u := ⟨fun k a b => (g.1 k a b).trans (h.1 k a b), fun j a b c d e f i w => (g.2 j a b c d e f i w).trans (h.2 j a b c d e f i w)⟩
theorem RN.rf (s : SS) : RN s s := ⟨fun _ _ _ => rfl, fun _ _ _ _ _ _ _ _ _ => rfl⟩
theorem RZ.rn (h : RZ s t) : RN s t := ⟨h.1, fun j a _ b c d e f i => h.2 j a b c d e f i⟩
theorem RN.z (h : RN s t) (e : t 56 3 = s 56 3) : RZ s t := ⟨h.1, fun j a b c d e1 f i => by
  by_cases q : j = 3
  · rw [q]; exact e
  · exact h.2 j a q b c d e1 f i⟩
theorem cr_numL (W : WOK T kd tl n c tn) {D A : Nat → Nat} (hR : RN4 T kd tl c tn D A) {a : Nat} (ha : a < 4) (a2 v5 : Int32) (K : Int32 → Int32 → Int32 → SS → Res) : ∀ (m N k : Nat) (s : SS), k + m = 4 → m < N → (∃ l, RW_ T kd tl l c tn s) → ∃ t, lp_X12_number_40 (iI a) a2 v5 K N (nbF T kd tl c tn D A a k).1 (nbF T kd tl c tn D A a k).2.1 (iI (nbF T kd tl c tn D A a k).2.2) (iI ((k + 1 : Nat) : Int)) s = K (nbF T kd tl c tn D A a 4).1 (nbF T kd tl c tn D A a 4).2.1 (iI (nbF T kd tl c tn D A a 4).2.2) t ∧ RN s t ∧ ∃ l, RW_ T kd tl l c tn t := by
  intro m
  induction m with
  | zero =>
    intro N k s hk hN hs
    cases N with
    | zero => omega
    | succ N =>
      obtain rfl : k = 4 := by omega
      refine ⟨s, ?_, RN.rf _, hs⟩
      rw [lp_X12_number_40]
      exact e_if_t (by decide) rfl
  | succ m ih =>
    intro N k s hk hN hs
    cases N with
    | zero => omega
    | succ N =>
      have hk4 : 1 ≤ k + 1 ∧ k + 1 ≤ 4 := by omega
      have W2 := W.len hk4
      have hr := hR (k + 1) (by omega) (by omega)
      have hc := W.cc
      obtain ⟨l, hs⟩ := hs
      obtain ⟨t1, e1, e2, e3, e4⟩ := rw_len_to hs hk4
      have n1 : RN s t1 := ⟨fun q a b => e3 q (by omega) (by omega) a, fun j _ b _ _ _ _ _ _ => e4 j b⟩
      obtain ⟨t2, g1, g2, g3, g4, g5, g6⟩ := cr_ring W2 (sz_pos hk4) vr_0 (by omega) hr ha e2
      obtain ⟨t, f1, f2, f3⟩ := ih N (k + 1) t2 (by omega) (by omega) ⟨_, g3⟩
      refine ⟨t, ?_, (n1.tr g2.rn).tr f2, f3⟩
      have hb := (nbF_in (hT := W.1) hR a k (by omega)).1
      rw [nbF_s] at f1
      rw [lp_X12_number_40]
      refine e_if_f (by simp (disch := omega) only [Int.toNat_natCast, iI_lt, iI_le, iI_eq, iI_add, iI_sub, iI_mul, iI_neg, iI_clamp, inb_ii, z_4]; omega) ?_
      refine e_lts ?_
      refine e_bd e1 ?_
      refine e_bd g1 ?_
      refine e_jn ?_
      refine e_jn ?_
      rw [g5, g6]
      rw [nx_s (k + 1)]
      have z0 : (0 : Int32).toInt = 0 := rfl
      by_cases q : (nbF T kd tl c tn D A a k).1 = 0
      · rw [if_pos (Or.inl q)] at f1
        refine e_if_t (by rw [q]; decide) ?_
        exact e_lt f1
      · have q9 : ¬ (nbF T kd tl c tn D A a k).1 ≤ 0 := by
          intro w
          rw [le32] at w
          exact q (Int32.toInt_inj.mp (by omega))
        refine e_if_f q9 ?_
        by_cases q2 : (0 : Int32) < lg_cmp ((rgS T kd tl (k + 1) c tn 0 0 (D (k + 1)) a (D (k + 1) - A (k + 1))).toInt64 * (iI ((nbF T kd tl c tn D A a k).2.2 : Int)).toInt64) ((nbF T kd tl c tn D A a k).2.1.toInt64 * (iI ((D (k + 1) - A (k + 1) : Nat) : Int)).toInt64)
        · rw [if_pos (Or.inr q2)] at f1
          refine e_if_t q2 ?_
          exact e_lt f1
        · rw [if_neg (by intro w; rcases w with w | w; exact q w; exact q2 w)] at f1
          refine e_if_f q2 ?_
          exact f1
theorem cr_number (W : WOK T kd tl n c tn) {D A : Nat → Nat} (hR : RN4 T kd tl c tn D A) (a1 a2 : Int32) {s : SS} (h : RW_ T kd tl n c tn s) : ∃ t, f_X12_number a1 a2 s = some (ansNum T kd tl c tn D A a1 a2, t) ∧ RZ s t ∧ RW_ T kd tl n c tn t := by
  have pf := isSort_f a1 s
  have wf : f_X12_lies (a2.toInt64) 0 2 s = some (if 0 ≤ a2.toInt ∧ a2.toInt ≤ 2 then 1 else 0) := by rw [lies_f, i64_toInt]; rfl
  unfold f_X12_number
  by_cases q1 : 0 ≤ a1.toInt ∧ a1.toInt ≤ 3
  · rw [if_pos q1] at pf
    by_cases q2 : 0 ≤ a2.toInt ∧ a2.toInt ≤ 2
    · rw [if_pos (by omega)] at wf
      have ea := e_lit (a := a1) (k := (a1.toInt.toNat : Nat)) (by omega)
      obtain ⟨t, f1, f2, l, f3⟩ := cr_numL W hR (a := a1.toInt.toNat) (by omega) a2 (s 56 3) (fun v6 v7 v8 s9 => lts (up s9 56 3 (s 56 3)) (fun (s11 : SS) => bd (f_X12_changes s11) (fun (v12 : Int32) (s13 : SS) => bdp (f_X12_divisor v7 v8 s13) (fun (v14 : Int32) => if a2 = 0 then some (v6, s13) else if a2 = (1 : Int32) then gd (¬ (v14 : Int32) = 0) (some (v7 / v14, s13)) else gd (¬ (v14 : Int32) = 0) (some (v8 / v14, s13)))))) 4 FU 0 s rfl (fu_lt (by omega)) ⟨n, h⟩
      obtain ⟨u, g1, g2, g3, g4⟩ := rw_len_to f3 W.2.2.2
      have e3 : s 56 3 = iI n := h.1.2.1
      have n1 : RN t u := ⟨fun q a b => g3 q (by omega) (by omega) a, fun j _ b _ _ _ _ _ _ => g4 j b⟩
      refine ⟨u, ?_, (f2.tr n1).z (g2.1.2.1.trans e3.symm), g2⟩
      refine e_bdp pf ?_
      refine e_if_f (by decide) ?_
      refine e_bdp wf ?_
      refine e_if_f (by decide) ?_
      refine e_lt ?_
      refine e_jn ?_
      rw [← ea] at f1
      refine Eq.trans f1 ?_
      refine e_lts ?_
      rw [e3]
      refine e_bd g1 ?_
      have hb := nbF_in (hT := W.1) hR a1.toInt.toNat 4 (by omega)
      refine e_bdp (cr_div hb.2.1 hb.2.2 u) ?_
      have fin : ansNum T kd tl c tn D A a1 a2 = (if a2 = 0 then (nbF T kd tl c tn D A a1.toInt.toNat 4).1 else if a2 = 1 then (nbF T kd tl c tn D A a1.toInt.toNat 4).2.1 / gcI (nbF T kd tl c tn D A a1.toInt.toNat 4).2.1 (nbF T kd tl c tn D A a1.toInt.toNat 4).2.2 else iI (nbF T kd tl c tn D A a1.toInt.toNat 4).2.2 / gcI (nbF T kd tl c tn D A a1.toInt.toNat 4).2.1 (nbF T kd tl c tn D A a1.toInt.toNat 4).2.2) := by
        unfold ansNum
        exact if_neg (by omega)
      rw [fin]
      by_cases z : a2 = 0
      · refine e_if_t z ?_
        rw [if_pos z]
      · refine e_if_f z ?_
        rw [if_neg z]
        by_cases z1 : a2 = 1
        · refine e_if_t z1 ?_
          rw [if_pos z1]
          exact e_gd (gc_ne hb.2.2) rfl
        · refine e_if_f z1 ?_
          rw [if_neg z1]
          exact e_gd (gc_ne hb.2.2) rfl
    · rw [if_neg (by omega)] at wf
      refine ⟨s, ?_, RZ.rf _, h⟩
      unfold ansNum
      rw [if_pos (Or.inr q2)]
      refine e_bdp pf ?_
      refine e_if_f (by decide) ?_
      refine e_bdp wf ?_
      exact e_if_t rfl rfl
  · rw [if_neg q1] at pf
    refine ⟨s, ?_, RZ.rf _, h⟩
    unfold ansNum
    rw [if_pos (Or.inl q1)]
    refine e_bdp pf ?_
    exact e_if_t rfl rfl
theorem rn4_ex (W : WOK T kd tl n c tn) : ∃ D A, RN4 T kd tl c tn D A := by
  have h : ∀ m, ∃ D A, 1 ≤ m → m ≤ 4 → RNG (qcR T kd tl m c tn 0 0) D A := by
    intro m
    by_cases hm : 1 ≤ m ∧ m ≤ 4
    · obtain ⟨D, A, r⟩ := rng_ex (qcR T kd tl m c tn 0 0) (fun i => qc_lt (W.len hm) (sz_pos hm) vr_0 i)
      exact ⟨D, A, fun _ _ => r⟩
    · exact ⟨0, 0, fun a b => absurd ⟨a, b⟩ hm⟩
  refine ⟨fun m => (h m).choose, fun m => (h m).choose_spec.choose, fun m a b => (h m).choose_spec.choose_spec a b⟩
