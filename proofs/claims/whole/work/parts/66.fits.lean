/-! the tape; fits -/
variable {T : TW} {kd tl tn : Nat → Nat} {n c x p : Nat} {s t u : SS}
def TPO (z : Nat) (b : Nat → Nat) : Prop := z ≤ 220 ∧ ∀ i, i < z → b i < 256
def TPC (z : Nat) (b : Nat → Nat) (s : SS) : Prop := s 1 1 = iI z ∧ ∀ i, i < z → s 2 i = iI (b i)
def sby (v : Nat) : Int := if v < 128 then v else (v : Int) - 256
def TPR (z : Nat) (b : Nat → Nat) (s : SS) : Prop := s 56 1 = iI z ∧ ∀ i, i < z → s 57 i = iI (sby (b i))
theorem tp_byte {z i : Nat} {b : Nat → Nat} (ho : TPO z b) (h : TPC z b s) (hi : i < z) : f_X9_byteOn (iI i) s = some (iI (b i)) := by
  have h1 := ho.1
  have cl : Int32.toNatClampNeg (iI (i : Int)) = i := by simp (disch := omega) only [Int.toNat_natCast, iI_lt, iI_le, iI_eq, iI_add, iI_sub, iI_mul, iI_neg, iI_clamp, inb_ii]
  unfold f_X9_byteOn
  refine e_if_f (by simp (disch := omega) only [Int.toNat_natCast, iI_lt, iI_le, iI_eq, iI_add, iI_sub, iI_mul, iI_neg, iI_clamp, inb_ii, z_0]; omega) ?_
  refine e_if_f (by rw [h.1]; simp (disch := omega) only [Int.toNat_natCast, iI_lt, iI_le, iI_eq, iI_add, iI_sub, iI_mul, iI_neg, iI_clamp, inb_ii]; omega) ?_
  refine e_if_f (by simp (disch := omega) only [Int.toNat_natCast, iI_lt, iI_le, iI_eq, iI_add, iI_sub, iI_mul, iI_neg, iI_clamp, inb_ii, z_220]; omega) ?_
  refine e_gd (by simp (disch := omega) only [Int.toNat_natCast, iI_lt, iI_le, iI_eq, iI_add, iI_sub, iI_mul, iI_neg, iI_clamp, inb_ii]; omega) ?_
  rw [cl, h.2 i hi]
theorem tw_i (k : Nat) : (2 : Int32) * iI (k : Int) = iI ((2 * k : Nat) : Int) := by
  rw [z_2, iI_mul]
  congr 1
def okD (b : Nat → Nat) : Nat → Bool
  | 0 => true
  | k + 1 => okD b k && (decide (b (2 * k) ≤ 7) && decide (b (2 * k + 1) ≤ 1))
def fTo (T : TW) (x : Nat) (d : Nat → Int32) (b : Nat → Nat) : Nat → Bool
  | 0 => true
  | k + 1 => fTo T x d b k && decide ((if d (b (2 * k)) &&& hold T x = 0 then 1 else 0) = b (2 * k + 1))
def ftF (T : TW) (n : Nat) (d : Nat → Int32) (b : Nat → Nat) (m : Nat) : Nat → Nat × Int32 × Int32
  | 0 => (0, 255, 0)
  | k + 1 => if vrB T (fsz n + k) n = true ∧ fTo T (fsz n + k) d b m = true then ((ftF T n d b m k).1 + 1, (ftF T n d b m k).2.1 &&& stn (fsz n + k), (ftF T n d b m k).2.2 ||| stn (fsz n + k)) else ftF T n d b m k
theorem okD_no {b : Nat → Nat} {k : Nat} (h : okD b k = false) : ∀ j, k ≤ j → okD b j = false := by
  intro j
  induction j with
  | zero => intro w; rw [show k = 0 by omega] at h; exact h
  | succ j ih =>
    intro w
    by_cases q : k = j + 1
    · rw [← q]; exact h
    · show (okD b j && _) = false
      rw [ih (by omega)]
      rfl
theorem okD_at {b : Nat → Nat} : ∀ {m : Nat}, okD b m = true → ∀ k, k < m → b (2 * k) ≤ 7 ∧ b (2 * k + 1) ≤ 1 := by
  intro m
  induction m with
  | zero => intro _ k hk; omega
  | succ m ih =>
    intro h k hk
    have h2 : (okD b m && (decide (b (2 * m) ≤ 7) && decide (b (2 * m + 1) ≤ 1))) = true := h
    simp only [Bool.and_eq_true, decide_eq_true_eq] at h2
    by_cases q : k = m
    · rw [q]; exact h2.2
    · exact ih h2.1 k (by omega)
theorem fTo_no {d : Nat → Int32} {b : Nat → Nat} {k : Nat} (h : fTo T x d b k = false) : ∀ j, k ≤ j → fTo T x d b j = false := by
  intro j
  induction j with
  | zero => intro w; rw [show k = 0 by omega] at h; exact h
  | succ j ih =>
    intro w
    by_cases q : k = j + 1
    · rw [← q]; exact h
    · show (fTo T x d b j && _) = false
      rw [ih (by omega)]
      rfl
theorem ftF_le (d : Nat → Int32) (b : Nat → Nat) (m : Nat) : ∀ k, (ftF T n d b m k).1 ≤ k := by
  intro k
  induction k with
  | zero => exact Nat.le_refl 0
  | succ k ih =>
    unfold ftF
    split
    · show (ftF T n d b m k).1 + 1 ≤ k + 1; omega
    · omega
def fitsIn (z : Nat) (a1 a2 : Int32) : Prop := (0 ≤ a1.toInt ∧ a1.toInt ≤ 20) ∧ (0 ≤ a2.toInt ∧ a2.toInt ≤ 2) ∧ 2 * a1.toInt ≤ z
def ansFt (T : TW) (n : Nat) (d : Nat → Int32) (b : Nat → Nat) (a1 a2 : Int32) : Int32 :=
  if okD b a1.toInt.toNat = true then (if a2.toInt = 0 ∨ (ftF T n d b a1.toInt.toNat (szR n - fsz n)).1 = 0 then iI (ftF T n d b a1.toInt.toNat (szR n - fsz n)).1 else if a2.toInt = 1 then (ftF T n d b a1.toInt.toNat (szR n - fsz n)).2.1 else ((1 <<< (iI T.1 &&& 31)) - 1) &&& ((ftF T n d b a1.toInt.toNat (szR n - fsz n)).2.2 ^^^ (-1))) else -2
theorem cc_okD {z m : Nat} {b : Nat → Nat} (ho : TPO z b) (h : TPC z b s) (hm : 2 * m ≤ z) : f_X11_toldDeedsAreFine (iI m) s = some (if okD b m = true then 1 else 0) := by
  have hz := ho.1
  have lp : ∀ (j N k : Nat), k + j = m → j < N → okD b k = true → lp_X11_toldDeedsAreFine_2 (iI m) s N (iI k) = some (if okD b m = true then 1 else 0) := by
    intro j
    induction j with
    | zero =>
      intro N k hk hN hd
      cases N with
      | zero => omega
      | succ N =>
        obtain rfl : k = m := by omega
        rw [lp_X11_toldDeedsAreFine_2, if_pos hd]
        exact e_if_t (by simp (disch := omega) only [Int.toNat_natCast, iI_lt, iI_le, iI_eq, iI_add, iI_sub, iI_mul, iI_neg, iI_clamp, inb_ii]; omega) rfl
    | succ j ih =>
      intro N k hk hN hd
      cases N with
      | zero => omega
      | succ N =>
        have b0 := ho.2 (2 * k) (by omega)
        have b1 := ho.2 (2 * k + 1) (by omega)
        have un : okD b (k + 1) = (okD b k && (decide (b (2 * k) ≤ 7) && decide (b (2 * k + 1) ≤ 1))) := rfl
        have w7 := within_f (iI (b (2 * k) : Int)) 7 s
        have w1 := within_f (iI (b (2 * k + 1) : Int)) 1 s
        rw [iI_toInt (by omega), show (7 : Int32).toInt = 7 from rfl] at w7
        rw [iI_toInt (by omega), show (1 : Int32).toInt = 1 from rfl] at w1
        rw [lp_X11_toldDeedsAreFine_2]
        refine e_if_f (by simp (disch := omega) only [Int.toNat_natCast, iI_lt, iI_le, iI_eq, iI_add, iI_sub, iI_mul, iI_neg, iI_clamp, inb_ii]; omega) ?_
        rw [tw_i]
        refine e_bdp (tp_byte ho h (by omega)) ?_
        by_cases q : b (2 * k) ≤ 7
        · rw [if_pos (by omega)] at w7
          refine e_bdp w7 ?_
          refine e_if_f (by decide) ?_
          rw [nx_s]
          refine e_bdp (tp_byte ho h (by omega)) ?_
          by_cases q2 : b (2 * k + 1) ≤ 1
          · rw [if_pos (by omega)] at w1
            refine e_bdp w1 ?_
            refine e_if_f (by decide) ?_
            rw [nx_s]
            exact ih N (k + 1) (by omega) (by omega) (by rw [un, hd, decide_eq_true q, decide_eq_true q2]; rfl)
          · rw [if_neg (by omega)] at w1
            refine e_bdp w1 ?_
            rw [okD_no (k := k + 1) (by rw [un, decide_eq_false q2]; simp) m (by omega)]
            exact e_if_t rfl rfl
        · rw [if_neg (by omega)] at w7
          refine e_bdp w7 ?_
          rw [okD_no (k := k + 1) (by rw [un, decide_eq_false q]; simp) m (by omega)]
          exact e_if_t rfl rfl
  unfold f_X11_toldDeedsAreFine
  exact lp m FU 0 (by omega) (fu_lt (by omega)) rfl
theorem cc_fTo {z m : Nat} {b : Nat → Nat} {d : Nat → Int32} (ho : TPO z b) (h : TPC z b s) (hm : 2 * m ≤ z) (hk : okD b m = true) (hd : ∀ i, i < 8 → s 54 i = d i) : f_X11_fitsTold (hold T x) (iI m) s = some (if fTo T x d b m = true then 1 else 0) := by
  have hz := ho.1
  have lp : ∀ (j N k : Nat), k + j = m → j < N → fTo T x d b k = true → lp_X11_fitsTold_2 (hold T x) (iI m) s N (iI k) = some (if fTo T x d b m = true then 1 else 0) := by
    intro j
    induction j with
    | zero =>
      intro N k hk hN hd2
      cases N with
      | zero => omega
      | succ N =>
        obtain rfl : k = m := by omega
        rw [lp_X11_fitsTold_2, if_pos hd2]
        exact e_if_t (by simp (disch := omega) only [Int.toNat_natCast, iI_lt, iI_le, iI_eq, iI_add, iI_sub, iI_mul, iI_neg, iI_clamp, inb_ii]; omega) rfl
    | succ j ih =>
      intro N k hk2 hN hd2
      cases N with
      | zero => omega
      | succ N =>
        have hb := okD_at hk k (by omega)
        have un : fTo T x d b (k + 1) = (fTo T x d b k && decide ((if d (b (2 * k)) &&& hold T x = 0 then 1 else 0) = b (2 * k + 1))) := rfl
        have cl : Int32.toNatClampNeg (iI (b (2 * k) : Int)) = b (2 * k) := by simp (disch := omega) only [Int.toNat_natCast, iI_lt, iI_le, iI_eq, iI_add, iI_sub, iI_mul, iI_neg, iI_clamp, inb_ii]
        have fin : ∀ v : Nat, v ≤ 1 → v = (if d (b (2 * k)) &&& hold T x = 0 then 1 else 0) → bdp (f_X9_byteOn ((2 * iI (k : Int)) + 1) s) (fun (v9 : Int32) => if (iI (v : Int) : Int32) = (v9 : Int32) then lp_X11_fitsTold_2 (hold T x) (iI m) s N (iI (k : Int) + 1) else some 0) = some (if fTo T x d b m = true then 1 else 0) := by
          intro v hv1 hv
          rw [← hv] at un
          rw [tw_i, nx_s]
          refine e_bdp (tp_byte ho h (by omega)) ?_
          by_cases q : v = b (2 * k + 1)
          · refine e_if_t (by rw [q]) ?_
            rw [nx_s]
            exact ih N (k + 1) (by omega) (by omega) (by rw [un, hd2, decide_eq_true q]; rfl)
          · refine e_if_f (by simp (disch := omega) only [Int.toNat_natCast, iI_lt, iI_le, iI_eq, iI_add, iI_sub, iI_mul, iI_neg, iI_clamp, inb_ii]; omega) ?_
            rw [fTo_no (k := k + 1) (by rw [un, decide_eq_false q]; simp) m (by omega)]
            rfl
        rw [lp_X11_fitsTold_2]
        refine e_if_f (by simp (disch := omega) only [Int.toNat_natCast, iI_lt, iI_le, iI_eq, iI_add, iI_sub, iI_mul, iI_neg, iI_clamp, inb_ii]; omega) ?_
        refine e_bdp (v := iI (b (2 * k) : Int)) (by rw [tw_i]; exact tp_byte ho h (by omega)) ?_
        refine e_if_f (by simp (disch := omega) only [Int.toNat_natCast, iI_lt, iI_le, iI_eq, iI_add, iI_sub, iI_mul, iI_neg, iI_clamp, inb_ii, z_0]; omega) ?_
        refine e_if_t (by simp (disch := omega) only [Int.toNat_natCast, iI_lt, iI_le, iI_eq, iI_add, iI_sub, iI_mul, iI_neg, iI_clamp, inb_ii, z_8]; omega) ?_
        refine e_gd (by simp (disch := omega) only [Int.toNat_natCast, iI_lt, iI_le, iI_eq, iI_add, iI_sub, iI_mul, iI_neg, iI_clamp, inb_ii]; omega) ?_
        refine e_jn ?_
        rw [cl, hd _ (by omega)]
        by_cases q : d (b (2 * k)) &&& hold T x = 0
        · exact e_if_t q (fin 1 (by omega) (by rw [if_pos q]))
        · exact e_if_f q (fin 0 (by omega) (by rw [if_neg q]))
  unfold f_X11_fitsTold
  exact lp m FU 0 (by omega) (fu_lt (by omega)) rfl
theorem cc_fits (W : WOK T kd tl n c tn) (hx : x < szR n) {z : Nat} {b : Nat → Nat} {d : Nat → Int32} (ho : TPO z b) (a1 a2 : Int32) {s : SS} (h : CW T kd tl c tn s) (hw : s 52 0 = wl_ n x) (ht : TPC z b s) (hd : ∀ i, i < 8 → s 54 i = d i) : (¬ fitsIn z a1 a2 → f_X11_fits a1 a2 s = some (-1, s)) ∧ (fitsIn z a1 a2 → f_X11_fits a1 a2 s = some (ansFt T n d b a1 a2, up s 1 1 0)) := by
  have hn := W.2.2.2
  have hT := W.1.1
  have hz := ho.1
  have w1 := within_f a1 20 s
  have w2 := within_f a2 2 s
  rw [show (20 : Int32).toInt = 20 from rfl] at w1
  rw [show (2 : Int32).toInt = 2 from rfl] at w2
  have zs : f_X9_size s = some (iI z) := by unfold f_X9_size; rw [ht.1]
  unfold f_X11_fits
  refine ⟨fun hf => ?_, fun hf => ?_⟩
  · refine e_bdp w1 ?_
    by_cases q1 : 0 ≤ a1.toInt ∧ a1.toInt ≤ 20
    · rw [if_pos q1]
      refine e_if_f (by decide) ?_
      refine e_bdp w2 ?_
      by_cases q2 : 0 ≤ a2.toInt ∧ a2.toInt ≤ 2
      · rw [if_pos q2]
        refine e_if_f (by decide) ?_
        refine e_bdp zs ?_
        refine e_if_f ?_ rfl
        intro w
        apply hf
        refine ⟨q1, q2, ?_⟩
        rw [iI_of a1, z_2, iI_mul, iI_le (by omega) (by omega)] at w
        exact w
      · rw [if_neg q2]
        exact e_if_t rfl rfl
    · rw [if_neg q1]
      exact e_if_t rfl rfl
  · obtain ⟨q1, q2, q3⟩ := hf
    rw [if_pos q1] at w1
    rw [if_pos q2] at w2
    have em := e_lit (a := a1) (k := (a1.toInt.toNat : Nat)) (by omega)
    unfold ansFt
    generalize hmm : a1.toInt.toNat = m at em ⊢
    have hm : 2 * m ≤ z := by omega
    have hm20 : m ≤ 20 := by omega
    refine e_bdp w1 ?_
    refine e_if_f (by decide) ?_
    refine e_bdp w2 ?_
    refine e_if_f (by decide) ?_
    refine e_bdp zs ?_
    refine e_if_t (by rw [em, tw_i, iI_le (by omega) (by omega)]; omega) ?_
    rw [em]
    refine e_bdp (cc_okD ho ht hm) ?_
    refine e_jn ?_
    by_cases qk : okD b m = true
    · rw [if_pos qk, if_pos qk]
      refine e_if_f (by decide) ?_
      have lp : ∀ (j N k : Nat) (K : Int32 → Int32 → Int32 → Option Int32), fsz n + k + j = szR n → j < N → lp_X11_reckonFits_40 (iI m) a2 s (iI ((br n + szR n : Nat) : Int)) K N (iI (ftF T n d b m k).1) (ftF T n d b m k).2.1 (ftF T n d b m k).2.2 (wl_ n (fsz n + k)) = K (iI (ftF T n d b m (szR n - fsz n)).1) (ftF T n d b m (szR n - fsz n)).2.1 (ftF T n d b m (szR n - fsz n)).2.2 := by
        have hbl := br_le hn
        intro j
        induction j with
        | zero =>
          intro N k K hk hN
          cases N with
          | zero => omega
          | succ N =>
            obtain rfl : k = szR n - fsz n := by omega
            rw [lp_X11_reckonFits_40]
            exact e_if_t (by unfold wl_; simp (disch := omega) only [Int.toNat_natCast, iI_lt, iI_le, iI_eq, iI_add, iI_sub, iI_mul, iI_neg, iI_clamp, inb_ii]; omega) rfl
        | succ j ih =>
          intro N k K hk hN
          cases N with
          | zero => omega
          | succ N =>
            have hy : fsz n + k < szR n := by omega
            have hmf := mny_full hn hy
            have nx : wl_ n (fsz n + k) + 1 = wl_ n (fsz n + (k + 1)) := by unfold wl_; rw [nx_s]; rfl
            have zo := ct_ofLaws hT h.1 hn hy
            rw [hmf] at zo
            have un : ftF T n d b m (k + 1) = if vrB T (fsz n + k) n = true ∧ fTo T (fsz n + k) d b m = true then ((ftF T n d b m k).1 + 1, (ftF T n d b m k).2.1 &&& stn (fsz n + k), (ftF T n d b m k).2.2 ||| stn (fsz n + k)) else ftF T n d b m k := rfl
            have ih2 := ih N (k + 1) K (by omega) (by omega)
            rw [lp_X11_reckonFits_40]
            refine e_if_f (by unfold wl_; simp (disch := omega) only [Int.toNat_natCast, iI_lt, iI_le, iI_eq, iI_add, iI_sub, iI_mul, iI_neg, iI_clamp, inb_ii]; omega) ?_
            refine e_bdp zo ?_
            refine e_jn ?_
            rw [nx]
            by_cases p1 : vrB T (fsz n + k) n = true
            · rw [if_pos p1]
              refine e_if_f (by decide) ?_
              refine e_bdp (ct_holding h.1.1 h.1.2.1 hn hy) ?_
              refine e_bdp (cc_fTo ho ht hm qk hd) ?_
              by_cases p2 : fTo T (fsz n + k) d b m = true
              · rw [if_pos p2]
                rw [if_pos ⟨p1, p2⟩] at un
                rw [un] at ih2
                refine e_if_f (by decide) ?_
                refine e_bdp (rw_stand h.1.1 hn hy) ?_
                refine e_lt ?_
                refine e_bdp (rw_stand h.1.1 hn hy) ?_
                refine e_lt ?_
                rw [nx_s]
                exact ih2
              · rw [if_neg p2]
                rw [if_neg (fun w => p2 w.2)] at un
                rw [un] at ih2
                exact e_if_t rfl ih2
            · rw [if_neg p1]
              rw [if_neg (fun w => p1 w.1)] at un
              rw [un] at ih2
              exact e_if_t rfl ih2
      have hle := ftF_le (T := T) (n := n) d b m (szR n - fsz n)
      have hbl := br_le hn
      have fin : ∀ v : Int32, v = (if a2.toInt = 0 ∨ (ftF T n d b m (szR n - fsz n)).1 = 0 then iI (ftF T n d b m (szR n - fsz n)).1 else if a2.toInt = 1 then (ftF T n d b m (szR n - fsz n)).2.1 else ((1 <<< (iI T.1 &&& 31)) - 1) &&& ((ftF T n d b m (szR n - fsz n)).2.2 ^^^ (-1))) → f_X11_reckonFits (iI m) a2 s = some v := by
        intro v hv
        unfold f_X11_reckonFits
        rw [hw]
        refine e_bdp (rw_len h.1.1 hn hx) ?_
        refine e_bdp (rw_bare1 hn) ?_
        refine e_bdp (rw_first hn) ?_
        refine e_jn ?_
        refine Eq.trans (lp (szR n - fsz n) FU 0 _ (by have := fsz_sz hn; omega) (fu_lt (by omega))) ?_
        have z0 : (a2 = 0) = (a2.toInt = 0) := by rw [z_0]; exact lit32 0 (by omega) a2
        have z1 : (a2 = 1) = (a2.toInt = 1) := by rw [z_1]; exact lit32 1 (by omega) a2
        by_cases p1 : a2.toInt = 0
        · rw [if_pos (Or.inl p1)] at hv
          rw [hv]
          exact e_if_t (z0.mpr p1) rfl
        · refine e_if_f (fun w => p1 (z0.mp w)) ?_
          by_cases p2 : (ftF T n d b m (szR n - fsz n)).1 = 0
          · rw [if_pos (Or.inr p2)] at hv
            rw [hv]
            exact e_if_t (by rw [p2]; rfl) rfl
          · rw [if_neg (fun w => w.elim p1 p2)] at hv
            refine e_if_f (by simp (disch := omega) only [Int.toNat_natCast, iI_lt, iI_le, iI_eq, iI_add, iI_sub, iI_mul, iI_neg, iI_clamp, inb_ii, z_0]; omega) ?_
            by_cases p3 : a2.toInt = 1
            · rw [if_pos p3] at hv
              rw [hv]
              exact e_if_t (z1.mpr p3) rfl
            · rw [if_neg p3] at hv
              rw [hv]
              refine e_if_f (fun w => p3 (z1.mp w)) ?_
              exact e_bdp (v := (1 <<< (iI T.1 &&& 31)) - 1) (by unfold f_X10_allLaws; rw [h.1.2.1.1]) rfl
      refine e_bdp (fin _ rfl) ?_
      refine e_bd (v := 0) (t := up s 1 1 0) ?_ rfl
      rfl
    · rw [if_neg qk, if_neg qk]
      refine e_if_t rfl ?_
      refine e_bd (v := 0) (t := up s 1 1 0) ?_ rfl
      rfl
