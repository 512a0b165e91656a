theorem vr_app {T : TW} {c l : Nat} (hc : c < 585) (hl : l < 8) (hl2 : l < T.1) (h : VR T c) : VR T (8 * c + 1 + l) := by
  have e : (8 * c + 1 + l - 1) / 8 = c := by omega
  have hu := mny_up (x := 8 * c + 1 + l) (by omega) (by omega)
  rw [e] at hu
  intro i hi
  by_cases q : i < mny c
  · rw [lwA_up (by omega) (by omega) (by rw [e]; exact q), e]
    exact h i q
  · have : i = mny (8 * c + 1 + l) - 1 := by omega
    rw [this, lwA_last, show (8 * c + 1 + l - 1) % 8 = l by omega]
    exact hl2
theorem vr_up {T : TW} {x : Nat} (h0 : 0 < x) (hx : x < 4681) (h : VR T x) : VR T ((x - 1) / 8) ∧ (x - 1) % 8 < T.1 := by
  have hu := mny_up h0 hx
  refine ⟨fun i hi => ?_, ?_⟩
  · rw [← lwA_up h0 hx hi]
    exact h i (by omega)
  · rw [← lwA_last (x := x)]
    exact h _ (by omega)
theorem vr_cut {T : TW} : ∀ (n x : Nat), n ≤ 4 → 1 ≤ n → x < szR n → VR T x → VR T (cut n x) := by
  intro n
  induction n with
  | zero => intro x _ h; omega
  | succ n ih =>
    intro x h4 _ hx hv
    have hx2 := (sz_lt ⟨by omega, h4⟩ hx).2
    by_cases q : mny x < n + 1
    · rw [cut_n q]; exact hv
    · have hm : mny x = n + 1 := by have := mny_sz ⟨by omega, h4⟩ hx; omega
      have h0 : 0 < x := mny_pos (by omega)
      have hu := mny_up h0 hx2
      have hf := fsz_le (x := x)
      by_cases e : n = 0
      · subst e
        have hx3 : x < 9 := hx
        rw [cut_1 (by omega)]
        intro i hi
        rw [mny_0 (by omega)] at hi
        omega
      · have hy : (x - 1) / 8 < szR n := by
          obtain rfl | rfl | rfl : n = 1 ∨ n = 2 ∨ n = 3 := by omega
          · have hx3 : x < 73 := hx
            show (x - 1) / 8 < 9
            omega
          · have hx3 : x < 585 := hx
            show (x - 1) / 8 < 73
            omega
          · show (x - 1) / 8 < 585
            omega
        have hvy := vr_up h0 hx2 hv
        have hc := ih ((x - 1) / 8) (by omega) (by omega) hy hvy.1
        have hcl := cut_lt (n := n) ⟨by omega, by omega⟩ hy
        have ce : cut (n + 1) x = 8 * cut n ((x - 1) / 8) + 1 + (x - 1) % 8 := by
          obtain rfl | rfl | rfl : n = 1 ∨ n = 2 ∨ n = 3 := by omega
          · rw [hm] at hf
            have hx3 : x < 73 := hx
            have hf2 : 9 ≤ x := hf
            rw [cut_2 ⟨hf2, hx3⟩, cut_1 (by omega)]
            omega
          · rw [hm] at hf
            have hx3 : x < 585 := hx
            have hf2 : 73 ≤ x := hf
            rw [cut_3 ⟨hf2, hx3⟩, cut_2 (by omega)]
            omega
          · rw [hm] at hf
            have hf2 : 585 ≤ x := hf
            rw [cut_4 hf2, cut_3 (by omega)]
            omega
        rw [ce]
        refine vr_app ?_ (by omega) hvy.2 hc
        obtain rfl | rfl | rfl : n = 1 ∨ n = 2 ∨ n = 3 := by omega
        all_goals (simp only [sz_1, sz_2, sz_3, sz_4] at *; omega)
theorem vr_bh {T : TW} {n x l : Nat} (hn : 1 ≤ n ∧ n ≤ 4) (hx : x < szR n) (hv : VR T x) (hl : l = 8 ∨ (l < 8 ∧ l < T.1)) : VR T (bh n x l) := by
  unfold bh
  by_cases q : l = 8
  · rw [if_pos q]; exact hv
  · rw [if_neg q]
    have hc := cut_lt hn hx
    have h8 : szR n ≤ 4681 := by
      obtain ⟨a, b⟩ := hn
      obtain rfl | rfl | rfl | rfl : n = 1 ∨ n = 2 ∨ n = 3 ∨ n = 4 := by omega
      all_goals decide
    exact vr_app (by omega) (by omega) (by omega) (vr_cut n x hn.2 hn.1 hx hv)
theorem may_lt {T : TW} (hT : T.1 ≤ 8) {n x m l : Nat} (hl : l < 32) (h : bt (may T n x m) l = true) : l < T.1 := by
  rw [may_bt T hT hl, Bool.and_eq_true] at h
  simpa using h.1
theorem wnt_ok {T : TW} (hT : T.1 ≤ 8) (n x m : Nat) (v0 : Int32) : ∀ k, k ≤ 8 → (wnt T n x m v0 k).1 = 8 ∨ ((wnt T n x m v0 k).1 < 8 ∧ (wnt T n x m v0 k).1 < T.1) := by
  intro k
  induction k with
  | zero => intro _; exact Or.inl rfl
  | succ k ih =>
    intro hk
    unfold wnt
    split
    · rename_i h
      exact Or.inr ⟨by show k < 8; omega, may_lt hT (by omega) h.1⟩
    · exact ih (by omega)
theorem cho_ok {T : TW} (hT : T.1 ≤ 8) (kd tl : Nat → Nat) (hk : KOK kd tl) {n x m : Nat} (hm : m < 4) (hx : x < 4681) : cho T kd tl n x m = 8 ∨ (cho T kd tl n x m < 8 ∧ cho T kd tl n x m < T.1) := by
  have h1 := hk m hm
  have h2 := (old_lt hx).1
  unfold cho
  by_cases q0 : kd m = 0
  · rw [if_pos q0]; exact Or.inl rfl
  · rw [if_neg q0]
    by_cases q4 : kd m = 4
    · rw [if_pos q4]
      split
      · rename_i h
        have := h1.2 q4
        exact Or.inr ⟨this, may_lt hT (by omega) h.1⟩
      · exact Or.inl rfl
    · rw [if_neg q4]
      by_cases q1 : kd m = 1
      · rw [if_pos q1]; exact wnt_ok hT n x m _ 8 (Nat.le_refl 8)
      · rw [if_neg q1]
        split
        · split
          · split
            · rename_i h
              have := may_lt hT (by omega) h.2
              exact Or.inr ⟨by omega, this⟩
            · exact Or.inl rfl
          · split
            · exact wnt_ok hT n x m _ 8 (Nat.le_refl 8)
            · exact Or.inl rfl
        · exact Or.inl rfl
theorem vr_cho {T : TW} (hT : T.1 ≤ 8) {kd tl : Nat → Nat} (hk : KOK kd tl) {n x m : Nat} (hm : m < 4) (hn : 1 ≤ n ∧ n ≤ 4) (hx : x < szR n) (hv : VR T x) : bh n x (cho T kd tl n x m) < szR n ∧ VR T (bh n x (cho T kd tl n x m)) := by
  have h := cho_ok hT kd tl hk (n := n) hm (sz_lt hn hx).2
  exact ⟨bh_lt hn hx (by omega), vr_bh hn hx hv h⟩
theorem wnt_T {T : TW} (hT : T.1 ≤ 8) (n x m : Nat) (v0 : Int32) : ∀ k, T.1 ≤ k → k ≤ 8 → wnt T n x m v0 k = wnt T n x m v0 T.1 := by
  intro k
  induction k with
  | zero => intro h _; rw [show T.1 = 0 by omega]
  | succ k ih =>
    intro h h2
    by_cases q : T.1 ≤ k
    · rw [← ih q (by omega)]
      show (if bt (may T n x m) k = true ∧ _ then _ else wnt T n x m v0 k) = _
      rw [if_neg (fun w => by have := may_lt hT (by omega) w.1; omega)]
    · rw [show k + 1 = T.1 by omega]
def RKD (kd tl : Nat → Nat) (s : SS) : Prop := ∀ m, m < 4 → s 63 m = iI (kd m) ∧ (kd m = 4 → s 64 m = iI (tl m))
theorem RQ.k {kd tl : Nat → Nat} {s t : SS} (h : RQ s t) (g : RKD kd tl s) : RKD kd tl t := by
  intro m hm
  rw [h.1 63 (by omega) (by omega), h.1 64 (by omega) (by omega)]
  exact g m hm
theorem rt_wnt {T : TW} (hT : TOK T) {n x m : Nat} (hn : 1 ≤ n ∧ n ≤ 4) (hx : x < szR n) (hv : VR T x) (hm : m < 4) (v0 : Int32) : ∀ (j N k : Nat) (s : SS), k + j = T.1 → j < N → RT_ T n s → ∃ t : SS, lp_X12_wantsOf_25 (iI x) (iI m) N (iI (wnt T n x m v0 k).1) (wnt T n x m v0 k).2 (iI k) s = some (iI (wnt T n x m v0 8).1, t) ∧ RQ s t ∧ RT_ T n t := by
  have h8 := hT.1
  intro j
  induction j with
  | zero =>
    intro N k s hk hN hs
    cases N with
    | zero => omega
    | succ N =>
      obtain rfl : k = T.1 := by omega
      refine ⟨s, ?_, RQ.rf s, hs⟩
      rw [lp_X12_wantsOf_25, wnt_T h8 n x m v0 8 h8 (Nat.le_refl 8)]
      exact e_if_t (by rw [hs.1.1]; simp (disch := omega) only [Int.toNat_natCast, iI_lt, iI_le, iI_eq, iI_add, iI_sub, iI_mul, iI_neg, iI_clamp, inb_ii]; omega) rfl
  | succ j ih =>
    intro N k s hk hN hs
    cases N with
    | zero => omega
    | succ N =>
      have cc : ¬ s 56 2 ≤ iI (k : Int) := by rw [hs.1.1]; simp (disch := omega) only [Int.toNat_natCast, iI_lt, iI_le, iI_eq, iI_add, iI_sub, iI_mul, iI_neg, iI_clamp, inb_ii]; omega
      have nx : iI (k : Int) + 1 = iI ((k + 1 : Nat) : Int) := by rw [z_1, iI_add]; rfl
      have un : wnt T n x m v0 (k + 1) = if bt (may T n x m) k = true ∧ (wnt T n x m v0 k).2 < wth T n (bh n x k) m then (k, wth T n (bh n x k) m) else wnt T n x m v0 k := rfl
      obtain ⟨s1, e1, e2, e3⟩ := rt_may (p := m) hT hs hn hx hv hm
      have zh := has_f (v := may T n x m) (l := k) s1 (by omega)
      rw [lp_X12_wantsOf_25]
      by_cases q1 : bt (may T n x m) k = true
      · rw [if_pos q1] at zh
        have hb := bh_lt (l := k) hn hx (by omega)
        have hvb := vr_bh (l := k) hn hx hv (Or.inr ⟨by omega, by omega⟩)
        obtain ⟨s2, f1, f2, f3⟩ := rt_worth (x := bh n x k) (p := m) hT e3 hn hb hvb hm
        have zb := rr_behind (l := k) e3.2.1 hn hx (by omega)
        by_cases q2 : (wnt T n x m v0 k).2 < wth T n (bh n x k) m
        · rw [if_pos ⟨q1, q2⟩] at un
          obtain ⟨s3, k1, k2, k3⟩ := rt_worth (x := bh n x k) (p := m) hT f3 hn hb hvb hm
          have zb2 := rr_behind (l := k) f3.2.1 hn hx (by omega)
          obtain ⟨t, e4, e5, e6⟩ := ih N (k + 1) s3 (by omega) (by omega) k3
          rw [un] at e4
          refine ⟨t, ?_, ((e2.tr f2).tr k2).tr e5, e6⟩
          refine e_if_f cc ?_
          refine e_bd e1 ?_
          refine e_bdp zh ?_
          refine e_jn ?_
          refine e_if_f (by decide) ?_
          refine e_bdp zb ?_
          refine e_bd f1 ?_
          refine e_if_t q2 ?_
          refine e_bdp zb2 ?_
          refine e_bd k1 ?_
          rw [nx]
          exact e4
        · rw [if_neg (fun w => q2 w.2)] at un
          obtain ⟨t, e4, e5, e6⟩ := ih N (k + 1) s2 (by omega) (by omega) f3
          rw [un] at e4
          refine ⟨t, ?_, (e2.tr f2).tr e5, e6⟩
          refine e_if_f cc ?_
          refine e_bd e1 ?_
          refine e_bdp zh ?_
          refine e_jn ?_
          refine e_if_f (by decide) ?_
          refine e_bdp zb ?_
          refine e_bd f1 ?_
          refine e_if_f q2 ?_
          rw [nx]
          exact e4
      · rw [if_neg q1] at zh
        rw [if_neg (fun w => q1 w.1)] at un
        obtain ⟨t, e4, e5, e6⟩ := ih N (k + 1) s1 (by omega) (by omega) e3
        rw [un] at e4
        refine ⟨t, ?_, e2.tr e5, e6⟩
        refine e_if_f cc ?_
        refine e_bd e1 ?_
        refine e_bdp zh ?_
        refine e_jn ?_
        refine e_if_t rfl ?_
        rw [nx]
        exact e4
theorem rt_makes {T : TW} (hT : TOK T) {kd tl : Nat → Nat} (hk : KOK kd tl) {n x m : Nat} {s : SS} (hs : RT_ T n s) (hc : RKD kd tl s) (hn : 1 ≤ n ∧ n ≤ 4) (hx : x < szR n) (hv : VR T x) (hm : m < 4) : ∃ t : SS, f_X12_makes (iI x) (iI m) s = some (iI (cho T kd tl n x m), t) ∧ RQ s t ∧ RT_ T n t := by
  have k1 := hk m hm
  have c1 := hc m hm
  have hx2 := (sz_lt hn hx).2
  have h4 := mny_le x
  have hol := old_lt hx2
  have cl : Int32.toNatClampNeg (iI (m : Int)) = m := by simp (disch := omega) only [Int.toNat_natCast, iI_lt, iI_le, iI_eq, iI_add, iI_sub, iI_mul, iI_neg, iI_clamp, inb_ii]
  have ci : inb (iI (m : Int)) 4 := by simp (disch := omega) only [Int.toNat_natCast, iI_lt, iI_le, iI_eq, iI_add, iI_sub, iI_mul, iI_neg, iI_clamp, inb_ii]; omega
  have kx : ∀ (u : SS), RQ s u → ∀ j : Nat, j ≤ 4 → (u 63 (Int32.toNatClampNeg (iI (m : Int))) = iI (j : Int)) = (kd m = j) := fun u hu j hj => by
    rw [cl, ((hu.k hc) m hm).1]
    exact propext ((iI_eq (by omega) (by omega)).trans (by omega))
  have a1 := kx s (RQ.rf s)
  unfold f_X12_makes
  by_cases q1 : kd m = 1
  · have b1 : s 63 (Int32.toNatClampNeg (iI (m : Int))) = 1 := (a1 1 (by omega)).mpr q1
    obtain ⟨s1, e1, e2, e3⟩ := rt_worth (p := m) hT hs hn hx hv hm
    obtain ⟨t, g1, g2, g3⟩ := rt_wnt hT hn hx hv hm (wth T n x m) T.1 FU 0 s1 (by omega) (fu_lt (by have := hT.1; omega)) e3
    refine ⟨t, ?_, e2.tr g2, g3⟩
    have r : cho T kd tl n x m = (wnt T n x m (wth T n x m) 8).1 := by unfold cho; rw [if_neg (by omega), if_neg (by omega), if_pos q1]
    refine e_gd ci ?_
    refine e_if_t b1 ?_
    refine e_bd (v := iI (wnt T n x m (wth T n x m) 8).1) (t := t) ?_ (by rw [r])
    unfold f_X12_wantsOf
    refine e_jn ?_
    refine e_if_f (by decide) ?_
    refine e_bd e1 ?_
    exact g1
  · have b1 : ¬ s 63 (Int32.toNatClampNeg (iI (m : Int))) = 1 := mt (a1 1 (by omega)).mp q1
    by_cases q4 : kd m = 4
    · have b4 : s 63 (Int32.toNatClampNeg (iI (m : Int))) = 4 := (a1 4 (by omega)).mpr q4
      have ht := k1.2 q4
      obtain ⟨s1, e1, e2, e3⟩ := rr_lay hT.1 hs.1 hx2
      have hs1 := e2.t2 hs
      have t1 : s1 64 (Int32.toNatClampNeg (iI (m : Int))) = iI (tl m) := by rw [cl]; exact ((e2.q.k hc) m hm).2 q4
      have z1 : f_X12_has (s1 56 49) (s1 64 (Int32.toNatClampNeg (iI (m : Int)))) s1 = some (if bt (stn x) (tl m) = true then 1 else 0) := by rw [t1, has_f _ (by omega), e3.2.2.1]
      have r : cho T kd tl n x m = if bt (may T n x m) (tl m) = true ∧ ¬ bt (stn x) (tl m) = true then tl m else 8 := by unfold cho; rw [if_neg (by omega), if_pos q4]
      by_cases w1 : bt (stn x) (tl m) = true
      · rw [if_pos w1] at z1
        rw [if_neg (fun w => w.2 w1)] at r
        refine ⟨s1, ?_, e2.q, hs1⟩
        refine e_gd ci ?_
        refine e_if_f b1 ?_
        refine e_gd ci ?_
        refine e_if_t b4 ?_
        refine e_bd e1 ?_
        refine e_gd ci ?_
        refine e_bdp z1 ?_
        refine e_jn ?_
        refine e_if_f (by decide) ?_
        refine e_if_t rfl ?_
        rw [r]
        rfl
      · rw [if_neg w1] at z1
        obtain ⟨s2, f1, f2, f3⟩ := rt_may (p := m) hT hs1 hn hx hv hm
        have t2 : s2 64 (Int32.toNatClampNeg (iI (m : Int))) = iI (tl m) := by rw [cl]; exact (((e2.q.tr f2).k hc) m hm).2 q4
        have z2 : f_X12_has (may T n x m) (s2 64 (Int32.toNatClampNeg (iI (m : Int)))) s2 = some (if bt (may T n x m) (tl m) = true then 1 else 0) := by rw [t2, has_f _ (by omega)]
        refine ⟨s2, ?_, e2.q.tr f2, f3⟩
        refine e_gd ci ?_
        refine e_if_f b1 ?_
        refine e_gd ci ?_
        refine e_if_t b4 ?_
        refine e_bd e1 ?_
        refine e_gd ci ?_
        refine e_bdp z1 ?_
        refine e_jn ?_
        refine e_if_t rfl ?_
        refine e_if_f (by decide) ?_
        refine e_bd f1 ?_
        refine e_gd ci ?_
        refine e_bdp z2 ?_
        by_cases w2 : bt (may T n x m) (tl m) = true
        · rw [if_pos ⟨w2, w1⟩] at r
          rw [if_pos w2]
          refine e_if_f (by decide) ?_
          refine e_gd ci ?_
          rw [t2, r]
        · rw [if_neg (fun w => w2 w.1)] at r
          rw [if_neg w2]
          refine e_if_t rfl ?_
          rw [r]
          rfl
    · have b4 : ¬ s 63 (Int32.toNatClampNeg (iI (m : Int))) = 4 := mt (a1 4 (by omega)).mp q4
      by_cases q0 : kd m = 0
      · have b0 : s 63 (Int32.toNatClampNeg (iI (m : Int))) = 0 := (a1 0 (by omega)).mpr q0
        refine ⟨s, ?_, RQ.rf s, hs⟩
        have r : cho T kd tl n x m = 8 := by unfold cho; rw [if_pos q0]
        refine e_gd ci ?_
        refine e_if_f b1 ?_
        refine e_gd ci ?_
        refine e_if_f b4 ?_
        refine e_gd ci ?_
        refine e_if_t b0 ?_
        rw [r]
        rfl
      · have b0 : ¬ s 63 (Int32.toNatClampNeg (iI (m : Int))) = 0 := mt (a1 0 (by omega)).mp q0
        have r : cho T kd tl n x m = if mny x = n then (if kd m = 2 then (if 0 < T.2.2 118 (fct T n x (old x) 0 m) ∧ bt (may T n x m) (old x) = true then old x else 8) else (if T.2.2 118 (fct T n x (old x) 0 m) < 0 then (wnt T n x m UNK 8).1 else 8)) else 8 := by unfold cho; rw [if_neg q0, if_neg q4, if_neg q1]
        have zm := rr_many hx2 s
        have hmn := mny_sz hn hx
        by_cases qf : mny x = n
        · rw [if_pos qf] at r
          have cf : s 56 3 ≤ iI (mny x : Int) := by rw [hs.2.1]; simp (disch := omega) only [Int.toNat_natCast, iI_lt, iI_le, iI_eq, iI_add, iI_sub, iI_mul, iI_neg, iI_clamp, inb_ii]; omega
          obtain ⟨s1, e1, e2, e3⟩ := rr_lay hT.1 hs.1 hx2
          have hs1 := e2.t2 hs
          obtain ⟨s2, f1, f2⟩ := rr_wat (i := 0) (p := m) hT hs1.1 hs1.2.1 hs1.2.2.1 hn hx2 e3 hv (by omega)
          have hs2 := f2.t2 hs1
          have ho : lwA x 0 = old x := by
            have := (fa_of (i := 0) (p := m) (l := 0) (T := T) (n := n) (x := x) (s := set5 s1 (iI (0 : Nat)) (iI m) (iI (tms x 0)) (if hcond T x 0 = true then 1 else 0) (iI (0 : Nat))) ((set5_v _ _ _ _ _ _).b hs1.1) (by rw [(set5_v s1 _ _ _ _ _).2 3 (by unfold rsl; omega)]; exact hs1.2.1) hn hx2 ((set5_v _ _ _ _ _ _).laid e3) (by omega) (by unfold set5; rw [up_slot (by omega), up_slot (by omega), up_slot (by omega), up_slot (by omega), up_at]) (by unfold set5; rw [up_slot (by omega), up_slot (by omega), up_slot (by omega), up_at]) (by unfold set5; rw [up_slot (by omega), up_slot (by omega), up_at]) (by unfold set5; rw [up_slot (by omega), up_at]) (by unfold set5; rw [up_at])) 8 (by omega)
            rw [fcode_eq.2.2.2.2.2.2.2.2.1] at this
            have e : f_X12_valueOf 111 (set5 s1 (iI (0 : Nat)) (iI m) (iI (tms x 0)) (if hcond T x 0 = true then 1 else 0) (iI (0 : Nat))) = some (iI (lwA x 0)) := by
              unfold f_X12_valueOf
              have w := set5_v s1 (iI (0 : Nat)) (iI m) (iI (tms x 0)) (if hcond T x 0 = true then 1 else 0) (iI (0 : Nat))
              show (if set5 s1 _ _ _ _ _ 56 48 = 0 then some 8 else gd (inb 0 4) (some (set5 s1 _ _ _ _ _ 80 (Int32.toNatClampNeg 0)))) = _
              refine e_if_f (by rw [w.2 48 (by unfold rsl; omega), e3.1, z_0, iI_eq (by omega) (by omega)]; omega) ?_
              refine e_gd (by decide) ?_
              rw [w.1 80 (by omega) (by omega) (by omega)]
              exact congrArg some (e3.2.1 0 (by omega))
            rw [e] at this
            have h2 := Option.some.inj this
            have h3 : iI (lwA x 0 : Int) = iI (old x : Int) := h2
            have hl := lwA_lt x 0
            have := (iI_eq (by omega) (by omega)).mp h3
            omega
          rw [ho] at f1
          have e80 : s1 80 (Int32.toNatClampNeg 0) = iI (old x) := by rw [← ho]; exact e3.2.1 0 (by omega)
          have k2 := kx s2 (e2.q.tr f2.q)
          by_cases q2 : kd m = 2
          · have b2 : s2 63 (Int32.toNatClampNeg (iI (m : Int))) = 2 := (k2 2 (by omega)).mpr q2
            rw [if_pos q2] at r
            by_cases v1 : T.2.2 118 (fct T n x (old x) 0 m) ≤ 0
            · rw [if_neg (fun w => absurd v1 (Int32.not_le.mpr w.1))] at r
              refine ⟨s2, ?_, e2.q.tr f2.q, hs2⟩
              refine e_gd ci ?_
              refine e_if_f b1 ?_
              refine e_gd ci ?_
              refine e_if_f b4 ?_
              refine e_gd ci ?_
              refine e_if_f b0 ?_
              refine e_bdp zm ?_
              refine e_if_t cf ?_
              refine e_bd e1 ?_
              refine e_gd (by decide) ?_
              refine e_lt ?_
              refine e_bd f1 ?_
              refine e_gd ci ?_
              refine e_if_t b2 ?_
              refine e_if_t v1 ?_
              rw [r]
              rfl
            · obtain ⟨s3, m1, m2, m3⟩ := rt_may (p := m) hT hs2 hn hx hv hm
              have zh : f_X12_has (may T n x m) (s1 80 (Int32.toNatClampNeg 0)) s3 = some (if bt (may T n x m) (old x) = true then 1 else 0) := by rw [e80, has_f _ (by omega)]
              refine ⟨s3, ?_, (e2.q.tr f2.q).tr m2, m3⟩
              refine e_gd ci ?_
              refine e_if_f b1 ?_
              refine e_gd ci ?_
              refine e_if_f b4 ?_
              refine e_gd ci ?_
              refine e_if_f b0 ?_
              refine e_bdp zm ?_
              refine e_if_t cf ?_
              refine e_bd e1 ?_
              refine e_gd (by decide) ?_
              refine e_lt ?_
              refine e_bd f1 ?_
              refine e_gd ci ?_
              refine e_if_t b2 ?_
              refine e_if_f v1 ?_
              refine e_bd m1 ?_
              refine e_bdp zh ?_
              by_cases v2 : bt (may T n x m) (old x) = true
              · rw [if_pos ⟨Int32.not_le.mp v1, v2⟩] at r
                rw [if_pos v2]
                refine e_if_f (by decide) ?_
                rw [r, e80]
              · rw [if_neg (fun w => v2 w.2)] at r
                rw [if_neg v2]
                refine e_if_t rfl ?_
                rw [r]
                rfl
          · have b2 : ¬ s2 63 (Int32.toNatClampNeg (iI (m : Int))) = 2 := mt (k2 2 (by omega)).mp q2
            rw [if_neg q2] at r
            by_cases v1 : T.2.2 118 (fct T n x (old x) 0 m) < 0
            · rw [if_pos v1] at r
              obtain ⟨t, g1, g2, g3⟩ := rt_wnt hT hn hx hv hm UNK T.1 FU 0 s2 (by omega) (fu_lt (by have := hT.1; omega)) hs2
              refine ⟨t, ?_, (e2.q.tr f2.q).tr g2, g3⟩
              refine e_gd ci ?_
              refine e_if_f b1 ?_
              refine e_gd ci ?_
              refine e_if_f b4 ?_
              refine e_gd ci ?_
              refine e_if_f b0 ?_
              refine e_bdp zm ?_
              refine e_if_t cf ?_
              refine e_bd e1 ?_
              refine e_gd (by decide) ?_
              refine e_lt ?_
              refine e_bd f1 ?_
              refine e_gd ci ?_
              refine e_if_f b2 ?_
              refine e_if_f (Int32.not_le.mpr v1) ?_
              refine e_bd (v := iI (wnt T n x m UNK 8).1) (t := t) ?_ (by rw [r])
              unfold f_X12_wantsOf
              refine e_jn ?_
              refine e_if_t rfl ?_
              exact g1
            · rw [if_neg v1] at r
              refine ⟨s2, ?_, e2.q.tr f2.q, hs2⟩
              refine e_gd ci ?_
              refine e_if_f b1 ?_
              refine e_gd ci ?_
              refine e_if_f b4 ?_
              refine e_gd ci ?_
              refine e_if_f b0 ?_
              refine e_bdp zm ?_
              refine e_if_t cf ?_
              refine e_bd e1 ?_
              refine e_gd (by decide) ?_
              refine e_lt ?_
              refine e_bd f1 ?_
              refine e_gd ci ?_
              refine e_if_f b2 ?_
              refine e_if_t (Int32.not_lt.mp v1) ?_
              rw [r]
              rfl
        · rw [if_neg qf] at r
          have cf : ¬ s 56 3 ≤ iI (mny x : Int) := by rw [hs.2.1]; simp (disch := omega) only [Int.toNat_natCast, iI_lt, iI_le, iI_eq, iI_add, iI_sub, iI_mul, iI_neg, iI_clamp, inb_ii]; omega
          refine ⟨s, ?_, RQ.rf s, hs⟩
          refine e_gd ci ?_
          refine e_if_f b1 ?_
          refine e_gd ci ?_
          refine e_if_f b4 ?_
          refine e_gd ci ?_
          refine e_if_f b0 ?_
          refine e_bdp zm ?_
          refine e_if_f cf ?_
          rw [r]
          rfl
