/-! how soon, the reference: round by round -/
variable {T : TW} {kd tl tn : Nat → Nat} {n c x p : Nat} {s t u : SS}
def FARv : Int32 := iI 1000000000
def VQ (T : TW) (n c : Nat) (tn : Nat → Nat) (m y w : Nat) (v : Int32) : Prop := (VR T y → (∃ j, j ≤ m ∧ QD T n c tn j y w ∧ (∀ i, i < j → ¬ QD T n c tn i y w) ∧ v = iI j) ∨ (¬ QD T n c tn m y w ∧ v = FARv)) ∧ (¬ VR T y → v = FARv)
theorem far_ne {k : Nat} (h : k < 1000000000) : iI (k : Int) ≠ FARv := by
  unfold FARv
  rw [Ne, iI_eq (by omega) (by omega)]
  omega
theorem VQ_is {m y w k : Nat} {v : Int32} (h : VQ T n c tn m y w v) (hv : VR T y) (hm : m < 1000000) (hk : k ≤ m) : (v = iI k) ↔ (QD T n c tn k y w ∧ ∀ i, i < k → ¬ QD T n c tn i y w) := by
  rcases h.1 hv with ⟨j, a, b, d, e⟩ | ⟨a, b⟩
  · rw [e]
    constructor
    · intro w2
      rw [iI_eq (by omega) (by omega)] at w2
      have : j = k := by omega
      rw [← this]
      exact ⟨b, d⟩
    · rintro ⟨h1, h2⟩
      rcases Nat.lt_trichotomy j k with z | z | z
      · exact absurd b (h2 j z)
      · rw [z]
      · exact absurd h1 (d k z)
  · constructor
    · intro w2
      rw [b] at w2
      exact absurd w2.symm (far_ne (by omega))
    · rintro ⟨h1, -⟩
      exact absurd (QD_up h1 m hk) a
theorem VQ_keep {m y w : Nat} {v : Int32} (h : VQ T n c tn m y w v) (hf : v ≠ FARv) : VQ T n c tn (m + 1) y w v := by
  refine ⟨fun hv => ?_, fun hv => absurd (h.2 hv) hf⟩
  rcases h.1 hv with ⟨j, a, b⟩ | a
  · exact Or.inl ⟨j, by omega, b⟩
  · exact absurd a.2 hf
theorem VQ_far {m y w : Nat} (h : VQ T n c tn m y w FARv) (hv : VR T y) (hm : m < 1000000) : ¬ QD T n c tn m y w := by
  rcases h.1 hv with ⟨j, a, b, d, e⟩ | a
  · exact absurd e.symm (far_ne (by omega))
  · exact a.1
def FN (s : SS) : Nat := dcF FARv (s 93) 0 18724
def RQI (T : TW) (n c : Nat) (tn : Nat → Nat) (m i : Nat) (s : SS) : Prop := ∀ y w, y < szR n → w < c → VQ T n c tn (if 4 * y + w < i then m + 1 else m) y w (s 93 (4 * y + w))
theorem rw_qby (W : WOK T kd tl n c tn) (h : RW_ T kd tl n c tn s) {y w l : Nat} (hy : y < szR n) (hw : w < c) (hl : l ≤ 8) : f_X12_quietBy (iI y) (iI w) (iI l) s = some (s 93 (4 * bh n y l + (w + 1) % c)) := by
  have hn := W.2.2.2
  have hc := W.cc
  have hb := W.sz (bh_lt hn hy hl)
  have hm : (w + 1) % c < c := Nat.mod_lt _ (by omega)
  have e : (4 : Int32) * iI (bh n y l : Int) + ((iI (w : Int) + 1) - (iI (w : Int) + 1) / s 56 5 * s 56 5) = iI ((4 * bh n y l + (w + 1) % c : Nat) : Int) := by
    rw [h.2.2.1, nx_s, iI_rem (by omega) (by omega), show (((w + 1 : Nat) : Int) % (c : Int)) = (((w + 1) % c : Nat) : Int) by omega, lay_4]
  unfold f_X12_quietBy
  refine e_bdp (rw_bh W h hy hl) ?_
  refine e_gd (by rw [h.2.2.1]; simp (disch := omega) only [Int.toNat_natCast, iI_lt, iI_le, iI_eq, iI_add, iI_sub, iI_mul, iI_neg, iI_clamp, inb_ii, z_0]; omega) ?_
  rw [e]
  refine e_gd (by simp (disch := omega) only [Int.toNat_natCast, iI_lt, iI_le, iI_eq, iI_add, iI_sub, iI_mul, iI_neg, iI_clamp, inb_ii]; omega) ?_
  rw [iI_clamp (by omega), Int.toNat_natCast]
theorem al_vr (W : WOK T kd tl n c tn) {y w l : Nat} (hy : y < szR n) (hv : VR T y) (h : alB T n tn y w l = true) : VR T (bh n y l) := by
  have h8 := W.1.1
  refine vr_bh W.2.2.2 hy hv ?_
  by_cases q : l = 8
  · exact Or.inl q
  · have := al_le h
    right
    rw [al_l (by omega)] at h
    exact ⟨by omega, may_lt h8 (by omega) h⟩
/-- does an act lead to a row that is quiet in m days -/
theorem rw_qin (W : WOK T kd tl n c tn) (h : RW_ T kd tl n c tn s) {y w m i : Nat} (hy : y < szR n) (hw : w < c) (hv : VR T y) (hm : m < 1000000 - 1) (hq : RQI T n c tn m i s) : ∃ t, RQ s t ∧ RW_ T kd tl n c tn t ∧ ((f_X12_isQuietIn (iI y) (iI w) (iI m) s = some (1, t) ∧ ∃ l, alB T n tn y w l = true ∧ QD T n c tn m (bh n y l) ((w + 1) % c)) ∨ (f_X12_isQuietIn (iI y) (iI w) (iI m) s = some (0, t) ∧ ∀ l, alB T n tn y w l = true → ¬ (QD T n c tn m (bh n y l) ((w + 1) % c) ∧ ∀ i, i < m → ¬ QD T n c tn i (bh n y l) ((w + 1) % c)))) := by
  have hn := W.2.2.2
  have hc := W.cc
  have h8 := W.1.1
  have hw2 : (w + 1) % c < c := Nat.mod_lt _ (by omega)
  have val : ∀ (u : SS) (l : Nat), u 93 = s 93 → l ≤ 8 → alB T n tn y w l = true → (u 93 (4 * bh n y l + (w + 1) % c) = iI m ↔ (QD T n c tn m (bh n y l) ((w + 1) % c) ∧ ∀ i, i < m → ¬ QD T n c tn i (bh n y l) ((w + 1) % c))) := by
    intro u l hu hl ha
    rw [hu]
    have := hq (bh n y l) ((w + 1) % c) (bh_lt hn hy hl) hw2
    exact VQ_is this (al_vr W hy hv ha) (by split <;> omega) (by split <;> omega)
  have lp : ∀ (k N l : Nat) (u : SS), l + k = T.1 → k < N → RQ s u → RW_ T kd tl n c tn u → (∀ j, alB T n tn y w j = true → (j = 8 ∨ j < l) → ¬ (QD T n c tn m (bh n y j) ((w + 1) % c) ∧ ∀ i, i < m → ¬ QD T n c tn i (bh n y j) ((w + 1) % c))) → ∃ t, RQ s t ∧ RW_ T kd tl n c tn t ∧ ((lp_X12_isQuietIn_17 (iI y) (iI w) (iI m) N (iI l) u = some (1, t) ∧ ∃ l, alB T n tn y w l = true ∧ QD T n c tn m (bh n y l) ((w + 1) % c)) ∨ (lp_X12_isQuietIn_17 (iI y) (iI w) (iI m) N (iI l) u = some (0, t) ∧ ∀ l, alB T n tn y w l = true → ¬ (QD T n c tn m (bh n y l) ((w + 1) % c) ∧ ∀ i, i < m → ¬ QD T n c tn i (bh n y l) ((w + 1) % c)))) := by
    intro k
    induction k with
    | zero =>
      intro N l u hl hN h1 h2 h3
      cases N with
      | zero => omega
      | succ N =>
        obtain rfl : l = T.1 := by omega
        refine ⟨u, h1, h2, Or.inr ⟨?_, ?_⟩⟩
        · rw [lp_X12_isQuietIn_17]
          exact e_if_t (by rw [h2.1.1.1]; simp (disch := omega) only [Int.toNat_natCast, iI_lt, iI_le, iI_eq, iI_add, iI_sub, iI_mul, iI_neg, iI_clamp, inb_ii]; omega) rfl
        · intro j hj
          refine h3 j hj ?_
          by_cases q : j = 8
          · exact Or.inl q
          · have := al_le hj
            right
            rw [al_l (by omega)] at hj
            exact may_lt h8 (by omega) hj
    | succ k ih =>
      intro N l u hl hN h1 h2 h3
      cases N with
      | zero => omega
      | succ N =>
        obtain ⟨u1, e1, e2, e3⟩ := rw_may W h2 hy hv (m := tn w) (W.tt hw)
        have zh := has_f (v := may T n y (tn w)) (l := l) u1 (by omega)
        have hu1 := h1.tr e2
        have e1 : f_X12_mayOf (iI y) (u 62 (Int32.toNatClampNeg (iI (w : Int)))) u = some (may T n y (tn w), u1) := by
          rw [iI_clamp (by omega), Int.toNat_natCast, h2.2.2.2 w hw]
          exact e1
        have hal := al_l (T := T) (n := n) (tn := tn) (y := y) (w := w) (l := l) (by omega)
        by_cases q : bt (may T n y (tn w)) l = true
        · rw [if_pos q] at zh
          have zq := rw_qby W e3 hy hw (l := l) (by omega)
          have vl := val u1 l (hu1.hi (by omega)) (by omega) (by rw [hal]; exact q)
          by_cases q2 : u1 93 (4 * bh n y l + (w + 1) % c) = iI m
          · refine ⟨u1, hu1, e3, Or.inl ⟨?_, l, by rw [hal]; exact q, (vl.mp q2).1⟩⟩
            rw [lp_X12_isQuietIn_17]
            refine e_if_f (by rw [h2.1.1.1]; simp (disch := omega) only [Int.toNat_natCast, iI_lt, iI_le, iI_eq, iI_add, iI_sub, iI_mul, iI_neg, iI_clamp, inb_ii]; omega) ?_
            refine e_gd (by simp (disch := omega) only [Int.toNat_natCast, iI_lt, iI_le, iI_eq, iI_add, iI_sub, iI_mul, iI_neg, iI_clamp, inb_ii]; omega) ?_
            refine e_bd e1 ?_
            refine e_bdp zh ?_
            refine e_jn ?_
            refine e_if_f (by decide) ?_
            refine e_bdp zq ?_
            exact e_if_t q2 rfl
          · obtain ⟨t, t1, t2, t3⟩ := ih N (l + 1) u1 (by omega) (by omega) hu1 e3 (by
              intro j hj hj2
              by_cases z : j = l
              · rw [z]; exact mt vl.mpr q2
              · exact h3 j hj (by omega))
            have eq : lp_X12_isQuietIn_17 (iI y) (iI w) (iI m) (N + 1) (iI l) u = lp_X12_isQuietIn_17 (iI y) (iI w) (iI m) N (iI ((l + 1 : Nat) : Int)) u1 := by
              rw [lp_X12_isQuietIn_17]
              refine e_if_f (by rw [h2.1.1.1]; simp (disch := omega) only [Int.toNat_natCast, iI_lt, iI_le, iI_eq, iI_add, iI_sub, iI_mul, iI_neg, iI_clamp, inb_ii]; omega) ?_
              refine e_gd (by simp (disch := omega) only [Int.toNat_natCast, iI_lt, iI_le, iI_eq, iI_add, iI_sub, iI_mul, iI_neg, iI_clamp, inb_ii]; omega) ?_
              refine e_bd e1 ?_
              refine e_bdp zh ?_
              refine e_jn ?_
              refine e_if_f (by decide) ?_
              refine e_bdp zq ?_
              refine e_if_f q2 ?_
              rw [nx_s]
            refine ⟨t, t1, t2, ?_⟩
            rw [eq]
            exact t3
        · rw [if_neg q] at zh
          obtain ⟨t, t1, t2, t3⟩ := ih N (l + 1) u1 (by omega) (by omega) hu1 e3 (by
            intro j hj hj2
            by_cases z : j = l
            · rw [z, hal] at hj; exact absurd hj q
            · exact h3 j hj (by omega))
          have eq : lp_X12_isQuietIn_17 (iI y) (iI w) (iI m) (N + 1) (iI l) u = lp_X12_isQuietIn_17 (iI y) (iI w) (iI m) N (iI ((l + 1 : Nat) : Int)) u1 := by
            rw [lp_X12_isQuietIn_17]
            refine e_if_f (by rw [h2.1.1.1]; simp (disch := omega) only [Int.toNat_natCast, iI_lt, iI_le, iI_eq, iI_add, iI_sub, iI_mul, iI_neg, iI_clamp, inb_ii]; omega) ?_
            refine e_gd (by simp (disch := omega) only [Int.toNat_natCast, iI_lt, iI_le, iI_eq, iI_add, iI_sub, iI_mul, iI_neg, iI_clamp, inb_ii]; omega) ?_
            refine e_bd e1 ?_
            refine e_bdp zh ?_
            refine e_jn ?_
            refine e_if_t rfl ?_
            rw [nx_s]
          refine ⟨t, t1, t2, ?_⟩
          rw [eq]
          exact t3
  have zq := rw_qby W h hy hw (l := 8) (by omega)
  have vl := val s 8 rfl (by omega) al_8
  unfold f_X12_isQuietIn
  by_cases q : s 93 (4 * bh n y 8 + (w + 1) % c) = iI m
  · refine ⟨s, RQ.rf s, h, Or.inl ⟨?_, 8, al_8, (vl.mp q).1⟩⟩
    refine e_bdp zq ?_
    exact e_if_t q rfl
  · obtain ⟨t, t1, t2, t3⟩ := lp T.1 FU 0 s (by omega) (fu_lt (by omega)) (RQ.rf s) h (by
      intro j hj hj2
      rw [show j = 8 by omega]
      exact mt vl.mpr q)
    refine ⟨t, t1, t2, ?_⟩
    have eq : bdp (f_X12_quietBy (iI y) (iI w) 8 s) (fun (v1 : Int32) => if (v1 : Int32) = iI m then some (1, s) else lp_X12_isQuietIn_17 (iI y) (iI w) (iI m) FU 0 s) = lp_X12_isQuietIn_17 (iI y) (iI w) (iI m) FU 0 s := by
      refine e_bdp zq ?_
      exact e_if_f q rfl
    rw [eq]
    exact t3
