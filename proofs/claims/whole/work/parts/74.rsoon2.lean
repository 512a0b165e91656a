/-! how soon, the reference: the rounds -/
variable {T : TW} {kd tl tn : Nat → Nat} {n c x p : Nat} {s t u : SS}
def MFI (T : TW) (n c : Nat) (tn : Nat → Nat) (m i : Nat) (v : Int32) (s0 s : SS) : Prop := FN s0 ≤ FN s ∧ ((v = 0 ∧ ∀ y w, y < szR n → w < c → 4 * y + w < i → VR T y → QD T n c tn (m + 1) y w → QD T n c tn m y w) ∨ (v = 1 ∧ FN s0 < FN s))
theorem FN.q (h : RQ s t) : FN t = FN s := by unfold FN; rw [h.hi (by omega)]
theorem RQI.q {m i : Nat} (h : RQI T n c tn m i s) (g : RQ s t) : RQI T n c tn m i t := by
  unfold RQI
  rw [g.hi (by omega)]
  exact h
theorem MFI.q {m i : Nat} {v : Int32} {s0 : SS} (h : MFI T n c tn m i v s0 s) (g : RQ s t) : MFI T n c tn m i v s0 t := by
  unfold MFI
  rw [FN.q g]
  exact h
/-- one cell is through -/
def LQS (T : TW) (kd tl : Nat → Nat) (n c : Nat) (tn : Nat → Nat) (m i : Nat) (v : Int32) (s0 s : SS) : Prop := RZ s0 s ∧ RW_ T kd tl n c tn s ∧ RQI T n c tn m i s ∧ MFI T n c tn m i v s0 s
theorem LQS.q {m i : Nat} {v : Int32} {s0 : SS} (h : LQS T kd tl n c tn m i v s0 s) (g : RQ s t) (f : RW_ T kd tl n c tn t) : LQS T kd tl n c tn m i v s0 t := ⟨h.1.tr g.z, f, h.2.2.1.q g, h.2.2.2.q g⟩
theorem lqs_skip {m y w : Nat} {v : Int32} {s0 : SS} (hc : c ≤ 4) (h : LQS T kd tl n c tn m (4 * y + w) v s0 s) (hw : w < c) (hq : VQ T n c tn (m + 1) y w (s 93 (4 * y + w))) (hk : VR T y → QD T n c tn (m + 1) y w → QD T n c tn m y w) : LQS T kd tl n c tn m (4 * y + (w + 1)) v s0 s := by
  obtain ⟨h1, h2, h3, h4, h5⟩ := h
  refine ⟨h1, h2, ?_, h4, ?_⟩
  · intro y2 w2 a b
    have := h3 y2 w2 a b
    by_cases q : 4 * y2 + w2 = 4 * y + w
    · obtain ⟨rfl, rfl⟩ : y2 = y ∧ w2 = w := by omega
      rw [if_pos (by omega)]
      exact hq
    · by_cases q2 : 4 * y2 + w2 < 4 * y + w
      · rw [if_pos q2] at this
        rw [if_pos (by omega)]
        exact this
      · rw [if_neg q2] at this
        rw [if_neg (by omega)]
        exact this
  · rcases h5 with ⟨a, b⟩ | a
    · left
      refine ⟨a, fun y2 w2 a1 a2 a3 a4 a5 => ?_⟩
      by_cases q : 4 * y2 + w2 = 4 * y + w
      · obtain ⟨rfl, rfl⟩ : y2 = y ∧ w2 = w := by omega
        exact hk a4 a5
      · exact b y2 w2 a1 a2 (by omega) a4 a5
    · exact Or.inr a
theorem lqs_put {m y w : Nat} {v : Int32} {s0 : SS} (hc : c ≤ 4) (hm : m < 1000000) (h : LQS T kd tl n c tn m (4 * y + w) v s0 s) (hw : w < c) (hy : y < 4681) (hf : s 93 (4 * y + w) = FARv) (hv : VR T y) (h1 : QD T n c tn (m + 1) y w) (h2 : ¬ QD T n c tn m y w) : LQS T kd tl n c tn m (4 * y + (w + 1)) 1 s0 (up s 93 (4 * y + w) (iI ((m + 1 : Nat) : Int))) := by
  obtain ⟨g1, g2, g3, g4, g5⟩ := h
  have hfn : FN (up s 93 (4 * y + w) (iI ((m + 1 : Nat) : Int))) = FN s + 1 := by
    unfold FN
    rw [up_def, upr_eq]
    have := dcF_up (v := FARv) (R := s 93) (b := 0) (j := 4 * y + w) (a := iI ((m + 1 : Nat) : Int)) (by rw [Nat.zero_add]; exact hf) (far_ne (by omega)) 18724 (by omega)
    rw [Nat.zero_add] at this
    exact this
  refine ⟨g1.tr (RZ.up1 (by omega)), g2.up1 (by omega), ?_, by omega, Or.inr ⟨rfl, by omega⟩⟩
  intro y2 w2 a b
  have := g3 y2 w2 a b
  by_cases q : 4 * y2 + w2 = 4 * y + w
  · obtain ⟨rfl, rfl⟩ : y2 = y ∧ w2 = w := by omega
    rw [if_pos (by omega), up_at]
    refine ⟨fun _ => Or.inl ⟨m + 1, Nat.le_refl _, h1, ?_, rfl⟩, fun z => absurd hv z⟩
    intro i hi z
    exact h2 (QD_up z m (by omega))
  · rw [up_slot q]
    by_cases q2 : 4 * y2 + w2 < 4 * y + w
    · rw [if_pos q2] at this
      rw [if_pos (by omega)]
      exact this
    · rw [if_neg q2] at this
      rw [if_neg (by omega)]
      exact this
theorem far_lit : (1000000000 : Int32) = FARv := rfl
theorem cq_in (W : WOK T kd tl n c tn) {m y : Nat} {v1 : Int32} {s0 : SS} (hy : y < szR n) (hm : m < 1000000 - 1) (K : Int32 → SS → Res) : ∀ (k N w : Nat) (v : Int32) (s : SS), w + k = c → k < N → LQS T kd tl n c tn m (4 * y + w) v s0 s → ∃ t v2, lp_X12_laysQuiet_115 v1 (iI m) (iI y) K N v (iI w) s = K v2 t ∧ LQS T kd tl n c tn m (4 * y + c) v2 s0 t := by
  have hn := W.2.2.2
  have hc := W.cc
  have hsz := W.sz hy
  intro k
  induction k with
  | zero =>
    intro N w v s hw hN h
    cases N with
    | zero => omega
    | succ N =>
      obtain rfl : w = c := by omega
      refine ⟨s, v, ?_, h⟩
      rw [lp_X12_laysQuiet_115]
      exact e_if_t (by rw [h.2.1.2.2.1]; simp (disch := omega) only [Int.toNat_natCast, iI_lt, iI_le, iI_eq, iI_add, iI_sub, iI_mul, iI_neg, iI_clamp, inb_ii]; omega) rfl
  | succ k ih =>
    intro N w v s hw hN h
    cases N with
    | zero => omega
    | succ N =>
      have cf : ¬ s 56 5 ≤ iI (w : Int) := by rw [h.2.1.2.2.1]; simp (disch := omega) only [Int.toNat_natCast, iI_lt, iI_le, iI_eq, iI_add, iI_sub, iI_mul, iI_neg, iI_clamp, inb_ii]; omega
      have ci : inb (iI ((4 * y + w : Nat) : Int)) 18724 := by simp (disch := omega) only [Int.toNat_natCast, iI_lt, iI_le, iI_eq, iI_add, iI_sub, iI_mul, iI_neg, iI_clamp, inb_ii]; omega
      have cl : Int32.toNatClampNeg (iI ((4 * y + w : Nat) : Int)) = 4 * y + w := by rw [iI_clamp (by omega), Int.toNat_natCast]
      have hq := h.2.2.1 y w hy (by omega)
      rw [if_neg (by omega)] at hq
      by_cases q : s 93 (4 * y + w) = FARv
      · obtain ⟨s1, e1, e2, e3, e4⟩ := rw_isRow W h.2.1 hsz.2
        have h1 := h.q e2 e3
        have q1 : s1 93 (4 * y + w) = FARv := by rw [e2.hi (by omega)]; exact q
        rw [q] at hq
        by_cases hv : VR T y
        · have nq := VQ_far hq hv (by omega)
          rw [if_pos (vr_iff.mpr hv)] at e1
          obtain ⟨s2, g1, g2, g3⟩ := rw_qin W e3 hy (show w < c by omega) hv hm h1.2.2.1
          have h2 := h1.q g1 g2
          have q2 : s2 93 (4 * y + w) = FARv := by rw [g1.hi (by omega)]; exact q1
          rcases g3 with ⟨k1, l, k2, k3⟩ | ⟨k1, k2⟩
          · have h3 := lqs_put (y := y) (w := w) hc.2 (by omega) h2 (by omega) hsz.2 q2 hv (Or.inr ⟨l, k2, k3⟩) nq
            obtain ⟨t, v2, f1, f2⟩ := ih N (w + 1) 1 _ (by omega) (by omega) h3
            refine ⟨t, v2, ?_, f2⟩
            rw [lp_X12_laysQuiet_115]
            refine e_if_f cf ?_
            rw [lay_4]
            refine e_gd ci ?_
            refine e_jn ?_
            rw [cl]
            refine e_if_t q ?_
            refine e_bd e1 ?_
            refine e_if_f (by decide) ?_
            refine e_bd k1 ?_
            refine e_if_f (by decide) ?_
            refine e_gd ci ?_
            rw [nx_s]
            refine e_lts ?_
            rw [nx_s]
            exact f1
          · have h3 := lqs_skip (y := y) (w := w) hc.2 h2 (by omega) (by
              rw [q2]
              refine ⟨fun _ => Or.inr ⟨?_, rfl⟩, fun _ => rfl⟩
              rintro (z | ⟨l, z1, z2⟩)
              · exact nq z
              · exact k2 l z1 ⟨z2, fun i hi z3 => nq (QD_up (k := i + 1) (Or.inr ⟨l, z1, z3⟩) m (by omega))⟩) (by
              rintro - (z | ⟨l, z1, z2⟩)
              · exact z
              · exact absurd ⟨z2, fun i hi z3 => nq (QD_up (k := i + 1) (Or.inr ⟨l, z1, z3⟩) m (by omega))⟩ (k2 l z1))
            obtain ⟨t, v2, f1, f2⟩ := ih N (w + 1) v _ (by omega) (by omega) h3
            refine ⟨t, v2, ?_, f2⟩
            rw [lp_X12_laysQuiet_115]
            refine e_if_f cf ?_
            rw [lay_4]
            refine e_gd ci ?_
            refine e_jn ?_
            rw [cl]
            refine e_if_t q ?_
            refine e_bd e1 ?_
            refine e_if_f (by decide) ?_
            refine e_bd k1 ?_
            refine e_if_t rfl ?_
            rw [nx_s]
            exact f1
        · rw [if_neg (mt vr_iff.mp hv)] at e1
          have h3 := lqs_skip (y := y) (w := w) hc.2 h1 (by omega) (by
            rw [q1]
            exact ⟨fun z => absurd z hv, fun _ => rfl⟩) (fun z => absurd z hv)
          obtain ⟨t, v2, f1, f2⟩ := ih N (w + 1) v _ (by omega) (by omega) h3
          refine ⟨t, v2, ?_, f2⟩
          rw [lp_X12_laysQuiet_115]
          refine e_if_f cf ?_
          rw [lay_4]
          refine e_gd ci ?_
          refine e_jn ?_
          rw [cl]
          refine e_if_t q ?_
          refine e_bd e1 ?_
          refine e_if_t rfl ?_
          rw [nx_s]
          exact f1
      · have h3 := lqs_skip (y := y) (w := w) hc.2 h (by omega) (VQ_keep hq q) (by
          intro hv hz
          rcases hq.1 hv with ⟨j, a, b, d, e⟩ | a
          · exact QD_up b m a
          · exact absurd a.2 q)
        obtain ⟨t, v2, f1, f2⟩ := ih N (w + 1) v _ (by omega) (by omega) h3
        refine ⟨t, v2, ?_, f2⟩
        rw [lp_X12_laysQuiet_115]
        refine e_if_f cf ?_
        rw [lay_4]
        refine e_gd ci ?_
        refine e_jn ?_
        rw [cl]
        refine e_if_f q ?_
        rw [nx_s]
        exact f1
theorem cq_out (W : WOK T kd tl n c tn) {m : Nat} {s0 : SS} (hm : m < 1000000 - 1) (K : Int32 → SS → Res) : ∀ (k N y : Nat) (v : Int32) (s : SS), y + k = szR n → k < N → LQS T kd tl n c tn m (4 * y) v s0 s → ∃ t v2, lp_X12_laysQuiet_106 (iI (szR n)) (iI m) K N v (iI y) s = K v2 t ∧ LQS T kd tl n c tn m (4 * szR n) v2 s0 t := by
  have hn := W.2.2.2
  have hc := W.cc
  have hbl := br_le hn
  intro k
  induction k with
  | zero =>
    intro N y v s hy hN h
    cases N with
    | zero => omega
    | succ N =>
      obtain rfl : y = szR n := by omega
      refine ⟨s, v, ?_, h⟩
      rw [lp_X12_laysQuiet_106]
      exact e_if_t (by simp (disch := omega) only [Int.toNat_natCast, iI_lt, iI_le, iI_eq, iI_add, iI_sub, iI_mul, iI_neg, iI_clamp, inb_ii]; omega) rfl
  | succ k ih =>
    intro N y v s hy hN h
    cases N with
    | zero => omega
    | succ N =>
      obtain ⟨u, v3, g1, g2⟩ := cq_in (v1 := iI (szR n)) (s0 := s0) (y := y) W (by omega) hm (fun (v18 : Int32) (s19 : SS) => lp_X12_laysQuiet_106 (iI (szR n)) (iI m) K N v18 (iI (y : Int) + 1) s19) c FU 0 v s (by omega) (fu_lt (by omega)) h
      obtain ⟨a1, a2, a3, a4, a5⟩ := g2
      obtain ⟨t, v2, f1, f2⟩ := ih N (y + 1) v3 u (by omega) (by omega) ⟨a1, a2, by
        intro y2 w2 b1 b2
        have := a3 y2 w2 b1 b2
        by_cases z : 4 * y2 + w2 < 4 * y + c
        · rw [if_pos z] at this
          rw [if_pos (by omega)]
          exact this
        · rw [if_neg z] at this
          rw [if_neg (by omega)]
          exact this, a4, by
        rcases a5 with ⟨b1, b2⟩ | b
        · exact Or.inl ⟨b1, fun y2 w2 d1 d2 d3 d4 d5 => b2 y2 w2 d1 d2 (by omega) d4 d5⟩
        · exact Or.inr b⟩
      refine ⟨t, v2, ?_, f2⟩
      rw [lp_X12_laysQuiet_106]
      refine e_if_f (by simp (disch := omega) only [Int.toNat_natCast, iI_lt, iI_le, iI_eq, iI_add, iI_sub, iI_mul, iI_neg, iI_clamp, inb_ii]; omega) ?_
      refine e_jn ?_
      refine Eq.trans g1 ?_
      rw [nx_s]
      exact f1
/-- what stands in the end -/
def SFN (T : TW) (n c : Nat) (tn : Nat → Nat) (s : SS) : Prop := ∀ y w, y < szR n → w < c → (VR T y → (FQ T n c tn y w ∧ dq T n c tn y w ≤ 18724 ∧ s 93 (4 * y + w) = iI (dq T n c tn y w)) ∨ (¬ FQ T n c tn y w ∧ s 93 (4 * y + w) = FARv)) ∧ (¬ VR T y → s 93 (4 * y + w) = FARv)
theorem sfn_of (W : WOK T kd tl n c tn) {m : Nat} (hm : m ≤ 18724) (h : ∀ y w, y < szR n → w < c → VQ T n c tn m y w (s 93 (4 * y + w))) (g : ∀ y w, y < szR n → w < c → VR T y → QD T n c tn (m + 1) y w → QD T n c tn m y w) : SFN T n c tn s := by
  have hn := W.2.2.2
  have all : ∀ k y w, y < szR n → w < c → VR T y → QD T n c tn k y w → QD T n c tn m y w := by
    intro k
    induction k with
    | zero => intro y w _ _ _ h0; exact QD_up h0 m (Nat.zero_le m)
    | succ k ih =>
      intro y w a b d e
      rcases e with e | ⟨l, e1, e2⟩
      · exact ih y w a b d e
      · exact g y w a b d (Or.inr ⟨l, e1, ih _ _ (bh_lt hn a (al_le e1)) (Nat.mod_lt _ (by omega)) (al_vr W a d e1) e2⟩)
  intro y w hy hw
  have hh := h y w hy hw
  refine ⟨fun hv => ?_, hh.2⟩
  rcases hh.1 hv with ⟨j, a, b, d, e⟩ | ⟨a, b⟩
  · left
    obtain ⟨f1, f2⟩ := dq_eq b d
    exact ⟨f1, by omega, by rw [f2]; exact e⟩
  · right
    exact ⟨fun ⟨k, hk⟩ => a (all k y w hy hw hv hk), b⟩
theorem FN_le (s : SS) : FN s ≤ 18724 := dcF_le _ _ _ _
theorem cq_rounds (W : WOK T kd tl n c tn) : ∀ (k N m : Nat) (s : SS), FN s + k = 18725 → k + 1 < N → m ≤ FN s → RW_ T kd tl n c tn s → (∀ y w, y < szR n → w < c → VQ T n c tn m y w (s 93 (4 * y + w))) → ∃ t, lp_X12_laysQuiet_97 (iI (szR n)) N 1 (iI m) s = some (0, t) ∧ RZ s t ∧ RW_ T kd tl n c tn t ∧ SFN T n c tn t := by
  have hn := W.2.2.2
  have hc := W.cc
  have hbl := br_le hn
  intro k
  induction k using Nat.strongRecOn with
  | _ k ih =>
    intro N m s hk hN hm h hq
    have hF := FN_le s
    obtain ⟨N, rfl⟩ : ∃ M, N = M + 1 := ⟨N - 1, by omega⟩
    obtain ⟨t, v2, f1, f2⟩ := cq_out (m := m) (s0 := s) W (by omega) (fun (v10 : Int32) (s11 : SS) => lp_X12_laysQuiet_97 (iI (szR n)) N v10 (iI (m : Int) + 1) s11) (szR n) FU 0 0 s (by omega) (fu_lt (by omega)) ⟨RZ.rf s, h, fun y w a b => by rw [if_neg (by omega)]; exact hq y w a b, Nat.le_refl _, Or.inl ⟨rfl, fun y w _ _ z => by omega⟩⟩
    obtain ⟨a1, a2, a3, a4, a5⟩ := f2
    have hq2 : ∀ y w, y < szR n → w < c → VQ T n c tn (m + 1) y w (t 93 (4 * y + w)) := by
      intro y w a b
      have := a3 y w a b
      rw [if_pos (by omega)] at this
      exact this
    have run : lp_X12_laysQuiet_97 (iI (szR n)) (N + 1) 1 (iI m) s = lp_X12_laysQuiet_97 (iI (szR n)) N v2 (iI ((m + 1 : Nat) : Int)) t := by
      rw [lp_X12_laysQuiet_97]
      refine e_if_f (by decide) ?_
      refine e_jn ?_
      refine Eq.trans f1 ?_
      rw [nx_s]
    rcases a5 with ⟨b1, b2⟩ | ⟨b1, b2⟩
    · refine ⟨t, ?_, a1, a2, ?_⟩
      · rw [run, b1]
        obtain ⟨N, rfl⟩ : ∃ M, N = M + 1 := ⟨N - 1, by omega⟩
        rw [lp_X12_laysQuiet_97]
        exact e_if_t rfl rfl
      · have cl : ∀ y w, y < szR n → w < c → VR T y → QD T n c tn (m + 1) y w → QD T n c tn m y w := fun y w a b d e => b2 y w a b (by omega) d e
        refine sfn_of (m := m) W (by omega) ?_ cl
        intro y w a b
        have := hq2 y w a b
        refine ⟨fun hv => ?_, this.2⟩
        rcases this.1 hv with ⟨j, d1, d2, d3, d4⟩ | ⟨d1, d2⟩
        · left
          by_cases z : j = m + 1
          · subst z
            exact absurd (cl y w a b hv d2) (d3 m (by omega))
          · exact ⟨j, by omega, d2, d3, d4⟩
        · exact Or.inr ⟨fun z => d1 (Or.inl z), d2⟩
    · have hF2 := FN_le t
      obtain ⟨u, g1, g2, g3, g4⟩ := ih (18725 - FN t) (by omega) N (m + 1) t (by omega) (by omega) (by omega) a2 hq2
      refine ⟨u, ?_, a1.tr g2, g3, g4⟩
      rw [run, b1]
      exact g1
