/-! the rows that the reference comes to -/
variable {T : TW} {kd tl tn : Nat → Nat} {n c x p : Nat} {s t u : SS}
def RHA (T : TW) (n N : Nat) (s : SS) : Prop := ∀ d y, d ≤ N → y < 4681 → s 90 (4681 * d + y) = 0 ∨ (s 90 (4681 * d + y) = 1 ∧ y < szR n ∧ VR T y)
def RHS (T : TW) (kd tl : Nat → Nat) (n c : Nat) (tn : Nat → Nat) (x p N : Nat) (s : SS) : Prop := RW_ T kd tl n c tn s ∧ s 56 4 = iI x ∧ s 56 6 = iI p ∧ RHA T n N s
def CLd (T : TW) (kd tl : Nat → Nat) (n c : Nat) (tn : Nat → Nat) (p fr d y : Nat) (s : SS) : Prop :=
  if fr = 9 ∨ fr = tn ((p + d) % c) then s 90 (4681 * (d + 1) + y) = 1 ∧ ∀ l, l < T.1 → bt (may T n y (tn ((p + d) % c))) l = true → s 90 (4681 * (d + 1) + bh n y l) = 1
  else s 90 (4681 * (d + 1) + bh n y (cho T kd tl n y (tn ((p + d) % c)))) = 1
def GRW (s t : SS) : Prop := ∀ k, s 90 k = 1 → t 90 k = 1
theorem GRW.tr (h : GRW s t) (g : GRW t u) : GRW s u := fun k a => g k (h k a)
theorem CLd.g {fr d y : Nat} (h : CLd T kd tl n c tn p fr d y s) (g : GRW s t) : CLd T kd tl n c tn p fr d y t := by
  unfold CLd at h ⊢
  split
  · rename_i q
    rw [if_pos q] at h
    exact ⟨g _ h.1, fun l a b => g _ (h.2 l a b)⟩
  · rename_i q
    rw [if_neg q] at h
    exact g _ h
def STP (T : TW) (kd tl : Nat → Nat) (n c : Nat) (tn : Nat → Nat) (x p N d : Nat) (s t : SS) : Prop := RZ s t ∧ RHS T kd tl n c tn x p N t ∧ GRW s t ∧ ∀ k, k < 4681 * (d + 1) → t 90 k = s 90 k
theorem STP.tr {N d : Nat} (h : STP T kd tl n c tn x p N d s t) (g : STP T kd tl n c tn x p N d t u) : STP T kd tl n c tn x p N d s u := ⟨h.1.tr g.1, g.2.1, h.2.2.1.tr g.2.2.1, fun k a => (g.2.2.2 k a).trans (h.2.2.2 k a)⟩
theorem RHS.q {N : Nat} (d : Nat) (h : RHS T kd tl n c tn x p N s) (g : RQ s t) (f : RW_ T kd tl n c tn t) : STP T kd tl n c tn x p N d s t := by
  have e : t 90 = s 90 := g.hi (by omega)
  refine ⟨g.z, ⟨f, by rw [g.sl (by omega)]; exact h.2.1, by rw [g.sl (by omega)]; exact h.2.2.1, ?_⟩, fun k a => by rw [e]; exact a, fun k _ => by rw [e]⟩
  unfold RHA
  rw [e]
  exact h.2.2.2
theorem RHS.rf {N : Nat} (d : Nat) (h : RHS T kd tl n c tn x p N s) : STP T kd tl n c tn x p N d s s := ⟨RZ.rf s, h, fun _ a => a, fun _ _ => rfl⟩
theorem RHS.put {N d y : Nat} (h : RHS T kd tl n c tn x p N s) (hy : y < szR n) (hy2 : y < 4681) (hv : VR T y) : STP T kd tl n c tn x p N d s (up s 90 (4681 * (d + 1) + y) 1) := by
  refine ⟨RZ.up1 (by omega), ⟨h.1.up1 (by omega), by rw [up_cell (by omega)]; exact h.2.1, by rw [up_cell (by omega)]; exact h.2.2.1, ?_⟩, ?_, ?_⟩
  · intro d2 y2 hd2 hy3
    by_cases w : 4681 * d2 + y2 = 4681 * (d + 1) + y
    · right
      have : y2 = y := by omega
      rw [w, up_at, this]
      exact ⟨rfl, hy, hv⟩
    · rw [up_slot w]
      exact h.2.2.2 d2 y2 hd2 hy3
  · intro k a
    by_cases w : k = 4681 * (d + 1) + y
    · rw [w]; exact up_at _ _ _ _
    · rw [up_slot w]; exact a
  · intro k a
    exact up_slot (by omega)
theorem lay_i (d y : Nat) : (4681 : Int32) * (iI (d : Int) + 1) + iI (y : Int) = iI ((4681 * (d + 1) + y : Nat) : Int) := by
  rw [nx_s, z_4681, iI_mul, iI_add]
  congr 1
theorem lay_0 (d y : Nat) : (4681 : Int32) * iI (d : Int) + iI (y : Int) = iI ((4681 * d + y : Nat) : Int) := by
  rw [z_4681, iI_mul, iI_add]
  congr 1
theorem cr_rL1 (W : WOK T kd tl n c tn) {N d fr y : Nat} (hN : N ≤ 12) (hd : d < N) (hy : y < szR n) (hv : VR T y) {m : Nat} (hm : m < 4) (K : SS → Res) : ∀ (k F l : Nat) (s : SS), l + k = T.1 → k < F → RHS T kd tl n c tn x p N s → (∀ r, r < l → bt (may T n y m) r = true → s 90 (4681 * (d + 1) + bh n y r) = 1) → ∃ t, lp_X12_reaches_142 (iI N) (iI fr) (iI d) (iI m) (iI y) K F (iI l) s = K t ∧ STP T kd tl n c tn x p N d s t ∧ ∀ r, r < T.1 → bt (may T n y m) r = true → t 90 (4681 * (d + 1) + bh n y r) = 1 := by
  have h8 := W.1.1
  intro k
  induction k with
  | zero =>
    intro F l s hl hF hs hr
    cases F with
    | zero => omega
    | succ F =>
      obtain rfl : l = T.1 := by omega
      refine ⟨s, ?_, hs.rf d, hr⟩
      rw [lp_X12_reaches_142]
      exact e_if_t (by rw [hs.1.1.1.1]; simp (disch := omega) only [Int.toNat_natCast, iI_lt, iI_le, iI_eq, iI_add, iI_sub, iI_mul, iI_neg, iI_clamp, inb_ii]; omega) rfl
  | succ k ih =>
    intro F l s hl hF hs hr
    cases F with
    | zero => omega
    | succ F =>
      obtain ⟨s1, e1, e2, e3⟩ := rw_may W hs.1 hy hv hm
      have st := hs.q d e2 e3
      have zh := has_f (v := may T n y m) (l := l) s1 (by omega)
      have gr := st.2.2.1
      by_cases q : bt (may T n y m) l = true
      · rw [if_pos q] at zh
        have hb := bh_lt (l := l) W.2.2.2 hy (by omega)
        have hvb := vr_bh (l := l) W.2.2.2 hy hv (Or.inr ⟨by omega, by omega⟩)
        have hb2 := W.sz hb
        have zb := rw_bh W e3 hy (l := l) (by omega)
        have sp := st.2.1.put (d := d) hb hb2.2 hvb
        obtain ⟨t, f1, f2, f3⟩ := ih F (l + 1) _ (by omega) (by omega) sp.2.1 (by
          intro r hr2 hb3
          by_cases w : r = l
          · subst w; exact up_at _ _ _ _
          · exact sp.2.2.1 _ (gr _ (hr r (by omega) hb3)))
        refine ⟨t, ?_, (st.tr sp).tr f2, f3⟩
        rw [lp_X12_reaches_142]
        refine e_if_f (by rw [hs.1.1.1.1]; simp (disch := omega) only [Int.toNat_natCast, iI_lt, iI_le, iI_eq, iI_add, iI_sub, iI_mul, iI_neg, iI_clamp, inb_ii]; omega) ?_
        refine e_bd e1 ?_
        refine e_bdp zh ?_
        refine e_jn ?_
        refine e_if_f (by decide) ?_
        refine e_bdp zb ?_
        rw [lay_i]
        refine e_gd (by simp (disch := omega) only [Int.toNat_natCast, iI_lt, iI_le, iI_eq, iI_add, iI_sub, iI_mul, iI_neg, iI_clamp, inb_ii]; omega) ?_
        refine e_lts ?_
        rw [iI_clamp (by omega), Int.toNat_natCast, nx_s, vnb1]
        exact f1
      · rw [if_neg q] at zh
        obtain ⟨t, f1, f2, f3⟩ := ih F (l + 1) s1 (by omega) (by omega) st.2.1 (by
          intro r hr2 hb3
          by_cases w : r = l
          · subst w; exact absurd hb3 q
          · exact gr _ (hr r (by omega) hb3))
        refine ⟨t, ?_, st.tr f2, f3⟩
        rw [lp_X12_reaches_142]
        refine e_if_f (by rw [hs.1.1.1.1]; simp (disch := omega) only [Int.toNat_natCast, iI_lt, iI_le, iI_eq, iI_add, iI_sub, iI_mul, iI_neg, iI_clamp, inb_ii]; omega) ?_
        refine e_bd e1 ?_
        refine e_bdp zh ?_
        refine e_jn ?_
        refine e_if_t rfl ?_
        rw [nx_s]
        exact f1
theorem cr_rL2 (W : WOK T kd tl n c tn) {N d fr : Nat} (hfr : fr = 9 ∨ fr < 4) (hN : N ≤ 12) (hd : d < N) (K : SS → Res) : ∀ (k F y : Nat) (s : SS), y + k = 4681 → k < F → RHS T kd tl n c tn x p N s → (∀ r, r < y → s 90 (4681 * d + r) = 1 → CLd T kd tl n c tn p fr d r s) → ∃ t, lp_X12_reaches_53 (iI N) (iI fr) (iI d) (iI (tn ((p + d) % c))) K F (iI y) s = K t ∧ STP T kd tl n c tn x p N d s t ∧ ∀ r, r < 4681 → t 90 (4681 * d + r) = 1 → CLd T kd tl n c tn p fr d r t := by
  have hm := W.tt (W.pl (p + d))
  intro k
  induction k with
  | zero =>
    intro F y s hl hF hs hr
    cases F with
    | zero => omega
    | succ F =>
      obtain rfl : y = 4681 := by omega
      refine ⟨s, ?_, hs.rf d, hr⟩
      rw [lp_X12_reaches_53]
      exact e_if_t (by decide) rfl
  | succ k ih =>
    intro F y s hl hF hs hr
    cases F with
    | zero => omega
    | succ F =>
      have next : ∀ u, STP T kd tl n c tn x p N d s u → (u 90 (4681 * d + y) = 1 → CLd T kd tl n c tn p fr d y u) → ∃ t, lp_X12_reaches_53 (iI N) (iI fr) (iI d) (iI (tn ((p + d) % c))) K F (iI y + 1) u = K t ∧ STP T kd tl n c tn x p N d s t ∧ ∀ r, r < 4681 → t 90 (4681 * d + r) = 1 → CLd T kd tl n c tn p fr d r t := by
        intro u hu hc
        obtain ⟨t, f1, f2, f3⟩ := ih F (y + 1) u (by omega) (by omega) hu.2.1 (by
          intro r hr2 h1
          by_cases w : r = y
          · subst w; exact hc h1
          · rw [hu.2.2.2 _ (by omega)] at h1
            exact (hr r (by omega) h1).g hu.2.2.1)
        refine ⟨t, ?_, hu.tr f2, f3⟩
        rw [nx_s]
        exact f1
      have hcell := hs.2.2.2 d y (by omega) (by omega)
      have cf : ¬ (4681 : Int32) ≤ iI (y : Int) := by simp (disch := omega) only [Int.toNat_natCast, iI_lt, iI_le, iI_eq, iI_add, iI_sub, iI_mul, iI_neg, iI_clamp, inb_ii, z_4681]; omega
      have ig : inb (iI ((4681 * d + y : Nat) : Int)) 60853 := by simp (disch := omega) only [Int.toNat_natCast, iI_lt, iI_le, iI_eq, iI_add, iI_sub, iI_mul, iI_neg, iI_clamp, inb_ii]; omega
      have icl : Int32.toNatClampNeg (iI ((4681 * d + y : Nat) : Int)) = 4681 * d + y := by rw [iI_clamp (by omega), Int.toNat_natCast]
      by_cases q : s 90 (4681 * d + y) = 0
      · obtain ⟨t, f1, f2, f3⟩ := next s (hs.rf d) (fun h => by rw [q] at h; exact absurd h (by decide))
        refine ⟨t, ?_, f2, f3⟩
        rw [lp_X12_reaches_53]
        refine e_if_f cf ?_
        rw [lay_0]
        refine e_gd ig ?_
        refine e_jn ?_
        rw [icl]
        exact e_if_t q f1
      · have hz := hcell.resolve_left q
        have hy := hz.2.1
        have hv := hz.2.2
        by_cases q2 : fr = 9 ∨ fr = tn ((p + d) % c)
        · have sp := hs.put (d := d) hy (by omega) hv
          obtain ⟨u, g1, g2, g3⟩ := cr_rL1 (x := x) (p := p) (N := N) (d := d) (fr := fr) W hN hd hy hv hm (fun s15 => lp_X12_reaches_53 (iI N) (iI fr) (iI d) (iI (tn ((p + d) % c))) K F (iI y + 1) s15) T.1 FU 0 (up s 90 (4681 * (d + 1) + y) 1) (by omega) (fu_lt (by have := W.1.1; omega)) sp.2.1 (by intro r hr2; omega)
          obtain ⟨t, f1, f2, f3⟩ := next u (sp.tr g2) (fun _ => by
            unfold CLd
            rw [if_pos q2]
            exact ⟨g2.2.2.1 _ (up_at _ _ _ _), g3⟩)
          refine ⟨t, ?_, f2, f3⟩
          rw [lp_X12_reaches_53]
          refine e_if_f cf ?_
          rw [lay_0]
          refine e_gd ig ?_
          refine e_jn ?_
          rw [icl]
          refine e_if_f q ?_
          refine e_jn ?_
          have body : gd (inb (4681 * (iI (d : Int) + 1) + iI (y : Int)) 60853) (lts (up s 90 (Int32.toNatClampNeg (4681 * (iI (d : Int) + 1) + iI (y : Int))) (vp_nar .boolean 1)) (fun s19 => lp_X12_reaches_142 (iI N) (iI fr) (iI d) (iI (tn ((p + d) % c))) (iI y) (fun s15 => lp_X12_reaches_53 (iI N) (iI fr) (iI d) (iI (tn ((p + d) % c))) K F (iI y + 1) s15) FU 0 s19)) = K t := by
            rw [lay_i]
            refine e_gd (by simp (disch := omega) only [Int.toNat_natCast, iI_lt, iI_le, iI_eq, iI_add, iI_sub, iI_mul, iI_neg, iI_clamp, inb_ii]; omega) ?_
            refine e_lts ?_
            rw [iI_clamp (by omega), Int.toNat_natCast, vnb1]
            exact g1.trans f1
          by_cases q3 : fr = 9
          · exact e_if_t (by rw [q3]; rfl) body
          · refine e_if_f (by simp (disch := omega) only [Int.toNat_natCast, iI_lt, iI_le, iI_eq, iI_add, iI_sub, iI_mul, iI_neg, iI_clamp, inb_ii, show (9 : Int32) = iI 9 from rfl]; omega) ?_
            exact e_if_t (by rw [q2.resolve_left q3]) body
        · obtain ⟨s1, e1, e2, e3⟩ := rw_makes W hs.1 hy hv hm
          have st := hs.q d e2 e3
          have hbv := vr_cho (kd := kd) (tl := tl) W.1.1 W.2.1 hm W.2.2.2 hy hv
          have hb2 := W.sz hbv.1
          have zb := rw_bh W e3 hy (l := cho T kd tl n y (tn ((p + d) % c))) (W.cho hm hy)
          have sp := st.2.1.put (d := d) hbv.1 hb2.2 hbv.2
          obtain ⟨t, f1, f2, f3⟩ := next _ (st.tr sp) (fun _ => by
            unfold CLd
            rw [if_neg q2]
            exact up_at _ _ _ _)
          refine ⟨t, ?_, f2, f3⟩
          rw [lp_X12_reaches_53]
          refine e_if_f cf ?_
          rw [lay_0]
          refine e_gd ig ?_
          refine e_jn ?_
          rw [icl]
          refine e_if_f q ?_
          refine e_jn ?_
          refine e_if_f (by simp (disch := omega) only [Int.toNat_natCast, iI_lt, iI_le, iI_eq, iI_add, iI_sub, iI_mul, iI_neg, iI_clamp, inb_ii, show (9 : Int32) = iI 9 from rfl]; omega) ?_
          refine e_if_f (by simp (disch := omega) only [Int.toNat_natCast, iI_lt, iI_le, iI_eq, iI_add, iI_sub, iI_mul, iI_neg, iI_clamp, inb_ii]; omega) ?_
          refine e_bd e1 ?_
          refine e_bdp zb ?_
          rw [lay_i]
          refine e_gd (by simp (disch := omega) only [Int.toNat_natCast, iI_lt, iI_le, iI_eq, iI_add, iI_sub, iI_mul, iI_neg, iI_clamp, inb_ii]; omega) ?_
          refine e_lts ?_
          rw [iI_clamp (by omega), Int.toNat_natCast, vnb1]
          exact f1
def RCL (T : TW) (kd tl : Nat → Nat) (n c : Nat) (tn : Nat → Nat) (x p fr N : Nat) (s : SS) : Prop := s 90 x = 1 ∧ ∀ d, d < N → ∀ y, y < 4681 → s 90 (4681 * d + y) = 1 → CLd T kd tl n c tn p fr d y s
theorem rw_on (W : WOK T kd tl n c tn) (h : RW_ T kd tl n c tn s) (h6 : s 56 6 = iI p) (hp : p < c) {d : Nat} (hd : d < 1000000) : f_X12_makerOn (iI d) s = some (iI (tn ((p + d) % c))) := rt_on W.2.2.1 h.2.2 h6 hp hd
theorem cr_rL3 (W : WOK T kd tl n c tn) (hp : p < c) {N fr : Nat} (hfr : fr = 9 ∨ fr < 4) (hN : N ≤ 12) : ∀ (k F d : Nat) (s : SS), d + k = N → k < F → RHS T kd tl n c tn x p N s → (∀ r, r < d → ∀ y, y < 4681 → s 90 (4681 * r + y) = 1 → CLd T kd tl n c tn p fr r y s) → ∃ t, lp_X12_reaches_38 (iI N) (iI fr) F (iI d) s = some (0, t) ∧ RZ s t ∧ RHS T kd tl n c tn x p N t ∧ GRW s t ∧ ∀ r, r < N → ∀ y, y < 4681 → t 90 (4681 * r + y) = 1 → CLd T kd tl n c tn p fr r y t := by
  intro k
  induction k with
  | zero =>
    intro F d s hl hF hs hr
    cases F with
    | zero => omega
    | succ F =>
      obtain rfl : d = N := by omega
      refine ⟨s, ?_, RZ.rf s, hs, fun _ a => a, hr⟩
      rw [lp_X12_reaches_38]
      exact e_if_t (by simp (disch := omega) only [Int.toNat_natCast, iI_lt, iI_le, iI_eq, iI_add, iI_sub, iI_mul, iI_neg, iI_clamp, inb_ii]; omega) rfl
  | succ k ih =>
    intro F d s hl hF hs hr
    cases F with
    | zero => omega
    | succ F =>
      obtain ⟨u, g1, g2, g3⟩ := cr_rL2 (x := x) (p := p) (N := N) (d := d) (fr := fr) W hfr hN (by omega) (fun s9 => lp_X12_reaches_38 (iI N) (iI fr) F (iI d + 1) s9) 4681 FU 0 s (by omega) (fu_lt (by omega)) hs (by intro r hr2; omega)
      obtain ⟨t, f1, f2, f3, f4, f5⟩ := ih F (d + 1) u (by omega) (by omega) g2.2.1 (by
        intro r hr2 y hy h1
        by_cases w : r = d
        · subst w; exact g3 y hy h1
        · rw [g2.2.2.2 _ (by omega)] at h1
          exact (hr r (by omega) y hy h1).g g2.2.2.1)
      refine ⟨t, ?_, g2.1.tr f2, f3, g2.2.2.1.tr f4, f5⟩
      rw [lp_X12_reaches_38]
      refine e_if_f (by simp (disch := omega) only [Int.toNat_natCast, iI_lt, iI_le, iI_eq, iI_add, iI_sub, iI_mul, iI_neg, iI_clamp, inb_ii]; omega) ?_
      refine e_bdp (rw_on W hs.1 hs.2.2.1 hp (by omega)) ?_
      refine e_jn ?_
      refine Eq.trans g1 ?_
      rw [nx_s]
      exact f1
theorem rr_clear90 {a2 : Int32} {N : Nat} (hN : N ≤ 12) (k : SS → Res) (s : SS) : lp_X12_reaches_2 (iI N) a2 k FU 0 s = k (upr s 90 (fun j => if j < 4681 * (N + 1) then 0 else s 90 j)) := by
  have lp : ∀ m F i : Nat, ∀ R : Nat → Int32, i + m = 4681 * (N + 1) → m < F → lp_X12_reaches_2 (iI N) a2 k F (iI i) (upr s 90 R) = k (upr s 90 (fun j => if i ≤ j ∧ j < 4681 * (N + 1) then 0 else R j)) := by
    have eN : (4681 : Int32) * (iI (N : Int) + 1) = iI ((4681 * (N + 1) : Nat) : Int) := by
      rw [nx_s, z_4681, iI_mul]
      congr 1
    intro m
    induction m with
    | zero =>
      intro F i R hi2 hF
      cases F with
      | zero => omega
      | succ F =>
        rw [lp_X12_reaches_2, eN]
        refine e_if_t (by simp (disch := omega) only [Int.toNat_natCast, iI_lt, iI_le, iI_eq, iI_add, iI_sub, iI_mul, iI_neg, iI_clamp, inb_ii]; omega) ?_
        congr 2
        funext j
        rw [if_neg (by omega)]
    | succ m ih =>
      intro F i R hi2 hF
      cases F with
      | zero => omega
      | succ F =>
        rw [lp_X12_reaches_2, eN]
        refine e_if_f (by simp (disch := omega) only [Int.toNat_natCast, iI_lt, iI_le, iI_eq, iI_add, iI_sub, iI_mul, iI_neg, iI_clamp, inb_ii]; omega) ?_
        refine e_gd (by simp (disch := omega) only [Int.toNat_natCast, iI_lt, iI_le, iI_eq, iI_add, iI_sub, iI_mul, iI_neg, iI_clamp, inb_ii]; omega) ?_
        refine e_up ?_
        rw [nx_s, ih F (i + 1) _ (by omega) (by omega)]
        congr 2
        funext j
        rw [iI_clamp (by omega), Int.toNat_natCast]
        by_cases q : j = i
        · subst q; rw [upd_eq, if_neg (by omega), if_pos (by omega)]; rfl
        · rw [upd_ne q]
          by_cases q2 : i + 1 ≤ j ∧ j < 4681 * (N + 1)
          · rw [if_pos q2, if_pos (by omega)]
          · rw [if_neg q2, if_neg (by omega)]
  have := lp (4681 * (N + 1)) FU 0 (s 90) (by omega) (fu_lt (by omega))
  rw [upr_self] at this
  refine Eq.trans this ?_
  congr 2
  funext j
  by_cases q : j < 4681 * (N + 1)
  · rw [if_pos (by omega), if_pos q]
  · rw [if_neg (by omega), if_neg q]
theorem cr_reaches (W : WOK T kd tl n c tn) (hx : x < szR n) (hv : VR T x) (hp : p < c) {N fr : Nat} (hfr : fr = 9 ∨ fr < 4) (hN : N ≤ 12) (h : RW_ T kd tl n c tn s) (h4 : s 56 4 = iI x) (h6 : s 56 6 = iI p) : ∃ t, f_X12_reaches (iI N) (iI fr) s = some (0, t) ∧ RZ s t ∧ RHS T kd tl n c tn x p N t ∧ RCL T kd tl n c tn x p fr N t := by
  have hsz := W.sz hx
  obtain ⟨t, f1, f2, f3, f4, f5⟩ := cr_rL3 (x := x) W hp hfr hN N FU 0 (up (upr s 90 (fun j => if j < 4681 * (N + 1) then 0 else s 90 j)) 90 x 1) (by omega) (fu_lt (by omega)) ⟨(h.ur (by omega)).up1 (by omega), by rw [up_cell (by omega), upr_ne (by omega)]; exact h4, by rw [up_cell (by omega), upr_ne (by omega)]; exact h6, by
    intro d y hd hy
    by_cases w : 4681 * d + y = x
    · have : y = x := by omega
      subst this
      right
      rw [w, up_at]
      exact ⟨rfl, hx, hv⟩
    · left
      rw [up_slot w, upr_eq, if_pos (by omega)]⟩ (by intro r hr2; omega)
  refine ⟨t, ?_, ((RZ.ur (by omega)).tr (RZ.up1 (by omega))).tr f2, f3, f4 _ (up_at _ _ _ _), f5⟩
  unfold f_X12_reaches
  refine e_jn ?_
  refine (rr_clear90 hN _ s).trans ?_
  have e4 : (upr s 90 (fun j => if j < 4681 * (N + 1) then 0 else s 90 j)) 56 4 = iI x := by rw [upr_ne (by omega)]; exact h4
  rw [e4]
  refine e_gd (by simp (disch := omega) only [Int.toNat_natCast, iI_lt, iI_le, iI_eq, iI_add, iI_sub, iI_mul, iI_neg, iI_clamp, inb_ii]; omega) ?_
  refine e_lts ?_
  rw [iI_clamp (by omega), Int.toNat_natCast, vnb1]
  exact f1
