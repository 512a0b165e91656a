/-! how soon, the reference: the first values, the walk, the answer -/
variable {T : TW} {kd tl tn : Nat → Nat} {n c x p : Nat} {s t u : SS}
def INI (T : TW) (n c : Nat) (tn : Nat → Nat) (i : Nat) (s : SS) : Prop := ∀ y w, y < szR n → w < c → 4 * y + w < i → VQ T n c tn 0 y w (s 93 (4 * y + w))
theorem vq0_q {y w : Nat} (h : qF T n y tn c = true) : VQ T n c tn 0 y w 0 ∨ ¬ VR T y := by
  by_cases q : VR T y
  · exact Or.inl ⟨fun _ => Or.inl ⟨0, Nat.le_refl 0, h, fun i hi => by omega, rfl⟩, fun z => absurd q z⟩
  · exact Or.inr q
theorem cq_i1 (W : WOK T kd tl n c tn) {y : Nat} (hy : y < 4681) (K : SS → Res) : ∀ (k N w : Nat) (s : SS), w + k = c → k < N → RW_ T kd tl n c tn s → INI T n c tn (4 * y + w) s → ∃ t, lp_X12_laysQuiet_35 (iI (szR n)) (iI y) K N (iI w) s = K t ∧ RZ s t ∧ RW_ T kd tl n c tn t ∧ INI T n c tn (4 * y + c) t := by
  have hn := W.2.2.2
  have hc := W.cc
  have hbl := br_le hn
  intro k
  induction k with
  | zero =>
    intro N w s hw hN h hi
    cases N with
    | zero => omega
    | succ N =>
      obtain rfl : w = c := by omega
      refine ⟨s, ?_, RZ.rf s, h, hi⟩
      rw [lp_X12_laysQuiet_35]
      exact e_if_t (by rw [h.2.2.1]; simp (disch := omega) only [Int.toNat_natCast, iI_lt, iI_le, iI_eq, iI_add, iI_sub, iI_mul, iI_neg, iI_clamp, inb_ii]; omega) rfl
  | succ k ih =>
    intro N w s hw hN h hi
    cases N with
    | zero => omega
    | succ N =>
      have cf : ¬ s 56 5 ≤ iI (w : Int) := by rw [h.2.2.1]; simp (disch := omega) only [Int.toNat_natCast, iI_lt, iI_le, iI_eq, iI_add, iI_sub, iI_mul, iI_neg, iI_clamp, inb_ii]; omega
      have put : ∀ (v : Int32) (u : SS), RQ s u → RW_ T kd tl n c tn u → (y < szR n → VQ T n c tn 0 y w v) → ∃ t, gd (inb ((4 * iI (y : Int)) + iI (w : Int)) 18724) (lts (up u 93 (Int32.toNatClampNeg ((4 * iI (y : Int)) + iI (w : Int))) v) (fun (s50 : SS) => lp_X12_laysQuiet_35 (iI (szR n)) (iI y) K N (iI (w : Int) + 1) s50)) = K t ∧ RZ s t ∧ RW_ T kd tl n c tn t ∧ INI T n c tn (4 * y + c) t := by
        intro v u g1 g2 g3
        have e93 : u 93 = s 93 := g1.hi (by omega)
        obtain ⟨t, f1, f2, f3, f4⟩ := ih N (w + 1) (up u 93 (4 * y + w) v) (by omega) (by omega) (g2.up1 (by omega)) (by
          intro y2 w2 a b d
          by_cases z : 4 * y2 + w2 = 4 * y + w
          · obtain ⟨rfl, rfl⟩ : y2 = y ∧ w2 = w := by omega
            rw [up_at]
            exact g3 a
          · rw [up_slot z, e93]
            exact hi y2 w2 a b (by omega))
        refine ⟨t, ?_, (g1.z.tr (RZ.up1 (by omega))).tr f2, f3, f4⟩
        rw [lay_4]
        refine e_gd (by simp (disch := omega) only [Int.toNat_natCast, iI_lt, iI_le, iI_eq, iI_add, iI_sub, iI_mul, iI_neg, iI_clamp, inb_ii]; omega) ?_
        rw [iI_clamp (by omega), Int.toNat_natCast]
        refine e_lts ?_
        rw [nx_s]
        exact f1
      by_cases q : szR n ≤ y
      · obtain ⟨t, f1, f2⟩ := put 1000000000 s (RQ.rf s) h (fun z => by omega)
        refine ⟨t, ?_, f2⟩
        rw [lp_X12_laysQuiet_35]
        refine e_if_f cf ?_
        refine e_jn ?_
        refine e_jn ?_
        refine e_if_t (by simp (disch := omega) only [Int.toNat_natCast, iI_lt, iI_le, iI_eq, iI_add, iI_sub, iI_mul, iI_neg, iI_clamp, inb_ii]; omega) ?_
        exact f1
      · have hyn : y < szR n := by omega
        obtain ⟨s1, e1, e2, e3, e4⟩ := rw_isRow W h hy
        by_cases hv : VR T y
        · rw [if_pos (vr_iff.mpr hv)] at e1
          obtain ⟨s2, g1, g2, g3⟩ := rw_quiet W e3 hyn hv
          by_cases hq : qF T n y tn c = true
          · rw [if_pos hq] at g1
            obtain ⟨t, f1, f2⟩ := put 0 s2 (e2.tr g2) g3 (fun _ => (vq0_q hq).resolve_right (fun z => z hv))
            refine ⟨t, ?_, f2⟩
            rw [lp_X12_laysQuiet_35]
            refine e_if_f cf ?_
            refine e_jn ?_
            refine e_jn ?_
            refine e_if_f (by simp (disch := omega) only [Int.toNat_natCast, iI_lt, iI_le, iI_eq, iI_add, iI_sub, iI_mul, iI_neg, iI_clamp, inb_ii]; omega) ?_
            refine e_bd e1 ?_
            refine e_if_f (by decide) ?_
            refine e_bd g1 ?_
            refine e_if_f (by decide) ?_
            exact f1
          · rw [if_neg hq] at g1
            obtain ⟨t, f1, f2⟩ := put 1000000000 s2 (e2.tr g2) g3 (fun _ => ⟨fun _ => Or.inr ⟨hq, rfl⟩, fun _ => rfl⟩)
            refine ⟨t, ?_, f2⟩
            rw [lp_X12_laysQuiet_35]
            refine e_if_f cf ?_
            refine e_jn ?_
            refine e_jn ?_
            refine e_if_f (by simp (disch := omega) only [Int.toNat_natCast, iI_lt, iI_le, iI_eq, iI_add, iI_sub, iI_mul, iI_neg, iI_clamp, inb_ii]; omega) ?_
            refine e_bd e1 ?_
            refine e_if_f (by decide) ?_
            refine e_bd g1 ?_
            refine e_if_t rfl ?_
            exact f1
        · rw [if_neg (mt vr_iff.mp hv)] at e1
          obtain ⟨t, f1, f2⟩ := put 1000000000 s1 e2 e3 (fun _ => ⟨fun z => absurd z hv, fun _ => rfl⟩)
          refine ⟨t, ?_, f2⟩
          rw [lp_X12_laysQuiet_35]
          refine e_if_f cf ?_
          refine e_jn ?_
          refine e_jn ?_
          refine e_if_f (by simp (disch := omega) only [Int.toNat_natCast, iI_lt, iI_le, iI_eq, iI_add, iI_sub, iI_mul, iI_neg, iI_clamp, inb_ii]; omega) ?_
          refine e_bd e1 ?_
          refine e_if_t rfl ?_
          exact f1
theorem cq_i2 (W : WOK T kd tl n c tn) (K : SS → Res) : ∀ (k N y : Nat) (s : SS), y + k = 4681 → k < N → RW_ T kd tl n c tn s → INI T n c tn (4 * y) s → ∃ t, lp_X12_laysQuiet_26 (iI (szR n)) K N (iI y) s = K t ∧ RZ s t ∧ RW_ T kd tl n c tn t ∧ INI T n c tn 18724 t := by
  have hc := W.cc
  intro k
  induction k with
  | zero =>
    intro N y s hy hN h hi
    cases N with
    | zero => omega
    | succ N =>
      obtain rfl : y = 4681 := by omega
      refine ⟨s, ?_, RZ.rf s, h, hi⟩
      rw [lp_X12_laysQuiet_26]
      exact e_if_t (by decide) rfl
  | succ k ih =>
    intro N y s hy hN h hi
    cases N with
    | zero => omega
    | succ N =>
      obtain ⟨u, g1, g2, g3, g4⟩ := cq_i1 (y := y) W (by omega) (fun (s41 : SS) => lp_X12_laysQuiet_26 (iI (szR n)) K N (iI (y : Int) + 1) s41) c FU 0 s (by omega) (fu_lt (by omega)) h hi
      obtain ⟨t, f1, f2, f3, f4⟩ := ih N (y + 1) u (by omega) (by omega) g3 (fun y2 w2 a b d => g4 y2 w2 a b (by omega))
      refine ⟨t, ?_, g2.tr f2, f3, f4⟩
      rw [lp_X12_laysQuiet_26]
      refine e_if_f (by simp (disch := omega) only [Int.toNat_natCast, iI_lt, iI_le, iI_eq, iI_add, iI_sub, iI_mul, iI_neg, iI_clamp, inb_ii, z_4681]; omega) ?_
      refine e_jn ?_
      refine Eq.trans g1 ?_
      rw [nx_s]
      exact f1
theorem cq_lays (W : WOK T kd tl n c tn) (h : RW_ T kd tl n c tn s) : ∃ t, f_X12_laysQuiet s = some (0, t) ∧ RZ s t ∧ RW_ T kd tl n c tn t ∧ SFN T n c tn t := by
  have hn := W.2.2.2
  have hc := W.cc
  have hbl := br_le hn
  obtain ⟨u, g1, g2, g3, g4⟩ := cq_i2 W (fun (s3 : SS) => lp_X12_laysQuiet_97 (iI (szR n)) FU 1 0 s3) 4681 FU 0 s (by omega) (fu_lt (by omega)) h (fun y w _ _ z => by omega)
  have hF := FN_le u
  obtain ⟨t, f1, f2, f3, f4⟩ := cq_rounds W (18725 - FN u) FU 0 u (by omega) (fu_lt (by omega)) (Nat.zero_le _) g3 (fun y w a b => g4 y w a b (by have := (W.sz a).2; omega))
  refine ⟨t, ?_, g2.tr f2, f3, f4⟩
  unfold f_X12_laysQuiet
  refine e_jn ?_
  refine (rr_end0 hn _ _ h.1.2.1).trans ?_
  refine e_jn ?_
  refine Eq.trans g1 ?_
  exact f1
theorem SFN.q (h : SFN T n c tn s) (g : RQ s t) : SFN T n c tn t := by
  unfold SFN
  rw [g.hi (by omega)]
  exact h
/-- the first act that is as soon as can be -/
theorem cq_act (W : WOK T kd tl n c tn) {y w : Nat} {a1 : Int32} {N d : Nat} (hy : y < szR n) (hw : w < c) (hv : VR T y) (hf : FQ T n c tn y w) (hd : dq T n c tn y w + d = N) (h0 : dq T n c tn y w ≠ 0) (hN : N ≤ 18724) (K : Int32 → SS → Res) : ∀ (k F m : Nat) (s : SS), m + k = (if gct T n c tn y w = 8 then 0 else gct T n c tn y w + 1) → k < F → RW_ T kd tl n c tn s → SFN T n c tn s → ∃ t, lp_X12_soon_83 a1 (iI N) (iI y) (iI w) (iI d) K F (iI ((if m = 0 then 8 else m - 1 : Nat) : Int)) (iI m) s = K (iI (gct T n c tn y w)) t ∧ RQ s t ∧ RW_ T kd tl n c tn t := by
  have hn := W.2.2.2
  have hc := W.cc
  have h8 := W.1.1
  obtain ⟨g1, g2, g3⟩ := gct_ok hf h0
  have hw2 : (w + 1) % c < c := Nat.mod_lt _ (by omega)
  have ev : (iI (N : Int) - iI (d : Int)) - 1 = iI ((N - d - 1 : Nat) : Int) := by
    rw [iI_sub, z_1, iI_sub]
    congr 1
    omega
  -- the value behind an act
  have val : ∀ (u : SS) (l : Nat), SFN T n c tn u → l ≤ 8 → alB T n tn y w l = true → (u 93 (4 * bh n y l + (w + 1) % c) = iI ((N - d - 1 : Nat) : Int) ↔ gP T n c tn y w l = true) := by
    intro u l hu hl ha
    have hb := bh_lt hn hy hl
    rw [gP_iff]
    rcases (hu (bh n y l) ((w + 1) % c) hb hw2).1 (al_vr W hy hv ha) with ⟨b1, b2, b3⟩ | ⟨b1, b2⟩
    · rw [b3, iI_eq (by omega) (by omega)]
      constructor
      · intro z; exact ⟨ha, b1, by omega⟩
      · rintro ⟨-, -, z⟩; omega
    · rw [b2]
      constructor
      · intro z; exact absurd z.symm (far_ne (by omega))
      · rintro ⟨-, z, -⟩; exact absurd z b1
  intro k
  induction k with
  | zero =>
    intro F m s hm hF h hs
    cases F with
    | zero => omega
    | succ F =>
      have hl : (if m = 0 then 8 else m - 1) = gct T n c tn y w := by
        by_cases q : gct T n c tn y w = 8
        · rw [if_pos q] at hm; rw [if_pos (by omega), q]
        · rw [if_neg q] at hm; rw [if_neg (by omega)]; omega
      rw [hl]
      have hal := (gP_iff.mp g1).1
      have zq := rw_qby W h hy hw g2
      have v1 := (val s _ hs g2 hal).mpr g1
      by_cases q : gct T n c tn y w = 8
      · refine ⟨s, ?_, RQ.rf s, h⟩
        rw [lp_X12_soon_83]
        refine e_bdp zq ?_
        refine e_jn ?_
        rw [ev]
        refine e_if_t v1 ?_
        exact e_if_t (by rw [q]; decide) rfl
      · obtain ⟨s1, e1, e2, e3⟩ := rw_may W h hy hv (W.tt hw)
        have zh := has_f (v := may T n y (tn w)) (l := gct T n c tn y w) s1 (by omega)
        rw [if_pos (by rw [← al_l (by omega)]; exact hal)] at zh
        refine ⟨s1, ?_, e2, e3⟩
        rw [lp_X12_soon_83]
        refine e_bdp zq ?_
        refine e_jn ?_
        rw [ev]
        refine e_if_t v1 ?_
        refine e_if_f (by simp (disch := omega) only [Int.toNat_natCast, iI_lt, iI_le, iI_eq, iI_add, iI_sub, iI_mul, iI_neg, iI_clamp, inb_ii, z_8]; omega) ?_
        refine e_gd (by simp (disch := omega) only [Int.toNat_natCast, iI_lt, iI_le, iI_eq, iI_add, iI_sub, iI_mul, iI_neg, iI_clamp, inb_ii]; omega) ?_
        rw [iI_clamp (by omega), Int.toNat_natCast, h.2.2.2 w hw]
        refine e_bd e1 ?_
        refine e_bdp zh ?_
        exact e_if_f (by decide) rfl
  | succ k ih =>
    intro F m s hm hF h hs
    cases F with
    | zero => omega
    | succ F =>
      have q : gct T n c tn y w ≠ 8 := by
        intro q
        rw [if_pos q] at hm
        omega
      rw [if_neg q] at hm
      obtain ⟨p8, pl⟩ := g3.resolve_left q
      have hnP : gP T n c tn y w (if m = 0 then 8 else m - 1) = false := by
        by_cases z : m = 0
        · rw [if_pos z]; exact p8
        · rw [if_neg z]; exact pl _ (by omega)
      have hl8 : (if m = 0 then 8 else m - 1) ≤ 8 := by split <;> omega
      have next : ∀ u, RQ s u → RW_ T kd tl n c tn u → ∃ t, lp_X12_soon_83 a1 (iI N) (iI y) (iI w) (iI d) K F (iI m) (iI (m : Int) + 1) u = K (iI (gct T n c tn y w)) t ∧ RQ s t ∧ RW_ T kd tl n c tn t := by
        intro u hu hu2
        obtain ⟨t, f1, f2, f3⟩ := ih F (m + 1) u (by rw [if_neg q]; omega) (by omega) hu2 (hs.q hu)
        refine ⟨t, ?_, hu.tr f2, f3⟩
        rw [if_neg (by omega), Nat.add_sub_cancel] at f1
        rw [nx_s]
        exact f1
      generalize hl : (if m = 0 then 8 else m - 1) = l at hnP hl8 ⊢
      have zq := rw_qby W h hy hw hl8
      by_cases v : s 93 (4 * bh n y l + (w + 1) % c) = iI ((N - d - 1 : Nat) : Int)
      · have na : alB T n tn y w l = false := by
          cases z : alB T n tn y w l with
          | false => rfl
          | true =>
            rw [(val s l hs hl8 z).mp v] at hnP
            cases hnP
        have l8 : l < 8 := by
          rcases Nat.lt_or_ge l 8 with z | z
          · exact z
          · rw [show l = 8 by omega, al_8] at na
            cases na
        obtain ⟨s1, e1, e2, e3⟩ := rw_may W h hy hv (W.tt hw)
        have zh := has_f (v := may T n y (tn w)) (l := l) s1 (by omega)
        rw [if_neg (by rw [← al_l (by omega), na]; decide)] at zh
        obtain ⟨t, f1, f2⟩ := next s1 e2 e3
        refine ⟨t, ?_, f2⟩
        rw [lp_X12_soon_83]
        refine e_bdp zq ?_
        refine e_jn ?_
        rw [ev]
        refine e_if_t v ?_
        refine e_if_f (by simp (disch := omega) only [Int.toNat_natCast, iI_lt, iI_le, iI_eq, iI_add, iI_sub, iI_mul, iI_neg, iI_clamp, inb_ii, z_8]; omega) ?_
        refine e_gd (by simp (disch := omega) only [Int.toNat_natCast, iI_lt, iI_le, iI_eq, iI_add, iI_sub, iI_mul, iI_neg, iI_clamp, inb_ii]; omega) ?_
        rw [iI_clamp (by omega), Int.toNat_natCast, h.2.2.2 w hw]
        refine e_bd e1 ?_
        refine e_bdp zh ?_
        exact e_if_t rfl f1
      · obtain ⟨t, f1, f2⟩ := next s (RQ.rf s) h
        refine ⟨t, ?_, f2⟩
        rw [lp_X12_soon_83]
        refine e_bdp zq ?_
        refine e_jn ?_
        rw [ev]
        exact e_if_f v f1
theorem gpt_vr (W : WOK T kd tl n c tn) (hx : x < szR n) (hp : p < c) (hv : VR T x) (h : FQ T n c tn x p) : ∀ d, d ≤ dq T n c tn x p → VR T (gpt T n c tn x p d) := by
  intro d
  induction d with
  | zero => intro _; exact hv
  | succ d ih =>
    intro hd
    obtain ⟨h1, h2, h3⟩ := gpt_ok W.2.2.2 hx hp h d (by omega)
    obtain ⟨g1, g2, -⟩ := gct_ok h2 (by omega)
    exact al_vr W h1 (ih (by omega)) (gP_iff.mp g1).1
theorem cq_walk (W : WOK T kd tl n c tn) (hx : x < szR n) (hp : p < c) (hv : VR T x) (hf : FQ T n c tn x p) (hN : dq T n c tn x p ≤ 18724) {D : Nat} (hD : D < dq T n c tn x p) : ∀ (k F d : Nat) (v : Int32) (s : SS), d + k = D + 1 → k < F → RW_ T kd tl n c tn s → SFN T n c tn s → (k = 0 → v = iI (gct T n c tn (gpt T n c tn x p D) ((p + D) % c))) → ∃ t, lp_X12_soon_70 (iI D) (iI (dq T n c tn x p)) F (iI (gpt T n c tn x p d)) (iI (((p + d) % c : Nat) : Int)) v (iI d) s = some (iI (gct T n c tn (gpt T n c tn x p D) ((p + D) % c)), t) ∧ RZ s t ∧ RW_ T kd tl n c tn t := by
  have hn := W.2.2.2
  have hc := W.cc
  intro k
  induction k with
  | zero =>
    intro F d v s hd hF h hs hz
    cases F with
    | zero => omega
    | succ F =>
      refine ⟨s, ?_, RZ.rf s, h⟩
      rw [lp_X12_soon_70, hz rfl]
      exact e_if_t (by simp (disch := omega) only [Int.toNat_natCast, iI_lt, iI_le, iI_eq, iI_add, iI_sub, iI_mul, iI_neg, iI_clamp, inb_ii]; omega) rfl
  | succ k ih =>
    intro F d v s hd hF h hs hz
    cases F with
    | zero => omega
    | succ F =>
      obtain ⟨h1, h2, h3⟩ := gpt_ok hn hx hp hf d (by omega)
      have hw := W.pl (p + d)
      obtain ⟨g1, g2, -⟩ := gct_ok h2 (by omega)
      obtain ⟨u, e1, e2, e3⟩ := cq_act (y := gpt T n c tn x p d) (w := (p + d) % c) (a1 := iI D) (N := dq T n c tn x p) (d := d) W h1 hw (gpt_vr W hx hp hv hf d (by omega)) h2 h3 (by omega) hN (fun (v17 : Int32) (s18 : SS) => bdp (f_X12_behind (iI (gpt T n c tn x p d)) v17 s18) (fun (v20 : Int32) => gd (¬ ((s18 56 5) : Int32) = 0) (lt ((iI (((p + d) % c : Nat) : Int) + 1) - (iI (((p + d) % c : Nat) : Int) + 1) / (s18 56 5) * (s18 56 5)) (fun (v21 : Int32) => lp_X12_soon_70 (iI D) (iI (dq T n c tn x p)) F v20 v21 v17 (iI (d : Int) + 1) s18)))) (if gct T n c tn (gpt T n c tn x p d) ((p + d) % c) = 8 then 0 else gct T n c tn (gpt T n c tn x p d) ((p + d) % c) + 1) FU 0 s (by omega) (fu_lt (by split <;> omega)) h hs
      rw [if_pos rfl] at e1
      obtain ⟨t, f1, f2, f3⟩ := ih F (d + 1) (iI (gct T n c tn (gpt T n c tn x p d) ((p + d) % c))) u (by omega) (by omega) e3 (hs.q e2) (by
        intro z
        obtain rfl : d = D := by omega
        rfl)
      refine ⟨t, ?_, e2.z.tr f2, f3⟩
      rw [lp_X12_soon_70]
      refine e_if_f (by simp (disch := omega) only [Int.toNat_natCast, iI_lt, iI_le, iI_eq, iI_add, iI_sub, iI_mul, iI_neg, iI_clamp, inb_ii]; omega) ?_
      refine e_jn ?_
      refine Eq.trans e1 ?_
      refine e_bdp (rw_bh W e3 h1 g2) ?_
      refine e_gd (by rw [e3.2.2.1]; simp (disch := omega) only [Int.toNat_natCast, iI_lt, iI_le, iI_eq, iI_add, iI_sub, iI_mul, iI_neg, iI_clamp, inb_ii, z_0]; omega) ?_
      refine e_lt ?_
      rw [e3.2.2.1, nx_s, iI_rem (by omega) (by omega), show ((((p + d) % c + 1 : Nat) : Int) % (c : Int)) = ((((p + d) % c + 1) % c : Nat) : Int) by omega, pl_s, nx_s]
      exact f1
theorem cr_soon (W : WOK T kd tl n c tn) (hx : x < szR n) (hp : p < c) (hv : VR T x) (a : Int32) {s : SS} (h : RW_ T kd tl n c tn s) (h4 : s 56 4 = iI x) (h6 : s 56 6 = iI p) : ∃ t, f_X12_soon a s = some (ansSoon T n c tn x p a, t) ∧ RZ s t ∧ RW_ T kd tl n c tn t := by
  have hn := W.2.2.2
  have hc := W.cc
  have hsz := W.sz hx
  unfold f_X12_soon ansSoon
  by_cases q : a.toInt < -1
  · rw [if_pos q]
    refine ⟨s, ?_, RZ.rf s, h⟩
    exact e_if_f (by rw [le32]; show ¬ (-1 : Int) ≤ a.toInt; omega) rfl
  · rw [if_neg q]
    obtain ⟨t, e1, e2, e3, e4⟩ := cq_lays W h
    have t4 : t 56 4 = iI x := by rw [e2.2 4 (by unfold rsl; omega) (by omega) (by omega) (by omega) (by omega) (by omega) (by omega)]; exact h4
    have t6 : t 56 6 = iI p := by rw [e2.2 6 (by unfold rsl; omega) (by omega) (by omega) (by omega) (by omega) (by omega) (by omega)]; exact h6
    have hcell := (e4 x p hx hp).1 hv
    have c1 : (-1 : Int32) ≤ a := by rw [le32]; show (-1 : Int) ≤ a.toInt; omega
    have ci : inb (iI ((4 * x + p : Nat) : Int)) 18724 := by simp (disch := omega) only [Int.toNat_natCast, iI_lt, iI_le, iI_eq, iI_add, iI_sub, iI_mul, iI_neg, iI_clamp, inb_ii]; omega
    have cl : Int32.toNatClampNeg (iI ((4 * x + p : Nat) : Int)) = 4 * x + p := by rw [iI_clamp (by omega), Int.toNat_natCast]
    rcases hcell with ⟨g1, g2, g3⟩ | ⟨g1, g2⟩
    · rw [if_pos g1]
      have nf : ¬ iI (dq T n c tn x p : Int) = 1000000000 := far_ne (by omega)
      by_cases z : a.toInt = -1
      · refine ⟨t, ?_, e2, e3⟩
        refine e_if_t c1 ?_
        refine e_bd e1 ?_
        rw [t4, t6, lay_4]
        refine e_gd ci ?_
        rw [cl, g3]
        refine e_lt ?_
        refine e_if_f nf ?_
        rw [if_pos z]
        exact e_if_t ((m1_iff a).mpr z) rfl
      · by_cases z2 : (dq T n c tn x p : Int) ≤ a.toInt
        · refine ⟨t, ?_, e2, e3⟩
          refine e_if_t c1 ?_
          refine e_bd e1 ?_
          rw [t4, t6, lay_4]
          refine e_gd ci ?_
          rw [cl, g3]
          refine e_lt ?_
          refine e_if_f nf ?_
          rw [if_neg z, if_pos z2]
          refine e_if_f (fun w => z ((m1_iff a).mp w)) ?_
          exact e_if_f (by rw [lt32, iI_toInt (by omega)]; omega) rfl
        · have ed := e_lit (a := a) (k := (a.toInt.toNat : Nat)) (by omega)
          have hd : a.toInt.toNat < dq T n c tn x p := by omega
          rw [if_neg z, if_neg z2]
          generalize a.toInt.toNat = d at ed hd ⊢
          obtain ⟨u, k1, k2, k3⟩ := cq_walk W hx hp hv g1 g2 hd (d + 1) FU 0 8 t (by omega) (fu_lt (by omega)) e3 e4 (fun w => by omega)
          refine ⟨u, ?_, e2.tr k2, k3⟩
          refine e_if_t c1 ?_
          refine e_bd e1 ?_
          rw [t4, t6, lay_4]
          refine e_gd ci ?_
          rw [cl, g3]
          refine e_lt ?_
          refine e_if_f nf ?_
          refine e_if_f (fun w => z ((m1_iff a).mp w)) ?_
          refine e_if_t (by rw [ed]; simp (disch := omega) only [Int.toNat_natCast, iI_lt, iI_le, iI_eq, iI_add, iI_sub, iI_mul, iI_neg, iI_clamp, inb_ii]; omega) ?_
          refine e_lt ?_
          refine e_lt ?_
          rw [Nat.add_zero, Nat.mod_eq_of_lt hp] at k1
          rw [ed]
          exact k1
    · rw [if_neg g1]
      refine ⟨t, ?_, e2, e3⟩
      refine e_if_t c1 ?_
      refine e_bd e1 ?_
      rw [t4, t6, lay_4]
      refine e_gd ci ?_
      rw [cl, g2]
      refine e_lt ?_
      exact e_if_t rfl rfl
