/-! the class reads pieces, conditions, clauses -/
variable {ch : Nat → Nat} {n : Nat} {s t u : SS}
def pCmp (ch : Nat → Nat) (d p : Nat) : RSL := match pSum ch (8 - d) d p with
  | .error f => .error f
  | .ok r => if isS (ch r.1) then (match pSum ch (8 - d) d (r.1 + 1) with | .error f => .error f | .ok r2 => .ok (r2.1, binE (ch r.1) r.2 r2.2)) else .error (1000 + r.1)
def pAllL (ch : Nat → Nat) (sb : Nat → RSL) : Nat → Nat → EV → RSL
  | 0, q, e => .ok (q, e)
  | k + 1, q, e => if ch q = 38 then (match sb (q + 1) with | .error f => .error f | .ok r => pAllL ch sb k r.1 (andE e r.2)) else .ok (q, e)
def pAll (ch : Nat → Nat) (sb : Nat → RSL) (p : Nat) : RSL := match sb p with | .error f => .error f | .ok r => pAllL ch sb 200 r.1 r.2
def pAnyL (ch : Nat → Nat) (sb : Nat → RSL) : Nat → Nat → EV → RSL
  | 0, q, e => .ok (q, e)
  | k + 1, q, e => if ch q = 124 then (match sb (q + 1) with | .error f => .error f | .ok r => pAnyL ch sb k r.1 (orE e r.2)) else .ok (q, e)
def pAny (ch : Nat → Nat) (sb : Nat → RSL) (p : Nat) : RSL := match pAll ch sb p with | .error f => .error f | .ok r => pAnyL ch (pAll ch sb) 200 r.1 r.2
def pPc (ch : Nat → Nat) : Nat → Nat → Nat → RSL
  | 0, _, p => .error (1000 + p)
  | r + 1, d, p => if ch p = 33 then (if d < 6 then (match pPc ch r (d + 1) (p + 1) with | .error f => .error f | .ok r => .ok (r.1, notE r.2)) else .error (5000 + p)) else if ch p = 40 then (if d < 6 then (match pAny ch (pPc ch r (d + 1)) (p + 1) with | .error f => .error f | .ok r => if ch r.1 = 41 then .ok (r.1 + 1, r.2) else .error (1000 + r.1)) else .error (5000 + p)) else pCmp ch d p
theorem rd_cmp (h : OKC ch n) {d : Nat} (hd : d ≤ 6) : RDR ch n (f_X4_readComparison (iI d)) (pCmp ch d) 16 := by
  have HS := rd_sum h (7 - d) 40 d (by omega) (by omega) hd
  rw [show 7 - d + 1 = 8 - d by omega] at HS
  refine ⟨fun s F hF => ?_, fun s p k hs => ?_⟩
  · obtain ⟨v, t, e1, e2, e3⟩ := HS.1 s F hF
    obtain ⟨w, ew⟩ := fl_sign t
    refine ⟨0, t, ?_, e2, e3⟩
    unfold f_X4_readComparison
    refine e_bd e1 ?_
    refine e_bdp ew ?_
    refine e_jn ?_
    refine e_if_f e3.ne ?_
    exact e_bd (stop_f e3 1) rfl
  · obtain ⟨v, t, f1, f2, f3, f4⟩ := HS.2 s p k hs
    unfold pCmp
    cases c : pSum ch (8 - d) d p with
    | error f =>
      have hf := f3 f c
      obtain ⟨w, ew⟩ := fl_sign t
      refine ⟨0, t, ?_, PO.err f2 hf⟩
      unfold f_X4_readComparison
      refine e_bd f1 ?_
      refine e_bdp ew ?_
      refine e_jn ?_
      refine e_if_f hf.ne ?_
      exact e_bd (stop_f hf 1) rfl
    | ok r =>
      obtain ⟨k2, a1, a2, a3, a4⟩ := f4 r c
      have h60 := sgv_is h (p := r.1) (c := 60) (by omega)
      have h62 := sgv_is h (p := r.1) (c := 62) (by omega)
      have h61 := sgv_is h (p := r.1) (c := 61) (by omega)
      have hsg := ps_sign h a1
      show ∃ v t, _ ∧ PO ch n (if isS (ch r.1) then (match pSum ch (8 - d) d (r.1 + 1) with | .error f => .error f | .ok r2 => .ok (r2.1, binE (ch r.1) r.2 r2.2)) else .error (1000 + r.1)) _ _ _ _ t
      by_cases y : isS (ch r.1)
      · rw [if_pos y]
        have hq := ch_lt h (p := r.1) (by unfold isS at y; omega)
        have esg : sgv ch n r.1 = iI (ch r.1) := if_pos hq
        obtain ⟨g1, g2⟩ := ps_next a1 hq
        obtain ⟨v2, t2, b1, b2, b3, b4⟩ := HS.2 _ _ _ g1
        have head : ∀ z, bd (f_X1_addStep (iI (ch r.1)) 0 t2) (fun (v12 : Int32) (s13 : SS) => some ((0 : Int32), s13)) = z → f_X4_readComparison (iI d) s = z := by
          intro z hz
          have inner : lts (up t 17 3 ((t 17 3) + 1)) (fun (s9 : SS) => bd (f_X4_readSum 40 (iI d) s9) (fun (v10 : Int32) (s11 : SS) => bd (f_X1_addStep (sgv ch n r.1) 0 s11) (fun (v12 : Int32) (s13 : SS) => some ((0 : Int32), s13)))) = z := by
            refine e_lts ?_
            rw [esg]
            exact e_bd b1 hz
          unfold f_X4_readComparison
          refine e_bd f1 ?_
          refine e_bdp hsg ?_
          refine e_jn ?_
          refine e_if_t a1.2.2.1 ?_
          refine e_jn ?_
          by_cases y1 : ch r.1 = 60
          · exact e_if_t (h60.mpr y1) inner
          · refine e_if_f (mt h60.mp y1) ?_
            by_cases y2 : ch r.1 = 62
            · exact e_if_t (h62.mpr y2) inner
            · refine e_if_f (mt h62.mp y2) ?_
              exact e_if_t (h61.mpr (by unfold isS at y; omega)) inner
        cases c2 : pSum ch (8 - d) d (r.1 + 1) with
        | error f =>
          have hf := b3 f c2
          obtain ⟨v3, t3, d1, d2, d3⟩ := step_f (iI (ch r.1)) 0 t2
          refine ⟨0, t3, head _ (e_bd d1 rfl), PO.err (((f2.tr g2).tr b2).tr d2) ?_⟩
          unfold FLT at hf ⊢
          rw [d3]
          exact hf
        | ok r2 =>
          obtain ⟨k3, c1, c3, c4, c5⟩ := b4 r2 c2
          have hk2 := a1.2.2.2.2.2.1
          obtain ⟨t3, d1, d2, d3, d4, d5, d6⟩ := step_g c1 h.1 (by omega) (iI (ch r.1)) 0
          refine ⟨0, t3, head _ (e_bd d1 rfl), ?_⟩
          refine PO.okk (((f2.tr g2).tr b2).tr d2) d3 (by show k3 + 1 + p ≤ r2.1 + k; omega) (fun i hi => ?_) ?_
          · have x1 := d4 i (by have := a4.1; have := c5.1; omega)
            have x2 := c4 i (by have := a4.1; omega)
            rw [up_cell (by omega), up_cell (by omega)] at x2
            have x3 := a3 i hi
            exact ⟨(x1.1.trans x2.1).trans x3.1, (x1.2.trans x2.2).trans x3.2⟩
          · refine CE_bin (Q1 := 2 * (6 - d) + 3) (Q2 := 2 * (6 - d) + 3) (a4.of (fun i a b => ?_)) (c5.of (fun i a b => d4 i (by omega))) (ops_S y) d5 (by omega) (by omega) (by omega)
            have x1 := d4 i (by have := c5.1; omega)
            have x2 := c4 i b
            rw [up_cell (by omega), up_cell (by omega)] at x2
            exact ⟨x1.1.trans x2.1, x1.2.trans x2.2⟩
      · rw [if_neg y]
        obtain ⟨g1, g2⟩ := stop_g a1 h.1 (c := 1) (by omega)
        refine ⟨0, _, ?_, PO.err (f2.tr (FP.u17 (by omega))) g2⟩
        unfold f_X4_readComparison
        refine e_bd f1 ?_
        refine e_bdp hsg ?_
        refine e_jn ?_
        refine e_if_t a1.2.2.1 ?_
        refine e_jn ?_
        refine e_if_f (fun w => y (Or.inl (h60.mp w))) ?_
        refine e_if_f (fun w => y (Or.inr (Or.inl (h62.mp w)))) ?_
        refine e_if_f (fun w => y (Or.inr (Or.inr (h61.mp w)))) ?_
        exact e_bd g1 rfl
/-- a step that leaves, its aim not yet told -/
def PD (op : Int32) (cmb : EV → EV → EV) (lv : Int32) (k k2 : Nat) (e : EV) (u : SS) : Prop := (lv = -1 ∧ CE 16 (u 20) (u 21) k k2 e) ∨ ∃ (m : Nat) (e1 e2 : EV), lv = iI m ∧ k ≤ m ∧ m < k2 ∧ CE 16 (u 20) (u 21) k m e1 ∧ CE 16 (u 20) (u 21) (m + 1) k2 e2 ∧ u 20 m = op ∧ e = cmb e1 e2
theorem aim_f (v : Int32) (s : SS) : ∃ t, f_X1_aimHere v s = some (0, t) ∧ FP s t ∧ t 17 = s 17 := by
  unfold f_X1_aimHere
  by_cases q1 : v < 0
  · exact ⟨s, e_if_t q1 rfl, FP.rf s, rfl⟩
  · by_cases q2 : (200 : Int32) ≤ v
    · exact ⟨s, e_if_f q1 (e_if_t q2 rfl), FP.rf s, rfl⟩
    · have h1 : ¬ v.toInt < 0 := by rw [lt32] at q1; exact q1
      have h2 : ¬ (200 : Int) ≤ v.toInt := by rw [le32] at q2; exact q2
      refine ⟨up s 21 (Int32.toNatClampNeg v) (s 19 7), e_if_f q1 (e_if_f q2 (e_gd ⟨by omega, by omega⟩ (e_lts rfl))), ⟨fun q a b d e => up_cell e, fun j a b => by rw [up_cell (by omega)], fun j a => by rw [up_cell (by omega)]⟩, up_cell (by omega)⟩
theorem aim_g {op : Int32} {cmb : EV → EV → EV} {lv : Int32} {q k k2 : Nat} {e : EV} (hs : PS ch n q k2 u) (hn : n ≤ 200) (hp : PD op cmb lv k k2 e u) (hc : ∀ (ST AM : Nat → Int32) (a m l : Nat) (e1 e2 : EV), CE 16 ST AM a m e1 → CE 16 ST AM (m + 1) l e2 → ST m = op → AM m = iI l → CE 16 ST AM a l (cmb e1 e2)) : ∃ t, f_X1_aimHere lv u = some (0, t) ∧ FP u t ∧ PS ch n q k2 t ∧ (∀ i, i < k → t 20 i = u 20 i ∧ t 21 i = u 21 i) ∧ CE 16 (t 20) (t 21) k k2 e := by
  rcases hp with ⟨a, b⟩ | ⟨m, e1, e2, a1, a2, a3, a4, a5, a6, a7⟩
  · refine ⟨u, ?_, FP.rf u, hs, fun _ _ => ⟨rfl, rfl⟩, b⟩
    unfold f_X1_aimHere
    exact e_if_t (by rw [a]; decide) rfl
  · have hk := hs.2.2.2.2.2
    have h7 := hs.2.2.2.1
    refine ⟨up u 21 m (iI k2), ?_, ⟨fun q a b d e => up_cell e, fun j a b => by rw [up_cell (by omega)], fun j a => by rw [up_cell (by omega)]⟩, ?_, fun i hi => ⟨by rw [up_cell (by omega)], up_slot (by omega)⟩, ?_⟩
    · unfold f_X1_aimHere
      rw [a1, h7]
      refine e_if_f (by simp (disch := omega) only [Int.toNat_natCast, iI_lt, iI_le, iI_eq, iI_add, iI_sub, iI_mul, iI_neg, iI_clamp, inb_ii, z_0]; omega) ?_
      refine e_if_f (by simp (disch := omega) only [Int.toNat_natCast, iI_lt, iI_le, iI_eq, iI_add, iI_sub, iI_mul, iI_neg, iI_clamp, inb_ii, z_200]; omega) ?_
      refine e_gd (by simp (disch := omega) only [Int.toNat_natCast, iI_lt, iI_le, iI_eq, iI_add, iI_sub, iI_mul, iI_neg, iI_clamp, inb_ii]; omega) ?_
      rw [iI_clamp (by omega), Int.toNat_natCast]
      exact e_lts rfl
    · unfold PS at hs ⊢
      rw [up_cell (by omega), up_cell (by omega), up_cell (by omega)]
      exact hs
    · rw [a7]
      refine hc _ _ k m k2 e1 e2 (a4.of (fun i x y => ⟨by rw [up_cell (by omega)], up_slot (by omega)⟩)) (a5.of (fun i x y => ⟨by rw [up_cell (by omega)], up_slot (by omega)⟩)) (by rw [up_cell (by omega)]; exact a6) (up_at _ _ _ _)
theorem rd_all (h : OKC ch n) {rf : Int32 → SS → Res} {rfS : Nat → RSL} {d : Nat} (H : RDR ch n (rf (iI d)) rfS 16) : RDR ch n (f_X4_readAllOf rf (iI d)) (pAll ch rfS) 16 := by
  have HF := H
  have hcc : ∀ (ST AM : Nat → Int32) (a m l : Nat) (e1 e2 : EV), CE 16 ST AM a m e1 → CE 16 ST AM (m + 1) l e2 → ST m = 38 → AM m = iI l → CE 16 ST AM a l (andE e1 e2) := fun ST AM a m l e1 e2 h1 h2 h3 h4 => CE_and h1 h2 h3 h4 (by omega)
  have flt : ∀ (N j : Nat) (lv : Int32) (s : SS) (F : Nat) (K : Int32 → SS → Res), j ≤ 200 → 0 < N → FLT F s → lp_X4_readAllOf_9 rf (iI d) K N lv (iI j) s = K lv s := by
    intro N j lv s F K hj hN hF
    obtain ⟨N, rfl⟩ : ∃ M, N = M + 1 := ⟨N - 1, by omega⟩
    rw [lp_X4_readAllOf_9]
    by_cases q : (200 : Int32) ≤ iI (j : Int)
    · exact e_if_t q rfl
    · refine e_if_f q ?_
      exact e_if_f hF.ne rfl
  have ends : ∀ (lv : Int32) (s : SS) (F : Nat), FLT F s → ∃ t, bd (f_X1_aimHere lv s) (fun (v6 : Int32) (s7 : SS) => some ((0 : Int32), s7)) = some (0, t) ∧ FP s t ∧ FLT F t := by
    intro lv s F hF
    obtain ⟨t, e1, e2, e3⟩ := aim_f lv s
    refine ⟨t, e_bd e1 rfl, e2, ?_⟩
    unfold FLT at hF ⊢
    rw [e3]
    exact hF
  refine ⟨fun s F hF => ?_, fun s p k hs => ?_⟩
  · obtain ⟨v, t, e1, e2, e3⟩ := HF.1 s F hF
    obtain ⟨t2, d1, d2, d3⟩ := ends (-1) t F e3
    refine ⟨0, t2, ?_, e2.tr d2, d3⟩
    unfold f_X4_readAllOf
    refine e_bd e1 ?_
    refine e_jn ?_
    refine (flt FU 0 (-1) t F _ (by omega) (fu_lt (by omega)) e3).trans ?_
    exact d1
  · have lp : ∀ (m N j q k2 : Nat) (lv : Int32) (e : EV) (u : SS), j + m = 200 → m < N → FP s u → PS ch n q k2 u → k2 + p ≤ q + k → (∀ i, i < k → u 20 i = s 20 i ∧ u 21 i = s 21 i) → k ≤ k2 → PD 38 andE lv k k2 e u → ∃ t, lp_X4_readAllOf_9 rf (iI d) (fun (v3 : Int32) (s4 : SS) => bd (f_X1_aimHere v3 s4) (fun (v6 : Int32) (s7 : SS) => some ((0 : Int32), s7))) N lv (iI j) u = some (0, t) ∧ PO ch n (pAllL ch rfS m q e) 16 p k s t := by
      intro m
      induction m with
      | zero =>
        intro N j q k2 lv e u hj hN h1 h2 h3 h4 hkk h5
        obtain ⟨N, rfl⟩ : ∃ M, N = M + 1 := ⟨N - 1, by omega⟩
        obtain ⟨t, a1, a2, a3, a4, a5⟩ := aim_g h2 h.1 h5 hcc
        refine ⟨t, ?_, PO.okk (h1.tr a2) a3 h3 (fun i hi => ⟨(a4 i hi).1.trans (h4 i hi).1, (a4 i hi).2.trans (h4 i hi).2⟩) a5⟩
        rw [lp_X4_readAllOf_9]
        refine e_if_t (by simp (disch := omega) only [Int.toNat_natCast, iI_lt, iI_le, iI_eq, iI_add, iI_sub, iI_mul, iI_neg, iI_clamp, inb_ii, z_200]; omega) ?_
        exact e_bd a1 rfl
      | succ m ih =>
        intro N j q k2 lv e u hj hN h1 h2 h3 h4 hkk h5
        obtain ⟨N, rfl⟩ : ∃ M, N = M + 1 := ⟨N - 1, by omega⟩
        have hop := sgv_is h (p := q) (c := 38) (by omega)
        have hsg := ps_sign h h2
        have cj : ¬ (200 : Int32) ≤ iI (j : Int) := by simp (disch := omega) only [Int.toNat_natCast, iI_lt, iI_le, iI_eq, iI_add, iI_sub, iI_mul, iI_neg, iI_clamp, inb_ii, z_200]; omega
        unfold pAllL
        by_cases y : ch q = 38
        · rw [if_pos y]
          have hq := ch_lt h (p := q) (by omega)
          obtain ⟨g1, g2⟩ := ps_next h2 hq
          have h5b : PD 38 andE lv k k2 e (up u 17 3 (u 17 3 + 1)) := by
            unfold PD at h5 ⊢
            rw [up_cell (by omega), up_cell (by omega)]
            exact h5
          obtain ⟨t1, a1, a2, a3, a4, a5⟩ := aim_g g1 h.1 h5b hcc
          have hk2 := h2.2.2.2.2.2.1
          obtain ⟨t2, d1, d2, d3, d4, d5, d6⟩ := step_g a3 h.1 (by omega) 38 0
          obtain ⟨v, t3, f1, f2, f3, f4⟩ := HF.2 _ _ _ d3
          have head : ∀ r, lp_X4_readAllOf_9 rf (iI d) (fun (v3 : Int32) (s4 : SS) => bd (f_X1_aimHere v3 s4) (fun (v6 : Int32) (s7 : SS) => some ((0 : Int32), s7))) N (iI k2) (iI (j : Int) + 1) t3 = r → lp_X4_readAllOf_9 rf (iI d) (fun (v3 : Int32) (s4 : SS) => bd (f_X1_aimHere v3 s4) (fun (v6 : Int32) (s7 : SS) => some ((0 : Int32), s7))) (N + 1) lv (iI j) u = r := by
            intro r hr
            rw [lp_X4_readAllOf_9]
            refine e_if_f cj ?_
            refine e_if_t h2.2.2.1 ?_
            refine e_bdp hsg ?_
            refine e_if_t (hop.mpr y) ?_
            refine e_lts ?_
            refine e_bd a1 ?_
            refine e_bd d1 ?_
            exact e_bd f1 hr
          have fr := (((h1.tr g2).tr a2).tr d2).tr f2
          cases c : rfS (q + 1) with
          | error f =>
            have hf := f3 f c
            obtain ⟨t4, b1, b2, b3⟩ := ends (iI k2) t3 f hf
            refine ⟨t4, head _ ?_, PO.err (fr.tr b2) b3⟩
            rw [nx_s]
            refine (flt N (j + 1) (iI k2) t3 f _ (by omega) (by omega) hf).trans ?_
            exact b1
          | ok r =>
            obtain ⟨k3, c1, c2, c3, c4⟩ := f4 r c
            have low : ∀ i, i < k2 → t3 20 i = t1 20 i ∧ t3 21 i = t1 21 i := fun i hi => by
              have x1 := c3 i (by omega)
              have x2 := d4 i (by omega)
              exact ⟨x1.1.trans x2.1, x1.2.trans x2.2⟩
            obtain ⟨t4, b1, b2⟩ := ih N (j + 1) r.1 k3 (iI k2) (andE e r.2) t3 (by omega) (by omega) fr c1 (by omega) (fun i hi => by
              have x1 := low i (by omega)
              have x2 := a4 i hi
              rw [up_cell (by omega), up_cell (by omega)] at x2
              have x3 := h4 i hi
              exact ⟨(x1.1.trans x2.1).trans x3.1, (x1.2.trans x2.2).trans x3.2⟩) (by have := c4.1; omega) (Or.inr ⟨k2, e, r.2, rfl, hkk, by have := c4.1; omega, a5.of (fun i x y => low i y), c4, (c3 k2 (by omega)).1.trans d5, rfl⟩)
            refine ⟨t4, head _ ?_, b2⟩
            rw [nx_s]
            exact b1
        · rw [if_neg y]
          obtain ⟨t, a1, a2, a3, a4, a5⟩ := aim_g h2 h.1 h5 hcc
          refine ⟨t, ?_, PO.okk (h1.tr a2) a3 h3 (fun i hi => ⟨(a4 i hi).1.trans (h4 i hi).1, (a4 i hi).2.trans (h4 i hi).2⟩) a5⟩
          rw [lp_X4_readAllOf_9]
          refine e_if_f cj ?_
          refine e_if_t h2.2.2.1 ?_
          refine e_bdp hsg ?_
          refine e_if_f (mt hop.mp y) ?_
          exact e_bd a1 rfl
    obtain ⟨v, t, f1, f2, f3, f4⟩ := HF.2 s p k hs
    unfold pAll
    cases c : rfS p with
    | error f =>
      have hf := f3 f c
      obtain ⟨t2, d1, d2, d3⟩ := ends (-1) t f hf
      refine ⟨0, t2, ?_, PO.err (f2.tr d2) d3⟩
      unfold f_X4_readAllOf
      refine e_bd f1 ?_
      refine e_jn ?_
      refine (flt FU 0 (-1) t f _ (by omega) (fu_lt (by omega)) hf).trans ?_
      exact d1
    | ok r =>
      obtain ⟨k2, a1, a2, a3, a4⟩ := f4 r c
      obtain ⟨t3, b1, b2⟩ := lp 200 FU 0 r.1 k2 (-1) r.2 t rfl (fu_lt (by omega)) f2 a1 a2 a3 a4.1 (Or.inl ⟨rfl, a4⟩)
      refine ⟨0, t3, ?_, b2⟩
      unfold f_X4_readAllOf
      refine e_bd f1 ?_
      refine e_jn ?_
      exact b1
theorem rd_any (h : OKC ch n) {rf : Int32 → SS → Res} {rfS : Nat → RSL} {d : Nat} (H : RDR ch n (rf (iI d)) rfS 16) : RDR ch n (f_X4_readAnyOf rf (iI d)) (pAny ch rfS) 16 := by
  have HF := rd_all h H
  have hcc : ∀ (ST AM : Nat → Int32) (a m l : Nat) (e1 e2 : EV), CE 16 ST AM a m e1 → CE 16 ST AM (m + 1) l e2 → ST m = 124 → AM m = iI l → CE 16 ST AM a l (orE e1 e2) := fun ST AM a m l e1 e2 h1 h2 h3 h4 => CE_or h1 h2 h3 h4 (by omega)
  have flt : ∀ (N j : Nat) (lv : Int32) (s : SS) (F : Nat) (K : Int32 → SS → Res), j ≤ 200 → 0 < N → FLT F s → lp_X4_readAnyOf_9 rf (iI d) K N lv (iI j) s = K lv s := by
    intro N j lv s F K hj hN hF
    obtain ⟨N, rfl⟩ : ∃ M, N = M + 1 := ⟨N - 1, by omega⟩
    rw [lp_X4_readAnyOf_9]
    by_cases q : (200 : Int32) ≤ iI (j : Int)
    · exact e_if_t q rfl
    · refine e_if_f q ?_
      exact e_if_f hF.ne rfl
  have ends : ∀ (lv : Int32) (s : SS) (F : Nat), FLT F s → ∃ t, bd (f_X1_aimHere lv s) (fun (v6 : Int32) (s7 : SS) => some ((0 : Int32), s7)) = some (0, t) ∧ FP s t ∧ FLT F t := by
    intro lv s F hF
    obtain ⟨t, e1, e2, e3⟩ := aim_f lv s
    refine ⟨t, e_bd e1 rfl, e2, ?_⟩
    unfold FLT at hF ⊢
    rw [e3]
    exact hF
  refine ⟨fun s F hF => ?_, fun s p k hs => ?_⟩
  · obtain ⟨v, t, e1, e2, e3⟩ := HF.1 s F hF
    obtain ⟨t2, d1, d2, d3⟩ := ends (-1) t F e3
    refine ⟨0, t2, ?_, e2.tr d2, d3⟩
    unfold f_X4_readAnyOf
    refine e_bd e1 ?_
    refine e_jn ?_
    refine (flt FU 0 (-1) t F _ (by omega) (fu_lt (by omega)) e3).trans ?_
    exact d1
  · have lp : ∀ (m N j q k2 : Nat) (lv : Int32) (e : EV) (u : SS), j + m = 200 → m < N → FP s u → PS ch n q k2 u → k2 + p ≤ q + k → (∀ i, i < k → u 20 i = s 20 i ∧ u 21 i = s 21 i) → k ≤ k2 → PD 124 orE lv k k2 e u → ∃ t, lp_X4_readAnyOf_9 rf (iI d) (fun (v3 : Int32) (s4 : SS) => bd (f_X1_aimHere v3 s4) (fun (v6 : Int32) (s7 : SS) => some ((0 : Int32), s7))) N lv (iI j) u = some (0, t) ∧ PO ch n (pAnyL ch (pAll ch rfS) m q e) 16 p k s t := by
      intro m
      induction m with
      | zero =>
        intro N j q k2 lv e u hj hN h1 h2 h3 h4 hkk h5
        obtain ⟨N, rfl⟩ : ∃ M, N = M + 1 := ⟨N - 1, by omega⟩
        obtain ⟨t, a1, a2, a3, a4, a5⟩ := aim_g h2 h.1 h5 hcc
        refine ⟨t, ?_, PO.okk (h1.tr a2) a3 h3 (fun i hi => ⟨(a4 i hi).1.trans (h4 i hi).1, (a4 i hi).2.trans (h4 i hi).2⟩) a5⟩
        rw [lp_X4_readAnyOf_9]
        refine e_if_t (by simp (disch := omega) only [Int.toNat_natCast, iI_lt, iI_le, iI_eq, iI_add, iI_sub, iI_mul, iI_neg, iI_clamp, inb_ii, z_200]; omega) ?_
        exact e_bd a1 rfl
      | succ m ih =>
        intro N j q k2 lv e u hj hN h1 h2 h3 h4 hkk h5
        obtain ⟨N, rfl⟩ : ∃ M, N = M + 1 := ⟨N - 1, by omega⟩
        have hop := sgv_is h (p := q) (c := 124) (by omega)
        have hsg := ps_sign h h2
        have cj : ¬ (200 : Int32) ≤ iI (j : Int) := by simp (disch := omega) only [Int.toNat_natCast, iI_lt, iI_le, iI_eq, iI_add, iI_sub, iI_mul, iI_neg, iI_clamp, inb_ii, z_200]; omega
        unfold pAnyL
        by_cases y : ch q = 124
        · rw [if_pos y]
          have hq := ch_lt h (p := q) (by omega)
          obtain ⟨g1, g2⟩ := ps_next h2 hq
          have h5b : PD 124 orE lv k k2 e (up u 17 3 (u 17 3 + 1)) := by
            unfold PD at h5 ⊢
            rw [up_cell (by omega), up_cell (by omega)]
            exact h5
          obtain ⟨t1, a1, a2, a3, a4, a5⟩ := aim_g g1 h.1 h5b hcc
          have hk2 := h2.2.2.2.2.2.1
          obtain ⟨t2, d1, d2, d3, d4, d5, d6⟩ := step_g a3 h.1 (by omega) 124 0
          obtain ⟨v, t3, f1, f2, f3, f4⟩ := HF.2 _ _ _ d3
          have head : ∀ r, lp_X4_readAnyOf_9 rf (iI d) (fun (v3 : Int32) (s4 : SS) => bd (f_X1_aimHere v3 s4) (fun (v6 : Int32) (s7 : SS) => some ((0 : Int32), s7))) N (iI k2) (iI (j : Int) + 1) t3 = r → lp_X4_readAnyOf_9 rf (iI d) (fun (v3 : Int32) (s4 : SS) => bd (f_X1_aimHere v3 s4) (fun (v6 : Int32) (s7 : SS) => some ((0 : Int32), s7))) (N + 1) lv (iI j) u = r := by
            intro r hr
            rw [lp_X4_readAnyOf_9]
            refine e_if_f cj ?_
            refine e_if_t h2.2.2.1 ?_
            refine e_bdp hsg ?_
            refine e_if_t (hop.mpr y) ?_
            refine e_lts ?_
            refine e_bd a1 ?_
            refine e_bd d1 ?_
            exact e_bd f1 hr
          have fr := (((h1.tr g2).tr a2).tr d2).tr f2
          cases c : pAll ch rfS (q + 1) with
          | error f =>
            have hf := f3 f c
            obtain ⟨t4, b1, b2, b3⟩ := ends (iI k2) t3 f hf
            refine ⟨t4, head _ ?_, PO.err (fr.tr b2) b3⟩
            rw [nx_s]
            refine (flt N (j + 1) (iI k2) t3 f _ (by omega) (by omega) hf).trans ?_
            exact b1
          | ok r =>
            obtain ⟨k3, c1, c2, c3, c4⟩ := f4 r c
            have low : ∀ i, i < k2 → t3 20 i = t1 20 i ∧ t3 21 i = t1 21 i := fun i hi => by
              have x1 := c3 i (by omega)
              have x2 := d4 i (by omega)
              exact ⟨x1.1.trans x2.1, x1.2.trans x2.2⟩
            obtain ⟨t4, b1, b2⟩ := ih N (j + 1) r.1 k3 (iI k2) (orE e r.2) t3 (by omega) (by omega) fr c1 (by omega) (fun i hi => by
              have x1 := low i (by omega)
              have x2 := a4 i hi
              rw [up_cell (by omega), up_cell (by omega)] at x2
              have x3 := h4 i hi
              exact ⟨(x1.1.trans x2.1).trans x3.1, (x1.2.trans x2.2).trans x3.2⟩) (by have := c4.1; omega) (Or.inr ⟨k2, e, r.2, rfl, hkk, by have := c4.1; omega, a5.of (fun i x y => low i y), c4, (c3 k2 (by omega)).1.trans d5, rfl⟩)
            refine ⟨t4, head _ ?_, b2⟩
            rw [nx_s]
            exact b1
        · rw [if_neg y]
          obtain ⟨t, a1, a2, a3, a4, a5⟩ := aim_g h2 h.1 h5 hcc
          refine ⟨t, ?_, PO.okk (h1.tr a2) a3 h3 (fun i hi => ⟨(a4 i hi).1.trans (h4 i hi).1, (a4 i hi).2.trans (h4 i hi).2⟩) a5⟩
          rw [lp_X4_readAnyOf_9]
          refine e_if_f cj ?_
          refine e_if_t h2.2.2.1 ?_
          refine e_bdp hsg ?_
          refine e_if_f (mt hop.mp y) ?_
          exact e_bd a1 rfl
    obtain ⟨v, t, f1, f2, f3, f4⟩ := HF.2 s p k hs
    unfold pAny
    cases c : pAll ch rfS p with
    | error f =>
      have hf := f3 f c
      obtain ⟨t2, d1, d2, d3⟩ := ends (-1) t f hf
      refine ⟨0, t2, ?_, PO.err (f2.tr d2) d3⟩
      unfold f_X4_readAnyOf
      refine e_bd f1 ?_
      refine e_jn ?_
      refine (flt FU 0 (-1) t f _ (by omega) (fu_lt (by omega)) hf).trans ?_
      exact d1
    | ok r =>
      obtain ⟨k2, a1, a2, a3, a4⟩ := f4 r c
      obtain ⟨t3, b1, b2⟩ := lp 200 FU 0 r.1 k2 (-1) r.2 t rfl (fu_lt (by omega)) f2 a1 a2 a3 a4.1 (Or.inl ⟨rfl, a4⟩)
      refine ⟨0, t3, ?_, b2⟩
      unfold f_X4_readAnyOf
      refine e_bd f1 ?_
      refine e_jn ?_
      exact b1
/-- a piece at depth d -/
theorem rd_pc (h : OKC ch n) : ∀ (r F d : Nat), r + d = 7 → r + 1 ≤ F → d ≤ 6 → RDR ch n (f_X4_readPiece F (iI d)) (pPc ch (r + 1) d) 16 := by
  intro r
  induction r with
  | zero => intro F d h1 h2 h3; omega
  | succ r ih =>
    intro F d h1 h2 hd
    obtain ⟨F, rfl⟩ : ∃ M, F = M + 1 := ⟨F - 1, by omega⟩
    have HP : d < 6 → RDR ch n (f_X4_readPiece F (iI ((d + 1 : Nat) : Int))) (pPc ch (r + 1) (d + 1)) 16 := fun q => ih F (d + 1) (by omega) (by omega) (by omega)
    have HC := rd_cmp h hd
    refine ⟨fun s F2 hF => ⟨0, s, ?_, FP.rf s, hF⟩, fun s p k hs => ?_⟩
    · rw [f_X4_readPiece]
      unfold o_X4_readPiece
      exact e_if_f hF.ne rfl
    · have h33 := sgv_is h (p := p) (c := 33) (by omega)
      have h40 := sgv_is h (p := p) (c := 40) (by omega)
      have hsg := ps_sign h hs
      rw [f_X4_readPiece]
      unfold o_X4_readPiece
      show ∃ v t, _ ∧ PO ch n (if ch p = 33 then (if d < 6 then (match pPc ch (r + 1) (d + 1) (p + 1) with | .error f => .error f | .ok r => .ok (r.1, notE r.2)) else .error (5000 + p)) else if ch p = 40 then (if d < 6 then (match pAny ch (pPc ch (r + 1) (d + 1)) (p + 1) with | .error f => .error f | .ok r => if ch r.1 = 41 then .ok (r.1 + 1, r.2) else .error (1000 + r.1)) else .error (5000 + p)) else pCmp ch d p) _ _ _ _ t
      by_cases q : ch p = 33
      · rw [if_pos q]
        have hp := ch_lt h (p := p) (by omega)
        obtain ⟨o1, o2⟩ := open_g (d := d) hs h.1 hp hd
        by_cases qd : d < 6
        · rw [if_pos qd]
          obtain ⟨g1, g2⟩ := ps_next hs hp
          obtain ⟨v, t, f1, f2, f3, f4⟩ := (HP qd).2 _ _ _ g1
          cases c : pPc ch (r + 1) (d + 1) (p + 1) with
          | error f =>
            have hf := f3 f c
            obtain ⟨v2, t2, d1, d2, d3⟩ := step_f 33 0 t
            refine ⟨0, t2, ?_, PO.err ((g2.tr f2).tr d2) ?_⟩
            · refine e_if_t hs.2.2.1 ?_
              refine e_bdp hsg ?_
              refine e_if_t (h33.mpr q) ?_
              refine e_bd (o1 qd) ?_
              refine e_if_f (by decide) ?_
              rw [nx_s]
              refine e_bd f1 ?_
              exact e_bd d1 rfl
            · unfold FLT at hf ⊢
              rw [d3]
              exact hf
          | ok r2 =>
            obtain ⟨k2, a1, a2, a3, a4⟩ := f4 r2 c
            obtain ⟨t2, d1, d2, d3, d4, d5, d6⟩ := step_g a1 h.1 (by have := hs.2.2.2.2.2.1; omega) 33 0
            refine ⟨0, t2, ?_, PO.okk ((g2.tr f2).tr d2) d3 (by show k2 + 1 + p ≤ r2.1 + k; omega) (fun i hi => ?_) (CE_not (a4.of (fun i x y => d4 i (by omega))) d5 (by omega))⟩
            · refine e_if_t hs.2.2.1 ?_
              refine e_bdp hsg ?_
              refine e_if_t (h33.mpr q) ?_
              refine e_bd (o1 qd) ?_
              refine e_if_f (by decide) ?_
              rw [nx_s]
              refine e_bd f1 ?_
              exact e_bd d1 rfl
            · have x1 := d4 i (by have := a4.1; omega)
              have x2 := a3 i hi
              rw [up_cell (by omega), up_cell (by omega)] at x2
              exact ⟨x1.1.trans x2.1, x1.2.trans x2.2⟩
        · rw [if_neg qd]
          obtain ⟨t, d1, d2, d3⟩ := o2 qd
          refine ⟨0, t, ?_, PO.err d2 d3⟩
          refine e_if_t hs.2.2.1 ?_
          refine e_bdp hsg ?_
          refine e_if_t (h33.mpr q) ?_
          refine e_bd d1 ?_
          exact e_if_t rfl rfl
      · rw [if_neg q]
        by_cases y : ch p = 40
        · rw [if_pos y]
          have hp := ch_lt h (p := p) (by omega)
          obtain ⟨o1, o2⟩ := open_g (d := d) hs h.1 hp hd
          by_cases qd : d < 6
          · rw [if_pos qd]
            have HA := rd_any h (HP qd)
            obtain ⟨g1, g2⟩ := ps_next hs hp
            obtain ⟨v, t, f1, f2, f3, f4⟩ := HA.2 _ _ _ g1
            have head : ∀ z, bd (f_X4_take 41 t) (fun (v18 : Int32) (s19 : SS) => some ((0 : Int32), s19)) = z → (if (s 17 4 : Int32) = 0 then bdp (f_X4_sign s) (fun (v2 : Int32) => if (v2 : Int32) = (33 : Int32) then bd (f_X4_opens (iI d) s) (fun (v4 : Int32) (s5 : SS) => if (v4 : Int32) = 0 then some (0, s5) else bd (f_X4_readPiece F (iI (d : Int) + 1) s5) (fun (v7 : Int32) (s8 : SS) => bd (f_X1_addStep 33 0 s8) (fun (v9 : Int32) (s10 : SS) => some (0, s10)))) else bdp (f_X4_sign s) (fun (v11 : Int32) => if (v11 : Int32) = (40 : Int32) then bd (f_X4_opens (iI d) s) (fun (v13 : Int32) (s14 : SS) => if (v13 : Int32) = 0 then some (0, s14) else bd (f_X4_readAnyOf (f_X4_readPiece F) (iI (d : Int) + 1) s14) (fun (v16 : Int32) (s17 : SS) => bd (f_X4_take 41 s17) (fun (v18 : Int32) (s19 : SS) => some (0, s19)))) else bd (f_X4_readComparison (iI d) s) (fun (v20 : Int32) (s21 : SS) => some (0, s21)))) else some (0, s)) = z := by
              intro z hz
              refine e_if_t hs.2.2.1 ?_
              refine e_bdp hsg ?_
              refine e_if_f (mt h33.mp q) ?_
              refine e_bdp hsg ?_
              refine e_if_t (h40.mpr y) ?_
              refine e_bd (o1 qd) ?_
              refine e_if_f (by decide) ?_
              rw [nx_s]
              exact e_bd f1 hz
            cases c : pAny ch (pPc ch (r + 1) (d + 1)) (p + 1) with
            | error f =>
              have hf := f3 f c
              exact ⟨0, t, head _ (e_bd (take_f hf 41) rfl), PO.err (g2.tr f2) hf⟩
            | ok r2 =>
              obtain ⟨k2, a1, a2, a3, a4⟩ := f4 r2 c
              obtain ⟨b1, b2⟩ := take_g h (c := 41) a1 (by omega)
              show ∃ v t, _ ∧ PO ch n (if ch r2.1 = 41 then .ok (r2.1 + 1, r2.2) else .error (1000 + r2.1)) _ _ _ _ t
              by_cases w : ch r2.1 = 41
              · obtain ⟨t2, d1, d2, d3, d4, d5⟩ := b1 w
                refine ⟨0, t2, head _ (e_bd d1 rfl), ?_⟩
                rw [if_pos w]
                exact PO.okk ((g2.tr f2).tr d2) d3 (by show k2 + p ≤ r2.1 + 1 + k; omega) (fun i hi => by
                  have := a3 i hi
                  rw [d4, d5]
                  rw [up_cell (by omega), up_cell (by omega)] at this
                  exact this) (by rw [d4, d5]; exact a4)
              · obtain ⟨t2, d1, d2, d3⟩ := b2 w
                refine ⟨0, t2, head _ (e_bd d1 rfl), ?_⟩
                rw [if_neg w]
                exact PO.err ((g2.tr f2).tr d2) d3
          · rw [if_neg qd]
            obtain ⟨t, d1, d2, d3⟩ := o2 qd
            refine ⟨0, t, ?_, PO.err d2 d3⟩
            refine e_if_t hs.2.2.1 ?_
            refine e_bdp hsg ?_
            refine e_if_f (mt h33.mp q) ?_
            refine e_bdp hsg ?_
            refine e_if_t (h40.mpr y) ?_
            refine e_bd d1 ?_
            exact e_if_t rfl rfl
        · rw [if_neg y]
          obtain ⟨v, t, f1, f2⟩ := HC.2 s p k hs
          refine ⟨0, t, ?_, f2⟩
          refine e_if_t hs.2.2.1 ?_
          refine e_bdp hsg ?_
          refine e_if_f (mt h33.mp q) ?_
          refine e_bdp hsg ?_
          refine e_if_f (mt h40.mp y) ?_
          exact e_bd f1 rfl
