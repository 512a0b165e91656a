/-! the class reads factors, products, sums -/
variable {ch : Nat → Nat} {n : Nat} {s t u : SS}
theorem PO.err {f Q p k : Nat} (h : FP s t) (g : FLT f t) : PO ch n (.error f) Q p k s t := ⟨h, (fun f2 e => by cases e; exact g), (fun r e => by cases e)⟩
theorem PO.okk {r : Nat × EV} {Q p k k2 : Nat} (h : FP s t) (h1 : PS ch n r.1 k2 t) (h2 : k2 + p ≤ r.1 + k) (h3 : ∀ i, i < k → t 20 i = s 20 i ∧ t 21 i = s 21 i) (h4 : CE Q (t 20) (t 21) k k2 r.2) : PO ch n (.ok r) Q p k s t := ⟨h, (fun f2 e => by cases e), (fun r2 e => by cases e; exact ⟨k2, h1, h2, h3, h4⟩)⟩
theorem dgL_le (k : Nat) : ∀ i v, i ≤ (dgL ch k i v).1 := by
  induction k with
  | zero => intro i v; exact Nat.le_refl i
  | succ k ih =>
    intro i v
    unfold dgL
    split
    · have := ih (i + 1) (10 * v + (ch i - 48)); omega
    · exact Nat.le_refl i
theorem rd_digL (h : OKC ch n) {k : Nat} (K : Int32 → SS → Res) : ∀ (m N j i v : Nat) (s : SS), j + m = 5 → m < N → PS ch n i k s → ∃ t, lp_X4_readDigits_4 K N (iI v) (iI j) s = K (iI (dgL ch m i v).2) t ∧ PS ch n (dgL ch m i v).1 k t ∧ FP s t ∧ t 20 = s 20 ∧ t 21 = s 21 := by
  intro m
  induction m with
  | zero =>
    intro N j i v s hj hN hs
    obtain ⟨N, rfl⟩ : ∃ M, N = M + 1 := ⟨N - 1, by omega⟩
    refine ⟨s, ?_, hs, FP.rf s, rfl, rfl⟩
    rw [lp_X4_readDigits_4]
    exact e_if_t (by rw [show (5 : Int32) = iI 5 from rfl]; simp (disch := omega) only [Int.toNat_natCast, iI_lt, iI_le, iI_eq, iI_add, iI_sub, iI_mul, iI_neg, iI_clamp, inb_ii]; omega) rfl
  | succ m ih =>
    intro N j i v s hj hN hs
    obtain ⟨N, rfl⟩ : ∃ M, N = M + 1 := ⟨N - 1, by omega⟩
    by_cases q : isD (ch i)
    · have un : dgL ch (m + 1) i v = dgL ch m (i + 1) (10 * v + (ch i - 48)) := if_pos q
      have hp := ch_lt h (p := i) (by unfold isD at q; omega)
      obtain ⟨g1, g2⟩ := ps_next hs hp
      obtain ⟨t, f1, f2, f3, f4, f5⟩ := ih N (j + 1) (i + 1) (10 * v + (ch i - 48)) _ (by omega) (by omega) g1
      rw [un]
      refine ⟨t, ?_, f2, g2.tr f3, by rw [f4, up_cell (by omega)], by rw [f5, up_cell (by omega)]⟩
      rw [lp_X4_readDigits_4]
      refine e_if_f (by rw [show (5 : Int32) = iI 5 from rfl]; simp (disch := omega) only [Int.toNat_natCast, iI_lt, iI_le, iI_eq, iI_add, iI_sub, iI_mul, iI_neg, iI_clamp, inb_ii]; omega) ?_
      refine e_bdp (ps_sign h hs) ?_
      refine e_bdp (dig_f h i s) ?_
      rw [if_pos q]
      refine e_if_f (by decide) ?_
      refine e_bdp (ps_sign h hs) ?_
      refine e_lt ?_
      refine e_lts ?_
      have ev : iI (v : Int) * 10 + sgv ch n i - 48 = iI ((10 * v + (ch i - 48) : Nat) : Int) := by
        unfold sgv
        rw [if_pos hp, z_10, iI_mul, iI_add, show (48 : Int32) = iI 48 from rfl, iI_sub]
        congr 1
        unfold isD at q
        omega
      rw [ev, nx_s]
      exact f1
    · have un : dgL ch (m + 1) i v = (i, v) := if_neg q
      rw [un]
      refine ⟨s, ?_, hs, FP.rf s, rfl, rfl⟩
      rw [lp_X4_readDigits_4]
      refine e_if_f (by rw [show (5 : Int32) = iI 5 from rfl]; simp (disch := omega) only [Int.toNat_natCast, iI_lt, iI_le, iI_eq, iI_add, iI_sub, iI_mul, iI_neg, iI_clamp, inb_ii]; omega) ?_
      refine e_bdp (ps_sign h hs) ?_
      refine e_bdp (dig_f h i s) ?_
      rw [if_neg q]
      exact e_if_t rfl rfl
theorem rd_fac (h : OKC ch n) {rf : Int32 → SS → Res} {rfS : Nat → Nat → RSL} {d : Nat} (hd : d ≤ 6) (H : d < 6 → RDR ch n (rf (iI ((d + 1 : Nat) : Int))) (rfS (d + 1)) (2 * (6 - d) + 1)) : RDR ch n (f_X4_readFactor rf (iI d)) (pFac ch rfS d) (2 * (6 - d) + 1) := by
  refine ⟨fun s F hF => ⟨0, s, ?_, FP.rf s, hF⟩, fun s p k hs => ?_⟩
  · unfold f_X4_readFactor
    exact e_if_f hF.ne rfl
  · have h91 := sgv_is h (p := p) (c := 91) (by omega)
    have hsg := ps_sign h hs
    unfold pFac
    by_cases q : ch p = 91
    · have hp := ch_lt h (p := p) (by omega)
      obtain ⟨o1, o2⟩ := open_g (d := d) hs h.1 hp hd
      rw [if_pos q]
      by_cases qd : d < 6
      · rw [if_pos qd]
        obtain ⟨g1, g2⟩ := ps_next hs hp
        obtain ⟨v, t, f1, f2, f3, f4⟩ := (H qd).2 _ _ _ g1
        have head : ∀ r, bd (f_X4_take 93 t) (fun (v9 : Int32) (s10 : SS) => some ((0 : Int32), s10)) = r → f_X4_readFactor rf (iI d) s = r := by
          intro r hr
          unfold f_X4_readFactor
          refine e_if_t hs.2.2.1 ?_
          refine e_bdp hsg ?_
          refine e_if_t (h91.mpr q) ?_
          refine e_bd (o1 qd) ?_
          refine e_if_f (by decide) ?_
          rw [nx_s]
          exact e_bd f1 hr
        cases c : rfS (d + 1) (p + 1) with
        | error f =>
          have hf := f3 f c
          exact ⟨0, t, head _ (e_bd (take_f hf 93) rfl), PO.err (g2.tr f2) hf⟩
        | ok r =>
          obtain ⟨k2, a1, a2, a3, a4⟩ := f4 r c
          obtain ⟨b1, b2⟩ := take_g h (c := 93) a1 (by omega)
          by_cases y : ch r.1 = 93
          · obtain ⟨t2, d1, d2, d3, d4, d5⟩ := b1 y
            refine ⟨0, t2, head _ (e_bd d1 rfl), ?_⟩
            show PO ch n (if ch r.1 = 93 then .ok (r.1 + 1, r.2) else .error (1000 + r.1)) _ _ _ _ _
            rw [if_pos y]
            exact PO.okk ((g2.tr f2).tr d2) d3 (by show k2 + p ≤ r.1 + 1 + k; omega) (fun i hi => by
              have := a3 i hi
              rw [d4, d5]
              rw [up_cell (by omega), up_cell (by omega)] at this
              exact this) (by rw [d4, d5]; exact a4)
          · obtain ⟨t2, d1, d2, d3⟩ := b2 y
            refine ⟨0, t2, head _ (e_bd d1 rfl), ?_⟩
            show PO ch n (if ch r.1 = 93 then .ok (r.1 + 1, r.2) else .error (1000 + r.1)) _ _ _ _ _
            rw [if_neg y]
            exact PO.err ((g2.tr f2).tr d2) d3
      · rw [if_neg qd]
        obtain ⟨t, d1, d2, d3⟩ := o2 qd
        refine ⟨0, t, ?_, PO.err d2 d3⟩
        unfold f_X4_readFactor
        refine e_if_t hs.2.2.1 ?_
        refine e_bdp hsg ?_
        refine e_if_t (h91.mpr q) ?_
        refine e_bd d1 ?_
        exact e_if_t rfl rfl
    · rw [if_neg q]
      have hdg := dig_f h p s
      by_cases y : isD (ch p)
      · rw [if_pos y]
        rw [if_pos y] at hdg
        have hp := ch_lt h (p := p) (by unfold isD at y; omega)
        obtain ⟨t1, e1, e2, e3, e4, e5⟩ := rd_digL h (k := k) (fun (v1 : Int32) (s2 : SS) => bdp (f_X4_sign s2) (fun (v4 : Int32) => bdp (f_X4_isDigit v4 s2) (fun (v5 : Int32) => jn (fun (s6 : SS) => bd (f_X1_addStep 48 v1 s6) (fun (v8 : Int32) (s9 : SS) => some ((0 : Int32), s9))) (fun (k7 : SS → Res) => if (v5 : Int32) = 0 then k7 s2 else bd (f_X4_stop 2 s2) (fun (v11 : Int32) (s12 : SS) => k7 s12))))) 5 FU 0 p 0 s rfl (fu_lt (by omega)) hs
        have hle : p + 1 ≤ (dgL ch 5 p 0).1 := by
          have e : dgL ch 5 p 0 = dgL ch 4 (p + 1) (10 * 0 + (ch p - 48)) := if_pos y
          rw [e]
          exact dgL_le 4 _ _
        generalize dgL ch 5 p 0 = r at e1 e2 hle ⊢
        have hdg2 := dig_f h r.1 t1
        have head : ∀ w, bdp (f_X4_sign t1) (fun (v4 : Int32) => bdp (f_X4_isDigit v4 t1) (fun (v5 : Int32) => jn (fun (s6 : SS) => bd (f_X1_addStep 48 (iI r.2) s6) (fun (v8 : Int32) (s9 : SS) => some ((0 : Int32), s9))) (fun (k7 : SS → Res) => if (v5 : Int32) = 0 then k7 t1 else bd (f_X4_stop 2 t1) (fun (v11 : Int32) (s12 : SS) => k7 s12)))) = some w → f_X4_readFactor rf (iI d) s = some (0, w.2) := by
          intro w hw
          unfold f_X4_readFactor
          refine e_if_t hs.2.2.1 ?_
          refine e_bdp hsg ?_
          refine e_if_f (mt h91.mp q) ?_
          refine e_bdp hdg ?_
          refine e_if_f (by decide) ?_
          refine e_bd (v := w.1) (t := w.2) ?_ rfl
          unfold f_X4_readDigits
          refine e_jn ?_
          exact e1.trans hw
        by_cases y2 : isD (ch r.1)
        · rw [if_pos y2]
          rw [if_pos y2] at hdg2
          obtain ⟨g1, g2⟩ := stop_g e2 h.1 (c := 2) (by omega)
          obtain ⟨v, t2, d1, d2, d3⟩ := step_f 48 (iI r.2) (up t1 17 4 (iI (-((1000 * 2 + r.1 : Nat) : Int))))
          refine ⟨0, t2, head (0, t2) ?_, PO.err ((e3.tr (FP.u17 (by omega))).tr d2) ?_⟩
          · refine e_bdp (ps_sign h e2) ?_
            refine e_bdp hdg2 ?_
            refine e_jn ?_
            refine e_if_f (by decide) ?_
            refine e_bd g1 ?_
            exact e_bd d1 rfl
          · unfold FLT at g2 ⊢
            rw [d3]
            exact g2
        · rw [if_neg y2]
          rw [if_neg y2] at hdg2
          obtain ⟨t2, d1, d2, d3, d4, d5, d6⟩ := step_g e2 h.1 (by have := hs.2.2.2.2.2.1; omega) 48 (iI r.2)
          refine ⟨0, t2, head (0, t2) ?_, ?_⟩
          · refine e_bdp (ps_sign h e2) ?_
            refine e_bdp hdg2 ?_
            refine e_jn ?_
            refine e_if_t rfl ?_
            exact e_bd d1 rfl
          · exact PO.okk (e3.tr d2) d3 (by show k + 1 + p ≤ r.1 + k; omega) (fun i hi => by
              have := d4 i (by omega)
              rw [this.1, this.2, e4, e5]
              exact ⟨rfl, rfl⟩) ((CE_num d5 d6).m (by omega))
      · rw [if_neg y]
        rw [if_neg y] at hdg
        have hpos : ∀ w r, (∀ z : Int32, z = (if fix (ch p) < 11 then iI (fix (ch p) : Int) else -1) → (if (0 : Int32) ≤ z then lts (up s 17 3 ((s 17 3) + 1)) (fun (s16 : SS) => bd (f_X1_addStep 108 z s16) (fun (v17 : Int32) (s18 : SS) => some ((0 : Int32), s18))) else bd (f_X4_stop 1 s) (fun (v19 : Int32) (s20 : SS) => some ((0 : Int32), s20))) = r) → w = r → f_X4_readFactor rf (iI d) s = w := by
          intro w r hz hw
          rw [hw]
          unfold f_X4_readFactor
          refine e_if_t hs.2.2.1 ?_
          refine e_bdp hsg ?_
          refine e_if_f (mt h91.mp q) ?_
          refine e_bdp hdg ?_
          refine e_if_t rfl ?_
          refine e_jn ?_
          have hcp := h.2.1 p
          unfold sgv
          by_cases z : p < n
          · rw [if_pos z]
            refine e_if_t (by simp (disch := omega) only [Int.toNat_natCast, iI_lt, iI_le, iI_eq, iI_add, iI_sub, iI_mul, iI_neg, iI_clamp, inb_ii, z_0]; omega) ?_
            refine e_bdp (ix_f hcp s) ?_
            exact hz _ rfl
          · rw [if_neg z]
            refine e_if_f (by decide) ?_
            exact hz _ (by rw [h.2.2 p (by omega)]; decide)
        by_cases y2 : fix (ch p) < 11
        · have hp := ch_lt h (p := p) (by intro w; rw [w] at y2; exact absurd y2 (by decide))
          obtain ⟨g1, g2⟩ := ps_next hs hp
          obtain ⟨t2, d1, d2, d3, d4, d5, d6⟩ := step_g g1 h.1 (by have := hs.2.2.2.2.2.1; omega) 108 (iI (fix (ch p)))
          refine ⟨0, t2, hpos (some (0, t2)) (some (0, t2)) (fun z hz => ?_) rfl, ?_⟩
          · rw [hz, if_pos y2]
            refine e_if_t (by simp (disch := omega) only [Int.toNat_natCast, iI_lt, iI_le, iI_eq, iI_add, iI_sub, iI_mul, iI_neg, iI_clamp, inb_ii, z_0]; omega) ?_
            refine e_lts ?_
            exact e_bd d1 rfl
          · rw [if_pos y2]
            exact PO.okk (g2.tr d2) d3 (by show k + 1 + p ≤ p + 1 + k; omega) (fun i hi => by
              have := d4 i (by omega)
              rw [this.1, this.2, up_cell (by omega), up_cell (by omega)]
              exact ⟨rfl, rfl⟩) ((CE_fact y2 d5 d6).m (by omega))
        · obtain ⟨g1, g2⟩ := stop_g hs h.1 (c := 1) (by omega)
          refine ⟨0, _, hpos _ (some (0, up s 17 4 (iI (-((1000 * 1 + p : Nat) : Int))))) (fun z hz => ?_) rfl, ?_⟩
          · rw [hz, if_neg y2]
            refine e_if_f (by decide) ?_
            exact e_bd g1 rfl
          · rw [if_neg y2]
            exact PO.err (FP.u17 (by omega)) g2
theorem ps_f (h : OKC ch n) (p : Nat) (s : SS) : f_X4_isProductSign (sgv ch n p) s = some (if isT (ch p) then 1 else 0) := by
  have h1 := sgv_is h (p := p) (c := 42) (by omega)
  have h2 := sgv_is h (p := p) (c := 47) (by omega)
  have h3 := sgv_is h (p := p) (c := 37) (by omega)
  unfold f_X4_isProductSign
  refine e_jn ?_
  by_cases q1 : ch p = 42
  · rw [if_pos (show isT (ch p) from Or.inl q1)]
    exact e_if_t (h1.mpr q1) rfl
  · refine e_if_f (mt h1.mp q1) ?_
    by_cases q2 : ch p = 47
    · rw [if_pos (show isT (ch p) from Or.inr (Or.inl q2))]
      exact e_if_t (h2.mpr q2) rfl
    · refine e_if_f (mt h2.mp q2) ?_
      by_cases q3 : ch p = 37
      · rw [if_pos (show isT (ch p) from Or.inr (Or.inr q3))]
        exact e_if_t (h3.mpr q3) rfl
      · rw [if_neg (show ¬ isT (ch p) from fun w => w.elim q1 (fun w => w.elim q2 q3))]
        exact e_if_f (mt h3.mp q3) rfl
theorem ops_T {c : Nat} (h : isT c) : OPS c := by unfold isT at h; unfold OPS; omega
theorem ops_P {c : Nat} (h : isP c) : OPS c := by unfold isP at h; unfold OPS; omega
theorem ops_S {c : Nat} (h : isS c) : OPS c := by unfold isS at h; unfold OPS; omega
theorem rd_pr (h : OKC ch n) {rf : Int32 → SS → Res} {rfS : Nat → Nat → RSL} {d : Nat} (hd : d ≤ 6) (H : d < 6 → RDR ch n (rf (iI ((d + 1 : Nat) : Int))) (rfS (d + 1)) (2 * (6 - d) + 1)) : RDR ch n (f_X4_readProduct rf (iI d)) (pPr ch rfS d) (2 * (6 - d) + 2) := by
  have HF := rd_fac h hd H
  have flt : ∀ (N j : Nat) (s : SS) (F : Nat), j ≤ 200 → 0 < N → FLT F s → lp_X4_readProduct_7 rf (iI d) N (iI j) s = some (0, s) := by
    intro N j s F hj hN hF
    obtain ⟨N, rfl⟩ : ∃ M, N = M + 1 := ⟨N - 1, by omega⟩
    rw [lp_X4_readProduct_7]
    by_cases q : (200 : Int32) ≤ iI (j : Int)
    · exact e_if_t q rfl
    · refine e_if_f q ?_
      exact e_if_f hF.ne rfl
  refine ⟨fun s F hF => ?_, fun s p k hs => ?_⟩
  · obtain ⟨v, t, e1, e2, e3⟩ := HF.1 s F hF
    refine ⟨0, t, ?_, e2, e3⟩
    unfold f_X4_readProduct
    refine e_bd e1 ?_
    exact flt FU 0 t F (by omega) (fu_lt (by omega)) e3
  · have lp : ∀ (m N j q k2 : Nat) (e : EV) (u : SS), j + m = 200 → m < N → FP s u → PS ch n q k2 u → k2 + p ≤ q + k → (∀ i, i < k → u 20 i = s 20 i ∧ u 21 i = s 21 i) → CE (2 * (6 - d) + 2) (u 20) (u 21) k k2 e → ∃ t, lp_X4_readProduct_7 rf (iI d) N (iI j) u = some (0, t) ∧ PO ch n (pPrL ch rfS d m q e) (2 * (6 - d) + 2) p k s t := by
      intro m
      induction m with
      | zero =>
        intro N j q k2 e u hj hN h1 h2 h3 h4 h5
        obtain ⟨N, rfl⟩ : ∃ M, N = M + 1 := ⟨N - 1, by omega⟩
        refine ⟨u, ?_, PO.okk h1 h2 h3 h4 h5⟩
        rw [lp_X4_readProduct_7]
        exact e_if_t (by simp (disch := omega) only [Int.toNat_natCast, iI_lt, iI_le, iI_eq, iI_add, iI_sub, iI_mul, iI_neg, iI_clamp, inb_ii, z_200]; omega) rfl
      | succ m ih =>
        intro N j q k2 e u hj hN h1 h2 h3 h4 h5
        obtain ⟨N, rfl⟩ : ∃ M, N = M + 1 := ⟨N - 1, by omega⟩
        have hps := ps_f h q u
        have hsg := ps_sign h h2
        have cj : ¬ (200 : Int32) ≤ iI (j : Int) := by simp (disch := omega) only [Int.toNat_natCast, iI_lt, iI_le, iI_eq, iI_add, iI_sub, iI_mul, iI_neg, iI_clamp, inb_ii, z_200]; omega
        unfold pPrL
        by_cases y : isT (ch q)
        · rw [if_pos y] at hps ⊢
          have hq := ch_lt h (p := q) (by unfold isT at y; omega)
          have esg : sgv ch n q = iI (ch q) := if_pos hq
          obtain ⟨g1, g2⟩ := ps_next h2 hq
          obtain ⟨v, t, f1, f2, f3, f4⟩ := HF.2 _ _ _ g1
          have head : ∀ r, bd (f_X1_addStep (iI (ch q)) 0 t) (fun (v15 : Int32) (s16 : SS) => lp_X4_readProduct_7 rf (iI d) N (iI (j : Int) + 1) s16) = r → lp_X4_readProduct_7 rf (iI d) (N + 1) (iI j) u = r := by
            intro r hr
            rw [lp_X4_readProduct_7]
            refine e_if_f cj ?_
            refine e_if_t h2.2.2.1 ?_
            refine e_bdp hsg ?_
            refine e_bdp hps ?_
            refine e_if_f (by decide) ?_
            refine e_bdp hsg ?_
            rw [esg]
            refine e_lts ?_
            exact e_bd f1 hr
          cases c : pFac ch rfS d (q + 1) with
          | error f =>
            have hf := f3 f c
            obtain ⟨v2, t2, d1, d2, d3⟩ := step_f (iI (ch q)) 0 t
            have hf2 : FLT f t2 := by
              unfold FLT at hf ⊢
              rw [d3]
              exact hf
            refine ⟨t2, head _ (e_bd d1 ?_), PO.err (((h1.tr g2).tr f2).tr d2) hf2⟩
            rw [nx_s]
            exact flt N (j + 1) t2 f (by omega) (by omega) hf2
          | ok r =>
            obtain ⟨k3, a1, a2, a3, a4⟩ := f4 r c
            have hk2 := h2.2.2.2.2.2.1
            obtain ⟨t2, d1, d2, d3, d4, d5, d6⟩ := step_g a1 h.1 (by omega) (iI (ch q)) 0
            have hce1 : CE (2 * (6 - d) + 2) (t2 20) (t2 21) k k2 e := h5.of (fun i a b => by
              have x1 := d4 i (by have := a4.1; omega)
              have x2 := a3 i b
              rw [up_cell (by omega), up_cell (by omega)] at x2
              exact ⟨x1.1.trans x2.1, x1.2.trans x2.2⟩)
            have hce2 : CE (2 * (6 - d) + 1) (t2 20) (t2 21) k2 k3 r.2 := a4.of (fun i a b => d4 i (by omega))
            obtain ⟨t3, b1, b2⟩ := ih N (j + 1) r.1 (k3 + 1) (binE (ch q) e r.2) t2 (by omega) (by omega) (((h1.tr g2).tr f2).tr d2) d3 (by omega) (fun i hi => by
              have x1 := d4 i (by have := h5.1; have := a4.1; omega)
              have x2 := a3 i (by have := h5.1; omega)
              rw [up_cell (by omega), up_cell (by omega)] at x2
              have x3 := h4 i hi
              exact ⟨(x1.1.trans x2.1).trans x3.1, (x1.2.trans x2.2).trans x3.2⟩) (CE_bin hce1 hce2 (ops_T y) d5 (by omega) (by omega) (by omega))
            refine ⟨t3, head _ (e_bd d1 ?_), b2⟩
            rw [nx_s]
            exact b1
        · rw [if_neg y] at hps ⊢
          refine ⟨u, ?_, PO.okk h1 h2 h3 h4 h5⟩
          rw [lp_X4_readProduct_7]
          refine e_if_f cj ?_
          refine e_if_t h2.2.2.1 ?_
          refine e_bdp hsg ?_
          refine e_bdp hps ?_
          exact e_if_t rfl rfl
    obtain ⟨v, t, f1, f2, f3, f4⟩ := HF.2 s p k hs
    unfold pPr
    cases c : pFac ch rfS d p with
    | error f =>
      have hf := f3 f c
      refine ⟨0, t, ?_, PO.err f2 hf⟩
      unfold f_X4_readProduct
      refine e_bd f1 ?_
      exact flt FU 0 t f (by omega) (fu_lt (by omega)) hf
    | ok r =>
      obtain ⟨k2, a1, a2, a3, a4⟩ := f4 r c
      obtain ⟨t3, b1, b2⟩ := lp 200 FU 0 r.1 k2 r.2 t rfl (fu_lt (by omega)) f2 a1 a2 a3 (a4.m (by omega))
      refine ⟨0, t3, ?_, b2⟩
      unfold f_X4_readProduct
      exact e_bd f1 b1
theorem rd_sm (h : OKC ch n) {rf : Int32 → SS → Res} {rfS : Nat → Nat → RSL} {d : Nat} (hd : d ≤ 6) (H : d < 6 → RDR ch n (rf (iI ((d + 1 : Nat) : Int))) (rfS (d + 1)) (2 * (6 - d) + 1)) : RDR ch n (o_X4_readSum rf (iI d)) (pSm ch rfS d) (2 * (6 - d) + 3) := by
  have HF := rd_pr h hd H
  have flt : ∀ (N j : Nat) (s : SS) (F : Nat), j ≤ 200 → 0 < N → FLT F s → lp_X4_readSum_7 rf (iI d) N (iI j) s = some (0, s) := by
    intro N j s F hj hN hF
    obtain ⟨N, rfl⟩ : ∃ M, N = M + 1 := ⟨N - 1, by omega⟩
    rw [lp_X4_readSum_7]
    by_cases q : (200 : Int32) ≤ iI (j : Int)
    · exact e_if_t q rfl
    · refine e_if_f q ?_
      exact e_if_f hF.ne rfl
  refine ⟨fun s F hF => ?_, fun s p k hs => ?_⟩
  · obtain ⟨v, t, e1, e2, e3⟩ := HF.1 s F hF
    refine ⟨0, t, ?_, e2, e3⟩
    unfold o_X4_readSum
    refine e_bd e1 ?_
    exact flt FU 0 t F (by omega) (fu_lt (by omega)) e3
  · have lp : ∀ (m N j q k2 : Nat) (e : EV) (u : SS), j + m = 200 → m < N → FP s u → PS ch n q k2 u → k2 + p ≤ q + k → (∀ i, i < k → u 20 i = s 20 i ∧ u 21 i = s 21 i) → CE (2 * (6 - d) + 3) (u 20) (u 21) k k2 e → ∃ t, lp_X4_readSum_7 rf (iI d) N (iI j) u = some (0, t) ∧ PO ch n (pSmL ch rfS d m q e) (2 * (6 - d) + 3) p k s t := by
      intro m
      induction m with
      | zero =>
        intro N j q k2 e u hj hN h1 h2 h3 h4 h5
        obtain ⟨N, rfl⟩ : ∃ M, N = M + 1 := ⟨N - 1, by omega⟩
        refine ⟨u, ?_, PO.okk h1 h2 h3 h4 h5⟩
        rw [lp_X4_readSum_7]
        exact e_if_t (by simp (disch := omega) only [Int.toNat_natCast, iI_lt, iI_le, iI_eq, iI_add, iI_sub, iI_mul, iI_neg, iI_clamp, inb_ii, z_200]; omega) rfl
      | succ m ih =>
        intro N j q k2 e u hj hN h1 h2 h3 h4 h5
        obtain ⟨N, rfl⟩ : ∃ M, N = M + 1 := ⟨N - 1, by omega⟩
        have h43 := sgv_is h (p := q) (c := 43) (by omega)
        have h45 := sgv_is h (p := q) (c := 45) (by omega)
        have hsg := ps_sign h h2
        have cj : ¬ (200 : Int32) ≤ iI (j : Int) := by simp (disch := omega) only [Int.toNat_natCast, iI_lt, iI_le, iI_eq, iI_add, iI_sub, iI_mul, iI_neg, iI_clamp, inb_ii, z_200]; omega
        unfold pSmL
        by_cases y : isP (ch q)
        · rw [if_pos y]
          have hq := ch_lt h (p := q) (by unfold isP at y; omega)
          have esg : sgv ch n q = iI (ch q) := if_pos hq
          obtain ⟨g1, g2⟩ := ps_next h2 hq
          obtain ⟨v, t, f1, f2, f3, f4⟩ := HF.2 _ _ _ g1
          have head : ∀ r, bd (f_X1_addStep (iI (ch q)) 0 t) (fun (v15 : Int32) (s16 : SS) => lp_X4_readSum_7 rf (iI d) N (iI (j : Int) + 1) s16) = r → lp_X4_readSum_7 rf (iI d) (N + 1) (iI j) u = r := by
            intro r hr
            have inner : bdp (f_X4_sign u) (fun (v10 : Int32) => lts (up u 17 3 ((u 17 3) + 1)) (fun (s11 : SS) => bd (f_X4_readProduct rf (iI d) s11) (fun (v12 : Int32) (s13 : SS) => bd (f_X1_addStep v10 0 s13) (fun (v14 : Int32) (s15 : SS) => lp_X4_readSum_7 rf (iI d) N (iI (j : Int) + 1) s15)))) = r := by
              refine e_bdp hsg ?_
              rw [esg]
              refine e_lts ?_
              exact e_bd f1 hr
            rw [lp_X4_readSum_7]
            refine e_if_f cj ?_
            refine e_if_t h2.2.2.1 ?_
            refine e_bdp hsg ?_
            refine e_jn ?_
            by_cases y1 : ch q = 43
            · exact e_if_t (h43.mpr y1) inner
            · refine e_if_f (mt h43.mp y1) ?_
              refine e_bdp hsg ?_
              exact e_if_t (h45.mpr (y.resolve_left y1)) inner
          cases c : pPr ch rfS d (q + 1) with
          | error f =>
            have hf := f3 f c
            obtain ⟨v2, t2, d1, d2, d3⟩ := step_f (iI (ch q)) 0 t
            have hf2 : FLT f t2 := by
              unfold FLT at hf ⊢
              rw [d3]
              exact hf
            refine ⟨t2, head _ (e_bd d1 ?_), PO.err (((h1.tr g2).tr f2).tr d2) hf2⟩
            rw [nx_s]
            exact flt N (j + 1) t2 f (by omega) (by omega) hf2
          | ok r =>
            obtain ⟨k3, a1, a2, a3, a4⟩ := f4 r c
            have hk2 := h2.2.2.2.2.2.1
            obtain ⟨t2, d1, d2, d3, d4, d5, d6⟩ := step_g a1 h.1 (by omega) (iI (ch q)) 0
            have hce1 : CE (2 * (6 - d) + 3) (t2 20) (t2 21) k k2 e := h5.of (fun i a b => by
              have x1 := d4 i (by have := a4.1; omega)
              have x2 := a3 i b
              rw [up_cell (by omega), up_cell (by omega)] at x2
              exact ⟨x1.1.trans x2.1, x1.2.trans x2.2⟩)
            have hce2 : CE (2 * (6 - d) + 2) (t2 20) (t2 21) k2 k3 r.2 := a4.of (fun i a b => d4 i (by omega))
            obtain ⟨t3, b1, b2⟩ := ih N (j + 1) r.1 (k3 + 1) (binE (ch q) e r.2) t2 (by omega) (by omega) (((h1.tr g2).tr f2).tr d2) d3 (by omega) (fun i hi => by
              have x1 := d4 i (by have := h5.1; have := a4.1; omega)
              have x2 := a3 i (by have := h5.1; omega)
              rw [up_cell (by omega), up_cell (by omega)] at x2
              have x3 := h4 i hi
              exact ⟨(x1.1.trans x2.1).trans x3.1, (x1.2.trans x2.2).trans x3.2⟩) (CE_bin hce1 hce2 (ops_P y) d5 (by omega) (by omega) (by omega))
            refine ⟨t3, head _ (e_bd d1 ?_), b2⟩
            rw [nx_s]
            exact b1
        · rw [if_neg y]
          refine ⟨u, ?_, PO.okk h1 h2 h3 h4 h5⟩
          rw [lp_X4_readSum_7]
          refine e_if_f cj ?_
          refine e_if_t h2.2.2.1 ?_
          refine e_bdp hsg ?_
          refine e_jn ?_
          refine e_if_f (fun w => y (Or.inl (h43.mp w))) ?_
          refine e_bdp hsg ?_
          exact e_if_f (fun w => y (Or.inr (h45.mp w))) rfl
    obtain ⟨v, t, f1, f2, f3, f4⟩ := HF.2 s p k hs
    unfold pSm
    cases c : pPr ch rfS d p with
    | error f =>
      have hf := f3 f c
      refine ⟨0, t, ?_, PO.err f2 hf⟩
      unfold o_X4_readSum
      refine e_bd f1 ?_
      exact flt FU 0 t f (by omega) (fu_lt (by omega)) hf
    | ok r =>
      obtain ⟨k2, a1, a2, a3, a4⟩ := f4 r c
      obtain ⟨t3, b1, b2⟩ := lp 200 FU 0 r.1 k2 r.2 t rfl (fu_lt (by omega)) f2 a1 a2 a3 (a4.m (by omega))
      refine ⟨0, t3, ?_, b2⟩
      unfold o_X4_readSum
      exact e_bd f1 b1
/-- a sum at depth d -/
theorem rd_sum (h : OKC ch n) : ∀ (r F d : Nat), r + d = 7 → r + 1 ≤ F → d ≤ 6 → RDR ch n (f_X4_readSum F (iI d)) (pSum ch (r + 1) d) (2 * (6 - d) + 3) := by
  intro r
  induction r with
  | zero => intro F d h1 h2 h3; omega
  | succ r ih =>
    intro F d h1 h2 h3
    obtain ⟨F, rfl⟩ : ∃ M, F = M + 1 := ⟨F - 1, by omega⟩
    have := rd_sm (rf := f_X4_readSum F) (rfS := pSum ch (r + 1)) h h3 (fun hd => by
      have := ih F (d + 1) (by omega) (by omega) (by omega)
      rw [show 2 * (6 - (d + 1)) + 3 = 2 * (6 - d) + 1 by omega] at this
      exact this)
    exact this
