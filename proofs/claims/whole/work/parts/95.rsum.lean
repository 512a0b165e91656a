/-! the reference reads a sum -/
variable {ch : Nat → Nat} {n : Nat} {s t u : SS}
theorem sm_pop {a : Int32} {p k j o c M : Nat} (hn : n ≤ 200) (h : RPS ch n p k (j + 1) o s) (ht : TPV (j + 1) s c) (hc : isT c ∨ (a = 1 ∧ isP c)) : lp_X12_sums_0 a (M + 1) s = lp_X12_sums_0 a M (poS s k j (iI c) 0) := by
  have tp := top_f hn h ht
  have body : bdp (f_X12_top s) (fun (v6 : Int32) => bd (f_X12_emit v6 0 s) (fun (_v7 : Int32) (s8 : SS) => lts (up s8 56 36 ((s8 56 36) - 1)) (fun (s9 : SS) => lp_X12_sums_0 a M s9))) = lp_X12_sums_0 a M (poS s k j (iI c) 0) := by
    refine e_bdp tp ?_
    refine e_bd (emit_g h.2.2.1 h.2.2.2.1 (by have := h.2.2.2.2.2.2.2; omega) _ _) ?_
    rw [emS_56 (by omega), h.2.2.2.2.2.1, pr_s]
    exact e_lts rfl
  rw [lp_X12_sums_0]
  refine e_bdp tp ?_
  refine e_bdp (times_f ht.1 s) ?_
  refine e_jn ?_
  by_cases q : isT c
  · rw [if_pos q]
    exact e_if_f (by decide) body
  · obtain ⟨q2, q3⟩ := hc.resolve_left q
    rw [if_neg q]
    refine e_if_t rfl ?_
    refine e_if_f (by rw [q2]; decide) ?_
    refine e_bdp tp ?_
    refine e_bdp (plus_f ht.1 s) ?_
    rw [if_pos q3]
    exact e_if_f (by decide) body
theorem sm_stop {a : Int32} {p k j o c M : Nat} (hn : n ≤ 200) (h : RPS ch n p k j o s) (ht : TPV j s c) (h1 : ¬ isT c) (h2 : a = 0 ∨ ¬ isP c) : lp_X12_sums_0 a (M + 1) s = some (0, s) := by
  have tp := top_f hn h ht
  rw [lp_X12_sums_0]
  refine e_bdp tp ?_
  refine e_bdp (times_f ht.1 s) ?_
  refine e_jn ?_
  rw [if_neg h1]
  refine e_if_t rfl ?_
  by_cases q : a = 0
  · exact e_if_t q rfl
  · refine e_if_f q ?_
    refine e_bdp tp ?_
    refine e_bdp (plus_f ht.1 s) ?_
    rw [if_neg (h2.resolve_left q)]
    exact e_if_t rfl rfl
/-- an operator that waits -/
def PNX (k k2 j j2 : Nat) (s : SS) (e : EV) : Prop := (j2 = j ∧ RE (s 75) (s 76) k k2 e) ∨ ∃ (m op : Nat) (e1 e2 : EV), j2 = j + 1 ∧ isT op ∧ s 77 j = iI op ∧ RE (s 75) (s 76) k m e1 ∧ RE (s 75) (s 76) m k2 e2 ∧ e = binE op e1 e2
def SPX (k k2 j j2 : Nat) (s : SS) (e : EV) : Prop := PNX k k2 j j2 s e ∨ ∃ (m op : Nat) (e1 e2 : EV), isP op ∧ s 77 j = iI op ∧ RE (s 75) (s 76) k m e1 ∧ PNX m k2 (j + 1) j2 s e2 ∧ e = binE op e1 e2
theorem PNX.lt {k k2 j j2 : Nat} {e : EV} (h : PNX k k2 j j2 s e) : k < k2 ∧ j ≤ j2 := by
  rcases h with ⟨a, b⟩ | ⟨m, op, e1, e2, a1, a2, a3, a4, a5, a6⟩
  · have := b.1; omega
  · have := a4.1; have := a5.1; omega
theorem isT_lt {c : Nat} (h : isT c) : c < 256 := by unfold isT at h; omega
theorem isP_lt {c : Nat} (h : isP c) : c < 256 := by unfold isP at h; omega
theorem flush1 {a : Int32} {q k k2 j j2 o : Nat} {e : EV} (hn : n ≤ 200) (hs : RPS ch n q k2 j2 o s) (hp : PNX k k2 j j2 s e) : ∃ t k3, RPS ch n q k3 j o t ∧ KPP k j s t ∧ RE (t 75) (t 76) k k3 e ∧ t 56 38 = s 56 38 ∧ ∀ M, ∃ M', M ≤ M' ∧ lp_X12_sums_0 a (M + 1) s = lp_X12_sums_0 a M' t := by
  rcases hp with ⟨a1, b⟩ | ⟨m, op, e1, e2, a1, a2, a3, a4, a5, a6⟩
  · subst a1
    exact ⟨s, k2, hs, KPP.rf _ _ _, b, rfl, fun M => ⟨M + 1, by omega, rfl⟩⟩
  · subst a1
    obtain ⟨g1, g2, g3, g4, g5, g6⟩ := poS_g hs (iI op) 0
    have l4 := a4.1
    have l5 := a5.1
    refine ⟨poS s k2 j (iI op) 0, k2 + 1, g1, g2.lo (by omega) (by omega), ?_, g3, fun M => ⟨M, Nat.le_refl _, sm_pop hn hs ⟨isT_lt a2, Or.inr ⟨by omega, a3⟩⟩ (Or.inl a2)⟩⟩
    rw [a6]
    exact RE_bin (a4.of (fun i x y => g2.2.2 i (by omega))) (a5.of (fun i x y => g2.2.2 i y)) (ops_T a2) g5
theorem flush2 {q k k2 j j2 o : Nat} {e : EV} (hn : n ≤ 200) (hs : RPS ch n q k2 j2 o s) (hp : SPX k k2 j j2 s e) : ∃ t k3, RPS ch n q k3 j o t ∧ KPP k j s t ∧ RE (t 75) (t 76) k k3 e ∧ t 56 38 = s 56 38 ∧ ∀ M, ∃ M', M ≤ M' ∧ lp_X12_sums_0 1 (M + 2) s = lp_X12_sums_0 1 M' t := by
  rcases hp with h | ⟨m, op, e1, e2, a2, a3, a4, a5, a6⟩
  · obtain ⟨t, k3, g1, g2, g3, g4, g5⟩ := flush1 (a := 1) hn hs h
    refine ⟨t, k3, g1, g2, g3, g4, fun M => ?_⟩
    obtain ⟨M', m1, m2⟩ := g5 (M + 1)
    exact ⟨M', by omega, m2⟩
  · obtain ⟨t, k3, g1, g2, g3, g4, g5⟩ := flush1 (a := 1) hn hs a5
    have l4 := a4.1
    have l5 := g3.1
    obtain ⟨b1, b2, b3, b4, b5, b6⟩ := poS_g g1 (iI op) 0
    refine ⟨poS t k3 j (iI op) 0, k3 + 1, b1, (g2.lo (by omega) (by omega)).tr (b2.lo (by omega) (by omega)), ?_, b3.trans g4, fun M => ?_⟩
    · rw [a6]
      exact RE_bin (a4.of (fun i x y => by
        have x1 := b2.2.2 i (by omega)
        have x2 := g2.2.2 i y
        exact ⟨x1.1.trans x2.1, x1.2.trans x2.2⟩)) (g3.of (fun i x y => b2.2.2 i y)) (ops_P a2) b5
    · obtain ⟨M', m1, m2⟩ := g5 (M + 1)
      obtain ⟨M', rfl⟩ : ∃ Z, M' = Z + 1 := ⟨M' - 1, by omega⟩
      refine ⟨M', by omega, m2.trans (sm_pop hn g1 ⟨isP_lt a2, Or.inr ⟨by omega, ?_⟩⟩ (Or.inr ⟨rfl, a2⟩))⟩
      rw [show j + 1 - 1 = j from rfl, g2.2.1 j (by omega)]
      exact a3
theorem TPV.kp {k j c : Nat} (h : TPV j s c) (g : KPP k j s t) : TPV j t c := ⟨h.1, h.2.imp id (fun w => ⟨w.1, by rw [g.2.1 (j - 1) (by omega)]; exact w.2⟩)⟩
theorem PNX.of {k k2 j j2 : Nat} {e : EV} (h : PNX k k2 j j2 s e) (e5 : t 75 = s 75) (e6 : t 76 = s 76) (e7 : t 77 = s 77) : PNX k k2 j j2 t e := by
  unfold PNX at h ⊢
  rw [e5, e6, e7]
  exact h
theorem SPX.of {k k2 j j2 : Nat} {e : EV} (h : SPX k k2 j j2 s e) (e5 : t 75 = s 75) (e6 : t 76 = s 76) (e7 : t 77 = s 77) : SPX k k2 j j2 t e := by
  unfold SPX PNX at h ⊢
  rw [e5, e6, e7]
  exact h
theorem af_1 {N q k j o : Nat} {r : Res} (hs : RPS ch n q k j o t) (h : f_X12_stays (up t 56 38 0) = some (1, u)) (h2 : lp_X12_value_7 KV N 1 u = r) : AF N t = r := by
  unfold AF
  refine e_lts ?_
  refine e_bdp (rp_good (hs.u38 (i := 38) (v := 0) (by omega))) ?_
  refine e_jn ?_
  refine e_jn ?_
  refine e_if_f (by decide) ?_
  refine e_bd h ?_
  exact e_if_f (by decide) h2
theorem af_x {N q k j o : Nat} (hs : RPS ch n q k j o t) (h : f_X12_stays (up t 56 38 0) = AFX (iI (ch q)) u) : AF N t = AFF N (iI (ch q)) u := by
  unfold AF
  refine e_lts ?_
  refine e_bdp (rp_good (hs.u38 (i := 38) (v := 0) (by omega))) ?_
  refine e_jn ?_
  refine e_jn ?_
  refine e_if_f (by decide) ?_
  rw [h]
  rfl
theorem st_T {q k j o : Nat} (hc : OKC ch n) (hs : RPS ch n q k j o s) (hq : isT (ch q)) (h1 : lp_X12_sums_0 0 FU s = some (0, t)) (h2 : f_X12_puts (iI (ch q)) t = some (0, u)) : f_X12_stays s = some (1, u) := by
  have h256 := hc.2.1 q
  have np : ¬ isP (ch q) := by unfold isT at hq; unfold isP; omega
  unfold f_X12_stays
  refine e_bdp (rp_here hc hs) ?_
  refine e_bdp (times_f h256 s) ?_
  rw [if_pos hq]
  refine e_jn ?_
  refine e_if_f (by decide) ?_
  refine e_bdp (plus_f h256 s) ?_
  rw [if_neg np]
  refine e_bd h1 ?_
  exact e_bd h2 rfl
theorem st_P {q k j o : Nat} (hc : OKC ch n) (hs : RPS ch n q k j o s) (hq : isP (ch q)) (h1 : lp_X12_sums_0 1 FU s = some (0, t)) (h2 : f_X12_puts (iI (ch q)) t = some (0, u)) : f_X12_stays s = some (1, u) := by
  have h256 := hc.2.1 q
  have nt : ¬ isT (ch q) := by unfold isP at hq; unfold isT; omega
  unfold f_X12_stays
  refine e_bdp (rp_here hc hs) ?_
  refine e_bdp (times_f h256 s) ?_
  rw [if_neg nt]
  refine e_jn ?_
  refine e_if_t rfl ?_
  refine e_bdp (plus_f h256 s) ?_
  rw [if_pos hq]
  refine e_if_f (by decide) ?_
  refine e_bdp (plus_f h256 s) ?_
  rw [if_pos hq]
  refine e_bd h1 ?_
  exact e_bd h2 rfl
theorem st_E {q k j o : Nat} (hc : OKC ch n) (hs : RPS ch n q k j o s) (nt : ¬ isT (ch q)) (np : ¬ isP (ch q)) (h1 : lp_X12_sums_0 1 FU s = some (0, t)) : f_X12_stays s = AFX (iI (ch q)) t := by
  have h256 := hc.2.1 q
  unfold f_X12_stays
  refine e_bdp (rp_here hc hs) ?_
  refine e_bdp (times_f h256 s) ?_
  rw [if_neg nt]
  refine e_jn ?_
  refine e_if_t rfl ?_
  refine e_bdp (plus_f h256 s) ?_
  rw [if_neg np]
  refine e_if_t rfl ?_
  exact e_bd h1 rfl
theorem fu_2 : ∃ M, FU = M + 2 ∧ 1 ≤ M := ⟨FU - 2, by have := fu_lt (n := 10) (by omega); omega, by have := fu_lt (n := 10) (by omega); omega⟩
def POK (ch : Nat → Nat) (n : Nat) (res : RSL) (p k j o N : Nat) (s : SS) (r : Res) : Prop := (∀ f, res = .error f → ∃ t, r = some (0, t) ∧ FLR f t ∧ FRR s t) ∧ ∀ q, res = .ok q → ∃ t k2 j2 N2, r = AF N2 t ∧ N + p ≤ N2 + q.1 ∧ p < q.1 ∧ RPS ch n q.1 k2 j2 o t ∧ KPP k j s t ∧ PNX k k2 j j2 t q.2 ∧ ¬ isT (ch q.1)
theorem rf_pr (hc : OKC ch n) {rfS : Nat → Nat → RSL} {d p k j M N : Nat} (hd : d ≤ 6) (H : d < 6 → SOK ch n (d + 1) (rfS (d + 1))) (hs : RPS ch n p k j d s) (hb : ∃ c, TPV j s c ∧ ¬ isT c) (hM : n < p + M) (hN : n + 1 < N + p) : POK ch n (pPr ch rfS d p) p k j d N s (VFM M N s) := by
  have hn := hc.1
  obtain ⟨c0, hb1, hb2⟩ := hb
  have lp : ∀ (m N2 q k2 j2 : Nat) (e : EV) (t : SS), 200 ≤ m + q → N + p ≤ N2 + q → p < q → RPS ch n q k2 j2 d t → KPP k j s t → PNX k k2 j j2 t e → POK ch n (pPrL ch rfS d m q e) p k j d N s (AF N2 t) := by
    intro m
    induction m with
    | zero =>
      intro N2 q k2 j2 e t h1 h2 h3 h4 h5 h6
      refine ⟨(fun f w => by cases w), fun r w => ?_⟩
      cases w
      refine ⟨t, k2, j2, N2, rfl, h2, h3, h4, h5, h6, ?_⟩
      rw [hc.2.2 q (by omega)]
      decide
    | succ m ih =>
      intro N2 q k2 j2 e t h1 h2 h3 h4 h5 h6
      unfold pPrL
      by_cases y : isT (ch q)
      · rw [if_pos y]
        have hq := ch_lt hc (p := q) (by unfold isT at y; omega)
        have h4b := h4.u38 (i := 38) (v := 0) (by omega)
        have h6b : PNX k k2 j j2 (up t 56 38 0) e := h6.of (up_cell (by omega)) (up_cell (by omega)) (up_cell (by omega))
        obtain ⟨t1, k3, g1, g2, g3, g4, g5⟩ := flush1 (a := 0) hn h4b h6b
        have hk1 : KPP k j s t1 := (h5.tr (KPP.u56 (by omega))).tr g2
        obtain ⟨MF, mf1, mf2⟩ := fu_2
        obtain ⟨M', m1, m2⟩ := g5 (MF + 1)
        obtain ⟨M', rfl⟩ : ∃ Z, M' = Z + 1 := ⟨M' - 1, by omega⟩
        have fl : lp_X12_sums_0 0 FU (up t 56 38 0) = some (0, t1) := by
          rw [mf1]
          exact m2.trans (sm_stop hn g1 (hb1.kp hk1) hb2 (Or.inl rfl))
        obtain ⟨t2, p1, p2, p3, p4, p5, p6⟩ := puts_g g1 hn hq (iI (ch q))
        have hst := st_T hc h4b y fl p1
        obtain ⟨N2, rfl⟩ : ∃ Z, N2 = Z + 1 := ⟨N2 - 1, by omega⟩
        have t38 : t2 56 38 = 0 := by rw [p5, g4]; exact up_at _ _ _ _
        have hd1 : AF (N2 + 1) t = VFM FU N2 t2 := af_1 h4 hst (lp_in p2 t38)
        have hfc := rf_fac (M := FU) (N := N2) hc hd H p2 (by have := fu_lt (n := 300) (by omega); omega) (by omega)
        have l3 := g3.1
        cases c : pFac ch rfS d (q + 1) with
        | error f =>
          obtain ⟨t3, a1, a2, a3⟩ := hfc.1 f c
          refine ⟨fun f2 w => ?_, (fun r w => by cases w)⟩
          cases w
          exact ⟨t3, hd1.trans a1, a2, (hk1.1.tr p4.1).tr a3⟩
        | ok r =>
          obtain ⟨t3, k4, N3, a1, a2, a3, a4, a5, a6⟩ := hfc.2 r c
          rw [hd1, a1]
          refine ih N3 r.1 k4 (j + 1) (binE (ch q) e r.2) t3 (by omega) (by omega) (by omega) a4 ((hk1.tr (p4.lo (by omega) (by omega))).tr (a5.lo (by omega) (by omega))) (Or.inr ⟨k3, ch q, e, r.2, rfl, y, ?_, ?_, a6, rfl⟩)
          · rw [a5.2.1 j (by omega)]
            exact p3
          · exact g3.of (fun i x z => by
              have x1 := a5.2.2 i z
              have x2 := p4.2.2 i z
              exact ⟨x1.1.trans x2.1, x1.2.trans x2.2⟩)
      · rw [if_neg y]
        refine ⟨(fun f w => by cases w), fun r w => ?_⟩
        cases w
        exact ⟨t, k2, j2, N2, rfl, h2, h3, h4, h5, h6, y⟩
  have hfc := rf_fac (M := M) (N := N) hc hd H hs hM hN
  unfold pPr
  cases c : pFac ch rfS d p with
  | error f =>
    obtain ⟨t3, a1, a2, a3⟩ := hfc.1 f c
    refine ⟨fun f2 w => ?_, (fun r w => by cases w)⟩
    cases w
    exact ⟨t3, a1, a2, a3⟩
  | ok r =>
    obtain ⟨t3, k4, N3, a1, a2, a3, a4, a5, a6⟩ := hfc.2 r c
    rw [a1]
    exact lp 200 N3 r.1 k4 j r.2 t3 (by omega) a2 a3 a4 a5 (Or.inl ⟨rfl, a6⟩)
def SOR (ch : Nat → Nat) (n : Nat) (res : RSL) (p k j o N : Nat) (s : SS) (r : Res) : Prop := (∀ f, res = .error f → ∃ t, r = some (0, t) ∧ FLR f t ∧ FRR s t) ∧ ∀ q, res = .ok q → ∃ t k2 N2, r = AFF N2 (iI (ch q.1)) t ∧ N + p ≤ N2 + q.1 ∧ p < q.1 ∧ RPS ch n q.1 k2 j o t ∧ KPP k j s t ∧ RE (t 75) (t 76) k k2 q.2 ∧ ¬ isT (ch q.1) ∧ ¬ isP (ch q.1)
theorem rf_sm (hc : OKC ch n) {rfS : Nat → Nat → RSL} {d : Nat} (hd : d ≤ 6) (H : d < 6 → SOK ch n (d + 1) (rfS (d + 1))) : SOK ch n d (pSm ch rfS d) := by
  intro p k j M N s hs hb hM hN
  show SOR ch n (pSm ch rfS d p) p k j d N s (VFM M N s)
  have hn := hc.1
  obtain ⟨c0, hb1, hb2, hb3⟩ := hb
  have lp : ∀ (m N2 q k2 j2 : Nat) (e : EV) (t : SS), 200 ≤ m + q → N + p ≤ N2 + q → p < q → RPS ch n q k2 j2 d t → KPP k j s t → SPX k k2 j j2 t e → ¬ isT (ch q) → SOR ch n (pSmL ch rfS d m q e) p k j d N s (AF N2 t) := by
    intro m
    induction m with
    | zero =>
      intro N2 q k2 j2 e t h1 h2 h3 h4 h5 h6 h7
      have y : ¬ isP (ch q) := by
        rw [hc.2.2 q (by omega)]
        decide
      have h4b := h4.u38 (i := 38) (v := 0) (by omega)
      have h6b : SPX k k2 j j2 (up t 56 38 0) e := h6.of (up_cell (by omega)) (up_cell (by omega)) (up_cell (by omega))
      obtain ⟨t1, k3, g1, g2, g3, g4, g5⟩ := flush2 hn h4b h6b
      have hk1 : KPP k j s t1 := (h5.tr (KPP.u56 (by omega))).tr g2
      obtain ⟨MF, mf1, mf2⟩ := fu_2
      obtain ⟨M', m1, m2⟩ := g5 MF
      obtain ⟨M', rfl⟩ : ∃ Z, M' = Z + 1 := ⟨M' - 1, by omega⟩
      have fl : lp_X12_sums_0 1 FU (up t 56 38 0) = some (0, t1) := by
        rw [mf1]
        exact m2.trans (sm_stop hn g1 (hb1.kp hk1) hb2 (Or.inr hb3))
      refine ⟨(fun f w => by cases w), fun r w => ?_⟩
      cases w
      exact ⟨t1, k3, N2, af_x h4 (st_E hc h4b h7 y fl), h2, h3, g1, hk1, g3, h7, y⟩
    | succ m ih =>
      intro N2 q k2 j2 e t h1 h2 h3 h4 h5 h6 h7
      have h4b := h4.u38 (i := 38) (v := 0) (by omega)
      have h6b : SPX k k2 j j2 (up t 56 38 0) e := h6.of (up_cell (by omega)) (up_cell (by omega)) (up_cell (by omega))
      obtain ⟨t1, k3, g1, g2, g3, g4, g5⟩ := flush2 hn h4b h6b
      have hk1 : KPP k j s t1 := (h5.tr (KPP.u56 (by omega))).tr g2
      obtain ⟨MF, mf1, mf2⟩ := fu_2
      obtain ⟨M', m1, m2⟩ := g5 MF
      obtain ⟨M', rfl⟩ : ∃ Z, M' = Z + 1 := ⟨M' - 1, by omega⟩
      have fl : lp_X12_sums_0 1 FU (up t 56 38 0) = some (0, t1) := by
        rw [mf1]
        exact m2.trans (sm_stop hn g1 (hb1.kp hk1) hb2 (Or.inr hb3))
      unfold pSmL
      by_cases y : isP (ch q)
      · rw [if_pos y]
        have hq := ch_lt hc (p := q) (by unfold isP at y; omega)
        obtain ⟨t2, p1, p2, p3, p4, p5, p6⟩ := puts_g g1 hn hq (iI (ch q))
        have hst := st_P hc h4b y fl p1
        obtain ⟨N2, rfl⟩ : ∃ Z, N2 = Z + 1 := ⟨N2 - 1, by omega⟩
        have t38 : t2 56 38 = 0 := by rw [p5, g4]; exact up_at _ _ _ _
        have hd1 : AF (N2 + 1) t = VFM FU N2 t2 := af_1 h4 hst (lp_in p2 t38)
        have hpr := rf_pr (M := FU) (N := N2) hc hd H p2 ⟨ch q, ⟨hc.2.1 q, Or.inr ⟨by omega, p3⟩⟩, h7⟩ (by have := fu_lt (n := 300) (by omega); omega) (by omega)
        have l3 := g3.1
        cases c : pPr ch rfS d (q + 1) with
        | error f =>
          obtain ⟨t3, a1, a2, a3⟩ := hpr.1 f c
          refine ⟨fun f2 w => ?_, (fun r w => by cases w)⟩
          cases w
          exact ⟨t3, hd1.trans a1, a2, (hk1.1.tr p4.1).tr a3⟩
        | ok r =>
          obtain ⟨t3, k4, j4, N3, a1, a2, a3, a4, a5, a6, a7⟩ := hpr.2 r c
          rw [hd1, a1]
          refine ih N3 r.1 k4 j4 (binE (ch q) e r.2) t3 (by omega) (by omega) (by omega) a4 ((hk1.tr (p4.lo (by omega) (by omega))).tr (a5.lo (by omega) (by omega))) (Or.inr ⟨k3, ch q, e, r.2, y, ?_, ?_, a6, rfl⟩) a7
          · rw [a5.2.1 j (by omega)]
            exact p3
          · exact g3.of (fun i x z => by
              have x1 := a5.2.2 i z
              have x2 := p4.2.2 i z
              exact ⟨x1.1.trans x2.1, x1.2.trans x2.2⟩)
      · rw [if_neg y]
        refine ⟨(fun f w => by cases w), fun r w => ?_⟩
        cases w
        exact ⟨t1, k3, N2, af_x h4 (st_E hc h4b h7 y fl), h2, h3, g1, hk1, g3, h7, y⟩
  have hpr := rf_pr (M := M) (N := N) hc hd H hs ⟨c0, hb1, hb2⟩ hM hN
  unfold pSm
  cases c : pPr ch rfS d p with
  | error f =>
    obtain ⟨t3, a1, a2, a3⟩ := hpr.1 f c
    refine ⟨fun f2 w => ?_, (fun r w => by cases w)⟩
    cases w
    exact ⟨t3, a1, a2, a3⟩
  | ok r =>
    obtain ⟨t3, k4, j4, N3, a1, a2, a3, a4, a5, a6, a7⟩ := hpr.2 r c
    rw [a1]
    exact lp 200 N3 r.1 k4 j4 r.2 t3 (by omega) a2 a3 a4 a5 (Or.inl a6) a7
theorem rf_sum (hc : OKC ch n) : ∀ (r d : Nat), r + d = 7 → d ≤ 6 → SOK ch n d (pSum ch (r + 1) d) := by
  intro r
  induction r with
  | zero => intro d h1 h2; omega
  | succ r ih =>
    intro d h1 h2
    exact rf_sm (rfS := pSum ch (r + 1)) hc h2 (fun hd => ih (d + 1) (by omega) (by omega))
/-- a whole value -/
theorem rf_value (hc : OKC ch n) {d p k j c : Nat} (hd : d ≤ 6) (hs : RPS ch n p k j d s) (hb : TPV j s c) (h1 : ¬ isT c) (h2 : ¬ isP c) (h3 : c ≠ 91) : (∀ f, pSum ch (8 - d) d p = .error f → ∃ t, f_X12_value s = some (0, t) ∧ FLR f t ∧ FRR s t) ∧ ∀ q, pSum ch (8 - d) d p = .ok q → p < q.1 ∧ (ch q.1 = 93 → ∃ t, f_X12_value s = some (0, t) ∧ FLR (1000 + q.1) t ∧ FRR s t) ∧ (ch q.1 ≠ 93 → ∃ t k2, f_X12_value s = some (0, t) ∧ p < q.1 ∧ RPS ch n q.1 k2 j d t ∧ KPP k j s t ∧ RE (t 75) (t 76) k k2 q.2 ∧ ¬ isT (ch q.1) ∧ ¬ isP (ch q.1)) := by
  have HS := rf_sum hc (7 - d) d (by omega) hd
  rw [show 7 - d + 1 = 8 - d by omega] at HS
  have hs1 := hs.u38 (i := 38) (v := 0) (by omega)
  obtain ⟨MF, mf1, mf2⟩ := fu_2
  have mf3 := fu_lt (n := 1000) (by omega)
  have hpn := hs.2.2.2.2.2.2.2.2
  have hn := hc.1
  have k38 : KPP k j s (up s 56 38 0) := KPP.u56 (by omega)
  have hb1 : TPV j (up s 56 38 0) c := hb.kp k38
  have head : ∀ r, VFM FU (MF + 1) (up s 56 38 0) = r → f_X12_value s = r := by
    intro r hr
    unfold f_X12_value
    refine e_lts ?_
    refine e_jn ?_
    show lp_X12_value_7 KV FU 1 (up s 56 38 0) = r
    rw [← hr]
    conv => lhs; rw [mf1]
    exact lp_in hs1 (up_at _ _ _ _)
  obtain ⟨E1, E2⟩ := HS p k j FU (MF + 1) (up s 56 38 0) hs1 ⟨c, hb1, h1, h2⟩ (by omega) (by omega)
  refine ⟨fun f e => ?_, fun q e => ?_⟩
  · obtain ⟨t, a1, a2, a3⟩ := E1 f e
    exact ⟨t, head _ a1, a2, k38.1.tr a3⟩
  · obtain ⟨t, k2, N2, a1, a2, a3, a4, a5, a6, a7, a8⟩ := E2 q e
    have := a4.2.2.2.2.2.2.2.2
    obtain ⟨N2, rfl⟩ : ∃ Z, N2 = Z + 1 := ⟨N2 - 1, by omega⟩
    obtain ⟨b1, b2⟩ := aff_val (N := N2) hc a4 (hb1.kp a5) h3
    refine ⟨a3, fun y => ?_, fun y => ?_⟩
    · obtain ⟨t2, d1, d2, d3⟩ := b2 y
      exact ⟨t2, head _ (a1.trans d1), d2, (k38.1.tr a5.1).tr d3⟩
    · exact ⟨t, k2, head _ (a1.trans (b1 y)), a3, a4, k38.tr a5, a6, a7, a8⟩
