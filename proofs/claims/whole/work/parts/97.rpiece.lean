/-! the reference reads pieces, all, any -/
variable {ch : Nat → Nat} {n : Nat} {s t u : SS}
def PCS (ch : Nat → Nat) (n d : Nat) (sp : Nat → RSL) : Prop := ∀ (p k j c M N : Nat) (s : SS), 1 ≤ j → RPS ch n p k j d s → s 56 37 = 0 → TPV j s c → (c = 40 ∨ c = 33 ∨ c = 38 ∨ c = 124) → n < p + M → n + 1 < N + p → QOK ch n (sp p) p k j d N s (VCM M N s)
theorem pCmp_ble {d p : Nat} {q : Nat × EV} (h : pCmp ch d p = .ok q) : BLE q.2 := by
  unfold pCmp at h
  cases c1 : pSum ch (8 - d) d p with
  | error f => rw [c1] at h; cases h
  | ok r =>
    rw [c1] at h
    have h2 : (if isS (ch r.1) then (match pSum ch (8 - d) d (r.1 + 1) with | .error f => .error f | .ok r2 => .ok (r2.1, binE (ch r.1) r.2 r2.2)) else .error (1000 + r.1) : RSL) = .ok q := h
    by_cases y : isS (ch r.1)
    · rw [if_pos y] at h2
      cases c2 : pSum ch (8 - d) d (r.1 + 1) with
      | error f => rw [c2] at h2; cases h2
      | ok r2 =>
        rw [c2] at h2
        cases h2
        exact BLE_cmp y
    · rw [if_neg y] at h2; cases h2
theorem up_id (s : SS) (k j : Nat) : up s k j (s k j) = s := by
  rw [up_def, show upd (s k) j (s k j) = s k from funext (fun i => by
    by_cases q : i = j
    · rw [q, upd_eq]
    · rw [upd_ne q]), upr_self]
theorem pAllL_stop {sb : Nat → RSL} {q : Nat} {e : EV} (h : ch q ≠ 38) : ∀ m, pAllL ch sb m q e = .ok (q, e) := by
  intro m
  cases m with
  | zero => rfl
  | succ m => exact if_neg h
theorem pAnyL_stop {sb : Nat → RSL} {q : Nat} {e : EV} (h : ch q ≠ 124) : ∀ m, pAnyL ch sb m q e = .ok (q, e) := by
  intro m
  cases m with
  | zero => rfl
  | succ m => exact if_neg h
/-- and, or that wait -/
def PAX (k k2 j j2 : Nat) (s : SS) (e : EV) : Prop := (j2 = j ∧ RE (s 75) (s 76) k k2 e) ∨ ∃ (m : Nat) (e1 e2 : EV), j2 = j + 1 ∧ s 77 j = 38 ∧ BLE e1 ∧ RE (s 75) (s 76) k m e1 ∧ RE (s 75) (s 76) m k2 e2 ∧ e = andE e1 e2
def SAX (k k2 j j2 : Nat) (s : SS) (e : EV) : Prop := PAX k k2 j j2 s e ∨ ∃ (m : Nat) (e1 e2 : EV), s 77 j = 124 ∧ RE (s 75) (s 76) k m e1 ∧ PAX m k2 (j + 1) j2 s e2 ∧ e = orE e1 e2
theorem flushA {a : Int32} {q k k2 j j2 o : Nat} {e : EV} (hn : n ≤ 200) (hs : RPS ch n q k2 j2 o s) (hp : PAX k k2 j j2 s e) : ∃ t k3, RPS ch n q k3 j o t ∧ KPP k j s t ∧ RE (t 75) (t 76) k k3 e ∧ ∀ M, ∃ M', M ≤ M' ∧ lp_X12_joins_0 a (M + 1) s = lp_X12_joins_0 a M' t := by
  rcases hp with ⟨a1, b⟩ | ⟨m, e1, e2, a1, a3, a2, a4, a5, a6⟩
  · subst a1
    exact ⟨s, k2, hs, KPP.rf _ _ _, b, fun M => ⟨M + 1, by omega, rfl⟩⟩
  · subst a1
    obtain ⟨g1, g2, g3, g4, g5, g6⟩ := poS_g hs 38 0
    have l4 := a4.1
    have l5 := a5.1
    refine ⟨poS s k2 j 38 0, k2 + 1, g1, g2.lo (by omega) (by omega), ?_, fun M => ⟨M, Nat.le_refl _, jo_pop (c := 38) hn hs ⟨by omega, Or.inr ⟨by omega, a3⟩⟩ (Or.inl rfl)⟩⟩
    rw [a6]
    exact RE_and (a4.of (fun i x y => g2.2.2 i (by omega))) (a5.of (fun i x y => g2.2.2 i y)) a2 g5
theorem flushO {q k k2 j j2 o : Nat} {e : EV} (hn : n ≤ 200) (hs : RPS ch n q k2 j2 o s) (hp : SAX k k2 j j2 s e) : ∃ t k3, RPS ch n q k3 j o t ∧ KPP k j s t ∧ RE (t 75) (t 76) k k3 e ∧ ∀ M, ∃ M', M ≤ M' ∧ lp_X12_joins_0 1 (M + 2) s = lp_X12_joins_0 1 M' t := by
  rcases hp with h | ⟨m, e1, e2, a3, a4, a5, a6⟩
  · obtain ⟨t, k3, g1, g2, g3, g5⟩ := flushA (a := 1) hn hs h
    refine ⟨t, k3, g1, g2, g3, fun M => ?_⟩
    obtain ⟨M', m1, m2⟩ := g5 (M + 1)
    exact ⟨M', by omega, m2⟩
  · obtain ⟨t, k3, g1, g2, g3, g5⟩ := flushA (a := 1) hn hs a5
    have l4 := a4.1
    have l5 := g3.1
    obtain ⟨b1, b2, b3, b4, b5, b6⟩ := poS_g g1 124 0
    refine ⟨poS t k3 j 124 0, k3 + 1, b1, (g2.lo (by omega) (by omega)).tr (b2.lo (by omega) (by omega)), ?_, fun M => ?_⟩
    · rw [a6]
      exact RE_or (a4.of (fun i x y => by
        have x1 := b2.2.2 i (by omega)
        have x2 := g2.2.2 i y
        exact ⟨x1.1.trans x2.1, x1.2.trans x2.2⟩)) (g3.of (fun i x y => b2.2.2 i y)) b5
    · obtain ⟨M', m1, m2⟩ := g5 (M + 1)
      obtain ⟨M', rfl⟩ : ∃ Z, M' = Z + 1 := ⟨M' - 1, by omega⟩
      refine ⟨M', by omega, m2.trans (jo_pop (c := 124) hn g1 ⟨by omega, Or.inr ⟨by omega, ?_⟩⟩ (Or.inr ⟨rfl, rfl⟩))⟩
      rw [show j + 1 - 1 = j from rfl, g2.2.1 j (by omega)]
      exact a3
theorem gb_and {q k j o : Nat} {N : Nat} {r : Res} (hc : OKC ch n) (hs : RPS ch n q k j o s) (hq : ch q = 38) (h1 : lp_X12_joins_0 0 FU s = some (0, t)) (h2 : f_X12_puts (iI (ch q)) t = some (0, u)) (h3 : lp_X12_condition_37 N 1 u = r) : CKG N s = r := by
  unfold CKG
  refine e_bd (v := 1) (t := u) ?_ h3
  unfold f_X12_goesBehind
  refine e_bdp (rp_here hc hs) ?_
  refine e_jn ?_
  refine e_if_t (by rw [hq]; rfl) ?_
  refine e_jn ?_
  refine e_if_f (by rw [hq]; decide) ?_
  refine e_bd (v := 0) (t := t) h1 ?_
  exact e_bd h2 rfl
theorem gb_or {q k j o : Nat} {N : Nat} {r : Res} (hc : OKC ch n) (hs : RPS ch n q k j o s) (hq : ch q = 124) (h1 : lp_X12_joins_0 1 FU s = some (0, t)) (h2 : f_X12_puts (iI (ch q)) t = some (0, u)) (h3 : lp_X12_condition_37 N 1 u = r) : CKG N s = r := by
  unfold CKG
  refine e_bd (v := 1) (t := u) ?_ h3
  unfold f_X12_goesBehind
  refine e_bdp (rp_here hc hs) ?_
  refine e_jn ?_
  refine e_if_f (by rw [hq]; decide) ?_
  refine e_if_t (by rw [hq]; rfl) ?_
  refine e_jn ?_
  refine e_if_t (by rw [hq]; rfl) ?_
  refine e_bd (v := 0) (t := t) h1 ?_
  exact e_bd h2 rfl
theorem gb_close {q k j o : Nat} {N : Nat} (hc : OKC ch n) (hs : RPS ch n q k j o s) (hq : ch q = 41) (h1 : lp_X12_joins_0 1 FU s = some (0, t)) : CKG N s = CLS N t := by
  unfold CKG CLS
  refine congrArg (fun z => bd z (fun (v19 : Int32) (s20 : SS) => lp_X12_condition_37 N v19 s20)) ?_
  unfold f_X12_goesBehind
  refine e_bdp (rp_here hc hs) ?_
  refine e_jn ?_
  refine e_if_f (by rw [hq]; decide) ?_
  refine e_if_f (by rw [hq]; decide) ?_
  refine e_if_t (by rw [hq]; rfl) ?_
  exact e_bd (v := 0) (t := t) h1 rfl
theorem gb_else {q k j o : Nat} {N : Nat} (hc : OKC ch n) (hs : RPS ch n q k j o s) (h1 : ch q ≠ 38) (h2 : ch q ≠ 124) (h3 : ch q ≠ 41) (hN : 0 < N) : ∃ t, CKG N s = some (0, t) ∧ FLR (1000 + q) t ∧ FRR s t := by
  obtain ⟨w1, w2⟩ := wrongs_g hs hc.1 (c := 1) (by omega)
  have E : ∀ z : Nat, z < 256 → (iI (ch q : Int) = iI (z : Int)) = (ch q = z) := fun z hz => cis (hc.2.1 q) hz
  refine ⟨_, ?_, w2, (KPP.u56 (k := 0) (j := 0) (by omega)).1⟩
  unfold CKG
  refine e_bd (v := 0) (t := up s 56 32 (iI (-((1000 * 1 + q : Nat) : Int)))) ?_ (cl_f w2 hN)
  unfold f_X12_goesBehind
  refine e_bdp (rp_here hc hs) ?_
  refine e_jn ?_
  refine e_if_f (mt (E 38 (by omega)).mp h1) ?_
  refine e_if_f (mt (E 124 (by omega)).mp h2) ?_
  refine e_if_f (mt (E 41 (by omega)).mp h3) ?_
  rw [hs.1]
  exact e_bd w1 rfl
def AOK (ch : Nat → Nat) (n : Nat) (res : RSL) (p k j o N : Nat) (s : SS) (r : Res) : Prop := (∀ f, res = .error f → ∃ t, r = some (0, t) ∧ FLR f t ∧ FRR s t) ∧ ∀ q, res = .ok q → p < q.1 ∧ BLE q.2 ∧ ch q.1 ≠ 38 ∧ ((ch q.1 = 93 ∧ ∃ t, r = some (0, t) ∧ FLR (1000 + q.1) t ∧ FRR s t) ∨ ∃ t k2 j2 N2, r = CKG N2 t ∧ N + p ≤ N2 + q.1 ∧ RPS ch n q.1 k2 j2 o t ∧ KPP k j s t ∧ PAX k k2 j j2 t q.2)
theorem rf_all (hc : OKC ch n) {sb : Nat → RSL} {d p k j c0 M N : Nat} (H : PCS ch n d sb) (hd : d ≤ 6) (hj : 1 ≤ j) (hs : RPS ch n p k j d s) (h7 : s 56 37 = 0) (hb : TPV j s c0) (hb2 : c0 = 40 ∨ c0 = 124) (hM : n < p + M) (hN : n + 1 < N + p) : AOK ch n (pAll ch sb p) p k j d N s (VCM M N s) := by
  have hn := hc.1
  have mf3 := fu_lt (n := 1000) (by omega)
  have lp : ∀ (m N2 q k2 j2 : Nat) (e : EV) (t : SS), 200 ≤ m + q → N + p ≤ N2 + q → p < q → BLE e → RPS ch n q k2 j2 d t → KPP k j s t → PAX k k2 j j2 t e → AOK ch n (pAllL ch sb m q e) p k j d N s (CKG N2 t) := by
    intro m
    induction m with
    | zero =>
      intro N2 q k2 j2 e t h1 h2 h3 hbl h4 h5 h6
      refine ⟨(fun f w => by cases w), fun r w => ?_⟩
      cases w
      refine ⟨h3, hbl, ?_, Or.inr ⟨t, k2, j2, N2, rfl, h2, h4, h5, h6⟩⟩
      show ch q ≠ 38
      rw [hc.2.2 q (by omega)]
      decide
    | succ m ih =>
      intro N2 q k2 j2 e t h1 h2 h3 hbl h4 h5 h6
      unfold pAllL
      by_cases y : ch q = 38
      · rw [if_pos y]
        have hq := ch_lt hc (p := q) (by omega)
        obtain ⟨t1, k3, g1, g2, g3, g5⟩ := flushA (a := 0) hn h4 h6
        have hk1 : KPP k j s t1 := h5.tr g2
        obtain ⟨MF, mf1, mf2⟩ := fu_2
        obtain ⟨M', m1, m2⟩ := g5 (MF + 1)
        obtain ⟨M', rfl⟩ : ∃ Z, M' = Z + 1 := ⟨M' - 1, by omega⟩
        have fl : lp_X12_joins_0 0 FU t = some (0, t1) := by
          rw [mf1]
          exact m2.trans (jo_stop hn g1 (hb.kp hk1) (by omega) (Or.inl rfl))
        obtain ⟨t2, p1, p2, p3, p4, p5, p6⟩ := puts_g g1 hn hq (iI (ch q))
        obtain ⟨N2, rfl⟩ : ∃ Z, N2 = Z + 1 := ⟨N2 - 1, by omega⟩
        have kk : KPP k j s t2 := hk1.tr (p4.lo (by have := g3.1; omega) (by omega))
        have t37 : t2 56 37 = 0 := by rw [kk.1.2 37 (by omega) (by omega) (by omega) (by omega) (by omega) (by omega)]; exact h7
        have hd1 : CKG (N2 + 1) t = VCM FU N2 t2 := gb_and hc h4 y fl p1 (cl_in p2 t37)
        have hpc := H (q + 1) k3 (j + 1) 38 FU N2 t2 (by omega) p2 t37 ⟨by omega, Or.inr ⟨by omega, by rw [show j + 1 - 1 = j from rfl, p3, y]⟩⟩ (by omega) (by omega) (by omega)
        have l3 := g3.1
        rw [hd1]
        cases c : sb (q + 1) with
        | error f =>
          obtain ⟨t3, a1, a2, a3⟩ := hpc.1 f c
          refine ⟨fun f2 w => ?_, (fun r w => by cases w)⟩
          cases w
          exact ⟨t3, a1, a2, kk.1.tr a3⟩
        | ok r =>
          obtain ⟨x1, x2, x3⟩ := hpc.2 r c
          rcases x3 with ⟨z1, t3, z2, z3, z4⟩ | ⟨t3, k4, N3, M3, z1, z2, z3, z4, z5, z6⟩
          · show AOK ch n (pAllL ch sb m r.1 (andE e r.2)) p k j d N s _
            rw [pAllL_stop (by omega)]
            refine ⟨(fun f w => by cases w), fun r2 w => ?_⟩
            cases w
            exact ⟨by show p < r.1; omega, BLE_and hbl x2, by show ch r.1 ≠ 38; omega, Or.inl ⟨z1, t3, z2, z3, kk.1.tr z4⟩⟩
          · obtain ⟨M3, rfl⟩ : ∃ Z, M3 = Z + 1 := ⟨M3 - 1, by omega⟩
            have top3 : t3 77 j = 38 := by rw [z5.2.1 j (by omega), p3, y]; rfl
            have en := en_stop (M := M3) (c := 38) hn z4 ⟨by omega, Or.inr ⟨by omega, top3⟩⟩ (by omega)
            have t37b : t3 56 37 = 0 := by rw [z5.1.2 37 (by omega) (by omega) (by omega) (by omega) (by omega) (by omega)]; exact t37
            rw [z1 t3 en (rp_good z4) t37b]
            refine ih N3 r.1 k4 (j + 1) (andE e r.2) t3 (by omega) (by omega) (by omega) (BLE_and hbl x2) z4 (kk.tr (z5.lo (by omega) (by omega))) (Or.inr ⟨k3, e, r.2, rfl, top3, hbl, ?_, z6, rfl⟩)
            exact g3.of (fun i x z => by
              have y1 := z5.2.2 i z
              have y2 := p4.2.2 i z
              exact ⟨y1.1.trans y2.1, y1.2.trans y2.2⟩)
      · rw [if_neg y]
        refine ⟨(fun f w => by cases w), fun r w => ?_⟩
        cases w
        exact ⟨h3, hbl, y, Or.inr ⟨t, k2, j2, N2, rfl, h2, h4, h5, h6⟩⟩
  have hpc := H p k j c0 M N s hj hs h7 hb (by omega) hM hN
  unfold pAll
  cases c : sb p with
  | error f =>
    obtain ⟨t3, a1, a2, a3⟩ := hpc.1 f c
    refine ⟨fun f2 w => ?_, (fun r w => by cases w)⟩
    cases w
    exact ⟨t3, a1, a2, a3⟩
  | ok r =>
    obtain ⟨x1, x2, x3⟩ := hpc.2 r c
    rcases x3 with ⟨z1, t3, z2, z3, z4⟩ | ⟨t3, k4, N3, M3, z1, z2, z3, z4, z5, z6⟩
    · show AOK ch n (pAllL ch sb 200 r.1 r.2) p k j d N s _
      rw [pAllL_stop (by omega)]
      refine ⟨(fun f w => by cases w), fun r2 w => ?_⟩
      cases w
      exact ⟨x1, x2, by show ch r.1 ≠ 38; omega, Or.inl ⟨z1, t3, z2, z3, z4⟩⟩
    · obtain ⟨M3, rfl⟩ : ∃ Z, M3 = Z + 1 := ⟨M3 - 1, by omega⟩
      have en := en_stop (M := M3) hn z4 (hb.kp z5) (by omega)
      have t37b : t3 56 37 = 0 := by rw [z5.1.2 37 (by omega) (by omega) (by omega) (by omega) (by omega) (by omega)]; exact h7
      rw [z1 t3 en (rp_good z4) t37b]
      exact lp 200 N3 r.1 k4 j r.2 t3 (by omega) z3 x1 x2 z4 z5 (Or.inl ⟨rfl, z6⟩)
def BOK (ch : Nat → Nat) (n : Nat) (res : RSL) (p k j o N : Nat) (s : SS) (r : Res) : Prop := (∀ f, res = .error f → ∃ t, r = some (0, t) ∧ FLR f t ∧ FRR s t) ∧ ∀ q, res = .ok q → p < q.1 ∧ BLE q.2 ∧ (ch q.1 ≠ 41 → ∃ t, r = some (0, t) ∧ FLR (1000 + q.1) t ∧ FRR s t) ∧ (ch q.1 = 41 → ∃ t k2 N2, r = CLS N2 t ∧ N + p ≤ N2 + q.1 ∧ RPS ch n q.1 k2 j o t ∧ KPP k j s t ∧ RE (t 75) (t 76) k k2 q.2)
theorem rf_any (hc : OKC ch n) {sb : Nat → RSL} {d p k j M N : Nat} (H : PCS ch n d sb) (hd : d ≤ 6) (hj : 1 ≤ j) (hs : RPS ch n p k j d s) (h7 : s 56 37 = 0) (hb : TPV j s 40) (hM : n < p + M) (hN : n + 1 < N + p) : BOK ch n (pAny ch sb p) p k j d N s (VCM M N s) := by
  have hn := hc.1
  have mf3 := fu_lt (n := 1000) (by omega)
  have fin : ∀ (N2 q k2 j2 : Nat) (e : EV) (t : SS), N + p ≤ N2 + q → p < q → BLE e → RPS ch n q k2 j2 d t → KPP k j s t → SAX k k2 j j2 t e → ch q ≠ 38 → ch q ≠ 124 → BOK ch n (.ok (q, e)) p k j d N s (CKG N2 t) := by
    intro N2 q k2 j2 e t h2 h3 hbl h4 h5 h6 h8 h9
    have qn := h4.2.2.2.2.2.2.2.2
    refine ⟨(fun f w => by cases w), fun r w => ?_⟩
    cases w
    refine ⟨h3, hbl, fun y => ?_, fun y => ?_⟩
    · obtain ⟨t1, a1, a2, a3⟩ := gb_else (N := N2) hc h4 h8 h9 y (by omega)
      exact ⟨t1, a1, a2, h5.1.tr a3⟩
    · obtain ⟨t1, k3, g1, g2, g3, g5⟩ := flushO hn h4 h6
      have hk1 : KPP k j s t1 := h5.tr g2
      obtain ⟨MF, mf1, mf2⟩ := fu_2
      obtain ⟨M', m1, m2⟩ := g5 MF
      obtain ⟨M', rfl⟩ : ∃ Z, M' = Z + 1 := ⟨M' - 1, by omega⟩
      have fl : lp_X12_joins_0 1 FU t = some (0, t1) := by
        rw [mf1]
        exact m2.trans (jo_stop hn g1 (hb.kp hk1) (by omega) (Or.inr (by omega)))
      exact ⟨t1, k3, N2, gb_close hc h4 y fl, h2, g1, hk1, g3⟩
  have lp : ∀ (m N2 q k2 j2 : Nat) (e : EV) (t : SS), 200 ≤ m + q → N + p ≤ N2 + q → p < q → BLE e → RPS ch n q k2 j2 d t → KPP k j s t → SAX k k2 j j2 t e → ch q ≠ 38 → BOK ch n (pAnyL ch (pAll ch sb) m q e) p k j d N s (CKG N2 t) := by
    intro m
    induction m with
    | zero =>
      intro N2 q k2 j2 e t h1 h2 h3 hbl h4 h5 h6 h8
      exact fin N2 q k2 j2 e t h2 h3 hbl h4 h5 h6 h8 (by rw [hc.2.2 q (by omega)]; decide)
    | succ m ih =>
      intro N2 q k2 j2 e t h1 h2 h3 hbl h4 h5 h6 h8
      unfold pAnyL
      by_cases y : ch q = 124
      · rw [if_pos y]
        have hq := ch_lt hc (p := q) (by omega)
        obtain ⟨t1, k3, g1, g2, g3, g5⟩ := flushO hn h4 h6
        have hk1 : KPP k j s t1 := h5.tr g2
        obtain ⟨MF, mf1, mf2⟩ := fu_2
        obtain ⟨M', m1, m2⟩ := g5 MF
        obtain ⟨M', rfl⟩ : ∃ Z, M' = Z + 1 := ⟨M' - 1, by omega⟩
        have fl : lp_X12_joins_0 1 FU t = some (0, t1) := by
          rw [mf1]
          exact m2.trans (jo_stop hn g1 (hb.kp hk1) (by omega) (Or.inr (by omega)))
        obtain ⟨t2, p1, p2, p3, p4, p5, p6⟩ := puts_g g1 hn hq (iI (ch q))
        obtain ⟨N2, rfl⟩ : ∃ Z, N2 = Z + 1 := ⟨N2 - 1, by omega⟩
        have kk : KPP k j s t2 := hk1.tr (p4.lo (by have := g3.1; omega) (by omega))
        have t37 : t2 56 37 = 0 := by rw [kk.1.2 37 (by omega) (by omega) (by omega) (by omega) (by omega) (by omega)]; exact h7
        have hd1 : CKG (N2 + 1) t = VCM FU N2 t2 := gb_or hc h4 y fl p1 (cl_in p2 t37)
        have top2 : TPV (j + 1) t2 124 := ⟨by omega, Or.inr ⟨by omega, by rw [show j + 1 - 1 = j from rfl, p3, y]⟩⟩
        have hal := rf_all (M := FU) (N := N2) hc H hd (by omega) p2 t37 top2 (Or.inr rfl) (by omega) (by omega)
        have l3 := g3.1
        rw [hd1]
        cases c : pAll ch sb (q + 1) with
        | error f =>
          obtain ⟨t3, a1, a2, a3⟩ := hal.1 f c
          refine ⟨fun f2 w => ?_, (fun r w => by cases w)⟩
          cases w
          exact ⟨t3, a1, a2, kk.1.tr a3⟩
        | ok r =>
          obtain ⟨x1, x2, x4, x3⟩ := hal.2 r c
          rcases x3 with ⟨z1, t3, z2, z3, z4⟩ | ⟨t3, k4, j4, N3, z1, z3, z4, z5, z6⟩
          · show BOK ch n (pAnyL ch (pAll ch sb) m r.1 (orE e r.2)) p k j d N s _
            rw [pAnyL_stop (by omega)]
            refine ⟨(fun f w => by cases w), fun r2 w => ?_⟩
            cases w
            exact ⟨by show p < r.1; omega, BLE_or hbl x2, fun _ => ⟨t3, z2, z3, kk.1.tr z4⟩, fun w => by have w2 : ch r.1 = 41 := w; omega⟩
          · rw [z1]
            refine ih N3 r.1 k4 j4 (orE e r.2) t3 (by omega) (by omega) (by omega) (BLE_or hbl x2) z4 (kk.tr (z5.lo (by omega) (by omega))) (Or.inr ⟨k3, e, r.2, ?_, ?_, z6, rfl⟩) x4
            · rw [z5.2.1 j (by omega), p3, y]; rfl
            · exact g3.of (fun i x z => by
                have y1 := z5.2.2 i z
                have y2 := p4.2.2 i z
                exact ⟨y1.1.trans y2.1, y1.2.trans y2.2⟩)
      · rw [if_neg y]
        exact fin N2 q k2 j2 e t h2 h3 hbl h4 h5 h6 h8 y
  have hal := rf_all (M := M) (N := N) hc H hd hj hs h7 hb (Or.inl rfl) hM hN
  unfold pAny
  cases c : pAll ch sb p with
  | error f =>
    obtain ⟨t3, a1, a2, a3⟩ := hal.1 f c
    refine ⟨fun f2 w => ?_, (fun r w => by cases w)⟩
    cases w
    exact ⟨t3, a1, a2, a3⟩
  | ok r =>
    obtain ⟨x1, x2, x4, x3⟩ := hal.2 r c
    rcases x3 with ⟨z1, t3, z2, z3, z4⟩ | ⟨t3, k4, j4, N3, z1, z3, z4, z5, z6⟩
    · show BOK ch n (pAnyL ch (pAll ch sb) 200 r.1 r.2) p k j d N s _
      rw [pAnyL_stop (by omega)]
      refine ⟨(fun f w => by cases w), fun r2 w => ?_⟩
      cases w
      exact ⟨x1, x2, fun _ => ⟨t3, z2, z3, z4⟩, fun w => by have w2 : ch r.1 = 41 := w; omega⟩
    · rw [z1]
      exact lp 200 N3 r.1 k4 j4 r.2 t3 (by omega) z3 x1 x2 z4 z5 (Or.inl z6) x4
theorem rf_pc (hc : OKC ch n) : ∀ (r d : Nat), r + d = 7 → d ≤ 6 → PCS ch n d (pPc ch (r + 1) d) := by
  intro r
  induction r with
  | zero => intro d h1 h2; omega
  | succ r ih =>
    intro d h1 hd p k j c0 M N s hj hs h7 hb hb2 hM hN
    have hn := hc.1
    have mf3 := fu_lt (n := 1000) (by omega)
    have hpn := hs.2.2.2.2.2.2.2.2
    obtain ⟨M, rfl⟩ : ∃ Z, M = Z + 1 := ⟨M - 1, by omega⟩
    have E : ∀ z : Nat, z < 256 → (iI (ch p : Int) = iI (z : Int)) = (ch p = z) := fun z hz => cis (hc.2.1 p) hz
    have e33 : (iI (ch p : Int) = 33) = (ch p = 33) := E 33 (by omega)
    have e40 : (iI (ch p : Int) = 40) = (ch p = 40) := E 40 (by omega)
    show QOK ch n (if ch p = 33 then (if d < 6 then (match pPc ch (r + 1) (d + 1) (p + 1) with | .error f => .error f | .ok r => .ok (r.1, notE r.2)) else .error (5000 + p)) else if ch p = 40 then (if d < 6 then (match pAny ch (pPc ch (r + 1) (d + 1)) (p + 1) with | .error f => .error f | .ok r => if ch r.1 = 41 then .ok (r.1 + 1, r.2) else .error (1000 + r.1)) else .error (5000 + p)) else pCmp ch d p) p k j d N s _
    have head : ∀ t, (ch p = 33 ∨ ch p = 40) → f_X12_opens s = some (0, t) → VCM (M + 1) N s = VCM M N t := by
      intro t hq ht
      unfold VCM
      refine congrArg (fun z => bd z (fun (_v22 : Int32) (s23 : SS) => CKK N 1 s23)) ?_
      have body : bd (f_X12_opens s) (fun (v34 : Int32) (s35 : SS) => lp_X12_pieceOfC_0 PK M s35) = lp_X12_pieceOfC_0 PK M t := e_bd ht rfl
      rw [lp_X12_pieceOfC_0]
      refine e_bdp (rp_good hs) ?_
      refine e_if_f (by decide) ?_
      refine e_bdp (rp_here hc hs) ?_
      refine e_jn ?_
      by_cases y : ch p = 33
      · exact e_if_t (e33.mpr y) body
      · refine e_if_f (mt e33.mp y) ?_
        refine e_bdp (rp_here hc hs) ?_
        exact e_if_t (e40.mpr (by omega)) body
    have deep : (ch p = 33 ∨ ch p = 40) → ¬ d < 6 → QOK ch n (.error (5000 + p)) p k j d N s (VCM (M + 1) N s) := by
      intro hq qd
      have hp := ch_lt hc (p := p) (by omega)
      obtain ⟨t, f1, f2, f3⟩ := (opens_g hc hs hp hd).2 qd
      refine ⟨fun f w => ?_, (fun q w => by cases w)⟩
      cases w
      exact ⟨t, (head t hq f1).trans (VCM_f f2 (by omega) (by omega)), f2, f3⟩
    by_cases q1 : ch p = 33
    · rw [if_pos q1]
      have hp := ch_lt hc (p := p) (by omega)
      by_cases qd : d < 6
      · rw [if_pos qd]
        obtain ⟨t, f1, f2, f3, f4, f5, f6⟩ := (opens_g hc hs hp hd).1 qd
        rw [head t (Or.inl q1) f1]
        have t37 : t 56 37 = 0 := f6.trans h7
        have hb := ih (d + 1) (by omega) (by omega) (p + 1) k (j + 1) 33 M N t (by omega) f2 t37 ⟨by omega, Or.inr ⟨by omega, by rw [show j + 1 - 1 = j from rfl, f3, q1]⟩⟩ (by omega) (by omega) (by omega)
        cases c : pPc ch (r + 1) (d + 1) (p + 1) with
        | error f =>
          obtain ⟨t3, a1, a2, a3⟩ := hb.1 f c
          refine ⟨fun f2 w => ?_, (fun r w => by cases w)⟩
          cases w
          exact ⟨t3, a1, a2, f4.1.tr a3⟩
        | ok r2 =>
          obtain ⟨x1, x2, x3⟩ := hb.2 r2 c
          refine ⟨(fun f w => by cases w), fun q w => ?_⟩
          cases w
          refine ⟨by show p < r2.1; omega, BLE_not x2, ?_⟩
          rcases x3 with ⟨z1, t3, z2, z3, z4⟩ | ⟨t3, k4, N3, M3, z1, z2, z3, z4, z5, z6⟩
          · exact Or.inl ⟨z1, t3, z2, z3, f4.1.tr z4⟩
          · obtain ⟨M3, rfl⟩ : ∃ Z, M3 = Z + 1 := ⟨M3 - 1, by omega⟩
            have top3 : t3 77 j = 33 := by rw [z5.2.1 j (by omega), f3, q1]; rfl
            have ep := en_pop (M := M3) hn z4 top3
            obtain ⟨g1, g2, g3⟩ := noS_g z4
            have l6 := z6.1
            refine Or.inr ⟨noS t3 k4 j d, k4 + 1, N3, M3, fun t' w1 w2 w3 => z1 t' (ep.trans w1) w2 w3, by omega, by show N + p ≤ N3 + r2.1; omega, g1, f4.tr ((z5.lo (by omega) (by omega)).tr (g2.lo (by omega) (by omega))), RE_not (z6.of (fun i x y => g2.2.2 i y)) g3⟩
      · rw [if_neg qd]
        exact deep (Or.inl q1) qd
    · rw [if_neg q1]
      by_cases q2 : ch p = 40
      · rw [if_pos q2]
        have hp := ch_lt hc (p := p) (by omega)
        by_cases qd : d < 6
        · rw [if_pos qd]
          obtain ⟨t, f1, f2, f3, f4, f5, f6⟩ := (opens_g hc hs hp hd).1 qd
          rw [head t (Or.inr q2) f1]
          have t37 : t 56 37 = 0 := f6.trans h7
          have hb := rf_any (M := M) (N := N) hc (ih (d + 1) (by omega) (by omega)) (by omega) (by omega) f2 t37 ⟨by omega, Or.inr ⟨by omega, by rw [show j + 1 - 1 = j from rfl, f3, q2]⟩⟩ (by omega) (by omega)
          cases c : pAny ch (pPc ch (r + 1) (d + 1)) (p + 1) with
          | error f =>
            obtain ⟨t3, a1, a2, a3⟩ := hb.1 f c
            refine ⟨fun f2 w => ?_, (fun r w => by cases w)⟩
            cases w
            exact ⟨t3, a1, a2, f4.1.tr a3⟩
          | ok r2 =>
            obtain ⟨x1, x2, x3, x4⟩ := hb.2 r2 c
            show QOK ch n (if ch r2.1 = 41 then .ok (r2.1 + 1, r2.2) else .error (1000 + r2.1)) p k j d N s _
            by_cases q3 : ch r2.1 = 41
            · rw [if_pos q3]
              refine ⟨(fun f w => by cases w), fun q w => ?_⟩
              cases w
              obtain ⟨t3, k4, N3, z1, z3, z4, z5, z6⟩ := x4 q3
              have hr := ch_lt hc (p := r2.1) (by omega)
              obtain ⟨N3, rfl⟩ : ∃ Z, N3 = Z + 1 := ⟨N3 - 1, by omega⟩
              let t4 : SS := up (up (up (up t3 56 36 (iI (j : Int))) 56 35 (iI (d : Int))) 56 30 (iI ((r2.1 + 1 : Nat) : Int))) 56 37 0
              have l6 := z6.1
              have kp4 : KPP k4 j t3 (up (up (up t3 56 36 (iI (j : Int))) 56 35 (iI (d : Int))) 56 30 (iI ((r2.1 + 1 : Nat) : Int))) := ((KPP.u56 (by omega)).tr (KPP.u56 (by omega))).tr (KPP.u56 (by omega))
              have t3s : t3 56 37 = 0 := by rw [z5.1.2 37 (by omega) (by omega) (by omega) (by omega) (by omega) (by omega)]; exact t37
              have e4 : t4 = up (up (up t3 56 36 (iI (j : Int))) 56 35 (iI (d : Int))) 56 30 (iI ((r2.1 + 1 : Nat) : Int)) := by
                have : (up (up (up t3 56 36 (iI (j : Int))) 56 35 (iI (d : Int))) 56 30 (iI ((r2.1 + 1 : Nat) : Int))) 56 37 = 0 := t3s
                show up _ 56 37 0 = _
                rw [← this]
                exact up_id _ _ _
              obtain ⟨a1, a2, a3, a4, a5, a6, a7, a8, a9⟩ := z4
              have g4 : RPS ch n (r2.1 + 1) k4 j d t4 := ⟨rfl, a2, a3, a4, rfl, rfl, a7, by omega, by omega⟩
              refine ⟨by show p < r2.1 + 1; omega, x2, Or.inr ⟨t4, k4, N3, FU, fun t' w1 w2 w3 => ?_, by omega, by show N + p ≤ N3 + (r2.1 + 1); omega, g4, ?_, ?_⟩⟩
              · rw [z1]
                unfold CLS
                refine e_bd (v := 0) (t := t') ?_ (cl_be w2 w3)
                rw [a6, pr_s]
                refine e_lts ?_
                rw [show (up t3 56 36 (iI (j : Int))) 56 35 = iI ((d + 1 : Nat) : Int) from a5, pr_s]
                refine e_lts ?_
                rw [show (up (up t3 56 36 (iI (j : Int))) 56 35 (iI (d : Int))) 56 30 = iI r2.1 from a1, nx_s]
                refine e_lts ?_
                refine e_jn ?_
                refine e_if_f (by
                  show ¬ iI (j : Int) = 0
                  rw [z_0, iI_eq (by omega) (by omega)]
                  omega) ?_
                refine e_gd (Or.inl rfl) ?_
                refine e_lts ?_
                refine e_if_t rfl ?_
                exact e_bd (v := 0) (t := t') w1 rfl
              · rw [e4]
                exact f4.tr ((z5.lo (by omega) (by omega)).tr (kp4.lo (by omega) (by omega)))
              · exact z6.of (fun i x y => ⟨rfl, rfl⟩)
            · rw [if_neg q3]
              obtain ⟨t3, a1, a2, a3⟩ := x3 q3
              refine ⟨fun f2 w => ?_, (fun r w => by cases w)⟩
              cases w
              exact ⟨t3, a1, a2, f4.1.tr a3⟩
        · rw [if_neg qd]
          exact deep (Or.inr q2) qd
      · rw [if_neg q2]
        have hcm := cmp_r hc hd hs hb (by unfold BT isT isP; omega)
        have hd2 : ∀ t, PK s = some (0, t) → VCM (M + 1) N s = CKK N 1 t := by
          intro t ht
          unfold VCM
          refine e_bd (v := 0) (t := t) ?_ rfl
          rw [lp_X12_pieceOfC_0]
          refine e_bdp (rp_good hs) ?_
          refine e_if_f (by decide) ?_
          refine e_bdp (rp_here hc hs) ?_
          refine e_jn ?_
          refine e_if_f (mt e33.mp q1) ?_
          refine e_bdp (rp_here hc hs) ?_
          exact e_if_f (mt e40.mp q2) ht
        refine ⟨fun f w => ?_, fun q w => ?_⟩
        · obtain ⟨t, a1, a2, a3⟩ := hcm.1 f w
          exact ⟨t, (hd2 t a1).trans (CKK_f a2 (by omega)), a2, a3⟩
        · rcases hcm.2 q w with ⟨z1, z0, t3, z2, z3, z4⟩ | ⟨t3, k4, z1, z2, z3, z4, z5⟩
          · exact ⟨z0, pCmp_ble w, Or.inl ⟨z1, t3, (hd2 t3 z2).trans (CKK_f z3 (by omega)), z3, z4⟩⟩
          · exact ⟨z2, pCmp_ble w, Or.inr ⟨t3, k4, N, FU, fun t' w1 w2 w3 => (hd2 t' (z1 t' w1)).trans (CKK_g w2), by omega, by omega, z3, z4, z5⟩⟩
