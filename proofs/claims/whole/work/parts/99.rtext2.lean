/-! the reference's text loop; what it tells -/
variable {ch : Nat → Nat} {n : Nat} {s t u : SS}
noncomputable def ACK (K : SS → Res) (N : Nat) (s41 : SS) : Res := bdp (f_X12_isGood s41) (fun (v42 : Int32) => jn (fun (v43 : Int32) => if (v43 : Int32) = 0 then lp_X12_text_54 K N v43 s41 else bdp (f_X12_here s41) (fun (v46 : Int32) => jn (fun (s47 : SS) => lts (up s47 56 30 ((s47 56 30) + 1)) (fun (s49 : SS) => lp_X12_text_54 K N v43 s49)) (fun (k48 : SS → Res) => if (v46 : Int32) = (59 : Int32) then k48 s41 else bd (f_X12_wrongs 1 (s41 56 30) s41) (fun (_v51 : Int32) (s52 : SS) => k48 s52)))) (fun (k44 : Int32 → Res) => jn (k44 0) (fun (k53 : Res) => if (v42 : Int32) = 0 then k53 else if (s41 56 31 : Int32) ≤ (s41 56 30 : Int32) then k53 else k44 1)))
theorem tx_cl {K : SS → Res} {N p k : Nat} (h : RTX ch n p k s) (h2 : f_X12_clause s = some (0, t)) : lp_X12_text_54 K (N + 1) 1 s = ACK K N t := by
  rw [lp_X12_text_54]
  refine e_if_f (by decide) ?_
  refine e_bdp (rx_good h) ?_
  refine e_if_f (by decide) ?_
  exact e_bd h2 rfl
theorem tx_0 {K : SS → Res} {N : Nat} (hN : 0 < N) : lp_X12_text_54 K N 0 s = K s := by
  obtain ⟨N, rfl⟩ : ∃ M, N = M + 1 := ⟨N - 1, by omega⟩
  rw [lp_X12_text_54]
  exact e_if_t rfl rfl
theorem tx_f {K : SS → Res} {N f : Nat} (h : FLR f s) (hN : 0 < N) : lp_X12_text_54 K N 1 s = K s := by
  obtain ⟨N, rfl⟩ : ∃ M, N = M + 1 := ⟨N - 1, by omega⟩
  rw [lp_X12_text_54]
  refine e_if_f (by decide) ?_
  refine e_bdp h.bad ?_
  exact e_if_t rfl rfl
theorem ac_f {K : SS → Res} {N f : Nat} (h : FLR f s) (hN : 0 < N) : ACK K N s = K s := by
  unfold ACK
  refine e_bdp h.bad ?_
  refine e_jn ?_
  refine e_jn ?_
  refine e_if_t rfl ?_
  exact e_if_t rfl (tx_0 hN)
theorem ac_end {K : SS → Res} {N p k : Nat} (hn : n ≤ 200) (h : RTX ch n p k s) (hp : n ≤ p) (hN : 0 < N) : ACK K N s = K s := by
  have hpn := h.2.2.2.2.2.2
  unfold ACK
  refine e_bdp (rx_good h) ?_
  refine e_jn ?_
  refine e_jn ?_
  refine e_if_f (by decide) ?_
  refine e_if_t (by rw [h.1, h.2.1]; simp (disch := omega) only [Int.toNat_natCast, iI_lt, iI_le, iI_eq, iI_add, iI_sub, iI_mul, iI_neg, iI_clamp, inb_ii]; omega) ?_
  exact e_if_t rfl (tx_0 hN)
theorem ac_go {K : SS → Res} {N p k : Nat} (hc : OKC ch n) (h : RTX ch n p k s) (hp : p < n) (hq : ch p = 59) : ACK K N s = lp_X12_text_54 K N 1 (up s 56 30 (iI ((p + 1 : Nat) : Int))) := by
  have hn := hc.1
  unfold ACK
  refine e_bdp (rx_good h) ?_
  refine e_jn ?_
  refine e_jn ?_
  refine e_if_f (by decide) ?_
  refine e_if_f (by rw [h.1, h.2.1]; simp (disch := omega) only [Int.toNat_natCast, iI_lt, iI_le, iI_eq, iI_add, iI_sub, iI_mul, iI_neg, iI_clamp, inb_ii]; omega) ?_
  refine e_if_f (by decide) ?_
  refine e_bdp (rx_here hc h) ?_
  refine e_jn ?_
  refine e_if_t (by rw [hq]; rfl) ?_
  show lts (up s 56 30 ((s 56 30) + 1)) _ = _
  rw [h.1, nx_s]
  exact e_lts rfl
theorem ac_bad {K : SS → Res} {N p k : Nat} (hc : OKC ch n) (h : RTX ch n p k s) (hp : p < n) (hq : ch p ≠ 59) (hN : 0 < N) : ∃ t, ACK K N s = K t ∧ FLR (1000 + p) t ∧ FRX s t := by
  have hn := hc.1
  obtain ⟨w1, w2⟩ := rx_wrongs h hn (c := 1) (by omega)
  have e59 : (iI (ch p : Int) = 59) = (ch p = 59) := cis (q := 59) (hc.2.1 p) (by omega)
  refine ⟨up (up s 56 32 (iI (-((1000 * 1 + p : Nat) : Int)))) 56 30 (iI ((p + 1 : Nat) : Int)), ?_, w2.u56 (by omega), (FRX.uu (by omega)).tr (FRX.uu (by omega))⟩
  unfold ACK
  refine e_bdp (rx_good h) ?_
  refine e_jn ?_
  refine e_jn ?_
  refine e_if_f (by decide) ?_
  refine e_if_f (by rw [h.1, h.2.1]; simp (disch := omega) only [Int.toNat_natCast, iI_lt, iI_le, iI_eq, iI_add, iI_sub, iI_mul, iI_neg, iI_clamp, inb_ii]; omega) ?_
  refine e_if_f (by decide) ?_
  refine e_bdp (rx_here hc h) ?_
  refine e_jn ?_
  refine e_if_f (mt e59.mp hq) ?_
  rw [h.1]
  refine e_bd w1 ?_
  show lts (up (up s 56 32 (iI (-((1000 * 1 + p : Nat) : Int)))) 56 30 ((up s 56 32 (iI (-((1000 * 1 + p : Nat) : Int)))) 56 30 + 1)) _ = _
  rw [show (up s 56 32 (iI (-((1000 * 1 + p : Nat) : Int)))) 56 30 = iI p from h.1, nx_s]
  refine e_lts ?_
  exact tx_f (w2.u56 (by omega)) hN
theorem rt_tx (hc : OKC ch n) (K : SS → Res) : ∀ (m N p k : Nat) (cs : List CL) (s : SS), m + cs.length = 15 → m + 1 < N → RTX ch n p k s → TR cs k s → ∃ t, ACK K N s = K t ∧ FRX s t ∧ (∀ f, pTx ch n m p cs = .error f → FLR f t) ∧ ∀ ds, pTx ch n m p cs = .ok ds → cs.length ≤ ds.length ∧ ∃ p2 k2, RTX ch n p2 k2 t ∧ TR ds k2 t := by
  intro m
  induction m with
  | zero =>
    intro N p k cs s hm hN hs ht
    have := ht.1
    omega
  | succ m ih =>
    intro N p k cs s hm hN hs ht
    unfold pTx
    by_cases q : p < n
    · rw [if_pos q]
      by_cases y : ch p = 59
      · rw [if_pos y]
        obtain ⟨N, rfl⟩ : ∃ M, N = M + 1 := ⟨N - 1, by omega⟩
        obtain ⟨a1, a2, a3, a4, a7, a8, a9⟩ := id hs
        have hs2 : RTX ch n (p + 1) k (up s 56 30 (iI ((p + 1 : Nat) : Int))) := ⟨rfl, a2, a3, a4, a7, by omega, by omega⟩
        have ht2 : TR cs k (up s 56 30 (iI ((p + 1 : Nat) : Int))) := ⟨ht.1, ht.2.1, fun i c h => ht.2.2 i c h⟩
        obtain ⟨t3, e1, e2, e3, e4⟩ := rf_clause hc hs2 ht2
        have hd : ACK K (N + 1) s = ACK K N t3 := (ac_go hc hs q y).trans (tx_cl hs2 e1)
        have F : FRX s t3 := (FRX.uu (by omega)).tr e2
        cases c : pCl ch cs.length (p + 1) with
        | error f =>
          have hf := e3 f c
          exact ⟨t3, hd.trans (ac_f hf (by omega)), F, (fun f2 w => by cases w; exact hf), (fun r w => by cases w)⟩
        | ok r =>
          obtain ⟨k2, b1, b2⟩ := e4 r c
          obtain ⟨t4, g1, g2, g3, g4⟩ := ih N r.1 k2 (cs ++ [r.2]) t3 (by rw [List.length_append]; show m + (cs.length + 1) = 15; omega) (by omega) b1 b2
          refine ⟨t4, hd.trans g1, F.tr g2, g3, fun ds e => ?_⟩
          obtain ⟨x1, x2⟩ := g4 ds e
          rw [List.length_append] at x1
          exact ⟨by omega, x2⟩
      · rw [if_neg y]
        obtain ⟨t2, d1, d2, d3⟩ := ac_bad (K := K) (N := N) hc hs q y (by omega)
        exact ⟨t2, d1, d3, (fun f2 w => by cases w; exact d2), (fun r w => by cases w)⟩
    · rw [if_neg q]
      exact ⟨s, ac_end hc.1 hs (by omega) (by omega), FRX.rf s, (fun f2 w => by cases w), (fun ds w => by cases w; exact ⟨Nat.le_refl _, p, k, hs, ht⟩)⟩
/-- tells -/
def TRD (cs : List CL) (s : SS) : Prop := cs.length ≤ 14 ∧ s 56 17 = iI cs.length ∧ ∀ (i : Nat) (c : CL), cs[i]? = some c → TRE 65 (s 69) (s 70) s 200 i c
theorem TRD.of {cs : List CL} (h : TRD cs s) (e : ∀ q, 65 ≤ q → q ≤ 70 → t q = s q) (e2 : t 56 17 = s 56 17) : TRD cs t := by
  unfold TRD TRE at h ⊢
  rw [e2, e 69 (by omega) (by omega), e 70 (by omega) (by omega), e 65 (by omega) (by omega), e (65 + 1) (by omega) (by omega), e (65 + 2) (by omega) (by omega), e (65 + 3) (by omega) (by omega)]
  exact h
theorem wk_re {a z : Nat} {e : EV} {F : Nat → Int32} (h : RE (s 69) (s 70) a z e) (hz : z ≤ 200) (hF : FA F s) : ∃ t, f_X12_works (iI a) (iI z) s = some (0, t) ∧ RS s t ∧ (e F = none → t 79 0 = 1) ∧ ∀ v, e F = some v → t 79 0 = 0 ∧ t 78 0 = v := by
  have mf3 := fu_lt (n := 1000) (by omega)
  obtain ⟨t, N2, h1, h2, h3, h4, h5, h6⟩ := h.2 F s z FU 0 (fun i _ _ => ⟨rfl, rfl⟩) hF (Nat.le_refl z) hz (by omega) (by omega)
  obtain ⟨N2, rfl⟩ : ∃ M, N2 = M + 1 := ⟨N2 - 1, by omega⟩
  refine ⟨t, ?_, h3, h5, h6⟩
  refine Eq.trans h2 ?_
  rw [lp_X12_works_5]
  exact e_if_t (by simp (disch := omega) only [Int.toNat_natCast, iI_lt, iI_le, iI_eq, iI_add, iI_sub, iI_mul, iI_neg, iI_clamp, inb_ii]; omega) rfl
noncomputable def tlR (a2 a3 : Int32) : Int32 → SS → Res := fun (v1 : Int32) (s2 : SS) => gd (inb v1 14) (gd (inb v1 14) (bd (f_X12_works (s2 66 (Int32.toNatClampNeg v1)) (s2 67 (Int32.toNatClampNeg v1)) s2) (fun (_v4 : Int32) (s5 : SS) => gd (inb 0 240) (jn (fun (v6 : Int32) => if (a2 : Int32) ≤ (v6 : Int32) then if (v6 : Int32) ≤ (a3 : Int32) then some (v6, s5) else some (a3, s5) else some (a2, s5)) (fun (k7 : Int32 → Res) => if (s5 79 (Int32.toNatClampNeg 0) : Int32) = 0 then gd (inb 0 240) (k7 (s5 78 (Int32.toNatClampNeg 0))) else k7 0)))))
theorem val_r {cs : List CL} {q a2 a3 : Int32} (hcl : ∀ v, clv q v = if a2 ≤ v then (if v ≤ a3 then v else a3) else a2) {F : Nat → Int32} (hT : TRD cs s) (hF : FA F s) : ∃ t, f_X12_tells q a2 a3 s = some (valC cs q F, t) ∧ RS s t := by
  have z0 : Int32.toNatClampNeg 0 = 0 := rfl
  have g0 : inb 0 240 := by decide
  have tell : ∀ (i : Nat) (c : CL) (u : SS), i < 14 → TRE 65 (u 69) (u 70) u 200 i c → FA F u → ∃ t, tlR a2 a3 (iI (i : Int)) u = some (clv q ((c.2.1 F).getD 0), t) ∧ RS u t := by
    intro i c u hi hc hu
    obtain ⟨a, m, z, y1, y2, y3, y4, y5, y6, y7, y8, y9⟩ := hc
    have k1 := y8.1
    obtain ⟨t, e1, e2, e3, e4⟩ := wk_re y7 (by omega) hu
    refine ⟨t, ?_, e2⟩
    have gi : inb (iI (i : Int)) 14 := by simp (disch := omega) only [Int.toNat_natCast, iI_lt, iI_le, iI_eq, iI_add, iI_sub, iI_mul, iI_neg, iI_clamp, inb_ii]; omega
    unfold tlR
    refine e_gd gi ?_
    refine e_gd gi ?_
    rw [iI_clamp (by omega), Int.toNat_natCast, show u 66 i = iI a from y3, show u 67 i = iI m from y4]
    refine e_bd e1 ?_
    refine e_gd g0 ?_
    refine e_jn ?_
    have out : ∀ v : Int32, (if (a2 : Int32) ≤ (v : Int32) then if (v : Int32) ≤ (a3 : Int32) then some (v, t) else some (a3, t) else some (a2, t) : Res) = some (clv q v, t) := by
      intro v
      rw [hcl v]
      by_cases w1 : a2 ≤ v
      · rw [if_pos w1, if_pos w1]
        by_cases w2 : v ≤ a3
        · rw [if_pos w2, if_pos w2]
        · rw [if_neg w2, if_neg w2]
      · rw [if_neg w1, if_neg w1]
    rw [z0]
    cases c1 : c.2.1 F with
    | none =>
      refine e_if_f (by rw [e3 c1]; decide) ?_
      exact out 0
    | some v =>
      obtain ⟨x1, x2⟩ := e4 v c1
      refine e_if_t x1 ?_
      refine e_gd g0 ?_
      rw [x2]
      exact out v
  have hl := hT.1
  have lp : ∀ (m N i : Nat) (u : SS), i + m = cs.length → m < N → TRD cs u → FA F u → ∃ t, lp_X12_tells_3 q a2 a3 (tlR a2 a3) N (iI i) u = some (valC (cs.drop i) q F, t) ∧ RS u t := by
    intro m
    induction m with
    | zero =>
      intro N i u hi hN hu hf
      obtain ⟨N, rfl⟩ : ∃ M, N = M + 1 := ⟨N - 1, by omega⟩
      refine ⟨u, ?_, RS.rf u⟩
      rw [lp_X12_tells_3, List.drop_eq_nil_of_le (by omega)]
      exact e_if_t (by rw [hu.2.1]; simp (disch := omega) only [Int.toNat_natCast, iI_lt, iI_le, iI_eq, iI_add, iI_sub, iI_mul, iI_neg, iI_clamp, inb_ii]; omega) rfl
    | succ m ih =>
      intro N i u hi hN hu hf
      obtain ⟨N, rfl⟩ : ∃ M, N = M + 1 := ⟨N - 1, by omega⟩
      have hil : i < cs.length := by omega
      have hc := hu.2.2 i cs[i] (List.getElem?_eq_getElem hil)
      rw [List.drop_eq_getElem_cons hil]
      generalize cs[i] = c at hc
      have un : valC (c :: cs.drop (i + 1)) q F = if iI c.1 = q ∧ ¬ (c.2.2 F).getD 0 = 0 then clv q ((c.2.1 F).getD 0) else valC (cs.drop (i + 1)) q F := rfl
      obtain ⟨a, m2, z, y1, y2, y3, y4, y5, y6, y7, y8, y9⟩ := id hc
      have gi : inb (iI (i : Int)) 14 := by simp (disch := omega) only [Int.toNat_natCast, iI_lt, iI_le, iI_eq, iI_add, iI_sub, iI_mul, iI_neg, iI_clamp, inb_ii]; omega
      have cl : Int32.toNatClampNeg (iI (i : Int)) = i := by rw [iI_clamp (by omega), Int.toNat_natCast]
      have head : ∀ r, (if (iI (c.1 : Int) : Int32) = (q : Int32) then gd (inb (iI (i : Int)) 14) (gd (inb (iI (i : Int)) 14) (bd (f_X12_works (iI m2) (iI z) u) (fun (_v18 : Int32) (s19 : SS) => gd (inb 0 240) (if (s19 79 0 : Int32) = 0 then gd (inb 0 240) (if (s19 78 0 : Int32) = (1 : Int32) then tlR a2 a3 (iI (i : Int)) s19 else lp_X12_tells_3 q a2 a3 (tlR a2 a3) N (iI (i : Int) + 1) s19) else lp_X12_tells_3 q a2 a3 (tlR a2 a3) N (iI (i : Int) + 1) s19)))) else lp_X12_tells_3 q a2 a3 (tlR a2 a3) N (iI (i : Int) + 1) u) = r → lp_X12_tells_3 q a2 a3 (tlR a2 a3) (N + 1) (iI i) u = r := by
        intro r hr
        rw [lp_X12_tells_3]
        refine e_if_f (by rw [hu.2.1]; simp (disch := omega) only [Int.toNat_natCast, iI_lt, iI_le, iI_eq, iI_add, iI_sub, iI_mul, iI_neg, iI_clamp, inb_ii]; omega) ?_
        refine e_gd gi ?_
        refine e_jn ?_
        rw [cl, show u 65 i = iI c.1 from y1, show u 67 i = iI m2 from y4, show u 68 i = iI z from y5]
        exact hr
      by_cases e1 : iI c.1 = q
      · obtain ⟨t, w1, w2, w3, w4⟩ := wk_re y8 y6 hf
        have hut : TRD cs t := hu.of (fun k x y => w2 k (by omega) (by omega)) (by rw [w2 56 (by omega) (by omega)])
        have hft := w2.fa hf
        have next : (¬ (c.2.2 F).getD 0 = 0 → False) → ∃ t2, lp_X12_tells_3 q a2 a3 (tlR a2 a3) N (iI (i : Int) + 1) t = some (valC (c :: cs.drop (i + 1)) q F, t2) ∧ RS u t2 := by
          intro hno
          obtain ⟨t2, h2, h3⟩ := ih N (i + 1) t (by omega) (by omega) hut hft
          refine ⟨t2, ?_, w2.tr h3⟩
          rw [un, if_neg (fun w => hno w.2), nx_s]
          exact h2
        cases c2 : c.2.2 F with
        | none =>
          obtain ⟨t2, h2, h3⟩ := next (fun w => w (by rw [c2]; rfl))
          exact ⟨t2, head _ (e_if_t e1 (e_gd gi (e_gd gi (e_bd w1 (e_gd g0 (e_if_f (by rw [w3 c2]; decide) h2)))))), h3⟩
        | some v =>
          obtain ⟨x1, x2⟩ := w4 v c2
          rcases y9 F v c2 with o | o
          · subst o
            obtain ⟨t2, h2, h3⟩ := next (fun w => w (by rw [c2]; rfl))
            exact ⟨t2, head _ (e_if_t e1 (e_gd gi (e_gd gi (e_bd w1 (e_gd g0 (e_if_t x1 (e_gd g0 (e_if_f (by rw [x2]; decide) h2)))))))), h3⟩
          · subst o
            have hct : TRE 65 (t 69) (t 70) t 200 i c := by
              unfold TRE at hc ⊢
              rw [w2 69 (by omega) (by omega), w2 70 (by omega) (by omega), w2 65 (by omega) (by omega), w2 (65 + 1) (by omega) (by omega), w2 (65 + 2) (by omega) (by omega), w2 (65 + 3) (by omega) (by omega)]
              exact hc
            obtain ⟨t2, h2, h3⟩ := tell i c t (by omega) hct hft
            refine ⟨t2, head _ (e_if_t e1 (e_gd gi (e_gd gi (e_bd w1 (e_gd g0 (e_if_t x1 (e_gd g0 (e_if_t x2 ?_)))))))), w2.tr h3⟩
            rw [un, if_pos ⟨e1, by rw [c2]; decide⟩]
            exact h2
      · obtain ⟨t2, h2, h3⟩ := ih N (i + 1) u (by omega) (by omega) hu hf
        refine ⟨t2, head _ (e_if_f e1 ?_), h3⟩
        rw [un, if_neg (fun w => e1 w.1), nx_s]
        exact h2
  obtain ⟨t, h1, h2⟩ := lp cs.length FU 0 s (by omega) (fu_lt (by omega)) hT hF
  refine ⟨t, ?_, h2⟩
  unfold f_X12_tells
  refine e_jn ?_
  exact h1
theorem rvt_tx {T : TW} {cs : List CL} (h : TRD cs s) : RVT (txT T cs) s := fun _ _ hu h17 hF => ⟨val_r (fun v => if_pos rfl) (h.of hu h17) hF, val_r (fun v => if_neg (by decide)) (h.of hu h17) hF⟩
