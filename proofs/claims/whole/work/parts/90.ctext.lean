/-! the class reads a text -/
variable {ch : Nat → Nat} {n : Nat} {s t u : SS}
abbrev CL : Type := Nat × EV × EV
abbrev RSC : Type := Except Nat (Nat × CL)
def pCl (ch : Nat → Nat) (k p : Nat) : RSC := if ch p = 118 ∨ ch p = 109 then (if k < 14 then (match pSum ch 8 0 (p + 1) with
  | .error f => .error f
  | .ok r => if ch r.1 = 40 then (match pAny ch (pPc ch 7 1) (r.1 + 1) with
    | .error f => .error f
    | .ok r2 => if ch r2.1 = 41 then .ok (r2.1 + 1, ch p, r.2, r2.2) else .error (1000 + r2.1)) else .error (1000 + r.1)) else .error (4000 + p)) else .error (1000 + p)
def pTx (ch : Nat → Nat) (n : Nat) : Nat → Nat → List CL → Except Nat (List CL)
  | 0, _, cs => .ok cs
  | m + 1, p, cs => if p < n then (if ch p = 59 then (match pCl ch cs.length (p + 1) with | .error f => .error f | .ok r => pTx ch n m r.1 (cs ++ [r.2])) else .error (1000 + p)) else .ok cs
def pText (ch : Nat → Nat) (n : Nat) : Except Nat (List CL) := match pCl ch 0 0 with | .error f => .error f | .ok r => pTx ch n 14 r.1 [r.2]
def FT (s t : SS) : Prop := ∀ q, q < 17 ∨ 25 < q → t q = s q
theorem FT.rf (s : SS) : FT s s := fun _ _ => rfl
theorem FT.tr (h : FT s t) (g : FT t u) : FT s u := fun q a => (g q a).trans (h q a)
theorem FP.ft (h : FP s t) : FT s t := fun q a => h.1 q (by omega) (by omega) (by omega) (by omega)
def TCE (s : SS) (k i : Nat) (c : CL) : Prop := ∃ a m z : Nat, s 22 i = iI c.1 ∧ (c.1 = 118 ∨ c.1 = 109) ∧ s 23 i = iI a ∧ s 24 i = iI m ∧ s 25 i = iI z ∧ z ≤ k ∧ CE 16 (s 20) (s 21) a m c.2.1 ∧ CE 16 (s 20) (s 21) m z c.2.2
def TC (cs : List CL) (k : Nat) (s : SS) : Prop := cs.length ≤ 14 ∧ s 19 8 = iI cs.length ∧ ∀ (i : Nat) (c : CL), cs[i]? = some c → TCE s k i c
theorem add_g {j : Nat} (hj : j < 14) (h : s 19 8 = iI j) (a b c : Int32) : f_X1_addClause a b c s = some (0, up (up (up (up (up s 22 j a) 23 j b) 24 j c) 25 j (s 19 7)) 19 8 (iI ((j + 1 : Nat) : Int))) := by
  have gi : inb (iI (j : Int)) 14 := by simp (disch := omega) only [Int.toNat_natCast, iI_lt, iI_le, iI_eq, iI_add, iI_sub, iI_mul, iI_neg, iI_clamp, inb_ii]; omega
  have cl : Int32.toNatClampNeg (iI (j : Int)) = j := by rw [iI_clamp (by omega), Int.toNat_natCast]
  unfold f_X1_addClause
  rw [h, cl]
  refine e_if_f (by simp (disch := omega) only [Int.toNat_natCast, iI_lt, iI_le, iI_eq, iI_add, iI_sub, iI_mul, iI_neg, iI_clamp, inb_ii, z_0]; omega) ?_
  refine e_if_t (by rw [show (14 : Int32) = iI 14 from rfl]; simp (disch := omega) only [Int.toNat_natCast, iI_lt, iI_le, iI_eq, iI_add, iI_sub, iI_mul, iI_neg, iI_clamp, inb_ii]; omega) ?_
  refine e_gd gi ?_
  refine e_lts ?_
  rw [up_cell (k := 22) (q := 19) (by omega), h, cl]
  refine e_gd gi ?_
  refine e_lts ?_
  rw [up_cell (k := 23) (q := 19) (by omega), up_cell (k := 22) (q := 19) (by omega), h, cl]
  refine e_gd gi ?_
  refine e_lts ?_
  rw [up_cell (k := 24) (q := 19) (by omega), up_cell (k := 23) (q := 19) (by omega), up_cell (k := 22) (q := 19) (by omega), h, cl]
  refine e_gd gi ?_
  refine e_lts ?_
  rw [up_cell (k := 25) (q := 19) (by omega), up_cell (k := 24) (q := 19) (by omega), up_cell (k := 23) (q := 19) (by omega), up_cell (k := 22) (q := 19) (by omega), h, nx_s]
  exact e_lts rfl
theorem cl_addF {F j : Nat} (hF : FLT F s) (hj : j < 14) (h8 : s 19 8 = iI j) (a b c : Int32) : ∃ t, bd (f_X4_take 41 s) (fun (_v17 : Int32) (s18 : SS) => bd (f_X1_addClause a b c s18) (fun (_v19 : Int32) (s20 : SS) => some ((0 : Int32), s20))) = some (0, t) ∧ FT s t ∧ FLT F t := by
  refine ⟨_, e_bd (take_f hF 41) (e_bd (add_g hj h8 a b c) rfl), fun q hq => ?_, ?_⟩
  · rw [up_cell (by omega), up_cell (by omega), up_cell (by omega), up_cell (by omega), up_cell (by omega)]
  · unfold FLT at hF ⊢
    rw [up_cell (by omega), up_cell (by omega), up_cell (by omega), up_cell (by omega), up_cell (by omega)]
    exact hF
theorem cl_anyF (h : OKC ch n) {F j : Nat} (hF : FLT F s) (hj : j < 14) (h8 : s 19 8 = iI j) (a b c : Int32) : ∃ t, bd (f_X4_readAnyOf (f_X4_readPiece 40) 1 s) (fun (_v15 : Int32) (s16 : SS) => bd (f_X4_take 41 s16) (fun (_v17 : Int32) (s18 : SS) => bd (f_X1_addClause a b c s18) (fun (_v19 : Int32) (s20 : SS) => some ((0 : Int32), s20)))) = some (0, t) ∧ FT s t ∧ FLT F t := by
  have HA : RDR ch n (f_X4_readAnyOf (f_X4_readPiece 40) 1) (pAny ch (pPc ch 7 1)) 16 := rd_any (d := 1) h (rd_pc h 6 40 1 (by omega) (by omega) (by omega))
  obtain ⟨v, t, e1, e2, e3⟩ := HA.1 s F hF
  obtain ⟨t2, d1, d2, d3⟩ := cl_addF e3 hj (by rw [e2.2.2 8 (by omega)]; exact h8) a b c
  exact ⟨t2, e_bd e1 d1, e2.ft.tr d2, d3⟩
theorem cl_no {F : Nat} (hF : FLT F s) (k : Int32) : f_X4_readClause k s = some (0, s) := by
  obtain ⟨v, hv⟩ := fl_sign s
  unfold f_X4_readClause
  refine e_bdp hv ?_
  refine e_jn ?_
  refine e_if_f hF.ne ?_
  exact e_bd (stop_f hF 1) rfl
theorem rd_cl (h : OKC ch n) {cs : List CL} {p k : Nat} (hs : PS ch n p k s) (hc : TC cs k s) : ∃ t, f_X4_readClause (iI cs.length) s = some (0, t) ∧ FT s t ∧ (∀ f, pCl ch cs.length p = .error f → FLT f t) ∧ ∀ r, pCl ch cs.length p = .ok r → ∃ k2, PS ch n r.1 k2 t ∧ TC (cs ++ [r.2]) k2 t := by
  have HA : RDR ch n (f_X4_readAnyOf (f_X4_readPiece 40) 1) (pAny ch (pPc ch 7 1)) 16 := rd_any (d := 1) h (rd_pc h 6 40 1 (by omega) (by omega) (by omega))
  have HS : RDR ch n (f_X4_readSum 40 0) (pSum ch 8 0) 15 := rd_sum h 7 40 0 (by omega) (by omega) (by omega)
  have h118 := sgv_is h (p := p) (c := 118) (by omega)
  have h109 := sgv_is h (p := p) (c := 109) (by omega)
  have hsg := ps_sign h hs
  have hl := hc.1
  have h8 := hc.2.1
  unfold pCl
  by_cases q0 : ch p = 118 ∨ ch p = 109
  · rw [if_pos q0]
    have hp := ch_lt h (p := p) (by omega)
    have esg : sgv ch n p = iI (ch p) := if_pos hp
    by_cases q1 : cs.length < 14
    · rw [if_pos q1]
      obtain ⟨g1, g2⟩ := ps_next hs hp
      obtain ⟨v, t, f1, f2, f3, f4⟩ := HS.2 _ _ _ g1
      have head : ∀ z, (∀ c : Int32, f_X1_stepCount t = some c → bd (f_X4_take 40 t) (fun (_v13 : Int32) (s14 : SS) => bd (f_X4_readAnyOf (f_X4_readPiece 40) 1 s14) (fun (_v15 : Int32) (s16 : SS) => bd (f_X4_take 41 s16) (fun (_v17 : Int32) (s18 : SS) => bd (f_X1_addClause (iI (ch p)) (iI k) c s18) (fun (_v19 : Int32) (s20 : SS) => some ((0 : Int32), s20))))) = z) → f_X4_readClause (iI cs.length) s = z := by
        intro z hz
        have inner : (if (iI (cs.length : Int) : Int32) < (14 : Int32) then lts (up s 17 3 ((s 17 3) + 1)) (fun (s8 : SS) => bdp (f_X1_stepCount s8) (fun (v9 : Int32) => bd (f_X4_readSum 40 0 s8) (fun (v10 : Int32) (s11 : SS) => bdp (f_X1_stepCount s11) (fun (v12 : Int32) => bd (f_X4_take 40 s11) (fun (v13 : Int32) (s14 : SS) => bd (f_X4_readAnyOf (f_X4_readPiece 40) 1 s14) (fun (v15 : Int32) (s16 : SS) => bd (f_X4_take 41 s16) (fun (v17 : Int32) (s18 : SS) => bd (f_X1_addClause (sgv ch n p) v9 v12 s18) (fun (v19 : Int32) (s20 : SS) => some ((0 : Int32), s20))))))))) else bd (f_X4_stop 4 s) (fun (v21 : Int32) (s22 : SS) => some (0, s22))) = z := by
          refine e_if_t (by rw [show (14 : Int32) = iI 14 from rfl]; simp (disch := omega) only [Int.toNat_natCast, iI_lt, iI_le, iI_eq, iI_add, iI_sub, iI_mul, iI_neg, iI_clamp, inb_ii]; omega) ?_
          refine e_lts ?_
          refine e_bdp (v := iI k) (by unfold f_X1_stepCount; rw [g1.2.2.2.1]) ?_
          refine e_bd f1 ?_
          refine e_bdp (v := t 19 7) rfl ?_
          rw [esg]
          exact hz _ rfl
        unfold f_X4_readClause
        refine e_bdp hsg ?_
        refine e_jn ?_
        refine e_if_t hs.2.2.1 ?_
        refine e_jn ?_
        by_cases y : ch p = 118
        · exact e_if_t (h118.mpr y) inner
        · refine e_if_f (mt h118.mp y) ?_
          exact e_if_t (h109.mpr (by omega)) inner
      have t8 : t 19 8 = iI cs.length := by rw [f2.2.2 8 (by omega), g2.2.2 8 (by omega)]; exact h8
      cases c : pSum ch 8 0 (p + 1) with
      | error f =>
        have hf := f3 f c
        obtain ⟨t2, d1, d2, d3⟩ := cl_anyF h hf q1 t8 (iI (ch p)) (iI k) (t 19 7)
        refine ⟨t2, head _ (fun c hc => ?_), ((g2.tr f2).ft.tr d2), (fun f2 e => by cases e; exact d3), (fun r e => by cases e)⟩
        obtain rfl : t 19 7 = c := Option.some.inj hc
        exact e_bd (take_f hf 40) d1
      | ok r =>
        obtain ⟨k2, a1, a2, a3, a4⟩ := f4 r c
        obtain ⟨b1, b2⟩ := take_g h (c := 40) a1 (by omega)
        show ∃ t, _ ∧ _ ∧ (∀ f, (if ch r.1 = 40 then (match pAny ch (pPc ch 7 1) (r.1 + 1) with
          | .error f => .error f
          | .ok r2 => if ch r2.1 = 41 then .ok (r2.1 + 1, ch p, r.2, r2.2) else .error (1000 + r2.1)) else .error (1000 + r.1) : RSC) = .error f → FLT f t) ∧ ∀ r', (if ch r.1 = 40 then (match pAny ch (pPc ch 7 1) (r.1 + 1) with
          | .error f => .error f
          | .ok r2 => if ch r2.1 = 41 then .ok (r2.1 + 1, ch p, r.2, r2.2) else .error (1000 + r2.1)) else .error (1000 + r.1) : RSC) = .ok r' → _
        by_cases q2 : ch r.1 = 40
        · rw [if_pos q2]
          obtain ⟨t2, d1, d2, d3, d4, d5⟩ := b1 q2
          obtain ⟨v3, t3, e1, e2, e3, e4⟩ := HA.2 _ _ _ d3
          have fr := ((g2.tr f2).tr d2).tr e2
          have t38 : t3 19 8 = iI cs.length := by rw [fr.2.2 8 (by omega)]; exact h8
          cases c2 : pAny ch (pPc ch 7 1) (r.1 + 1) with
          | error f =>
            have hf := e3 f c2
            obtain ⟨t4, m1, m2, m3⟩ := cl_addF hf q1 t38 (iI (ch p)) (iI k) (t 19 7)
            refine ⟨t4, head _ (fun c hc => ?_), (fr.ft.tr m2), (fun f2 e => by cases e; exact m3), (fun r e => by cases e)⟩
            obtain rfl : t 19 7 = c := Option.some.inj hc
            exact e_bd d1 (e_bd e1 m1)
          | ok r2 =>
            obtain ⟨k3, c1, c3, c4, c5⟩ := e4 r2 c2
            obtain ⟨b3, b4⟩ := take_g h (c := 41) c1 (by omega)
            show ∃ t, _ ∧ _ ∧ (∀ f, (if ch r2.1 = 41 then .ok (r2.1 + 1, ch p, r.2, r2.2) else .error (1000 + r2.1) : RSC) = .error f → FLT f t) ∧ ∀ r', (if ch r2.1 = 41 then .ok (r2.1 + 1, ch p, r.2, r2.2) else .error (1000 + r2.1) : RSC) = .ok r' → _
            by_cases q3 : ch r2.1 = 41
            · rw [if_pos q3]
              obtain ⟨t4, m1, m2, m3, m4, m5⟩ := b3 q3
              have t48 : t4 19 8 = iI cs.length := by rw [m2.2.2 8 (by omega)]; exact t38
              have ad := add_g q1 t48 (iI (ch p)) (iI k) (t 19 7)
              refine ⟨up (up (up (up (up t4 22 cs.length (iI (ch p))) 23 cs.length (iI k)) 24 cs.length (t 19 7)) 25 cs.length (t4 19 7)) 19 8 (iI ((cs.length + 1 : Nat) : Int)), head _ (fun c hc => ?_), ?_, (fun f2 e => by cases e), (fun r' e => ?_)⟩
              · obtain rfl : t 19 7 = c := Option.some.inj hc
                exact e_bd d1 (e_bd e1 (e_bd m1 (e_bd ad rfl)))
              · refine (fr.ft.tr m2.ft).tr (fun q hq => ?_)
                rw [up_cell (by omega), up_cell (by omega), up_cell (by omega), up_cell (by omega), up_cell (by omega)]
              · cases e
                have k7 := m3.2.2.2.1
                refine ⟨k3, ?_, ?_⟩
                · obtain ⟨x1, x2, x3, x4, x5, x6, x7⟩ := m3
                  refine ⟨?_, ?_, ?_, ?_, ?_, x6, x7⟩
                  · rw [up_cell (by omega), up_cell (by omega), up_cell (by omega), up_cell (by omega), up_cell (by omega)]; exact x1
                  · rw [up_cell (by omega), up_cell (by omega), up_cell (by omega), up_cell (by omega), up_cell (by omega)]; exact x2
                  · rw [up_cell (by omega), up_cell (by omega), up_cell (by omega), up_cell (by omega), up_cell (by omega)]; exact x3
                  · rw [up_slot (by omega), up_cell (by omega), up_cell (by omega), up_cell (by omega), up_cell (by omega)]; exact x4
                  · rw [up_cell (by omega), up_cell (by omega), up_cell (by omega), up_cell (by omega), up_cell (by omega)]; exact x5
                · have z20 : ∀ i, i < k → t4 20 i = s 20 i ∧ t4 21 i = s 21 i := fun i hi => by
                    have x1 := c4 i (by have := a4.1; omega)
                    have x2 := a3 i hi
                    rw [up_cell (by omega), up_cell (by omega)] at x2
                    rw [m4, m5]
                    rw [d4, d5] at x1
                    exact ⟨x1.1.trans x2.1, x1.2.trans x2.2⟩
                  refine ⟨by rw [List.length_append]; show cs.length + 1 ≤ 14; omega, by rw [up_at, List.length_append]; rfl, fun i c hic => ?_⟩
                  rcases Nat.lt_or_ge i cs.length with hi | hi
                  · rw [List.getElem?_append_left hi] at hic
                    obtain ⟨a, m, z, y1, y2, y3, y4, y5, y6, y7, y8⟩ := hc.2.2 i c hic
                    have ts : ∀ q, (q = 22 ∨ q = 23 ∨ q = 24 ∨ q = 25) → t4 q = s q := fun q hq => by
                      rw [m2.1 q (by omega) (by omega) (by omega) (by omega), fr.1 q (by omega) (by omega) (by omega) (by omega)]
                    have ka := y7.1
                    have kb := y8.1
                    have kc := a4.1
                    have kd := c5.1
                    refine ⟨a, m, z, ?_, y2, ?_, ?_, ?_, by omega, ?_, ?_⟩
                    · rw [up_cell (by omega), up_cell (by omega), up_cell (by omega), up_cell (by omega), up_slot (by omega), ts 22 (by omega)]; exact y1
                    · rw [up_cell (by omega), up_cell (by omega), up_cell (by omega), up_slot (by omega), up_cell (by omega), ts 23 (by omega)]; exact y3
                    · rw [up_cell (by omega), up_cell (by omega), up_slot (by omega), up_cell (by omega), up_cell (by omega), ts 24 (by omega)]; exact y4
                    · rw [up_cell (by omega), up_slot (by omega), up_cell (by omega), up_cell (by omega), up_cell (by omega), ts 25 (by omega)]; exact y5
                    · rw [up_cell (by omega), up_cell (by omega), up_cell (by omega), up_cell (by omega), up_cell (by omega), up_cell (q := 21) (by omega), up_cell (q := 21) (by omega), up_cell (q := 21) (by omega), up_cell (q := 21) (by omega), up_cell (q := 21) (by omega)]
                      exact y7.of (fun i a b => z20 i (by omega))
                    · rw [up_cell (by omega), up_cell (by omega), up_cell (by omega), up_cell (by omega), up_cell (by omega), up_cell (q := 21) (by omega), up_cell (q := 21) (by omega), up_cell (q := 21) (by omega), up_cell (q := 21) (by omega), up_cell (q := 21) (by omega)]
                      exact y8.of (fun i a b => z20 i (by omega))
                  · have hi2 : i = cs.length := by
                      have := (List.getElem?_eq_some_iff.mp hic).1
                      rw [List.length_append] at this
                      have : i < cs.length + 1 := this
                      omega
                    subst hi2
                    rw [List.getElem?_concat_length] at hic
                    obtain rfl := Option.some.inj hic
                    refine ⟨k, k2, k3, ?_, q0, ?_, ?_, ?_, by omega, ?_, ?_⟩
                    · rw [up_cell (by omega), up_cell (by omega), up_cell (by omega), up_cell (by omega), up_at]
                    · rw [up_cell (by omega), up_cell (by omega), up_cell (by omega), up_at]
                    · rw [up_cell (by omega), up_cell (by omega), up_at]; exact a1.2.2.2.1
                    · rw [up_cell (by omega), up_at]; exact k7
                    · rw [up_cell (by omega), up_cell (by omega), up_cell (by omega), up_cell (by omega), up_cell (by omega), up_cell (q := 21) (by omega), up_cell (q := 21) (by omega), up_cell (q := 21) (by omega), up_cell (q := 21) (by omega), up_cell (q := 21) (by omega), m4, m5]
                      exact (a4.m (by omega)).of (fun i a b => by have := c4 i b; rw [d4, d5] at this; exact this)
                    · rw [up_cell (by omega), up_cell (by omega), up_cell (by omega), up_cell (by omega), up_cell (by omega), up_cell (q := 21) (by omega), up_cell (q := 21) (by omega), up_cell (q := 21) (by omega), up_cell (q := 21) (by omega), up_cell (q := 21) (by omega), m4, m5]
                      exact c5
            · rw [if_neg q3]
              obtain ⟨t4, m1, m2, m3⟩ := b4 q3
              have t48 : t4 19 8 = iI cs.length := by rw [m2.2.2 8 (by omega)]; exact t38
              have ad := add_g q1 t48 (iI (ch p)) (iI k) (t 19 7)
              refine ⟨up (up (up (up (up t4 22 cs.length (iI (ch p))) 23 cs.length (iI k)) 24 cs.length (t 19 7)) 25 cs.length (t4 19 7)) 19 8 (iI ((cs.length + 1 : Nat) : Int)), head _ (fun c hc => ?_), ?_, (fun f2 e => ?_), (fun r e => by cases e)⟩
              · obtain rfl : t 19 7 = c := Option.some.inj hc
                exact e_bd d1 (e_bd e1 (e_bd m1 (e_bd ad rfl)))
              · refine (fr.ft.tr m2.ft).tr (fun q hq => ?_)
                rw [up_cell (by omega), up_cell (by omega), up_cell (by omega), up_cell (by omega), up_cell (by omega)]
              · cases e
                unfold FLT at m3 ⊢
                rw [up_cell (by omega), up_cell (by omega), up_cell (by omega), up_cell (by omega), up_cell (by omega)]
                exact m3
        · rw [if_neg q2]
          obtain ⟨t2, d1, d2, d3⟩ := b2 q2
          have t28 : t2 19 8 = iI cs.length := by rw [d2.2.2 8 (by omega)]; exact t8
          obtain ⟨t3, m1, m2, m3⟩ := cl_anyF h d3 q1 t28 (iI (ch p)) (iI k) (t 19 7)
          refine ⟨t3, head _ (fun c hc => ?_), (((g2.tr f2).tr d2).ft.tr m2), (fun f2 e => by cases e; exact m3), (fun r e => by cases e)⟩
          obtain rfl : t 19 7 = c := Option.some.inj hc
          exact e_bd d1 m1
    · rw [if_neg q1]
      obtain ⟨g1, g2⟩ := stop_g hs h.1 (c := 4) (by omega)
      have inner : ∀ (X : Res), (if (iI (cs.length : Int) : Int32) < (14 : Int32) then X else bd (f_X4_stop 4 s) (fun (v21 : Int32) (s22 : SS) => some (0, s22))) = some (0, up s 17 4 (iI (-((1000 * 4 + p : Nat) : Int)))) := fun X => e_if_f (by rw [show (14 : Int32) = iI 14 from rfl]; simp (disch := omega) only [Int.toNat_natCast, iI_lt, iI_le, iI_eq, iI_add, iI_sub, iI_mul, iI_neg, iI_clamp, inb_ii]; omega) (e_bd g1 rfl)
      refine ⟨_, ?_, (FP.u17 (j := 4) (Or.inr rfl)).ft, (fun f2 e => by cases e; exact g2), (fun r e => by cases e)⟩
      unfold f_X4_readClause
      refine e_bdp hsg ?_
      refine e_jn ?_
      refine e_if_t hs.2.2.1 ?_
      refine e_jn ?_
      by_cases y : ch p = 118
      · exact e_if_t (h118.mpr y) (inner _)
      · refine e_if_f (mt h118.mp y) ?_
        exact e_if_t (h109.mpr (by omega)) (inner _)
  · rw [if_neg q0]
    obtain ⟨g1, g2⟩ := stop_g hs h.1 (c := 1) (by omega)
    refine ⟨_, ?_, (FP.u17 (j := 4) (Or.inr rfl)).ft, (fun f2 e => by cases e; exact g2), (fun r e => by cases e)⟩
    unfold f_X4_readClause
    refine e_bdp hsg ?_
    refine e_jn ?_
    refine e_if_t hs.2.2.1 ?_
    refine e_jn ?_
    refine e_if_f (fun w => q0 (Or.inl (h118.mp w))) ?_
    refine e_if_f (fun w => q0 (Or.inr (h109.mp w))) ?_
    exact e_bd g1 rfl
theorem rd_tx (h : OKC ch n) (K : SS → Res) : ∀ (m N j p k : Nat) (cs : List CL) (s : SS), j + m = 15 → j = cs.length → m < N → PS ch n p k s → TC cs k s → ∃ t, lp_X4_readFrom_66 K N (iI j) s = K t ∧ FT s t ∧ (∀ f, pTx ch n m p cs = .error f → FLT f t) ∧ ∀ ds, pTx ch n m p cs = .ok ds → cs.length ≤ ds.length ∧ ∃ p2 k2, PS ch n p2 k2 t ∧ TC ds k2 t := by
  intro m
  induction m with
  | zero =>
    intro N j p k cs s hj hjc hN hs hc
    have := hc.1
    omega
  | succ m ih =>
    intro N j p k cs s hj hjc hN hs hc
    obtain ⟨N, rfl⟩ : ∃ M, N = M + 1 := ⟨N - 1, by omega⟩
    have cj : ¬ (14 : Int32) < iI (j : Int) := by rw [show (14 : Int32) = iI 14 from rfl]; simp (disch := omega) only [Int.toNat_natCast, iI_lt, iI_le, iI_eq, iI_add, iI_sub, iI_mul, iI_neg, iI_clamp, inb_ii]; omega
    have hn := h.1
    have hpn := hs.2.2.2.2.2.2
    unfold pTx
    by_cases q : p < n
    · rw [if_pos q]
      have head : ∀ t2 r, f_X4_take 59 s = some (0, t2) → bd (f_X4_readClause (iI (j : Int)) t2) (fun (v24 : Int32) (s25 : SS) => lp_X4_readFrom_66 K N (iI (j : Int) + 1) s25) = r → lp_X4_readFrom_66 K (N + 1) (iI j) s = r := by
        intro t2 r e1 e2
        rw [lp_X4_readFrom_66]
        refine e_if_f cj ?_
        refine e_if_t hs.2.2.1 ?_
        refine e_if_f (by rw [hs.1, hs.2.1]; simp (disch := omega) only [Int.toNat_natCast, iI_lt, iI_le, iI_eq, iI_add, iI_sub, iI_mul, iI_neg, iI_clamp, inb_ii]; omega) ?_
        exact e_bd e1 e2
      have flt : ∀ (t2 : SS) (F : Nat), FLT F t2 → lp_X4_readFrom_66 K N (iI (j : Int) + 1) t2 = K t2 := by
        intro t2 F hF
        obtain ⟨N, rfl⟩ : ∃ M, N = M + 1 := ⟨N - 1, by omega⟩
        rw [lp_X4_readFrom_66]
        by_cases q : (14 : Int32) < iI (j : Int) + 1
        · exact e_if_t q rfl
        · refine e_if_f q ?_
          exact e_if_f hF.ne rfl
      obtain ⟨b1, b2⟩ := take_g h (c := 59) hs (by omega)
      by_cases y : ch p = 59
      · rw [if_pos y]
        obtain ⟨t2, d1, d2, d3, d4, d5⟩ := b1 y
        have hc2 : TC cs k t2 := by
          unfold TC TCE at hc ⊢
          rw [d2.2.2 8 (by omega), d2.1 22 (by omega) (by omega) (by omega) (by omega), d2.1 23 (by omega) (by omega) (by omega) (by omega), d2.1 24 (by omega) (by omega) (by omega) (by omega), d2.1 25 (by omega) (by omega) (by omega) (by omega), d4, d5]
          exact hc
        obtain ⟨t3, e1, e2, e3, e4⟩ := rd_cl h d3 hc2
        cases c : pCl ch cs.length (p + 1) with
        | error f =>
          have hf := e3 f c
          refine ⟨t3, head _ _ d1 ?_, d2.ft.tr e2, (fun f2 e => by cases e; exact hf), (fun r e => by cases e)⟩
          rw [hjc]
          refine e_bd e1 ?_
          rw [← hjc]
          exact flt t3 f hf
        | ok r =>
          obtain ⟨k2, a1, a2⟩ := e4 r c
          obtain ⟨t4, g1, g2, g3, g4⟩ := ih N (j + 1) r.1 k2 (cs ++ [r.2]) t3 (by omega) (by rw [List.length_append, hjc]; rfl) (by omega) a1 a2
          refine ⟨t4, head _ _ d1 ?_, (d2.ft.tr e2).tr g2, g3, fun ds e => ?_⟩
          · rw [hjc]
            refine e_bd e1 ?_
            rw [← hjc, nx_s]
            exact g1
          · obtain ⟨x1, x2⟩ := g4 ds e
            rw [List.length_append] at x1
            exact ⟨by omega, x2⟩
      · rw [if_neg y]
        obtain ⟨t2, d1, d2, d3⟩ := b2 y
        refine ⟨t2, head _ _ d1 (e_bd (cl_no d3 _) (flt t2 _ d3)), d2.ft, (fun f2 e => by cases e; exact d3), (fun r e => by cases e)⟩
    · rw [if_neg q]
      refine ⟨s, ?_, FT.rf s, (fun f2 e => by cases e), (fun ds e => by cases e; exact ⟨Nat.le_refl _, p, k, hs, hc⟩)⟩
      rw [lp_X4_readFrom_66]
      refine e_if_f cj ?_
      refine e_if_t hs.2.2.1 ?_
      exact e_if_t (by rw [hs.1, hs.2.1]; simp (disch := omega) only [Int.toNat_natCast, iI_lt, iI_le, iI_eq, iI_add, iI_sub, iI_mul, iI_neg, iI_clamp, inb_ii]; omega) rfl
def chA (b : Nat → Nat) (a : Nat) : Nat → Nat := fun i => if i < a then b i else 0
theorem chA_ok {b : Nat → Nat} {a z : Nat} (ha : a ≤ 200) (haz : a ≤ z) (hb : ∀ i, i < z → b i < 256) : OKC (chA b a) a := by
  refine ⟨ha, fun i => ?_, fun i hi => if_neg (by omega)⟩
  unfold chA
  by_cases q : i < a
  · rw [if_pos q]
    exact hb i (by omega)
  · rw [if_neg q]
    omega
theorem cc_read {z a : Nat} {b : Nat → Nat} (hz : z ≤ 220) (hb : ∀ i, i < z → b i < 256) (ha : 1 ≤ a ∧ a ≤ 200) (haz : a ≤ z) (h8 : TPC z b s) : ∃ v t, f_X4_readFrom (iI a) s = some (v, t) ∧ FT s t ∧ (∀ f, pText (chA b a) a = .error f → v = iI (-(f : Int)) ∧ 0 < f ∧ f < 100000) ∧ ∀ cs, pText (chA b a) a = .ok cs → v = iI cs.length ∧ 1 ≤ cs.length ∧ ∃ k, k ≤ 200 ∧ TC cs k t := by
  have h := chA_ok ha.2 haz hb
  have lp : ∀ (K : SS → Res) (m N i : Nat) (s : SS), i + m = a → m < N → s 17 2 = iI a → s 17 3 = 0 → s 17 4 = 0 → TPC z b s → (∀ j, j < i → s 18 j = iI (b j)) → ∃ t, lp_X4_readFrom_27 K N (iI i) s = K t ∧ FT s t ∧ t 17 = s 17 ∧ ∀ j, j < a → t 18 j = iI (b j) := by
    intro K m
    induction m with
    | zero =>
      intro N i s hi hN e1 e2 e3 e4 e5
      obtain ⟨N, rfl⟩ : ∃ M, N = M + 1 := ⟨N - 1, by omega⟩
      refine ⟨s, ?_, FT.rf s, rfl, fun j hj => e5 j (by omega)⟩
      rw [lp_X4_readFrom_27]
      exact e_if_t (by rw [e1]; simp (disch := omega) only [Int.toNat_natCast, iI_lt, iI_le, iI_eq, iI_add, iI_sub, iI_mul, iI_neg, iI_clamp, inb_ii]; omega) rfl
    | succ m ih =>
      intro N i s hi hN e1 e2 e3 e4 e5
      obtain ⟨N, rfl⟩ : ∃ M, N = M + 1 := ⟨N - 1, by omega⟩
      have zb : f_X9_byteOn (iI i) s = some (iI (b i)) := by
        unfold f_X9_byteOn
        rw [e4.1]
        refine e_if_f (by simp (disch := omega) only [Int.toNat_natCast, iI_lt, iI_le, iI_eq, iI_add, iI_sub, iI_mul, iI_neg, iI_clamp, inb_ii, z_0]; omega) ?_
        refine e_if_f (by simp (disch := omega) only [Int.toNat_natCast, iI_lt, iI_le, iI_eq, iI_add, iI_sub, iI_mul, iI_neg, iI_clamp, inb_ii]; omega) ?_
        refine e_if_f (by simp (disch := omega) only [Int.toNat_natCast, iI_lt, iI_le, iI_eq, iI_add, iI_sub, iI_mul, iI_neg, iI_clamp, inb_ii, z_220]; omega) ?_
        refine e_gd (by simp (disch := omega) only [Int.toNat_natCast, iI_lt, iI_le, iI_eq, iI_add, iI_sub, iI_mul, iI_neg, iI_clamp, inb_ii]; omega) ?_
        rw [iI_clamp (by omega), Int.toNat_natCast, e4.2 i (by omega)]
      obtain ⟨t, g1, g2, g3, g4⟩ := ih N (i + 1) (up s 18 i (iI (b i))) (by omega) (by omega) (by rw [up_cell (by omega)]; exact e1) (by rw [up_cell (by omega)]; exact e2) (by rw [up_cell (by omega)]; exact e3) (by unfold TPC at e4 ⊢; rw [up_cell (by omega), up_cell (by omega)]; exact e4) (fun j hj => by
        by_cases y : j = i
        · subst y; exact up_at _ _ _ _
        · rw [up_slot y]; exact e5 j (by omega))
      refine ⟨t, ?_, FT.tr (fun q hq => up_cell (by omega)) g2, g3.trans (up_cell (by omega)), g4⟩
      rw [lp_X4_readFrom_27]
      refine e_if_f (by rw [e1]; simp (disch := omega) only [Int.toNat_natCast, iI_lt, iI_le, iI_eq, iI_add, iI_sub, iI_mul, iI_neg, iI_clamp, inb_ii]; omega) ?_
      refine e_bdp zb ?_
      refine e_gd (by simp (disch := omega) only [Int.toNat_natCast, iI_lt, iI_le, iI_eq, iI_add, iI_sub, iI_mul, iI_neg, iI_clamp, inb_ii]; omega) ?_
      rw [iI_clamp (by omega), Int.toNat_natCast]
      refine e_lts ?_
      rw [nx_s]
      exact g1
  let s5 : SS := up (up (up s 17 2 (iI a)) 17 3 0) 17 4 0
  have s5q : ∀ q, q ≠ 17 → s5 q = s q := fun q hq => by show up (up (up s 17 2 (iI a)) 17 3 0) 17 4 0 q = _; rw [up_cell hq, up_cell hq, up_cell hq]
  have s52 : s5 17 2 = iI a := by show up (up (up s 17 2 (iI a)) 17 3 0) 17 4 0 17 2 = _; rw [up_slot (by omega), up_slot (by omega), up_at]
  have s53 : s5 17 3 = 0 := by show up (up (up s 17 2 (iI a)) 17 3 0) 17 4 0 17 3 = _; rw [up_slot (by omega), up_at]
  have s54 : s5 17 4 = 0 := up_at _ _ _ _
  let KK : SS → Res := fun (s6 : SS) => bd (f_X1_clear s6) (fun (v8 : Int32) (s9 : SS) => bd (f_X4_readClause 0 s9) (fun (v10 : Int32) (s11 : SS) => jn (fun (s12 : SS) => if (s12 17 4 : Int32) = 0 then bdp (f_X1_clauseCount_19 s12) (fun (v15 : Int32) => some (v15, s12)) else some (s12 17 4, s12)) (fun (k13 : SS → Res) => lp_X4_readFrom_66 k13 FU 1 s11)))
  obtain ⟨t, g1, g2, g3, g4⟩ := lp KK a FU 0 s5 (by omega) (fu_lt (by omega)) s52 s53 s54 (by unfold TPC at h8 ⊢; rw [s5q 1 (by omega), s5q 2 (by omega)]; exact h8) (fun j hj => by omega)
  let t9 : SS := up (up t 19 7 0) 19 8 0
  have t9q : ∀ q, q ≠ 19 → t9 q = t q := fun q hq => by show up (up t 19 7 0) 19 8 0 q = _; rw [up_cell hq, up_cell hq]
  have hs : PS (chA b a) a 0 0 t9 := by
    refine ⟨by rw [t9q 17 (by omega), g3]; exact s52, by rw [t9q 17 (by omega), g3]; exact s53, by rw [t9q 17 (by omega), g3]; exact s54, ?_, fun i hi => ?_, Nat.le_refl _, Nat.zero_le _⟩
    · show up (up t 19 7 0) 19 8 0 19 7 = _
      rw [up_slot (by omega), up_at]
      rfl
    · rw [t9q 18 (by omega), g4 i hi]
      unfold chA
      rw [if_pos hi]
  have hc : TC [] 0 t9 := ⟨by decide, up_at _ _ _ _, fun i c e => by simp at e⟩
  have f9 : FT s t9 := (FT.tr (t := s5) (fun q hq => s5q q (by omega)) g2).tr (fun q hq => t9q q (by omega))
  have head : ∀ r, bd (f_X4_readClause 0 t9) (fun (v10 : Int32) (s11 : SS) => jn (fun (s12 : SS) => if (s12 17 4 : Int32) = 0 then bdp (f_X1_clauseCount_19 s12) (fun (v15 : Int32) => some (v15, s12)) else some (s12 17 4, s12)) (fun (k13 : SS → Res) => lp_X4_readFrom_66 k13 FU 1 s11)) = r → f_X4_readFrom (iI a) s = r := by
    intro r hr
    unfold f_X4_readFrom
    refine e_lt ?_
    rw [if_neg (show ¬ (200 : Int32) < iI (a : Int) by simp (disch := omega) only [Int.toNat_natCast, iI_lt, iI_le, iI_eq, iI_add, iI_sub, iI_mul, iI_neg, iI_clamp, inb_ii, z_200]; omega)]
    refine e_lt ?_
    rw [if_pos (show (0 : Int32) < iI (a : Int) by simp (disch := omega) only [Int.toNat_natCast, iI_lt, iI_le, iI_eq, iI_add, iI_sub, iI_mul, iI_neg, iI_clamp, inb_ii, z_0]; omega)]
    refine e_lts ?_
    refine e_lts ?_
    refine e_lts ?_
    refine e_jn ?_
    refine Eq.trans g1 ?_
    show bd (f_X1_clear t) _ = r
    refine e_bd (v := 0) (t := t9) rfl ?_
    exact hr
  obtain ⟨u, e1, e2, e3, e4⟩ := rd_cl h hs hc
  have e1 : f_X4_readClause 0 t9 = some (0, u) := e1
  have flt : ∀ (t2 : SS) (F : Nat) (K : SS → Res), FLT F t2 → lp_X4_readFrom_66 K FU 1 t2 = K t2 := by
    intro t2 F K hF
    obtain ⟨N, e⟩ : ∃ N, FU = N + 1 := ⟨FU - 1, by have := fu_lt (n := 1) (by omega); omega⟩
    rw [e, lp_X4_readFrom_66]
    refine e_if_f (by decide) ?_
    exact e_if_f hF.ne rfl
  unfold pText
  cases c : pCl (chA b a) 0 0 with
  | error f =>
    have hf := e3 f c
    refine ⟨_, u, head _ ?_, f9.tr e2, (fun f2 e => by cases e; exact hf), (fun r e => by cases e)⟩
    refine e_bd e1 ?_
    refine e_jn ?_
    refine (flt u f _ hf).trans ?_
    exact e_if_f hf.ne rfl
  | ok r =>
    obtain ⟨k2, a1, a2⟩ := e4 r c
    obtain ⟨t4, m1, m2, m3, m4⟩ := rd_tx h (fun (s12 : SS) => if (s12 17 4 : Int32) = 0 then bdp (f_X1_clauseCount_19 s12) (fun (v15 : Int32) => some (v15, s12)) else some (s12 17 4, s12)) 14 FU 1 r.1 k2 [r.2] u (by omega) rfl (fu_lt (by omega)) a1 a2
    show ∃ v t, _ ∧ _ ∧ (∀ f, pTx (chA b a) a 14 r.1 [r.2] = .error f → _) ∧ ∀ cs, pTx (chA b a) a 14 r.1 [r.2] = .ok cs → _
    have hd := head ((fun (s12 : SS) => if (s12 17 4 : Int32) = 0 then bdp (f_X1_clauseCount_19 s12) (fun v15 => some (v15, s12)) else some (s12 17 4, s12)) t4) (by
      refine e_bd e1 ?_
      refine e_jn ?_
      exact m1)
    cases c2 : pTx (chA b a) a 14 r.1 [r.2] with
    | error f =>
      have hf := m3 f c2
      refine ⟨_, t4, hd.trans (e_if_f hf.ne rfl), (f9.tr e2).tr m2, (fun f2 e => by cases e; exact hf), (fun r e => by cases e)⟩
    | ok ds =>
      obtain ⟨l1, p3, k3, n1, n2⟩ := m4 ds c2
      refine ⟨_, t4, hd.trans (e_if_t n1.2.2.1 (e_bdp (v := t4 19 8) rfl rfl)), (f9.tr e2).tr m2, (fun f2 e => by cases e), (fun cs e => ?_)⟩
      cases e
      exact ⟨n2.2.1, l1, k3, by have := n1.2.2.2.2.2; omega, n2⟩
