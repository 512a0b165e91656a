/-! the reference reads a condition -/
variable {ch : Nat → Nat} {n : Nat} {s t u : SS}
noncomputable def PK : SS → Res := fun (s1 : SS) => bdp (f_X12_isGood s1) (fun (v3 : Int32) => jn (fun (s4 : SS) => bdp (f_X12_isGood s4) (fun (v6 : Int32) => if (v6 : Int32) = 0 then some (0, s4) else bdp (f_X12_here s4) (fun (v8 : Int32) => bdp (f_X12_isSign v8 s4) (fun (v9 : Int32) => if (v9 : Int32) = 0 then bd (f_X12_wrongs 1 (s4 56 30) s4) (fun (_v11 : Int32) (s12 : SS) => some (0, s12)) else bd (f_X12_puts v8 s4) (fun (_v13 : Int32) (s14 : SS) => bd (f_X12_value s14) (fun (_v15 : Int32) (s16 : SS) => bdp (f_X12_isGood s16) (fun (v17 : Int32) => if (v17 : Int32) = 0 then some (0, s16) else bdp (f_X12_top s16) (fun (v19 : Int32) => bd (f_X12_emit v19 0 s16) (fun (_v20 : Int32) (s21 : SS) => lts (up s21 56 36 ((s21 56 36) - 1)) (fun (s22 : SS) => bd (f_X12_ends s22) (fun (_v23 : Int32) (s24 : SS) => some (0, s24)))))))))))) (fun (k5 : SS → Res) => if (v3 : Int32) = 0 then k5 s1 else bd (f_X12_value s1) (fun (_v26 : Int32) (s27 : SS) => k5 s27)))
noncomputable def CKK (N : Nat) (v9 : Int32) (s15 : SS) : Res := bdp (f_X12_isGood s15) (fun (v17 : Int32) => if (v17 : Int32) = 0 then lp_X12_condition_37 N v9 s15 else bd (f_X12_goesBehind s15) (fun (v19 : Int32) (s20 : SS) => lp_X12_condition_37 N v19 s20))
noncomputable def VCM (M N : Nat) (s : SS) : Res := bd (lp_X12_pieceOfC_0 PK M s) (fun (_v22 : Int32) (s23 : SS) => CKK N 1 s23)
noncomputable def CKG (N : Nat) (s15 : SS) : Res := bd (f_X12_goesBehind s15) (fun (v19 : Int32) (s20 : SS) => lp_X12_condition_37 N v19 s20)
noncomputable def CLS (N : Nat) (s6 : SS) : Res := bd (lts (up s6 56 36 ((s6 56 36) - 1)) (fun (s15 : SS) => lts (up s15 56 35 ((s15 56 35) - 1)) (fun (s16 : SS) => lts (up s16 56 30 ((s16 56 30) + 1)) (fun (s17 : SS) => jn (fun (v18 : Int32) => gd ((v18 : Int32) = 0 ∨ (v18 : Int32) = 1) (lts (up s17 56 37 v18) (fun (s21 : SS) => if (s21 56 37 : Int32) = 0 then bd (f_X12_ends s21) (fun (_v23 : Int32) (s24 : SS) => some (0, s24)) else some (0, s21)))) (fun (k19 : Int32 → Res) => if (s17 56 36 : Int32) = 0 then k19 1 else k19 0))))) (fun (v19 : Int32) (s20 : SS) => lp_X12_condition_37 N v19 s20)
theorem cl_in {N p k j o : Nat} (h : RPS ch n p k j o s) (h7 : s 56 37 = 0) : lp_X12_condition_37 (N + 1) 1 s = VCM FU N s := by
  rw [lp_X12_condition_37]
  refine e_bdp (rp_good h) ?_
  refine e_if_f (by decide) ?_
  refine e_if_t h7 ?_
  refine e_jn ?_
  exact e_if_f (by decide) rfl
theorem cl_be {N : Nat} (h : f_X12_isGood s = some 1) (h7 : s 56 37 = 0) : lp_X12_condition_37 (N + 1) 0 s = CKG N s := by
  rw [lp_X12_condition_37]
  refine e_bdp (h) ?_
  refine e_if_f (by decide) ?_
  refine e_if_t h7 ?_
  refine e_jn ?_
  refine e_if_t rfl ?_
  refine e_bdp (h) ?_
  exact e_if_f (by decide) rfl
theorem cl_f {f N : Nat} {v : Int32} (h : FLR f s) (hN : 0 < N) : lp_X12_condition_37 N v s = some (0, s) := by
  obtain ⟨N, rfl⟩ : ∃ M, N = M + 1 := ⟨N - 1, by omega⟩
  rw [lp_X12_condition_37]
  refine e_bdp h.bad ?_
  exact e_if_t rfl rfl
theorem CKK_f {f N : Nat} {v : Int32} (h : FLR f s) (hN : 0 < N) : CKK N v s = some (0, s) := by
  unfold CKK
  refine e_bdp h.bad ?_
  exact e_if_t rfl (cl_f h hN)
theorem CKK_g {N : Nat} {v : Int32} (h : f_X12_isGood s = some 1) : CKK N v s = CKG N s := by
  unfold CKK
  refine e_bdp h ?_
  exact e_if_f (by decide) rfl
theorem VCM_f {f M N : Nat} (h : FLR f s) (hM : 0 < M) (hN : 0 < N) : VCM M N s = some (0, s) := by
  obtain ⟨M, rfl⟩ : ∃ Z, M = Z + 1 := ⟨M - 1, by omega⟩
  unfold VCM
  refine e_bd (v := 0) (t := s) ?_ (CKK_f h hN)
  rw [lp_X12_pieceOfC_0]
  refine e_bdp h.bad ?_
  refine e_if_t rfl ?_
  unfold PK
  refine e_bdp h.bad ?_
  refine e_jn ?_
  refine e_if_t rfl ?_
  refine e_bdp h.bad ?_
  exact e_if_t rfl rfl
/-- a top below which a value may stand -/
def BT (c : Nat) : Prop := ¬ isT c ∧ ¬ isP c ∧ c ≠ 91
theorem cmp_r (hc : OKC ch n) {d p k j c : Nat} (hd : d ≤ 6) (hs : RPS ch n p k j d s) (hb : TPV j s c) (hb2 : BT c) : (∀ f, pCmp ch d p = .error f → ∃ t, PK s = some (0, t) ∧ FLR f t ∧ FRR s t) ∧ ∀ q, pCmp ch d p = .ok q → (ch q.1 = 93 ∧ p < q.1 ∧ ∃ t, PK s = some (0, t) ∧ FLR (1000 + q.1) t ∧ FRR s t) ∨ ∃ t k2, (∀ t', lp_X12_ends_0 FU t = some (0, t') → PK s = some (0, t')) ∧ p < q.1 ∧ RPS ch n q.1 k2 j d t ∧ KPP k j s t ∧ RE (t 75) (t 76) k k2 q.2 := by
  have hn := hc.1
  obtain ⟨v1, v2⟩ := rf_value hc hd hs hb hb2.1 hb2.2.1 hb2.2.2
  have head : ∀ s27 r, f_X12_value s = some (0, s27) → (bdp (f_X12_isGood s27) (fun (v6 : Int32) => if (v6 : Int32) = 0 then some (0, s27) else bdp (f_X12_here s27) (fun (v8 : Int32) => bdp (f_X12_isSign v8 s27) (fun (v9 : Int32) => if (v9 : Int32) = 0 then bd (f_X12_wrongs 1 (s27 56 30) s27) (fun (_v11 : Int32) (s12 : SS) => some (0, s12)) else bd (f_X12_puts v8 s27) (fun (_v13 : Int32) (s14 : SS) => bd (f_X12_value s14) (fun (_v15 : Int32) (s16 : SS) => bdp (f_X12_isGood s16) (fun (v17 : Int32) => if (v17 : Int32) = 0 then some (0, s16) else bdp (f_X12_top s16) (fun (v19 : Int32) => bd (f_X12_emit v19 0 s16) (fun (_v20 : Int32) (s21 : SS) => lts (up s21 56 36 ((s21 56 36) - 1)) (fun (s22 : SS) => bd (f_X12_ends s22) (fun (_v23 : Int32) (s24 : SS) => some (0, s24)))))))))))) = r → PK s = r := by
    intro s27 r h1 h2
    unfold PK
    refine e_bdp (rp_good hs) ?_
    refine e_jn ?_
    refine e_if_f (by decide) ?_
    exact e_bd h1 h2
  unfold pCmp
  cases c1 : pSum ch (8 - d) d p with
  | error f =>
    obtain ⟨t, a1, a2, a3⟩ := v1 f c1
    refine ⟨fun f2 w => ?_, (fun q w => by cases w)⟩
    cases w
    exact ⟨t, head t _ a1 (e_bdp a2.bad (e_if_t rfl rfl)), a2, a3⟩
  | ok r =>
    obtain ⟨w0, w1, w2⟩ := v2 r c1
    show (∀ f, (if isS (ch r.1) then (match pSum ch (8 - d) d (r.1 + 1) with | .error f => .error f | .ok r2 => .ok (r2.1, binE (ch r.1) r.2 r2.2)) else .error (1000 + r.1) : RSL) = .error f → _) ∧ ∀ q, (if isS (ch r.1) then (match pSum ch (8 - d) d (r.1 + 1) with | .error f => .error f | .ok r2 => .ok (r2.1, binE (ch r.1) r.2 r2.2)) else .error (1000 + r.1) : RSL) = .ok q → _
    by_cases q93 : ch r.1 = 93
    · rw [if_neg (by unfold isS; omega)]
      obtain ⟨t, a1, a2, a3⟩ := w1 q93
      refine ⟨fun f2 w => ?_, (fun q w => by cases w)⟩
      cases w
      exact ⟨t, head t _ a1 (e_bdp a2.bad (e_if_t rfl rfl)), a2, a3⟩
    · obtain ⟨t, k2, a1, a2, a3, a4, a5, a6, a7⟩ := w2 q93
      by_cases qS : isS (ch r.1)
      · rw [if_pos qS]
        have hq := ch_lt hc (p := r.1) (by unfold isS at qS; omega)
        obtain ⟨t2, p1, p2, p3, p4, p5, p6⟩ := puts_g a3 hn hq (iI (ch r.1))
        have hb3 : TPV (j + 1) t2 (ch r.1) := ⟨hc.2.1 _, Or.inr ⟨by omega, p3⟩⟩
        obtain ⟨x1, x2⟩ := rf_value hc hd p2 hb3 (by unfold isS at qS; unfold isT; omega) (by unfold isS at qS; unfold isP; omega) (by unfold isS at qS; omega)
        have head2 : ∀ s16 z, f_X12_value t2 = some (0, s16) → (bdp (f_X12_isGood s16) (fun (v17 : Int32) => if (v17 : Int32) = 0 then some (0, s16) else bdp (f_X12_top s16) (fun (v19 : Int32) => bd (f_X12_emit v19 0 s16) (fun (_v20 : Int32) (s21 : SS) => lts (up s21 56 36 ((s21 56 36) - 1)) (fun (s22 : SS) => bd (f_X12_ends s22) (fun (_v23 : Int32) (s24 : SS) => some (0, s24))))))) = z → PK s = z := by
          intro s16 z h1 h2
          refine head t z a1 ?_
          refine e_bdp (rp_good a3) ?_
          refine e_if_f (by decide) ?_
          refine e_bdp (rp_here hc a3) ?_
          refine e_bdp (sign_f (hc.2.1 _) t) ?_
          rw [if_pos qS]
          refine e_if_f (by decide) ?_
          refine e_bd p1 ?_
          exact e_bd h1 h2
        cases c2 : pSum ch (8 - d) d (r.1 + 1) with
        | error f =>
          obtain ⟨t3, b1, b2, b3⟩ := x1 f c2
          refine ⟨fun f2 w => ?_, (fun q w => by cases w)⟩
          cases w
          exact ⟨t3, head2 t3 _ b1 (e_bdp b2.bad (e_if_t rfl rfl)), b2, (a4.1.tr p4.1).tr b3⟩
        | ok r2 =>
          obtain ⟨y0, y1, y2⟩ := x2 r2 c2
          refine ⟨(fun f2 w => by cases w), fun q w => ?_⟩
          cases w
          by_cases z93 : ch r2.1 = 93
          · obtain ⟨t3, b1, b2, b3⟩ := y1 z93
            exact Or.inl ⟨z93, by show p < r2.1; omega, t3, head2 t3 _ b1 (e_bdp b2.bad (e_if_t rfl rfl)), b2, (a4.1.tr p4.1).tr b3⟩
          · obtain ⟨t3, k3, b1, b2, b3, b4, b5, b6, b7⟩ := y2 z93
            have hb4 : TPV (j + 1) t3 (ch r.1) := hb3.kp b4
            obtain ⟨g1, g2, g3, g4, g5, g6⟩ := poS_g b3 (iI (ch r.1)) 0
            have l5 := a5.1
            have l6 := b5.1
            refine Or.inr ⟨poS t3 k3 j (iI (ch r.1)) 0, k3 + 1, fun t' ht => ?_, by show p < r2.1; omega, g1, (a4.tr (p4.lo (by omega) (by omega))).tr ((b4.lo (by omega) (by omega)).tr (g2.lo (by omega) (by omega))), ?_⟩
            · refine head2 t3 _ b1 ?_
              refine e_bdp (rp_good b3) ?_
              refine e_if_f (by decide) ?_
              refine e_bdp (top_f hn b3 hb4) ?_
              refine e_bd (emit_g b3.2.2.1 b3.2.2.2.1 (by have := b3.2.2.2.2.2.2.2; omega) _ _) ?_
              rw [emS_56 (by omega), b3.2.2.2.2.2.1, pr_s]
              refine e_lts ?_
              exact e_bd (v := 0) (t := t') ht rfl
            · refine RE_bin (a5.of (fun i x z => ?_)) (b5.of (fun i x z => g2.2.2 i z)) (ops_S qS) g5
              have z1 := g2.2.2 i (by omega)
              have z2 := b4.2.2 i z
              have z3 := p4.2.2 i z
              exact ⟨(z1.1.trans z2.1).trans z3.1, (z1.2.trans z2.2).trans z3.2⟩
      · rw [if_neg qS]
        obtain ⟨e1, e2⟩ := wrongs_g a3 hn (c := 1) (by omega)
        refine ⟨fun f2 w => ?_, (fun q w => by cases w)⟩
        cases w
        refine ⟨_, head t _ a1 ?_, e2, a4.1.tr (KPP.u56 (k := 0) (j := 0) (by omega)).1⟩
        refine e_bdp (rp_good a3) ?_
        refine e_if_f (by decide) ?_
        refine e_bdp (rp_here hc a3) ?_
        refine e_bdp (sign_f (hc.2.1 _) t) ?_
        rw [if_neg qS]
        refine e_if_t rfl ?_
        rw [a3.1]
        exact e_bd e1 rfl
/-- the ends -/
theorem en_stop {p k j o c M : Nat} (hn : n ≤ 200) (h : RPS ch n p k j o s) (ht : TPV j s c) (hc : c ≠ 33) : lp_X12_ends_0 (M + 1) s = some (0, s) := by
  rw [lp_X12_ends_0]
  refine e_bdp (top_f hn h ht) ?_
  exact e_if_f (by rw [show (33 : Int32) = iI ((33 : Nat) : Int) from rfl, cis ht.1 (by omega)]; exact hc) rfl
noncomputable def noS (s : SS) (k j o : Nat) : SS := up (poS s k j 2 0) 56 35 (iI (o : Int))
theorem noS_g {p k j o : Nat} (h : RPS ch n p k (j + 1) (o + 1) s) : RPS ch n p (k + 1) j o (noS s k j o) ∧ KPP k j s (noS s k j o) ∧ noS s k j o 75 k = 2 := by
  obtain ⟨g1, g2, g3, g4, g5, g6⟩ := poS_g h 2 0
  obtain ⟨a1, a2, a3, a4, a5, a6, a7, a8, a9⟩ := g1
  unfold noS
  refine ⟨⟨?_, ?_, ?_, ?_, up_at _ _ _ _, ?_, ?_, a8, a9⟩, g2.tr (KPP.u56 (by omega)), ?_⟩
  · rw [up_slot (by omega)]; exact a1
  · rw [up_slot (by omega)]; exact a2
  · rw [up_slot (by omega)]; exact a3
  · rw [up_slot (by omega)]; exact a4
  · rw [up_slot (by omega)]; exact a6
  · rw [up_cell (by omega)]; exact a7
  · rw [up_cell (by omega)]; exact g5
theorem en_pop {p k j o M : Nat} (hn : n ≤ 200) (h : RPS ch n p k (j + 1) (o + 1) s) (ht : s 77 j = 33) : lp_X12_ends_0 (M + 1) s = lp_X12_ends_0 M (noS s k j o) := by
  have tp : f_X12_top s = some 33 := top_f (c := 33) hn h ⟨by omega, Or.inr ⟨by omega, ht⟩⟩
  rw [lp_X12_ends_0]
  refine e_bdp tp ?_
  refine e_if_t rfl ?_
  refine e_bd (emit_g h.2.2.1 h.2.2.2.1 (by have := h.2.2.2.2.2.2.2; omega) _ _) ?_
  rw [emS_56 (by omega), h.2.2.2.2.2.1, pr_s]
  refine e_lts ?_
  rw [show up (emS s k 2 0) 56 36 (iI (j : Int)) 56 35 = iI ((o + 1 : Nat) : Int) by rw [up_slot (by omega), emS_56 (by omega)]; exact h.2.2.2.2.1, pr_s]
  exact e_lts rfl
/-- the joins -/
theorem jo_pop {a : Int32} {p k j o c M : Nat} (hn : n ≤ 200) (h : RPS ch n p k (j + 1) o s) (ht : TPV (j + 1) s c) (hc : c = 38 ∨ (a = 1 ∧ c = 124)) : lp_X12_joins_0 a (M + 1) s = lp_X12_joins_0 a M (poS s k j (iI c) 0) := by
  have tp := top_f hn h ht
  have body : bdp (f_X12_top s) (fun (v5 : Int32) => bd (f_X12_emit v5 0 s) (fun (_v6 : Int32) (s7 : SS) => lts (up s7 56 36 ((s7 56 36) - 1)) (fun (s8 : SS) => lp_X12_joins_0 a M s8))) = lp_X12_joins_0 a M (poS s k j (iI c) 0) := by
    refine e_bdp tp ?_
    refine e_bd (emit_g h.2.2.1 h.2.2.2.1 (by have := h.2.2.2.2.2.2.2; omega) _ _) ?_
    rw [emS_56 (by omega), h.2.2.2.2.2.1, pr_s]
    exact e_lts rfl
  rw [lp_X12_joins_0]
  refine e_bdp tp ?_
  refine e_jn ?_
  by_cases q : c = 38
  · exact e_if_t (by rw [q]; rfl) body
  · obtain ⟨q2, q3⟩ := hc.resolve_left q
    refine e_if_f (by rw [q3]; decide) ?_
    refine e_if_f (by rw [q2]; decide) ?_
    refine e_bdp tp ?_
    exact e_if_t (by rw [q3]; rfl) body
theorem jo_stop {a : Int32} {p k j o c M : Nat} (hn : n ≤ 200) (h : RPS ch n p k j o s) (ht : TPV j s c) (h1 : c ≠ 38) (h2 : a = 0 ∨ c ≠ 124) : lp_X12_joins_0 a (M + 1) s = some (0, s) := by
  have tp := top_f hn h ht
  have e38 : ¬ iI (c : Int) = 38 := by rw [show (38 : Int32) = iI ((38 : Nat) : Int) from rfl, cis ht.1 (by omega)]; exact h1
  rw [lp_X12_joins_0]
  refine e_bdp tp ?_
  refine e_jn ?_
  refine e_if_f e38 ?_
  by_cases q : a = 0
  · exact e_if_t q rfl
  · refine e_if_f q ?_
    refine e_bdp tp ?_
    exact e_if_f (by rw [show (124 : Int32) = iI ((124 : Nat) : Int) from rfl, cis ht.1 (by omega)]; exact h2.resolve_left q) rfl
/-- what a piece leaves -/
def QOK (ch : Nat → Nat) (n : Nat) (res : RSL) (p k j o N : Nat) (s : SS) (r : Res) : Prop := (∀ f, res = .error f → ∃ t, r = some (0, t) ∧ FLR f t ∧ FRR s t) ∧ ∀ q, res = .ok q → p < q.1 ∧ BLE q.2 ∧ ((ch q.1 = 93 ∧ ∃ t, r = some (0, t) ∧ FLR (1000 + q.1) t ∧ FRR s t) ∨ ∃ t k2 N2 M2, (∀ t', lp_X12_ends_0 M2 t = some (0, t') → f_X12_isGood t' = some 1 → t' 56 37 = 0 → r = CKG N2 t') ∧ FU + o ≤ M2 + 10 ∧ N + p ≤ N2 + q.1 ∧ RPS ch n q.1 k2 j o t ∧ KPP k j s t ∧ RE (t 75) (t 76) k k2 q.2)
