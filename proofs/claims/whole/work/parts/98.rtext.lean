/-! the reference reads a clause, a text -/
variable {ch : Nat → Nat} {n : Nat} {s t u : SS}
def FRX (s t : SS) : Prop := (∀ q, (q < 71 ∧ q ≠ 56) ∨ 77 < q → t q = s q) ∧ ∀ i, i < 30 ∨ 38 < i → t 56 i = s 56 i
theorem FRX.rf (s : SS) : FRX s s := ⟨fun _ _ => rfl, fun _ _ => rfl⟩
theorem FRX.tr (h : FRX s t) (g : FRX t u) : FRX s u := ⟨fun q a => (g.1 q a).trans (h.1 q a), fun i a => (g.2 i a).trans (h.2 i a)⟩
theorem FRR.x (h : FRR s t) : FRX s t := ⟨fun q a => h.1 q (by omega) (by omega) (by omega) (by omega), fun i a => h.2 i (by omega) (by omega) (by omega) (by omega) (by omega) (by omega)⟩
theorem FRX.uu {i : Nat} {v : Int32} (h : 30 ≤ i ∧ i ≤ 38) : FRX s (up s 56 i v) := ⟨fun q a => up_cell (by omega), fun w a => up_slot (by omega)⟩
theorem FRX.c {q i : Nat} {v : Int32} (h : 71 ≤ q ∧ q ≤ 77) : FRX s (up s q i v) := ⟨fun q a => up_cell (by omega), fun w a => by rw [up_cell (by omega)]⟩
/-- a clause that stands in the cells a, a+1, a+2, a+3 -/
def TRE (CA : Nat) (CD AR : Nat → Int32) (s : SS) (k i : Nat) (c : CL) : Prop := ∃ a m z : Nat, s CA i = iI c.1 ∧ (c.1 = 118 ∨ c.1 = 109) ∧ s (CA + 1) i = iI a ∧ s (CA + 2) i = iI m ∧ s (CA + 3) i = iI z ∧ z ≤ k ∧ RE CD AR a m c.2.1 ∧ RE CD AR m z c.2.2 ∧ BLE c.2.2
def TR (cs : List CL) (k : Nat) (s : SS) : Prop := cs.length ≤ 14 ∧ s 56 33 = iI cs.length ∧ ∀ (i : Nat) (c : CL), cs[i]? = some c → TRE 71 (s 75) (s 76) s k i c
def RTX (ch : Nat → Nat) (n p k : Nat) (s : SS) : Prop := s 56 30 = iI p ∧ s 56 31 = iI n ∧ s 56 32 = 0 ∧ s 56 34 = iI k ∧ (∀ i, i < n → s 57 i = iI (sby (ch i))) ∧ k ≤ p ∧ p ≤ n
theorem rx_good {p k : Nat} (h : RTX ch n p k s) : f_X12_isGood s = some 1 := if_pos h.2.2.1
theorem rx_here {p k : Nat} (hc : OKC ch n) (h : RTX ch n p k s) : f_X12_here s = some (iI (ch p)) := by
  have hn := hc.1
  obtain ⟨h1, h2, h3, h4, h7, h8, h9⟩ := h
  unfold f_X12_here
  rw [h1, h2]
  by_cases q : p < n
  · refine e_if_f (by simp (disch := omega) only [Int.toNat_natCast, iI_lt, iI_le, iI_eq, iI_add, iI_sub, iI_mul, iI_neg, iI_clamp, inb_ii]; omega) ?_
    refine e_gd (by simp (disch := omega) only [Int.toNat_natCast, iI_lt, iI_le, iI_eq, iI_add, iI_sub, iI_mul, iI_neg, iI_clamp, inb_ii]; omega) ?_
    rw [iI_clamp (by omega), Int.toNat_natCast, h7 p q, by_255 _ (hc.2.1 p)]
  · refine e_if_t (by simp (disch := omega) only [Int.toNat_natCast, iI_lt, iI_le, iI_eq, iI_add, iI_sub, iI_mul, iI_neg, iI_clamp, inb_ii]; omega) ?_
    rw [hc.2.2 p (by omega)]
    rfl
theorem rx_wrongs {p k : Nat} (h : RTX ch n p k s) (hn : n ≤ 200) {c : Nat} (hc : 1 ≤ c ∧ c ≤ 5) : f_X12_wrongs (iI c) (iI p) s = some (0, up s 56 32 (iI (-((1000 * c + p : Nat) : Int)))) ∧ FLR (1000 * c + p) (up s 56 32 (iI (-((1000 * c + p : Nat) : Int)))) := by
  obtain ⟨h1, h2, h3, h4, h7, h8, h9⟩ := h
  refine ⟨?_, up_at _ _ _ _, by omega, by omega⟩
  unfold f_X12_wrongs
  refine e_jn ?_
  refine e_if_t (by rw [h3]; decide) ?_
  rw [z_m1000, iI_mul, iI_sub, show (-1000 : Int) * (c : Int) - (p : Int) = -((1000 * c + p : Nat) : Int) by omega]
  exact e_lts rfl
theorem rf_condition (hc : OKC ch n) {p k : Nat} (hs : RPS ch n p k 0 0 s) : (ch p ≠ 40 → ∃ t, f_X12_condition s = some (0, t) ∧ FLR (1000 + p) t ∧ FRX s t ∧ t 56 33 = s 56 33 ∧ t 71 = s 71 ∧ t 72 = s 72 ∧ t 73 = s 73 ∧ t 74 = s 74) ∧ (ch p = 40 → (∀ f, pAny ch (pPc ch 7 1) (p + 1) = .error f → ∃ t, f_X12_condition s = some (0, t) ∧ FLR f t ∧ FRX s t ∧ t 56 33 = s 56 33 ∧ t 71 = s 71 ∧ t 72 = s 72 ∧ t 73 = s 73 ∧ t 74 = s 74) ∧ ∀ q, pAny ch (pPc ch 7 1) (p + 1) = .ok q → p + 1 < q.1 ∧ BLE q.2 ∧ (ch q.1 ≠ 41 → ∃ t, f_X12_condition s = some (0, t) ∧ FLR (1000 + q.1) t ∧ FRX s t ∧ t 56 33 = s 56 33 ∧ t 71 = s 71 ∧ t 72 = s 72 ∧ t 73 = s 73 ∧ t 74 = s 74) ∧ (ch q.1 = 41 → ∃ t k2, f_X12_condition s = some (0, t) ∧ RPS ch n (q.1 + 1) k2 0 0 t ∧ FRX s t ∧ t 56 33 = s 56 33 ∧ t 71 = s 71 ∧ t 72 = s 72 ∧ t 73 = s 73 ∧ t 74 = s 74 ∧ (∀ i, i < k → t 75 i = s 75 i ∧ t 76 i = s 76 i) ∧ RE (t 75) (t 76) k k2 q.2)) := by
  have hn := hc.1
  have mf3 := fu_lt (n := 1000) (by omega)
  have e40 : (iI (ch p : Int) = 40) = (ch p = 40) := cis (q := 40) (hc.2.1 p) (by omega)
  have hs1 := hs.u38 (i := 37) (v := 0) (by omega)
  have hpn := hs.2.2.2.2.2.2.2.2
  have fx : ∀ t, FRR (up s 56 37 0) t → FRX s t ∧ t 56 33 = s 56 33 ∧ t 71 = s 71 ∧ t 72 = s 72 ∧ t 73 = s 73 ∧ t 74 = s 74 := by
    intro t h
    refine ⟨(FRX.uu (by omega)).tr h.x, ?_, ?_, ?_, ?_, ?_⟩
    · rw [h.2 33 (by omega) (by omega) (by omega) (by omega) (by omega) (by omega), up_slot (by omega)]
    · rw [h.1 71 (by omega) (by omega) (by omega) (by omega), up_cell (by omega)]
    · rw [h.1 72 (by omega) (by omega) (by omega) (by omega), up_cell (by omega)]
    · rw [h.1 73 (by omega) (by omega) (by omega) (by omega), up_cell (by omega)]
    · rw [h.1 74 (by omega) (by omega) (by omega) (by omega), up_cell (by omega)]
  refine ⟨fun y => ?_, fun y => ?_⟩
  · obtain ⟨w1, w2⟩ := wrongs_g hs1 hn (c := 1) (by omega)
    refine ⟨_, ?_, w2, fx _ (KPP.u56 (k := 0) (j := 0) (by omega)).1⟩
    unfold f_X12_condition
    refine e_lts ?_
    refine e_bdp (rp_here hc hs1) ?_
    refine e_jn ?_
    refine e_if_f (mt e40.mp y) ?_
    rw [hs1.1]
    refine e_bd w1 ?_
    refine e_bdp w2.bad ?_
    exact e_if_t rfl rfl
  · have hp := ch_lt hc (p := p) (by omega)
    obtain ⟨t, f1, f2, f3, f4, f5, f6⟩ := (opens_g hc hs1 hp (by omega)).1 (by omega)
    have t37 : t 56 37 = 0 := f6.trans (up_at _ _ _ _)
    obtain ⟨MF, mf1, mf2⟩ := fu_2
    have head : ∀ r, VCM FU (MF + 1) t = r → f_X12_condition s = r := by
      intro r hr
      unfold f_X12_condition
      refine e_lts ?_
      refine e_bdp (rp_here hc hs1) ?_
      refine e_jn ?_
      refine e_if_t (e40.mpr y) ?_
      refine e_bdp (rp_good hs1) ?_
      refine e_if_f (by decide) ?_
      refine e_bd f1 ?_
      rw [← hr]
      conv => lhs; rw [mf1]
      exact cl_in f2 t37
    have hb := rf_any (M := FU) (N := MF + 1) hc (rf_pc hc 6 1 (by omega) (by omega)) (by omega) (by omega) f2 t37 ⟨by omega, Or.inr ⟨by omega, by rw [show 0 + 1 - 1 = 0 from rfl, f3, y]⟩⟩ (by omega) (by omega)
    refine ⟨fun f e => ?_, fun q e => ?_⟩
    · obtain ⟨t3, a1, a2, a3⟩ := hb.1 f e
      exact ⟨t3, head _ a1, a2, fx _ (f4.1.tr a3)⟩
    · obtain ⟨x1, x2, x3, x4⟩ := hb.2 q e
      refine ⟨x1, x2, fun z => ?_, fun z => ?_⟩
      · obtain ⟨t3, a1, a2, a3⟩ := x3 z
        exact ⟨t3, head _ a1, a2, fx _ (f4.1.tr a3)⟩
      · obtain ⟨t3, k4, N3, z1, z3, z4, z5, z6⟩ := x4 z
        have hr := ch_lt hc (p := q.1) (by omega)
        have l6 := z6.1
        obtain ⟨N3, rfl⟩ : ∃ Z, N3 = Z + 1 := ⟨N3 - 1, by omega⟩
        obtain ⟨a1, a2, a3, a4, a5, a6, a7, a8, a9⟩ := z4
        let t4 : SS := up (up (up (up t3 56 36 (iI ((0 : Nat) : Int))) 56 35 (iI ((0 : Nat) : Int))) 56 30 (iI ((q.1 + 1 : Nat) : Int))) 56 37 1
        have F3 := fx t3 (f4.1.tr z5.1)
        have F4 : FRX t3 t4 := (((FRX.uu (by omega)).tr (FRX.uu (by omega))).tr (FRX.uu (by omega))).tr (FRX.uu (by omega))
        refine ⟨t4, k4, head _ ?_, ⟨rfl, a2, a3, a4, rfl, rfl, a7, by omega, by omega⟩, F3.1.tr F4, ?_, F3.2.2.1, F3.2.2.2.1, F3.2.2.2.2.1, F3.2.2.2.2.2, fun i hi => ?_, z6.of (fun i x w => ⟨rfl, rfl⟩)⟩
        · rw [z1]
          unfold CLS
          refine e_bd (v := 0) (t := t4) ?_ ?_
          · rw [a6, pr_s]
            refine e_lts ?_
            rw [show (up t3 56 36 (iI ((0 : Nat) : Int))) 56 35 = iI ((0 + 1 : Nat) : Int) from a5, pr_s]
            refine e_lts ?_
            rw [show (up (up t3 56 36 (iI ((0 : Nat) : Int))) 56 35 (iI ((0 : Nat) : Int))) 56 30 = iI q.1 from a1, nx_s]
            refine e_lts ?_
            refine e_jn ?_
            refine e_if_t rfl ?_
            refine e_gd (Or.inr rfl) ?_
            refine e_lts ?_
            exact e_if_f (show ¬ (1 : Int32) = 0 by decide) rfl
          · rw [lp_X12_condition_37]
            refine e_bdp (show f_X12_isGood t4 = some 1 from if_pos a3) ?_
            refine e_if_f (by decide) ?_
            exact e_if_f (show ¬ (1 : Int32) = 0 by decide) rfl
        · show t3 56 33 = _
          exact F3.2.1
        · show t3 75 i = _ ∧ t3 76 i = _
          have y1 := z5.2.2 i hi
          have y2 := f4.2.2 i hi
          rw [up_cell (by omega), up_cell (by omega)] at y2
          exact ⟨y1.1.trans y2.1, y1.2.trans y2.2⟩
theorem rf_clause (hc : OKC ch n) {cs : List CL} {p k : Nat} (hs : RTX ch n p k s) (ht : TR cs k s) : ∃ t, f_X12_clause s = some (0, t) ∧ FRX s t ∧ (∀ f, pCl ch cs.length p = .error f → FLR f t) ∧ ∀ r, pCl ch cs.length p = .ok r → ∃ k2, RTX ch n r.1 k2 t ∧ TR (cs ++ [r.2]) k2 t := by
  have hn := hc.1
  have hl := ht.1
  have h33 := ht.2.1
  have hpn := hs.2.2.2.2.2.2
  have hkp := hs.2.2.2.2.2.1
  have e118 : (iI (ch p : Int) = 118) = (ch p = 118) := cis (q := 118) (hc.2.1 p) (by omega)
  have e109 : (iI (ch p : Int) = 109) = (ch p = 109) := cis (q := 109) (hc.2.1 p) (by omega)
  have c14 : (14 : Int32) = iI 14 := rfl
  unfold pCl
  by_cases q0 : ch p = 118 ∨ ch p = 109
  · rw [if_pos q0]
    have hp := ch_lt hc (p := p) (by omega)
    by_cases q1 : cs.length < 14
    · rw [if_pos q1]
      have gi : inb (iI (cs.length : Int)) 14 := by simp (disch := omega) only [Int.toNat_natCast, iI_lt, iI_le, iI_eq, iI_add, iI_sub, iI_mul, iI_neg, iI_clamp, inb_ii]; omega
      have ci : Int32.toNatClampNeg (iI (cs.length : Int)) = cs.length := by rw [iI_clamp (by omega), Int.toNat_natCast]
      let s10 : SS := up (up (up (up (up s 71 cs.length (iI (ch p))) 72 cs.length (iI k)) 56 30 (iI ((p + 1 : Nat) : Int))) 56 36 0) 56 35 0
      have F10 : FRX s s10 := ((((FRX.c (by omega)).tr (FRX.c (by omega))).tr (FRX.uu (by omega))).tr (FRX.uu (by omega))).tr (FRX.uu (by omega))
      obtain ⟨a1, a2, a3, a4, a7, a8, a9⟩ := hs
      have g10 : RPS ch n (p + 1) k 0 0 s10 := ⟨rfl, a2, a3, a4, rfl, rfl, a7, by omega, by omega⟩
      have hs : RTX ch n p k s := ⟨a1, a2, a3, a4, a7, a8, a9⟩
      obtain ⟨v1, v2⟩ := rf_value (d := 0) (c := 0) hc (by omega) g10 ⟨by omega, Or.inl ⟨rfl, rfl⟩⟩ (by decide) (by decide) (by decide)
      have s1033 : s10 56 33 = iI cs.length := h33
      have head : ∀ s12 r, f_X12_value s10 = some (0, s12) → s12 56 33 = iI cs.length → (bdp (f_X12_isGood (up s12 73 cs.length (s12 56 34))) (fun (v14 : Int32) => jn (fun (s15 : SS) => gd (inb (s15 56 33) 14) (lts (up s15 74 (Int32.toNatClampNeg (s15 56 33)) (s15 56 34)) (fun (s17 : SS) => lts (up s17 56 33 ((s17 56 33) + 1)) (fun (s18 : SS) => some ((0 : Int32), s18))))) (fun (k16 : SS → Res) => if (v14 : Int32) = 0 then k16 (up s12 73 cs.length (s12 56 34)) else bd (f_X12_condition (up s12 73 cs.length (s12 56 34))) (fun (_v20 : Int32) (s21 : SS) => k16 s21)))) = r → f_X12_clause s = r := by
        intro s12 r h1 h2 h3
        have k3 : (bdp (f_X12_isGood s) (fun (v4 : Int32) => if (v4 : Int32) = 0 then some (0, s) else gd (inb (s 56 33) 14) (lts (up s 71 (Int32.toNatClampNeg (s 56 33)) (iI (ch p))) (fun (s6 : SS) => gd (inb (s6 56 33) 14) (lts (up s6 72 (Int32.toNatClampNeg (s6 56 33)) (s6 56 34)) (fun (s7 : SS) => lts (up s7 56 30 ((s7 56 30) + 1)) (fun (s8 : SS) => lts (up s8 56 36 0) (fun (s9 : SS) => lts (up s9 56 35 0) (fun (s10 : SS) => bd (f_X12_value s10) (fun (v11 : Int32) (s12 : SS) => gd (inb (s12 56 33) 14) (lts (up s12 73 (Int32.toNatClampNeg (s12 56 33)) (s12 56 34)) (fun (s13 : SS) => bdp (f_X12_isGood s13) (fun (v14 : Int32) => jn (fun (s15 : SS) => gd (inb (s15 56 33) 14) (lts (up s15 74 (Int32.toNatClampNeg (s15 56 33)) (s15 56 34)) (fun (s17 : SS) => lts (up s17 56 33 ((s17 56 33) + 1)) (fun (s18 : SS) => some ((0 : Int32), s18))))) (fun (k16 : SS → Res) => if (v14 : Int32) = 0 then k16 s13 else bd (f_X12_condition s13) (fun (v20 : Int32) (s21 : SS) => k16 s21))))))))))))))) = r := by
          refine e_bdp (rx_good hs) ?_
          refine e_if_f (by decide) ?_
          rw [h33, ci]
          refine e_gd gi ?_
          refine e_lts ?_
          rw [show (up s 71 cs.length (iI (ch p))) 56 33 = iI cs.length from h33, ci]
          refine e_gd gi ?_
          rw [show (up s 71 cs.length (iI (ch p))) 56 34 = iI k from a4]
          refine e_lts ?_
          rw [show (up (up s 71 cs.length (iI (ch p))) 72 cs.length (iI k)) 56 30 = iI p from a1, nx_s]
          refine e_lts ?_
          refine e_lts ?_
          refine e_lts ?_
          refine e_bd h1 ?_
          rw [h2, ci]
          refine e_gd gi ?_
          refine e_lts ?_
          exact h3
        unfold f_X12_clause
        refine e_bdp (rx_here hc hs) ?_
        refine e_jn ?_
        refine e_jn ?_
        have k22 : ∀ (A : Res), (bdp (f_X12_isGood s) (fun (v4 : Int32) => if (v4 : Int32) = 0 then some (0, s) else gd (inb (s 56 33) 14) (lts (up s 71 (Int32.toNatClampNeg (s 56 33)) (iI (ch p))) (fun (s6 : SS) => gd (inb (s6 56 33) 14) (lts (up s6 72 (Int32.toNatClampNeg (s6 56 33)) (s6 56 34)) (fun (s7 : SS) => lts (up s7 56 30 ((s7 56 30) + 1)) (fun (s8 : SS) => lts (up s8 56 36 0) (fun (s9 : SS) => lts (up s9 56 35 0) (fun (s10 : SS) => bd (f_X12_value s10) (fun (v11 : Int32) (s12 : SS) => gd (inb (s12 56 33) 14) (lts (up s12 73 (Int32.toNatClampNeg (s12 56 33)) (s12 56 34)) (fun (s13 : SS) => bdp (f_X12_isGood s13) (fun (v14 : Int32) => jn (fun (s15 : SS) => gd (inb (s15 56 33) 14) (lts (up s15 74 (Int32.toNatClampNeg (s15 56 33)) (s15 56 34)) (fun (s17 : SS) => lts (up s17 56 33 ((s17 56 33) + 1)) (fun (s18 : SS) => some ((0 : Int32), s18))))) (fun (k16 : SS → Res) => if (v14 : Int32) = 0 then k16 s13 else bd (f_X12_condition s13) (fun (v20 : Int32) (s21 : SS) => k16 s21))))))))))))))) = r → (if (s 56 33 : Int32) = (14 : Int32) then A else (bdp (f_X12_isGood s) (fun (v4 : Int32) => if (v4 : Int32) = 0 then some (0, s) else gd (inb (s 56 33) 14) (lts (up s 71 (Int32.toNatClampNeg (s 56 33)) (iI (ch p))) (fun (s6 : SS) => gd (inb (s6 56 33) 14) (lts (up s6 72 (Int32.toNatClampNeg (s6 56 33)) (s6 56 34)) (fun (s7 : SS) => lts (up s7 56 30 ((s7 56 30) + 1)) (fun (s8 : SS) => lts (up s8 56 36 0) (fun (s9 : SS) => lts (up s9 56 35 0) (fun (s10 : SS) => bd (f_X12_value s10) (fun (v11 : Int32) (s12 : SS) => gd (inb (s12 56 33) 14) (lts (up s12 73 (Int32.toNatClampNeg (s12 56 33)) (s12 56 34)) (fun (s13 : SS) => bdp (f_X12_isGood s13) (fun (v14 : Int32) => jn (fun (s15 : SS) => gd (inb (s15 56 33) 14) (lts (up s15 74 (Int32.toNatClampNeg (s15 56 33)) (s15 56 34)) (fun (s17 : SS) => lts (up s17 56 33 ((s17 56 33) + 1)) (fun (s18 : SS) => some ((0 : Int32), s18))))) (fun (k16 : SS → Res) => if (v14 : Int32) = 0 then k16 s13 else bd (f_X12_condition s13) (fun (v20 : Int32) (s21 : SS) => k16 s21)))))))))))))))) = r := by
          intro A hA
          refine e_if_f ?_ hA
          rw [h33, c14]
          simp (disch := omega) only [Int.toNat_natCast, iI_lt, iI_le, iI_eq, iI_add, iI_sub, iI_mul, iI_neg, iI_clamp, inb_ii]
          omega
        by_cases y : ch p = 118
        · exact e_if_t (e118.mpr y) (k22 _ k3)
        · refine e_if_f (mt e118.mp y) ?_
          exact e_if_t (e109.mpr (by omega)) (k22 _ k3)
      have badv : ∀ (f : Nat) (s12 : SS), f_X12_value s10 = some (0, s12) → FLR f s12 → FRR s10 s12 → ∃ t, f_X12_clause s = some (0, t) ∧ FRX s t ∧ FLR f t := by
        intro f s12 h1 h2 h3
        have z33 : s12 56 33 = iI cs.length := by rw [h3.2 33 (by omega) (by omega) (by omega) (by omega) (by omega) (by omega)]; exact s1033
        have b13 : FLR f (up s12 73 cs.length (s12 56 34)) := by
          unfold FLR at h2 ⊢
          rw [up_cell (by omega)]
          exact h2
        refine ⟨up (up (up s12 73 cs.length (s12 56 34)) 74 cs.length (s12 56 34)) 56 33 (iI ((cs.length + 1 : Nat) : Int)), head s12 _ h1 z33 ?_, ?_, ?_⟩
        · refine e_bdp b13.bad ?_
          refine e_jn ?_
          refine e_if_t rfl ?_
          show gd (inb ((up s12 73 cs.length (s12 56 34)) 56 33) 14) _ = _
          rw [show (up s12 73 cs.length (s12 56 34)) 56 33 = iI cs.length from z33, ci]
          refine e_gd gi ?_
          refine e_lts ?_
          rw [show (up (up s12 73 cs.length (s12 56 34)) 74 cs.length ((up s12 73 cs.length (s12 56 34)) 56 34)) 56 33 = iI cs.length from z33, nx_s]
          exact e_lts rfl
        · exact (F10.tr h3.x).tr (((FRX.c (by omega)).tr (FRX.c (by omega))).tr (FRX.uu (by omega)))
        · exact (show FLR f (up (up s12 73 cs.length (s12 56 34)) 74 cs.length (s12 56 34)) by unfold FLR at b13 ⊢; rw [up_cell (by omega)]; exact b13).u56 (by omega)
      cases c1 : pSum ch 8 0 (p + 1) with
      | error f =>
        obtain ⟨s12, b1, b2, b3⟩ := v1 f c1
        obtain ⟨t, d1, d2, d3⟩ := badv f s12 b1 b2 b3
        exact ⟨t, d1, d2, (fun f2 w => by cases w; exact d3), (fun r w => by cases w)⟩
      | ok r =>
        obtain ⟨w0, w1, w2⟩ := v2 r c1
        show ∃ t, _ ∧ _ ∧ (∀ f, (if ch r.1 = 40 then (match pAny ch (pPc ch 7 1) (r.1 + 1) with
          | .error f => .error f
          | .ok r2 => if ch r2.1 = 41 then .ok (r2.1 + 1, ch p, r.2, r2.2) else .error (1000 + r2.1)) else .error (1000 + r.1) : RSC) = .error f → FLR f t) ∧ ∀ r', (if ch r.1 = 40 then (match pAny ch (pPc ch 7 1) (r.1 + 1) with
          | .error f => .error f
          | .ok r2 => if ch r2.1 = 41 then .ok (r2.1 + 1, ch p, r.2, r2.2) else .error (1000 + r2.1)) else .error (1000 + r.1) : RSC) = .ok r' → _
        by_cases q93 : ch r.1 = 93
        · rw [if_neg (by omega)]
          obtain ⟨s12, b1, b2, b3⟩ := w1 q93
          obtain ⟨t, d1, d2, d3⟩ := badv _ s12 b1 b2 b3
          exact ⟨t, d1, d2, (fun f2 w => by cases w; exact d3), (fun r w => by cases w)⟩
        · obtain ⟨s12, k2, b1, b2, b3, b4, b5, b6, b7⟩ := w2 q93
          have z33 : s12 56 33 = iI cs.length := by rw [b4.1.2 33 (by omega) (by omega) (by omega) (by omega) (by omega) (by omega)]; exact s1033
          have z34 : s12 56 34 = iI k2 := b3.2.2.2.1
          have l5 := b5.1
          have g13 : RPS ch n r.1 k2 0 0 (up s12 73 cs.length (s12 56 34)) := by
            unfold RPS at b3 ⊢
            rw [up_cell (by omega), up_cell (by omega)]
            exact b3
          have F13 : FRX s (up s12 73 cs.length (s12 56 34)) := (F10.tr b4.1.x).tr (FRX.c (by omega))
          obtain ⟨c1', c2'⟩ := rf_condition hc g13
          have fin : ∀ s21, f_X12_condition (up s12 73 cs.length (s12 56 34)) = some (0, s21) → s21 56 33 = iI cs.length → f_X12_clause s = some (0, up (up s21 74 cs.length (s21 56 34)) 56 33 (iI ((cs.length + 1 : Nat) : Int))) := by
            intro s21 h1 h2
            refine head s12 _ b1 z33 ?_
            refine e_bdp (rp_good g13) ?_
            refine e_jn ?_
            refine e_if_f (by decide) ?_
            refine e_bd h1 ?_
            show gd (inb (s21 56 33) 14) (lts (up s21 74 (Int32.toNatClampNeg (s21 56 33)) (s21 56 34)) _) = _
            rw [h2, ci]
            refine e_gd gi ?_
            refine e_lts ?_
            rw [show (up s21 74 cs.length (s21 56 34)) 56 33 = iI cs.length from h2, nx_s]
            exact e_lts rfl
          have badc : ∀ (f : Nat) (s21 : SS), f_X12_condition (up s12 73 cs.length (s12 56 34)) = some (0, s21) → FLR f s21 → FRX (up s12 73 cs.length (s12 56 34)) s21 → s21 56 33 = (up s12 73 cs.length (s12 56 34)) 56 33 → ∃ t, f_X12_clause s = some (0, t) ∧ FRX s t ∧ FLR f t := by
            intro f s21 h1 h2 h3 h4
            refine ⟨_, fin s21 h1 (h4.trans z33), (F13.tr h3).tr ((FRX.c (by omega)).tr (FRX.uu (by omega))), ?_⟩
            exact (show FLR f (up s21 74 cs.length (s21 56 34)) by unfold FLR at h2 ⊢; rw [up_cell (by omega)]; exact h2).u56 (by omega)
          by_cases q4 : ch r.1 = 40
          · rw [if_pos q4]
            obtain ⟨x1, x2⟩ := c2' q4
            cases c3 : pAny ch (pPc ch 7 1) (r.1 + 1) with
            | error f =>
              obtain ⟨s21, y1, y2, y3, y4, -⟩ := x1 f c3
              obtain ⟨t, d1, d2, d3⟩ := badc f s21 y1 y2 y3 y4
              exact ⟨t, d1, d2, (fun f2 w => by cases w; exact d3), (fun r w => by cases w)⟩
            | ok r2 =>
              obtain ⟨y0, y1, y2, y3⟩ := x2 r2 c3
              show ∃ t, _ ∧ _ ∧ (∀ f, (if ch r2.1 = 41 then .ok (r2.1 + 1, ch p, r.2, r2.2) else .error (1000 + r2.1) : RSC) = .error f → FLR f t) ∧ ∀ r', (if ch r2.1 = 41 then .ok (r2.1 + 1, ch p, r.2, r2.2) else .error (1000 + r2.1) : RSC) = .ok r' → _
              by_cases q5 : ch r2.1 = 41
              · rw [if_pos q5]
                obtain ⟨s21, k3, z1, z2, z3, z4, z5, z6, z7, z8, z9, z10⟩ := y3 q5
                have l10 := z10.1
                have t33 : s21 56 33 = iI cs.length := z4.trans z33
                refine ⟨_, fin s21 z1 t33, (F13.tr z3).tr ((FRX.c (by omega)).tr (FRX.uu (by omega))), (fun f w => by cases w), fun r' w => ?_⟩
                cases w
                obtain ⟨m1, m2, m3, m4, m5, m6, m7, m8, m9⟩ := z2
                refine ⟨k3, ⟨m1, m2, m3, m4, m7, by show k3 ≤ r2.1 + 1; omega, m9⟩, by rw [List.length_append]; show cs.length + 1 ≤ 14; omega, by rw [up_at, List.length_append]; rfl, fun i c hic => ?_⟩
                have t71 : s21 71 = upd (s 71) cs.length (iI (ch p)) := by
                  rw [z5, up_cell (by omega), b4.1.1 71 (by omega) (by omega) (by omega) (by omega)]
                  rfl
                have t72 : s21 72 = upd (s 72) cs.length (iI k) := by
                  rw [z6, up_cell (by omega), b4.1.1 72 (by omega) (by omega) (by omega) (by omega)]
                  rfl
                have t73 : s21 73 = upd (s 73) cs.length (iI k2) := by
                  rw [z7, up_def, upr_eq, b4.1.1 73 (by omega) (by omega) (by omega) (by omega), z34]
                  rfl
                have t74 : (up (up s21 74 cs.length (s21 56 34)) 56 33 (iI ((cs.length + 1 : Nat) : Int))) 74 = upd (s 74) cs.length (iI k3) := by
                  rw [up_cell (by omega), up_def, upr_eq, z8, up_cell (by omega), b4.1.1 74 (by omega) (by omega) (by omega) (by omega), m4]
                  rfl
                have t75 : (up (up s21 74 cs.length (s21 56 34)) 56 33 (iI ((cs.length + 1 : Nat) : Int))) 75 = s21 75 := rfl
                have t76 : (up (up s21 74 cs.length (s21 56 34)) 56 33 (iI ((cs.length + 1 : Nat) : Int))) 76 = s21 76 := rfl
                have t71' : (up (up s21 74 cs.length (s21 56 34)) 56 33 (iI ((cs.length + 1 : Nat) : Int))) 71 = s21 71 := rfl
                have t72' : (up (up s21 74 cs.length (s21 56 34)) 56 33 (iI ((cs.length + 1 : Nat) : Int))) 72 = s21 72 := rfl
                have t73' : (up (up s21 74 cs.length (s21 56 34)) 56 33 (iI ((cs.length + 1 : Nat) : Int))) 73 = s21 73 := rfl
                unfold TRE
                rw [t75, t76, t71', show 71 + 1 = 72 from rfl, show 71 + 2 = 73 from rfl, show 71 + 3 = 74 from rfl, t72', t73', t74, t71, t72, t73]
                have codes : ∀ i, i < k2 → s21 75 i = s12 75 i ∧ s21 76 i = s12 76 i := fun i hi => by
                  have := z9 i hi
                  rw [up_cell (by omega), up_cell (by omega)] at this
                  exact this
                have codes0 : ∀ i, i < k → s21 75 i = s 75 i ∧ s21 76 i = s 76 i := fun i hi => by
                  have o1 := codes i (by omega)
                  have o2 := b4.2.2 i hi
                  exact ⟨o1.1.trans o2.1, o1.2.trans o2.2⟩
                rcases Nat.lt_or_ge i cs.length with hi | hi
                · rw [List.getElem?_append_left hi] at hic
                  obtain ⟨a, m, z, o1, o2, o3, o4, o5, o6, o7, o8, o9⟩ := ht.2.2 i c hic
                  have l7 := o7.1
                  have l8 := o8.1
                  refine ⟨a, m, z, ?_, o2, ?_, ?_, ?_, by omega, o7.of (fun i x w => codes0 i (by omega)), o8.of (fun i x w => codes0 i (by omega)), o9⟩
                  · rw [upd_ne (by omega)]; exact o1
                  · rw [upd_ne (by omega)]; exact o3
                  · rw [upd_ne (by omega)]; exact o4
                  · rw [upd_ne (by omega)]; exact o5
                · have hi2 : i = cs.length := by
                    have := (List.getElem?_eq_some_iff.mp hic).1
                    rw [List.length_append] at this
                    have : i < cs.length + 1 := this
                    omega
                  subst hi2
                  rw [List.getElem?_concat_length] at hic
                  obtain rfl := Option.some.inj hic
                  refine ⟨k, k2, k3, ?_, q0, ?_, ?_, ?_, Nat.le_refl _, b5.of (fun i x w => codes i w), z10, y1⟩
                  · rw [upd_eq]
                  · rw [upd_eq]
                  · rw [upd_eq]
                  · rw [upd_eq]
              · rw [if_neg q5]
                obtain ⟨s21, z1, z2, z3, z4, -⟩ := y2 q5
                obtain ⟨t, d1, d2, d3⟩ := badc _ s21 z1 z2 z3 z4
                exact ⟨t, d1, d2, (fun f2 w => by cases w; exact d3), (fun r w => by cases w)⟩
          · rw [if_neg q4]
            obtain ⟨s21, z1, z2, z3, z4, -⟩ := c1' q4
            obtain ⟨t, d1, d2, d3⟩ := badc _ s21 z1 z2 z3 z4
            exact ⟨t, d1, d2, (fun f2 w => by cases w; exact d3), (fun r w => by cases w)⟩
    · rw [if_neg q1]
      obtain ⟨g1, g2⟩ := rx_wrongs hs hn (c := 4) (by omega)
      refine ⟨_, ?_, FRX.uu (i := 32) (by omega), (fun f2 w => by cases w; exact g2), (fun r w => by cases w)⟩
      have k22 : ∀ (B : Res) (K : SS → Res), K (up s 56 32 (iI (-((1000 * 4 + p : Nat) : Int)))) = some (0, up s 56 32 (iI (-((1000 * 4 + p : Nat) : Int)))) → (if (s 56 33 : Int32) = (14 : Int32) then bd (f_X12_wrongs 4 (s 56 30) s) (fun (_v24 : Int32) (s25 : SS) => K s25) else B) = some (0, up s 56 32 (iI (-((1000 * 4 + p : Nat) : Int)))) := by
        intro B K hK
        refine e_if_t (by rw [h33, show cs.length = 14 by omega]; rfl) ?_
        rw [hs.1]
        exact e_bd g1 hK
      unfold f_X12_clause
      refine e_bdp (rx_here hc hs) ?_
      refine e_jn ?_
      refine e_jn ?_
      by_cases y : ch p = 118
      · exact e_if_t (e118.mpr y) (k22 _ _ (e_bdp g2.bad (e_if_t rfl rfl)))
      · refine e_if_f (mt e118.mp y) ?_
        exact e_if_t (e109.mpr (by omega)) (k22 _ _ (e_bdp g2.bad (e_if_t rfl rfl)))
  · rw [if_neg q0]
    obtain ⟨g1, g2⟩ := rx_wrongs hs hn (c := 1) (by omega)
    refine ⟨_, ?_, FRX.uu (i := 32) (by omega), (fun f2 w => by cases w; exact g2), (fun r w => by cases w)⟩
    unfold f_X12_clause
    refine e_bdp (rx_here hc hs) ?_
    refine e_jn ?_
    refine e_jn ?_
    refine e_if_f (fun w => q0 (Or.inl (e118.mp w))) ?_
    refine e_if_f (fun w => q0 (Or.inr (e109.mp w))) ?_
    rw [hs.1]
    refine e_bd g1 ?_
    exact e_bdp g2.bad (e_if_t rfl rfl)
