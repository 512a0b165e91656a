/-! the reference's parser: places, codes, stack -/
variable {ch : Nat → Nat} {n : Nat} {s t u : SS}
def RPS (ch : Nat → Nat) (n p k j o : Nat) (s : SS) : Prop := s 56 30 = iI p ∧ s 56 31 = iI n ∧ s 56 32 = 0 ∧ s 56 34 = iI k ∧ s 56 35 = iI o ∧ s 56 36 = iI j ∧ (∀ i, i < n → s 57 i = iI (sby (ch i))) ∧ k + j ≤ p ∧ p ≤ n
def FRR (s t : SS) : Prop := (∀ q, q ≠ 56 → q ≠ 75 → q ≠ 76 → q ≠ 77 → t q = s q) ∧ ∀ i, i ≠ 30 → i ≠ 32 → i ≠ 34 → i ≠ 35 → i ≠ 36 → i ≠ 38 → t 56 i = s 56 i
def KPP (k j : Nat) (s t : SS) : Prop := FRR s t ∧ (∀ i, i < j → t 77 i = s 77 i) ∧ ∀ i, i < k → t 75 i = s 75 i ∧ t 76 i = s 76 i
def FLR (f : Nat) (s : SS) : Prop := s 56 32 = iI (-(f : Int)) ∧ 0 < f ∧ f < 100000
theorem FRR.rf (s : SS) : FRR s s := ⟨fun _ _ _ _ _ => rfl, fun _ _ _ _ _ _ _ => rfl⟩
theorem FRR.tr (h : FRR s t) (g : FRR t u) : FRR s u := ⟨fun q a b c d => (g.1 q a b c d).trans (h.1 q a b c d), fun i a b c d e f => (g.2 i a b c d e f).trans (h.2 i a b c d e f)⟩
theorem KPP.rf (k j : Nat) (s : SS) : KPP k j s s := ⟨FRR.rf s, fun _ _ => rfl, fun _ _ => ⟨rfl, rfl⟩⟩
theorem KPP.tr {k j : Nat} (h : KPP k j s t) (g : KPP k j t u) : KPP k j s u := ⟨h.1.tr g.1, fun i a => (g.2.1 i a).trans (h.2.1 i a), fun i a => ⟨(g.2.2 i a).1.trans (h.2.2 i a).1, (g.2.2 i a).2.trans (h.2.2 i a).2⟩⟩
theorem KPP.lo {k j k2 j2 : Nat} (h : KPP k j s t) (a : k2 ≤ k) (b : j2 ≤ j) : KPP k2 j2 s t := ⟨h.1, fun i hi => h.2.1 i (by omega), fun i hi => h.2.2 i (by omega)⟩
theorem KPP.u56 {k j i : Nat} {v : Int32} (h : i = 30 ∨ i = 32 ∨ i = 34 ∨ i = 35 ∨ i = 36 ∨ i = 38) : KPP k j s (up s 56 i v) := ⟨⟨fun q a _ _ _ => up_cell a, fun w a b c d e f => up_slot (by omega)⟩, fun i hi => by rw [up_cell (by omega)], fun i hi => by rw [up_cell (by omega), up_cell (by omega)]; exact ⟨rfl, rfl⟩⟩
theorem rp_good {p k j o : Nat} (h : RPS ch n p k j o s) : f_X12_isGood s = some 1 := if_pos h.2.2.1
theorem FLR.bad {f : Nat} (h : FLR f s) : f_X12_isGood s = some 0 := if_neg (by
  have := h.2
  rw [h.1, z_0, iI_eq (by omega) (by omega)]
  omega)
theorem FLR.u56 {f i : Nat} {v : Int32} (h : FLR f s) (hi : i ≠ 32) : FLR f (up s 56 i v) := by
  unfold FLR at h ⊢
  rw [up_slot hi.symm]
  exact h
theorem by_255 : ∀ v : Nat, v < 256 → (iI (sby v) &&& 255 : Int32) = iI (v : Int) := by decide +kernel
theorem rp_here {p k j o : Nat} (hc : OKC ch n) (h : RPS ch n p k j o s) : f_X12_here s = some (iI (ch p)) := by
  have hn := hc.1
  obtain ⟨h1, h2, h3, h4, h5, h6, h7, h8, h9⟩ := h
  unfold f_X12_here
  rw [h1, h2]
  by_cases q : p < n
  · refine e_if_f (by simp (disch := omega) only [Int.toNat_natCast, iI_lt, iI_le, iI_eq, iI_add, iI_sub, iI_mul, iI_neg, iI_clamp, inb_ii]; omega) ?_
    refine e_gd (by simp (disch := omega) only [Int.toNat_natCast, iI_lt, iI_le, iI_eq, iI_add, iI_sub, iI_mul, iI_neg, iI_clamp, inb_ii]; omega) ?_
    rw [iI_clamp (by omega), Int.toNat_natCast, h7 p q, by_255 _ (hc.2.1 p)]
  · refine e_if_t (by simp (disch := omega) only [Int.toNat_natCast, iI_lt, iI_le, iI_eq, iI_add, iI_sub, iI_mul, iI_neg, iI_clamp, inb_ii]; omega) ?_
    rw [hc.2.2 p (by omega)]
    rfl
theorem cis {c q : Nat} (hc : c < 256) (hq : q < 256) : (iI (c : Int) = iI (q : Int)) = (c = q) := propext ((iI_eq (by omega) (by omega)).trans (by omega))
theorem times_f {c : Nat} (hc : c < 256) (s : SS) : f_X12_isTimes (iI c) s = some (if isT c then 1 else 0) := by
  have h1 : (iI (c : Int) = 42) = (c = 42) := cis (q := 42) hc (by omega)
  have h2 : (iI (c : Int) = 47) = (c = 47) := cis (q := 47) hc (by omega)
  have h3 : (iI (c : Int) = 37) = (c = 37) := cis (q := 37) hc (by omega)
  unfold f_X12_isTimes
  refine e_jn ?_
  by_cases q : isT c
  · rw [if_pos q]
    by_cases y1 : c = 42
    · exact e_if_t (h1.mpr y1) rfl
    · refine e_if_f (mt h1.mp y1) ?_
      by_cases y2 : c = 47
      · exact e_if_t (h2.mpr y2) rfl
      · refine e_if_f (mt h2.mp y2) ?_
        exact e_if_t (h3.mpr (by unfold isT at q; omega)) rfl
  · rw [if_neg q]
    refine e_if_f (fun w => q (Or.inl (h1.mp w))) ?_
    refine e_if_f (fun w => q (Or.inr (Or.inl (h2.mp w)))) ?_
    exact e_if_f (fun w => q (Or.inr (Or.inr (h3.mp w)))) rfl
theorem plus_f {c : Nat} (hc : c < 256) (s : SS) : f_X12_isPlus (iI c) s = some (if isP c then 1 else 0) := by
  have h1 : (iI (c : Int) = 43) = (c = 43) := cis (q := 43) hc (by omega)
  have h2 : (iI (c : Int) = 45) = (c = 45) := cis (q := 45) hc (by omega)
  unfold f_X12_isPlus
  refine e_jn ?_
  by_cases q : isP c
  · rw [if_pos q]
    by_cases y1 : c = 43
    · exact e_if_t (h1.mpr y1) rfl
    · refine e_if_f (mt h1.mp y1) ?_
      exact e_if_t (h2.mpr (by unfold isP at q; omega)) rfl
  · rw [if_neg q]
    refine e_if_f (fun w => q (Or.inl (h1.mp w))) ?_
    exact e_if_f (fun w => q (Or.inr (h2.mp w))) rfl
theorem sign_f {c : Nat} (hc : c < 256) (s : SS) : f_X12_isSign (iI c) s = some (if isS c then 1 else 0) := by
  have h1 : (iI (c : Int) = 60) = (c = 60) := cis (q := 60) hc (by omega)
  have h2 : (iI (c : Int) = 62) = (c = 62) := cis (q := 62) hc (by omega)
  have h3 : (iI (c : Int) = 61) = (c = 61) := cis (q := 61) hc (by omega)
  unfold f_X12_isSign
  refine e_jn ?_
  by_cases q : isS c
  · rw [if_pos q]
    by_cases y1 : c = 60
    · exact e_if_t (h1.mpr y1) rfl
    · refine e_if_f (mt h1.mp y1) ?_
      by_cases y2 : c = 62
      · exact e_if_t (h2.mpr y2) rfl
      · refine e_if_f (mt h2.mp y2) ?_
        exact e_if_t (h3.mpr (by unfold isS at q; omega)) rfl
  · rw [if_neg q]
    refine e_if_f (fun w => q (Or.inl (h1.mp w))) ?_
    refine e_if_f (fun w => q (Or.inr (Or.inl (h2.mp w)))) ?_
    exact e_if_f (fun w => q (Or.inr (Or.inr (h3.mp w)))) rfl
/-- the top of the stack -/
def TPV (j : Nat) (s : SS) (c : Nat) : Prop := c < 256 ∧ ((j = 0 ∧ c = 0) ∨ (0 < j ∧ s 77 (j - 1) = iI c))
theorem top_f {p k j o c : Nat} (hn : n ≤ 200) (h : RPS ch n p k j o s) (g : TPV j s c) : f_X12_top s = some (iI c) := by
  obtain ⟨h1, h2, h3, h4, h5, h6, h7, h8, h9⟩ := h
  unfold f_X12_top
  rw [h6]
  rcases g.2 with ⟨a, b⟩ | ⟨a, b⟩
  · subst a; subst b
    exact e_if_t (by decide) rfl
  · have m1 : iI (j : Int) - 1 = iI ((j - 1 : Nat) : Int) := by
      rw [z_1, iI_sub]
      congr 1
      omega
    refine e_if_f (by simp (disch := omega) only [Int.toNat_natCast, iI_lt, iI_le, iI_eq, iI_add, iI_sub, iI_mul, iI_neg, iI_clamp, inb_ii, z_0]; omega) ?_
    rw [m1]
    refine e_gd (by simp (disch := omega) only [Int.toNat_natCast, iI_lt, iI_le, iI_eq, iI_add, iI_sub, iI_mul, iI_neg, iI_clamp, inb_ii]; omega) ?_
    rw [iI_clamp (by omega), Int.toNat_natCast, b]
theorem wrongs_g {p k j o : Nat} (h : RPS ch n p k j o s) (hn : n ≤ 200) {c : Nat} (hc : 1 ≤ c ∧ c ≤ 5) : f_X12_wrongs (iI c) (iI p) s = some (0, up s 56 32 (iI (-((1000 * c + p : Nat) : Int)))) ∧ FLR (1000 * c + p) (up s 56 32 (iI (-((1000 * c + p : Nat) : Int)))) := by
  obtain ⟨h1, h2, h3, h4, h5, h6, h7, h8, h9⟩ := h
  refine ⟨?_, up_at _ _ _ _, by omega, by omega⟩
  unfold f_X12_wrongs
  refine e_jn ?_
  refine e_if_t (by rw [h3]; decide) ?_
  rw [z_m1000, iI_mul, iI_sub, show (-1000 : Int) * (c : Int) - (p : Int) = -((1000 * c + p : Nat) : Int) by omega]
  exact e_lts rfl
theorem puts_g {p k j o : Nat} (h : RPS ch n p k j o s) (hn : n ≤ 200) (hp : p < n) (a : Int32) : ∃ t, f_X12_puts a s = some (0, t) ∧ RPS ch n (p + 1) k (j + 1) o t ∧ t 77 j = a ∧ KPP k j s t ∧ t 56 38 = s 56 38 ∧ t 56 37 = s 56 37 := by
  obtain ⟨h1, h2, h3, h4, h5, h6, h7, h8, h9⟩ := h
  have gj : inb (iI (j : Int)) 240 := by simp (disch := omega) only [Int.toNat_natCast, iI_lt, iI_le, iI_eq, iI_add, iI_sub, iI_mul, iI_neg, iI_clamp, inb_ii]; omega
  refine ⟨up (up (up s 77 j a) 56 36 (iI ((j + 1 : Nat) : Int))) 56 30 (iI ((p + 1 : Nat) : Int)), ?_, ⟨up_at _ _ _ _, ?_, ?_, ?_, ?_, ?_, ?_, by omega, by omega⟩, ?_, ⟨⟨fun q a b c d => ?_, fun i a b c d e f => ?_⟩, fun i hi => ?_, fun i hi => ?_⟩, ?_, ?_⟩
  · unfold f_X12_puts
    rw [h6]
    refine e_gd gj ?_
    rw [iI_clamp (by omega), Int.toNat_natCast]
    refine e_lts ?_
    rw [show (up s 77 j a) 56 36 = iI j from h6, nx_s]
    refine e_lts ?_
    rw [show (up (up s 77 j a) 56 36 (iI ((j + 1 : Nat) : Int))) 56 30 = iI p from h1, nx_s]
    exact e_lts rfl
  · rw [up_slot (by omega), up_slot (by omega), up_cell (by omega)]; exact h2
  · rw [up_slot (by omega), up_slot (by omega), up_cell (by omega)]; exact h3
  · rw [up_slot (by omega), up_slot (by omega), up_cell (by omega)]; exact h4
  · rw [up_slot (by omega), up_slot (by omega), up_cell (by omega)]; exact h5
  · rw [up_slot (by omega), up_at]
  · rw [up_cell (by omega), up_cell (by omega), up_cell (by omega)]; exact h7
  · rw [up_cell (by omega), up_cell (by omega), up_at]
  · rw [up_cell a, up_cell a, up_cell d]
  · rw [up_slot a, up_slot e, up_cell (by omega)]
  · rw [up_cell (by omega), up_cell (by omega), up_slot (by omega)]
  · rw [up_cell (by omega), up_cell (by omega), up_cell (by omega), up_cell (by omega), up_cell (by omega), up_cell (by omega)]
    exact ⟨rfl, rfl⟩
  · rw [up_slot (by omega), up_slot (by omega), up_cell (by omega)]
  · rw [up_slot (by omega), up_slot (by omega), up_cell (by omega)]
/-- the state after a code -/
noncomputable def emS (s : SS) (k : Nat) (a b : Int32) : SS := up (up (up s 75 k a) 76 k b) 56 34 (iI ((k + 1 : Nat) : Int))
theorem emit_g {k : Nat} (h3 : s 56 32 = 0) (h4 : s 56 34 = iI k) (hk : k < 200) (a b : Int32) : f_X12_emit a b s = some (0, emS s k a b) := by
  have gk : inb (iI (k : Int)) 200 := by simp (disch := omega) only [Int.toNat_natCast, iI_lt, iI_le, iI_eq, iI_add, iI_sub, iI_mul, iI_neg, iI_clamp, inb_ii]; omega
  unfold f_X12_emit
  refine e_bdp (v := 1) (if_pos h3) ?_
  refine e_if_f (by decide) ?_
  rw [h4]
  refine e_gd gk ?_
  rw [iI_clamp (by omega), Int.toNat_natCast]
  refine e_lts ?_
  rw [show (up s 75 k a) 56 34 = iI k from h4]
  refine e_gd gk ?_
  rw [iI_clamp (by omega), Int.toNat_natCast]
  refine e_lts ?_
  rw [show (up (up s 75 k a) 76 k b) 56 34 = iI k from h4, nx_s]
  exact e_lts rfl
theorem emit_f {f : Nat} (h : FLR f s) (a b : Int32) : f_X12_emit a b s = some (0, s) := by
  unfold f_X12_emit
  refine e_bdp h.bad ?_
  exact e_if_t rfl rfl
theorem emS_56 {k i : Nat} {a b : Int32} (h : i ≠ 34) : emS s k a b 56 i = s 56 i := by
  unfold emS
  rw [up_slot h, up_cell (by omega), up_cell (by omega)]
theorem emS_34 {k : Nat} {a b : Int32} : emS s k a b 56 34 = iI ((k + 1 : Nat) : Int) := up_at _ _ _ _
theorem emS_q {k q : Nat} {a b : Int32} (h : q ≠ 56 ∧ q ≠ 75 ∧ q ≠ 76) : emS s k a b q = s q := by
  unfold emS
  rw [up_cell h.1, up_cell h.2.2, up_cell h.2.1]
theorem emS_at {k : Nat} {a b : Int32} : emS s k a b 75 k = a ∧ emS s k a b 76 k = b := by
  unfold emS
  rw [up_cell (by omega), up_cell (by omega), up_at, up_cell (by omega), up_at]
  exact ⟨rfl, rfl⟩
theorem emS_lo {k i : Nat} {a b : Int32} (h : i ≠ k) : emS s k a b 75 i = s 75 i ∧ emS s k a b 76 i = s 76 i := by
  unfold emS
  rw [up_cell (by omega), up_cell (by omega), up_slot h, up_cell (by omega), up_slot h, up_cell (by omega)]
  exact ⟨rfl, rfl⟩
theorem emS_kp {k j : Nat} {a b : Int32} : KPP k j s (emS s k a b) := ⟨⟨fun q a b c d => emS_q ⟨a, b, c⟩, fun i a b c d e f => emS_56 c⟩, fun i hi => by rw [emS_q ⟨by omega, by omega, by omega⟩], fun i hi => emS_lo (by omega)⟩
/-- a code from the stack -/
noncomputable def poS (s : SS) (k j : Nat) (a b : Int32) : SS := up (emS s k a b) 56 36 (iI (j : Int))
theorem poS_g {p k j o : Nat} (h : RPS ch n p k (j + 1) o s) (a b : Int32) : RPS ch n p (k + 1) j o (poS s k j a b) ∧ KPP k j s (poS s k j a b) ∧ poS s k j a b 56 38 = s 56 38 ∧ poS s k j a b 56 37 = s 56 37 ∧ poS s k j a b 75 k = a ∧ poS s k j a b 76 k = b := by
  obtain ⟨h1, h2, h3, h4, h5, h6, h7, h8, h9⟩ := h
  unfold poS
  refine ⟨⟨?_, ?_, ?_, ?_, ?_, up_at _ _ _ _, ?_, by omega, h9⟩, emS_kp.tr (KPP.u56 (by omega)), ?_, ?_, ?_, ?_⟩
  · rw [up_slot (by omega), emS_56 (by omega)]; exact h1
  · rw [up_slot (by omega), emS_56 (by omega)]; exact h2
  · rw [up_slot (by omega), emS_56 (by omega)]; exact h3
  · rw [up_slot (by omega), emS_34]
  · rw [up_slot (by omega), emS_56 (by omega)]; exact h5
  · rw [up_cell (by omega), emS_q ⟨by omega, by omega, by omega⟩]; exact h7
  · rw [up_slot (by omega), emS_56 (by omega)]
  · rw [up_slot (by omega), emS_56 (by omega)]
  · rw [up_cell (by omega)]; exact emS_at.1
  · rw [up_cell (by omega)]; exact emS_at.2
/-- opens -/
theorem opens_g {p k j o : Nat} (hc : OKC ch n) (h : RPS ch n p k j o s) (hp : p < n) (ho : o ≤ 6) : (o < 6 → ∃ t, f_X12_opens s = some (0, t) ∧ RPS ch n (p + 1) k (j + 1) (o + 1) t ∧ t 77 j = iI (ch p) ∧ KPP k j s t ∧ t 56 38 = s 56 38 ∧ t 56 37 = s 56 37) ∧ (¬ o < 6 → ∃ t, f_X12_opens s = some (0, t) ∧ FLR (5000 + p) t ∧ FRR s t) := by
  have hn := hc.1
  have h1 := h.1
  have h5 := h.2.2.2.2.1
  have six : (6 : Int32) = iI 6 := rfl
  refine ⟨fun e => ?_, fun e => ?_⟩
  · have g1 : RPS ch n p k j (o + 1) (up s 56 35 (iI ((o + 1 : Nat) : Int))) := by
      obtain ⟨h1, h2, h3, h4, h5, h6, h7, h8, h9⟩ := h
      refine ⟨?_, ?_, ?_, ?_, up_at _ _ _ _, ?_, ?_, h8, h9⟩
      · rw [up_slot (by omega)]; exact h1
      · rw [up_slot (by omega)]; exact h2
      · rw [up_slot (by omega)]; exact h3
      · rw [up_slot (by omega)]; exact h4
      · rw [up_slot (by omega)]; exact h6
      · rw [up_cell (by omega)]; exact h7
    obtain ⟨t, f1, f2, f3, f4, f5, f6⟩ := puts_g g1 hn hp (iI (ch p))
    refine ⟨t, ?_, f2, f3, (KPP.u56 (by omega)).tr f4, f5.trans (up_slot (by omega)), f6.trans (up_slot (by omega))⟩
    unfold f_X12_opens
    refine e_jn ?_
    refine e_if_f (by rw [h5, six]; simp (disch := omega) only [Int.toNat_natCast, iI_lt, iI_le, iI_eq, iI_add, iI_sub, iI_mul, iI_neg, iI_clamp, inb_ii]; omega) ?_
    show lts (up s 56 35 (s 56 35 + 1)) _ = _
    rw [h5, nx_s]
    refine e_lts ?_
    refine e_bdp (rp_here hc g1) ?_
    exact e_bd f1 rfl
  · obtain ⟨w1, w2⟩ := wrongs_g h hn (c := 5) (by omega)
    have ee : o = 6 := by omega
    obtain ⟨a1, a2, a3, a4, a5, a6, a7, a8, a9⟩ := h
    let s2 : SS := up (up s 56 32 (iI (-((1000 * 5 + p : Nat) : Int)))) 56 35 (iI ((o + 1 : Nat) : Int))
    have gj : inb (iI (j : Int)) 240 := by simp (disch := omega) only [Int.toNat_natCast, iI_lt, iI_le, iI_eq, iI_add, iI_sub, iI_mul, iI_neg, iI_clamp, inb_ii]; omega
    have hh : f_X12_here s2 = some (iI (ch p)) := by
      unfold f_X12_here
      have b1 : s2 56 30 = iI p := a1
      have b2 : s2 56 31 = iI n := a2
      have b3 : s2 57 = s 57 := rfl
      rw [b1, b2, b3]
      refine e_if_f (by simp (disch := omega) only [Int.toNat_natCast, iI_lt, iI_le, iI_eq, iI_add, iI_sub, iI_mul, iI_neg, iI_clamp, inb_ii]; omega) ?_
      refine e_gd (by simp (disch := omega) only [Int.toNat_natCast, iI_lt, iI_le, iI_eq, iI_add, iI_sub, iI_mul, iI_neg, iI_clamp, inb_ii]; omega) ?_
      rw [iI_clamp (by omega), Int.toNat_natCast, a7 p hp, by_255 _ (hc.2.1 p)]
    refine ⟨up (up (up s2 77 j (iI (ch p))) 56 36 (iI ((j + 1 : Nat) : Int))) 56 30 (iI ((p + 1 : Nat) : Int)), ?_, ?_, ?_⟩
    · unfold f_X12_opens
      refine e_jn ?_
      refine e_if_t (by rw [h5, ee]; rfl) ?_
      rw [h1]
      refine e_bd w1 ?_
      show lts (up (up s 56 32 (iI (-((1000 * 5 + p : Nat) : Int)))) 56 35 ((up s 56 32 (iI (-((1000 * 5 + p : Nat) : Int)))) 56 35 + 1)) _ = _
      rw [show (up s 56 32 (iI (-((1000 * 5 + p : Nat) : Int)))) 56 35 = iI o from h5, nx_s]
      refine e_lts ?_
      refine e_bdp hh ?_
      refine e_bd (v := 0) (t := up (up (up s2 77 j (iI (ch p))) 56 36 (iI ((j + 1 : Nat) : Int))) 56 30 (iI ((p + 1 : Nat) : Int))) ?_ rfl
      unfold f_X12_puts
      show gd (inb (s2 56 36) 240) (lts (up s2 77 (Int32.toNatClampNeg (s2 56 36)) (iI (ch p))) _) = _
      rw [show s2 56 36 = iI j from a6]
      refine e_gd gj ?_
      rw [iI_clamp (by omega), Int.toNat_natCast]
      refine e_lts ?_
      rw [show (up s2 77 j (iI (ch p))) 56 36 = iI j from a6, nx_s]
      refine e_lts ?_
      rw [show (up (up s2 77 j (iI (ch p))) 56 36 (iI ((j + 1 : Nat) : Int))) 56 30 = iI p from a1, nx_s]
      exact e_lts rfl
    · exact w2
    · exact ⟨fun q a b c d => by
        rw [up_cell a, up_cell a, up_cell d]
        show up (up s 56 32 _) 56 35 _ q = _
        rw [up_cell a, up_cell a], fun i a b c d e f => by
        rw [up_slot a, up_slot e, up_cell (by omega)]
        show up (up s 56 32 _) 56 35 _ 56 i = _
        rw [up_slot d, up_slot b]⟩
