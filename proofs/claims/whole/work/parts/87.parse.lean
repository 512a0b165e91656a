/-! what a text says: the grammar; the class reads a sum -/
variable {ch : Nat → Nat} {n : Nat} {s t u : SS}
abbrev RSL : Type := Except Nat (Nat × EV)
abbrev isD (c : Nat) : Prop := 48 ≤ c ∧ c ≤ 57
abbrev isT (c : Nat) : Prop := c = 42 ∨ c = 47 ∨ c = 37
abbrev isP (c : Nat) : Prop := c = 43 ∨ c = 45
abbrev isS (c : Nat) : Prop := c = 60 ∨ c = 62 ∨ c = 61
def fix (c : Nat) : Nat := if c = 108 then 0 else if c = 112 then 1 else if c = 107 then 2 else if c = 110 then 3 else if c = 115 then 4 else if c = 104 then 5 else if c = 102 then 6 else if c = 105 then 7 else if c = 111 then 8 else if c = 121 then 9 else if c = 114 then 10 else 11
def dgL (ch : Nat → Nat) : Nat → Nat → Nat → Nat × Nat
  | 0, i, v => (i, v)
  | k + 1, i, v => if isD (ch i) then dgL ch k (i + 1) (10 * v + (ch i - 48)) else (i, v)
def pFac (ch : Nat → Nat) (rf : Nat → Nat → RSL) (d p : Nat) : RSL :=
  if ch p = 91 then (if d < 6 then (match rf (d + 1) (p + 1) with | .error f => .error f | .ok r => if ch r.1 = 93 then .ok (r.1 + 1, r.2) else .error (1000 + r.1)) else .error (5000 + p))
  else if isD (ch p) then (if isD (ch (dgL ch 5 p 0).1) then .error (2000 + (dgL ch 5 p 0).1) else .ok ((dgL ch 5 p 0).1, fun _ => some (iI (dgL ch 5 p 0).2)))
  else if fix (ch p) < 11 then .ok (p + 1, fun F => some (F (fix (ch p)))) else .error (1000 + p)
def pPrL (ch : Nat → Nat) (rf : Nat → Nat → RSL) (d : Nat) : Nat → Nat → EV → RSL
  | 0, q, e => .ok (q, e)
  | k + 1, q, e => if isT (ch q) then (match pFac ch rf d (q + 1) with | .error f => .error f | .ok r => pPrL ch rf d k r.1 (binE (ch q) e r.2)) else .ok (q, e)
def pPr (ch : Nat → Nat) (rf : Nat → Nat → RSL) (d p : Nat) : RSL := match pFac ch rf d p with | .error f => .error f | .ok r => pPrL ch rf d 200 r.1 r.2
def pSmL (ch : Nat → Nat) (rf : Nat → Nat → RSL) (d : Nat) : Nat → Nat → EV → RSL
  | 0, q, e => .ok (q, e)
  | k + 1, q, e => if isP (ch q) then (match pPr ch rf d (q + 1) with | .error f => .error f | .ok r => pSmL ch rf d k r.1 (binE (ch q) e r.2)) else .ok (q, e)
def pSm (ch : Nat → Nat) (rf : Nat → Nat → RSL) (d p : Nat) : RSL := match pPr ch rf d p with | .error f => .error f | .ok r => pSmL ch rf d 200 r.1 r.2
def pSum (ch : Nat → Nat) : Nat → Nat → Nat → RSL
  | 0, _, p => .error (1000 + p)
  | r + 1, d, p => pSm ch (pSum ch r) d p
def OKC (ch : Nat → Nat) (n : Nat) : Prop := n ≤ 200 ∧ (∀ i, ch i < 256) ∧ ∀ i, n ≤ i → ch i = 0
/-- the class's parser at place p with k steps -/
def PS (ch : Nat → Nat) (n p k : Nat) (s : SS) : Prop := s 17 2 = iI n ∧ s 17 3 = iI p ∧ s 17 4 = 0 ∧ s 19 7 = iI k ∧ (∀ i, i < n → s 18 i = iI (ch i)) ∧ k ≤ p ∧ p ≤ n
def FP (s t : SS) : Prop := (∀ q, q ≠ 17 → q ≠ 19 → q ≠ 20 → q ≠ 21 → t q = s q) ∧ (∀ j, j ≠ 3 → j ≠ 4 → t 17 j = s 17 j) ∧ ∀ j, j ≠ 7 → t 19 j = s 19 j
def FLT (f : Nat) (s : SS) : Prop := s 17 4 = iI (-(f : Int)) ∧ 0 < f ∧ f < 100000
theorem FP.rf (s : SS) : FP s s := ⟨fun _ _ _ _ _ => rfl, fun _ _ _ => rfl, fun _ _ => rfl⟩
theorem FP.tr (h : FP s t) (g : FP t u) : FP s u := ⟨fun q a b c d => (g.1 q a b c d).trans (h.1 q a b c d), fun j a b => (g.2.1 j a b).trans (h.2.1 j a b), fun j a => (g.2.2 j a).trans (h.2.2 j a)⟩
theorem FP.u17 {j : Nat} {v : Int32} (h : j = 3 ∨ j = 4) : FP s (up s 17 j v) := ⟨fun q a _ _ _ => up_cell a, fun i a b => up_slot (by omega), fun i _ => by rw [up_cell (by omega)]⟩
theorem FLT.ne {f : Nat} (h : FLT f s) : ¬ s 17 4 = 0 := by
  rw [h.1, z_0, iI_eq (by have := h.2; omega) (by omega)]
  have := h.2
  omega
def PO (ch : Nat → Nat) (n : Nat) (res : RSL) (Q p k : Nat) (s t : SS) : Prop := FP s t ∧ ((∀ f, res = .error f → FLT f t) ∧ ∀ r, res = .ok r → ∃ k2, PS ch n r.1 k2 t ∧ k2 + p ≤ r.1 + k ∧ (∀ i, i < k → t 20 i = s 20 i ∧ t 21 i = s 21 i) ∧ CE Q (t 20) (t 21) k k2 r.2)
def RDR (ch : Nat → Nat) (n : Nat) (f : SS → Res) (sp : Nat → RSL) (Q : Nat) : Prop := (∀ s F, FLT F s → ∃ v t, f s = some (v, t) ∧ FP s t ∧ FLT F t) ∧ ∀ s p k, PS ch n p k s → ∃ v t, f s = some (v, t) ∧ PO ch n (sp p) Q p k s t
/-- the sign -/
def sgv (ch : Nat → Nat) (n p : Nat) : Int32 := if p < n then iI (ch p) else -1
theorem sgv_is (h : OKC ch n) {p c : Nat} (hc : 0 < c ∧ c < 256) : (sgv ch n p = iI (c : Int)) = (ch p = c) := by
  have h1 := h.2.1 p
  unfold sgv
  by_cases q : p < n
  · rw [if_pos q]
    exact propext ((iI_eq (by omega) (by omega)).trans (by omega))
  · rw [if_neg q, h.2.2 p (by omega), z_m1]
    exact propext ((iI_eq (by omega) (by omega)).trans (by omega))
theorem ps_sign (h : OKC ch n) {p k : Nat} (hs : PS ch n p k s) : f_X4_sign s = some (sgv ch n p) := by
  have h1 := h.1
  obtain ⟨a1, a2, a3, a4, a5, a6, a7⟩ := hs
  unfold f_X4_sign sgv
  rw [a1, a2]
  refine e_if_f (by simp (disch := omega) only [Int.toNat_natCast, iI_lt, iI_le, iI_eq, iI_add, iI_sub, iI_mul, iI_neg, iI_clamp, inb_ii, z_0]; omega) ?_
  by_cases q : p < n
  · rw [if_pos q]
    refine e_if_f (by simp (disch := omega) only [Int.toNat_natCast, iI_lt, iI_le, iI_eq, iI_add, iI_sub, iI_mul, iI_neg, iI_clamp, inb_ii]; omega) ?_
    refine e_if_f (by simp (disch := omega) only [Int.toNat_natCast, iI_lt, iI_le, iI_eq, iI_add, iI_sub, iI_mul, iI_neg, iI_clamp, inb_ii, z_200]; omega) ?_
    refine e_gd (by simp (disch := omega) only [Int.toNat_natCast, iI_lt, iI_le, iI_eq, iI_add, iI_sub, iI_mul, iI_neg, iI_clamp, inb_ii]; omega) ?_
    rw [iI_clamp (by omega), Int.toNat_natCast, a5 p q]
  · rw [if_neg q]
    exact e_if_t (by simp (disch := omega) only [Int.toNat_natCast, iI_lt, iI_le, iI_eq, iI_add, iI_sub, iI_mul, iI_neg, iI_clamp, inb_ii]; omega) rfl
theorem fl_sign (s : SS) : ∃ v, f_X4_sign s = some v := by
  unfold f_X4_sign
  by_cases q1 : s 17 3 < 0
  · exact ⟨-1, e_if_t q1 rfl⟩
  · by_cases q2 : s 17 2 ≤ s 17 3
    · exact ⟨-1, e_if_f q1 (e_if_t q2 rfl)⟩
    · by_cases q3 : (200 : Int32) ≤ s 17 3
      · exact ⟨-1, e_if_f q1 (e_if_f q2 (e_if_t q3 rfl))⟩
      · refine ⟨_, e_if_f q1 (e_if_f q2 (e_if_f q3 (e_gd ?_ rfl)))⟩
        rw [lt32] at q1
        rw [le32] at q3
        have h1 : ¬ (s 17 3).toInt < 0 := q1
        have h2 : ¬ (200 : Int) ≤ (s 17 3).toInt := q3
        exact ⟨by omega, by omega⟩
theorem dig_f (h : OKC ch n) (p : Nat) (s : SS) : f_X4_isDigit (sgv ch n p) s = some (if isD (ch p) then 1 else 0) := by
  have h1 := h.2.1 p
  unfold f_X4_isDigit sgv
  by_cases q : p < n
  · rw [if_pos q]
    by_cases y : 48 ≤ ch p
    · refine e_if_f (by rw [show (48 : Int32) = iI 48 from rfl]; simp (disch := omega) only [Int.toNat_natCast, iI_lt, iI_le, iI_eq, iI_add, iI_sub, iI_mul, iI_neg, iI_clamp, inb_ii]; omega) ?_
      by_cases y2 : ch p ≤ 57
      · rw [if_pos (show isD (ch p) from ⟨y, y2⟩)]
        exact e_if_f (by rw [show (57 : Int32) = iI 57 from rfl]; simp (disch := omega) only [Int.toNat_natCast, iI_lt, iI_le, iI_eq, iI_add, iI_sub, iI_mul, iI_neg, iI_clamp, inb_ii]; omega) rfl
      · rw [if_neg (show ¬ isD (ch p) from fun w => y2 w.2)]
        exact e_if_t (by rw [show (57 : Int32) = iI 57 from rfl]; simp (disch := omega) only [Int.toNat_natCast, iI_lt, iI_le, iI_eq, iI_add, iI_sub, iI_mul, iI_neg, iI_clamp, inb_ii]; omega) rfl
    · rw [if_neg (show ¬ isD (ch p) from fun w => y w.1)]
      exact e_if_t (by rw [show (48 : Int32) = iI 48 from rfl]; simp (disch := omega) only [Int.toNat_natCast, iI_lt, iI_le, iI_eq, iI_add, iI_sub, iI_mul, iI_neg, iI_clamp, inb_ii]; omega) rfl
  · rw [if_neg q, if_neg (show ¬ isD (ch p) from fun w => by have := h.2.2 p (by omega); unfold isD at w; omega)]
    exact e_if_t (by decide) rfl
theorem stop_g {p k : Nat} (hs : PS ch n p k s) (hn : n ≤ 200) {c : Nat} (hc : 1 ≤ c ∧ c ≤ 5) : f_X4_stop (iI c) s = some (0, up s 17 4 (iI (-((1000 * c + p : Nat) : Int)))) ∧ FLT (1000 * c + p) (up s 17 4 (iI (-((1000 * c + p : Nat) : Int)))) := by
  obtain ⟨a1, a2, a3, a4, a5, a6, a7⟩ := hs
  refine ⟨?_, up_at _ _ _ _, by omega, by omega⟩
  unfold f_X4_stop
  refine e_if_t a3 ?_
  rw [a2, z_m1000, iI_mul, iI_sub, show (-1000 : Int) * (c : Int) - (p : Int) = -((1000 * c + p : Nat) : Int) by omega]
  exact e_lts rfl
theorem stop_f {F : Nat} (h : FLT F s) (a : Int32) : f_X4_stop a s = some (0, s) := by
  unfold f_X4_stop
  exact e_if_f h.ne rfl
theorem step_f (a b : Int32) (s : SS) : ∃ v t, f_X1_addStep a b s = some (v, t) ∧ FP s t ∧ t 17 = s 17 := by
  unfold f_X1_addStep
  by_cases q1 : s 19 7 < 0
  · exact ⟨-1, s, e_if_t q1 rfl, FP.rf s, rfl⟩
  · by_cases q2 : s 19 7 < 200
    · have h1 : ¬ (s 19 7).toInt < 0 := by rw [lt32] at q1; exact q1
      have h2 : (s 19 7).toInt < 200 := by rw [lt32] at q2; exact q2
      have gi : inb (s 19 7) 200 := ⟨by omega, by omega⟩
      refine ⟨_, _, e_if_f q1 (e_if_t q2 (e_gd gi (e_lts (e_gd ?_ (e_lts (e_lts rfl)))))), ?_, ?_⟩
      · rw [up_cell (by omega)]; exact gi
      · refine ⟨fun q a b d e => ?_, fun j a b => ?_, fun j a => ?_⟩
        · rw [up_cell b, up_cell e, up_cell d]
        · rw [up_cell (by omega), up_cell (by omega), up_cell (by omega)]
        · rw [up_slot a, up_cell (by omega), up_cell (by omega)]
      · rw [up_cell (by omega), up_cell (by omega), up_cell (by omega)]
    · exact ⟨-1, s, e_if_f q1 (e_if_f q2 rfl), FP.rf s, rfl⟩
theorem step_g {p k : Nat} (hs : PS ch n p k s) (hn : n ≤ 200) (hk : k < p) (a b : Int32) : ∃ t, f_X1_addStep a b s = some (iI k, t) ∧ FP s t ∧ PS ch n p (k + 1) t ∧ (∀ i, i ≠ k → t 20 i = s 20 i ∧ t 21 i = s 21 i) ∧ t 20 k = a ∧ t 21 k = b := by
  obtain ⟨a1, a2, a3, a4, a5, a6, a7⟩ := hs
  have gi : inb (iI (k : Int)) 200 := by simp (disch := omega) only [Int.toNat_natCast, iI_lt, iI_le, iI_eq, iI_add, iI_sub, iI_mul, iI_neg, iI_clamp, inb_ii]; omega
  refine ⟨up (up (up s 20 k a) 21 k b) 19 7 (iI ((k + 1 : Nat) : Int)), ?_, ⟨fun q a b d e => by rw [up_cell b, up_cell e, up_cell d], fun j a b => by rw [up_cell (by omega), up_cell (by omega), up_cell (by omega)], fun j a => by rw [up_slot a, up_cell (by omega), up_cell (by omega)]⟩, ⟨by rw [up_cell (by omega), up_cell (by omega), up_cell (by omega)]; exact a1, by rw [up_cell (by omega), up_cell (by omega), up_cell (by omega)]; exact a2, by rw [up_cell (by omega), up_cell (by omega), up_cell (by omega)]; exact a3, up_at _ _ _ _, by rw [up_cell (by omega), up_cell (by omega), up_cell (by omega)]; exact a5, by omega, a7⟩, fun i hi => ⟨by rw [up_cell (by omega), up_cell (by omega), up_slot hi], by rw [up_cell (by omega), up_slot hi, up_cell (by omega)]⟩, by rw [up_cell (by omega), up_cell (by omega), up_at], by rw [up_cell (by omega), up_at]⟩
  unfold f_X1_addStep
  rw [a4]
  refine e_if_f (by simp (disch := omega) only [Int.toNat_natCast, iI_lt, iI_le, iI_eq, iI_add, iI_sub, iI_mul, iI_neg, iI_clamp, inb_ii, z_0]; omega) ?_
  refine e_if_t (by simp (disch := omega) only [Int.toNat_natCast, iI_lt, iI_le, iI_eq, iI_add, iI_sub, iI_mul, iI_neg, iI_clamp, inb_ii, z_200]; omega) ?_
  refine e_gd gi ?_
  rw [iI_clamp (by omega), Int.toNat_natCast]
  refine e_lts ?_
  rw [show (up s 20 k a) 19 7 = iI k from a4]
  refine e_gd gi ?_
  rw [iI_clamp (by omega), Int.toNat_natCast]
  refine e_lts ?_
  rw [show (up (up s 20 k a) 21 k b) 19 7 = iI k from a4, nx_s]
  refine e_lts ?_
  rw [up_at, pr_s]
theorem ps_next {p k : Nat} (hs : PS ch n p k s) (hp : p < n) : PS ch n (p + 1) k (up s 17 3 (s 17 3 + 1)) ∧ FP s (up s 17 3 (s 17 3 + 1)) := by
  obtain ⟨a1, a2, a3, a4, a5, a6, a7⟩ := hs
  refine ⟨⟨by rw [up_slot (by omega)]; exact a1, by rw [up_at, a2, nx_s], by rw [up_slot (by omega)]; exact a3, by rw [up_cell (by omega)]; exact a4, by rw [up_cell (by omega)]; exact a5, by omega, by omega⟩, FP.u17 (by omega)⟩
theorem ch_lt (h : OKC ch n) {p : Nat} (hp : ch p ≠ 0) : p < n := by
  rcases Nat.lt_or_ge p n with a | a
  · exact a
  · exact absurd (h.2.2 p a) hp
/-- take -/
theorem take_f {F : Nat} (h : FLT F s) (a : Int32) : f_X4_take a s = some (0, s) := by
  unfold f_X4_take
  refine e_jn ?_
  refine e_if_f h.ne ?_
  exact e_bd (stop_f h 1) rfl
theorem take_g (h : OKC ch n) {p k c : Nat} (hs : PS ch n p k s) (hc : 0 < c ∧ c < 256) : (ch p = c → ∃ t, f_X4_take (iI c) s = some (0, t) ∧ FP s t ∧ PS ch n (p + 1) k t ∧ t 20 = s 20 ∧ t 21 = s 21) ∧ (ch p ≠ c → ∃ t, f_X4_take (iI c) s = some (0, t) ∧ FP s t ∧ FLT (1000 + p) t) := by
  have hz := sgv_is h (p := p) hc
  unfold f_X4_take
  refine ⟨fun e => ?_, fun e => ?_⟩
  · have hp := ch_lt h (p := p) (by omega)
    obtain ⟨g1, g2⟩ := ps_next hs hp
    refine ⟨_, ?_, g2, g1, up_cell (by omega), up_cell (by omega)⟩
    refine e_jn ?_
    refine e_if_t hs.2.2.1 ?_
    refine e_bdp (ps_sign h hs) ?_
    refine e_if_t (hz.mpr e) ?_
    exact e_lts rfl
  · obtain ⟨g1, g2⟩ := stop_g hs h.1 (c := 1) (by omega)
    refine ⟨_, ?_, FP.u17 (by omega), g2⟩
    refine e_jn ?_
    refine e_if_t hs.2.2.1 ?_
    refine e_bdp (ps_sign h hs) ?_
    refine e_if_f (mt hz.mp e) ?_
    exact e_bd g1 rfl
/-- opens -/
theorem open_g {p k d : Nat} (hs : PS ch n p k s) (hn : n ≤ 200) (hp : p < n) (hd : d ≤ 6) : (d < 6 → f_X4_opens (iI d) s = some (1, up s 17 3 (s 17 3 + 1))) ∧ (¬ d < 6 → ∃ t, f_X4_opens (iI d) s = some (0, t) ∧ FP s t ∧ FLT (5000 + p) t) := by
  unfold f_X4_opens
  refine ⟨fun e => ?_, fun e => ?_⟩
  · refine e_if_t (by rw [show (6 : Int32) = iI 6 from rfl]; simp (disch := omega) only [Int.toNat_natCast, iI_lt, iI_le, iI_eq, iI_add, iI_sub, iI_mul, iI_neg, iI_clamp, inb_ii]; omega) ?_
    exact e_lts rfl
  · obtain ⟨g1, g2⟩ := stop_g hs hn (c := 5) (by omega)
    refine ⟨_, ?_, FP.u17 (by omega), g2⟩
    refine e_if_f (by rw [show (6 : Int32) = iI 6 from rfl]; simp (disch := omega) only [Int.toNat_natCast, iI_lt, iI_le, iI_eq, iI_add, iI_sub, iI_mul, iI_neg, iI_clamp, inb_ii]; omega) ?_
    exact e_bd g1 rfl
/-- the place of a letter in FACTS -/
def ixF (c : Int32) : Nat → Nat → Int32
  | 0, _ => -1
  | m + 1, i => if factsB.getD i 0 = c then iI i else ixF c m (i + 1)
theorem ix_dec : ∀ c : Nat, c < 256 → ixF (((iI (c : Int)).toUInt32 % 65536).toInt32.toInt8.toInt32) 11 0 = (if fix c < 11 then iI (fix c : Int) else -1) := by decide +kernel
theorem ix_can : ∀ c : Nat, c < 256 → ¬ ((((iI (c : Int)).toUInt32 % 65536).toInt32 : Int32) < 0) ∧ ¬ ((255 : Int32) < ((iI (c : Int)).toUInt32 % 65536).toInt32) := by decide +kernel
theorem ix_f {c : Nat} (hc : c < 256) (s : SS) : f_J0_indexOf_0f7a4 (((iI (c : Int)).toUInt32 % 65536).toInt32) s = some (if fix c < 11 then iI (fix c : Int) else -1) := by
  have lp : ∀ (v : Int32) (m N i : Nat), i + m = 11 → m < N → lp_J1_indexOfChar_4cfef_7 11 s v N (iI i) = some (ixF v m i) := by
    intro v m
    induction m with
    | zero =>
      intro N i hi hN
      obtain ⟨N, rfl⟩ : ∃ M, N = M + 1 := ⟨N - 1, by omega⟩
      rw [lp_J1_indexOfChar_4cfef_7]
      exact e_if_t (by simp (disch := omega) only [Int.toNat_natCast, iI_lt, iI_le, iI_eq, iI_add, iI_sub, iI_mul, iI_neg, iI_clamp, inb_ii, z_11]; omega) rfl
    | succ m ih =>
      intro N i hi hN
      obtain ⟨N, rfl⟩ : ∃ M, N = M + 1 := ⟨N - 1, by omega⟩
      rw [lp_J1_indexOfChar_4cfef_7]
      refine e_if_f (by simp (disch := omega) only [Int.toNat_natCast, iI_lt, iI_le, iI_eq, iI_add, iI_sub, iI_mul, iI_neg, iI_clamp, inb_ii, z_11]; omega) ?_
      refine e_gd (by simp (disch := omega) only [Int.toNat_natCast, iI_lt, iI_le, iI_eq, iI_add, iI_sub, iI_mul, iI_neg, iI_clamp, inb_ii]; omega) ?_
      rw [iI_clamp (by omega), Int.toNat_natCast]
      by_cases q : factsB.getD i 0 = v
      · rw [show ixF v (m + 1) i = iI i from if_pos q]
        exact e_if_t q rfl
      · rw [show ixF v (m + 1) i = ixF v m (i + 1) from if_neg q]
        refine e_if_f q ?_
        rw [nx_s]
        exact ih N (i + 1) (by omega) (by omega)
  have hcan := ix_can c hc
  unfold f_J0_indexOf_0f7a4 f_J0_indexOf_7cf53
  refine e_bdp (v := if fix c < 11 then iI (fix c : Int) else -1) ?_ rfl
  refine e_bdp (v := 1) rfl ?_
  refine e_if_f (by decide) ?_
  refine e_bdp (v := 11) rfl ?_
  refine e_bdp (v := if fix c < 11 then iI (fix c : Int) else -1) ?_ rfl
  unfold f_J1_indexOf_4cfef
  refine e_bdp (v := 1) ?_ ?_
  · unfold f_J1_canEncode_9a6ad
    refine e_if_f hcan.1 ?_
    exact e_if_f hcan.2 rfl
  · refine e_if_f (by decide) ?_
    refine e_lt ?_
    refine e_lt ?_
    refine e_if_t (by decide) ?_
    refine e_bdp (v := if fix c < 11 then iI (fix c : Int) else -1) ?_ rfl
    unfold f_J1_indexOfChar_4cfef
    refine e_lt ?_
    rw [← ix_dec c hc]
    exact lp _ 11 FU 0 rfl (fu_lt (by omega))
