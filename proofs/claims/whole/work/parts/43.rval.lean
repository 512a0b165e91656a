/-- the letters of a factor, as they stand in FACTS -/
def fcode (j : Nat) : Int32 := factsB.getD j 0
/-- the facts as the reference's letters answer -/
def FA (F : Nat → Int32) (s : SS) : Prop := ∀ j, j < 11 → f_X12_valueOf (fcode j) s = some (F j)
def RS (s t : SS) : Prop := ∀ k, k ≠ 78 → k ≠ 79 → t k = s k
theorem RS.rf (s : SS) : RS s s := fun _ _ _ => rfl
theorem RS.tr {s t u : SS} (h : RS s t) (g : RS t u) : RS s u := fun k a b => (g k a b).trans (h k a b)
def RVT (T : TW) (s : SS) : Prop := ∀ (F : Nat → Int32) (t : SS), (∀ k, 65 ≤ k → k ≤ 70 → t k = s k) → t 56 17 = s 56 17 → FA F t → (∃ u : SS, f_X12_tells 118 (-100) 100 t = some (T.2.2 118 F, u) ∧ RS t u) ∧ ∃ u : SS, f_X12_tells 109 0 1 t = some (T.2.2 109 F, u) ∧ RS t u
def VR (T : TW) (x : Nat) : Prop := ∀ i, i < mny x → lwA x i < T.1
theorem stn_bt : ∀ (m x l : Nat), mny x = m → x < 4681 → l < 32 → (bt (stn x) l = true ↔ ∃ i, i < mny x ∧ lwA x i = l) := by
  intro m
  induction m with
  | zero =>
    intro x l hm hx hl
    have h0 : x = 0 := by
      by_cases q : x = 0
      · exact q
      · have := mny_up (x := x) (by omega) hx; omega
    subst h0
    rw [stn_0, b_0, hm]
    constructor
    · intro h; cases h
    · rintro ⟨i, hi, -⟩; omega
  | succ m ih =>
    intro x l hm hx hl
    have h0 : 0 < x := mny_pos (by omega)
    have hu := mny_up h0 hx
    rw [stn_up h0 hx, b_or, sh1_bt (by omega) hl]
    have e := ih ((x - 1) / 8) l (by omega) (by omega) hl
    constructor
    · intro h
      by_cases q : l = (x - 1) % 8
      · exact ⟨mny x - 1, by omega, by rw [lwA_last]; exact q.symm⟩
      · simp [q] at h
        obtain ⟨i, h1, h2⟩ := e.mp h
        exact ⟨i, by omega, by rw [lwA_up h0 hx h1]; exact h2⟩
    · rintro ⟨i, h1, h2⟩
      by_cases q : i < mny ((x - 1) / 8)
      · rw [e.mpr ⟨i, q, by rw [← lwA_up h0 hx q]; exact h2⟩]; rfl
      · have : i = mny x - 1 := by omega
        rw [this, lwA_last] at h2
        simp [h2]
theorem vr_hcond {T : TW} {x l : Nat} (hv : VR T x) (hx : x < 4681) (hl : l < 32) (h : hcond T x l = true) : l < T.1 := by
  unfold hcond at h
  rw [Bool.and_eq_true] at h
  obtain ⟨i, h1, h2⟩ := (stn_bt (mny x) x l rfl hx hl).mp h.1
  rw [← h2]
  exact hv i h1
theorem laid_bt {T : TW} (hT : T.1 ≤ 8) {x l : Nat} (hv : VR T x) (hx : x < 4681) (hl : l < 32) : bt (hI T x T.1) l = hcond T x l := by
  rw [hI_bt T x T.1 l hT hl]
  by_cases q : hcond T x l = true
  · have := vr_hcond hv hx hl q
    simp [q, this]
  · simp at q
    simp [q]
/-- slots that a question may change -/
def rsl (j : Nat) : Prop := j = 40 ∨ j = 41 ∨ j = 42 ∨ j = 43 ∨ j = 44
/-- what asking one value may change -/
def RQV (s t : SS) : Prop := (∀ k, k ≠ 56 → k ≠ 78 → k ≠ 79 → t k = s k) ∧ ∀ j, ¬ rsl j → t 56 j = s 56 j
theorem RQV.rf (s : SS) : RQV s s := ⟨fun _ _ _ _ => rfl, fun _ _ => rfl⟩
theorem RQV.tr {s t u : SS} (h : RQV s t) (g : RQV t u) : RQV s u := ⟨fun k a b c => (g.1 k a b c).trans (h.1 k a b c), fun j a => (g.2 j a).trans (h.2 j a)⟩
theorem RS.v {s t : SS} (h : RS s t) : RQV s t := ⟨fun k _ b c => h k b c, fun j _ => by rw [h 56 (by omega) (by omega)]⟩
theorem RQV.u {s : SS} {j : Nat} {v : Int32} (h : rsl j) : RQV s (up s 56 j v) := ⟨fun k a _ _ => up_cell a, fun i hi => up_slot (fun e => hi (e ▸ h))⟩
theorem RQV.b {T : TW} {s t : SS} (h : RQV s t) (g : RTB T s) : RTB T t := by
  unfold RTB
  rw [h.2 2 (by unfold rsl; omega), h.1 58 (by omega) (by omega) (by omega), h.1 59 (by omega) (by omega) (by omega), h.1 60 (by omega) (by omega) (by omega), h.1 61 (by omega) (by omega) (by omega)]
  exact g
theorem RQV.laid {T : TW} {x : Nat} {s t : SS} (h : RQV s t) (g : Laid T x s) : Laid T x t := by
  unfold Laid
  rw [h.2 48 (by unfold rsl; omega), h.2 49 (by unfold rsl; omega), h.2 50 (by unfold rsl; omega), h.1 80 (by omega) (by omega) (by omega)]
  exact g
theorem RVT.of {T : TW} {s t : SS} (h : RVT T s) (e : ∀ k, 65 ≤ k → k ≤ 70 → t k = s k) (e2 : t 56 17 = s 56 17) : RVT T t := fun F u hu h17 hF => h F u (fun k a b => (hu k a b).trans (e k a b)) (h17.trans e2) hF
theorem RQV.t {T : TW} {s t : SS} (h : RQV s t) (g : RVT T s) : RVT T t := g.of (fun k _ _ => h.1 k (by omega) (by omega) (by omega)) (h.2 17 (by unfold rsl; omega))
theorem fcode_eq : fcode 0 = 108 ∧ fcode 1 = 112 ∧ fcode 2 = 107 ∧ fcode 3 = 110 ∧ fcode 4 = 115 ∧ fcode 5 = 104 ∧ fcode 6 = 102 ∧ fcode 7 = 105 ∧ fcode 8 = 111 ∧ fcode 9 = 121 ∧ fcode 10 = 114 := by decide
/-- the facts of law l at place i, as the five slots and the laid row have them -/
theorem fa_of {T : TW} {n x l i p : Nat} {s : SS} (hb : RTB T s) (h3 : s 56 3 = iI n) (hn : 1 ≤ n ∧ n ≤ 4) (hx : x < 4681) (hL : Laid T x s) (hl : l < 8) (e0 : s 56 40 = iI l) (e1 : s 56 41 = iI p) (e4 : s 56 42 = iI (tms x l)) (e5 : s 56 43 = if hcond T x l = true then 1 else 0) (e7 : s 56 44 = iI i) : FA (fct T n x l i p) s := by
  have h4 := mny_le x
  obtain ⟨h48, h80, -, -⟩ := hL
  obtain ⟨c0, c1, c2, c3, c4, c5, c6, c7, c8, c9, c10⟩ := fcode_eq
  have d48 : (s 56 48 = 0) = (mny x = 0) := by rw [h48]; exact propext ((iI_eq (b := 0) (by omega) (by omega)).trans (by omega))
  have ho : 0 < mny x → old x = lwA x 0 := by
    intro hm
    clear h80 d48 h48
    have key : ∀ (m y : Nat), mny y = m + 1 → y < 4681 → old y = lwA y 0 := by
      intro m
      induction m with
      | zero =>
        intro y hy hy2
        have h0 : 0 < y := mny_pos (by omega)
        have hu := mny_up h0 hy2
        have hz : (y - 1) / 8 = 0 := by
          by_cases q : (y - 1) / 8 = 0
          · exact q
          · have := mny_up (x := (y - 1) / 8) (by omega) (by omega); omega
        rw [old_up h0 hy2, if_pos hz, ← lwA_last (x := y)]
        congr 1
        omega
      | succ m ih =>
        intro y hy hy2
        have h0 : 0 < y := mny_pos (by omega)
        have hu := mny_up h0 hy2
        have hp : 0 < (y - 1) / 8 := mny_pos (by omega)
        rw [old_up h0 hy2, if_neg (by omega), ih ((y - 1) / 8) (by omega) (by omega), lwA_up h0 hy2 (by omega)]
    exact key (mny x - 1) x (by omega) hx
  intro j hj
  unfold f_X12_valueOf
  obtain rfl | rfl | rfl | rfl | rfl | rfl | rfl | rfl | rfl | rfl | rfl : j = 0 ∨ j = 1 ∨ j = 2 ∨ j = 3 ∨ j = 4 ∨ j = 5 ∨ j = 6 ∨ j = 7 ∨ j = 8 ∨ j = 9 ∨ j = 10 := by omega
  · rw [c0]; exact congrArg some e0
  · rw [c1]; exact congrArg some e1
  · rw [c2]
    show gd (inb (s 56 40) 8) (some (s 58 (Int32.toNatClampNeg (s 56 40)))) = _
    rw [e0]
    refine e_gd (by simp (disch := omega) only [Int.toNat_natCast, iI_lt, iI_le, iI_eq, iI_add, iI_sub, iI_mul, iI_neg, iI_clamp, inb_ii]; omega) ?_
    rw [iI_clamp (by omega), Int.toNat_natCast, (hb.2 l hl).1]
    rfl
  · rw [c3]; exact congrArg some h48
  · rw [c4]; exact congrArg some e4
  · rw [c5]; exact congrArg some e5
  · rw [c6]
    show (if s 56 48 = s 56 3 then some 1 else some 0) = some (if mny x = n then (1 : Int32) else 0)
    rw [h48, h3]
    by_cases q : mny x = n
    · rw [if_pos q, if_pos (by rw [q])]
    · rw [if_neg q, if_neg (by rw [iI_eq (by omega) (by omega)]; omega)]
  · rw [c7]; exact congrArg some e7
  · rw [c8]
    show (if s 56 48 = 0 then some 8 else gd (inb 0 4) (some (s 80 (Int32.toNatClampNeg 0)))) = some (iI (old x))
    by_cases q : mny x = 0
    · refine e_if_t (d48.mpr q) ?_
      have : old x = 8 := by unfold old; rw [if_pos q]
      rw [this]
      rfl
    · refine e_if_f (mt d48.mp q) ?_
      refine e_gd (by decide) ?_
      rw [ho (by omega)]
      exact congrArg some (h80 0 (by omega))
  · rw [c9]
    show (if s 56 48 = 0 then some 8 else gd (inb (s 56 48 - 1) 4) (some (s 80 (Int32.toNatClampNeg (s 56 48 - 1))))) = some (iI (nws x))
    by_cases q : mny x = 0
    · refine e_if_t (d48.mpr q) ?_
      rw [nws_0 q]
      rfl
    · refine e_if_f (mt d48.mp q) ?_
      have e : s 56 48 - 1 = iI ((mny x - 1 : Nat) : Int) := by rw [h48, z_1, iI_sub]; congr 1; omega
      rw [e]
      refine e_gd (by simp (disch := omega) only [Int.toNat_natCast, iI_lt, iI_le, iI_eq, iI_add, iI_sub, iI_mul, iI_neg, iI_clamp, inb_ii]; omega) ?_
      rw [iI_clamp (by omega), Int.toNat_natCast, h80 _ (by omega), nws_eq (by omega)]
  · rw [c10]; exact congrArg some h3
