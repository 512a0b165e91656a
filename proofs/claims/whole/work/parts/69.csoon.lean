/-! how soon, the class: cells in the order in which they are come to -/
variable {T : TW} {kd tl tn : Nat → Nat} {n c x p : Nat} {s t u : SS}
def ce (n y w : Nat) : Nat := 4 * (br n + y) + w
theorem ce_lt (hn : 1 ≤ n ∧ n ≤ 4) {y w : Nat} (hy : y < szR n) (hw : w < 4) : ce n y w < 21392 := by
  have := (sz_lt hn hy).1
  unfold ce
  omega
theorem ce_inj {y w y2 w2 : Nat} (h : ce n y w = ce n y2 w2) (a : w < 4) (b : w2 < 4) : y = y2 ∧ w = w2 := by
  unfold ce at h
  omega
theorem ce_ii (hn : 1 ≤ n ∧ n ≤ 4) {y w y2 w2 : Nat} (hy : y < szR n) (hw : w < 4) (hy2 : y2 < szR n) (hw2 : w2 < 4) (h : iI (ce n y w : Int) = iI (ce n y2 w2 : Int)) : y = y2 ∧ w = w2 := by
  have h1 := ce_lt hn hy hw
  have h2 := ce_lt hn hy2 hw2
  rw [iI_eq (by omega) (by omega)] at h
  exact ce_inj (n := n) (by omega) hw hw2
theorem ce_unk (hn : 1 ≤ n ∧ n ≤ 4) {y w : Nat} (hy : y < szR n) (hw : w < 4) : iI (ce n y w : Int) ≠ UNK := by
  have h1 := ce_lt hn hy hw
  show ¬ iI (ce n y w : Int) = iI (-1000000000)
  rw [iI_eq (by omega) (by omega)]
  omega
theorem ce_w (n y w : Nat) : wl_ n y * 4 + iI w = iI (ce n y w : Int) := cell_eq n y w
theorem co_done {a1 a2 a3 a4 : Int32} (h : (0 : Int32) ≤ s 46 7) : f_X0_comeTo a1 a2 a3 a4 s = some (0, s) := by
  unfold f_X0_comeTo
  refine e_lt ?_
  exact e_if_t h rfl
theorem co_old (hn : 1 ≤ n ∧ n ≤ 4) {y w : Nat} (hy : y < szR n) (hw : w < 4) {a3 a4 : Int32} (h : s 48 (ce n y w) ≠ UNK) : f_X0_comeTo (wl_ n y) (iI w) a3 a4 s = some (0, s) := by
  have h1 := ce_lt hn hy hw
  unfold f_X0_comeTo
  rw [ce_w]
  refine e_lt ?_
  by_cases q : (0 : Int32) ≤ s 46 7
  · exact e_if_t q rfl
  · refine e_if_f q ?_
    refine e_if_f (by simp (disch := omega) only [Int.toNat_natCast, iI_lt, iI_le, iI_eq, iI_add, iI_sub, iI_mul, iI_neg, iI_clamp, inb_ii, z_0]; omega) ?_
    refine e_if_f (by simp (disch := omega) only [Int.toNat_natCast, iI_lt, iI_le, iI_eq, iI_add, iI_sub, iI_mul, iI_neg, iI_clamp, inb_ii, z_21392]; omega) ?_
    refine e_gd (by simp (disch := omega) only [Int.toNat_natCast, iI_lt, iI_le, iI_eq, iI_add, iI_sub, iI_mul, iI_neg, iI_clamp, inb_ii]; omega) ?_
    rw [iI_clamp (by omega), Int.toNat_natCast]
    exact e_if_f h rfl
theorem co_new (W : WOK T kd tl n c tn) (h : CW T kd tl c tn s) {y w f : Nat} (hy : y < szR n) (hw : w < c) (a3 a4 : Int32) (hf : s 46 6 = iI f) (hf2 : f < 21392) (h7 : s 46 7 = -1) (h48 : s 48 (ce n y w) = UNK) : ∃ t, f_X0_comeTo (wl_ n y) (iI w) a3 a4 s = some (0, t) ∧ CZ 46 49 s t ∧ CW T kd tl c tn t ∧ t 48 = upd (s 48) (ce n y w) a3 ∧ t 49 = upd (s 49) (ce n y w) a4 ∧ t 47 = upd (s 47) f (iI (ce n y w)) ∧ t 46 6 = iI ((f + 1 : Nat) : Int) ∧ t 46 7 = (if qF T n y tn c = true then iI (ce n y w) else -1) ∧ ∀ j, j ≠ 6 → j ≠ 7 → t 46 j = s 46 j := by
  have hn := W.2.2.2
  have hc := W.cc
  have h1 := ce_lt hn hy (show w < 4 by omega)
  obtain ⟨u, e1, e2, e3⟩ := cw_quiet W ((h.up1 (k := 48) (j := ce n y w) (v := a3) (by omega)).up1 (k := 49) (j := ce n y w) (v := a4) (by omega)) hy
  have hi : ∀ k, 34 < k → u k = up (up s 48 (ce n y w) a3) 49 (ce n y w) a4 k := fun k a => e2.1 k (by omega) (by omega) (by omega) (by omega) (by omega)
  have u46 : u 46 = s 46 := by rw [hi 46 (by omega), up_cell (by omega), up_cell (by omega)]
  have u47 : u 47 = s 47 := by rw [hi 47 (by omega), up_cell (by omega), up_cell (by omega)]
  have u48 : u 48 = upd (s 48) (ce n y w) a3 := by rw [hi 48 (by omega), up_cell (by omega), up_def, upr_eq]
  have u49 : u 49 = upd (s 49) (ce n y w) a4 := by rw [hi 49 (by omega), up_def, upr_eq, up_cell (by omega)]
  have hu : CZ 46 49 s u := ((CZ.up1 (by omega)).tr (CZ.up1 (by omega))).tr e2.z
  have fin : ∀ (v : SS), v 46 6 = iI f → (∀ k, k ≠ 46 → v k = u k) → (∀ j, j ≠ 7 → v 46 j = s 46 j) → CZ 46 49 s v → CW T kd tl c tn v → ∃ t, (if (v 46 6 : Int32) < 0 then some (0, v) else if (21392 : Int32) ≤ (v 46 6 : Int32) then some (0, v) else gd (inb (v 46 6) 21392) (lts (up v 47 (Int32.toNatClampNeg (v 46 6)) (iI (ce n y w))) (fun (s14 : SS) => lts (up s14 46 6 ((s14 46 6) + 1)) (fun (s15 : SS) => some ((0 : Int32), s15))))) = some (0, t) ∧ CZ 46 49 s t ∧ CW T kd tl c tn t ∧ t 48 = upd (s 48) (ce n y w) a3 ∧ t 49 = upd (s 49) (ce n y w) a4 ∧ t 47 = upd (s 47) f (iI (ce n y w)) ∧ t 46 6 = iI ((f + 1 : Nat) : Int) ∧ t 46 7 = v 46 7 ∧ ∀ j, j ≠ 6 → j ≠ 7 → t 46 j = s 46 j := by
    intro v v6 v1 v2 v3 v4
    refine ⟨up (up v 47 f (iI (ce n y w))) 46 6 (iI ((f + 1 : Nat) : Int)), ?_, (v3.tr (CZ.up1 (by omega))).tr (CZ.up1 (by omega)), (v4.up1 (by omega)).up1 (by omega), ?_, ?_, ?_, up_at _ _ _ _, ?_, ?_⟩
    · rw [v6]
      refine e_if_f (by simp (disch := omega) only [Int.toNat_natCast, iI_lt, iI_le, iI_eq, iI_add, iI_sub, iI_mul, iI_neg, iI_clamp, inb_ii, z_0]; omega) ?_
      refine e_if_f (by simp (disch := omega) only [Int.toNat_natCast, iI_lt, iI_le, iI_eq, iI_add, iI_sub, iI_mul, iI_neg, iI_clamp, inb_ii, z_21392]; omega) ?_
      refine e_gd (by simp (disch := omega) only [Int.toNat_natCast, iI_lt, iI_le, iI_eq, iI_add, iI_sub, iI_mul, iI_neg, iI_clamp, inb_ii]; omega) ?_
      rw [iI_clamp (by omega), Int.toNat_natCast]
      refine e_lts ?_
      rw [up_cell (k := 47) (q := 46) (by omega), v6, nx_s]
      exact e_lts rfl
    · rw [up_cell (by omega), up_cell (by omega), v1 48 (by omega), u48]
    · rw [up_cell (by omega), up_cell (by omega), v1 49 (by omega), u49]
    · rw [up_cell (by omega), up_def, upr_eq, v1 47 (by omega), u47]
    · rw [up_slot (by omega), up_cell (by omega)]
    · intro j a b
      rw [up_slot a, up_cell (by omega), v2 j b]
  unfold f_X0_comeTo
  rw [ce_w]
  by_cases q : qF T n y tn c = true
  · rw [if_pos q] at e1
    obtain ⟨t, f1, f2, f3, f4, f5, f6, f7, f8, f9⟩ := fin (up u 46 7 (iI (ce n y w))) (by rw [up_slot (by omega), u46]; exact hf) (fun k a => up_cell a) (fun j a => by rw [up_slot a, u46]) (hu.tr (CZ.up1 (by omega))) (e3.up1 (by omega))
    refine ⟨t, ?_, f2, f3, f4, f5, f6, f7, by rw [f8, up_at, if_pos q], f9⟩
    refine e_lt ?_
    refine e_if_f (by rw [h7]; decide) ?_
    refine e_if_f (by simp (disch := omega) only [Int.toNat_natCast, iI_lt, iI_le, iI_eq, iI_add, iI_sub, iI_mul, iI_neg, iI_clamp, inb_ii, z_0]; omega) ?_
    refine e_if_f (by simp (disch := omega) only [Int.toNat_natCast, iI_lt, iI_le, iI_eq, iI_add, iI_sub, iI_mul, iI_neg, iI_clamp, inb_ii, z_21392]; omega) ?_
    refine e_gd (by simp (disch := omega) only [Int.toNat_natCast, iI_lt, iI_le, iI_eq, iI_add, iI_sub, iI_mul, iI_neg, iI_clamp, inb_ii]; omega) ?_
    rw [iI_clamp (by omega), Int.toNat_natCast]
    refine e_if_t h48 ?_
    refine e_gd (by simp (disch := omega) only [Int.toNat_natCast, iI_lt, iI_le, iI_eq, iI_add, iI_sub, iI_mul, iI_neg, iI_clamp, inb_ii]; omega) ?_
    refine e_lts ?_
    refine e_gd (by simp (disch := omega) only [Int.toNat_natCast, iI_lt, iI_le, iI_eq, iI_add, iI_sub, iI_mul, iI_neg, iI_clamp, inb_ii]; omega) ?_
    refine e_lts ?_
    refine e_bd e1 ?_
    refine e_jn ?_
    refine e_if_f (by decide) ?_
    refine e_lts ?_
    exact f1
  · rw [if_neg q] at e1
    obtain ⟨t, f1, f2, f3, f4, f5, f6, f7, f8, f9⟩ := fin u (by rw [u46]; exact hf) (fun k a => rfl) (fun j a => by rw [u46]) hu e3
    refine ⟨t, ?_, f2, f3, f4, f5, f6, f7, by rw [f8, u46, if_neg q]; exact h7, f9⟩
    refine e_lt ?_
    refine e_if_f (by rw [h7]; decide) ?_
    refine e_if_f (by simp (disch := omega) only [Int.toNat_natCast, iI_lt, iI_le, iI_eq, iI_add, iI_sub, iI_mul, iI_neg, iI_clamp, inb_ii, z_0]; omega) ?_
    refine e_if_f (by simp (disch := omega) only [Int.toNat_natCast, iI_lt, iI_le, iI_eq, iI_add, iI_sub, iI_mul, iI_neg, iI_clamp, inb_ii, z_21392]; omega) ?_
    refine e_gd (by simp (disch := omega) only [Int.toNat_natCast, iI_lt, iI_le, iI_eq, iI_add, iI_sub, iI_mul, iI_neg, iI_clamp, inb_ii]; omega) ?_
    rw [iI_clamp (by omega), Int.toNat_natCast]
    refine e_if_t h48 ?_
    refine e_gd (by simp (disch := omega) only [Int.toNat_natCast, iI_lt, iI_le, iI_eq, iI_add, iI_sub, iI_mul, iI_neg, iI_clamp, inb_ii]; omega) ?_
    refine e_lts ?_
    refine e_gd (by simp (disch := omega) only [Int.toNat_natCast, iI_lt, iI_le, iI_eq, iI_add, iI_sub, iI_mul, iI_neg, iI_clamp, inb_ii]; omega) ?_
    refine e_lts ?_
    refine e_bd e1 ?_
    refine e_jn ?_
    refine e_if_t rfl ?_
    exact f1
/-- what is asked of the row and place stays -/
def KEP (s t : SS) : Prop := CZ 46 49 s t ∧ ∀ j, j ≠ 6 → j ≠ 7 → t 46 j = s 46 j
theorem KEP.rf (s : SS) : KEP s s := ⟨CZ.rf _ _ _, fun _ _ _ => rfl⟩
theorem KEP.tr (h : KEP s t) (g : KEP t u) : KEP s u := ⟨h.1.tr g.1, fun j a b => (g.2 j a b).trans (h.2 j a b)⟩
/-- the queue -/
def QI (T : TW) (kd tl : Nat → Nat) (n c : Nat) (tn : Nat → Nat) (f : Nat) (s : SS) : Prop := CW T kd tl c tn s ∧ s 46 6 = iI f ∧ s 46 7 = -1 ∧ f = dcF UNK (s 48) (4 * br n) (4 * szR n)
def QQ (n c f : Nat) (lev : Nat → Nat) (s : SS) : Prop := (∀ j, j < f → ∃ y w, y < szR n ∧ w < c ∧ s 47 j = iI (ce n y w) ∧ s 48 (ce n y w) ≠ UNK ∧ lev (ce n y w) ≤ j) ∧ ∀ y w, y < szR n → w < c → s 48 (ce n y w) ≠ UNK → ∃ j, j < f ∧ s 47 j = iI (ce n y w)
def QS (n c f : Nat) (lev : Nat → Nat) (s : SS) : Prop := ∀ j j2 y w y2 w2, j ≤ j2 → j2 < f → y < szR n → w < c → y2 < szR n → w2 < c → s 47 j = iI (ce n y w) → s 47 j2 = iI (ce n y2 w2) → lev (ce n y w) ≤ lev (ce n y2 w2)
def QB (n c i : Nat) (lev : Nat → Nat) (s : SS) : Prop := ∀ y w y2 w2, y < szR n → w < c → y2 < szR n → w2 < c → s 47 i = iI (ce n y w) → s 48 (ce n y2 w2) ≠ UNK → lev (ce n y2 w2) ≤ lev (ce n y w) + 1
/-- acts that are through -/
def thr (m l : Nat) : Prop := (l = 8 ∧ 0 < m) ∨ (l < 8 ∧ l + 1 < m)
def CHN (T : TW) (n c : Nat) (tn : Nat → Nat) (x p k : Nat) (s : SS) : Prop := s 48 (ce n x p) = -1 ∧ ∀ j, j < k → s 48 (ce n (gpt T n c tn x p (j + 1)) ((p + (j + 1)) % c)) = iI (ce n (gpt T n c tn x p j) ((p + j) % c)) ∧ s 49 (ce n (gpt T n c tn x p (j + 1)) ((p + (j + 1)) % c)) = iI (gct T n c tn (gpt T n c tn x p j) ((p + j) % c))
def G0 (T : TW) (n c : Nat) (tn : Nat → Nat) (s : SS) : Prop := ∀ y w, y < szR n → w < c → s 48 (ce n y w) ≠ UNK → ¬ FQ T n c tn y w
def GFI (T : TW) (n c : Nat) (tn : Nat → Nat) (x p i m f : Nat) (lev : Nat → Nat) (k ik : Nat) (s : SS) : Prop := FQ T n c tn x p ∧ (∀ y w, y < szR n → w < c → s 48 (ce n y w) ≠ UNK → FQ T n c tn y w → dq T n c tn x p ≤ dq T n c tn y w + lev (ce n y w)) ∧ k < dq T n c tn x p ∧ i ≤ ik ∧ ik < f ∧ s 47 ik = iI (ce n (gpt T n c tn x p k) ((p + k) % c)) ∧ lev (ce n (gpt T n c tn x p k) ((p + k) % c)) = k ∧ (∀ j y w, j < ik → y < szR n → w < c → s 47 j = iI (ce n y w) → lev (ce n y w) = k → FQ T n c tn y w → dq T n c tn x p < dq T n c tn y w + k) ∧ (∀ y w, y < szR n → w < c → s 48 (ce n y w) ≠ UNK → FQ T n c tn y w → dq T n c tn y w + lev (ce n y w) = dq T n c tn x p → lev (ce n y w) ≤ k) ∧ CHN T n c tn x p k s ∧ (∀ j, j ≤ k → s 48 (ce n (gpt T n c tn x p j) ((p + j) % c)) ≠ UNK) ∧ (i = ik → ∀ l, thr m l → gP T n c tn (gpt T n c tn x p k) ((p + k) % c) l = false)
def BIV (T : TW) (kd tl : Nat → Nat) (n c : Nat) (tn : Nat → Nat) (x p i m f : Nat) (s : SS) : Prop := ∃ lev, QI T kd tl n c tn f s ∧ QQ n c f lev s ∧ QS n c f lev s ∧ (i < f → QB n c i lev s) ∧ ((¬ FQ T n c tn x p ∧ G0 T n c tn s) ∨ ∃ k ik, GFI T n c tn x p i m f lev k ik s)
/-- a quiet row is found -/
def DNE (T : TW) (kd tl : Nat → Nat) (n c : Nat) (tn : Nat → Nat) (x p : Nat) (s : SS) : Prop := CW T kd tl c tn s ∧ FQ T n c tn x p ∧ dq T n c tn x p ≤ 18724 ∧ s 46 7 = iI (ce n (gpt T n c tn x p (dq T n c tn x p)) ((p + dq T n c tn x p) % c)) ∧ CHN T n c tn x p (dq T n c tn x p) s
theorem act_eq {y w m l : Nat} (hm : m ≤ 8) (hl : l = if m = 0 then 8 else m - 1) (hf : FQ T n c tn y w) (h0 : dq T n c tn y w ≠ 0) (h : gP T n c tn y w l = true) (g : ∀ l, thr m l → gP T n c tn y w l = false) : l = gct T n c tn y w := by
  obtain ⟨h1, h2, h3⟩ := gct_ok hf h0
  rcases h3 with a | ⟨a, b⟩
  · rw [a] at h1
    by_cases q : m = 0
    · rw [if_pos q] at hl; omega
    · have := g 8 (Or.inl ⟨rfl, by omega⟩)
      rw [this] at h1
      cases h1
  · have h8 : gct T n c tn y w ≠ 8 := fun e => by rw [e, a] at h1; cases h1
    have l8 : l ≠ 8 := fun e => by rw [e, a] at h; cases h
    by_cases q : m = 0
    · rw [if_pos q] at hl; omega
    · rw [if_neg q] at hl
      rcases Nat.lt_trichotomy l (gct T n c tn y w) with z | z | z
      · rw [b l z] at h; cases h
      · exact z
      · have := g (gct T n c tn y w) (Or.inr ⟨by omega, by omega⟩)
        rw [this] at h1
        cases h1
