/-! how soon, the class: cells in the order in which they are come to -/
variable {T : TW} {kd tl tn : Nat → Nat} {n c x p : Nat} {s t u : SS}
def ce (n y w : Nat) : Nat := 4 * (br n + y) + w
theorem ce_lt (hn : 1 ≤ n ∧ n ≤ 4) {y w : Nat} (hy : y < szR n) (hw : w < 4) : ce n y w < 21392 := by
  have := (sz_lt hn hy).1
  unfold ce
  omega
theorem ce_inj {y w y2 w2 : Nat} (h : ce n y w = ce n y2 w2) (a : w < 4) (b : w2 < 4) : y = y2 ∧ w = w2 := by
  unfold ce at h
  omega
theorem ce_ii (hn : 1 ≤ n ∧ n ≤ 4) {y w y2 w2 : Nat} (hy : y < szR n) (hw : w < 4) (hy2 : y2 < szR n) (hw2 : w2 < 4) (h : iI (ce n y w : Int) = iI (ce n y2 w2 : Int)) : y = y2 ∧ w = w2 := by
  have h1 := ce_lt hn hy hw
  have h2 := ce_lt hn hy2 hw2
  rw [iI_eq (by omega) (by omega)] at h
  exact ce_inj (n := n) (by omega) hw hw2
theorem ce_unk (hn : 1 ≤ n ∧ n ≤ 4) {y w : Nat} (hy : y < szR n) (hw : w < 4) : iI (ce n y w : Int) ≠ UNK := by
  have h1 := ce_lt hn hy hw
  show ¬ iI (ce n y w : Int) = iI (-1000000000)
  rw [iI_eq (by omega) (by omega)]
  omega
theorem ce_w (n y w : Nat) : wl_ n y * 4 + iI w = iI (ce n y w : Int) := cell_eq n y w
/-- what the new class keeps of its 46 -/
def KEPA (s t : SS) : Prop := CZ 46 49 s t ∧ ∀ j, j ≠ 5 → j ≠ 6 → t 46 j = s 46 j
theorem KEPA.rf (s : SS) : KEPA s s := ⟨CZ.rf _ _ _, fun _ _ _ => rfl⟩
theorem KEPA.tr (h : KEPA s t) (g : KEPA t u) : KEPA s u := ⟨h.1.tr g.1, fun j a b => (g.2 j a b).trans (h.2 j a b)⟩
theorem CQ.kepa (g : CQ s t) : KEPA s t := ⟨g.z, fun j _ _ => by rw [g.1 46 (by omega) (by omega) (by omega) (by omega) (by omega)]⟩
theorem co_done {a1 a2 a3 a4 : Int32} (h : (0 : Int32) ≤ s 46 6) : f_X0_comeTo a1 a2 a3 a4 s = some (0, s) := by
  unfold f_X0_comeTo
  exact e_if_t h rfl
theorem co_old (hn : 1 ≤ n ∧ n ≤ 4) {y w : Nat} (hy : y < szR n) (hw : w < 4) {a3 a4 : Int32} (h : bt (s 48 (br n + y)) w = true) : f_X0_comeTo (wl_ n y) (iI w) a3 a4 s = some (0, s) := by
  unfold f_X0_comeTo
  by_cases q : (0 : Int32) ≤ s 46 6
  · exact e_if_t q rfl
  · refine e_if_f q ?_
    by_cases q2 : s 46 5 < 0
    · exact e_if_t q2 rfl
    · refine e_if_f q2 ?_
      by_cases q3 : (21392 : Int32) ≤ s 46 5
      · exact e_if_t q3 rfl
      · refine e_if_f q3 ?_
        refine e_if_f (wl_c0 hn hy) ?_
        refine e_if_t (wl_c2 hn hy) ?_
        refine e_gd (wl_in hn hy) ?_
        rw [wl_cl hn hy]
        exact e_if_t ((has_bt (by omega)).mpr h) rfl
/-- what stands in a place of the queue -/
def pk4 (a0 a1 a2 a3 : Int32) : Int64 := wsl (wsl (wsl (wsl 0 0 16 a0) 1 16 a1) 2 16 a2) 3 16 a3
theorem pk4_at {a0 a1 a2 a3 : Int32} (h0 : sml 16 a0) (h1 : sml 16 a1) (h2 : sml 16 a2) (h3 : sml 16 a3) : slt (pk4 a0 a1 a2 a3) 0 16 = a0 ∧ slt (pk4 a0 a1 a2 a3) 1 16 = a1 ∧ slt (pk4 a0 a1 a2 a3) 2 16 = a2 ∧ slt (pk4 a0 a1 a2 a3) 3 16 = a3 := by
  have e : pk4 a0 a1 a2 a3 = wsl (wsl (wsl (wsl 0 (iI ((0 : Nat) : Int)) 16 a0) (iI ((1 : Nat) : Int)) 16 a1) (iI ((2 : Nat) : Int)) 16 a2) (iI ((3 : Nat) : Int)) 16 a3 := rfl
  have z : ∀ i : Nat, i < 4 → slt 0 (iI i) 16 = 0 := fun i hi => slt_0 B16 (by omega)
  have n0 : ∀ i : Nat, i < 4 → ¬ i = 0 → ∀ P : Int64, slt (wsl P (iI ((0 : Nat) : Int)) 16 a0) (iI i) 16 = slt P (iI i) 16 := fun i hi hne P => slt_ne B16 (by omega) (by omega) hne h0
  have n1 : ∀ i : Nat, i < 4 → ¬ i = 1 → ∀ P : Int64, slt (wsl P (iI ((1 : Nat) : Int)) 16 a1) (iI i) 16 = slt P (iI i) 16 := fun i hi hne P => slt_ne B16 (by omega) (by omega) hne h1
  have n2 : ∀ i : Nat, i < 4 → ¬ i = 2 → ∀ P : Int64, slt (wsl P (iI ((2 : Nat) : Int)) 16 a2) (iI i) 16 = slt P (iI i) 16 := fun i hi hne P => slt_ne B16 (by omega) (by omega) hne h2
  have n3 : ∀ i : Nat, i < 4 → ¬ i = 3 → ∀ P : Int64, slt (wsl P (iI ((3 : Nat) : Int)) 16 a3) (iI i) 16 = slt P (iI i) 16 := fun i hi hne P => slt_ne B16 (by omega) (by omega) hne h3
  rw [e]
  refine ⟨?_, ?_, ?_, ?_⟩
  · show slt _ (iI ((0 : Nat) : Int)) 16 = a0
    rw [n3 0 (by omega) (by omega), n2 0 (by omega) (by omega), n1 0 (by omega) (by omega)]
    exact slt_same B16 (by omega) (z 0 (by omega)) h0
  · show slt _ (iI ((1 : Nat) : Int)) 16 = a1
    rw [n3 1 (by omega) (by omega), n2 1 (by omega) (by omega)]
    exact slt_same B16 (by omega) (by rw [n0 1 (by omega) (by omega)]; exact z 1 (by omega)) h1
  · show slt _ (iI ((2 : Nat) : Int)) 16 = a2
    rw [n3 2 (by omega) (by omega)]
    exact slt_same B16 (by omega) (by rw [n1 2 (by omega) (by omega), n0 2 (by omega) (by omega)]; exact z 2 (by omega)) h2
  · show slt _ (iI ((3 : Nat) : Int)) 16 = a3
    exact slt_same B16 (by omega) (by rw [n2 3 (by omega) (by omega), n1 3 (by omega) (by omega), n0 3 (by omega) (by omega)]; exact z 3 (by omega)) h3
theorem co_new (W : WOK T kd tl n c tn) (h : CW T kd tl c tn s) {y w f l ip : Nat} (hy : y < szR n) (hw : w < c) (hl : l ≤ 8) (hip : ip < 21392) (hf : s 46 5 = iI f) (hf2 : f < 21392) (h6 : s 46 6 = -1) (h48 : bt (s 48 (br n + y)) w = false) : ∃ t, f_X0_comeTo (wl_ n y) (iI w) (iI l) (iI ip) s = some (0, t) ∧ KEPA s t ∧ CW T kd tl c tn t ∧ t 48 = upd (s 48) (br n + y) (s 48 (br n + y) ||| sh1 w) ∧ (gl 16 t 47 f 0 = wl_ n y ∧ gl 16 t 47 f 1 = iI w ∧ gl 16 t 47 f 2 = iI l ∧ gl 16 t 47 f 3 = iI ip) ∧ (∀ j i, j ≠ f → gl 16 t 47 j i = gl 16 s 47 j i) ∧ t 46 5 = iI ((f + 1 : Nat) : Int) ∧ t 46 6 = (if qF T n y tn c = true then iI f else -1) := by
  have hn := W.2.2.2
  have hc := W.cc
  have hsz := (sz_lt hn hy).1
  obtain ⟨u, e1, e2, e3⟩ := cw_quiet W (h.up1 (k := 48) (j := br n + y) (v := s 48 (br n + y) ||| sh1 w) (by omega)) hy
  have hi : ∀ k, 34 < k → u k = up s 48 (br n + y) (s 48 (br n + y) ||| sh1 w) k := fun k a => e2.1 k (by omega) (by omega) (by omega) (by omega) (by omega)
  have u46 : u 46 = s 46 := by rw [hi 46 (by omega), up_cell (by omega)]
  have u47 : u 47 = s 47 := by rw [hi 47 (by omega), up_cell (by omega)]
  have u48 : u 48 = upd (s 48) (br n + y) (s 48 (br n + y) ||| sh1 w) := by rw [hi 48 (by omega), up_def, upr_eq]
  have hu : CZ 46 49 s u := (CZ.up1 (by omega)).tr e2.z
  have m0 : sml 16 (wl_ n y) := sml_of (by omega) (by omega)
  have m1 : sml 16 (iI (w : Int)) := sml_of (by omega) (by omega)
  have m2 : sml 16 (iI (l : Int)) := sml_of (by omega) (by omega)
  have m3 : sml 16 (iI (ip : Int)) := sml_of (by omega) (by omega)
  have pk := pk4_at m0 m1 m2 m3
  have fin : ∀ (v : SS), v 46 5 = iI f → (∀ k, k ≠ 46 → v k = u k) → (∀ j, j ≠ 6 → v 46 j = s 46 j) → CZ 46 49 s v → CW T kd tl c tn v → ∃ t, (gd (inb (v 46 5) 21392) (lts (upl v 47 (Int32.toNatClampNeg (v 46 5)) (wsl (wsl (wsl (wsl 0 0 16 (wl_ n y)) 1 16 (iI w)) 2 16 (iI l)) 3 16 (iI ip))) (fun (s12 : SS) => lts (up s12 46 5 ((s12 46 5) + 1)) (fun (s13 : SS) => some ((0 : Int32), s13))))) = some (0, t) ∧ KEPA s t ∧ CW T kd tl c tn t ∧ t 48 = upd (s 48) (br n + y) (s 48 (br n + y) ||| sh1 w) ∧ (gl 16 t 47 f 0 = wl_ n y ∧ gl 16 t 47 f 1 = iI w ∧ gl 16 t 47 f 2 = iI l ∧ gl 16 t 47 f 3 = iI ip) ∧ (∀ j i, j ≠ f → gl 16 t 47 j i = gl 16 s 47 j i) ∧ t 46 5 = iI ((f + 1 : Nat) : Int) ∧ t 46 6 = v 46 6 := by
    intro v v6 v1 v2 v3 v4
    have t47 : (up (upr v 47 (lset (v 47) f (pk4 (wl_ n y) (iI w) (iI l) (iI ip)))) 46 5 (iI ((f + 1 : Nat) : Int))) 47 = lset (s 47) f (pk4 (wl_ n y) (iI w) (iI l) (iI ip)) := by
      rw [up_cell (by omega), upr_eq, v1 47 (by omega), u47]
    refine ⟨up (upr v 47 (lset (v 47) f (pk4 (wl_ n y) (iI w) (iI l) (iI ip)))) 46 5 (iI ((f + 1 : Nat) : Int)), ?_, ⟨(v3.tr (CZ.ur (by omega))).tr (CZ.up1 (by omega)), ?_⟩, (v4.ur (by omega)).up1 (by omega), ?_, ?_, ?_, up_at _ _ _ _, ?_⟩
    · rw [v6]
      refine e_gd (by simp (disch := omega) only [Int.toNat_natCast, iI_lt, iI_le, iI_eq, iI_add, iI_sub, iI_mul, iI_neg, iI_clamp, inb_ii]; omega) ?_
      rw [iI_clamp (by omega), Int.toNat_natCast]
      refine e_upl0 ?_
      rw [upr_ne (by omega), v6, nx_s]
      exact e_lts rfl
    · intro j a b
      rw [up_slot a, upr_ne (by omega), v2 j b]
    · rw [up_cell (by omega), upr_ne (by omega), v1 48 (by omega), u48]
    · unfold gl
      rw [t47, lgt_lset]
      exact pk
    · intro j i hj
      unfold gl
      rw [t47, lgt_ne _ _ _ _ hj]
    · rw [up_slot (by omega), upr_ne (by omega)]
  unfold f_X0_comeTo
  have hb := has_bt (x := s 48 (br n + y)) (l := w) (by omega)
  have nb : ¬ (((s 48 (br n + y)) >>> (iI (w : Int) &&& 31)) &&& 1 : Int32) = 1 := mt hb.mp (by rw [h48]; decide)
  by_cases q : qF T n y tn c = true
  · rw [if_pos q] at e1
    obtain ⟨t, f1, f2, f3, f4, f5, f6, f7, f8⟩ := fin (up u 46 6 (iI f)) (by rw [up_slot (by omega), u46]; exact hf) (fun k a => up_cell a) (fun j a => by rw [up_slot a, u46]) (hu.tr (CZ.up1 (by omega))) (e3.up1 (by omega))
    refine ⟨t, ?_, f2, f3, f4, f5, f6, f7, by rw [f8, up_at, if_pos q]⟩
    refine e_if_f (by rw [h6]; decide) ?_
    refine e_if_f (by rw [hf]; simp (disch := omega) only [Int.toNat_natCast, iI_lt, iI_le, iI_eq, iI_add, iI_sub, iI_mul, iI_neg, iI_clamp, inb_ii, z_0]; omega) ?_
    refine e_if_f (by rw [hf]; simp (disch := omega) only [Int.toNat_natCast, iI_lt, iI_le, iI_eq, iI_add, iI_sub, iI_mul, iI_neg, iI_clamp, inb_ii, z_21392]; omega) ?_
    refine e_if_f (wl_c0 hn hy) ?_
    refine e_if_t (wl_c2 hn hy) ?_
    refine e_gd (wl_in hn hy) ?_
    rw [wl_cl hn hy]
    refine e_if_f nb ?_
    refine e_gd (wl_in hn hy) ?_
    refine e_gd (wl_in hn hy) ?_
    refine e_lts ?_
    refine e_bd e1 ?_
    refine e_jn ?_
    refine e_if_f (by decide) ?_
    rw [u46, hf]
    refine e_lts ?_
    exact f1
  · rw [if_neg q] at e1
    obtain ⟨t, f1, f2, f3, f4, f5, f6, f7, f8⟩ := fin u (by rw [u46]; exact hf) (fun k a => rfl) (fun j a => by rw [u46]) hu e3
    refine ⟨t, ?_, f2, f3, f4, f5, f6, f7, by rw [f8, u46, if_neg q]; exact h6⟩
    refine e_if_f (by rw [h6]; decide) ?_
    refine e_if_f (by rw [hf]; simp (disch := omega) only [Int.toNat_natCast, iI_lt, iI_le, iI_eq, iI_add, iI_sub, iI_mul, iI_neg, iI_clamp, inb_ii, z_0]; omega) ?_
    refine e_if_f (by rw [hf]; simp (disch := omega) only [Int.toNat_natCast, iI_lt, iI_le, iI_eq, iI_add, iI_sub, iI_mul, iI_neg, iI_clamp, inb_ii, z_21392]; omega) ?_
    refine e_if_f (wl_c0 hn hy) ?_
    refine e_if_t (wl_c2 hn hy) ?_
    refine e_gd (wl_in hn hy) ?_
    rw [wl_cl hn hy]
    refine e_if_f nb ?_
    refine e_gd (wl_in hn hy) ?_
    refine e_gd (wl_in hn hy) ?_
    refine e_lts ?_
    refine e_bd e1 ?_
    refine e_jn ?_
    refine e_if_t rfl ?_
    exact f1
/-! a picture of the search by cells: 47 the queue, 48 of each cell the one that it was come to from, 49 the law, 46 its ends; the class's own state s holds the same by places of the queue -/
def RELf (n f : Nat) (g s : SS) : Prop :=
  (∀ k, k < 46 ∨ 49 < k → s k = g k) ∧ g 46 6 = iI f ∧ s 46 5 = iI f ∧ f ≤ 21392 ∧
  (∀ y w, y < szR n → w < 4 → (bt (s 48 (br n + y)) w = true ↔ g 48 (ce n y w) ≠ UNK)) ∧
  (∀ j, j < f → ∃ y w l ip : Nat, y < szR n ∧ w < 4 ∧ g 47 j = iI (ce n y w) ∧ g 48 (ce n y w) ≠ UNK ∧ gl 16 s 47 j 0 = wl_ n y ∧ gl 16 s 47 j 1 = iI w ∧ gl 16 s 47 j 2 = iI l ∧ g 49 (ce n y w) = iI l ∧ gl 16 s 47 j 3 = iI ip ∧ ((j = 0 ∧ g 48 (ce n y w) = -1) ∨ (0 < j ∧ ip < j ∧ g 48 (ce n y w) = g 47 ip))) ∧
  ((s 46 6 = -1 ∧ g 46 7 = -1) ∨ ∃ j : Nat, j < f ∧ s 46 6 = iI j ∧ g 46 7 = g 47 j)
def REL (n : Nat) (g s : SS) : Prop := ∃ f, RELf n f g s
def gho (t : SS) (r46 r47 r48 r49 : Nat → Int32) : SS := upr (upr (upr (upr t 46 r46) 47 r47) 48 r48) 49 r49
theorem gho_46 (t : SS) (r46 r47 r48 r49 : Nat → Int32) : gho t r46 r47 r48 r49 46 = r46 := by unfold gho; rw [upr_ne (by omega), upr_ne (by omega), upr_ne (by omega), upr_eq]
theorem gho_47 (t : SS) (r46 r47 r48 r49 : Nat → Int32) : gho t r46 r47 r48 r49 47 = r47 := by unfold gho; rw [upr_ne (by omega), upr_ne (by omega), upr_eq]
theorem gho_48 (t : SS) (r46 r47 r48 r49 : Nat → Int32) : gho t r46 r47 r48 r49 48 = r48 := by unfold gho; rw [upr_ne (by omega), upr_eq]
theorem gho_49 (t : SS) (r46 r47 r48 r49 : Nat → Int32) : gho t r46 r47 r48 r49 49 = r49 := by unfold gho; rw [upr_eq]
theorem gho_o (t : SS) (r46 r47 r48 r49 : Nat → Int32) {k : Nat} (h : k < 46 ∨ 49 < k) : gho t r46 r47 r48 r49 k = t k := by unfold gho; rw [upr_ne (by omega), upr_ne (by omega), upr_ne (by omega), upr_ne (by omega)]
theorem REL.at {g : SS} {f : Nat} (h : REL n g s) (hf : g 46 6 = iI f) (hf2 : f ≤ 21392) : RELf n f g s := by
  obtain ⟨f2, h⟩ := h
  have e := h.2.1
  have b := h.2.2.2.1
  rw [hf, iI_eq (by omega) (by omega)] at e
  have : f2 = f := by omega
  rw [← this]
  exact h
theorem REL.cw {g : SS} (h : REL n g s) (hc : CW T kd tl c tn g) : CW T kd tl c tn s := by
  obtain ⟨f, h⟩ := h
  exact hc.of (fun k hk => h.1 k (by omega))
theorem REL.no {g : SS} (hn : 1 ≤ n ∧ n ≤ 4) (h : REL n g s) : ((0 : Int32) ≤ s 46 6) ↔ ((0 : Int32) ≤ g 46 7) := by
  obtain ⟨f, h⟩ := h
  have b := h.2.2.2.1
  rcases h.2.2.2.2.2.2 with ⟨a1, a2⟩ | ⟨j, a1, a2, a3⟩
  · rw [a1, a2]
  · obtain ⟨y, w, l, ip, b1, b2, b3, -⟩ := h.2.2.2.2.2.1 j a1
    have := ce_lt hn b1 b2
    rw [a2, a3, b3]
    simp (disch := omega) only [Int.toNat_natCast, iI_lt, iI_le, iI_eq, iI_add, iI_sub, iI_mul, iI_neg, iI_clamp, inb_ii, z_0]
    omega
theorem REL.m1 {g : SS} (hn : 1 ≤ n ∧ n ≤ 4) (h : REL n g s) (h7 : g 46 7 = -1) : s 46 6 = -1 := by
  obtain ⟨f, h⟩ := h
  rcases h.2.2.2.2.2.2 with ⟨a1, a2⟩ | ⟨j, a1, a2, a3⟩
  · exact a1
  · obtain ⟨y, w, l, ip, b1, b2, b3, -⟩ := h.2.2.2.2.2.1 j a1
    have := ce_lt hn b1 b2
    rw [h7, b3, z_m1, iI_eq (by omega) (by omega)] at a3
    omega
theorem RELf.q {g : SS} {f : Nat} (h : RELf n f g s) (q : CQ s t) (hc : CW T kd tl c tn t) : ∃ g', RELf n f g' t ∧ CQ g g' ∧ CW T kd tl c tn g' := by
  have q46 : t 46 = s 46 := q.1 46 (by omega) (by omega) (by omega) (by omega) (by omega)
  have q47 : t 47 = s 47 := q.1 47 (by omega) (by omega) (by omega) (by omega) (by omega)
  have q48 : t 48 = s 48 := q.1 48 (by omega) (by omega) (by omega) (by omega) (by omega)
  refine ⟨gho t (g 46) (g 47) (g 48) (g 49), ?_, ⟨?_, ?_⟩, hc.of (fun k hk => gho_o _ _ _ _ _ (by omega))⟩
  · obtain ⟨h1, h2⟩ := h
    refine ⟨fun k hk => (gho_o _ _ _ _ _ hk).symm, ?_⟩
    unfold gl at h2 ⊢
    rw [gho_46, gho_47, gho_48, gho_49, q46, q47, q48]
    exact h2
  · intro k a b d e f2
    by_cases z : k < 46 ∨ 49 < k
    · rw [gho_o _ _ _ _ _ z, q.1 k a b d e f2]
      exact h.1 k z
    · obtain rfl | rfl | rfl | rfl : k = 46 ∨ k = 47 ∨ k = 48 ∨ k = 49 := by omega
      · exact gho_46 _ _ _ _ _
      · exact gho_47 _ _ _ _ _
      · exact gho_48 _ _ _ _ _
      · exact gho_49 _ _ _ _ _
  · intro j hj
    rw [gho_o _ _ _ _ _ (by omega), q.2 j hj, h.1 27 (by omega)]
theorem co_oldG {g : SS} {f : Nat} (h : RELf n f g s) (hn : 1 ≤ n ∧ n ≤ 4) {y w : Nat} (hy : y < szR n) (hw : w < 4) {a3 a4 : Int32} (q : g 48 (ce n y w) ≠ UNK) : f_X0_comeTo (wl_ n y) (iI w) a3 a4 s = some (0, s) := co_old hn hy hw ((h.2.2.2.2.1 y w hy hw).mpr q)
theorem co_newG (W : WOK T kd tl n c tn) {g : SS} {f y w l ip : Nat} {a3 : Int32} (R : RELf n f g s) (h : CW T kd tl c tn g) (hy : y < szR n) (hw : w < c) (hl : l ≤ 8) (hp : (f = 0 ∧ ip = 0 ∧ a3 = -1) ∨ (0 < f ∧ ip < f ∧ a3 = g 47 ip)) (hf2 : f < 21392) (h7 : g 46 7 = -1) (h48 : g 48 (ce n y w) = UNK) :
    ∃ t gt, f_X0_comeTo (wl_ n y) (iI w) (iI l) (iI ip) s = some (0, t) ∧ RELf n (f + 1) gt t ∧ KEPA s t ∧ CZ 46 49 g gt ∧ CW T kd tl c tn gt ∧ gt 48 = upd (g 48) (ce n y w) a3 ∧ gt 49 = upd (g 49) (ce n y w) (iI l) ∧ gt 47 = upd (g 47) f (iI (ce n y w)) ∧ gt 46 6 = iI ((f + 1 : Nat) : Int) ∧ gt 46 7 = (if qF T n y tn c = true then iI (ce n y w) else -1) ∧ ∀ j, j ≠ 6 → j ≠ 7 → gt 46 j = g 46 j := by
  have hn := W.2.2.2
  have hc := W.cc
  have hcl := ce_lt hn hy (show w < 4 by omega)
  have hcs : CW T kd tl c tn s := REL.cw ⟨f, R⟩ h
  have h6 := REL.m1 hn ⟨f, R⟩ h7
  obtain ⟨r1, r2, r3, r4, r5, r6, r7⟩ := id R
  have nb : bt (s 48 (br n + y)) w = false := by
    have := mt (r5 y w hy (by omega)).mp (fun z => z h48)
    simpa using this
  have a3u : a3 ≠ UNK := by
    rcases hp with ⟨-, -, e⟩ | ⟨a, b, e⟩
    · rw [e]; decide
    · obtain ⟨y2, w2, l2, ip2, b1, b2, b3, -⟩ := r6 ip b
      rw [e, b3]
      exact ce_unk hn b1 b2
  obtain ⟨t, e1, e2, e3, e4, e5, e6, e7, e8⟩ := co_new W hcs (l := l) (ip := ip) hy hw hl (by omega) r3 hf2 h6 nb
  refine ⟨t, gho t (upd (upd (g 46) 6 (iI ((f + 1 : Nat) : Int))) 7 (if qF T n y tn c = true then iI (ce n y w) else -1)) (upd (g 47) f (iI (ce n y w))) (upd (g 48) (ce n y w) a3) (upd (g 49) (ce n y w) (iI l)), e1, ?_, e2, ⟨?_, ?_⟩, e3.of (fun k hk => gho_o _ _ _ _ _ (by omega)), gho_48 _ _ _ _ _, gho_49 _ _ _ _ _, gho_47 _ _ _ _ _, by rw [gho_46, upd_ne (by omega), upd_eq], by rw [gho_46, upd_eq], fun j a b => by rw [gho_46, upd_ne b, upd_ne a]⟩
  · refine ⟨fun k hk => (gho_o _ _ _ _ _ hk).symm, by rw [gho_46, upd_ne (by omega), upd_eq], e7, by omega, ?_, ?_, ?_⟩
    · intro y2 w2 hy2 hw2
      rw [gho_48, e4]
      have r := r5 y2 w2 hy2 hw2
      by_cases q : y2 = y
      · subst q
        rw [upd_eq, b_or, sh1_bt (by omega) (by omega)]
        by_cases q2 : w2 = w
        · subst q2
          rw [upd_eq]
          simp [a3u]
        · rw [upd_ne (fun z => q2 (ce_inj z (by omega) (by omega)).2), ← r]
          simp [q2]
      · rw [upd_ne (by omega), upd_ne (fun z => q (ce_inj z (by omega) (by omega)).1)]
        exact r
    · intro j hj
      rw [gho_47, gho_48, gho_49]
      by_cases q : j = f
      · subst q
        refine ⟨y, w, l, ip, hy, by omega, by rw [upd_eq], by rw [upd_eq]; exact a3u, e5.1, e5.2.1, e5.2.2.1, by rw [upd_eq], e5.2.2.2, ?_⟩
        rw [upd_eq]
        rcases hp with ⟨a, -, b⟩ | ⟨a, b, d⟩
        · exact Or.inl ⟨a, b⟩
        · exact Or.inr ⟨a, b, by rw [upd_ne (by omega)]; exact d⟩
      · obtain ⟨y2, w2, l2, ip2, b1, b2, b3, b4, b5, b6, b7, b8, b9, b10⟩ := r6 j (by omega)
        have ne : ce n y2 w2 ≠ ce n y w := fun z => b4 (by rw [z]; exact h48)
        refine ⟨y2, w2, l2, ip2, b1, b2, by rw [upd_ne q]; exact b3, by rw [upd_ne ne]; exact b4, by rw [e6 _ _ q]; exact b5, by rw [e6 _ _ q]; exact b6, by rw [e6 _ _ q]; exact b7, by rw [upd_ne ne]; exact b8, by rw [e6 _ _ q]; exact b9, ?_⟩
        rw [upd_ne ne]
        rcases b10 with a | ⟨a, b, d⟩
        · exact Or.inl a
        · exact Or.inr ⟨a, b, by rw [upd_ne (by omega)]; exact d⟩
    · rw [gho_46, gho_47, upd_eq]
      by_cases q : qF T n y tn c = true
      · rw [if_pos q] at e8 ⊢
        exact Or.inr ⟨f, by omega, e8, by rw [upd_eq]⟩
      · rw [if_neg q] at e8 ⊢
        exact Or.inl ⟨e8, rfl⟩
  · intro k a b d e f2 g2
    rw [gho_o _ _ _ _ _ g2, e2.1.1 k a b d e f2 g2]
    exact r1 k g2
  · intro j hj
    rw [gho_o _ _ _ _ _ (by omega), e2.1.2 j hj, r1 27 (by omega)]
/-- what is asked of the row and place stays -/
def KEP (s t : SS) : Prop := CZ 46 49 s t ∧ ∀ j, j ≠ 6 → j ≠ 7 → t 46 j = s 46 j
theorem KEP.rf (s : SS) : KEP s s := ⟨CZ.rf _ _ _, fun _ _ _ => rfl⟩
theorem KEP.tr (h : KEP s t) (g : KEP t u) : KEP s u := ⟨h.1.tr g.1, fun j a b => (g.2 j a b).trans (h.2 j a b)⟩
/-- the queue -/
def QI (T : TW) (kd tl : Nat → Nat) (n c : Nat) (tn : Nat → Nat) (f : Nat) (s : SS) : Prop := CW T kd tl c tn s ∧ s 46 6 = iI f ∧ s 46 7 = -1 ∧ f = dcF UNK (s 48) (4 * br n) (4 * szR n)
def QQ (n c f : Nat) (lev : Nat → Nat) (s : SS) : Prop := (∀ j, j < f → ∃ y w, y < szR n ∧ w < c ∧ s 47 j = iI (ce n y w) ∧ s 48 (ce n y w) ≠ UNK ∧ lev (ce n y w) ≤ j) ∧ ∀ y w, y < szR n → w < c → s 48 (ce n y w) ≠ UNK → ∃ j, j < f ∧ s 47 j = iI (ce n y w)
def QS (n c f : Nat) (lev : Nat → Nat) (s : SS) : Prop := ∀ j j2 y w y2 w2, j ≤ j2 → j2 < f → y < szR n → w < c → y2 < szR n → w2 < c → s 47 j = iI (ce n y w) → s 47 j2 = iI (ce n y2 w2) → lev (ce n y w) ≤ lev (ce n y2 w2)
def QB (n c i : Nat) (lev : Nat → Nat) (s : SS) : Prop := ∀ y w y2 w2, y < szR n → w < c → y2 < szR n → w2 < c → s 47 i = iI (ce n y w) → s 48 (ce n y2 w2) ≠ UNK → lev (ce n y2 w2) ≤ lev (ce n y w) + 1
/-- acts that are through -/
def thr (m l : Nat) : Prop := (l = 8 ∧ 0 < m) ∨ (l < 8 ∧ l + 1 < m)
def CHN (T : TW) (n c : Nat) (tn : Nat → Nat) (x p k : Nat) (s : SS) : Prop := s 48 (ce n x p) = -1 ∧ ∀ j, j < k → s 48 (ce n (gpt T n c tn x p (j + 1)) ((p + (j + 1)) % c)) = iI (ce n (gpt T n c tn x p j) ((p + j) % c)) ∧ s 49 (ce n (gpt T n c tn x p (j + 1)) ((p + (j + 1)) % c)) = iI (gct T n c tn (gpt T n c tn x p j) ((p + j) % c))
def G0 (T : TW) (n c : Nat) (tn : Nat → Nat) (s : SS) : Prop := ∀ y w, y < szR n → w < c → s 48 (ce n y w) ≠ UNK → ¬ FQ T n c tn y w
def GFI (T : TW) (n c : Nat) (tn : Nat → Nat) (x p i m f : Nat) (lev : Nat → Nat) (k ik : Nat) (s : SS) : Prop := FQ T n c tn x p ∧ (∀ y w, y < szR n → w < c → s 48 (ce n y w) ≠ UNK → FQ T n c tn y w → dq T n c tn x p ≤ dq T n c tn y w + lev (ce n y w)) ∧ k < dq T n c tn x p ∧ i ≤ ik ∧ ik < f ∧ s 47 ik = iI (ce n (gpt T n c tn x p k) ((p + k) % c)) ∧ lev (ce n (gpt T n c tn x p k) ((p + k) % c)) = k ∧ (∀ j y w, j < ik → y < szR n → w < c → s 47 j = iI (ce n y w) → lev (ce n y w) = k → FQ T n c tn y w → dq T n c tn x p < dq T n c tn y w + k) ∧ (∀ y w, y < szR n → w < c → s 48 (ce n y w) ≠ UNK → FQ T n c tn y w → dq T n c tn y w + lev (ce n y w) = dq T n c tn x p → lev (ce n y w) ≤ k) ∧ CHN T n c tn x p k s ∧ (∀ j, j ≤ k → s 48 (ce n (gpt T n c tn x p j) ((p + j) % c)) ≠ UNK) ∧ (i = ik → ∀ l, thr m l → gP T n c tn (gpt T n c tn x p k) ((p + k) % c) l = false)
def BIV (T : TW) (kd tl : Nat → Nat) (n c : Nat) (tn : Nat → Nat) (x p i m f : Nat) (s : SS) : Prop := ∃ lev, QI T kd tl n c tn f s ∧ QQ n c f lev s ∧ QS n c f lev s ∧ (i < f → QB n c i lev s) ∧ ((¬ FQ T n c tn x p ∧ G0 T n c tn s) ∨ ∃ k ik, GFI T n c tn x p i m f lev k ik s)
/-- a quiet row is found -/
def DNE (T : TW) (kd tl : Nat → Nat) (n c : Nat) (tn : Nat → Nat) (x p : Nat) (s : SS) : Prop := CW T kd tl c tn s ∧ FQ T n c tn x p ∧ dq T n c tn x p ≤ 18724 ∧ s 46 7 = iI (ce n (gpt T n c tn x p (dq T n c tn x p)) ((p + dq T n c tn x p) % c)) ∧ CHN T n c tn x p (dq T n c tn x p) s
theorem act_eq {y w m l : Nat} (hm : m ≤ 8) (hl : l = if m = 0 then 8 else m - 1) (hf : FQ T n c tn y w) (h0 : dq T n c tn y w ≠ 0) (h : gP T n c tn y w l = true) (g : ∀ l, thr m l → gP T n c tn y w l = false) : l = gct T n c tn y w := by
  obtain ⟨h1, h2, h3⟩ := gct_ok hf h0
  rcases h3 with a | ⟨a, b⟩
  · rw [a] at h1
    by_cases q : m = 0
    · rw [if_pos q] at hl; omega
    · have := g 8 (Or.inl ⟨rfl, by omega⟩)
      rw [this] at h1
      cases h1
  · have h8 : gct T n c tn y w ≠ 8 := fun e => by rw [e, a] at h1; cases h1
    have l8 : l ≠ 8 := fun e => by rw [e, a] at h; cases h
    by_cases q : m = 0
    · rw [if_pos q] at hl; omega
    · rw [if_neg q] at hl
      rcases Nat.lt_trichotomy l (gct T n c tn y w) with z | z | z
      · rw [b l z] at h; cases h
      · exact z
      · have := g (gct T n c tn y w) (Or.inr ⟨by omega, by omega⟩)
        rw [this] at h1
        cases h1
