/-! the reference reads a factor -/
variable {ch : Nat → Nat} {n : Nat} {s t u : SS}
noncomputable def KV : SS → Res := fun (s2 : SS) => bdp (f_X12_isGood s2) (fun (v4 : Int32) => if (v4 : Int32) = 0 then some (0, s2) else bdp (f_X12_top s2) (fun (v6 : Int32) => if (v6 : Int32) = (91 : Int32) then bd (f_X12_wrongs 1 (s2 56 30) s2) (fun (_v8 : Int32) (s9 : SS) => some (0, s9)) else some (0, s2)))
noncomputable def FK : SS → Res := fun (s1 : SS) => bdp (f_X12_isGood s1) (fun (v3 : Int32) => if (v3 : Int32) = 0 then some (0, s1) else bdp (f_X12_seesDigit s1) (fun (v5 : Int32) => if (v5 : Int32) = 0 then bdp (f_X12_here s1) (fun (v7 : Int32) => bdp (f_X12_isValue v7 s1) (fun (v8 : Int32) => if (v8 : Int32) = 0 then bd (f_X12_wrongs 1 (s1 56 30) s1) (fun (_v10 : Int32) (s11 : SS) => some (0, s11)) else bdp (f_X12_here s1) (fun (v12 : Int32) => bd (f_X12_emit 1 v12 s1) (fun (_v13 : Int32) (s14 : SS) => lts (up s14 56 30 ((s14 56 30) + 1)) (fun (s15 : SS) => some (0, s15)))))) else bd (f_X12_reads s1) (fun (v16 : Int32) (s17 : SS) => bd (f_X12_emit 0 v16 s17) (fun (_v18 : Int32) (s19 : SS) => some (0, s19)))))
noncomputable def AF (N : Nat) (s16 : SS) : Res := lts (up s16 56 38 0) (fun (s18 : SS) => bdp (f_X12_isGood s18) (fun (v19 : Int32) => jn (fun (v20 : Int32) (s21 : SS) => lp_X12_value_7 KV N v20 s21) (fun (k22 : Int32 → SS → Res) => jn (fun (s23 : SS) => k22 0 s23) (fun (k24 : SS → Res) => if (v19 : Int32) = 0 then k24 s18 else bd (f_X12_stays s18) (fun (v26 : Int32) (s27 : SS) => if (v26 : Int32) = 0 then k24 s27 else k22 1 s27)))))
noncomputable def VFM (M N : Nat) (s : SS) : Res := bd (lp_X12_factor_0 FK M s) (fun (_v30 : Int32) (s31 : SS) => AF N s31)
noncomputable def AFX (v1 : Int32) (s13 : SS) : Res := if (v1 : Int32) = (93 : Int32) then bdp (f_X12_top s13) (fun (v15 : Int32) => if (v15 : Int32) = (91 : Int32) then lts (up s13 56 36 ((s13 56 36) - 1)) (fun (s17 : SS) => lts (up s17 56 35 ((s17 56 35) - 1)) (fun (s18 : SS) => lts (up s18 56 30 ((s18 56 30) + 1)) (fun (s19 : SS) => lts (up s19 56 38 1) (fun (s20 : SS) => some (1, s20))))) else bd (f_X12_wrongs 1 (s13 56 30) s13) (fun (_v21 : Int32) (s22 : SS) => some (0, s22))) else some (0, s13)
noncomputable def AFF (N : Nat) (v1 : Int32) (t : SS) : Res := bd (AFX v1 t) (fun (v26 : Int32) (s27 : SS) => if (v26 : Int32) = 0 then lp_X12_value_7 KV N 0 s27 else lp_X12_value_7 KV N 1 s27)
theorem lp_in {N p k j o : Nat} (h : RPS ch n p k j o s) (h8 : s 56 38 = 0) : lp_X12_value_7 KV (N + 1) 1 s = VFM FU N s := by
  rw [lp_X12_value_7]
  refine e_if_f (by decide) ?_
  refine e_bdp (rp_good h) ?_
  refine e_if_f (by decide) ?_
  refine e_jn ?_
  exact e_if_t h8 rfl
theorem lp_be {N p k j o : Nat} (h : RPS ch n p k j o s) (h8 : s 56 38 = 1) : lp_X12_value_7 KV (N + 1) 1 s = AF N s := by
  rw [lp_X12_value_7]
  refine e_if_f (by decide) ?_
  refine e_bdp (rp_good h) ?_
  refine e_if_f (by decide) ?_
  refine e_jn ?_
  exact e_if_f (by rw [h8]; decide) rfl
theorem lp_out {N : Nat} : lp_X12_value_7 KV (N + 1) 0 s = KV s := by
  rw [lp_X12_value_7]
  exact e_if_t rfl rfl
theorem KV_f {f : Nat} (h : FLR f s) : KV s = some (0, s) := by
  unfold KV
  refine e_bdp h.bad ?_
  exact e_if_t rfl rfl
theorem AF_f {f N : Nat} (h : FLR f s) (hN : 0 < N) : ∃ t, AF N s = some (0, t) ∧ FLR f t ∧ FRR s t := by
  obtain ⟨N, rfl⟩ : ∃ M, N = M + 1 := ⟨N - 1, by omega⟩
  have h2 := h.u56 (i := 38) (v := 0) (by omega)
  refine ⟨up s 56 38 0, ?_, h2, (KPP.u56 (k := 0) (j := 0) (by omega)).1⟩
  unfold AF
  refine e_lts ?_
  refine e_bdp h2.bad ?_
  refine e_jn ?_
  refine e_jn ?_
  refine e_if_t rfl ?_
  refine Eq.trans (lp_out (s := up s 56 38 0)) ?_
  exact KV_f h2
theorem VFM_f {f M N : Nat} (h : FLR f s) (hM : 0 < M) (hN : 0 < N) : ∃ t, VFM M N s = some (0, t) ∧ FLR f t ∧ FRR s t := by
  obtain ⟨t, e1, e2, e3⟩ := AF_f h hN
  obtain ⟨M, rfl⟩ : ∃ Z, M = Z + 1 := ⟨M - 1, by omega⟩
  refine ⟨t, ?_, e2, e3⟩
  unfold VFM
  refine e_bd (v := 0) (t := s) ?_ e1
  rw [lp_X12_factor_0]
  refine e_bdp h.bad ?_
  refine e_if_t rfl ?_
  unfold FK
  refine e_bdp h.bad ?_
  exact e_if_t rfl rfl
theorem RPS.u38 {p k j o : Nat} {v : Int32} {i : Nat} (hi : i = 37 ∨ i = 38) (h : RPS ch n p k j o s) : RPS ch n p k j o (up s 56 i v) := by
  unfold RPS at h ⊢
  rw [up_slot (by omega), up_slot (by omega), up_slot (by omega), up_slot (by omega), up_slot (by omega), up_slot (by omega), up_cell (by omega)]
  exact h
theorem aff_close {N q k j o : Nat} (hn : n ≤ 200) (h : RPS ch n q k (j + 1) (o + 1) t) (ht : t 77 j = 91) (hq : q < n) : ∃ t', AFF (N + 1) 93 t = AF N t' ∧ RPS ch n (q + 1) k j o t' ∧ KPP k j t t' := by
  have tp : f_X12_top t = some 91 := top_f (c := 91) hn h ⟨by omega, Or.inr ⟨by omega, ht⟩⟩
  obtain ⟨h1, h2, h3, h4, h5, h6, h7, h8, h9⟩ := h
  let t' : SS := up (up (up (up t 56 36 (iI (j : Int))) 56 35 (iI (o : Int))) 56 30 (iI ((q + 1 : Nat) : Int))) 56 38 1
  have g : RPS ch n (q + 1) k j o t' := by
    refine ⟨rfl, h2, h3, h4, rfl, rfl, h7, by omega, by omega⟩
  refine ⟨t', ?_, g, (((KPP.u56 (by omega)).tr (KPP.u56 (by omega))).tr (KPP.u56 (by omega))).tr (KPP.u56 (by omega))⟩
  unfold AFF
  refine e_bd (v := 1) (t := t') ?_ ?_
  · unfold AFX
    refine e_if_t rfl ?_
    refine e_bdp tp ?_
    refine e_if_t rfl ?_
    rw [h6, pr_s]
    refine e_lts ?_
    rw [show (up t 56 36 (iI (j : Int))) 56 35 = iI ((o + 1 : Nat) : Int) from h5, pr_s]
    refine e_lts ?_
    rw [show (up (up t 56 36 (iI (j : Int))) 56 35 (iI (o : Int))) 56 30 = iI q from h1, nx_s]
    exact e_lts (e_lts rfl)
  · refine e_if_f (by decide) ?_
    exact lp_be g rfl
theorem aff_open {N q k j o : Nat} (hc : OKC ch n) (h : RPS ch n q k (j + 1) o t) (ht : t 77 j = 91) (hq : ch q ≠ 93) : ∃ t', AFF (N + 1) (iI (ch q)) t = some (0, t') ∧ FLR (1000 + q) t' ∧ FRR t t' := by
  have tp : f_X12_top t = some 91 := top_f (c := 91) hc.1 h ⟨by omega, Or.inr ⟨by omega, ht⟩⟩
  obtain ⟨w1, w2⟩ := wrongs_g h hc.1 (c := 1) (by omega)
  refine ⟨_, ?_, w2, (KPP.u56 (k := 0) (j := 0) (by omega)).1⟩
  unfold AFF
  refine e_bd (v := 0) (t := t) ?_ ?_
  · unfold AFX
    exact e_if_f (by rw [show (93 : Int32) = iI ((93 : Nat) : Int) from rfl, cis (hc.2.1 q) (by omega)]; exact hq) rfl
  · refine e_if_t rfl ?_
    refine (lp_out (s := t)).trans ?_
    unfold KV
    refine e_bdp (rp_good h) ?_
    refine e_if_f (by decide) ?_
    refine e_bdp tp ?_
    refine e_if_t rfl ?_
    rw [h.1]
    exact e_bd w1 rfl
theorem aff_val {N q k j o c : Nat} (hc : OKC ch n) (h : RPS ch n q k j o t) (ht : TPV j t c) (h91 : c ≠ 91) : (ch q ≠ 93 → AFF (N + 1) (iI (ch q)) t = some (0, t)) ∧ (ch q = 93 → ∃ t', AFF (N + 1) (iI (ch q)) t = some (0, t') ∧ FLR (1000 + q) t' ∧ FRR t t') := by
  have tp : f_X12_top t = some (iI c) := top_f hc.1 h ht
  have n91 : ¬ iI (c : Int) = 91 := by rw [show (91 : Int32) = iI ((91 : Nat) : Int) from rfl, cis ht.1 (by omega)]; exact h91
  have e93 : (iI (ch q : Int) = 93) = (ch q = 93) := cis (q := 93) (hc.2.1 q) (by omega)
  have kv : KV t = some (0, t) := by
    unfold KV
    refine e_bdp (rp_good h) ?_
    refine e_if_f (by decide) ?_
    refine e_bdp tp ?_
    exact e_if_f n91 rfl
  refine ⟨fun hq => ?_, fun hq => ?_⟩
  · unfold AFF
    refine e_bd (v := 0) (t := t) ?_ ?_
    · unfold AFX
      exact e_if_f (by rw [e93]; exact hq) rfl
    · refine e_if_t rfl ?_
      exact (lp_out (s := t)).trans kv
  · obtain ⟨w1, w2⟩ := wrongs_g h hc.1 (c := 1) (by omega)
    refine ⟨_, ?_, w2, (KPP.u56 (k := 0) (j := 0) (by omega)).1⟩
    unfold AFF
    refine e_bd (v := 0) (t := up t 56 32 (iI (-((1000 * 1 + q : Nat) : Int)))) ?_ ?_
    · unfold AFX
      refine e_if_t (e93.mpr hq) ?_
      refine e_bdp tp ?_
      refine e_if_f n91 ?_
      rw [h.1]
      exact e_bd w1 rfl
    · refine e_if_t rfl ?_
      refine (lp_out (s := up t 56 32 (iI (-((1000 * 1 + q : Nat) : Int))))).trans ?_
      exact KV_f w2
/-- digits -/
theorem here_32 (v : Int32) (s : SS) : f_X12_here (up s 56 32 v) = f_X12_here s := by
  unfold f_X12_here
  rw [up_slot (by omega), up_slot (by omega), up_cell (by omega)]
theorem rp_dig {p k j o : Nat} (hc : OKC ch n) (h : RPS ch n p k j o s) : f_X12_seesDigit s = some (if isD (ch p) then 1 else 0) := by
  have h1 := hc.2.1 p
  unfold f_X12_seesDigit
  refine e_bdp (rp_here hc h) ?_
  by_cases q : isD (ch p)
  · rw [if_pos q]
    refine e_bdp (v := 1) ?_ (e_gd (Or.inr rfl) rfl)
    rw [lies_f, i64_toInt, iI_toInt (by omega)]
    exact congrArg some (if_pos ⟨by unfold isD at q; show (48 : Int) ≤ _; omega, by unfold isD at q; show _ ≤ (57 : Int); omega⟩)
  · rw [if_neg q]
    refine e_bdp (v := 0) ?_ (e_gd (Or.inl rfl) rfl)
    rw [lies_f, i64_toInt, iI_toInt (by omega)]
    exact congrArg some (if_neg (fun w => q (by
      have w1 : (48 : Int) ≤ _ := w.1
      have w2 : _ ≤ (57 : Int) := w.2
      exact ⟨by omega, by omega⟩)))
theorem RPS.p30 {p p2 k j o : Nat} (h : RPS ch n p k j o s) (h1 : p ≤ p2) (h2 : p2 ≤ n) : RPS ch n p2 k j o (up s 56 30 (iI (p2 : Int))) := by
  obtain ⟨a1, a2, a3, a4, a5, a6, a7, a8, a9⟩ := h
  refine ⟨up_at _ _ _ _, ?_, ?_, ?_, ?_, ?_, ?_, by omega, h2⟩
  · rw [up_slot (by omega)]; exact a2
  · rw [up_slot (by omega)]; exact a3
  · rw [up_slot (by omega)]; exact a4
  · rw [up_slot (by omega)]; exact a5
  · rw [up_slot (by omega)]; exact a6
  · rw [up_cell (by omega)]; exact a7
theorem rr_dig (hc : OKC ch n) {p k j o : Nat} (hp0 : p ≤ n) : ∀ (m N i v : Nat) (s : SS), i + m = p + 5 → m + 1 < N → RPS ch n i k j o s → (isD (ch (dgL ch m i v).1) → ∃ w t, lp_X12_reads_7 (iI p) N (iI v) s = some (w, t) ∧ FLR (2000 + (dgL ch m i v).1) t ∧ FRR s t) ∧ (¬ isD (ch (dgL ch m i v).1) → ∃ t, lp_X12_reads_7 (iI p) N (iI v) s = some (iI (dgL ch m i v).2, t) ∧ RPS ch n (dgL ch m i v).1 k j o t ∧ KPP k j s t) := by
  intro m
  induction m with
  | zero =>
    intro N i v s hi hN hs
    obtain ⟨N, rfl⟩ : ∃ M, N = M + 1 := ⟨N - 1, by omega⟩
    show (isD (ch i) → _) ∧ (¬ isD (ch i) → _)
    have hn := hc.1
    have hpn := hs.2.2.2.2.2.2.2.2
    refine ⟨fun y => ?_, fun y => ?_⟩
    · obtain ⟨N, rfl⟩ : ∃ M, N = M + 1 := ⟨N - 1, by omega⟩
      obtain ⟨w1, w2⟩ := wrongs_g hs hn (c := 2) (by omega)
      apply Exists.intro
      refine ⟨up (up s 56 32 (iI (-((1000 * 2 + i : Nat) : Int)))) 56 30 (iI ((i + 1 : Nat) : Int)), ?_, w2.u56 (by omega), ((KPP.u56 (k := 0) (j := 0) (by omega)).tr (KPP.u56 (by omega))).1⟩
      rw [lp_X12_reads_7]
      refine e_bdp (rp_good hs) ?_
      refine e_if_f (by decide) ?_
      refine e_bdp (rp_dig hc hs) ?_
      rw [if_pos y]
      refine e_if_f (by decide) ?_
      refine e_jn ?_
      refine e_if_t (by rw [hs.1, show (5 : Int32) = iI 5 from rfl]; simp (disch := omega) only [Int.toNat_natCast, iI_lt, iI_le, iI_eq, iI_add, iI_sub, iI_mul, iI_neg, iI_clamp, inb_ii]; omega) ?_
      rw [hs.1]
      refine e_bd w1 ?_
      refine e_bdp ((here_32 _ s).trans (rp_here hc hs)) ?_
      refine e_lt ?_
      rw [show (up s 56 32 (iI (-((1000 * 2 + i : Nat) : Int)))) 56 30 = iI i from hs.1, nx_s]
      refine e_lts ?_
      rw [lp_X12_reads_7]
      refine e_bdp (w2.u56 (i := 30) (by omega)).bad ?_
      exact e_if_t rfl rfl
    · refine ⟨s, ?_, hs, KPP.rf _ _ _⟩
      rw [lp_X12_reads_7]
      refine e_bdp (rp_good hs) ?_
      refine e_if_f (by decide) ?_
      refine e_bdp (rp_dig hc hs) ?_
      rw [if_neg y]
      exact e_if_t rfl rfl
  | succ m ih =>
    intro N i v s hi hN hs
    obtain ⟨N, rfl⟩ : ∃ M, N = M + 1 := ⟨N - 1, by omega⟩
    have hn := hc.1
    have hpn := hs.2.2.2.2.2.2.2.2
    by_cases y : isD (ch i)
    · have hp := ch_lt hc (p := i) (by unfold isD at y; omega)
      rw [show dgL ch (m + 1) i v = dgL ch m (i + 1) (10 * v + (ch i - 48)) from if_pos y]
      have g := hs.p30 (p2 := i + 1) (by omega) (by omega)
      have IH := ih N (i + 1) (10 * v + (ch i - 48)) _ (by omega) (by omega) g
      have fr : KPP k j s (up s 56 30 (iI ((i + 1 : Nat) : Int))) := KPP.u56 (by omega)
      have head : lp_X12_reads_7 (iI p) (N + 1) (iI v) s = lp_X12_reads_7 (iI p) N (iI ((10 * v + (ch i - 48) : Nat) : Int)) (up s 56 30 (iI ((i + 1 : Nat) : Int))) := by
        rw [lp_X12_reads_7]
        refine e_bdp (rp_good hs) ?_
        refine e_if_f (by decide) ?_
        refine e_bdp (rp_dig hc hs) ?_
        rw [if_pos y]
        refine e_if_f (by decide) ?_
        refine e_jn ?_
        refine e_if_f (by rw [hs.1, show (5 : Int32) = iI 5 from rfl]; simp (disch := omega) only [Int.toNat_natCast, iI_lt, iI_le, iI_eq, iI_add, iI_sub, iI_mul, iI_neg, iI_clamp, inb_ii]; omega) ?_
        refine e_bdp (rp_here hc hs) ?_
        rw [show (10 : Int32) = iI 10 from rfl, show (48 : Int32) = iI 48 from rfl, iI_mul, iI_add, iI_sub, show (10 : Int) * (v : Int) + (ch i : Int) - 48 = ((10 * v + (ch i - 48) : Nat) : Int) by unfold isD at y; omega]
        refine e_lt ?_
        rw [hs.1, nx_s]
        exact e_lts rfl
      refine ⟨fun z => ?_, fun z => ?_⟩
      · obtain ⟨w, t, e1, e2, e3⟩ := IH.1 z
        exact ⟨w, t, head.trans e1, e2, fr.1.tr e3⟩
      · obtain ⟨t, e1, e2, e3⟩ := IH.2 z
        exact ⟨t, head.trans e1, e2, fr.tr e3⟩
    · rw [show dgL ch (m + 1) i v = (i, v) from if_neg y]
      refine ⟨fun z => absurd z y, fun _ => ⟨s, ?_, hs, KPP.rf _ _ _⟩⟩
      rw [lp_X12_reads_7]
      refine e_bdp (rp_good hs) ?_
      refine e_if_f (by decide) ?_
      refine e_bdp (rp_dig hc hs) ?_
      rw [if_neg y]
      exact e_if_t rfl rfl
theorem vl_dec : ∀ c : Nat, c < 256 → f_X12_isValue (iI (c : Int)) (fun _ _ => 0) = some (if fix c < 11 then 1 else 0) ∧ (fix c < 11 → fcode (fix c) = iI (c : Int)) := by decide +kernel
theorem vl_f {c : Nat} (hc : c < 256) (s : SS) : f_X12_isValue (iI (c : Int)) s = some (if fix c < 11 then 1 else 0) := (vl_dec c hc).1
/-- what a factor leaves -/
def FOK (ch : Nat → Nat) (n : Nat) (res : RSL) (p k j o N : Nat) (s : SS) (r : Res) : Prop := (∀ f, res = .error f → ∃ t, r = some (0, t) ∧ FLR f t ∧ FRR s t) ∧ ∀ q, res = .ok q → ∃ t k2 N2, r = AF N2 t ∧ N + p ≤ N2 + q.1 ∧ p < q.1 ∧ RPS ch n q.1 k2 j o t ∧ KPP k j s t ∧ RE (t 75) (t 76) k k2 q.2
def SOK (ch : Nat → Nat) (n d : Nat) (sp : Nat → RSL) : Prop := ∀ (p k j M N : Nat) (s : SS), RPS ch n p k j d s → (∃ c, TPV j s c ∧ ¬ isT c ∧ ¬ isP c) → n < p + M → n + 1 < N + p → (∀ f, sp p = .error f → ∃ t, VFM M N s = some (0, t) ∧ FLR f t ∧ FRR s t) ∧ ∀ q, sp p = .ok q → ∃ t k2 N2, VFM M N s = AFF N2 (iI (ch q.1)) t ∧ N + p ≤ N2 + q.1 ∧ p < q.1 ∧ RPS ch n q.1 k2 j d t ∧ KPP k j s t ∧ RE (t 75) (t 76) k k2 q.2 ∧ ¬ isT (ch q.1) ∧ ¬ isP (ch q.1)
theorem rf_fac (hc : OKC ch n) {rfS : Nat → Nat → RSL} {d p k j M N : Nat} (hd : d ≤ 6) (H : d < 6 → SOK ch n (d + 1) (rfS (d + 1))) (hs : RPS ch n p k j d s) (hM : n < p + M) (hN : n + 1 < N + p) : FOK ch n (pFac ch rfS d p) p k j d N s (VFM M N s) := by
  have hn := hc.1
  have hpn := hs.2.2.2.2.2.2.2.2
  have hkj := hs.2.2.2.2.2.2.2.1
  obtain ⟨M, rfl⟩ : ∃ Z, M = Z + 1 := ⟨M - 1, by omega⟩
  have e91 : (iI (ch p : Int) = 91) = (ch p = 91) := cis (q := 91) (hc.2.1 p) (by omega)
  unfold pFac
  by_cases q1 : ch p = 91
  · rw [if_pos q1]
    have hp := ch_lt hc (p := p) (by omega)
    obtain ⟨o1, o2⟩ := opens_g hc hs hp hd
    have head : ∀ t, f_X12_opens s = some (0, t) → VFM (M + 1) N s = VFM M N t := by
      intro t ht
      unfold VFM
      refine congrArg (fun z => bd z (fun (_v30 : Int32) (s31 : SS) => AF N s31)) ?_
      rw [lp_X12_factor_0]
      refine e_bdp (rp_good hs) ?_
      refine e_if_f (by decide) ?_
      refine e_bdp (rp_here hc hs) ?_
      refine e_if_t (e91.mpr q1) ?_
      exact e_bd ht rfl
    by_cases qd : d < 6
    · rw [if_pos qd]
      obtain ⟨t, f1, f2, f3, f4, f5, f6⟩ := o1 qd
      have hb := H qd (p + 1) k (j + 1) M N t f2 ⟨91, ⟨by omega, Or.inr ⟨by omega, by rw [show j + 1 - 1 = j from rfl, f3, q1]⟩⟩, by decide, by decide⟩ (by omega) (by omega)
      cases c : rfS (d + 1) (p + 1) with
      | error f =>
        obtain ⟨t2, a1, a2, a3⟩ := hb.1 f c
        exact ⟨(fun f2 e => by cases e; exact ⟨t2, (head t f1).trans a1, a2, f4.1.tr a3⟩), (fun q e => by cases e)⟩
      | ok r =>
        obtain ⟨t2, k2, N2, a1, a2, a3, a4, a5, a6, a7, a8⟩ := hb.2 r c
        have t77 : t2 77 j = 91 := by rw [a5.2.1 j (by omega), f3, q1]; rfl
        have rn := a4.2.2.2.2.2.2.2.2
        show FOK ch n (if ch r.1 = 93 then .ok (r.1 + 1, r.2) else .error (1000 + r.1)) p k j d N s _
        by_cases q3 : ch r.1 = 93
        · rw [if_pos q3]
          have hr := ch_lt hc (p := r.1) (by omega)
          obtain ⟨N2, rfl⟩ : ∃ Z, N2 = Z + 1 := ⟨N2 - 1, by omega⟩
          obtain ⟨t3, b1, b2, b3⟩ := aff_close (N := N2) hn a4 t77 hr
          refine ⟨(fun f2 e => by cases e), fun q e => ?_⟩
          cases e
          refine ⟨t3, k2, N2, ?_, by show N + p ≤ N2 + (r.1 + 1); omega, by show p < r.1 + 1; omega, b2, (f4.tr (a5.lo (by omega) (by omega))).tr (b3.lo (by have := a6.1; omega) (by omega)), a6.of (fun i x y => b3.2.2 i y)⟩
          rw [head t f1, a1, q3]
          exact b1
        · rw [if_neg q3]
          obtain ⟨N2, rfl⟩ : ∃ Z, N2 = Z + 1 := ⟨N2 - 1, by omega⟩
          obtain ⟨t3, b1, b2, b3⟩ := aff_open (N := N2) hc a4 t77 q3
          refine ⟨fun f2 e => ?_, fun q e => by cases e⟩
          cases e
          exact ⟨t3, by rw [head t f1, a1]; exact b1, b2, (f4.1.tr a5.1).tr b3⟩
    · rw [if_neg qd]
      obtain ⟨t, f1, f2, f3⟩ := o2 qd
      obtain ⟨t2, a1, a2, a3⟩ := VFM_f (M := M) (N := N) f2 (by omega) (by omega)
      refine ⟨fun f e => ?_, fun q e => by cases e⟩
      cases e
      exact ⟨t2, (head t f1).trans a1, a2, f3.tr a3⟩
  · rw [if_neg q1]
    have head : ∀ v t, FK s = some (v, t) → VFM (M + 1) N s = AF N t := by
      intro v t ht
      unfold VFM
      refine e_bd (v := v) (t := t) ?_ rfl
      rw [lp_X12_factor_0]
      refine e_bdp (rp_good hs) ?_
      refine e_if_f (by decide) ?_
      refine e_bdp (rp_here hc hs) ?_
      exact e_if_f (mt e91.mp q1) ht
    have flt : ∀ (v : Int32) (t : SS) (f : Nat), FK s = some (v, t) → FLR f t → FRR s t → ∃ t2, VFM (M + 1) N s = some (0, t2) ∧ FLR f t2 ∧ FRR s t2 := by
      intro v t f h1 h2 h3
      obtain ⟨t2, a1, a2, a3⟩ := AF_f (N := N) h2 (by omega)
      exact ⟨t2, (head v t h1).trans a1, a2, h3.tr a3⟩
    by_cases q2 : isD (ch p)
    · rw [if_pos q2]
      obtain ⟨r1, r2⟩ := rr_dig hc (p := p) hpn 5 FU p 0 s rfl (fu_lt (by omega)) hs
      have hp := ch_lt hc (p := p) (by unfold isD at q2; omega)
      by_cases q3 : isD (ch (dgL ch 5 p 0).1)
      · rw [if_pos q3]
        obtain ⟨w, t, a1, a2, a3⟩ := r1 q3
        refine ⟨fun f e => ?_, fun q e => by cases e⟩
        cases e
        refine flt 0 t _ ?_ a2 a3
        unfold FK
        refine e_bdp (rp_good hs) ?_
        refine e_if_f (by decide) ?_
        refine e_bdp (rp_dig hc hs) ?_
        rw [if_pos q2]
        refine e_if_f (by decide) ?_
        refine e_bd (v := w) (t := t) ?_ ?_
        · unfold f_X12_reads
          refine e_lt ?_
          rw [hs.1]
          exact a1
        · exact e_bd (emit_f a2 _ _) rfl
      · rw [if_neg q3]
        obtain ⟨t, a1, a2, a3⟩ := r2 q3
        have up1 : dgL ch 5 p 0 = dgL ch 4 (p + 1) (10 * 0 + (ch p - 48)) := if_pos q2
        have hge : p + 1 ≤ (dgL ch 5 p 0).1 := by rw [up1]; exact dgL_le 4 _ _
        refine ⟨(fun f e => by cases e), fun q e => ?_⟩
        cases e
        have rn := a2.2.2.2.2.2.2.2.2
        refine ⟨emS t k 0 (iI (dgL ch 5 p 0).2), k + 1, N, head 0 _ ?_, by omega, by omega, ?_, a3.tr emS_kp, ?_⟩
        · unfold FK
          refine e_bdp (rp_good hs) ?_
          refine e_if_f (by decide) ?_
          refine e_bdp (rp_dig hc hs) ?_
          rw [if_pos q2]
          refine e_if_f (by decide) ?_
          refine e_bd (v := iI (dgL ch 5 p 0).2) (t := t) ?_ ?_
          · unfold f_X12_reads
            refine e_lt ?_
            rw [hs.1]
            exact a1
          · exact e_bd (emit_g a2.2.2.1 a2.2.2.2.1 (by omega) _ _) rfl
        · obtain ⟨b1, b2, b3, b4, b5, b6, b7, b8, b9⟩ := a2
          exact ⟨(emS_56 (by omega)).trans b1, (emS_56 (by omega)).trans b2, (emS_56 (by omega)).trans b3, emS_34, (emS_56 (by omega)).trans b5, (emS_56 (by omega)).trans b6, by rw [emS_q ⟨by omega, by omega, by omega⟩]; exact b7, by show k + 1 + j ≤ (dgL ch 5 p 0).1; omega, b9⟩
        · exact RE_num emS_at.1 emS_at.2
    · rw [if_neg q2]
      have hv := vl_f (hc.2.1 p) s
      by_cases q3 : fix (ch p) < 11
      · rw [if_pos q3] at hv ⊢
        have hp : p < n := by
          rcases Nat.lt_or_ge p n with a | a
          · exact a
          · rw [hc.2.2 p a] at q3
            exact absurd q3 (by decide)
        refine ⟨(fun f e => by cases e), fun q e => ?_⟩
        cases e
        refine ⟨up (emS s k 1 (iI (ch p))) 56 30 (iI ((p + 1 : Nat) : Int)), k + 1, N, head 0 _ ?_, by show N + p ≤ N + (p + 1); omega, by show p < p + 1; omega, ?_, emS_kp.tr (KPP.u56 (by omega)), ?_⟩
        · unfold FK
          refine e_bdp (rp_good hs) ?_
          refine e_if_f (by decide) ?_
          refine e_bdp (rp_dig hc hs) ?_
          rw [if_neg q2]
          refine e_if_t rfl ?_
          refine e_bdp (rp_here hc hs) ?_
          refine e_bdp hv ?_
          refine e_if_f (by decide) ?_
          refine e_bdp (rp_here hc hs) ?_
          refine e_bd (emit_g hs.2.2.1 hs.2.2.2.1 (by omega) _ _) ?_
          rw [emS_56 (by omega), hs.1, nx_s]
          exact e_lts rfl
        · obtain ⟨b1, b2, b3, b4, b5, b6, b7, b8, b9⟩ := hs
          refine ⟨up_at _ _ _ _, ?_, ?_, ?_, ?_, ?_, ?_, by show k + 1 + j ≤ p + 1; omega, hp⟩
          · rw [up_slot (by omega)]; exact (emS_56 (by omega)).trans b2
          · rw [up_slot (by omega)]; exact (emS_56 (by omega)).trans b3
          · rw [up_slot (by omega)]; exact emS_34
          · rw [up_slot (by omega)]; exact (emS_56 (by omega)).trans b5
          · rw [up_slot (by omega)]; exact (emS_56 (by omega)).trans b6
          · rw [up_cell (by omega), emS_q ⟨by omega, by omega, by omega⟩]; exact b7
        · refine RE_fact q3 ?_ ?_
          · rw [up_cell (by omega)]; exact emS_at.1
          · rw [up_cell (by omega), (vl_dec (ch p) (hc.2.1 p)).2 q3]; exact emS_at.2
      · rw [if_neg q3] at hv ⊢
        obtain ⟨w1, w2⟩ := wrongs_g hs hn (c := 1) (by omega)
        refine ⟨fun f e => ?_, fun q e => by cases e⟩
        cases e
        refine flt 0 _ _ ?_ w2 (KPP.u56 (k := 0) (j := 0) (by omega)).1
        unfold FK
        refine e_bdp (rp_good hs) ?_
        refine e_if_f (by decide) ?_
        refine e_bdp (rp_dig hc hs) ?_
        rw [if_neg q2]
        refine e_if_t rfl ?_
        refine e_bdp (rp_here hc hs) ?_
        refine e_bdp hv ?_
        refine e_if_t rfl ?_
        rw [hs.1]
        exact e_bd w1 rfl
