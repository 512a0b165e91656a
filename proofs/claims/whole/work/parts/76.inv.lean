/-! what holds between the calls -/
variable {T : TW} {kd tl tn : Nat → Nat} {n c x p dy X k x2 p2 dy2 X2 k2 z cl : Nat} {en : Nat → Nat → Int32} {kf : Bool} {b : Nat → Nat} {d : Nat → Int32} {ed : Nat} {s t u : SS}
def JV (T : TW) (kd tl : Nat → Nat) (n c : Nat) (tn : Nat → Nat) (x p X k : Nat) (kf : Bool) (x2 p2 X2 k2 z : Nat) (b : Nat → Nat) : Prop := WOK T kd tl n c tn ∧ (x < szR n ∧ VR T x) ∧ p < c ∧ X < 65536 ∧ k ≤ 100 ∧ TPO z b ∧ (kf = true → (x2 < szR n ∧ VR T x2) ∧ p2 < c ∧ X2 < 65536 ∧ k2 ≤ k)
/-- the class -/
def JC (T : TW) (kd tl : Nat → Nat) (n c : Nat) (tn : Nat → Nat) (x p dy X k : Nat) (en : Nat → Nat → Int32) (kf : Bool) (x2 p2 dy2 X2 k2 z : Nat) (b : Nat → Nat) (d : Nat → Int32) (cl : Nat) (ed : Nat) (s : SS) : Prop := JV T kd tl n c tn x p X k kf x2 p2 X2 k2 z b ∧ CW T kd tl c tn s ∧ MEM T kd tl c tn s ∧ SMEM T c tn s ∧ s 0 15 = iI ed ∧ (s 52 0 = wl_ n x ∧ s 52 1 = iI p ∧ s 52 2 = iI dy ∧ s 52 3 = iI X ∧ s 52 4 = iI k) ∧ (∀ i j, i < k → j < 4 → s 55 (4 * i + j) = en i j) ∧ TPC z b s ∧ (∀ i, i < 8 → s 54 i = d i) ∧ s 0 14 = (if kf = true then 1 else 0) ∧ (kf = true → s 53 0 = wl_ n x2 ∧ s 53 1 = iI p2 ∧ s 53 2 = iI dy2 ∧ s 53 3 = iI X2 ∧ s 53 4 = iI k2) ∧ s 9 8 = iI cl
/-- the reference -/
def JR (T : TW) (kd tl : Nat → Nat) (n c : Nat) (tn : Nat → Nat) (x p dy X k : Nat) (en : Nat → Nat → Int32) (kf : Bool) (x2 p2 dy2 X2 k2 z : Nat) (b : Nat → Nat) (d : Nat → Int32) (cl : Nat) (s : SS) : Prop := JV T kd tl n c tn x p X k kf x2 p2 X2 k2 z b ∧ RW_ T kd tl n c tn s ∧ (s 56 4 = iI x ∧ s 56 6 = iI p ∧ s 56 7 = iI dy ∧ s 56 8 = iI X ∧ s 56 9 = iI k) ∧ (∀ i, i < k → s 85 i = en i 0 ∧ s 86 i = en i 1 ∧ s 87 i = en i 2 ∧ s 88 i = en i 3) ∧ TPR z b s ∧ (∀ i, i < 8 → s 94 i = d i) ∧ s 56 68 = (if kf = true then 1 else 0) ∧ (kf = true → s 56 69 = iI x2 ∧ s 56 70 = iI p2 ∧ s 56 71 = iI dy2 ∧ s 56 72 = iI X2 ∧ s 56 73 = iI k2) ∧ s 56 17 = iI cl
/-- the other side's cells stay -/
def KR (s t : SS) : Prop := ∀ q, 56 ≤ q → t q = s q
def KC (s t : SS) : Prop := ∀ q, q < 56 → t q = s q
theorem KR.rf (s : SS) : KR s s := fun _ _ => rfl
theorem KC.rf (s : SS) : KC s s := fun _ _ => rfl
theorem MEM.of (h : MEM T kd tl c tn s) (e0 : t 0 15 = s 0 15) (e41 : t 41 = s 41) (e42 : t 42 = s 42) (e43 : t 43 = s 43) : MEM T kd tl c tn t := by
  unfold MEM MO gl at h ⊢
  rw [e0, e41, e42, e43]
  exact h
theorem SMEM.of (h : SMEM T c tn s) (e0 : t 0 15 = s 0 15) (e46 : t 46 = s 46) (e47 : t 47 = s 47) : SMEM T c tn t := by
  unfold SMEM SOL WAY gl at h ⊢
  rw [e0, e46, e47]
  exact h
theorem JC.of (h : JC T kd tl n c tn x p dy X k en kf x2 p2 dy2 X2 k2 z b d cl ed s) (e : KC s t) : JC T kd tl n c tn x p dy X k en kf x2 p2 dy2 X2 k2 z b d cl ed t := by
  obtain ⟨h1, h2, h3, h4, h5, h6, h7, h8, h9, h10, h11, h12⟩ := h
  refine ⟨h1, h2.of (fun q _ => e q (by omega)), h3.of (by rw [e 0 (by omega)]) (e 41 (by omega)) (e 42 (by omega)) (e 43 (by omega)), h4.of (by rw [e 0 (by omega)]) (e 46 (by omega)) (e 47 (by omega)), by rw [e 0 (by omega)]; exact h5, by rw [e 52 (by omega)]; exact h6, by rw [e 55 (by omega)]; exact h7, ?_, by rw [e 54 (by omega)]; exact h9, by rw [e 0 (by omega)]; exact h10, by rw [e 53 (by omega)]; exact h11, by rw [e 9 (by omega)]; exact h12⟩
  unfold TPC at h8 ⊢
  rw [e 1 (by omega), e 2 (by omega)]
  exact h8
theorem JR.of (h : JR T kd tl n c tn x p dy X k en kf x2 p2 dy2 X2 k2 z b d cl s) (e : KR s t) : JR T kd tl n c tn x p dy X k en kf x2 p2 dy2 X2 k2 z b d cl t := by
  obtain ⟨h1, h2, h3, h4, h5, h6, h7, h8, h9⟩ := h
  refine ⟨h1, h2.of (fun q a _ _ _ _ => e q (by omega)) (fun j _ => by rw [e 56 (by omega)]), by rw [e 56 (by omega)]; exact h3, by rw [e 85 (by omega), e 86 (by omega), e 87 (by omega), e 88 (by omega)]; exact h4, ?_, by rw [e 94 (by omega)]; exact h6, by rw [e 56 (by omega)]; exact h7, by rw [e 56 (by omega)]; exact h8, by rw [e 56 (by omega)]; exact h9⟩
  unfold TPR at h5 ⊢
  rw [e 56 (by omega), e 57 (by omega)]
  exact h5
/-- a question to the class -/
theorem JC.ask (h : JC T kd tl n c tn x p dy X k en kf x2 p2 dy2 X2 k2 z b d cl ed s) (g : CZ 39 51 s t) (a : CW T kd tl c tn t) (m : MEM T kd tl c tn t) (m2 : SMEM T c tn t) : JC T kd tl n c tn x p dy X k en kf x2 p2 dy2 X2 k2 z b d cl ed t ∧ KR s t := by
  have e : ∀ q, q < 16 ∨ 51 < q → t q = s q := fun q hq => g.1 q (by omega) (by omega) (by omega) (by omega) (by omega) (by omega)
  obtain ⟨h1, h2, h3, h4, h5, h6, h7, h8, h9, h10, h11, h12⟩ := h
  refine ⟨⟨h1, a, m, m2, by rw [e 0 (by omega)]; exact h5, by rw [e 52 (by omega)]; exact h6, by rw [e 55 (by omega)]; exact h7, ?_, by rw [e 54 (by omega)]; exact h9, by rw [e 0 (by omega)]; exact h10, by rw [e 53 (by omega)]; exact h11, by rw [e 9 (by omega)]; exact h12⟩, fun q hq => e q (by omega)⟩
  unfold TPC at h8 ⊢
  rw [e 1 (by omega), e 2 (by omega)]
  exact h8
theorem JC.askQ (h : JC T kd tl n c tn x p dy X k en kf x2 p2 dy2 X2 k2 z b d cl ed s) (g : CQ s t) (a : CW T kd tl c tn t) : JC T kd tl n c tn x p dy X k en kf x2 p2 dy2 X2 k2 z b d cl ed t ∧ KR s t := by
  have e : ∀ q, q = 0 ∨ 34 < q → t q = s q := fun q hq => g.1 q (by omega) (by omega) (by omega) (by omega) (by omega)
  exact h.ask g.z a (h.2.2.1.of (by rw [e 0 (by omega)]) (e 41 (by omega)) (e 42 (by omega)) (e 43 (by omega))) (h.2.2.2.1.of (by rw [e 0 (by omega)]) (e 46 (by omega)) (e 47 (by omega)))
theorem CZ.ms {lo hi : Nat} (h : MEM T kd tl c tn s) (g : CZ lo hi s t) (hl : 38 < lo) (o : hi < 41 ∨ 43 < lo) : MEM T kd tl c tn t := h.of (by rw [g.1 0 (by omega) (by omega) (by omega) (by omega) (by omega) (by omega)]) (g.at (by omega) hl) (g.at (by omega) hl) (g.at (by omega) hl)
theorem CZ.ss {lo hi : Nat} (h : SMEM T c tn s) (g : CZ lo hi s t) (hl : 38 < lo) (o : hi < 46 ∨ 49 < lo) : SMEM T c tn t := h.of (by rw [g.1 0 (by omega) (by omega) (by omega) (by omega) (by omega) (by omega)]) (g.at (by omega) hl) (g.at (by omega) hl)
/-- a question to the reference -/
theorem JR.ask (h : JR T kd tl n c tn x p dy X k en kf x2 p2 dy2 X2 k2 z b d cl s) (g : RZ s t) (a : RW_ T kd tl n c tn t) : JR T kd tl n c tn x p dy X k en kf x2 p2 dy2 X2 k2 z b d cl t ∧ KC s t := by
  have e : ∀ q, q ≠ 56 → (q < 78 ∨ (84 < q ∧ q < 89) ∨ 93 < q) → t q = s q := g.1
  have e2 : ∀ j, j < 20 ∨ 67 < j → t 56 j = s 56 j := fun j hj => g.2 j (by unfold rsl; omega) (by omega) (by omega) (by omega) (by omega) (by omega) (by omega)
  obtain ⟨h1, h2, h3, h4, h5, h6, h7, h8, h9⟩ := h
  refine ⟨⟨h1, a, by rw [e2 4 (by omega), e2 6 (by omega), e2 7 (by omega), e2 8 (by omega), e2 9 (by omega)]; exact h3, by rw [e 85 (by omega) (by omega), e 86 (by omega) (by omega), e 87 (by omega) (by omega), e 88 (by omega) (by omega)]; exact h4, ?_, by rw [e 94 (by omega) (by omega)]; exact h6, by rw [e2 68 (by omega)]; exact h7, by rw [e2 69 (by omega), e2 70 (by omega), e2 71 (by omega), e2 72 (by omega), e2 73 (by omega)]; exact h8, by rw [e2 17 (by omega)]; exact h9⟩, fun q hq => e q (by omega) (by omega)⟩
  unfold TPR at h5 ⊢
  rw [e2 1 (by omega), e 57 (by omega) (by omega)]
  exact h5
/-- a call that both sides answer alike, and that changes nothing of the town -/
def ASK (F G : SS → Res) (T : TW) (kd tl : Nat → Nat) (n c : Nat) (tn : Nat → Nat) (x p dy X k : Nat) (en : Nat → Nat → Int32) (kf : Bool) (x2 p2 dy2 X2 k2 z : Nat) (b : Nat → Nat) (d : Nat → Int32) (cl : Nat) (ed : Nat) : Prop := ∃ v : Int32, (∀ s, JC T kd tl n c tn x p dy X k en kf x2 p2 dy2 X2 k2 z b d cl ed s → ∃ t, F s = some (v, t) ∧ JC T kd tl n c tn x p dy X k en kf x2 p2 dy2 X2 k2 z b d cl ed t ∧ KR s t) ∧ ∀ s, JR T kd tl n c tn x p dy X k en kf x2 p2 dy2 X2 k2 z b d cl s → ∃ t, G s = some (v, t) ∧ JR T kd tl n c tn x p dy X k en kf x2 p2 dy2 X2 k2 z b d cl t ∧ KC s t
theorem j_may (a : Int32) (hV : JV T kd tl n c tn x p X k kf x2 p2 X2 k2 z b) : ASK (f_X11_may a) (f_X12_may a) T kd tl n c tn x p dy X k en kf x2 p2 dy2 X2 k2 z b d cl ed := by
  obtain ⟨W, hx, hp, -⟩ := id hV
  unfold ASK
  apply Exists.intro
  refine ⟨fun s h => ?_, fun s h => ?_⟩
  · obtain ⟨t, e1, e2, e3⟩ := cc_may W.1 a h.2.1.1 W.2.2.2 hx.1 h.2.2.2.2.2.1.1
    exact ⟨t, e1, h.askQ e2 (h.2.1.q e2 e3)⟩
  · obtain ⟨t, e1, e2, e3⟩ := cr_may W.1 a h.2.1.1 W.2.2.2 hx.1 hx.2 h.2.2.1.1
    exact ⟨t, e1, h.ask e2.z (h.2.1.q e2 e3)⟩
theorem j_worth (a : Int32) (hV : JV T kd tl n c tn x p X k kf x2 p2 X2 k2 z b) : ASK (f_X11_worth a) (f_X12_worth a) T kd tl n c tn x p dy X k en kf x2 p2 dy2 X2 k2 z b d cl ed := by
  obtain ⟨W, hx, hp, -⟩ := id hV
  unfold ASK
  apply Exists.intro
  refine ⟨fun s h => ?_, fun s h => ?_⟩
  · obtain ⟨t, e1, e2, e3⟩ := cc_worth W.1 a h.2.1.1 W.2.2.2 hx.1 h.2.2.2.2.2.1.1
    exact ⟨t, e1, h.askQ e2 (h.2.1.q e2 e3)⟩
  · obtain ⟨t, e1, e2, e3⟩ := cr_worth W.1 a h.2.1.1 W.2.2.2 hx.1 hx.2 h.2.2.1.1
    exact ⟨t, e1, h.ask e2.z (h.2.1.q e2 e3)⟩
theorem j_would (a : Int32) (hV : JV T kd tl n c tn x p X k kf x2 p2 X2 k2 z b) : ASK (f_X11_would a) (f_X12_would a) T kd tl n c tn x p dy X k en kf x2 p2 dy2 X2 k2 z b d cl ed := by
  obtain ⟨W, hx, hp, -⟩ := id hV
  unfold ASK
  apply Exists.intro
  refine ⟨fun s h => ?_, fun s h => ?_⟩
  · obtain ⟨t, e1, e2, e3⟩ := cc_would W.1 W.2.1 h.2.1.2.1 a h.2.1.1 W.2.2.2 hx.1 h.2.2.2.2.2.1.1
    exact ⟨t, e1, h.askQ e2 (h.2.1.q e2 e3)⟩
  · obtain ⟨t, e1, e2, e3⟩ := cr_would W.1 W.2.1 h.2.1.2.1 a h.2.1.1 W.2.2.2 hx.1 hx.2 h.2.2.1.1
    exact ⟨t, e1, h.ask e2.z (h.2.1.q e2 e3)⟩
theorem j_at (a : Int32) (hV : JV T kd tl n c tn x p X k kf x2 p2 X2 k2 z b) : ASK (fun s => pu (f_X11_at a s) s) (f_X12_at a) T kd tl n c tn x p dy X k en kf x2 p2 dy2 X2 k2 z b d cl ed := by
  obtain ⟨W, hx, hp, -⟩ := id hV
  unfold ASK
  apply Exists.intro
  refine ⟨fun s h => ?_, fun s h => ?_⟩
  · have e1 := cc_at a h.2.1.1 W.2.2.2 hx.1 h.2.2.2.2.2.1.1
    exact ⟨s, by show pu (f_X11_at a s) s = _; rw [e1]; rfl, h, KR.rf s⟩
  · obtain ⟨t, e1, e2, e3⟩ := cr_at W.1.1 a h.2.1.1 (W.sz hx.1).2 h.2.2.1.1
    exact ⟨t, e1, h.ask e2.z (h.2.1.q e2 e3)⟩
theorem j_holding (hV : JV T kd tl n c tn x p X k kf x2 p2 X2 k2 z b) : ASK (fun s => pu (f_X11_holding s) s) f_X12_holding T kd tl n c tn x p dy X k en kf x2 p2 dy2 X2 k2 z b d cl ed := by
  obtain ⟨W, hx, hp, -⟩ := id hV
  unfold ASK
  apply Exists.intro
  refine ⟨fun s h => ?_, fun s h => ?_⟩
  · have e1 := cc_holding h.2.1.1 W.2.2.2 hx.1 h.2.2.2.2.2.1.1
    exact ⟨s, by show pu (f_X11_holding s) s = _; rw [e1]; rfl, h, KR.rf s⟩
  · obtain ⟨t, e1, e2, e3⟩ := cr_holding W.1.1 h.2.1.1 (W.sz hx.1).2 hx.2 h.2.2.1.1
    exact ⟨t, e1, h.ask e2.z (h.2.1.q e2 e3)⟩
theorem j_lawful (a : Int32) (hV : JV T kd tl n c tn x p X k kf x2 p2 X2 k2 z b) : ASK (fun s => pu (f_X11_lawful a s) s) (f_X12_lawful a) T kd tl n c tn x p dy X k en kf x2 p2 dy2 X2 k2 z b d cl ed := by
  obtain ⟨W, hx, hp, -⟩ := id hV
  unfold ASK
  apply Exists.intro
  refine ⟨fun s h => ?_, fun s h => ?_⟩
  · have e1 := cc_lawful a h.2.1.1 W.2.2.2 hx.1 h.2.2.2.2.2.1.1 h.2.2.2.2.2.2.2.2.1
    exact ⟨s, by show pu (f_X11_lawful a s) s = _; rw [e1]; rfl, h, KR.rf s⟩
  · obtain ⟨t, e1, e2, e3⟩ := cr_lawful W.1.1 a h.2.1.1 (W.sz hx.1).2 hx.2 h.2.2.1.1 h.2.2.2.2.2.1
    exact ⟨t, e1, h.ask e2.z (h.2.1.q e2 e3)⟩
theorem j_quiet (hV : JV T kd tl n c tn x p X k kf x2 p2 X2 k2 z b) : ASK f_X11_quiet f_X12_quiet T kd tl n c tn x p dy X k en kf x2 p2 dy2 X2 k2 z b d cl ed := by
  obtain ⟨W, hx, hp, -⟩ := id hV
  unfold ASK
  apply Exists.intro
  refine ⟨fun s h => ?_, fun s h => ?_⟩
  · obtain ⟨t, e1, e2, e3⟩ := cc_quiet W.1 W.2.2.1 h.2.1.1 h.2.1.2.2 W.2.2.2 hx.1 h.2.2.2.2.2.1.1
    exact ⟨t, e1, h.askQ e2 (h.2.1.q e2 e3)⟩
  · obtain ⟨t, e1, e2, e3⟩ := cr_quiet W.1 W.2.2.1 h.2.1.1 h.2.1.2.2 W.2.2.2 hx.1 hx.2 h.2.2.1.1
    exact ⟨t, e1, h.ask e2.z (h.2.1.q e2 e3)⟩
theorem j_run (a1 a2 : Int32) (hV : JV T kd tl n c tn x p X k kf x2 p2 X2 k2 z b) : ASK (f_X11_run a1 a2) (f_X12_run a1 a2) T kd tl n c tn x p dy X k en kf x2 p2 dy2 X2 k2 z b d cl ed := by
  obtain ⟨W, hx, hp, -⟩ := id hV
  unfold ASK
  apply Exists.intro
  refine ⟨fun s h => ?_, fun s h => ?_⟩
  · obtain ⟨t, e1, e2, e3⟩ := cc_run W.1 W.2.1 W.2.2.1 W.2.2.2 hx.1 hx.2 hp a1 a2 h.2.1.1 h.2.1.2.1 h.2.1.2.2 h.2.2.2.2.2.1.1 h.2.2.2.2.2.1.2.1
    exact ⟨t, e1, h.askQ e2 (h.2.1.q e2 e3)⟩
  · obtain ⟨t, e1, e2, e3⟩ := cr_run W.1 W.2.1 W.2.2.1 W.2.2.2 hx.1 hx.2 hp a1 a2 h.2.1.1 h.2.1.2.1 h.2.1.2.2 h.2.2.1.1 h.2.2.1.2.1
    exact ⟨t, e1, h.ask e2.z (h.2.1.q e2 e3)⟩
theorem j_mean (a : Int32) (hV : JV T kd tl n c tn x p X k kf x2 p2 X2 k2 z b) : ASK (f_X11_mean a) (f_X12_mean a) T kd tl n c tn x p dy X k en kf x2 p2 dy2 X2 k2 z b d cl ed := by
  obtain ⟨W, hx, hp, -⟩ := id hV
  obtain ⟨D, A, hR⟩ := rng_ex (qcR T kd tl n c tn x p) (fun i => qc_lt W hx.1 hx.2 i)
  unfold ASK
  apply Exists.intro
  refine ⟨fun s h => ?_, fun s h => ?_⟩
  · obtain ⟨t, e1, e2, e3⟩ := cc_mean W hx.1 hx.2 hp hR a h.2.1 h.2.2.2.2.2.1.1 h.2.2.2.2.2.1.2.1
    exact ⟨t, e1, h.ask (e2.m (by omega) (by omega)) e3 (CZ.ms h.2.2.1 e2 (by omega) (by omega)) (CZ.ss h.2.2.2.1 e2 (by omega) (by omega))⟩
  · obtain ⟨t, e1, e2, e3⟩ := cr_mean W hx.1 hx.2 hp hR a h.2.1 h.2.2.1.1 h.2.2.1.2.1
    exact ⟨t, e1, h.ask e2 e3⟩
theorem j_number (a1 a2 : Int32) (hV : JV T kd tl n c tn x p X k kf x2 p2 X2 k2 z b) : ASK (f_X11_number a1 a2) (f_X12_number a1 a2) T kd tl n c tn x p dy X k en kf x2 p2 dy2 X2 k2 z b d cl ed := by
  obtain ⟨W, hx, hp, -⟩ := id hV
  obtain ⟨D, A, hR⟩ := rn4_ex W
  unfold ASK
  apply Exists.intro
  refine ⟨fun s h => ?_, fun s h => ?_⟩
  · obtain ⟨t, e1, e2, e3⟩ := cc_number W hR a1 a2 h.2.1
    exact ⟨t, e1, h.ask (e2.m (by omega) (by omega)) e3 (CZ.ms h.2.2.1 e2 (by omega) (by omega)) (CZ.ss h.2.2.2.1 e2 (by omega) (by omega))⟩
  · obtain ⟨t, e1, e2, e3⟩ := cr_number W hR a1 a2 h.2.1
    exact ⟨t, e1, h.ask e2 e3⟩
theorem j_best (a1 a2 a3 : Int32) (hV : JV T kd tl n c tn x p X k kf x2 p2 X2 k2 z b) : ASK (f_X11_best a1 a2 a3) (f_X12_best a1 a2 a3) T kd tl n c tn x p dy X k en kf x2 p2 dy2 X2 k2 z b d cl ed := by
  obtain ⟨W, hx, hp, -⟩ := id hV
  unfold ASK
  apply Exists.intro
  refine ⟨fun s h => ?_, fun s h => ?_⟩
  · obtain ⟨t, e1, e2, e3, e4⟩ := cc_best W hx.1 hp a1 a2 a3 h.2.1 h.2.2.1 h.2.2.2.2.2.1.1 h.2.2.2.2.2.1.2.1
    exact ⟨t, e1, h.ask (e2.m (by omega) (by omega)) e3 e4 (CZ.ss h.2.2.2.1 e2 (by omega) (by omega))⟩
  · obtain ⟨t, e1, e2, e3⟩ := cr_best W hx.1 hx.2 hp a1 a2 a3 h.2.1 h.2.2.1.1 h.2.2.1.2.1
    exact ⟨t, e1, h.ask e2 e3⟩
theorem j_all (a1 a2 : Int32) (hV : JV T kd tl n c tn x p X k kf x2 p2 X2 k2 z b) : ASK (f_X11_all a1 a2) (f_X12_all a1 a2) T kd tl n c tn x p dy X k en kf x2 p2 dy2 X2 k2 z b d cl ed := by
  obtain ⟨W, hx, hp, -⟩ := id hV
  unfold ASK
  apply Exists.intro
  refine ⟨fun s h => ?_, fun s h => ?_⟩
  · obtain ⟨t, e1, e2, e3, e4⟩ := cc_all W hx.1 hp a1 a2 h.2.1 h.2.2.1 h.2.2.2.2.2.1.1 h.2.2.2.2.2.1.2.1
    exact ⟨t, e1, h.ask (e2.m (by omega) (by omega)) e3 e4 (CZ.ss h.2.2.2.1 e2 (by omega) (by omega))⟩
  · obtain ⟨t, e1, e2, e3⟩ := cr_all W hx.1 hx.2 hp a1 a2 h.2.1 h.2.2.1.1 h.2.2.1.2.1
    exact ⟨t, e1, h.ask e2 e3⟩
theorem j_bestRow (a1 a2 : Int32) (hV : JV T kd tl n c tn x p X k kf x2 p2 X2 k2 z b) : ASK (f_X11_bestRow a1 a2) (f_X12_bestRow a1 a2) T kd tl n c tn x p dy X k en kf x2 p2 dy2 X2 k2 z b d cl ed := by
  obtain ⟨W, hx, hp, -⟩ := id hV
  unfold ASK
  apply Exists.intro
  refine ⟨fun s h => ?_, fun s h => ?_⟩
  · obtain ⟨t, e1, e2, e3⟩ := cc_bestRow W hx.1 a1 a2 h.2.1 h.2.2.2.2.2.1.1
    exact ⟨t, e1, h.askQ e2 e3⟩
  · obtain ⟨t, e1, e2, e3⟩ := cr_bestRow W a1 a2 h.2.1
    exact ⟨t, e1, h.ask e2.z e3⟩
theorem j_soon (a : Int32) (hV : JV T kd tl n c tn x p X k kf x2 p2 X2 k2 z b) : ASK (f_X11_soon a) (f_X12_soon a) T kd tl n c tn x p dy X k en kf x2 p2 dy2 X2 k2 z b d cl ed := by
  obtain ⟨W, hx, hp, -⟩ := id hV
  unfold ASK
  apply Exists.intro
  refine ⟨fun s h => ?_, fun s h => ?_⟩
  · obtain ⟨t, e1, e2, e3, e4⟩ := cc_soon W hx.1 hp a h.2.1 h.2.2.2.1 h.2.2.2.2.2.1.1 h.2.2.2.2.2.1.2.1
    exact ⟨t, e1, h.ask (e2.m (by omega) (by omega)) e3 (CZ.ms h.2.2.1 e2 (by omega) (by omega)) e4⟩
  · obtain ⟨t, e1, e2, e3⟩ := cr_soon W hx.1 hp hx.2 a h.2.1 h.2.2.1.1 h.2.2.1.2.1
    exact ⟨t, e1, h.ask e2 e3⟩
theorem j_held (a1 a2 a3 : Int32) (hV : JV T kd tl n c tn x p X k kf x2 p2 X2 k2 z b) : ASK (f_X11_held a1 a2 a3) (f_X12_held a1 a2 a3) T kd tl n c tn x p dy X k en kf x2 p2 dy2 X2 k2 z b d cl ed := by
  obtain ⟨W, hx, hp, -⟩ := id hV
  unfold ASK
  apply Exists.intro
  refine ⟨fun s h => ?_, fun s h => ?_⟩
  · obtain ⟨t, e1, e2, e3⟩ := cc_held W hx.1 hp a1 a2 a3 h.2.1 h.2.2.2.2.2.1.1 h.2.2.2.2.2.1.2.1
    exact ⟨t, e1, h.ask (e2.m (by omega) (by omega)) e3 (CZ.ms h.2.2.1 e2 (by omega) (by omega)) (CZ.ss h.2.2.2.1 e2 (by omega) (by omega))⟩
  · obtain ⟨t, e1, e2, e3⟩ := cr_held W hx.1 hx.2 hp a1 a2 a3 h.2.1 h.2.2.1.1 h.2.2.1.2.1
    exact ⟨t, e1, h.ask e2 e3⟩
