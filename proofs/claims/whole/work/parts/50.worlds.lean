/-! class and reference with a town, kinds, a rota -/
variable {T : TW} {kd tl tn : Nat → Nat} {n c x p : Nat} {s t u : SS}
def WOK (T : TW) (kd tl : Nat → Nat) (n c : Nat) (tn : Nat → Nat) : Prop := TOK T ∧ KOK kd tl ∧ ROK c tn ∧ 1 ≤ n ∧ n ≤ 4
def CW (T : TW) (kd tl : Nat → Nat) (c : Nat) (tn : Nat → Nat) (s : SS) : Prop := CT_ T s ∧ CKD kd tl s ∧ RTC c tn s
def RW_ (T : TW) (kd tl : Nat → Nat) (n c : Nat) (tn : Nat → Nat) (s : SS) : Prop := RT_ T n s ∧ RKD kd tl s ∧ RTR c tn s
/-- what a question may change: the class's own cells lo .. hi beside the town's -/
def CZ (lo hi : Nat) (s t : SS) : Prop := (∀ k, k ≠ 16 → k ≠ 27 → k ≠ 32 → k ≠ 33 → k ≠ 34 → (k < lo ∨ hi < k) → t k = s k) ∧ ∀ j, j ≠ 10 → t 27 j = s 27 j
theorem CZ.rf (lo hi : Nat) (s : SS) : CZ lo hi s s := ⟨fun _ _ _ _ _ _ _ => rfl, fun _ _ => rfl⟩
theorem CZ.tr {lo hi : Nat} (h : CZ lo hi s t) (g : CZ lo hi t u) : CZ lo hi s u := ⟨fun k a b c d e f => (g.1 k a b c d e f).trans (h.1 k a b c d e f), fun j a => (g.2 j a).trans (h.2 j a)⟩
theorem CQ.z {lo hi : Nat} (h : CQ s t) : CZ lo hi s t := ⟨fun k a b c d e _ => h.1 k a b c d e, h.2⟩
theorem CZ.m {lo hi lo2 hi2 : Nat} (h : CZ lo hi s t) (a : lo2 ≤ lo) (b : hi ≤ hi2) : CZ lo2 hi2 s t := ⟨fun k e1 e2 e3 e4 e5 e6 => h.1 k e1 e2 e3 e4 e5 (by omega), h.2⟩
theorem CZ.up1 {lo hi : Nat} {k j : Nat} {v : Int32} (h : 38 < k ∧ lo ≤ k ∧ k ≤ hi) : CZ lo hi s (up s k j v) := ⟨fun q _ _ _ _ _ g => up_cell (by omega), fun j _ => by rw [up_cell (by omega)]⟩
theorem CZ.ur {lo hi : Nat} {k : Nat} {R : Nat → Int32} (h : 38 < k ∧ lo ≤ k ∧ k ≤ hi) : CZ lo hi s (upr s k R) := ⟨fun q _ _ _ _ _ g => upr_ne (by omega), fun j _ => by rw [upr_ne (by omega)]⟩
theorem CZ.at {lo hi : Nat} (h : CZ lo hi s t) {k : Nat} (g : k = 35 ∨ k = 36 ∨ k = 37 ∨ k = 38 ∨ (38 < k ∧ (k < lo ∨ hi < k))) (f : 38 < lo) : t k = s k := h.1 k (by omega) (by omega) (by omega) (by omega) (by omega) (by omega)
theorem CT_.of (h : CT_ T s) (e : ∀ k, k ≤ 34 → t k = s k) : CT_ T t := by
  refine ⟨h.1.of (fun k _ _ => e k (by omega)), h.2.1.of (by rw [e 27 (by omega)]) (fun k _ _ => e k (by omega)), h.2.2.1.of (fun k _ _ => e k (by omega)), ?_⟩
  have := h.2.2.2
  unfold CCH gl at this ⊢
  rw [e 27 (by omega), e 33 (by omega), e 34 (by omega)]
  exact this
theorem CW.of (h : CW T kd tl c tn s) (e : ∀ k, k ≤ 38 → t k = s k) : CW T kd tl c tn t := by
  refine ⟨h.1.of (fun k _ => e k (by omega)), ?_, ?_⟩
  · have := h.2.1
    unfold CKD at this ⊢
    rw [e 36 (by omega), e 37 (by omega)]
    exact this
  · have := h.2.2
    unfold RTC at this ⊢
    rw [e 35 (by omega), e 38 (by omega)]
    exact this
theorem CW.up1 (h : CW T kd tl c tn s) {k j : Nat} {v : Int32} (g : 38 < k) : CW T kd tl c tn (up s k j v) := h.of (fun q _ => up_cell (by omega))
theorem CW.ur (h : CW T kd tl c tn s) {k : Nat} {R : Nat → Int32} (g : 38 < k) : CW T kd tl c tn (upr s k R) := h.of (fun q _ => upr_ne (by omega))
theorem CW.q (h : CW T kd tl c tn s) (g : CQ s t) (f : CT_ T t) : CW T kd tl c tn t := ⟨f, g.ck h.2.1, g.rc h.2.2⟩
theorem cw_choice (W : WOK T kd tl n c tn) (h : CW T kd tl c tn s) {m : Nat} (hx : x < szR n) (hm : m < 4) : ∃ t : SS, f_X2_choice (iI m) (wl_ n x) s = some (iI (cho T kd tl n x m), t) ∧ CQ s t ∧ CW T kd tl c tn t := by
  obtain ⟨t, a, b, d⟩ := ct_choice W.1 W.2.1 h.1 h.2.1 W.2.2.2 hx hm
  exact ⟨t, a, b, h.q b d⟩
theorem cw_worth (W : WOK T kd tl n c tn) (h : CW T kd tl c tn s) {m : Nat} (hx : x < szR n) (hm : m < 4) : ∃ t : SS, f_X10_worthOf (wl_ n x) (iI m) s = some (wth T n x m, t) ∧ CQ s t ∧ CW T kd tl c tn t := by
  obtain ⟨t, a, b, d⟩ := ct_worth W.1 h.1 W.2.2.2 hx hm
  exact ⟨t, a, b, h.q b d⟩
theorem cw_may (W : WOK T kd tl n c tn) (h : CW T kd tl c tn s) {m : Nat} (hx : x < szR n) (hm : m < 4) : ∃ t : SS, f_X10_mayOf (wl_ n x) (iI m) s = some (may T n x m, t) ∧ CQ s t ∧ CW T kd tl c tn t := by
  obtain ⟨t, a, b, d⟩ := ct_may W.1 h.1 W.2.2.2 hx hm
  exact ⟨t, a, b, h.q b d⟩
theorem cw_quiet (W : WOK T kd tl n c tn) (h : CW T kd tl c tn s) (hx : x < szR n) : ∃ t : SS, f_X2_quietOn (wl_ n x) s = some (if qF T n x tn c = true then 1 else 0, t) ∧ CQ s t ∧ CW T kd tl c tn t := by
  obtain ⟨t, a, b, d⟩ := ct_quiet W.1 W.2.2.1 h.1 h.2.2 W.2.2.2 hx
  exact ⟨t, a, b, h.q b d⟩
theorem cw_behind (W : WOK T kd tl n c tn) (h : CW T kd tl c tn s) (hx : x < szR n) {l : Nat} (hl : l ≤ 8) : f_X6_behind (wl_ n x) (iI l) s = some (wl_ n (bh n x l)) := rw_behind h.1.1 W.2.2.2 hx hl
theorem cw_turn (W : WOK T kd tl n c tn) (h : CW T kd tl c tn s) (hp : p < c) : f_X2_onTurn (iI p) s = some (iI (tn p)) := ct_turn W.2.2.1 h.2.2 hp
theorem cw_after (W : WOK T kd tl n c tn) (h : CW T kd tl c tn s) (hp : p < c) : f_X2_placeAfter (iI p) s = some (iI (((p + 1) % c : Nat) : Int)) := ct_after W.2.2.1 h.2.2 hp
/-- the reference: its cells 78 .. 84 and 89 .. 93, and some of its own fields -/
def RZ (s t : SS) : Prop := (∀ k, k ≠ 56 → (k < 78 ∨ (84 < k ∧ k < 89) ∨ 93 < k) → t k = s k) ∧ ∀ j, ¬ rsl j → j ≠ 48 → j ≠ 49 → j ≠ 50 → j ≠ 60 → j ≠ 61 → j ≠ 62 → t 56 j = s 56 j
theorem RZ.rf (s : SS) : RZ s s := ⟨fun _ _ _ => rfl, fun _ _ _ _ _ _ _ _ => rfl⟩
theorem RZ.tr (h : RZ s t) (g : RZ t u) : RZ s u := ⟨fun k a b => (g.1 k a b).trans (h.1 k a b), fun j a b c d e f i => (g.2 j a b c d e f i).trans (h.2 j a b c d e f i)⟩
theorem RQ.z (h : RQ s t) : RZ s t := ⟨fun k a b => h.1 k a (by omega), fun j a b c d _ _ _ => h.2 j a b c d⟩
theorem RZ.up1 {k j : Nat} {v : Int32} (h : 89 ≤ k ∧ k ≤ 93) : RZ s (up s k j v) := ⟨fun q _ b => up_cell (by omega), fun i _ _ _ _ _ _ _ => by rw [up_cell (by omega)]⟩
theorem RZ.ur {k : Nat} {R : Nat → Int32} (h : 89 ≤ k ∧ k ≤ 93) : RZ s (upr s k R) := ⟨fun q _ b => upr_ne (by omega), fun i _ _ _ _ _ _ _ => by rw [upr_ne (by omega)]⟩
theorem RZ.us {j : Nat} {v : Int32} (h : j = 60 ∨ j = 61 ∨ j = 62) : RZ s (up s 56 j v) := ⟨fun q a _ => up_cell a, fun i _ _ _ _ _ _ _ => up_slot (by omega)⟩
theorem RQ.hi (h : RQ s t) {k : Nat} (g : 84 < k) : t k = s k := h.1 k (by omega) (by omega)
theorem RQ.sl (h : RQ s t) {j : Nat} (g : j < 40 ∨ 50 < j) : t 56 j = s 56 j := h.2 j (by unfold rsl; omega) (by omega) (by omega) (by omega)
theorem RW_.of (h : RW_ T kd tl n c tn s) (e : ∀ k, 57 < k → k < 85 → k ≠ 78 → k ≠ 79 → k ≠ 80 → t k = s k) (e2 : ∀ j, j = 2 ∨ j = 3 ∨ j = 5 ∨ j = 17 → t 56 j = s 56 j) : RW_ T kd tl n c tn t := by
  obtain ⟨⟨h1, h2, h3, h4⟩, h5, h6⟩ := h
  refine ⟨⟨?_, by rw [e2 3 (by omega)]; exact h2, h3.of (fun k _ _ => e k (by omega) (by omega) (by omega) (by omega) (by omega)) (e2 17 (by omega)), h4.of (e 81 (by omega) (by omega) (by omega) (by omega) (by omega)) (e 82 (by omega) (by omega) (by omega) (by omega) (by omega)) (e 83 (by omega) (by omega) (by omega) (by omega) (by omega)) (e 84 (by omega) (by omega) (by omega) (by omega) (by omega))⟩, ?_, ?_⟩
  · unfold RTB at h1 ⊢
    rw [e2 2 (by omega), e 58 (by omega) (by omega) (by omega) (by omega) (by omega), e 59 (by omega) (by omega) (by omega) (by omega) (by omega), e 60 (by omega) (by omega) (by omega) (by omega) (by omega), e 61 (by omega) (by omega) (by omega) (by omega) (by omega)]
    exact h1
  · unfold RKD at h5 ⊢
    rw [e 63 (by omega) (by omega) (by omega) (by omega) (by omega), e 64 (by omega) (by omega) (by omega) (by omega) (by omega)]
    exact h5
  · unfold RTR at h6 ⊢
    rw [e2 5 (by omega), e 62 (by omega) (by omega) (by omega) (by omega) (by omega)]
    exact h6
theorem RW_.up1 (h : RW_ T kd tl n c tn s) {k j : Nat} {v : Int32} (g : 85 ≤ k) : RW_ T kd tl n c tn (up s k j v) := h.of (fun q _ _ _ _ _ => up_cell (by omega)) (fun j _ => by rw [up_cell (by omega)])
theorem RW_.ur (h : RW_ T kd tl n c tn s) {k : Nat} {R : Nat → Int32} (g : 85 ≤ k) : RW_ T kd tl n c tn (upr s k R) := h.of (fun q _ _ _ _ _ => upr_ne (by omega)) (fun j _ => by rw [upr_ne (by omega)])
theorem RW_.us (h : RW_ T kd tl n c tn s) {j : Nat} {v : Int32} (g : 18 ≤ j) : RW_ T kd tl n c tn (up s 56 j v) := h.of (fun q _ _ _ _ _ => up_cell (by omega)) (fun i hi => up_slot (by omega))
theorem RW_.q (h : RW_ T kd tl n c tn s) (g : RQ s t) (f : RT_ T n t) : RW_ T kd tl n c tn t := ⟨f, g.k h.2.1, g.rr h.2.2⟩
theorem rw_makes (W : WOK T kd tl n c tn) (h : RW_ T kd tl n c tn s) {m : Nat} (hx : x < szR n) (hv : VR T x) (hm : m < 4) : ∃ t : SS, f_X12_makes (iI x) (iI m) s = some (iI (cho T kd tl n x m), t) ∧ RQ s t ∧ RW_ T kd tl n c tn t := by
  obtain ⟨t, a, b, d⟩ := rt_makes W.1 W.2.1 h.1 h.2.1 W.2.2.2 hx hv hm
  exact ⟨t, a, b, h.q b d⟩
theorem rw_worth (W : WOK T kd tl n c tn) (h : RW_ T kd tl n c tn s) {m : Nat} (hx : x < szR n) (hv : VR T x) (hm : m < 4) : ∃ t : SS, f_X12_worthOf (iI x) (iI m) s = some (wth T n x m, t) ∧ RQ s t ∧ RW_ T kd tl n c tn t := by
  obtain ⟨t, a, b, d⟩ := rt_worth W.1 h.1 W.2.2.2 hx hv hm
  exact ⟨t, a, b, h.q b d⟩
theorem rw_may (W : WOK T kd tl n c tn) (h : RW_ T kd tl n c tn s) {m : Nat} (hx : x < szR n) (hv : VR T x) (hm : m < 4) : ∃ t : SS, f_X12_mayOf (iI x) (iI m) s = some (may T n x m, t) ∧ RQ s t ∧ RW_ T kd tl n c tn t := by
  obtain ⟨t, a, b, d⟩ := rt_may W.1 h.1 W.2.2.2 hx hv hm
  exact ⟨t, a, b, h.q b d⟩
theorem rw_quiet (W : WOK T kd tl n c tn) (h : RW_ T kd tl n c tn s) (hx : x < szR n) (hv : VR T x) : ∃ t : SS, f_X12_isQuiet (iI x) s = some (if qF T n x tn c = true then 1 else 0, t) ∧ RQ s t ∧ RW_ T kd tl n c tn t := by
  obtain ⟨t, a, b, d⟩ := rt_quiet W.1 W.2.2.1 h.1 h.2.2 W.2.2.2 hx hv
  exact ⟨t, a, b, h.q b d⟩
theorem rw_bh (W : WOK T kd tl n c tn) (h : RW_ T kd tl n c tn s) (hx : x < szR n) {l : Nat} (hl : l ≤ 8) : f_X12_behind (iI x) (iI l) s = some (iI (bh n x l)) := rr_behind h.1.2.1 W.2.2.2 hx hl
theorem rw_lay (W : WOK T kd tl n c tn) (h : RW_ T kd tl n c tn s) (hx : x < 4681) : ∃ t : SS, f_X12_laysRow (iI x) s = some (0, t) ∧ RQ s t ∧ RW_ T kd tl n c tn t ∧ Laid T x t := by
  obtain ⟨t, a, b, d⟩ := rr_lay W.1.1 h.1.1 hx
  exact ⟨t, a, b.q, h.q b.q (b.t2 h.1), d⟩
theorem it_ok (W : WOK T kd tl n c tn) (hx : x < szR n) (hv : VR T x) (d : Nat) : itR T kd tl n c tn x p d < szR n ∧ VR T (itR T kd tl n c tn x p d) := itR_ok W.1.1 W.2.1 W.2.2.1 W.2.2.2 hx hv d
theorem WOK.cho (W : WOK T kd tl n c tn) {m : Nat} (hm : m < 4) (hx : x < szR n) : cho T kd tl n x m ≤ 8 := cho_le T kd tl W.2.1 hm (sz_lt W.2.2.2 hx).2
theorem WOK.cc (W : WOK T kd tl n c tn) : 1 ≤ c ∧ c ≤ 4 := W.2.2.1.1
theorem WOK.tt (W : WOK T kd tl n c tn) {p : Nat} (h : p < c) : tn p < 4 := W.2.2.1.2 p h
theorem WOK.pl (W : WOK T kd tl n c tn) (q : Nat) : q % c < c := Nat.mod_lt _ (by have := W.cc; omega)
theorem WOK.sz (W : WOK T kd tl n c tn) (hx : x < szR n) : br n + x < 5348 ∧ x < 4681 := sz_lt W.2.2.2 hx
theorem pl_s (p d c : Nat) : ((p + d) % c + 1) % c = (p + (d + 1)) % c := by rw [← Nat.add_assoc, Nat.add_mod (p + d) 1 c]; simp
theorem nx_s (d : Nat) : iI (d : Int) + 1 = iI ((d + 1 : Nat) : Int) := by rw [z_1, iI_add]; rfl
