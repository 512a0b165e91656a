/-! how soon: the least days to a quiet row, the least row of acts -/
variable {T : TW} {kd tl tn : Nat → Nat} {n c x p : Nat} {s t u : SS}
def alB (T : TW) (n : Nat) (tn : Nat → Nat) (y w l : Nat) : Bool := decide (l = 8) || (decide (l < 8) && bt (may T n y (tn w)) l)
def QD (T : TW) (n c : Nat) (tn : Nat → Nat) : Nat → Nat → Nat → Prop
  | 0, y, _ => qF T n y tn c = true
  | k + 1, y, w => QD T n c tn k y w ∨ ∃ l, alB T n tn y w l = true ∧ QD T n c tn k (bh n y l) ((w + 1) % c)
theorem QD_up {y w k : Nat} (h : QD T n c tn k y w) : ∀ j, k ≤ j → QD T n c tn j y w := by
  intro j
  induction j with
  | zero => intro a; rw [show k = 0 by omega] at h; exact h
  | succ j ih =>
    intro a
    by_cases q : k = j + 1
    · rw [← q]; exact h
    · exact Or.inl (ih (by omega))
def FQ (T : TW) (n c : Nat) (tn : Nat → Nat) (y w : Nat) : Prop := ∃ k, QD T n c tn k y w
theorem QD_least {y w : Nat} : ∀ m, QD T n c tn m y w → ∃ k, k ≤ m ∧ QD T n c tn k y w ∧ ∀ j, j < k → ¬ QD T n c tn j y w := by
  intro m
  induction m with
  | zero => intro h; exact ⟨0, Nat.le_refl 0, h, fun j hj => by omega⟩
  | succ m ih =>
    intro h
    by_cases q : QD T n c tn m y w
    · obtain ⟨k, h1, h2⟩ := ih q
      exact ⟨k, by omega, h2⟩
    · exact ⟨m + 1, Nat.le_refl _, h, fun j hj w => q (QD_up w m (by omega))⟩
theorem FQ_least {y w : Nat} (h : FQ T n c tn y w) : ∃ k, QD T n c tn k y w ∧ ∀ j, j < k → ¬ QD T n c tn j y w := by
  obtain ⟨m, hm⟩ := h
  obtain ⟨k, -, h2⟩ := QD_least m hm
  exact ⟨k, h2⟩
noncomputable def dq (T : TW) (n c : Nat) (tn : Nat → Nat) (y w : Nat) : Nat := @dite _ (FQ T n c tn y w) (Classical.propDecidable _) (fun h => Classical.choose (FQ_least h)) (fun _ => 0)
theorem dq_fin {y w : Nat} (h : FQ T n c tn y w) : QD T n c tn (dq T n c tn y w) y w ∧ ∀ j, j < dq T n c tn y w → ¬ QD T n c tn j y w := by
  unfold dq
  rw [dif_pos h]
  exact Classical.choose_spec (FQ_least h)
theorem dq_eq {y w k : Nat} (h : QD T n c tn k y w) (g : ∀ j, j < k → ¬ QD T n c tn j y w) : FQ T n c tn y w ∧ dq T n c tn y w = k := by
  have f : FQ T n c tn y w := ⟨k, h⟩
  have d := dq_fin f
  refine ⟨f, ?_⟩
  rcases Nat.lt_trichotomy (dq T n c tn y w) k with a | a | a
  · exact absurd d.1 (g _ a)
  · exact a
  · exact absurd h (d.2 _ a)
theorem dq_le {y w k : Nat} (h : QD T n c tn k y w) : FQ T n c tn y w ∧ dq T n c tn y w ≤ k := by
  refine ⟨⟨k, h⟩, ?_⟩
  have d := dq_fin (⟨k, h⟩ : FQ T n c tn y w)
  rcases Nat.lt_or_ge k (dq T n c tn y w) with a | a
  · exact absurd h (d.2 _ a)
  · exact a
theorem dq_0 {y w : Nat} : (FQ T n c tn y w ∧ dq T n c tn y w = 0) ↔ qF T n y tn c = true := by
  constructor
  · rintro ⟨h1, h2⟩
    have := (dq_fin h1).1
    rw [h2] at this
    exact this
  · intro h
    exact dq_eq (k := 0) h (fun j hj => by omega)
theorem dq_s1 {y w k : Nat} (h : FQ T n c tn y w) (e : dq T n c tn y w = k + 1) : ∃ l, alB T n tn y w l = true ∧ FQ T n c tn (bh n y l) ((w + 1) % c) ∧ dq T n c tn (bh n y l) ((w + 1) % c) = k := by
  have d := dq_fin h
  rw [e] at d
  rcases d.1 with a | ⟨l, a, b⟩
  · exact absurd a (d.2 k (by omega))
  · refine ⟨l, a, dq_eq b (fun j hj w2 => ?_)⟩
    exact d.2 (j + 1) (by omega) (Or.inr ⟨l, a, w2⟩)
theorem dq_s2 {y w l : Nat} (h : alB T n tn y w l = true) (f : FQ T n c tn (bh n y l) ((w + 1) % c)) : FQ T n c tn y w ∧ dq T n c tn y w ≤ dq T n c tn (bh n y l) ((w + 1) % c) + 1 := by
  have d := dq_fin f
  exact dq_le (Or.inr ⟨l, h, d.1⟩)
theorem al_le {y w l : Nat} (h : alB T n tn y w l = true) : l ≤ 8 := by
  unfold alB at h
  rw [Bool.or_eq_true, Bool.and_eq_true] at h
  rcases h with a | a
  · have := of_decide_eq_true a; omega
  · have := of_decide_eq_true a.1; omega
theorem al_8 {y w : Nat} : alB T n tn y w 8 = true := rfl
theorem al_l {y w l : Nat} (hl : l < 8) : alB T n tn y w l = bt (may T n y (tn w)) l := by
  unfold alB
  rw [decide_eq_false (by omega), decide_eq_true hl]
  rfl
noncomputable def gP (T : TW) (n c : Nat) (tn : Nat → Nat) (y w l : Nat) : Bool := alB T n tn y w l && (@decide (FQ T n c tn (bh n y l) ((w + 1) % c)) (Classical.propDecidable _) && decide (dq T n c tn (bh n y l) ((w + 1) % c) + 1 = dq T n c tn y w))
theorem gP_iff {y w l : Nat} : gP T n c tn y w l = true ↔ alB T n tn y w l = true ∧ FQ T n c tn (bh n y l) ((w + 1) % c) ∧ dq T n c tn (bh n y l) ((w + 1) % c) + 1 = dq T n c tn y w := by
  unfold gP
  rw [Bool.and_eq_true, Bool.and_eq_true]
  constructor
  · rintro ⟨a, b, d⟩
    exact ⟨a, @of_decide_eq_true _ (Classical.propDecidable _) b, of_decide_eq_true d⟩
  · rintro ⟨a, b, d⟩
    exact ⟨a, @decide_eq_true _ (Classical.propDecidable _) b, decide_eq_true d⟩
def gL (P : Nat → Bool) : Nat → Nat → Nat
  | 0, l => l
  | m + 1, l => if P l = true then l else gL P m (l + 1)
def gA (P : Nat → Bool) : Nat := if P 8 = true then 8 else gL P 8 0
theorem gL_ok {P : Nat → Bool} : ∀ m l, (∃ k, l ≤ k ∧ k < l + m ∧ P k = true) → P (gL P m l) = true ∧ l ≤ gL P m l ∧ gL P m l < l + m ∧ ∀ j, l ≤ j → j < gL P m l → P j = false := by
  intro m
  induction m with
  | zero => rintro l ⟨k, a, b, -⟩; omega
  | succ m ih =>
    rintro l ⟨k, a, b, d⟩
    unfold gL
    by_cases q : P l = true
    · rw [if_pos q]
      exact ⟨q, Nat.le_refl l, by omega, fun j h1 h2 => by omega⟩
    · rw [if_neg q]
      have hk : k ≠ l := fun w => q (w ▸ d)
      obtain ⟨h1, h2, h3, h4⟩ := ih (l + 1) ⟨k, by omega, by omega, d⟩
      refine ⟨h1, by omega, by omega, fun j e1 e2 => ?_⟩
      by_cases z : j = l
      · rw [z]; simpa using q
      · exact h4 j (by omega) e2
theorem gA_ok {P : Nat → Bool} (h : ∃ k, k ≤ 8 ∧ P k = true) : P (gA P) = true ∧ gA P ≤ 8 ∧ (gA P = 8 ∨ (P 8 = false ∧ ∀ j, j < gA P → P j = false)) := by
  unfold gA
  by_cases q : P 8 = true
  · rw [if_pos q]
    exact ⟨q, Nat.le_refl 8, Or.inl rfl⟩
  · rw [if_neg q]
    obtain ⟨k, a, b⟩ := h
    have hk : k ≠ 8 := fun w => q (w ▸ b)
    obtain ⟨h1, h2, h3, h4⟩ := gL_ok (P := P) 8 0 ⟨k, by omega, by omega, b⟩
    exact ⟨h1, by omega, Or.inr ⟨by simpa using q, fun j hj => h4 j (by omega) hj⟩⟩
/-- the act, the rows of the least row of acts -/
noncomputable def gct (T : TW) (n c : Nat) (tn : Nat → Nat) (y w : Nat) : Nat := gA (gP T n c tn y w)
noncomputable def gpt (T : TW) (n c : Nat) (tn : Nat → Nat) (x p : Nat) : Nat → Nat
  | 0 => x
  | d + 1 => bh n (gpt T n c tn x p d) (gct T n c tn (gpt T n c tn x p d) ((p + d) % c))
theorem gct_ok {y w : Nat} (h : FQ T n c tn y w) (e : dq T n c tn y w ≠ 0) : gP T n c tn y w (gct T n c tn y w) = true ∧ gct T n c tn y w ≤ 8 ∧ (gct T n c tn y w = 8 ∨ (gP T n c tn y w 8 = false ∧ ∀ j, j < gct T n c tn y w → gP T n c tn y w j = false)) := by
  obtain ⟨k, hk⟩ : ∃ k, dq T n c tn y w = k + 1 := ⟨dq T n c tn y w - 1, by omega⟩
  obtain ⟨l, a, b, d⟩ := dq_s1 h hk
  exact gA_ok ⟨l, al_le a, gP_iff.mpr ⟨a, b, by rw [d, hk]⟩⟩
theorem gpt_ok (hn : 1 ≤ n ∧ n ≤ 4) (hx : x < szR n) (hp : p < c) (h : FQ T n c tn x p) : ∀ d, d ≤ dq T n c tn x p → gpt T n c tn x p d < szR n ∧ FQ T n c tn (gpt T n c tn x p d) ((p + d) % c) ∧ dq T n c tn (gpt T n c tn x p d) ((p + d) % c) + d = dq T n c tn x p := by
  intro d
  induction d with
  | zero =>
    intro _
    rw [Nat.add_zero, Nat.mod_eq_of_lt hp]
    exact ⟨hx, h, rfl⟩
  | succ d ih =>
    intro hd
    obtain ⟨h1, h2, h3⟩ := ih (by omega)
    obtain ⟨g1, g2, -⟩ := gct_ok h2 (by omega)
    obtain ⟨a, b, e⟩ := gP_iff.mp g1
    rw [pl_s] at b e
    refine ⟨bh_lt hn h1 g2, b, ?_⟩
    show dq T n c tn (bh n (gpt T n c tn x p d) (gct T n c tn (gpt T n c tn x p d) ((p + d) % c))) ((p + (d + 1)) % c) + (d + 1) = _
    omega
noncomputable def ansSoon (T : TW) (n c : Nat) (tn : Nat → Nat) (x p : Nat) (a : Int32) : Int32 :=
  if a.toInt < -1 then -1 else @ite _ (FQ T n c tn x p) (Classical.propDecidable _) (if a.toInt = -1 then iI (dq T n c tn x p) else if (dq T n c tn x p : Int) ≤ a.toInt then -1 else iI (gct T n c tn (gpt T n c tn x p a.toInt.toNat) ((p + a.toInt.toNat) % c))) (-2)
/-- how many of m cells from b on are not v -/
def dcF (v : Int32) (R : Nat → Int32) (b : Nat) : Nat → Nat
  | 0 => 0
  | m + 1 => dcF v R b m + if R (b + m) = v then 0 else 1
theorem dcF_le (v : Int32) (R : Nat → Int32) (b : Nat) : ∀ m, dcF v R b m ≤ m := by
  intro m
  induction m with
  | zero => exact Nat.le_refl 0
  | succ m ih => unfold dcF; split <;> omega
theorem dcF_lt {v : Int32} {R : Nat → Int32} {b j : Nat} (h : R (b + j) = v) : ∀ m, j < m → dcF v R b m < m := by
  intro m
  induction m with
  | zero => intro a; omega
  | succ m ih =>
    intro a
    have := dcF_le v R b m
    unfold dcF
    by_cases q : j = m
    · rw [← q, if_pos h]
      have := dcF_le v R b j
      omega
    · have := ih (by omega)
      split <;> omega
theorem dcF_out {v : Int32} {R : Nat → Int32} {b j : Nat} {a : Int32} : ∀ m, m ≤ j → dcF v (upd R (b + j) a) b m = dcF v R b m := by
  intro m
  induction m with
  | zero => intro _; rfl
  | succ m ih =>
    intro h
    unfold dcF
    rw [ih (by omega), upd_ne (show b + m ≠ b + j by omega)]
theorem dcF_up {v : Int32} {R : Nat → Int32} {b j : Nat} {a : Int32} (h : R (b + j) = v) (ha : a ≠ v) : ∀ m, j < m → dcF v (upd R (b + j) a) b m = dcF v R b m + 1 := by
  intro m
  induction m with
  | zero => intro q; omega
  | succ m ih =>
    intro hj
    show dcF v (upd R (b + j) a) b m + (if upd R (b + j) a (b + m) = v then 0 else 1) = dcF v R b m + (if R (b + m) = v then 0 else 1) + 1
    by_cases q : j = m
    · subst q
      rw [dcF_out j (Nat.le_refl j), upd_eq, if_neg ha, if_pos h]
    · rw [ih (by omega), upd_ne (by omega)]
      omega
theorem dcF_dn {v : Int32} {R : Nat → Int32} {b j : Nat} (h : R (b + j) ≠ v) : ∀ m, j < m → dcF v (upd R (b + j) v) b m + 1 = dcF v R b m := by
  intro m
  induction m with
  | zero => intro q; omega
  | succ m ih =>
    intro hj
    show dcF v (upd R (b + j) v) b m + (if upd R (b + j) v (b + m) = v then 0 else 1) + 1 = dcF v R b m + (if R (b + m) = v then 0 else 1)
    by_cases q : j = m
    · subst q
      rw [dcF_out j (Nat.le_refl j), upd_eq, if_pos rfl, if_neg h]
    · have := ih (by omega)
      rw [upd_ne (show b + m ≠ b + j by omega)]
      omega
