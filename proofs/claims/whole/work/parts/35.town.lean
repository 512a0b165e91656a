/-! a town: laws, their four tables, what the law of laws answers to a letter and the eleven facts -/
abbrev TW : Type := Nat × (Nat → Nat → Int32) × (Int32 → (Nat → Int32) → Int32)
def TOK (T : TW) : Prop := T.1 ≤ 8 ∧ (∀ F : Nat → Int32, -100 ≤ (T.2.2 118 F).toInt ∧ (T.2.2 118 F).toInt ≤ 100) ∧ ∀ F : Nat → Int32, T.2.2 109 F = 0 ∨ T.2.2 109 F = 1
def nws (x : Nat) : Nat := if mny x = 0 then 8 else lwA x (mny x - 1)
def hcond (T : TW) (x l : Nat) : Bool := bt (stn x) l && decide ((T.2.1 1 l &&& (stn x ^^^ (-1))) = 0)
def hI (T : TW) (x : Nat) : Nat → Int32
  | 0 => 0
  | k + 1 => if hcond T x k = true then hI T x k ||| sh1 k else hI T x k
def hold (T : TW) (x : Nat) : Int32 := hI T x 8
def fct (T : TW) (n x l i p : Nat) : Nat → Int32 := fun j =>
  if j = 0 then iI l else if j = 1 then iI p else if j = 2 then T.2.1 0 l else if j = 3 then iI (mny x) else if j = 4 then iI (tms x l) else if j = 5 then (if hcond T x l = true then 1 else 0) else if j = 6 then (if mny x = n then 1 else 0) else if j = 7 then iI i else if j = 8 then iI (old x) else if j = 9 then iI (nws x) else iI n
def wsm (T : TW) (n x p : Nat) : Nat → Int32
  | 0 => 0
  | k + 1 => wsm T n x p k + T.2.2 118 (fct T n x (lwA x k) k p)
def wth (T : TW) (n x p : Nat) : Int32 := wsm T n x p (mny x)
/-- no law below h that holds keeps l from m -/
def opn (T : TW) (x m l : Nat) : Nat → Bool
  | 0 => true
  | h + 1 => opn T x m l h && !(hcond T x h && (bt (T.2.1 2 h) l || bt (T.2.1 3 h) m))
def mF (T : TW) (n x m : Nat) : Nat → Int32
  | 0 => 0
  | k + 1 => if opn T x m k 8 = true ∧ T.2.2 109 (fct T n x k 0 m) = 1 then mF T n x m k ||| sh1 k else mF T n x m k
def may (T : TW) (n x m : Nat) : Int32 := mF T n x m T.1
theorem hI_bt (T : TW) (x : Nat) : ∀ (k l : Nat), k ≤ 8 → l < 32 → bt (hI T x k) l = (decide (l < k) && hcond T x l) := by
  intro k
  induction k with
  | zero => intro l _ _; simp [hI, b_0]
  | succ k ih =>
    intro l hk hl
    unfold hI
    by_cases q : hcond T x k = true
    · rw [if_pos q, b_or, ih l (by omega) hl, sh1_bt (by omega) hl]
      by_cases e : l = k
      · subst e; simp [q]
      · have h2 : (l < k + 1) ↔ (l < k) := by omega
        simp [e, h2]
    · rw [if_neg q, ih l (by omega) hl]
      by_cases e : l = k
      · subst e; simp at q; simp [q]
      · have h2 : (l < k + 1) ↔ (l < k) := by omega
        simp [h2]
theorem hold_bt (T : TW) {x l : Nat} (hl : l < 8) : bt (hold T x) l = hcond T x l := by
  unfold hold
  rw [hI_bt T x 8 l (Nat.le_refl 8) (by omega)]
  simp [hl]
theorem mF_bt (T : TW) (n x m : Nat) : ∀ (k l : Nat), k ≤ 8 → l < 32 → bt (mF T n x m k) l = (decide (l < k) && (opn T x m l 8 && decide (T.2.2 109 (fct T n x l 0 m) = 1))) := by
  intro k
  induction k with
  | zero => intro l _ _; simp [mF, b_0]
  | succ k ih =>
    intro l hk hl
    unfold mF
    by_cases q : opn T x m k 8 = true ∧ T.2.2 109 (fct T n x k 0 m) = 1
    · rw [if_pos q, b_or, ih l (by omega) hl, sh1_bt (by omega) hl]
      by_cases e : l = k
      · subst e; simp [q.1, q.2]
      · have h2 : (l < k + 1) ↔ (l < k) := by omega
        simp [e, h2]
    · rw [if_neg q, ih l (by omega) hl]
      by_cases e : l = k
      · subst e
        simp
        intro h3
        simpa using fun h4 => q ⟨h3, h4⟩
      · have h2 : (l < k + 1) ↔ (l < k) := by omega
        simp [h2]
theorem may_bt (T : TW) (hT : T.1 ≤ 8) {n x m l : Nat} (hl : l < 32) : bt (may T n x m) l = (decide (l < T.1) && (opn T x m l 8 && decide (T.2.2 109 (fct T n x l 0 m) = 1))) := mF_bt T n x m T.1 l hT hl
theorem wsm_in (T : TW) (hT : TOK T) (n x p : Nat) : ∀ k : Nat, k ≤ 4 → -100 * (k : Int) ≤ (wsm T n x p k).toInt ∧ (wsm T n x p k).toInt ≤ 100 * (k : Int) := by
  intro k
  induction k with
  | zero => intro _; unfold wsm; decide
  | succ k ih =>
    intro hk
    have h1 := ih (by omega)
    have h2 := hT.2.1 (fct T n x (lwA x k) k p)
    unfold wsm
    generalize wsm T n x p k = a at h1 ⊢
    generalize T.2.2 118 (fct T n x (lwA x k) k p) = b at h2 ⊢
    rw [iI_of a, iI_of b, iI_add, iI_toInt (by omega)]
    omega
theorem wth_in (T : TW) (hT : TOK T) (n x p : Nat) : -400 ≤ (wth T n x p).toInt ∧ (wth T n x p).toInt ≤ 400 := by
  have h := wsm_in T hT n x p (mny x) (mny_le x)
  have hm := mny_le x
  unfold wth
  omega
/-- bits below 8 alone -/
theorem may_small (T : TW) (hT : T.1 ≤ 8) (n x m : Nat) : ∃ k : Nat, k < 256 ∧ may T n x m = iI k := by
  have h : may T n x m &&& 255 = may T n x m := by
    apply b_ext
    intro i hi
    rw [b_and, b_255, may_bt T hT hi]
    by_cases q : i < 8
    · simp [q]
    · have : ¬ i < T.1 := by omega
      simp [this]
  obtain ⟨j, hj, e⟩ := pk_andE (may T n x m) (m := 255) 8 (by decide)
  exact ⟨j, by omega, by rw [← h, e, iI_nat]⟩
