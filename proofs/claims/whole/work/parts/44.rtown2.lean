/-- the five slots filled -/
def set5 (s : SS) (l p q h i : Int32) : SS := up (up (up (up (up s 56 40 l) 56 41 p) 56 42 q) 56 43 h) 56 44 i
theorem set5_v (s : SS) (l p q h i : Int32) : RQV s (set5 s l p q h i) := ((((RQV.u (j := 40) (by unfold rsl; omega)).tr (RQV.u (j := 41) (by unfold rsl; omega))).tr (RQV.u (j := 42) (by unfold rsl; omega))).tr (RQV.u (j := 43) (by unfold rsl; omega))).tr (RQV.u (j := 44) (by unfold rsl; omega))
theorem set5_fa {T : TW} {n x l i p : Nat} {s : SS} (hb : RTB T s) (h3 : s 56 3 = iI n) (hn : 1 ≤ n ∧ n ≤ 4) (hx : x < 4681) (hL : Laid T x s) (hl : l < 8) : FA (fct T n x l i p) (set5 s (iI l) (iI p) (iI (tms x l)) (if hcond T x l = true then 1 else 0) (iI i)) := by
  have v := set5_v s (iI l) (iI p) (iI (tms x l)) (if hcond T x l = true then 1 else 0) (iI i)
  refine fa_of (v.b hb) (by rw [v.2 3 (by unfold rsl; omega)]; exact h3) hn hx (v.laid hL) hl ?_ ?_ ?_ ?_ ?_
  · unfold set5; rw [up_slot (by omega), up_slot (by omega), up_slot (by omega), up_slot (by omega), up_at]
  · unfold set5; rw [up_slot (by omega), up_slot (by omega), up_slot (by omega), up_at]
  · unfold set5; rw [up_slot (by omega), up_slot (by omega), up_at]
  · unfold set5; rw [up_slot (by omega), up_at]
  · unfold set5; rw [up_at]
theorem rr_wat {T : TW} (hT : TOK T) {n x i p : Nat} {s : SS} (hb : RTB T s) (h3 : s 56 3 = iI n) (ht : RVT T s) (hn : 1 ≤ n ∧ n ≤ 4) (hx : x < 4681) (hL : Laid T x s) (hv : VR T x) (hi : i < mny x) : ∃ t : SS, f_X12_worthAt (iI i) (iI p) s = some (T.2.2 118 (fct T n x (lwA x i) i p), t) ∧ RQV s t := by
  have h4 := mny_le x
  have hl := lwA_lt x i
  have w5 := set5_v s (iI (lwA x i)) (iI p) (iI (tms x (lwA x i))) (if hcond T x (lwA x i) = true then 1 else 0) (iI i)
  obtain ⟨⟨t, g1, g2⟩, -⟩ := ht (fct T n x (lwA x i) i p) _ (fun k _ _ => w5.1 k (by omega) (by omega) (by omega)) (w5.2 17 (by unfold rsl; omega)) (set5_fa hb h3 hn hx hL hl)
  refine ⟨t, ?_, w5.tr g2.v⟩
  have cl : Int32.toNatClampNeg (iI (i : Int)) = i := by simp (disch := omega) only [Int.toNat_natCast, iI_lt, iI_le, iI_eq, iI_add, iI_sub, iI_mul, iI_neg, iI_clamp, inb_ii]
  unfold f_X12_worthAt
  refine e_gd (by simp (disch := omega) only [Int.toNat_natCast, iI_lt, iI_le, iI_eq, iI_add, iI_sub, iI_mul, iI_neg, iI_clamp, inb_ii]; omega) ?_
  refine e_lts ?_
  refine e_lts ?_
  rw [cl, hL.2.1 i hi]
  have e40 : up (up s 56 40 (iI (lwA x i))) 56 41 (iI p) 56 40 = iI (lwA x i) := by rw [up_slot (by omega), up_at]
  have z1 : f_X12_oftenOf (up (up s 56 40 (iI (lwA x i))) 56 41 (iI p) 56 40) (up (up s 56 40 (iI (lwA x i))) 56 41 (iI p)) = some (iI (tms x (lwA x i))) := by
    rw [e40]
    exact rr_often hx (by rw [up_slot (by omega), up_slot (by omega)]; exact hL.1) (fun j hj => by rw [up_cell (by omega), up_cell (by omega)]; exact hL.2.1 j hj) hl
  refine e_bdp z1 ?_
  refine e_lts ?_
  have z2 : f_X12_has (up (up (up s 56 40 (iI (lwA x i))) 56 41 (iI p)) 56 42 (iI (tms x (lwA x i))) 56 50) (up (up (up s 56 40 (iI (lwA x i))) 56 41 (iI p)) 56 42 (iI (tms x (lwA x i))) 56 40) (up (up (up s 56 40 (iI (lwA x i))) 56 41 (iI p)) 56 42 (iI (tms x (lwA x i)))) = some (if hcond T x (lwA x i) = true then 1 else 0) := by
    rw [up_slot (j := 42) (i := 40) (by omega), e40, has_f _ (by omega), up_slot (by omega), up_slot (by omega), up_slot (by omega), hL.2.2.2, laid_bt hT.1 hv hx (by omega)]
  refine e_bdp z2 ?_
  refine e_jn ?_
  by_cases q : hcond T x (lwA x i) = true
  · rw [if_pos q] at g1 ⊢
    refine e_if_f (by decide) ?_
    refine e_lts ?_
    refine e_lts ?_
    exact e_bd g1 rfl
  · rw [if_neg q] at g1 ⊢
    refine e_if_t rfl ?_
    refine e_lts ?_
    refine e_lts ?_
    exact e_bd g1 rfl
/-- what a question may change of the reference -/
def RQ (s t : SS) : Prop := (∀ k, k ≠ 56 → (k < 78 ∨ 84 < k) → t k = s k) ∧ ∀ j, ¬ rsl j → j ≠ 48 → j ≠ 49 → j ≠ 50 → t 56 j = s 56 j
theorem RQ.rf (s : SS) : RQ s s := ⟨fun _ _ _ => rfl, fun _ _ _ _ _ => rfl⟩
theorem RQ.tr {s t u : SS} (h : RQ s t) (g : RQ t u) : RQ s u := ⟨fun k a b => (g.1 k a b).trans (h.1 k a b), fun j a b c d => (g.2 j a b c d).trans (h.2 j a b c d)⟩
theorem RQV.q {s t : SS} (h : RQV s t) : RQ s t := ⟨fun k a b => h.1 k a (by omega) (by omega), fun j a _ _ _ => h.2 j a⟩
theorem RL.q {s t : SS} (h : RL s t) : RQ s t := ⟨fun k a b => h.1 k a (by omega), fun j _ b c d => h.2 j b c d⟩
theorem RQ.uc {s : SS} {k j : Nat} {v : Int32} (h : 81 ≤ k ∧ k ≤ 84) : RQ s (up s k j v) := ⟨fun q _ b => up_cell (by omega), fun i _ _ _ _ => by rw [up_cell (by omega)]⟩
def RCH (T : TW) (n : Nat) (s : SS) : Prop := ∀ x p : Nat, x < szR n → VR T x → p < 4 → (s 81 (4 * x + p) = 0 ∨ s 82 (4 * x + p) = wth T n x p) ∧ (s 83 (4 * x + p) = 0 ∨ s 84 (4 * x + p) = may T n x p)
def RT_ (T : TW) (n : Nat) (s : SS) : Prop := RTB T s ∧ s 56 3 = iI n ∧ RVT T s ∧ RCH T n s
theorem RQ.t {T : TW} {n : Nat} {s t : SS} (h : RQ s t) (g : RT_ T n s) (c : RCH T n t) : RT_ T n t := by
  obtain ⟨g1, g2, g3, g4⟩ := g
  refine ⟨?_, by rw [h.2 3 (by unfold rsl; omega) (by omega) (by omega) (by omega)]; exact g2, g3.of (fun k _ _ => h.1 k (by omega) (by omega)) (h.2 17 (by unfold rsl; omega) (by omega) (by omega) (by omega)), c⟩
  unfold RTB
  rw [h.2 2 (by unfold rsl; omega) (by omega) (by omega) (by omega), h.1 58 (by omega) (by omega), h.1 59 (by omega) (by omega), h.1 60 (by omega) (by omega), h.1 61 (by omega) (by omega)]
  exact g1
theorem RCH.of {T : TW} {n : Nat} {s t : SS} (h : RCH T n s) (e1 : t 81 = s 81) (e2 : t 82 = s 82) (e3 : t 83 = s 83) (e4 : t 84 = s 84) : RCH T n t := by
  unfold RCH
  rw [e1, e2, e3, e4]
  exact h
theorem RQV.t2 {T : TW} {n : Nat} {s t : SS} (h : RQV s t) (g : RT_ T n s) : RT_ T n t := h.q.t g (g.2.2.2.of (h.1 81 (by omega) (by omega) (by omega)) (h.1 82 (by omega) (by omega) (by omega)) (h.1 83 (by omega) (by omega) (by omega)) (h.1 84 (by omega) (by omega) (by omega)))
theorem RL.t2 {T : TW} {n : Nat} {s t : SS} (h : RL s t) (g : RT_ T n s) : RT_ T n t := h.q.t g (g.2.2.2.of (h.1 81 (by omega) (by omega)) (h.1 82 (by omega) (by omega)) (h.1 83 (by omega) (by omega)) (h.1 84 (by omega) (by omega)))
theorem vnb1 : vp_nar .boolean 1 = 1 := rfl
theorem vnb0 : vp_nar .boolean 0 = 0 := rfl
/-- WORTH by the reference -/
theorem rt_worth {T : TW} (hT : TOK T) {n x p : Nat} {s : SS} (hs : RT_ T n s) (hn : 1 ≤ n ∧ n ≤ 4) (hx : x < szR n) (hv : VR T x) (hp : p < 4) : ∃ t : SS, f_X12_worthOf (iI x) (iI p) s = some (wth T n x p, t) ∧ RQ s t ∧ RT_ T n t := by
  have hx2 := (sz_lt hn hx).2
  have h4 := mny_le x
  have g := (hs.2.2.2 x p hx hv hp).1
  have ei : (4 : Int32) * iI (x : Int) + iI (p : Int) = iI ((4 * x + p : Nat) : Int) := by rw [z_4, iI_mul, iI_add]; congr 1
  have ci : inb (iI ((4 * x + p : Nat) : Int)) 18724 := by simp (disch := omega) only [Int.toNat_natCast, iI_lt, iI_le, iI_eq, iI_add, iI_sub, iI_mul, iI_neg, iI_clamp, inb_ii]; omega
  have cl : Int32.toNatClampNeg (iI ((4 * x + p : Nat) : Int)) = 4 * x + p := by simp (disch := omega) only [Int.toNat_natCast, iI_lt, iI_le, iI_eq, iI_add, iI_sub, iI_mul, iI_neg, iI_clamp, inb_ii]
  have lp : ∀ (m N i : Nat) (u : SS) (k : Int32 → SS → Res), i + m = mny x → m < N → RT_ T n u → Laid T x u → ∃ t : SS, lp_X12_worthOf_33 (iI p) (iI ((4 * x + p : Nat) : Int)) k N (wsm T n x p i) (iI i) u = k (wth T n x p) t ∧ RQV u t := by
    intro m
    induction m with
    | zero =>
      intro N i u k hi hN hu hL
      cases N with
      | zero => omega
      | succ N =>
        obtain rfl : i = mny x := by omega
        refine ⟨u, ?_, RQV.rf u⟩
        rw [lp_X12_worthOf_33]
        exact e_if_t (by rw [hL.1]; simp (disch := omega) only [Int.toNat_natCast, iI_lt, iI_le, iI_eq, iI_add, iI_sub, iI_mul, iI_neg, iI_clamp, inb_ii]; omega) rfl
    | succ m ih =>
      intro N i u k hi hN hu hL
      cases N with
      | zero => omega
      | succ N =>
        obtain ⟨u1, e1, e2⟩ := rr_wat (i := i) (p := p) hT hu.1 hu.2.1 hu.2.2.1 hn hx2 hL hv (by omega)
        obtain ⟨t, e3, e4⟩ := ih N (i + 1) u1 k (by omega) (by omega) (e2.t2 hu) (e2.laid hL)
        refine ⟨t, ?_, e2.tr e4⟩
        rw [lp_X12_worthOf_33]
        refine e_if_f (by rw [hL.1]; simp (disch := omega) only [Int.toNat_natCast, iI_lt, iI_le, iI_eq, iI_add, iI_sub, iI_mul, iI_neg, iI_clamp, inb_ii]; omega) ?_
        refine e_bd e1 ?_
        refine e_lt ?_
        rw [z_1, iI_add]
        exact e3
  unfold f_X12_worthOf
  rw [ei]
  by_cases q : s 81 (4 * x + p) = 0
  · obtain ⟨s4, f1, f2, f3⟩ := rr_lay hT.1 hs.1 hx2
    obtain ⟨t, e1, e2⟩ := lp (mny x) FU 0 s4 (fun v5 s6 => gd (inb (iI ((4 * x + p : Nat) : Int)) 18724) (lts (up s6 81 (Int32.toNatClampNeg (iI ((4 * x + p : Nat) : Int))) (vp_nar .boolean 1)) (fun s8 => gd (inb (iI ((4 * x + p : Nat) : Int)) 18724) (lts (up s8 82 (Int32.toNatClampNeg (iI ((4 * x + p : Nat) : Int))) v5) (fun s9 => some (v5, s9)))))) (by omega) (fu_lt (by omega)) (f2.t2 hs) f3
    have q2 : s 81 (Int32.toNatClampNeg (iI ((4 * x + p : Nat) : Int))) = 0 := by rw [cl]; exact q
    have ht := e2.t2 (f2.t2 hs)
    let t2 := up (up t 81 (4 * x + p) 1) 82 (4 * x + p) (wth T n x p)
    have r2 : RQ t t2 := (RQ.uc (k := 81) (by omega)).tr (RQ.uc (k := 82) (by omega))
    refine ⟨t2, ?_, (f2.q.tr e2.q).tr r2, r2.t ht ?_⟩
    · refine e_lt ?_
      refine e_gd ci ?_
      refine e_if_t q2 ?_
      refine e_bd f1 ?_
      refine e_jn ?_
      refine Eq.trans e1 ?_
      refine e_gd ci ?_
      refine e_lts ?_
      refine e_gd ci ?_
      refine e_lts ?_
      rw [cl, vnb1]
    · intro y p2 hy hvy hp2
      have g2 := ht.2.2.2 y p2 hy hvy hp2
      have a83 : t2 83 = t 83 := by show up (up t 81 _ _) 82 _ _ 83 = _; rw [up_cell (by omega), up_cell (by omega)]
      have a84 : t2 84 = t 84 := by show up (up t 81 _ _) 82 _ _ 84 = _; rw [up_cell (by omega), up_cell (by omega)]
      rw [a83, a84]
      refine ⟨?_, g2.2⟩
      by_cases e : 4 * y + p2 = 4 * x + p
      · have : y = x ∧ p2 = p := by omega
        obtain ⟨rfl, rfl⟩ := this
        right
        show up (up t 81 _ _) 82 _ _ 82 _ = _
        rw [up_at]
      · have a81 : t2 81 (4 * y + p2) = t 81 (4 * y + p2) := by show up (up t 81 _ _) 82 _ _ 81 _ = _; rw [up_cell (by omega), up_slot e]
        have a82 : t2 82 (4 * y + p2) = t 82 (4 * y + p2) := by show up (up t 81 _ _) 82 _ _ 82 _ = _; rw [up_slot e, up_cell (by omega)]
        rw [a81, a82]
        exact g2.1
  · have q2 : ¬ s 81 (Int32.toNatClampNeg (iI ((4 * x + p : Nat) : Int))) = 0 := by rw [cl]; exact q
    refine ⟨s, ?_, RQ.rf s, hs⟩
    refine e_lt ?_
    refine e_gd ci ?_
    refine e_if_f q2 ?_
    refine e_gd ci ?_
    rw [cl]
    rcases g with z | z
    · exact absurd z q
    · rw [z]
