/-- may one law be made -/
theorem rr_mayMake {T : TW} (hT : TOK T) {n x l m : Nat} {s : SS} (hs : RT_ T n s) (hn : 1 ≤ n ∧ n ≤ 4) (hx : x < 4681) (hL : Laid T x s) (hv : VR T x) (hl : l < T.1) (hm : m < 4) : ∃ t : SS, f_X12_mayMake (iI l) (iI m) s = some (if opn T x m l 8 = true ∧ T.2.2 109 (fct T n x l 0 m) = 1 then 1 else 0, t) ∧ RQV s t := by
  have h8 := hT.1
  obtain ⟨hb, h3, ht, -⟩ := id hs
  have hop : ∀ k, T.1 ≤ k → k ≤ 8 → opn T x m l k = opn T x m l T.1 := by
    intro k
    induction k with
    | zero => intro h _; rw [show T.1 = 0 by omega]
    | succ k ih =>
      intro h h2
      by_cases q : T.1 ≤ k
      · show (opn T x m l k && !(hcond T x k && (bt (T.2.1 2 k) l || bt (T.2.1 3 k) m))) = _
        have : hcond T x k = false := by
          cases e : hcond T x k with
          | false => rfl
          | true => exact absurd (vr_hcond hv hx (by omega) e) (by omega)
        rw [this, ih q (by omega)]
        simp
      · rw [show k + 1 = T.1 by omega]
  have w5 := set5_v s (iI l) (iI m) (iI (tms x l)) (if hcond T x l = true then 1 else 0) (iI (0 : Nat))
  obtain ⟨-, t, g1, g2⟩ := ht (fct T n x l 0 m) _ (fun k _ _ => w5.1 k (by omega) (by omega) (by omega)) (w5.2 17 (by unfold rsl; omega)) (set5_fa hb h3 hn hx hL (by omega))
  -- the loop over what holds
  have lp : ∀ (j N h : Nat) (k : Res), h + j = T.1 → j < N → lp_X12_mayMake_2 (iI l) (iI m) s k N (iI h) = if opn T x m l h = true then (if opn T x m l T.1 = true then k else some (0, s)) else lp_X12_mayMake_2 (iI l) (iI m) s k N (iI h) := by
    intro j
    induction j with
    | zero =>
      intro N h k hh hN
      cases N with
      | zero => omega
      | succ N =>
        obtain rfl : h = T.1 := by omega
        by_cases q : opn T x m l T.1 = true
        · rw [if_pos q, if_pos q, lp_X12_mayMake_2]
          exact e_if_t (by rw [hb.1]; simp (disch := omega) only [Int.toNat_natCast, iI_lt, iI_le, iI_eq, iI_add, iI_sub, iI_mul, iI_neg, iI_clamp, inb_ii]; omega) rfl
        · rw [if_neg q]
    | succ j ih =>
      intro N h k hh hN
      cases N with
      | zero => omega
      | succ N =>
        by_cases q : opn T x m l h = true
        · rw [if_pos q]
          have cc : ¬ s 56 2 ≤ iI (h : Int) := by rw [hb.1]; simp (disch := omega) only [Int.toNat_natCast, iI_lt, iI_le, iI_eq, iI_add, iI_sub, iI_mul, iI_neg, iI_clamp, inb_ii]; omega
          have ci : inb (iI (h : Int)) 8 := by simp (disch := omega) only [Int.toNat_natCast, iI_lt, iI_le, iI_eq, iI_add, iI_sub, iI_mul, iI_neg, iI_clamp, inb_ii]; omega
          have cl : Int32.toNatClampNeg (iI (h : Int)) = h := by simp (disch := omega) only [Int.toNat_natCast, iI_lt, iI_le, iI_eq, iI_add, iI_sub, iI_mul, iI_neg, iI_clamp, inb_ii]
          have nx : iI (h : Int) + 1 = iI ((h + 1 : Nat) : Int) := by rw [z_1, iI_add]; rfl
          have un : opn T x m l (h + 1) = (opn T x m l h && !(hcond T x h && (bt (T.2.1 2 h) l || bt (T.2.1 3 h) m))) := rfl
          have z1 : f_X12_has (s 56 50) (iI h) s = some (if hcond T x h = true then 1 else 0) := by rw [has_f _ (by omega), hL.2.2.2, laid_bt h8 hv hx (by omega)]
          have z2 : f_X12_has (s 60 (Int32.toNatClampNeg (iI (h : Int)))) (iI l) s = some (if bt (T.2.1 2 h) l = true then 1 else 0) := by rw [has_f _ (by omega), cl, (hb.2 h (by omega)).2.2.1]
          have z3 : f_X12_has (s 61 (Int32.toNatClampNeg (iI (h : Int)))) (iI m) s = some (if bt (T.2.1 3 h) m = true then 1 else 0) := by rw [has_f _ (by omega), cl, (hb.2 h (by omega)).2.2.2]
          have n1 : ¬ (1 : Int32) = 0 := by decide
          have n0 : (0 : Int32) = 0 := rfl
          have mono : ∀ k, h + 1 ≤ k → opn T x m l (h + 1) = false → opn T x m l k = false := by
            intro k
            induction k with
            | zero => intro w; omega
            | succ k ihk =>
              intro w1 w2
              by_cases e : h = k
              · rw [← e]; exact w2
              · show (opn T x m l k && _) = false
                rw [ihk (by omega) w2]
                rfl
          rw [lp_X12_mayMake_2]
          by_cases q1 : hcond T x h = true
          · rw [if_pos q1] at z1
            by_cases q2 : bt (T.2.1 2 h) l = true
            · rw [if_pos q2] at z2
              have nf : ¬ opn T x m l T.1 = true := by rw [mono T.1 (by omega) (by rw [un, q1, q2]; simp)]; decide
              rw [if_neg nf]
              repeat (first
                | (with_reducible refine e_gd ?sd ?_; case sd => first | decide | exact ci)
                | with_reducible refine e_up ?_
                | with_reducible refine e_up0 ?_
                | with_reducible refine e_upl ?_
                | with_reducible refine e_upl0 ?_
                | with_reducible refine e_jn ?_
                | with_reducible refine e_lt ?_
                | with_reducible refine e_if_f (cc) ?_
                | with_reducible refine e_bdp (z1) ?_
                | with_reducible refine e_if_f (n1) ?_
                | with_reducible refine e_bdp (z2) ?_
                | with_reducible refine e_if_f (n1) ?_)
              rfl
            · rw [if_neg q2] at z2
              by_cases q3 : bt (T.2.1 3 h) m = true
              · rw [if_pos q3] at z3
                have nf : ¬ opn T x m l T.1 = true := by rw [mono T.1 (by omega) (by rw [un, q1, q3]; simp)]; decide
                rw [if_neg nf]
                repeat (first
                  | (with_reducible refine e_gd ?sd ?_; case sd => first | decide | exact ci)
                  | with_reducible refine e_up ?_
                  | with_reducible refine e_up0 ?_
                  | with_reducible refine e_upl ?_
                  | with_reducible refine e_upl0 ?_
                  | with_reducible refine e_jn ?_
                  | with_reducible refine e_lt ?_
                  | with_reducible refine e_if_f (cc) ?_
                  | with_reducible refine e_bdp (z1) ?_
                  | with_reducible refine e_if_f (n1) ?_
                  | with_reducible refine e_bdp (z2) ?_
                  | with_reducible refine e_if_t (n0) ?_
                  | with_reducible refine e_bdp (z3) ?_
                  | with_reducible refine e_if_f (n1) ?_)
                rfl
              · rw [if_neg q3] at z3
                have h2 : opn T x m l (h + 1) = true := by simp at q2 q3; rw [un, q, q2, q3]; simp
                have ih2 := ih N (h + 1) k (by omega) (by omega)
                rw [if_pos h2] at ih2
                repeat (first
                  | (with_reducible refine e_gd ?sd ?_; case sd => first | decide | exact ci)
                  | with_reducible refine e_up ?_
                  | with_reducible refine e_up0 ?_
                  | with_reducible refine e_upl ?_
                  | with_reducible refine e_upl0 ?_
                  | with_reducible refine e_jn ?_
                  | with_reducible refine e_lt ?_
                  | with_reducible refine e_if_f (cc) ?_
                  | with_reducible refine e_bdp (z1) ?_
                  | with_reducible refine e_if_f (n1) ?_
                  | with_reducible refine e_bdp (z2) ?_
                  | with_reducible refine e_if_t (n0) ?_
                  | with_reducible refine e_bdp (z3) ?_
                  | with_reducible refine e_if_t (n0) ?_)
                rw [nx]
                exact ih2
          · rw [if_neg q1] at z1
            have h2 : opn T x m l (h + 1) = true := by simp at q1; rw [un, q, q1]; simp
            have ih2 := ih N (h + 1) k (by omega) (by omega)
            rw [if_pos h2] at ih2
            repeat (first
              | (with_reducible refine e_gd ?sd ?_; case sd => first | decide | exact ci)
              | with_reducible refine e_up ?_
              | with_reducible refine e_up0 ?_
              | with_reducible refine e_upl ?_
              | with_reducible refine e_upl0 ?_
              | with_reducible refine e_jn ?_
              | with_reducible refine e_lt ?_
              | with_reducible refine e_if_f (cc) ?_
              | with_reducible refine e_bdp (z1) ?_
              | with_reducible refine e_if_t (n0) ?_)
            rw [nx]
            exact ih2
        · rw [if_neg q]
  have l0 := fun k => lp T.1 FU 0 k (by omega) (fu_lt (by omega))
  by_cases q : opn T x m l 8 = true
  · have q9 : opn T x m l T.1 = true := by rw [← hop 8 h8 (Nat.le_refl 8)]; exact q
    refine ⟨t, ?_, w5.tr g2.v⟩
    unfold f_X12_mayMake
    refine e_jn ?_
    refine Eq.trans (l0 _) ?_
    rw [if_pos (show opn T x m l 0 = true from rfl), if_pos q9]
    refine e_lts ?_
    refine e_lts ?_
    have z1 : f_X12_oftenOf (iI l) (up (up s 56 40 (iI l)) 56 41 (iI m)) = some (iI (tms x l)) := rr_often hx (by rw [up_slot (by omega), up_slot (by omega)]; exact hL.1) (fun j hj => by rw [up_cell (by omega), up_cell (by omega)]; exact hL.2.1 j hj) (by omega)
    refine e_bdp z1 ?_
    refine e_lts ?_
    have z2 : f_X12_has (up (up (up s 56 40 (iI l)) 56 41 (iI m)) 56 42 (iI (tms x l)) 56 50) (iI l) (up (up (up s 56 40 (iI l)) 56 41 (iI m)) 56 42 (iI (tms x l))) = some (if hcond T x l = true then 1 else 0) := by
      rw [has_f _ (by omega), up_slot (by omega), up_slot (by omega), up_slot (by omega), hL.2.2.2, laid_bt h8 hv hx (by omega)]
    refine e_bdp z2 ?_
    have fin : ∀ u, u = set5 s (iI l) (iI m) (iI (tms x l)) (if hcond T x l = true then 1 else 0) (iI (0 : Nat)) → bd (f_X12_tells 109 0 1 u) (fun v11 s12 => if v11 ≤ 0 then some (0, s12) else some (1, s12)) = some (if opn T x m l 8 = true ∧ T.2.2 109 (fct T n x l 0 m) = 1 then 1 else 0, t) := by
      intro u hu
      rw [hu]
      refine e_bd g1 ?_
      rcases hT.2.2 (fct T n x l 0 m) with z | z
      · rw [if_neg (show ¬ (opn T x m l 8 = true ∧ T.2.2 109 (fct T n x l 0 m) = 1) from fun w => by rw [z] at w; exact absurd w.2 (by decide))]
        exact e_if_t (by rw [z]; decide) rfl
      · rw [if_pos (show opn T x m l 8 = true ∧ T.2.2 109 (fct T n x l 0 m) = 1 from ⟨q, z⟩)]
        exact e_if_f (by rw [z]; decide) rfl
    refine e_jn ?_
    by_cases qh : hcond T x l = true
    · rw [if_pos qh] at fin ⊢
      refine e_if_f (by decide) ?_
      refine e_lts ?_
      refine e_lts ?_
      exact fin _ rfl
    · rw [if_neg qh] at fin ⊢
      refine e_if_t rfl ?_
      refine e_lts ?_
      refine e_lts ?_
      exact fin _ rfl
  · have q9 : ¬ opn T x m l T.1 = true := by rw [← hop 8 h8 (Nat.le_refl 8)]; exact q
    refine ⟨s, ?_, RQV.rf s⟩
    rw [if_neg (fun w => q w.1)]
    unfold f_X12_mayMake
    refine e_jn ?_
    refine Eq.trans (l0 _) ?_
    rw [if_pos (show opn T x m l 0 = true from rfl), if_neg q9]
theorem rt_may {T : TW} (hT : TOK T) {n x p : Nat} {s : SS} (hs : RT_ T n s) (hn : 1 ≤ n ∧ n ≤ 4) (hx : x < szR n) (hv : VR T x) (hp : p < 4) : ∃ t : SS, f_X12_mayOf (iI x) (iI p) s = some (may T n x p, t) ∧ RQ s t ∧ RT_ T n t := by
  have h8 := hT.1
  have hx2 := (sz_lt hn hx).2
  have g := (hs.2.2.2 x p hx hv hp).2
  have ei : (4 : Int32) * iI (x : Int) + iI (p : Int) = iI ((4 * x + p : Nat) : Int) := by rw [z_4, iI_mul, iI_add]; congr 1
  have ci : inb (iI ((4 * x + p : Nat) : Int)) 18724 := by simp (disch := omega) only [Int.toNat_natCast, iI_lt, iI_le, iI_eq, iI_add, iI_sub, iI_mul, iI_neg, iI_clamp, inb_ii]; omega
  have cl : Int32.toNatClampNeg (iI ((4 * x + p : Nat) : Int)) = 4 * x + p := by simp (disch := omega) only [Int.toNat_natCast, iI_lt, iI_le, iI_eq, iI_add, iI_sub, iI_mul, iI_neg, iI_clamp, inb_ii]
  have lp : ∀ (m N i : Nat) (u : SS) (k : Int32 → SS → Res), i + m = T.1 → m < N → RT_ T n u → Laid T x u → ∃ t : SS, lp_X12_mayOf_33 (iI p) (iI ((4 * x + p : Nat) : Int)) k N (mF T n x p i) (iI i) u = k (may T n x p) t ∧ RQV u t := by
    intro m
    induction m with
    | zero =>
      intro N i u k hi hN hu hL
      cases N with
      | zero => omega
      | succ N =>
        obtain rfl : i = T.1 := by omega
        refine ⟨u, ?_, RQV.rf u⟩
        rw [lp_X12_mayOf_33]
        exact e_if_t (by rw [hu.1.1]; simp (disch := omega) only [Int.toNat_natCast, iI_lt, iI_le, iI_eq, iI_add, iI_sub, iI_mul, iI_neg, iI_clamp, inb_ii]; omega) rfl
    | succ m ih =>
      intro N i u k hi hN hu hL
      cases N with
      | zero => omega
      | succ N =>
        obtain ⟨u1, e1, e2⟩ := rr_mayMake (l := i) (m := p) hT hu hn hx2 hL hv (by omega) hp
        obtain ⟨t, e3, e4⟩ := ih N (i + 1) u1 k (by omega) (by omega) (e2.t2 hu) (e2.laid hL)
        refine ⟨t, ?_, e2.tr e4⟩
        have cc : ¬ u 56 2 ≤ iI (i : Int) := by rw [hu.1.1]; simp (disch := omega) only [Int.toNat_natCast, iI_lt, iI_le, iI_eq, iI_add, iI_sub, iI_mul, iI_neg, iI_clamp, inb_ii]; omega
        have nx : iI (i : Int) + 1 = iI ((i + 1 : Nat) : Int) := by rw [z_1, iI_add]; rfl
        have un : mF T n x p (i + 1) = if opn T x p i 8 = true ∧ T.2.2 109 (fct T n x i 0 p) = 1 then mF T n x p i ||| sh1 i else mF T n x p i := rfl
        rw [lp_X12_mayOf_33]
        refine e_if_f cc ?_
        refine e_bd e1 ?_
        refine e_jn ?_
        by_cases q : opn T x p i 8 = true ∧ T.2.2 109 (fct T n x i 0 p) = 1
        · rw [if_pos q]
          rw [if_pos q] at un
          refine e_if_f (by decide) ?_
          refine e_lt ?_
          have un : mF T n x p (i + 1) = mF T n x p i ||| 1 <<< (iI (i : Int) &&& 31) := un
          rw [nx, ← un]
          exact e3
        · rw [if_neg q]
          rw [if_neg q] at un
          refine e_if_t rfl ?_
          refine e_lt ?_
          rw [nx, or_0, ← un]
          exact e3
  unfold f_X12_mayOf
  rw [ei]
  by_cases q : s 83 (4 * x + p) = 0
  · obtain ⟨s4, f1, f2, f3⟩ := rr_lay hT.1 hs.1 hx2
    obtain ⟨t, e1, e2⟩ := lp T.1 FU 0 s4 (fun v5 s6 => gd (inb (iI ((4 * x + p : Nat) : Int)) 18724) (lts (up s6 83 (Int32.toNatClampNeg (iI ((4 * x + p : Nat) : Int))) (vp_nar .boolean 1)) (fun s8 => gd (inb (iI ((4 * x + p : Nat) : Int)) 18724) (lts (up s8 84 (Int32.toNatClampNeg (iI ((4 * x + p : Nat) : Int))) v5) (fun s9 => some (v5, s9)))))) (by omega) (fu_lt (by omega)) (f2.t2 hs) f3
    have q2 : s 83 (Int32.toNatClampNeg (iI ((4 * x + p : Nat) : Int))) = 0 := by rw [cl]; exact q
    have ht := e2.t2 (f2.t2 hs)
    let t2 := up (up t 83 (4 * x + p) 1) 84 (4 * x + p) (may T n x p)
    have r2 : RQ t t2 := (RQ.uc (k := 83) (by omega)).tr (RQ.uc (k := 84) (by omega))
    refine ⟨t2, ?_, (f2.q.tr e2.q).tr r2, r2.t ht ?_⟩
    · refine e_lt ?_
      refine e_gd ci ?_
      refine e_if_t q2 ?_
      refine e_bd f1 ?_
      refine e_jn ?_
      refine Eq.trans e1 ?_
      refine e_gd ci ?_
      refine e_lts ?_
      refine e_gd ci ?_
      refine e_lts ?_
      rw [cl, vnb1]
    · intro y p2 hy hvy hp2
      have g2 := ht.2.2.2 y p2 hy hvy hp2
      have a81 : t2 81 = t 81 := by show up (up t 83 _ _) 84 _ _ 81 = _; rw [up_cell (by omega), up_cell (by omega)]
      have a82 : t2 82 = t 82 := by show up (up t 83 _ _) 84 _ _ 82 = _; rw [up_cell (by omega), up_cell (by omega)]
      rw [a81, a82]
      refine ⟨g2.1, ?_⟩
      by_cases e : 4 * y + p2 = 4 * x + p
      · have : y = x ∧ p2 = p := by omega
        obtain ⟨rfl, rfl⟩ := this
        right
        show up (up t 83 _ _) 84 _ _ 84 _ = _
        rw [up_at]
      · have a83 : t2 83 (4 * y + p2) = t 83 (4 * y + p2) := by show up (up t 83 _ _) 84 _ _ 83 _ = _; rw [up_cell (by omega), up_slot e]
        have a84 : t2 84 (4 * y + p2) = t 84 (4 * y + p2) := by show up (up t 83 _ _) 84 _ _ 84 _ = _; rw [up_slot e, up_cell (by omega)]
        rw [a83, a84]
        exact g2.2
  · have q2 : ¬ s 83 (Int32.toNatClampNeg (iI ((4 * x + p : Nat) : Int))) = 0 := by rw [cl]; exact q
    refine ⟨s, ?_, RQ.rf s, hs⟩
    refine e_lt ?_
    refine e_gd ci ?_
    refine e_if_f q2 ?_
    refine e_gd ci ?_
    rw [cl]
    rcases g with z | z
    · exact absurd z q
    · rw [z]
