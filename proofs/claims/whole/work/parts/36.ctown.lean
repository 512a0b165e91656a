theorem RW.of {s t : SS} (h : RW s) (e : ∀ k, 4 ≤ k → k ≤ 8 → t k = s k) : RW t := by
  intro n x hn hx
  have := h n x hn hx
  rw [e 4 (by omega) (by omega), e 8 (by omega) (by omega)]
  exact this
theorem RW.u {s : SS} (h : RW s) {k : Nat} (R : Nat → Int32) (hk : 8 < k) : RW (upr s k R) := h.of (fun q _ h2 => upr_ne (by omega))
theorem nws_eq {x : Nat} (h : 0 < mny x) : nws x = lwA x (mny x - 1) := by unfold nws; rw [if_neg (by omega)]
theorem nws_0 {x : Nat} (h : mny x = 0) : nws x = 8 := by unfold nws; rw [if_pos h]
/-- describe fills the facts -/
theorem ct_describe {s : SS} (T : TW) {n x l i p : Nat} (h : RW s) (hn : 1 ≤ n ∧ n ≤ 4) (hx : x < szR n) (hl : l < 8) (ht : s 28 l = T.2.1 0 l) (hd : s 29 l = T.2.1 1 l) :
    ∃ R : Nat → Int32, f_X10_describe (wl_ n x) (iI l) (iI i) (iI p) s = some (0, upr s 32 R) ∧ ∀ j, j < 11 → R j = fct T n x l i p j := by
  have hm := mny_le x
  have e1 := rw_size h hn hx
  have e2 := rw_stand h hn hx
  have e3 : ∀ R, f_X6_timesOn (wl_ n x) (iI l) (upr s 32 R) = some (iI (tms x l)) := fun R => rw_times (h.u R (by omega)) hn hx hl
  have e4 : ∀ R, f_X6_lengthOf (wl_ n x) (upr s 32 R) = some (iI n) := fun R => rw_len (h.u R (by omega)) hn hx
  have e5 : ∀ R, f_X6_oldestOn (wl_ n x) (upr s 32 R) = some (iI (old x)) := fun R => rw_old (h.u R (by omega)) hn hx
  have e6 : 0 < mny x → ∀ R, f_X6_lawOn (wl_ n x) (iI ((mny x : Int) - 1)) (upr s 32 R) = some (iI (nws x)) := fun q R => by
    rw [nws_eq q, show (mny x : Int) - 1 = ((mny x - 1 : Nat) : Int) by omega]
    exact rw_lawOn (h.u R (by omega)) hn hx (by omega)
  have key : ∀ v5 v6 v9 : Int32, (if bt (stn x) l = true then (if (T.2.1 1 l &&& (stn x ^^^ (-1))) = 0 then v5 = 1 else v5 = 0) else v5 = 0) → (if mny x = n then v6 = 1 else v6 = 0) → v9 = iI (nws x) → ∀ j, j < 11 → upd (upd (upd (upd (upd (upd (upd (upd (upd (upd (upd (s 32) 0 (iI l)) 1 (iI p)) 2 (T.2.1 0 l)) 3 (iI (mny x))) 4 (iI (tms x l))) 5 v5) 6 v6) 7 (iI i)) 8 (iI (old x))) 9 v9) 10 (iI n) j = fct T n x l i p j := by
    intro v5 v6 v9 a5 a6 a9 j hj
    have b5 : v5 = if hcond T x l = true then 1 else 0 := by
      unfold hcond
      by_cases q1 : bt (stn x) l = true
      · rw [if_pos q1] at a5
        by_cases q2 : (T.2.1 1 l &&& (stn x ^^^ (-1))) = 0
        · rw [if_pos q2] at a5; rw [a5, q1, q2]; rfl
        · rw [if_neg q2] at a5; rw [a5, decide_eq_false q2, Bool.and_false]; rfl
      · rw [if_neg q1] at a5; rw [a5]; simp [q1]
    have b6 : v6 = if mny x = n then 1 else 0 := by
      by_cases q : mny x = n
      · rw [if_pos q] at a6 ⊢; exact a6
      · rw [if_neg q] at a6 ⊢; exact a6
    subst a9
    rw [b5, b6]
    obtain rfl | rfl | rfl | rfl | rfl | rfl | rfl | rfl | rfl | rfl | rfl : j = 0 ∨ j = 1 ∨ j = 2 ∨ j = 3 ∨ j = 4 ∨ j = 5 ∨ j = 6 ∨ j = 7 ∨ j = 8 ∨ j = 9 ∨ j = 10 := by omega
    all_goals rfl
  have c1 : ¬ (iI (l : Int) < 0) := by simp (disch := omega) only [Int.toNat_natCast, iI_lt, iI_le, iI_eq, iI_add, iI_sub, iI_mul, iI_neg, iI_clamp, inb_ii, z_0]; omega
  have c2 : iI (l : Int) < 8 := by simp (disch := omega) only [Int.toNat_natCast, iI_lt, iI_le, iI_eq, iI_add, iI_sub, iI_mul, iI_neg, iI_clamp, inb_ii, z_8]; omega
  have c3 : inb (iI (l : Int)) 8 := by simp (disch := omega) only [Int.toNat_natCast, iI_lt, iI_le, iI_eq, iI_add, iI_sub, iI_mul, iI_neg, iI_clamp, inb_ii]; omega
  have cl : Int32.toNatClampNeg (iI (l : Int)) = l := by simp (disch := omega) only [Int.toNat_natCast, iI_lt, iI_le, iI_eq, iI_add, iI_sub, iI_mul, iI_neg, iI_clamp, inb_ii]
  unfold f_X10_describe
  by_cases q1 : bt (stn x) l = true
  all_goals by_cases q2 : (T.2.1 1 l &&& (stn x ^^^ (-1))) = 0
  all_goals by_cases q3 : mny x = n
  all_goals by_cases q4 : mny x = 0
  all_goals first | (exfalso; omega) | skip
  all_goals
    have d1 : (((stn x >>> (iI (l : Int) &&& 31)) &&& 1 : Int32) = 1) = (bt (stn x) l = true) := propext (has_bt (by omega))
    have d2 : ∀ R, ((upr s 32 R 29 (Int32.toNatClampNeg (iI (l : Int))) &&& (stn x ^^^ (-1))) = 0) = ((T.2.1 1 l &&& (stn x ^^^ (-1))) = 0) := fun R => by rw [upr_ne (by omega), cl, hd]
    have d3 : (iI (mny x : Int) = iI (n : Int)) = (mny x = n) := propext ((iI_eq (by omega) (by omega)).trans (by omega))
    have d4 : (iI (mny x : Int) = 0) = (mny x = 0) := propext ((iI_eq (b := 0) (by omega) (by omega)).trans (by omega))
    refine ⟨upd (upd (upd (upd (upd (upd (upd (upd (upd (upd (upd (s 32) 0 (iI l)) 1 (iI p)) 2 (T.2.1 0 l)) 3 (iI (mny x))) 4 (iI (tms x l))) 5 (if bt (stn x) l = true then (if (T.2.1 1 l &&& (stn x ^^^ (-1))) = 0 then 1 else 0) else 0)) 6 (if mny x = n then 1 else 0)) 7 (iI i)) 8 (iI (old x))) 9 (iI (nws x))) 10 (iI n), ?_, key _ _ _ (by split <;> (try split) <;> rfl) (by split <;> rfl) rfl⟩
    · have e7 : 0 < mny x → ∀ R, f_X6_lawOn (wl_ n x) (iI (mny x : Int) - 1) (upr s 32 R) = some (iI (nws x)) := fun q R => by
        rw [← e6 q R, show (iI (mny x : Int) - 1) = iI ((mny x : Int) - 1) from iI_sub _ 1]
      repeat (first
        | (with_reducible refine e_gd ?sd ?_; case sd => first | decide | exact c3)
        | with_reducible refine e_up ?_
        | with_reducible refine e_up0 ?_
        | with_reducible refine e_jn ?_
        | with_reducible refine e_bdp e1 ?_
        | with_reducible refine e_bdp e2 ?_
        | with_reducible refine e_bdp (e3 _) ?_
        | with_reducible refine e_bdp (e4 _) ?_
        | with_reducible refine e_bdp (e5 _) ?_
        | (with_reducible refine e_bdp (e7 ?sd _) ?_; case sd => omega)
        | with_reducible refine e_if_f c1 ?_
        | with_reducible refine e_if_t c2 ?_
        | with_reducible refine e_if_t (d1.mpr q1) ?_
        | with_reducible refine e_if_f (mt d1.mp q1) ?_
        | with_reducible refine e_if_t ((d2 _).mpr q2) ?_
        | with_reducible refine e_if_f (mt (d2 _).mp q2) ?_
        | with_reducible refine e_if_t (d3.mpr q3) ?_
        | with_reducible refine e_if_f (mt d3.mp q3) ?_
        | with_reducible refine e_if_t (d4.mpr q4) ?_
        | with_reducible refine e_if_f (mt d4.mp q4) ?_)
      try rw [nws_0 q4]
      simp only [q1, q2, q3, eq_self, if_true, if_false, Bool.false_eq_true, ↓reduceIte]
      rw [upr_ne (k := 32) (q := 28) (by omega), cl, ht]
      rfl
