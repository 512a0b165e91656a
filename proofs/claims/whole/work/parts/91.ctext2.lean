/-! what the law of laws tells; the class's half of text -/
variable {T : TW} {kd tl tn : Nat → Nat} {n c x p dy X k x2 p2 dy2 X2 k2 z cl : Nat} {en : Nat → Nat → Int32} {kf : Bool} {b : Nat → Nat} {d : Nat → Int32} {ed : Nat} {s t u : SS}
def clv (c v : Int32) : Int32 := if c = 118 then (if (-100 : Int32) ≤ v then (if v ≤ 100 then v else 100) else -100) else (if (0 : Int32) ≤ v then (if v ≤ 1 then v else 1) else 0)
def valC : List CL → Int32 → (Nat → Int32) → Int32
  | [], _, _ => 0
  | k :: cs, c, F => if iI k.1 = c ∧ ¬ (k.2.2 F).getD 0 = 0 then clv c ((k.2.1 F).getD 0) else valC cs c F
theorem clv_v (v : Int32) : -100 ≤ (clv 118 v).toInt ∧ (clv 118 v).toInt ≤ 100 := by
  rw [show clv 118 v = (if (-100 : Int32) ≤ v then (if v ≤ 100 then v else 100) else -100) from if_pos rfl]
  have h1 : (-100 : Int32).toInt = -100 := rfl
  have h2 : (100 : Int32).toInt = 100 := rfl
  by_cases q : (-100 : Int32) ≤ v
  · rw [if_pos q]
    by_cases q2 : v ≤ 100
    · rw [if_pos q2]
      rw [le32] at q q2
      omega
    · rw [if_neg q2]
      omega
  · rw [if_neg q]
    omega
theorem clv_m (v : Int32) : clv 109 v = 0 ∨ clv 109 v = 1 := by
  rw [show clv 109 v = (if (0 : Int32) ≤ v then (if v ≤ 1 then v else 1) else 0) from if_neg (by decide)]
  have h1 : (0 : Int32).toInt = 0 := rfl
  have h2 : (1 : Int32).toInt = 1 := rfl
  by_cases q : (0 : Int32) ≤ v
  · rw [if_pos q]
    by_cases q2 : v ≤ 1
    · rw [if_pos q2]
      rw [le32] at q q2
      rcases (show v.toInt = 0 ∨ v.toInt = 1 by omega) with w | w
      · exact Or.inl (e_lit w)
      · exact Or.inr (e_lit w)
    · rw [if_neg q2]
      exact Or.inr rfl
  · rw [if_neg q]
    exact Or.inl rfl
theorem valC_v (F : Nat → Int32) : ∀ cs : List CL, -100 ≤ (valC cs 118 F).toInt ∧ (valC cs 118 F).toInt ≤ 100 := by
  intro cs
  induction cs with
  | nil => show -100 ≤ (0 : Int32).toInt ∧ (0 : Int32).toInt ≤ 100; exact ⟨by decide, by decide⟩
  | cons k cs ih =>
    unfold valC
    by_cases q : iI k.1 = 118 ∧ ¬ (k.2.2 F).getD 0 = 0
    · rw [if_pos q]; exact clv_v _
    · rw [if_neg q]; exact ih
theorem valC_m (F : Nat → Int32) : ∀ cs : List CL, valC cs 109 F = 0 ∨ valC cs 109 F = 1 := by
  intro cs
  induction cs with
  | nil => exact Or.inl rfl
  | cons k cs ih =>
    unfold valC
    by_cases q : iI k.1 = 109 ∧ ¬ (k.2.2 F).getD 0 = 0
    · rw [if_pos q]; exact clv_m _
    · rw [if_neg q]; exact ih
def TDE (s : SS) (i : Nat) (c : CL) : Prop := ∃ a m z : Nat, s 12 i = iI c.1 ∧ (c.1 = 118 ∨ c.1 = 109) ∧ s 13 i = iI a ∧ s 14 i = iI m ∧ s 15 i = iI z ∧ z ≤ 200 ∧ CE 16 (s 10) (s 11) a m c.2.1 ∧ CE 16 (s 10) (s 11) m z c.2.2
def TD (cs : List CL) (s : SS) : Prop := cs.length ≤ 14 ∧ s 9 8 = iI cs.length ∧ ∀ (i : Nat) (c : CL), cs[i]? = some c → TDE s i c
theorem rk_ce {a m : Nat} {e : EV} {F : Nat → Int32} (h : CE 16 (s 10) (s 11) a m e) (hm : m ≤ 200) (hF : ∀ i, i < 11 → s 32 i = F i) : ∃ R, f_X1_reckon (iI a) (iI m) s = some ((e F).getD 0, upr s 16 R) := by
  let KK : Int32 → SS → Res := fun (v1 : Int32) (s2 : SS) => if (v1 : Int32) = (1 : Int32) then gd (inb 0 40) (some (s2 16 (Int32.toNatClampNeg 0), s2)) else some (0, s2)
  have H := h.2 F s m FU 0 KK (fun i _ _ => ⟨rfl, rfl⟩) hF (Nat.le_refl m) hm (by omega) (fu_lt (by omega))
  cases c : e F with
  | none =>
    obtain ⟨R, hR⟩ := H.1 c
    exact ⟨R, hR⟩
  | some v =>
    obtain ⟨R, N2, h1, h2, h3, h4⟩ := H.2 v c
    refine ⟨R, ?_⟩
    have hfu := fu_lt (n := 1000) (by omega)
    have hl := h.1
    obtain ⟨N2, rfl⟩ : ∃ M, N2 = M + 1 := ⟨N2 - 1, by omega⟩
    refine Eq.trans h2 ?_
    rw [lp_X1_reckon_6]
    refine e_if_f (by simp (disch := omega) only [Int.toNat_natCast, iI_lt, iI_le, iI_eq, iI_add, iI_sub, iI_mul, iI_neg, iI_clamp, inb_ii, z_0]; omega) ?_
    refine e_if_t (by simp (disch := omega) only [Int.toNat_natCast, iI_lt, iI_le, iI_eq, iI_add, iI_sub, iI_mul, iI_neg, iI_clamp, inb_ii]; omega) ?_
    show (if iI ((0 + 1 : Nat) : Int) = (1 : Int32) then gd (inb 0 40) (some ((upr s 16 R) 16 (Int32.toNatClampNeg 0), upr s 16 R)) else some (0, upr s 16 R)) = _
    refine e_if_t (by decide) ?_
    refine e_gd (by decide) ?_
    rw [upr_eq, show Int32.toNatClampNeg 0 = 0 from rfl, h3]
    rfl
theorem clvC_eq (v : Int32) : (let w := if (v : Int32) < (100 : Int32) then v else 100; if ((-100) : Int32) < (w : Int32) then w else (-100)) = clv 118 v := by
  rw [show clv 118 v = (if (-100 : Int32) ≤ v then (if v ≤ 100 then v else 100) else -100) from if_pos rfl]
  have h1 : (-100 : Int32).toInt = -100 := rfl
  have h2 : (100 : Int32).toInt = 100 := rfl
  show (if ((-100) : Int32) < ((if (v : Int32) < (100 : Int32) then v else 100) : Int32) then (if (v : Int32) < (100 : Int32) then v else 100) else (-100)) = _
  by_cases q : v < (100 : Int32)
  · rw [if_pos q]
    have q' := q
    rw [lt32] at q'
    by_cases q2 : (-100 : Int32) < v
    · have q2' := q2
      rw [lt32] at q2'
      rw [if_pos q2, if_pos (show (-100 : Int32) ≤ v by rw [le32]; omega), if_pos (show v ≤ 100 by rw [le32]; omega)]
    · rw [if_neg q2]
      rw [lt32] at q2
      by_cases q3 : (-100 : Int32) ≤ v
      · have q3' := q3
        rw [le32] at q3'
        rw [if_pos q3, if_pos (show v ≤ 100 by rw [le32]; omega)]
        exact (e_lit (a := v) (k := -100) (by omega)).symm
      · rw [if_neg q3]
  · rw [if_neg q, if_pos (by decide)]
    rw [lt32] at q
    rw [if_pos (show (-100 : Int32) ≤ v by rw [le32]; omega)]
    by_cases q3 : v ≤ 100
    · rw [if_pos q3]
      rw [le32] at q3
      exact (e_lit (a := v) (k := 100) (by omega)).symm
    · rw [if_neg q3]
theorem clvM_eq (v : Int32) : (let w := if (v : Int32) < (1 : Int32) then v else 1; if (0 : Int32) < (w : Int32) then w else 0) = clv 109 v := by
  rw [show clv 109 v = (if (0 : Int32) ≤ v then (if v ≤ 1 then v else 1) else 0) from if_neg (by decide)]
  have h1 : (0 : Int32).toInt = 0 := rfl
  have h2 : (1 : Int32).toInt = 1 := rfl
  show (if (0 : Int32) < ((if (v : Int32) < (1 : Int32) then v else 1) : Int32) then (if (v : Int32) < (1 : Int32) then v else 1) else 0) = _
  by_cases q : v < (1 : Int32)
  · rw [if_pos q]
    have q' := q
    rw [lt32] at q'
    rw [if_neg (show ¬ (0 : Int32) < v by rw [lt32]; omega)]
    by_cases q3 : (0 : Int32) ≤ v
    · have q3' := q3
      rw [le32] at q3'
      rw [if_pos q3, if_pos (show v ≤ 1 by rw [le32]; omega)]
      exact (e_lit (a := v) (k := 0) (by omega)).symm
    · rw [if_neg q3]
  · rw [if_neg q, if_pos (by decide)]
    rw [lt32] at q
    rw [if_pos (show (0 : Int32) ≤ v by rw [le32]; omega)]
    by_cases q3 : v ≤ 1
    · rw [if_pos q3]
      rw [le32] at q3
      exact (e_lit (a := v) (k := 1) (by omega)).symm
    · rw [if_neg q3]
theorem TD.of {cs : List CL} (h : TD cs s) (e : ∀ q, 9 ≤ q → q ≤ 15 → t q = s q) : TD cs t := by
  unfold TD TDE at h ⊢
  rw [e 9 (by omega) (by omega), e 10 (by omega) (by omega), e 11 (by omega) (by omega), e 12 (by omega) (by omega), e 13 (by omega) (by omega), e 14 (by omega) (by omega), e 15 (by omega) (by omega)]
  exact h
noncomputable def tlK (q : Int32) : Int32 → SS → Res := fun (v1 : Int32) (s2 : SS) => gd (inb v1 14) (gd (inb v1 14) (bd (f_X1_reckon (s2 13 (Int32.toNatClampNeg v1)) (s2 14 (Int32.toNatClampNeg v1)) s2) (fun (v4 : Int32) (s5 : SS) => if (q : Int32) = (118 : Int32) then lt (if (v4 : Int32) < (100 : Int32) then v4 else 100) (fun (v7 : Int32) => lt (if ((-100) : Int32) < (v7 : Int32) then v7 else (-100)) (fun (v8 : Int32) => some (v8, s5))) else lt (if (v4 : Int32) < (1 : Int32) then v4 else 1) (fun (v9 : Int32) => lt (if (0 : Int32) < (v9 : Int32) then v9 else 0) (fun (v10 : Int32) => some (v10, s5))))))
/-- what the class tells -/
theorem val_c {cs : List CL} {q : Int32} (hq : q = 118 ∨ q = 109) {F : Nat → Int32} (hT : TD cs s) (hF : ∀ i, i < 11 → s 32 i = F i) : ∃ R, f_X1_valueOf q s = some (valC cs q F, upr s 16 R) := by
  have tell : ∀ (i : Nat) (c : CL) (u : SS), i < 14 → TDE u i c → (∀ j, j < 11 → u 32 j = F j) → ∃ R, (tlK q (iI (i : Int)) u) = some (clv q ((c.2.1 F).getD 0), upr u 16 R) := by
    intro i c u hi hc hu
    obtain ⟨a, m, z, y1, y2, y3, y4, y5, y6, y7, y8⟩ := hc
    have k1 := y8.1
    obtain ⟨R, hR⟩ := rk_ce y7 (by omega) hu
    refine ⟨R, ?_⟩
    unfold tlK
    refine e_gd (by simp (disch := omega) only [Int.toNat_natCast, iI_lt, iI_le, iI_eq, iI_add, iI_sub, iI_mul, iI_neg, iI_clamp, inb_ii]; omega) ?_
    refine e_gd (by simp (disch := omega) only [Int.toNat_natCast, iI_lt, iI_le, iI_eq, iI_add, iI_sub, iI_mul, iI_neg, iI_clamp, inb_ii]; omega) ?_
    rw [iI_clamp (by omega), Int.toNat_natCast, y3, y4]
    refine e_bd hR ?_
    rcases hq with w | w
    · subst w
      refine e_if_t rfl ?_
      rw [← clvC_eq]
      exact e_lt (e_lt rfl)
    · subst w
      refine e_if_f (by decide) ?_
      rw [← clvM_eq]
      exact e_lt (e_lt rfl)
  have hl := hT.1
  have lp : ∀ (m N i : Nat) (u : SS), i + m = cs.length → m < N → TD cs u → (∀ j, j < 11 → u 32 j = F j) → ∃ R, lp_X1_valueOf_2 q (tlK q) N (iI i) u = some (valC (cs.drop i) q F, upr u 16 R) := by
    intro m
    induction m with
    | zero =>
      intro N i u hi hN hu hf
      obtain ⟨N, rfl⟩ : ∃ M, N = M + 1 := ⟨N - 1, by omega⟩
      refine ⟨u 16, ?_⟩
      rw [lp_X1_valueOf_2, upr_self, List.drop_eq_nil_of_le (by omega)]
      exact e_if_t (by rw [hu.2.1]; simp (disch := omega) only [Int.toNat_natCast, iI_lt, iI_le, iI_eq, iI_add, iI_sub, iI_mul, iI_neg, iI_clamp, inb_ii]; omega) rfl
    | succ m ih =>
      intro N i u hi hN hu hf
      obtain ⟨N, rfl⟩ : ∃ M, N = M + 1 := ⟨N - 1, by omega⟩
      have hil : i < cs.length := by omega
      have hge : cs[i]? = some cs[i] := List.getElem?_eq_getElem hil
      have hc := hu.2.2 i cs[i] hge
      rw [List.drop_eq_getElem_cons hil]
      generalize cs[i] = c at hc
      have un : valC (c :: cs.drop (i + 1)) q F = if iI c.1 = q ∧ ¬ (c.2.2 F).getD 0 = 0 then clv q ((c.2.1 F).getD 0) else valC (cs.drop (i + 1)) q F := rfl
      obtain ⟨a, m2, z, y1, y2, y3, y4, y5, y6, y7, y8⟩ := id hc
      have head : ∀ r, (if (iI (c.1 : Int) : Int32) = (q : Int32) then gd (inb (iI (i : Int)) 14) (gd (inb (iI (i : Int)) 14) (bd (f_X1_reckon (iI m2) (iI z) u) (fun (v19 : Int32) (s20 : SS) => if (v19 : Int32) = 0 then lp_X1_valueOf_2 q (tlK q) N (iI (i : Int) + 1) s20 else (tlK q (iI (i : Int)) s20) ))) else lp_X1_valueOf_2 q (tlK q) N (iI (i : Int) + 1) u) = r → lp_X1_valueOf_2 q (tlK q) (N + 1) (iI i) u = r := by
        intro r hr
        rw [lp_X1_valueOf_2]
        refine e_if_f (by rw [hu.2.1]; simp (disch := omega) only [Int.toNat_natCast, iI_lt, iI_le, iI_eq, iI_add, iI_sub, iI_mul, iI_neg, iI_clamp, inb_ii]; omega) ?_
        refine e_if_f (by rw [show (14 : Int32) = iI 14 from rfl]; simp (disch := omega) only [Int.toNat_natCast, iI_lt, iI_le, iI_eq, iI_add, iI_sub, iI_mul, iI_neg, iI_clamp, inb_ii]; omega) ?_
        refine e_gd (by simp (disch := omega) only [Int.toNat_natCast, iI_lt, iI_le, iI_eq, iI_add, iI_sub, iI_mul, iI_neg, iI_clamp, inb_ii]; omega) ?_
        refine e_jn ?_
        have cl : Int32.toNatClampNeg (iI (i : Int)) = i := by rw [iI_clamp (by omega), Int.toNat_natCast]
        rw [cl, y1, y4, y5]
        exact hr
      by_cases e1 : iI c.1 = q
      · obtain ⟨R, hR⟩ := rk_ce y8 y6 hf
        have in14 : inb (iI (i : Int)) 14 := by simp (disch := omega) only [Int.toNat_natCast, iI_lt, iI_le, iI_eq, iI_add, iI_sub, iI_mul, iI_neg, iI_clamp, inb_ii]; omega
        by_cases e2 : (c.2.2 F).getD 0 = 0
        · rw [if_neg (fun w => w.2 e2)] at un
          obtain ⟨R2, h2⟩ := ih N (i + 1) (upr u 16 R) (by omega) (by omega) (hu.of (fun k _ _ => upr_ne (by omega))) (fun j hj => by rw [upr_ne (by omega)]; exact hf j hj)
          rw [upr_upr] at h2
          refine ⟨R2, head _ ?_⟩
          rw [un]
          refine e_if_t e1 (e_gd in14 (e_gd in14 (e_bd hR ?_)))
          refine e_if_t e2 ?_
          rw [nx_s]
          exact h2
        · rw [if_pos ⟨e1, e2⟩] at un
          have hc2 : TDE (upr u 16 R) i c := by
            unfold TDE at hc ⊢
            rw [upr_ne (by omega), upr_ne (by omega), upr_ne (by omega), upr_ne (by omega), upr_ne (by omega), upr_ne (by omega)]
            exact hc
          obtain ⟨R2, h2⟩ := tell i c (upr u 16 R) (by omega) hc2 (fun j hj => by rw [upr_ne (by omega)]; exact hf j hj)
          rw [upr_upr] at h2
          refine ⟨R2, head _ ?_⟩
          rw [un]
          refine e_if_t e1 (e_gd in14 (e_gd in14 (e_bd hR ?_)))
          refine e_if_f e2 ?_
          exact h2
      · rw [if_neg (fun w => e1 w.1)] at un
        obtain ⟨R2, h2⟩ := ih N (i + 1) u (by omega) (by omega) hu hf
        refine ⟨R2, head _ ?_⟩
        rw [un]
        refine e_if_f e1 ?_
        rw [nx_s]
        exact h2
  obtain ⟨R, hR⟩ := lp cs.length FU 0 s (by omega) (fu_lt (by omega)) hT hF
  refine ⟨R, ?_⟩
  unfold f_X1_valueOf
  refine e_jn ?_
  exact hR
/-- the town after a new text -/
def txT (T : TW) (cs : List CL) : TW := (T.1, T.2.1, valC cs)
theorem txT_ok {cs : List CL} (h : TOK T) : TOK (txT T cs) := ⟨h.1, fun F => valC_v F cs, fun F => valC_m F cs⟩
theorem cvt_tx {cs : List CL} (h : TD cs s) : CVT (txT T cs) s := fun _ hc _ _ hu hF => val_c hc (h.of (fun k a b => hu k a b)) hF
theorem JV.tx {cs : List CL} (h : JV T kd tl n c tn x p X k kf x2 p2 X2 k2 z b) : JV (txT T cs) kd tl n c tn x p X k kf x2 p2 X2 k2 0 b := ⟨⟨txT_ok h.1.1, h.1.2⟩, h.2.1, h.2.2.1, h.2.2.2.1, h.2.2.2.2.1, ⟨by omega, fun i hi => absurd hi (Nat.not_lt_zero i)⟩, h.2.2.2.2.2.2⟩
theorem JV.z0 (h : JV T kd tl n c tn x p X k kf x2 p2 X2 k2 z b) : JV T kd tl n c tn x p X k kf x2 p2 X2 k2 0 b := ⟨h.1, h.2.1, h.2.2.1, h.2.2.2.1, h.2.2.2.2.1, ⟨by omega, fun i hi => absurd hi (Nat.not_lt_zero i)⟩, h.2.2.2.2.2.2⟩
theorem cc_text {A : Nat} (hA : 1 ≤ A ∧ A ≤ 200 ∧ A ≤ z) (he : ed < 1000000) (h : JC T kd tl n c tn x p dy X k en kf x2 p2 dy2 X2 k2 z b d cl ed s) : (∀ f, pText (chA b A) A = .error f → ∃ t, f_X11_text (iI A) s = some (iI (-(f : Int)), t) ∧ JC T kd tl n c tn x p dy X k en kf x2 p2 dy2 X2 k2 0 b d cl ed t ∧ KR s t) ∧ ∀ cs, pText (chA b A) A = .ok cs → ∃ t, f_X11_text (iI A) s = some (iI cs.length, t) ∧ JC (txT T cs) kd tl n c tn x p dy X k en kf x2 p2 dy2 X2 k2 0 b d cs.length (ed + 1) t ∧ KR s t := by
  obtain ⟨h1, h2, h3, h4, h5, h6, h7, h8, h9, h10, h11, h12⟩ := id h
  have ho := h1.2.2.2.2.2.1
  have hz220 := ho.1
  obtain ⟨v, t, e1, e2, e3, e4⟩ := cc_read ho.1 ho.2 ⟨hA.1, hA.2.1⟩ hA.2.2 h8
  have head : ∀ r, (if (v : Int32) ≤ 0 then some (v, up t 1 1 0) else bd (f_X1_copyFrom (up t 1 1 0)) (fun (v10 : Int32) (s11 : SS) => bd (f_X10_forget s11) (fun (v12 : Int32) (s13 : SS) => lts (up s13 0 15 ((s13 0 15) + 1)) (fun (s14 : SS) => some (v, s14))))) = r → f_X11_text (iI A) s = r := by
    intro r hr
    unfold f_X11_text
    refine e_if_f (by simp (disch := omega) only [Int.toNat_natCast, iI_lt, iI_le, iI_eq, iI_add, iI_sub, iI_mul, iI_neg, iI_clamp, inb_ii, z_1]; omega) ?_
    refine e_if_f (by simp (disch := omega) only [Int.toNat_natCast, iI_lt, iI_le, iI_eq, iI_add, iI_sub, iI_mul, iI_neg, iI_clamp, inb_ii, z_200]; omega) ?_
    refine e_bdp (v := iI z) (by unfold f_X9_size; rw [h8.1]) ?_
    refine e_if_t (by simp (disch := omega) only [Int.toNat_natCast, iI_lt, iI_le, iI_eq, iI_add, iI_sub, iI_mul, iI_neg, iI_clamp, inb_ii]; omega) ?_
    refine e_bd e1 ?_
    exact e_bd (v := 0) (t := up t 1 1 0) rfl hr
  refine ⟨fun f c => ?_, fun cs c => ?_⟩
  · obtain ⟨x1, x2, x3⟩ := e3 f c
    let t2 : SS := up t 1 1 0
    have tq : ∀ q, q ≠ 1 → (q < 17 ∨ 25 < q) → t2 q = s q := fun q a b => by show up t 1 1 0 q = _; rw [up_cell a]; exact e2 q b
    refine ⟨t2, head _ ?_, ⟨h1.z0, ?_, h3.of (by rw [tq 0 (by omega) (by omega)]) (tq 41 (by omega) (by omega)) (tq 42 (by omega) (by omega)) (tq 43 (by omega) (by omega)), h4.of (by rw [tq 0 (by omega) (by omega)]) (tq 46 (by omega) (by omega)) (tq 47 (by omega) (by omega)), by rw [tq 0 (by omega) (by omega)]; exact h5, by rw [tq 52 (by omega) (by omega)]; exact h6, by rw [tq 55 (by omega) (by omega)]; exact h7, ⟨up_at _ _ _ _, fun i hi => absurd hi (Nat.not_lt_zero i)⟩, by rw [tq 54 (by omega) (by omega)]; exact h9, by rw [tq 0 (by omega) (by omega)]; exact h10, by rw [tq 53 (by omega) (by omega)]; exact h11, by rw [tq 9 (by omega) (by omega)]; exact h12⟩, fun q hq => tq q (by omega) (by omega)⟩
    · rw [x1]
      exact e_if_t (by simp (disch := omega) only [Int.toNat_natCast, iI_lt, iI_le, iI_eq, iI_add, iI_sub, iI_mul, iI_neg, iI_clamp, inb_ii, z_0]; omega) rfl
    · obtain ⟨⟨g1, g2, g3, g4⟩, y2, y3⟩ := h2
      refine ⟨⟨g1.of (fun q _ _ => tq q (by omega) (by omega)), g2.of (by rw [tq 27 (by omega) (by omega)]) (fun q _ _ => tq q (by omega) (by omega)), g3.of (fun q _ _ => tq q (by omega) (by omega)), ?_⟩, ?_, ?_⟩
      · unfold CCH gl at g4 ⊢
        rw [tq 27 (by omega) (by omega), tq 33 (by omega) (by omega), tq 34 (by omega) (by omega)]
        exact g4
      · unfold CKD at y2 ⊢
        rw [tq 36 (by omega) (by omega), tq 37 (by omega) (by omega)]
        exact y2
      · unfold RTC at y3 ⊢
        rw [tq 35 (by omega) (by omega), tq 38 (by omega) (by omega)]
        exact y3
  · obtain ⟨x1, x2, k9, x3, x4⟩ := e4 cs c
    let u0 : SS := up t 1 1 0
    let u1 : SS := upr u0 10 (va_cpy (u0 20) (u0 10) 0 0 200)
    let u2 : SS := upr u1 11 (va_cpy (u1 21) (u1 11) 0 0 200)
    let u3 : SS := upr u2 12 (va_cpy (u2 22) (u2 12) 0 0 14)
    let u4 : SS := upr u3 13 (va_cpy (u3 23) (u3 13) 0 0 14)
    let u5 : SS := upr u4 14 (va_cpy (u4 24) (u4 14) 0 0 14)
    let u6 : SS := upr u5 15 (va_cpy (u5 25) (u5 15) 0 0 14)
    let u7 : SS := up u6 9 7 (u6 19 7)
    let u8 : SS := up u7 9 8 (u7 19 8)
    let u9 : SS := up u8 27 10 1
    let t2 : SS := up u9 0 15 (iI ((ed + 1 : Nat) : Int))
    have uq : ∀ q, q ≠ 1 → q ≠ 9 → q ≠ 10 → q ≠ 11 → q ≠ 12 → q ≠ 13 → q ≠ 14 → q ≠ 15 → u8 q = t q := fun q a1 a2 a3 a4 a5 a6 a7 a8 => by
      show up (up (upr (upr (upr (upr (upr (upr (up t 1 1 0) 10 _) 11 _) 12 _) 13 _) 14 _) 15 _) 9 7 _) 9 8 _ q = _
      rw [up_cell a2, up_cell a2, upr_ne a8, upr_ne a7, upr_ne a6, upr_ne a5, upr_ne a4, upr_ne a3, up_cell a1]
    have tq : ∀ q, q ≠ 0 → q ≠ 27 → q ≠ 1 → (q < 9 ∨ (15 < q ∧ q < 17) ∨ 25 < q) → t2 q = s q := fun q a0 a9 a1 hq => by
      show up (up u8 27 10 1) 0 15 _ q = _
      rw [up_cell a0, up_cell a9, uq q a1 (by omega) (by omega) (by omega) (by omega) (by omega) (by omega) (by omega)]
      exact e2 q (by omega)
    have t0 : ∀ j, j ≠ 15 → t2 0 j = s 0 j := fun j hj => by
      show up (up u8 27 10 1) 0 15 _ 0 j = _
      rw [up_slot hj, up_cell (by omega), uq 0 (by omega) (by omega) (by omega) (by omega) (by omega) (by omega) (by omega) (by omega), e2 0 (by omega)]
    have t27 : ∀ j, j ≠ 10 → t2 27 j = s 27 j := fun j hj => by
      show up (up u8 27 10 1) 0 15 _ 27 j = _
      rw [up_cell (by omega), up_slot hj, uq 27 (by omega) (by omega) (by omega) (by omega) (by omega) (by omega) (by omega) (by omega), e2 27 (by omega)]
    have t1 : t2 1 1 = 0 := rfl
    have ed0 : u9 0 15 = iI ed := by
      show up u8 27 10 1 0 15 = _
      rw [up_cell (by omega), uq 0 (by omega) (by omega) (by omega) (by omega) (by omega) (by omega) (by omega) (by omega), e2 0 (by omega)]
      exact h5
    have cp10 : ∀ i, i < 200 → t2 10 i = t 20 i := fun i hi => by
      show va_cpy (t 20) (t 10) 0 0 200 i = _
      unfold va_cpy
      rw [if_pos ⟨by omega, by omega⟩]
      congr 1
      omega
    have cp11 : ∀ i, i < 200 → t2 11 i = t 21 i := fun i hi => by
      show va_cpy (t 21) (t 11) 0 0 200 i = _
      unfold va_cpy
      rw [if_pos ⟨by omega, by omega⟩]
      congr 1
      omega
    have cp14 : ∀ i, i < 14 → t2 12 i = t 22 i ∧ t2 13 i = t 23 i ∧ t2 14 i = t 24 i ∧ t2 15 i = t 25 i := fun i hi => by
      show va_cpy (t 22) (t 12) 0 0 14 i = _ ∧ va_cpy (t 23) (t 13) 0 0 14 i = _ ∧ va_cpy (t 24) (t 14) 0 0 14 i = _ ∧ va_cpy (t 25) (t 15) 0 0 14 i = _
      unfold va_cpy
      rw [if_pos ⟨by omega, by omega⟩, if_pos ⟨by omega, by omega⟩, if_pos ⟨by omega, by omega⟩, if_pos ⟨by omega, by omega⟩, show 0 + (i - 0) = i by omega]
      exact ⟨rfl, rfl, rfl, rfl⟩
    have t98 : t2 9 8 = iI cs.length := by
      show t 19 8 = _
      exact x4.2.1
    have hTD : TD cs t2 := by
      refine ⟨x4.1, t98, fun i c hic => ?_⟩
      have hi : i < 14 := by have := (List.getElem?_eq_some_iff.mp hic).1; have := x4.1; omega
      obtain ⟨a, m, z, y1, y2, y3, y4, y5, y6, y7, y8⟩ := x4.2.2 i c hic
      have ka := y8.1
      obtain ⟨c1, c2, c3, c4⟩ := cp14 i hi
      exact ⟨a, m, z, c1.trans y1, y2, c2.trans y3, c3.trans y4, c4.trans y5, by omega, y7.of (fun j _ hj => ⟨cp10 j (by omega), cp11 j (by omega)⟩), y8.of (fun j _ hj => ⟨cp10 j (by omega), cp11 j (by omega)⟩)⟩
    refine ⟨t2, head _ ?_, ⟨h1.tx, ⟨⟨h2.1.1.of (fun q _ _ => tq q (by omega) (by omega) (by omega) (by omega)), ⟨(t27 9 (by omega)).trans h2.1.2.1.1, fun i hi => ?_⟩, cvt_tx hTD, Or.inr rfl, fun w => absurd w (by show ¬ (1 : Int32) = 0; decide)⟩, ?_, ?_⟩, h3.new h5 he rfl (by rw [tq 41 (by omega) (by omega) (by omega) (by omega)]), h4.new h5 he rfl (by rw [tq 46 (by omega) (by omega) (by omega) (by omega)]), rfl, by rw [tq 52 (by omega) (by omega) (by omega) (by omega)]; exact h6, by rw [tq 55 (by omega) (by omega) (by omega) (by omega)]; exact h7, ⟨t1, fun i hi => absurd hi (Nat.not_lt_zero i)⟩, by rw [tq 54 (by omega) (by omega) (by omega) (by omega)]; exact h9, by rw [t0 14 (by omega)]; exact h10, by rw [tq 53 (by omega) (by omega) (by omega) (by omega)]; exact h11, t98⟩, fun q hq => tq q (by omega) (by omega) (by omega) (by omega)⟩
    · rw [x1]
      have hl := x4.1
      refine e_if_f (by simp (disch := omega) only [Int.toNat_natCast, iI_lt, iI_le, iI_eq, iI_add, iI_sub, iI_mul, iI_neg, iI_clamp, inb_ii, z_0]; omega) ?_
      refine e_bd (v := 0) (t := u8) rfl ?_
      refine e_bd (v := 0) (t := u9) rfl ?_
      rw [ed0, nx_s]
      exact e_lts rfl
    · rw [tq 28 (by omega) (by omega) (by omega) (by omega), tq 29 (by omega) (by omega) (by omega) (by omega), tq 30 (by omega) (by omega) (by omega) (by omega), tq 31 (by omega) (by omega) (by omega) (by omega)]
      exact h2.1.2.1.2 i hi
    · have := h2.2.1
      unfold CKD at this ⊢
      rw [tq 36 (by omega) (by omega) (by omega) (by omega), tq 37 (by omega) (by omega) (by omega) (by omega)]
      exact this
    · have := h2.2.2
      unfold RTC at this ⊢
      rw [tq 35 (by omega) (by omega) (by omega) (by omega), tq 38 (by omega) (by omega) (by omega) (by omega)]
      exact this
