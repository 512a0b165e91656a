/-! RUN -/
def rsm (T : TW) (kd tl : Nat → Nat) (n c : Nat) (tn : Nat → Nat) (x p : Nat) (a : Int32) : Nat → Int32
  | 0 => 0
  | d + 1 => rsm T kd tl n c tn x p a d + (if 0 ≤ a.toInt ∧ a.toInt ≤ 3 then wth T n (itR T kd tl n c tn x p (d + 1)) a.toInt.toNat else 0)
def mdR (T : TW) (kd tl : Nat → Nat) (n c : Nat) (tn : Nat → Nat) (x p : Nat) : Nat → Int32
  | 0 => 0
  | d + 1 => mdR T kd tl n c tn x p d + (if cho T kd tl n (itR T kd tl n c tn x p d) (tn ((p + d) % c)) = 8 then 0 else 1)
def okRun (a1 a2 : Int32) : Prop := (1 ≤ a1.toInt ∧ a1.toInt ≤ 60) ∧ ((0 ≤ a2.toInt ∧ a2.toInt ≤ 3) ∨ (10 ≤ a2.toInt ∧ a2.toInt ≤ 13) ∨ a2.toInt = 20)
theorem cho_8 {T : TW} (hT : T.1 ≤ 8) {kd tl : Nat → Nat} (hk : KOK kd tl) {n x m : Nat} (hm : m < 4) (hx : x < 4681) : (iI (cho T kd tl n x m : Int) = 8) = (cho T kd tl n x m = 8) := by
  have := cho_le T kd tl hk (n := n) hm hx
  exact propext ((iI_eq (b := 8) (by omega) (by omega)).trans (by omega))
theorem cc_runL {T : TW} (hT : TOK T) {kd tl : Nat → Nat} (hk : KOK kd tl) {n c x p D : Nat} {tn : Nat → Nat} (hr : ROK c tn) (hn : 1 ≤ n ∧ n ≤ 4) (hx : x < szR n) (hv : VR T x) (hD : D ≤ 60) (a2 : Int32) (ha : (0 ≤ a2.toInt ∧ a2.toInt ≤ 3) ∨ 3 < a2.toInt) (k : Int32 → Int32 → Int32 → SS → Res) :
    ∀ (m N d : Nat) (s : SS), d + m = D → m < N → CT_ T s → CKD kd tl s → RTC c tn s → ∃ t : SS, lp_X11_run_77 (iI D) a2 k N (wl_ n (itR T kd tl n c tn x p d)) (iI (((p + d) % c : Nat) : Int)) (rsm T kd tl n c tn x p a2 d) (mdR T kd tl n c tn x p d) (iI d) s = k (wl_ n (itR T kd tl n c tn x p D)) (rsm T kd tl n c tn x p a2 D) (mdR T kd tl n c tn x p D) t ∧ CQ s t ∧ CT_ T t := by
  intro m
  induction m with
  | zero =>
    intro N d s hd hN hs hc hrc
    cases N with
    | zero => omega
    | succ N =>
      obtain rfl : d = D := by omega
      refine ⟨s, ?_, CQ.rf s, hs⟩
      rw [lp_X11_run_77]
      exact e_if_t (by simp (disch := omega) only [Int.toNat_natCast, iI_lt, iI_le, iI_eq, iI_add, iI_sub, iI_mul, iI_neg, iI_clamp, inb_ii]; omega) rfl
  | succ m ih =>
    intro N d s hd hN hs hc hrc
    cases N with
    | zero => omega
    | succ N =>
      have hc1 := hr.1
      have hpl : (p + d) % c < c := Nat.mod_lt _ (by omega)
      have hit := itR_ok hT.1 hk hr hn hx hv (p := p) d
      have hit2 := itR_ok hT.1 hk hr hn hx hv (p := p) (d + 1)
      have hcl := cho_le T kd tl hk (n := n) (hr.2 _ hpl) (sz_lt hn hit.1).2
      obtain ⟨s1, e1, e2, e3⟩ := ct_choice hT hk hs hc hn hit.1 (hr.2 _ hpl)
      have zb := rw_behind (l := cho T kd tl n (itR T kd tl n c tn x p d) (tn ((p + d) % c))) e3.1 hn hit.1 hcl
      have za := ct_after hr (e2.rc hrc) hpl
      have epl : ((p + d) % c + 1) % c = (p + (d + 1)) % c := by rw [← Nat.add_assoc, Nat.add_mod (p + d) 1 c]; simp
      rw [epl] at za
      have nx : iI (d : Int) + 1 = iI ((d + 1 : Nat) : Int) := by rw [z_1, iI_add]; rfl
      have d8 := cho_8 hT.1 hk (n := n) (hr.2 _ hpl) (sz_lt hn hit.1).2
      have um : mdR T kd tl n c tn x p (d + 1) = mdR T kd tl n c tn x p d + (if cho T kd tl n (itR T kd tl n c tn x p d) (tn ((p + d) % c)) = 8 then 0 else 1) := rfl
      have us : rsm T kd tl n c tn x p a2 (d + 1) = rsm T kd tl n c tn x p a2 d + (if 0 ≤ a2.toInt ∧ a2.toInt ≤ 3 then wth T n (itR T kd tl n c tn x p (d + 1)) a2.toInt.toNat else 0) := rfl
      have fin : ∀ (v : Int32), v = (if cho T kd tl n (itR T kd tl n c tn x p d) (tn ((p + d) % c)) = 8 then 0 else 1) → ∃ t : SS, (lt (mdR T kd tl n c tn x p d + v) (fun v32 => jn (fun (v33 : Int32) (s34 : SS) => lt (rsm T kd tl n c tn x p a2 d + v33) (fun v36 => lp_X11_run_77 (iI D) a2 k N (wl_ n (itR T kd tl n c tn x p (d + 1))) (iI (((p + (d + 1)) % c : Nat) : Int)) v36 v32 (iI (d : Int) + 1) s34)) (fun k35 => if (3 : Int32) < a2 then k35 0 s1 else bd (f_X10_worthOf (wl_ n (itR T kd tl n c tn x p (d + 1))) a2 s1) (fun v38 s39 => k35 v38 s39)))) = k (wl_ n (itR T kd tl n c tn x p D)) (rsm T kd tl n c tn x p a2 D) (mdR T kd tl n c tn x p D) t ∧ CQ s t ∧ CT_ T t := by
        intro v hv2
        rw [← hv2] at um
        by_cases q : 3 < a2.toInt
        · obtain ⟨t, f1, f2, f3⟩ := ih N (d + 1) s1 (by omega) (by omega) e3 (e2.ck hc) (e2.rc hrc)
          refine ⟨t, ?_, e2.tr f2, f3⟩
          refine e_lt ?_
          refine e_jn ?_
          refine e_if_t (by rw [lt32]; exact q) ?_
          refine e_lt ?_
          rw [if_neg (by omega)] at us
          rw [nx, ← us, ← um]
          exact f1
        · have hp : 0 ≤ a2.toInt ∧ a2.toInt ≤ 3 := by omega
          obtain ⟨s2, g1, g2, g3⟩ := ct_worth (p := a2.toInt.toNat) hT e3 hn hit2.1 (by omega)
          rw [show ((a2.toInt.toNat : Nat) : Int) = a2.toInt by omega, ← iI_of] at g1
          obtain ⟨t, f1, f2, f3⟩ := ih N (d + 1) s2 (by omega) (by omega) g3 ((e2.tr g2).ck hc) ((e2.tr g2).rc hrc)
          refine ⟨t, ?_, (e2.tr g2).tr f2, f3⟩
          refine e_lt ?_
          refine e_jn ?_
          refine e_if_f (by rw [lt32]; exact q) ?_
          refine e_bd g1 ?_
          refine e_lt ?_
          rw [if_pos hp] at us
          rw [nx, ← us, ← um]
          exact f1
      by_cases q8 : cho T kd tl n (itR T kd tl n c tn x p d) (tn ((p + d) % c)) = 8
      · obtain ⟨t, f1, f2, f3⟩ := fin 0 (by rw [if_pos q8])
        refine ⟨t, ?_, f2, f3⟩
        rw [lp_X11_run_77]
        refine e_if_f (by simp (disch := omega) only [Int.toNat_natCast, iI_lt, iI_le, iI_eq, iI_add, iI_sub, iI_mul, iI_neg, iI_clamp, inb_ii]; omega) ?_
        refine e_bdp (ct_turn hr hrc hpl) ?_
        refine e_bd e1 ?_
        refine e_bdp zb ?_
        refine e_bdp za ?_
        refine e_jn ?_
        refine e_if_t (d8.mpr q8) ?_
        exact f1
      · obtain ⟨t, f1, f2, f3⟩ := fin 1 (by rw [if_neg q8])
        refine ⟨t, ?_, f2, f3⟩
        rw [lp_X11_run_77]
        refine e_if_f (by simp (disch := omega) only [Int.toNat_natCast, iI_lt, iI_le, iI_eq, iI_add, iI_sub, iI_mul, iI_neg, iI_clamp, inb_ii]; omega) ?_
        refine e_bdp (ct_turn hr hrc hpl) ?_
        refine e_bd e1 ?_
        refine e_bdp zb ?_
        refine e_bdp za ?_
        refine e_jn ?_
        refine e_if_f (mt d8.mp q8) ?_
        exact f1
theorem cr_runL {T : TW} (hT : TOK T) {kd tl : Nat → Nat} (hk : KOK kd tl) {n c x p D : Nat} {tn : Nat → Nat} (hr : ROK c tn) (hn : 1 ≤ n ∧ n ≤ 4) (hx : x < szR n) (hv : VR T x) (hp : p < c) (hD : D ≤ 60) (a2 : Int32) (k : Int32 → Int32 → Int32 → SS → Res) :
    ∀ (m N d : Nat) (s : SS), d + m = D → m < N → RT_ T n s → RKD kd tl s → RTR c tn s → s 56 6 = iI p → ∃ t : SS, lp_X12_run_57 (iI D) a2 k N (iI (itR T kd tl n c tn x p d)) (rsm T kd tl n c tn x p a2 d) (mdR T kd tl n c tn x p d) (iI d) s = k (iI (itR T kd tl n c tn x p D)) (rsm T kd tl n c tn x p a2 D) (mdR T kd tl n c tn x p D) t ∧ RQ s t ∧ RT_ T n t := by
  intro m
  induction m with
  | zero =>
    intro N d s hd hN hs hc hrc h6
    cases N with
    | zero => omega
    | succ N =>
      obtain rfl : d = D := by omega
      refine ⟨s, ?_, RQ.rf s, hs⟩
      rw [lp_X12_run_57]
      exact e_if_t (by simp (disch := omega) only [Int.toNat_natCast, iI_lt, iI_le, iI_eq, iI_add, iI_sub, iI_mul, iI_neg, iI_clamp, inb_ii]; omega) rfl
  | succ m ih =>
    intro N d s hd hN hs hc hrc h6
    cases N with
    | zero => omega
    | succ N =>
      have hc1 := hr.1
      have hpl : (p + d) % c < c := Nat.mod_lt _ (by omega)
      have hit := itR_ok hT.1 hk hr hn hx hv (p := p) d
      have hit2 := itR_ok hT.1 hk hr hn hx hv (p := p) (d + 1)
      have hcl := cho_le T kd tl hk (n := n) (hr.2 _ hpl) (sz_lt hn hit.1).2
      obtain ⟨s1, e1, e2, e3⟩ := rt_makes hT hk hs hc hn hit.1 hit.2 (hr.2 _ hpl)
      have zb := rr_behind (l := cho T kd tl n (itR T kd tl n c tn x p d) (tn ((p + d) % c))) e3.2.1 hn hit.1 hcl
      have h61 : s1 56 6 = iI p := by rw [e2.2 6 (by unfold rsl; omega) (by omega) (by omega) (by omega)]; exact h6
      have nx : iI (d : Int) + 1 = iI ((d + 1 : Nat) : Int) := by rw [z_1, iI_add]; rfl
      have um : mdR T kd tl n c tn x p (d + 1) = mdR T kd tl n c tn x p d + (if cho T kd tl n (itR T kd tl n c tn x p d) (tn ((p + d) % c)) = 8 then 0 else 1) := rfl
      have us : rsm T kd tl n c tn x p a2 (d + 1) = rsm T kd tl n c tn x p a2 d + (if 0 ≤ a2.toInt ∧ a2.toInt ≤ 3 then wth T n (itR T kd tl n c tn x p (d + 1)) a2.toInt.toNat else 0) := rfl
      have fin : ∀ (v : Int32), v = (if cho T kd tl n (itR T kd tl n c tn x p d) (tn ((p + d) % c)) = 8 then 0 else 1) → ∃ t : SS, (lt (mdR T kd tl n c tn x p d + v) (fun v29 => bdp (f_X12_behind (iI (itR T kd tl n c tn x p d)) (iI (cho T kd tl n (itR T kd tl n c tn x p d) (tn ((p + d) % c)))) s1) (fun v30 => bdp (f_X12_isSort a2 s1) (fun v31 => jn (fun (v32 : Int32) (s33 : SS) => lt (rsm T kd tl n c tn x p a2 d + v32) (fun v35 => lp_X12_run_57 (iI D) a2 k N v30 v35 v29 (iI (d : Int) + 1) s33)) (fun k34 => if v31 = 0 then k34 0 s1 else bd (f_X12_worthOf v30 a2 s1) (fun v37 s38 => k34 v37 s38)))))) = k (iI (itR T kd tl n c tn x p D)) (rsm T kd tl n c tn x p a2 D) (mdR T kd tl n c tn x p D) t ∧ RQ s t ∧ RT_ T n t := by
        intro v hv2
        rw [← hv2] at um
        by_cases q : 0 ≤ a2.toInt ∧ a2.toInt ≤ 3
        · obtain ⟨s2, g1, g2, g3⟩ := rt_worth (p := a2.toInt.toNat) hT e3 hn hit2.1 hit2.2 (by omega)
          rw [show ((a2.toInt.toNat : Nat) : Int) = a2.toInt by omega, ← iI_of] at g1
          have h62 : s2 56 6 = iI p := by rw [g2.2 6 (by unfold rsl; omega) (by omega) (by omega) (by omega)]; exact h61
          obtain ⟨t, f1, f2, f3⟩ := ih N (d + 1) s2 (by omega) (by omega) g3 ((e2.tr g2).k hc) ((e2.tr g2).rr hrc) h62
          refine ⟨t, ?_, (e2.tr g2).tr f2, f3⟩
          refine e_lt ?_
          refine e_bdp zb ?_
          refine e_bdp (isSort_f a2 s1) ?_
          rw [if_pos q]
          refine e_jn ?_
          refine e_if_f (by decide) ?_
          refine e_bd g1 ?_
          refine e_lt ?_
          rw [if_pos q] at us
          rw [nx, ← us, ← um]
          exact f1
        · obtain ⟨t, f1, f2, f3⟩ := ih N (d + 1) s1 (by omega) (by omega) e3 (e2.k hc) (e2.rr hrc) h61
          refine ⟨t, ?_, e2.tr f2, f3⟩
          refine e_lt ?_
          refine e_bdp zb ?_
          refine e_bdp (isSort_f a2 s1) ?_
          rw [if_neg q]
          refine e_jn ?_
          refine e_if_t rfl ?_
          refine e_lt ?_
          rw [if_neg q] at us
          rw [nx, ← us, ← um]
          exact f1
      by_cases q8 : cho T kd tl n (itR T kd tl n c tn x p d) (tn ((p + d) % c)) = 8
      · obtain ⟨t, f1, f2, f3⟩ := fin 0 (by rw [if_pos q8])
        refine ⟨t, ?_, f2, f3⟩
        rw [lp_X12_run_57]
        refine e_if_f (by simp (disch := omega) only [Int.toNat_natCast, iI_lt, iI_le, iI_eq, iI_add, iI_sub, iI_mul, iI_neg, iI_clamp, inb_ii]; omega) ?_
        refine e_bdp (rt_on hr hrc h6 hp (by omega)) ?_
        refine e_bd e1 ?_
        refine e_jn ?_
        refine e_if_t (by simp (disch := omega) only [Int.toNat_natCast, iI_lt, iI_le, iI_eq, iI_add, iI_sub, iI_mul, iI_neg, iI_clamp, inb_ii, z_8]; omega) ?_
        exact f1
      · obtain ⟨t, f1, f2, f3⟩ := fin 1 (by rw [if_neg q8])
        refine ⟨t, ?_, f2, f3⟩
        rw [lp_X12_run_57]
        refine e_if_f (by simp (disch := omega) only [Int.toNat_natCast, iI_lt, iI_le, iI_eq, iI_add, iI_sub, iI_mul, iI_neg, iI_clamp, inb_ii]; omega) ?_
        refine e_bdp (rt_on hr hrc h6 hp (by omega)) ?_
        refine e_bd e1 ?_
        refine e_jn ?_
        refine e_if_f (by simp (disch := omega) only [Int.toNat_natCast, iI_lt, iI_le, iI_eq, iI_add, iI_sub, iI_mul, iI_neg, iI_clamp, inb_ii, z_8]; omega) ?_
        exact f1
