/-! RUN -/
def rsm (T : TW) (kd tl : Nat → Nat) (n c : Nat) (tn : Nat → Nat) (x p : Nat) (a : Int32) : Nat → Int32
  | 0 => 0
  | d + 1 => rsm T kd tl n c tn x p a d + (if 0 ≤ a.toInt ∧ a.toInt ≤ 3 then wth T n (itR T kd tl n c tn x p (d + 1)) a.toInt.toNat else 0)
def mdR (T : TW) (kd tl : Nat → Nat) (n c : Nat) (tn : Nat → Nat) (x p : Nat) : Nat → Int32
  | 0 => 0
  | d + 1 => mdR T kd tl n c tn x p d + (if cho T kd tl n (itR T kd tl n c tn x p d) (tn ((p + d) % c)) = 8 then 0 else 1)
def okRun (a1 a2 : Int32) : Prop := (1 ≤ a1.toInt ∧ a1.toInt ≤ 60) ∧ ((0 ≤ a2.toInt ∧ a2.toInt ≤ 3) ∨ (10 ≤ a2.toInt ∧ a2.toInt ≤ 13) ∨ a2.toInt = 20)
theorem cho_8 {T : TW} (hT : T.1 ≤ 8) {kd tl : Nat → Nat} (hk : KOK kd tl) {n x m : Nat} (hm : m < 4) (hx : x < 4681) : (iI (cho T kd tl n x m : Int) = 8) = (cho T kd tl n x m = 8) := by
  have := cho_le T kd tl hk (n := n) hm hx
  exact propext ((iI_eq (b := 8) (by omega) (by omega)).trans (by omega))
theorem cc_runL {T : TW} (hT : TOK T) {kd tl : Nat → Nat} (hk : KOK kd tl) {n c x p D : Nat} {tn : Nat → Nat} (hr : ROK c tn) (hn : 1 ≤ n ∧ n ≤ 4) (hx : x < szR n) (hv : VR T x) (hD : D ≤ 60) (a2 : Int32) (ha : (0 ≤ a2.toInt ∧ a2.toInt ≤ 3) ∨ 3 < a2.toInt) (k : Int32 → Int32 → Int32 → SS → Res) :
    ∀ (m N d : Nat) (s : SS), d + m = D → m < N → CT_ T s → CKD kd tl s → RTC c tn s → ∃ t : SS, lp_X11_run_77 (iI D) a2 k N (wl_ n (itR T kd tl n c tn x p d)) (iI (((p + d) % c : Nat) : Int)) (rsm T kd tl n c tn x p a2 d) (mdR T kd tl n c tn x p d) (iI d) s = k (wl_ n (itR T kd tl n c tn x p D)) (rsm T kd tl n c tn x p a2 D) (mdR T kd tl n c tn x p D) t ∧ CQ s t ∧ CT_ T t := by
  intro m
  induction m with
  | zero =>
    intro N d s hd hN hs hc hrc
    cases N with
    | zero => omega
    | succ N =>
      obtain rfl : d = D := by omega
      refine ⟨s, ?_, CQ.rf s, hs⟩
      rw [lp_X11_run_77]
      exact e_if_t (by simp (disch := omega) only [Int.toNat_natCast, iI_lt, iI_le, iI_eq, iI_add, iI_sub, iI_mul, iI_neg, iI_clamp, inb_ii]; omega) rfl
  | succ m ih =>
    intro N d s hd hN hs hc hrc
    cases N with
    | zero => omega
    | succ N =>
      have hc1 := hr.1
      have hpl : (p + d) % c < c := Nat.mod_lt _ (by omega)
      have hit := itR_ok hT.1 hk hr hn hx hv (p := p) d
      have hit2 := itR_ok hT.1 hk hr hn hx hv (p := p) (d + 1)
      have hcl := cho_le T kd tl hk (n := n) (hr.2 _ hpl) (sz_lt hn hit.1).2
      obtain ⟨s1, e1, e2, e3⟩ := ct_choice hT hk hs hc hn hit.1 (hr.2 _ hpl)
      have zb := rw_behind (l := cho T kd tl n (itR T kd tl n c tn x p d) (tn ((p + d) % c))) e3.1 hn hit.1 hcl
      have za := ct_after hr (e2.rc hrc) hpl
      have epl : ((p + d) % c + 1) % c = (p + (d + 1)) % c := by rw [← Nat.add_assoc, Nat.add_mod (p + d) 1 c]; simp
      rw [epl] at za
      have nx : iI (d : Int) + 1 = iI ((d + 1 : Nat) : Int) := by rw [z_1, iI_add]; rfl
      have d8 := cho_8 hT.1 hk (n := n) (hr.2 _ hpl) (sz_lt hn hit.1).2
      have um : mdR T kd tl n c tn x p (d + 1) = mdR T kd tl n c tn x p d + (if cho T kd tl n (itR T kd tl n c tn x p d) (tn ((p + d) % c)) = 8 then 0 else 1) := rfl
      have us : rsm T kd tl n c tn x p a2 (d + 1) = rsm T kd tl n c tn x p a2 d + (if 0 ≤ a2.toInt ∧ a2.toInt ≤ 3 then wth T n (itR T kd tl n c tn x p (d + 1)) a2.toInt.toNat else 0) := rfl
      have fin : ∀ (v : Int32), v = (if cho T kd tl n (itR T kd tl n c tn x p d) (tn ((p + d) % c)) = 8 then 0 else 1) → ∃ t : SS, (lt (mdR T kd tl n c tn x p d + v) (fun v32 => jn (fun (v33 : Int32) (s34 : SS) => lt (rsm T kd tl n c tn x p a2 d + v33) (fun v36 => lp_X11_run_77 (iI D) a2 k N (wl_ n (itR T kd tl n c tn x p (d + 1))) (iI (((p + (d + 1)) % c : Nat) : Int)) v36 v32 (iI (d : Int) + 1) s34)) (fun k35 => if (3 : Int32) < a2 then k35 0 s1 else bd (f_X10_worthOf (wl_ n (itR T kd tl n c tn x p (d + 1))) a2 s1) (fun v38 s39 => k35 v38 s39)))) = k (wl_ n (itR T kd tl n c tn x p D)) (rsm T kd tl n c tn x p a2 D) (mdR T kd tl n c tn x p D) t ∧ CQ s t ∧ CT_ T t := by
        intro v hv2
        rw [← hv2] at um
        by_cases q : 3 < a2.toInt
        · obtain ⟨t, f1, f2, f3⟩ := ih N (d + 1) s1 (by omega) (by omega) e3 (e2.ck hc) (e2.rc hrc)
          refine ⟨t, ?_, e2.tr f2, f3⟩
          refine e_lt ?_
          refine e_jn ?_
          refine e_if_t (by rw [lt32]; exact q) ?_
          refine e_lt ?_
          rw [if_neg (by omega)] at us
          rw [nx, ← us, ← um]
          exact f1
        · have hp : 0 ≤ a2.toInt ∧ a2.toInt ≤ 3 := by omega
          obtain ⟨s2, g1, g2, g3⟩ := ct_worth (p := a2.toInt.toNat) hT e3 hn hit2.1 (by omega)
          rw [show ((a2.toInt.toNat : Nat) : Int) = a2.toInt by omega, ← iI_of] at g1
          obtain ⟨t, f1, f2, f3⟩ := ih N (d + 1) s2 (by omega) (by omega) g3 ((e2.tr g2).ck hc) ((e2.tr g2).rc hrc)
          refine ⟨t, ?_, (e2.tr g2).tr f2, f3⟩
          refine e_lt ?_
          refine e_jn ?_
          refine e_if_f (by rw [lt32]; exact q) ?_
          refine e_bd g1 ?_
          refine e_lt ?_
          rw [if_pos hp] at us
          rw [nx, ← us, ← um]
          exact f1
      by_cases q8 : cho T kd tl n (itR T kd tl n c tn x p d) (tn ((p + d) % c)) = 8
      · obtain ⟨t, f1, f2, f3⟩ := fin 0 (by rw [if_pos q8])
        refine ⟨t, ?_, f2, f3⟩
        rw [lp_X11_run_77]
        refine e_if_f (by simp (disch := omega) only [Int.toNat_natCast, iI_lt, iI_le, iI_eq, iI_add, iI_sub, iI_mul, iI_neg, iI_clamp, inb_ii]; omega) ?_
        refine e_bdp (ct_turn hr hrc hpl) ?_
        refine e_bd e1 ?_
        refine e_bdp zb ?_
        refine e_bdp za ?_
        refine e_jn ?_
        refine e_if_t (d8.mpr q8) ?_
        exact f1
      · obtain ⟨t, f1, f2, f3⟩ := fin 1 (by rw [if_neg q8])
        refine ⟨t, ?_, f2, f3⟩
        rw [lp_X11_run_77]
        refine e_if_f (by simp (disch := omega) only [Int.toNat_natCast, iI_lt, iI_le, iI_eq, iI_add, iI_sub, iI_mul, iI_neg, iI_clamp, inb_ii]; omega) ?_
        refine e_bdp (ct_turn hr hrc hpl) ?_
        refine e_bd e1 ?_
        refine e_bdp zb ?_
        refine e_bdp za ?_
        refine e_jn ?_
        refine e_if_f (mt d8.mp q8) ?_
        exact f1
theorem cr_runL {T : TW} (hT : TOK T) {kd tl : Nat → Nat} (hk : KOK kd tl) {n c x p D : Nat} {tn : Nat → Nat} (hr : ROK c tn) (hn : 1 ≤ n ∧ n ≤ 4) (hx : x < szR n) (hv : VR T x) (hp : p < c) (hD : D ≤ 60) (a2 : Int32) (k : Int32 → Int32 → Int32 → SS → Res) :
    ∀ (m N d : Nat) (s : SS), d + m = D → m < N → RT_ T n s → RKD kd tl s → RTR c tn s → s 56 6 = iI p → ∃ t : SS, lp_X12_run_57 (iI D) a2 k N (iI (itR T kd tl n c tn x p d)) (rsm T kd tl n c tn x p a2 d) (mdR T kd tl n c tn x p d) (iI d) s = k (iI (itR T kd tl n c tn x p D)) (rsm T kd tl n c tn x p a2 D) (mdR T kd tl n c tn x p D) t ∧ RQ s t ∧ RT_ T n t := by
  intro m
  induction m with
  | zero =>
    intro N d s hd hN hs hc hrc h6
    cases N with
    | zero => omega
    | succ N =>
      obtain rfl : d = D := by omega
      refine ⟨s, ?_, RQ.rf s, hs⟩
      rw [lp_X12_run_57]
      exact e_if_t (by simp (disch := omega) only [Int.toNat_natCast, iI_lt, iI_le, iI_eq, iI_add, iI_sub, iI_mul, iI_neg, iI_clamp, inb_ii]; omega) rfl
  | succ m ih =>
    intro N d s hd hN hs hc hrc h6
    cases N with
    | zero => omega
    | succ N =>
      have hc1 := hr.1
      have hpl : (p + d) % c < c := Nat.mod_lt _ (by omega)
      have hit := itR_ok hT.1 hk hr hn hx hv (p := p) d
      have hit2 := itR_ok hT.1 hk hr hn hx hv (p := p) (d + 1)
      have hcl := cho_le T kd tl hk (n := n) (hr.2 _ hpl) (sz_lt hn hit.1).2
      obtain ⟨s1, e1, e2, e3⟩ := rt_makes hT hk hs hc hn hit.1 hit.2 (hr.2 _ hpl)
      have zb := rr_behind (l := cho T kd tl n (itR T kd tl n c tn x p d) (tn ((p + d) % c))) e3.2.1 hn hit.1 hcl
      have h61 : s1 56 6 = iI p := by rw [e2.2 6 (by unfold rsl; omega) (by omega) (by omega) (by omega)]; exact h6
      have nx : iI (d : Int) + 1 = iI ((d + 1 : Nat) : Int) := by rw [z_1, iI_add]; rfl
      have um : mdR T kd tl n c tn x p (d + 1) = mdR T kd tl n c tn x p d + (if cho T kd tl n (itR T kd tl n c tn x p d) (tn ((p + d) % c)) = 8 then 0 else 1) := rfl
      have us : rsm T kd tl n c tn x p a2 (d + 1) = rsm T kd tl n c tn x p a2 d + (if 0 ≤ a2.toInt ∧ a2.toInt ≤ 3 then wth T n (itR T kd tl n c tn x p (d + 1)) a2.toInt.toNat else 0) := rfl
      have fin : ∀ (v : Int32), v = (if cho T kd tl n (itR T kd tl n c tn x p d) (tn ((p + d) % c)) = 8 then 0 else 1) → ∃ t : SS, (lt (mdR T kd tl n c tn x p d + v) (fun v29 => bdp (f_X12_behind (iI (itR T kd tl n c tn x p d)) (iI (cho T kd tl n (itR T kd tl n c tn x p d) (tn ((p + d) % c)))) s1) (fun v30 => bdp (f_X12_isSort a2 s1) (fun v31 => jn (fun (v32 : Int32) (s33 : SS) => lt (rsm T kd tl n c tn x p a2 d + v32) (fun v35 => lp_X12_run_57 (iI D) a2 k N v30 v35 v29 (iI (d : Int) + 1) s33)) (fun k34 => if v31 = 0 then k34 0 s1 else bd (f_X12_worthOf v30 a2 s1) (fun v37 s38 => k34 v37 s38)))))) = k (iI (itR T kd tl n c tn x p D)) (rsm T kd tl n c tn x p a2 D) (mdR T kd tl n c tn x p D) t ∧ RQ s t ∧ RT_ T n t := by
        intro v hv2
        rw [← hv2] at um
        by_cases q : 0 ≤ a2.toInt ∧ a2.toInt ≤ 3
        · obtain ⟨s2, g1, g2, g3⟩ := rt_worth (p := a2.toInt.toNat) hT e3 hn hit2.1 hit2.2 (by omega)
          rw [show ((a2.toInt.toNat : Nat) : Int) = a2.toInt by omega, ← iI_of] at g1
          have h62 : s2 56 6 = iI p := by rw [g2.2 6 (by unfold rsl; omega) (by omega) (by omega) (by omega)]; exact h61
          obtain ⟨t, f1, f2, f3⟩ := ih N (d + 1) s2 (by omega) (by omega) g3 ((e2.tr g2).k hc) ((e2.tr g2).rr hrc) h62
          refine ⟨t, ?_, (e2.tr g2).tr f2, f3⟩
          refine e_lt ?_
          refine e_bdp zb ?_
          refine e_bdp (isSort_f a2 s1) ?_
          rw [if_pos q]
          refine e_jn ?_
          refine e_if_f (by decide) ?_
          refine e_bd g1 ?_
          refine e_lt ?_
          rw [if_pos q] at us
          rw [nx, ← us, ← um]
          exact f1
        · obtain ⟨t, f1, f2, f3⟩ := ih N (d + 1) s1 (by omega) (by omega) e3 (e2.k hc) (e2.rr hrc) h61
          refine ⟨t, ?_, e2.tr f2, f3⟩
          refine e_lt ?_
          refine e_bdp zb ?_
          refine e_bdp (isSort_f a2 s1) ?_
          rw [if_neg q]
          refine e_jn ?_
          refine e_if_t rfl ?_
          refine e_lt ?_
          rw [if_neg q] at us
          rw [nx, ← us, ← um]
          exact f1
      by_cases q8 : cho T kd tl n (itR T kd tl n c tn x p d) (tn ((p + d) % c)) = 8
      · obtain ⟨t, f1, f2, f3⟩ := fin 0 (by rw [if_pos q8])
        refine ⟨t, ?_, f2, f3⟩
        rw [lp_X12_run_57]
        refine e_if_f (by simp (disch := omega) only [Int.toNat_natCast, iI_lt, iI_le, iI_eq, iI_add, iI_sub, iI_mul, iI_neg, iI_clamp, inb_ii]; omega) ?_
        refine e_bdp (rt_on hr hrc h6 hp (by omega)) ?_
        refine e_bd e1 ?_
        refine e_jn ?_
        refine e_if_t (by simp (disch := omega) only [Int.toNat_natCast, iI_lt, iI_le, iI_eq, iI_add, iI_sub, iI_mul, iI_neg, iI_clamp, inb_ii, z_8]; omega) ?_
        exact f1
      · obtain ⟨t, f1, f2, f3⟩ := fin 1 (by rw [if_neg q8])
        refine ⟨t, ?_, f2, f3⟩
        rw [lp_X12_run_57]
        refine e_if_f (by simp (disch := omega) only [Int.toNat_natCast, iI_lt, iI_le, iI_eq, iI_add, iI_sub, iI_mul, iI_neg, iI_clamp, inb_ii]; omega) ?_
        refine e_bdp (rt_on hr hrc h6 hp (by omega)) ?_
        refine e_bd e1 ?_
        refine e_jn ?_
        refine e_if_f (by simp (disch := omega) only [Int.toNat_natCast, iI_lt, iI_le, iI_eq, iI_add, iI_sub, iI_mul, iI_neg, iI_clamp, inb_ii, z_8]; omega) ?_
        exact f1
def ansRun (T : TW) (kd tl : Nat → Nat) (n c : Nat) (tn : Nat → Nat) (x p : Nat) (a1 a2 : Int32) : Int32 :=
  if a1.toInt < 1 ∨ 60 < a1.toInt then -1000000 else if a2.toInt = 20 then mdR T kd tl n c tn x p a1.toInt.toNat else if 0 ≤ a2.toInt ∧ a2.toInt ≤ 3 then rsm T kd tl n c tn x p a2 a1.toInt.toNat else if 10 ≤ a2.toInt ∧ a2.toInt ≤ 13 then ansAt (a2 - 10) (itR T kd tl n c tn x p a1.toInt.toNat) else -1000000
theorem sub10 {a : Int32} (h : 10 ≤ a.toInt ∧ a.toInt ≤ 13) : (a - 10).toInt = a.toInt - 10 := by
  rw [iI_of a, z_10, iI_sub, iI_toInt (by omega), iI_toInt (by omega)]
theorem cc_run {T : TW} (hT : TOK T) {kd tl : Nat → Nat} (hk : KOK kd tl) {n c x p : Nat} {tn : Nat → Nat} (hr : ROK c tn) (hn : 1 ≤ n ∧ n ≤ 4) (hx : x < szR n) (hv : VR T x) (hp : p < c) (a1 a2 : Int32) {s : SS} (hs : CT_ T s) (hc : CKD kd tl s) (hrc : RTC c tn s) (hw : s 52 0 = wl_ n x) (hp2 : s 52 1 = iI p) : ∃ t : SS, f_X11_run a1 a2 s = some (ansRun T kd tl n c tn x p a1 a2, t) ∧ CQ s t ∧ CT_ T t := by
  unfold f_X11_run ansRun
  by_cases q1 : a1.toInt < 1 ∨ 60 < a1.toInt
  · refine ⟨s, ?_, CQ.rf s, hs⟩
    rw [if_pos q1]
    have out : ∀ (v : Int32) (r : Res), (if a1 < 1 then some ((-1000000 : Int32), s) else if 60 < a1 then some (-1000000, s) else if v = 0 then some (-1000000, s) else r) = some (-1000000, s) := by
      intro v r
      by_cases q2 : a1 < 1
      · exact e_if_t q2 rfl
      · refine e_if_f q2 ?_
        refine e_if_t ?_ rfl
        rw [lt32] at q2 ⊢
        have : (1 : Int32).toInt = 1 := rfl
        have : (60 : Int32).toInt = 60 := rfl
        omega
    refine e_bdp (within_f a2 3 s) ?_
    refine e_jn ?_
    refine e_jn ?_
    have o2 : ∀ r r2 : Res, r = some (-1000000, s) → r2 = some (-1000000, s) → (if a2 = 20 then r else r2) = some (-1000000, s) := by
      intro r r2 h1 h2
      by_cases w : a2 = 20
      · exact e_if_t w h1
      · exact e_if_f w h2
    by_cases z1 : (if 0 ≤ a2.toInt ∧ a2.toInt ≤ (3 : Int32).toInt then (1 : Int32) else 0) = 0
    · refine e_if_t z1 ?_
      refine e_jn ?_
      by_cases z2 : a2 < 10
      · refine e_if_t z2 ?_
        exact o2 _ _ (out _ _) (out _ _)
      · refine e_if_f z2 ?_
        by_cases z3 : a2 ≤ 13
        · exact e_if_t z3 (out _ _)
        · refine e_if_f z3 ?_
          exact o2 _ _ (out _ _) (out _ _)
    · exact e_if_f z1 (out _ _)
  · rw [if_neg q1]
    obtain ⟨D, hD, rfl⟩ : ∃ D : Nat, (1 ≤ D ∧ D ≤ 60) ∧ a1 = iI D := ⟨a1.toInt.toNat, by omega, by rw [show ((a1.toInt.toNat : Nat) : Int) = a1.toInt by omega]; exact iI_of a1⟩
    have eD : (iI (D : Int)).toInt.toNat = D := by rw [iI_toInt (by omega)]; omega
    rw [eD]
    have n1 : ¬ iI (D : Int) < 1 := by simp (disch := omega) only [Int.toNat_natCast, iI_lt, iI_le, iI_eq, iI_add, iI_sub, iI_mul, iI_neg, iI_clamp, inb_ii, z_1]; omega
    have n2 : ¬ (60 : Int32) < iI (D : Int) := by simp (disch := omega) only [Int.toNat_natCast, iI_lt, iI_le, iI_eq, iI_add, iI_sub, iI_mul, iI_neg, iI_clamp, inb_ii, z_60]; omega
    have fin : ∀ (ha : (0 ≤ a2.toInt ∧ a2.toInt ≤ 3) ∨ 3 < a2.toInt) (k : Int32 → Int32 → Int32 → SS → Res), ∃ t : SS, lp_X11_run_77 (iI D) a2 k FU (s 52 0) (s 52 1) 0 0 0 s = k (wl_ n (itR T kd tl n c tn x p D)) (rsm T kd tl n c tn x p a2 D) (mdR T kd tl n c tn x p D) t ∧ CQ s t ∧ CT_ T t := by
      intro ha k
      have := cc_runL (p := p) hT hk hr hn hx hv hD.2 a2 ha k D FU 0 s (by omega) (fu_lt (by omega)) hs hc hrc
      rw [hw, hp2]
      rw [Nat.add_zero, Nat.mod_eq_of_lt hp] at this
      exact this
    have hit := itR_ok hT.1 hk hr hn hx hv (p := p) D
    by_cases q20 : a2.toInt = 20
    · obtain ⟨t, e1, e2, e3⟩ := fin (by omega) (fun v9 v10 v11 s12 => if a2 = 20 then some (v11, s12) else if 3 < a2 then bdp (f_X6_lawOn v9 (a2 - 10) s12) (fun v16 => some (v16, s12)) else some (v10, s12))
      refine ⟨t, ?_, e2, e3⟩
      have w : a2 = 20 := by rw [← Int32.toInt_inj]; exact q20
      refine e_bdp (within_f a2 3 s) ?_
      have w3 : (3 : Int32).toInt = 3 := rfl
      rw [if_neg (by omega), if_pos q20]
      refine e_jn ?_
      refine e_jn ?_
      refine e_if_t rfl ?_
      refine e_jn ?_
      refine e_if_f (by rw [w]; decide) ?_
      refine e_if_f (by rw [w]; decide) ?_
      refine e_if_t w ?_
      refine e_if_f n1 ?_
      refine e_if_f n2 ?_
      refine e_if_f (by decide) ?_
      refine e_lt ?_
      refine e_lt ?_
      refine e_jn ?_
      refine e1.trans ?_
      exact e_if_t w rfl
    · have w : ¬ a2 = 20 := by intro h; apply q20; rw [h]; rfl
      rw [if_neg q20]
      have w3 : (3 : Int32).toInt = 3 := rfl
      by_cases q3 : 0 ≤ a2.toInt ∧ a2.toInt ≤ 3
      · obtain ⟨t, e1, e2, e3⟩ := fin (by omega) (fun v9 v10 v11 s12 => if a2 = 20 then some (v11, s12) else if 3 < a2 then bdp (f_X6_lawOn v9 (a2 - 10) s12) (fun v16 => some (v16, s12)) else some (v10, s12))
        refine ⟨t, ?_, e2, e3⟩
        refine e_bdp (within_f a2 3 s) ?_
        rw [if_pos (by omega), if_pos q3]
        refine e_jn ?_
        refine e_jn ?_
        refine e_if_f (by decide) ?_
        refine e_if_f n1 ?_
        refine e_if_f n2 ?_
        refine e_if_f (by decide) ?_
        refine e_lt ?_
        refine e_lt ?_
        refine e_jn ?_
        refine e1.trans ?_
        refine e_if_f w ?_
        exact e_if_f (by rw [lt32]; omega) rfl
      · rw [if_neg q3]
        by_cases q4 : 10 ≤ a2.toInt ∧ a2.toInt ≤ 13
        · obtain ⟨t, e1, e2, e3⟩ := fin (by omega) (fun v9 v10 v11 s12 => if a2 = 20 then some (v11, s12) else if 3 < a2 then bdp (f_X6_lawOn v9 (a2 - 10) s12) (fun v16 => some (v16, s12)) else some (v10, s12))
          refine ⟨t, ?_, e2, e3⟩
          refine e_bdp (within_f a2 3 s) ?_
          rw [if_neg (by omega), if_pos q4]
          have w10 : (10 : Int32).toInt = 10 := rfl
          have w13 : (13 : Int32).toInt = 13 := rfl
          refine e_jn ?_
          refine e_jn ?_
          refine e_if_t rfl ?_
          refine e_jn ?_
          refine e_if_f (by rw [lt32]; omega) ?_
          refine e_if_t (by rw [le32]; omega) ?_
          refine e_if_f n1 ?_
          refine e_if_f n2 ?_
          refine e_if_f (by decide) ?_
          refine e_lt ?_
          refine e_lt ?_
          refine e_jn ?_
          refine e1.trans ?_
          refine e_if_f w ?_
          refine e_if_t (by rw [lt32]; omega) ?_
          refine e_bdp (v := ansAt (a2 - 10) (itR T kd tl n c tn x p D)) ?_ rfl
          unfold ansAt
          by_cases q : 0 ≤ (a2 - 10).toInt ∧ (a2 - 10).toInt ≤ (mny (itR T kd tl n c tn x p D) : Int) - 1
          · rw [if_pos q]
            have := rw_lawOn (i := (a2 - 10).toInt.toNat) e3.1 hn hit.1 (by omega)
            rw [show (((a2 - 10).toInt.toNat : Nat) : Int) = (a2 - 10).toInt by omega, ← iI_of] at this
            exact this
          · rw [if_neg q]
            exact rw_lawOn_out e3.1 hn hit.1 (by omega)
        · rw [if_neg q4]
          refine ⟨s, ?_, CQ.rf s, hs⟩
          refine e_bdp (within_f a2 3 s) ?_
          rw [if_neg (by omega)]
          have w10 : (10 : Int32).toInt = 10 := rfl
          have w13 : (13 : Int32).toInt = 13 := rfl
          have out : ∀ r : Res, (if iI (D : Int) < 1 then some ((-1000000 : Int32), s) else if 60 < iI (D : Int) then some (-1000000, s) else if (0 : Int32) = 0 then some (-1000000, s) else r) = some (-1000000, s) := by
            intro r
            refine e_if_f n1 ?_
            refine e_if_f n2 ?_
            exact e_if_t rfl rfl
          refine e_jn ?_
          refine e_jn ?_
          refine e_if_t rfl ?_
          refine e_jn ?_
          by_cases q5 : a2 < 10
          · refine e_if_t q5 ?_
            refine e_if_f w ?_
            exact out _
          · refine e_if_f q5 ?_
            refine e_if_f (by rw [lt32] at q5; rw [le32]; omega) ?_
            refine e_if_f w ?_
            exact out _
theorem cr_run {T : TW} (hT : TOK T) {kd tl : Nat → Nat} (hk : KOK kd tl) {n c x p : Nat} {tn : Nat → Nat} (hr : ROK c tn) (hn : 1 ≤ n ∧ n ≤ 4) (hx : x < szR n) (hv : VR T x) (hp : p < c) (a1 a2 : Int32) {s : SS} (hs : RT_ T n s) (hc : RKD kd tl s) (hrc : RTR c tn s) (hw : s 56 4 = iI x) (hp2 : s 56 6 = iI p) : ∃ t : SS, f_X12_run a1 a2 s = some (ansRun T kd tl n c tn x p a1 a2, t) ∧ RQ s t ∧ RT_ T n t := by
  unfold f_X12_run ansRun
  have l1 : f_X12_lies (a1.toInt64) 1 60 s = some (if 1 ≤ a1.toInt ∧ a1.toInt ≤ 60 then 1 else 0) := by rw [lies_f, i64_toInt]; rfl
  have l2 : f_X12_lies (a2.toInt64) 10 13 s = some (if 10 ≤ a2.toInt ∧ a2.toInt ≤ 13 then 1 else 0) := by rw [lies_f, i64_toInt]; rfl
  by_cases q1 : a1.toInt < 1 ∨ 60 < a1.toInt
  · refine ⟨s, ?_, RQ.rf s, hs⟩
    rw [if_pos q1]
    rw [if_neg (by omega)] at l1
    refine e_bdp l1 ?_
    exact e_if_t rfl rfl
  · rw [if_neg q1]
    rw [if_pos (by omega)] at l1
    obtain ⟨D, hD, rfl⟩ : ∃ D : Nat, (1 ≤ D ∧ D ≤ 60) ∧ a1 = iI D := ⟨a1.toInt.toNat, by omega, by rw [show ((a1.toInt.toNat : Nat) : Int) = a1.toInt by omega]; exact iI_of a1⟩
    have eD : (iI (D : Int)).toInt.toNat = D := by rw [iI_toInt (by omega)]; omega
    rw [eD]
    have fin : ∀ (k : Int32 → Int32 → Int32 → SS → Res), ∃ t : SS, lp_X12_run_57 (iI D) a2 k FU (s 56 4) 0 0 0 s = k (iI (itR T kd tl n c tn x p D)) (rsm T kd tl n c tn x p a2 D) (mdR T kd tl n c tn x p D) t ∧ RQ s t ∧ RT_ T n t := by
      intro k
      have := cr_runL hT hk hr hn hx hv hp hD.2 a2 k D FU 0 s (by omega) (fu_lt (by omega)) hs hc hrc hp2
      rw [hw]
      exact this
    have hit := itR_ok hT.1 hk hr hn hx hv (p := p) D
    by_cases q20 : a2.toInt = 20
    · obtain ⟨t, e1, e2, e3⟩ := fin (fun v6 v7 v8 s9 => if a2 = 20 then some (v8, s9) else bdp (f_X12_isSort a2 s9) (fun v12 => if v12 = 0 then bd (f_X12_laysRow v6 s9) (fun v14 s15 => if s15 56 48 ≤ a2 - 10 then some (-1, s15) else gd (inb (a2 - 10) 4) (some (s15 80 (Int32.toNatClampNeg (a2 - 10)), s15))) else some (v7, s9)))
      refine ⟨t, ?_, e2, e3⟩
      refine e_bdp l1 ?_
      refine e_if_f (by decide) ?_
      refine e_bdp (isSort_f a2 s) ?_
      refine e_jn ?_
      have w : a2 = 20 := by rw [← Int32.toInt_inj]; exact q20
      rw [if_neg (show ¬ (0 ≤ a2.toInt ∧ a2.toInt ≤ 3) by omega), if_pos q20]
      refine e_if_t rfl ?_
      refine e_if_t w ?_
      refine e_lt ?_
      refine e_jn ?_
      refine e1.trans ?_
      exact e_if_t w rfl
    · have w : ¬ a2 = 20 := by intro h; apply q20; rw [h]; rfl
      rw [if_neg q20]
      by_cases q3 : 0 ≤ a2.toInt ∧ a2.toInt ≤ 3
      · obtain ⟨t, e1, e2, e3⟩ := fin (fun v6 v7 v8 s9 => if a2 = 20 then some (v8, s9) else bdp (f_X12_isSort a2 s9) (fun v12 => if v12 = 0 then bd (f_X12_laysRow v6 s9) (fun v14 s15 => if s15 56 48 ≤ a2 - 10 then some (-1, s15) else gd (inb (a2 - 10) 4) (some (s15 80 (Int32.toNatClampNeg (a2 - 10)), s15))) else some (v7, s9)))
        refine ⟨t, ?_, e2, e3⟩
        refine e_bdp l1 ?_
        refine e_if_f (by decide) ?_
        refine e_bdp (isSort_f a2 s) ?_
        refine e_jn ?_
        rw [if_pos q3, if_pos q3]
        refine e_if_f (by decide) ?_
        refine e_lt ?_
        refine e_jn ?_
        refine e1.trans ?_
        refine e_if_f w ?_
        refine e_bdp (isSort_f a2 t) ?_
        rw [if_pos q3]
        exact e_if_f (by decide) rfl
      · rw [if_neg q3]
        by_cases q4 : 10 ≤ a2.toInt ∧ a2.toInt ≤ 13
        · obtain ⟨t, e1, e2, e3⟩ := fin (fun v6 v7 v8 s9 => if a2 = 20 then some (v8, s9) else bdp (f_X12_isSort a2 s9) (fun v12 => if v12 = 0 then bd (f_X12_laysRow v6 s9) (fun v14 s15 => if s15 56 48 ≤ a2 - 10 then some (-1, s15) else gd (inb (a2 - 10) 4) (some (s15 80 (Int32.toNatClampNeg (a2 - 10)), s15))) else some (v7, s9)))
          have hx2 := (sz_lt hn hit.1).2
          obtain ⟨u, g1, g2, g3⟩ := rr_lay hT.1 e3.1 hx2
          refine ⟨u, ?_, e2.tr g2.q, g2.t2 e3⟩
          refine e_bdp l1 ?_
          refine e_if_f (by decide) ?_
          refine e_bdp (isSort_f a2 s) ?_
          refine e_jn ?_
          rw [if_neg q3]
          rw [if_pos q4] at l2 ⊢
          refine e_if_t rfl ?_
          refine e_if_f w ?_
          refine e_bdp l2 ?_
          refine e_if_f (by decide) ?_
          refine e_lt ?_
          refine e_jn ?_
          refine e1.trans ?_
          refine e_if_f w ?_
          refine e_bdp (isSort_f a2 t) ?_
          rw [if_neg q3]
          refine e_if_t rfl ?_
          refine e_bd g1 ?_
          have h4 := mny_le (itR T kd tl n c tn x p D)
          unfold ansAt
          have s10 := sub10 q4
          by_cases q : 0 ≤ (a2 - 10).toInt ∧ (a2 - 10).toInt ≤ (mny (itR T kd tl n c tn x p D) : Int) - 1
          · rw [if_pos q]
            refine e_if_f (by rw [g3.1, le32, iI_toInt (by omega)]; omega) ?_
            refine e_gd ⟨by omega, by omega⟩ ?_
            have : Int32.toNatClampNeg (a2 - 10) = (a2 - 10).toInt.toNat := rfl
            rw [this, g3.2.1 _ (by omega)]
          · rw [if_neg q]
            exact e_if_t (by rw [g3.1, le32, iI_toInt (by omega)]; omega) rfl
        · rw [if_neg q4] at l2 ⊢
          refine ⟨s, ?_, RQ.rf s, hs⟩
          refine e_bdp l1 ?_
          refine e_if_f (by decide) ?_
          refine e_bdp (isSort_f a2 s) ?_
          refine e_jn ?_
          rw [if_neg q3]
          refine e_if_t rfl ?_
          refine e_if_f w ?_
          refine e_bdp l2 ?_
          exact e_if_t rfl rfl
