/-! the calls that ask: the class and the reference answer the same words -/
theorem lies_f (a b c : Int64) (s : SS) : f_X12_lies a b c s = some (if b.toInt ≤ a.toInt ∧ a.toInt ≤ c.toInt then 1 else 0) := by
  unfold f_X12_lies
  by_cases q1 : lg_cmp a b < 0
  · rw [if_pos q1, if_neg]
    intro w
    have := (lg_cmp_lt a b).mp q1
    rw [Int64.lt_iff_toInt_lt] at this
    omega
  · rw [if_neg q1]
    have h1 : ¬ a < b := mt (lg_cmp_lt a b).mpr q1
    rw [Int64.lt_iff_toInt_lt] at h1
    by_cases q2 : (0 : Int32) < lg_cmp a c
    · rw [if_pos q2, if_neg]
      intro w
      have := (lg_cmp_gt a c).mp q2
      rw [Int64.lt_iff_toInt_lt] at this
      omega
    · have h2 : ¬ c < a := mt (lg_cmp_gt a c).mpr q2
      rw [Int64.lt_iff_toInt_lt] at h2
      rw [if_neg q2, if_pos ⟨by omega, by omega⟩]
theorem i64_toInt (a : Int32) : (a.toInt64).toInt = a.toInt := by
  exact Int32.toInt_toInt64 a
theorem lit32 (k : Int) (h : -2147483648 ≤ k ∧ k < 2147483648) (a : Int32) : (a = iI k) = (a.toInt = k) := by
  rw [← Int32.toInt_inj, iI_toInt h]
theorem lt32 (a b : Int32) : (a < b) = (a.toInt < b.toInt) := propext Int32.lt_iff_toInt_lt
theorem le32 (a b : Int32) : (a ≤ b) = (a.toInt ≤ b.toInt) := propext Int32.le_iff_toInt_le
theorem zb01 (c : Prop) [Decidable c] : (if c then (1 : Int32) else 0) = 0 ∨ (if c then (1 : Int32) else 0) = 1 := by
  by_cases h : c
  · rw [if_pos h]; exact Or.inr rfl
  · rw [if_neg h]; exact Or.inl rfl
theorem person_f (a : Int32) (s : SS) : f_X11_isPerson a s = some (if 0 ≤ a.toInt ∧ a.toInt ≤ 3 then 1 else 0) := by
  unfold f_X11_isPerson
  by_cases q : a < 0
  · have q9 : a.toInt < 0 := by rw [lt32] at q; exact q
    rw [if_pos q, if_neg (by omega)]
  · have q9 : ¬ a.toInt < 0 := by rw [lt32] at q; exact q
    rw [if_neg q]
    by_cases q2 : 4 ≤ a
    · have q8 : 4 ≤ a.toInt := by rw [le32] at q2; exact q2
      rw [if_pos q2, if_neg (by omega)]
    · have q8 : ¬ 4 ≤ a.toInt := by rw [le32] at q2; exact q2
      rw [if_neg q2, if_pos (by omega)]
theorem within_f (a b : Int32) (s : SS) : f_X11_within a b s = some (if 0 ≤ a.toInt ∧ a.toInt ≤ b.toInt then 1 else 0) := by
  unfold f_X11_within
  by_cases q : a < 0
  · have q9 : a.toInt < 0 := by rw [lt32] at q; exact q
    rw [if_pos q, if_neg (by omega)]
  · have q9 : ¬ a.toInt < 0 := by rw [lt32] at q; exact q
    rw [if_neg q]
    by_cases q2 : b < a
    · have q8 : b.toInt < a.toInt := by rw [lt32] at q2; exact q2
      rw [if_pos q2, if_neg (by omega)]
    · have q8 : ¬ b.toInt < a.toInt := by rw [lt32] at q2; exact q2
      rw [if_neg q2, if_pos (by omega)]
theorem isMaker_f (a : Int32) (s : SS) : f_X12_isMaker a s = some (if 0 ≤ a.toInt ∧ a.toInt ≤ 3 then 1 else 0) := by
  unfold f_X12_isMaker
  refine e_bdp (v := if 0 ≤ a.toInt ∧ a.toInt ≤ 3 then 1 else 0) (by rw [lies_f, i64_toInt]; rfl) ?_
  exact e_gd (zb01 _) rfl
theorem isSort_f (a : Int32) (s : SS) : f_X12_isSort a s = some (if 0 ≤ a.toInt ∧ a.toInt ≤ 3 then 1 else 0) := by
  unfold f_X12_isSort
  refine e_bdp (v := if 0 ≤ a.toInt ∧ a.toInt ≤ 3 then 1 else 0) (by rw [lies_f, i64_toInt]; rfl) ?_
  exact e_gd (zb01 _) rfl
theorem isDeed_f (a : Int32) (s : SS) : f_X12_isDeed a s = some (if 0 ≤ a.toInt ∧ a.toInt ≤ 7 then 1 else 0) := by
  unfold f_X12_isDeed
  refine e_bdp (v := if 0 ≤ a.toInt ∧ a.toInt ≤ 7 then 1 else 0) (by rw [lies_f, i64_toInt]; rfl) ?_
  exact e_gd (zb01 _) rfl
theorem isLawR_f {T : TW} (hT : T.1 ≤ 8) (a : Int32) {s : SS} (h : s 56 2 = iI T.1) : f_X12_isLaw a s = some (if 0 ≤ a.toInt ∧ a.toInt ≤ (T.1 : Int) - 1 then 1 else 0) := by
  unfold f_X12_isLaw
  refine e_bdp (v := if 0 ≤ a.toInt ∧ a.toInt ≤ (T.1 : Int) - 1 then 1 else 0) ?_ ?_
  · rw [lies_f, i64_toInt, i64_toInt, h, z_1, iI_sub, iI_toInt (by omega)]
    rfl
  · exact e_gd (zb01 _) rfl
theorem isLawC_f {T : TW} (hT : T.1 ≤ 8) (a : Int32) {s : SS} (h : s 27 9 = iI T.1) : f_X11_isLaw a s = some (if 0 ≤ a.toInt ∧ a.toInt ≤ (T.1 : Int) - 1 then 1 else 0) := by
  unfold f_X11_isLaw
  by_cases q : a < 0
  · have q9 : a.toInt < 0 := by rw [lt32] at q; exact q
    rw [if_pos q, if_neg (by omega)]
  · have q9 : ¬ a.toInt < 0 := by rw [lt32] at q; exact q
    rw [if_neg q]
    refine e_bdp (v := iI T.1) (by unfold f_X10_lawCount; rw [h]) ?_
    by_cases q2 : iI T.1 ≤ a
    · have q8 : (T.1 : Int) ≤ a.toInt := by rw [le32, iI_toInt (by omega)] at q2; exact q2
      rw [if_pos q2, if_neg (by omega)]
    · have q8 : ¬ (T.1 : Int) ≤ a.toInt := by rw [le32, iI_toInt (by omega)] at q2; exact q2
      rw [if_neg q2, if_pos (by omega)]
theorem per_nat {a : Int32} (h : 0 ≤ a.toInt ∧ a.toInt ≤ 3) : ∃ m : Nat, m < 4 ∧ a = iI m := ⟨a.toInt.toNat, by omega, by rw [show ((a.toInt.toNat : Nat) : Int) = a.toInt by omega]; exact iI_of a⟩
/-- the word that answers, by the maker or sort told -/
def ansP (a bad : Int32) (v : Nat → Int32) : Int32 := if 0 ≤ a.toInt ∧ a.toInt ≤ 3 then v a.toInt.toNat else bad
theorem ansP_in {m : Nat} (hm : m < 4) (bad : Int32) (v : Nat → Int32) : ansP (iI m) bad v = v m := by
  unfold ansP
  rw [iI_toInt (by omega), if_pos (by omega)]
  rfl
theorem ansP_out {a : Int32} (h : ¬ (0 ≤ a.toInt ∧ a.toInt ≤ 3)) (bad : Int32) (v : Nat → Int32) : ansP a bad v = bad := by unfold ansP; rw [if_neg h]
theorem cc_may {T : TW} (hT : TOK T) {n x : Nat} {s : SS} (a : Int32) (hs : CT_ T s) (hn : 1 ≤ n ∧ n ≤ 4) (hx : x < szR n) (hw : s 52 0 = wl_ n x) : ∃ t : SS, f_X11_may a s = some (ansP a (-1) (fun m => may T n x m), t) ∧ CQ s t ∧ CT_ T t := by
  unfold f_X11_may
  by_cases q : 0 ≤ a.toInt ∧ a.toInt ≤ 3
  · obtain ⟨m, hm, rfl⟩ := per_nat q
    obtain ⟨t, e1, e2, e3⟩ := ct_may (p := m) hT hs hn hx hm
    refine ⟨t, ?_, e2, e3⟩
    refine e_bdp (person_ok hm) ?_
    refine e_if_f (by decide) ?_
    rw [hw]
    refine e_bd e1 ?_
    rw [ansP_in hm]
  · refine ⟨s, ?_, CQ.rf s, hs⟩
    refine e_bdp (person_f a s) ?_
    rw [if_neg q, ansP_out q]
    exact e_if_t rfl rfl
theorem cr_may {T : TW} (hT : TOK T) {n x : Nat} {s : SS} (a : Int32) (hs : RT_ T n s) (hn : 1 ≤ n ∧ n ≤ 4) (hx : x < szR n) (hv : VR T x) (hw : s 56 4 = iI x) : ∃ t : SS, f_X12_may a s = some (ansP a (-1) (fun m => may T n x m), t) ∧ RQ s t ∧ RT_ T n t := by
  unfold f_X12_may
  by_cases q : 0 ≤ a.toInt ∧ a.toInt ≤ 3
  · have q0 := q
    obtain ⟨m, hm, rfl⟩ := per_nat q
    obtain ⟨t, e1, e2, e3⟩ := rt_may (p := m) hT hs hn hx hv hm
    refine ⟨t, ?_, e2, e3⟩
    refine e_bdp (isMaker_f _ s) ?_
    rw [if_pos q0, ansP_in hm]
    refine e_if_f (by decide) ?_
    rw [hw]
    exact e_bd e1 rfl
  · refine ⟨s, ?_, RQ.rf s, hs⟩
    refine e_bdp (isMaker_f a s) ?_
    rw [if_neg q, ansP_out q]
    exact e_if_t rfl rfl
theorem cc_worth {T : TW} (hT : TOK T) {n x : Nat} {s : SS} (a : Int32) (hs : CT_ T s) (hn : 1 ≤ n ∧ n ≤ 4) (hx : x < szR n) (hw : s 52 0 = wl_ n x) : ∃ t : SS, f_X11_worth a s = some (ansP a (-1000000) (fun m => wth T n x m), t) ∧ CQ s t ∧ CT_ T t := by
  unfold f_X11_worth
  by_cases q : 0 ≤ a.toInt ∧ a.toInt ≤ 3
  · obtain ⟨m, hm, rfl⟩ := per_nat q
    obtain ⟨t, e1, e2, e3⟩ := ct_worth (p := m) hT hs hn hx hm
    refine ⟨t, ?_, e2, e3⟩
    refine e_bdp (person_ok hm) ?_
    refine e_if_f (by decide) ?_
    rw [hw]
    refine e_bd e1 ?_
    rw [ansP_in hm]
  · refine ⟨s, ?_, CQ.rf s, hs⟩
    refine e_bdp (person_f a s) ?_
    rw [if_neg q, ansP_out q]
    exact e_if_t rfl rfl
theorem cr_worth {T : TW} (hT : TOK T) {n x : Nat} {s : SS} (a : Int32) (hs : RT_ T n s) (hn : 1 ≤ n ∧ n ≤ 4) (hx : x < szR n) (hv : VR T x) (hw : s 56 4 = iI x) : ∃ t : SS, f_X12_worth a s = some (ansP a (-1000000) (fun m => wth T n x m), t) ∧ RQ s t ∧ RT_ T n t := by
  unfold f_X12_worth
  by_cases q : 0 ≤ a.toInt ∧ a.toInt ≤ 3
  · have q0 := q
    obtain ⟨m, hm, rfl⟩ := per_nat q
    obtain ⟨t, e1, e2, e3⟩ := rt_worth (p := m) hT hs hn hx hv hm
    refine ⟨t, ?_, e2, e3⟩
    refine e_bdp (isSort_f _ s) ?_
    rw [if_pos q0, ansP_in hm]
    refine e_if_f (by decide) ?_
    rw [hw]
    exact e_bd e1 rfl
  · refine ⟨s, ?_, RQ.rf s, hs⟩
    refine e_bdp (isSort_f a s) ?_
    rw [if_neg q, ansP_out q]
    exact e_if_t rfl rfl
theorem cc_would {T : TW} (hT : TOK T) {n x : Nat} {s : SS} {kd tl : Nat → Nat} (hk : KOK kd tl) (hc : CKD kd tl s) (a : Int32) (hs : CT_ T s) (hn : 1 ≤ n ∧ n ≤ 4) (hx : x < szR n) (hw : s 52 0 = wl_ n x) : ∃ t : SS, f_X11_would a s = some (ansP a (-1) (fun m => iI (cho T kd tl n x m)), t) ∧ CQ s t ∧ CT_ T t := by
  unfold f_X11_would
  by_cases q : 0 ≤ a.toInt ∧ a.toInt ≤ 3
  · obtain ⟨m, hm, rfl⟩ := per_nat q
    obtain ⟨t, e1, e2, e3⟩ := ct_choice hT hk hs hc hn hx hm
    refine ⟨t, ?_, e2, e3⟩
    refine e_bdp (person_ok hm) ?_
    refine e_if_f (by decide) ?_
    rw [hw]
    refine e_bd e1 ?_
    rw [ansP_in hm]
  · refine ⟨s, ?_, CQ.rf s, hs⟩
    refine e_bdp (person_f a s) ?_
    rw [if_neg q, ansP_out q]
    exact e_if_t rfl rfl
theorem cr_would {T : TW} (hT : TOK T) {n x : Nat} {s : SS} {kd tl : Nat → Nat} (hk : KOK kd tl) (hc : RKD kd tl s) (a : Int32) (hs : RT_ T n s) (hn : 1 ≤ n ∧ n ≤ 4) (hx : x < szR n) (hv : VR T x) (hw : s 56 4 = iI x) : ∃ t : SS, f_X12_would a s = some (ansP a (-1) (fun m => iI (cho T kd tl n x m)), t) ∧ RQ s t ∧ RT_ T n t := by
  unfold f_X12_would
  by_cases q : 0 ≤ a.toInt ∧ a.toInt ≤ 3
  · have q0 := q
    obtain ⟨m, hm, rfl⟩ := per_nat q
    obtain ⟨t, e1, e2, e3⟩ := rt_makes hT hk hs hc hn hx hv hm
    refine ⟨t, ?_, e2, e3⟩
    refine e_bdp (isMaker_f _ s) ?_
    rw [if_pos q0, ansP_in hm]
    refine e_if_f (by decide) ?_
    rw [hw]
    exact e_bd e1 rfl
  · refine ⟨s, ?_, RQ.rf s, hs⟩
    refine e_bdp (isMaker_f a s) ?_
    rw [if_neg q, ansP_out q]
    exact e_if_t rfl rfl
/-- at -/
def ansAt (a : Int32) (x : Nat) : Int32 := if 0 ≤ a.toInt ∧ a.toInt ≤ (mny x : Int) - 1 then iI (lwA x a.toInt.toNat) else -1
theorem cc_at {T : TW} {n x : Nat} {s : SS} (a : Int32) (hs : CT_ T s) (hn : 1 ≤ n ∧ n ≤ 4) (hx : x < szR n) (hw : s 52 0 = wl_ n x) : f_X11_at a s = some (ansAt a x) := by
  unfold f_X11_at ansAt
  rw [hw]
  by_cases q : 0 ≤ a.toInt ∧ a.toInt ≤ (mny x : Int) - 1
  · rw [if_pos q]
    refine e_bdp (v := iI (lwA x a.toInt.toNat)) ?_ rfl
    have := rw_lawOn (i := a.toInt.toNat) hs.1 hn hx (by omega)
    rw [show ((a.toInt.toNat : Nat) : Int) = a.toInt by omega, ← iI_of] at this
    exact this
  · rw [if_neg q]
    exact e_bdp (rw_lawOn_out hs.1 hn hx (by omega)) rfl
theorem cr_at {T : TW} (hT : T.1 ≤ 8) {n x : Nat} {s : SS} (a : Int32) (hs : RT_ T n s) (hx : x < 4681) (hw : s 56 4 = iI x) : ∃ t : SS, f_X12_at a s = some (ansAt a x, t) ∧ RQ s t ∧ RT_ T n t := by
  have h4 := mny_le x
  obtain ⟨t, e1, e2, e3⟩ := rr_lay hT hs.1 hx
  refine ⟨t, ?_, e2.q, e2.t2 hs⟩
  unfold f_X12_at ansAt
  rw [hw]
  refine e_bd e1 ?_
  refine e_bdp (v := if 0 ≤ a.toInt ∧ a.toInt ≤ (mny x : Int) - 1 then 1 else 0) (by rw [lies_f, i64_toInt, i64_toInt, e3.1, z_1, iI_sub, iI_toInt (by omega)]; rfl) ?_
  by_cases q : 0 ≤ a.toInt ∧ a.toInt ≤ (mny x : Int) - 1
  · rw [if_pos q, if_pos q]
    refine e_if_f (by decide) ?_
    refine e_gd ⟨by omega, by omega⟩ ?_
    have : Int32.toNatClampNeg a = a.toInt.toNat := rfl
    rw [this, e3.2.1 _ (by omega)]
  · rw [if_neg q, if_neg q]
    exact e_if_t rfl rfl
/-- holding -/
theorem cc_holding {T : TW} {n x : Nat} {s : SS} (hs : CT_ T s) (hn : 1 ≤ n ∧ n ≤ 4) (hx : x < szR n) (hw : s 52 0 = wl_ n x) : f_X11_holding s = some (hold T x) := by
  unfold f_X11_holding
  rw [hw]
  exact e_bdp (ct_holding hs.1 hs.2.1 hn hx) rfl
theorem laid_hold {T : TW} (hT : T.1 ≤ 8) {x : Nat} (hv : VR T x) (hx : x < 4681) : hI T x T.1 = hold T x := by
  apply b_ext
  intro l hl
  rw [laid_bt hT hv hx hl]
  unfold hold
  rw [hI_bt T x 8 l (Nat.le_refl 8) hl]
  cases e : hcond T x l with
  | false => simp
  | true =>
    have := vr_hcond hv hx hl e
    have h2 : l < 8 := by omega
    simp [h2]
theorem cr_holding {T : TW} (hT : T.1 ≤ 8) {n x : Nat} {s : SS} (hs : RT_ T n s) (hx : x < 4681) (hv : VR T x) (hw : s 56 4 = iI x) : ∃ t : SS, f_X12_holding s = some (hold T x, t) ∧ RQ s t ∧ RT_ T n t := by
  obtain ⟨t, e1, e2, e3⟩ := rr_lay hT hs.1 hx
  refine ⟨t, ?_, e2.q, e2.t2 hs⟩
  unfold f_X12_holding
  rw [hw]
  refine e_bd e1 ?_
  rw [e3.2.2.2, laid_hold hT hv hx]
/-- lawful -/
def ansLf (T : TW) (x : Nat) (d : Nat → Int32) (a : Int32) : Int32 := if 0 ≤ a.toInt ∧ a.toInt ≤ 7 then (if d a.toInt.toNat &&& hold T x = 0 then 1 else 0) else -1
theorem cc_lawful {T : TW} {n x : Nat} {s : SS} {d : Nat → Int32} (a : Int32) (hs : CT_ T s) (hn : 1 ≤ n ∧ n ≤ 4) (hx : x < szR n) (hw : s 52 0 = wl_ n x) (hd : ∀ i, i < 8 → s 54 i = d i) : f_X11_lawful a s = some (ansLf T x d a) := by
  unfold f_X11_lawful ansLf
  by_cases q : a < 0
  · have q9 : a.toInt < 0 := by rw [lt32] at q; exact q
    rw [if_pos q, if_neg (by omega)]
  · have q9 : ¬ a.toInt < 0 := by rw [lt32] at q; exact q
    rw [if_neg q]
    by_cases q2 : a < 8
    · have q8 : a.toInt < 8 := by rw [lt32] at q2; exact q2
      rw [if_pos q2, if_pos (by omega)]
      refine e_gd ⟨by omega, by omega⟩ ?_
      rw [hw]
      refine e_bdp (ct_holding hs.1 hs.2.1 hn hx) ?_
      have : Int32.toNatClampNeg a = a.toInt.toNat := rfl
      rw [this, hd _ (by omega)]
      split <;> rfl
    · have q8 : ¬ a.toInt < 8 := by rw [lt32] at q2; exact q2
      rw [if_neg q2, if_neg (by omega)]
theorem cr_lawful {T : TW} (hT : T.1 ≤ 8) {n x : Nat} {s : SS} {d : Nat → Int32} (a : Int32) (hs : RT_ T n s) (hx : x < 4681) (hv : VR T x) (hw : s 56 4 = iI x) (hd : ∀ i, i < 8 → s 94 i = d i) : ∃ t : SS, f_X12_lawful a s = some (ansLf T x d a, t) ∧ RQ s t ∧ RT_ T n t := by
  unfold f_X12_lawful ansLf
  by_cases q : 0 ≤ a.toInt ∧ a.toInt ≤ 7
  · obtain ⟨t, e1, e2, e3⟩ := rr_lay hT hs.1 hx
    refine ⟨t, ?_, e2.q, e2.t2 hs⟩
    refine e_bdp (isDeed_f a s) ?_
    rw [if_pos q, if_pos q]
    refine e_if_f (by decide) ?_
    rw [hw]
    refine e_bd e1 ?_
    refine e_bdp (v := if d a.toInt.toNat &&& hold T x = 0 then 1 else 0) ?_ rfl
    unfold f_X12_isLawful
    refine e_gd ⟨by omega, by omega⟩ ?_
    have : Int32.toNatClampNeg a = a.toInt.toNat := rfl
    rw [this, e2.1 94 (by omega) (by omega), hd _ (by omega), e3.2.2.2, laid_hold hT hv hx]
    split <;> rfl
  · refine ⟨s, ?_, RQ.rf s, hs⟩
    refine e_bdp (isDeed_f a s) ?_
    rw [if_neg q, if_neg q]
    exact e_if_t rfl rfl
