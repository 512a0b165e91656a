/-! text: a step, the reference's half and both -/
variable {T : TW} {kd tl tn : Nat → Nat} {n c x p dy X k x2 p2 dy2 X2 k2 z cl : Nat} {en : Nat → Nat → Int32} {kf : Bool} {b : Nat → Nat} {d : Nat → Int32} {ed : Nat} {s t u : SS}
noncomputable def K11 : SS → Res := fun (s10 : SS) => if (0 : Int32) ≤ (s10 56 32) then jn (fun (s13 : SS) => jn (fun (s15 : SS) => lts (up s15 56 17 (s15 56 33)) (fun (s17 : SS) => bd (f_X12_changes s17) (fun (_v18 : Int32) (s19 : SS) => some (s19 56 17, s19)))) (fun (k16 : SS → Res) => lp_X12_text_206 k16 FU 0 s13)) (fun (k14 : SS → Res) => lp_X12_text_142 k14 FU 0 s10) else some (s10 56 32, s10)
theorem rt_read {A : Nat} {b : Nat → Nat} (hA : 1 ≤ A ∧ A ≤ 200 ∧ A ≤ z) (ho : TPO z b) (h5 : TPR z b s) : ∃ t, f_X12_text (iI A) s = K11 t ∧ (∀ q, (q < 71 ∧ q ≠ 56) ∨ 77 < q → t q = s q) ∧ (∀ i, (i < 30 ∨ 38 < i) → i ≠ 1 → t 56 i = s 56 i) ∧ t 56 1 = 0 ∧ (∀ f, pText (chA b A) A = .error f → FLR f t) ∧ ∀ cs, pText (chA b A) A = .ok cs → 1 ≤ cs.length ∧ ∃ p2 k2, RTX (chA b A) A p2 k2 t ∧ TR cs k2 t := by
  have hz := ho.1
  have hc : OKC (chA b A) A := chA_ok hA.2.1 hA.2.2 ho.2
  let s9 : SS := up (up (up (up (up (up s 56 1 0) 56 30 0) 56 31 (iI A)) 56 32 0) 56 33 0) 56 34 0
  have q9 : ∀ q, q ≠ 56 → s9 q = s q := fun q hq => by
    show up (up (up (up (up (up s 56 1 0) 56 30 0) 56 31 (iI A)) 56 32 0) 56 33 0) 56 34 0 q = _
    rw [up_cell hq, up_cell hq, up_cell hq, up_cell hq, up_cell hq, up_cell hq]
  have i9 : ∀ i, (i < 30 ∨ 38 < i) → i ≠ 1 → s9 56 i = s 56 i := fun i hi h1 => by
    show up (up (up (up (up (up s 56 1 0) 56 30 0) 56 31 (iI A)) 56 32 0) 56 33 0) 56 34 0 56 i = _
    rw [up_slot (by omega), up_slot (by omega), up_slot (by omega), up_slot (by omega), up_slot (by omega), up_slot h1]
  have hs : RTX (chA b A) A 0 0 s9 := by
    refine ⟨rfl, rfl, rfl, rfl, fun i hi => ?_, Nat.le_refl _, Nat.zero_le _⟩
    rw [q9 57 (by omega), h5.2 i (by omega)]
    unfold chA
    rw [if_pos hi]
  have ht : TR [] 0 s9 := ⟨by decide, rfl, fun i c e => by simp at e⟩
  obtain ⟨MF, mf1, mf2⟩ := fu_2
  have mf3 := fu_lt (n := 1000) (by omega)
  obtain ⟨u, e1, e2, e3, e4⟩ := rf_clause hc hs ht
  have l1 : f_X12_lies ((iI (A : Int)).toInt64) 1 200 s = some (if 1 ≤ (iI (A : Int)).toInt ∧ (iI (A : Int)).toInt ≤ 200 then 1 else 0) := by rw [lies_f, i64_toInt]; rfl
  have head : ∀ r, ACK K11 (MF + 1) u = r → f_X12_text (iI A) s = r := by
    intro r hr
    unfold f_X12_text
    refine e_bdp l1 ?_
    rw [iI_toInt (by omega), if_pos (show 1 ≤ (A : Int) ∧ (A : Int) ≤ 200 by omega)]
    refine e_if_f (by decide) ?_
    refine e_if_t (by rw [h5.1]; simp (disch := omega) only [Int.toNat_natCast, iI_lt, iI_le, iI_eq, iI_add, iI_sub, iI_mul, iI_neg, iI_clamp, inb_ii]; omega) ?_
    refine e_lts ?_
    refine e_lts ?_
    refine e_lts ?_
    refine e_lts ?_
    refine e_lts ?_
    refine e_lts ?_
    refine e_jn ?_
    show lp_X12_text_54 K11 FU 1 s9 = r
    rw [← hr]
    conv => lhs; rw [mf1]
    exact tx_cl hs e1
  have F : ∀ t, FRX u t → (∀ q, (q < 71 ∧ q ≠ 56) ∨ 77 < q → t q = s q) ∧ (∀ i, (i < 30 ∨ 38 < i) → i ≠ 1 → t 56 i = s 56 i) ∧ t 56 1 = 0 := by
    intro t h
    have h2 := e2.tr h
    refine ⟨fun q hq => (h2.1 q hq).trans (q9 q (by omega)), fun i hi h1 => (h2.2 i hi).trans (i9 i hi h1), (h2.2 1 (by omega)).trans rfl⟩
  unfold pText
  cases c : pCl (chA b A) 0 0 with
  | error f =>
    have hf := e3 f c
    obtain ⟨F1, F2, F3⟩ := F u (FRX.rf u)
    exact ⟨u, head _ (ac_f hf (by omega)), F1, F2, F3, (fun f2 w => by cases w; exact hf), (fun r w => by cases w)⟩
  | ok r =>
    obtain ⟨k2, b1, b2⟩ := e4 r c
    obtain ⟨t, g1, g2, g3, g4⟩ := rt_tx hc K11 14 (MF + 1) r.1 k2 [r.2] u rfl (by omega) b1 b2
    obtain ⟨F1, F2, F3⟩ := F t g2
    exact ⟨t, head _ g1, F1, F2, F3, g3, g4⟩
theorem cr_text {A : Nat} (hA : 1 ≤ A ∧ A ≤ 200 ∧ A ≤ z) (h : JR T kd tl n c tn x p dy X k en kf x2 p2 dy2 X2 k2 z b d cl s) : (∀ f, pText (chA b A) A = .error f → ∃ t, f_X12_text (iI A) s = some (iI (-(f : Int)), t) ∧ JR T kd tl n c tn x p dy X k en kf x2 p2 dy2 X2 k2 0 b d cl t ∧ KC s t) ∧ ∀ cs, pText (chA b A) A = .ok cs → ∃ t, f_X12_text (iI A) s = some (iI cs.length, t) ∧ JR (txT T cs) kd tl n c tn x p dy X k en kf x2 p2 dy2 X2 k2 0 b d cs.length t ∧ KC s t := by
  obtain ⟨h1, h2, h3, h4, h5, h6, h7, h8, h9⟩ := id h
  have ho := h1.2.2.2.2.2.1
  obtain ⟨t, e1, tq, t0, t1, e3, e4⟩ := rt_read hA ho h5
  refine ⟨fun f cf => ?_, fun cs cf => ?_⟩
  · have hf := e3 f cf
    refine ⟨t, ?_, ⟨h1.z0, ?_, by rw [t0 4 (by omega) (by omega), t0 6 (by omega) (by omega), t0 7 (by omega) (by omega), t0 8 (by omega) (by omega), t0 9 (by omega) (by omega)]; exact h3, by rw [tq 85 (by omega), tq 86 (by omega), tq 87 (by omega), tq 88 (by omega)]; exact h4, ⟨t1, fun i hi => absurd hi (Nat.not_lt_zero i)⟩, by rw [tq 94 (by omega)]; exact h6, by rw [t0 68 (by omega) (by omega)]; exact h7, by rw [t0 69 (by omega) (by omega), t0 70 (by omega) (by omega), t0 71 (by omega) (by omega), t0 72 (by omega) (by omega), t0 73 (by omega) (by omega)]; exact h8, by rw [t0 17 (by omega) (by omega)]; exact h9⟩, fun q hq => tq q (by omega)⟩
    · rw [e1]
      unfold K11
      have := hf.2
      rw [hf.1]
      exact e_if_f (by simp (disch := omega) only [Int.toNat_natCast, iI_lt, iI_le, iI_eq, iI_add, iI_sub, iI_mul, iI_neg, iI_clamp, inb_ii, z_0]; omega) rfl
    · obtain ⟨⟨r1, r2, r3, r4⟩, y2, y3⟩ := h2
      refine ⟨⟨?_, by rw [t0 3 (by omega) (by omega)]; exact r2, r3.of (fun q _ _ => tq q (by omega)) (t0 17 (by omega) (by omega)), ?_⟩, ?_, ?_⟩
      · unfold RTB at r1 ⊢
        rw [t0 2 (by omega) (by omega), tq 58 (by omega), tq 59 (by omega), tq 60 (by omega), tq 61 (by omega)]
        exact r1
      · unfold RCH at r4 ⊢
        rw [tq 81 (by omega), tq 82 (by omega), tq 83 (by omega), tq 84 (by omega)]
        exact r4
      · unfold RKD at y2 ⊢
        rw [tq 63 (by omega), tq 64 (by omega)]
        exact y2
      · unfold RTR at y3 ⊢
        rw [t0 5 (by omega) (by omega), tq 62 (by omega)]
        exact y3
  · obtain ⟨l1, p9, k9, x1, x2⟩ := e4 cs cf
    have hk9 : k9 ≤ 200 := by have := x1.2.2.2.2.2; omega
    have hfu := fu_lt (n := 1000) (by omega)
    let K16 : SS → Res := fun (s15 : SS) => lts (up s15 56 17 (s15 56 33)) (fun (s17 : SS) => bd (f_X12_changes s17) (fun (_v18 : Int32) (s19 : SS) => some (s19 56 17, s19)))
    obtain ⟨ta, a1, a2, a3, a4⟩ := cpA (K := fun (s13 : SS) => jn K16 (fun (k16 : SS → Res) => lp_X12_text_206 k16 FU 0 s13)) (L := cs.length) x2.1 cs.length FU 0 t (by omega) (by have := x2.1; omega) x2.2.1
    have ta34 : ta 56 34 = iI k9 := by rw [a2 56 (by omega)]; exact x1.2.2.2.1
    obtain ⟨tb, b1, b2, b3, b4⟩ := cpB (K := K16) (L := k9) hk9 k9 FU 0 ta (by omega) (by omega) ta34
    let tc : SS := up tb 56 17 (iI cs.length)
    obtain ⟨td, c1, c2, c3⟩ := rr_changes tc
    have tb33 : tb 56 33 = iI cs.length := by rw [b2 56 (by omega), a2 56 (by omega)]; exact x2.2.1
    have tcq : ∀ q, q ≠ 56 → (q < 65 ∨ 70 < q) → tc q = t q := fun q h56 hq => by
      show up tb 56 17 _ q = _
      rw [up_cell h56, b2 q (by omega), a2 q (by omega)]
    have tdq : ∀ q, q ≠ 56 → q ≠ 81 → q ≠ 83 → (q < 65 ∨ (70 < q ∧ q < 71) ∨ 77 < q) → td q = s q := fun q h56 h81 h83 hq => by
      rw [c2 q h81 h83, tcq q h56 (by omega)]
      exact tq q (by omega)
    have td0 : ∀ i, i ≠ 17 → i ≠ 1 → (i < 30 ∨ 38 < i) → td 56 i = s 56 i := fun i h17 h1 hi => by
      rw [c2 56 (by omega) (by omega)]
      show up tb 56 17 _ 56 i = _
      rw [up_slot h17, b2 56 (by omega), a2 56 (by omega)]
      exact t0 i hi h1
    have td17 : td 56 17 = iI cs.length := by
      rw [c2 56 (by omega) (by omega)]
      exact up_at _ _ _ _
    have td1 : td 56 1 = 0 := by
      rw [c2 56 (by omega) (by omega)]
      show up tb 56 17 _ 56 1 = _
      rw [up_slot (by omega), b2 56 (by omega), a2 56 (by omega)]
      exact t1
    have hTRD : TRD cs td := by
      refine ⟨x2.1, td17, fun i cc hic => ?_⟩
      have hi : i < cs.length := (List.getElem?_eq_some_iff.mp hic).1
      obtain ⟨a, m, zz, y1, y2, y3, y4, y5, y6, y7, y8, y9⟩ := x2.2.2 i cc hic
      have ka := y7.1
      have kb := y8.1
      have low : ∀ q, (q = 65 ∨ q = 66 ∨ q = 67 ∨ q = 68) → td q = ta q := fun q hq => by
        rw [c2 q (by omega) (by omega)]
        show up tb 56 17 _ q = _
        rw [up_cell (by omega), b2 q (by omega)]
      obtain ⟨o1, o2, o3, o4⟩ := a3 i (Nat.zero_le _) hi
      have codes : ∀ j, j < zz → td 69 j = t 75 j ∧ td 70 j = t 76 j := fun j hj => by
        have w := b3 j (Nat.zero_le _) (by omega)
        rw [c2 69 (by omega) (by omega), c2 70 (by omega) (by omega)]
        show up tb 56 17 _ 69 j = _ ∧ up tb 56 17 _ 70 j = _
        rw [up_cell (by omega), up_cell (by omega), w.1, w.2, a2 75 (by omega), a2 76 (by omega)]
        exact ⟨rfl, rfl⟩
      refine ⟨a, m, zz, ?_, y2, ?_, ?_, ?_, by omega, y7.of (fun j _ hj => codes j (by omega)), y8.of (fun j _ hj => codes j hj), y9⟩
      · rw [low 65 (by omega), o1]; exact y1
      · rw [show 65 + 1 = 66 from rfl, low 66 (by omega), o2]; exact y3
      · rw [show 65 + 2 = 67 from rfl, low 67 (by omega), o3]; exact y4
      · rw [show 65 + 3 = 68 from rfl, low 68 (by omega), o4]; exact y5
    refine ⟨td, ?_, ⟨h1.tx, ?_, by rw [td0 4 (by omega) (by omega) (by omega), td0 6 (by omega) (by omega) (by omega), td0 7 (by omega) (by omega) (by omega), td0 8 (by omega) (by omega) (by omega), td0 9 (by omega) (by omega) (by omega)]; exact h3, by rw [tdq 85 (by omega) (by omega) (by omega) (by omega), tdq 86 (by omega) (by omega) (by omega) (by omega), tdq 87 (by omega) (by omega) (by omega) (by omega), tdq 88 (by omega) (by omega) (by omega) (by omega)]; exact h4, ⟨td1, fun i hi => absurd hi (Nat.not_lt_zero i)⟩, by rw [tdq 94 (by omega) (by omega) (by omega) (by omega)]; exact h6, by rw [td0 68 (by omega) (by omega) (by omega)]; exact h7, by rw [td0 69 (by omega) (by omega) (by omega), td0 70 (by omega) (by omega) (by omega), td0 71 (by omega) (by omega) (by omega), td0 72 (by omega) (by omega) (by omega), td0 73 (by omega) (by omega) (by omega)]; exact h8, td17⟩, fun q hq => tdq q (by omega) (by omega) (by omega) (by omega)⟩
    · rw [e1]
      unfold K11
      refine e_if_t (by rw [x1.2.2.1]; decide) ?_
      refine e_jn ?_
      refine Eq.trans a1 ?_
      refine e_jn ?_
      refine Eq.trans b1 ?_
      show lts (up tb 56 17 (tb 56 33)) _ = _
      rw [tb33]
      refine e_lts ?_
      refine e_bd c1 ?_
      rw [td17]
    · obtain ⟨⟨r1, r2, r3, r4⟩, y2, y3⟩ := h2
      refine ⟨⟨?_, by rw [td0 3 (by omega) (by omega) (by omega)]; exact r2, rvt_tx hTRD, fun y p1 hy _ hp1 => ?_⟩, ?_, ?_⟩
      · unfold RTB at r1 ⊢
        rw [td0 2 (by omega) (by omega) (by omega), tdq 58 (by omega) (by omega) (by omega) (by omega), tdq 59 (by omega) (by omega) (by omega) (by omega), tdq 60 (by omega) (by omega) (by omega) (by omega), tdq 61 (by omega) (by omega) (by omega) (by omega)]
        exact r1
      · have hy2 := (h1.1.sz hy).2
        have := c3 (4 * y + p1) (by omega)
        exact ⟨Or.inl this.1, Or.inl this.2⟩
      · unfold RKD at y2 ⊢
        rw [tdq 63 (by omega) (by omega) (by omega) (by omega), tdq 64 (by omega) (by omega) (by omega) (by omega)]
        exact y2
      · unfold RTR at y3 ⊢
        rw [td0 5 (by omega) (by omega) (by omega), tdq 62 (by omega) (by omega) (by omega) (by omega)]
        exact y3
theorem out_text (a : Int32) (hV : JV T kd tl n c tn x p X k kf x2 p2 X2 k2 z b) (he : ed < 1000000) : OUT (f_X11_text a) (f_X12_text a) T kd tl n c tn x p dy X k en kf x2 p2 dy2 X2 k2 z b d cl ed := by
  have ho := hV.2.2.2.2.2.1
  have hz := ho.1
  by_cases q : 1 ≤ a.toInt ∧ a.toInt ≤ 200 ∧ a.toInt ≤ (z : Int)
  · have ea := e_lit (a := a) (k := (a.toInt.toNat : Nat)) (by omega)
    have hA : 1 ≤ a.toInt.toNat ∧ a.toInt.toNat ≤ 200 ∧ a.toInt.toNat ≤ z := by omega
    generalize a.toInt.toNat = A at ea hA
    subst ea
    cases cp : pText (chA b A) A with
    | error f => exact ⟨T, kd, tl, n, c, tn, x, p, dy, X, k, en, kf, x2, p2, dy2, X2, k2, 0, b, d, cl, ed, by omega, iI (-(f : Int)), fun s h => (cc_text hA he h).1 f cp, fun s h => (cr_text hA h).1 f cp⟩
    | ok cs => exact ⟨txT T cs, kd, tl, n, c, tn, x, p, dy, X, k, en, kf, x2, p2, dy2, X2, k2, 0, b, d, cs.length, ed + 1, by omega, iI cs.length, fun s h => (cc_text hA he h).2 cs cp, fun s h => (cr_text hA h).2 cs cp⟩
  · refine out_no (-1) (fun s h => ?_) (fun s h => ?_)
    · have h8 := h.2.2.2.2.2.2.2.1
      unfold f_X11_text
      by_cases q1 : a < 1
      · exact e_if_t q1 rfl
      · refine e_if_f q1 ?_
        by_cases q2 : 200 < a
        · exact e_if_t q2 rfl
        · refine e_if_f q2 ?_
          refine e_bdp (v := iI z) (by unfold f_X9_size; rw [h8.1]) ?_
          refine e_if_f ?_ rfl
          rw [lt32] at q1 q2
          rw [le32, iI_toInt (by omega)]
          have y1 : ¬ a.toInt < 1 := q1
          have y2 : ¬ (200 : Int) < a.toInt := q2
          omega
    · have h5 := h.2.2.2.2.1
      have l1 : f_X12_lies (a.toInt64) 1 200 s = some (if 1 ≤ a.toInt ∧ a.toInt ≤ 200 then 1 else 0) := by rw [lies_f, i64_toInt]; rfl
      unfold f_X12_text
      refine e_bdp l1 ?_
      by_cases q1 : 1 ≤ a.toInt ∧ a.toInt ≤ 200
      · rw [if_pos q1]
        refine e_if_f (by decide) ?_
        refine e_if_f ?_ rfl
        rw [le32, h5.1, iI_toInt (by omega)]
        omega
      · rw [if_neg q1]
        exact e_if_t rfl rfl
