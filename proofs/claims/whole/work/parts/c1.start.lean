/-! the law's start: what the tables and the givens say -/
theorem ar_of {s : State} {args : Array Value} {ty : FieldType} (h : (Cond.arrayClass ty).before args s = true) (hra : ∀ cA : ClassId, s.vm.findClass ("[" ++ ty.toString) = some cA → va_RA s cA ty) : ∃ cA : ClassId, ArrOfT s cA ty ∧ va_RA s cA ty := by
  obtain ⟨cA, kA, comp, h1, h2, h3⟩ := Cond.arrayClass_spec h
  exact ⟨cA, fun n z => ⟨fun k h => (by cases h), kA, h2, comp, h3⟩, hra cA h1⟩
theorem law_K {s : State} {args : Array Value} (hg : ∀ w ∈ gw, w.before args s = true) : ∃ (D : va_G) (T : CT), va_K D vwCl (tysT T) s := by
  obtain ⟨c0, i0, h0⟩ := u_known (T := TX0) (N := 11) hg ugwX0 (hg _ (gwm hs_2 (i := 33) rfl rfl : Cond.instantiable RX0 11 ∈ gw))
  obtain ⟨c1, i1, h1⟩ := u_known (T := TX1) (N := 9) hg ugwX1 (hg _ (gwm hs_1 (i := 80) rfl rfl : Cond.instantiable RX1 9 ∈ gw))
  obtain ⟨c2, i2, h2⟩ := u_known (T := TX2) (N := 6) hg ugwX2 (hg _ (gwm hs_1 (i := 180) rfl rfl : Cond.instantiable RX2 6 ∈ gw))
  obtain ⟨c3, i3, h3⟩ := u_known (T := TX3) (N := 11) hg ugwX3 (hg _ (gwm hs_1 (i := 232) rfl rfl : Cond.instantiable RX3 11 ∈ gw))
  obtain ⟨c4, i4, h4⟩ := u_known (T := TX4) (N := 5) hg ugwX4 (hg _ (gwm hs_1 (i := 114) rfl rfl : Cond.instantiable RX4 5 ∈ gw))
  obtain ⟨c5, i5, h5⟩ := u_known (T := TX5) (N := 6) hg ugwX5 (hg _ (gwm hs_1 (i := 205) rfl rfl : Cond.instantiable RX5 6 ∈ gw))
  obtain ⟨c6, i6, h6⟩ := u_known (T := TX6) (N := 2) hg ugwX6 (hg _ (gwm hs_1 (i := 46) rfl rfl : Cond.instantiable RX6 2 ∈ gw))
  obtain ⟨c7, i7, h7⟩ := u_known (T := TX7) (N := 6) hg ugwX7 (hg _ (gwm hs_2 (i := 74) rfl rfl : Cond.instantiable RX7 6 ∈ gw))
  obtain ⟨c8, i8, h8⟩ := u_known (T := TX8) (N := 5) hg ugwX8 (hg _ (gwm hs_2 (i := 99) rfl rfl : Cond.instantiable RX8 5 ∈ gw))
  obtain ⟨c9, i9, h9⟩ := u_known (T := TX9) (N := 2) hg ugwX9 (hg _ (gwm hs_1 (i := 32) rfl rfl : Cond.instantiable RX9 2 ∈ gw))
  obtain ⟨c10, i10, h10⟩ := u_known (T := TX10) (N := 11) hg ugwX10 (hg _ (gwm hs_1 (i := 139) rfl rfl : Cond.instantiable RX10 11 ∈ gw))
  obtain ⟨c11, i11, h11⟩ := u_known (T := TX11) (N := 16) hg ugwX11 (hg _ (gwm hs_1 (i := 24) rfl rfl : Cond.instantiable RX11 16 ∈ gw))
  obtain ⟨c12, i12, h12⟩ := u_known (T := TX12) (N := 74) hg ugwX12 (hg _ (gwm hs_5 (i := 120) rfl rfl : Cond.instantiable RX12 74 ∈ gw))
  obtain ⟨a0, a0x, a0y⟩ := ar_of (ty := .int) (hg _ ac_int) (fun _ z => z)
  obtain ⟨a1, a1x, a1y⟩ := ar_of (ty := .byte) (hg _ ac_byte) (fun _ z => z)
  obtain ⟨a2, a2x, a2y⟩ := ar_of (ty := .boolean) (hg _ ac_boolean) (fun _ z => z)
  obtain ⟨a3, a3x, a3y⟩ := ar_of (ty := .long) (hg _ ac_long) (fun _ z => z)
  refine ⟨(fun k => match k with | 0 => c0 | 1 => c1 | 2 => c2 | 3 => c3 | 4 => c4 | 5 => c5 | 6 => c6 | 7 => c7 | 8 => c8 | 9 => c9 | 10 => c10 | 11 => c11 | _ => c12, fun k => match k with | 0 => i0 | 1 => i1 | 2 => i2 | 3 => i3 | 4 => i4 | 5 => i5 | 6 => i6 | 7 => i7 | 8 => i8 | 9 => i9 | 10 => i10 | 11 => i11 | _ => i12), fun k => match k with | 0 => a0 | 1 => a1 | 2 => a2 | _ => a3, fun c q hq => ?_, fun k q hq => ?_⟩
  · match c, hq with
    | 0, hq =>
      have e := Option.some.inj (show some (RX0, TX0, 11) = some q from hq)
      subst e
      exact h0
    | 1, hq =>
      have e := Option.some.inj (show some (RX1, TX1, 9) = some q from hq)
      subst e
      exact h1
    | 2, hq =>
      have e := Option.some.inj (show some (RX2, TX2, 6) = some q from hq)
      subst e
      exact h2
    | 3, hq =>
      have e := Option.some.inj (show some (RX3, TX3, 11) = some q from hq)
      subst e
      exact h3
    | 4, hq =>
      have e := Option.some.inj (show some (RX4, TX4, 5) = some q from hq)
      subst e
      exact h4
    | 5, hq =>
      have e := Option.some.inj (show some (RX5, TX5, 6) = some q from hq)
      subst e
      exact h5
    | 6, hq =>
      have e := Option.some.inj (show some (RX6, TX6, 2) = some q from hq)
      subst e
      exact h6
    | 7, hq =>
      have e := Option.some.inj (show some (RX7, TX7, 6) = some q from hq)
      subst e
      exact h7
    | 8, hq =>
      have e := Option.some.inj (show some (RX8, TX8, 5) = some q from hq)
      subst e
      exact h8
    | 9, hq =>
      have e := Option.some.inj (show some (RX9, TX9, 2) = some q from hq)
      subst e
      exact h9
    | 10, hq =>
      have e := Option.some.inj (show some (RX10, TX10, 11) = some q from hq)
      subst e
      exact h10
    | 11, hq =>
      have e := Option.some.inj (show some (RX11, TX11, 16) = some q from hq)
      subst e
      exact h11
    | 12, hq =>
      have e := Option.some.inj (show some (RX12, TX12, 74) = some q from hq)
      subst e
      exact h12
    | k + 13, hq => exact absurd (List.getElem?_eq_some_iff.mp hq).1 (show ¬ k + 13 < 13 by omega)
  · match k, hq with
    | 0, hq =>
      have e := Option.some.inj (show some (a0, FieldType.int) = some q from hq)
      subst e
      exact ⟨a0x, a0y⟩
    | 1, hq =>
      have e := Option.some.inj (show some (a1, FieldType.byte) = some q from hq)
      subst e
      exact ⟨a1x, a1y⟩
    | 2, hq =>
      have e := Option.some.inj (show some (a2, FieldType.boolean) = some q from hq)
      subst e
      exact ⟨a2x, a2y⟩
    | 3, hq =>
      have e := Option.some.inj (show some (a3, FieldType.long) = some q from hq)
      subst e
      exact ⟨a3x, a3y⟩
    | k + 4, hq => exact absurd (List.getElem?_eq_some_iff.mp hq).1 (show ¬ k + 4 < 4 by omega)
set_option maxRecDepth 20000 in
set_option maxHeartbeats 4000000 in
theorem law_SX {s : State} {args : Array Value} (hts : ∀ w ∈ lw_tbl, w.before args s = true) (hgv : (Jvm.Cond.and given_1 narrow_1).before args s = true) : ∃ ad : AD, SX ad (fun q : Nat => s.heap.size ≤ q) s s.heap := by
  have hs := flat_of_before _ hgv
  have hA : ∀ a : Nat, a < s.heap.size → ¬ (fun q : Nat => s.heap.size ≤ q) a := fun a h1 h2 => absurd h1 (Nat.not_lt.mpr h2)
  have j6 : ∀ j : Nat, j < 6 → j = 0 ∨ j = 1 ∨ j = 2 ∨ j = 3 ∨ j = 4 ∨ j = 5 := fun j h => by omega
  obtain ⟨t, ht, hT⟩ := va_Tof (args := args) (s := s) (tm := .static "NineLaws$Rows" "BARE" "[I") (ty := .int) (N := 6) (f := fun j => .int (bareF j)) (A := fun q : Nat => s.heap.size ≤ q) (by decide) (hs _ (by decide +kernel)) (va_eqt (z := 6) (hs _ (by decide +kernel))) (fun j hj => by
    rcases j6 j hj with rfl | rfl | rfl | rfl | rfl | rfl
    · exact va_eqt (z := 0) (hs _ (by decide +kernel))
    · exact va_eqt (z := 0) (hs _ (by decide +kernel))
    · exact va_eqt (z := 9) (hs _ (by decide +kernel))
    · exact va_eqt (z := 82) (hs _ (by decide +kernel))
    · exact va_eqt (z := 667) (hs _ (by decide +kernel))
    · exact va_eqt (z := 5348) (hs _ (by decide +kernel))) hA
  have j11 : ∀ j : Nat, j < 11 → j = 0 ∨ j = 1 ∨ j = 2 ∨ j = 3 ∨ j = 4 ∨ j = 5 ∨ j = 6 ∨ j = 7 ∨ j = 8 ∨ j = 9 ∨ j = 10 := fun j h => by omega
  obtain ⟨adK, adV, hv, hk⟩ := vk_Sof (args := args) (s := s) (N := 1) (tm := fun _ => .string "NineLaws$Parser" 114) (len := [11]) (byt := [factsB]) (A := fun q : Nat => s.heap.size ≤ q) (fun i hi => by rw [show i = 0 by omega]; decide) (fun i hi => hs _ (by decide +kernel)) (fun i hi => hs _ (by decide +kernel)) (fun i hi => hs _ (by decide +kernel)) (fun i hi => by rw [show i = 0 by omega]; exact hs _ (by decide +kernel)) (fun i hi j hj => by
    rw [show i = 0 by omega] at hj ⊢
    rcases j11 j hj with rfl | rfl | rfl | rfl | rfl | rfl | rfl | rfl | rfl | rfl | rfl
    all_goals exact hs _ (by decide +kernel)) (fun i j hi hj hij => absurd (show i = j by omega) hij) hA
  refine ⟨fun k => if k = 1000 then t else if k = 1001 then adK 0 else adV 0, ?_, ?_, ?_, ?_, ?_, ?_⟩
  · exact va_Zof (hts _ (hs_1 _ (List.mem_of_getElem? (i := 59) rfl))) (hts _ (hs_1 _ (List.mem_of_getElem? (i := 3) rfl))) ht hA
  · exact hT
  · exact va_Zof (hts _ (hs_3 _ (List.mem_of_getElem? (i := 93) rfl))) (hts _ (hs_1 _ (List.mem_of_getElem? (i := 15) rfl))) (va_eqi (z := 1) (hs _ (by decide +kernel))) hA
  · exact vk_R.of (A := args) (hts _ (hs_3 _ (List.mem_of_getElem? (i := 79) rfl))) (hk 0 (by decide))
  · exact ⟨fun i hi => by rw [show i = 0 by omega]; exact hv.1 0 (by decide), fun i j hi hj _ => by omega⟩
  · exact NX.of (A := args) hts
