/-! the law: all rounds -/
variable {l : Launch} {p : Program} {en : Env} {s : State} {m : MethodId} {args : Array Value} {below : List Frame} {meth : Method} {c : Code} {D : va_G} {T : CT} {ad : AD} {A : Nat → Prop} {Cn Sn : Nat} {Q : State → Prop} {rt : Option FieldType}
theorem lw_loop {Lx : Nat} {xs : Nat → Int32} (C : CX "NineLawsLaw" code 4 rt p s m args meth c D T ad A) (hX : va_X (ad 1003) Lx xs s s.heap) (hbl : ad 1003 < s.heap.size) (hbA : ¬ A (ad 1003)) (hL : Lx ≤ 3072) (hC : Cn ≤ room_1.cells ∧ Sn ≤ room_1.slots) (hend : ∀ iv s2, LCW l p en s m args below meth c D T ad A Cn Sn Q 1051 (LWL iv) [] s2) : ∀ (g r N : Nat) (s0 : SS), Lx < 6 * (r + g) → 6 * r ≤ Lx + 6 → N ≤ r → JJ N s0 → LCW l p en s m args below meth c D T ad A Cn Sn Q 18 (LWL (iI ((6 * r : Nat) : Int))) [] s0 := by
  intro g
  induction g with
  | zero =>
    intro r N s0 h1 h2 h3 h4
    refine k_iload_n (i := 3) C dL_18 rfl rfl ?_
    refine k_aload_n (i := 0) C dL_19 rfl rfl ?_
    refine k_slen C hX hbl hbA dL_20 ?_
    refine k_bipush (v := 6) C dL_21 (by decide) ?_
    refine k_isub C dL_23 ?_
    rw [show Int32.ofNat Lx - 6 = iI ((Lx : Int) - 6) from (iI_sub (Lx : Int) 6)]
    refine k_icmp_gt (tgt := 1051) C dL_24 rfl (fun _ => hend _ _) (fun q => absurd ?_ q)
    rw [lt32, iI_toInt (by omega), iI_toInt (by omega)]
    omega
  | succ g ih =>
    intro r N s0 h1 h2 h3 h4
    refine k_iload_n (i := 3) C dL_18 rfl rfl ?_
    refine k_aload_n (i := 0) C dL_19 rfl rfl ?_
    refine k_slen C hX hbl hbA dL_20 ?_
    refine k_bipush (v := 6) C dL_21 (by decide) ?_
    refine k_isub C dL_23 ?_
    rw [show Int32.ofNat Lx - 6 = iI ((Lx : Int) - 6) from (iI_sub (Lx : Int) 6)]
    refine k_icmp_gt (tgt := 1051) C dL_24 rfl (fun _ => hend _ _) (fun q => ?_)
    rw [lt32, iI_toInt (by omega), iI_toInt (by omega)] at q
    refine lw_round C hX hbl hbA hL (by omega) hC (by omega) h4 (fun s2 hs2 => ?_)
    refine k_iinc (L1 := LWL (iI ((6 * (r + 1) : Nat) : Int))) (y := iI ((6 * (r + 1) : Nat) : Int)) C dL_1045 rfl ?_ (by decide) rfl rfl ?_
    · show iI ((6 * r : Nat) : Int) + iI 6 = _
      rw [iI_add]
      congr 1
    · refine k_goto (tgt := 18) C dL_1048 rfl ?_
      rcases hs2 with w | w
      · exact ih (r + 1) (N + 1) s2 (by omega) (by omega) (by omega) w
      · exact ih (r + 1) N s2 (by omega) (by omega) (by omega) w
