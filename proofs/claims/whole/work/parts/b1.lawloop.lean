/-! the law: its loop -/
variable {l : Launch} {p : Program} {en : Env} {s : State} {m : MethodId} {args : Array Value} {below : List Frame} {meth : Method} {c : Code} {D : va_G} {T : CT} {ad : AD} {A : Nat → Prop} {Cn Sn : Nat} {Q : State → Prop} {s0 : SS} {rt : Option FieldType}
theorem and31 (v : Int32) : ∃ k : Nat, k < 32 ∧ v &&& 31 = iI (k : Int) := by
  obtain ⟨q, hq, e⟩ := pk_andE v (m := 31) 5 (by decide)
  exact ⟨q, by omega, by rw [e, iI_nat]⟩
theorem vp_at {Lx r j : Nat} (hL : Lx ≤ 3072) (h : 6 * r + j < Lx) : vp_in (iI ((6 * r : Nat) : Int) + iI (j : Int)) Lx := by
  rw [iI_add, vp_in_iff, iI_toInt (by omega)]
  omega
theorem lw_round {Lx : Nat} {xs : Nat → Int32} {r N : Nat} (C : CX "NineLawsLaw" code 4 rt p s m args meth c D T ad A) (hX : va_X (ad 1003) Lx xs s s.heap) (hbl : ad 1003 < s.heap.size) (hbA : ¬ A (ad 1003)) (hL : Lx ≤ 3072) (hr : 6 * r + 6 ≤ Lx) (hC : Cn ≤ room_1.cells ∧ Sn ≤ room_1.slots) (hN : N < 1000000) (hJ : JJ N s0) (k : ∀ s2, JJ (N + 1) s2 ∨ JJ N s2 → LCW l p en s m args below meth c D T ad A Cn Sn Q 1045 (LWL (iI ((6 * r : Nat) : Int))) [] s2) : LCW l p en s m args below meth c D T ad A Cn Sn Q 27 (LWL (iI ((6 * r : Nat) : Int))) [] s0 := by
  have h0 : vp_in (iI ((6 * r : Nat) : Int)) Lx := by
    rw [vp_in_iff, iI_toInt (by omega)]
    omega
  have h1 : vp_in (iI ((6 * r : Nat) : Int) + 1) Lx := vp_at (j := 1) hL (by omega)
  have h2 : vp_in (iI ((6 * r : Nat) : Int) + 2) Lx := vp_at (j := 2) hL (by omega)
  have h3 : vp_in (iI ((6 * r : Nat) : Int) + 3) Lx := vp_at (j := 3) hL (by omega)
  have h4 : vp_in (iI ((6 * r : Nat) : Int) + 4) Lx := vp_at (j := 4) hL (by omega)
  have h5 : vp_in (iI ((6 * r : Nat) : Int) + 5) Lx := vp_at (j := 5) hL (by omega)
  have k1 : ∀ s2, JJ (N + 1) s2 → LCW l p en s m args below meth c D T ad A Cn Sn Q 1045 (LWL (iI ((6 * r : Nat) : Int))) [] s2 := fun s2 h => k s2 (Or.inl h)
  refine k_aload_n (i := 0) C dL_27 rfl rfl ?_
  refine k_iload_n (i := 3) C dL_28 rfl rfl ?_
  refine k_sld C hX hbl hbA h0 dL_29 ?_
  refine k_bipush (v := 31) C dL_30 (by decide) ?_
  refine k_iand C dL_32 ?_
  obtain ⟨q, hq, eq⟩ := and31 (xs (Int32.toNatClampNeg (iI ((6 * r : Nat) : Int))))
  rw [eq]
  have tq : (iI (q : Int)).toInt = q := iI_toInt (by omega)
  intro H locs ls hP hD hS hl
  by_cases hq31 : q = 31
  · exact lv_tableOut (tgt := 1045) C.1 C.2.1 dL_33 (Or.inr (by rw [tq]; omega)) rfl (k s0 (Or.inr hJ) H locs ls hP hD hS hl)
  · have hq30 : q < 31 := by omega
    obtain rfl | rfl | rfl | rfl | rfl | rfl | rfl | rfl | rfl | rfl | rfl | rfl | rfl | rfl | rfl | rfl | rfl | rfl | rfl | rfl | rfl | rfl | rfl | rfl | rfl | rfl | rfl | rfl | rfl | rfl | rfl : q = 0 ∨ q = 1 ∨ q = 2 ∨ q = 3 ∨ q = 4 ∨ q = 5 ∨ q = 6 ∨ q = 7 ∨ q = 8 ∨ q = 9 ∨ q = 10 ∨ q = 11 ∨ q = 12 ∨ q = 13 ∨ q = 14 ∨ q = 15 ∨ q = 16 ∨ q = 17 ∨ q = 18 ∨ q = 19 ∨ q = 20 ∨ q = 21 ∨ q = 22 ∨ q = 23 ∨ q = 24 ∨ q = 25 ∨ q = 26 ∨ q = 27 ∨ q = 28 ∨ q = 29 ∨ q = 30 := by omega
    · exact lv_tableIn (off := 139) (tgt := 172) C.1 C.2.1 dL_33 (by rw [tq]; decide) (by rw [tq]; decide) (by rw [tq]; rfl) rfl (cs_0 C hX hbl hbA h1 h2 h3 h4 h5 hC hN hJ k1 H locs ls hP hD hS hl)
    · exact lv_tableIn (off := 192) (tgt := 225) C.1 C.2.1 dL_33 (by rw [tq]; decide) (by rw [tq]; decide) (by rw [tq]; rfl) rfl (cs_1 C hX hbl hbA h1 h2 h3 h4 h5 hC hN hJ k1 H locs ls hP hD hS hl)
    · exact lv_tableIn (off := 215) (tgt := 248) C.1 C.2.1 dL_33 (by rw [tq]; decide) (by rw [tq]; decide) (by rw [tq]; rfl) rfl (cs_2 C hX hbl hbA h1 h2 h3 h4 h5 hC hN hJ k1 H locs ls hP hD hS hl)
    · exact lv_tableIn (off := 238) (tgt := 271) C.1 C.2.1 dL_33 (by rw [tq]; decide) (by rw [tq]; decide) (by rw [tq]; rfl) rfl (cs_3 C hX hbl hbA h1 h2 h3 h4 h5 hC hN hJ k1 H locs ls hP hD hS hl)
    · exact lv_tableIn (off := 281) (tgt := 314) C.1 C.2.1 dL_33 (by rw [tq]; decide) (by rw [tq]; decide) (by rw [tq]; rfl) rfl (cs_4 C hX hbl hbA h1 h2 h3 h4 h5 hC hN hJ k1 H locs ls hP hD hS hl)
    · exact lv_tableIn (off := 344) (tgt := 377) C.1 C.2.1 dL_33 (by rw [tq]; decide) (by rw [tq]; decide) (by rw [tq]; rfl) rfl (cs_5 C hX hbl hbA h1 h2 h3 h4 h5 hC hN hJ k1 H locs ls hP hD hS hl)
    · exact lv_tableIn (off := 367) (tgt := 400) C.1 C.2.1 dL_33 (by rw [tq]; decide) (by rw [tq]; decide) (by rw [tq]; rfl) rfl (cs_6 C hX hbl hbA h1 h2 h3 h4 h5 hC hN hJ k1 H locs ls hP hD hS hl)
    · exact lv_tableIn (off := 390) (tgt := 423) C.1 C.2.1 dL_33 (by rw [tq]; decide) (by rw [tq]; decide) (by rw [tq]; rfl) rfl (cs_7 C hX hbl hbA h1 h2 h3 h4 h5 hC hN hJ k1 H locs ls hP hD hS hl)
    · exact lv_tableIn (off := 413) (tgt := 446) C.1 C.2.1 dL_33 (by rw [tq]; decide) (by rw [tq]; decide) (by rw [tq]; rfl) rfl (cs_8 C hX hbl hbA h1 h2 h3 h4 h5 hC hN hJ k1 H locs ls hP hD hS hl)
    · exact lv_tableIn (off := 436) (tgt := 469) C.1 C.2.1 dL_33 (by rw [tq]; decide) (by rw [tq]; decide) (by rw [tq]; rfl) rfl (cs_9 C hX hbl hbA h1 h2 h3 h4 h5 hC hN hJ k1 H locs ls hP hD hS hl)
    · exact lv_tableIn (off := 449) (tgt := 482) C.1 C.2.1 dL_33 (by rw [tq]; decide) (by rw [tq]; decide) (by rw [tq]; rfl) rfl (cs_10 C hX hbl hbA h1 h2 h3 h4 h5 hC hN hJ k1 H locs ls hP hD hS hl)
    · exact lv_tableIn (off := 472) (tgt := 505) C.1 C.2.1 dL_33 (by rw [tq]; decide) (by rw [tq]; decide) (by rw [tq]; rfl) rfl (cs_11 C hX hbl hbA h1 h2 h3 h4 h5 hC hN hJ k1 H locs ls hP hD hS hl)
    · exact lv_tableIn (off := 495) (tgt := 528) C.1 C.2.1 dL_33 (by rw [tq]; decide) (by rw [tq]; decide) (by rw [tq]; rfl) rfl (cs_12 C hX hbl hbA h1 h2 h3 h4 h5 hC hN hJ k1 H locs ls hP hD hS hl)
    · exact lv_tableIn (off := 528) (tgt := 561) C.1 C.2.1 dL_33 (by rw [tq]; decide) (by rw [tq]; decide) (by rw [tq]; rfl) rfl (cs_13 C hX hbl hbA h1 h2 h3 h4 h5 hC hN hJ k1 H locs ls hP hD hS hl)
    · exact lv_tableIn (off := 551) (tgt := 584) C.1 C.2.1 dL_33 (by rw [tq]; decide) (by rw [tq]; decide) (by rw [tq]; rfl) rfl (cs_14 C hX hbl hbA h1 h2 h3 h4 h5 hC hN hJ k1 H locs ls hP hD hS hl)
    · exact lv_tableIn (off := 594) (tgt := 627) C.1 C.2.1 dL_33 (by rw [tq]; decide) (by rw [tq]; decide) (by rw [tq]; rfl) rfl (cs_15 C hX hbl hbA h1 h2 h3 h4 h5 hC hN hJ k1 H locs ls hP hD hS hl)
    · exact lv_tableIn (off := 627) (tgt := 660) C.1 C.2.1 dL_33 (by rw [tq]; decide) (by rw [tq]; decide) (by rw [tq]; rfl) rfl (cs_16 C hX hbl hbA h1 h2 h3 h4 h5 hC hN hJ k1 H locs ls hP hD hS hl)
    · exact lv_tableIn (off := 660) (tgt := 693) C.1 C.2.1 dL_33 (by rw [tq]; decide) (by rw [tq]; decide) (by rw [tq]; rfl) rfl (cs_17 C hX hbl hbA h1 h2 h3 h4 h5 hC hN hJ k1 H locs ls hP hD hS hl)
    · exact lv_tableIn (off := 673) (tgt := 706) C.1 C.2.1 dL_33 (by rw [tq]; decide) (by rw [tq]; decide) (by rw [tq]; rfl) rfl (cs_18 C hX hbl hbA h1 h2 h3 h4 h5 hC hN hJ k1 H locs ls hP hD hS hl)
    · exact lv_tableIn (off := 696) (tgt := 729) C.1 C.2.1 dL_33 (by rw [tq]; decide) (by rw [tq]; decide) (by rw [tq]; rfl) rfl (cs_19 C hX hbl hbA h1 h2 h3 h4 h5 hC hN hJ k1 H locs ls hP hD hS hl)
    · exact lv_tableIn (off := 739) (tgt := 772) C.1 C.2.1 dL_33 (by rw [tq]; decide) (by rw [tq]; decide) (by rw [tq]; rfl) rfl (cs_20 C hX hbl hbA h1 h2 h3 h4 h5 hC hN hJ k1 H locs ls hP hD hS hl)
    · exact lv_tableIn (off := 772) (tgt := 805) C.1 C.2.1 dL_33 (by rw [tq]; decide) (by rw [tq]; decide) (by rw [tq]; rfl) rfl (cs_21 C hX hbl hbA h1 h2 h3 h4 h5 hC hN hJ k1 H locs ls hP hD hS hl)
    · exact lv_tableIn (off := 805) (tgt := 838) C.1 C.2.1 dL_33 (by rw [tq]; decide) (by rw [tq]; decide) (by rw [tq]; rfl) rfl (cs_22 C hX hbl hbA h1 h2 h3 h4 h5 hC hN hJ k1 H locs ls hP hD hS hl)
    · exact lv_tableIn (off := 828) (tgt := 861) C.1 C.2.1 dL_33 (by rw [tq]; decide) (by rw [tq]; decide) (by rw [tq]; rfl) rfl (cs_23 C hX hbl hbA h1 h2 h3 h4 h5 hC hN hJ k1 H locs ls hP hD hS hl)
    · exact lv_tableIn (off := 861) (tgt := 894) C.1 C.2.1 dL_33 (by rw [tq]; decide) (by rw [tq]; decide) (by rw [tq]; rfl) rfl (cs_24 C hX hbl hbA h1 h2 h3 h4 h5 hC hN hJ k1 H locs ls hP hD hS hl)
    · exact lv_tableIn (off := 884) (tgt := 917) C.1 C.2.1 dL_33 (by rw [tq]; decide) (by rw [tq]; decide) (by rw [tq]; rfl) rfl (cs_25 C hX hbl hbA h1 h2 h3 h4 h5 hC hN hJ k1 H locs ls hP hD hS hl)
    · exact lv_tableIn (off := 907) (tgt := 940) C.1 C.2.1 dL_33 (by rw [tq]; decide) (by rw [tq]; decide) (by rw [tq]; rfl) rfl (cs_26 C hX hbl hbA h1 h2 h3 h4 h5 hC hN hJ k1 H locs ls hP hD hS hl)
    · exact lv_tableIn (off := 940) (tgt := 973) C.1 C.2.1 dL_33 (by rw [tq]; decide) (by rw [tq]; decide) (by rw [tq]; rfl) rfl (cs_27 C hX hbl hbA h1 h2 h3 h4 h5 hC hN hJ k1 H locs ls hP hD hS hl)
    · exact lv_tableIn (off := 953) (tgt := 986) C.1 C.2.1 dL_33 (by rw [tq]; decide) (by rw [tq]; decide) (by rw [tq]; rfl) rfl (cs_28 C hX hbl hbA h1 h2 h3 h4 h5 hC hN hJ k1 H locs ls hP hD hS hl)
    · exact lv_tableIn (off := 966) (tgt := 999) C.1 C.2.1 dL_33 (by rw [tq]; decide) (by rw [tq]; decide) (by rw [tq]; rfl) rfl (cs_29 C hX hbl hbA h1 h2 h3 h4 h5 hC hN hJ k1 H locs ls hP hD hS hl)
    · exact lv_tableIn (off := 989) (tgt := 1022) C.1 C.2.1 dL_33 (by rw [tq]; decide) (by rw [tq]; decide) (by rw [tq]; rfl) rfl (cs_30 C hX hbl hbA h1 h2 h3 h4 h5 hC hN hJ k1 H locs ls hP hD hS hl)
