/-! the law behind its two constructors -/
theorem lw_go {l : Launch} {p : Program} {en : Env} {s : State} {m : MethodId} {b : Nat} {below : List Frame} {meth : Method} {c : Code} {D : va_G} {T : CT} {ad : AD} {Cn Sn Lx : Nat} {xs : Nat → Int32} {s0 : SS} (C : CX "NineLawsLaw" code 4 ret p s m #[Value.ref b] meth c D T ad (fun q : Nat => s.heap.size ≤ q)) (hX : va_X (ad 1003) Lx xs s s.heap) (hbl : ad 1003 < s.heap.size) (hL : Lx ≤ 3072) (hC : Cn ≤ 600000 ∧ Sn ≤ 7302250) (h0 : ST0 s0) : LCW l p en s m #[Value.ref b] below meth c D T ad (fun q : Nat => s.heap.size ≤ q) Cn Sn (lw_Z below #[Value.ref b] s) 16 [.ref 1003, .ref 0, .ref 56, .null] [] s0 := by
  refine k_iconst (v := 0) C dL_16 rfl ?_
  refine k_istore_n (i := 3) (L1 := LWL (iI ((6 * 0 : Nat) : Int))) C dL_17 rfl (by decide) rfl rfl ?_
  exact lw_loop C hX hbl (Nat.not_le.mpr hbl) hL hC (fun iv s2 => lw_hend C hC iv s2) 513 0 0 s0 (by omega) (by omega) (by omega) (jj_start h0)
