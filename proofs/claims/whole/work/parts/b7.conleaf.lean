/-! constructors that make rows alone -/
def rmX9 : Room := { frames := 4, cells := 1, slots := 220, locals := 200 }
def B_X9 (h0 : Nat) : AD → SS → CT → va_W := fun g s T => [(h0, .inr (9, [.ref (g 1), .int 0])), ((g 1), .inl (T 0, 220, .inl (fun _ => 0)))]
set_option maxRecDepth 20000 in
set_option maxHeartbeats 4000000 in
theorem ci_X9 (l : Launch) (h0 : Nat) : CI l yX9_init cX9_init 1 rmX9 [.ref h0] [(h0, .inr (9, [.null, .int 0]))] (fun _ => True) (B_X9 h0) := by
  refine ci_of plX9 rfl (Nat.le_of_ble_eq_true rfl) ?_
  intro p en s m args below meth c D T ad A C hin hA
  have C : CX RX9 cX9_init 1 none p s m args meth c D T ad A := C
  refine nw_pad 0 (L2 := [.ref h0]) rfl ?_
  refine n_aload_n (i := 0) (x := h0) C dX9_init_0 rfl rfl ?_
  refine n_obj C noX9 ob_inst ob_code (Nat.le_of_ble_eq_true rfl) (Nat.le_of_ble_eq_true rfl) dX9_init_1 ?_
  refine n_aload_n (i := 0) (x := h0) C dX9_init_4 rfl rfl ?_
  refine n_sipush (v := 220) C dX9_init_5 (by decide +kernel) ?_
  refine n_newarr_int (N := 220) (Cm := 1) (Sm := 220) C hA dX9_init_8 (by decide) (by decide +kernel) (Nat.le_of_ble_eq_true rfl) rfl rfl ⟨Nat.le_of_ble_eq_true rfl, Nat.le_of_ble_eq_true rfl⟩ (fun q1 => ?_)
  refine nw_eq (ws2 := [(h0, .inr (9, [.null, .int 0])), (q1, .inl (T 0, 220, .inl (fun _ => 0)))]) rfl ?_
  refine n_putF (fs2 := [.ref q1, .int 0]) C hin npX9_11 ⟨rfl, rfl⟩ (Nat.le_of_ble_eq_true rfl) rfl dX9_init_10 ?_
  exact n_ret (fun k => ([0, q1] : List Nat).getD k 0, fun _ _ => 0) C trivial rfl rfl rfl dX9_init_13
def rmX1 : Room := { frames := 4, cells := 7, slots := 496, locals := 200 }
def B_X1 (h0 : Nat) : AD → SS → CT → va_W := fun g s T => [(h0, .inr (1, [.ref (g 1), .ref (g 2), .ref (g 3), .ref (g 4), .ref (g 5), .ref (g 6), .ref (g 7), .int 0, .int 0])), ((g 1), .inl (T 0, 200, .inl (fun _ => 0))), ((g 2), .inl (T 0, 200, .inl (fun _ => 0))), ((g 3), .inl (T 0, 14, .inl (fun _ => 0))), ((g 4), .inl (T 0, 14, .inl (fun _ => 0))), ((g 5), .inl (T 0, 14, .inl (fun _ => 0))), ((g 6), .inl (T 0, 14, .inl (fun _ => 0))), ((g 7), .inl (T 0, 40, .inl (fun _ => 0)))]
set_option maxRecDepth 20000 in
set_option maxHeartbeats 4000000 in
theorem ci_X1 (l : Launch) (h0 : Nat) : CI l yX1_init cX1_init 1 rmX1 [.ref h0] [(h0, .inr (1, [.null, .null, .null, .null, .null, .null, .null, .int 0, .int 0]))] (fun _ => True) (B_X1 h0) := by
  refine ci_of plX1 rfl (Nat.le_of_ble_eq_true rfl) ?_
  intro p en s m args below meth c D T ad A C hin hA
  have C : CX RX1 cX1_init 1 none p s m args meth c D T ad A := C
  refine nw_pad 0 (L2 := [.ref h0]) rfl ?_
  refine n_aload_n (i := 0) (x := h0) C dX1_init_0 rfl rfl ?_
  refine n_obj C noX1 ob_inst ob_code (Nat.le_of_ble_eq_true rfl) (Nat.le_of_ble_eq_true rfl) dX1_init_1 ?_
  refine n_aload_n (i := 0) (x := h0) C dX1_init_4 rfl rfl ?_
  refine n_sipush (v := 200) C dX1_init_5 (by decide +kernel) ?_
  refine n_newarr_int (N := 200) (Cm := 1) (Sm := 200) C hA dX1_init_8 (by decide) (by decide +kernel) (Nat.le_of_ble_eq_true rfl) rfl rfl ⟨Nat.le_of_ble_eq_true rfl, Nat.le_of_ble_eq_true rfl⟩ (fun q1 => ?_)
  refine nw_eq (ws2 := [(h0, .inr (1, [.null, .null, .null, .null, .null, .null, .null, .int 0, .int 0])), (q1, .inl (T 0, 200, .inl (fun _ => 0)))]) rfl ?_
  refine n_putF (fs2 := [.ref q1, .null, .null, .null, .null, .null, .null, .int 0, .int 0]) C hin npX1_9 ⟨rfl, rfl⟩ (Nat.le_of_ble_eq_true rfl) rfl dX1_init_10 ?_
  refine n_aload_n (i := 0) (x := h0) C dX1_init_13 rfl rfl ?_
  refine n_sipush (v := 200) C dX1_init_14 (by decide +kernel) ?_
  refine n_newarr_int (N := 200) (Cm := 2) (Sm := 400) C hA dX1_init_17 (by decide) (by decide +kernel) (Nat.le_of_ble_eq_true rfl) rfl rfl ⟨Nat.le_of_ble_eq_true rfl, Nat.le_of_ble_eq_true rfl⟩ (fun q2 => ?_)
  refine nw_eq (ws2 := [(h0, .inr (1, [.ref q1, .null, .null, .null, .null, .null, .null, .int 0, .int 0])), (q1, .inl (T 0, 200, .inl (fun _ => 0))), (q2, .inl (T 0, 200, .inl (fun _ => 0)))]) rfl ?_
  refine n_putF (fs2 := [.ref q1, .ref q2, .null, .null, .null, .null, .null, .int 0, .int 0]) C hin npX1_15 ⟨rfl, rfl⟩ (Nat.le_of_ble_eq_true rfl) rfl dX1_init_19 ?_
  refine n_aload_n (i := 0) (x := h0) C dX1_init_22 rfl rfl ?_
  refine n_bipush (v := 14) C dX1_init_23 (by decide +kernel) ?_
  refine n_newarr_int (N := 14) (Cm := 3) (Sm := 414) C hA dX1_init_25 (by decide) (by decide +kernel) (Nat.le_of_ble_eq_true rfl) rfl rfl ⟨Nat.le_of_ble_eq_true rfl, Nat.le_of_ble_eq_true rfl⟩ (fun q3 => ?_)
  refine nw_eq (ws2 := [(h0, .inr (1, [.ref q1, .ref q2, .null, .null, .null, .null, .null, .int 0, .int 0])), (q1, .inl (T 0, 200, .inl (fun _ => 0))), (q2, .inl (T 0, 200, .inl (fun _ => 0))), (q3, .inl (T 0, 14, .inl (fun _ => 0)))]) rfl ?_
  refine n_putF (fs2 := [.ref q1, .ref q2, .ref q3, .null, .null, .null, .null, .int 0, .int 0]) C hin npX1_18 ⟨rfl, rfl⟩ (Nat.le_of_ble_eq_true rfl) rfl dX1_init_27 ?_
  refine n_aload_n (i := 0) (x := h0) C dX1_init_30 rfl rfl ?_
  refine n_bipush (v := 14) C dX1_init_31 (by decide +kernel) ?_
  refine n_newarr_int (N := 14) (Cm := 4) (Sm := 428) C hA dX1_init_33 (by decide) (by decide +kernel) (Nat.le_of_ble_eq_true rfl) rfl rfl ⟨Nat.le_of_ble_eq_true rfl, Nat.le_of_ble_eq_true rfl⟩ (fun q4 => ?_)
  refine nw_eq (ws2 := [(h0, .inr (1, [.ref q1, .ref q2, .ref q3, .null, .null, .null, .null, .int 0, .int 0])), (q1, .inl (T 0, 200, .inl (fun _ => 0))), (q2, .inl (T 0, 200, .inl (fun _ => 0))), (q3, .inl (T 0, 14, .inl (fun _ => 0))), (q4, .inl (T 0, 14, .inl (fun _ => 0)))]) rfl ?_
  refine n_putF (fs2 := [.ref q1, .ref q2, .ref q3, .ref q4, .null, .null, .null, .int 0, .int 0]) C hin npX1_21 ⟨rfl, rfl⟩ (Nat.le_of_ble_eq_true rfl) rfl dX1_init_35 ?_
  refine n_aload_n (i := 0) (x := h0) C dX1_init_38 rfl rfl ?_
  refine n_bipush (v := 14) C dX1_init_39 (by decide +kernel) ?_
  refine n_newarr_int (N := 14) (Cm := 5) (Sm := 442) C hA dX1_init_41 (by decide) (by decide +kernel) (Nat.le_of_ble_eq_true rfl) rfl rfl ⟨Nat.le_of_ble_eq_true rfl, Nat.le_of_ble_eq_true rfl⟩ (fun q5 => ?_)
  refine nw_eq (ws2 := [(h0, .inr (1, [.ref q1, .ref q2, .ref q3, .ref q4, .null, .null, .null, .int 0, .int 0])), (q1, .inl (T 0, 200, .inl (fun _ => 0))), (q2, .inl (T 0, 200, .inl (fun _ => 0))), (q3, .inl (T 0, 14, .inl (fun _ => 0))), (q4, .inl (T 0, 14, .inl (fun _ => 0))), (q5, .inl (T 0, 14, .inl (fun _ => 0)))]) rfl ?_
  refine n_putF (fs2 := [.ref q1, .ref q2, .ref q3, .ref q4, .ref q5, .null, .null, .int 0, .int 0]) C hin npX1_24 ⟨rfl, rfl⟩ (Nat.le_of_ble_eq_true rfl) rfl dX1_init_43 ?_
  refine n_aload_n (i := 0) (x := h0) C dX1_init_46 rfl rfl ?_
  refine n_bipush (v := 14) C dX1_init_47 (by decide +kernel) ?_
  refine n_newarr_int (N := 14) (Cm := 6) (Sm := 456) C hA dX1_init_49 (by decide) (by decide +kernel) (Nat.le_of_ble_eq_true rfl) rfl rfl ⟨Nat.le_of_ble_eq_true rfl, Nat.le_of_ble_eq_true rfl⟩ (fun q6 => ?_)
  refine nw_eq (ws2 := [(h0, .inr (1, [.ref q1, .ref q2, .ref q3, .ref q4, .ref q5, .null, .null, .int 0, .int 0])), (q1, .inl (T 0, 200, .inl (fun _ => 0))), (q2, .inl (T 0, 200, .inl (fun _ => 0))), (q3, .inl (T 0, 14, .inl (fun _ => 0))), (q4, .inl (T 0, 14, .inl (fun _ => 0))), (q5, .inl (T 0, 14, .inl (fun _ => 0))), (q6, .inl (T 0, 14, .inl (fun _ => 0)))]) rfl ?_
  refine n_putF (fs2 := [.ref q1, .ref q2, .ref q3, .ref q4, .ref q5, .ref q6, .null, .int 0, .int 0]) C hin npX1_27 ⟨rfl, rfl⟩ (Nat.le_of_ble_eq_true rfl) rfl dX1_init_51 ?_
  refine n_aload_n (i := 0) (x := h0) C dX1_init_54 rfl rfl ?_
  refine n_bipush (v := 40) C dX1_init_55 (by decide +kernel) ?_
  refine n_newarr_int (N := 40) (Cm := 7) (Sm := 496) C hA dX1_init_57 (by decide) (by decide +kernel) (Nat.le_of_ble_eq_true rfl) rfl rfl ⟨Nat.le_of_ble_eq_true rfl, Nat.le_of_ble_eq_true rfl⟩ (fun q7 => ?_)
  refine nw_eq (ws2 := [(h0, .inr (1, [.ref q1, .ref q2, .ref q3, .ref q4, .ref q5, .ref q6, .null, .int 0, .int 0])), (q1, .inl (T 0, 200, .inl (fun _ => 0))), (q2, .inl (T 0, 200, .inl (fun _ => 0))), (q3, .inl (T 0, 14, .inl (fun _ => 0))), (q4, .inl (T 0, 14, .inl (fun _ => 0))), (q5, .inl (T 0, 14, .inl (fun _ => 0))), (q6, .inl (T 0, 14, .inl (fun _ => 0))), (q7, .inl (T 0, 40, .inl (fun _ => 0)))]) rfl ?_
  refine n_putF (fs2 := [.ref q1, .ref q2, .ref q3, .ref q4, .ref q5, .ref q6, .ref q7, .int 0, .int 0]) C hin npX1_30 ⟨rfl, rfl⟩ (Nat.le_of_ble_eq_true rfl) rfl dX1_init_59 ?_
  exact n_ret (fun k => ([0, q1, q2, q3, q4, q5, q6, q7] : List Nat).getD k 0, fun _ _ => 0) C trivial rfl rfl rfl dX1_init_62
def rmX10 : Room := { frames := 4, cells := 7, slots := 10739, locals := 200 }
def B_X10 (h0 : Nat) (a1 : Nat) (a2 : Nat) : AD → SS → CT → va_W := fun g s T => [(h0, .inr (10, [.ref a1, .ref a2, .ref (g 1), .ref (g 2), .ref (g 3), .ref (g 4), .ref (g 5), .ref (g 6), .ref (g 7), .int 0, .int 0])), ((g 1), .inl (T 0, 8, .inl (fun _ => 0))), ((g 2), .inl (T 0, 8, .inl (fun _ => 0))), ((g 3), .inl (T 0, 8, .inl (fun _ => 0))), ((g 4), .inl (T 0, 8, .inl (fun _ => 0))), ((g 5), .inl (T 0, 11, .inl (fun _ => 0))), ((g 6), .inl (T 3, 5348, .inr (.inl (fun j => lgt (fun _ => 0) j)))), ((g 7), .inl (T 3, 5348, .inr (.inl (fun j => lgt (fun _ => 0) j))))]
set_option maxRecDepth 20000 in
set_option maxHeartbeats 4000000 in
theorem ci_X10 (l : Launch) (h0 : Nat) (a1 : Nat) (a2 : Nat) : CI l yX10_init cX10_init 3 rmX10 [.ref h0, .ref a1, .ref a2] [(h0, .inr (10, [.null, .null, .null, .null, .null, .null, .null, .null, .null, .int 0, .int 0]))] (fun _ => True) (B_X10 h0 a1 a2) := by
  refine ci_of plX10 rfl (Nat.le_of_ble_eq_true rfl) ?_
  intro p en s m args below meth c D T ad A C hin hA
  have C : CX RX10 cX10_init 3 none p s m args meth c D T ad A := C
  refine nw_pad 0 (L2 := [.ref h0, .ref a1, .ref a2]) rfl ?_
  refine n_aload_n (i := 0) (x := h0) C dX10_init_0 rfl rfl ?_
  refine n_obj C noX10 ob_inst ob_code (Nat.le_of_ble_eq_true rfl) (Nat.le_of_ble_eq_true rfl) dX10_init_1 ?_
  refine n_aload_n (i := 0) (x := h0) C dX10_init_4 rfl rfl ?_
  refine n_bipush (v := 8) C dX10_init_5 (by decide +kernel) ?_
  refine n_newarr_int (N := 8) (Cm := 1) (Sm := 8) C hA dX10_init_7 (by decide) (by decide +kernel) (Nat.le_of_ble_eq_true rfl) rfl rfl ⟨Nat.le_of_ble_eq_true rfl, Nat.le_of_ble_eq_true rfl⟩ (fun q1 => ?_)
  refine nw_eq (ws2 := [(h0, .inr (10, [.null, .null, .null, .null, .null, .null, .null, .null, .null, .int 0, .int 0])), (q1, .inl (T 0, 8, .inl (fun _ => 0)))]) rfl ?_
  refine n_putF (fs2 := [.null, .null, .ref q1, .null, .null, .null, .null, .null, .null, .int 0, .int 0]) C hin npX10_9 ⟨rfl, rfl⟩ (Nat.le_of_ble_eq_true rfl) rfl dX10_init_9 ?_
  refine n_aload_n (i := 0) (x := h0) C dX10_init_12 rfl rfl ?_
  refine n_bipush (v := 8) C dX10_init_13 (by decide +kernel) ?_
  refine n_newarr_int (N := 8) (Cm := 2) (Sm := 16) C hA dX10_init_15 (by decide) (by decide +kernel) (Nat.le_of_ble_eq_true rfl) rfl rfl ⟨Nat.le_of_ble_eq_true rfl, Nat.le_of_ble_eq_true rfl⟩ (fun q2 => ?_)
  refine nw_eq (ws2 := [(h0, .inr (10, [.null, .null, .ref q1, .null, .null, .null, .null, .null, .null, .int 0, .int 0])), (q1, .inl (T 0, 8, .inl (fun _ => 0))), (q2, .inl (T 0, 8, .inl (fun _ => 0)))]) rfl ?_
  refine n_putF (fs2 := [.null, .null, .ref q1, .ref q2, .null, .null, .null, .null, .null, .int 0, .int 0]) C hin npX10_15 ⟨rfl, rfl⟩ (Nat.le_of_ble_eq_true rfl) rfl dX10_init_17 ?_
  refine n_aload_n (i := 0) (x := h0) C dX10_init_20 rfl rfl ?_
  refine n_bipush (v := 8) C dX10_init_21 (by decide +kernel) ?_
  refine n_newarr_int (N := 8) (Cm := 3) (Sm := 24) C hA dX10_init_23 (by decide) (by decide +kernel) (Nat.le_of_ble_eq_true rfl) rfl rfl ⟨Nat.le_of_ble_eq_true rfl, Nat.le_of_ble_eq_true rfl⟩ (fun q3 => ?_)
  refine nw_eq (ws2 := [(h0, .inr (10, [.null, .null, .ref q1, .ref q2, .null, .null, .null, .null, .null, .int 0, .int 0])), (q1, .inl (T 0, 8, .inl (fun _ => 0))), (q2, .inl (T 0, 8, .inl (fun _ => 0))), (q3, .inl (T 0, 8, .inl (fun _ => 0)))]) rfl ?_
  refine n_putF (fs2 := [.null, .null, .ref q1, .ref q2, .ref q3, .null, .null, .null, .null, .int 0, .int 0]) C hin npX10_18 ⟨rfl, rfl⟩ (Nat.le_of_ble_eq_true rfl) rfl dX10_init_25 ?_
  refine n_aload_n (i := 0) (x := h0) C dX10_init_28 rfl rfl ?_
  refine n_bipush (v := 8) C dX10_init_29 (by decide +kernel) ?_
  refine n_newarr_int (N := 8) (Cm := 4) (Sm := 32) C hA dX10_init_31 (by decide) (by decide +kernel) (Nat.le_of_ble_eq_true rfl) rfl rfl ⟨Nat.le_of_ble_eq_true rfl, Nat.le_of_ble_eq_true rfl⟩ (fun q4 => ?_)
  refine nw_eq (ws2 := [(h0, .inr (10, [.null, .null, .ref q1, .ref q2, .ref q3, .null, .null, .null, .null, .int 0, .int 0])), (q1, .inl (T 0, 8, .inl (fun _ => 0))), (q2, .inl (T 0, 8, .inl (fun _ => 0))), (q3, .inl (T 0, 8, .inl (fun _ => 0))), (q4, .inl (T 0, 8, .inl (fun _ => 0)))]) rfl ?_
  refine n_putF (fs2 := [.null, .null, .ref q1, .ref q2, .ref q3, .ref q4, .null, .null, .null, .int 0, .int 0]) C hin npX10_21 ⟨rfl, rfl⟩ (Nat.le_of_ble_eq_true rfl) rfl dX10_init_33 ?_
  refine n_aload_n (i := 0) (x := h0) C dX10_init_36 rfl rfl ?_
  refine n_bipush (v := 11) C dX10_init_37 (by decide +kernel) ?_
  refine n_newarr_int (N := 11) (Cm := 5) (Sm := 43) C hA dX10_init_39 (by decide) (by decide +kernel) (Nat.le_of_ble_eq_true rfl) rfl rfl ⟨Nat.le_of_ble_eq_true rfl, Nat.le_of_ble_eq_true rfl⟩ (fun q5 => ?_)
  refine nw_eq (ws2 := [(h0, .inr (10, [.null, .null, .ref q1, .ref q2, .ref q3, .ref q4, .null, .null, .null, .int 0, .int 0])), (q1, .inl (T 0, 8, .inl (fun _ => 0))), (q2, .inl (T 0, 8, .inl (fun _ => 0))), (q3, .inl (T 0, 8, .inl (fun _ => 0))), (q4, .inl (T 0, 8, .inl (fun _ => 0))), (q5, .inl (T 0, 11, .inl (fun _ => 0)))]) rfl ?_
  refine n_putF (fs2 := [.null, .null, .ref q1, .ref q2, .ref q3, .ref q4, .ref q5, .null, .null, .int 0, .int 0]) C hin npX10_24 ⟨rfl, rfl⟩ (Nat.le_of_ble_eq_true rfl) rfl dX10_init_41 ?_
  refine n_aload_n (i := 0) (x := h0) C dX10_init_44 rfl rfl ?_
  refine n_sipush (v := 5348) C dX10_init_45 (by decide +kernel) ?_
  refine n_newarr_long (N := 5348) (Cm := 6) (Sm := 5391) C hA dX10_init_48 (by decide) (by decide +kernel) (Nat.le_of_ble_eq_true rfl) rfl rfl ⟨Nat.le_of_ble_eq_true rfl, Nat.le_of_ble_eq_true rfl⟩ (fun q6 => ?_)
  refine nw_eq (ws2 := [(h0, .inr (10, [.null, .null, .ref q1, .ref q2, .ref q3, .ref q4, .ref q5, .null, .null, .int 0, .int 0])), (q1, .inl (T 0, 8, .inl (fun _ => 0))), (q2, .inl (T 0, 8, .inl (fun _ => 0))), (q3, .inl (T 0, 8, .inl (fun _ => 0))), (q4, .inl (T 0, 8, .inl (fun _ => 0))), (q5, .inl (T 0, 11, .inl (fun _ => 0))), (q6, .inl (T 3, 5348, .inr (.inl (fun j => lgt (fun _ => 0) j))))]) rfl ?_
  refine n_putF (fs2 := [.null, .null, .ref q1, .ref q2, .ref q3, .ref q4, .ref q5, .ref q6, .null, .int 0, .int 0]) C hin npX10_29 ⟨rfl, rfl⟩ (Nat.le_of_ble_eq_true rfl) rfl dX10_init_50 ?_
  refine n_aload_n (i := 0) (x := h0) C dX10_init_53 rfl rfl ?_
  refine n_sipush (v := 5348) C dX10_init_54 (by decide +kernel) ?_
  refine n_newarr_long (N := 5348) (Cm := 7) (Sm := 10739) C hA dX10_init_57 (by decide) (by decide +kernel) (Nat.le_of_ble_eq_true rfl) rfl rfl ⟨Nat.le_of_ble_eq_true rfl, Nat.le_of_ble_eq_true rfl⟩ (fun q7 => ?_)
  refine nw_eq (ws2 := [(h0, .inr (10, [.null, .null, .ref q1, .ref q2, .ref q3, .ref q4, .ref q5, .ref q6, .null, .int 0, .int 0])), (q1, .inl (T 0, 8, .inl (fun _ => 0))), (q2, .inl (T 0, 8, .inl (fun _ => 0))), (q3, .inl (T 0, 8, .inl (fun _ => 0))), (q4, .inl (T 0, 8, .inl (fun _ => 0))), (q5, .inl (T 0, 11, .inl (fun _ => 0))), (q6, .inl (T 3, 5348, .inr (.inl (fun j => lgt (fun _ => 0) j)))), (q7, .inl (T 3, 5348, .inr (.inl (fun j => lgt (fun _ => 0) j))))]) rfl ?_
  refine n_putF (fs2 := [.null, .null, .ref q1, .ref q2, .ref q3, .ref q4, .ref q5, .ref q6, .ref q7, .int 0, .int 0]) C hin npX10_33 ⟨rfl, rfl⟩ (Nat.le_of_ble_eq_true rfl) rfl dX10_init_59 ?_
  refine n_aload_n (i := 0) (x := h0) C dX10_init_62 rfl rfl ?_
  refine n_aload_n (i := 1) (x := a1) C dX10_init_63 rfl rfl ?_
  refine n_putF (fs2 := [.ref a1, .null, .ref q1, .ref q2, .ref q3, .ref q4, .ref q5, .ref q6, .ref q7, .int 0, .int 0]) C hin npX10_36 ⟨rfl, rfl⟩ (Nat.le_of_ble_eq_true rfl) rfl dX10_init_64 ?_
  refine n_aload_n (i := 0) (x := h0) C dX10_init_67 rfl rfl ?_
  refine n_aload_n (i := 2) (x := a2) C dX10_init_68 rfl rfl ?_
  refine n_putF (fs2 := [.ref a1, .ref a2, .ref q1, .ref q2, .ref q3, .ref q4, .ref q5, .ref q6, .ref q7, .int 0, .int 0]) C hin npX10_40 ⟨rfl, rfl⟩ (Nat.le_of_ble_eq_true rfl) rfl dX10_init_69 ?_
  exact n_ret (fun k => ([0, q1, q2, q3, q4, q5, q6, q7] : List Nat).getD k 0, fun _ _ => 0) C trivial rfl rfl rfl dX10_init_72
def rmX2 : Room := { frames := 4, cells := 3, slots := 12, locals := 200 }
def B_X2 (h0 : Nat) (a1 : Nat) (a2 : Nat) : AD → SS → CT → va_W := fun g s T => [(h0, .inr (2, [.ref a1, .ref a2, .ref (g 1), .ref (g 2), .ref (g 3), .int 1])), ((g 1), .inl (T 0, 4, .inl (fun _ => 0))), ((g 2), .inl (T 0, 4, .inl (fun _ => 0))), ((g 3), .inl (T 0, 4, .inl (fun _ => 0)))]
set_option maxRecDepth 20000 in
set_option maxHeartbeats 4000000 in
theorem ci_X2 (l : Launch) (h0 : Nat) (a1 : Nat) (a2 : Nat) : CI l yX2_init cX2_init 3 rmX2 [.ref h0, .ref a1, .ref a2] [(h0, .inr (2, [.null, .null, .null, .null, .null, .int 0]))] (fun _ => True) (B_X2 h0 a1 a2) := by
  refine ci_of plX2 rfl (Nat.le_of_ble_eq_true rfl) ?_
  intro p en s m args below meth c D T ad A C hin hA
  have C : CX RX2 cX2_init 3 none p s m args meth c D T ad A := C
  refine nw_pad 0 (L2 := [.ref h0, .ref a1, .ref a2]) rfl ?_
  refine n_aload_n (i := 0) (x := h0) C dX2_init_0 rfl rfl ?_
  refine n_obj C noX2 ob_inst ob_code (Nat.le_of_ble_eq_true rfl) (Nat.le_of_ble_eq_true rfl) dX2_init_1 ?_
  refine n_aload_n (i := 0) (x := h0) C dX2_init_4 rfl rfl ?_
  refine n_iconst (v := 4) C dX2_init_5 (by decide +kernel) ?_
  refine n_newarr_int (N := 4) (Cm := 1) (Sm := 4) C hA dX2_init_6 (by decide) (by decide +kernel) (Nat.le_of_ble_eq_true rfl) rfl rfl ⟨Nat.le_of_ble_eq_true rfl, Nat.le_of_ble_eq_true rfl⟩ (fun q1 => ?_)
  refine nw_eq (ws2 := [(h0, .inr (2, [.null, .null, .null, .null, .null, .int 0])), (q1, .inl (T 0, 4, .inl (fun _ => 0)))]) rfl ?_
  refine n_putF (fs2 := [.null, .null, .ref q1, .null, .null, .int 0]) C hin npX2_9 ⟨rfl, rfl⟩ (Nat.le_of_ble_eq_true rfl) rfl dX2_init_8 ?_
  refine n_aload_n (i := 0) (x := h0) C dX2_init_11 rfl rfl ?_
  refine n_iconst (v := 4) C dX2_init_12 (by decide +kernel) ?_
  refine n_newarr_int (N := 4) (Cm := 2) (Sm := 8) C hA dX2_init_13 (by decide) (by decide +kernel) (Nat.le_of_ble_eq_true rfl) rfl rfl ⟨Nat.le_of_ble_eq_true rfl, Nat.le_of_ble_eq_true rfl⟩ (fun q2 => ?_)
  refine nw_eq (ws2 := [(h0, .inr (2, [.null, .null, .ref q1, .null, .null, .int 0])), (q1, .inl (T 0, 4, .inl (fun _ => 0))), (q2, .inl (T 0, 4, .inl (fun _ => 0)))]) rfl ?_
  refine n_putF (fs2 := [.null, .null, .ref q1, .ref q2, .null, .int 0]) C hin npX2_15 ⟨rfl, rfl⟩ (Nat.le_of_ble_eq_true rfl) rfl dX2_init_15 ?_
  refine n_aload_n (i := 0) (x := h0) C dX2_init_18 rfl rfl ?_
  refine n_iconst (v := 4) C dX2_init_19 (by decide +kernel) ?_
  refine n_newarr_int (N := 4) (Cm := 3) (Sm := 12) C hA dX2_init_20 (by decide) (by decide +kernel) (Nat.le_of_ble_eq_true rfl) rfl rfl ⟨Nat.le_of_ble_eq_true rfl, Nat.le_of_ble_eq_true rfl⟩ (fun q3 => ?_)
  refine nw_eq (ws2 := [(h0, .inr (2, [.null, .null, .ref q1, .ref q2, .null, .int 0])), (q1, .inl (T 0, 4, .inl (fun _ => 0))), (q2, .inl (T 0, 4, .inl (fun _ => 0))), (q3, .inl (T 0, 4, .inl (fun _ => 0)))]) rfl ?_
  refine n_putF (fs2 := [.null, .null, .ref q1, .ref q2, .ref q3, .int 0]) C hin npX2_18 ⟨rfl, rfl⟩ (Nat.le_of_ble_eq_true rfl) rfl dX2_init_22 ?_
  refine n_aload_n (i := 0) (x := h0) C dX2_init_25 rfl rfl ?_
  refine n_iconst (v := 1) C dX2_init_26 (by decide +kernel) ?_
  refine n_putV (fs2 := [.null, .null, .ref q1, .ref q2, .ref q3, .int 1]) C npX2_21 ⟨rfl, rfl⟩ (Nat.le_of_ble_eq_true rfl) rfl dX2_init_27 ?_
  refine n_aload_n (i := 0) (x := h0) C dX2_init_30 rfl rfl ?_
  refine n_aload_n (i := 1) (x := a1) C dX2_init_31 rfl rfl ?_
  refine n_putF (fs2 := [.ref a1, .null, .ref q1, .ref q2, .ref q3, .int 1]) C hin npX2_25 ⟨rfl, rfl⟩ (Nat.le_of_ble_eq_true rfl) rfl dX2_init_32 ?_
  refine n_aload_n (i := 0) (x := h0) C dX2_init_35 rfl rfl ?_
  refine n_aload_n (i := 2) (x := a2) C dX2_init_36 rfl rfl ?_
  refine n_putF (fs2 := [.ref a1, .ref a2, .ref q1, .ref q2, .ref q3, .int 1]) C hin npX2_29 ⟨rfl, rfl⟩ (Nat.le_of_ble_eq_true rfl) rfl dX2_init_37 ?_
  exact n_ret (fun k => ([0, q1, q2, q3] : List Nat).getD k 0, fun _ _ => 0) C trivial rfl rfl rfl dX2_init_40
def rmX5 : Room := { frames := 4, cells := 0, slots := 0, locals := 200 }
def B_X5 (h0 : Nat) (a1 : Nat) (a2 : Nat) (a3 : Nat) : AD → SS → CT → va_W := fun g s T => [(h0, .inr (5, [.ref a1, .ref a2, .ref a3, .int 0, .int 1, .int 0]))]
set_option maxRecDepth 20000 in
set_option maxHeartbeats 4000000 in
theorem ci_X5 (l : Launch) (h0 : Nat) (a1 : Nat) (a2 : Nat) (a3 : Nat) : CI l yX5_init cX5_init 4 rmX5 [.ref h0, .ref a1, .ref a2, .ref a3] [(h0, .inr (5, [.null, .null, .null, .int 0, .int 0, .int 0]))] (fun _ => True) (B_X5 h0 a1 a2 a3) := by
  refine ci_of plX5 rfl (Nat.le_of_ble_eq_true rfl) ?_
  intro p en s m args below meth c D T ad A C hin hA
  have C : CX RX5 cX5_init 4 none p s m args meth c D T ad A := C
  refine nw_pad 0 (L2 := [.ref h0, .ref a1, .ref a2, .ref a3]) rfl ?_
  refine n_aload_n (i := 0) (x := h0) C dX5_init_0 rfl rfl ?_
  refine n_obj C noX5 ob_inst ob_code (Nat.le_of_ble_eq_true rfl) (Nat.le_of_ble_eq_true rfl) dX5_init_1 ?_
  refine n_aload_n (i := 0) (x := h0) C dX5_init_4 rfl rfl ?_
  refine n_iconst (v := 1) C dX5_init_5 (by decide +kernel) ?_
  refine n_putV (fs2 := [.null, .null, .null, .int 0, .int 1, .int 0]) C npX5_9 ⟨rfl, rfl⟩ (Nat.le_of_ble_eq_true rfl) rfl dX5_init_6 ?_
  refine n_aload_n (i := 0) (x := h0) C dX5_init_9 rfl rfl ?_
  refine n_aload_n (i := 1) (x := a1) C dX5_init_10 rfl rfl ?_
  refine n_putF (fs2 := [.ref a1, .null, .null, .int 0, .int 1, .int 0]) C hin npX5_15 ⟨rfl, rfl⟩ (Nat.le_of_ble_eq_true rfl) rfl dX5_init_11 ?_
  refine n_aload_n (i := 0) (x := h0) C dX5_init_14 rfl rfl ?_
  refine n_aload_n (i := 2) (x := a2) C dX5_init_15 rfl rfl ?_
  refine n_putF (fs2 := [.ref a1, .ref a2, .null, .int 0, .int 1, .int 0]) C hin npX5_19 ⟨rfl, rfl⟩ (Nat.le_of_ble_eq_true rfl) rfl dX5_init_16 ?_
  refine n_aload_n (i := 0) (x := h0) C dX5_init_19 rfl rfl ?_
  refine n_aload_n (i := 3) (x := a3) C dX5_init_20 rfl rfl ?_
  refine n_putF (fs2 := [.ref a1, .ref a2, .ref a3, .int 0, .int 1, .int 0]) C hin npX5_23 ⟨rfl, rfl⟩ (Nat.le_of_ble_eq_true rfl) rfl dX5_init_21 ?_
  exact n_ret (fun k => ([0] : List Nat).getD k 0, fun _ _ => 0) C trivial rfl rfl rfl dX5_init_24
def rmX3 : Room := { frames := 4, cells := 4, slots := 48144, locals := 200 }
def B_X3 (h0 : Nat) (a1 : Nat) (a2 : Nat) (a3 : Nat) : AD → SS → CT → va_W := fun g s T => [(h0, .inr (3, [.ref a1, .ref a2, .ref a3, .ref (g 1), .ref (g 2), .ref (g 3), .ref (g 4), .int 0, .int (-1), .int 0, .int 0])), ((g 1), .inl (T 3, 5348, .inr (.inl (fun j => lgt (fun _ => 0) j)))), ((g 2), .inl (T 3, 42784, .inr (.inl (fun j => lgt (fun _ => 0) j)))), ((g 3), .inl (T 0, 8, .inl (fun _ => 0))), ((g 4), .inl (T 0, 4, .inl (fun _ => 0)))]
set_option maxRecDepth 20000 in
set_option maxHeartbeats 4000000 in
theorem ci_X3 (l : Launch) (h0 : Nat) (a1 : Nat) (a2 : Nat) (a3 : Nat) : CI l yX3_init cX3_init 4 rmX3 [.ref h0, .ref a1, .ref a2, .ref a3] [(h0, .inr (3, [.null, .null, .null, .null, .null, .null, .null, .int 0, .int 0, .int 0, .int 0]))] (fun _ => True) (B_X3 h0 a1 a2 a3) := by
  refine ci_of plX3 rfl (Nat.le_of_ble_eq_true rfl) ?_
  intro p en s m args below meth c D T ad A C hin hA
  have C : CX RX3 cX3_init 4 none p s m args meth c D T ad A := C
  refine nw_pad 0 (L2 := [.ref h0, .ref a1, .ref a2, .ref a3]) rfl ?_
  refine n_aload_n (i := 0) (x := h0) C dX3_init_0 rfl rfl ?_
  refine n_obj C noX3 ob_inst ob_code (Nat.le_of_ble_eq_true rfl) (Nat.le_of_ble_eq_true rfl) dX3_init_1 ?_
  refine n_aload_n (i := 0) (x := h0) C dX3_init_4 rfl rfl ?_
  refine n_sipush (v := 5348) C dX3_init_5 (by decide +kernel) ?_
  refine n_newarr_long (N := 5348) (Cm := 1) (Sm := 5348) C hA dX3_init_8 (by decide) (by decide +kernel) (Nat.le_of_ble_eq_true rfl) rfl rfl ⟨Nat.le_of_ble_eq_true rfl, Nat.le_of_ble_eq_true rfl⟩ (fun q1 => ?_)
  refine nw_eq (ws2 := [(h0, .inr (3, [.null, .null, .null, .null, .null, .null, .null, .int 0, .int 0, .int 0, .int 0])), (q1, .inl (T 3, 5348, .inr (.inl (fun j => lgt (fun _ => 0) j))))]) rfl ?_
  refine n_putF (fs2 := [.null, .null, .null, .ref q1, .null, .null, .null, .int 0, .int 0, .int 0, .int 0]) C hin npX3_11 ⟨rfl, rfl⟩ (Nat.le_of_ble_eq_true rfl) rfl dX3_init_10 ?_
  refine n_aload_n (i := 0) (x := h0) C dX3_init_13 rfl rfl ?_
  refine n_ldc (v := 42784) C dX3_init_14 (gwm hs_1 (i := 237) rfl rfl) ?_
  refine n_newarr_long (N := 42784) (Cm := 2) (Sm := 48132) C hA dX3_init_16 (by decide) (by decide +kernel) (Nat.le_of_ble_eq_true rfl) rfl rfl ⟨Nat.le_of_ble_eq_true rfl, Nat.le_of_ble_eq_true rfl⟩ (fun q2 => ?_)
  refine nw_eq (ws2 := [(h0, .inr (3, [.null, .null, .null, .ref q1, .null, .null, .null, .int 0, .int 0, .int 0, .int 0])), (q1, .inl (T 3, 5348, .inr (.inl (fun j => lgt (fun _ => 0) j)))), (q2, .inl (T 3, 42784, .inr (.inl (fun j => lgt (fun _ => 0) j))))]) rfl ?_
  refine n_putF (fs2 := [.null, .null, .null, .ref q1, .ref q2, .null, .null, .int 0, .int 0, .int 0, .int 0]) C hin npX3_18 ⟨rfl, rfl⟩ (Nat.le_of_ble_eq_true rfl) rfl dX3_init_18 ?_
  refine n_aload_n (i := 0) (x := h0) C dX3_init_21 rfl rfl ?_
  refine n_bipush (v := 8) C dX3_init_22 (by decide +kernel) ?_
  refine n_newarr_int (N := 8) (Cm := 3) (Sm := 48140) C hA dX3_init_24 (by decide) (by decide +kernel) (Nat.le_of_ble_eq_true rfl) rfl rfl ⟨Nat.le_of_ble_eq_true rfl, Nat.le_of_ble_eq_true rfl⟩ (fun q3 => ?_)
  refine nw_eq (ws2 := [(h0, .inr (3, [.null, .null, .null, .ref q1, .ref q2, .null, .null, .int 0, .int 0, .int 0, .int 0])), (q1, .inl (T 3, 5348, .inr (.inl (fun j => lgt (fun _ => 0) j)))), (q2, .inl (T 3, 42784, .inr (.inl (fun j => lgt (fun _ => 0) j)))), (q3, .inl (T 0, 8, .inl (fun _ => 0)))]) rfl ?_
  refine n_putF (fs2 := [.null, .null, .null, .ref q1, .ref q2, .ref q3, .null, .int 0, .int 0, .int 0, .int 0]) C hin npX3_21 ⟨rfl, rfl⟩ (Nat.le_of_ble_eq_true rfl) rfl dX3_init_26 ?_
  refine n_aload_n (i := 0) (x := h0) C dX3_init_29 rfl rfl ?_
  refine n_iconst (v := 4) C dX3_init_30 (by decide +kernel) ?_
  refine n_newarr_int (N := 4) (Cm := 4) (Sm := 48144) C hA dX3_init_31 (by decide) (by decide +kernel) (Nat.le_of_ble_eq_true rfl) rfl rfl ⟨Nat.le_of_ble_eq_true rfl, Nat.le_of_ble_eq_true rfl⟩ (fun q4 => ?_)
  refine nw_eq (ws2 := [(h0, .inr (3, [.null, .null, .null, .ref q1, .ref q2, .ref q3, .null, .int 0, .int 0, .int 0, .int 0])), (q1, .inl (T 3, 5348, .inr (.inl (fun j => lgt (fun _ => 0) j)))), (q2, .inl (T 3, 42784, .inr (.inl (fun j => lgt (fun _ => 0) j)))), (q3, .inl (T 0, 8, .inl (fun _ => 0))), (q4, .inl (T 0, 4, .inl (fun _ => 0)))]) rfl ?_
  refine n_putF (fs2 := [.null, .null, .null, .ref q1, .ref q2, .ref q3, .ref q4, .int 0, .int 0, .int 0, .int 0]) C hin npX3_25 ⟨rfl, rfl⟩ (Nat.le_of_ble_eq_true rfl) rfl dX3_init_33 ?_
  refine n_aload_n (i := 0) (x := h0) C dX3_init_36 rfl rfl ?_
  refine n_iconst (v := (-1)) C dX3_init_37 (by decide +kernel) ?_
  refine n_putV (fs2 := [.null, .null, .null, .ref q1, .ref q2, .ref q3, .ref q4, .int 0, .int (-1), .int 0, .int 0]) C npX3_28 ⟨rfl, rfl⟩ (Nat.le_of_ble_eq_true rfl) rfl dX3_init_38 ?_
  refine n_aload_n (i := 0) (x := h0) C dX3_init_41 rfl rfl ?_
  refine n_aload_n (i := 1) (x := a1) C dX3_init_42 rfl rfl ?_
  refine n_putF (fs2 := [.ref a1, .null, .null, .ref q1, .ref q2, .ref q3, .ref q4, .int 0, .int (-1), .int 0, .int 0]) C hin npX3_32 ⟨rfl, rfl⟩ (Nat.le_of_ble_eq_true rfl) rfl dX3_init_43 ?_
  refine n_aload_n (i := 0) (x := h0) C dX3_init_46 rfl rfl ?_
  refine n_aload_n (i := 2) (x := a2) C dX3_init_47 rfl rfl ?_
  refine n_putF (fs2 := [.ref a1, .ref a2, .null, .ref q1, .ref q2, .ref q3, .ref q4, .int 0, .int (-1), .int 0, .int 0]) C hin npX3_36 ⟨rfl, rfl⟩ (Nat.le_of_ble_eq_true rfl) rfl dX3_init_48 ?_
  refine n_aload_n (i := 0) (x := h0) C dX3_init_51 rfl rfl ?_
  refine n_aload_n (i := 3) (x := a3) C dX3_init_52 rfl rfl ?_
  refine n_putF (fs2 := [.ref a1, .ref a2, .ref a3, .ref q1, .ref q2, .ref q3, .ref q4, .int 0, .int (-1), .int 0, .int 0]) C hin npX3_40 ⟨rfl, rfl⟩ (Nat.le_of_ble_eq_true rfl) rfl dX3_init_53 ?_
  exact n_ret (fun k => ([0, q1, q2, q3, q4] : List Nat).getD k 0, fun _ _ => 0) C trivial rfl rfl rfl dX3_init_56
def rmX0 : Room := { frames := 4, cells := 2, slots := 26740, locals := 200 }
def B_X0 (h0 : Nat) (a1 : Nat) (a2 : Nat) (a3 : Nat) : AD → SS → CT → va_W := fun g s T => [(h0, .inr (0, [.ref a1, .ref a2, .ref a3, .ref (g 1), .ref (g 2), .int 0, .int 0, .int 0, .int (-1), .int 0, .int 0])), ((g 1), .inl (T 3, 21392, .inr (.inl (fun j => lgt (fun _ => 0) j)))), ((g 2), .inl (T 0, 5348, .inl (fun _ => 0)))]
set_option maxRecDepth 20000 in
set_option maxHeartbeats 4000000 in
theorem ci_X0 (l : Launch) (h0 : Nat) (a1 : Nat) (a2 : Nat) (a3 : Nat) : CI l yX0_init cX0_init 4 rmX0 [.ref h0, .ref a1, .ref a2, .ref a3] [(h0, .inr (0, [.null, .null, .null, .null, .null, .int 0, .int 0, .int 0, .int 0, .int 0, .int 0]))] (fun _ => True) (B_X0 h0 a1 a2 a3) := by
  refine ci_of plX0 rfl (Nat.le_of_ble_eq_true rfl) ?_
  intro p en s m args below meth c D T ad A C hin hA
  have C : CX RX0 cX0_init 4 none p s m args meth c D T ad A := C
  refine nw_pad 0 (L2 := [.ref h0, .ref a1, .ref a2, .ref a3]) rfl ?_
  refine n_aload_n (i := 0) (x := h0) C dX0_init_0 rfl rfl ?_
  refine n_obj C noX0 ob_inst ob_code (Nat.le_of_ble_eq_true rfl) (Nat.le_of_ble_eq_true rfl) dX0_init_1 ?_
  refine n_aload_n (i := 0) (x := h0) C dX0_init_4 rfl rfl ?_
  refine n_sipush (v := 21392) C dX0_init_5 (by decide +kernel) ?_
  refine n_newarr_long (N := 21392) (Cm := 1) (Sm := 21392) C hA dX0_init_8 (by decide) (by decide +kernel) (Nat.le_of_ble_eq_true rfl) rfl rfl ⟨Nat.le_of_ble_eq_true rfl, Nat.le_of_ble_eq_true rfl⟩ (fun q1 => ?_)
  refine nw_eq (ws2 := [(h0, .inr (0, [.null, .null, .null, .null, .null, .int 0, .int 0, .int 0, .int 0, .int 0, .int 0])), (q1, .inl (T 3, 21392, .inr (.inl (fun j => lgt (fun _ => 0) j))))]) rfl ?_
  refine n_putF (fs2 := [.null, .null, .null, .ref q1, .null, .int 0, .int 0, .int 0, .int 0, .int 0, .int 0]) C hin npX0_13 ⟨rfl, rfl⟩ (Nat.le_of_ble_eq_true rfl) rfl dX0_init_10 ?_
  refine n_aload_n (i := 0) (x := h0) C dX0_init_13 rfl rfl ?_
  refine n_sipush (v := 5348) C dX0_init_14 (by decide +kernel) ?_
  refine n_newarr_int (N := 5348) (Cm := 2) (Sm := 26740) C hA dX0_init_17 (by decide) (by decide +kernel) (Nat.le_of_ble_eq_true rfl) rfl rfl ⟨Nat.le_of_ble_eq_true rfl, Nat.le_of_ble_eq_true rfl⟩ (fun q2 => ?_)
  refine nw_eq (ws2 := [(h0, .inr (0, [.null, .null, .null, .ref q1, .null, .int 0, .int 0, .int 0, .int 0, .int 0, .int 0])), (q1, .inl (T 3, 21392, .inr (.inl (fun j => lgt (fun _ => 0) j)))), (q2, .inl (T 0, 5348, .inl (fun _ => 0)))]) rfl ?_
  refine n_putF (fs2 := [.null, .null, .null, .ref q1, .ref q2, .int 0, .int 0, .int 0, .int 0, .int 0, .int 0]) C hin npX0_17 ⟨rfl, rfl⟩ (Nat.le_of_ble_eq_true rfl) rfl dX0_init_19 ?_
  refine n_aload_n (i := 0) (x := h0) C dX0_init_22 rfl rfl ?_
  refine n_iconst (v := (-1)) C dX0_init_23 (by decide +kernel) ?_
  refine n_putV (fs2 := [.null, .null, .null, .ref q1, .ref q2, .int 0, .int 0, .int 0, .int (-1), .int 0, .int 0]) C npX0_21 ⟨rfl, rfl⟩ (Nat.le_of_ble_eq_true rfl) rfl dX0_init_24 ?_
  refine n_aload_n (i := 0) (x := h0) C dX0_init_27 rfl rfl ?_
  refine n_aload_n (i := 1) (x := a1) C dX0_init_28 rfl rfl ?_
  refine n_putF (fs2 := [.ref a1, .null, .null, .ref q1, .ref q2, .int 0, .int 0, .int 0, .int (-1), .int 0, .int 0]) C hin npX0_25 ⟨rfl, rfl⟩ (Nat.le_of_ble_eq_true rfl) rfl dX0_init_29 ?_
  refine n_aload_n (i := 0) (x := h0) C dX0_init_32 rfl rfl ?_
  refine n_aload_n (i := 2) (x := a2) C dX0_init_33 rfl rfl ?_
  refine n_putF (fs2 := [.ref a1, .ref a2, .null, .ref q1, .ref q2, .int 0, .int 0, .int 0, .int (-1), .int 0, .int 0]) C hin npX0_29 ⟨rfl, rfl⟩ (Nat.le_of_ble_eq_true rfl) rfl dX0_init_34 ?_
  refine n_aload_n (i := 0) (x := h0) C dX0_init_37 rfl rfl ?_
  refine n_aload_n (i := 3) (x := a3) C dX0_init_38 rfl rfl ?_
  refine n_putF (fs2 := [.ref a1, .ref a2, .ref a3, .ref q1, .ref q2, .int 0, .int 0, .int 0, .int (-1), .int 0, .int 0]) C hin npX0_33 ⟨rfl, rfl⟩ (Nat.le_of_ble_eq_true rfl) rfl dX0_init_39 ?_
  exact n_ret (fun k => ([0, q1, q2] : List Nat).getD k 0, fun _ _ => 0) C trivial rfl rfl rfl dX0_init_42
def rmX7 : Room := { frames := 4, cells := 1, slots := 5348, locals := 200 }
def B_X7 (h0 : Nat) (a1 : Nat) (a2 : Nat) (a3 : Nat) : AD → SS → CT → va_W := fun g s T => [(h0, .inr (7, [.ref a1, .ref a2, .ref a3, .ref (g 1), .int 0, .int 0])), ((g 1), .inl (T 3, 5348, .inr (.inl (fun j => lgt (fun _ => 0) j))))]
set_option maxRecDepth 20000 in
set_option maxHeartbeats 4000000 in
theorem ci_X7 (l : Launch) (h0 : Nat) (a1 : Nat) (a2 : Nat) (a3 : Nat) : CI l yX7_init cX7_init 4 rmX7 [.ref h0, .ref a1, .ref a2, .ref a3] [(h0, .inr (7, [.null, .null, .null, .null, .int 0, .int 0]))] (fun _ => True) (B_X7 h0 a1 a2 a3) := by
  refine ci_of plX7 rfl (Nat.le_of_ble_eq_true rfl) ?_
  intro p en s m args below meth c D T ad A C hin hA
  have C : CX RX7 cX7_init 4 none p s m args meth c D T ad A := C
  refine nw_pad 0 (L2 := [.ref h0, .ref a1, .ref a2, .ref a3]) rfl ?_
  refine n_aload_n (i := 0) (x := h0) C dX7_init_0 rfl rfl ?_
  refine n_obj C noX7 ob_inst ob_code (Nat.le_of_ble_eq_true rfl) (Nat.le_of_ble_eq_true rfl) dX7_init_1 ?_
  refine n_aload_n (i := 0) (x := h0) C dX7_init_4 rfl rfl ?_
  refine n_sipush (v := 5348) C dX7_init_5 (by decide +kernel) ?_
  refine n_newarr_long (N := 5348) (Cm := 1) (Sm := 5348) C hA dX7_init_8 (by decide) (by decide +kernel) (Nat.le_of_ble_eq_true rfl) rfl rfl ⟨Nat.le_of_ble_eq_true rfl, Nat.le_of_ble_eq_true rfl⟩ (fun q1 => ?_)
  refine nw_eq (ws2 := [(h0, .inr (7, [.null, .null, .null, .null, .int 0, .int 0])), (q1, .inl (T 3, 5348, .inr (.inl (fun j => lgt (fun _ => 0) j))))]) rfl ?_
  refine n_putF (fs2 := [.null, .null, .null, .ref q1, .int 0, .int 0]) C hin npX7_11 ⟨rfl, rfl⟩ (Nat.le_of_ble_eq_true rfl) rfl dX7_init_10 ?_
  refine n_aload_n (i := 0) (x := h0) C dX7_init_13 rfl rfl ?_
  refine n_aload_n (i := 1) (x := a1) C dX7_init_14 rfl rfl ?_
  refine n_putF (fs2 := [.ref a1, .null, .null, .ref q1, .int 0, .int 0]) C hin npX7_17 ⟨rfl, rfl⟩ (Nat.le_of_ble_eq_true rfl) rfl dX7_init_15 ?_
  refine n_aload_n (i := 0) (x := h0) C dX7_init_18 rfl rfl ?_
  refine n_aload_n (i := 2) (x := a2) C dX7_init_19 rfl rfl ?_
  refine n_putF (fs2 := [.ref a1, .ref a2, .null, .ref q1, .int 0, .int 0]) C hin npX7_21 ⟨rfl, rfl⟩ (Nat.le_of_ble_eq_true rfl) rfl dX7_init_20 ?_
  refine n_aload_n (i := 0) (x := h0) C dX7_init_23 rfl rfl ?_
  refine n_aload_n (i := 3) (x := a3) C dX7_init_24 rfl rfl ?_
  refine n_putF (fs2 := [.ref a1, .ref a2, .ref a3, .ref q1, .int 0, .int 0]) C hin npX7_25 ⟨rfl, rfl⟩ (Nat.le_of_ble_eq_true rfl) rfl dX7_init_25 ?_
  exact n_ret (fun k => ([0, q1] : List Nat).getD k 0, fun _ _ => 0) C trivial rfl rfl rfl dX7_init_28
