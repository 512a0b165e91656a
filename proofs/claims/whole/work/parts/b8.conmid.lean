/-! constructors that call: State, Rows, Parser -/
section MID
variable {l : Launch} {p : Program} {en : Env} {R : Room} {s : State} {m : MethodId} {args : Array Value} {below : List Frame} {meth : Method} {c : Code} {D : va_G} {T : CT} {ad : AD} {A : Nat → Prop} {Cn Sn : Nat} {Q : State → Prop} {pc mL : Nat} {L st : List Value} {ws : va_W} {rt : Option FieldType} {own : String} {bs : ByteArray}
theorem c_bare {wl : WT} (a1 : Int32) (s0 : SS) : Ct l wl yX6_bareOf cX6_bareOf 1 (some .int) 0 [.int a1] s0 (pu (f_X6_bareOf a1 s0) s0) := by
  refine ct_of (y := yX6_bareOf) plX6 (Nat.le_of_ble_eq_true rfl) ?_
  refine r_pad0 0 (L1 := [.int a1]) rfl ?_
  unfold f_X6_bareOf
  refine r_iload_n (pc1 := 1) (i := 0) dX6_bareOf_0 rfl rfl rfl ?_
  refine p_jn (hyp := fun (k1 : Option Int32) => RC l wl RX6 cX6_bareOf 1 (some .int) 0 12 [.null] [] s0 (pu k1 s0)) (?_) (fun k1 hk1 => ?_)
  · refine r_sipush (v := 5348) (pc1 := 15) dX6_bareOf_12 ks_5348 rfl ?_
    refine r_goto (tgt := 23) dX6_bareOf_15 (by decide) ?_
    exact p_iret rfl rfl dX6_bareOf_23
  · refine p_if_lt (tgt := 12) (pc1 := 4) dX6_bareOf_1 (by decide) rfl (fun q2 => ?_) (fun q2 => ?_)
    · exact r_wk (hk1) ⟨Or.inl rfl, trivial⟩
    · refine r_iload_n (pc1 := 5) (i := 0) dX6_bareOf_4 rfl rfl rfl ?_
      refine r_bare (pc1 := 8) bareX6_35 dX6_bareOf_5 rfl ?_
      refine r_bareLen (v := 6) (pc1 := 9) rfl dX6_bareOf_8 rfl ?_
      refine p_icmp_lt (tgt := 18) (pc1 := 12) dX6_bareOf_9 (by decide) rfl (fun q3 => ?_) (fun q3 => ?_)
      · refine r_bare (pc1 := 21) bareX6_35 dX6_bareOf_18 rfl ?_
        refine r_iload_n (pc1 := 22) (i := 0) dX6_bareOf_21 rfl rfl rfl ?_
        refine p_bareLd (pc1 := 23) dX6_bareOf_22 rfl ?_
        exact p_iret rfl rfl dX6_bareOf_23
      · exact r_wk (hk1) ⟨Or.inl rfl, trivial⟩
def wl0 : WT := fun _ _ _ => []
theorem n_bare {idx x : Nat} {i r : Int32} (C : CX own bs mL rt p s m args meth c D T ad A) (G : LT own idx yX6_bareOf cX6_bareOf 1 (some .int) 1) (he : f_X6_bareOf i (fun _ _ => 0) = some r) (hr : (rmd 0).frames + 1 ≤ R.frames ∧ 8 + (1 + 11) + (rmd 0).locals ≤ R.locals) (hR : Cn ≤ R.cells ∧ Sn ≤ R.slots) (h : decode bs pc = .ok (.invokestatic idx, 3)) (k : NW l p en R s m args below meth c D A mL Cn Sn Q (pc + 3) L [.int r, .ref x] ws) : NW l p en R s m args below meth c D A mL Cn Sn Q pc L [.int i, .ref x] ws := by
  intro H locs ls hP hD hS hl
  have hMt := c_bare (l := l) (wl := wl0) i (fun _ _ => 0) r (fun _ _ => 0) (by rw [he]; rfl) D T ad (fun _ => False)
  obtain ⟨⟨gi, gc, gy⟩, gl, gm⟩ := G
  have cw := va_cwS (R := R) (rm := rmd 0) 1 C.2.2.2.2.2.2.1 (goodAll (ws := va_wsS own idx yX6_bareOf (.code yX6_bareOf cX6_bareOf 1 (some .int) :: gw)) (fun w hw => by
    rcases List.mem_append.mp hw with z | z
    · simp only [List.mem_cons, List.not_mem_nil, or_false] at z
      rcases z with rfl | rfl | rfl <;> assumption
    · rcases List.mem_cons.mp z with e | e
      · rw [e]; exact gc
      · exact e)) rfl rfl rfl gy hr
  have e0 : ∀ (i : Nat) (x : Nat × va_E), (wl0 T ad (fun _ _ => 0))[i]? = some x → False := fun i x hx => by simp [wl0] at hx
  have hP0 : va_P D vwCl (wl0 T ad (fun _ _ => 0)) H := fun i x hx => (e0 i x hx).elim
  have hD0 : va_D (fun _ => False) (wl0 T ad (fun _ _ => 0)) := ⟨fun i j x y hx => (e0 i x hx).elim, fun i x hx => (e0 i x hx).elim⟩
  have hroom : 2 * (F0 m pc ls [.int i, .ref x]).monitorRoom + ([Value.ref x].map (fun v => v.category)).sum ≤ 8 := lv_room (Nat.le_of_ble_eq_true rfl)
  refine va_calli (A1 := fun _ => False) (va_runS (As := [.int i]) (rest := [.ref x]) (Ts := gw) (own := own) ⟨C.1, C.2.1, C.2.2.1, C.2.2.2.2.2.1, C.2.2.2.2.2.2.1⟩ hMt cw ⟨ctBlind, fun U hU hW1 => ⟨rfl, ⟨by rw [hU]; exact hP0, va_K.moved hW1.alike C.2.2.2.2.2.2.2.1, hD0⟩, (SX.call C.2.2.2.2.2.2.2.2 hS hU hW1).narrow (fun _ z => z.elim)⟩⟩ rfl rfl hl.1 rfl hroom h ⟨hR.1, hR.2⟩) hS (fun _ _ z => z.elim) (fun _ z => z.elim) (fun rr u t H1 locs1 ht hvm hw hB hz1 hk1 hS1 => ?_)
  have hw : rr = r := hw
  subst hw
  exact k H1 locs1 ls (hP.kept (fun i x hx => hk1 x.1 ((hP i x hx).lt) (fun z => z))) hD hS1 hl
def rowsW : WT := mkW [(3, OE 6 [some 4, some 8]), (4, AE 0 5348), (8, AE 0 5348)]
theorem w3_3 : WI rowsW 3 (OE 6 [some 4, some 8]) := wi_of 3 0 (by decide) rfl
theorem w3_4 : WI rowsW 4 (AE 0 5348) := wi_of 4 1 (by decide) rfl
theorem w3_8 : WI rowsW 8 (AE 0 5348) := wi_of 8 2 (by decide) rfl
theorem n_listAll {adr : AD} {i : Int32} {t1 t2 : SS} (C : CX RX6 bs mL rt p s m args meth c D T ad A) (e0 : adr 1000 = ad 1000) (e1 : adr 1001 = ad 1001) (e2 : adr 1002 = ad 1002) (he : f_X6_listAll i t1 = some (0, t2)) (hr : (rmd 1).frames + 1 ≤ R.frames ∧ 8 + (10 + 11) + (rmd 1).locals ≤ R.locals) (hR : Cn ≤ R.cells ∧ Sn ≤ R.slots) (h : decode bs pc = .ok (.invokevirtual 18, 3)) (k : NW l p en R s m args below meth c D A mL Cn Sn Q (pc + 3) L [] (rowsW T adr t2)) : NW l p en R s m args below meth c D A mL Cn Sn Q pc L [.int i, .ref (adr 3)] (rowsW T adr t1) := by
  intro H locs ls hP hD hS hl
  have hMt := c_X6_listAll (l := l) w3_3 w3_4 w3_8 i t1 0 t2 he D T adr A
  obtain ⟨⟨gi, gc, gy⟩, gl, gm, gs⟩ := nl_6
  have cw := cwV (R := R) (rm := rmd 1) 1 C.2.2.2.2.2.2.1 (goodAll (ws := wsV RX6 18 RX6 yX6_listAll (.code yX6_listAll cX6_listAll 10 none :: gw)) (fun w hw => by
    rcases List.mem_append.mp hw with z | z
    · simp only [List.mem_cons, List.not_mem_nil, or_false] at z
      rcases z with rfl | rfl | rfl | rfl <;> assumption
    · rcases List.mem_cons.mp z with e | e
      · rw [e]; exact gc
      · exact e)) rfl rfl rfl ⟨rfl, gy⟩ hr
  have hroom : 2 * (F0 m pc ls [.int i, .ref (adr 3)]).monitorRoom + (([] : List Value).map (fun v => v.category)).sum ≤ 8 := lv_room (Nat.le_of_ble_eq_true rfl)
  have hX := C.2.2.2.2.2.2.2.2
  refine va_callv (A1 := A) (va_runV (C := RX6) (As := [.int i]) (rest := []) (Ts := gw) (own := RX6) ⟨C.1, C.2.1, C.2.2.1, C.2.2.2.2.2.1, C.2.2.2.2.2.2.1⟩ hMt cw ⟨ctBlind, rv_of w3_3 cl_6 D T adr A s H t1 locs C.2.2.2.2.2.2.2.1 hP hS (hX.cong e0 e1 e2), fun U hU hW1 => ⟨rfl, ⟨by rw [hU]; exact hP, va_K.moved hW1.alike C.2.2.2.2.2.2.2.1, hD⟩, (SX.call hX hS hU hW1).cong e0 e1 e2⟩⟩ rfl rfl hl.1 rfl hroom h ⟨hR.1, hR.2⟩) hS (fun _ _ z => z) (fun _ z => z) (fun u t H1 locs1 ht hvm hw hB hz1 hk1 hS1 => ?_)
  obtain ⟨b1, b2, b3⟩ := hB
  rw [ht] at b1
  exact k H1 locs1 ls b1 b3 hS1 hl
end MID
def rmX8 : Room := { frames := 8, cells := 0, slots := 0, locals := 400 }
def B_X8 (h0 : Nat) : AD → SS → CT → va_W := fun g s T => [(h0, .inr (8, [.int 82, .int 0, .int 0, .int 1, .int 0]))]
set_option maxRecDepth 20000 in
set_option maxHeartbeats 4000000 in
theorem ci_X8 (l : Launch) (h0 : Nat) : CI l yX8_init cX8_init 1 rmX8 [.ref h0] [(h0, .inr (8, [.int 0, .int 0, .int 0, .int 0, .int 0]))] (fun _ => True) (B_X8 h0) := by
  refine ci_of plX8 rfl (Nat.le_of_ble_eq_true rfl) ?_
  intro p en s m args below meth c D T ad A C hin hA
  have C : CX RX8 cX8_init 1 none p s m args meth c D T ad A := C
  refine nw_pad 0 (L2 := [.ref h0]) rfl ?_
  refine n_aload_n (i := 0) (x := h0) C dX8_init_0 rfl rfl ?_
  refine n_obj C noX8 ob_inst ob_code (Nat.le_of_ble_eq_true rfl) (Nat.le_of_ble_eq_true rfl) dX8_init_1 ?_
  refine n_aload_n (i := 0) (x := h0) C dX8_init_4 rfl rfl ?_
  refine n_iconst (v := 3) C dX8_init_5 (by decide +kernel) ?_
  refine n_bare (r := 82) C nb_8 (bare_f _).2.2.1 ⟨Nat.le_of_ble_eq_true rfl, Nat.le_of_ble_eq_true rfl⟩ ⟨Nat.le_of_ble_eq_true rfl, Nat.le_of_ble_eq_true rfl⟩ dX8_init_6 ?_
  refine n_putV (fs2 := [.int 82, .int 0, .int 0, .int 0, .int 0]) C npX8_13 ⟨rfl, rfl⟩ (Nat.le_of_ble_eq_true rfl) rfl dX8_init_9 ?_
  refine n_aload_n (i := 0) (x := h0) C dX8_init_12 rfl rfl ?_
  refine n_iconst (v := 1) C dX8_init_13 (by decide +kernel) ?_
  refine n_putV (fs2 := [.int 82, .int 0, .int 0, .int 1, .int 0]) C npX8_19 ⟨rfl, rfl⟩ (Nat.le_of_ble_eq_true rfl) rfl dX8_init_14 ?_
  exact n_ret (fun k => ([0] : List Nat).getD k 0, fun _ _ => 0) C trivial rfl rfl rfl dX8_init_17
def rmX6 : Room := { frames := 8, cells := 2, slots := 10696, locals := 400 }
def B_X6 (h0 : Nat) : AD → SS → CT → va_W := fun g s T => [(h0, .inr (6, [.ref (g 1), .ref (g 2)])), ((g 1), .inl (T 0, 5348, .inl (s 4))), ((g 2), .inl (T 0, 5348, .inl (s 8)))]
set_option maxRecDepth 20000 in
set_option maxHeartbeats 4000000 in
theorem ci_X6 (l : Launch) (h0 : Nat) : CI l yX6_init cX6_init 2 rmX6 [.ref h0] [(h0, .inr (6, [.null, .null]))] (RW) (B_X6 h0) := by
  refine ci_of plX6 rfl (Nat.le_of_ble_eq_true rfl) ?_
  intro p en s m args below meth c D T ad A C hin hA
  have C : CX RX6 cX6_init 2 none p s m args meth c D T ad A := C
  refine nw_pad 1 (L2 := [.ref h0, .null]) rfl ?_
  refine n_aload_n (i := 0) (x := h0) C dX6_init_0 rfl rfl ?_
  refine n_obj C noX6 ob_inst ob_code (Nat.le_of_ble_eq_true rfl) (Nat.le_of_ble_eq_true rfl) dX6_init_1 ?_
  refine n_aload_n (i := 0) (x := h0) C dX6_init_4 rfl rfl ?_
  refine n_sipush (v := 5348) C dX6_init_5 (by decide +kernel) ?_
  refine n_newarr_int (N := 5348) (Cm := 1) (Sm := 5348) C hA dX6_init_8 (by decide) (by decide +kernel) (Nat.le_of_ble_eq_true rfl) rfl rfl ⟨Nat.le_of_ble_eq_true rfl, Nat.le_of_ble_eq_true rfl⟩ (fun q1 => ?_)
  refine nw_eq (ws2 := [(h0, .inr (6, [.null, .null])), (q1, .inl (T 0, 5348, .inl (fun _ => 0)))]) rfl ?_
  refine n_putF (fs2 := [.ref q1, .null]) C hin npX6_11 ⟨rfl, rfl⟩ (Nat.le_of_ble_eq_true rfl) rfl dX6_init_10 ?_
  refine n_aload_n (i := 0) (x := h0) C dX6_init_13 rfl rfl ?_
  refine n_sipush (v := 5348) C dX6_init_14 (by decide +kernel) ?_
  refine n_newarr_int (N := 5348) (Cm := 2) (Sm := 10696) C hA dX6_init_17 (by decide) (by decide +kernel) (Nat.le_of_ble_eq_true rfl) rfl rfl ⟨Nat.le_of_ble_eq_true rfl, Nat.le_of_ble_eq_true rfl⟩ (fun q2 => ?_)
  refine nw_eq (ws2 := [(h0, .inr (6, [.ref q1, .null])), (q1, .inl (T 0, 5348, .inl (fun _ => 0))), (q2, .inl (T 0, 5348, .inl (fun _ => 0)))]) rfl ?_
  refine n_putF (fs2 := [.ref q1, .ref q2]) C hin npX6_15 ⟨rfl, rfl⟩ (Nat.le_of_ble_eq_true rfl) rfl dX6_init_19 ?_
  refine n_iconst (v := 1) C dX6_init_22 (by decide +kernel) ?_
  refine n_istore_n (i := 1) (L1 := [.ref h0, .int 1]) C dX6_init_23 rfl (by decide) rfl rfl ?_
  let adr : AD := fun k => if k < 1000 then ([0, 0, 0, h0, q1, 0, 0, 0, q2] : List Nat).getD k 0 else ad k
  obtain ⟨t1, t2, t3, t4, f1, f2, f3, f4, r4, -⟩ := la_all (fun _ _ => 0)
  refine nw_eq (ws2 := rowsW T adr (fun _ _ => 0)) rfl ?_
  refine n_iload_n (i := 1) (x := 1) C dX6_init_24 rfl rfl ?_
  refine n_iconst (v := 4) C dX6_init_25 (by decide +kernel) ?_
  refine n_icmp_gt (tgt := 40) C dX6_init_26 (by decide) (fun z => absurd z (by decide)) (fun _ => ?_)
  refine n_aload_n (i := 0) (x := h0) C dX6_init_29 rfl rfl ?_
  refine n_iload_n (i := 1) (x := 1) C dX6_init_30 rfl rfl ?_
  refine n_listAll (adr := adr) C rfl rfl rfl f1 ⟨Nat.le_of_ble_eq_true rfl, Nat.le_of_ble_eq_true rfl⟩ ⟨Nat.le_of_ble_eq_true rfl, Nat.le_of_ble_eq_true rfl⟩ dX6_init_31 ?_
  refine n_iinc (i := 1) (y := 2) (L1 := [.ref h0, .int 2]) C dX6_init_34 rfl (by decide) (by decide) rfl rfl ?_
  refine n_goto (tgt := 24) C dX6_init_37 (by decide) ?_
  refine n_iload_n (i := 1) (x := 2) C dX6_init_24 rfl rfl ?_
  refine n_iconst (v := 4) C dX6_init_25 (by decide +kernel) ?_
  refine n_icmp_gt (tgt := 40) C dX6_init_26 (by decide) (fun z => absurd z (by decide)) (fun _ => ?_)
  refine n_aload_n (i := 0) (x := h0) C dX6_init_29 rfl rfl ?_
  refine n_iload_n (i := 1) (x := 2) C dX6_init_30 rfl rfl ?_
  refine n_listAll (adr := adr) C rfl rfl rfl f2 ⟨Nat.le_of_ble_eq_true rfl, Nat.le_of_ble_eq_true rfl⟩ ⟨Nat.le_of_ble_eq_true rfl, Nat.le_of_ble_eq_true rfl⟩ dX6_init_31 ?_
  refine n_iinc (i := 1) (y := 3) (L1 := [.ref h0, .int 3]) C dX6_init_34 rfl (by decide) (by decide) rfl rfl ?_
  refine n_goto (tgt := 24) C dX6_init_37 (by decide) ?_
  refine n_iload_n (i := 1) (x := 3) C dX6_init_24 rfl rfl ?_
  refine n_iconst (v := 4) C dX6_init_25 (by decide +kernel) ?_
  refine n_icmp_gt (tgt := 40) C dX6_init_26 (by decide) (fun z => absurd z (by decide)) (fun _ => ?_)
  refine n_aload_n (i := 0) (x := h0) C dX6_init_29 rfl rfl ?_
  refine n_iload_n (i := 1) (x := 3) C dX6_init_30 rfl rfl ?_
  refine n_listAll (adr := adr) C rfl rfl rfl f3 ⟨Nat.le_of_ble_eq_true rfl, Nat.le_of_ble_eq_true rfl⟩ ⟨Nat.le_of_ble_eq_true rfl, Nat.le_of_ble_eq_true rfl⟩ dX6_init_31 ?_
  refine n_iinc (i := 1) (y := 4) (L1 := [.ref h0, .int 4]) C dX6_init_34 rfl (by decide) (by decide) rfl rfl ?_
  refine n_goto (tgt := 24) C dX6_init_37 (by decide) ?_
  refine n_iload_n (i := 1) (x := 4) C dX6_init_24 rfl rfl ?_
  refine n_iconst (v := 4) C dX6_init_25 (by decide +kernel) ?_
  refine n_icmp_gt (tgt := 40) C dX6_init_26 (by decide) (fun z => absurd z (by decide)) (fun _ => ?_)
  refine n_aload_n (i := 0) (x := h0) C dX6_init_29 rfl rfl ?_
  refine n_iload_n (i := 1) (x := 4) C dX6_init_30 rfl rfl ?_
  refine n_listAll (adr := adr) C rfl rfl rfl f4 ⟨Nat.le_of_ble_eq_true rfl, Nat.le_of_ble_eq_true rfl⟩ ⟨Nat.le_of_ble_eq_true rfl, Nat.le_of_ble_eq_true rfl⟩ dX6_init_31 ?_
  refine n_iinc (i := 1) (y := 5) (L1 := [.ref h0, .int 5]) C dX6_init_34 rfl (by decide) (by decide) rfl rfl ?_
  refine n_goto (tgt := 24) C dX6_init_37 (by decide) ?_
  refine n_iload_n (i := 1) (x := 5) C dX6_init_24 rfl rfl ?_
  refine n_iconst (v := 4) C dX6_init_25 (by decide +kernel) ?_
  refine n_icmp_gt (tgt := 40) C dX6_init_26 (by decide) (fun _ => ?_) (fun z => absurd (by decide) z)
  exact n_ret (fun k => ([0, q1, q2] : List Nat).getD k 0, t4) C r4 rfl rfl rfl dX6_init_40
def rmX4 : Room := { frames := 8, cells := 9, slots := 705, locals := 400 }
def B_X4 (h0 : Nat) : AD → SS → CT → va_W := fun g s T => [(h0, .inr (4, [.ref (g 1), .ref (g 2), .int 0, .int 0, .int 0])), ((g 1), .inl (T 0, 200, .inl (fun _ => 0))), ((g 2), .inr (1, [.ref (g 3), .ref (g 4), .ref (g 5), .ref (g 6), .ref (g 7), .ref (g 8), .ref (g 9), .int 0, .int 0])), ((g 3), .inl (T 0, 200, .inl (fun _ => 0))), ((g 4), .inl (T 0, 200, .inl (fun _ => 0))), ((g 5), .inl (T 0, 14, .inl (fun _ => 0))), ((g 6), .inl (T 0, 14, .inl (fun _ => 0))), ((g 7), .inl (T 0, 14, .inl (fun _ => 0))), ((g 8), .inl (T 0, 14, .inl (fun _ => 0))), ((g 9), .inl (T 0, 40, .inl (fun _ => 0)))]
set_option maxRecDepth 20000 in
set_option maxHeartbeats 4000000 in
theorem ci_X4 (l : Launch) (h0 : Nat) : CI l yX4_init cX4_init 1 rmX4 [.ref h0] [(h0, .inr (4, [.null, .null, .int 0, .int 0, .int 0]))] (fun _ => True) (B_X4 h0) := by
  refine ci_of plX4 rfl (Nat.le_of_ble_eq_true rfl) ?_
  intro p en s m args below meth c D T ad A C hin hA
  have C : CX RX4 cX4_init 1 none p s m args meth c D T ad A := C
  refine nw_pad 0 (L2 := [.ref h0]) rfl ?_
  refine n_aload_n (i := 0) (x := h0) C dX4_init_0 rfl rfl ?_
  refine n_obj C noX4 ob_inst ob_code (Nat.le_of_ble_eq_true rfl) (Nat.le_of_ble_eq_true rfl) dX4_init_1 ?_
  refine n_aload_n (i := 0) (x := h0) C dX4_init_4 rfl rfl ?_
  refine n_sipush (v := 200) C dX4_init_5 (by decide +kernel) ?_
  refine n_newarr_int (N := 200) (Cm := 1) (Sm := 200) C hA dX4_init_8 (by decide) (by decide +kernel) (Nat.le_of_ble_eq_true rfl) rfl rfl ⟨Nat.le_of_ble_eq_true rfl, Nat.le_of_ble_eq_true rfl⟩ (fun q1 => ?_)
  refine nw_eq (ws2 := [(h0, .inr (4, [.null, .null, .int 0, .int 0, .int 0])), (q1, .inl (T 0, 200, .inl (fun _ => 0)))]) rfl ?_
  refine n_putF (fs2 := [.ref q1, .null, .int 0, .int 0, .int 0]) C hin npX4_9 ⟨rfl, rfl⟩ (Nat.le_of_ble_eq_true rfl) rfl dX4_init_10 ?_
  refine n_aload_n (i := 0) (x := h0) C dX4_init_13 rfl rfl ?_
  refine n_new (Cm := 2) (Sm := 209) C hA nnX4_15 dX4_init_14 rfl rfl ⟨Nat.le_of_ble_eq_true rfl, Nat.le_of_ble_eq_true rfl⟩ (fun q2 => ?_)
  refine nw_eq (ws2 := [(h0, .inr (4, [.ref q1, .null, .int 0, .int 0, .int 0])), (q1, .inl (T 0, 200, .inl (fun _ => 0)))] ++ [(q2, .inr (1, [.null, .null, .null, .null, .null, .null, .null, .int 0, .int 0]))]) rfl ?_
  refine n_dup C dX4_init_17 rfl ?_
  refine n_callI (Cm := 9) (Sm := 705) (q := q2) (As := []) (st := [.ref q2, .ref h0]) C hA niX4_17 (ci_X1 l q2) rfl rfl ⟨Nat.le_of_ble_eq_true rfl, Nat.le_of_ble_eq_true rfl⟩ (Nat.le_of_ble_eq_true rfl) rfl rfl ⟨Nat.le_of_ble_eq_true rfl, Nat.le_of_ble_eq_true rfl⟩ dX4_init_18 (fun u1 hu1 => ?_)
  refine nw_eq (ws2 := [(h0, .inr (4, [.ref q1, .null, .int 0, .int 0, .int 0])), (q1, .inl (T 0, 200, .inl (fun _ => 0))), (q2, .inr (1, [.ref (u1.1 1), .ref (u1.1 2), .ref (u1.1 3), .ref (u1.1 4), .ref (u1.1 5), .ref (u1.1 6), .ref (u1.1 7), .int 0, .int 0])), ((u1.1 1), .inl (T 0, 200, .inl (fun _ => 0))), ((u1.1 2), .inl (T 0, 200, .inl (fun _ => 0))), ((u1.1 3), .inl (T 0, 14, .inl (fun _ => 0))), ((u1.1 4), .inl (T 0, 14, .inl (fun _ => 0))), ((u1.1 5), .inl (T 0, 14, .inl (fun _ => 0))), ((u1.1 6), .inl (T 0, 14, .inl (fun _ => 0))), ((u1.1 7), .inl (T 0, 40, .inl (fun _ => 0)))]) rfl ?_
  refine n_putF (fs2 := [.ref q1, .ref q2, .int 0, .int 0, .int 0]) C hin npX4_18 ⟨rfl, rfl⟩ (Nat.le_of_ble_eq_true rfl) rfl dX4_init_21 ?_
  exact n_ret (fun k => ([0, q1, q2, (u1.1 1), (u1.1 2), (u1.1 3), (u1.1 4), (u1.1 5), (u1.1 6), (u1.1 7)] : List Nat).getD k 0, fun _ _ => 0) C trivial rfl rfl rfl dX4_init_24
