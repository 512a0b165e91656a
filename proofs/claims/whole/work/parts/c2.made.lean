/-! the two objects, as the invariant's world -/
def adF (q0 : Nat) (g : AD) (q56 : Nat) (w : AD) (b : Nat) (ad : AD) : AD := fun k => if k = 0 then q0 else if k < 56 then g (([0, 1, 2, 3, 4, 0, 0, 0, 5, 6, 7, 8, 9, 10, 11, 12, 13, 14, 15, 16, 17, 18, 19, 20, 21, 22, 23, 24, 25, 26, 27, 28, 29, 30, 31, 32, 33, 34, 35, 36, 0, 37, 38, 39, 40, 41, 42, 43, 44, 0, 45, 46, 47, 48, 49, 50] : List Nat).getD k 0) else if k = 56 then q56 else if k < 95 then w (k - 56) else if k = 1003 then b else ad k
def sF (t : SS) : SS := fun k => if k = 4 then t 4 else if k = 8 then t 8 else if k = 35 then (fun j => if j = 5 then 1 else 0) else if k = 39 then (fun j => if j = 4 then 1 else 0) else if k = 41 then (fun j => if j = 8 then -1 else 0) else if k = 46 then (fun j => if j = 8 then -1 else 0) else if k = 52 then (fun j => if j = 0 then 82 else if j = 3 then 1 else 0) else if k = 53 then (fun j => if j = 0 then 82 else if j = 3 then 1 else 0) else if k = 56 then (fun j => if j = 3 then 3 else if j = 5 then 1 else if j = 8 then 1 else 0) else fun _ => 0
theorem sF_st {t : SS} (h : RW t) : ST0 (sF t) := by
  refine ⟨fun n x h1 h2 => ?_, ⟨rfl, rfl, rfl, rfl⟩, ⟨rfl, ⟨rfl, fun j _ => ⟨lgt_zero _ _ rfl rfl, lgt_zero _ _ rfl rfl⟩⟩, fun _ _ => ⟨rfl, rfl, rfl, rfl⟩⟩, ⟨rfl, rfl, fun _ _ => rfl⟩, ⟨rfl, rfl⟩, ⟨rfl, rfl, rfl, rfl, rfl⟩, fun _ _ => rfl, ⟨rfl, rfl, rfl, rfl, rfl, rfl, rfl, rfl, rfl, rfl, rfl⟩, fun _ _ => ⟨rfl, rfl, rfl, rfl⟩, ⟨rfl, fun _ _ => rfl⟩, fun _ _ => rfl, fun _ _ => ⟨rfl, rfl⟩⟩
  exact h n x h1 h2
set_option maxRecDepth 100000 in
set_option maxHeartbeats 4000000 in
theorem wF_made (q0 q56 b : Nat) (g w : AD) (t t2 : SS) (T : CT) (ad : AD) : ([] ++ B_X11 q0 g t T) ++ B_X12 q56 w t2 T = wF T (adF q0 g q56 w b ad) (sF t) := rfl
set_option maxRecDepth 20000 in
set_option maxHeartbeats 4000000 in
theorem lw_made {l : Launch} {p : Program} {en : Env} {s : State} {m : MethodId} {b : Nat} {below : List Frame} {meth : Method} {c : Code} {D : va_G} {T : CT} {ad : AD} {Lx : Nat} {xs : Nat → Int32} (C : CX "NineLawsLaw" code 4 ret p s m #[Value.ref b] meth c D T ad (fun q : Nat => s.heap.size ≤ q)) (hX : va_X b Lx xs s s.heap) (hbl : b < s.heap.size) (hL : Lx ≤ 3072) : NW l p en room_1 s m #[Value.ref b] below meth c D (fun q : Nat => s.heap.size ≤ q) 4 0 0 (lw_Z below #[Value.ref b] s) 0 [.ref b] [] [] := by
  have hA : ∀ q, s.heap.size ≤ q → (fun q : Nat => s.heap.size ≤ q) q := fun _ z => z
  refine nw_pad 3 (L2 := [.ref b, .null, .null, .null]) rfl ?_
  refine n_new (Cm := 1) (Sm := 16) C hA nnL_7 dL_0 rfl rfl ⟨Nat.le_of_ble_eq_true rfl, Nat.le_of_ble_eq_true rfl⟩ (fun q0 => ?_)
  refine n_dup C dL_3 rfl ?_
  refine n_callI (Cm := 51) (Sm := 103603) (q := q0) (As := []) (st := [.ref q0]) C hA niL_9 (ci_X11 l q0) rfl rfl ⟨Nat.le_of_ble_eq_true rfl, Nat.le_of_ble_eq_true rfl⟩ (Nat.le_of_ble_eq_true rfl) rfl rfl ⟨Nat.le_of_ble_eq_true rfl, Nat.le_of_ble_eq_true rfl⟩ dL_4 (fun u hu => ?_)
  refine n_astore_n (i := 1) (x := q0) (L1 := [.ref b, .ref q0, .null, .null]) C dL_7 rfl (by decide) rfl rfl ?_
  refine n_new (Cm := 52) (Sm := 103677) C hA nnL_10 dL_8 rfl rfl ⟨Nat.le_of_ble_eq_true rfl, Nat.le_of_ble_eq_true rfl⟩ (fun q56 => ?_)
  refine n_dup C dL_11 rfl ?_
  refine n_callI (Cm := 90) (Sm := 508551) (q := q56) (As := []) (st := [.ref q56]) C hA niL_12 (ci_X12 l q56) rfl rfl ⟨Nat.le_of_ble_eq_true rfl, Nat.le_of_ble_eq_true rfl⟩ (Nat.le_of_ble_eq_true rfl) rfl rfl ⟨Nat.le_of_ble_eq_true rfl, Nat.le_of_ble_eq_true rfl⟩ dL_12 (fun w _ => ?_)
  refine n_astore_n (i := 2) (x := q56) (L1 := [.ref b, .ref q0, .ref q56, .null]) C dL_15 rfl (by decide) rfl rfl ?_
  refine nw_eq (ws2 := wF T (adF q0 u.1 q56 w.1 b ad) (sF u.2)) (wF_made q0 q56 b u.1 w.1 u.2 w.2 T ad) ?_
  intro H locs ls hP hD hS hl
  have C2 : CX "NineLawsLaw" code 4 ret p s m #[Value.ref b] meth c D T (adF q0 u.1 q56 w.1 b ad) (fun q : Nat => s.heap.size ≤ q) := ⟨C.1, C.2.1, C.2.2.1, C.2.2.2.1, C.2.2.2.2.1, C.2.2.2.2.2.1, C.2.2.2.2.2.2.1, C.2.2.2.2.2.2.2.1, C.2.2.2.2.2.2.2.2.cong rfl rfl rfl⟩
  have hl2 : lvh ls 4 (adF q0 u.1 q56 w.1 b ad) [.ref 1003, .ref 0, .ref 56, .null] := by
    refine ⟨hl.1, hl.2.1, fun i v h1 h2 => ?_⟩
    match i, h1 with
    | 0, h1 =>
      cases h1
      exact hl.2.2 0 (.ref b) rfl (by intro z; cases z)
    | 1, h1 =>
      cases h1
      exact hl.2.2 1 (.ref q0) rfl (by intro z; cases z)
    | 2, h1 =>
      cases h1
      exact hl.2.2 2 (.ref q56) rfl (by intro z; cases z)
    | 3, h1 =>
      cases h1
      exact absurd rfl h2
    | k + 4, h1 => exact absurd (List.getElem?_eq_some_iff.mp h1).1 (show ¬ k + 4 < 4 by omega)
  exact lw_go C2 (Lx := Lx) (xs := xs) hX hbl hL ⟨Nat.le_of_ble_eq_true rfl, Nat.le_of_ble_eq_true rfl⟩ (sF_st hu) H locs ls hP hD hS hl2
