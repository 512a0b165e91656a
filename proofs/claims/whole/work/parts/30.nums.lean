/-! numbers: Int32 out of Int -/
def iI (z : Int) : Int32 := Int32.ofInt z
theorem iI_toInt {z : Int} (h : -2147483648 ≤ z ∧ z < 2147483648) : (iI z).toInt = z := by
  unfold iI
  rw [Int32.toInt_ofInt]
  show Int.bmod z 4294967296 = z
  exact Int.bmod_eq_of_le (by omega) (by omega)
theorem iI_of (x : Int32) : x = iI x.toInt := by
  unfold iI
  exact (Int32.ofInt_toInt x).symm
theorem iI_lt {a b : Int} (ha : -2147483648 ≤ a ∧ a < 2147483648) (hb : -2147483648 ≤ b ∧ b < 2147483648) : (iI a < iI b) ↔ a < b := by
  rw [Int32.lt_iff_toInt_lt, iI_toInt ha, iI_toInt hb]
theorem iI_le {a b : Int} (ha : -2147483648 ≤ a ∧ a < 2147483648) (hb : -2147483648 ≤ b ∧ b < 2147483648) : (iI a ≤ iI b) ↔ a ≤ b := by
  rw [Int32.le_iff_toInt_le, iI_toInt ha, iI_toInt hb]
theorem iI_eq {a b : Int} (ha : -2147483648 ≤ a ∧ a < 2147483648) (hb : -2147483648 ≤ b ∧ b < 2147483648) : (iI a = iI b) ↔ a = b := by
  rw [← Int32.toInt_inj, iI_toInt ha, iI_toInt hb]
theorem iI_add (a b : Int) : iI a + iI b = iI (a + b) := by unfold iI; exact (Int32.ofInt_add a b).symm
theorem iI_sub (a b : Int) : iI a - iI b = iI (a - b) := by unfold iI; exact (Int32.ofInt_sub a b).symm
theorem iI_mul (a b : Int) : iI a * iI b = iI (a * b) := by unfold iI; exact (Int32.ofInt_mul a b).symm
theorem iI_neg (a : Int) : -iI a = iI (-a) := by unfold iI; exact (Int32.ofInt_neg a).symm
theorem iI_nat (n : Nat) : nI n = iI n := by unfold nI iI; exact (Int32.ofInt_eq_ofNat).symm
theorem iI_clamp {z : Int} (h : 0 ≤ z ∧ z < 2147483648) : (iI z).toNatClampNeg = z.toNat := by
  show (iI z).toInt.toNat = z.toNat
  rw [iI_toInt (by omega)]
theorem inb_ii {z : Int} {n : Nat} (h : -2147483648 ≤ z ∧ z < 2147483648) : inb (iI z) n ↔ 0 ≤ z ∧ z < n := by
  unfold inb
  rw [iI_toInt h]
theorem iI_div {a b : Int} (ha : 0 ≤ a ∧ a < 2147483648) (hb : 0 < b ∧ b < 2147483648) : iI a / iI b = iI (a / b) := by
  obtain ⟨n, rfl⟩ : ∃ n : Nat, a = n := ⟨a.toNat, by omega⟩
  obtain ⟨m, rfl⟩ : ∃ m : Nat, b = m := ⟨b.toNat, by omega⟩
  rw [← iI_nat, ← iI_nat, pk_div (by omega) (by omega) (by omega), iI_nat]
  congr 1
theorem iI_rem {a b : Int} (ha : 0 ≤ a ∧ a < 2147483648) (hb : 0 < b ∧ b < 2147483648) : iI a - iI a / iI b * iI b = iI (a % b) := by
  rw [iI_div ha hb, iI_mul, iI_sub]
  congr 1
  have := Int.emod_def a b
  rw [this, Int.mul_comm]
theorem z_0 : (0 : Int32) = iI (0) := rfl
theorem z_1 : (1 : Int32) = iI (1) := rfl
theorem z_2 : (2 : Int32) = iI (2) := rfl
theorem z_3 : (3 : Int32) = iI (3) := rfl
theorem z_4 : (4 : Int32) = iI (4) := rfl
theorem z_5 : (5 : Int32) = iI (5) := rfl
theorem z_6 : (6 : Int32) = iI (6) := rfl
theorem z_7 : (7 : Int32) = iI (7) := rfl
theorem z_8 : (8 : Int32) = iI (8) := rfl
theorem z_9 : (9 : Int32) = iI (9) := rfl
theorem z_10 : (10 : Int32) = iI (10) := rfl
theorem z_11 : (11 : Int32) = iI (11) := rfl
theorem z_12 : (12 : Int32) = iI (12) := rfl
theorem z_13 : (13 : Int32) = iI (13) := rfl
theorem z_14 : (14 : Int32) = iI (14) := rfl
theorem z_15 : (15 : Int32) = iI (15) := rfl
theorem z_20 : (20 : Int32) = iI (20) := rfl
theorem z_23 : (23 : Int32) = iI (23) := rfl
theorem z_25 : (25 : Int32) = iI (25) := rfl
theorem z_40 : (40 : Int32) = iI (40) := rfl
theorem z_60 : (60 : Int32) = iI (60) := rfl
theorem z_73 : (73 : Int32) = iI (73) := rfl
theorem z_100 : (100 : Int32) = iI (100) := rfl
theorem z_220 : (220 : Int32) = iI (220) := rfl
theorem z_240 : (240 : Int32) = iI (240) := rfl
theorem z_255 : (255 : Int32) = iI (255) := rfl
theorem z_400 : (400 : Int32) = iI (400) := rfl
theorem z_585 : (585 : Int32) = iI (585) := rfl
theorem z_4681 : (4681 : Int32) = iI (4681) := rfl
theorem z_5348 : (5348 : Int32) = iI (5348) := rfl
theorem z_18724 : (18724 : Int32) = iI (18724) := rfl
theorem z_21392 : (21392 : Int32) = iI (21392) := rfl
theorem z_42784 : (42784 : Int32) = iI (42784) := rfl
theorem z_60853 : (60853 : Int32) = iI (60853) := rfl
theorem z_64176 : (64176 : Int32) = iI (64176) := rfl
theorem z_65535 : (65535 : Int32) = iI (65535) := rfl
theorem z_65536 : (65536 : Int32) = iI (65536) := rfl
theorem z_168516 : (168516 : Int32) = iI (168516) := rfl
theorem z_171136 : (171136 : Int32) = iI (171136) := rfl
theorem z_m1 : (-1 : Int32) = iI (-1) := rfl
theorem z_m2 : (-2 : Int32) = iI (-2) := rfl
theorem z_m1000000 : (-1000000 : Int32) = iI (-1000000) := rfl
theorem z_m1000000000 : (-1000000000 : Int32) = iI (-1000000000) := rfl
theorem z_1000000000 : (1000000000 : Int32) = iI (1000000000) := rfl
theorem z_25173 : (25173 : Int32) = iI (25173) := rfl
theorem z_13849 : (13849 : Int32) = iI (13849) := rfl
theorem z_1000 : (1000 : Int32) = iI (1000) := rfl
theorem z_m1000 : (-1000 : Int32) = iI (-1000) := rfl
theorem z_m100 : (-100 : Int32) = iI (-100) := rfl
theorem z_200 : (200 : Int32) = iI (200) := rfl
theorem z_32 : (32 : Int32) = iI (32) := rfl
theorem z_88 : (88 : Int32) = iI (88) := rfl
theorem z_118 : (118 : Int32) = iI (118) := rfl
theorem z_109 : (109 : Int32) = iI (109) := rfl
theorem z_16 : (16 : Int32) = iI (16) := rfl
theorem z_10000 : (10000 : Int32) = iI (10000) := rfl
theorem z_1000000 : (1000000 : Int32) = iI (1000000) := rfl
theorem bd_s (r : Int32) (s : SS) (k : Int32 → SS → Res) : bd (some (r, s)) k = k r s := rfl
theorem bd_n (k : Int32 → SS → Res) : bd none k = none := rfl
theorem bdp_s {β : Type} (r : Int32) (k : Int32 → Option β) : bdp (some r) k = k r := rfl
theorem bdp_n {β : Type} (k : Int32 → Option β) : bdp none k = none := rfl
/-! a step at the head -/
theorem e_if_t {α : Type} {c : Prop} [Decidable c] {a b r : α} (h : c) (k : a = r) : (if c then a else b) = r := by rw [if_pos h]; exact k
theorem e_if_f {α : Type} {c : Prop} [Decidable c] {a b r : α} (h : ¬ c) (k : b = r) : (if c then a else b) = r := by rw [if_neg h]; exact k
theorem e_gd {β : Type} {c : Prop} [Decidable c] {e r : Option β} (h : c) (k : e = r) : gd c e = r := by unfold gd; rw [if_pos h]; exact k
theorem e_bdp {β : Type} {x : Option Int32} {v : Int32} {f : Int32 → Option β} {r : Option β} (h : x = some v) (k : f v = r) : bdp x f = r := by rw [h]; exact k
theorem e_bd {x : Res} {v : Int32} {t : SS} {f : Int32 → SS → Res} {r : Res} (h : x = some (v, t)) (k : f v t = r) : bd x f = r := by rw [h]; exact k
theorem e_lt {β : Type} {x : Int32} {f : Int32 → β} {r : β} (k : f x = r) : lt x f = r := k
theorem e_lts {β : Type} {x : SS} {f : SS → β} {r : β} (k : f x = r) : lts x f = r := k
theorem e_jn {α β : Type} {j : α} {f : α → β} {r : β} (k : f j = r) : jn j f = r := k
theorem upr_eq (s : SS) (k : Nat) (R : Nat → Int32) : upr s k R k = R := if_pos rfl
theorem upr_ne {s : SS} {k q : Nat} {R : Nat → Int32} (h : q ≠ k) : upr s k R q = s q := if_neg h
theorem up_def (s : SS) (k j : Nat) (v : Int32) : up s k j v = upr s k (upd (s k) j v) := rfl
theorem upr_upr (s : SS) (k : Nat) (R Q : Nat → Int32) : upr (upr s k R) k Q = upr s k Q := by
  funext q
  unfold upr
  split <;> rfl
theorem upr_self (s : SS) (k : Nat) : upr s k (s k) = s := by
  funext q
  unfold upr
  split
  · rename_i h; rw [h]
  · rfl
theorem upd_eq (f : Nat → Int32) (k : Nat) (x : Int32) : upd f k x k = x := if_pos rfl
theorem upd_ne {f : Nat → Int32} {k j : Nat} {x : Int32} (h : j ≠ k) : upd f k x j = f j := if_neg h
theorem e_up0 {β : Type} {s : SS} {q j : Nat} {v : Int32} {f : SS → β} {r : β} (k : f (upr s q (upd (s q) j v)) = r) : lts (up s q j v) f = r := k
theorem e_up {β : Type} {s : SS} {R : Nat → Int32} {q j : Nat} {v : Int32} {f : SS → β} {r : β} (k : f (upr s q (upd R j v)) = r) : lts (up (upr s q R) q j v) f = r := by
  rw [up_def, upr_upr, upr_eq]
  exact k
