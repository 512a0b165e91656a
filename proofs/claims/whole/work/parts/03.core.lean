/-- the tables' words that last; the words on nest mates -/
def gw : List Cond := lw_tbl.filter goodWord
def isNest : Cond → Bool
  | .fieldLinkNest .. => true
  | .methodLinkNest .. => true
  | _ => false
def nestW : List Cond := lw_tbl.filter isNest
theorem in_gw {w : Cond} (h : w ∈ lw_tbl) (g : goodWord w = true) : w ∈ gw := List.mem_filter.mpr ⟨h, g⟩
theorem in_nest {w : Cond} (h : w ∈ lw_tbl) (g : isNest w = true) : w ∈ nestW := List.mem_filter.mpr ⟨h, g⟩
theorem goodIn_gw {w0 : Cond} (h0 : w0 ∈ gw) : GoodIn gw (w0 :: gw) := by
  intro w hw
  have hm : w ∈ gw := by
    rcases List.mem_cons.mp hw with e | e
    · rw [e]; exact h0
    · exact e
  exact ⟨hm, good_of_word (List.mem_filter.mp hm).2⟩
def NX (U : State) : Prop := ∀ w ∈ nestW, va_Nw w U
theorem NX.warm {s U : State} (h : NX s) (hW : s.WarmedH U.vm) : NX U := by
  intro w hw
  have h1 := h w hw
  have h2 := (List.mem_filter.mp hw).2
  cases w <;> first | (simp [isNest] at h2; done) | exact va_Nw.warmF hW h1 | exact va_Nw.warmM hW h1
theorem NX.same {u U : State} (hv : u.vm = U.vm) (h : NX u) : NX U := by
  intro w hw
  have h1 := h w hw
  have h2 := (List.mem_filter.mp hw).2
  cases w <;> first | (simp [isNest] at h2; done) | exact va_Nw.same rfl hv h1
theorem NX.of {A : Array Value} {U : State} (h : ∀ w ∈ lw_tbl, w.before A U = true) : NX U := by
  intro w hw
  have h1 := h w (List.mem_filter.mp hw).1
  have h2 := (List.mem_filter.mp hw).2
  cases w <;> first | (simp [isNest] at h2; done) | exact va_Nw.of rfl h1
/-- what cell k holds at slot or place j -/
abbrev SS : Type := Nat → Nat → Int32
/-- an answer and what is left behind; none: nothing is said -/
abbrev Res : Type := Option (Int32 × SS)
def upr (s : SS) (k : Nat) (row : Nat → Int32) : SS := fun q => if q = k then row else s q
def up (s : SS) (k j : Nat) (v : Int32) : SS := upr s k (upd (s k) j v)
def bd (x : Res) (k : Int32 → SS → Res) : Res := match x with | none => none | some (r, s) => k r s
def bdp {β : Type} (x : Option Int32) (k : Int32 → Option β) : Option β := match x with | none => none | some r => k r
def gd {β : Type} (c : Prop) [Decidable c] (e : Option β) : Option β := if c then e else none
def lt {β : Type} (x : Int32) (k : Int32 → β) : β := k x
def lts {β : Type} (x : SS) (k : SS → β) : β := k x
def jn {α β : Type} (k : α) (body : α → β) : β := body k
def pu (x : Option Int32) (s : SS) : Res := match x with | none => none | some r => some (r, s)
theorem pu_ite {c : Prop} [Decidable c] {a b : Option Int32} {s : SS} : pu (if c then a else b) s = if c then pu a s else pu b s := by
  by_cases h : c
  · rw [if_pos h, if_pos h]
  · rw [if_neg h, if_neg h]
theorem pu_bdp {e1 : Option Int32} {k : Int32 → Option Int32} {s0 : SS} : pu (bdp e1 k) s0 = bdp e1 (fun r => pu (k r) s0) := by
  cases e1 <;> rfl
theorem pu_gd {c : Prop} [Decidable c] {a : Option Int32} {s : SS} : pu (gd c a) s = gd c (pu a s) := by
  unfold gd
  rw [pu_ite]
  rfl
abbrev CT : Type := Nat → ClassId
abbrev AD : Type := Nat → Nat
abbrev EE : Type := CT → AD → (Nat → Int32) → va_E
abbrev WT : Type := CT → AD → SS → va_W
def tysT (T : CT) : List (ClassId × FieldType) := [(T 0, .int), (T 1, .byte), (T 2, .boolean), (T 3, .long)]
def cv (ad : AD) : Value → Value
  | .ref k => .ref (ad k)
  | v => v
theorem cv_cat (ad : AD) (v : Value) : (cv ad v).category = v.category := by cases v <;> rfl
/-- cell k of the world is E of what it holds -/
def WI (wl : WT) (k : Nat) (E : EE) : Prop := ∃ q : Nat, (∀ (T : CT) (ad : AD) (s : SS), (wl T ad s)[q]? = some (ad k, E T ad (s k))) ∧ ∀ (T : CT) (ad : AD) (s : SS) (row : Nat → Int32), (wl T ad s).set q (ad k, E T ad row) = wl T ad (upr s k row)
/-- a world of cells, each with its label -/
def mkW : List (Nat × EE) → WT
  | [] => fun _ _ _ => []
  | (k, E) :: r => fun T ad s => (ad k, E T ad (s k)) :: mkW r T ad s
theorem mkW_out : ∀ (Es : List (Nat × EE)) (k : Nat) (T : CT) (ad : AD) (s : SS) (row : Nat → Int32), k ∉ Es.map Prod.fst → mkW Es T ad (upr s k row) = mkW Es T ad s := by
  intro Es
  induction Es with
  | nil => intros; rfl
  | cons x r ih =>
    obtain ⟨b, E⟩ := x
    intro k T ad s row h
    have h1 : ¬ b = k := fun q => h (by rw [List.map_cons]; exact q ▸ List.mem_cons_self)
    have h2 : k ∉ r.map Prod.fst := fun q => h (by rw [List.map_cons]; exact List.mem_cons_of_mem _ q)
    show (ad b, E T ad (upr s k row b)) :: mkW r T ad (upr s k row) = _
    rw [ih k T ad s row h2]
    show (ad b, E T ad (if b = k then row else s b)) :: _ = _
    rw [if_neg h1]
    rfl
theorem mkW_get : ∀ (Es : List (Nat × EE)) (q k : Nat) (E : EE) (T : CT) (ad : AD) (s : SS), Es[q]? = some (k, E) → (mkW Es T ad s)[q]? = some (ad k, E T ad (s k)) := by
  intro Es
  induction Es with
  | nil => intro q k E T ad s h; simp at h
  | cons x r ih =>
    obtain ⟨b, E0⟩ := x
    intro q k E T ad s h
    cases q with
    | zero =>
      simp at h
      obtain ⟨rfl, rfl⟩ := h
      rfl
    | succ q =>
      have h2 : r[q]? = some (k, E) := by simpa using h
      have h3 := ih q k E T ad s h2
      show ((ad b, E0 T ad (s b)) :: mkW r T ad s)[q + 1]? = _
      rw [List.getElem?_cons_succ, h3]
theorem mkW_set : ∀ (Es : List (Nat × EE)) (q k : Nat) (E : EE) (T : CT) (ad : AD) (s : SS) (row : Nat → Int32), (Es.map Prod.fst).Nodup → Es[q]? = some (k, E) → (mkW Es T ad s).set q (ad k, E T ad row) = mkW Es T ad (upr s k row) := by
  intro Es
  induction Es with
  | nil => intro q k E T ad s row _ h; simp at h
  | cons x r ih =>
    obtain ⟨b, E0⟩ := x
    intro q k E T ad s row hn h
    rw [List.map_cons, List.nodup_cons] at hn
    cases q with
    | zero =>
      simp at h
      obtain ⟨rfl, rfl⟩ := h
      show (ad b, E0 T ad row) :: mkW r T ad s = (ad b, E0 T ad (upr s b row b)) :: mkW r T ad (upr s b row)
      rw [mkW_out r b T ad s row hn.1]
      show _ = (ad b, E0 T ad (if b = b then row else s b)) :: _
      rw [if_pos rfl]
    | succ q =>
      have h2 : r[q]? = some (k, E) := by simpa using h
      have h3 := ih q k E T ad s row hn.2 h2
      have hb : ¬ b = k := fun z => hn.1 (by
        show b ∈ r.map Prod.fst
        rw [z]
        exact List.mem_map.mpr ⟨(k, E), List.mem_of_getElem? h2, rfl⟩)
      show (ad b, E0 T ad (s b)) :: (mkW r T ad s).set q _ = (ad b, E0 T ad (upr s k row b)) :: mkW r T ad (upr s k row)
      rw [h3]
      show _ = (ad b, E0 T ad (if b = k then row else s b)) :: _
      rw [if_neg hb]
theorem wi_of {Es : List (Nat × EE)} (k q : Nat) {E : EE} (hn : (Es.map Prod.fst).Nodup) (h : Es[q]? = some (k, E)) : WI (mkW Es) k E :=
  ⟨q, fun T ad s => mkW_get Es q k E T ad s h, fun T ad s row => mkW_set Es q k E T ad s row hn h⟩
/-- an object's slots: a number of the state's row, or a cell -/
def objF (ad : AD) (row : Nat → Int32) : Nat → List (Option Nat) → List Value
  | _, [] => []
  | j, none :: r => .int (row j) :: objF ad row (j + 1) r
  | j, some k :: r => .ref (ad k) :: objF ad row (j + 1) r
def OE (ci : Nat) (refs : List (Option Nat)) : EE := fun _ ad row => .inr (ci, objF ad row 0 refs)
def AE (t N : Nat) : EE := fun T _ row => .inl (T t, N, .inl row)
/-- a long stands in two places of a cell's row: its higher half, its lower half -/
def lgt (row : Nat → Int32) (j : Nat) : Int64 := (UInt64.ofNat ((row (2 * j)).toUInt32.toNat * 4294967296 + (row (2 * j + 1)).toUInt32.toNat)).toInt64
def lset (row : Nat → Int32) (j : Nat) (x : Int64) : Nat → Int32 := fun i => if i = 2 * j then (UInt32.ofNat (x.toUInt64.toNat / 4294967296)).toInt32 else if i = 2 * j + 1 then (UInt32.ofNat (x.toUInt64.toNat % 4294967296)).toInt32 else row i
theorem u32_back (n : Nat) (h : n < 4294967296) : (UInt32.ofNat n).toInt32.toUInt32.toNat = n := by
  rw [UInt32.toUInt32_toInt32, UInt32.toNat_ofNat']
  exact Nat.mod_eq_of_lt h
theorem lgt_lset (row : Nat → Int32) (j : Nat) (x : Int64) : lgt (lset row j x) j = x := by
  have hx := x.toUInt64.toNat_lt
  have e1 : lset row j x (2 * j) = (UInt32.ofNat (x.toUInt64.toNat / 4294967296)).toInt32 := if_pos rfl
  have e2 : lset row j x (2 * j + 1) = (UInt32.ofNat (x.toUInt64.toNat % 4294967296)).toInt32 := by
    unfold lset
    rw [if_neg (by omega), if_pos rfl]
  unfold lgt
  rw [e1, e2, u32_back _ (by omega), u32_back _ (by omega), show x.toUInt64.toNat / 4294967296 * 4294967296 + x.toUInt64.toNat % 4294967296 = x.toUInt64.toNat by omega, UInt64.ofNat_toNat, Int64.toInt64_toUInt64]
theorem lgt_ne (row : Nat → Int32) (j i : Nat) (x : Int64) (h : ¬ i = j) : lgt (lset row j x) i = lgt row i := by
  unfold lgt lset
  rw [if_neg (by omega), if_neg (by omega), if_neg (by omega), if_neg (by omega)]
theorem lgt_upd (row : Nat → Int32) (j : Nat) (x : Int64) : (fun i => lgt (lset row j x) i) = vp_updL (fun i => lgt row i) j x := by
  funext i
  by_cases h : i = j
  · subst h
    rw [lgt_lset]
    simp [vp_updL]
  · rw [lgt_ne row j i x h]
    simp [vp_updL, h]
theorem lgt_zero (row : Nat → Int32) (j : Nat) (h0 : row (2 * j) = 0) (h1 : row (2 * j + 1) = 0) : lgt row j = 0 := by
  unfold lgt
  rw [h0, h1]
  rfl
def AEL (t N : Nat) : EE := fun T _ row => .inl (T t, N, .inr (.inl (fun j => lgt row j)))
/-- x stands at place j of the longs of cell k -/
def upl (s : SS) (k j : Nat) (x : Int64) : SS := upr s k (lset (s k) j x)
def lsr (x : Int64) (y : Int32) : Int64 := (x.toUInt64 >>> (y.toInt64.toUInt64 &&& Int64.toUInt64 63)).toInt64
def wsl (p : Int64) (s b n : Int32) : Int64 := p ||| (n.toInt64 <<< ((s * b).toInt64 &&& 63))
theorem objF_len (ad : AD) (row : Nat → Int32) : ∀ (refs : List (Option Nat)) (j : Nat), (objF ad row j refs).length = refs.length := by
  intro refs
  induction refs with
  | nil => intro j; rfl
  | cons x r ih => intro j; cases x <;> simp [objF, ih]
theorem objF_int (ad : AD) (row : Nat → Int32) : ∀ (refs : List (Option Nat)) (j q : Nat), refs[q]? = some none → (objF ad row j refs)[q]? = some (.int (row (j + q))) := by
  intro refs
  induction refs with
  | nil => intro j q h; simp at h
  | cons x r ih =>
    intro j q h
    cases q with
    | zero => simp at h; subst h; rfl
    | succ q =>
      have h2 : r[q]? = some none := by simpa using h
      have h3 := ih (j + 1) q h2
      rw [show j + (q + 1) = j + 1 + q by omega]
      cases x <;> simpa [objF] using h3
theorem objF_ref (ad : AD) (row : Nat → Int32) : ∀ (refs : List (Option Nat)) (j q k : Nat), refs[q]? = some (some k) → (objF ad row j refs)[q]? = some (.ref (ad k)) := by
  intro refs
  induction refs with
  | nil => intro j q k h; simp at h
  | cons x r ih =>
    intro j q k h
    cases q with
    | zero => simp at h; subst h; rfl
    | succ q =>
      have h2 : r[q]? = some (some k) := by simpa using h
      have h3 := ih (j + 1) q k h2
      cases x <;> simpa [objF] using h3
theorem objF_out (ad : AD) (row : Nat → Int32) (v : Int32) (i : Nat) : ∀ (refs : List (Option Nat)) (j : Nat), i < j → objF ad (upd row i v) j refs = objF ad row j refs := by
  intro refs
  induction refs with
  | nil => intro j h; rfl
  | cons x r ih =>
    intro j h
    cases x with
    | none =>
      show Value.int (if j = i then v else row j) :: _ = _
      rw [if_neg (by omega), ih (j + 1) (by omega)]
      rfl
    | some k =>
      show Value.ref (ad k) :: _ = _
      rw [ih (j + 1) (by omega)]
      rfl
theorem objF_set (ad : AD) (row : Nat → Int32) (v : Int32) : ∀ (refs : List (Option Nat)) (j q : Nat), refs[q]? = some none → (objF ad row j refs).set q (.int v) = objF ad (upd row (j + q) v) j refs := by
  intro refs
  induction refs with
  | nil => intro j q h; simp at h
  | cons x r ih =>
    intro j q h
    cases q with
    | zero =>
      simp at h; subst h
      show Value.int v :: objF ad row (j + 1) r = Value.int (if j = j then v else row j) :: objF ad (upd row j v) (j + 1) r
      rw [if_pos rfl, objF_out ad row v j r (j + 1) (by omega)]
    | succ q =>
      have h2 : r[q]? = some none := by simpa using h
      have h3 := ih (j + 1) q h2
      rw [show j + 1 + q = j + (q + 1) by omega] at h3
      cases x with
      | none =>
        show Value.int (row j) :: (objF ad row (j + 1) r).set q _ = Value.int (if j = j + (q + 1) then v else row j) :: objF ad (upd row (j + (q + 1)) v) (j + 1) r
        rw [h3, if_neg (by omega)]
      | some k =>
        show Value.ref (ad k) :: (objF ad row (j + 1) r).set q _ = Value.ref (ad k) :: objF ad (upd row (j + (q + 1)) v) (j + 1) r
        rw [h3]
/-- the locals: null stands for what isn't said -/
def lvh (ls : Array Slot) (n : Nat) (ad : AD) (L : List Value) : Prop := ls.size = n ∧ lv_wf ls ∧ ∀ (i : Nat) (v : Value), L[i]? = some v → v ≠ .null → ls[i]? = some (.val (cv ad v))
def lpl (ad : AD) : Nat → List Value → List (Nat × Value)
  | _, [] => []
  | i, v :: r => if v = .null then lpl ad (i + 1) r else (i, cv ad v) :: lpl ad (i + 1) r
theorem lpl_mem (ad : AD) : ∀ (L : List Value) (i : Nat) (q : Nat × Value), q ∈ lpl ad i L ↔ ∃ (j : Nat) (v : Value), L[j]? = some v ∧ v ≠ .null ∧ q = (i + j, cv ad v) := by
  intro L
  induction L with
  | nil => intro i q; simp [lpl]
  | cons v r ih =>
    intro i q
    unfold lpl
    by_cases hv : v = .null
    · rw [if_pos hv, ih]
      constructor
      · rintro ⟨j, w, h1, h2, h3⟩
        exact ⟨j + 1, w, by simpa using h1, h2, by rw [h3]; congr 1; omega⟩
      · rintro ⟨j, w, h1, h2, h3⟩
        cases j with
        | zero => simp at h1; exact absurd (h1.symm.trans hv) h2
        | succ j => exact ⟨j, w, by simpa using h1, h2, by rw [h3]; congr 1; omega⟩
    · rw [if_neg hv, List.mem_cons, ih]
      constructor
      · rintro (h | ⟨j, w, h1, h2, h3⟩)
        · exact ⟨0, v, rfl, hv, by rw [h]; rfl⟩
        · exact ⟨j + 1, w, by simpa using h1, h2, by rw [h3]; congr 1; omega⟩
      · rintro ⟨j, w, h1, h2, h3⟩
        cases j with
        | zero => simp at h1; left; rw [h3, h1]; rfl
        | succ j => right; exact ⟨j, w, by simpa using h1, h2, by rw [h3]; congr 1; omega⟩
theorem lvh.get {ls : Array Slot} {n : Nat} {ad : AD} {L : List Value} (h : lvh ls n ad L) {i : Nat} {v : Value} (hi : L[i]? = some v) (hv : v ≠ .null) : ls[i]? = some (.val (cv ad v)) := h.2.2 i v hi hv
theorem lvh.has {ls : Array Slot} {n : Nat} {ad : AD} {L : List Value} (h : lvh ls n ad L) : lv_has ls n (lpl ad 0 L) := by
  refine ⟨h.1, h.2.1, fun q hq => ?_⟩
  obtain ⟨j, v, h1, h2, rfl⟩ := (lpl_mem ad L 0 q).mp hq
  show ls[0 + j]? = _
  rw [Nat.zero_add]
  exact h.2.2 j v h1 h2
theorem lvh.of {ls : Array Slot} {n : Nat} {ad : AD} {L : List Value} (h : lv_has ls n (lpl ad 0 L)) : lvh ls n ad L := by
  refine ⟨h.1, h.2.1, fun i v h1 h2 => ?_⟩
  have := h.2.2 (0 + i, cv ad v) ((lpl_mem ad L 0 _).mpr ⟨i, v, h1, h2, rfl⟩)
  rw [Nat.zero_add] at this
  exact this
def oks : Nat → List Value → Bool
  | 0, _ => true
  | i + 1, L => match L[i]? with
    | none => true
    | some v => v.category == 1
theorem oks_at {L : List Value} {i j : Nat} {w : Value} (h : oks i L = true) (hj : L[j]? = some w) : ¬ ((j + 1 == i) = true ∧ (w.category == 2) = true) := by
  intro q
  have hi : j + 1 = i := by simpa using q.1
  subst hi
  have h : (match L[j]? with | none => true | some v => v.category == 1) = true := h
  rw [hj] at h
  have h1 : w.category = 1 := by simpa using h
  have h2 : w.category = 2 := by simpa using q.2
  omega
theorem lvh.set {ls' : Array Slot} {n : Nat} {ad : AD} {L : List Value} {i : Nat} {v : Value} (hL : oks i L = true) (h : lv_has ls' n ((i, cv ad v) :: (lpl ad 0 L).filter (fun q => !(q.1 == i) && !(q.1 + 1 == i && q.2.category == 2)))) : lvh ls' n ad (L.set i v) := by
  refine ⟨h.1, h.2.1, fun j w h1 h2 => ?_⟩
  rw [List.getElem?_set] at h1
  by_cases hij : i = j
  · subst hij
    by_cases hlt : i < L.length
    · simp [hlt] at h1
      subst h1
      exact h.2.2 (i, cv ad v) List.mem_cons_self
    · simp [hlt] at h1
  · rw [if_neg hij] at h1
    refine h.2.2 (j, cv ad w) (List.mem_cons_of_mem _ (List.mem_filter.mpr ⟨(lpl_mem ad L 0 _).mpr ⟨j, w, h1, h2, by rw [Nat.zero_add]⟩, ?_⟩))
    have hw := oks_at hL h1
    have hne : ¬ (j == i) = true := by simpa using fun e : j = i => hij e.symm
    simp only [cv_cat, hne]
    cases a1 : (j + 1 == i) <;> cases a2 : (w.category == 2) <;> simp [a1, a2] at hw ⊢
theorem lvh.set2 {ls' : Array Slot} {n : Nat} {ad : AD} {L : List Value} {i : Nat} {x : Int64} (hL : oks i L = true) (h : lv_has ls' n ((i, .long x) :: (lpl ad 0 L).filter (fun q => !(q.1 == i) && (!(q.1 == i + 1) && !(q.1 + 1 == i && q.2.category == 2))))) : lvh ls' n ad ((L.set i (.long x)).set (i + 1) .null) := by
  refine ⟨h.1, h.2.1, fun j w h1 h2 => ?_⟩
  rw [List.getElem?_set] at h1
  by_cases hj1 : i + 1 = j
  · rw [if_pos hj1] at h1
    by_cases hlt : j < (L.set i (.long x)).length
    · rw [hj1, if_pos hlt] at h1
      cases h1
      exact absurd rfl h2
    · rw [hj1, if_neg hlt] at h1
      cases h1
  · rw [if_neg hj1, List.getElem?_set] at h1
    by_cases hij : i = j
    · subst hij
      by_cases hlt : i < L.length
      · simp [hlt] at h1
        subst h1
        exact h.2.2 (i, .long x) List.mem_cons_self
      · simp [hlt] at h1
    · rw [if_neg hij] at h1
      refine h.2.2 (j, cv ad w) (List.mem_cons_of_mem _ (List.mem_filter.mpr ⟨(lpl_mem ad L 0 _).mpr ⟨j, w, h1, h2, by rw [Nat.zero_add]⟩, ?_⟩))
      have hw := oks_at hL h1
      have hne : ¬ (j == i) = true := by simpa using fun e : j = i => hij e.symm
      have hne1 : ¬ (j == i + 1) = true := by simpa using fun e : j = i + 1 => hj1 e.symm
      simp only [cv_cat, hne, hne1]
      cases a1 : (j + 1 == i) <;> cases a2 : (w.category == 2) <;> simp [a1, a2] at hw ⊢
theorem lvh.inc {ls : Array Slot} {n : Nat} {ad : AD} {L : List Value} {i : Nat} {x : Int32} (h : lvh ls n ad L) (hi : L[i]? = some (.int x)) : lv_has ls n ((i, .int x) :: lpl ad 0 L) := by
  refine ⟨h.1, h.2.1, fun q hq => ?_⟩
  rcases List.mem_cons.mp hq with e | e
  · subst e
    exact h.2.2 i _ hi (by intro z; cases z)
  · exact h.has.2.2 q e
theorem lvh.inc2 {ls' : Array Slot} {n : Nat} {ad : AD} {L : List Value} {i : Nat} {x y : Int32} (hL : oks i L = true) (h : lv_has ls' n ((i, .int y) :: ((i, Value.int x) :: lpl ad 0 L).filter (fun q => !(q.1 == i) && !(q.1 + 1 == i && q.2.category == 2)))) : lvh ls' n ad (L.set i (.int y)) := by
  refine lvh.set (v := .int y) hL ⟨h.1, h.2.1, fun q hq => h.2.2 q ?_⟩
  rcases List.mem_cons.mp hq with e | e
  · rw [e]; exact List.mem_cons_self
  · have := List.mem_filter.mp e
    exact List.mem_cons_of_mem _ (List.mem_filter.mpr ⟨List.mem_cons_of_mem _ this.1, this.2⟩)
/-- a method's entry: a long takes two places -/
def ent : List Value → List Value
  | [] => []
  | v :: r => if v.category = 2 then v :: .null :: ent r else v :: ent r
theorem lv_args_ent (ad : AD) : ∀ (As : List Value) (b i : Nat) (v : Value), (ent As)[i]? = some v → v ≠ .null → (b + i, cv ad v) ∈ lv_args b (As.map (cv ad)) := by
  intro As
  induction As with
  | nil => intro b i v h; simp [ent] at h
  | cons a r ih =>
    intro b i v h hv
    have hc := cv_cat ad a
    by_cases h2 : a.category = 2
    · unfold ent at h
      rw [if_pos h2] at h
      cases i with
      | zero =>
        simp at h
        subst h
        simp [lv_args]
      | succ i =>
        cases i with
        | zero => simp at h; exact absurd h.symm hv
        | succ i =>
          have h3 := ih (b + 2) i v (by simpa using h) hv
          rw [show b + (i + 1 + 1) = b + 2 + i by omega]
          simp only [List.map_cons, lv_args, hc, h2]
          exact List.mem_cons_of_mem _ (by simpa using h3)
    · unfold ent at h
      rw [if_neg h2] at h
      have h1 : a.category = 1 := by rcases lv_cat a with q | q; exact q; exact absurd q h2
      cases i with
      | zero =>
        simp at h
        subst h
        simp [lv_args]
      | succ i =>
        have h3 := ih (b + 1) i v (by simpa using h) hv
        rw [show b + (i + 1) = b + 1 + i by omega]
        simp only [List.map_cons, lv_args, hc, h1]
        exact List.mem_cons_of_mem _ (by simpa using h3)
/-- what stands outside the world and isn't written: the table BARE, the text FACTS -/
def bareF (j : Nat) : Int32 := ([0, 0, 9, 82, 667, 5348] : List Int32).getD j 0
def factsB : List Int32 := [108, 112, 107, 110, 115, 104, 102, 105, 111, 121, 114]
def SX (ad : AD) (A : Nat → Prop) (U : State) (H : Heap) : Prop := va_Z "NineLaws$Rows" "BARE" "[I" (.ref (ad 1000)) A U H ∧ va_T .int (ad 1000) 6 (fun j => .int (bareF j)) A U H ∧ va_Z "java/lang/String" "COMPACT_STRINGS" "Z" (.int 1) A U H ∧ vk_R RX4 114 "lpknshfioyr" (ad 1001) U ∧ vk_S 1 [11] [factsB] (fun _ => ad 1001) (fun _ => ad 1002) A U H ∧ NX U
theorem SX.call {ad : AD} {A : Nat → Prop} {s U : State} {H : Heap} {locs : List Loc} (h : SX ad A s s.heap) (hS : va_S A s.heap H locs) (hU : U.heap = H) (hW : s.WarmedH U.vm) : SX ad A U U.heap := by
  obtain ⟨h1, h2, h3, h4, h5, h6⟩ := h
  have hq : ∀ a : Nat, a < s.heap.size → ¬ A a → U.heap[a]? = s.heap[a]? := fun a q1 q2 => by rw [hU]; exact hS.2.1 a q1 q2
  exact ⟨(h1.moved hW.alike).kept hq, (h2.moved hW.alike).kept hq, (h3.moved hW.alike).kept hq, h4.warm hW, (h5.moved hW.alike).kept hq, h6.warm hW⟩
theorem SX.calling {ad : AD} {A : Nat → Prop} {U : State} (g : JFrame) (mk : MethodId) (a : Array Value) (h : SX ad A U U.heap) : SX ad A (U.calling g mk a) (U.calling g mk a).heap := by
  obtain ⟨h1, h2, h3, h4, h5, h6⟩ := h
  have hv : U.vm.Alike (U.calling g mk a).vm := Vm.Alike.refl U.vm
  exact ⟨h1.moved hv, h2.moved hv, h3.moved hv, vk_R.same (u := U) rfl h4, h5.moved hv, NX.same (u := U) rfl h6⟩
/-- a method's room -/
def rmd (d : Nat) : Room := { frames := d, cells := 0, slots := 0, locals := 40 * d }
def WPt (wl : WT) (D : va_G) (T : CT) (ad : AD) (A : Nat → Prop) (s : SS) (t : State) : Prop := va_P D vwCl (wl T ad s) t.heap ∧ va_K D vwCl (tysT T) t ∧ va_D A (wl T ad s)
def Qo (rt : Option FieldType) (wl : WT) (D : va_G) (T : CT) (ad : AD) (A : Nat → Prop) (r : Int32) (s : SS) : Array Value → State → Outcome → State → Prop := match rt with
  | none => va_Qv (fun (_ : Unit) => True) (fun _ t => WPt wl D T ad A s t) A
  | some _ => va_Qi (fun q (_ : Unit) => q = r) (fun _ t => WPt wl D T ad A s t) A
def CX (own : String) (bs : ByteArray) (mL : Nat) (rt : Option FieldType) (p : Program) (s : State) (m : MethodId) (args : Array Value) (meth : Method) (c : Code) (D : va_G) (T : CT) (ad : AD) (A : Nat → Prop) : Prop :=
  p.tables.exec = Jvm.exec ∧ c.code = bs ∧ c.maxLocals = mL ∧ meth.sig.returnType = rt ∧ meth.locks = false ∧ s.vm.findClass own = some m.cls ∧ (∀ w ∈ gw, w.before args s = true) ∧ va_K D vwCl (tysT T) s ∧ SX ad A s s.heap
/-- FROM THIS PLACE the method ends, and as e says -/
def RC (l : Launch) (wl : WT) (own : String) (bs : ByteArray) (mL : Nat) (rt : Option FieldType) (d pc : Nat) (L st : List Value) (s0 : SS) (e : Res) : Prop :=
  ∀ (r : Int32) (s1 : SS), e = some (r, s1) → ∀ (p : Program) (en : Env) (s : State) (m : MethodId) (args : Array Value) (below : List Frame) (meth : Method) (c : Code) (D : va_G) (T : CT) (ad : AD) (A : Nat → Prop) (H : Heap) (locs : List Loc) (ls : Array Slot),
    CX own bs mL rt p s m args meth c D T ad A → va_P D vwCl (wl T ad s0) H → va_D A (wl T ad s0) → va_S A s.heap H locs → lvh ls mL ad L →
    W p l en (rmd d) s m args below meth c H locs 0 0 (MQ below (Qo rt wl D T ad A r s1) args s 0 0 A) (F0 m pc ls (st.map (cv ad)))
/-- A CONTRACT -/
def Ct (l : Launch) (wl : WT) (y : MethodName) (bs : ByteArray) (mL : Nat) (rt : Option FieldType) (d : Nat) (As : List Value) (s0 : SS) (e : Res) : Prop :=
  ∀ (r : Int32) (s1 : SS), e = some (r, s1) → ∀ (D : va_G) (T : CT) (ad : AD) (A : Nat → Prop), Met l y (.code y bs mL rt :: gw) (rmd d) (va_Pc (As.map (cv ad)) (fun U => WPt wl D T ad A s0 U ∧ SX ad A U U.heap)) (Qo rt wl D T ad A r s1) 0 0 A
theorem entL (As : List Value) : ∀ ad : AD, (lg_sl (As.map (cv ad))).length = (ent As).length := by
  intro ad
  induction As with
  | nil => rfl
  | cons a r ih =>
    have hc := cv_cat ad a
    unfold ent
    by_cases h2 : a.category = 2
    · rw [if_pos h2]
      simp only [List.map_cons, lg_sl, List.flatMap_cons, hc, h2] at ih ⊢
      simp [← ih]
    · rw [if_neg h2]
      have h3 : ¬ (cv ad a).category = 2 := by rw [hc]; exact h2
      simp only [List.map_cons, lg_sl, List.flatMap_cons] at ih ⊢
      rw [if_neg h3]
      simp [← ih]
theorem r_pad {l : Launch} {wl : WT} {own : String} {bs : ByteArray} {mL : Nat} {rt : Option FieldType} {d pc : Nat} {L st : List Value} {s0 : SS} {e : Res} (n : Nat) (k : RC l wl own bs mL rt d pc (L ++ List.replicate n .null) st s0 e) : RC l wl own bs mL rt d pc L st s0 e := by
  intro r s1 he p en s m args below meth c D T ad A H locs ls C hP hD hS hl
  refine k r s1 he p en s m args below meth c D T ad A H locs ls C hP hD hS ⟨hl.1, hl.2.1, fun i v h1 h2 => ?_⟩
  rw [List.getElem?_append] at h1
  by_cases hi : i < L.length
  · rw [if_pos hi] at h1
    exact hl.2.2 i v h1 h2
  · rw [if_neg hi, List.getElem?_replicate] at h1
    by_cases hj : i - L.length < n
    · rw [if_pos hj] at h1
      cases h1
      exact absurd rfl h2
    · rw [if_neg hj] at h1
      cases h1
theorem r_pad0 {l : Launch} {wl : WT} {own : String} {bs : ByteArray} {mL : Nat} {rt : Option FieldType} {d pc : Nat} {L L1 st : List Value} {s0 : SS} {e : Res} (n : Nat) (h : L ++ List.replicate n .null = L1) (k : RC l wl own bs mL rt d pc L1 st s0 e) : RC l wl own bs mL rt d pc L st s0 e := by
  subst h
  exact r_pad n k
/-- the walk gives the contract -/
theorem ct_of {l : Launch} {wl : WT} {y : MethodName} {bs : ByteArray} {mL : Nat} {rt : Option FieldType} {d : Nat} {As : List Value} {s0 : SS} {e : Res} (hy : plainName y.cls = true) (hA : (ent As).length ≤ mL)
    (h : RC l wl y.cls bs mL rt d 0 (ent As) [] s0 e) : Ct l wl y bs mL rt d As s0 e := by
  intro r s1 he D T ad A
  refine Met.ofW (cc := bs) (maxL := mL) (ret := rt) hy rfl ?_
  intro p en s m args below meth c s₁ B hml hv
  obtain ⟨rfl, ⟨hP, hK, hD⟩, hX⟩ := hv
  have hts := atoms_spec (ws := .code y bs mL rt :: gw) B.pre
  have hown : s.vm.findClass y.cls = some m.cls := findClass_of_methodNamed B.named
  have hl := lv_entry (As.map (cv ad)) (n := mL) (by rw [entL]; exact hA)
  rw [lg_entry_eq]
  refine h r s1 he p en s m _ below meth c D T ad A s.heap [] _ ⟨B.exec, B.bytes, hml, B.returns, B.notSynchronized, hown, fun w hw => hts w (List.mem_cons_of_mem _ hw), hK, hX⟩ hP hD va_S.rf ⟨hl.1, hl.2.1, fun i v h1 h2 => ?_⟩
  have := hl.2.2 (0 + i, cv ad v) (lv_args_ent ad As 0 i v h1 h2)
  rw [Nat.zero_add] at this
  exact this
