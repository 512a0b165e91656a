/-! the start: what the two constructors leave is the invariant -/
variable {s : SS}
def ST0 (s : SS) : Prop := RW s ∧ (s 0 14 = 0 ∧ s 0 15 = 0 ∧ s 1 1 = 0 ∧ s 9 8 = 0) ∧ (s 27 9 = 0 ∧ (s 27 10 = 0 ∧ ∀ j, j < 5348 → lgt (s 33) j = 0 ∧ lgt (s 34) j = 0) ∧ ∀ i, i < 8 → s 28 i = 0 ∧ s 29 i = 0 ∧ s 30 i = 0 ∧ s 31 i = 0) ∧ (s 35 5 = 1 ∧ s 38 0 = 0 ∧ ∀ m, m < 4 → s 36 m = 0) ∧ (s 41 8 = -1 ∧ s 46 8 = -1) ∧ (s 52 0 = 82 ∧ s 52 1 = 0 ∧ s 52 2 = 0 ∧ s 52 3 = 1 ∧ s 52 4 = 0) ∧ (∀ i, i < 8 → s 54 i = 0) ∧ (s 56 1 = 0 ∧ s 56 2 = 0 ∧ s 56 3 = 3 ∧ s 56 4 = 0 ∧ s 56 5 = 1 ∧ s 56 6 = 0 ∧ s 56 7 = 0 ∧ s 56 8 = 1 ∧ s 56 9 = 0 ∧ s 56 17 = 0 ∧ s 56 68 = 0) ∧ (∀ i, i < 8 → s 58 i = 0 ∧ s 59 i = 0 ∧ s 60 i = 0 ∧ s 61 i = 0) ∧ (s 62 0 = 0 ∧ ∀ m, m < 4 → s 63 m = 0) ∧ (∀ i, i < 8 → s 94 i = 0) ∧ ∀ j, j < 18724 → s 81 j = 0 ∧ s 83 j = 0
def TW0 : TW := txT (0, fun _ _ => 0, fun _ _ => 0) []
theorem wok0 : WOK TW0 (fun _ => 0) (fun _ => 0) 3 1 (fun _ => 0) := by
  refine ⟨txT_ok ⟨by decide, fun F => (show -100 ≤ (0 : Int32).toInt ∧ (0 : Int32).toInt ≤ 100 from ⟨by decide, by decide⟩), fun F => Or.inl rfl⟩, fun m hm => ⟨Nat.zero_le 4, fun h => by cases h⟩, ⟨⟨by decide, by decide⟩, fun i hi => Nat.zero_lt_succ 3⟩, by decide, by decide⟩
theorem vr0 : VR TW0 0 := by
  intro i hi
  have : mny 0 = 0 := by decide
  omega
theorem jj_start (h : ST0 s) : JJ 0 s := by
  obtain ⟨hr, ⟨a1, a2, a3, a4⟩, ⟨b1, ⟨b2, b4⟩, b3⟩, ⟨c1, c2, c3⟩, ⟨d1, d2⟩, ⟨e1, e2, e3, e4, e5⟩, f, ⟨g1, g2, g3, g4, g5, g6, g7, g8, g9, g10, g11⟩, i1, ⟨k1, k2⟩, l1, m1⟩ := h
  have hV : JV TW0 (fun _ => 0) (fun _ => 0) 3 1 (fun _ => 0) 0 0 1 0 false 0 0 0 0 0 (fun _ => 0) := ⟨wok0, ⟨by decide, vr0⟩, by decide, by decide, by decide, ⟨by decide, fun i hi => absurd hi (Nat.not_lt_zero i)⟩, fun w => by cases w⟩
  refine ⟨TW0, fun _ => 0, fun _ => 0, 3, 1, fun _ => 0, 0, 0, 0, 1, 0, fun _ _ => 0, false, 0, 0, 0, 0, 0, 0, fun _ => 0, fun _ => 0, 0, 0, Nat.le_refl _, ?_, ?_⟩
  · refine ⟨hV, ⟨⟨hr, ⟨b1, fun i hi => b3 i hi⟩, cvt_tx ⟨by decide, a4, fun i c w => by simp at w⟩, Or.inl b2, fun _ n x p hn hx hp => ⟨Or.inl (gl_0 B16 (by omega) (b4 _ (sz_lt hn hx).1).1), Or.inl (gl_0 B16 (by omega) (b4 _ (sz_lt hn hx).1).2)⟩⟩, ?_, ?_⟩, ?_, ?_, a2, ⟨e1, e2, e3, e4, e5⟩, fun i j hi => absurd hi (Nat.not_lt_zero i), ⟨a3, fun i hi => absurd hi (Nat.not_lt_zero i)⟩, f, a1, (fun w => by cases w), a4⟩
    · intro m hm
      exact ⟨c3 m hm, fun w => by cases w⟩
    · refine ⟨c1, fun i hi => ?_⟩
      have : i = 0 := by omega
      subst this
      exact c2
    · refine ⟨by rw [d1, a2]; decide, fun w => ?_⟩
      rw [d1, a2] at w
      exact absurd w (by decide)
    · refine ⟨by rw [d2, a2]; decide, fun w => ?_⟩
      rw [d2, a2] at w
      exact absurd w (by decide)
  · refine ⟨hV, ⟨⟨⟨g2, fun i hi => i1 i hi⟩, g3, rvt_tx ⟨by decide, g10, fun i c w => by simp at w⟩, fun y p1 hy _ hp1 => ?_⟩, ?_, ?_⟩, ⟨g4, g6, g7, g8, g9⟩, fun i hi => absurd hi (Nat.not_lt_zero i), ⟨g1, fun i hi => absurd hi (Nat.not_lt_zero i)⟩, l1, g11, (fun w => by cases w), g10⟩
    · have hy2 := (wok0.sz hy).2
      have := m1 (4 * y + p1) (by omega)
      exact ⟨Or.inl this.1, Or.inl this.2⟩
    · intro m hm
      exact ⟨k2 m hm, fun w => by cases w⟩
    · refine ⟨g5, fun i hi => ?_⟩
      have : i = 0 := by omega
      subst this
      exact k1
