/-! how soon, the class: one act -/
variable {T : TW} {kd tl tn : Nat → Nat} {n c x p : Nat} {s t u : SS}
theorem qs_lev {f : Nat} {lev : Nat → Nat} (W : WOK T kd tl n c tn) (h : QQ n c f lev s) {y w : Nat} (hy : y < szR n) (hw : w < c) {i : Nat} (hi : i < f) (h1 : s 47 i = iI (ce n y w)) : s 48 (ce n y w) ≠ UNK ∧ lev (ce n y w) ≤ i := by
  have hc := W.cc
  obtain ⟨y2, w2, a, b, d, e, g⟩ := h.1 i hi
  rw [h1] at d
  obtain ⟨rfl, rfl⟩ := ce_ii W.2.2.2 hy (by omega) a (by omega) d
  exact ⟨e, g⟩
theorem biv_mono {i m f : Nat} (h : BIV T kd tl n c tn x p i m f s) (hm : ∀ k, gP T n c tn (gpt T n c tn x p k) ((p + k) % c) (if m = 0 then 8 else m - 1) = false ∨ (∀ ik lev, GFI T n c tn x p i m f lev k ik s → i ≠ ik)) : BIV T kd tl n c tn x p i (m + 1) f s := by
  obtain ⟨lev, h1, h2, h3, h4, h5⟩ := h
  refine ⟨lev, h1, h2, h3, h4, ?_⟩
  rcases h5 with a | ⟨k, ik, a⟩
  · exact Or.inl a
  · refine Or.inr ⟨k, ik, ?_⟩
    obtain ⟨a1, a2, a3, a4, a5, a6, a7, a8, a9, a10, a11, a12⟩ := id a
    refine ⟨a1, a2, a3, a4, a5, a6, a7, a8, a9, a10, a11, ?_⟩
    intro e l hl
    rcases hm k with z | z
    · by_cases q : thr m l
      · exact a12 e l q
      · have : l = if m = 0 then 8 else m - 1 := by
          unfold thr at hl q
          split <;> omega
        rw [this]
        exact z
    · exact absurd e (z ik lev a)
theorem unk_m1 : (-1 : Int32) ≠ UNK := by decide
/-- the act at place m of the acts (none first) from the cell that is through -/
theorem cs_act (W : WOK T kd tl n c tn) (hx : x < szR n) (hp : p < c) {i m f y w : Nat} (hm : m ≤ 8) (hi : i < f) (hy : y < szR n) (hw : w < c) (h47 : s 47 i = iI (ce n y w)) (h : BIV T kd tl n c tn x p i m f s) (hal : alB T n tn y w (if m = 0 then 8 else m - 1) = true) {sa : SS} (hR : RELf n f s sa) :
    ∃ ta t, f_X0_comeTo (wl_ n (bh n y (if m = 0 then 8 else m - 1))) (iI (((w + 1) % c : Nat) : Int)) (iI (((if m = 0 then 8 else m - 1) : Nat) : Int)) (iI i) sa = some (0, ta) ∧ REL n t ta ∧ KEPA sa ta ∧ KEP s t ∧ ((∃ f2, f ≤ f2 ∧ BIV T kd tl n c tn x p i (m + 1) f2 t ∧ t 47 i = s 47 i) ∨ DNE T kd tl n c tn x p t) := by
  have hn := W.2.2.2
  have hc := W.cc
  have hbl := br_le hn
  obtain ⟨lev, h1, h2, h3, h4b, h5⟩ := id h
  have h4 := h4b hi
  generalize hl : (if m = 0 then 8 else m - 1) = l at hal ⊢
  have hl8 : l ≤ 8 := al_le hal
  have hb := bh_lt hn hy hl8
  have hw2 : (w + 1) % c < c := Nat.mod_lt _ (by omega)
  have hlt := ce_lt hn hb (show (w + 1) % c < 4 by omega)
  have hqi := qs_lev W h2 hy hw hi h47
  -- what holds when this act is the one
  have one : ∀ k ik, GFI T n c tn x p i m f lev k ik s → i = ik → gP T n c tn (gpt T n c tn x p k) ((p + k) % c) l = true → gpt T n c tn x p k = y ∧ (p + k) % c = w ∧ l = gct T n c tn y w ∧ lev (ce n y w) = k ∧ dq T n c tn y w + k = dq T n c tn x p := by
    intro k ik a e g
    obtain ⟨a1, a2, a3, a4, a5, a6, a7, a8, a9, a10, a11, a12⟩ := a
    obtain ⟨g1, g2, g3⟩ := gpt_ok hn hx hp a1 k (by omega)
    have e6 := a6
    rw [← e, h47] at e6
    obtain ⟨rfl, e2⟩ := ce_ii hn hy (by omega) g1 (by have := W.pl (p + k); omega) e6
    rw [← e2] at g g2 g3 a7 a12
    refine ⟨rfl, e2.symm, act_eq hm hl.symm g2 (by omega) g (a12 e), a7, g3⟩
  by_cases q : s 48 (ce n (bh n y l) ((w + 1) % c)) = UNK
  · -- a new cell
    have hff : f < 4 * szR n := by
      rw [h1.2.2.2]
      refine dcF_lt (j := 4 * bh n y l + (w + 1) % c) ?_ _ (by omega)
      rw [← q]
      congr 1
      unfold ce
      omega
    obtain ⟨ta, t, f1, fR, fK, f2, f3, f4, f5, f6, f7, f8, f9⟩ := co_newG W hR h1.1 hb hw2 hl8 (ip := i) (a3 := s 47 i) (Or.inr ⟨by omega, hi, rfl⟩) (by omega) h1.2.2.1 q
    refine ⟨ta, t, f1, ⟨_, fR⟩, fK, ⟨f2, f9⟩, ?_⟩
    have hpar : s 47 i ≠ UNK := by rw [h47]; exact ce_unk hn hy (by omega)
    have t48 : ∀ z, z ≠ ce n (bh n y l) ((w + 1) % c) → t 48 z = s 48 z := fun z hz => by rw [f4, upd_ne hz]
    have t48n : t 48 (ce n (bh n y l) ((w + 1) % c)) = s 47 i := by rw [f4, upd_eq]
    have t49 : ∀ z, z ≠ ce n (bh n y l) ((w + 1) % c) → t 49 z = s 49 z := fun z hz => by rw [f5, upd_ne hz]
    have t49n : t 49 (ce n (bh n y l) ((w + 1) % c)) = iI (l : Int) := by rw [f5, upd_eq]
    have t47 : ∀ j, j < f → t 47 j = s 47 j := fun j hj => by rw [f6, upd_ne (by omega)]
    have dis : ∀ z, s 48 z ≠ UNK → z ≠ ce n (bh n y l) ((w + 1) % c) := fun z hz e => hz (e ▸ q)
    have disb : ∀ z, t 48 z ≠ UNK → z = ce n (bh n y l) ((w + 1) % c) ∨ s 48 z ≠ UNK := by
      intro z hz
      by_cases e : z = ce n (bh n y l) ((w + 1) % c)
      · exact Or.inl e
      · right; rw [← t48 z e]; exact hz
    have disf : ∀ z, s 48 z ≠ UNK → t 48 z ≠ UNK := fun z hz => by rw [t48 z (dis z hz)]; exact hz
    -- chains stay
    have chn : ∀ k, CHN T n c tn x p k s → (∀ j, j ≤ k → s 48 (ce n (gpt T n c tn x p j) ((p + j) % c)) ≠ UNK) → CHN T n c tn x p k t := by
      intro k a b
      have b0 : s 48 (ce n x ((p + 0) % c)) ≠ UNK := b 0 (by omega)
      rw [Nat.add_zero, Nat.mod_eq_of_lt hp] at b0
      refine ⟨by rw [t48 _ (dis _ b0)]; exact a.1, fun j hj => ?_⟩
      have d := dis _ (b (j + 1) (by omega))
      rw [t48 _ d, t49 _ d]
      exact a.2 j hj
    have chn1 : ∀ k, CHN T n c tn x p k s → (∀ j, j ≤ k → s 48 (ce n (gpt T n c tn x p j) ((p + j) % c)) ≠ UNK) → gpt T n c tn x p k = y → (p + k) % c = w → l = gct T n c tn y w → CHN T n c tn x p (k + 1) t := by
      intro k a b e1 e2 e3
      have hh := chn k a b
      refine ⟨hh.1, fun j hj => ?_⟩
      by_cases z : j = k
      · subst z
        have ec : gpt T n c tn x p (j + 1) = bh n y l := by
          show bh n (gpt T n c tn x p j) (gct T n c tn (gpt T n c tn x p j) ((p + j) % c)) = _
          rw [e1, e2, e3]
        have ep : (p + (j + 1)) % c = (w + 1) % c := by rw [← pl_s, e2]
        rw [ec, ep, e1, e2, t48n, t49n, h47, e3]
        exact ⟨rfl, rfl⟩
      · exact hh.2 j (by omega)
    by_cases qq : qF T n (bh n y l) tn c = true
    · -- quiet
      right
      rw [if_pos qq] at f8
      obtain ⟨z1, z2⟩ := (dq_0 (T := T) (n := n) (c := c) (tn := tn) (w := (w + 1) % c)).mpr qq
      obtain ⟨z3, z4⟩ := dq_s2 hal z1
      rcases h5 with a | ⟨k, ik, a⟩
      · exact absurd z3 (a.2 y w hy hw hqi.1)
      · obtain ⟨a1, a2, a3, a4, a5, a6, a7, a8, a9, a10, a11, a12⟩ := id a
        have b1 := a2 y w hy hw hqi.1 z3
        obtain ⟨g1, g2, g3⟩ := gpt_ok hn hx hp a1 k (by omega)
        have b2 := h3 i ik y w _ _ a4 a5 hy hw g1 (W.pl (p + k)) h47 a6
        rw [a7] at b2
        have e : i = ik := by
          rcases Nat.lt_or_ge i ik with z | z
          · have := a8 i y w z hy hw h47 (by omega) z3
            omega
          · omega
        have e6 := a6
        rw [← e, h47] at e6
        obtain ⟨ey, ew⟩ := ce_ii hn hy (by omega) g1 (by have := W.pl (p + k); omega) e6
        have gg : gP T n c tn (gpt T n c tn x p k) ((p + k) % c) l = true := by
          rw [← ey, ← ew]
          rw [← ey, ← ew] at g3
          exact gP_iff.mpr ⟨hal, z1, by omega⟩
        obtain ⟨o1, o2, o3, o4, o5⟩ := one k ik a e gg
        have hk : dq T n c tn x p = k + 1 := by omega
        refine ⟨f3, a1, ?_, ?_, ?_⟩
        · have := (qs_lev W h2 hy hw hi h47).2
          omega
        · rw [f8, hk]
          have ec : gpt T n c tn x p (k + 1) = bh n y l := by
            show bh n (gpt T n c tn x p k) (gct T n c tn (gpt T n c tn x p k) ((p + k) % c)) = _
            rw [o1, o2, o3]
          have ep : (p + (k + 1)) % c = (w + 1) % c := by rw [← pl_s, o2]
          rw [ec, ep]
        · rw [hk]
          exact chn1 k a10 a11 o1 o2 o3
    · -- not quiet
      left
      rw [if_neg qq] at f8
      have nq : FQ T n c tn (bh n y l) ((w + 1) % c) → dq T n c tn (bh n y l) ((w + 1) % c) ≠ 0 := fun u v => qq (dq_0.mp ⟨u, v⟩)
      have lo : ∀ z, z ≠ ce n (bh n y l) ((w + 1) % c) → (fun z => if z = ce n (bh n y l) ((w + 1) % c) then lev (ce n y w) + 1 else lev z) z = lev z := fun z hz => if_neg hz
      have ln : (fun z => if z = ce n (bh n y l) ((w + 1) % c) then lev (ce n y w) + 1 else lev z) (ce n (bh n y l) ((w + 1) % c)) = lev (ce n y w) + 1 := if_pos rfl
      generalize hL : (fun z => if z = ce n (bh n y l) ((w + 1) % c) then lev (ce n y w) + 1 else lev z) = lv at lo ln
      have lvd : ∀ z, s 48 z ≠ UNK → lv z = lev z := fun z hz => lo z (dis z hz)
      have lvq : ∀ j y2 w2, j < f → y2 < szR n → w2 < c → s 47 j = iI (ce n y2 w2) → lv (ce n y2 w2) = lev (ce n y2 w2) := fun j y2 w2 a b d e => lvd _ (qs_lev W h2 b d a e).1
      have bnd : ∀ z, t 48 z ≠ UNK → ∀ y2 w2, y2 < szR n → w2 < c → z = ce n y2 w2 → lv z ≤ lev (ce n y w) + 1 := by
        intro z hz y2 w2 a b e
        rcases disb z hz with d | d
        · rw [d, ln]; exact Nat.le_refl _
        · rw [lvd z d, e]
          exact h4 y w y2 w2 hy hw a b h47 (e ▸ d)
      refine ⟨f + 1, by omega, ⟨lv, ⟨f3, f7, f8, ?_⟩, ⟨?_, ?_⟩, ?_, ?_, ?_⟩, t47 i hi⟩
      · have e : ce n (bh n y l) ((w + 1) % c) = 4 * br n + (4 * bh n y l + (w + 1) % c) := by unfold ce; omega
        rw [f4, e, dcF_up (by rw [← e]; exact q) hpar _ (by omega), ← h1.2.2.2]
      · intro j hj
        by_cases z : j = f
        · subst z
          refine ⟨_, _, hb, hw2, by rw [f6, upd_eq], by rw [t48n]; exact hpar, ?_⟩
          rw [ln]
          have := hqi.2
          omega
        · obtain ⟨y2, w2, a, b, d, e, g⟩ := h2.1 j (by omega)
          exact ⟨y2, w2, a, b, by rw [t47 j (by omega)]; exact d, disf _ e, by rw [lvd _ e]; exact g⟩
      · intro y2 w2 a b d
        rcases disb _ d with e | e
        · exact ⟨f, by omega, by rw [f6, upd_eq, e]⟩
        · obtain ⟨j, g1, g2⟩ := h2.2 y2 w2 a b e
          exact ⟨j, by omega, by rw [t47 j g1]; exact g2⟩
      · intro j j2 y1 w1 y2 w2 a1 a2 a3 a4 a5 a6 a7 a8
        by_cases z2 : j2 = f
        · subst z2
          rw [f6, upd_eq] at a8
          obtain ⟨e1, e2⟩ := ce_ii hn hb (by omega) a5 (by omega) a8
          rw [← e1, ← e2, ln]
          by_cases z1 : j = j2
          · subst z1
            rw [f6, upd_eq] at a7
            obtain ⟨e1, e2⟩ := ce_ii hn hb (by omega) a3 (by omega) a7
            rw [← e1, ← e2, ln]
            exact Nat.le_refl _
          · rw [t47 j (by omega)] at a7
            rw [lvq j y1 w1 (by omega) a3 a4 a7]
            exact h4 y w y1 w1 hy hw a3 a4 h47 (qs_lev W h2 a3 a4 (by omega) a7).1
        · rw [t47 j (by omega)] at a7
          rw [t47 j2 (by omega)] at a8
          rw [lvq j y1 w1 (by omega) a3 a4 a7, lvq j2 y2 w2 (by omega) a5 a6 a8]
          exact h3 j j2 y1 w1 y2 w2 a1 (by omega) a3 a4 a5 a6 a7 a8
      · intro _ y1 w1 y2 w2 a3 a4 a5 a6 a7 a8
        rw [t47 i hi, h47] at a7
        obtain ⟨rfl, rfl⟩ := ce_ii hn hy (by omega) a3 (by omega) a7
        rw [lvd _ hqi.1]
        exact bnd _ a8 y2 w2 a5 a6 rfl
      · rcases h5 with a | ⟨k, ik, a⟩
        · left
          refine ⟨a.1, fun y2 w2 b1 b2 b3 => ?_⟩
          rcases disb _ b3 with e | e
          · obtain ⟨rfl, rfl⟩ := ce_inj e (by omega) (by omega)
            intro g
            exact a.2 y w hy hw hqi.1 (dq_s2 hal g).1
          · exact a.2 y2 w2 b1 b2 e
        · right
          obtain ⟨a1, a2, a3, a4, a5, a6, a7, a8, a9, a10, a11, a12⟩ := id a
          obtain ⟨g1, g2, g3⟩ := gpt_ok hn hx hp a1 k (by omega)
          have p1 : ∀ y2 w2, y2 < szR n → w2 < c → t 48 (ce n y2 w2) ≠ UNK → FQ T n c tn y2 w2 → dq T n c tn x p ≤ dq T n c tn y2 w2 + lv (ce n y2 w2) := by
            intro y2 w2 b1 b2 b3 b4
            rcases disb _ b3 with e | e
            · obtain ⟨rfl, rfl⟩ := ce_inj e (by omega) (by omega)
              rw [ln]
              obtain ⟨u1, u2⟩ := dq_s2 hal b4
              have := a2 y w hy hw hqi.1 u1
              omega
            · rw [lvd _ e]
              exact a2 y2 w2 b1 b2 e b4
          have hs1 := h3 i ik y w _ _ a4 a5 hy hw g1 (W.pl (p + k)) h47 a6
          rw [a7] at hs1
          by_cases gg : i = ik ∧ gP T n c tn (gpt T n c tn x p k) ((p + k) % c) l = true
          · obtain ⟨o1, o2, o3, o4, o5⟩ := one k ik a gg.1 gg.2
            have gg2 := gg.2
            rw [o1, o2] at gg2
            obtain ⟨v1, v2, v3⟩ := gP_iff.mp gg2
            have := nq v2
            have ec : gpt T n c tn x p (k + 1) = bh n y l := by
              show bh n (gpt T n c tn x p k) (gct T n c tn (gpt T n c tn x p k) ((p + k) % c)) = _
              rw [o1, o2, o3]
            have ep : (p + (k + 1)) % c = (w + 1) % c := by rw [← pl_s, o2]
            refine ⟨k + 1, f, a1, p1, by omega, by omega, by omega, by rw [f6, upd_eq, ec, ep], by rw [ec, ep, ln, o4], ?_, ?_, chn1 k a10 a11 o1 o2 o3, ?_, fun e => by omega⟩
            · intro j y2 w2 b1 b2 b3 b4 b5 b6
              rw [t47 j b1] at b4
              have hd := (qs_lev W h2 b2 b3 b1 b4).1
              rw [lvd _ hd] at b5
              have u1 := a2 y2 w2 b2 b3 hd b6
              have u2 := a9 y2 w2 b2 b3 hd b6
              omega
            · intro y2 w2 b1 b2 b3 _ _
              have := bnd _ b3 y2 w2 b1 b2 rfl
              omega
            · intro j hj
              by_cases z : j = k + 1
              · rw [z, ec, ep, t48n]; exact hpar
              · exact disf _ (a11 j (by omega))
          · refine ⟨k, ik, a1, p1, a3, a4, by omega, by rw [t47 ik a5]; exact a6, by rw [lvd _ (a11 k (Nat.le_refl k))]; exact a7, ?_, ?_, chn k a10 a11, fun j hj => disf _ (a11 j hj), ?_⟩
            · intro j y2 w2 b1 b2 b3 b4 b5 b6
              rw [t47 j (by omega)] at b4
              rw [lvq j y2 w2 (by omega) b2 b3 b4] at b5
              exact a8 j y2 w2 b1 b2 b3 b4 b5 b6
            · intro y2 w2 b1 b2 b3 b4 b5
              rcases disb _ b3 with e | e
              · obtain ⟨rfl, rfl⟩ := ce_inj e (by omega) (by omega)
                rw [ln] at b5 ⊢
                obtain ⟨u1, u2⟩ := dq_s2 hal b4
                have u3 := a2 y w hy hw hqi.1 u1
                rcases Nat.lt_or_ge (lev (ce n y w)) k with z | z
                · omega
                · exfalso
                  rcases Nat.lt_or_ge i ik with z2 | z2
                  · have := a8 i y w z2 hy hw h47 (by omega) u1
                    omega
                  · have e : i = ik := by omega
                    have e6 := a6
                    rw [← e, h47] at e6
                    obtain ⟨ey, ew⟩ := ce_ii hn hy (by omega) g1 (by have := W.pl (p + k); omega) e6
                    apply gg
                    refine ⟨e, ?_⟩
                    rw [← ey, ← ew]
                    exact gP_iff.mpr ⟨hal, b4, by omega⟩
              · rw [lvd _ e] at b5 ⊢
                exact a9 y2 w2 b1 b2 e b4 b5
            · intro e l2 hl2
              by_cases z : thr m l2
              · exact a12 e l2 z
              · have : l2 = l := by
                  rw [← hl]
                  unfold thr at hl2 z
                  split <;> omega
                rw [this]
                cases z3 : gP T n c tn (gpt T n c tn x p k) ((p + k) % c) l with
                | false => rfl
                | true => exact absurd ⟨e, z3⟩ gg
  · -- an old cell
    refine ⟨sa, s, co_oldG hR hn hb (by omega) q, ⟨f, hR⟩, KEPA.rf sa, KEP.rf s, Or.inl ⟨f, Nat.le_refl f, ?_, rfl⟩⟩
    refine ⟨lev, h1, h2, h3, h4b, ?_⟩
    rcases h5 with a | ⟨k, ik, a⟩
    · exact Or.inl a
    · refine Or.inr ⟨k, ik, ?_⟩
      obtain ⟨a1, a2, a3, a4, a5, a6, a7, a8, a9, a10, a11, a12⟩ := id a
      refine ⟨a1, a2, a3, a4, a5, a6, a7, a8, a9, a10, a11, ?_⟩
      intro e l2 hl2
      by_cases z : thr m l2
      · exact a12 e l2 z
      · have : l2 = l := by
          rw [← hl]
          unfold thr at hl2 z
          split <;> omega
        rw [this]
        cases z3 : gP T n c tn (gpt T n c tn x p k) ((p + k) % c) l with
        | false => rfl
        | true =>
          exfalso
          obtain ⟨o1, o2, o3, o4, o5⟩ := one k ik a e z3
          rw [o1, o2] at z3
          obtain ⟨v1, v2, v3⟩ := gP_iff.mp z3
          have u1 := a2 _ _ hb hw2 q v2
          have u2 := h4 y w _ _ hy hw hb hw2 h47 q
          have u3 := a9 _ _ hb hw2 q v2
          omega
