/-! what is true of what was told without a note -/
def PQ (nt : Option (Nat × Nat)) (Q : zQ) : Prop := nt = none → uqL (nmH Q.1) ∧ uqL (nmW Q.2.1) ∧ (∀ (j : Nat) (x : List Nat × Nat × Nat), Q.1[j]? = some x → x.2.1 ≤ 9 ∧ x.2.2 ≤ 9) ∧ (∀ (j : Nat) (x : List Nat × Nat × Nat × Nat × Nat), Q.2.1[j]? = some x → x.2.1 < Q.1.length ∧ x.2.2.1 < Q.1.length ∧ x.2.2.2.1 ≤ 9 ∧ x.2.2.2.2 ≤ 99) ∧ (∀ (j : Nat) (x : Nat × zE × zE), Q.2.2.1[j]? = some x → x.1 < Q.2.1.length ∧ iv_ex x.2.1 ∧ iv_ex x.2.2) ∧ (Q.2.2.2.1.1 ≤ 100 ∧ (1 ≤ Q.2.2.2.1.2.1 ∧ Q.2.2.2.1.2.1 ≤ 3) ∧ Q.2.2.2.1.2.2 ≤ 9999) ∧ (Q.2.2.2.2.1.1.length ≤ 4 ∧ exB Q.2.2.2.2.1.1 ∧ iv_ex Q.2.2.2.2.1.2) ∧ (Q.2.2.2.2.2.1.length ≤ 4 ∧ exB Q.2.2.2.2.2.1 ∧ iv_ex Q.2.2.2.2.2.2)
theorem uq_snoc {l : List (List Nat)} {L : List Nat} (h : uqL l) (hL : L ∉ l) : uqL (l ++ [L]) := fun j j' K h1 h2 => by
  rcases snoc_get h1 with ⟨a, b⟩ | ⟨a, b⟩
  · rcases snoc_get h2 with ⟨c, d⟩ | ⟨c, d⟩
    · exact h j j' K b d
    · subst d; exact absurd (List.mem_of_getElem? b) hL
  · rcases snoc_get h2 with ⟨c, d⟩ | ⟨c, d⟩
    · subst b; exact absurd (List.mem_of_getElem? d) hL
    · omega
theorem dupB_f {T : Nat → Nat} {n i : Nat} {hN wN : List (List Nat)} (h : dupB T n hN wN i = false) : (tkF T n i).2.2.1 ∉ hN ∧ (tkF T n i).2.2.1 ∉ wN := by
  unfold dupB at h
  rw [Bool.or_eq_false_iff] at h
  exact ⟨of_decide_eq_false h.1, of_decide_eq_false h.2⟩
theorem outB_f {T : Nat → Nat} {n lo hi i : Nat} (h : outB T n lo hi i = false) : lo ≤ (tkF T n i).2.2.2 ∧ (tkF T n i).2.2.2 ≤ hi := by
  unfold outB at h
  rw [Bool.or_eq_false_iff] at h
  have a := of_decide_eq_false h.1
  have b := of_decide_eq_false h.2
  omega
theorem notB_f {T : Nat → Nat} {n i : Nat} {NL : List (List Nat)} (h : notB T n NL i = false) : ixN NL (tkF T n i).2.2.1 < NL.length := by
  unfold notB at h
  have a := of_decide_eq_false h
  have b : (tkF T n i).2.2.1 ∈ NL := Classical.byContradiction a
  obtain ⟨j, hj⟩ := List.getElem?_of_mem b
  exact gx_lt (ixN_get _ _ j hj)
theorem zTo_le {T : Nat → Nat} {n s c : Nat} {bad : Nat → Bool} {Z : zZ} {j : Nat} {nt : Option (Nat × Nat)} (h : zTo (tkF T n) s c bad Z = .inr (j, nt)) : ∃ i nt0, Z = .inr (i, nt0) ∧ i < j ∧ (i ≤ 400 → j ≤ 400) ∧ (nt = none → nt0 = none) := by
  obtain ⟨i, n0, w, _, k, rfl, _, m⟩ := zTo_inr h
  exact ⟨i, n0, w, by omega, fun z => by omega, fun z => (m z).1⟩
theorem zSm_le {T : Nat → Nat} {n : Nat} {Z : zZ} {j : Nat} {nt : Option (Nat × Nat)} (h : zSm (tkF T n) Z = .inr (j, nt)) : ∃ i, Z = .inr (i, nt) ∧ (i ≤ 400 → i < j ∧ j ≤ 400) := by
  obtain ⟨i, w, hx⟩ := zSm_inr h
  refine ⟨i, w, fun hi => ?_⟩
  obtain ⟨a, b, c, d, _, _⟩ := pX_pr 3000 0 0 i j _ (by omega) hi hx
  exact ⟨b (by omega), d⟩
theorem zBr_le {T : Nat → Nat} {n : Nat} {Z : zZ} {j : Nat} {nt : Option (Nat × Nat)} (h : zBr T n Z = .inr (j, nt)) : ∃ i nt0, Z = .inr (i, nt0) ∧ (i ≤ 400 → i < j ∧ j ≤ 400) ∧ (nt = none → nt0 = none) := by
  unfold zBr at h
  obtain ⟨a1, b1, w1, c1, d1, e1⟩ := zTo_le h
  obtain ⟨a2, w2, c2⟩ := zSm_le w1
  obtain ⟨a3, b3, w3, c3, d3, e3⟩ := zTo_le w2
  obtain ⟨a4, w4, c4⟩ := zSm_le w3
  obtain ⟨a5, b5, w5, c5, d5, e5⟩ := zTo_le w4
  obtain ⟨a6, w6, c6⟩ := zSm_le w5
  obtain ⟨a7, b7, w7, c7, d7, e7⟩ := zTo_le w6
  refine ⟨a7, b7, w7, fun hi => ?_, fun z => e7 (e5 (e3 (e1 z)))⟩
  have x1 := c6 (d7 hi)
  have x2 := c4 (d5 x1.2)
  have x3 := c2 (d3 x2.2)
  exact ⟨by omega, d1 x3.2⟩
theorem zLo_le {T : Nat → Nat} {n : Nat} : ∀ m Z j nt, zLo T n m Z = .inr (j, nt) → ∃ i nt0, Z = .inr (i, nt0) ∧ (i ≤ 400 → i ≤ j ∧ j ≤ 400) ∧ (nt = none → nt0 = none) := by
  intro m
  induction m with
  | zero =>
    intro Z j nt h
    cases Z with
    | inl f => cases h
    | inr p =>
      have h' : (if (tkF T n p.1).1 = 264 then (.inl (2, p.1) : zZ) else .inr p) = .inr (j, nt) := h
      split at h'
      · cases h'
      · have e := Sum.inr.inj h'
        subst e
        exact ⟨j, nt, rfl, fun hi => ⟨Nat.le_refl _, hi⟩, fun z => z⟩
  | succ m ih =>
    intro Z j nt h
    cases Z with
    | inl f => cases h
    | inr p =>
      have h' : (if (tkF T n p.1).1 = 264 then zLo T n m (zBr T n (.inr p)) else .inr p) = .inr (j, nt) := h
      split at h'
      · obtain ⟨i1, n1, w1, c1, e1⟩ := ih _ j nt h'
        obtain ⟨i2, n2, w2, c2, e2⟩ := zBr_le w1
        refine ⟨i2, n2, w2, fun hi => ?_, fun z => e2 (e1 z)⟩
        have x := c2 hi
        have y := c1 x.2
        omega
      · have e := Sum.inr.inj h'
        subst e
        exact ⟨j, nt, rfl, fun hi => ⟨Nat.le_refl _, hi⟩, fun z => z⟩
theorem p_house {T : Nat → Nat} {n i i' : Nat} {nt nt' : Option (Nat × Nat)} {Q : zQ} (h : PQ nt Q) (hz : zHo T n Q (.inr (i, nt)) = .inr (i', nt')) : PQ nt' (qHo T n Q i) ∧ i < i' := by
  unfold zHo at hz
  obtain ⟨i4, n4, w4, s4, _, rfl, _, m4⟩ := zTo_inr hz
  obtain ⟨i3, n3, w3, s3, _, rfl, _, m3⟩ := zTo_inr w4
  obtain ⟨i2, n2, w2, s2, _, rfl, _, m2⟩ := zTo_inr w3
  obtain ⟨i1', n1, w1, s1, _, rfl, _, m1⟩ := zTo_inr w2
  obtain ⟨i0, n0, w0, s0, _, rfl, _, m0⟩ := zTo_inr w1
  have ei : i = i0 := congrArg Prod.fst (Sum.inr.inj w0)
  have en : nt = n0 := congrArg Prod.snd (Sum.inr.inj w0)
  subst ei; subst en
  refine ⟨fun hn => ?_, by omega⟩
  have d4 := m4 hn
  have d3 := m3 d4.1
  have d2 := m2 d3.1
  have d1 := m1 d2.1
  have d0 := m0 d1.1
  obtain ⟨a, b, c, d, e, f, g, g'⟩ := h d0.1
  obtain ⟨u1, u2⟩ := dupB_f d1.2
  have lq : (qHo T n Q i).1.length = Q.1.length + 1 := by unfold qHo; rw [List.length_append]; rfl
  refine ⟨?_, b, fun j x hx => ?_, fun j x hx => ?_, e, f, g, g'⟩
  · show uqL (nmH (Q.1 ++ [_]))
    unfold nmH
    rw [List.map_append]
    exact uq_snoc a u1
  · rcases snoc_get hx with ⟨_, hx'⟩ | ⟨_, rfl⟩
    · exact c j x hx'
    · exact ⟨(outB_f d2.2).2, (outB_f d3.2).2⟩
  · obtain ⟨x1, x2, x3, x4⟩ := d j x hx
    rw [lq]
    exact ⟨by omega, by omega, x3, x4⟩
theorem p_work {T : Nat → Nat} {n i i' : Nat} {nt nt' : Option (Nat × Nat)} {Q : zQ} (h : PQ nt Q) (hz : zWo T n Q (.inr (i, nt)) = .inr (i', nt')) : PQ nt' (qWo T n Q i) ∧ i < i' := by
  unfold zWo at hz
  obtain ⟨i6, n6, w6, s6, k6, rfl, _, m6⟩ := zTo_inr hz
  obtain ⟨i5, n5, w5, s5, k5, rfl, _, m5⟩ := zTo_inr w6
  obtain ⟨i4, n4, w4, s4, k4, rfl, _, m4⟩ := zTo_inr w5
  obtain ⟨i3, n3, w3, s3, k3, rfl, _, m3⟩ := zTo_inr w4
  obtain ⟨i2, n2, w2, s2, k2, rfl, _, m2⟩ := zTo_inr w3
  obtain ⟨i1', n1, w1, s1, k1, rfl, _, m1⟩ := zTo_inr w2
  obtain ⟨i0, n0, w0, s0, k0, rfl, _, m0⟩ := zTo_inr w1
  have ei : i = i0 := congrArg Prod.fst (Sum.inr.inj w0)
  have en : nt = n0 := congrArg Prod.snd (Sum.inr.inj w0)
  subst ei; subst en
  refine ⟨fun hn => ?_, by omega⟩
  have d6 := m6 hn
  have d5 := m5 d6.1
  have d4 := m4 d5.1
  have d3 := m3 d4.1
  have d2 := m2 d3.1
  have d1 := m1 d2.1
  have d0 := m0 d1.1
  obtain ⟨a, b, c, d, e, f, g, g'⟩ := h d0.1
  obtain ⟨u1, u2⟩ := dupB_f d1.2
  have lq : (qWo T n Q i).2.1.length = Q.2.1.length + 1 := by unfold qWo; rw [List.length_append]; rfl
  refine ⟨a, ?_, c, fun j x hx => ?_, fun j x hx => ?_, f, g, g'⟩
  · show uqL (nmW (Q.2.1 ++ [_]))
    unfold nmW
    rw [List.map_append]
    exact uq_snoc b u2
  · rcases snoc_get hx with ⟨_, hx'⟩ | ⟨_, rfl⟩
    · exact d j x hx'
    · have y1 := notB_f d2.2
      have y2 := notB_f d3.2
      rw [len_nmH] at y1 y2
      exact ⟨y1, y2, (outB_f d4.2).2, (outB_f d5.2).2⟩
  · obtain ⟨x1, x2, x3⟩ := e j x hx
    rw [lq]
    exact ⟨by omega, x2, x3⟩
theorem p_only {T : Nat → Nat} {n i i' s lo hi m : Nat} {nt nt' : Option (Nat × Nat)} {Q : zQ} (h : PQ nt Q) (hm : (m = 16 ∧ s = 261 ∧ lo = 0 ∧ hi = 100) ∨ (m = 17 ∧ s = 262 ∧ lo = 1 ∧ hi = 3) ∨ (m = 18 ∧ s = 263 ∧ lo = 0 ∧ hi = 9999)) (hz : zOn T n s lo hi (.inr (i, nt)) = .inr (i', nt')) : PQ nt' (qOn T n Q m i) ∧ i < i' := by
  unfold zOn at hz
  obtain ⟨i2, n2, w2, s2, _, rfl, _, m2⟩ := zTo_inr hz
  obtain ⟨i1', n1, w1, s1, _, rfl, _, m1⟩ := zTo_inr w2
  obtain ⟨i0, n0, w0, s0, _, rfl, _, m0⟩ := zTo_inr w1
  have ei : i = i0 := congrArg Prod.fst (Sum.inr.inj w0)
  have en' : nt = n0 := congrArg Prod.snd (Sum.inr.inj w0)
  subst ei; subst en'
  refine ⟨fun hn => ?_, by omega⟩
  have d2 := m2 hn
  have d1 := m1 d2.1
  have d0 := m0 d1.1
  obtain ⟨a, b, c, d, e, ⟨f1, f2, f3⟩, g, g'⟩ := h d0.1
  have o := outB_f d1.2
  refine ⟨a, b, c, d, e, ?_, g, g'⟩
  unfold qOn
  rcases hm with ⟨rfl, _, rfl, rfl⟩ | ⟨rfl, _, rfl, rfl⟩ | ⟨rfl, _, rfl, rfl⟩
  · rw [if_pos rfl]; exact ⟨o.2, f2, f3⟩
  · rw [if_neg (by omega), if_pos rfl]; exact ⟨f1, o, f3⟩
  · rw [if_neg (by omega), if_neg (by omega)]; exact ⟨f1, f2, o.2⟩
theorem p_term {T : Nat → Nat} {n i i' : Nat} {nt nt' : Option (Nat × Nat)} {Q : zQ} (h : PQ nt Q) (hi : i ≤ 400) (x1 : iv_ex (cdX (tkF T n) (i + 2))) (x2 : iv_ex (cdX (tkF T n) (edX (tkF T n) (i + 2) + 1))) (hz : zTe T n Q (.inr (i, nt)) = .inr (i', nt')) : PQ nt' (qTe T n Q i) ∧ i < i' := by
  unfold zTe at hz
  obtain ⟨jb, nb, wb, c1, d1, e1⟩ := zTo_le hz
  obtain ⟨j7, w7, c2⟩ := zSm_le wb
  obtain ⟨j5, n5, w5, c3, d3, e3⟩ := zTo_le w7
  obtain ⟨j4, w4, c4⟩ := zSm_le w5
  obtain ⟨i1', n1, w1, s1, k1, ei1, _, m1⟩ := zTo_inr w4
  obtain ⟨i0, n0, w0, s0, k0, ei0, _, m0⟩ := zTo_inr w1
  have ei : i = i0 := congrArg Prod.fst (Sum.inr.inj w0)
  have en : nt = n0 := congrArg Prod.snd (Sum.inr.inj w0)
  subst ei; subst en
  have y1 := c4 (by omega)
  have y2 := d3 y1.2
  have y3 := c2 y2
  refine ⟨fun hn => ?_, by omega⟩
  have f1 := m1 (e3 (e1 hn))
  have f0 := m0 f1.1
  obtain ⟨a, b, c, d, e, f, g, g'⟩ := h f0.1
  refine ⟨a, b, c, d, fun j x hx => ?_, f, g, g'⟩
  rcases snoc_get hx with ⟨_, hx'⟩ | ⟨_, rfl⟩
  · exact e j x hx'
  · have nb := notB_f f1.2
    rw [len_nmW, ei0] at nb
    exact ⟨nb, x1, x2⟩
theorem p_law {T : Nat → Nat} {n i i' s a1 : Nat} {nt nt' : Option (Nat × Nat)} {Q : zQ} (h : PQ nt Q) (hi : i ≤ 400) (ha : a1 = 0 ∨ a1 = 1) (x1 : exB (laQ T n i).1) (x2 : iv_ex (laQ T n i).2) (hz : zLa T n s (.inr (i, nt)) = .inr (i', nt')) : PQ nt' (qLa T n Q (14 + a1) i) ∧ i < i' := by
  unfold zLa at hz
  obtain ⟨j5, n5, w5, c1, d1, e1⟩ := zTo_le hz
  obtain ⟨j4, w4, c2⟩ := zSm_le w5
  obtain ⟨j3, n3, w3, c3, e3⟩ := zLo_le 4 _ _ _ w4
  obtain ⟨j2, n2, w2, c4, d4, e4⟩ := zTo_le w3
  obtain ⟨j1, n1, w1, c5, d5, e5⟩ := zTo_le w2
  have ei : i = j1 := congrArg Prod.fst (Sum.inr.inj w1)
  have en : nt = n1 := congrArg Prod.snd (Sum.inr.inj w1)
  subst ei; subst en
  have y1 := d4 (d5 hi)
  have y2 := c3 y1
  have y3 := c2 y2.2
  refine ⟨fun hn => ?_, by omega⟩
  obtain ⟨a, b, c, d, e, f, g, g'⟩ := h (e5 (e4 (e3 (e1 hn))))
  have lb : (laQ T n i).1.length ≤ 4 := bsL_len T n 4 (i + 2)
  refine ⟨a, b, c, d, e, f, ?_, ?_⟩
  · unfold qLa
    rcases ha with rfl | rfl
    · rw [if_pos rfl]; exact ⟨lb, x1, x2⟩
    · rw [if_neg (by omega)]; exact g
  · unfold qLa
    rcases ha with rfl | rfl
    · rw [if_pos rfl]; exact g'
    · rw [if_neg (by omega)]; exact ⟨lb, x1, x2⟩
