/-! the sums as a function of the tokens: a fault (sort, index), or the index behind and the code; w: 0 sum, 1 product, 2 operand, 3 and 4 the rest of a sum and of a product -/
abbrev zR := (Nat × Nat) ⊕ (Nat × zE)
def bR (x : zR) (f : Nat → zE → zR) : zR := x.elim .inl (fun p => f p.1 p.2)
def cR (c : zE) (x : zR) : zR := x.elim .inl (fun p => .inr (p.1, c ++ p.2))
def gR (i : Nat) (c : zE) : zR := if i = 400 then .inl (2, i) else .inr (i + 1, c)
def opF (s : Nat) : Nat := if s = 43 then 2 else if s = 45 then 3 else if s = 42 then 4 else 5
def isO (w s : Nat) : Bool := if w = 3 then decide (s = 43) || decide (s = 45) else decide (s = 42) || decide (s = 47)
def pX (tk : Nat → zTk) : Nat → Nat → Nat → Nat → zR
  | 0, _, _, i => .inl (1, i)
  | n + 1, w, a, i =>
    if w = 0 then bR (pX tk n 1 a i) (fun j c => cR c (pX tk n 3 a j))
    else if w = 1 then bR (pX tk n 2 a i) (fun j c => cR c (pX tk n 4 a j))
    else if w = 2 then
      (if (tk i).1 = 3 then gR i [(0, (tk i).2.2.2)]
       else if 267 ≤ (tk i).1 then gR i [(1, (tk i).1 - 267)]
       else if (tk i).1 = 40 then
         (if 6 ≤ a then .inl (2, i) else bR (gR i []) (fun i1 _ => bR (pX tk n 0 (a + 1) i1) (fun j c => if (tk j).1 = 41 then gR j c else .inl (1, j))))
       else .inl (1, i))
    else if isO w (tk i).1 = true then
      bR (gR i []) (fun i1 _ => bR (pX tk n (w - 2) a i1) (fun j c => cR (c ++ [(opF (tk i).1, 0)]) (pX tk n w a j)))
    else .inr (i, [])
theorem bR_inr {x : zR} {f : Nat → zE → zR} {y : Nat × zE} (h : bR x f = .inr y) : ∃ j c, x = .inr (j, c) ∧ f j c = .inr y := by
  cases x with
  | inl z => cases h
  | inr p => exact ⟨p.1, p.2, rfl, h⟩
theorem cR_inr {c : zE} {x : zR} {j : Nat} {d : zE} (h : cR c x = .inr (j, d)) : ∃ d', x = .inr (j, d') ∧ d = c ++ d' := by
  cases x with
  | inl z => cases h
  | inr p =>
    have h' := Sum.inr.inj h
    have h1 : p.1 = j := congrArg Prod.fst h'
    have h2 : c ++ p.2 = d := congrArg Prod.snd h'
    exact ⟨p.2, by rw [← h1], h2.symm⟩
theorem gR_inr {i j : Nat} {c d : zE} (h : gR i c = .inr (j, d)) : i ≠ 400 ∧ j = i + 1 ∧ d = c := by
  unfold gR at h
  by_cases hi : i = 400
  · rw [if_pos hi] at h; cases h
  · rw [if_neg hi] at h
    have h' := Sum.inr.inj h
    exact ⟨hi, (congrArg Prod.fst h').symm, (congrArg Prod.snd h').symm⟩
theorem pX_0 (tk : Nat → zTk) (n a i : Nat) : pX tk (n + 1) 0 a i = bR (pX tk n 1 a i) (fun j c => cR c (pX tk n 3 a j)) := by
  rw [pX, if_pos rfl]
theorem pX_1 (tk : Nat → zTk) (n a i : Nat) : pX tk (n + 1) 1 a i = bR (pX tk n 2 a i) (fun j c => cR c (pX tk n 4 a j)) := by
  rw [pX, if_neg (by omega), if_pos rfl]
theorem pX_2 (tk : Nat → zTk) (n a i : Nat) : pX tk (n + 1) 2 a i = (if (tk i).1 = 3 then gR i [(0, (tk i).2.2.2)]
       else if 267 ≤ (tk i).1 then gR i [(1, (tk i).1 - 267)]
       else if (tk i).1 = 40 then
         (if 6 ≤ a then .inl (2, i) else bR (gR i []) (fun i1 _ => bR (pX tk n 0 (a + 1) i1) (fun j c => if (tk j).1 = 41 then gR j c else .inl (1, j))))
       else .inl (1, i)) := by
  rw [pX, if_neg (by omega), if_neg (by omega), if_pos rfl]
theorem pX_3 (tk : Nat → zTk) (n a i : Nat) {w : Nat} (hw : w = 3 ∨ w = 4) : pX tk (n + 1) w a i = if isO w (tk i).1 = true then bR (gR i []) (fun i1 _ => bR (pX tk n (w - 2) a i1) (fun j c => cR (c ++ [(opF (tk i).1, 0)]) (pX tk n w a j))) else .inr (i, []) := by
  rw [pX, if_neg (by omega), if_neg (by omega), if_neg (by omega)]
/-- how far, how long, and what stands behind -/
theorem pX_pr {tk : Nat → zTk} : ∀ n w a i j c, w ≤ 4 → i ≤ 400 → pX tk n w a i = .inr (j, c) → i ≤ j ∧ (w ≤ 2 → i < j) ∧ c.length + i ≤ j ∧ j ≤ 400 ∧ (w = 0 ∨ w = 3 → isO 3 (tk j).1 = false) ∧ (w = 1 ∨ w = 4 ∨ w = 0 ∨ (w = 3 ∧ isO 4 (tk i).1 = false) → isO 4 (tk j).1 = false)
  | 0, w, a, i, j, c, hw, hi, h => by cases h
  | n + 1, w, a, i, j, c, hw, hi, h => by
    have ih := pX_pr (tk := tk) n
    rcases (show w = 0 ∨ w = 1 ∨ w = 2 ∨ (w = 3 ∨ w = 4) by omega) with rfl | rfl | rfl | hw3
    · rw [pX_0] at h
      obtain ⟨j1, c1, h1, h2⟩ := bR_inr h
      obtain ⟨c2, h3, rfl⟩ := cR_inr h2
      obtain ⟨a1, a2, a3, a4, a5, a6⟩ := ih 1 a i j1 c1 (by omega) hi h1
      obtain ⟨b1, b2, b3, b4, b5, b6⟩ := ih 3 a j1 j c2 (by omega) a4 h3
      have := a2 (by omega)
      refine ⟨by omega, fun _ => by omega, by rw [List.length_append]; omega, b4, fun _ => b5 (Or.inr rfl), fun _ => b6 (Or.inr (Or.inr (Or.inr ⟨rfl, a6 (Or.inl rfl)⟩)))⟩
    · rw [pX_1] at h
      obtain ⟨j1, c1, h1, h2⟩ := bR_inr h
      obtain ⟨c2, h3, rfl⟩ := cR_inr h2
      obtain ⟨a1, a2, a3, a4, a5, a6⟩ := ih 2 a i j1 c1 (by omega) hi h1
      obtain ⟨b1, b2, b3, b4, b5, b6⟩ := ih 4 a j1 j c2 (by omega) a4 h3
      have := a2 (by omega)
      refine ⟨by omega, fun _ => by omega, by rw [List.length_append]; omega, b4, fun z => absurd z (by omega), fun _ => b6 (Or.inr (Or.inl rfl))⟩
    · rw [pX_2] at h
      have hg : ∀ (k : Nat) (d : zE), k ≤ 400 → gR k d = .inr (j, c) → j = k + 1 ∧ c = d ∧ j ≤ 400 := fun k d hk hh => by
        obtain ⟨g1, g2, g3⟩ := gR_inr hh
        exact ⟨g2, g3, by omega⟩
      by_cases h3 : (tk i).1 = 3
      · rw [if_pos h3] at h
        obtain ⟨g1, g2, g3⟩ := hg _ _ hi h
        subst g2
        exact ⟨by omega, fun _ => by omega, by show 1 + i ≤ j; omega, g3, fun z => absurd z (by omega), fun z => absurd z (by omega)⟩
      rw [if_neg h3] at h
      by_cases h4 : 267 ≤ (tk i).1
      · rw [if_pos h4] at h
        obtain ⟨g1, g2, g3⟩ := hg _ _ hi h
        subst g2
        exact ⟨by omega, fun _ => by omega, by show 1 + i ≤ j; omega, g3, fun z => absurd z (by omega), fun z => absurd z (by omega)⟩
      rw [if_neg h4] at h
      by_cases h5 : (tk i).1 = 40
      · rw [if_pos h5] at h
        by_cases h6 : 6 ≤ a
        · rw [if_pos h6] at h; cases h
        · rw [if_neg h6] at h
          obtain ⟨i1, d1, g1, g2⟩ := bR_inr h
          obtain ⟨q1, q2, q3⟩ := gR_inr g1
          obtain ⟨j2, c2, g3, g4⟩ := bR_inr g2
          obtain ⟨a1, a2, a3, a4, a5, a6⟩ := ih 0 (a + 1) i1 j2 c2 (by omega) (by omega) g3
          by_cases h7 : (tk j2).1 = 41
          · rw [if_pos h7] at g4
            obtain ⟨r1, r2, r3⟩ := hg _ _ a4 g4
            subst r2
            exact ⟨by omega, fun _ => by omega, by omega, r3, fun z => absurd z (by omega), fun z => absurd z (by omega)⟩
          · rw [if_neg h7] at g4; cases g4
      · rw [if_neg h5] at h; cases h
    · rw [pX_3 tk n a i hw3] at h
      by_cases ho : isO w (tk i).1 = true
      · rw [if_pos ho] at h
        obtain ⟨i1, d1, g1, g2⟩ := bR_inr h
        obtain ⟨q1, q2, q3⟩ := gR_inr g1
        obtain ⟨j2, c2, g3, g4⟩ := bR_inr g2
        obtain ⟨c3, g5, rfl⟩ := cR_inr g4
        obtain ⟨a1, a2, a3, a4, a5, a6⟩ := ih (w - 2) a i1 j2 c2 (by omega) (by omega) g3
        obtain ⟨b1, b2, b3, b4, b5, b6⟩ := ih w a j2 j c3 (by omega) a4 g5
        refine ⟨by omega, fun _ => by omega, ?_, b4, fun z => b5 z, fun z => ?_⟩
        · rw [List.length_append, List.length_append]
          show c2.length + 1 + c3.length + i ≤ j
          omega
        · rcases hw3 with rfl | rfl
          · exact b6 (Or.inr (Or.inr (Or.inr ⟨rfl, a6 (Or.inl rfl)⟩)))
          · exact b6 (Or.inr (Or.inl rfl))
      · rw [if_neg ho] at h
        have h' := Sum.inr.inj h
        have e1 : i = j := congrArg Prod.fst h'
        have e2 : ([] : zE) = c := congrArg Prod.snd h'
        subst e1; subst e2
        have ho' : isO w (tk i).1 = false := by cases hh : isO w (tk i).1 with
          | true => exact absurd hh ho
          | false => rfl
        refine ⟨by omega, fun z => absurd z (by omega), by show 0 + i ≤ i; omega, hi, fun z => ?_, fun z => ?_⟩
        · have : w = 3 := by omega
          subst this; exact ho'
        · rcases hw3 with rfl | rfl
          · rcases z with z | z | z | z
            · omega
            · omega
            · omega
            · exact z.2
          · exact ho'
/-- what waits behind a code -/
theorem pX_dp {tk : Nat → zTk} (hok : ∀ i, okT (tk i)) : ∀ n w a i j c, w ≤ 4 → a ≤ 6 → pX tk n w a i = .inr (j, c) → ∀ r x, x ≤ 2 * a + (if w ≤ 2 then w else w - 3) → iv_dp (c ++ r) (if w ≤ 2 then x else x + 1) = iv_dp r (x + 1)
  | 0, w, a, i, j, c, hw, ha, h => by cases h
  | n + 1, w, a, i, j, c, hw, ha, h => by
    have ih := pX_dp hok n
    rcases (show w = 0 ∨ w = 1 ∨ w = 2 ∨ (w = 3 ∨ w = 4) by omega) with rfl | rfl | rfl | hw3
    · rw [pX_0] at h
      obtain ⟨j1, c1, h1, h2⟩ := bR_inr h
      obtain ⟨c2, h3, rfl⟩ := cR_inr h2
      intro r x hx
      rw [if_pos (by omega)] at hx
      rw [if_pos (by omega)]
      have i1 := ih 1 a i j1 c1 (by omega) ha h1 (c2 ++ r) x (by rw [if_pos (by omega)]; omega)
      have i2 := ih 3 a j1 j c2 (by omega) ha h3 r x (by rw [if_neg (by omega)]; omega)
      rw [if_pos (by omega)] at i1
      rw [if_neg (by omega)] at i2
      rw [List.append_assoc, i1, i2]
    · rw [pX_1] at h
      obtain ⟨j1, c1, h1, h2⟩ := bR_inr h
      obtain ⟨c2, h3, rfl⟩ := cR_inr h2
      intro r x hx
      rw [if_pos (by omega)] at hx
      rw [if_pos (by omega)]
      have i1 := ih 2 a i j1 c1 (by omega) ha h1 (c2 ++ r) x (by rw [if_pos (by omega)]; omega)
      have i2 := ih 4 a j1 j c2 (by omega) ha h3 r x (by rw [if_neg (by omega)]; omega)
      rw [if_pos (by omega)] at i1
      rw [if_neg (by omega)] at i2
      rw [List.append_assoc, i1, i2]
    · rw [pX_2] at h
      intro r x hx
      rw [if_pos (by omega)] at hx
      rw [if_pos (by omega)]
      by_cases h3 : (tk i).1 = 3
      · rw [if_pos h3] at h
        obtain ⟨g1, g2, g3⟩ := gR_inr h
        subst g3
        have := (hok i).2.2.2
        show iv_dp ((0, (tk i).2.2.2) :: r) x = _
        rw [iv_dp, if_pos (by show 0 < 2; omega), if_pos ⟨by omega, this, fun z => absurd z (by show ¬ (0 : Nat) = 1; omega)⟩]
      rw [if_neg h3] at h
      by_cases h4 : 267 ≤ (tk i).1
      · rw [if_pos h4] at h
        obtain ⟨g1, g2, g3⟩ := gR_inr h
        subst g3
        have := okS_lt _ (hok i).1
        show iv_dp ((1, (tk i).1 - 267) :: r) x = _
        rw [iv_dp, if_pos (by show 1 < 2; omega), if_pos ⟨by omega, by show (tk i).1 - 267 < 10000; omega, fun _ => by show (tk i).1 - 267 < 9; omega⟩]
      rw [if_neg h4] at h
      by_cases h5 : (tk i).1 = 40
      · rw [if_pos h5] at h
        by_cases h6 : 6 ≤ a
        · rw [if_pos h6] at h; cases h
        · rw [if_neg h6] at h
          obtain ⟨i1, d1, g1, g2⟩ := bR_inr h
          obtain ⟨j2, c2, g3, g4⟩ := bR_inr g2
          by_cases h7 : (tk j2).1 = 41
          · rw [if_pos h7] at g4
            obtain ⟨r1, r2, r3⟩ := gR_inr g4
            subst r3
            have i1 := ih 0 (a + 1) i1 j2 c (by omega) (by omega) g3 r x (by rw [if_pos (by omega)]; omega)
            rw [if_pos (by omega)] at i1
            exact i1
          · rw [if_neg h7] at g4; cases g4
      · rw [if_neg h5] at h; cases h
    · rw [pX_3 tk n a i hw3] at h
      intro r x hx
      rw [if_neg (by omega)] at hx
      rw [if_neg (by omega)]
      by_cases ho : isO w (tk i).1 = true
      · rw [if_pos ho] at h
        obtain ⟨i1, d1, g1, g2⟩ := bR_inr h
        obtain ⟨j2, c2, g3, g4⟩ := bR_inr g2
        obtain ⟨c3, g5, rfl⟩ := cR_inr g4
        have k1 := ih (w - 2) a i1 j2 c2 (by omega) ha g3 ((opF (tk i).1, 0) :: (c3 ++ r)) (x + 1) (by rw [if_pos (by omega)]; omega)
        have k2 := ih w a j2 j c3 (by omega) ha g5 r x (by rw [if_neg (by omega)]; exact hx)
        rw [if_pos (by omega)] at k1
        rw [if_neg (by omega)] at k2
        have e : c2 ++ [(opF (tk i).1, 0)] ++ c3 ++ r = c2 ++ ((opF (tk i).1, 0) :: (c3 ++ r)) := by
          simp only [List.append_assoc, List.cons_append, List.nil_append]
        have o1 : 2 ≤ opF (tk i).1 ∧ opF (tk i).1 ≤ 5 := by
          unfold opF
          split
          · omega
          split
          · omega
          split
          · omega
          omega
        rw [e, k1, iv_dp, if_neg (by show ¬ opF (tk i).1 < 2; omega), if_pos ⟨o1.2, rfl, by omega⟩]
        exact k2
      · rw [if_neg ho] at h
        have h' := Sum.inr.inj h
        have e2 : ([] : zE) = c := congrArg Prod.snd h'
        subst e2
        rfl
theorem pX_ex {tk : Nat → zTk} (hok : ∀ i, okT (tk i)) {n i j : Nat} {c : zE} (h : pX tk n 0 0 i = .inr (j, c)) : iv_ex c := by
  have := pX_dp hok n 0 0 i j c (by omega) (by omega) h [] 0 (by rw [if_pos (by omega)]; omega)
  rw [if_pos (by omega), List.append_nil] at this
  exact this
theorem tkF_lt {T : Nat → Nat} {n i : Nat} (hi : i ≤ tkE T n) (hs : (tkF T n i).1 ≠ 0) (h4 : i ≠ 400) : i + 1 ≤ tkE T n := by
  refine Classical.byContradiction (fun z => ?_)
  have e : i = tkE T n := by omega
  have hl : (tokA T n 0).length ≤ 400 := by unfold tkE at e; omega
  exact hs (by rw [e]; exact tkF_end hl)
