/-! a name has no number; places grow -/
theorem nxT_nam {T : Nat → Nat} {n p : Nat} {x : zTk} (h : nxT T n p = some x) (h3 : x.1 = 2) : x.2.2.2 = 0 := by
  unfold nxT at h
  by_cases hb : isBl (T p) = true
  · rw [if_pos hb] at h; cases h
  · rw [if_neg hb] at h
    by_cases hlt : isLt (T p) = true
    · rw [if_pos hlt] at h
      have hx := Option.some.inj h
      subst hx; rfl
    · rw [if_neg hlt] at h
      by_cases hd : isDg (T p) = true
      · rw [if_pos hd] at h
        have hx := Option.some.inj h
        subst hx
        exfalso
        have h3' : (if rl isDg T n p ≤ 4 then 3 else 1) = 2 := h3
        split at h3' <;> cases h3'
      · rw [if_neg hd] at h
        have hx := Option.some.inj h
        subst hx; rfl
theorem toks_nam {T : Nat → Nat} {n : Nat} : ∀ k p x, x ∈ toks T n k p → x.1 = 2 → x.2.2.2 = 0
  | 0, p, x, h, _ => by cases h
  | k + 1, p, x, h, h3 => by
    unfold toks at h
    by_cases hp : n ≤ p
    · rw [if_pos hp] at h; cases h
    · rw [if_neg hp] at h
      cases hx : nxT T n p with
      | none => rw [hx] at h; exact toks_nam k _ x h h3
      | some y =>
        rw [hx] at h
        rcases List.mem_cons.1 h with rfl | h
        · exact nxT_nam hx h3
        · exact toks_nam k _ x h h3
theorem tkF_nam {T : Nat → Nat} {n i : Nat} (h3 : (tkF T n i).1 = 2) : cwt (tkF T n i) = Int64.ofNat (iv_wn 32 (tkF T n i).2.2.1) := by
  have hl : (tkF T n i).2.2.2 = 0 := by
    unfold tkF at h3 ⊢
    rw [List.getD_eq_getElem?_getD] at h3 ⊢
    cases h : (tokA T n 0)[i]? with
    | none => rfl
    | some x =>
      rw [h] at h3
      exact toks_nam _ _ x (List.mem_of_getElem? h) h3
  unfold cwt
  rw [hl, Nat.add_zero]
theorem nxT_pl {T : Nat → Nat} {n p : Nat} {x : zTk} (h : nxT T n p = some x) : x.2.1 = p := by
  unfold nxT at h
  by_cases hb : isBl (T p) = true
  · rw [if_pos hb] at h; cases h
  · rw [if_neg hb] at h
    by_cases hlt : isLt (T p) = true
    · rw [if_pos hlt] at h
      have hx := Option.some.inj h
      subst hx; rfl
    · rw [if_neg hlt] at h
      by_cases hd : isDg (T p) = true
      · rw [if_pos hd] at h
        have hx := Option.some.inj h
        subst hx; rfl
      · rw [if_neg hd] at h
        have hx := Option.some.inj h
        subst hx; rfl
theorem toks_pl {T : Nat → Nat} {n : Nat} : ∀ k p, (∀ x ∈ toks T n k p, p ≤ x.2.1 ∧ x.2.1 < n) ∧ ∀ (i j : Nat) (x y : zTk), (toks T n k p)[i]? = some x → (toks T n k p)[j]? = some y → i < j → x.2.1 < y.2.1
  | 0, p => ⟨fun x h => (by cases h), fun i j x y h => (by cases h)⟩
  | k + 1, p => by
    unfold toks
    by_cases hp : n ≤ p
    · rw [if_pos hp]
      exact ⟨fun x h => (by cases h), fun i j x y h => (by cases h)⟩
    · rw [if_neg hp]
      have hg := nxS_gt (T := T) (n := n) (p := p) (by omega)
      obtain ⟨i1, i2⟩ := toks_pl (T := T) (n := n) k (nxS T n p)
      cases hx : nxT T n p with
      | none => exact ⟨fun x h => (by have := i1 x h; omega), i2⟩
      | some y =>
        have hy := nxT_pl hx
        refine ⟨fun x h => ?_, fun i j x z h1 h2 hij => ?_⟩
        · rcases List.mem_cons.1 h with rfl | h
          · omega
          · have := i1 x h; omega
        · cases j with
          | zero => omega
          | succ j =>
            cases i with
            | zero =>
              have e : y = x := Option.some.inj h1
              subst e
              have := (i1 z (List.mem_of_getElem? h2)).1
              omega
            | succ i => exact i2 i j x z h1 h2 (by omega)
theorem tkF_pl {T : Nat → Nat} {n i : Nat} : (tkF T n i).2.1 ≤ n := by
  unfold tkF
  rw [List.getD_eq_getElem?_getD]
  cases h : (tokA T n 0)[i]? with
  | none => exact Nat.le_refl _
  | some x => exact Nat.le_of_lt ((toks_pl (T := T) (n := n) (n - 0) 0).1 x (List.mem_of_getElem? h)).2
theorem tkF_mono {T : Nat → Nat} {n i j : Nat} (hij : i < j) (hj : j ≤ tkE T n) : (tkF T n i).2.1 < (tkF T n j).2.1 := by
  have hi : i < (tokA T n 0).length := by unfold tkE at hj; omega
  obtain ⟨i1, i2⟩ := toks_pl (T := T) (n := n) (n - 0) 0
  have ei : (tokA T n 0)[i]? = some (tokA T n 0)[i] := List.getElem?_eq_getElem hi
  have e1 : tkF T n i = (tokA T n 0)[i] := by
    unfold tkF
    rw [List.getD_eq_getElem?_getD, ei]; rfl
  rcases Nat.lt_or_ge j (tokA T n 0).length with hl | hl
  · have ej : (tokA T n 0)[j]? = some (tokA T n 0)[j] := List.getElem?_eq_getElem hl
    have e2 : tkF T n j = (tokA T n 0)[j] := by
      unfold tkF
      rw [List.getD_eq_getElem?_getD, ej]; rfl
    rw [e1, e2]
    exact i2 i j _ _ ei ej hij
  · have e2 : tkF T n j = (0, n, [], 0) := by
      unfold tkF
      rw [List.getD_eq_getElem?_getD, List.getElem?_eq_none hl]; rfl
    rw [e1, e2]
    exact (i1 _ (List.mem_of_getElem? ei)).2
/-! a reader's state: a fault (sort, index), or the index and a note (sort, index) -/
def noB (_ : Nat) : Bool := false
abbrev zZ := (Nat × Nat) ⊕ (Nat × Option (Nat × Nat))
def aN (nt : Option (Nat × Nat)) (c i : Nat) : Option (Nat × Nat) := if nt = none then some (c, i) else nt
def zTo (tk : Nat → zTk) (s c : Nat) (bad : Nat → Bool) (Z : zZ) : zZ := Sum.elim (fun f => (.inl f : zZ)) (fun p : Nat × Option (Nat × Nat) => (if (tk p.1).1 = s then (if p.1 = 400 then .inl (2, p.1) else .inr (p.1 + 1, if bad p.1 = true then aN p.2 c p.1 else p.2)) else .inl (1, p.1) : zZ)) Z
theorem zTo_inl (tk : Nat → zTk) (s c : Nat) (bad : Nat → Bool) (f : Nat × Nat) : zTo tk s c bad (.inl f) = .inl f := rfl
theorem zTo_inr {tk : Nat → zTk} {s c : Nat} {bad : Nat → Bool} {Z : zZ} {i : Nat} {nt : Option (Nat × Nat)} (h : zTo tk s c bad Z = .inr (i, nt)) : ∃ i0 n0, Z = .inr (i0, n0) ∧ (tk i0).1 = s ∧ i0 ≠ 400 ∧ i = i0 + 1 ∧ nt = (if bad i0 = true then aN n0 c i0 else n0) ∧ (nt = none → n0 = none ∧ bad i0 = false) := by
  cases Z with
  | inl f => cases h
  | inr p =>
    have h' : (if (tk p.1).1 = s then (if p.1 = 400 then .inl (2, p.1) else .inr (p.1 + 1, if bad p.1 = true then aN p.2 c p.1 else p.2)) else .inl (1, p.1)) = (.inr (i, nt) : zZ) := h
    by_cases h1 : (tk p.1).1 = s
    · rw [if_pos h1] at h'
      by_cases h2 : p.1 = 400
      · rw [if_pos h2] at h'; cases h'
      · rw [if_neg h2] at h'
        have h3 := Sum.inr.inj h'
        have e1 : p.1 + 1 = i := congrArg Prod.fst h3
        have e2 : (if bad p.1 = true then aN p.2 c p.1 else p.2) = nt := congrArg Prod.snd h3
        refine ⟨p.1, p.2, rfl, h1, h2, e1.symm, e2.symm, fun z => ?_⟩
        rw [z] at e2
        cases hb : bad p.1 with
        | true =>
          rw [hb, if_pos rfl] at e2
          unfold aN at e2
          split at e2
          · cases e2
          · rename_i hh; exact absurd e2 hh
        | false =>
          rw [hb, if_neg (by decide)] at e2
          exact ⟨e2, rfl⟩
    · rw [if_neg h1] at h'; cases h'
