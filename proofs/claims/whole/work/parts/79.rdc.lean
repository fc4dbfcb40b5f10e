/-- a number has no letters -/
theorem nxT_num {T : Nat → Nat} {n p : Nat} {x : zTk} (h : nxT T n p = some x) (h3 : x.1 = 3) : x.2.2.1 = [] := by
  unfold nxT at h
  by_cases hb : isBl (T p) = true
  · rw [if_pos hb] at h; cases h
  · rw [if_neg hb] at h
    by_cases hlt : isLt (T p) = true
    · rw [if_pos hlt] at h
      have hx := Option.some.inj h
      subst hx
      exfalso
      have h3' : (if rl isLt T n p ≤ 8 then ksC (wIx (lets T p (min (rl isLt T n p) 8)) 20) else 1) = 3 := h3
      by_cases h8 : rl isLt T n p ≤ 8
      · rw [if_pos h8] at h3'
        cases hw : wIx (lets T p (min (rl isLt T n p) 8)) 20 with
        | none => rw [hw] at h3'; cases h3'
        | some i =>
          rw [hw] at h3'
          have h4 : 256 + i = 3 := h3'
          omega
      · rw [if_neg h8] at h3'; cases h3'
    · rw [if_neg hlt] at h
      by_cases hd : isDg (T p) = true
      · rw [if_pos hd] at h
        have hx := Option.some.inj h
        subst hx; rfl
      · rw [if_neg hd] at h
        have hx := Option.some.inj h
        subst hx; rfl
theorem toks_num {T : Nat → Nat} {n : Nat} : ∀ k p x, x ∈ toks T n k p → x.1 = 3 → x.2.2.1 = []
  | 0, p, x, h, _ => by cases h
  | k + 1, p, x, h, h3 => by
    unfold toks at h
    by_cases hp : n ≤ p
    · rw [if_pos hp] at h; cases h
    · rw [if_neg hp] at h
      cases hx : nxT T n p with
      | none => rw [hx] at h; exact toks_num k _ x h h3
      | some y =>
        rw [hx] at h
        rcases List.mem_cons.1 h with rfl | h
        · exact nxT_num hx h3
        · exact toks_num k _ x h h3
theorem i32_al0 : ∀ a, a < 100 → ∀ b, b < 100 → (Int64.ofNat (100 * a + b)).toInt32 = nI (100 * a + b) := by decide +kernel
theorem i32_all (v : Nat) (h : v < 10000) : (Int64.ofNat v).toInt32 = nI v := by
  have := i32_al0 (v / 100) (by omega) (v % 100) (by omega)
  rw [Nat.div_add_mod] at this; exact this
/-- a number's worth is the number -/
theorem tkF_num {T : Nat → Nat} {n i : Nat} (h3 : (tkF T n i).1 = 3) : (cwt (tkF T n i)).toInt32 = nI (tkF T n i).2.2.2 := by
  have hv := (tkF_ok (T := T) (n := n) (i := i)).2.2.2
  have hl : (tkF T n i).2.2.1 = [] := by
    unfold tkF at h3 ⊢
    rw [List.getD_eq_getElem?_getD] at h3 ⊢
    cases h : (tokA T n 0)[i]? with
    | none => rfl
    | some x =>
      rw [h] at h3
      exact toks_num _ _ x (List.mem_of_getElem? h) h3
  unfold cwt
  rw [hl]
  show (Int64.ofNat (0 + (tkF T n i).2.2.2)).toInt32 = _
  rw [Nat.zero_add]; exact i32_all _ hv
