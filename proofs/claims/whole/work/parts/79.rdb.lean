/-- what is true of every token that is cut -/
def okT (x : zTk) : Prop := okS x.1 = true ∧ x.2.2.1.length ≤ 8 ∧ ltsL x.2.2.1 ∧ x.2.2.2 < 10000
theorem okS_w : ∀ i, i < 20 → okS (256 + i) = true := by decide
theorem nxT_ok {T : Nat → Nat} {n p : Nat} {x : zTk} (hp : p < n) (h : nxT T n p = some x) : okT x := by
  have rw1 := rl_run (P := isLt) (T := T) (n := n) (p := p) (by omega)
  have rw2 := rl_run (P := isDg) (T := T) (n := n) (p := p) (by omega)
  have hnil : ltsL [] := fun c hc => by cases hc
  unfold nxT at h
  by_cases hb : isBl (T p) = true
  · rw [if_pos hb] at h; cases h
  · rw [if_neg hb] at h
    by_cases hlt : isLt (T p) = true
    · rw [if_pos hlt] at h
      have hx := Option.some.inj h
      subst hx
      obtain ⟨q1, q2⟩ := run_lt rw1
      refine ⟨?_, q1, q2, by show 0 < 10000; omega⟩
      show okS (if rl isLt T n p ≤ 8 then ksC (wIx (lets T p (min (rl isLt T n p) 8)) 20) else 1) = true
      by_cases h8 : rl isLt T n p ≤ 8
      · rw [if_pos h8]
        cases hw : wIx (lets T p (min (rl isLt T n p) 8)) 20 with
        | none => rfl
        | some i => exact okS_w i (wIx_some hw).1
      · rw [if_neg h8]; rfl
    · rw [if_neg hlt] at h
      by_cases hd : isDg (T p) = true
      · rw [if_pos hd] at h
        have hx := Option.some.inj h
        subst hx
        refine ⟨?_, by show 0 ≤ 8; omega, hnil, run_dg rw2⟩
        show okS (if rl isDg T n p ≤ 4 then 3 else 1) = true
        split <;> rfl
      · rw [if_neg hd] at h
        have hx := Option.some.inj h
        subst hx
        refine ⟨?_, by show 0 ≤ 8; omega, hnil, by show 0 < 10000; omega⟩
        show okS (if isSg (T p) = true then T p else 1) = true
        by_cases hs : isSg (T p) = true
        · rw [if_pos hs]
          unfold okS
          rw [hs, Bool.true_or, Bool.or_true]
        · rw [if_neg hs]; rfl
theorem toks_ok {T : Nat → Nat} {n : Nat} : ∀ k p x, x ∈ toks T n k p → okT x
  | 0, p, x, h => by cases h
  | k + 1, p, x, h => by
    unfold toks at h
    by_cases hp : n ≤ p
    · rw [if_pos hp] at h; cases h
    · rw [if_neg hp] at h
      cases hx : nxT T n p with
      | none => rw [hx] at h; exact toks_ok k _ x h
      | some y =>
        rw [hx] at h
        rcases List.mem_cons.1 h with rfl | h
        · exact nxT_ok (by omega) hx
        · exact toks_ok k _ x h
theorem end_ok (n : Nat) : okT (0, n, [], 0) := ⟨rfl, (by show 0 ≤ 8; omega), (fun c hc => (by cases hc)), (by show 0 < 10000; omega)⟩
/-- the tokens by their index: the same in both, up to 400 -/
def tkF (T : Nat → Nat) (n i : Nat) : zTk := (tokA T n 0).getD i (0, n, [], 0)
theorem tkF_ok {T : Nat → Nat} {n i : Nat} : okT (tkF T n i) := by
  unfold tkF
  rw [List.getD_eq_getElem?_getD]
  cases h : (tokA T n 0)[i]? with
  | none => exact end_ok n
  | some x => exact toks_ok _ _ x (List.mem_of_getElem? h)
/-- how far the reader can come -/
def tkE (T : Nat → Nat) (n : Nat) : Nat := min (tokA T n 0).length 400
theorem c_tks {M : zm_Mem} {T : Nat → Nat} {n : Nat} (h : TkC M ((tokA T n 0).take 401 ++ [(0, n, [], 0)])) : M.1 3 4 = nI (min (tokA T n 0).length 401 + 1) ∧ ∀ i, i ≤ tkE T n → M.1 4 i = nI (tkF T n i).1 ∧ M.1 5 i = nI (tkF T n i).2.1 ∧ M.2.1 6 i = cwt (tkF T n i) := by
  obtain ⟨h1, h2⟩ := h
  refine ⟨?_, fun i hi => h2 i _ ?_⟩
  · rw [h1, List.length_append, List.length_take]
    show nI (min 401 (tokA T n 0).length + 1) = _
    rw [Nat.min_comm]
  · unfold tkE at hi
    unfold tkF
    rw [List.getD_eq_getElem?_getD]
    rcases Nat.lt_or_ge i (tokA T n 0).length with hl | hl
    · rw [List.getElem?_append_left (by rw [List.length_take]; omega), List.getElem?_take_of_lt (by omega), List.getElem?_eq_getElem hl]; rfl
    · have hlen : (tokA T n 0).length ≤ 401 := by omega
      rw [List.take_of_length_le hlen, List.getElem?_append_right hl, show i - (tokA T n 0).length = 0 by omega, List.getElem?_eq_none hl]; rfl
theorem r_tks {M : zm_Mem} {T : Nat → Nat} {n : Nat} (h : TkR M (if (tokA T n 0).length ≤ 400 then tokA T n 0 ++ [(0, n, [], 0)] else (tokA T n 0).take 401)) : Rks M (tkF T n) (tkE T n) := by
  obtain ⟨h1, h2⟩ := h
  refine ⟨by unfold tkE; omega, fun i hi => h2 i _ ?_⟩
  unfold tkE at hi
  unfold tkF
  rw [List.getD_eq_getElem?_getD]
  by_cases hc : (tokA T n 0).length ≤ 400
  · rw [if_pos hc]
    rcases Nat.lt_or_ge i (tokA T n 0).length with hl | hl
    · rw [List.getElem?_append_left hl, List.getElem?_eq_getElem hl]; rfl
    · rw [List.getElem?_append_right hl, show i - (tokA T n 0).length = 0 by omega, List.getElem?_eq_none hl]; rfl
  · have hl : i < (tokA T n 0).length := by omega
    rw [if_neg hc, List.getElem?_take_of_lt (by omega), List.getElem?_eq_getElem hl]; rfl
theorem c_tksT {M : zm_Mem} {T : Nat → Nat} {n : Nat} (h : TkC M ((tokA T n 0).take 401 ++ [(0, n, [], 0)])) : Tks M (tkF T n) (tkE T n) := by
  obtain ⟨h1, h2⟩ := c_tks h
  exact ⟨by unfold tkE; omega, ⟨_, by unfold tkE; omega, by omega, h1⟩, h2⟩
/-- behind the end nothing is taken: the reader stands at most at the end -/
theorem tkF_end {T : Nat → Nat} {n : Nat} (h : (tokA T n 0).length ≤ 400) : (tkF T n (tkE T n)).1 = 0 := by
  unfold tkF tkE
  rw [Nat.min_eq_left h, List.getD_eq_getElem?_getD, List.getElem?_eq_none (Nat.le_refl _)]; rfl
theorem c_worthI {M : zm_Mem} {tk : Nat → zTk} {e i : Nat} (h : Tks M tk e) (hi : i ≤ e) : f_X7_worthAt (nI i) M = some (cwt (tk i)) := by
  obtain ⟨h1, ⟨c, hc1, hc2, h2⟩, h3⟩ := h
  unfold f_X7_worthAt
  rw [if_neg (show ¬ nI i < (0 : Int32) from nI_pos (by omega)), h2, if_neg (nI_ge (by omega) (by omega)), zm_ck_t (zm_in_nI (by omega) (by omega)), nI_clamp (by omega), (h3 i hi).2.2]
