/-! the reference's stack grows -/
def puM (M : zm_Mem) (h : Nat) (x : Int32) : zm_Mem := zm_sI (zm_sI M 88 h x) 52 52 (nI (h + 1))
theorem sk_push {M : zm_Mem} {sk : List Nat} {x : Nat} (h : SkR M sk) (hl : sk.length < 64) : SkR (puM M sk.length (nI x)) (sk ++ [x]) := by
  obtain ⟨h1, h2, h3⟩ := h
  refine ⟨by rw [List.length_append]; show sk.length + 1 ≤ 64; omega, ?_, fun i y hy => ?_⟩
  · rw [List.length_append]
    unfold puM
    rw [mI1, if_pos ⟨rfl, rfl⟩]; rfl
  · unfold puM
    rw [mI1, if_neg (by omega), mI1]
    rcases Nat.lt_or_ge i sk.length with hi | hi
    · rw [List.getElem?_append_left hi] at hy
      rw [if_neg (by omega)]; exact h3 i y hy
    · rw [List.getElem?_append_right hi] at hy
      have hi0 : i = sk.length := by
        refine Classical.byContradiction (fun z => ?_)
        rw [List.getElem?_eq_none (by simp; omega)] at hy; cases hy
      subst hi0
      rw [Nat.sub_self] at hy
      have hxy : x = y := Option.some.inj hy
      subst hxy
      rw [if_pos ⟨rfl, rfl⟩]
theorem rs_40 : ∀ s, s < 276 → okS s = true → (rsF s = 6 ↔ s = 40) ∧ (rsF s = 7 ↔ s = 41) ∧ (rsF s = 8 ↔ s = 43) ∧ (rsF s = 9 ↔ s = 45) ∧ (rsF s = 10 ↔ s = 42) ∧ (rsF s = 15 ↔ s = 47) := by decide +kernel
theorem rs_4 : ∀ s, s < 276 → okS s = true → (rsF s = 4 ↔ s = 59) ∧ (rsF s = 5 ↔ s = 61) ∧ (rsF s = 13 ↔ s = 60) ∧ (rsF s = 1 ↔ s = 2) := by decide +kernel
theorem rs_0 : ∀ s, s < 276 → okS s = true → (rsF s = 0 ↔ s = 0) ∧ (rsF s = 28 ↔ s = 264) ∧ (rsF s = 29 ↔ s = 265) ∧ (rsF s = 30 ↔ s = 266) := by decide +kernel
