/-! ways and places: one coat changed -/
def rp (W way j o : Nat) : Nat := way - dgp 5 way W j * 5 ^ (W - 1 - j) + o * 5 ^ (W - 1 - j)
theorem dg_at {hi e k lo : Nat} (he : e < 5) (hlo : lo < 5 ^ k) : ((hi * 5 + e) * 5 ^ k + lo) / 5 ^ k % 5 = e := by
  rw [dig_hi (by omega) hlo]; omega
theorem dg_up {hi e k m lo : Nat} (he : e < 5) (hlo : lo < 5 ^ k) : ((hi * 5 + e) * 5 ^ k + lo) / 5 ^ (k + 1 + m) % 5 = hi / 5 ^ m % 5 := by
  rw [Nat.pow_add, Nat.pow_succ, ← Nat.div_div_eq_div_mul, ← Nat.div_div_eq_div_mul, dig_hi (by omega) hlo, show (hi * 5 + e) / 5 = hi by omega]
theorem rp_form {W way j : Nat} : ∃ hi lo, lo < 5 ^ (W - 1 - j) ∧ way = (hi * 5 + dgp 5 way W j) * 5 ^ (W - 1 - j) + lo ∧ (∀ o, rp W way j o = (hi * 5 + o) * 5 ^ (W - 1 - j) + lo) ∧ hi = way / 5 ^ (W - 1 - j) / 5 := by
  have hP : 0 < 5 ^ (W - 1 - j) := Nat.pow_pos (by omega)
  refine ⟨way / 5 ^ (W - 1 - j) / 5, way % 5 ^ (W - 1 - j), Nat.mod_lt _ hP, ?_, fun o => ?_, rfl⟩
  · have h1 : way / 5 ^ (W - 1 - j) / 5 * 5 + dgp 5 way W j = way / 5 ^ (W - 1 - j) := by unfold dgp; omega
    rw [h1, Nat.mul_comm]; exact (Nat.div_add_mod _ _).symm
  · have h1 : way / 5 ^ (W - 1 - j) / 5 * 5 + dgp 5 way W j = way / 5 ^ (W - 1 - j) := by unfold dgp; omega
    have h2 : way = (way / 5 ^ (W - 1 - j) / 5 * 5 + dgp 5 way W j) * 5 ^ (W - 1 - j) + way % 5 ^ (W - 1 - j) := by
      rw [h1, Nat.mul_comm]; exact (Nat.div_add_mod _ _).symm
    unfold rp
    rw [Nat.add_mul] at h2 ⊢
    generalize way / 5 ^ (W - 1 - j) / 5 * 5 * 5 ^ (W - 1 - j) = A at h2 ⊢
    generalize dgp 5 way W j * 5 ^ (W - 1 - j) = B at h2 ⊢
    omega
theorem rp_dig {W way j o i : Nat} (hj : j < W) (ho : o < 5) (hi : i < W) : dgp 5 (rp W way j o) W i = if i = j then o else dgp 5 way W i := by
  obtain ⟨h, lo, h1, h2, h3, _⟩ := rp_form (W := W) (way := way) (j := j)
  have hd := dgp_lt (B := 5) (by omega) way W j
  rw [h3]
  by_cases he : i = j
  · subst he
    rw [if_pos rfl]; exact dg_at ho h1
  · rw [if_neg he]
    conv => rhs; rw [h2]
    unfold dgp at hd ⊢
    rcases Nat.lt_or_ge i j with hlt | hge
    · obtain ⟨m, hm⟩ : ∃ m, W - 1 - i = W - 1 - j + 1 + m := ⟨W - 1 - i - (W - 1 - j + 1), by omega⟩
      rw [hm, dg_up ho h1, dg_up hd h1]
    · rw [dig_lo (by omega) (by omega), dig_lo (by omega) (by omega)]
theorem rp_lt {W way j o : Nat} (hj : j < W) (ho : o < 5) (hw : way < 5 ^ W) : rp W way j o < 5 ^ W := by
  obtain ⟨h, lo, h1, h2, h3, h4⟩ := rp_form (W := W) (way := way) (j := j)
  rw [h3]
  have eW : 5 ^ W = 5 ^ j * 5 * 5 ^ (W - 1 - j) := by
    rw [← Nat.pow_succ, ← Nat.pow_add]; congr 1; omega
  have hP : 0 < 5 ^ (W - 1 - j) := Nat.pow_pos (by omega)
  have hh : h < 5 ^ j := by
    rw [h4, Nat.div_div_eq_div_mul, Nat.div_lt_iff_lt_mul (Nat.mul_pos hP (by omega)), Nat.mul_comm (5 ^ (W - 1 - j)) 5, ← Nat.mul_assoc, ← eW]
    exact hw
  have : (h * 5 + o) * 5 ^ (W - 1 - j) + lo < (h * 5 + o + 1) * 5 ^ (W - 1 - j) := by rw [Nat.add_mul (h * 5 + o) 1, Nat.one_mul]; omega
  refine Nat.lt_of_lt_of_le this ?_
  rw [eW]
  exact Nat.mul_le_mul_right _ (by omega)
theorem sum_upd {f g : Nat → Nat} {j : Nat} : ∀ {W : Nat}, j < W → (∀ i, i < W → i ≠ j → f i = g i) → sumOf f W + g j = sumOf g W + f j
  | W + 1, hj, h => by
    show sumOf f W + f W + g j = sumOf g W + g W + f j
    by_cases e : j = W
    · subst e
      have := sumOf_congr (f := f) (g := g) (i := j) (fun i hi => h i (by omega) (by omega))
      omega
    · have := sum_upd (f := f) (g := g) (j := j) (W := W) (by omega) (fun i hi hn => h i (by omega) hn)
      have := h W (by omega) (fun z => e z.symm)
      omega
theorem rp_at {W way j o : Nat} (hj : j < W) (ho : o < 5) : atF (rp W way j o) W + stp j * dgp 5 way W j = atF way W + stp j * o := by
  have := sum_upd (f := fun i => stp i * dgp 5 (rp W way j o) W i) (g := fun i => stp i * dgp 5 way W i) (j := j) hj (fun i hi hn => by
    show stp i * dgp 5 (rp W way j o) W i = stp i * dgp 5 way W i
    rw [rp_dig hj ho hi, if_neg hn])
  rw [rp_dig hj ho hj, if_pos rfl] at this
  exact this
/-- the houses that a place speaks of -/
def pd (j p : Nat) : Nat := if j = 0 then p % 8 else if j = 1 then p / 8 % 8 else p / 64 / 5 ^ (j - 2) % 5
theorem at_pd {W way : Nat} (hW : W ≤ 6) : (∀ j, j < 6 → pd j (atF way W) = if j < W then dgp 5 way W j else 0) ∧ atF way W / 64 < 5 ^ (W - 2) := by
  have hd := fun j => dgp_lt (B := 5) (by omega) way W j
  unfold atF
  generalize dgp 5 way W = d at hd
  have h0 := hd 0
  have h1 := hd 1
  have h2 := hd 2
  have h3 := hd 3
  have h4 := hd 4
  have h5 := hd 5
  rcases (show W = 0 ∨ W = 1 ∨ W = 2 ∨ W = 3 ∨ W = 4 ∨ W = 5 ∨ W = 6 by omega) with rfl | rfl | rfl | rfl | rfl | rfl | rfl <;> refine ⟨fun j hj => ?_, ?_⟩ <;> simp only [sumOf, stp, List.getD_cons_zero, List.getD_cons_succ] <;> first | omega | (rcases (show j = 0 ∨ j = 1 ∨ j = 2 ∨ j = 3 ∨ j = 4 ∨ j = 5 by omega) with rfl | rfl | rfl | rfl | rfl | rfl <;> simp only [pd] <;> simp <;> omega) | skip
theorem dg_inj : ∀ {W a b : Nat}, a < 5 ^ W → b < 5 ^ W → (∀ j, j < W → dgp 5 a W j = dgp 5 b W j) → a = b
  | 0, a, b, ha, hb, _ => by
    rw [Nat.pow_zero] at ha hb; omega
  | W + 1, a, b, ha, hb, h => by
    rw [Nat.pow_succ] at ha hb
    have ea : a = a / 5 * 5 + a % 5 := by omega
    have eb : b = b / 5 * 5 + b % 5 := by omega
    have h5a : a % 5 < 5 := by omega
    have h5b : b % 5 < 5 := by omega
    have hl := h W (by omega)
    rw [ea, eb, dgp_hi h5a, dgp_hi h5b] at hl
    have := dg_inj (W := W) (a := a / 5) (b := b / 5) (by omega) (by omega) (fun j hj => by
      have := h j (by omega)
      rw [ea, eb, dgp_lo h5a hj, dgp_lo h5b hj] at this
      exact this)
    omega
theorem at_inj {W a b : Nat} (hW : W ≤ 6) (ha : a < 5 ^ W) (hb : b < 5 ^ W) (h : atF a W = atF b W) : a = b := by
  refine dg_inj ha hb (fun j hj => ?_)
  have h1 := (at_pd (way := a) hW).1 j (by omega)
  have h2 := (at_pd (way := b) hW).1 j (by omega)
  rw [if_pos hj] at h1 h2
  rw [← h1, ← h2, h]
