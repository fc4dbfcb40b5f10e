/-! loops by number, by invariant -/
theorem lp_for {σ ε : Type} {step : σ → Option (σ ⊕ ε)} (st : Nat → σ) (N : Nat) {e : ε} (h : ∀ i, i < N → step (st i) = some (.inl (st (i + 1)))) (he : step (st N) = some (.inr e)) : zm_lp step (st 0) = some e := by
  have key : ∀ m i, i + m = N → zm_lp step (st i) = some e := by
    intro m
    induction m with
    | zero => intro i hi; rw [zm_lp_eq, show i = N by omega, he]; rfl
    | succ m ih => intro i hi; rw [zm_lp_eq, h i (by omega)]; exact ih (i + 1) (by omega)
  exact key N 0 (by omega)
theorem lp_inv {σ ε : Type} {step : σ → Option (σ ⊕ ε)} (P : Nat → σ → Prop) (Q : ε → Prop) (N : Nat) (h : ∀ i s, i < N → P i s → (∃ s', step s = some (.inl s') ∧ P (i + 1) s') ∨ (∃ e, step s = some (.inr e) ∧ Q e)) (hN : ∀ s, P N s → ∃ e, step s = some (.inr e) ∧ Q e) {s : σ} (h0 : P 0 s) : ∃ e, zm_lp step s = some e ∧ Q e := by
  have key : ∀ m i s, i + m = N → P i s → ∃ e, zm_lp step s = some e ∧ Q e := by
    intro m
    induction m with
    | zero =>
      intro i s hi hp
      obtain ⟨e, h1, h2⟩ := hN s (by rw [← show i = N by omega]; exact hp)
      exact ⟨e, by rw [zm_lp_eq, h1]; rfl, h2⟩
    | succ m ih =>
      intro i s hi hp
      rcases h i s (by omega) hp with ⟨s', h1, h2⟩ | ⟨e, h1, h2⟩
      · obtain ⟨e, h3, h4⟩ := ih (i + 1) s' (by omega) h2
        exact ⟨e, by rw [zm_lp_eq, h1]; exact h3, h4⟩
      · exact ⟨e, by rw [zm_lp_eq, h1]; rfl, h2⟩
  exact key N 0 s (by omega) h0
theorem lp_wf {σ ε : Type} {step : σ → Option (σ ⊕ ε)} (μ : σ → Nat) (P : σ → Prop) (Q : ε → Prop) (h : ∀ s, P s → (∃ s', step s = some (.inl s') ∧ P s' ∧ μ s' < μ s) ∨ (∃ e, step s = some (.inr e) ∧ Q e)) {s : σ} (h0 : P s) : ∃ e, zm_lp step s = some e ∧ Q e := by
  have key : ∀ m s, μ s < m → P s → ∃ e, zm_lp step s = some e ∧ Q e := by
    intro m
    induction m with
    | zero => intro s hi _; omega
    | succ m ih =>
      intro s hi hp
      rcases h s hp with ⟨s', h1, h2, h3⟩ | ⟨e, h1, h2⟩
      · obtain ⟨e, h4, h5⟩ := ih s' (by omega) h2
        exact ⟨e, by rw [zm_lp_eq, h1]; exact h4, h5⟩
      · exact ⟨e, by rw [zm_lp_eq, h1]; rfl, h2⟩
  exact key (μ s + 1) s (by omega) h0
theorem lp_go {σ ε : Type} {step : σ → Option (σ ⊕ ε)} {s s' : σ} (h : step s = some (.inl s')) : zm_lp step s = zm_lp step s' := by rw [zm_lp_eq, h]; rfl
theorem lp_end {σ ε : Type} {step : σ → Option (σ ⊕ ε)} {s : σ} {e : ε} (h : step s = some (.inr e)) : zm_lp step s = some e := by rw [zm_lp_eq, h]; rfl
/-! numbers -/
theorem zk_true {α : Type} (d : Option α) : zm_ck true d = d := Eq.trans rfl rfl
theorem zv_eq {α β : Type} (x : β) (k : β → α) : zm_v x k = k x := Eq.trans rfl rfl
theorem zb1_some {α β : Type} (x : β) (k : β → Option α) : zm_b1 (some x) k = k x := Eq.trans rfl rfl
theorem zb2_some {α β : Type} (x : β) (M : zm_Mem) (k : β → zm_Mem → Option α) : zm_b2 (some (x, M)) k = k x M := Eq.trans rfl rfl
theorem lt_lit (n : Nat) : (OfNat.ofNat n : Int32) = nI n := Eq.trans rfl rfl
theorem zi_in {a L : Nat} (h : a < L) (hL : L < 2 ^ 31) : zm_in (nI a) L = true := zm_in_nI h hL
theorem zi_sub {a b : Nat} (h : b ≤ a) : nI a - nI b = nI (a - b) := pk_sub h
theorem zi_rem {a d : Nat} (ha : a < 2 ^ 31) (h0 : 0 < d) (hd : d < 2 ^ 31) : nI a - nI a / nI d * nI d = nI (a % d) := pk_rem ha h0 hd
theorem zi_31 : ∀ n, n < 32 → ((nI n &&& nI 31).toBitVec.smod 32).toNat = n := by decide
theorem zi_sh1 {j : Nat} (hj : j < 31) : nI 1 <<< (nI j &&& nI 31) = nI (2 ^ j) := by
  have := pk_shlN (n := 1) (nI j &&& nI 31) j (zi_31 j (by omega)) (by rw [Nat.one_mul]; exact Nat.pow_lt_pow_right (by omega) (by omega))
  rwa [Nat.one_mul] at this
theorem zi_shr {x j : Nat} (hx : x < 2 ^ 31) (hj : j < 32) : nI x >>> (nI j &&& nI 31) = nI (x / 2 ^ j) := pk_shrN hx _ j (zi_31 j hj)
theorem zi_bv (a : Nat) : (nI a).toBitVec = BitVec.ofNat 32 a := rfl
theorem zi_and (a b : Nat) : nI a &&& nI b = nI (a &&& b) := by
  refine Int32.toBitVec_inj.1 ?_
  rw [Int32.toBitVec_and, zi_bv, zi_bv, zi_bv, BitVec.ofNat_and]
theorem zi_or (a b : Nat) : nI a ||| nI b = nI (a ||| b) := by
  refine Int32.toBitVec_inj.1 ?_
  rw [Int32.toBitVec_or, zi_bv, zi_bv, zi_bv, BitVec.ofNat_or]
theorem zi_xor (a b : Nat) : nI a ^^^ nI b = nI (a ^^^ b) := by
  refine Int32.toBitVec_inj.1 ?_
  rw [Int32.toBitVec_xor, zi_bv, zi_bv, zi_bv, BitVec.ofNat_xor]
theorem zi_and1 (x : Nat) : nI x &&& nI 1 = nI (x % 2) := by rw [zi_and, Nat.and_one_is_mod]
theorem zi_negT {b : Nat} (hb : b < 2 ^ 31) : (-nI b).toInt = -(b : Int) := by
  rw [Int32.toInt_neg, nI_toInt hb, Int.bmod_eq_of_le (by omega) (by omega)]
theorem zi_en {a b : Nat} (h0 : 0 < b) (hb : b < 2 ^ 31) (ha : a < 2 ^ 31) : (nI a = -nI b) ↔ False := by
  rw [iff_false, ← Int32.toInt_inj, zi_negT hb, nI_toInt ha]; omega
theorem zi_ne {a b : Nat} (h0 : 0 < b) (hb : b < 2 ^ 31) (ha : a < 2 ^ 31) : (-nI b = nI a) ↔ False := by
  rw [iff_false, ← Int32.toInt_inj, zi_negT hb, nI_toInt ha]; omega
theorem zi_ln {a b : Nat} (h0 : 0 < b) (hb : b < 2 ^ 31) (ha : a < 2 ^ 31) : (nI a < -nI b) ↔ False := by
  rw [iff_false, Int32.lt_iff_toInt_lt, zi_negT hb, nI_toInt ha]; omega
theorem zi_nl {a b : Nat} (h0 : 0 < b) (hb : b < 2 ^ 31) (ha : a < 2 ^ 31) : (-nI b < nI a) ↔ True := by
  rw [iff_true, Int32.lt_iff_toInt_lt, zi_negT hb, nI_toInt ha]; omega
theorem zi_lne {a b : Nat} (h0 : 0 < b) (hb : b < 2 ^ 31) (ha : a < 2 ^ 31) : (nI a ≤ -nI b) ↔ False := by
  rw [iff_false, Int32.le_iff_toInt_le, zi_negT hb, nI_toInt ha]; omega
theorem zi_nle {a b : Nat} (h0 : 0 < b) (hb : b < 2 ^ 31) (ha : a < 2 ^ 31) : (-nI b ≤ nI a) ↔ True := by
  rw [iff_true, Int32.le_iff_toInt_le, zi_negT hb, nI_toInt ha]; omega
theorem zi_nn {a b : Nat} (hb : b < 2 ^ 31) (ha : a < 2 ^ 31) : (-nI a = -nI b) ↔ a = b := by
  rw [← Int32.toInt_inj, zi_negT hb, zi_negT ha]; omega
/-- a place behind the last one: x - 1 < a -/
theorem zj_m1 {b : Nat} {x : Int32} (hb : b < 2 ^ 31) (hx : ¬ x < nI 0) : (nI b - nI 1 < x) ↔ nI b ≤ x := by
  obtain ⟨j, hj, rfl⟩ := nI_of (x := x) (by rw [← nI_0]; exact hx)
  cases b with
  | zero =>
    have e : nI 0 - nI 1 = -nI 1 := by decide
    rw [e, zi_nl (by omega) (by omega) hj, nI_leI (by omega) hj]
    constructor
    · intro _; omega
    · intro _; trivial
  | succ b => rw [zi_sub (by omega), nI_ltI (by omega) hj, nI_leI hb hj]; omega
/-! sets of bits, sums, counts below a number -/
def bitsOf (p : Nat → Bool) : Nat → Nat
  | 0 => 0
  | i + 1 => bitsOf p i + (if p i = true then 2 ^ i else 0)
theorem bitsOf_lt (p : Nat → Bool) : ∀ i, bitsOf p i < 2 ^ i
  | 0 => by simp [bitsOf]
  | i + 1 => by
    have h := bitsOf_lt p i
    rw [Nat.pow_succ]
    unfold bitsOf
    split <;> omega
theorem bitsOf_le (p : Nat → Bool) {i m : Nat} (h : i ≤ m) : bitsOf p i < 2 ^ m := Nat.lt_of_lt_of_le (bitsOf_lt p i) (Nat.pow_le_pow_right (by omega) h)
theorem or_pow {a i : Nat} (h : a < 2 ^ i) : a ||| 2 ^ i = a + 2 ^ i := by
  rw [Nat.or_comm]
  have := Nat.two_pow_add_eq_or_of_lt h 1
  rw [Nat.mul_one] at this
  rw [← this, Nat.add_comm]
theorem bitsOf_or (p : Nat → Bool) (i : Nat) : bitsOf p i ||| 2 ^ i = bitsOf p i + 2 ^ i := or_pow (bitsOf_lt p i)
theorem bitsOf_congr {p p' : Nat → Bool} : ∀ {i : Nat}, (∀ j, j < i → p j = p' j) → bitsOf p i = bitsOf p' i
  | 0, _ => rfl
  | i + 1, h => by
    unfold bitsOf
    rw [bitsOf_congr (fun j hj => h j (by omega)), h i (by omega)]
theorem bitsOf_test (p : Nat → Bool) : ∀ (i j : Nat), (bitsOf p i).testBit j = (decide (j < i) && p j)
  | 0, j => by simp [bitsOf]
  | i + 1, j => by
    have ih := bitsOf_test p i
    unfold bitsOf
    by_cases hp : p i = true
    · rw [if_pos hp, ← bitsOf_or, Nat.testBit_or, ih, Nat.testBit_two_pow]
      by_cases hj : j = i
      · subst hj; simp [hp]
      · have : decide (i = j) = false := by simp; omega
        rw [this, Bool.or_false]
        congr 1
        rw [decide_eq_decide]; omega
    · rw [if_neg hp, Nat.add_zero, ih]
      by_cases hj : j = i
      · subst hj; simp [hp]
      · congr 1
        rw [decide_eq_decide]; omega
/-- a loop that gathers bits -/
theorem lp_bits {st : Int32 → Int32 → Option ((Int32 × Int32) ⊕ Int32)} (p : Nat → Bool) (N : Nat) (h : ∀ i b, i < N → b < 2 ^ i → st (nI b) (nI i) = some (.inl (nI (b + (if p i = true then 2 ^ i else 0)), nI (i + 1)))) (he : ∀ b, b < 2 ^ N → st (nI b) (nI N) = some (.inr (nI b))) : (zm_lp (fun s => st s.1 s.2) (0, 0)).bind (fun e => some e) = some (nI (bitsOf p N)) := by
  have := lp_for (step := fun s => st s.1 s.2) (fun i => (nI (bitsOf p i), nI i)) N (fun i hi => h i _ hi (bitsOf_lt p i)) (he _ (bitsOf_lt p N))
  rw [show ((0 : Int32), (0 : Int32)) = (nI (bitsOf p 0), nI 0) from rfl, this]
  rfl
def sumOf (f : Nat → Nat) : Nat → Nat
  | 0 => 0
  | i + 1 => sumOf f i + f i
theorem sumOf_congr {f g : Nat → Nat} : ∀ {i : Nat}, (∀ j, j < i → f j = g j) → sumOf f i = sumOf g i
  | 0, _ => rfl
  | i + 1, h => by unfold sumOf; rw [sumOf_congr (fun j hj => h j (by omega)), h i (by omega)]
theorem sumOf_le {f : Nat → Nat} {c : Nat} : ∀ {i : Nat}, (∀ j, j < i → f j ≤ c) → sumOf f i ≤ c * i
  | 0, _ => by simp [sumOf]
  | i + 1, h => by
    unfold sumOf
    have := sumOf_le (i := i) (fun j hj => h j (by omega))
    have := h i (by omega)
    rw [Nat.mul_succ]
    omega
/-- a loop that sums -/
theorem lp_sum {st : Int32 → Int32 → Option ((Int32 × Int32) ⊕ Int32)} (f : Nat → Nat) (N c : Nat) (hc : ∀ j, j < N → f j ≤ c) (h : ∀ i b, i < N → b ≤ c * i → st (nI b) (nI i) = some (.inl (nI (b + f i), nI (i + 1)))) (he : ∀ b, b ≤ c * N → st (nI b) (nI N) = some (.inr (nI b))) : (zm_lp (fun s => st s.1 s.2) (0, 0)).bind (fun e => some e) = some (nI (sumOf f N)) := by
  have := lp_for (step := fun s => st s.1 s.2) (fun i => (nI (sumOf f i), nI i)) N (fun i hi => h i _ hi (sumOf_le (fun j hj => hc j (by omega)))) (he _ (sumOf_le hc))
  rw [show ((0 : Int32), (0 : Int32)) = (nI (sumOf f 0), nI 0) from rfl, this]
  rfl
theorem zq_01 (c : Prop) [Decidable c] : ((if c then nI 1 else nI 0) = nI 0) ↔ ¬ c := by
  by_cases h : c
  · simp only [h, if_true, not_true_eq_false, iff_false]; decide
  · simp only [h, if_false, not_false_eq_true]
theorem zq_10 (c : Prop) [Decidable c] : ((if c then nI 0 else nI 1) = nI 0) ↔ c := by
  by_cases h : c
  · simp only [h, if_true]
  · simp only [h, if_false, iff_false]; decide
theorem zq_011 (c : Prop) [Decidable c] : ((if c then nI 1 else nI 0) = nI 1) ↔ c := by
  by_cases h : c
  · simp only [h, if_true]
  · simp only [h, if_false, iff_false]; decide
/-- a house here or nowhere (-2), asked for -/
theorem zq_at (c : Prop) [Decidable c] {g x : Nat} (hg : g < 2 ^ 31) (hx : x < 2 ^ 31) : ((if c then nI g else -nI 2) = nI x) ↔ (c ∧ g = x) := by
  by_cases h : c
  · simp only [h, if_true, true_and, nI_eq hg hx]
  · simp only [h, if_false, false_and, zi_ne (show 0 < 2 by omega) (show 2 < 2 ^ 31 by omega) hx]
theorem zq_ta (c : Prop) [Decidable c] {g x : Nat} (hg : g < 2 ^ 31) (hx : x < 2 ^ 31) : ((if c then -nI 2 else nI g) = nI x) ↔ (¬ c ∧ g = x) := by
  by_cases h : c
  · simp only [h, if_true, not_true_eq_false, false_and, zi_ne (show 0 < 2 by omega) (show 2 < 2 ^ 31 by omega) hx]
  · simp only [h, if_false, not_false_eq_true, true_and, nI_eq hg hx]
