/-! the levels of the way home -/
def pb (M : zm_Mem) (a p : Nat) : Bool := lb (M.2.1 a (p / 64)) (p % 64)
def nbr (W : Nat) (F : Nat → Bool) (way : Nat) : Bool := anyB (fun j => anyB (fun o => F (rp W way j o)) 5) W
theorem pb_j {M : zm_Mem} {W way j o i b : Nat} {F : Nat → Bool} (hF : ∀ way, way < 5 ^ W → pb M 113 (atF way W) = F way) (hw : way < 5 ^ W) (hj : j < W) (ho : o < 5) (h1 : atF (rp W way j o) W / 64 = i) (h2 : atF (rp W way j o) W % 64 = b) : lb (M.2.1 113 i) b = F (rp W way j o) := by
  rw [← hF _ (rp_lt hj ho hw), ← h1, ← h2]; rfl
theorem pb_0 {M : zm_Mem} {W way o : Nat} {F : Nat → Bool} (hW : W ≤ 6) (hF : ∀ way, way < 5 ^ W → pb M 113 (atF way W) = F way) (hw : way < 5 ^ W) (hj : 0 < W) (ho : o < 5) : lb (M.2.1 113 (atF way W / 64)) (8 * (atF way W % 64 / 8) + o) = F (rp W way 0 o) := by
  have e := rp_at (way := way) hj ho
  have hp := (at_pd (way := way) hW).1 0 (by omega)
  rw [if_pos hj] at hp
  rw [← hp] at e
  unfold pd at e
  rw [if_pos rfl, show stp 0 = 1 from rfl] at e
  exact pb_j hF hw hj ho (by omega) (by omega)
theorem pb_1 {M : zm_Mem} {W way o : Nat} {F : Nat → Bool} (hW : W ≤ 6) (hF : ∀ way, way < 5 ^ W → pb M 113 (atF way W) = F way) (hw : way < 5 ^ W) (hj : 1 < W) (ho : o < 5) : lb (M.2.1 113 (atF way W / 64)) (8 * o + atF way W % 64 % 8) = F (rp W way 1 o) := by
  have e := rp_at (way := way) hj ho
  have hp := (at_pd (way := way) hW).1 1 (by omega)
  rw [if_pos hj] at hp
  rw [← hp] at e
  unfold pd at e
  rw [if_neg (by decide), if_pos rfl, show stp 1 = 8 from rfl] at e
  exact pb_j hF hw hj ho (by omega) (by omega)
theorem stp_k : ∀ k, k < 4 → stp (k + 2) = 64 * 5 ^ k := by decide
theorem pb_k {M : zm_Mem} {W way o k : Nat} {F : Nat → Bool} (hW : W ≤ 6) (hF : ∀ way, way < 5 ^ W → pb M 113 (atF way W) = F way) (hw : way < 5 ^ W) (hj : k + 2 < W) (ho : o < 5) : lb (M.2.1 113 (atF way W / 64 - atF way W / 64 / 5 ^ k % 5 * 5 ^ k + o * 5 ^ k)) (atF way W % 64) = F (rp W way (k + 2) o) := by
  have e := rp_at (way := way) hj ho
  have hp := (at_pd (way := way) hW).1 (k + 2) (by omega)
  rw [if_pos hj] at hp
  rw [← hp] at e
  unfold pd at e
  rw [if_neg (by omega), if_neg (by omega), stp_k k (by omega), show k + 2 - 2 = k by omega, Nat.mul_assoc, Nat.mul_assoc, Nat.mul_comm (5 ^ k), Nat.mul_comm (5 ^ k)] at e
  have hx : atF way W / 64 / 5 ^ k % 5 * 5 ^ k ≤ atF way W / 64 := Nat.le_trans (Nat.mul_le_mul_right _ (Nat.mod_le _ _)) (Nat.div_mul_le_self _ _)
  refine pb_j hF hw hj ho ?_ ?_
  · generalize atF way W / 64 / 5 ^ k % 5 * 5 ^ k = X at e hx ⊢
    generalize o * 5 ^ k = Y at e ⊢
    omega
  · generalize atF way W / 64 / 5 ^ k % 5 * 5 ^ k = X at e hx ⊢
    generalize o * 5 ^ k = Y at e ⊢
    omega
theorem nb_way {M : zm_Mem} {W way : Nat} {F : Nat → Bool} (hW : W ≤ 6) (hW1 : 0 < W) (hF : ∀ way, way < 5 ^ W → pb M 113 (atF way W) = F way) (hF2 : ∀ p, p < 64 * 5 ^ (W - 2) → pb M 113 p = true → ∃ way, way < 5 ^ W ∧ p = atF way W) (hw : way < 5 ^ W) (h0 : F way = false) : (n01 (lb (M.2.1 113 (atF way W / 64))) (atF way W % 64) || anyB (fun j => sg (5 ^ j) M (atF way W / 64) (atF way W % 64)) (W - 2)) = nbr W F way := by
  have hd0 := (at_pd (way := way) hW).1 0 (by omega)
  have hd1 := (at_pd (way := way) hW).1 1 (by omega)
  rw [if_pos hW1] at hd0
  have l0 := dgp_lt (B := 5) (by omega) way W 0
  have l1 := dgp_lt (B := 5) (by omega) way W 1
  have d0 : atF way W % 64 % 8 < 5 := by
    unfold pd at hd0; rw [if_pos rfl] at hd0; omega
  have d1 : atF way W % 64 / 8 < 5 := by
    unfold pd at hd1; rw [if_neg (by decide), if_pos rfl] at hd1
    by_cases h : 1 < W
    · rw [if_pos h] at hd1; omega
    · rw [if_neg h] at hd1; omega
  unfold n01 nbr
  rw [decide_eq_true d0, decide_eq_true d1, Bool.true_and, Bool.true_and, Bool.eq_iff_iff]
  constructor
  · intro h
    rw [Bool.or_eq_true, Bool.or_eq_true] at h
    rcases h with (h | h) | h
    · obtain ⟨o, ho, h⟩ := anyB_iff.1 h
      rw [pb_0 hW hF hw hW1 ho] at h
      exact anyB_iff.2 ⟨0, hW1, anyB_iff.2 ⟨o, ho, h⟩⟩
    · obtain ⟨o, ho, h⟩ := anyB_iff.1 h
      by_cases hw1 : 1 < W
      · rw [pb_1 hW hF hw hw1 ho] at h
        exact anyB_iff.2 ⟨1, hw1, anyB_iff.2 ⟨o, ho, h⟩⟩
      · exfalso
        have eW : W = 1 := by omega
        subst eW
        have hlt := (at_pd (way := way) hW).2
        rw [show 1 - 2 = 0 from rfl, Nat.pow_zero] at hlt
        rw [if_neg hw1] at hd1
        unfold pd at hd1
        rw [if_neg (by decide), if_pos rfl] at hd1
        have hq : pb M 113 (8 * o + atF way 1 % 64 % 8) = true := by
          unfold pb
          rw [show (8 * o + atF way 1 % 64 % 8) / 64 = atF way 1 / 64 by omega, show (8 * o + atF way 1 % 64 % 8) % 64 = 8 * o + atF way 1 % 64 % 8 by omega]
          exact h
        obtain ⟨w', hw', e⟩ := hF2 _ (by rw [show 1 - 2 = 0 from rfl, Nat.pow_zero]; omega) hq
        have hd1' := (at_pd (way := w') hW).1 1 (by omega)
        rw [if_neg hw1, ← e] at hd1'
        unfold pd at hd1'
        rw [if_neg (by decide), if_pos rfl] at hd1'
        have : 8 * o + atF way 1 % 64 % 8 = atF way 1 := by omega
        rw [this, hF way hw, h0] at hq
        cases hq
    · obtain ⟨k, hk, h⟩ := anyB_iff.1 h
      unfold sg at h
      obtain ⟨o, ho, h⟩ := anyB_iff.1 h
      rw [pb_k hW hF hw (by omega) ho] at h
      exact anyB_iff.2 ⟨k + 2, by omega, anyB_iff.2 ⟨o, ho, h⟩⟩
  · intro h
    obtain ⟨j, hj, h⟩ := anyB_iff.1 h
    obtain ⟨o, ho, h⟩ := anyB_iff.1 h
    rw [Bool.or_eq_true, Bool.or_eq_true]
    match j, hj, h with
    | 0, hj, h => exact Or.inl (Or.inl (anyB_iff.2 ⟨o, ho, by rw [pb_0 hW hF hw hj ho]; exact h⟩))
    | 1, hj, h => exact Or.inl (Or.inr (anyB_iff.2 ⟨o, ho, by rw [pb_1 hW hF hw hj ho]; exact h⟩))
    | k + 2, hj, h =>
      refine Or.inr (anyB_iff.2 ⟨k, by omega, ?_⟩)
      unfold sg
      exact anyB_iff.2 ⟨o, ho, by rw [pb_k hW hF hw hj ho]; exact h⟩
/-- what is reached with so many trips, and what was reached before -/
def lvs (W : Nat) (A : Nat → Bool) (f : Nat) : Nat → (Nat → Bool) × (Nat → Bool)
  | 0 => (fun w => decide (w = f), fun w => decide (w = f))
  | n + 1 => (fun w => A w && !(lvs W A f n).2 w && nbr W (lvs W A f n).1 w, fun w => (lvs W A f n).2 w || (A w && !(lvs W A f n).2 w && nbr W (lvs W A f n).1 w))
theorem lvs_sub {W : Nat} {A : Nat → Bool} {f w : Nat} : ∀ n, (lvs W A f n).1 w = true → (lvs W A f n).2 w = true
  | 0, h => h
  | n + 1, h => by
    show ((lvs W A f n).2 w || (lvs W A f (n + 1)).1 w) = true
    rw [h, Bool.or_true]
theorem lvs_le {W : Nat} {A : Nat → Bool} {f w : Nat} {n : Nat} (h : (lvs W A f n).2 w = true) : (lvs W A f (n + 1)).2 w = true := by
  show ((lvs W A f n).2 w || _) = true
  rw [h]; rfl
def CI (W : Nat) (A : Nat → Bool) (f n : Nat) (L : zm_Mem) : Prop := (∀ way, way < 5 ^ W → pb L 113 (atF way W) = (lvs W A f n).1 way ∧ pb L 115 (atF way W) = (lvs W A f n).2 way) ∧ ∀ p, p < 64 * 5 ^ (W - 2) → pb L 113 p = true → ∃ way, way < 5 ^ W ∧ p = atF way W
def AI (W : Nat) (A : Nat → Bool) (M : zm_Mem) (a : Nat) : Prop := (∀ way, way < 5 ^ W → pb M a (atF way W) = A way) ∧ ∀ p, p < 40000 → pb M a p = true → ∃ way, way < 5 ^ W ∧ p = atF way W
theorem ai_fg {W : Nat} {A : Nat → Bool} {M L : zm_Mem} {a : Nat} (ha : a = 104 ∨ a = 105) (h : Fg wT M L) (hA : AI W A M a) : AI W A L a := by
  have e : ∀ p, pb L a p = pb M a p := fun p => by
    unfold pb
    rw [h.2.2 a _ (by rcases ha with rfl | rfl <;> rfl)]
  exact ⟨fun way hw => by rw [e]; exact hA.1 way hw, fun p hp h => hA.2 p hp (by rw [← e]; exact h)⟩
theorem c_tripW {M : zm_Mem} {W a f n : Nat} {A : Nat → Bool} (hW : W ≤ 6) (hW1 : 0 < W) (ha : a = 104 ∨ a = 105) (hA : AI W A M a) (hC : CI W A f n M) : ∃ r L, f_X9_goOneTrip a (nI (5 ^ (W - 2))) M = some (r, L) ∧ Fg wT M L ∧ CI W A f (n + 1) L ∧ ((r = 1 ∧ anyB (lvs W A f (n + 1)).1 (5 ^ W) = true) ∨ (r = 0 ∧ anyB (lvs W A f (n + 1)).1 (5 ^ W) = false)) := by
  obtain ⟨r, L, g1, g2, g3, g4⟩ := c_goTrip (M := M) (a := a) (J := W - 2) ha (by omega)
  have hG : 5 ^ (W - 2) ≤ 625 := Nat.pow_le_pow_right (n := 5) (by omega) (show W - 2 ≤ 4 by omega)
  have hn : ∀ way, way < 5 ^ W → nxt a (W - 2) M (atF way W / 64) (atF way W % 64) = (lvs W A f (n + 1)).1 way := by
    intro way hw
    show _ = (A way && !(lvs W A f n).2 way && nbr W (lvs W A f n).1 way)
    unfold nxt
    have e1 : lb (M.2.1 a (atF way W / 64)) (atF way W % 64) = A way := hA.1 way hw
    have e2 : lb (M.2.1 115 (atF way W / 64)) (atF way W % 64) = (lvs W A f n).2 way := (hC.1 way hw).2
    rw [e1, e2]
    cases hv : (lvs W A f n).2 way with
    | true => rw [show (!true) = false from rfl, Bool.and_false, Bool.and_false, Bool.false_and]
    | false =>
      rw [nb_way hW hW1 (fun w h => (hC.1 w h).1) hC.2 hw (by
        cases hx : (lvs W A f n).1 way with
        | false => rfl
        | true => rw [lvs_sub n hx] at hv; cases hv)]
      cases A way <;> cases nbr W (lvs W A f n).1 way <;> rfl
  have hi : ∀ way, atF way W / 64 < 5 ^ (W - 2) := fun way => (at_pd (way := way) hW).2
  have hi2 : ∀ way, atF way W % 64 < 64 := fun way => Nat.mod_lt _ (by omega)
  have him : ∀ i b, i < 5 ^ (W - 2) → b < 64 → nxt a (W - 2) M i b = true → ∃ way, way < 5 ^ W ∧ 64 * i + b = atF way W := by
    intro i b hi hb h
    unfold nxt at h
    rw [Bool.and_eq_true, Bool.and_eq_true] at h
    refine hA.2 (64 * i + b) (by omega) ?_
    unfold pb
    rw [show (64 * i + b) / 64 = i by omega, show (64 * i + b) % 64 = b by omega]
    exact h.1.2
  refine ⟨r, L, g1, g2, ⟨fun way hw => ⟨?_, ?_⟩, fun p hp h => ?_⟩, ?_⟩
  · rw [← hn way hw]; exact (g3 _ (hi way) _ (hi2 way)).1
  · show _ = ((lvs W A f n).2 way || (lvs W A f (n + 1)).1 way)
    rw [← hn way hw, ← (hC.1 way hw).2]; exact (g3 _ (hi way) _ (hi2 way)).2
  · have hpi : p / 64 < 5 ^ (W - 2) := by omega
    have e := (g3 (p / 64) hpi (p % 64) (by omega)).1
    have e' : pb L 113 p = nxt a (W - 2) M (p / 64) (p % 64) := e
    rw [h] at e'
    obtain ⟨way, hw, hq⟩ := him _ _ hpi (by omega) e'.symm
    exact ⟨way, hw, by rw [← hq]; omega⟩
  · rcases g4 with ⟨r1, i, b, hi', hb, h⟩ | ⟨r0, h⟩
    · obtain ⟨way, hw, hq⟩ := him i b hi' hb h
      refine Or.inl ⟨r1, anyB_iff.2 ⟨way, hw, ?_⟩⟩
      rw [← hn way hw, ← hq, show (64 * i + b) / 64 = i by omega, show (64 * i + b) % 64 = b by omega]
      exact h
    · refine Or.inr ⟨r0, anyB_0 (fun way hw => ?_)⟩
      rw [← hn way hw]
      exact h _ _ (hi way) (hi2 way)
