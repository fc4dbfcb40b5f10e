/-! the levels end -/
def cvF (W : Nat) (A : Nat → Bool) (f n : Nat) : Nat := sumOf (fun w => if (lvs W A f n).2 w = true then 1 else 0) (5 ^ W)
theorem sum_lt {f g : Nat → Nat} : ∀ {N : Nat}, (∀ j, j < N → f j ≤ g j) → (∃ j, j < N ∧ f j + 1 ≤ g j) → sumOf f N + 1 ≤ sumOf g N
  | 0, _, ⟨j, hj, _⟩ => by omega
  | N + 1, h, ⟨j, hj, e⟩ => by
    show sumOf f N + f N + 1 ≤ sumOf g N + g N
    have hN := h N (by omega)
    by_cases hjN : j = N
    · subst hjN
      have := sum_le2 (f := f) (g := g) (i := j) (fun i hi => h i (by omega))
      omega
    · have := sum_lt (f := f) (g := g) (N := N) (fun i hi => h i (by omega)) ⟨j, by omega, e⟩
      omega
theorem cv_up {W : Nat} {A : Nat → Bool} {f n : Nat} (h : anyB (lvs W A f (n + 1)).1 (5 ^ W) = true) : cvF W A f n + 1 ≤ cvF W A f (n + 1) := by
  refine sum_lt (fun w _ => ?_) ?_
  · cases hv : (lvs W A f n).2 w with
    | false => rw [if_neg (by decide)]; omega
    | true => rw [if_pos rfl, if_pos (lvs_le hv)]; omega
  · obtain ⟨w, hw, h⟩ := anyB_iff.1 h
    have h' : (A w && !(lvs W A f n).2 w && nbr W (lvs W A f n).1 w) = true := h
    rw [Bool.and_eq_true, Bool.and_eq_true, Bool.not_eq_true'] at h'
    refine ⟨w, hw, ?_⟩
    rw [h'.1.2, if_neg (by decide), if_pos (lvs_sub (n + 1) h)]; omega
theorem lv_first {W : Nat} {A : Nat → Bool} {f : Nat} : ∀ N, (∃ n, 1 ≤ n ∧ n ≤ N ∧ anyB (lvs W A f n).1 (5 ^ W) = false ∧ ∀ m, 1 ≤ m → m < n → anyB (lvs W A f m).1 (5 ^ W) = true) ∨ ((∀ m, 1 ≤ m → m ≤ N → anyB (lvs W A f m).1 (5 ^ W) = true) ∧ N ≤ cvF W A f N)
  | 0 => Or.inr ⟨fun m h1 h2 => by omega, by omega⟩
  | N + 1 => by
    rcases lv_first (W := W) (A := A) (f := f) N with ⟨n, h1, h2, h3, h4⟩ | ⟨h, hc⟩
    · exact Or.inl ⟨n, h1, by omega, h3, h4⟩
    · cases e : anyB (lvs W A f (N + 1)).1 (5 ^ W) with
      | false => exact Or.inl ⟨N + 1, by omega, by omega, e, fun m k1 k2 => h m k1 (by omega)⟩
      | true =>
        refine Or.inr ⟨fun m k1 k2 => ?_, by have := cv_up e; omega⟩
        by_cases hm : m = N + 1
        · subst hm; exact e
        · exact h m k1 (by omega)
theorem lv_end {W : Nat} (A : Nat → Bool) (f : Nat) (hW : W ≤ 6) : ∃ n, 1 ≤ n ∧ n ≤ 15626 ∧ anyB (lvs W A f n).1 (5 ^ W) = false ∧ ∀ m, 1 ≤ m → m < n → anyB (lvs W A f m).1 (5 ^ W) = true := by
  have p5 := p5_le hW
  rcases lv_first (W := W) (A := A) (f := f) 15626 with h | ⟨_, h⟩
  · exact h
  · exfalso
    have : cvF W A f 15626 ≤ 1 * 5 ^ W := sumOf_le (fun j _ => by split <;> omega)
    omega
theorem lv_dis {W : Nat} {A : Nat → Bool} {f w : Nat} {m n : Nat} (h : m < n) (hm : (lvs W A f m).1 w = true) : (lvs W A f n).1 w = false := by
  have hv : ∀ k, (lvs W A f (m + k)).2 w = true := by
    intro k
    induction k with
    | zero => exact lvs_sub m hm
    | succ k ih => exact lvs_le ih
  obtain ⟨k, rfl⟩ : ∃ k, n = m + k + 1 := ⟨n - m - 1, by omega⟩
  show (A w && !(lvs W A f (m + k)).2 w && nbr W (lvs W A f (m + k)).1 w) = false
  rw [hv k, show (!true) = false from rfl, Bool.and_false, Bool.false_and]
/-- what both answer, f and g apart and g allowed -/
def ResT (W : Nat) (A : Nat → Bool) (f g N : Nat) (r : Int32) : Prop := (∃ n, 1 ≤ n ∧ n < N ∧ r = nI n ∧ (lvs W A f n).1 g = true) ∨ (r = -2 ∧ ∀ m, m ≤ N → (lvs W A f m).1 g = false)
theorem c_longs {W : Nat} (hW : W ≤ 6) : zm_lp (fun s => f_X9_fewestTrips_l125 (nI W) s.1 s.2) (1, 2) = some (nI (5 ^ (W - 2))) := by
  refine lp_for (step := fun s => f_X9_fewestTrips_l125 (nI W) s.1 s.2) (fun i => (nI (5 ^ i), nI (2 + i))) (W - 2) (fun i hi => ?_) ?_
  · show f_X9_fewestTrips_l125 (nI W) (nI (5 ^ i)) (nI (2 + i)) = some (.inl (nI (5 ^ i * 5), nI (2 + i + 1)))
    unfold f_X9_fewestTrips_l125
    rw [if_neg (nI_ge (by omega) (by omega)), if_neg (show ¬ (6 : Int32) ≤ nI (2 + i) from nI_ge (b := 6) (by omega) (by omega))]
    simp only [zv_eq]
    rw [nI_k1, show nI (5 ^ i) * (5 : Int32) = nI (5 ^ i * 5) from pk_mul _ 5]
  · show f_X9_fewestTrips_l125 (nI W) (nI (5 ^ (W - 2))) (nI (2 + (W - 2))) = _
    unfold f_X9_fewestTrips_l125
    rw [if_pos (nI_le (by omega) (by omega))]
theorem c_few {M : zm_Mem} {W a f g N : Nat} {A : Nat → Bool} (hW : W ≤ 6) (ha : a = 104 ∨ a = 105) (hA : AI W A M a) (hf : f < 5 ^ W) (hg : g < 5 ^ W) (hN1 : 1 ≤ N) (hN2 : N ≤ 15626) (hN3 : anyB (lvs W A f N).1 (5 ^ W) = false) (hN4 : ∀ m, 1 ≤ m → m < N → anyB (lvs W A f m).1 (5 ^ W) = true) : ∃ r L, f_X9_fewestTrips a (nI (atF f W)) (nI (atF g W)) (nI W) M = some (r, L) ∧ Fg wT M L ∧ ((f = g ∧ r = 0) ∨ (f ≠ g ∧ A g = false ∧ r = -2) ∨ (f ≠ g ∧ A g = true ∧ ResT W A f g N r)) := by
  have haf := atF_lt (p := f) hW
  have hag := atF_lt (p := g) hW
  have hsh : (zm_sh a).2 = 625 := by rcases ha with rfl | rfl <;> rfl
  by_cases hfg : f = g
  · subst hfg
    refine ⟨0, M, ?_, fg_rfl _ M, Or.inl ⟨rfl, rfl⟩⟩
    unfold f_X9_fewestTrips
    rw [if_pos rfl]
  have hW1 : 0 < W := by
    refine Nat.pos_of_ne_zero (fun z => hfg ?_)
    subst z
    rw [Nat.pow_zero] at hf hg; omega
  have hne : atF f W ≠ atF g W := fun z => hfg (at_inj hW hf hg z)
  have esh : ∀ q, q < 40000 → nI q >>> ((6 : Int32) &&& 31) = nI (q / 64) := fun q hq => pk_shrN (by omega) _ 6 (by decide)
  have e63 : ∀ q, nI q &&& 63 = nI (q % 64) := fun q => by
    rw [show (63 : Int32) = nI 63 from rfl, zi_and]; exact congrArg nI (Nat.and_two_pow_sub_one_eq_mod q 6)
  have start : f_X9_fewestTrips a (nI (atF f W)) (nI (atF g W)) (nI W) M = f_X9_fewestTrips_b50 a (nI (atF f W)) (nI (atF g W)) (nI W) M (nI (atF f W / 64)) (nI (atF g W / 64)) 1 := by
    unfold f_X9_fewestTrips
    rw [if_neg (fun z => hne ((nI_eq (by omega) (by omega)).1 z)), esh _ haf, esh _ hag]
    simp only [zv_eq]
    rw [if_neg (show ¬ nI (atF f W / 64) < (0 : Int32) from nI_pos (by omega)), if_neg (show ¬ (625 : Int32) ≤ nI (atF f W / 64) from nI_ge (b := 625) (by omega) (by omega)), if_neg (show ¬ nI (atF g W / 64) < (0 : Int32) from nI_pos (by omega)), if_neg (show ¬ (625 : Int32) ≤ nI (atF g W / 64) from nI_ge (b := 625) (by omega) (by omega))]
  have ea : lb (M.2.1 a (atF g W / 64)) (atF g W % 64) = A g := hA.1 g hg
  rw [start]
  unfold f_X9_fewestTrips_b50
  rw [if_neg (by decide), hsh, zm_ck_t (zm_in_nI (L := 625) (by omega) (by omega)), nI_clamp (by omega), e63, l_bit _ (show atF g W % 64 < 64 by omega), ea]
  cases hAg : A g with
  | false =>
    rw [if_neg (c := false = true) (by decide), if_pos (by decide)]
    exact ⟨-2, M, rfl, fg_rfl _ M, Or.inr (Or.inl ⟨hfg, rfl, rfl⟩)⟩
  | true =>
    rw [if_pos (c := true = true) rfl, if_neg (by decide), fillL_eq (N := 625) rfl (by omega), zb2_some, fillL_eq (N := 625) rfl (by omega), zb2_some, zm_ck_t (zm_in_nI (L := 625) (by omega) (by omega)), nI_clamp (by omega), e63]
    simp only [zv_eq]
    rw [zm_ck_t (zm_in_nI (L := 625) (by omega) (by omega)), zm_ck_t (zm_in_nI (L := 625) (by omega) (by omega)), c_longs hW]
    simp only [Option.bind_some]
    generalize hbb : (1 : Int64) <<< ((nI (atF f W % 64)).toInt64 &&& 63) = bb
    have ebit : ∀ k, k < 64 → lb bb k = decide (k = atF f W % 64) := fun k hk => by rw [← hbb]; exact lb_shl _ (by omega) k hk
    rw [mL2 _ _ _ _ 113, if_pos ⟨rfl, rfl⟩]
    generalize hL0 : zm_sL (zm_sL (zeL (zeL M 113 625) 115 625) 113 (atF f W / 64) bb) 115 (atF f W / 64) bb = L0
    have f0 : Fg wT M L0 := by
      have z1 : Fg wT M (zeL M 113 625) := ⟨rfl, fun _ _ _ => rfl, fun x j h => by
        show (if x = 113 ∧ j < 625 then 0 else M.2.1 x j) = _
        rw [if_neg]; rintro ⟨rfl, _⟩; cases h⟩
      have z2 : Fg wT (zeL M 113 625) (zeL (zeL M 113 625) 115 625) := ⟨rfl, fun _ _ _ => rfl, fun x j h => by
        show (if x = 115 ∧ j < 625 then 0 else (zeL M 113 625).2.1 x j) = _
        rw [if_neg]; rintro ⟨rfl, _⟩; cases h⟩
      rw [← hL0]
      exact fg_tr z1 (fg_tr z2 (fg_tr (fg_sL rfl) (fg_sL rfl)))
    have b113 : ∀ i, i < 625 → L0.2.1 113 i = if i = atF f W / 64 then bb else 0 := by
      intro i hi
      rw [← hL0, mL2, if_neg (by omega), mL2]
      by_cases h : i = atF f W / 64
      · rw [if_pos ⟨rfl, h⟩, if_pos h]
      · rw [if_neg (fun z => h z.2), if_neg h]
        show (if 113 = 115 ∧ i < 625 then (0 : Int64) else if 113 = 113 ∧ i < 625 then 0 else M.2.1 113 i) = 0
        rw [if_neg (by omega), if_pos ⟨rfl, hi⟩]
    have b115 : ∀ i, i < 625 → L0.2.1 115 i = if i = atF f W / 64 then bb else 0 := by
      intro i hi
      rw [← hL0, mL2]
      by_cases h : i = atF f W / 64
      · rw [if_pos ⟨rfl, h⟩, if_pos h]
      · rw [if_neg (fun z => h z.2), if_neg h, mL2, if_neg (by omega)]
        show (if 115 = 115 ∧ i < 625 then (0 : Int64) else if 115 = 113 ∧ i < 625 then 0 else M.2.1 115 i) = 0
        rw [if_pos ⟨rfl, hi⟩]
    have hbit : ∀ p, p < 40000 → lb (if p / 64 = atF f W / 64 then bb else 0) (p % 64) = decide (p = atF f W) := by
      intro p hp
      by_cases h : p / 64 = atF f W / 64
      · rw [if_pos h, ebit _ (by omega), decide_eq_decide]; omega
      · rw [if_neg h, lb_0, decide_eq_false (fun z => h (by rw [z]))]
    have p113 : ∀ p, p < 40000 → pb L0 113 p = decide (p = atF f W) := fun p hp => by
      unfold pb; rw [b113 _ (by omega)]; exact hbit p hp
    have p115 : ∀ p, p < 40000 → pb L0 115 p = decide (p = atF f W) := fun p hp => by
      unfold pb; rw [b115 _ (by omega)]; exact hbit p hp
    have hG : 5 ^ (W - 2) ≤ 625 := Nat.pow_le_pow_right (n := 5) (by omega) (show W - 2 ≤ 4 by omega)
    have c0 : CI W A f 0 L0 := by
      refine ⟨fun way hw => ?_, fun p hp h => ⟨f, hf, ?_⟩⟩
      · have : decide (atF way W = atF f W) = decide (way = f) := by
          rw [decide_eq_decide]
          exact ⟨fun z => at_inj hW hw hf z, fun z => by rw [z]⟩
        rw [p113 _ (atF_lt hW), p115 _ (atF_lt hW), this]
        exact ⟨rfl, rfl⟩
      · rw [p113 p (by omega), decide_eq_true_eq] at h; exact h
    have key : ∃ e, zm_lp (fun s => f_X9_fewestTrips_l154 a (nI (atF g W)) (nI (atF g W / 64)) (nI (5 ^ (W - 2))) s.1 s.2) (nI (0 + 1), L0) = some e ∧ ∃ r L, (Sum.elim (fun e171 => some ((-2 : Int32), e171)) (Sum.elim (fun e193 : Int32 × zm_Mem => some (e193.1, e193.2)) (fun e202 => some ((-2), e202)))) e = some (r, L) ∧ Fg wT L0 L ∧ ResT W A f g N r := by
      refine lp_inv (step := fun s => f_X9_fewestTrips_l154 a (nI (atF g W)) (nI (atF g W / 64)) (nI (5 ^ (W - 2))) s.1 s.2) (fun i z => z.1 = nI (i + 1) ∧ Fg wT L0 z.2 ∧ CI W A f i z.2 ∧ ∀ m, m ≤ i → (lvs W A f m).1 g = false) _ (N - 1) ?_ ?_ ⟨rfl, fg_rfl _ L0, c0, fun m hm => by
        rw [show m = 0 by omega]
        exact decide_eq_false (fun z => hfg z.symm)⟩
      · rintro i ⟨z, L⟩ hi ⟨p1, p2, p3, p4⟩
        simp only at p1 p2 p3 p4
        subst p1
        obtain ⟨r, L', g1, g2, g3, g4⟩ := c_tripW hW hW1 ha (ai_fg ha (fg_tr f0 p2) hA) p3
        rcases g4 with ⟨hr, _⟩ | ⟨_, h⟩
        · have s1 : f_X9_fewestTrips_l154 a (nI (atF g W)) (nI (atF g W / 64)) (nI (5 ^ (W - 2))) (nI (i + 1)) L = if (lvs W A f (i + 1)).1 g = true then some (.inr (.inr (.inl (nI (i + 1), L')))) else some (.inl (nI (i + 1 + 1), L')) := by
            unfold f_X9_fewestTrips_l154
            have eg : lb (L'.2.1 113 (atF g W / 64)) (atF g W % 64) = (lvs W A f (i + 1)).1 g := (g3.1 g hg).1
            rw [if_neg (show ¬ (40000 : Int32) < nI (i + 1) from nI_nlt (a := 40000) (by omega) (by omega)), g1, zb2_some, hr, if_neg (by decide), zm_ck_t (zm_in_nI (L := 625) (by omega) (by omega)), nI_clamp (by omega), e63, l_bit _ (show atF g W % 64 < 64 by omega), eg]
            simp only [zv_eq]
            rw [nI_k1]
            cases (lvs W A f (i + 1)).1 g with
            | true => rw [if_pos (c := true = true) rfl, if_pos (by decide), if_pos rfl]
            | false => rw [if_neg (c := false = true) (by decide), if_neg (by decide), if_neg (by decide)]
          cases hl : (lvs W A f (i + 1)).1 g with
          | true =>
            rw [hl, if_pos rfl] at s1
            exact Or.inr ⟨_, s1, nI (i + 1), L', rfl, fg_tr p2 g2, Or.inl ⟨i + 1, by omega, by omega, rfl, hl⟩⟩
          | false =>
            rw [hl, if_neg (by decide)] at s1
            refine Or.inl ⟨_, s1, rfl, fg_tr p2 g2, g3, fun m hm => ?_⟩
            by_cases he : m = i + 1
            · subst he; exact hl
            · exact p4 m (by omega)
        · rw [hN4 (i + 1) (by omega) (by omega)] at h; cases h
      · rintro ⟨z, L⟩ ⟨p1, p2, p3, p4⟩
        simp only at p1 p2 p3 p4
        subst p1
        obtain ⟨r, L', g1, g2, g3, g4⟩ := c_tripW hW hW1 ha (ai_fg ha (fg_tr f0 p2) hA) p3
        rw [show N - 1 + 1 = N by omega] at g3 g4
        rcases g4 with ⟨_, h⟩ | ⟨hr, _⟩
        · rw [hN3] at h; cases h
        · refine ⟨.inl L', ?_, -2, L', rfl, fg_tr p2 g2, Or.inr ⟨rfl, fun m hm => ?_⟩⟩
          · show f_X9_fewestTrips_l154 a (nI (atF g W)) (nI (atF g W / 64)) (nI (5 ^ (W - 2))) (nI (N - 1 + 1)) L = _
            unfold f_X9_fewestTrips_l154
            rw [if_neg (show ¬ (40000 : Int32) < nI (N - 1 + 1) from nI_nlt (a := 40000) (by omega) (by omega)), g1, zb2_some, hr, if_pos rfl]
          · by_cases he : m = N
            · subst he
              cases hx : (lvs W A f m).1 g with
              | false => rfl
              | true => rw [anyB_iff.2 ⟨g, hg, hx⟩] at hN3; cases hN3
            · exact p4 m (by omega)
    obtain ⟨e, k1, r, L, k2, k3, k4⟩ := key
    refine ⟨r, L, ?_, fg_tr f0 k3, Or.inr (Or.inr ⟨hfg, trivial, k4⟩)⟩
    unfold f_X9_fewestTrips_b151
    have k1' : zm_lp (fun s => f_X9_fewestTrips_l154 a (nI (atF g W)) (nI (atF g W / 64)) (nI (5 ^ (W - 2))) s.1 s.2) (1, L0) = some e := k1
    rw [k1']
    exact k2
