/-! one trip: the edge spreads over the longs -/
def w4 (x _j : Nat) : Bool := decide (x = 114)
def wT (x _j : Nat) : Bool := decide (x = 113) || (decide (x = 114) || decide (x = 115))
theorem w4_T {x j : Nat} (h : w4 x j = true) : wT x j = true := by
  unfold w4 at h; unfold wT
  rw [decide_eq_true_eq] at h
  subst h; rfl
def n01 (x : Nat → Bool) (b : Nat) : Bool := (decide (b % 8 < 5) && anyB (fun o => x (8 * (b / 8) + o)) 5) || (decide (b / 8 < 5) && anyB (fun o => x (8 * o + b % 8)) 5)
theorem c_l2 {M : zm_Mem} {G : Nat} (hG : G ≤ 625) : ∃ L, zm_lp (fun s => f_X9_goOneTrip_l2 (nI G) s.1 s.2) (0, M) = some L ∧ (Fg w4 M L ∧ ∀ i, i < G → ∀ b, b < 64 → lb (L.2.1 114 i) b = n01 (lb (M.2.1 113 i)) b) := by
  refine lp_inv (step := fun s => f_X9_goOneTrip_l2 (nI G) s.1 s.2) (fun i z => z.1 = nI i ∧ Fg w4 M z.2 ∧ ∀ i', i' < i → ∀ b, b < 64 → lb (z.2.2.1 114 i') b = n01 (lb (M.2.1 113 i')) b) _ G ?_ ?_ ⟨rfl, fg_rfl _ M, fun i' h => by omega⟩
  · rintro i ⟨z, L⟩ hi ⟨p1, p2, p3⟩
    simp only at p1 p2 p3
    subst p1
    have h113 : L.2.1 113 i = M.2.1 113 i := p2.2.2 113 i rfl
    have fin : ∀ x : Int64, (∀ b, b < 64 → lb x b = n01 (lb (M.2.1 113 i)) b) → f_X9_goOneTrip_b46_2 (nI i) L (nI i) x = some (.inl (nI (i + 1), zm_sL L 114 i x)) ∧ (Fg w4 M (zm_sL L 114 i x) ∧ ∀ i', i' < i + 1 → ∀ b, b < 64 → lb ((zm_sL L 114 i x).2.1 114 i') b = n01 (lb (M.2.1 113 i')) b) := by
      intro x hx
      refine ⟨?_, fg_tr p2 (fg_sL rfl), fun i' hi' b hb => ?_⟩
      · unfold f_X9_goOneTrip_b46_2
        rw [zm_ck_t (zm_in_nI (by omega) (by omega)), nI_clamp (by omega)]
        simp only [zv_eq]
        rw [nI_k1]
      · rw [mL2]
        by_cases h : i' = i
        · subst h; rw [if_pos ⟨rfl, rfl⟩]; exact hx b hb
        · rw [if_neg (fun z => h z.2)]; exact p3 i' (by omega) b hb
    have start : ∃ x : Int64, (∀ b, b < 64 → lb x b = n01 (lb (M.2.1 113 i)) b) ∧ f_X9_goOneTrip_l2 (nI G) (nI i) L = f_X9_goOneTrip_b46_2 (nI i) L (nI i) x := by
      unfold f_X9_goOneTrip_l2
      rw [if_neg (nI_ge hi (by omega)), zm_ck_t (zm_in_nI (L := 625) (by omega) (by omega)), nI_clamp (by omega), h113]
      by_cases hz : M.2.1 113 i = 0
      · refine ⟨0, fun b hb => ?_, by rw [if_pos ((lg_cmp_eq _ _).2 hz)]⟩
        rw [hz, lb_0]
        unfold n01
        rw [anyB_0 (fun j _ => lb_0 _), anyB_0 (fun j _ => lb_0 _), Bool.and_false, Bool.and_false]; rfl
      · obtain ⟨r1, g1, g2⟩ := c_first (M.2.1 113 i) L
        obtain ⟨r2, g3, g4⟩ := c_second (M.2.1 113 i) L
        refine ⟨r1 ||| r2, fun b hb => ?_, ?_⟩
        · rw [lb_or, g2 b hb, g4 b hb]; rfl
        · rw [if_neg (fun z => hz ((lg_cmp_eq _ _).1 z)), zm_ck_t (zm_in_nI (L := 625) (by omega) (by omega)), g1, zb1_some, zm_ck_t (zm_in_nI (L := 625) (by omega) (by omega)), g3, zb1_some]
    obtain ⟨x, hx, hs⟩ := start
    obtain ⟨f1, f2⟩ := fin x hx
    exact Or.inl ⟨_, by show f_X9_goOneTrip_l2 (nI G) (nI i) L = _; rw [hs, f1], rfl, f2⟩
  · rintro ⟨z, L⟩ ⟨p1, p2, p3⟩
    simp only at p1 p2 p3
    subst p1
    refine ⟨L, ?_, p2, p3⟩
    show f_X9_goOneTrip_l2 (nI G) (nI G) L = _
    unfold f_X9_goOneTrip_l2
    rw [if_pos (nI_le (Nat.le_refl _) (by omega))]
/-- the bits that the edge sends along one stride -/
def sg (s : Nat) (M : zm_Mem) (i b : Nat) : Bool := anyB (fun o => lb (M.2.1 113 (i - i / s % 5 * s + o * s)) b) 5
def cov (s k r i : Nat) : Bool := decide (i / (5 * s) < k ∨ (i / (5 * s) = k ∧ i % s < r))
def Str (s : Nat) : Prop := s = 1 ∨ s = 5 ∨ s = 25 ∨ s = 125
theorem cov_step {s k r i : Nat} (hs : Str s) (hr : r < s) : cov s k (r + 1) i = (cov s k r i || anyB (fun o => decide (i = 5 * s * k + r + o * s)) 5) := by
  rw [any5]
  unfold cov
  rw [Bool.eq_iff_iff]
  simp only [Bool.or_eq_true, decide_eq_true_eq]
  rcases hs with rfl | rfl | rfl | rfl <;> omega
theorem cov_next {s k i : Nat} (hs : Str s) : cov s k s i = cov s (k + 1) 0 i := by
  unfold cov
  rw [decide_eq_decide]
  rcases hs with rfl | rfl | rfl | rfl <;> omega
theorem cov_all {s K i : Nat} (hs : Str s) (h : i < 5 * s * K) : cov s K 0 i = true := by
  unfold cov
  rw [decide_eq_true_eq]
  rcases hs with rfl | rfl | rfl | rfl <;> omega
theorem base_eq {s k r o i : Nat} (hs : Str s) (hr : r < s) (ho : o < 5) (h : i = 5 * s * k + r + o * s) : i - i / s % 5 * s = 5 * s * k + r := by
  rcases hs with rfl | rfl | rfl | rfl <;> omega
theorem c_spread {L : zm_Mem} {s i0 : Nat} (hs : s ≤ 125) (hb : i0 + 4 * s < 625) : ∃ x, zm_lp (fun z => f_X9_moveOther_l28_14_2 (nI s) (nI i0) L z.1 z.2) (0, 0) = some x ∧ ∀ b, b < 64 → lb x b = anyB (fun o => lb (L.2.1 113 (i0 + o * s)) b) 5 := by
  refine lp_inv (step := fun z => f_X9_moveOther_l28_14_2 (nI s) (nI i0) L z.1 z.2) (fun o z => z.2 = nI o ∧ ∀ b, b < 64 → lb z.1 b = anyB (fun o => lb (L.2.1 113 (i0 + o * s)) b) o) _ 5 ?_ ?_ ⟨rfl, fun b _ => lb_0 b⟩
  · rintro o ⟨x, z⟩ ho ⟨p1, p2⟩
    simp only at p1 p2
    subst p1
    have hos : o * s ≤ 4 * s := Nat.mul_le_mul_right s (by omega)
    refine Or.inl ⟨(x ||| L.2.1 113 (i0 + o * s), nI (o + 1)), ?_, rfl, fun b hb => ?_⟩
    · show f_X9_moveOther_l28_14_2 (nI s) (nI i0) L x (nI o) = _
      unfold f_X9_moveOther_l28_14_2
      rw [if_neg (show ¬ (5 : Int32) ≤ nI o from nI_ge (b := 5) ho (by omega)), pk_mul, nI_add, zm_ck_t (zm_in_nI (by omega) (by omega)), nI_clamp (by omega)]
      simp only [zv_eq]
      rw [nI_k1]
    · rw [lb_or, p2 b hb, anyB_S]
  · rintro ⟨x, z⟩ ⟨p1, p2⟩
    simp only at p1 p2
    subst p1
    refine ⟨x, ?_, p2⟩
    show f_X9_moveOther_l28_14_2 (nI s) (nI i0) L x (nI 5) = _
    unfold f_X9_moveOther_l28_14_2
    rw [if_pos (by decide)]
theorem c_pour {L : zm_Mem} {s i0 : Nat} {x : Int64} (hs : s ≤ 125) (hb : i0 + 4 * s < 625) : ∃ L', zm_lp (fun z => f_X9_moveOther_l60_14_2 (nI s) (nI i0) x z.1 z.2) (0, L) = some L' ∧ (Fg w4 L L' ∧ ∀ i b, lb (L'.2.1 114 i) b = (lb (L.2.1 114 i) b || (anyB (fun o => decide (i = i0 + o * s)) 5 && lb x b))) := by
  refine lp_inv (step := fun z => f_X9_moveOther_l60_14_2 (nI s) (nI i0) x z.1 z.2) (fun o z => z.1 = nI o ∧ Fg w4 L z.2 ∧ ∀ i b, lb (z.2.2.1 114 i) b = (lb (L.2.1 114 i) b || (anyB (fun o => decide (i = i0 + o * s)) o && lb x b))) _ 5 ?_ ?_ ⟨rfl, fg_rfl _ L, fun i b => by rw [show anyB (fun o => decide (i = i0 + o * s)) 0 = false from rfl, Bool.false_and, Bool.or_false]⟩
  · rintro o ⟨z, N⟩ ho ⟨p1, p2, p3⟩
    simp only at p1 p2 p3
    subst p1
    have hos : o * s ≤ 4 * s := Nat.mul_le_mul_right s (by omega)
    by_cases hz : x = 0
    · refine Or.inr ⟨N, ?_, p2, fun i b => ?_⟩
      · show f_X9_moveOther_l60_14_2 (nI s) (nI i0) x (nI o) N = _
        unfold f_X9_moveOther_l60_14_2
        rw [if_neg (show ¬ (5 : Int32) ≤ nI o from nI_ge (b := 5) ho (by omega)), if_pos ((lg_cmp_eq _ _).2 hz)]
      · rw [p3 i b, hz, lb_0, Bool.and_false, Bool.and_false]
    · refine Or.inl ⟨(nI (o + 1), zm_sL N 114 (i0 + o * s) (N.2.1 114 (i0 + o * s) ||| x)), ?_, rfl, fg_tr p2 (fg_sL rfl), fun i b => ?_⟩
      · show f_X9_moveOther_l60_14_2 (nI s) (nI i0) x (nI o) N = _
        unfold f_X9_moveOther_l60_14_2
        rw [if_neg (show ¬ (5 : Int32) ≤ nI o from nI_ge (b := 5) ho (by omega)), if_neg (fun z => hz ((lg_cmp_eq _ _).1 z)), pk_mul, nI_add, zm_ck_t (zm_in_nI (by omega) (by omega)), zm_ck_t (zm_in_nI (by omega) (by omega)), nI_clamp (by omega)]
        simp only [zv_eq]
        rw [nI_k1]
      · show lb ((zm_sL N 114 (i0 + o * s) (N.2.1 114 (i0 + o * s) ||| x)).2.1 114 i) b = _
        rw [mL2, anyB_S]
        by_cases h : i = i0 + o * s
        · rw [if_pos ⟨rfl, h⟩, lb_or, ← h, p3 i b, decide_eq_true rfl, Bool.or_true, Bool.true_and, Bool.or_assoc]
          cases anyB (fun o => decide (i = i0 + o * s)) o <;> cases lb x b <;> rfl
        · rw [if_neg (fun z => h z.2), p3 i b, decide_eq_false h, Bool.or_false]
  · rintro ⟨z, N⟩ ⟨p1, p2, p3⟩
    simp only at p1 p2 p3
    subst p1
    refine ⟨N, ?_, p2, p3⟩
    show f_X9_moveOther_l60_14_2 (nI s) (nI i0) x (nI 5) N = _
    unfold f_X9_moveOther_l60_14_2
    rw [if_pos (by decide)]
def PO (s k r : Nat) (M L : zm_Mem) : Prop := Fg w4 M L ∧ ∀ i b, b < 64 → lb (L.2.1 114 i) b = (lb (M.2.1 114 i) b || (cov s k r i && sg s M i b))
theorem c_oth14 {M L0 : zm_Mem} {s k : Nat} (hs : Str s) (hK : 5 * s * k + 5 * s ≤ 625) (h0 : PO s k 0 M L0) : ∃ L, zm_lp (fun z => f_X9_moveOther_l14_2 (nI s) (nI (5 * s * k)) z.1 z.2) (nI (5 * s * k), L0) = some L ∧ PO s (k + 1) 0 M L := by
  have hsb : s ≤ 125 ∧ 0 < s := by rcases hs with rfl | rfl | rfl | rfl <;> omega
  refine lp_inv (step := fun z => f_X9_moveOther_l14_2 (nI s) (nI (5 * s * k)) z.1 z.2) (fun r z => z.1 = nI (5 * s * k + r) ∧ PO s k r M z.2) _ s ?_ ?_ ⟨rfl, h0⟩
  · rintro r ⟨z, L⟩ hr ⟨p1, p2⟩
    simp only at p1 p2
    subst p1
    have hb : 5 * s * k + r + 4 * s < 625 := by omega
    obtain ⟨x, g1, g2⟩ := c_spread (L := L) hsb.1 hb
    obtain ⟨L', g3, g4, g5⟩ := c_pour (L := L) (x := x) hsb.1 hb
    refine Or.inl ⟨(nI (5 * s * k + (r + 1)), L'), ?_, rfl, fg_tr p2.1 g4, fun i b hb' => ?_⟩
    · show f_X9_moveOther_l14_2 (nI s) (nI (5 * s * k)) (nI (5 * s * k + r)) L = _
      unfold f_X9_moveOther_l14_2
      rw [nI_add, if_neg (nI_ge (by omega) (by omega)), g1]
      simp only [Option.bind_some]
      unfold f_X9_moveOther_x57_28_14_2
      have g3' : zm_lp (fun z => f_X9_moveOther_l60_14_2 (nI s) (nI (5 * s * k + r)) x z.1 z.2) (0, L) = some L' := g3
      rw [g3']
      simp only [Option.bind_some]
      unfold f_X9_moveOther_b96_14_2
      simp only [zv_eq]
      rw [nI_k1]; rfl
    · rw [g5, p2.2 i b hb', cov_step hs hr, g2 b hb']
      have hx : ∀ o, L.2.1 113 o = M.2.1 113 o := fun o => p2.1.2.2 113 o rfl
      simp only [hx]
      cases hc : anyB (fun o => decide (i = 5 * s * k + r + o * s)) 5 with
      | false => rw [Bool.false_and, Bool.or_false, Bool.or_false]
      | true =>
        obtain ⟨o, ho, h⟩ := anyB_iff.1 hc
        rw [decide_eq_true_eq] at h
        have := base_eq hs hr ho h
        have e : sg s M i b = anyB (fun o => lb (M.2.1 113 (5 * s * k + r + o * s)) b) 5 := by unfold sg; rw [this]
        rw [← e, Bool.or_true, Bool.true_and, Bool.or_assoc]
        cases cov s k r i <;> cases sg s M i b <;> rfl
  · rintro ⟨z, L⟩ ⟨p1, p2⟩
    simp only at p1 p2
    subst p1
    refine ⟨L, ?_, p2.1, fun i b hb => ?_⟩
    · show f_X9_moveOther_l14_2 (nI s) (nI (5 * s * k)) (nI (5 * s * k + s)) L = _
      unfold f_X9_moveOther_l14_2
      rw [nI_add, if_pos (nI_le (Nat.le_refl _) (by omega))]
    · rw [← cov_next hs]; exact p2.2 i b hb
theorem c_other {M : zm_Mem} {s K : Nat} (hs : Str s) (hK : 5 * s * K ≤ 625) : ∃ L, f_X9_moveOther (nI s) (nI (5 * s * K)) M = some ((), L) ∧ Fg w4 M L ∧ ∀ i, i < 5 * s * K → ∀ b, b < 64 → lb (L.2.1 114 i) b = (lb (M.2.1 114 i) b || sg s M i b) := by
  have hsb : s ≤ 125 ∧ 0 < s := by rcases hs with rfl | rfl | rfl | rfl <;> omega
  have key : ∃ L, zm_lp (fun z => f_X9_moveOther_l2 (nI s) (nI (5 * s * K)) z.1 z.2) (nI (5 * s * 0), M) = some L ∧ PO s K 0 M L := by
    refine lp_inv (step := fun z => f_X9_moveOther_l2 (nI s) (nI (5 * s * K)) z.1 z.2) (fun k z => z.1 = nI (5 * s * k) ∧ PO s k 0 M z.2) _ K ?_ ?_ ⟨rfl, fg_rfl _ M, fun i b _ => by
      rw [show cov s 0 0 i = false by
        unfold cov
        rw [decide_eq_false_iff_not]
        rintro (h | h)
        · exact absurd h (Nat.not_lt_zero _)
        · exact absurd h.2 (Nat.not_lt_zero _), Bool.false_and, Bool.or_false]⟩
    · rintro k ⟨z, L⟩ hk ⟨p1, p2⟩
      simp only at p1 p2
      subst p1
      have hle : 5 * s * k + 5 * s ≤ 5 * s * K := by
        have := Nat.mul_le_mul_left (5 * s) (show k + 1 ≤ K from hk)
        rw [Nat.mul_succ] at this; exact this
      obtain ⟨L', g1, g2⟩ := c_oth14 hs (by omega) p2
      refine Or.inl ⟨(nI (5 * s * (k + 1)), L'), ?_, rfl, g2⟩
      show f_X9_moveOther_l2 (nI s) (nI (5 * s * K)) (nI (5 * s * k)) L = _
      unfold f_X9_moveOther_l2
      rw [show (5 : Int32) * nI s = nI (5 * s) from pk_mul 5 s, nI_add, if_neg (nI_nlt (by omega) (by omega)), g1]
      simp only [Option.bind_some]
      unfold f_X9_moveOther_x102_14_2
      rw [show (5 : Int32) * nI s = nI (5 * s) from pk_mul 5 s, nI_add]; rfl
    · rintro ⟨z, L⟩ ⟨p1, p2⟩
      simp only at p1 p2
      subst p1
      refine ⟨L, ?_, p2⟩
      show f_X9_moveOther_l2 (nI s) (nI (5 * s * K)) (nI (5 * s * K)) L = _
      unfold f_X9_moveOther_l2
      rw [show (5 : Int32) * nI s = nI (5 * s) from pk_mul 5 s, nI_add, if_pos (nI_lt (by omega) (by omega))]
  obtain ⟨L, k1, k2⟩ := key
  refine ⟨L, ?_, k2.1, fun i hi b hb => ?_⟩
  · unfold f_X9_moveOther
    have k1' : zm_lp (fun z => f_X9_moveOther_l2 (nI s) (nI (5 * s * K)) z.1 z.2) (0, M) = some L := k1
    rw [k1']; rfl
  · rw [k2.2 i b hb, cov_all hs hi, Bool.true_and]
