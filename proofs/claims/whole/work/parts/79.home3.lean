theorem p5s : ∀ j, j < 4 → Str (5 ^ j) := by
  intro j hj
  unfold Str
  rcases (show j = 0 ∨ j = 1 ∨ j = 2 ∨ j = 3 by omega) with rfl | rfl | rfl | rfl
  · exact Or.inl rfl
  · exact Or.inr (Or.inl rfl)
  · exact Or.inr (Or.inr (Or.inl rfl))
  · exact Or.inr (Or.inr (Or.inr rfl))
theorem c_l55 {M : zm_Mem} {J : Nat} (hJ : J ≤ 4) : ∃ L, zm_lp (fun s => f_X9_goOneTrip_l55 (nI (5 ^ J)) s.1 s.2) (1, M) = some L ∧ (Fg w4 M L ∧ ∀ i, i < 5 ^ J → ∀ b, b < 64 → lb (L.2.1 114 i) b = (lb (M.2.1 114 i) b || anyB (fun j => sg (5 ^ j) M i b) J)) := by
  have hG : 5 ^ J ≤ 625 := Nat.pow_le_pow_right (n := 5) (by omega) hJ
  refine lp_inv (step := fun s => f_X9_goOneTrip_l55 (nI (5 ^ J)) s.1 s.2) (fun j z => z.1 = nI (5 ^ j) ∧ Fg w4 M z.2 ∧ ∀ i, i < 5 ^ J → ∀ b, b < 64 → lb (z.2.2.1 114 i) b = (lb (M.2.1 114 i) b || anyB (fun j => sg (5 ^ j) M i b) j)) _ J ?_ ?_ ⟨rfl, fg_rfl _ M, fun i _ b _ => by rw [show anyB (fun j => sg (5 ^ j) M i b) 0 = false from rfl, Bool.or_false]⟩
  · rintro j ⟨z, L⟩ hj ⟨p1, p2, p3⟩
    simp only at p1 p2 p3
    subst p1
    have eG : 5 * 5 ^ j * 5 ^ (J - 1 - j) = 5 ^ J := by
      rw [show 5 * 5 ^ j = 5 ^ (j + 1) by rw [Nat.pow_succ, Nat.mul_comm], ← Nat.pow_add]
      congr 1; omega
    obtain ⟨L', g1, g2, g3⟩ := c_other (M := L) (K := 5 ^ (J - 1 - j)) (p5s j (by omega)) (by rw [eG]; exact hG)
    rw [eG] at g1 g3
    have hlt : 5 ^ j < 5 ^ J := Nat.pow_lt_pow_right (by omega) hj
    refine Or.inl ⟨(nI (5 ^ (j + 1)), L'), ?_, rfl, fg_tr p2 g2, fun i hi b hb => ?_⟩
    · show f_X9_goOneTrip_l55 (nI (5 ^ J)) (nI (5 ^ j)) L = _
      unfold f_X9_goOneTrip_l55
      rw [if_neg (nI_ge hlt (by omega)), g1, zb2_some]
      simp only [zv_eq]
      rw [show nI (5 ^ j) * (5 : Int32) = nI (5 ^ j * 5) from pk_mul _ 5]; rfl
    · rw [g3 i hi b hb, p3 i hi b hb, anyB_S, Bool.or_assoc]
      have : sg (5 ^ j) L i b = sg (5 ^ j) M i b := by
        unfold sg
        have hx : ∀ o, L.2.1 113 o = M.2.1 113 o := fun o => p2.2.2 113 o rfl
        simp only [hx]
      rw [this]
  · rintro ⟨z, L⟩ ⟨p1, p2, p3⟩
    simp only at p1 p2 p3
    subst p1
    refine ⟨L, ?_, p2, p3⟩
    show f_X9_goOneTrip_l55 (nI (5 ^ J)) (nI (5 ^ J)) L = _
    unfold f_X9_goOneTrip_l55
    rw [if_pos (nI_le (Nat.le_refl _) (by omega))]
def fsh (a : Nat) (M : zm_Mem) (i b : Nat) : Bool := lb (M.2.1 114 i) b && lb (M.2.1 a i) b && !lb (M.2.1 115 i) b
theorem c_l78 {M : zm_Mem} {a G : Nat} (ha : a = 104 ∨ a = 105) (hG : G ≤ 625) : ∃ e, zm_lp (fun s => f_X9_goOneTrip_l78 a (nI G) s.1 s.2.1 s.2.2) (0, 0, M) = some e ∧ (Fg wT M e.2 ∧ (∀ i, i < G → ∀ b, b < 64 → lb (e.2.2.1 113 i) b = fsh a M i b ∧ lb (e.2.2.1 115 i) b = (lb (M.2.1 115 i) b || fsh a M i b)) ∧ (∀ b, b < 64 → lb e.1 b = anyB (fun i => fsh a M i b) G)) := by
  have hsh : (zm_sh a).2 = 625 := by rcases ha with rfl | rfl <;> rfl
  refine lp_inv (step := fun s => f_X9_goOneTrip_l78 a (nI G) s.1 s.2.1 s.2.2) (fun i z => z.2.1 = nI i ∧ (Fg wT M z.2.2 ∧ (∀ k, i ≤ k → z.2.2.2.1 115 k = M.2.1 115 k) ∧ (∀ k, z.2.2.2.1 114 k = M.2.1 114 k) ∧ ∀ k, k < i → ∀ b, b < 64 → lb (z.2.2.2.1 113 k) b = fsh a M k b ∧ lb (z.2.2.2.1 115 k) b = (lb (M.2.1 115 k) b || fsh a M k b)) ∧ (∀ b, b < 64 → lb z.1 b = anyB (fun i => fsh a M i b) i)) _ G ?_ ?_ ⟨rfl, ⟨fg_rfl _ M, fun _ _ => rfl, fun _ => rfl, fun k h => by omega⟩, fun b _ => lb_0 b⟩
  · rintro i ⟨x, z, L⟩ hi ⟨p1, ⟨p2, p3, p4, p5⟩, p6⟩
    simp only at p1 p2 p3 p4 p5 p6
    subst p1
    have ha' : L.2.1 a i = M.2.1 a i := p2.2.2 a i (by rcases ha with rfl | rfl <;> rfl)
    generalize hy : (M.2.1 114 i &&& M.2.1 a i) &&& (M.2.1 115 i ^^^ (-1)) = y
    have yb : ∀ b, b < 64 → lb y b = fsh a M i b := fun b hb => by rw [← hy, lb_and, lb_and, lb_not _ b hb]; rfl
    have e115 : (zm_sL L 113 i y).2.1 115 i = M.2.1 115 i := by rw [mL2, if_neg (by omega)]; exact p3 i (Nat.le_refl _)
    refine Or.inl ⟨(x ||| y, nI (i + 1), zm_sL (zm_sL L 113 i y) 115 i (M.2.1 115 i ||| y)), ?_, rfl, ⟨fg_tr p2 (fg_tr (fg_sL rfl) (fg_sL rfl)), fun k hk => ?_, fun k => ?_, fun k hk b hb => ?_⟩, fun b hb => ?_⟩
    · show f_X9_goOneTrip_l78 a (nI G) x (nI i) L = _
      unfold f_X9_goOneTrip_l78
      rw [if_neg (nI_ge hi (by omega)), hsh, zm_ck_t (zm_in_nI (L := 625) (by omega) (by omega)), zm_ck_t (zm_in_nI (L := 625) (by omega) (by omega)), zm_ck_t (zm_in_nI (L := 625) (by omega) (by omega)), nI_clamp (by omega), p4, ha', p3 i (Nat.le_refl _), hy]
      simp only [zv_eq]
      rw [zm_ck_t (zm_in_nI (L := 625) (by omega) (by omega)), zm_ck_t (zm_in_nI (L := 625) (by omega) (by omega)), zm_ck_t (zm_in_nI (L := 625) (by omega) (by omega)), e115, nI_k1]
    · show (zm_sL (zm_sL L 113 i y) 115 i (M.2.1 115 i ||| y)).2.1 115 k = _
      rw [mL2, if_neg (by omega), mL2, if_neg (by omega)]; exact p3 k (by omega)
    · show (zm_sL (zm_sL L 113 i y) 115 i (M.2.1 115 i ||| y)).2.1 114 k = _
      rw [mL2, if_neg (by omega), mL2, if_neg (by omega)]; exact p4 k
    · show lb ((zm_sL (zm_sL L 113 i y) 115 i (M.2.1 115 i ||| y)).2.1 113 k) b = _ ∧ lb ((zm_sL (zm_sL L 113 i y) 115 i (M.2.1 115 i ||| y)).2.1 115 k) b = _
      rw [mL2, mL2, mL2, mL2, if_neg (by omega)]
      by_cases h : k = i
      · subst h
        rw [if_pos ⟨rfl, rfl⟩, if_pos ⟨rfl, rfl⟩, lb_or, yb b hb]
        exact ⟨rfl, rfl⟩
      · rw [if_neg (fun z => h z.2), if_neg (fun z => h z.2), if_neg (by omega)]
        exact p5 k (by omega) b hb
    · rw [lb_or, p6 b hb, yb b hb, anyB_S]
  · rintro ⟨x, z, L⟩ ⟨p1, ⟨p2, p3, p4, p5⟩, p6⟩
    simp only at p1 p2 p3 p4 p5 p6
    subst p1
    refine ⟨(x, L), ?_, p2, p5, p6⟩
    show f_X9_goOneTrip_l78 a (nI G) x (nI G) L = _
    unfold f_X9_goOneTrip_l78
    rw [if_pos (nI_le (Nat.le_refl _) (by omega))]
/-- what one trip reaches anew -/
def nxt (a J : Nat) (M : zm_Mem) (i b : Nat) : Bool := (n01 (lb (M.2.1 113 i)) b || anyB (fun j => sg (5 ^ j) M i b) J) && lb (M.2.1 a i) b && !lb (M.2.1 115 i) b
theorem c_goTrip {M : zm_Mem} {a J : Nat} (ha : a = 104 ∨ a = 105) (hJ : J ≤ 4) : ∃ r L, f_X9_goOneTrip a (nI (5 ^ J)) M = some (r, L) ∧ Fg wT M L ∧ (∀ i, i < 5 ^ J → ∀ b, b < 64 → lb (L.2.1 113 i) b = nxt a J M i b ∧ lb (L.2.1 115 i) b = (lb (M.2.1 115 i) b || nxt a J M i b)) ∧ ((r = 1 ∧ ∃ i b, i < 5 ^ J ∧ b < 64 ∧ nxt a J M i b = true) ∨ (r = 0 ∧ ∀ i b, i < 5 ^ J → b < 64 → nxt a J M i b = false)) := by
  have hG : 5 ^ J ≤ 625 := Nat.pow_le_pow_right (n := 5) (by omega) hJ
  obtain ⟨L1, g1, g2, g3⟩ := c_l2 (M := M) hG
  obtain ⟨L2, k1, k2, k3⟩ := c_l55 (M := L1) hJ
  obtain ⟨⟨x, L3⟩, q1, q2, q3, q4⟩ := c_l78 (M := L2) ha hG
  simp only at q2 q3 q4
  have f2 : Fg w4 M L2 := fg_tr g2 k2
  have e113 : ∀ i, L1.2.1 113 i = M.2.1 113 i := fun i => g2.2.2 113 i rfl
  have e115 : ∀ i, L2.2.1 115 i = M.2.1 115 i := fun i => f2.2.2 115 i rfl
  have ea : ∀ i, L2.2.1 a i = M.2.1 a i := fun i => f2.2.2 a i (by rcases ha with rfl | rfl <;> rfl)
  have ef : ∀ i, i < 5 ^ J → ∀ b, b < 64 → fsh a L2 i b = nxt a J M i b := by
    intro i hi b hb
    unfold fsh nxt
    rw [k3 i hi b hb, g3 i hi b hb, e115, ea]
    have : ∀ j, sg (5 ^ j) L1 i b = sg (5 ^ j) M i b := by
      intro j
      unfold sg
      simp only [e113]
    simp only [this]
  have start : f_X9_goOneTrip a (nI (5 ^ J)) M = f_X9_goOneTrip_x142_78 x L3 := by
    unfold f_X9_goOneTrip
    rw [g1]
    simp only [Option.bind_some]
    unfold f_X9_goOneTrip_x53_2
    rw [k1]
    simp only [Option.bind_some]
    unfold f_X9_goOneTrip_x73_55
    rw [q1]; rfl
  have hL : ∀ i, i < 5 ^ J → ∀ b, b < 64 → lb (L3.2.1 113 i) b = nxt a J M i b ∧ lb (L3.2.1 115 i) b = (lb (M.2.1 115 i) b || nxt a J M i b) := by
    intro i hi b hb
    rw [← ef i hi b hb, ← e115]
    exact q3 i hi b hb
  have hF : Fg wT M L3 := fg_tr (fg_mono (fun _ _ => w4_T) f2) q2
  unfold f_X9_goOneTrip_x142_78 at start
  by_cases hz : x = 0
  · rw [if_pos ((lg_cmp_eq _ _).2 hz)] at start
    refine ⟨0, L3, start, hF, hL, Or.inr ⟨rfl, fun i b hi hb => ?_⟩⟩
    have := q4 b hb
    rw [hz, lb_0] at this
    rw [← ef i hi b hb]
    cases hf : fsh a L2 i b with
    | false => rfl
    | true => rw [anyB_iff.2 ⟨i, hi, hf⟩] at this; cases this
  · rw [if_neg (fun z => hz ((lg_cmp_eq _ _).1 z))] at start
    refine ⟨1, L3, start, hF, hL, Or.inl ⟨rfl, ?_⟩⟩
    obtain ⟨b, hb, h⟩ := lb_ne0.1 hz
    rw [q4 b hb] at h
    obtain ⟨i, hi, h⟩ := anyB_iff.1 h
    exact ⟨i, b, hi, hb, by rw [← ef i hi b hb]; exact h⟩
