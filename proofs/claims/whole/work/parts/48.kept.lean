theorem bitsOf_and (p q : Nat → Bool) (n : Nat) : bitsOf p n &&& bitsOf q n = bitsOf (fun j => p j && q j) n := by
  refine Nat.eq_of_testBit_eq (fun j => ?_)
  rw [Nat.testBit_and, bitsOf_test, bitsOf_test, bitsOf_test]
  cases decide (j < n) <;> simp
theorem tb_eq (T j : Nat) : decide (T / 2 ^ j % 2 = 1) = T.testBit j := by
  rw [Nat.testBit_eq_decide_div_mod_eq]
def allB (p : Nat → Bool) : Nat → Bool
  | 0 => true
  | n + 1 => allB p n && p n
theorem allB_no {p : Nat → Bool} {i : Nat} (h : p i = false) : ∀ {n : Nat}, i < n → allB p n = false
  | n + 1, hi => by
    unfold allB
    rcases Nat.lt_or_ge i n with h1 | h1
    · rw [allB_no h h1]; rfl
    · rw [show n = i by omega, h, Bool.and_false]
theorem allB_congr {p q : Nat → Bool} : ∀ {n : Nat}, (∀ j, j < n → p j = q j) → allB p n = allB q n
  | 0, _ => rfl
  | n + 1, h => by unfold allB; rw [allB_congr (fun j hj => h j (by omega)), h n (by omega)]
def gd (o : Option Int32) : Int32 := o.getD 0
/-- a term holds, by the variables -/
def kp (D : zD) (vs : Nat → Int32) (j : Nat) : Bool := decide (gd (exv vs (D.2.1 j).1) < gd (exv vs (D.2.1 j).2))
def lk (D : zD) (vs : Nat → Int32) : Int32 := zm_max (nI 0) (zm_min (nI 99) (gd (lawv vs (D.2.2 1).1 (D.2.2 1).2)))
def tp (D : zD) (vs : Nat → Int32) : Int32 := zm_max (nI 1) (zm_min (nI 99) (gd (lawv vs (D.2.2 0).1 (D.2.2 0).2)))
theorem c_go {M : zm_Mem} {t a cl : Nat} {vs : Nat → Int32} {l : zE} (ht : t = 25 ∨ t = 36) (hl : iv_ex l) (hc : iv_sc M t a (l ++ [(7, 0)])) (hcl : cl ≤ 408) (hM : M.1 t 10 = nI cl) (hat : a + l.length < cl) (hv : ∀ i, i < 9 → M.1 49 i = vs i) : ∃ M', f_X5_goThrough t (nI a) M = some (gd (exv vs l), M') ∧ Fr wS M M' := by
  obtain ⟨M', h1, h2⟩ := gt_sum (s := 0) (vs := vs) ht hcl hl hc hM hat (by omega) hv
  exact ⟨M', h2, h1⟩
theorem r_side {c : Nat} {vs : Nat → Int32} {l : zE} {M : zm_Mem} (hl : iv_ex l) (hc : iv_sm M c l) (hto : c + l.length ≤ 840) (hv : ∀ i, i < 9 → M.1 89 i = vs i) : ∃ M', f_X11_sideOf (nI c) (nI (c + l.length)) M = some (gd (exv vs l), M') ∧ Fr wR M M' := r_sideOf hl hc hto hv
theorem c_kept {M : zm_Mem} {t v n dy : Nat} {D : zD} {S : Nat → Nat} {a : Nat → Bool} {g : Nat → Nat} {vs : Nat → Int32} (hC : Cx M t v D S n) (hS : Sn M t D a g dy) (hv : ∀ i, i < 9 → M.1 49 i = vs i) {j : Nat} (hj : j < D.1 0 2) : ∃ M', f_X3_keptAsEntered (nI j) M = some (if kp D vs j = true then nI 1 else nI 0, M') ∧ Fr wS M M' := by
  have ht := hC.2.1
  have hT := hC.2.2.1
  have hR := hC.2.2.2
  have bI := cx_isT hC
  have bv := tT_v hT
  have bh := tT_bh hT
  have bw := tT_bw hT
  have bk := tT_bk hT
  obtain ⟨ca, cb, cc, h1, h2, h3, h4, h5, x1, x2, s1, s2, m1, m2, ⟨cl, k1, k2, k3, k4⟩, k5⟩ := tT_term hT j hj
  obtain ⟨M1, e1, f1⟩ := c_go (vs := vs) hC.1 x1 s1 k1 k2 k3 hv
  have hWt : ∀ j, wS (t + 10) j = false := fun j => by rcases hC.1 with rfl | rfl <;> rfl
  have hWc : ∀ j, wS t j = false := fun j => by rcases hC.1 with rfl | rfl <;> rfl
  have hW9 : ∀ j, wS (t + 9) j = false := fun j => by rcases hC.1 with rfl | rfl <;> rfl
  obtain ⟨M2, e2, f2⟩ := c_go (M := M1) (vs := vs) hC.1 x2 (iv_sc_fr f1 hWt s2) k1 ((f1.2 _ _ (hWc _)).trans k2) k4 (fun i hi => (f1.2 49 i rfl).trans (hv i hi))
  refine ⟨M2, ?_, fr_tr f1 f2⟩
  have q1 : M1.2.2 47 2 = t := by rw [f1.1]; exact hS.1
  have q2 : M1.1 (t + 9) j = nI cb := (f1.2 _ _ (hW9 _)).trans h2
  unfold f_X3_keptAsEntered
  simp (disch := omega) only [↓zv_eq, ↓zb1_some, ↓zb2_some, ↓zk_true, Option.bind_some, Option.bind_none, Option.map_some, Sum.elim_inl, Sum.elim_inr, if_true, if_false, ↓reduceIte, lt_lit, nI_clamp, zi_in, nI_leI, nI_ltI, nI_eq, nI_add, pk_mul, zi_sub, pk_div, zi_rem, zi_sh1, zi_shr, zi_and1, zi_or, zi_en, zi_ne, zi_ln, zi_nl, zi_lne, zi_nle, zi_nn, zq_01, zq_10, zq_011, zq_at, zq_ta, ite_not, Classical.not_not, hS.1, bI, h1, e1, q1, q2, e2]
  unfold kp
  simp only [decide_eq_true_eq]
  by_cases h : gd (exv vs (D.2.1 j).1) < gd (exv vs (D.2.1 j).2)
  · rw [if_neg (Int32.not_le.2 h), if_pos h]
  · rw [if_pos (Int32.not_lt.1 h), if_neg h]
theorem r_kept {M : zm_Mem} {t v n : Nat} {D : zD} {S : Nat → Nat} {vs : Nat → Int32} (hC : Cx M t v D S n) (hv : ∀ i, i < 9 → M.1 89 i = vs i) {j : Nat} (hj : j < D.1 0 2) : ∃ M', f_X11_isKept (nI j) M = some (if kp D vs j = true then nI 1 else nI 0, M') ∧ Fr wR M M' := by
  have ht := hC.2.1
  have hT := hC.2.2.1
  have hR := hC.2.2.2
  have bI := cx_isT hC
  have bv := tT_v hT
  have bh := tT_bh hT
  have bw := tT_bw hT
  have bk := tT_bk hT
  obtain ⟨ca, cb, cc, h1, h2, h3, h4, h5, x1, x2, s1, s2, m1, m2, ⟨cl, k1, k2, k3, k4⟩, k5⟩ := tT_term hT j hj
  obtain ⟨M1, e1, f1⟩ := r_side (vs := vs) x1 m1 (by omega) hv
  have hW : ∀ j, wR 86 j = false ∧ wR 87 j = false := fun j => ⟨wR_no (by omega) (by omega), wR_no (by omega) (by omega)⟩
  obtain ⟨M2, e2, f2⟩ := r_side (vs := vs) x2 (iv_sm_fr f1 hW m2) k5.1 (fun i hi => (f1.2 89 i (wR_no (by omega) (by omega))).trans (hv i hi))
  refine ⟨M2, ?_, fr_tr f1 f2⟩
  have q1 : M1.1 74 (6 * v + j) = nI (cc + (D.2.1 j).1.length) := (f1.2 _ _ (wR_no (by omega) (by omega))).trans h4
  have q2 : M1.1 75 (6 * v + j) = nI (cc + (D.2.1 j).1.length + (D.2.1 j).2.length) := (f1.2 _ _ (wR_no (by omega) (by omega))).trans h5
  unfold f_X11_isKept
  simp (disch := omega) only [↓zv_eq, ↓zb1_some, ↓zb2_some, ↓zk_true, Option.bind_some, Option.bind_none, Option.map_some, Sum.elim_inl, Sum.elim_inr, if_true, if_false, ↓reduceIte, lt_lit, nI_clamp, zi_in, nI_leI, nI_ltI, nI_eq, nI_add, pk_mul, zi_sub, pk_div, zi_rem, zi_sh1, zi_shr, zi_and1, zi_or, zi_en, zi_ne, zi_ln, zi_nl, zi_lne, zi_nle, zi_nn, zq_01, zq_10, zq_011, zq_at, zq_ta, ite_not, Classical.not_not, tT_live hT, h3, h4, h5, e1, q1, q2, e2]
  unfold kp
  simp only [decide_eq_true_eq]
  by_cases h : gd (exv vs (D.2.1 j).1) < gd (exv vs (D.2.1 j).2)
  · rw [if_neg (Int32.not_le.2 h), if_pos h]
  · rw [if_pos (Int32.not_lt.1 h), if_neg h]
theorem lp_bitsM {st : Int32 → Int32 → zm_Mem → Option ((Int32 × Int32 × zm_Mem) ⊕ (Int32 × zm_Mem))} (W : Nat → Nat → Bool) (p : Nat → Bool) (N : Nat) (M : zm_Mem) (h : ∀ i b L, i < N → b < 2 ^ i → Fr W M L → ∃ L', st (nI b) (nI i) L = some (.inl (nI (b + (if p i = true then 2 ^ i else 0)), nI (i + 1), L')) ∧ Fr W L L') (he : ∀ b L, Fr W M L → st (nI b) (nI N) L = some (.inr (nI b, L))) : ∃ M', (zm_lp (fun s => st s.1 s.2.1 s.2.2) (0, 0, M)).bind (fun e => some (e.1, e.2)) = some (nI (bitsOf p N), M') ∧ Fr W M M' := by
  have H1 : ∀ i (s : Int32 × Int32 × zm_Mem), i < N → (s.1 = nI (bitsOf p i) ∧ s.2.1 = nI i ∧ Fr W M s.2.2) → (∃ s', st s.1 s.2.1 s.2.2 = some (.inl s') ∧ (s'.1 = nI (bitsOf p (i + 1)) ∧ s'.2.1 = nI (i + 1) ∧ Fr W M s'.2.2)) ∨ (∃ e, st s.1 s.2.1 s.2.2 = some (.inr e) ∧ (e.1 = nI (bitsOf p N) ∧ Fr W M e.2)) := by
    intro i s hi hP
    obtain ⟨b, i', L⟩ := s
    obtain ⟨p1, p2, p3⟩ := hP
    simp only at p1 p2 p3
    subst p1 p2
    obtain ⟨L', g1, g2⟩ := h i _ L hi (bitsOf_lt p i) p3
    exact Or.inl ⟨_, g1, rfl, rfl, fr_tr p3 g2⟩
  have H2 : ∀ (s : Int32 × Int32 × zm_Mem), (s.1 = nI (bitsOf p N) ∧ s.2.1 = nI N ∧ Fr W M s.2.2) → ∃ e, st s.1 s.2.1 s.2.2 = some (.inr e) ∧ (e.1 = nI (bitsOf p N) ∧ Fr W M e.2) := by
    intro s hP
    obtain ⟨b, i', L⟩ := s
    obtain ⟨p1, p2, p3⟩ := hP
    simp only at p1 p2 p3
    subst p1 p2
    exact ⟨_, he _ L p3, rfl, p3⟩
  obtain ⟨e, h1, h2, h3⟩ := lp_inv (step := fun s => st s.1 s.2.1 s.2.2) (fun i s => s.1 = nI (bitsOf p i) ∧ s.2.1 = nI i ∧ Fr W M s.2.2) (fun e => e.1 = nI (bitsOf p N) ∧ Fr W M e.2) N H1 H2 (s := (0, 0, M)) ⟨rfl, rfl, fr_rfl _ M⟩
  refine ⟨e.2, ?_, h3⟩
  rw [h1, ← h2]; rfl
theorem cx_S {M M' : zm_Mem} {t v n : Nat} {D : zD} {S : Nat → Nat} (hF : Fr wS M M') (hC : Cx M t v D S n) : Cx M' t v D S n := cx_C (frS_C hF) hC
theorem cx_R {M M' : zm_Mem} {t v n : Nat} {D : zD} {S : Nat → Nat} (hF : Fr wR M M') (hC : Cx M t v D S n) : Cx M' t v D S n := cx_Q (frR_Q hF) hC
/-- which terms of a set don't hold: the class -/
theorem c_broken {M : zm_Mem} {t v n dy : Nat} {D : zD} {S : Nat → Nat} {a : Nat → Bool} {g : Nat → Nat} {vs : Nat → Int32} (hC : Cx M t v D S n) (hS : Sn M t D a g dy) (hv : ∀ i, i < 9 → M.1 49 i = vs i) {T : Nat} (hT64 : T < 64) : ∃ M', f_X3_brokenAsEntered (nI T) M = some (nI (bitsOf (fun j => T.testBit j && !kp D vs j) (D.1 0 2)), M') ∧ Fr wS M M' := by
  have ht := hC.2.1
  have hT := hC.2.2.1
  have hR := hC.2.2.2
  have bI := cx_isT hC
  have bv := tT_v hT
  have bh := tT_bh hT
  have bw := tT_bw hT
  have bk := tT_bk hT
  refine lp_bitsM wS _ _ M (fun i b L hi hb hF => ?_) (fun b L hF => ?_)
  · have hCL := cx_S hF hC
    have hSL := sn_C (frS_C hF) hS
    have hTL := hCL.2.2.1
    have hle : ¬ D.1 0 2 ≤ i := by omega
    obtain ⟨M1, e1, f1⟩ := c_kept hCL hSL (fun i hi => (hF.2 49 i rfl).trans (hv i hi)) hi
    have et := tb_eq T i
    by_cases hb1 : T / 2 ^ i % 2 = 1
    · rw [decide_eq_true hb1] at et
      rw [← et]
      cases hk : kp D vs i with
      | true =>
        rw [hk] at e1
        refine ⟨M1, ?_, f1⟩
        simp (disch := omega) only [f_X3_brokenAsEntered_l4, f_X3_brokenAsEntered_b38_4, ↓zv_eq, ↓zb1_some, ↓zb2_some, ↓zk_true, Option.bind_some, Option.bind_none, Option.map_some, Sum.elim_inl, Sum.elim_inr, if_true, if_false, ↓reduceIte, lt_lit, nI_clamp, zi_in, nI_leI, nI_ltI, nI_eq, nI_add, pk_mul, zi_sub, pk_div, zi_rem, zi_sh1, zi_shr, zi_and1, zi_or, zi_en, zi_ne, zi_ln, zi_nl, zi_lne, zi_nle, zi_nn, zq_01, zq_10, zq_011, zq_at, zq_ta, ite_not, Classical.not_not, hSL.1, bI, tT_k hTL, hle, hb1, e1, Nat.reduceEqDiff, Bool.not_true, Bool.and_false, reduceCtorEq, Nat.add_zero]
      | false =>
        rw [hk] at e1
        refine ⟨M1, ?_, f1⟩
        simp (disch := omega) only [f_X3_brokenAsEntered_l4, f_X3_brokenAsEntered_b38_4, ↓zv_eq, ↓zb1_some, ↓zb2_some, ↓zk_true, Option.bind_some, Option.bind_none, Option.map_some, Sum.elim_inl, Sum.elim_inr, if_true, if_false, ↓reduceIte, lt_lit, nI_clamp, zi_in, nI_leI, nI_ltI, nI_eq, nI_add, pk_mul, zi_sub, pk_div, zi_rem, zi_sh1, zi_shr, zi_and1, zi_or, zi_en, zi_ne, zi_ln, zi_nl, zi_lne, zi_nle, zi_nn, zq_01, zq_10, zq_011, zq_at, zq_ta, ite_not, Classical.not_not, hSL.1, bI, tT_k hTL, hle, hb1, e1, Nat.reduceEqDiff, Bool.not_false, Bool.and_true, reduceCtorEq, or_pow hb]
    · rw [decide_eq_false hb1] at et
      rw [← et]
      refine ⟨L, ?_, fr_rfl _ L⟩
      simp (disch := omega) only [f_X3_brokenAsEntered_l4, f_X3_brokenAsEntered_b38_4, ↓zv_eq, ↓zb1_some, ↓zb2_some, ↓zk_true, Option.bind_some, Option.bind_none, Option.map_some, Sum.elim_inl, Sum.elim_inr, if_true, if_false, ↓reduceIte, lt_lit, nI_clamp, zi_in, nI_leI, nI_ltI, nI_eq, nI_add, pk_mul, zi_sub, pk_div, zi_rem, zi_sh1, zi_shr, zi_and1, zi_or, zi_en, zi_ne, zi_ln, zi_nl, zi_lne, zi_nle, zi_nn, zq_01, zq_10, zq_011, zq_at, zq_ta, ite_not, Classical.not_not, hSL.1, bI, tT_k hTL, hle, hb1, Bool.false_and, reduceCtorEq, Nat.add_zero]
  · have hCL := cx_S hF hC
    have hSL := sn_C (frS_C hF) hS
    have hTL := hCL.2.2.1
    simp (disch := omega) only [f_X3_brokenAsEntered_l4, ↓zv_eq, ↓zb1_some, ↓zb2_some, ↓zk_true, Option.bind_some, Option.bind_none, Option.map_some, Sum.elim_inl, Sum.elim_inr, if_true, if_false, ↓reduceIte, lt_lit, nI_clamp, zi_in, nI_leI, nI_ltI, nI_eq, nI_add, pk_mul, zi_sub, pk_div, zi_rem, zi_sh1, zi_shr, zi_and1, zi_or, zi_en, zi_ne, zi_ln, zi_nl, zi_lne, zi_nle, zi_nn, zq_01, zq_10, zq_011, zq_at, zq_ta, ite_not, Classical.not_not, hSL.1, bI, tT_k hTL, Nat.le_refl]
/-- which terms of a work don't hold: the reference, by the variables -/
theorem r_broken {M : zm_Mem} {t v n : Nat} {D : zD} {S : Nat → Nat} {vs : Nat → Int32} (hC : Cx M t v D S n) (hv : ∀ i, i < 9 → M.1 89 i = vs i) {w : Nat} (hw : w < 6) : ∃ M', (zm_lp (fun s => f_X11_brokenIn_l13 (nI w) s.1 s.2.1 s.2.2) (0, 0, M)).bind (fun e68 => some (e68.1, e68.2)) = some (nI (bitsOf (fun j => decide (D.1 7 j = w) && !kp D vs j) (D.1 0 2)), M') ∧ Fr wR M M' := by
  have ht := hC.2.1
  have hT := hC.2.2.1
  have hR := hC.2.2.2
  have bI := cx_isT hC
  have bv := tT_v hT
  have bh := tT_bh hT
  have bw := tT_bw hT
  have bk := tT_bk hT
  refine lp_bitsM wR _ _ M (fun i b L hi hb hF => ?_) (fun b L hF => ?_)
  · have hCL := cx_R hF hC
    have hTL := hCL.2.2.1
    have hle : ¬ D.1 0 2 ≤ i := by omega
    have hkb := tT_Kb hT i hi
    obtain ⟨M1, e1, f1⟩ := r_kept hCL (fun i hi => (hF.2 89 i (wR_no (by omega) (by omega))).trans (hv i hi)) hi
    by_cases hb1 : D.1 7 i = w
    · rw [decide_eq_true hb1]
      cases hk : kp D vs i with
      | true =>
        rw [hk] at e1
        refine ⟨M1, ?_, f1⟩
        simp (disch := omega) only [f_X11_brokenIn_l13, f_X11_brokenIn_b62_13, ↓zv_eq, ↓zb1_some, ↓zb2_some, ↓zk_true, Option.bind_some, Option.bind_none, Option.map_some, Sum.elim_inl, Sum.elim_inr, if_true, if_false, ↓reduceIte, lt_lit, nI_clamp, zi_in, nI_leI, nI_ltI, nI_eq, nI_add, pk_mul, zi_sub, pk_div, zi_rem, zi_sh1, zi_shr, zi_and1, zi_or, zi_en, zi_ne, zi_ln, zi_nl, zi_lne, zi_nle, zi_nn, zq_01, zq_10, zq_011, zq_at, zq_ta, ite_not, Classical.not_not, tT_live hTL, tT_rk hTL, tT_rtw hTL, hle, hb1, e1, Nat.reduceEqDiff, Bool.not_true, Bool.and_false, reduceCtorEq, Nat.add_zero]
      | false =>
        rw [hk] at e1
        refine ⟨M1, ?_, f1⟩
        simp (disch := omega) only [f_X11_brokenIn_l13, f_X11_brokenIn_b62_13, ↓zv_eq, ↓zb1_some, ↓zb2_some, ↓zk_true, Option.bind_some, Option.bind_none, Option.map_some, Sum.elim_inl, Sum.elim_inr, if_true, if_false, ↓reduceIte, lt_lit, nI_clamp, zi_in, nI_leI, nI_ltI, nI_eq, nI_add, pk_mul, zi_sub, pk_div, zi_rem, zi_sh1, zi_shr, zi_and1, zi_or, zi_en, zi_ne, zi_ln, zi_nl, zi_lne, zi_nle, zi_nn, zq_01, zq_10, zq_011, zq_at, zq_ta, ite_not, Classical.not_not, tT_live hTL, tT_rk hTL, tT_rtw hTL, hle, hb1, e1, Nat.reduceEqDiff, Bool.not_false, Bool.and_true, reduceCtorEq, or_pow hb]
    · rw [decide_eq_false hb1]
      refine ⟨L, ?_, fr_rfl _ L⟩
      simp (disch := omega) only [f_X11_brokenIn_l13, f_X11_brokenIn_b62_13, ↓zv_eq, ↓zb1_some, ↓zb2_some, ↓zk_true, Option.bind_some, Option.bind_none, Option.map_some, Sum.elim_inl, Sum.elim_inr, if_true, if_false, ↓reduceIte, lt_lit, nI_clamp, zi_in, nI_leI, nI_ltI, nI_eq, nI_add, pk_mul, zi_sub, pk_div, zi_rem, zi_sh1, zi_shr, zi_and1, zi_or, zi_en, zi_ne, zi_ln, zi_nl, zi_lne, zi_nle, zi_nn, zq_01, zq_10, zq_011, zq_at, zq_ta, ite_not, Classical.not_not, tT_live hTL, tT_rk hTL, tT_rtw hTL, hle, hb1, Bool.false_and, reduceCtorEq, Nat.add_zero]
  · have hCL := cx_R hF hC
    have hTL := hCL.2.2.1
    simp (disch := omega) only [f_X11_brokenIn_l13, ↓zv_eq, ↓zb1_some, ↓zb2_some, ↓zk_true, Option.bind_some, Option.bind_none, Option.map_some, Sum.elim_inl, Sum.elim_inr, if_true, if_false, ↓reduceIte, lt_lit, nI_clamp, zi_in, nI_leI, nI_ltI, nI_eq, nI_add, pk_mul, zi_sub, pk_div, zi_rem, zi_sh1, zi_shr, zi_and1, zi_or, zi_en, zi_ne, zi_ln, zi_nl, zi_lne, zi_nle, zi_nn, zq_01, zq_10, zq_011, zq_at, zq_ta, ite_not, Classical.not_not, tT_live hTL, tT_rk hTL, Nat.le_refl]

/-! standing terms -/
def stn (D : zD) (li : Nat) : Nat := bitsOf (fun j => decide (li / 2 ^ j % 2 = 0)) (D.1 0 2)
theorem stn_all : ∀ k, k < 7 → ∀ l, l < 64 → l < 2 ^ k → (nI (2 ^ k) - nI 1) &&& (nI l ^^^ -nI 1) = nI (bitsOf (fun j => decide (l / 2 ^ j % 2 = 0)) k) := by decide +kernel
theorem c_standing {M : zm_Mem} {t v n : Nat} {D : zD} {S : Nat → Nat} (hC : Cx M t v D S n) : f_X10_standing M = some (nI (stn D (S 3))) := by
  have ht := hC.2.1
  have hT := hC.2.2.1
  have hR := hC.2.2.2
  have bI := cx_isT hC
  have bv := tT_v hT
  have bh := tT_bh hT
  have bw := tT_bw hT
  have bk := tT_bk hT
  have hl := tR_bl hR
  have h64 : S 3 < 64 := Nat.lt_of_lt_of_le hl (Nat.pow_le_pow_right (by omega) (show D.1 0 2 ≤ 6 from bk))
  have e3 := tR_l hR
  have := stn_all (D.1 0 2) (by omega) (S 3) h64 hl
  unfold f_X10_standing
  simp (disch := omega) only [↓zv_eq, ht, bI, ↓zk_true, tT_k hT, lt_lit, zi_in, nI_clamp, e3, zi_sh1, this]
  rfl
theorem r_standing {M : zm_Mem} {t v n dy li : Nat} {D : zD} {S : Nat → Nat} {a : Nat → Bool} {g : Nat → Nat} (hC : Cx M t v D S n) (hS : Rw M D a g dy li) : f_X11_standing M = some (nI (stn D li)) := by
  have ht := hC.2.1
  have hT := hC.2.2.1
  have hR := hC.2.2.2
  have bI := cx_isT hC
  have bv := tT_v hT
  have bh := tT_bh hT
  have bw := tT_bw hT
  have bk := tT_bk hT
  unfold f_X11_standing
  refine lp_bits _ _ (fun i b hi hb => ?_) (fun b hb => ?_)
  · have hle : ¬ (D.1 0 2 ≤ i) := by omega
    have h24 := hS.2.2 i hi
    simp (disch := omega) only [f_X11_standing_l4, f_X11_standing_b35_4, ↓zv_eq, ↓zb1_some, ↓zb2_some, ↓zk_true, Option.bind_some, Option.bind_none, Option.map_some, Sum.elim_inl, Sum.elim_inr, if_true, if_false, ↓reduceIte, lt_lit, nI_clamp, zi_in, nI_leI, nI_ltI, nI_eq, nI_add, pk_mul, zi_sub, pk_div, zi_rem, zi_sh1, zi_shr, zi_and1, zi_or, zi_en, zi_ne, zi_ln, zi_nl, zi_lne, zi_nle, zi_nn, zq_01, zq_10, zq_011, zq_at, zq_ta, ite_not, Classical.not_not, hle, tT_live hT, tT_rh hT, tT_rw hT, tT_rk hT, tT_rla hT, tT_rco hT, tT_rse hT, tT_rno hT, tT_rwa hT, tT_row hT, tT_rst hT, tT_rki hT, tT_rva hT, tT_rtw hT, h24]
    simp only [decide_eq_true_eq]
    by_cases h : li / 2 ^ i % 2 = 0
    · simp only [h, ↓reduceIte, or_pow hb]
    · simp only [h, ↓reduceIte, Nat.add_zero]
  · simp (disch := omega) only [f_X11_standing_l4, ↓zv_eq, ↓zb1_some, ↓zb2_some, ↓zk_true, Option.bind_some, Option.bind_none, Option.map_some, Sum.elim_inl, Sum.elim_inr, if_true, if_false, ↓reduceIte, lt_lit, nI_clamp, zi_in, nI_leI, nI_ltI, nI_eq, nI_add, pk_mul, zi_sub, pk_div, zi_rem, zi_sh1, zi_shr, zi_and1, zi_or, zi_en, zi_ne, zi_ln, zi_nl, zi_lne, zi_nle, zi_nn, zq_01, zq_10, zq_011, zq_at, zq_ta, ite_not, Classical.not_not, Nat.le_refl, tT_live hT, tT_rh hT, tT_rw hT, tT_rk hT, tT_rla hT, tT_rco hT, tT_rse hT, tT_rno hT, tT_rwa hT, tT_row hT, tT_rst hT, tT_rki hT, tT_rva hT, tT_rtw hT]
theorem r_othersIn {M : zm_Mem} {t v n dy li : Nat} {D : zD} {S : Nat → Nat} {a : Nat → Bool} {g : Nat → Nat} (hC : Cx M t v D S n) (hS : Rw M D a g dy li) (hg : ∀ j, j < D.1 0 1 → g j < 5) {w x : Nat} (hw : w < D.1 0 1) (hx : x < D.1 0 0) : f_X11_othersIn (nI w) (nI x) M = some (nI (mny a g w x (-nI 1) (D.1 0 1))) := by
  have ht := hC.2.1
  have hT := hC.2.2.1
  have hR := hC.2.2.2
  have bI := cx_isT hC
  have bv := tT_v hT
  have bh := tT_bh hT
  have bw := tT_bw hT
  have bk := tT_bk hT
  unfold f_X11_othersIn
  refine lp_sum _ _ 1 (fun i hi => by split <;> omega) (fun i b hi hb => ?_) (fun b hb => ?_)
  · have hle : ¬ D.1 0 1 ≤ i := by omega
    have hgi := hg i hi
    have hsp := hS.2.1 i hi
    simp (disch := omega) only [f_X11_othersIn_l5, f_X11_othersIn_b39_5, ↓zv_eq, ↓zb1_some, ↓zb2_some, ↓zk_true, Option.bind_some, Option.bind_none, Option.map_some, Sum.elim_inl, Sum.elim_inr, if_true, if_false, ↓reduceIte, lt_lit, nI_clamp, zi_in, nI_leI, nI_ltI, nI_eq, nI_add, pk_mul, zi_sub, pk_div, zi_rem, zi_sh1, zi_shr, zi_and1, zi_or, zi_en, zi_ne, zi_ln, zi_nl, zi_lne, zi_nle, zi_nn, zq_01, zq_10, zq_011, zq_at, zq_ta, ite_not, Classical.not_not, hle, hsp, tT_live hT, tT_rh hT, tT_rw hT, tT_rk hT, tT_rla hT, tT_rco hT, tT_rse hT, tT_rno hT, tT_rwa hT, tT_row hT, tT_rst hT, tT_rki hT, tT_rva hT, tT_rtw hT, inH, Bool.and_eq_true, Bool.not_eq_true', decide_eq_true_eq, decide_eq_false_iff_not, not_false_eq_true, and_true]
    cases ha : a i with
    | false =>
      simp (disch := omega) only [↓zv_eq, ↓zb1_some, ↓zb2_some, ↓zk_true, Option.bind_some, Option.bind_none, Option.map_some, Sum.elim_inl, Sum.elim_inr, if_true, if_false, ↓reduceIte, lt_lit, nI_clamp, zi_in, nI_leI, nI_ltI, nI_eq, nI_add, pk_mul, zi_sub, pk_div, zi_rem, zi_sh1, zi_shr, zi_and1, zi_or, zi_en, zi_ne, zi_ln, zi_nl, zi_lne, zi_nle, zi_nn, zq_01, zq_10, zq_011, zq_at, zq_ta, ite_not, Classical.not_not, false_and, reduceCtorEq, Nat.add_zero]
      repeat' split
      all_goals rfl
    | true =>
      simp (disch := omega) only [↓zv_eq, ↓zb1_some, ↓zb2_some, ↓zk_true, Option.bind_some, Option.bind_none, Option.map_some, Sum.elim_inl, Sum.elim_inr, if_true, if_false, ↓reduceIte, lt_lit, nI_clamp, zi_in, nI_leI, nI_ltI, nI_eq, nI_add, pk_mul, zi_sub, pk_div, zi_rem, zi_sh1, zi_shr, zi_and1, zi_or, zi_en, zi_ne, zi_ln, zi_nl, zi_lne, zi_nle, zi_nn, zq_01, zq_10, zq_011, zq_at, zq_ta, ite_not, Classical.not_not, true_and]
      by_cases h1 : g i = x
      · by_cases h2 : i = w
        · subst h2; simp only [h1, if_true, ↓reduceIte, not_true_eq_false, false_and, and_false, if_false, Nat.add_zero]
        · simp only [h1, h2, ↓reduceIte, not_false_eq_true, and_self]
      · simp only [h1, ↓reduceIte, false_and, Nat.add_zero]
        repeat' split
        all_goals rfl
  · simp (disch := omega) only [f_X11_othersIn_l5, ↓zv_eq, ↓zb1_some, ↓zb2_some, ↓zk_true, Option.bind_some, Option.bind_none, Option.map_some, Sum.elim_inl, Sum.elim_inr, if_true, if_false, ↓reduceIte, lt_lit, nI_clamp, zi_in, nI_leI, nI_ltI, nI_eq, nI_add, pk_mul, zi_sub, pk_div, zi_rem, zi_sh1, zi_shr, zi_and1, zi_or, zi_en, zi_ne, zi_ln, zi_nl, zi_lne, zi_nle, zi_nn, zq_01, zq_10, zq_011, zq_at, zq_ta, ite_not, Classical.not_not, Nat.le_refl, tT_live hT, tT_rh hT, tT_rw hT, tT_rk hT, tT_rla hT, tT_rco hT, tT_rse hT, tT_rno hT, tT_rwa hT, tT_row hT, tT_rst hT, tT_rki hT, tT_rva hT, tT_rtw hT]
/-- may a work hang in a house, as works are -/
def vq (D : zD) (a : Nat → Bool) (g : Nat → Nat) (dy w x : Nat) (b : Int32) : Nat → Int32 := vr D w x (mny a g w x b (D.1 0 1)) (sme D a g w x b (D.1 0 1)) dy
def hng (D : zD) (a : Nat → Bool) (g : Nat → Nat) (dy li w x : Nat) : Bool := decide (mny a g w x (-nI 1) (D.1 0 1) < D.1 2 x) && decide (bitsOf (fun j => decide (D.1 7 j = w) && (decide (li / 2 ^ j % 2 = 0) && !kp D (vq D a g dy w x (-nI 1)) j)) (D.1 0 2) = 0)
theorem stn_lt (D : zD) (li : Nat) (h : D.1 0 2 ≤ 6) : stn D li < 64 := bitsOf_le _ h
theorem c_canHang {M : zm_Mem} {t v n dy li : Nat} {D : zD} {S : Nat → Nat} {a : Nat → Bool} {g : Nat → Nat} (hn : n < 512) (hC : Cx M t v D S n) (hS : Sn M t D a g dy) (hg : ∀ j, j < D.1 0 1 → g j < 5) {w x : Nat} (hw : w < D.1 0 1) (hx : x < D.1 0 0) : ∃ M', f_X3_canHang (nI w) (nI x) (nI (stn D li)) M = some (if hng D a g dy li w x = true then nI 1 else nI 0, M') ∧ Fr wC M M' := by
  have ht := hC.2.1
  have hT := hC.2.2.1
  have hR := hC.2.2.2
  have bI := cx_isT hC
  have bv := tT_v hT
  have bh := tT_bh hT
  have bw := tT_bw hT
  have bk := tT_bk hT
  obtain ⟨M1, e1, f1, v1⟩ := c_enter hC hS hg (-nI 1) hw hx
  have hC1 := cx_C f1 hC
  have hS1 := sn_C f1 hS
  have hT1 := hC1.2.2.1
  have hm := mny_le a g w x (-nI 1) (D.1 0 1)
  have h4 : M1.1 49 4 = nI (mny a g w x (-nI 1) (D.1 0 1)) := v1 4 (by omega)
  have hwall := tT_Hb hT x hx
  by_cases hr : mny a g w x (-nI 1) (D.1 0 1) < D.1 2 x
  · have hT64 : bitsOf (fun j => decide (D.1 7 j = w)) (D.1 0 2) &&& stn D li < 64 := by
      unfold stn; rw [bitsOf_and]; exact bitsOf_le _ bk
    obtain ⟨M2, e2, f2⟩ := c_broken hC1 hS1 v1 hT64
    refine ⟨M2, ?_, fr_tr f1 (frS_C f2)⟩
    have et := c_termsOf hC1 hn (x := w) (by omega)
    have hle : ¬ D.1 2 x ≤ mny a g w x (-nI 1) (D.1 0 1) := by omega
    have e1' : f_X3_enter (nI w) (nI x) (-nI 1) M = some ((), M1) := e1
    have ep : bitsOf (fun j => (bitsOf (fun j => decide (D.1 7 j = w)) (D.1 0 2) &&& stn D li).testBit j && !kp D (vr D w x (mny a g w x (-nI 1) (D.1 0 1)) (sme D a g w x (-nI 1) (D.1 0 1)) dy) j) (D.1 0 2) = bitsOf (fun j => decide (D.1 7 j = w) && (decide (li / 2 ^ j % 2 = 0) && !kp D (vq D a g dy w x (-nI 1)) j)) (D.1 0 2) := by
      refine bitsOf_congr (fun j hj => ?_)
      unfold stn
      rw [bitsOf_and, bitsOf_test, decide_eq_true hj, Bool.true_and, Bool.and_assoc]
      rfl
    rw [ep] at e2
    have hbl := bitsOf_le (fun j => decide (D.1 7 j = w) && (decide (li / 2 ^ j % 2 = 0) && !kp D (vq D a g dy w x (-nI 1)) j)) bk
    unfold f_X3_canHang f_X3_canHang_b49 hng
    simp (disch := omega) only [↓zb2_some, ↓zv_eq, ↓zb1_some, ↓reduceIte, lt_lit, e1', zi_in, ↓zk_true, hS1.1, bI, nI_clamp, tT_wa hT1, h4, nI_leI, hle, et, zi_and, e2, nI_eq, hr, decide_true, Bool.true_and, decide_eq_true_eq]
    split <;> rfl
  · refine ⟨M1, ?_, f1⟩
    have hle : D.1 2 x ≤ mny a g w x (-nI 1) (D.1 0 1) := by omega
    have e1' : f_X3_enter (nI w) (nI x) (-nI 1) M = some ((), M1) := e1
    unfold f_X3_canHang f_X3_canHang_b49 hng
    simp (disch := omega) only [↓zb2_some, ↓zv_eq, ↓zb1_some, ↓reduceIte, lt_lit, e1', zi_in, ↓zk_true, hS1.1, bI, nI_clamp, tT_wa hT1, h4, nI_leI, hle, hr, decide_false, Bool.false_and, reduceCtorEq]
theorem r_brokenIn {M : zm_Mem} {t v n dy li : Nat} {D : zD} {S : Nat → Nat} {a : Nat → Bool} {g : Nat → Nat} (hC : Cx M t v D S n) (hS : Rw M D a g dy li) (hg : ∀ j, j < D.1 0 1 → g j < 5) {w x : Nat} (hw : w < D.1 0 1) (hx : x < D.1 0 0) : ∃ M', f_X11_brokenIn (nI w) (nI x) M = some (nI (bitsOf (fun j => decide (D.1 7 j = w) && !kp D (vq D a g dy w x (-nI 1)) j) (D.1 0 2)), M') ∧ Fr wQ M M' := by
  have ht := hC.2.1
  have hT := hC.2.2.1
  have hR := hC.2.2.2
  have bI := cx_isT hC
  have bv := tT_v hT
  have bh := tT_bh hT
  have bw := tT_bw hT
  have bk := tT_bk hT
  obtain ⟨M1, e1, f1, v1⟩ := r_looks0 hC hS hg (-nI 1) hw hx
  obtain ⟨M2, e2, f2⟩ := r_broken (cx_Q f1 hC) v1 (w := w) (by omega)
  refine ⟨M2, ?_, fr_tr f1 (frR_Q f2)⟩
  have e1' : f_X11_looks (nI w) (nI x) 0 (-1) M = some ((), M1) := e1
  unfold f_X11_brokenIn
  rw [e1', zb2_some]
  exact e2
theorem r_mayHang {M : zm_Mem} {t v n dy li : Nat} {D : zD} {S : Nat → Nat} {a : Nat → Bool} {g : Nat → Nat} (hC : Cx M t v D S n) (hS : Rw M D a g dy li) (hg : ∀ j, j < D.1 0 1 → g j < 5) {w x : Nat} (hw : w < D.1 0 1) (hx : x < D.1 0 0) : ∃ M', f_X11_mayHang (nI w) (nI x) M = some (if hng D a g dy li w x = true then nI 1 else nI 0, M') ∧ Fr wQ M M' := by
  have ht := hC.2.1
  have hT := hC.2.2.1
  have hR := hC.2.2.2
  have bI := cx_isT hC
  have bv := tT_v hT
  have bh := tT_bh hT
  have bw := tT_bw hT
  have bk := tT_bk hT
  have hm := mny_le a g w x (-nI 1) (D.1 0 1)
  have hwall := tT_Hb hT x hx
  have eo := r_othersIn hC hS hg hw hx
  by_cases hr : mny a g w x (-nI 1) (D.1 0 1) < D.1 2 x
  · obtain ⟨M1, e1, f1⟩ := r_brokenIn hC hS hg hw hx
    have es := r_standing (cx_Q f1 hC) (rw_Q f1 hS)
    refine ⟨M1, ?_, f1⟩
    have hle : ¬ D.1 2 x ≤ mny a g w x (-nI 1) (D.1 0 1) := by omega
    have ep : bitsOf (fun j => decide (D.1 7 j = w) && !kp D (vq D a g dy w x (-nI 1)) j) (D.1 0 2) &&& stn D li = bitsOf (fun j => decide (D.1 7 j = w) && (decide (li / 2 ^ j % 2 = 0) && !kp D (vq D a g dy w x (-nI 1)) j)) (D.1 0 2) := by
      unfold stn
      rw [bitsOf_and]
      refine bitsOf_congr (fun j hj => ?_)
      rw [Bool.and_assoc, Bool.and_comm (!kp D _ j)]
    have hbl := bitsOf_le (fun j => decide (D.1 7 j = w) && (decide (li / 2 ^ j % 2 = 0) && !kp D (vq D a g dy w x (-nI 1)) j)) bk
    unfold f_X11_mayHang f_X11_mayHang_b27 f_X11_hasRoom hng
    simp (disch := omega) only [↓zb2_some, ↓zv_eq, ↓zb1_some, ↓reduceIte, lt_lit, e1, eo, es, zi_in, ↓zk_true, nI_clamp, tT_live hT, pk_mul, nI_add, tT_rwa hT, nI_leI, hle, zi_and, ep, nI_eq, hr, decide_true, Bool.true_and, decide_eq_true_eq, Nat.reduceEqDiff]
    split <;> rfl
  · refine ⟨M, ?_, fr_rfl _ M⟩
    have hle : D.1 2 x ≤ mny a g w x (-nI 1) (D.1 0 1) := by omega
    unfold f_X11_mayHang f_X11_mayHang_b27 f_X11_hasRoom hng
    simp (disch := omega) only [↓zb2_some, ↓zv_eq, ↓zb1_some, ↓reduceIte, lt_lit, eo, zi_in, ↓zk_true, nI_clamp, tT_live hT, pk_mul, nI_add, tT_rwa hT, nI_leI, hle, hr, decide_false, Bool.false_and, reduceCtorEq]
