theorem lp_all {st : Int32 → zm_Mem → Option ((Int32 × zm_Mem) ⊕ (zm_Mem ⊕ zm_Mem))} (W : Nat → Nat → Bool) (p : Nat → Bool) (N : Nat) (M : zm_Mem) (h : ∀ i L, i < N → Fr W M L → ∃ L', Fr W L L' ∧ st (nI i) L = if p i = true then some (.inl (nI (i + 1), L')) else some (.inr (.inl L'))) (he : ∀ L, Fr W M L → st (nI N) L = some (.inr (.inr L))) : ∃ M', (zm_lp (fun s => st s.1 s.2) (0, M)).bind (Sum.elim (fun e => some (0, e)) (fun e => some (1, e))) = some (if allB p N = true then nI 1 else nI 0, M') ∧ Fr W M M' := by
  have H1 : ∀ i (s : Int32 × zm_Mem), i < N → (s.1 = nI i ∧ Fr W M s.2 ∧ allB p i = true) → (∃ s', st s.1 s.2 = some (.inl s') ∧ (s'.1 = nI (i + 1) ∧ Fr W M s'.2 ∧ allB p (i + 1) = true)) ∨ (∃ e, st s.1 s.2 = some (.inr e) ∧ ∃ M', Fr W M M' ∧ ((e = .inl M' ∧ allB p N = false) ∨ (e = .inr M' ∧ allB p N = true))) := by
    intro i s hi hP
    obtain ⟨i', L⟩ := s
    obtain ⟨p1, p2, p3⟩ := hP
    simp only at p1 p2
    subst p1
    obtain ⟨L', g1, g2⟩ := h i L hi p2
    cases hp : p i with
    | true =>
      rw [hp, if_pos rfl] at g2
      refine Or.inl ⟨_, g2, rfl, fr_tr p2 g1, ?_⟩
      unfold allB; rw [p3, hp]; rfl
    | false =>
      rw [hp, if_neg (by decide)] at g2
      exact Or.inr ⟨_, g2, L', fr_tr p2 g1, Or.inl ⟨rfl, allB_no hp hi⟩⟩
  have H2 : ∀ (s : Int32 × zm_Mem), (s.1 = nI N ∧ Fr W M s.2 ∧ allB p N = true) → (∃ e, st s.1 s.2 = some (.inr e) ∧ ∃ M', Fr W M M' ∧ ((e = .inl M' ∧ allB p N = false) ∨ (e = .inr M' ∧ allB p N = true))) := by
    intro s hP
    obtain ⟨i', L⟩ := s
    obtain ⟨p1, p2, p3⟩ := hP
    simp only at p1 p2
    subst p1
    exact ⟨_, he L p2, L, p2, Or.inr ⟨rfl, p3⟩⟩
  obtain ⟨e, h1, M', h2, h3⟩ := lp_inv (step := fun s => st s.1 s.2) (fun i s => s.1 = nI i ∧ Fr W M s.2 ∧ allB p i = true) (fun e => ∃ M', Fr W M M' ∧ ((e = .inl M' ∧ allB p N = false) ∨ (e = .inr M' ∧ allB p N = true))) N H1 H2 (s := (0, M)) ⟨rfl, fr_rfl _ M, rfl⟩
  refine ⟨M', ?_, h2⟩
  rw [h1]
  rcases h3 with ⟨rfl, h3⟩ | ⟨rfl, h3⟩
  · rw [h3]; rfl
  · rw [h3]; rfl
/-- all is well on a day -/
def wl (D : zD) (a : Nat → Bool) (g : Nat → Nat) (dy li : Nat) : Bool := allB (fun w => !a w || hng D a g dy li w (g w)) (D.1 0 1)
theorem c_allWell {M : zm_Mem} {t v n dy li : Nat} {D : zD} {S : Nat → Nat} {a : Nat → Bool} {g : Nat → Nat} (hn : n < 512) (hC : Cx M t v D S n) (hS : Sn M t D a g dy) (hg : ∀ j, j < D.1 0 1 → g j < 5) (hh : ∀ j, j < D.1 0 1 → g j < D.1 0 0) : ∃ M', f_X3_allWell (nI (stn D li)) M = some (if wl D a g dy li = true then nI 1 else nI 0, M') ∧ Fr wC M M' := by
  have ht := hC.2.1
  have hT := hC.2.2.1
  have hR := hC.2.2.2
  have bI := cx_isT hC
  have bv := tT_v hT
  have bh := tT_bh hT
  have bw := tT_bw hT
  have bk := tT_bk hT
  refine lp_all wC _ _ M (fun i L hi hF => ?_) (fun L hF => ?_)
  · have hCL := cx_C hF hC
    have hSL := sn_C hF hS
    have hTL := hCL.2.2.1
    have hle : ¬ D.1 0 1 ≤ i := by omega
    have hsp := hSL.2.2 i hi
    have hgi := hg i hi
    cases ha : a i with
    | false =>
      rw [ha] at hsp
      refine ⟨L, fr_rfl _ L, ?_⟩
      simp (disch := omega) only [f_X3_allWell_l2, f_X3_allWell_b40_2, ↓zv_eq, ↓zb1_some, ↓zb2_some, ↓zk_true, Option.bind_some, Option.bind_none, Option.map_some, Sum.elim_inl, Sum.elim_inr, if_true, if_false, ↓reduceIte, lt_lit, nI_clamp, zi_in, nI_leI, nI_ltI, nI_eq, nI_add, pk_mul, zi_sub, pk_div, zi_rem, zi_sh1, zi_shr, zi_and1, zi_or, zi_en, zi_ne, zi_ln, zi_nl, zi_lne, zi_nle, zi_nn, zq_01, zq_10, zq_011, zq_at, zq_ta, ite_not, Classical.not_not, hSL.1, bI, tT_w hTL, hle, hsp, reduceCtorEq, Bool.not_false, Bool.true_or]
    | true =>
      rw [ha] at hsp
      obtain ⟨L', e1, f1⟩ := c_canHang (li := li) hn hCL hSL hg hi (hh i hi)
      refine ⟨L', f1, ?_⟩
      cases hb : hng D a g dy li i (g i) with
      | true =>
        rw [hb] at e1
        simp (disch := omega) only [f_X3_allWell_l2, f_X3_allWell_b40_2, ↓zv_eq, ↓zb1_some, ↓zb2_some, ↓zk_true, Option.bind_some, Option.bind_none, Option.map_some, Sum.elim_inl, Sum.elim_inr, if_true, if_false, ↓reduceIte, lt_lit, nI_clamp, zi_in, nI_leI, nI_ltI, nI_eq, nI_add, pk_mul, zi_sub, pk_div, zi_rem, zi_sh1, zi_shr, zi_and1, zi_or, zi_en, zi_ne, zi_ln, zi_nl, zi_lne, zi_nle, zi_nn, zq_01, zq_10, zq_011, zq_at, zq_ta, ite_not, Classical.not_not, hSL.1, bI, tT_w hTL, hle, hsp, e1, reduceCtorEq, Bool.not_true, Bool.false_or, Nat.reduceEqDiff]
      | false =>
        rw [hb] at e1
        simp (disch := omega) only [f_X3_allWell_l2, f_X3_allWell_b40_2, ↓zv_eq, ↓zb1_some, ↓zb2_some, ↓zk_true, Option.bind_some, Option.bind_none, Option.map_some, Sum.elim_inl, Sum.elim_inr, if_true, if_false, ↓reduceIte, lt_lit, nI_clamp, zi_in, nI_leI, nI_ltI, nI_eq, nI_add, pk_mul, zi_sub, pk_div, zi_rem, zi_sh1, zi_shr, zi_and1, zi_or, zi_en, zi_ne, zi_ln, zi_nl, zi_lne, zi_nle, zi_nn, zq_01, zq_10, zq_011, zq_at, zq_ta, ite_not, Classical.not_not, hSL.1, bI, tT_w hTL, hle, hsp, e1, reduceCtorEq, Bool.not_true, Bool.false_or]
  · have hCL := cx_C hF hC
    have hSL := sn_C hF hS
    have hTL := hCL.2.2.1
    simp (disch := omega) only [f_X3_allWell_l2, ↓zv_eq, ↓zb1_some, ↓zb2_some, ↓zk_true, Option.bind_some, Option.bind_none, Option.map_some, Sum.elim_inl, Sum.elim_inr, if_true, if_false, ↓reduceIte, lt_lit, nI_clamp, zi_in, nI_leI, nI_ltI, nI_eq, nI_add, pk_mul, zi_sub, pk_div, zi_rem, zi_sh1, zi_shr, zi_and1, zi_or, zi_en, zi_ne, zi_ln, zi_nl, zi_lne, zi_nle, zi_nn, zq_01, zq_10, zq_011, zq_at, zq_ta, ite_not, Classical.not_not, hSL.1, bI, tT_w hTL, Nat.le_refl]
theorem r_isWell {M : zm_Mem} {t v n dy li : Nat} {D : zD} {S : Nat → Nat} {a : Nat → Bool} {g : Nat → Nat} (hC : Cx M t v D S n) (hS : Rw M D a g dy li) (hg : ∀ j, j < D.1 0 1 → g j < 5) (hh : ∀ j, j < D.1 0 1 → g j < D.1 0 0) : ∃ M', f_X11_isWell M = some (if wl D a g dy li = true then nI 1 else nI 0, M') ∧ Fr wQ M M' := by
  have ht := hC.2.1
  have hT := hC.2.2.1
  have hR := hC.2.2.2
  have bI := cx_isT hC
  have bv := tT_v hT
  have bh := tT_bh hT
  have bw := tT_bw hT
  have bk := tT_bk hT
  refine lp_all wQ _ _ M (fun i L hi hF => ?_) (fun L hF => ?_)
  · have hCL := cx_Q hF hC
    have hSL := rw_Q hF hS
    have hTL := hCL.2.2.1
    have hle : ¬ D.1 0 1 ≤ i := by omega
    have hsp := hSL.2.1 i hi
    have hgi := hg i hi
    have hneg : (-nI 2 < nI 0) := by decide
    cases ha : a i with
    | false =>
      rw [ha] at hsp
      refine ⟨L, fr_rfl _ L, ?_⟩
      simp (disch := omega) only [f_X11_isWell_l2, f_X11_isWell_b40_2, ↓zv_eq, ↓zb1_some, ↓zb2_some, ↓zk_true, Option.bind_some, Option.bind_none, Option.map_some, Sum.elim_inl, Sum.elim_inr, if_true, if_false, ↓reduceIte, lt_lit, nI_clamp, zi_in, nI_leI, nI_ltI, nI_eq, nI_add, pk_mul, zi_sub, pk_div, zi_rem, zi_sh1, zi_shr, zi_and1, zi_or, zi_en, zi_ne, zi_ln, zi_nl, zi_lne, zi_nle, zi_nn, zq_01, zq_10, zq_011, zq_at, zq_ta, ite_not, Classical.not_not, tT_live hTL, tT_rw hTL, hle, hsp, reduceCtorEq, Bool.not_false, Bool.true_or, hneg]
    | true =>
      rw [ha] at hsp
      obtain ⟨L', e1, f1⟩ := r_mayHang hCL hSL hg hi (hh i hi)
      refine ⟨L', f1, ?_⟩
      cases hb : hng D a g dy li i (g i) with
      | true =>
        rw [hb] at e1
        simp (disch := omega) only [f_X11_isWell_l2, f_X11_isWell_b40_2, ↓zv_eq, ↓zb1_some, ↓zb2_some, ↓zk_true, Option.bind_some, Option.bind_none, Option.map_some, Sum.elim_inl, Sum.elim_inr, if_true, if_false, ↓reduceIte, lt_lit, nI_clamp, zi_in, nI_leI, nI_ltI, nI_eq, nI_add, pk_mul, zi_sub, pk_div, zi_rem, zi_sh1, zi_shr, zi_and1, zi_or, zi_en, zi_ne, zi_ln, zi_nl, zi_lne, zi_nle, zi_nn, zq_01, zq_10, zq_011, zq_at, zq_ta, ite_not, Classical.not_not, tT_live hTL, tT_rw hTL, hle, hsp, e1, reduceCtorEq, Bool.not_true, Bool.false_or, Nat.reduceEqDiff, Nat.not_lt_zero]
      | false =>
        rw [hb] at e1
        simp (disch := omega) only [f_X11_isWell_l2, f_X11_isWell_b40_2, ↓zv_eq, ↓zb1_some, ↓zb2_some, ↓zk_true, Option.bind_some, Option.bind_none, Option.map_some, Sum.elim_inl, Sum.elim_inr, if_true, if_false, ↓reduceIte, lt_lit, nI_clamp, zi_in, nI_leI, nI_ltI, nI_eq, nI_add, pk_mul, zi_sub, pk_div, zi_rem, zi_sh1, zi_shr, zi_and1, zi_or, zi_en, zi_ne, zi_ln, zi_nl, zi_lne, zi_nle, zi_nn, zq_01, zq_10, zq_011, zq_at, zq_ta, ite_not, Classical.not_not, tT_live hTL, tT_rw hTL, hle, hsp, e1, reduceCtorEq, Bool.not_true, Bool.false_or, Nat.not_lt_zero]
  · have hCL := cx_Q hF hC
    have hTL := hCL.2.2.1
    simp (disch := omega) only [f_X11_isWell_l2, ↓zv_eq, ↓zb1_some, ↓zb2_some, ↓zk_true, Option.bind_some, Option.bind_none, Option.map_some, Sum.elim_inl, Sum.elim_inr, if_true, if_false, ↓reduceIte, lt_lit, nI_clamp, zi_in, nI_leI, nI_ltI, nI_eq, nI_add, pk_mul, zi_sub, pk_div, zi_rem, zi_sh1, zi_shr, zi_and1, zi_or, zi_en, zi_ne, zi_ln, zi_nl, zi_lne, zi_nle, zi_nn, zq_01, zq_10, zq_011, zq_at, zq_ta, ite_not, Classical.not_not, tT_live hTL, tT_rw hTL, Nat.le_refl]
theorem hh_S {M : zm_Mem} {t v n : Nat} {D : zD} {S : Nat → Nat} (hC : Cx M t v D S n) : ∀ j, j < D.1 0 1 → (fun j => S (4 + j)) j < D.1 0 0 := fun j hj => ((cx_b hC).2 j hj).1
theorem fb_if (b : Bool) : (decide ((if b = true then nI 1 else nI 0) &&& 1 = (if b = true then nI 1 else nI 0)) && fits .boolean (.int (if b = true then nI 1 else nI 0))) = true := by
  cases b <;> decide
theorem ag_well {M : zm_Mem} {q n : Nat} (hI : Inv M q n) (hn : n < 512) : Ag (f_X10_well M) (fun M1 => f_X11_well M1) q n := by
  have hI' := hI
  obtain ⟨t, v, D, S, hC, -⟩ := hI'
  obtain ⟨M1, e1, s1, n1⟩ := c_lookToday hn hC
  have hC1 := cx_sc s1 hC
  obtain ⟨M2, e2, f2⟩ := c_allWell (li := S 3) hn hC1 n1 (hg_S hC) (hh_S hC)
  have s2 := sc_tr s1 (sc_C f2)
  have hC2 := cx_sc s2 hC
  have s3 := sc_tr s2 (sc_copies M2 (nI (D.1 0 5)))
  obtain ⟨M4, e4, f4⟩ := r_isWell (cx_sc s3 hC) (rw_copies hC2) (hg_S hC) (hh_S hC)
  refine ag_mk hI (r := if wl D (isAt S (S 0)) (fun j => S (4 + j)) (S 0) (S 3) = true then nI 1 else nI 0) (M1 := M2) (M2 := M4) ?_ ?_ (sc_tr s3 (sc_Q f4))
  · unfold f_X10_well
    rw [e1, zb2_some, c_standing hC1, zb1_some, e2, zb2_some, zm_ck_t (fb_if _)]
  · show f_X11_well M2 = _
    unfold f_X11_well
    rw [r_copies hC2, zb2_some, e4, zb2_some, zm_ck_t (fb_if _)]
