/-! where works are: in the class's scene (spots), in the reference's row -/
def wC (x j : Nat) : Bool := decide (x = 50) || (decide (x = 49) && !decide (j = 8))
def wQ (x j : Nat) : Bool := decide (x = 89) || wR x j
theorem wC_no {x j : Nat} (h : x ≠ 50) (h2 : x ≠ 49) : wC x j = false := by
  unfold wC; rw [decide_eq_false h, decide_eq_false h2]; rfl
theorem wQ_no {x j : Nat} (h : x ≠ 89) (h1 : x ≠ 90) (h2 : x ≠ 52) : wQ x j = false := by
  unfold wQ; rw [decide_eq_false h, wR_no h1 h2]; rfl
theorem wC_iv {x j : Nat} (h : wC x j = true) : iv_c x j = false := by
  unfold wC at h
  simp only [Bool.or_eq_true, Bool.and_eq_true, decide_eq_true_eq] at h
  rcases h with rfl | ⟨rfl, _⟩ <;> rfl
theorem wQ_iv {x j : Nat} (h : wQ x j = true) : iv_c x j = false := by
  unfold wQ wR at h
  simp only [Bool.or_eq_true, Bool.and_eq_true, decide_eq_true_eq] at h
  rcases h with rfl | rfl | ⟨rfl, rfl⟩ <;> rfl
theorem frS_C {M M' : zm_Mem} (h : Fr wS M M') : Fr wC M M' := fr_mono (fun x j h => by unfold wS at h; unfold wC; rw [h]; rfl) h
theorem frR_Q {M M' : zm_Mem} (h : Fr wR M M') : Fr wQ M M' := fr_mono (fun x j h => by unfold wQ; rw [h, Bool.or_true]) h
theorem cx_C {M M' : zm_Mem} {t v n : Nat} {D : zD} {S : Nat → Nat} (hF : Fr wC M M') (hC : Cx M t v D S n) : Cx M' t v D S n := cx_sc (fr_sc (fun _ _ => wC_iv) hF) hC
theorem cx_Q {M M' : zm_Mem} {t v n : Nat} {D : zD} {S : Nat → Nat} (hF : Fr wQ M M') (hC : Cx M t v D S n) : Cx M' t v D S n := cx_sc (fr_sc (fun _ _ => wQ_iv) hF) hC
/-- the class's scene -/
def Sn (M : zm_Mem) (t : Nat) (D : zD) (a : Nat → Bool) (g : Nat → Nat) (dy : Nat) : Prop := M.2.2 47 2 = t ∧ M.1 49 8 = nI dy ∧ ∀ j, j < D.1 0 1 → M.1 51 j = (if a j = true then nI (g j) else -nI 1)
/-- the reference's row -/
def Rw (M : zm_Mem) (D : zD) (a : Nat → Bool) (g : Nat → Nat) (dy li : Nat) : Prop := M.1 92 30 = nI dy ∧ (∀ j, j < D.1 0 1 → M.1 92 j = (if a j = true then nI (g j) else -nI 2)) ∧ ∀ j, j < D.1 0 2 → M.1 92 (24 + j) = nI (li / 2 ^ j % 2)
theorem sn_C {M M' : zm_Mem} {t dy : Nat} {D : zD} {a : Nat → Bool} {g : Nat → Nat} (hF : Fr wC M M') (h : Sn M t D a g dy) : Sn M' t D a g dy := ⟨by rw [hF.1]; exact h.1, (hF.2 49 8 rfl).trans h.2.1, fun j hj => (hF.2 51 j rfl).trans (h.2.2 j hj)⟩
theorem rw_Q {M M' : zm_Mem} {dy li : Nat} {D : zD} {a : Nat → Bool} {g : Nat → Nat} (hF : Fr wQ M M') (h : Rw M D a g dy li) : Rw M' D a g dy li := ⟨(hF.2 92 30 rfl).trans h.1, fun j hj => (hF.2 92 j rfl).trans (h.2.1 j hj), fun j hj => (hF.2 92 (24 + j) rfl).trans (h.2.2 j hj)⟩
/-- another work in a house, but for one -/
def inH (a : Nat → Bool) (g : Nat → Nat) (w x : Nat) (b : Int32) (j : Nat) : Bool := a j && (decide (g j = x) && (!decide (j = w) && !decide (nI j = b)))
def mny (a : Nat → Bool) (g : Nat → Nat) (w x : Nat) (b : Int32) (N : Nat) : Nat := sumOf (fun j => if inH a g w x b j = true then 1 else 0) N
def sme (D : zD) (a : Nat → Bool) (g : Nat → Nat) (w x : Nat) (b : Int32) (N : Nat) : Nat := sumOf (fun j => if (inH a g w x b j && decide (D.1 5 j = D.1 5 w)) = true then 1 else 0) N
theorem mny_le (a : Nat → Bool) (g : Nat → Nat) (w x : Nat) (b : Int32) (N : Nat) : mny a g w x b N ≤ N := by
  have := sumOf_le (f := fun j => if inH a g w x b j = true then 1 else 0) (c := 1) (i := N) (fun j _ => by split <;> omega)
  unfold mny; omega
theorem sme_le (D : zD) (a : Nat → Bool) (g : Nat → Nat) (w x : Nat) (b : Int32) (N : Nat) : sme D a g w x b N ≤ N := by
  have := sumOf_le (f := fun j => if (inH a g w x b j && decide (D.1 5 j = D.1 5 w)) = true then 1 else 0) (c := 1) (i := N) (fun j _ => by split <;> omega)
  unfold sme; omega
/-- the variables, for a work in a house -/
def vr (D : zD) (w x m s dy : Nat) : Nat → Int32
  | 0 => nI (D.1 1 x)
  | 1 => nI (D.1 2 x)
  | 2 => nI (D.1 5 w)
  | 3 => nI (D.1 6 w)
  | 4 => nI m
  | 5 => nI s
  | 6 => if D.1 3 w = x then nI 1 else nI 0
  | 7 => nI x
  | _ => nI dy
theorem lt9 {P : Nat → Prop} (h0 : P 0) (h1 : P 1) (h2 : P 2) (h3 : P 3) (h4 : P 4) (h5 : P 5) (h6 : P 6) (h7 : P 7) (h8 : P 8) : ∀ i, i < 9 → P i := by
  intro i hi
  match i, hi with
  | 0, _ => exact h0
  | 1, _ => exact h1
  | 2, _ => exact h2
  | 3, _ => exact h3
  | 4, _ => exact h4
  | 5, _ => exact h5
  | 6, _ => exact h6
  | 7, _ => exact h7
  | 8, _ => exact h8
theorem isT_ne {t : Nat} (h : t = 25 ∨ t = 36) : t ≠ 49 ∧ t + 1 ≠ 49 ∧ t + 2 ≠ 49 ∧ t + 3 ≠ 49 ∧ t + 5 ≠ 49 ∧ t + 6 ≠ 49 := by omega
theorem c_enterAmong {M : zm_Mem} {t v n dy : Nat} {D : zD} {S : Nat → Nat} {a : Nat → Bool} {g : Nat → Nat} (hC : Cx M t v D S n) (hS : Sn M t D a g dy) {w x m s : Nat} (hw : w < D.1 0 1) (hx : x < D.1 0 0) : ∃ M', f_X3_enterAmong (nI w) (nI x) (nI m) (nI s) M = some ((), M') ∧ Fr wC M M' ∧ ∀ i, i < 9 → M'.1 49 i = vr D w x m s dy i := by
  have ht := hC.2.1
  have hT := hC.2.2.1
  have hR := hC.2.2.2
  have bI := cx_isT hC
  have bv := tT_v hT
  have bh := tT_bh hT
  have bw := tT_bw hT
  have bk := tT_bk hT
  have hwb := tT_Wb hT w hw
  obtain ⟨n1, n2, n3, n4, n5, n6⟩ := isT_ne hC.1
  refine ⟨zm_sI (zm_sI (zm_sI (zm_sI (zm_sI (zm_sI (zm_sI (zm_sI M 49 0 (nI (D.1 1 x))) 49 1 (nI (D.1 2 x))) 49 2 (nI (D.1 5 w))) 49 3 (nI (D.1 6 w))) 49 4 (nI m)) 49 5 (nI s)) 49 6 (if D.1 3 w = x then nI 1 else nI 0)) 49 7 (nI x), ?_, ?_, ?_⟩
  · unfold f_X3_enterAmong f_X3_enterAmong_b94
    simp (disch := omega) only [↓zv_eq, ↓zb1_some, ↓zb2_some, ↓zk_true, Option.bind_some, Option.bind_none, Option.map_some, Sum.elim_inl, Sum.elim_inr, if_true, if_false, ↓reduceIte, lt_lit, nI_clamp, zi_in, nI_leI, nI_ltI, nI_eq, nI_add, pk_mul, zi_sub, pk_div, zi_rem, zi_sh1, zi_shr, zi_and1, zi_or, zi_en, zi_ne, zi_ln, zi_nl, zi_lne, zi_nle, zi_nn, zq_01, zq_10, zq_011, zq_at, zq_ta, ite_not, Classical.not_not, hS.1, bI, mI2, mI1, tT_h hT, tT_w hT, tT_k hT, tT_la hT, tT_co hT, tT_se hT, tT_no hT, tT_wa hT, tT_ow hT, tT_st hT, tT_ki hT, tT_va hT, tT_tw hT, n1, n2, n3, n4, n5, n6, false_and]
    split <;> rfl
  · exact fr_tr (fr_tr (fr_tr (fr_tr (fr_tr (fr_tr (fr_tr (fr_sI rfl) (fr_sI rfl)) (fr_sI rfl)) (fr_sI rfl)) (fr_sI rfl)) (fr_sI rfl)) (fr_sI rfl)) (fr_sI rfl)
  · have h8 := hS.2.1
    refine lt9 rfl rfl rfl rfl rfl rfl rfl rfl ?_
    simp only [mI1, Nat.reduceEqDiff, and_false, if_false]
    exact h8
theorem c_enter {M : zm_Mem} {t v n dy : Nat} {D : zD} {S : Nat → Nat} {a : Nat → Bool} {g : Nat → Nat} (hC : Cx M t v D S n) (hS : Sn M t D a g dy) (hg : ∀ j, j < D.1 0 1 → g j < 5) {w x : Nat} (b : Int32) (hw : w < D.1 0 1) (hx : x < D.1 0 0) : ∃ M', f_X3_enter (nI w) (nI x) b M = some ((), M') ∧ Fr wC M M' ∧ ∀ i, i < 9 → M'.1 49 i = vr D w x (mny a g w x b (D.1 0 1)) (sme D a g w x b (D.1 0 1)) dy i := by
  have ht := hC.2.1
  have hT := hC.2.2.1
  have hR := hC.2.2.2
  have bI := cx_isT hC
  have bv := tT_v hT
  have bh := tT_bh hT
  have bw := tT_bw hT
  have bk := tT_bk hT
  obtain ⟨M', e1, e2, e3⟩ := c_enterAmong (m := mny a g w x b (D.1 0 1)) (s := sme D a g w x b (D.1 0 1)) hC hS hw hx
  refine ⟨M', ?_, e2, e3⟩
  unfold f_X3_enter
  have key : zm_lp (fun s => f_X3_enter_l9 (nI w) (nI x) b M s.1 s.2.1 s.2.2) (0, 0, 0) = some (nI (mny a g w x b (D.1 0 1)), nI (sme D a g w x b (D.1 0 1))) := by
    refine lp_for (step := fun s => f_X3_enter_l9 (nI w) (nI x) b M s.1 s.2.1 s.2.2) (fun i => (nI (mny a g w x b i), nI (sme D a g w x b i), nI i)) (D.1 0 1) (fun i hi => ?_) ?_
    · have hle : ¬ D.1 0 1 ≤ i := by omega
      have hgi := hg i hi
      have hwi := tT_Wb hT i hi
      have hww := tT_Wb hT w hw
      have hsp := hS.2.2 i hi
      have e1 : mny a g w x b (i + 1) = mny a g w x b i + (if inH a g w x b i = true then 1 else 0) := rfl
      have e2 : sme D a g w x b (i + 1) = sme D a g w x b i + (if (inH a g w x b i && decide (D.1 5 i = D.1 5 w)) = true then 1 else 0) := rfl
      rw [e1, e2]
      simp (disch := omega) only [f_X3_enter_l9, f_X3_enter_b72_9, ↓zv_eq, ↓zb1_some, ↓zb2_some, ↓zk_true, Option.bind_some, Option.bind_none, Option.map_some, Sum.elim_inl, Sum.elim_inr, if_true, if_false, ↓reduceIte, lt_lit, nI_clamp, zi_in, nI_leI, nI_ltI, nI_eq, nI_add, pk_mul, zi_sub, pk_div, zi_rem, zi_sh1, zi_shr, zi_and1, zi_or, zi_en, zi_ne, zi_ln, zi_nl, zi_lne, zi_nle, zi_nn, zq_01, zq_10, zq_011, zq_at, zq_ta, ite_not, Classical.not_not, hS.1, bI, hle, hsp, tT_h hT, tT_w hT, tT_k hT, tT_la hT, tT_co hT, tT_se hT, tT_no hT, tT_wa hT, tT_ow hT, tT_st hT, tT_ki hT, tT_va hT, tT_tw hT, inH, Bool.and_eq_true, Bool.not_eq_true', decide_eq_true_eq, decide_eq_false_iff_not]
      cases ha : a i with
      | false =>
        simp (disch := omega) only [↓zv_eq, ↓zb1_some, ↓zb2_some, ↓zk_true, Option.bind_some, Option.bind_none, Option.map_some, Sum.elim_inl, Sum.elim_inr, if_true, if_false, ↓reduceIte, lt_lit, nI_clamp, zi_in, nI_leI, nI_ltI, nI_eq, nI_add, pk_mul, zi_sub, pk_div, zi_rem, zi_sh1, zi_shr, zi_and1, zi_or, zi_en, zi_ne, zi_ln, zi_nl, zi_lne, zi_nle, zi_nn, zq_01, zq_10, zq_011, zq_at, zq_ta, ite_not, Classical.not_not, false_and, reduceCtorEq, Nat.add_zero]
      | true =>
        simp (disch := omega) only [↓zv_eq, ↓zb1_some, ↓zb2_some, ↓zk_true, Option.bind_some, Option.bind_none, Option.map_some, Sum.elim_inl, Sum.elim_inr, if_true, if_false, ↓reduceIte, lt_lit, nI_clamp, zi_in, nI_leI, nI_ltI, nI_eq, nI_add, pk_mul, zi_sub, pk_div, zi_rem, zi_sh1, zi_shr, zi_and1, zi_or, zi_en, zi_ne, zi_ln, zi_nl, zi_lne, zi_nle, zi_nn, zq_01, zq_10, zq_011, zq_at, zq_ta, ite_not, Classical.not_not, true_and]
        by_cases h1 : g i = x
        · by_cases h2 : i = w
          · subst h2; simp only [h1, if_true, ↓reduceIte, not_true_eq_false, false_and, and_false, if_false, Nat.add_zero]
          · by_cases h3 : nI i = b
            · simp only [h1, h2, h3, if_true, ↓reduceIte, not_true_eq_false, false_and, and_false, if_false, Nat.add_zero]
            · by_cases h4 : D.1 5 i = D.1 5 w
              · simp only [h1, h2, h3, h4, ↓reduceIte, not_false_eq_true, and_self]
              · simp only [h1, h2, h3, h4, ↓reduceIte, not_false_eq_true, and_self, and_false, Nat.add_zero]
        · simp only [h1, ↓reduceIte, false_and, Nat.add_zero]
    · simp (disch := omega) only [f_X3_enter_l9, ↓zv_eq, ↓zb1_some, ↓zb2_some, ↓zk_true, Option.bind_some, Option.bind_none, Option.map_some, Sum.elim_inl, Sum.elim_inr, if_true, if_false, ↓reduceIte, lt_lit, nI_clamp, zi_in, nI_leI, nI_ltI, nI_eq, nI_add, pk_mul, zi_sub, pk_div, zi_rem, zi_sh1, zi_shr, zi_and1, zi_or, zi_en, zi_ne, zi_ln, zi_nl, zi_lne, zi_nle, zi_nn, zq_01, zq_10, zq_011, zq_at, zq_ta, ite_not, Classical.not_not, hS.1, bI, Nat.le_refl, tT_h hT, tT_w hT, tT_k hT, tT_la hT, tT_co hT, tT_se hT, tT_no hT, tT_wa hT, tT_ow hT, tT_st hT, tT_ki hT, tT_va hT, tT_tw hT]
  rw [key]
  simp only [Option.bind_some]
  unfold f_X3_enter_x78_9
  rw [e1, zb2_some]
theorem r_looks {M : zm_Mem} {t v n dy li : Nat} {D : zD} {S : Nat → Nat} {a : Nat → Bool} {g : Nat → Nat} (hC : Cx M t v D S n) (hS : Rw M D a g dy li) {w x : Nat} (hw : w < D.1 0 1) (hx : x < D.1 0 0) {m s : Nat} {al b : Int32} (hl : zm_lp (fun s => f_X11_looks_l9 (nI w) (nI x) al b M s.1 s.2.1 s.2.2) (0, 0, 0) = some (nI m, nI s)) : ∃ M', f_X11_looks (nI w) (nI x) al b M = some ((), M') ∧ Fr wQ M M' ∧ ∀ i, i < 9 → M'.1 89 i = vr D w x m s dy i := by
  have ht := hC.2.1
  have hT := hC.2.2.1
  have hR := hC.2.2.2
  have bI := cx_isT hC
  have bv := tT_v hT
  have bh := tT_bh hT
  have bw := tT_bw hT
  have bk := tT_bk hT
  have hwb := tT_Wb hT w hw
  refine ⟨zm_sI (zm_sI (zm_sI (zm_sI (zm_sI (zm_sI (zm_sI (zm_sI (zm_sI M 89 0 (nI (D.1 1 x))) 89 1 (nI (D.1 2 x))) 89 2 (nI (D.1 5 w))) 89 3 (nI (D.1 6 w))) 89 4 (nI m)) 89 5 (nI s)) 89 6 (if D.1 3 w = x then nI 1 else nI 0)) 89 7 (nI x)) 89 8 (nI dy), ?_, ?_, ?_⟩
  · unfold f_X11_looks
    rw [hl]
    simp only [Option.bind_some]
    unfold f_X11_looks_b98 f_X11_looks_b212 f_X11_ownerNow
    have h30 := hS.1
    simp (disch := omega) only [↓zv_eq, ↓zb1_some, ↓zb2_some, ↓zk_true, Option.bind_some, Option.bind_none, Option.map_some, Sum.elim_inl, Sum.elim_inr, if_true, if_false, ↓reduceIte, lt_lit, nI_clamp, zi_in, nI_leI, nI_ltI, nI_eq, nI_add, pk_mul, zi_sub, pk_div, zi_rem, zi_sh1, zi_shr, zi_and1, zi_or, zi_en, zi_ne, zi_ln, zi_nl, zi_lne, zi_nle, zi_nn, zq_01, zq_10, zq_011, zq_at, zq_ta, ite_not, Classical.not_not, mI2, mI1, tT_live hT, tT_rh hT, tT_rw hT, tT_rk hT, tT_rla hT, tT_rco hT, tT_rse hT, tT_rno hT, tT_rwa hT, tT_row hT, tT_rst hT, tT_rki hT, tT_rva hT, tT_rtw hT, Nat.reduceEqDiff, false_and, h30]
    split <;> rfl
  · exact fr_tr (fr_tr (fr_tr (fr_tr (fr_tr (fr_tr (fr_tr (fr_tr (fr_sI rfl) (fr_sI rfl)) (fr_sI rfl)) (fr_sI rfl)) (fr_sI rfl)) (fr_sI rfl)) (fr_sI rfl)) (fr_sI rfl)) (fr_sI rfl)
  · exact lt9 rfl rfl rfl rfl rfl rfl rfl rfl rfl
/-- alone -/
theorem r_looks1 {M : zm_Mem} {t v n dy li : Nat} {D : zD} {S : Nat → Nat} {a : Nat → Bool} {g : Nat → Nat} (hC : Cx M t v D S n) (hS : Rw M D a g dy li) {w x : Nat} (b : Int32) (hw : w < D.1 0 1) (hx : x < D.1 0 0) : ∃ M', f_X11_looks (nI w) (nI x) 1 b M = some ((), M') ∧ Fr wQ M M' ∧ ∀ i, i < 9 → M'.1 89 i = vr D w x 0 0 dy i := by
  have ht := hC.2.1
  have hT := hC.2.2.1
  have hR := hC.2.2.2
  have bI := cx_isT hC
  have bv := tT_v hT
  have bh := tT_bh hT
  have bw := tT_bw hT
  have bk := tT_bk hT
  refine r_looks hC hS hw hx (lp_end ?_)
  have hle : ¬ D.1 0 1 ≤ 0 := by omega
  simp (disch := omega) only [f_X11_looks_l9, ↓zv_eq, ↓zb1_some, ↓zb2_some, ↓zk_true, Option.bind_some, Option.bind_none, Option.map_some, Sum.elim_inl, Sum.elim_inr, if_true, if_false, ↓reduceIte, lt_lit, nI_clamp, zi_in, nI_leI, nI_ltI, nI_eq, nI_add, pk_mul, zi_sub, pk_div, zi_rem, zi_sh1, zi_shr, zi_and1, zi_or, zi_en, zi_ne, zi_ln, zi_nl, zi_lne, zi_nle, zi_nn, zq_01, zq_10, zq_011, zq_at, zq_ta, ite_not, Classical.not_not, hle, tT_live hT, tT_rh hT, tT_rw hT, tT_rk hT, tT_rla hT, tT_rco hT, tT_rse hT, tT_rno hT, tT_rwa hT, tT_row hT, tT_rst hT, tT_rki hT, tT_rva hT, tT_rtw hT, Nat.reduceEqDiff]
/-- among the others -/
theorem r_looks0 {M : zm_Mem} {t v n dy li : Nat} {D : zD} {S : Nat → Nat} {a : Nat → Bool} {g : Nat → Nat} (hC : Cx M t v D S n) (hS : Rw M D a g dy li) (hg : ∀ j, j < D.1 0 1 → g j < 5) {w x : Nat} (b : Int32) (hw : w < D.1 0 1) (hx : x < D.1 0 0) : ∃ M', f_X11_looks (nI w) (nI x) 0 b M = some ((), M') ∧ Fr wQ M M' ∧ ∀ i, i < 9 → M'.1 89 i = vr D w x (mny a g w x b (D.1 0 1)) (sme D a g w x b (D.1 0 1)) dy i := by
  have ht := hC.2.1
  have hT := hC.2.2.1
  have hR := hC.2.2.2
  have bI := cx_isT hC
  have bv := tT_v hT
  have bh := tT_bh hT
  have bw := tT_bw hT
  have bk := tT_bk hT
  refine r_looks hC hS hw hx ?_
  refine lp_for (step := fun s => f_X11_looks_l9 (nI w) (nI x) 0 b M s.1 s.2.1 s.2.2) (fun i => (nI (mny a g w x b i), nI (sme D a g w x b i), nI i)) (D.1 0 1) (fun i hi => ?_) ?_
  · have hle : ¬ D.1 0 1 ≤ i := by omega
    have hgi := hg i hi
    have hwi := tT_Wb hT i hi
    have hww := tT_Wb hT w hw
    have hsp := hS.2.1 i hi
    have e1 : mny a g w x b (i + 1) = mny a g w x b i + (if inH a g w x b i = true then 1 else 0) := rfl
    have e2 : sme D a g w x b (i + 1) = sme D a g w x b i + (if (inH a g w x b i && decide (D.1 5 i = D.1 5 w)) = true then 1 else 0) := rfl
    rw [e1, e2]
    simp (disch := omega) only [f_X11_looks_l9, f_X11_looks_b92_9, ↓zv_eq, ↓zb1_some, ↓zb2_some, ↓zk_true, Option.bind_some, Option.bind_none, Option.map_some, Sum.elim_inl, Sum.elim_inr, if_true, if_false, ↓reduceIte, lt_lit, nI_clamp, zi_in, nI_leI, nI_ltI, nI_eq, nI_add, pk_mul, zi_sub, pk_div, zi_rem, zi_sh1, zi_shr, zi_and1, zi_or, zi_en, zi_ne, zi_ln, zi_nl, zi_lne, zi_nle, zi_nn, zq_01, zq_10, zq_011, zq_at, zq_ta, ite_not, Classical.not_not, hle, hsp, tT_live hT, tT_rh hT, tT_rw hT, tT_rk hT, tT_rla hT, tT_rco hT, tT_rse hT, tT_rno hT, tT_rwa hT, tT_row hT, tT_rst hT, tT_rki hT, tT_rva hT, tT_rtw hT, inH, Bool.and_eq_true, Bool.not_eq_true', decide_eq_true_eq, decide_eq_false_iff_not]
    cases ha : a i with
    | false =>
      simp (disch := omega) only [↓zv_eq, ↓zb1_some, ↓zb2_some, ↓zk_true, Option.bind_some, Option.bind_none, Option.map_some, Sum.elim_inl, Sum.elim_inr, if_true, if_false, ↓reduceIte, lt_lit, nI_clamp, zi_in, nI_leI, nI_ltI, nI_eq, nI_add, pk_mul, zi_sub, pk_div, zi_rem, zi_sh1, zi_shr, zi_and1, zi_or, zi_en, zi_ne, zi_ln, zi_nl, zi_lne, zi_nle, zi_nn, zq_01, zq_10, zq_011, zq_at, zq_ta, ite_not, Classical.not_not, false_and, reduceCtorEq, Nat.add_zero]
      repeat' split
      all_goals rfl
    | true =>
      simp (disch := omega) only [↓zv_eq, ↓zb1_some, ↓zb2_some, ↓zk_true, Option.bind_some, Option.bind_none, Option.map_some, Sum.elim_inl, Sum.elim_inr, if_true, if_false, ↓reduceIte, lt_lit, nI_clamp, zi_in, nI_leI, nI_ltI, nI_eq, nI_add, pk_mul, zi_sub, pk_div, zi_rem, zi_sh1, zi_shr, zi_and1, zi_or, zi_en, zi_ne, zi_ln, zi_nl, zi_lne, zi_nle, zi_nn, zq_01, zq_10, zq_011, zq_at, zq_ta, ite_not, Classical.not_not, true_and]
      by_cases h1 : g i = x
      · by_cases h2 : i = w
        · simp only [h1, h2, if_true, ↓reduceIte, not_true_eq_false, false_and, and_false, if_false, Nat.add_zero]
        · by_cases h3 : nI i = b
          · simp only [h1, h2, h3, if_true, ↓reduceIte, not_true_eq_false, false_and, and_false, if_false, Nat.add_zero]
          · by_cases h4 : D.1 5 i = D.1 5 w
            · simp only [h1, h2, h3, h4, ↓reduceIte, not_false_eq_true, and_self]
            · simp only [h1, h2, h3, h4, ↓reduceIte, not_false_eq_true, and_self, and_false, Nat.add_zero]
      · simp only [h1, ↓reduceIte, false_and, Nat.add_zero]
        repeat' split
        all_goals rfl
  · simp (disch := omega) only [f_X11_looks_l9, ↓zv_eq, ↓zb1_some, ↓zb2_some, ↓zk_true, Option.bind_some, Option.bind_none, Option.map_some, Sum.elim_inl, Sum.elim_inr, if_true, if_false, ↓reduceIte, lt_lit, nI_clamp, zi_in, nI_leI, nI_ltI, nI_eq, nI_add, pk_mul, zi_sub, pk_div, zi_rem, zi_sh1, zi_shr, zi_and1, zi_or, zi_en, zi_ne, zi_ln, zi_nl, zi_lne, zi_nle, zi_nn, zq_01, zq_10, zq_011, zq_at, zq_ta, ite_not, Classical.not_not, Nat.le_refl, tT_live hT, tT_rh hT, tT_rw hT, tT_rk hT, tT_rla hT, tT_rco hT, tT_rse hT, tT_rno hT, tT_rwa hT, tT_row hT, tT_rst hT, tT_rki hT, tT_rva hT, tT_rtw hT]
