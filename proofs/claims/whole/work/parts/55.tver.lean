theorem wQ_T : ∀ x j, wQ x j = true → c_T x j = false := by
  intro x j h
  simp only [wQ, wR, Bool.or_eq_true, Bool.and_eq_true, decide_eq_true_eq] at h
  rcases h with rfl | rfl | ⟨rfl, rfl⟩ <;> rfl
theorem wRo_T : ∀ x j, wRo x j = true → c_T x j = false := by
  intro x j h
  simp only [wRo, wQ, wR, Bool.or_eq_true, Bool.and_eq_true, decide_eq_true_eq] at h
  rcases h with rfl | ⟨rfl, rfl⟩ | rfl | rfl | ⟨rfl, rfl⟩ <;> rfl
theorem r_isHouse0T {M : zm_Mem} {t v : Nat} {D : zD} (hT : iv_T M t v D) {a : Int32} (h : a < 0 ∨ nI (D.1 0 0) ≤ a) : f_X11_isHouse a M = some 0 := by
  have bv := tT_v hT
  have bh := tT_bh hT
  have bw := tT_bw hT
  have bk := tT_bk hT
  unfold f_X11_isHouse
  rw [tT_live hT, zm_ck_t (zm_in_nI (by omega) (by omega)), nI_clamp (by omega), tT_rh hT, r_in0 (by omega) h]
  rfl
theorem r_isHouseT {M : zm_Mem} {t v : Nat} {D : zD} (hT : iv_T M t v D) {j : Nat} (hj : j < D.1 0 0) : f_X11_isHouse (nI j) M = some 1 := by
  have bv := tT_v hT
  have bh := tT_bh hT
  have bw := tT_bw hT
  have bk := tT_bk hT
  unfold f_X11_isHouse
  rw [tT_live hT, zm_ck_t (zm_in_nI (by omega) (by omega)), nI_clamp (by omega), tT_rh hT, r_in1 (by omega) hj]
  rfl
theorem r_isWork0T {M : zm_Mem} {t v : Nat} {D : zD} (hT : iv_T M t v D) {a : Int32} (h : a < 0 ∨ nI (D.1 0 1) ≤ a) : f_X11_isWork a M = some 0 := by
  have bv := tT_v hT
  have bh := tT_bh hT
  have bw := tT_bw hT
  have bk := tT_bk hT
  unfold f_X11_isWork
  rw [tT_live hT, zm_ck_t (zm_in_nI (by omega) (by omega)), nI_clamp (by omega), tT_rw hT, r_in0 (by omega) h]
  rfl
theorem r_isWorkT {M : zm_Mem} {t v : Nat} {D : zD} (hT : iv_T M t v D) {j : Nat} (hj : j < D.1 0 1) : f_X11_isWork (nI j) M = some 1 := by
  have bv := tT_v hT
  have bh := tT_bh hT
  have bw := tT_bw hT
  have bk := tT_bk hT
  unfold f_X11_isWork
  rw [tT_live hT, zm_ck_t (zm_in_nI (by omega) (by omega)), nI_clamp (by omega), tT_rw hT, r_in1 (by omega) hj]
  rfl
theorem r_isTerm0T {M : zm_Mem} {t v : Nat} {D : zD} (hT : iv_T M t v D) {a : Int32} (h : a < 0 ∨ nI (D.1 0 2) ≤ a) : f_X11_isTerm a M = some 0 := by
  have bv := tT_v hT
  have bh := tT_bh hT
  have bw := tT_bw hT
  have bk := tT_bk hT
  unfold f_X11_isTerm
  rw [tT_live hT, zm_ck_t (zm_in_nI (by omega) (by omega)), nI_clamp (by omega), tT_rk hT, r_in0 (by omega) h]
  rfl
theorem r_isTermT {M : zm_Mem} {t v : Nat} {D : zD} (hT : iv_T M t v D) {j : Nat} (hj : j < D.1 0 2) : f_X11_isTerm (nI j) M = some 1 := by
  have bv := tT_v hT
  have bh := tT_bh hT
  have bw := tT_bw hT
  have bk := tT_bk hT
  unfold f_X11_isTerm
  rw [tT_live hT, zm_ck_t (zm_in_nI (by omega) (by omega)), nI_clamp (by omega), tT_rk hT, r_in1 (by omega) hj]
  rfl
theorem r_isPair0T {M : zm_Mem} {t v : Nat} {D : zD} (hT : iv_T M t v D) {a b : Int32} (h : (a < 0 ∨ nI (D.1 0 1) ≤ a) ∨ (∃ j, j < D.1 0 1 ∧ a = nI j) ∧ (b < 0 ∨ nI (D.1 0 0) ≤ b)) : f_X11_isPair a b M = some 0 := by
  unfold f_X11_isPair f_X11_isPair_b20
  rcases h with h | ⟨⟨j, hj, rfl⟩, h⟩
  · rw [r_isWork0T hT h]; rfl
  · rw [r_isWorkT hT hj, zb1_some, if_neg (by decide), r_isHouse0T hT h]; rfl
theorem r_isPairT {M : zm_Mem} {t v : Nat} {D : zD} (hT : iv_T M t v D) {w x : Nat} (hw : w < D.1 0 1) (hx : x < D.1 0 0) : f_X11_isPair (nI w) (nI x) M = some 1 := by
  unfold f_X11_isPair
  rw [r_isWorkT hT hw, zb1_some, if_neg (by decide), r_isHouseT hT hx]; rfl
theorem r_copiesT {M : zm_Mem} {t v : Nat} {D : zD} (hT : iv_T M t v D) : f_X11_copies M = some ((), zm_sI (cpM M 92 0 60 (M.1 91)) 52 58 (nI (D.1 0 5))) := by
  have bv := tT_v hT
  have bh := tT_bh hT
  have bw := tT_bw hT
  have bk := tT_bk hT
  have key : zm_lp (fun s => f_X11_copies_l2 s.1 s.2) (0, M) = some (cpM M 92 0 60 (M.1 91)) := by
    refine lp_cpy M 92 0 60 (M.1 91) (fun i hi => ?_) ?_
    · have hle : ¬ 60 ≤ i := by omega
      have e91 : (cpM M 92 0 i (M.1 91)).1 91 i = M.1 91 i := mC_ne (by omega)
      simp (disch := omega) only [f_X11_copies_l2, ↓zv_eq, ↓zb1_some, ↓zb2_some, ↓zk_true, Option.bind_some, Option.bind_none, Option.map_some, Sum.elim_inl, Sum.elim_inr, if_true, if_false, ↓reduceIte, lt_lit, nI_clamp, zi_in, nI_leI, nI_ltI, nI_eq, nI_add, pk_mul, zi_sub, pk_div, zi_rem, zi_sh1, zi_shr, zi_and1, zi_or, zi_en, zi_ne, zi_ln, zi_nl, zi_lne, zi_nle, zi_nn, zq_01, zq_10, zq_011, zq_at, zq_ta, ite_not, Classical.not_not, hle, e91, Nat.zero_add]
    · simp (disch := omega) only [f_X11_copies_l2, ↓zv_eq, ↓zb1_some, ↓zb2_some, ↓zk_true, Option.bind_some, Option.bind_none, Option.map_some, Sum.elim_inl, Sum.elim_inr, if_true, if_false, ↓reduceIte, lt_lit, nI_clamp, zi_in, nI_leI, nI_ltI, nI_eq, nI_add, pk_mul, zi_sub, pk_div, zi_rem, zi_sh1, zi_shr, zi_and1, zi_or, zi_en, zi_ne, zi_ln, zi_nl, zi_lne, zi_nle, zi_nn, zq_01, zq_10, zq_011, zq_at, zq_ta, ite_not, Classical.not_not, Nat.le_refl]
  unfold f_X11_copies
  rw [key]
  simp only [Option.bind_some]
  unfold f_X11_copies_x26_2
  have h52 : (cpM M 92 0 60 (M.1 91)).1 52 18 = nI v := (mC_ne (by omega)).trans (tT_live hT)
  have h78 : (cpM M 92 0 60 (M.1 91)).1 78 v = nI (D.1 0 5) := (mC_ne (by omega)).trans (tT_rse hT)
  simp (disch := omega) only [↓zv_eq, ↓zb1_some, ↓zb2_some, ↓zk_true, Option.bind_some, Option.bind_none, Option.map_some, Sum.elim_inl, Sum.elim_inr, if_true, if_false, ↓reduceIte, lt_lit, nI_clamp, zi_in, nI_leI, nI_ltI, nI_eq, nI_add, pk_mul, zi_sub, pk_div, zi_rem, zi_sh1, zi_shr, zi_and1, zi_or, zi_en, zi_ne, zi_ln, zi_nl, zi_lne, zi_nle, zi_nn, zq_01, zq_10, zq_011, zq_at, zq_ta, ite_not, Classical.not_not, h52, h78]
theorem r_looksT {M : zm_Mem} {t v dy li : Nat} {D : zD} {a : Nat → Bool} {g : Nat → Nat} (hT : iv_T M t v D) (hS : Rw M D a g dy li) {w x : Nat} (hw : w < D.1 0 1) (hx : x < D.1 0 0) {m s : Nat} {al b : Int32} (hl : zm_lp (fun s => f_X11_looks_l9 (nI w) (nI x) al b M s.1 s.2.1 s.2.2) (0, 0, 0) = some (nI m, nI s)) : ∃ M', f_X11_looks (nI w) (nI x) al b M = some ((), M') ∧ Fr wQ M M' ∧ ∀ i, i < 9 → M'.1 89 i = vr D w x m s dy i := by
  have bv := tT_v hT
  have bh := tT_bh hT
  have bw := tT_bw hT
  have bk := tT_bk hT
  have hwb := tT_Wb hT w hw
  refine ⟨zm_sI (zm_sI (zm_sI (zm_sI (zm_sI (zm_sI (zm_sI (zm_sI (zm_sI M 89 0 (nI (D.1 1 x))) 89 1 (nI (D.1 2 x))) 89 2 (nI (D.1 5 w))) 89 3 (nI (D.1 6 w))) 89 4 (nI m)) 89 5 (nI s)) 89 6 (if D.1 3 w = x then nI 1 else nI 0)) 89 7 (nI x)) 89 8 (nI dy), ?_, ?_, ?_⟩
  · unfold f_X11_looks
    rw [hl]
    simp only [Option.bind_some]
    unfold f_X11_looks_b98 f_X11_looks_b212 f_X11_ownerNow
    have h30 := hS.1
    simp (disch := omega) only [↓zv_eq, ↓zb1_some, ↓zb2_some, ↓zk_true, Option.bind_some, Option.bind_none, Option.map_some, Sum.elim_inl, Sum.elim_inr, if_true, if_false, ↓reduceIte, lt_lit, nI_clamp, zi_in, nI_leI, nI_ltI, nI_eq, nI_add, pk_mul, zi_sub, pk_div, zi_rem, zi_sh1, zi_shr, zi_and1, zi_or, zi_en, zi_ne, zi_ln, zi_nl, zi_lne, zi_nle, zi_nn, zq_01, zq_10, zq_011, zq_at, zq_ta, ite_not, Classical.not_not, mI2, mI1, tT_live hT, tT_rh hT, tT_rw hT, tT_rk hT, tT_rla hT, tT_rco hT, tT_rse hT, tT_rno hT, tT_rwa hT, tT_row hT, tT_rst hT, tT_rki hT, tT_rva hT, tT_rtw hT, Nat.reduceEqDiff, false_and, h30]
    split <;> rfl
  · exact fr_tr (fr_tr (fr_tr (fr_tr (fr_tr (fr_tr (fr_tr (fr_tr (fr_sI rfl) (fr_sI rfl)) (fr_sI rfl)) (fr_sI rfl)) (fr_sI rfl)) (fr_sI rfl)) (fr_sI rfl)) (fr_sI rfl)) (fr_sI rfl)
  · exact lt9 rfl rfl rfl rfl rfl rfl rfl rfl rfl
theorem r_looks1T {M : zm_Mem} {t v dy li : Nat} {D : zD} {a : Nat → Bool} {g : Nat → Nat} (hT : iv_T M t v D) (hS : Rw M D a g dy li) {w x : Nat} (b : Int32) (hw : w < D.1 0 1) (hx : x < D.1 0 0) : ∃ M', f_X11_looks (nI w) (nI x) 1 b M = some ((), M') ∧ Fr wQ M M' ∧ ∀ i, i < 9 → M'.1 89 i = vr D w x 0 0 dy i := by
  have bv := tT_v hT
  have bh := tT_bh hT
  have bw := tT_bw hT
  have bk := tT_bk hT
  refine r_looksT hT hS hw hx (lp_end ?_)
  have hle : ¬ D.1 0 1 ≤ 0 := by omega
  simp (disch := omega) only [f_X11_looks_l9, ↓zv_eq, ↓zb1_some, ↓zb2_some, ↓zk_true, Option.bind_some, Option.bind_none, Option.map_some, Sum.elim_inl, Sum.elim_inr, if_true, if_false, ↓reduceIte, lt_lit, nI_clamp, zi_in, nI_leI, nI_ltI, nI_eq, nI_add, pk_mul, zi_sub, pk_div, zi_rem, zi_sh1, zi_shr, zi_and1, zi_or, zi_en, zi_ne, zi_ln, zi_nl, zi_lne, zi_nle, zi_nn, zq_01, zq_10, zq_011, zq_at, zq_ta, ite_not, Classical.not_not, hle, tT_live hT, tT_rh hT, tT_rw hT, tT_rk hT, tT_rla hT, tT_rco hT, tT_rse hT, tT_rno hT, tT_rwa hT, tT_row hT, tT_rst hT, tT_rki hT, tT_rva hT, tT_rtw hT, Nat.reduceEqDiff]
theorem r_tripOfT {M : zm_Mem} {t v dy li : Nat} {D : zD} {a : Nat → Bool} {g : Nat → Nat} (h25 : t = 25 ∨ t = 36) (hT : iv_T M t v D) (hS : Rw M D a g dy li) {w x : Nat} (hw : w < D.1 0 1) (hx : x < D.1 0 0) : ∃ M', f_X11_tripOf (nI w) (nI x) M = some (tp D (vr D w x 0 0 dy), M') ∧ Fr wQ M M' := by
  have bv := tT_v hT
  have bh := tT_bh hT
  have bw := tT_bw hT
  have bk := tT_bk hT
  obtain ⟨M1, e1, f1, v1⟩ := r_looks1T hT hS (-1) hw hx
  have hT1 := iT_fr h25 f1 wQ_T hT
  have h3 : ∃ M', f_X11_asks 0 3 1 99 M1 = some (tp D (vr D w x 0 0 dy), M') ∧ Fr wR M1 M' := r_asks (i := 0) (plain := 3) (lo := 1) (hi := 99) bv (by omega) (tT_live hT1) (tT_law0 hT1) rfl (by decide) v1
  obtain ⟨M2, e2, f2⟩ := h3
  refine ⟨M2, ?_, fr_tr f1 (frR_Q f2)⟩
  unfold f_X11_tripOf
  rw [e1, zb2_some, e2, zb2_some]

/-! days ahead: the reference's row, as works come in -/
def RwA (M : zm_Mem) (D : zD) (S : Nat → Nat) (e : Nat → Nat) : Prop := ∀ j, j < D.1 0 1 → M.1 92 j = (if S (10 + j) ≤ e j then nI (S (4 + j)) else -nI 2) ∧ M.1 92 (6 + j) = (if S (10 + j) ≤ e j then -nI 2 else nI (S (4 + j))) ∧ M.1 92 (12 + j) = (if S (10 + j) ≤ e j then -nI 2 else nI (S (10 + j)))
def w92 (x _j : Nat) : Bool := decide (x = 92)
theorem sc_92 {M M' : zm_Mem} (h : Fr w92 M M') : Sc M M' := fr_sc (fun x j h => by unfold w92 at h; rw [decide_eq_true_eq] at h; subst h; rfl) h
theorem w92_T : ∀ x j, w92 x j = true → c_T x j = false := by
  intro x j h
  simp only [w92, decide_eq_true_eq] at h
  subst h; rfl
theorem r_arrivesT {M : zm_Mem} {t v d d' : Nat} {D : zD} {S : Nat → Nat} (h25 : t = 25 ∨ t = 36) (hT : iv_T M t v D) (hB : ∀ j, j < D.1 0 1 → S (4 + j) < 5 ∧ S (10 + j) < 100000) (h30 : M.1 92 30 = nI d') (hd : d ≤ d') (hd' : d' < 100000) (hA : RwA M D S (fun _ => d)) : ∃ M', f_X11_arrives M = some ((), M') ∧ Fr w92 M M' ∧ (∀ j, 18 ≤ j → M'.1 92 j = M.1 92 j) ∧ RwA M' D S (fun _ => d') := by
  have bv := tT_v hT
  have bh := tT_bh hT
  have bw := tT_bw hT
  have bk := tT_bk hT
  have H1 : ∀ i (s : Int32 × zm_Mem), i < D.1 0 1 → (s.1 = nI i ∧ Fr w92 M s.2 ∧ (∀ j, 18 ≤ j → s.2.1 92 j = M.1 92 j) ∧ RwA s.2 D S (fun j => if j < i then d' else d)) → (∃ s', f_X11_arrives_l2 s.1 s.2 = some (.inl s') ∧ (s'.1 = nI (i + 1) ∧ Fr w92 M s'.2 ∧ (∀ j, 18 ≤ j → s'.2.1 92 j = M.1 92 j) ∧ RwA s'.2 D S (fun j => if j < i + 1 then d' else d))) ∨ (∃ e, f_X11_arrives_l2 s.1 s.2 = some (.inr e) ∧ (Fr w92 M e ∧ (∀ j, 18 ≤ j → e.1 92 j = M.1 92 j) ∧ RwA e D S (fun _ => d'))) := by
    intro i s hi hP
    obtain ⟨i', L⟩ := s
    obtain ⟨p1, p2, p3, p4⟩ := hP
    simp only at p1 p2 p3 p4
    subst p1
    have hTL := iT_fr h25 p2 w92_T hT
    have hle : ¬ D.1 0 1 ≤ i := by omega
    have hb := hB i hi
    obtain ⟨q1, q2, q3⟩ := p4 i hi
    have q30 : L.1 92 30 = nI d' := (p3 30 (by omega)).trans h30
    have hneg : ¬ (nI 0 ≤ -nI 2) := by decide
    have hii : ¬ i < i := by omega
    simp only [hii, if_false] at q1 q2 q3
    refine Or.inl ?_
    by_cases h1 : S (10 + i) ≤ d
    · rw [if_pos h1] at q1 q2 q3
      refine ⟨(nI (i + 1), L), ?_, rfl, p2, p3, fun j hj => ?_⟩
      · simp (disch := omega) only [f_X11_arrives_l2, f_X11_arrives_b83_2, ↓zv_eq, ↓zb1_some, ↓zb2_some, ↓zk_true, Option.bind_some, Option.bind_none, Option.map_some, Sum.elim_inl, Sum.elim_inr, if_true, if_false, ↓reduceIte, lt_lit, nI_clamp, zi_in, nI_leI, nI_ltI, nI_eq, nI_add, pk_mul, zi_sub, pk_div, zi_rem, zi_sh1, zi_shr, zi_and1, zi_or, zi_en, zi_ne, zi_ln, zi_nl, zi_lne, zi_nle, zi_nn, zq_01, zq_10, zq_011, zq_at, zq_ta, ite_not, Classical.not_not, tT_live hTL, tT_rw hTL, hle, q1, Nat.zero_le]
      · obtain ⟨r1, r2, r3⟩ := p4 j hj
        by_cases hji : j = i
        · subst hji
          simp only [hii, if_false, h1, if_true] at r1 r2 r3
          have : S (10 + j) ≤ d' := by omega
          have hlt : j < j + 1 := by omega
          simp only [hlt, if_true, this]
          exact ⟨r1, r2, r3⟩
        · have : (if j < i + 1 then d' else d) = (if j < i then d' else d) := by
            by_cases hc : j < i
            · rw [if_pos hc, if_pos (by omega)]
            · rw [if_neg hc, if_neg (by omega)]
          simp only [this]
          exact ⟨r1, r2, r3⟩
    · rw [if_neg h1] at q1 q2 q3
      by_cases h2 : S (10 + i) ≤ d'
      · refine ⟨(nI (i + 1), zm_sI (zm_sI (zm_sI L 92 i (nI (S (4 + i)))) 92 (6 + i) (-nI 2)) 92 (12 + i) (-nI 2)), ?_, rfl, fr_tr p2 (fr_tr (fr_tr (fr_sI rfl) (fr_sI rfl)) (fr_sI rfl)), fun j hj => ?_, fun j hj => ?_⟩
        · simp (disch := omega) only [f_X11_arrives_l2, f_X11_arrives_b83_2, ↓zv_eq, ↓zb1_some, ↓zb2_some, ↓zk_true, Option.bind_some, Option.bind_none, Option.map_some, Sum.elim_inl, Sum.elim_inr, if_true, if_false, ↓reduceIte, lt_lit, nI_clamp, zi_in, nI_leI, nI_ltI, nI_eq, nI_add, pk_mul, zi_sub, pk_div, zi_rem, zi_sh1, zi_shr, zi_and1, zi_or, zi_en, zi_ne, zi_ln, zi_nl, zi_lne, zi_nle, zi_nn, zq_01, zq_10, zq_011, zq_at, zq_ta, ite_not, Classical.not_not, tT_live hTL, tT_rw hTL, hle, q1, q2, q3, q30, hneg, h2]
        · rw [mI1, if_neg (by omega), mI1, if_neg (by omega), mI1, if_neg (by omega)]
          exact p3 j hj
        · obtain ⟨r1, r2, r3⟩ := p4 j hj
          by_cases hji : j = i
          · subst hji
            have hlt : j < j + 1 := by omega
            simp only [hlt, if_true, h2]
            refine ⟨?_, ?_, ?_⟩
            · rw [mI1, if_neg (by omega), mI1, if_neg (by omega), mI1, if_pos ⟨rfl, rfl⟩]
            · rw [mI1, if_neg (by omega), mI1, if_pos ⟨rfl, rfl⟩]
            · rw [mI1, if_pos ⟨rfl, rfl⟩]
          · have : (if j < i + 1 then d' else d) = (if j < i then d' else d) := by
              by_cases hc : j < i
              · rw [if_pos hc, if_pos (by omega)]
              · rw [if_neg hc, if_neg (by omega)]
            simp only [this]
            refine ⟨?_, ?_, ?_⟩
            · rw [mI1, if_neg (by omega), mI1, if_neg (by omega), mI1, if_neg (by omega)]; exact r1
            · rw [mI1, if_neg (by omega), mI1, if_neg (by omega), mI1, if_neg (by omega)]; exact r2
            · rw [mI1, if_neg (by omega), mI1, if_neg (by omega), mI1, if_neg (by omega)]; exact r3
      · refine ⟨(nI (i + 1), L), ?_, rfl, p2, p3, fun j hj => ?_⟩
        · simp (disch := omega) only [f_X11_arrives_l2, f_X11_arrives_b83_2, ↓zv_eq, ↓zb1_some, ↓zb2_some, ↓zk_true, Option.bind_some, Option.bind_none, Option.map_some, Sum.elim_inl, Sum.elim_inr, if_true, if_false, ↓reduceIte, lt_lit, nI_clamp, zi_in, nI_leI, nI_ltI, nI_eq, nI_add, pk_mul, zi_sub, pk_div, zi_rem, zi_sh1, zi_shr, zi_and1, zi_or, zi_en, zi_ne, zi_ln, zi_nl, zi_lne, zi_nle, zi_nn, zq_01, zq_10, zq_011, zq_at, zq_ta, ite_not, Classical.not_not, tT_live hTL, tT_rw hTL, hle, q1, q2, q3, q30, hneg, h2]
        · obtain ⟨r1, r2, r3⟩ := p4 j hj
          by_cases hji : j = i
          · subst hji
            simp only [hii, if_false, h1] at r1 r2 r3
            have hlt : j < j + 1 := by omega
            simp only [hlt, if_true, h2, if_false]
            exact ⟨r1, r2, r3⟩
          · have : (if j < i + 1 then d' else d) = (if j < i then d' else d) := by
              by_cases hc : j < i
              · rw [if_pos hc, if_pos (by omega)]
              · rw [if_neg hc, if_neg (by omega)]
            simp only [this]
            exact ⟨r1, r2, r3⟩
  have H2 : ∀ (s : Int32 × zm_Mem), (s.1 = nI (D.1 0 1) ∧ Fr w92 M s.2 ∧ (∀ j, 18 ≤ j → s.2.1 92 j = M.1 92 j) ∧ RwA s.2 D S (fun j => if j < D.1 0 1 then d' else d)) → (∃ e, f_X11_arrives_l2 s.1 s.2 = some (.inr e) ∧ (Fr w92 M e ∧ (∀ j, 18 ≤ j → e.1 92 j = M.1 92 j) ∧ RwA e D S (fun _ => d'))) := by
    intro s hP
    obtain ⟨i', L⟩ := s
    obtain ⟨p1, p2, p3, p4⟩ := hP
    simp only at p1 p2 p3 p4
    subst p1
    have hTL := iT_fr h25 p2 w92_T hT
    refine ⟨L, ?_, p2, p3, fun j hj => ?_⟩
    · simp (disch := omega) only [f_X11_arrives_l2, ↓zv_eq, ↓zb1_some, ↓zb2_some, ↓zk_true, Option.bind_some, Option.bind_none, Option.map_some, Sum.elim_inl, Sum.elim_inr, if_true, if_false, ↓reduceIte, lt_lit, nI_clamp, zi_in, nI_leI, nI_ltI, nI_eq, nI_add, pk_mul, zi_sub, pk_div, zi_rem, zi_sh1, zi_shr, zi_and1, zi_or, zi_en, zi_ne, zi_ln, zi_nl, zi_lne, zi_nle, zi_nn, zq_01, zq_10, zq_011, zq_at, zq_ta, ite_not, Classical.not_not, tT_live hTL, tT_rw hTL, Nat.le_refl]
    · have := p4 j hj
      simp only [hj, if_true] at this
      exact this
  obtain ⟨e, h1, h2, h3, h4⟩ := lp_inv (step := fun s => f_X11_arrives_l2 s.1 s.2) (fun i s => s.1 = nI i ∧ Fr w92 M s.2 ∧ (∀ j, 18 ≤ j → s.2.1 92 j = M.1 92 j) ∧ RwA s.2 D S (fun j => if j < i then d' else d)) (fun e => Fr w92 M e ∧ (∀ j, 18 ≤ j → e.1 92 j = M.1 92 j) ∧ RwA e D S (fun _ => d')) (D.1 0 1) H1 H2 (s := (0, M)) ⟨rfl, fr_rfl _ M, fun _ _ => rfl, fun j hj => by
    have := hA j hj
    simp only [Nat.not_lt_zero, if_false]
    exact this⟩
  refine ⟨e, ?_, h2, h3, h4⟩
  unfold f_X11_arrives
  rw [h1]; rfl
theorem r_arrives {M : zm_Mem} {t v n d d' : Nat} {D : zD} {S : Nat → Nat} (hn : n < 512) (hC : Cx M t v D S n) (h30 : M.1 92 30 = nI d') (hd : d ≤ d') (hd' : d' < 100000) (hA : RwA M D S (fun _ => d)) : ∃ M', f_X11_arrives M = some ((), M') ∧ Fr w92 M M' ∧ (∀ j, 18 ≤ j → M'.1 92 j = M.1 92 j) ∧ RwA M' D S (fun _ => d') :=
  r_arrivesT hC.1 hC.2.2.1 (fun j hj => by have := (cx_b hC).2 j hj; have := tT_bh hC.2.2.1; omega) h30 hd hd' hA
theorem rwA_copies {M : zm_Mem} {t v n : Nat} {D : zD} {S : Nat → Nat} (hC : Cx M t v D S n) : RwA (zm_sI (cpM M 92 0 60 (M.1 91)) 52 58 (nI (D.1 0 5))) D S (fun _ => S 0) := by
  have ht := hC.2.1
  have hT := hC.2.2.1
  have hR := hC.2.2.2
  have bI := cx_isT hC
  have bv := tT_v hT
  have bh := tT_bh hT
  have bw := tT_bw hT
  have bk := tT_bk hT
  have h92 : ∀ j, j < 60 → (zm_sI (cpM M 92 0 60 (M.1 91)) 52 58 (nI (D.1 0 5))).1 92 j = M.1 91 j := by
    intro j hj
    rw [mI1, if_neg (by omega), mC_in hj]
  intro j hj
  refine ⟨(h92 j (by omega)).trans (tR_rp hR j hj), (h92 (6 + j) (by omega)).trans (tR_rg hR j hj), (h92 (12 + j) (by omega)).trans (tR_ra hR j hj)⟩
theorem rw_of_A {M : zm_Mem} {D : zD} {S : Nat → Nat} {d li : Nat} (h : RwA M D S (fun _ => d)) (h30 : M.1 92 30 = nI d) (hl : ∀ j, j < D.1 0 2 → M.1 92 (24 + j) = nI (li / 2 ^ j % 2)) : Rw M D (isAt S d) (fun j => S (4 + j)) d li := by
  refine ⟨h30, fun j hj => (h j hj).1.trans ?_, hl⟩
  simp only [isAt, decide_eq_true_eq]
theorem rwA_Q {M M' : zm_Mem} {D : zD} {S : Nat → Nat} {e : Nat → Nat} (hF : Fr wQ M M') (h : RwA M D S e) : RwA M' D S e := fun j hj => ⟨(hF.2 92 j rfl).trans (h j hj).1, (hF.2 92 (6 + j) rfl).trans (h j hj).2.1, (hF.2 92 (12 + j) rfl).trans (h j hj).2.2⟩
