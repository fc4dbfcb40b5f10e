theorem cx_isT {M : zm_Mem} {t v n : Nat} {D : zD} {S : Nat → Nat} (hC : Cx M t v D S n) : zm_isT t = true := by
  rcases hC.1 with rfl | rfl <;> rfl
theorem fb_0 : (decide (nI 0 &&& nI 1 = nI 0) && fits .boolean (.int (nI 0))) = true := by decide
theorem fb_1 : (decide (nI 1 &&& nI 1 = nI 1) && fits .boolean (.int (nI 1))) = true := by decide
/-! is it a house, a work, a term? class and reference -/
theorem c_isHouse0 {M : zm_Mem} {t v n : Nat} {D : zD} {S : Nat → Nat} (hC : Cx M t v D S n) {a : Int32} (h : a < 0 ∨ nI (D.1 0 0) ≤ a) : f_X10_isHouse a M = some 0 := by
  have ht := hC.2.1
  have hT := hC.2.2.1
  have hR := hC.2.2.2
  have bI := cx_isT hC
  have bv := tT_v hT
  have bh := tT_bh hT
  have bw := tT_bw hT
  have bk := tT_bk hT
  unfold f_X10_isHouse f_X10_isHouse_b19
  by_cases h0 : a < 0
  · rw [if_pos h0]
  · rw [if_neg h0]
    simp only [↓zv_eq, ↓zb1_some, ↓zb2_some, ↓zk_true, Option.bind_some, Option.bind_none, Option.map_some, Sum.elim_inl, Sum.elim_inr, if_true, if_false, ↓reduceIte, ht, bI, tT_h hT]
    rw [if_pos (h.resolve_left h0)]
theorem c_isHouse {M : zm_Mem} {t v n : Nat} {D : zD} {S : Nat → Nat} (hC : Cx M t v D S n) {j : Nat} (hj : j < D.1 0 0) : f_X10_isHouse (nI j) M = some 1 := by
  have ht := hC.2.1
  have hT := hC.2.2.1
  have hR := hC.2.2.2
  have bI := cx_isT hC
  have bv := tT_v hT
  have bh := tT_bh hT
  have bw := tT_bw hT
  have bk := tT_bk hT
  unfold f_X10_isHouse
  rw [if_neg (nI_pos (by omega))]
  simp only [↓zv_eq, ↓zb1_some, ↓zb2_some, ↓zk_true, Option.bind_some, Option.bind_none, Option.map_some, Sum.elim_inl, Sum.elim_inr, if_true, if_false, ↓reduceIte, ht, bI, tT_h hT]
  rw [if_neg (nI_ge hj (by omega))]
theorem c_isWork0 {M : zm_Mem} {t v n : Nat} {D : zD} {S : Nat → Nat} (hC : Cx M t v D S n) {a : Int32} (h : a < 0 ∨ nI (D.1 0 1) ≤ a) : f_X10_isWork a M = some 0 := by
  have ht := hC.2.1
  have hT := hC.2.2.1
  have hR := hC.2.2.2
  have bI := cx_isT hC
  have bv := tT_v hT
  have bh := tT_bh hT
  have bw := tT_bw hT
  have bk := tT_bk hT
  unfold f_X10_isWork f_X10_isWork_b19
  by_cases h0 : a < 0
  · rw [if_pos h0]
  · rw [if_neg h0]
    simp only [↓zv_eq, ↓zb1_some, ↓zb2_some, ↓zk_true, Option.bind_some, Option.bind_none, Option.map_some, Sum.elim_inl, Sum.elim_inr, if_true, if_false, ↓reduceIte, ht, bI, tT_w hT]
    rw [if_pos (h.resolve_left h0)]
theorem c_isWork {M : zm_Mem} {t v n : Nat} {D : zD} {S : Nat → Nat} (hC : Cx M t v D S n) {j : Nat} (hj : j < D.1 0 1) : f_X10_isWork (nI j) M = some 1 := by
  have ht := hC.2.1
  have hT := hC.2.2.1
  have hR := hC.2.2.2
  have bI := cx_isT hC
  have bv := tT_v hT
  have bh := tT_bh hT
  have bw := tT_bw hT
  have bk := tT_bk hT
  unfold f_X10_isWork
  rw [if_neg (nI_pos (by omega))]
  simp only [↓zv_eq, ↓zb1_some, ↓zb2_some, ↓zk_true, Option.bind_some, Option.bind_none, Option.map_some, Sum.elim_inl, Sum.elim_inr, if_true, if_false, ↓reduceIte, ht, bI, tT_w hT]
  rw [if_neg (nI_ge hj (by omega))]
theorem c_isTerm0 {M : zm_Mem} {t v n : Nat} {D : zD} {S : Nat → Nat} (hC : Cx M t v D S n) {a : Int32} (h : a < 0 ∨ nI (D.1 0 2) ≤ a) : f_X10_isTerm a M = some 0 := by
  have ht := hC.2.1
  have hT := hC.2.2.1
  have hR := hC.2.2.2
  have bI := cx_isT hC
  have bv := tT_v hT
  have bh := tT_bh hT
  have bw := tT_bw hT
  have bk := tT_bk hT
  unfold f_X10_isTerm f_X10_isTerm_b19
  by_cases h0 : a < 0
  · rw [if_pos h0]
  · rw [if_neg h0]
    simp only [↓zv_eq, ↓zb1_some, ↓zb2_some, ↓zk_true, Option.bind_some, Option.bind_none, Option.map_some, Sum.elim_inl, Sum.elim_inr, if_true, if_false, ↓reduceIte, ht, bI, tT_k hT]
    rw [if_pos (h.resolve_left h0)]
theorem c_isTerm {M : zm_Mem} {t v n : Nat} {D : zD} {S : Nat → Nat} (hC : Cx M t v D S n) {j : Nat} (hj : j < D.1 0 2) : f_X10_isTerm (nI j) M = some 1 := by
  have ht := hC.2.1
  have hT := hC.2.2.1
  have hR := hC.2.2.2
  have bI := cx_isT hC
  have bv := tT_v hT
  have bh := tT_bh hT
  have bw := tT_bw hT
  have bk := tT_bk hT
  unfold f_X10_isTerm
  rw [if_neg (nI_pos (by omega))]
  simp only [↓zv_eq, ↓zb1_some, ↓zb2_some, ↓zk_true, Option.bind_some, Option.bind_none, Option.map_some, Sum.elim_inl, Sum.elim_inr, if_true, if_false, ↓reduceIte, ht, bI, tT_k hT]
  rw [if_neg (nI_ge hj (by omega))]
theorem r_in0 {M : zm_Mem} {a : Int32} {b : Nat} (hb : b < 2 ^ 31) (h : a < 0 ∨ nI b ≤ a) : f_X11_in a 0 (nI b - 1) M = some 0 := by
  unfold f_X11_in f_X11_in_b14
  by_cases h0 : a < 0
  · rw [if_pos h0]
  · rw [if_neg h0, if_pos (show nI b - 1 < a from (zj_m1 hb h0).2 (h.resolve_left h0))]
theorem r_in1 {M : zm_Mem} {j b : Nat} (hb : b < 2 ^ 31) (hj : j < b) : f_X11_in (nI j) 0 (nI b - 1) M = some 1 := by
  unfold f_X11_in
  rw [if_neg (nI_pos (by omega)), if_neg]
  intro h
  exact nI_ge hj hb ((zj_m1 hb (nI_pos (by omega))).1 h)
theorem r_isHouse0 {M : zm_Mem} {t v n : Nat} {D : zD} {S : Nat → Nat} (hC : Cx M t v D S n) {a : Int32} (h : a < 0 ∨ nI (D.1 0 0) ≤ a) : f_X11_isHouse a M = some 0 := by
  have ht := hC.2.1
  have hT := hC.2.2.1
  have hR := hC.2.2.2
  have bI := cx_isT hC
  have bv := tT_v hT
  have bh := tT_bh hT
  have bw := tT_bw hT
  have bk := tT_bk hT
  unfold f_X11_isHouse
  rw [tT_live hT, zm_ck_t (zm_in_nI (by omega) (by omega)), nI_clamp (by omega), tT_rh hT, r_in0 (by omega) h]
  rfl
theorem r_isHouse {M : zm_Mem} {t v n : Nat} {D : zD} {S : Nat → Nat} (hC : Cx M t v D S n) {j : Nat} (hj : j < D.1 0 0) : f_X11_isHouse (nI j) M = some 1 := by
  have ht := hC.2.1
  have hT := hC.2.2.1
  have hR := hC.2.2.2
  have bI := cx_isT hC
  have bv := tT_v hT
  have bh := tT_bh hT
  have bw := tT_bw hT
  have bk := tT_bk hT
  unfold f_X11_isHouse
  rw [tT_live hT, zm_ck_t (zm_in_nI (by omega) (by omega)), nI_clamp (by omega), tT_rh hT, r_in1 (by omega) hj]
  rfl
theorem r_isWork0 {M : zm_Mem} {t v n : Nat} {D : zD} {S : Nat → Nat} (hC : Cx M t v D S n) {a : Int32} (h : a < 0 ∨ nI (D.1 0 1) ≤ a) : f_X11_isWork a M = some 0 := by
  have ht := hC.2.1
  have hT := hC.2.2.1
  have hR := hC.2.2.2
  have bI := cx_isT hC
  have bv := tT_v hT
  have bh := tT_bh hT
  have bw := tT_bw hT
  have bk := tT_bk hT
  unfold f_X11_isWork
  rw [tT_live hT, zm_ck_t (zm_in_nI (by omega) (by omega)), nI_clamp (by omega), tT_rw hT, r_in0 (by omega) h]
  rfl
theorem r_isWork {M : zm_Mem} {t v n : Nat} {D : zD} {S : Nat → Nat} (hC : Cx M t v D S n) {j : Nat} (hj : j < D.1 0 1) : f_X11_isWork (nI j) M = some 1 := by
  have ht := hC.2.1
  have hT := hC.2.2.1
  have hR := hC.2.2.2
  have bI := cx_isT hC
  have bv := tT_v hT
  have bh := tT_bh hT
  have bw := tT_bw hT
  have bk := tT_bk hT
  unfold f_X11_isWork
  rw [tT_live hT, zm_ck_t (zm_in_nI (by omega) (by omega)), nI_clamp (by omega), tT_rw hT, r_in1 (by omega) hj]
  rfl
theorem r_isTerm0 {M : zm_Mem} {t v n : Nat} {D : zD} {S : Nat → Nat} (hC : Cx M t v D S n) {a : Int32} (h : a < 0 ∨ nI (D.1 0 2) ≤ a) : f_X11_isTerm a M = some 0 := by
  have ht := hC.2.1
  have hT := hC.2.2.1
  have hR := hC.2.2.2
  have bI := cx_isT hC
  have bv := tT_v hT
  have bh := tT_bh hT
  have bw := tT_bw hT
  have bk := tT_bk hT
  unfold f_X11_isTerm
  rw [tT_live hT, zm_ck_t (zm_in_nI (by omega) (by omega)), nI_clamp (by omega), tT_rk hT, r_in0 (by omega) h]
  rfl
theorem r_isTerm {M : zm_Mem} {t v n : Nat} {D : zD} {S : Nat → Nat} (hC : Cx M t v D S n) {j : Nat} (hj : j < D.1 0 2) : f_X11_isTerm (nI j) M = some 1 := by
  have ht := hC.2.1
  have hT := hC.2.2.1
  have hR := hC.2.2.2
  have bI := cx_isT hC
  have bv := tT_v hT
  have bh := tT_bh hT
  have bw := tT_bw hT
  have bk := tT_bk hT
  unfold f_X11_isTerm
  rw [tT_live hT, zm_ck_t (zm_in_nI (by omega) (by omega)), nI_clamp (by omega), tT_rk hT, r_in1 (by omega) hj]
  rfl
theorem ix_cases (x : Int32) {b : Nat} (hb : b < 2 ^ 31) : (x < 0 ∨ nI b ≤ x) ∨ ∃ j, j < b ∧ x = nI j := by
  rcases pk_ix x hb with h | h | h
  · exact Or.inl (Or.inl h)
  · exact Or.inl (Or.inr h)
  · exact Or.inr h
/-! the state's readers -/
theorem c_today {M : zm_Mem} {t v n : Nat} {D : zD} {S : Nat → Nat} (hC : Cx M t v D S n) : f_X4_today M = some (nI (S 0)) := by
  unfold f_X4_today
  rw [zm_ck_t (by decide)]
  exact congrArg some (tR_d hC.2.2.2)
theorem c_trips {M : zm_Mem} {t v n : Nat} {D : zD} {S : Nat → Nat} (hC : Cx M t v D S n) : f_X4_tripsSoFar M = some (nI (S 1)) := by
  unfold f_X4_tripsSoFar
  rw [zm_ck_t (by decide)]
  exact congrArg some (tR_t hC.2.2.2)
theorem c_goal {M : zm_Mem} {t v n : Nat} {D : zD} {S : Nat → Nat} (hC : Cx M t v D S n) {j : Nat} (hj : j < D.1 0 1) : f_X4_goal (nI j) M = some (nI (S (4 + j))) := by
  have ht := hC.2.1
  have hT := hC.2.2.1
  have hR := hC.2.2.2
  have bI := cx_isT hC
  have bv := tT_v hT
  have bh := tT_bh hT
  have bw := tT_bw hT
  have bk := tT_bk hT
  unfold f_X4_goal
  simp (disch := omega) only [↓zv_eq, ↓zb1_some, ↓zb2_some, ↓zk_true, Option.bind_some, Option.bind_none, Option.map_some, Sum.elim_inl, Sum.elim_inr, if_true, if_false, ↓reduceIte, lt_lit, nI_clamp, zi_in, nI_leI, nI_ltI, nI_eq, nI_add, pk_mul, zi_sub, pk_div, zi_rem, zi_sh1, zi_shr, zi_and1, zi_or, zi_en, zi_ne, zi_ln, zi_nl, zi_lne, zi_nle, zi_nn, zq_01, zq_10, zq_011, zq_at, zq_ta, ite_not, Classical.not_not, tR_d hR, tR_t hR, tR_l hR, tR_g hR, tR_a hR]
theorem c_arrival {M : zm_Mem} {t v n : Nat} {D : zD} {S : Nat → Nat} (hC : Cx M t v D S n) {j : Nat} (hj : j < D.1 0 1) : f_X4_arrival (nI j) M = some (nI (S (10 + j))) := by
  have ht := hC.2.1
  have hT := hC.2.2.1
  have hR := hC.2.2.2
  have bI := cx_isT hC
  have bv := tT_v hT
  have bh := tT_bh hT
  have bw := tT_bw hT
  have bk := tT_bk hT
  unfold f_X4_arrival
  simp (disch := omega) only [↓zv_eq, ↓zb1_some, ↓zb2_some, ↓zk_true, Option.bind_some, Option.bind_none, Option.map_some, Sum.elim_inl, Sum.elim_inr, if_true, if_false, ↓reduceIte, lt_lit, nI_clamp, zi_in, nI_leI, nI_ltI, nI_eq, nI_add, pk_mul, zi_sub, pk_div, zi_rem, zi_sh1, zi_shr, zi_and1, zi_or, zi_en, zi_ne, zi_ln, zi_nl, zi_lne, zi_nle, zi_nn, zq_01, zq_10, zq_011, zq_at, zq_ta, ite_not, Classical.not_not, tR_d hR, tR_t hR, tR_l hR, tR_g hR, tR_a hR]
/-- is a work in its house on a day -/
def isAt (S : Nat → Nat) (d j : Nat) : Bool := decide (S (10 + j) ≤ d)
theorem cx_b {M : zm_Mem} {t v n : Nat} {D : zD} {S : Nat → Nat} (hC : Cx M t v D S n) : S 0 ≤ 99 * n ∧ ∀ j, j < D.1 0 1 → S (4 + j) < D.1 0 0 ∧ S (10 + j) ≤ 99 * n + 104 := ⟨tR_bd hC.2.2.2, tR_bg hC.2.2.2⟩
theorem c_underWay {M : zm_Mem} {t v n : Nat} {D : zD} {S : Nat → Nat} (hC : Cx M t v D S n) (hn : n < 512) {j : Nat} (hj : j < D.1 0 1) : f_X4_underWay (nI j) M = some (if isAt S (S 0) j = true then 0 else 1) := by
  have ht := hC.2.1
  have hT := hC.2.2.1
  have hR := hC.2.2.2
  have bI := cx_isT hC
  have bv := tT_v hT
  have bh := tT_bh hT
  have bw := tT_bw hT
  have bk := tT_bk hT
  have hb := cx_b hC
  have hb2 := (hb.2 j hj).2
  have hb1 := hb.1
  unfold f_X4_underWay
  rw [c_arrival hC hj, c_today hC]
  simp (disch := omega) only [↓zv_eq, ↓zb1_some, ↓zb2_some, ↓zk_true, Option.bind_some, Option.bind_none, Option.map_some, Sum.elim_inl, Sum.elim_inr, if_true, if_false, ↓reduceIte, nI_leI, isAt, decide_eq_true_eq]
  split <;> rfl
theorem c_isIn {M : zm_Mem} {t v n : Nat} {D : zD} {S : Nat → Nat} (hC : Cx M t v D S n) (hn : n < 512) {j : Nat} (hj : j < D.1 0 1) (a : Int32) : f_X4_isIn (nI j) a M = some (if (isAt S (S 0) j = true ∧ nI (S (4 + j)) = a) then 1 else 0) := by
  unfold f_X4_isIn f_X4_isIn_b21
  rw [c_goal hC hj]
  simp only [↓zv_eq, ↓zb1_some, ↓zb2_some, ↓zk_true, Option.bind_some, Option.bind_none, Option.map_some, Sum.elim_inl, Sum.elim_inr, if_true, if_false, ↓reduceIte]
  by_cases h : nI (S (4 + j)) = a
  · rw [if_pos h, c_underWay hC hn hj]
    by_cases h2 : isAt S (S 0) j = true
    · rw [if_pos h2, if_pos ⟨h2, h⟩]; rfl
    · rw [if_neg h2, if_neg (fun z => h2 z.1)]; rfl
  · rw [if_neg h, if_neg (fun z => h z.2)]
