theorem c_worksIn {M : zm_Mem} {t v n : Nat} {D : zD} {S : Nat → Nat} (hC : Cx M t v D S n) (hn : n < 512) {x : Nat} (hx : x < 5) : f_X10_worksIn (nI x) M = some (nI (bitsOf (fun j => isAt S (S 0) j && decide (S (4 + j) = x)) (D.1 0 1))) := by
  have ht := hC.2.1
  have hT := hC.2.2.1
  have hR := hC.2.2.2
  have bI := cx_isT hC
  have bv := tT_v hT
  have bh := tT_bh hT
  have bw := tT_bw hT
  have bk := tT_bk hT
  unfold f_X10_worksIn
  refine lp_bits _ _ (fun i b hi hb => ?_) (fun b hb => ?_)
  · have hle : ¬ (D.1 0 1 ≤ i) := by omega
    have hg0 := (cx_b hC).1
    have hgi := (cx_b hC).2 i hi
    have hwi := tT_Wb hT i hi
    simp (disch := omega) only [f_X10_worksIn_l4, f_X10_worksIn_b33_4, ↓zv_eq, ↓zb1_some, ↓zb2_some, ↓zk_true, Option.bind_some, Option.bind_none, Option.map_some, Sum.elim_inl, Sum.elim_inr, if_true, if_false, ↓reduceIte, lt_lit, nI_clamp, zi_in, nI_leI, nI_ltI, nI_eq, nI_add, pk_mul, zi_sub, pk_div, zi_rem, zi_sh1, zi_shr, zi_and1, zi_or, zi_en, zi_ne, zi_ln, zi_nl, zi_lne, zi_nle, zi_nn, zq_01, zq_10, zq_011, zq_at, zq_ta, ite_not, Classical.not_not, ht, bI, hle, tT_h hT, tT_w hT, tT_k hT, tT_la hT, tT_co hT, tT_se hT, tT_no hT, tT_wa hT, tT_ow hT, tT_st hT, tT_ki hT, tT_va hT, tT_tw hT, tT_live hT, tT_rh hT, tT_rw hT, tT_rk hT, tT_rla hT, tT_rco hT, tT_rse hT, tT_rno hT, tT_rwa hT, tT_row hT, tT_rst hT, tT_rki hT, tT_rva hT, tT_rtw hT, c_isIn hC hn hi]
    try simp only [isAt, Bool.and_eq_true, Bool.not_eq_true', decide_eq_true_eq, decide_eq_false_iff_not]
    (repeat' split) <;> first | rfl | (rw [or_pow hb]; done) | (exfalso; omega)
  · simp (disch := omega) only [f_X10_worksIn_l4, ↓zv_eq, ↓zb1_some, ↓zb2_some, ↓zk_true, Option.bind_some, Option.bind_none, Option.map_some, Sum.elim_inl, Sum.elim_inr, if_true, if_false, ↓reduceIte, lt_lit, nI_clamp, zi_in, nI_leI, nI_ltI, nI_eq, nI_add, pk_mul, zi_sub, pk_div, zi_rem, zi_sh1, zi_shr, zi_and1, zi_or, zi_en, zi_ne, zi_ln, zi_nl, zi_lne, zi_nle, zi_nn, zq_01, zq_10, zq_011, zq_at, zq_ta, ite_not, Classical.not_not, ht, bI, Nat.le_refl, tT_h hT, tT_w hT, tT_k hT, tT_la hT, tT_co hT, tT_se hT, tT_no hT, tT_wa hT, tT_ow hT, tT_st hT, tT_ki hT, tT_va hT, tT_tw hT, tT_live hT, tT_rh hT, tT_rw hT, tT_rk hT, tT_rla hT, tT_rco hT, tT_rse hT, tT_rno hT, tT_rwa hT, tT_row hT, tT_rst hT, tT_rki hT, tT_rva hT, tT_rtw hT]
theorem c_worksOwnedBy {M : zm_Mem} {t v n : Nat} {D : zD} {S : Nat → Nat} (hC : Cx M t v D S n) (hn : n < 512) {x : Nat} (hx : x < 5) : f_X10_worksOwnedBy (nI x) M = some (nI (bitsOf (fun j => decide (D.1 3 j = x)) (D.1 0 1))) := by
  have ht := hC.2.1
  have hT := hC.2.2.1
  have hR := hC.2.2.2
  have bI := cx_isT hC
  have bv := tT_v hT
  have bh := tT_bh hT
  have bw := tT_bw hT
  have bk := tT_bk hT
  unfold f_X10_worksOwnedBy
  refine lp_bits _ _ (fun i b hi hb => ?_) (fun b hb => ?_)
  · have hle : ¬ (D.1 0 1 ≤ i) := by omega
    have hg0 := (cx_b hC).1
    have hgi := (cx_b hC).2 i hi
    have hwi := tT_Wb hT i hi
    simp (disch := omega) only [f_X10_worksOwnedBy_l4, f_X10_worksOwnedBy_b34_4, ↓zv_eq, ↓zb1_some, ↓zb2_some, ↓zk_true, Option.bind_some, Option.bind_none, Option.map_some, Sum.elim_inl, Sum.elim_inr, if_true, if_false, ↓reduceIte, lt_lit, nI_clamp, zi_in, nI_leI, nI_ltI, nI_eq, nI_add, pk_mul, zi_sub, pk_div, zi_rem, zi_sh1, zi_shr, zi_and1, zi_or, zi_en, zi_ne, zi_ln, zi_nl, zi_lne, zi_nle, zi_nn, zq_01, zq_10, zq_011, zq_at, zq_ta, ite_not, Classical.not_not, ht, bI, hle, tT_h hT, tT_w hT, tT_k hT, tT_la hT, tT_co hT, tT_se hT, tT_no hT, tT_wa hT, tT_ow hT, tT_st hT, tT_ki hT, tT_va hT, tT_tw hT, tT_live hT, tT_rh hT, tT_rw hT, tT_rk hT, tT_rla hT, tT_rco hT, tT_rse hT, tT_rno hT, tT_rwa hT, tT_row hT, tT_rst hT, tT_rki hT, tT_rva hT, tT_rtw hT]
    try simp only [isAt, Bool.and_eq_true, Bool.not_eq_true', decide_eq_true_eq, decide_eq_false_iff_not]
    (repeat' split) <;> first | rfl | (rw [or_pow hb]; done) | (exfalso; omega)
  · simp (disch := omega) only [f_X10_worksOwnedBy_l4, ↓zv_eq, ↓zb1_some, ↓zb2_some, ↓zk_true, Option.bind_some, Option.bind_none, Option.map_some, Sum.elim_inl, Sum.elim_inr, if_true, if_false, ↓reduceIte, lt_lit, nI_clamp, zi_in, nI_leI, nI_ltI, nI_eq, nI_add, pk_mul, zi_sub, pk_div, zi_rem, zi_sh1, zi_shr, zi_and1, zi_or, zi_en, zi_ne, zi_ln, zi_nl, zi_lne, zi_nle, zi_nn, zq_01, zq_10, zq_011, zq_at, zq_ta, ite_not, Classical.not_not, ht, bI, Nat.le_refl, tT_h hT, tT_w hT, tT_k hT, tT_la hT, tT_co hT, tT_se hT, tT_no hT, tT_wa hT, tT_ow hT, tT_st hT, tT_ki hT, tT_va hT, tT_tw hT, tT_live hT, tT_rh hT, tT_rw hT, tT_rk hT, tT_rla hT, tT_rco hT, tT_rse hT, tT_rno hT, tT_rwa hT, tT_row hT, tT_rst hT, tT_rki hT, tT_rva hT, tT_rtw hT]
theorem c_worksUnderWay {M : zm_Mem} {t v n : Nat} {D : zD} {S : Nat → Nat} (hC : Cx M t v D S n) (hn : n < 512) : f_X10_worksUnderWay M = some (nI (bitsOf (fun j => !isAt S (S 0) j) (D.1 0 1))) := by
  have ht := hC.2.1
  have hT := hC.2.2.1
  have hR := hC.2.2.2
  have bI := cx_isT hC
  have bv := tT_v hT
  have bh := tT_bh hT
  have bw := tT_bw hT
  have bk := tT_bk hT
  unfold f_X10_worksUnderWay
  refine lp_bits _ _ (fun i b hi hb => ?_) (fun b hb => ?_)
  · have hle : ¬ (D.1 0 1 ≤ i) := by omega
    have hg0 := (cx_b hC).1
    have hgi := (cx_b hC).2 i hi
    have hwi := tT_Wb hT i hi
    simp (disch := omega) only [f_X10_worksUnderWay_l4, f_X10_worksUnderWay_b32_4, ↓zv_eq, ↓zb1_some, ↓zb2_some, ↓zk_true, Option.bind_some, Option.bind_none, Option.map_some, Sum.elim_inl, Sum.elim_inr, if_true, if_false, ↓reduceIte, lt_lit, nI_clamp, zi_in, nI_leI, nI_ltI, nI_eq, nI_add, pk_mul, zi_sub, pk_div, zi_rem, zi_sh1, zi_shr, zi_and1, zi_or, zi_en, zi_ne, zi_ln, zi_nl, zi_lne, zi_nle, zi_nn, zq_01, zq_10, zq_011, zq_at, zq_ta, ite_not, Classical.not_not, ht, bI, hle, tT_h hT, tT_w hT, tT_k hT, tT_la hT, tT_co hT, tT_se hT, tT_no hT, tT_wa hT, tT_ow hT, tT_st hT, tT_ki hT, tT_va hT, tT_tw hT, tT_live hT, tT_rh hT, tT_rw hT, tT_rk hT, tT_rla hT, tT_rco hT, tT_rse hT, tT_rno hT, tT_rwa hT, tT_row hT, tT_rst hT, tT_rki hT, tT_rva hT, tT_rtw hT, c_underWay hC hn hi]
    try simp only [isAt, Bool.and_eq_true, Bool.not_eq_true', decide_eq_true_eq, decide_eq_false_iff_not]
    (repeat' split) <;> first | rfl | (rw [or_pow hb]; done) | (exfalso; omega)
  · simp (disch := omega) only [f_X10_worksUnderWay_l4, ↓zv_eq, ↓zb1_some, ↓zb2_some, ↓zk_true, Option.bind_some, Option.bind_none, Option.map_some, Sum.elim_inl, Sum.elim_inr, if_true, if_false, ↓reduceIte, lt_lit, nI_clamp, zi_in, nI_leI, nI_ltI, nI_eq, nI_add, pk_mul, zi_sub, pk_div, zi_rem, zi_sh1, zi_shr, zi_and1, zi_or, zi_en, zi_ne, zi_ln, zi_nl, zi_lne, zi_nle, zi_nn, zq_01, zq_10, zq_011, zq_at, zq_ta, ite_not, Classical.not_not, ht, bI, Nat.le_refl, tT_h hT, tT_w hT, tT_k hT, tT_la hT, tT_co hT, tT_se hT, tT_no hT, tT_wa hT, tT_ow hT, tT_st hT, tT_ki hT, tT_va hT, tT_tw hT, tT_live hT, tT_rh hT, tT_rw hT, tT_rk hT, tT_rla hT, tT_rco hT, tT_rse hT, tT_rno hT, tT_rwa hT, tT_row hT, tT_rst hT, tT_rki hT, tT_rva hT, tT_rtw hT]
theorem c_worksAtOwners {M : zm_Mem} {t v n : Nat} {D : zD} {S : Nat → Nat} (hC : Cx M t v D S n) (hn : n < 512) : f_X10_worksAtOwners M = some (nI (bitsOf (fun j => isAt S (S 0) j && decide (S (4 + j) = D.1 3 j)) (D.1 0 1))) := by
  have ht := hC.2.1
  have hT := hC.2.2.1
  have hR := hC.2.2.2
  have bI := cx_isT hC
  have bv := tT_v hT
  have bh := tT_bh hT
  have bw := tT_bw hT
  have bk := tT_bk hT
  unfold f_X10_worksAtOwners
  refine lp_bits _ _ (fun i b hi hb => ?_) (fun b hb => ?_)
  · have hle : ¬ (D.1 0 1 ≤ i) := by omega
    have hg0 := (cx_b hC).1
    have hgi := (cx_b hC).2 i hi
    have hwi := tT_Wb hT i hi
    simp (disch := omega) only [f_X10_worksAtOwners_l4, f_X10_worksAtOwners_b41_4, ↓zv_eq, ↓zb1_some, ↓zb2_some, ↓zk_true, Option.bind_some, Option.bind_none, Option.map_some, Sum.elim_inl, Sum.elim_inr, if_true, if_false, ↓reduceIte, lt_lit, nI_clamp, zi_in, nI_leI, nI_ltI, nI_eq, nI_add, pk_mul, zi_sub, pk_div, zi_rem, zi_sh1, zi_shr, zi_and1, zi_or, zi_en, zi_ne, zi_ln, zi_nl, zi_lne, zi_nle, zi_nn, zq_01, zq_10, zq_011, zq_at, zq_ta, ite_not, Classical.not_not, ht, bI, hle, tT_h hT, tT_w hT, tT_k hT, tT_la hT, tT_co hT, tT_se hT, tT_no hT, tT_wa hT, tT_ow hT, tT_st hT, tT_ki hT, tT_va hT, tT_tw hT, tT_live hT, tT_rh hT, tT_rw hT, tT_rk hT, tT_rla hT, tT_rco hT, tT_rse hT, tT_rno hT, tT_rwa hT, tT_row hT, tT_rst hT, tT_rki hT, tT_rva hT, tT_rtw hT, c_isIn hC hn hi]
    try simp only [isAt, Bool.and_eq_true, Bool.not_eq_true', decide_eq_true_eq, decide_eq_false_iff_not]
    (repeat' split) <;> first | rfl | (rw [or_pow hb]; done) | (exfalso; omega)
  · simp (disch := omega) only [f_X10_worksAtOwners_l4, ↓zv_eq, ↓zb1_some, ↓zb2_some, ↓zk_true, Option.bind_some, Option.bind_none, Option.map_some, Sum.elim_inl, Sum.elim_inr, if_true, if_false, ↓reduceIte, lt_lit, nI_clamp, zi_in, nI_leI, nI_ltI, nI_eq, nI_add, pk_mul, zi_sub, pk_div, zi_rem, zi_sh1, zi_shr, zi_and1, zi_or, zi_en, zi_ne, zi_ln, zi_nl, zi_lne, zi_nle, zi_nn, zq_01, zq_10, zq_011, zq_at, zq_ta, ite_not, Classical.not_not, ht, bI, Nat.le_refl, tT_h hT, tT_w hT, tT_k hT, tT_la hT, tT_co hT, tT_se hT, tT_no hT, tT_wa hT, tT_ow hT, tT_st hT, tT_ki hT, tT_va hT, tT_tw hT, tT_live hT, tT_rh hT, tT_rw hT, tT_rk hT, tT_rla hT, tT_rco hT, tT_rse hT, tT_rno hT, tT_rwa hT, tT_row hT, tT_rst hT, tT_rki hT, tT_rva hT, tT_rtw hT]
theorem c_termsOf {M : zm_Mem} {t v n : Nat} {D : zD} {S : Nat → Nat} (hC : Cx M t v D S n) (hn : n < 512) {x : Nat} (hx : x < 6) : f_X8_termsOf t (nI x) M = some (nI (bitsOf (fun j => decide (D.1 7 j = x)) (D.1 0 2))) := by
  have ht := hC.2.1
  have hT := hC.2.2.1
  have hR := hC.2.2.2
  have bI := cx_isT hC
  have bv := tT_v hT
  have bh := tT_bh hT
  have bw := tT_bw hT
  have bk := tT_bk hT
  unfold f_X8_termsOf
  refine lp_bits _ _ (fun i b hi hb => ?_) (fun b hb => ?_)
  · have hle : ¬ (D.1 0 2 ≤ i) := by omega
    have hg0 := (cx_b hC).1
    have hki := tT_Kb hT i hi
    simp (disch := omega) only [f_X8_termsOf_l4, f_X8_termsOf_b28_4, ↓zv_eq, ↓zb1_some, ↓zb2_some, ↓zk_true, Option.bind_some, Option.bind_none, Option.map_some, Sum.elim_inl, Sum.elim_inr, if_true, if_false, ↓reduceIte, lt_lit, nI_clamp, zi_in, nI_leI, nI_ltI, nI_eq, nI_add, pk_mul, zi_sub, pk_div, zi_rem, zi_sh1, zi_shr, zi_and1, zi_or, zi_en, zi_ne, zi_ln, zi_nl, zi_lne, zi_nle, zi_nn, zq_01, zq_10, zq_011, zq_at, zq_ta, ite_not, Classical.not_not, ht, bI, hle, tT_h hT, tT_w hT, tT_k hT, tT_la hT, tT_co hT, tT_se hT, tT_no hT, tT_wa hT, tT_ow hT, tT_st hT, tT_ki hT, tT_va hT, tT_tw hT, tT_live hT, tT_rh hT, tT_rw hT, tT_rk hT, tT_rla hT, tT_rco hT, tT_rse hT, tT_rno hT, tT_rwa hT, tT_row hT, tT_rst hT, tT_rki hT, tT_rva hT, tT_rtw hT]
    try simp only [isAt, Bool.and_eq_true, Bool.not_eq_true', decide_eq_true_eq, decide_eq_false_iff_not]
    (repeat' split) <;> first | rfl | (rw [or_pow hb]; done) | (exfalso; omega)
  · simp (disch := omega) only [f_X8_termsOf_l4, ↓zv_eq, ↓zb1_some, ↓zb2_some, ↓zk_true, Option.bind_some, Option.bind_none, Option.map_some, Sum.elim_inl, Sum.elim_inr, if_true, if_false, ↓reduceIte, lt_lit, nI_clamp, zi_in, nI_leI, nI_ltI, nI_eq, nI_add, pk_mul, zi_sub, pk_div, zi_rem, zi_sh1, zi_shr, zi_and1, zi_or, zi_en, zi_ne, zi_ln, zi_nl, zi_lne, zi_nle, zi_nn, zq_01, zq_10, zq_011, zq_at, zq_ta, ite_not, Classical.not_not, ht, bI, Nat.le_refl, tT_h hT, tT_w hT, tT_k hT, tT_la hT, tT_co hT, tT_se hT, tT_no hT, tT_wa hT, tT_ow hT, tT_st hT, tT_ki hT, tT_va hT, tT_tw hT, tT_live hT, tT_rh hT, tT_rw hT, tT_rk hT, tT_rla hT, tT_rco hT, tT_rse hT, tT_rno hT, tT_rwa hT, tT_row hT, tT_rst hT, tT_rki hT, tT_rva hT, tT_rtw hT]
theorem c_valueIn {M : zm_Mem} {t v n : Nat} {D : zD} {S : Nat → Nat} (hC : Cx M t v D S n) (hn : n < 512) {x : Nat} (hx : x < 5) : f_X10_valueIn (nI x) M = some (nI (sumOf (fun j => if isAt S (S 0) j = true ∧ S (4 + j) = x then D.1 6 j else 0) (D.1 0 1))) := by
  have ht := hC.2.1
  have hT := hC.2.2.1
  have hR := hC.2.2.2
  have bI := cx_isT hC
  have bv := tT_v hT
  have bh := tT_bh hT
  have bw := tT_bw hT
  have bk := tT_bk hT
  unfold f_X10_valueIn
  refine lp_sum _ _ 99 (fun i hi => ?_) (fun i b hi hb => ?_) (fun b hb => ?_)
  · have := tT_Wb hT i hi; split <;> omega
  · have hle : ¬ (D.1 0 1 ≤ i) := by omega
    have hg0 := (cx_b hC).1
    have hgi := (cx_b hC).2 i hi
    have hwi := tT_Wb hT i hi
    simp (disch := omega) only [f_X10_valueIn_l4, f_X10_valueIn_b39_4, ↓zv_eq, ↓zb1_some, ↓zb2_some, ↓zk_true, Option.bind_some, Option.bind_none, Option.map_some, Sum.elim_inl, Sum.elim_inr, if_true, if_false, ↓reduceIte, lt_lit, nI_clamp, zi_in, nI_leI, nI_ltI, nI_eq, nI_add, pk_mul, zi_sub, pk_div, zi_rem, zi_sh1, zi_shr, zi_and1, zi_or, zi_en, zi_ne, zi_ln, zi_nl, zi_lne, zi_nle, zi_nn, zq_01, zq_10, zq_011, zq_at, zq_ta, ite_not, Classical.not_not, ht, bI, hle, tT_h hT, tT_w hT, tT_k hT, tT_la hT, tT_co hT, tT_se hT, tT_no hT, tT_wa hT, tT_ow hT, tT_st hT, tT_ki hT, tT_va hT, tT_tw hT, tT_live hT, tT_rh hT, tT_rw hT, tT_rk hT, tT_rla hT, tT_rco hT, tT_rse hT, tT_rno hT, tT_rwa hT, tT_row hT, tT_rst hT, tT_rki hT, tT_rva hT, tT_rtw hT, c_isIn hC hn hi]
    try simp only [isAt, Bool.and_eq_true, Bool.not_eq_true', decide_eq_true_eq, decide_eq_false_iff_not]
    (repeat' split) <;> first | rfl | (rw [or_pow hb]; done) | (exfalso; omega)
  · simp (disch := omega) only [f_X10_valueIn_l4, ↓zv_eq, ↓zb1_some, ↓zb2_some, ↓zk_true, Option.bind_some, Option.bind_none, Option.map_some, Sum.elim_inl, Sum.elim_inr, if_true, if_false, ↓reduceIte, lt_lit, nI_clamp, zi_in, nI_leI, nI_ltI, nI_eq, nI_add, pk_mul, zi_sub, pk_div, zi_rem, zi_sh1, zi_shr, zi_and1, zi_or, zi_en, zi_ne, zi_ln, zi_nl, zi_lne, zi_nle, zi_nn, zq_01, zq_10, zq_011, zq_at, zq_ta, ite_not, Classical.not_not, ht, bI, Nat.le_refl, tT_h hT, tT_w hT, tT_k hT, tT_la hT, tT_co hT, tT_se hT, tT_no hT, tT_wa hT, tT_ow hT, tT_st hT, tT_ki hT, tT_va hT, tT_tw hT, tT_live hT, tT_rh hT, tT_rw hT, tT_rk hT, tT_rla hT, tT_rco hT, tT_rse hT, tT_rno hT, tT_rwa hT, tT_row hT, tT_rst hT, tT_rki hT, tT_rva hT, tT_rtw hT]
theorem c_owes_lp {M : zm_Mem} {t v n : Nat} {D : zD} {S : Nat → Nat} (hC : Cx M t v D S n) (hn : n < 512) {x y : Nat} (hx : x < 5) (hy : y < 5) : (fun M => (zm_lp (fun s => f_X10_owes_l28 (nI x) (nI y) M s.1 s.2) (0, 0)).bind (fun e80 => some e80)) M = some (nI (bitsOf (fun j => decide (D.1 3 j = y) && decide (S (4 + j) = x)) (D.1 0 1))) := by
  have ht := hC.2.1
  have hT := hC.2.2.1
  have hR := hC.2.2.2
  have bI := cx_isT hC
  have bv := tT_v hT
  have bh := tT_bh hT
  have bw := tT_bw hT
  have bk := tT_bk hT
  
  refine lp_bits _ _ (fun i b hi hb => ?_) (fun b hb => ?_)
  · have hle : ¬ (D.1 0 1 ≤ i) := by omega
    have hg0 := (cx_b hC).1
    have hgi := (cx_b hC).2 i hi
    have hwi := tT_Wb hT i hi
    simp (disch := omega) only [f_X10_owes_l28, f_X10_owes_b74_28, ↓zv_eq, ↓zb1_some, ↓zb2_some, ↓zk_true, Option.bind_some, Option.bind_none, Option.map_some, Sum.elim_inl, Sum.elim_inr, if_true, if_false, ↓reduceIte, lt_lit, nI_clamp, zi_in, nI_leI, nI_ltI, nI_eq, nI_add, pk_mul, zi_sub, pk_div, zi_rem, zi_sh1, zi_shr, zi_and1, zi_or, zi_en, zi_ne, zi_ln, zi_nl, zi_lne, zi_nle, zi_nn, zq_01, zq_10, zq_011, zq_at, zq_ta, ite_not, Classical.not_not, ht, bI, hle, tT_h hT, tT_w hT, tT_k hT, tT_la hT, tT_co hT, tT_se hT, tT_no hT, tT_wa hT, tT_ow hT, tT_st hT, tT_ki hT, tT_va hT, tT_tw hT, tT_live hT, tT_rh hT, tT_rw hT, tT_rk hT, tT_rla hT, tT_rco hT, tT_rse hT, tT_rno hT, tT_rwa hT, tT_row hT, tT_rst hT, tT_rki hT, tT_rva hT, tT_rtw hT, c_goal hC hi]
    try simp only [isAt, Bool.and_eq_true, Bool.not_eq_true', decide_eq_true_eq, decide_eq_false_iff_not]
    (repeat' split) <;> first | rfl | (rw [or_pow hb]; done) | (exfalso; omega)
  · simp (disch := omega) only [f_X10_owes_l28, ↓zv_eq, ↓zb1_some, ↓zb2_some, ↓zk_true, Option.bind_some, Option.bind_none, Option.map_some, Sum.elim_inl, Sum.elim_inr, if_true, if_false, ↓reduceIte, lt_lit, nI_clamp, zi_in, nI_leI, nI_ltI, nI_eq, nI_add, pk_mul, zi_sub, pk_div, zi_rem, zi_sh1, zi_shr, zi_and1, zi_or, zi_en, zi_ne, zi_ln, zi_nl, zi_lne, zi_nle, zi_nn, zq_01, zq_10, zq_011, zq_at, zq_ta, ite_not, Classical.not_not, ht, bI, Nat.le_refl, tT_h hT, tT_w hT, tT_k hT, tT_la hT, tT_co hT, tT_se hT, tT_no hT, tT_wa hT, tT_ow hT, tT_st hT, tT_ki hT, tT_va hT, tT_tw hT, tT_live hT, tT_rh hT, tT_rw hT, tT_rk hT, tT_rla hT, tT_rco hT, tT_rse hT, tT_rno hT, tT_rwa hT, tT_row hT, tT_rst hT, tT_rki hT, tT_rva hT, tT_rtw hT]
theorem r_ownerNow {M : zm_Mem} {t v n : Nat} {D : zD} {S : Nat → Nat} (hC : Cx M t v D S n) {j : Nat} (hj : j < D.1 0 1) : f_X11_ownerNow (nI j) M = some (nI (D.1 3 j)) := by
  have ht := hC.2.1
  have hT := hC.2.2.1
  have hR := hC.2.2.2
  have bI := cx_isT hC
  have bv := tT_v hT
  have bh := tT_bh hT
  have bw := tT_bw hT
  have bk := tT_bk hT
  unfold f_X11_ownerNow
  simp (disch := omega) only [↓zv_eq, ↓zb1_some, ↓zb2_some, ↓zk_true, Option.bind_some, Option.bind_none, Option.map_some, Sum.elim_inl, Sum.elim_inr, if_true, if_false, ↓reduceIte, lt_lit, nI_clamp, zi_in, nI_leI, nI_ltI, nI_eq, nI_add, pk_mul, zi_sub, pk_div, zi_rem, zi_sh1, zi_shr, zi_and1, zi_or, zi_en, zi_ne, zi_ln, zi_nl, zi_lne, zi_nle, zi_nn, zq_01, zq_10, zq_011, zq_at, zq_ta, ite_not, Classical.not_not, tT_live hT, tT_rh hT, tT_rw hT, tT_rk hT, tT_rla hT, tT_rco hT, tT_rse hT, tT_rno hT, tT_rwa hT, tT_row hT, tT_rst hT, tT_rki hT, tT_rva hT, tT_rtw hT]
theorem r_owes_lp {M : zm_Mem} {t v n : Nat} {D : zD} {S : Nat → Nat} (hC : Cx M t v D S n) (hn : n < 512) {x y : Nat} (hx : x < 5) (hy : y < 5) : (fun M => (zm_lp (fun s => f_X11_owes_l28 (nI x) (nI y) M s.1 s.2) (0, 0)).bind (fun e90 => some e90)) M = some (nI (bitsOf (fun j => decide (D.1 3 j = y) && decide (S (4 + j) = x)) (D.1 0 1))) := by
  have ht := hC.2.1
  have hT := hC.2.2.1
  have hR := hC.2.2.2
  have bI := cx_isT hC
  have bv := tT_v hT
  have bh := tT_bh hT
  have bw := tT_bw hT
  have bk := tT_bk hT
  show (zm_lp (fun s => f_X11_owes_l28 (nI x) (nI y) M s.1 s.2) (0, 0)).bind (fun e90 => some e90) = _
  refine lp_bits _ _ (fun i b hi hb => ?_) (fun b hb => ?_)
  · have hle : ¬ (D.1 0 1 ≤ i) := by omega
    have hg0 := (cx_b hC).1
    have hgi := (cx_b hC).2 i hi
    have hwi := tT_Wb hT i hi
    simp (disch := omega) only [f_X11_owes_l28, f_X11_owes_b84_28, f_X11_owes_b77_28, ↓zv_eq, ↓zb1_some, ↓zb2_some, ↓zk_true, Option.bind_some, Option.bind_none, Option.map_some, Sum.elim_inl, Sum.elim_inr, if_true, if_false, ↓reduceIte, lt_lit, nI_clamp, zi_in, nI_leI, nI_ltI, nI_eq, nI_add, pk_mul, zi_sub, pk_div, zi_rem, zi_sh1, zi_shr, zi_and1, zi_or, zi_en, zi_ne, zi_ln, zi_nl, zi_lne, zi_nle, zi_nn, zq_01, zq_10, zq_011, zq_at, zq_ta, ite_not, Classical.not_not, ht, bI, hle, tT_h hT, tT_w hT, tT_k hT, tT_la hT, tT_co hT, tT_se hT, tT_no hT, tT_wa hT, tT_ow hT, tT_st hT, tT_ki hT, tT_va hT, tT_tw hT, tT_live hT, tT_rh hT, tT_rw hT, tT_rk hT, tT_rla hT, tT_rco hT, tT_rse hT, tT_rno hT, tT_rwa hT, tT_row hT, tT_rst hT, tT_rki hT, tT_rva hT, tT_rtw hT, r_ownerNow hC hi, tR_rp hR, tR_rg hR]
    try simp only [isAt, Bool.and_eq_true, Bool.not_eq_true', decide_eq_true_eq, decide_eq_false_iff_not]
    (repeat' split) <;> first | rfl | (rw [or_pow hb]; done) | (exfalso; omega)
  · simp (disch := omega) only [f_X11_owes_l28, ↓zv_eq, ↓zb1_some, ↓zb2_some, ↓zk_true, Option.bind_some, Option.bind_none, Option.map_some, Sum.elim_inl, Sum.elim_inr, if_true, if_false, ↓reduceIte, lt_lit, nI_clamp, zi_in, nI_leI, nI_ltI, nI_eq, nI_add, pk_mul, zi_sub, pk_div, zi_rem, zi_sh1, zi_shr, zi_and1, zi_or, zi_en, zi_ne, zi_ln, zi_nl, zi_lne, zi_nle, zi_nn, zq_01, zq_10, zq_011, zq_at, zq_ta, ite_not, Classical.not_not, ht, bI, Nat.le_refl, tT_h hT, tT_w hT, tT_k hT, tT_la hT, tT_co hT, tT_se hT, tT_no hT, tT_wa hT, tT_ow hT, tT_st hT, tT_ki hT, tT_va hT, tT_tw hT, tT_live hT, tT_rh hT, tT_rw hT, tT_rk hT, tT_rla hT, tT_rco hT, tT_rse hT, tT_rno hT, tT_rwa hT, tT_row hT, tT_rst hT, tT_rki hT, tT_rva hT, tT_rtw hT]
theorem r_valueIn {M : zm_Mem} {t v n : Nat} {D : zD} {S : Nat → Nat} (hC : Cx M t v D S n) (hn : n < 512) {x : Nat} (hx : x < 5) : f_X11_valueIn (nI x) M = some (nI (sumOf (fun j => if isAt S (S 0) j = true ∧ S (4 + j) = x then D.1 6 j else 0) (D.1 0 1))) := by
  have ht := hC.2.1
  have hT := hC.2.2.1
  have hR := hC.2.2.2
  have bI := cx_isT hC
  have bv := tT_v hT
  have bh := tT_bh hT
  have bw := tT_bw hT
  have bk := tT_bk hT
  unfold f_X11_valueIn
  refine lp_sum _ _ 99 (fun i hi => ?_) (fun i b hi hb => ?_) (fun b hb => ?_)
  · have := tT_Wb hT i hi; split <;> omega
  · have hle : ¬ (D.1 0 1 ≤ i) := by omega
    have hg0 := (cx_b hC).1
    have hgi := (cx_b hC).2 i hi
    have hwi := tT_Wb hT i hi
    simp (disch := omega) only [f_X11_valueIn_l4, f_X11_valueIn_b44_4, ↓zv_eq, ↓zb1_some, ↓zb2_some, ↓zk_true, Option.bind_some, Option.bind_none, Option.map_some, Sum.elim_inl, Sum.elim_inr, if_true, if_false, ↓reduceIte, lt_lit, nI_clamp, zi_in, nI_leI, nI_ltI, nI_eq, nI_add, pk_mul, zi_sub, pk_div, zi_rem, zi_sh1, zi_shr, zi_and1, zi_or, zi_en, zi_ne, zi_ln, zi_nl, zi_lne, zi_nle, zi_nn, zq_01, zq_10, zq_011, zq_at, zq_ta, ite_not, Classical.not_not, ht, bI, hle, tT_h hT, tT_w hT, tT_k hT, tT_la hT, tT_co hT, tT_se hT, tT_no hT, tT_wa hT, tT_ow hT, tT_st hT, tT_ki hT, tT_va hT, tT_tw hT, tT_live hT, tT_rh hT, tT_rw hT, tT_rk hT, tT_rla hT, tT_rco hT, tT_rse hT, tT_rno hT, tT_rwa hT, tT_row hT, tT_rst hT, tT_rki hT, tT_rva hT, tT_rtw hT, tR_rp hR]
    try simp only [isAt, Bool.and_eq_true, Bool.not_eq_true', decide_eq_true_eq, decide_eq_false_iff_not]
    (repeat' split) <;> first | rfl | (rw [or_pow hb]; done) | (exfalso; omega)
  · simp (disch := omega) only [f_X11_valueIn_l4, ↓zv_eq, ↓zb1_some, ↓zb2_some, ↓zk_true, Option.bind_some, Option.bind_none, Option.map_some, Sum.elim_inl, Sum.elim_inr, if_true, if_false, ↓reduceIte, lt_lit, nI_clamp, zi_in, nI_leI, nI_ltI, nI_eq, nI_add, pk_mul, zi_sub, pk_div, zi_rem, zi_sh1, zi_shr, zi_and1, zi_or, zi_en, zi_ne, zi_ln, zi_nl, zi_lne, zi_nle, zi_nn, zq_01, zq_10, zq_011, zq_at, zq_ta, ite_not, Classical.not_not, ht, bI, Nat.le_refl, tT_h hT, tT_w hT, tT_k hT, tT_la hT, tT_co hT, tT_se hT, tT_no hT, tT_wa hT, tT_ow hT, tT_st hT, tT_ki hT, tT_va hT, tT_tw hT, tT_live hT, tT_rh hT, tT_rw hT, tT_rk hT, tT_rla hT, tT_rco hT, tT_rse hT, tT_rno hT, tT_rwa hT, tT_row hT, tT_rst hT, tT_rki hT, tT_rva hT, tT_rtw hT]
