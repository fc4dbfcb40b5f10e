/-! what is asked of works, houses, counts -/
theorem r_isLong0 {M : zm_Mem} {a : Int32} (h : a < 0 ∨ nI 201 ≤ a) : f_X11_isLong a M = some (nI 0) := by
  unfold f_X11_isLong
  rw [show f_X11_in a 0 200 M = some (nI 0) from r_inN (b := 200) (by omega) h, zb1_some, zm_ck_t (by decide)]
theorem r_isLong {M : zm_Mem} {j : Nat} (h : j ≤ 200) : f_X11_isLong (nI j) M = some (nI 1) := by
  unfold f_X11_isLong
  rw [show f_X11_in (nI j) 0 200 M = some (nI 1) from r_inY (b := 200) (by omega) h, zb1_some, zm_ck_t (by decide)]
/-- the reference's row copied, and what stands in it -/
theorem r_cp {M : zm_Mem} {t v n : Nat} {D : zD} {S : Nat → Nat} (hC : Cx M t v D S n) : ∃ P, f_X11_copies M = some ((), P) ∧ Sc M P ∧ Rw P D (isAt S (S 0)) (fun j => S (4 + j)) (S 0) (S 3) ∧ (∀ j, j < 60 → P.1 92 j = M.1 91 j) ∧ P.1 52 58 = nI (D.1 0 5) ∧ RwA P D S (fun _ => S 0) := by
  refine ⟨_, r_copies hC, sc_copies M _, rw_copies hC, fun j hj => ?_, ?_, rwA_copies hC⟩
  · rw [mI1, if_neg (by omega), mC_in hj]
  · rw [mI1, if_pos ⟨rfl, rfl⟩]
theorem ag_then {M : zm_Mem} {q n : Nat} (hI : Inv M q n) (hn : n < 512) (a1 : Int32) (a2 : Int32) : Ag (rd (f_X10_then a1 a2 M) M) (fun M1 => f_X11_then a1 a2 M1) q n := by
  have hI' := hI
  obtain ⟨t, v, D, S, hC, hX⟩ := hI'
  have ht := hC.2.1
  have hT := hC.2.2.1
  have hR := hC.2.2.2
  have bI := cx_isT hC
  have bv := tT_v hT
  have bh := tT_bh hT
  have bw := tT_bw hT
  have bk := tT_bk hT
  rcases ix_cases a1 (b := D.1 0 1) (by omega) with h1 | ⟨w, hw, rfl⟩
  · refine ag_mk hI (r := -1) (M1 := M) (M2 := M) ?_ ?_ (sc_rfl M)
    · unfold f_X10_then; rw [c_isWork0 hC h1]; rfl
    · show f_X11_then a1 a2 M = _
      unfold f_X11_then; rw [r_isWork0 hC h1]; rfl
  rcases ix_cases a2 (b := 201) (by omega) with h2 | ⟨d, hd, rfl⟩
  · refine ag_mk hI (r := -1) (M1 := M) (M2 := M) ?_ ?_ (sc_rfl M)
    · unfold f_X10_then
      rw [c_isWork hC hw, zb1_some, if_neg (by decide)]
      by_cases h0 : a2 < 0
      · rw [if_pos h0]; rfl
      · rw [if_neg h0, if_neg (show ¬ a2 ≤ 200 from zj_gt (b := 200) (by omega) (h2.resolve_left h0))]; rfl
    · show f_X11_then (nI w) a2 M = _
      unfold f_X11_then; rw [r_isWork hC hw, zb1_some, if_neg (by decide), r_isLong0 h2]; rfl
  have hb0 := (cx_b hC).1
  have hb := (cx_b hC).2 w hw
  obtain ⟨P, c1, c2, c3, c4, c5, c6⟩ := r_cp hC
  have h30 : (zm_sI P 92 30 (nI (S 0 + d))).1 92 30 = nI (S 0 + d) := by rw [mI1, if_pos ⟨rfl, rfl⟩]
  have f92 : Fr w92 P (zm_sI P 92 30 (nI (S 0 + d))) := fr_sI rfl
  have s2 := sc_tr c2 (sc_92 f92)
  obtain ⟨Y, y1, y2, y3, y4⟩ := r_arrives (d := S 0) (d' := S 0 + d) hn (cx_sc s2 hC) h30 (by omega) (by omega) (fun j hj => by
    refine ⟨?_, ?_, ?_⟩
    · rw [mI1, if_neg (by omega)]; exact (c6 j hj).1
    · rw [mI1, if_neg (by omega)]; exact (c6 j hj).2.1
    · rw [mI1, if_neg (by omega)]; exact (c6 j hj).2.2)
  have e30 : (30 : Int32).toNatClampNeg = 30 := by decide
  have e60 : zm_in 30 60 = true := by decide
  refine ag_mk hI (r := if S (10 + w) ≤ S 0 + d then nI (S (4 + w)) else -nI 2) (M1 := M) (M2 := Y) ?_ ?_ (sc_tr s2 (sc_92 y2))
  · unfold f_X10_then
    rw [c_isWork hC hw, zb1_some, if_neg (by decide), if_neg (nI_pos (by omega)), if_pos (show nI d ≤ 200 from nI_le (b := 200) (by omega) (by omega)), c_arrival hC hw, zb1_some, c_today hC, zb1_some, nI_add, c_goal hC hw]
    by_cases h : S (10 + w) ≤ S 0 + d
    · rw [if_neg (nI_nlt h (by omega)), if_pos h]; rfl
    · rw [if_pos (nI_lt (by omega) (by omega)), if_neg h]; rfl
  · show f_X11_then (nI w) (nI d) M = _
    unfold f_X11_then
    rw [r_isWork hC hw, zb1_some, if_neg (by decide), r_isLong (by omega), zb1_some, if_neg (by decide), c1]
    simp only [zb2_some, zv_eq, e60, e30, zk_true]
    rw [c4 30 (by omega), tR_rd hR, nI_add, y1, zb2_some, zm_ck_t (zm_in_nI (by omega) (by omega)), nI_clamp (by omega), (y4 w hw).1]
theorem r_termsIn {M : zm_Mem} {t v n : Nat} {D : zD} {S : Nat → Nat} (hC : Cx M t v D S n) (hn : n < 512) {x : Nat} (hx : x < 6) : (zm_lp (fun s => f_X11_work_l122 (nI x) M s.1 s.2) (0, 0)).bind (fun e => some e) = some (nI (bitsOf (fun j => decide (D.1 7 j = x)) (D.1 0 2))) := by
  have ht := hC.2.1
  have hT := hC.2.2.1
  have hR := hC.2.2.2
  have bI := cx_isT hC
  have bv := tT_v hT
  have bh := tT_bh hT
  have bw := tT_bw hT
  have bk := tT_bk hT
  refine lp_bits _ _ (fun i b hi hb => ?_) (fun b hb => ?_)
  · have hle : ¬ (D.1 0 2 ≤ i) := by omega
    have hki := tT_Kb hT i hi
    simp (disch := omega) only [f_X11_work_l122, f_X11_work_b162_122, ↓zv_eq, ↓zb1_some, ↓zb2_some, ↓zk_true, Option.bind_some, Option.bind_none, Option.map_some, Sum.elim_inl, Sum.elim_inr, if_true, if_false, ↓reduceIte, lt_lit, nI_clamp, zi_in, nI_leI, nI_ltI, nI_eq, nI_add, pk_mul, zi_sub, pk_div, zi_rem, zi_sh1, zi_shr, zi_and1, zi_or, zi_en, zi_ne, zi_ln, zi_nl, zi_lne, zi_nle, zi_nn, zq_01, zq_10, zq_011, zq_at, zq_ta, ite_not, Classical.not_not, hle, tT_live hT, tT_rh hT, tT_rw hT, tT_rk hT, tT_rla hT, tT_rco hT, tT_rse hT, tT_rno hT, tT_rwa hT, tT_row hT, tT_rst hT, tT_rki hT, tT_rva hT, tT_rtw hT]
    try simp only [decide_eq_true_eq]
    (repeat' split) <;> first | rfl | (rw [or_pow hb]; done) | (exfalso; omega)
  · simp (disch := omega) only [f_X11_work_l122, ↓zv_eq, ↓zb1_some, ↓zb2_some, ↓zk_true, Option.bind_some, Option.bind_none, Option.map_some, Sum.elim_inl, Sum.elim_inr, if_true, if_false, ↓reduceIte, lt_lit, nI_clamp, zi_in, nI_leI, nI_ltI, nI_eq, nI_add, pk_mul, zi_sub, pk_div, zi_rem, zi_sh1, zi_shr, zi_and1, zi_or, zi_en, zi_ne, zi_ln, zi_nl, zi_lne, zi_nle, zi_nn, zq_01, zq_10, zq_011, zq_at, zq_ta, ite_not, Classical.not_not, Nat.le_refl, tT_live hT, tT_rh hT, tT_rw hT, tT_rk hT, tT_rla hT, tT_rco hT, tT_rse hT, tT_rno hT, tT_rwa hT, tT_row hT, tT_rst hT, tT_rki hT, tT_rva hT, tT_rtw hT]
theorem bind_some_id {α : Type} {x : Option α} {y : α} (h : x.bind (fun e => some e) = some y) : x = some y := by
  cases x with
  | none => cases h
  | some z => exact h
theorem ag_work {M : zm_Mem} {q n : Nat} (hI : Inv M q n) (hn : n < 512) (a1 : Int32) (a2 : Int32) : Ag (rd (f_X10_work a1 a2 M) M) (fun M1 => f_X11_work a1 a2 M1) q n := by
  have hI' := hI
  obtain ⟨t, v, D, S, hC, hX⟩ := hI'
  have ht := hC.2.1
  have hT := hC.2.2.1
  have hR := hC.2.2.2
  have bI := cx_isT hC
  have bv := tT_v hT
  have bh := tT_bh hT
  have bw := tT_bw hT
  have bk := tT_bk hT
  rcases ix_cases a1 (b := D.1 0 1) (by omega) with h1 | ⟨w, hw, rfl⟩
  · refine ag_mk hI (r := -1) (M1 := M) (M2 := M) ?_ ?_ (sc_rfl M)
    · unfold f_X10_work; rw [c_isWork0 hC h1]; rfl
    · show f_X11_work a1 a2 M = _
      unfold f_X11_work; rw [r_isWork0 hC h1]; rfl
  obtain ⟨P, c1, c2, c3, c4, c5, c6⟩ := r_cp hC
  have hCP := cx_sc c2 hC
  have hTP := hCP.2.2.1
  have hwb := tT_Wb hT w hw
  have hgw := (cx_b hC).2 w hw
  have q6 : (6 : Int32) * nI v + nI w = nI (6 * v + w) := by rw [show (6 : Int32) = nI 6 from rfl, pk_mul, nI_add]
  have hbit : f_X11_work (nI w) a2 M = _ := rfl
  have wl : ∀ (r : Int32), f_X10_work (nI w) a2 M = some r → f_X11_work (nI w) a2 M = some (r, P) → Ag (rd (f_X10_work (nI w) a2 M) M) (fun M1 => f_X11_work (nI w) a2 M1) q n := by
    intro r h1 h2
    exact ag_mk hI (r := r) (M1 := M) (M2 := P) (by rw [h1]; rfl) h2 c2
  have hat : isAt S (S 0) w = decide (S (10 + w) ≤ S 0) := rfl
  by_cases k0 : a2 = 0
  · refine wl (nI (D.1 3 w)) ?_ ?_
    · unfold f_X10_work
      rw [c_isWork hC hw, zb1_some, if_neg (by decide), c_underWay hC hn hw, zb1_some, if_pos k0]
      simp (disch := omega) only [↓zv_eq, ht, bI, ↓zk_true, zi_in, nI_clamp, tT_ow hT]
    · unfold f_X11_work
      rw [r_isWork hC hw, zb1_some, if_neg (by decide), c1, zb2_some, if_pos k0, r_ownerNow hCP hw]; rfl
  by_cases k1 : a2 = 1
  · refine wl (if S (10 + w) ≤ S 0 then nI (S (4 + w)) else -nI 2) ?_ ?_
    · unfold f_X10_work
      rw [c_isWork hC hw, zb1_some, if_neg (by decide), c_underWay hC hn hw, zb1_some, if_neg k0, if_pos k1, c_goal hC hw, hat]
      by_cases h : S (10 + w) ≤ S 0
      · rw [decide_eq_true h, if_pos rfl, if_pos rfl, if_pos h]; rfl
      · rw [decide_eq_false h, if_neg (by decide), if_neg h]; rfl
    · unfold f_X11_work
      rw [r_isWork hC hw, zb1_some, if_neg (by decide), c1, zb2_some, if_neg k0, if_pos k1, zm_ck_t (zm_in_nI (by omega) (by omega)), nI_clamp (by omega), (c6 w hw).1]
  by_cases k2 : a2 = 2
  · refine wl (nI (D.1 5 w)) ?_ ?_
    · unfold f_X10_work
      rw [c_isWork hC hw, zb1_some, if_neg (by decide), c_underWay hC hn hw, zb1_some, if_neg k0, if_neg k1, if_pos k2]
      simp (disch := omega) only [↓zv_eq, ht, bI, ↓zk_true, zi_in, nI_clamp, tT_ki hT]
    · unfold f_X11_work
      rw [r_isWork hC hw, zb1_some, if_neg (by decide), c1, zb2_some, if_neg k0, if_neg k1, if_pos k2, tT_live hTP, q6, zm_ck_t (zm_in_nI (by omega) (by omega)), nI_clamp (by omega), tT_rki hTP w hw]
  by_cases k3 : a2 = 3
  · refine wl (nI (D.1 6 w)) ?_ ?_
    · unfold f_X10_work
      rw [c_isWork hC hw, zb1_some, if_neg (by decide), c_underWay hC hn hw, zb1_some, if_neg k0, if_neg k1, if_neg k2, if_pos k3]
      simp (disch := omega) only [↓zv_eq, ht, bI, ↓zk_true, zi_in, nI_clamp, tT_va hT]
    · unfold f_X11_work
      rw [r_isWork hC hw, zb1_some, if_neg (by decide), c1, zb2_some, if_neg k0, if_neg k1, if_neg k2, if_pos k3, tT_live hTP, q6, zm_ck_t (zm_in_nI (by omega) (by omega)), nI_clamp (by omega), tT_rva hTP w hw]
  by_cases k4 : a2 = 4
  · refine wl (if S (10 + w) ≤ S 0 then -nI 2 else nI (S (4 + w))) ?_ ?_
    · unfold f_X10_work
      rw [c_isWork hC hw, zb1_some, if_neg (by decide), c_underWay hC hn hw, zb1_some, if_neg k0, if_neg k1, if_neg k2, if_neg k3, if_pos k4, c_goal hC hw, hat]
      by_cases h : S (10 + w) ≤ S 0
      · rw [decide_eq_true h, if_pos rfl, if_pos rfl, if_pos h]; rfl
      · rw [decide_eq_false h, if_neg (by decide), if_neg h]; rfl
    · unfold f_X11_work f_X11_work_b103
      rw [r_isWork hC hw, zb1_some, if_neg (by decide), c1, zb2_some, if_neg k0, if_neg k1, if_neg k2, if_neg k3, if_pos k4, k4, show (6 : Int32) * (4 - 3) + nI w = nI (6 + w) from nI_add 6 w, zm_ck_t (zm_in_nI (by omega) (by omega)), nI_clamp (by omega), (c6 w hw).2.1]
  by_cases k5 : a2 = 5
  · refine wl (if S (10 + w) ≤ S 0 then -nI 2 else nI (S (10 + w))) ?_ ?_
    · unfold f_X10_work
      rw [c_isWork hC hw, zb1_some, if_neg (by decide), c_underWay hC hn hw, zb1_some, if_neg k0, if_neg k1, if_neg k2, if_neg k3, if_neg k4, if_pos k5, c_arrival hC hw, hat]
      by_cases h : S (10 + w) ≤ S 0
      · rw [decide_eq_true h, if_pos rfl, if_pos rfl, if_pos h]; rfl
      · rw [decide_eq_false h, if_neg (by decide), if_neg h]; rfl
    · unfold f_X11_work f_X11_work_b103
      rw [r_isWork hC hw, zb1_some, if_neg (by decide), c1, zb2_some, if_neg k0, if_neg k1, if_neg k2, if_neg k3, if_neg k4, if_pos k5, k5, show (6 : Int32) * (5 - 3) + nI w = nI (12 + w) from nI_add 12 w, zm_ck_t (zm_in_nI (by omega) (by omega)), nI_clamp (by omega), (c6 w hw).2.2]
  by_cases k6 : a2 = 6
  · refine wl (M.1 12 (16 + w)) ?_ ?_
    · unfold f_X10_work
      rw [c_isWork hC hw, zb1_some, if_neg (by decide), c_underWay hC hn hw, zb1_some, if_neg k0, if_neg k1, if_neg k2, if_neg k3, if_neg k4, if_neg k5, if_pos k6, show (16 : Int32) + nI w = nI (16 + w) from nI_add 16 w, zm_ck_t (zm_in_nI (by omega) (by omega)), nI_clamp (by omega)]
    · unfold f_X11_work f_X11_work_b103
      rw [r_isWork hC hw, zb1_some, if_neg (by decide), c1, zb2_some, if_neg k0, if_neg k1, if_neg k2, if_neg k3, if_neg k4, if_neg k5, if_pos k6, k6, show (6 : Int32) * (6 - 3) + nI w = nI (18 + w) from nI_add 18 w, zm_ck_t (zm_in_nI (by omega) (by omega)), nI_clamp (by omega), c4 _ (by omega), tR_s hR w hw]
  by_cases k7 : a2 = 7
  · refine wl (nI (bitsOf (fun j => decide (D.1 7 j = w)) (D.1 0 2)) &&& nI (stn D (S 3))) ?_ ?_
    · unfold f_X10_work
      rw [c_isWork hC hw, zb1_some, if_neg (by decide), c_underWay hC hn hw, zb1_some, if_neg k0, if_neg k1, if_neg k2, if_neg k3, if_neg k4, if_neg k5, if_neg k6, if_pos k7]
      simp only [zv_eq]
      rw [ht, bI, zk_true, c_termsOf hC hn (by omega), zb1_some, c_standing hC]; rfl
    · unfold f_X11_work f_X11_work_x168_122
      rw [r_isWork hC hw, zb1_some, if_neg (by decide), c1, zb2_some, if_neg k0, if_neg k1, if_neg k2, if_neg k3, if_neg k4, if_neg k5, if_neg k6, if_pos k7, bind_some_id (r_termsIn hCP hn (x := w) (by omega))]
      simp only [Option.bind_some]
      rw [r_standing hCP c3]; rfl
  refine wl (-1) ?_ ?_
  · unfold f_X10_work
    rw [c_isWork hC hw, zb1_some, if_neg (by decide), c_underWay hC hn hw, zb1_some, if_neg k0, if_neg k1, if_neg k2, if_neg k3, if_neg k4, if_neg k5, if_neg k6, if_neg k7]
  · unfold f_X11_work
    rw [r_isWork hC hw, zb1_some, if_neg (by decide), c1, zb2_some, if_neg k0, if_neg k1, if_neg k2, if_neg k3, if_neg k4, if_neg k5, if_neg k6, if_neg k7]
/-! counts -/
theorem r_under {M : zm_Mem} {t v n dy li : Nat} {D : zD} {S : Nat → Nat} {a : Nat → Bool} {g : Nat → Nat} (hC : Cx M t v D S n) (hS : Rw M D a g dy li) (hg : ∀ j, j < D.1 0 1 → g j < 5) : (zm_lp (fun s => f_X11_count_l114 M s.1 s.2) (0, 0)).bind (fun e => some e) = some (nI (bitsOf (fun j => !a j) (D.1 0 1))) := by
  have ht := hC.2.1
  have hT := hC.2.2.1
  have hR := hC.2.2.2
  have bI := cx_isT hC
  have bv := tT_v hT
  have bh := tT_bh hT
  have bw := tT_bw hT
  have bk := tT_bk hT
  refine lp_bits _ _ (fun i b hi hb => ?_) (fun b hb => ?_)
  · have hle : ¬ (D.1 0 1 ≤ i) := by omega
    have hgi := hg i hi
    have hsp := hS.2.1 i hi
    have hneg : ¬ (nI 0 ≤ -nI 2) := by decide
    cases ha : a i with
    | false =>
      rw [ha, if_neg (by decide)] at hsp
      simp (disch := omega) only [f_X11_count_l114, f_X11_count_b142_114, ↓zv_eq, ↓zb1_some, ↓zb2_some, ↓zk_true, Option.bind_some, Option.bind_none, Option.map_some, Sum.elim_inl, Sum.elim_inr, if_true, if_false, ↓reduceIte, lt_lit, nI_clamp, zi_in, nI_leI, nI_ltI, nI_eq, nI_add, pk_mul, zi_sub, pk_div, zi_rem, zi_sh1, zi_shr, zi_and1, zi_or, zi_en, zi_ne, zi_ln, zi_nl, zi_lne, zi_nle, zi_nn, zq_01, zq_10, zq_011, zq_at, zq_ta, ite_not, Classical.not_not, hle, tT_live hT, tT_rh hT, tT_rw hT, tT_rk hT, tT_rla hT, tT_rco hT, tT_rse hT, tT_rno hT, tT_rwa hT, tT_row hT, tT_rst hT, tT_rki hT, tT_rva hT, tT_rtw hT, hsp, hneg, Bool.not_false, or_pow hb]
    | true =>
      rw [ha, if_pos rfl] at hsp
      simp (disch := omega) only [f_X11_count_l114, f_X11_count_b142_114, ↓zv_eq, ↓zb1_some, ↓zb2_some, ↓zk_true, Option.bind_some, Option.bind_none, Option.map_some, Sum.elim_inl, Sum.elim_inr, if_true, if_false, ↓reduceIte, lt_lit, nI_clamp, zi_in, nI_leI, nI_ltI, nI_eq, nI_add, pk_mul, zi_sub, pk_div, zi_rem, zi_sh1, zi_shr, zi_and1, zi_or, zi_en, zi_ne, zi_ln, zi_nl, zi_lne, zi_nle, zi_nn, zq_01, zq_10, zq_011, zq_at, zq_ta, ite_not, Classical.not_not, hle, tT_live hT, tT_rh hT, tT_rw hT, tT_rk hT, tT_rla hT, tT_rco hT, tT_rse hT, tT_rno hT, tT_rwa hT, tT_row hT, tT_rst hT, tT_rki hT, tT_rva hT, tT_rtw hT, hsp, Nat.zero_le, Bool.not_true, reduceCtorEq, Nat.add_zero]
  · simp (disch := omega) only [f_X11_count_l114, ↓zv_eq, ↓zb1_some, ↓zb2_some, ↓zk_true, Option.bind_some, Option.bind_none, Option.map_some, Sum.elim_inl, Sum.elim_inr, if_true, if_false, ↓reduceIte, lt_lit, nI_clamp, zi_in, nI_leI, nI_ltI, nI_eq, nI_add, pk_mul, zi_sub, pk_div, zi_rem, zi_sh1, zi_shr, zi_and1, zi_or, zi_en, zi_ne, zi_ln, zi_nl, zi_lne, zi_nle, zi_nn, zq_01, zq_10, zq_011, zq_at, zq_ta, ite_not, Classical.not_not, Nat.le_refl, tT_live hT, tT_rh hT, tT_rw hT, tT_rk hT, tT_rla hT, tT_rco hT, tT_rse hT, tT_rno hT, tT_rwa hT, tT_row hT, tT_rst hT, tT_rki hT, tT_rva hT, tT_rtw hT]
theorem r_atOwners {M : zm_Mem} {t v n dy li : Nat} {D : zD} {S : Nat → Nat} {a : Nat → Bool} {g : Nat → Nat} (hC : Cx M t v D S n) (hS : Rw M D a g dy li) (hg : ∀ j, j < D.1 0 1 → g j < 5) : (zm_lp (fun s => f_X11_count_l152 M s.1 s.2) (0, 0)).bind (fun e => some e) = some (nI (bitsOf (fun j => a j && decide (g j = D.1 3 j)) (D.1 0 1))) := by
  have ht := hC.2.1
  have hT := hC.2.2.1
  have hR := hC.2.2.2
  have bI := cx_isT hC
  have bv := tT_v hT
  have bh := tT_bh hT
  have bw := tT_bw hT
  have bk := tT_bk hT
  refine lp_bits _ _ (fun i b hi hb => ?_) (fun b hb => ?_)
  · have hle : ¬ (D.1 0 1 ≤ i) := by omega
    have hgi := hg i hi
    have hsp := hS.2.1 i hi
    have hwi := tT_Wb hT i hi
    have eo := r_ownerNow hC hi
    cases ha : a i with
    | false =>
      rw [ha, if_neg (by decide)] at hsp
      simp (disch := omega) only [f_X11_count_l152, f_X11_count_b185_152, ↓zv_eq, ↓zb1_some, ↓zb2_some, ↓zk_true, Option.bind_some, Option.bind_none, Option.map_some, Sum.elim_inl, Sum.elim_inr, if_true, if_false, ↓reduceIte, lt_lit, nI_clamp, zi_in, nI_leI, nI_ltI, nI_eq, nI_add, pk_mul, zi_sub, pk_div, zi_rem, zi_sh1, zi_shr, zi_and1, zi_or, zi_en, zi_ne, zi_ln, zi_nl, zi_lne, zi_nle, zi_nn, zq_01, zq_10, zq_011, zq_at, zq_ta, ite_not, Classical.not_not, hle, tT_live hT, tT_rh hT, tT_rw hT, tT_rk hT, tT_rla hT, tT_rco hT, tT_rse hT, tT_rno hT, tT_rwa hT, tT_row hT, tT_rst hT, tT_rki hT, tT_rva hT, tT_rtw hT, hsp, eo, Bool.false_and, reduceCtorEq, Nat.add_zero]
    | true =>
      rw [ha, if_pos rfl] at hsp
      simp (disch := omega) only [f_X11_count_l152, f_X11_count_b185_152, ↓zv_eq, ↓zb1_some, ↓zb2_some, ↓zk_true, Option.bind_some, Option.bind_none, Option.map_some, Sum.elim_inl, Sum.elim_inr, if_true, if_false, ↓reduceIte, lt_lit, nI_clamp, zi_in, nI_leI, nI_ltI, nI_eq, nI_add, pk_mul, zi_sub, pk_div, zi_rem, zi_sh1, zi_shr, zi_and1, zi_or, zi_en, zi_ne, zi_ln, zi_nl, zi_lne, zi_nle, zi_nn, zq_01, zq_10, zq_011, zq_at, zq_ta, ite_not, Classical.not_not, hle, tT_live hT, tT_rh hT, tT_rw hT, tT_rk hT, tT_rla hT, tT_rco hT, tT_rse hT, tT_rno hT, tT_rwa hT, tT_row hT, tT_rst hT, tT_rki hT, tT_rva hT, tT_rtw hT, hsp, eo, Bool.true_and, decide_eq_true_eq]
      by_cases h : g i = D.1 3 i
      · simp only [h, if_true, or_pow hb]
      · simp only [h, if_false, Nat.add_zero]
  · simp (disch := omega) only [f_X11_count_l152, ↓zv_eq, ↓zb1_some, ↓zb2_some, ↓zk_true, Option.bind_some, Option.bind_none, Option.map_some, Sum.elim_inl, Sum.elim_inr, if_true, if_false, ↓reduceIte, lt_lit, nI_clamp, zi_in, nI_leI, nI_ltI, nI_eq, nI_add, pk_mul, zi_sub, pk_div, zi_rem, zi_sh1, zi_shr, zi_and1, zi_or, zi_en, zi_ne, zi_ln, zi_nl, zi_lne, zi_nle, zi_nn, zq_01, zq_10, zq_011, zq_at, zq_ta, ite_not, Classical.not_not, Nat.le_refl, tT_live hT, tT_rh hT, tT_rw hT, tT_rk hT, tT_rla hT, tT_rco hT, tT_rse hT, tT_rno hT, tT_rwa hT, tT_row hT, tT_rst hT, tT_rki hT, tT_rva hT, tT_rtw hT]
theorem bc_8 : ∀ a, a < 8 → ∀ M : zm_Mem, f_J6_bitCount_0f7a4 (nI a) M = some (nI (a / 2 ^ 0 % 2 + a / 2 ^ 1 % 2 + a / 2 ^ 2 % 2)) := by
  intro a ha M
  match a, ha with
  | 0, _ => rfl
  | 1, _ => rfl
  | 2, _ => rfl
  | 3, _ => rfl
  | 4, _ => rfl
  | 5, _ => rfl
  | 6, _ => rfl
  | 7, _ => rfl
theorem ag_count {M : zm_Mem} {q n : Nat} (hI : Inv M q n) (hn : n < 512) (a1 : Int32) : Ag (rd (f_X10_count a1 M) M) (fun M1 => f_X11_count a1 M1) q n := by
  have hI' := hI
  obtain ⟨t, v, D, S, hC, hX⟩ := hI'
  have ht := hC.2.1
  have hT := hC.2.2.1
  have hR := hC.2.2.2
  have bI := cx_isT hC
  have bv := tT_v hT
  have bh := tT_bh hT
  have bw := tT_bw hT
  have bk := tT_bk hT
  obtain ⟨P, c1, c2, c3, c4, c5, c6⟩ := r_cp hC
  have hCP := cx_sc c2 hC
  have hTP := hCP.2.2.1
  have hXP := rx_sc hC.1 c2 hX
  have wl : ∀ (r : Int32), f_X10_count a1 M = some r → f_X11_count a1 M = some (r, P) → Ag (rd (f_X10_count a1 M) M) (fun M1 => f_X11_count a1 M1) q n := by
    intro r h1 h2
    exact ag_mk hI (r := r) (M1 := M) (M2 := P) (by rw [h1]; rfl) h2 c2
  have hv2 : zm_in (nI v) 2 = true := zm_in_nI (by omega) (by omega)
  have hcv : (nI v).toNatClampNeg = v := nI_clamp (by omega)
  by_cases k0 : a1 = 0
  · refine wl (nI (D.1 0 0)) ?_ ?_
    · unfold f_X10_count; rw [if_pos k0]; simp only [zv_eq]; rw [ht, bI, zk_true, tT_h hT]
    · unfold f_X11_count; rw [c1, zb2_some, if_pos k0, tT_live hTP, hv2, zk_true, hcv, tT_rh hTP]
  by_cases k1 : a1 = 1
  · refine wl (nI (D.1 0 1)) ?_ ?_
    · unfold f_X10_count; rw [if_neg k0, if_pos k1]; simp only [zv_eq]; rw [ht, bI, zk_true, tT_w hT]
    · unfold f_X11_count; rw [c1, zb2_some, if_neg k0, if_pos k1, tT_live hTP, hv2, zk_true, hcv, tT_rw hTP]
  by_cases k2 : a1 = 2
  · refine wl (nI (D.1 0 2)) ?_ ?_
    · unfold f_X10_count; rw [if_neg k0, if_neg k1, if_pos k2]; simp only [zv_eq]; rw [ht, bI, zk_true, tT_k hT]
    · unfold f_X11_count; rw [c1, zb2_some, if_neg k0, if_neg k1, if_pos k2, tT_live hTP, hv2, zk_true, hcv, tT_rk hTP]
  by_cases k3 : a1 = 3
  · refine wl (nI (S 0)) ?_ ?_
    · unfold f_X10_count; rw [if_neg k0, if_neg k1, if_neg k2, if_pos k3, c_today hC]; rfl
    · unfold f_X11_count f_X11_count_b102; rw [c1, zb2_some, if_neg k0, if_neg k1, if_neg k2, if_pos k3, k3, show (27 : Int32) + 3 = nI 30 from rfl, zm_ck_t (zm_in_nI (by omega) (by omega)), nI_clamp (by omega), c4 30 (by omega), tR_rd hR]
  by_cases k4 : a1 = 4
  · refine wl (nI (S 1)) ?_ ?_
    · unfold f_X10_count; rw [if_neg k0, if_neg k1, if_neg k2, if_neg k3, if_pos k4, c_trips hC]; rfl
    · unfold f_X11_count f_X11_count_b102; rw [c1, zb2_some, if_neg k0, if_neg k1, if_neg k2, if_neg k3, if_pos k4, k4, show (27 : Int32) + 4 = nI 31 from rfl, zm_ck_t (zm_in_nI (by omega) (by omega)), nI_clamp (by omega), c4 31 (by omega), tR_rt hR]
  by_cases k5 : a1 = 5
  · refine wl (nI (bitsOf (fun j => !isAt S (S 0) j) (D.1 0 1))) ?_ ?_
    · unfold f_X10_count; rw [if_neg k0, if_neg k1, if_neg k2, if_neg k3, if_neg k4, if_pos k5, c_worksUnderWay hC hn]; rfl
    · unfold f_X11_count; rw [c1, zb2_some, if_neg k0, if_neg k1, if_neg k2, if_neg k3, if_neg k4, if_pos k5, bind_some_id (r_under hCP c3 (hg_S hC))]; rfl
  by_cases k6 : a1 = 6
  · refine wl (nI (bitsOf (fun j => isAt S (S 0) j && decide (S (4 + j) = D.1 3 j)) (D.1 0 1))) ?_ ?_
    · unfold f_X10_count; rw [if_neg k0, if_neg k1, if_neg k2, if_neg k3, if_neg k4, if_neg k5, if_pos k6, c_worksAtOwners hC hn]; rfl
    · unfold f_X11_count; rw [c1, zb2_some, if_neg k0, if_neg k1, if_neg k2, if_neg k3, if_neg k4, if_neg k5, if_pos k6, bind_some_id (r_atOwners hCP c3 (hg_S hC))]; rfl
  by_cases k7 : a1 = 7
  · refine wl (nI (stn D (S 3))) ?_ ?_
    · unfold f_X10_count; rw [if_neg k0, if_neg k1, if_neg k2, if_neg k3, if_neg k4, if_neg k5, if_neg k6, if_pos k7, c_standing hC]; rfl
    · unfold f_X11_count; rw [c1, zb2_some, if_neg k0, if_neg k1, if_neg k2, if_neg k3, if_neg k4, if_neg k5, if_neg k6, if_pos k7, r_standing hCP c3]; rfl
  by_cases k8 : a1 = 8
  · obtain ⟨N, -, u1, -, -⟩ := hX.2.2.1
    obtain ⟨N', -, u1', u2', -⟩ := hXP.2.2.1
    have u3 : M.1 1 15 = P.1 52 2 := by rw [u2', ← u1', sc_1 c2 (id := 1) (j := 15) rfl]
    refine wl (M.1 1 15) ?_ ?_
    · unfold f_X10_count; rw [if_neg k0, if_neg k1, if_neg k2, if_neg k3, if_neg k4, if_neg k5, if_neg k6, if_neg k7, if_pos k8]
    · unfold f_X11_count; rw [c1, zb2_some, if_neg k0, if_neg k1, if_neg k2, if_neg k3, if_neg k4, if_neg k5, if_neg k6, if_neg k7, if_pos k8, u3]
  by_cases k9 : a1 = 9
  · obtain ⟨s, x, -, -, u1, u2, -, -⟩ := hXP.2.2.2.2.2.1
    have u3 : M.1 13 2 = P.1 52 59 := by rw [u2, ← u1, sc_1 c2 (id := 13) (j := 2) rfl]
    refine wl (M.1 13 2) ?_ ?_
    · unfold f_X10_count f_X1_size; rw [if_neg k0, if_neg k1, if_neg k2, if_neg k3, if_neg k4, if_neg k5, if_neg k6, if_neg k7, if_neg k8, if_pos k9]; rfl
    · unfold f_X11_count; rw [c1, zb2_some, if_neg k0, if_neg k1, if_neg k2, if_neg k3, if_neg k4, if_neg k5, if_neg k6, if_neg k7, if_neg k8, if_pos k9, u3]
  by_cases k10 : a1 = 10
  · obtain ⟨s, -, u1, u2, -⟩ := hXP.2.2.2.2.2.2.2.1
    have u3 : M.1 16 7 = P.1 52 65 := by rw [u2, ← u1, sc_1 c2 (id := 16) (j := 7) rfl]
    refine wl (M.1 16 7) ?_ ?_
    · unfold f_X10_count f_X0_size; rw [if_neg k0, if_neg k1, if_neg k2, if_neg k3, if_neg k4, if_neg k5, if_neg k6, if_neg k7, if_neg k8, if_neg k9, if_pos k10]; rfl
    · unfold f_X11_count; rw [c1, zb2_some, if_neg k0, if_neg k1, if_neg k2, if_neg k3, if_neg k4, if_neg k5, if_neg k6, if_neg k7, if_neg k8, if_neg k9, if_pos k10, u3]
  by_cases k11 : a1 = 11
  · obtain ⟨a, ha, u1, u2⟩ := hXP.2.2.2.2.2.2.1
    have u3 : M.1 1 14 = nI a := by rw [← u1, sc_1 c2 (id := 1) (j := 14) rfl]
    refine wl (nI (a / 2 ^ 0 % 2 + a / 2 ^ 1 % 2 + a / 2 ^ 2 % 2)) ?_ ?_
    · unfold f_X10_count; rw [if_neg k0, if_neg k1, if_neg k2, if_neg k3, if_neg k4, if_neg k5, if_neg k6, if_neg k7, if_neg k8, if_neg k9, if_neg k10, if_pos k11, u3, bc_8 a ha]; rfl
    · have v0 := (u2 0 (by omega)).1
      have v1 := (u2 1 (by omega)).1
      have v2 := (u2 2 (by omega)).1
      have i0 : (0 : Int32).toNatClampNeg = 0 := by decide
      have i1 : (1 : Int32).toNatClampNeg = 1 := by decide
      have i2 : (2 : Int32).toNatClampNeg = 2 := by decide
      have z0 : zm_in 0 3 = true := by decide
      have z1 : zm_in 1 3 = true := by decide
      have z2 : zm_in 2 3 = true := by decide
      unfold f_X11_count
      rw [c1, zb2_some, if_neg k0, if_neg k1, if_neg k2, if_neg k3, if_neg k4, if_neg k5, if_neg k6, if_neg k7, if_neg k8, if_neg k9, if_neg k10, if_pos k11]
      unfold f_X11_count_b227 f_X11_count_b241
      simp only [z0, z1, z2, zk_true, i0, i1, i2, v0, v1, v2]
      match a, ha with
      | 0, _ => rfl
      | 1, _ => rfl
      | 2, _ => rfl
      | 3, _ => rfl
      | 4, _ => rfl
      | 5, _ => rfl
      | 6, _ => rfl
      | 7, _ => rfl
  by_cases k12 : a1 = 12
  · refine wl (M.1 12 2) ?_ ?_
    · unfold f_X10_count; rw [if_neg k0, if_neg k1, if_neg k2, if_neg k3, if_neg k4, if_neg k5, if_neg k6, if_neg k7, if_neg k8, if_neg k9, if_neg k10, if_neg k11, if_pos k12]; rfl
    · unfold f_X11_count; rw [c1, zb2_some, if_neg k0, if_neg k1, if_neg k2, if_neg k3, if_neg k4, if_neg k5, if_neg k6, if_neg k7, if_neg k8, if_neg k9, if_neg k10, if_neg k11, if_pos k12, zm_ck_t (by decide), show (32 : Int32).toNatClampNeg = 32 from by decide, c4 32 (by omega), tR_la hR]
  refine wl (-1) ?_ ?_
  · unfold f_X10_count; rw [if_neg k0, if_neg k1, if_neg k2, if_neg k3, if_neg k4, if_neg k5, if_neg k6, if_neg k7, if_neg k8, if_neg k9, if_neg k10, if_neg k11, if_neg k12]
  · unfold f_X11_count; rw [c1, zb2_some, if_neg k0, if_neg k1, if_neg k2, if_neg k3, if_neg k4, if_neg k5, if_neg k6, if_neg k7, if_neg k8, if_neg k9, if_neg k10, if_neg k11, if_neg k12]
