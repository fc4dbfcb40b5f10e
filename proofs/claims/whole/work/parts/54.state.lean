/-! undo, hold, restore -/
def wUn (x j : Nat) : Bool := decide (x = 13) || (decide (x = 12) || (decide (x = 91) || ((decide (x = 1) && decide (j = 13)) || (decide (x = 52) && decide (j = 59)))))
theorem wUn_T : ∀ x j, wUn x j = true → c_T x j = false := by
  intro x j h
  simp only [wUn, Bool.or_eq_true, Bool.and_eq_true, decide_eq_true_eq] at h
  rcases h with rfl | rfl | rfl | ⟨rfl, rfl⟩ | ⟨rfl, rfl⟩ <;> rfl
theorem inv_back {M M' : zm_Mem} {t v q n : Nat} {D : zD} {S S' : Nat → Nat} (hC : Cx M t v D S n) (hX : Rx M t D S q n) (hF : Fr wUn M M') (hN : iv_R (M'.1 12) (M'.1 91) (D.1 0 0) (D.1 0 1) (D.1 0 2) (n + 1) S') (pa : iv_past M' (D.1 0 0) (D.1 0 1) (D.1 0 2) (n + 1)) (hz : M'.1 1 13 = 0) : Inv M' q (n + 1) := by
  refine inv_new hC hX hF.1 (iT_fr hC.1 hF wUn_T hC.2.2.1) hN (tape_fr hF rfl rfl (fun _ => rfl) (fun _ => rfl) hX.2.2.1) ?_ pa (held_fr hF rfl (fun _ => rfl) (fun _ => rfl) (fun _ => rfl) hX.2.2.2.2.2.2.1) (cr_fr hF rfl rfl (fun _ => rfl) (fun _ => rfl) (fun _ => rfl) (fun _ => rfl) (fun _ => rfl) (fun _ => rfl) hX.2.2.2.2.2.2.2.1) (Or.inl hz) (fr_row hF (fun _ => rfl)) (fr_row hF (fun _ => rfl))
  rw [hF.2 1 16 rfl, hF.2 52 17 rfl]; exact hX.2.2.2.1
theorem c_takeBack {M : zm_Mem} {s x : Nat} (h1 : M.1 13 1 = nI x) (h2 : M.1 13 2 = nI s) (hx : x < 40) (hs : s ≤ 40) (h0 : 0 < s) : f_X1_takeBack 12 M = some ((), cpM (zm_sI (zm_sI M 13 1 (nI ((x + 39) % 40))) 13 2 (nI (s - 1))) 12 0 47 (fun k => M.1 14 ((x + 39) % 40 * 47 + k))) := by
  have e47 : (zm_sh 12).2 = 47 := rfl
  have k1 : ∀ z, (zm_sI M 13 1 z).1 13 2 = nI s := fun z => by rw [mI1, if_neg (by omega)]; exact h2
  have k2 : ∀ z y, (zm_sI (zm_sI M 13 1 z) 13 2 y).1 13 1 = z := fun z y => by rw [mI1, if_neg (by omega), mI1, if_pos ⟨rfl, rfl⟩]
  have k3 : nI (x + 40) - nI 1 = nI (x + 39) := nI_pred (x + 39)
  have k4 : (!decide (nI 40 = nI 0)) = true := by decide
  have k5 : ∀ z y i, (zm_sI (zm_sI M 13 1 z) 13 2 y).1 14 i = M.1 14 i := fun z y i => by rw [mI1, if_neg (by omega), mI1, if_neg (by omega)]
  have h0' : ¬ s ≤ 0 := by omega
  unfold f_X1_takeBack
  rw [h2, if_neg (show ¬ nI s ≤ 0 from nI_nle h0 (by omega))]
  simp (disch := omega) only [lt_lit, ↓zv_eq, k4, ↓zk_true, h1, nI_add, k3, zi_rem, k1, k2, zi_sub, pk_mul, e47]
  rw [zm_ck_t (ck_cp (a := (x + 39) % 40 * 47) (b := 0) (by omega) (by omega) (by omega) (by omega))]
  simp (disch := omega) only [↓zv_eq, nI_clamp, zcp1, k5]
theorem ag_undo {M : zm_Mem} {q n : Nat} (hI : Inv M q n) (hn : n < 512) : Ag (f_X10_undo M) (fun M1 => f_X11_undo M1) q n := by
  have hI' := hI
  obtain ⟨t, v, D, S, hC, hX⟩ := hI'
  have ht := hC.2.1
  have hT := hC.2.2.1
  have hR := hC.2.2.2
  have bI := cx_isT hC
  have bv := tT_v hT
  have bh := tT_bh hT
  have bw := tT_bw hT
  have bk := tT_bk hT
  obtain ⟨s, x, hs, hx, e1, e2, e3, e4⟩ := hX.2.2.2.2.2.1
  by_cases h0 : s = 0
  · subst h0
    refine ag_mk hI (r := 0) (M1 := M) (M2 := M) ?_ ?_ (sc_rfl M)
    · unfold f_X10_undo f_X1_size
      rw [e1, zb1_some, if_pos (by rfl)]
    · show f_X11_undo M = _
      unfold f_X11_undo
      rw [e2, if_pos (by rfl)]
  have hne : ¬ nI s = 0 := nI_ne0 (by omega) (by omega)
  obtain ⟨S1, hS1⟩ := e4 (s - 1) (by omega)
  have eb := c_takeBack e3 e1 hx hs (by omega)
  generalize hK : cpM (zm_sI (zm_sI M 13 1 (nI ((x + 39) % 40))) 13 2 (nI (s - 1))) 12 0 47 (fun k => M.1 14 ((x + 39) % 40 * 47 + k)) = K at eb
  have k1 : K.1 13 1 = nI ((x + 39) % 40) := by
    rw [← hK, mC_ne (by omega), mI1, if_neg (by omega), mI1, if_pos ⟨rfl, rfl⟩]
  have k2 : K.1 13 2 = nI (s - 1) := by rw [← hK, mC_ne (by omega), mI1, if_pos ⟨rfl, rfl⟩]
  have k3 : ∀ j, j < 47 → K.1 12 j = M.1 14 ((x + 39) % 40 * 47 + j) := fun j hj => by rw [← hK, mC_in hj]
  have kF : Fr (fun x _ => decide (x = 13) || decide (x = 12)) M K := by
    rw [← hK]; exact fr_tr (fr_tr (fr_sI rfl) (fr_sI rfl)) (fr_cpM (fun _ => rfl))
  have k59 : (zm_sI K 1 13 (nI 0)).1 52 59 = nI s := by rw [mI1, if_neg (by omega)]; exact (kF.2 52 59 rfl).trans e2
  have key : zm_lp (fun s => f_X11_undo_l21 s.1 s.2) (0, zm_sI (zm_sI K 1 13 (nI 0)) 52 59 (nI (s - 1))) = some (cpM (zm_sI (zm_sI K 1 13 (nI 0)) 52 59 (nI (s - 1))) 91 0 60 (fun j => M.1 93 (60 * (s - 1) + j))) := by
    refine lp_cpy _ 91 0 60 _ (fun i hi => ?_) ?_
    · have hle : ¬ 60 ≤ i := by omega
      have q1 : (cpM (zm_sI (zm_sI K 1 13 (nI 0)) 52 59 (nI (s - 1))) 91 0 i (fun j => M.1 93 (60 * (s - 1) + j))).1 52 59 = nI (s - 1) := by rw [mC_ne (by omega), mI1, if_pos ⟨rfl, rfl⟩]
      have q2 : ∀ y, (cpM (zm_sI (zm_sI K 1 13 (nI 0)) 52 59 (nI (s - 1))) 91 0 i (fun j => M.1 93 (60 * (s - 1) + j))).1 93 y = M.1 93 y := fun y => by rw [mC_ne (by omega), mI1, if_neg (by omega), mI1, if_neg (by omega)]; exact kF.2 93 y rfl
      simp (disch := omega) only [f_X11_undo_l21, ↓zv_eq, ↓zb1_some, ↓zb2_some, ↓zk_true, Option.bind_some, Option.bind_none, Option.map_some, Sum.elim_inl, Sum.elim_inr, if_true, if_false, ↓reduceIte, lt_lit, nI_clamp, zi_in, nI_leI, nI_ltI, nI_eq, nI_add, pk_mul, zi_sub, pk_div, zi_rem, zi_sh1, zi_shr, zi_and1, zi_or, zi_en, zi_ne, zi_ln, zi_nl, zi_lne, zi_nle, zi_nn, zq_01, zq_10, zq_011, zq_at, zq_ta, ite_not, Classical.not_not, hle, q1, q2, Nat.zero_add]
    · simp (disch := omega) only [f_X11_undo_l21, ↓zv_eq, ↓zb1_some, ↓zb2_some, ↓zk_true, Option.bind_some, Option.bind_none, Option.map_some, Sum.elim_inl, Sum.elim_inr, if_true, if_false, ↓reduceIte, lt_lit, nI_clamp, zi_in, nI_leI, nI_ltI, nI_eq, nI_add, pk_mul, zi_sub, pk_div, zi_rem, zi_sh1, zi_shr, zi_and1, zi_or, zi_en, zi_ne, zi_ln, zi_nl, zi_lne, zi_nle, zi_nn, zq_01, zq_10, zq_011, zq_at, zq_ta, ite_not, Classical.not_not, Nat.le_refl]
  refine ⟨1, zm_sI K 1 13 (nI 0), cpM (zm_sI (zm_sI K 1 13 (nI 0)) 52 59 (nI (s - 1))) 91 0 60 (fun j => M.1 93 (60 * (s - 1) + j)), ?_, ?_, ?_⟩
  · unfold f_X10_undo f_X1_size
    rw [e1, zb1_some, if_neg hne, eb]; rfl
  · show f_X11_undo _ = _
    unfold f_X11_undo
    rw [k59, if_neg hne, show nI s - 1 = nI (s - 1) from zi_sub (b := 1) (by omega)]
    simp only [zv_eq]
    rw [key]; rfl
  · have hF : Fr wUn M (cpM (zm_sI (zm_sI K 1 13 (nI 0)) 52 59 (nI (s - 1))) 91 0 60 (fun j => M.1 93 (60 * (s - 1) + j))) := fr_tr (fr_mono (fun x j h => by simp only [wUn, Bool.or_eq_true, decide_eq_true_eq] at h ⊢; omega) kF) (fr_tr (fr_tr (fr_sI rfl) (fr_sI rfl)) (fr_cpM (fun _ => rfl)))
    refine inv_back (S' := S1) hC hX hF ?_ ⟨s - 1, (x + 39) % 40, by omega, by omega, ?_, ?_, ?_, fun i hi => ?_⟩ ?_
    · refine iv_R_congr bw bk (fun j hj => ?_) (fun j hj => ?_) (iv_R_mono hS1)
      · rw [mC_ne (by omega), mI1, if_neg (by omega), mI1, if_neg (by omega), k3 j hj]
        exact congrArg (M.1 14) (by omega)
      · rw [mC_in hj]
    · rw [mC_ne (by omega), mI1, if_neg (by omega), mI1, if_neg (by omega), k2]
    · rw [mC_ne (by omega), mI1, if_pos ⟨rfl, rfl⟩]
    · rw [mC_ne (by omega), mI1, if_neg (by omega), mI1, if_neg (by omega), k1]
    · obtain ⟨S2, hS2⟩ := e4 i (by omega)
      refine ⟨S2, iv_R_congr bw bk (fun j hj => ?_) (fun j hj => ?_) (iv_R_mono hS2)⟩
      · show (cpM _ _ _ _ _).1 14 _ = _
        rw [mC_ne (by omega), mI1, if_neg (by omega), mI1, if_neg (by omega), kF.2 14 _ rfl]
        exact congrArg (M.1 14) (by omega)
      · show (cpM _ _ _ _ _).1 93 _ = _
        rw [mC_ne (by omega), mI1, if_neg (by omega), mI1, if_neg (by omega), kF.2 93 _ rfl]
    · rw [mC_ne (by omega), mI1, if_neg (by omega), mI1, if_pos ⟨rfl, rfl⟩]; rfl
def wHo (x j : Nat) : Bool := decide (x = 15) || (decide (x = 101) || (decide (x = 102) || (decide (x = 1) && decide (j = 14))))
theorem wHo_T : ∀ x j, wHo x j = true → c_T x j = false := by
  intro x j h
  simp only [wHo, Bool.or_eq_true, Bool.and_eq_true, decide_eq_true_eq] at h
  rcases h with rfl | rfl | rfl | ⟨rfl, rfl⟩ <;> rfl
theorem inv_hold {M M' : zm_Mem} {t v q n : Nat} {D : zD} {S : Nat → Nat} (hC : Cx M t v D S n) (hX : Rx M t D S q n) (hF : Fr wHo M M') (he : iv_held M' (D.1 0 0) (D.1 0 1) (D.1 0 2) (n + 1)) : Inv M' q (n + 1) := by
  refine inv_new hC hX hF.1 (iT_fr hC.1 hF wHo_T hC.2.2.1) ?_ (tape_fr hF rfl rfl (fun _ => rfl) (fun _ => rfl) hX.2.2.1) ?_ (past_fr hF (fun _ => rfl) (fun _ => rfl) rfl (fun _ => rfl) hX.2.2.2.2.2.1) he (cr_fr hF rfl rfl (fun _ => rfl) (fun _ => rfl) (fun _ => rfl) (fun _ => rfl) (fun _ => rfl) (fun _ => rfl) hX.2.2.2.2.2.2.2.1) (sur_fr hF rfl (fun _ => rfl) (fun _ => rfl) hX.2.2.2.2.2.2.2.2.1) (fr_row hF (fun _ => rfl)) (fr_row hF (fun _ => rfl))
  · rw [fr_row hF (x := 12) (fun _ => rfl), fr_row hF (x := 91) (fun _ => rfl)]; exact iv_R_mono hC.2.2.2
  · rw [hF.2 1 16 rfl, hF.2 52 17 rfl]; exact hX.2.2.2.1
theorem or_bit : ∀ a, a < 8 → ∀ s, s < 3 → a ||| 2 ^ s < 8 ∧ ∀ i, i < 3 → (a ||| 2 ^ s) / 2 ^ i % 2 = if i = s then 1 else a / 2 ^ i % 2 := by decide
theorem ag_hold {M : zm_Mem} {q n : Nat} (hI : Inv M q n) (hn : n < 512) (a1 : Int32) : Ag (f_X10_hold a1 M) (fun M1 => f_X11_hold a1 M1) q n := by
  have hI' := hI
  obtain ⟨t, v, D, S, hC, hX⟩ := hI'
  have ht := hC.2.1
  have hT := hC.2.2.1
  have hR := hC.2.2.2
  have bI := cx_isT hC
  have bv := tT_v hT
  have bh := tT_bh hT
  have bw := tT_bw hT
  have bk := tT_bk hT
  rcases ix_cases a1 (b := 3) (by omega) with h | ⟨s, hs, rfl⟩
  · refine ag_mk hI (r := 0) (M1 := M) (M2 := M) ?_ ?_ (sc_rfl M)
    · unfold f_X10_hold
      by_cases h0 : a1 < 0
      · rw [if_pos h0]
      · rw [if_neg h0, if_neg (show ¬ a1 < 3 from Int32.not_lt.2 (h.resolve_left h0))]
    · show f_X11_hold a1 M = _
      unfold f_X11_hold
      rw [show f_X11_in a1 0 2 M = some (nI 0) from r_inN (b := 2) (by omega) h, zb1_some, if_pos (by rfl)]
  obtain ⟨a, ha, e1, e2⟩ := hX.2.2.2.2.2.2.1
  have hb := or_bit a ha s hs
  have kc : f_X10_hold (nI s) M = some (1, zm_sI (cpM M 15 (s * 47) 47 (M.1 12)) 1 14 (nI (a ||| 2 ^ s))) := by
    have k1 : (cpM M 15 (s * 47) 47 (M.1 12)).1 1 14 = nI a := (mC_ne (by omega)).trans e1
    have h3 : nI s < nI 3 := nI_lt hs (by omega)
    have h0 : ¬ nI s < nI 0 := nI_nlt (by omega) (by omega)
    unfold f_X10_hold
    simp only [lt_lit, h0, h3, ↓reduceIte, pk_mul]
    rw [zm_ck_t (ck_cp (a := 0) (b := s * 47) (by omega) (by omega) (by omega) (by omega))]
    simp (disch := omega) only [↓zv_eq, nI_clamp, zcp0, k1, zi_sh1, zi_or]
  generalize hK : zm_sI (cpM M 15 (s * 47) 47 (M.1 12)) 1 14 (nI (a ||| 2 ^ s)) = K at kc
  have kF : Fr (fun x j => decide (x = 15) || (decide (x = 1) && decide (j = 14))) M K := by
    rw [← hK]; exact fr_tr (fr_cpM (fun _ => rfl)) (fr_sI rfl)
  have k14 : K.1 1 14 = nI (a ||| 2 ^ s) := by rw [← hK, mI1, if_pos ⟨rfl, rfl⟩]
  have k15 : ∀ j, K.1 15 j = (cpM M 15 (s * 47) 47 (M.1 12)).1 15 j := fun j => by rw [← hK, mI1, if_neg (by omega)]
  have key : zm_lp (fun z => f_X11_hold_l20 (nI s) z.1 z.2) (0, zm_sI K 101 s (nI 1)) = some (cpM (zm_sI K 101 s (nI 1)) 102 (60 * s) 60 (M.1 91)) := by
    refine lp_cpy _ 102 (60 * s) 60 _ (fun i hi => ?_) ?_
    · have hle : ¬ 60 ≤ i := by omega
      have q2 : (cpM (zm_sI K 101 s (nI 1)) 102 (60 * s) i (M.1 91)).1 91 i = M.1 91 i := by rw [mC_ne (by omega), mI1, if_neg (by omega)]; exact kF.2 91 i rfl
      simp (disch := omega) only [f_X11_hold_l20, ↓zv_eq, ↓zb1_some, ↓zb2_some, ↓zk_true, Option.bind_some, Option.bind_none, Option.map_some, Sum.elim_inl, Sum.elim_inr, if_true, if_false, ↓reduceIte, lt_lit, nI_clamp, zi_in, nI_leI, nI_ltI, nI_eq, nI_add, pk_mul, zi_sub, pk_div, zi_rem, zi_sh1, zi_shr, zi_and1, zi_or, zi_en, zi_ne, zi_ln, zi_nl, zi_lne, zi_nle, zi_nn, zq_01, zq_10, zq_011, zq_at, zq_ta, ite_not, Classical.not_not, hle, q2]
    · simp (disch := omega) only [f_X11_hold_l20, ↓zv_eq, ↓zb1_some, ↓zb2_some, ↓zk_true, Option.bind_some, Option.bind_none, Option.map_some, Sum.elim_inl, Sum.elim_inr, if_true, if_false, ↓reduceIte, lt_lit, nI_clamp, zi_in, nI_leI, nI_ltI, nI_eq, nI_add, pk_mul, zi_sub, pk_div, zi_rem, zi_sh1, zi_shr, zi_and1, zi_or, zi_en, zi_ne, zi_ln, zi_nl, zi_lne, zi_nle, zi_nn, zq_01, zq_10, zq_011, zq_at, zq_ta, ite_not, Classical.not_not, Nat.le_refl]
  refine ⟨1, K, cpM (zm_sI K 101 s (nI 1)) 102 (60 * s) 60 (M.1 91), kc, ?_, ?_⟩
  · show f_X11_hold (nI s) K = _
    unfold f_X11_hold
    rw [show f_X11_in (nI s) 0 2 K = some (nI 1) from r_inY (b := 2) (by omega) (by omega), zb1_some, if_neg (by decide), zm_ck_t (zm_in_nI (by omega) (by omega)), nI_clamp (by omega)]
    simp only [zv_eq]
    rw [show vp_nar .boolean 1 = nI 1 from by decide, key]; rfl
  · have hF : Fr wHo M (cpM (zm_sI K 101 s (nI 1)) 102 (60 * s) 60 (M.1 91)) := fr_tr (fr_mono (fun x j h => by simp only [wHo, Bool.or_eq_true, Bool.and_eq_true, decide_eq_true_eq] at h ⊢; omega) kF) (fr_tr (fr_sI rfl) (fr_cpM (fun _ => rfl)))
    refine inv_hold hC hX hF ⟨a ||| 2 ^ s, hb.1, ?_, fun i hi => ⟨?_, fun hi1 => ?_⟩⟩
    · rw [mC_ne (by omega), mI1, if_neg (by omega), k14]
    · rw [mC_ne (by omega), mI1, hb.2 i hi]
      by_cases his : i = s
      · rw [if_pos ⟨rfl, his⟩, if_pos his]
      · rw [if_neg (by omega), if_neg his, kF.2 101 i rfl]; exact (e2 i hi).1
    · rw [hb.2 i hi] at hi1
      by_cases his : i = s
      · subst his
        refine ⟨S, iv_R_congr bw bk (fun j hj => ?_) (fun j hj => ?_) (iv_R_mono hR)⟩
        · show (cpM _ _ _ _ _).1 15 _ = _
          rw [mC_ne (by omega), mI1, if_neg (by omega), k15, show 47 * i + j = i * 47 + j by omega, mC_in' hj]
        · show (cpM _ _ _ _ _).1 102 _ = _
          rw [mC_in' hj]
      · rw [if_neg his] at hi1
        obtain ⟨S2, hS2⟩ := (e2 i hi).2 hi1
        refine ⟨S2, iv_R_congr bw bk (fun j hj => ?_) (fun j hj => ?_) (iv_R_mono hS2)⟩
        · show (cpM _ _ _ _ _).1 15 _ = _
          rw [mC_ne (by omega), mI1, if_neg (by omega), k15, mC_out (by omega)]
        · show (cpM _ _ _ _ _).1 102 _ = _
          rw [mC_out (by omega), mI1, if_neg (by omega), kF.2 102 _ rfl]
theorem ag_restore {M : zm_Mem} {q n : Nat} (hI : Inv M q n) (hn : n < 512) (a1 : Int32) : Ag (f_X10_restore a1 M) (fun M1 => f_X11_restore a1 M1) q n := by
  have hI' := hI
  obtain ⟨t, v, D, S, hC, hX⟩ := hI'
  have ht := hC.2.1
  have hT := hC.2.2.1
  have hR := hC.2.2.2
  have bI := cx_isT hC
  have bv := tT_v hT
  have bh := tT_bh hT
  have bw := tT_bw hT
  have bk := tT_bk hT
  rcases ix_cases a1 (b := 3) (by omega) with h | ⟨s, hs, rfl⟩
  · refine ag_mk hI (r := 0) (M1 := M) (M2 := M) ?_ ?_ (sc_rfl M)
    · unfold f_X10_restore
      by_cases h0 : a1 < 0
      · rw [if_pos h0]
      · rw [if_neg h0, if_pos (show (3 : Int32) ≤ a1 from h.resolve_left h0)]
    · show f_X11_restore a1 M = _
      unfold f_X11_restore
      rw [show f_X11_in a1 0 2 M = some (nI 0) from r_inN (b := 2) (by omega) h, zb1_some, if_pos (by rfl)]
  obtain ⟨a, ha, e1, e2⟩ := hX.2.2.2.2.2.2.1
  obtain ⟨y1, y2⟩ := e2 s hs
  have h3 : ¬ nI 3 ≤ nI s := nI_ge hs (by omega)
  have h0 : ¬ nI s < nI 0 := nI_nlt (by omega) (by omega)
  by_cases hb : a / 2 ^ s % 2 = 0
  · refine ag_mk hI (r := 0) (M1 := M) (M2 := M) ?_ ?_ (sc_rfl M)
    · unfold f_X10_restore
      simp (disch := omega) only [lt_lit, h0, h3, ↓reduceIte, e1, zi_shr, zi_and1, hb]
    · show f_X11_restore (nI s) M = _
      unfold f_X11_restore
      rw [show f_X11_in (nI s) 0 2 M = some (nI 1) from r_inY (b := 2) (by omega) (by omega), zb1_some, if_neg (by decide), zm_ck_t (zm_in_nI (by omega) (by omega)), nI_clamp (by omega), y1, hb, if_pos (by rfl)]
  have hb1 : a / 2 ^ s % 2 = 1 := by omega
  obtain ⟨S1, hS1⟩ := y2 hb1
  have hb2 : ¬ nI 1 = nI 0 := by decide
  have kc : f_X10_restore (nI s) M = some (1, zm_sI (zm_sI (cpM M 12 0 47 (fun k => M.1 15 (s * 47 + k))) 13 2 (nI 0)) 1 13 (nI 0)) := by
    unfold f_X10_restore
    simp (disch := omega) only [lt_lit, h0, h3, ↓reduceIte, e1, zi_shr, zi_and1, hb1, hb2, pk_mul]
    rw [zm_ck_t (ck_cp (a := s * 47) (b := 0) (by omega) (by omega) (by omega) (by omega))]
    unfold f_X1_empty
    simp (disch := omega) only [↓zv_eq, ↓zb2_some, nI_clamp, zcp1, lt_lit]
  generalize hK : zm_sI (zm_sI (cpM M 12 0 47 (fun k => M.1 15 (s * 47 + k))) 13 2 (nI 0)) 1 13 (nI 0) = K at kc
  have kF : Fr (fun x j => decide (x = 12) || ((decide (x = 13) && decide (j = 2)) || (decide (x = 1) && decide (j = 13)))) M K := by
    rw [← hK]; exact fr_tr (fr_tr (fr_cpM (fun _ => rfl)) (fr_sI rfl)) (fr_sI rfl)
  have k12 : ∀ j, j < 47 → K.1 12 j = M.1 15 (s * 47 + j) := fun j hj => by rw [← hK, mI1, if_neg (by omega), mI1, if_neg (by omega), mC_in hj]
  have key : zm_lp (fun z => f_X11_restore_l22 (nI s) z.1 z.2) (0, K) = some (cpM K 91 0 60 (fun j => M.1 102 (60 * s + j))) := by
    refine lp_cpy _ 91 0 60 _ (fun i hi => ?_) ?_
    · have hle : ¬ 60 ≤ i := by omega
      have q2 : (cpM K 91 0 i (fun j => M.1 102 (60 * s + j))).1 102 (60 * s + i) = M.1 102 (60 * s + i) := by rw [mC_ne (by omega)]; exact kF.2 102 _ rfl
      simp (disch := omega) only [f_X11_restore_l22, ↓zv_eq, ↓zb1_some, ↓zb2_some, ↓zk_true, Option.bind_some, Option.bind_none, Option.map_some, Sum.elim_inl, Sum.elim_inr, if_true, if_false, ↓reduceIte, lt_lit, nI_clamp, zi_in, nI_leI, nI_ltI, nI_eq, nI_add, pk_mul, zi_sub, pk_div, zi_rem, zi_sh1, zi_shr, zi_and1, zi_or, zi_en, zi_ne, zi_ln, zi_nl, zi_lne, zi_nle, zi_nn, zq_01, zq_10, zq_011, zq_at, zq_ta, ite_not, Classical.not_not, hle, q2, Nat.zero_add]
    · simp (disch := omega) only [f_X11_restore_l22, ↓zv_eq, ↓zb1_some, ↓zb2_some, ↓zk_true, Option.bind_some, Option.bind_none, Option.map_some, Sum.elim_inl, Sum.elim_inr, if_true, if_false, ↓reduceIte, lt_lit, nI_clamp, zi_in, nI_leI, nI_ltI, nI_eq, nI_add, pk_mul, zi_sub, pk_div, zi_rem, zi_sh1, zi_shr, zi_and1, zi_or, zi_en, zi_ne, zi_ln, zi_nl, zi_lne, zi_nle, zi_nn, zq_01, zq_10, zq_011, zq_at, zq_ta, ite_not, Classical.not_not, Nat.le_refl]
  obtain ⟨s0, x0, -, hx0, -, -, z3, -⟩ := hX.2.2.2.2.2.1
  refine ⟨1, K, zm_sI (cpM K 91 0 60 (fun j => M.1 102 (60 * s + j))) 52 59 0, kc, ?_, ?_⟩
  · show f_X11_restore (nI s) K = _
    unfold f_X11_restore
    rw [show f_X11_in (nI s) 0 2 K = some (nI 1) from r_inY (b := 2) (by omega) (by omega), zb1_some, if_neg (by decide), zm_ck_t (zm_in_nI (by omega) (by omega)), nI_clamp (by omega), kF.2 101 s rfl, y1, hb1, if_neg (show ¬ nI 1 = 0 from hb2), key]; rfl
  · have hF : Fr wUn M (zm_sI (cpM K 91 0 60 (fun j => M.1 102 (60 * s + j))) 52 59 0) := fr_tr (fr_mono (fun x j h => by simp only [wUn, Bool.or_eq_true, Bool.and_eq_true, decide_eq_true_eq] at h ⊢; omega) kF) (fr_tr (fr_cpM (fun _ => rfl)) (fr_sI rfl))
    refine inv_back (S' := S1) hC hX hF ?_ ⟨0, x0, by omega, hx0, ?_, ?_, ?_, fun i hi => by omega⟩ ?_
    · refine iv_R_congr bw bk (fun j hj => ?_) (fun j hj => ?_) (iv_R_mono hS1)
      · rw [mI1, if_neg (by omega), mC_ne (by omega), k12 j hj, Nat.mul_comm]
      · rw [mI1, if_neg (by omega), mC_in hj]
    · rw [mI1, if_neg (by omega), mC_ne (by omega), ← hK, mI1, if_neg (by omega), mI1, if_pos ⟨rfl, rfl⟩]
    · rw [mI1, if_pos ⟨rfl, rfl⟩]; rfl
    · rw [mI1, if_neg (by omega), mC_ne (by omega), kF.2 13 1 rfl]; exact z3
    · rw [mI1, if_neg (by omega), mC_ne (by omega), ← hK, mI1, if_pos ⟨rfl, rfl⟩]; rfl
