/-! days, lift, send: things done -/
def upS (S : Nat → Nat) (i v : Nat) : Nat → Nat := fun k => if k = i then v else S k
theorem upS_eq (S : Nat → Nat) (i v : Nat) : upS S i v i = v := if_pos rfl
theorem upS_ne {S : Nat → Nat} {i v k : Nat} (h : k ≠ i) : upS S i v k = S k := if_neg h
theorem tp_nat (D : zD) (vs : Nat → Int32) : ∃ y, 1 ≤ y ∧ y ≤ 99 ∧ tp D vs = nI y := by
  unfold tp
  rw [clamp_eq (by decide)]
  by_cases h1 : nI 1 ≤ gd (lawv vs (D.2.2 0).1 (D.2.2 0).2)
  · rw [if_pos h1]
    by_cases h2 : gd (lawv vs (D.2.2 0).1 (D.2.2 0).2) ≤ nI 99
    · rw [if_pos h2]
      obtain ⟨j, hj, e⟩ := nI_of2 (n := 99) (by decide) (fun z => by
        rw [Int32.lt_iff_toInt_lt] at z
        rw [Int32.le_iff_toInt_le] at h1
        have : (nI 1).toInt = 1 := by decide
        have : (0 : Int32).toInt = 0 := by decide
        omega) h2
      refine ⟨j, ?_, hj, e⟩
      rw [e, nI_leI (by omega) (by omega)] at h1
      exact h1
    · rw [if_neg h2]; exact ⟨99, by omega, by omega, rfl⟩
  · rw [if_neg h1]; exact ⟨1, by omega, by omega, rfl⟩
theorem lk_nat (D : zD) (vs : Nat → Int32) : ∃ y, y ≤ 99 ∧ lk D vs = nI y := by
  unfold lk
  rw [clamp_eq (by decide)]
  by_cases h1 : nI 0 ≤ gd (lawv vs (D.2.2 1).1 (D.2.2 1).2)
  · rw [if_pos h1]
    by_cases h2 : gd (lawv vs (D.2.2 1).1 (D.2.2 1).2) ≤ nI 99
    · rw [if_pos h2]
      obtain ⟨j, hj, e⟩ := nI_of2 (n := 99) (by decide) (Int32.not_lt.2 h1) h2
      exact ⟨j, hj, e⟩
    · rw [if_neg h2]; exact ⟨99, by omega, rfl⟩
  · rw [if_neg h1]; exact ⟨0, by omega, rfl⟩
/-! lateness -/
def mix (h v : Int32) : Int32 := ((h ^^^ v) * 1103515245 + 12345) ^^^ (((h ^^^ v) * 1103515245 + 12345).toUInt32 >>> ((15 : Int32).toUInt32 &&& Int32.toUInt32 31)).toInt32
def lot (sd tr : Int32) : Int32 := ((mix (mix sd 83) (8 * tr)).toUInt32 >>> ((1 : Int32).toUInt32 &&& Int32.toUInt32 31)).toInt32 - ((mix (mix sd 83) (8 * tr)).toUInt32 >>> ((1 : Int32).toUInt32 &&& Int32.toUInt32 31)).toInt32 / 100 * 100
def isL (D : zD) (sd tr : Int32) : Int32 := if nI (D.1 0 3) ≤ lot sd tr then 0 else 1
theorem c_isLate {M : zm_Mem} {t v n : Nat} {D : zD} {S : Nat → Nat} (hC : Cx M t v D S n) (sd : Int32) : f_X10_isLate sd M = some (isL D sd (nI (S 1))) := by
  have ht := hC.2.1
  have hT := hC.2.2.1
  have hR := hC.2.2.2
  have bI := cx_isT hC
  have bv := tT_v hT
  have bh := tT_bh hT
  have bw := tT_bw hT
  have bk := tT_bk hT
  have k4 : (!decide ((100 : Int32) = 0)) = true := by decide
  have e1 : f_X10_lotOf100 sd (8 * nI (S 1)) M = some (lot sd (nI (S 1))) := by
    unfold f_X10_lotOf100 f_X10_stir
    simp only [zv_eq, zb1_some, k4, zk_true]
    rfl
  unfold f_X10_isLate isL
  rw [c_trips hC, zb1_some, e1, zb1_some]
  simp only [zv_eq, ht, bI, zk_true, tT_la hT]
  split <;> rfl
theorem r_isLate {M : zm_Mem} {t v : Nat} {D : zD} {sd tr : Int32} (hT : iv_T M t v D) (h1 : M.1 52 58 = sd) (h2 : M.1 92 31 = tr) : f_X11_isLate M = some (isL D sd tr) := by
  have bv := tT_v hT
  have k4 : (!decide ((100 : Int32) = 0)) = true := by decide
  have e31 : (31 : Int32).toNatClampNeg = 31 := by decide
  have e60 : zm_in 31 60 = true := by decide
  unfold f_X11_isLate f_X11_mixed
  simp only [zv_eq, zb1_some, k4, zk_true, e60, e31, h1, h2, tT_live hT]
  rw [zm_ck_t (zm_in_nI (by omega) (by omega)), nI_clamp (by omega), tT_rla hT]
  unfold isL
  by_cases h : nI (D.1 0 3) ≤ lot sd tr
  · rw [if_pos h]; exact if_pos h
  · rw [if_neg h]; exact if_neg h
theorem isL_01 (D : zD) (sd tr : Int32) : isL D sd tr = 0 ∨ isL D sd tr = 1 := by
  unfold isL; split
  · exact Or.inl rfl
  · exact Or.inr rfl
theorem cx_bT {M : zm_Mem} {t v n : Nat} {D : zD} {S : Nat → Nat} (hn : n < 512) (hC : Cx M t v D S n) : ∀ j, j < D.1 0 1 → S (4 + j) < 5 ∧ S (10 + j) < 100000 := fun j hj => by
  have := (cx_b hC).2 j hj
  have := tT_bh hC.2.2.1
  omega
theorem ag_days {M : zm_Mem} {q n : Nat} (hI : Inv M q n) (hn : n < 512) (a1 : Int32) : Ag (f_X10_days a1 M) (fun M1 => f_X11_days a1 M1) q n := by
  have hI' := hI
  obtain ⟨t, v, D, S, hC, hX⟩ := hI'
  have ht := hC.2.1
  have hT := hC.2.2.1
  have hR := hC.2.2.2
  have bI := cx_isT hC
  have bv := tT_v hT
  have bh := tT_bh hT
  have bw := tT_bw hT
  have bk := tT_bk hT
  rcases ix_cases a1 (b := 100) (by omega) with h | ⟨d, hd, rfl⟩
  · refine ag_mk hI (r := -1) (M1 := M) (M2 := M) ?_ ?_ (sc_rfl M)
    · unfold f_X10_days
      by_cases h0 : a1 < 0
      · rw [if_pos h0]
      · rw [if_neg h0, if_neg (show ¬ a1 ≤ 99 from zj_gt (b := 99) (by omega) (h.resolve_left h0))]
    · show f_X11_days a1 M = _
      unfold f_X11_days
      rw [show f_X11_in a1 0 99 M = some (nI 0) from r_inN (b := 99) (by omega) h, zb1_some, if_pos (by rfl)]
  have g0 : ¬ nI d < 0 := nI_pos (by omega)
  have g1 : nI d ≤ 99 := nI_le (b := 99) (by omega) (by omega)
  have e30 : (30 : Int32).toNatClampNeg = 30 := by decide
  have e60 : zm_in 30 60 = true := by decide
  have e0 : (0 : Int32).toNatClampNeg = 0 := by decide
  have e47 : zm_in 0 47 = true := by decide
  by_cases hd0 : d = 0
  · subst hd0
    refine ag_mk hI (r := nI (S 0)) (M1 := M) (M2 := M) ?_ ?_ (sc_rfl M)
    · unfold f_X10_days f_X10_days_b33
      rw [if_neg g0, if_pos g1, if_pos (by decide), c_today hC]; rfl
    · show f_X11_days (nI 0) M = _
      unfold f_X11_days
      rw [show f_X11_in (nI 0) 0 99 M = some (nI 1) from r_inY (b := 99) (by omega) (by omega), zb1_some, if_neg (by decide), if_pos (by rfl), e60, zk_true, e30, tR_rd hR]
  have b0 := (cx_b hC).1
  obtain ⟨s, x, hs, hx, p1, p2, p3, p4⟩ := hX.2.2.2.2.2.1
  have bf12 : ∀ i, (bfM M s x).1 12 i = M.1 12 i := fun i => fr_bf.2 12 i rfl
  have hcb : ∀ i, i ≠ 0 → (zm_sI (bfM M s x) 12 0 (nI (S 0 + d))).1 12 i = M.1 12 i := fun i hi => by rw [mI1, if_neg (by omega), bf12]
  have hc0 : (zm_sI (bfM M s x) 12 0 (nI (S 0 + d))).1 12 0 = nI (S 0 + d) := by rw [mI1, if_pos ⟨rfl, rfl⟩]
  have kc : f_X10_days (nI d) M = some (nI (S 0 + d), zm_sI (bfM M s x) 12 0 (nI (S 0 + d))) := by
    unfold f_X10_days f_X10_days_b33 f_X4_today
    rw [if_neg g0, if_pos g1, if_neg (show ¬ nI d ≤ 0 from nI_nle (by omega) (by omega)), c_before p3 p1 hx hs]
    simp only [zb2_some, zv_eq, e0, e47, zk_true, zb1_some]
    rw [bf12, tR_d hR, nI_add, hc0]
  have hB : Fr w12 (bfM M s x) (zm_sI (bfM M s x) 12 0 (nI (S 0 + d))) := fr_sI rfl
  generalize hK : zm_sI (bfM M s x) 12 0 (nI (S 0 + d)) = K at hcb hc0 kc hB
  have kF : ∀ x' j', wBf x' j' = false → w12 x' j' = false → K.1 x' j' = M.1 x' j' := fun x' j' a b => (hB.2 _ _ b).trans (fr_bf.2 _ _ a)
  have k91 : ∀ j, K.1 91 j = M.1 91 j := fun j => kF 91 j rfl rfl
  have TK : iv_T K t v D := iT_fr hC.1 (fr_tr (fr_mono (W' := wCh) (fun x j h => by unfold wCh; rw [h]; rfl) (fr_bf (M := M) (s := s) (x := x))) (fr_mono (fun x j h => by unfold wCh; rw [h, Bool.true_or, Bool.or_true]) hB)) wCh_T hT
  generalize hP : zm_sI (cpM K 92 0 60 (K.1 91)) 52 58 (nI (D.1 0 5)) = P
  have cP : f_X11_copies K = some ((), P) := by rw [r_copiesT TK, hP]
  have p92 : ∀ j, j < 60 → P.1 92 j = M.1 91 j := fun j hj => by rw [← hP, mI1, if_neg (by omega), mC_in hj, k91]
  have fP : Fr wRo K P := by rw [← hP]; exact fr_tr (fr_cpM (fun _ => rfl)) (fr_sI rfl)
  have h30 : (zm_sI P 92 30 (nI (S 0 + d))).1 92 30 = nI (S 0 + d) := by rw [mI1, if_pos ⟨rfl, rfl⟩]
  have fQ : Fr wRo K (zm_sI P 92 30 (nI (S 0 + d))) := fr_tr fP (fr_sI rfl)
  have TQ := iT_fr hC.1 fQ wRo_T TK
  obtain ⟨Y, y1, y2, y3, y4⟩ := r_arrivesT (S := S) (d := S 0) (d' := S 0 + d) hC.1 TQ (cx_bT hn hC) h30 (by omega) (by omega) (fun j hj => by
    refine ⟨?_, ?_, ?_⟩
    · rw [mI1, if_neg (by omega), p92 j (by omega)]; exact tR_rp hR j hj
    · rw [mI1, if_neg (by omega), p92 _ (by omega)]; exact tR_rg hR j hj
    · rw [mI1, if_neg (by omega), p92 _ (by omega)]; exact tR_ra hR j hj)
  have y92 : ∀ j, 18 ≤ j → j ≠ 30 → j < 60 → Y.1 92 j = M.1 91 j := fun j h1 h2 h3 => by rw [y3 j h1, mI1, if_neg (by omega), p92 j h3]
  have y30 : Y.1 92 30 = nI (S 0 + d) := (y3 30 (by omega)).trans h30
  obtain ⟨Md, m1, m2, m3⟩ := inv_chg (S' := upS S 0 (S 0 + d)) hC hX hs hx p1 p2 p3 p4 hB (fr_tr fQ (fr_mono (fun x j h => by unfold w92 at h; unfold wRo; rw [h]; rfl) y2)) (by
    refine ⟨?_, ?_, ?_, ?_, ?_, ?_, ?_, ?_, ?_, fun j hj => ?_, fun j hj => ?_, fun j hj => ?_, fun j hj => ?_, fun j hj => ?_, fun j hj => ?_, fun j hj => ?_, fun j hj => ?_, fun j hj => ?_⟩
    · simp (disch := omega) only [upS_ne, upS_eq]; omega
    · simp (disch := omega) only [upS_ne, upS_eq]; have := tR_bt hR; omega
    · simp (disch := omega) only [upS_ne, upS_eq]; exact tR_bl hR
    · simp (disch := omega) only [upS_ne, upS_eq]; exact hc0
    · simp (disch := omega) only [upS_ne, upS_eq]; exact y30
    · simp (disch := omega) only [upS_ne, upS_eq]; rw [hcb _ (by omega)]; exact tR_t hR
    · simp (disch := omega) only [upS_ne, upS_eq]; rw [y92 _ (by omega) (by omega) (by omega)]; exact tR_rt hR
    · rw [hcb _ (by omega), y92 _ (by omega) (by omega) (by omega)]; exact tR_la hR
    · simp (disch := omega) only [upS_ne, upS_eq]; rw [hcb _ (by omega)]; exact tR_l hR
    · simp (disch := omega) only [upS_ne, upS_eq]; rw [y92 _ (by omega) (by omega) (by omega)]; exact tR_rl hR j hj
    · simp (disch := omega) only [upS_ne, upS_eq]; have := tR_bg hR j hj; omega
    · simp (disch := omega) only [upS_ne, upS_eq]; rw [hcb _ (by omega)]; exact tR_g hR j hj
    · simp (disch := omega) only [upS_ne, upS_eq]; rw [hcb _ (by omega)]; exact tR_a hR j hj
    · rw [hcb _ (by omega), y92 _ (by omega) (by omega) (by omega)]; exact tR_s hR j hj
    · simp (disch := omega) only [upS_ne, upS_eq]; exact (y4 j hj).1
    · simp (disch := omega) only [upS_ne, upS_eq]; exact (y4 j hj).2.1
    · simp (disch := omega) only [upS_ne, upS_eq]; exact (y4 j hj).2.2
    · rw [hcb _ (by omega), y92 _ (by omega) (by omega) (by omega)]; exact tR_le hR j hj)
  refine ⟨nI (S 0 + d), K, Md, kc, ?_, m2⟩
  show f_X11_days (nI d) K = _
  unfold f_X11_days
  rw [show f_X11_in (nI d) 0 99 K = some (nI 1) from r_inY (b := 99) (by omega) (by omega), zb1_some, if_neg (by decide), if_neg (nI_ne0 (by omega) (by omega)), cP]
  simp only [zb2_some, zv_eq, e30, e60, zk_true]
  rw [p92 30 (by omega), tR_rd hR, nI_add, y1, zb2_some, m1, zb2_some, m3 30 (by omega), y30]
theorem xor_bit : ∀ a, a < 64 → ∀ j, j < 6 → ∀ i, i < 6 → (a ^^^ 2 ^ j) / 2 ^ i % 2 = if i = j then 1 - a / 2 ^ j % 2 else a / 2 ^ i % 2 := by decide +kernel
theorem stn_bit (D : zD) (li j : Nat) (hj : j < D.1 0 2) : stn D li / 2 ^ j % 2 = if li / 2 ^ j % 2 = 0 then 1 else 0 := by
  have h := bitsOf_test (fun j => decide (li / 2 ^ j % 2 = 0)) (D.1 0 2) j
  rw [← tb_eq, decide_eq_true hj, Bool.true_and] at h
  unfold stn
  have := Nat.mod_two_eq_zero_or_one (bitsOf (fun j => decide (li / 2 ^ j % 2 = 0)) (D.1 0 2) / 2 ^ j)
  by_cases hb : li / 2 ^ j % 2 = 0
  · rw [if_pos hb]
    rw [decide_eq_true hb, decide_eq_true_eq] at h
    exact h
  · rw [if_neg hb]
    rw [decide_eq_false hb, decide_eq_false_iff_not] at h
    omega
theorem ag_lift {M : zm_Mem} {q n : Nat} (hI : Inv M q n) (hn : n < 512) (a1 : Int32) (a2 : Int32) (ha2 : a2 = 0 ∨ a2 = 1): Ag (f_X10_lift a1 a2 M) (fun M1 => f_X11_lift a1 a2 M1) q n := by
  have hI' := hI
  obtain ⟨t, v, D, S, hC, hX⟩ := hI'
  have ht := hC.2.1
  have hT := hC.2.2.1
  have hR := hC.2.2.2
  have bI := cx_isT hC
  have bv := tT_v hT
  have bh := tT_bh hT
  have bw := tT_bw hT
  have bk := tT_bk hT
  rcases ix_cases a1 (b := D.1 0 2) (by omega) with h | ⟨j, hj, rfl⟩
  · refine ag_mk hI (r := 0) (M1 := M) (M2 := M) ?_ ?_ (sc_rfl M)
    · unfold f_X10_lift
      rw [c_isTerm0 hC h]; rfl
    · show f_X11_lift a1 a2 M = _
      unfold f_X11_lift
      rw [r_isTerm0 hC h]; rfl
  have hl := tR_bl hR
  have h64 : S 3 < 64 := Nat.lt_of_lt_of_le hl (Nat.pow_le_pow_right (by omega) (show D.1 0 2 ≤ 6 from bk))
  have hstn := stn_lt D (S 3) bk
  have hbit := stn_bit D (S 3) j hj
  have h24 := tR_rl hR j hj
  have hsh : (nI (stn D (S 3)) >>> (nI j &&& 31)) &&& 1 = nI (stn D (S 3) / 2 ^ j % 2) := by
    rw [show (31 : Int32) = nI 31 from rfl, show (1 : Int32) = nI 1 from rfl, zi_shr (by omega) (by omega), zi_and1]
  have e24 : (24 : Int32) + nI j = nI (24 + j) := nI_add 24 j
  by_cases hno : a2 = nI (S 3 / 2 ^ j % 2)
  · refine ag_mk hI (r := 0) (M1 := M) (M2 := M) ?_ ?_ (sc_rfl M)
    · unfold f_X10_lift f_X10_lift_b27
      rw [c_isTerm hC hj, zb1_some, if_neg (by decide), c_standing hC, zb1_some, hsh, hbit]
      by_cases hb : S 3 / 2 ^ j % 2 = 0
      · rw [hb] at hno
        rw [if_pos hb, if_pos (by rfl), if_neg (by rw [hno]; decide)]
      · have hb1 : S 3 / 2 ^ j % 2 = 1 := by omega
        rw [hb1] at hno
        rw [if_neg hb, if_neg (by decide), if_neg (by rw [hno]; decide)]
    · show f_X11_lift (nI j) a2 M = _
      unfold f_X11_lift f_X11_lift_b26
      rw [r_isTerm hC hj, zb1_some, if_neg (by decide), e24, zm_ck_t (zm_in_nI (by omega) (by omega)), nI_clamp (by omega), h24]
      by_cases hb : S 3 / 2 ^ j % 2 = 0
      · rw [hb] at hno
        rw [hb, if_neg (by decide), if_pos (by rw [hno]; rfl)]
      · have hb1 : S 3 / 2 ^ j % 2 = 1 := by omega
        rw [hb1] at hno
        rw [hb1, if_pos (by rfl), if_pos (by rw [hno]; rfl)]
  have ha : a2 = nI (1 - S 3 / 2 ^ j % 2) := by
    rcases Nat.mod_two_eq_zero_or_one (S 3 / 2 ^ j) with hb | hb
    · rw [hb] at hno ⊢
      rcases ha2 with h | h
      · exact absurd h hno
      · exact h
    · rw [hb] at hno ⊢
      rcases ha2 with h | h
      · exact h
      · exact absurd h hno
  obtain ⟨s, x, hs, hx, p1, p2, p3, p4⟩ := hX.2.2.2.2.2.1
  have bf12 : ∀ i, (bfM M s x).1 12 i = M.1 12 i := fun i => fr_bf.2 12 i rfl
  have e3 : (3 : Int32).toNatClampNeg = 3 := by decide
  have e47 : zm_in 3 47 = true := by decide
  have hcb : ∀ i, i ≠ 3 → (zm_sI (bfM M s x) 12 3 (nI (S 3 ^^^ 2 ^ j))).1 12 i = M.1 12 i := fun i hi => by rw [mI1, if_neg (by omega), bf12]
  have hc0 : (zm_sI (bfM M s x) 12 3 (nI (S 3 ^^^ 2 ^ j))).1 12 3 = nI (S 3 ^^^ 2 ^ j) := by rw [mI1, if_pos ⟨rfl, rfl⟩]
  have kc : f_X10_lift (nI j) a2 M = some (1, zm_sI (bfM M s x) 12 3 (nI (S 3 ^^^ 2 ^ j))) := by
    have kb : f_X10_lift_b27 (nI j) a2 M a2 = some (1, zm_sI (bfM M s x) 12 3 (nI (S 3 ^^^ 2 ^ j))) := by
      unfold f_X10_lift_b27
      rw [if_pos rfl, c_before p3 p1 hx hs]
      simp only [zb2_some, zv_eq, e3, e47, zk_true]
      rw [bf12, tR_l hR, show (1 : Int32) <<< (nI j &&& 31) = nI (2 ^ j) from zi_sh1 (by omega), zi_xor]
    unfold f_X10_lift
    rw [c_isTerm hC hj, zb1_some, if_neg (by decide), c_standing hC, zb1_some, hsh, hbit]
    by_cases hb : S 3 / 2 ^ j % 2 = 0
    · rw [if_pos hb, if_pos (by rfl)]
      rw [hb] at ha
      rw [show (1 : Int32) = a2 from ha.symm, kb, ha]; rfl
    · have hb1 : S 3 / 2 ^ j % 2 = 1 := by omega
      rw [if_neg hb, if_neg (by decide)]
      rw [hb1] at ha
      rw [show (0 : Int32) = a2 from ha.symm, kb]
  have hB : Fr w12 (bfM M s x) (zm_sI (bfM M s x) 12 3 (nI (S 3 ^^^ 2 ^ j))) := fr_sI rfl
  generalize hK : zm_sI (bfM M s x) 12 3 (nI (S 3 ^^^ 2 ^ j)) = K at hcb hc0 kc hB
  have kF : ∀ x' j', wBf x' j' = false → w12 x' j' = false → K.1 x' j' = M.1 x' j' := fun x' j' a b => (hB.2 _ _ b).trans (fr_bf.2 _ _ a)
  have k91 : ∀ j, K.1 91 j = M.1 91 j := fun j => kF 91 j rfl rfl
  have TK : iv_T K t v D := iT_fr hC.1 (fr_tr (fr_mono (W' := wCh) (fun x j h => by unfold wCh; rw [h]; rfl) (fr_bf (M := M) (s := s) (x := x))) (fr_mono (fun x j h => by unfold wCh; rw [h, Bool.true_or, Bool.or_true]) hB)) wCh_T hT
  generalize hP : zm_sI (cpM K 92 0 60 (K.1 91)) 52 58 (nI (D.1 0 5)) = P
  have cP : f_X11_copies K = some ((), P) := by rw [r_copiesT TK, hP]
  have p92 : ∀ j, j < 60 → P.1 92 j = M.1 91 j := fun j hj => by rw [← hP, mI1, if_neg (by omega), mC_in hj, k91]
  have fP : Fr wRo K P := by rw [← hP]; exact fr_tr (fr_cpM (fun _ => rfl)) (fr_sI rfl)
  have y92 : ∀ i, i ≠ 24 + j → i < 60 → (zm_sI P 92 (24 + j) a2).1 92 i = M.1 91 i := fun i h1 h2 => by rw [mI1, if_neg (by omega), p92 i h2]
  have hxb := xor_bit (S 3) h64 j (by omega)
  obtain ⟨Md, m1, m2, m3⟩ := inv_chg (Mc := zm_sI P 92 (24 + j) a2) (S' := upS S 3 (S 3 ^^^ 2 ^ j)) hC hX hs hx p1 p2 p3 p4 hB (fr_tr fP (fr_sI rfl)) (by
    refine ⟨?_, ?_, ?_, ?_, ?_, ?_, ?_, ?_, ?_, fun i hi => ?_, fun i hi => ?_, fun i hi => ?_, fun i hi => ?_, fun i hi => ?_, fun i hi => ?_, fun i hi => ?_, fun i hi => ?_, fun i hi => ?_⟩
    · simp (disch := omega) only [upS_ne, upS_eq]; have := tR_bd hR; omega
    · simp (disch := omega) only [upS_ne, upS_eq]; have := tR_bt hR; omega
    · simp (disch := omega) only [upS_ne, upS_eq]; exact Nat.xor_lt_two_pow hl (Nat.pow_lt_pow_right (by omega) hj)
    · simp (disch := omega) only [upS_ne, upS_eq]; rw [hcb _ (by omega)]; exact tR_d hR
    · simp (disch := omega) only [upS_ne, upS_eq]; rw [y92 _ (by omega) (by omega)]; exact tR_rd hR
    · simp (disch := omega) only [upS_ne, upS_eq]; rw [hcb _ (by omega)]; exact tR_t hR
    · simp (disch := omega) only [upS_ne, upS_eq]; rw [y92 _ (by omega) (by omega)]; exact tR_rt hR
    · rw [hcb _ (by omega), y92 _ (by omega) (by omega)]; exact tR_la hR
    · simp (disch := omega) only [upS_ne, upS_eq]; exact hc0
    · simp (disch := omega) only [upS_ne, upS_eq]; rw [hxb i (by omega)]
      by_cases hij : i = j
      · subst hij; rw [if_pos rfl, mI1, if_pos ⟨rfl, rfl⟩]; exact ha
      · rw [if_neg hij, y92 _ (by omega) (by omega)]; exact tR_rl hR i hi
    · simp (disch := omega) only [upS_ne, upS_eq]; have := tR_bg hR i hi; omega
    · simp (disch := omega) only [upS_ne, upS_eq]; rw [hcb _ (by omega)]; exact tR_g hR i hi
    · simp (disch := omega) only [upS_ne, upS_eq]; rw [hcb _ (by omega)]; exact tR_a hR i hi
    · rw [hcb _ (by omega), y92 _ (by omega) (by omega)]; exact tR_s hR i hi
    · simp (disch := omega) only [upS_ne, upS_eq]; rw [y92 _ (by omega) (by omega)]; exact tR_rp hR i hi
    · simp (disch := omega) only [upS_ne, upS_eq]; rw [y92 _ (by omega) (by omega)]; exact tR_rg hR i hi
    · simp (disch := omega) only [upS_ne, upS_eq]; rw [y92 _ (by omega) (by omega)]; exact tR_ra hR i hi
    · rw [hcb _ (by omega), y92 _ (by omega) (by omega)]; exact tR_le hR i hi)
  have k24 : K.1 91 (24 + j) = nI (S 3 / 2 ^ j % 2) := (k91 _).trans h24
  have kr : ∀ b, ¬ b = a2 → f_X11_lift_b26 (nI j) a2 K b = some (1, Md) := by
    intro b hb
    have k53 : f_X11_lift_b53 P (24 + nI j) a2 = some (1, Md) := by
      unfold f_X11_lift_b53
      rw [e24, zm_ck_t (zm_in_nI (by omega) (by omega)), nI_clamp (by omega)]
      simp only [zv_eq]
      rw [m1]; rfl
    unfold f_X11_lift_b26
    rw [if_neg hb, cP, zb2_some]
    rcases ha2 with h | h
    · rw [if_pos h]; rw [h] at k53; exact k53
    · rw [if_neg (by rw [h]; decide)]; rw [h] at k53; exact k53
  refine ⟨1, K, Md, kc, ?_, m2⟩
  show f_X11_lift (nI j) a2 K = _
  unfold f_X11_lift
  rw [r_isTermT TK hj, zb1_some, if_neg (by decide), e24, zm_ck_t (zm_in_nI (by omega) (by omega)), nI_clamp (by omega), k24]
  by_cases hb : S 3 / 2 ^ j % 2 = 0
  · rw [hb, if_neg (by decide)]
    exact kr 0 (by rw [ha, hb]; decide)
  · have hb1 : S 3 / 2 ^ j % 2 = 1 := by omega
    rw [hb1, if_pos (by rfl)]
    exact kr 1 (by rw [ha, hb1]; decide)
