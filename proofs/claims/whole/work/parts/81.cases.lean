theorem cs_0 {M : zm_Mem} {q n i L : Nat} {xs : Nat → Int32} (hI : Inv M q n) (hn : n < 512) (hi : i + 5 < L) (hL : L ≤ 3072) : Go (f_law_c0 L xs (nI i) M q) i q n := by
  unfold f_law_c0
  simp only [nI_k1, nI_k2, nI_k3, nI_k4, nI_k5, zm_ck_t (zm_in_nI (show i + 1 < L by omega) (show L < 2 ^ 31 by omega)), zm_ck_t (zm_in_nI (show i + 2 < L by omega) (show L < 2 ^ 31 by omega)), zm_ck_t (zm_in_nI (show i + 3 < L by omega) (show L < 2 ^ 31 by omega)), zm_ck_t (zm_in_nI (show i + 4 < L by omega) (show L < 2 ^ 31 by omega)), zm_ck_t (zm_in_nI (show i + 5 < L by omega) (show L < 2 ^ 31 by omega)), nI_clamp (show i + 1 < 2 ^ 31 by omega), nI_clamp (show i + 2 < 2 ^ 31 by omega), nI_clamp (show i + 3 < 2 ^ 31 by omega), nI_clamp (show i + 4 < 2 ^ 31 by omega), nI_clamp (show i + 5 < 2 ^ 31 by omega)]
  exact ag_ww (ag_feed hI hn (xs (i + 1)) (xs (i + 2)) (xs (i + 3)) (xs (i + 4)) (xs (i + 5))) (Nat.le_succ q)
theorem cs_1 {M : zm_Mem} {q n i L : Nat} {xs : Nat → Int32} (hI : Inv M q n) (hn : n < 512) (hi : i + 5 < L) (hL : L ≤ 3072) : Go (f_law_c1 L xs (nI i) M q) i q n := by
  unfold f_law_c1
  simp only [nI_k1, nI_k2, nI_k3, nI_k4, nI_k5, zm_ck_t (zm_in_nI (show i + 1 < L by omega) (show L < 2 ^ 31 by omega)), nI_clamp (show i + 1 < 2 ^ 31 by omega)]
  exact ag_ww (ag_back hI hn (xs (i + 1))) (Nat.le_succ q)
theorem cs_2 {M : zm_Mem} {q n i L : Nat} {xs : Nat → Int32} (hI : Inv M q n) (hn : n < 512) (hi : i + 5 < L) (hL : L ≤ 3072) : Go (f_law_c2 L xs (nI i) M q) i q n := by
  unfold f_law_c2
  exact ag_ww (ag_read hI hn ) (Nat.le_succ q)
theorem cs_3 {M : zm_Mem} {q n i L : Nat} {xs : Nat → Int32} (hI : Inv M q n) (hn : n < 512) (hi : i + 5 < L) (hL : L ≤ 3072) : Go (f_law_c3 L xs (nI i) M q) i q n := by
  unfold f_law_c3
  exact ag_rr (ag_place hI hn ) (Nat.le_succ q)
theorem cs_4 {M : zm_Mem} {q n i L : Nat} {xs : Nat → Int32} (hI : Inv M q n) (hn : n < 512) (hi : i + 5 < L) (hL : L ≤ 3072) : Go (f_law_c4 L xs (nI i) M q) i q n := by
  unfold f_law_c4
  simp only [nI_k1, nI_k2, nI_k3, nI_k4, nI_k5, zm_ck_t (zm_in_nI (show i + 1 < L by omega) (show L < 2 ^ 31 by omega)), zm_ck_t (zm_in_nI (show i + 2 < L by omega) (show L < 2 ^ 31 by omega)), nI_clamp (show i + 1 < 2 ^ 31 by omega), nI_clamp (show i + 2 < 2 ^ 31 by omega)]
  exact ag_ww (ag_house hI hn (xs (i + 1)) (xs (i + 2))) (Nat.le_succ q)
theorem cs_5 {M : zm_Mem} {q n i L : Nat} {xs : Nat → Int32} (hI : Inv M q n) (hn : n < 512) (hi : i + 5 < L) (hL : L ≤ 3072) : Go (f_law_c5 L xs (nI i) M q) i q n := by
  unfold f_law_c5
  simp only [nI_k1, nI_k2, nI_k3, nI_k4, nI_k5, zm_ck_t (zm_in_nI (show i + 1 < L by omega) (show L < 2 ^ 31 by omega)), zm_ck_t (zm_in_nI (show i + 2 < L by omega) (show L < 2 ^ 31 by omega)), nI_clamp (show i + 1 < 2 ^ 31 by omega), nI_clamp (show i + 2 < 2 ^ 31 by omega)]
  exact ag_rw (ag_work hI hn (xs (i + 1)) (xs (i + 2))) (Nat.le_succ q)
theorem cs_6 {M : zm_Mem} {q n i L : Nat} {xs : Nat → Int32} (hI : Inv M q n) (hn : n < 512) (hi : i + 5 < L) (hL : L ≤ 3072) : Go (f_law_c6 L xs (nI i) M q) i q n := by
  unfold f_law_c6
  simp only [nI_k1, nI_k2, nI_k3, nI_k4, nI_k5, zm_ck_t (zm_in_nI (show i + 1 < L by omega) (show L < 2 ^ 31 by omega)), zm_ck_t (zm_in_nI (show i + 2 < L by omega) (show L < 2 ^ 31 by omega)), nI_clamp (show i + 1 < 2 ^ 31 by omega), nI_clamp (show i + 2 < 2 ^ 31 by omega)]
  exact ag_ww (ag_may hI hn (xs (i + 1)) (xs (i + 2))) (Nat.le_succ q)
theorem cs_7 {M : zm_Mem} {q n i L : Nat} {xs : Nat → Int32} (hI : Inv M q n) (hn : n < 512) (hi : i + 5 < L) (hL : L ≤ 3072) : Go (f_law_c7 L xs (nI i) M q) i q n := by
  unfold f_law_c7
  simp only [nI_k1, nI_k2, nI_k3, nI_k4, nI_k5, zm_ck_t (zm_in_nI (show i + 1 < L by omega) (show L < 2 ^ 31 by omega)), zm_ck_t (zm_in_nI (show i + 2 < L by omega) (show L < 2 ^ 31 by omega)), nI_clamp (show i + 1 < 2 ^ 31 by omega), nI_clamp (show i + 2 < 2 ^ 31 by omega)]
  exact ag_ww (ag_holds hI hn (xs (i + 1)) (xs (i + 2))) (Nat.le_succ q)
theorem cs_08 {M : zm_Mem} {q n i L : Nat} {xs : Nat → Int32} (hI : Inv M q n) (hn : n < 512) (hi : i + 5 < L) (hL : L ≤ 3072) : Go (f_law_c8 L xs (nI i) M q) i q n := by
  unfold f_law_c8
  simp only [nI_k1, nI_k2, nI_k3, nI_k4, nI_k5, zm_ck_t (zm_in_nI (show i + 1 < L by omega) (show L < 2 ^ 31 by omega)), zm_ck_t (zm_in_nI (show i + 2 < L by omega) (show L < 2 ^ 31 by omega)), nI_clamp (show i + 1 < 2 ^ 31 by omega), nI_clamp (show i + 2 < 2 ^ 31 by omega)]
  exact ag_ww (ag_likes hI hn (xs (i + 1)) (xs (i + 2))) (Nat.le_succ q)
theorem cs_9 {M : zm_Mem} {q n i L : Nat} {xs : Nat → Int32} (hI : Inv M q n) (hn : n < 512) (hi : i + 5 < L) (hL : L ≤ 3072) : Go (f_law_c9 L xs (nI i) M q) i q n := by
  unfold f_law_c9
  simp only [nI_k1, nI_k2, nI_k3, nI_k4, nI_k5, zm_ck_t (zm_in_nI (show i + 1 < L by omega) (show L < 2 ^ 31 by omega)), zm_ck_t (zm_in_nI (show i + 2 < L by omega) (show L < 2 ^ 31 by omega)), nI_clamp (show i + 1 < 2 ^ 31 by omega), nI_clamp (show i + 2 < 2 ^ 31 by omega)]
  exact ag_ww (ag_trip hI hn (xs (i + 1)) (xs (i + 2))) (Nat.le_succ q)
theorem cs_10 {M : zm_Mem} {q n i L : Nat} {xs : Nat → Int32} (hI : Inv M q n) (hn : n < 512) (hi : i + 5 < L) (hL : L ≤ 3072) : Go (f_law_c10 L xs (nI i) M q) i q n := by
  unfold f_law_c10
  simp only [nI_k1, nI_k2, nI_k3, nI_k4, nI_k5, zm_ck_t (zm_in_nI (show i + 1 < L by omega) (show L < 2 ^ 31 by omega)), zm_ck_t (zm_in_nI (show i + 2 < L by omega) (show L < 2 ^ 31 by omega)), nI_clamp (show i + 1 < 2 ^ 31 by omega), nI_clamp (show i + 2 < 2 ^ 31 by omega)]
  exact ag_ww (ag_send hI hn (xs (i + 1)) (xs (i + 2))) (Nat.le_succ q)
theorem cs_11 {M : zm_Mem} {q n i L : Nat} {xs : Nat → Int32} (hI : Inv M q n) (hn : n < 512) (hi : i + 5 < L) (hL : L ≤ 3072) : Go (f_law_c11 L xs (nI i) M q) i q n := by
  unfold f_law_c11
  simp only [nI_k1, nI_k2, nI_k3, nI_k4, nI_k5, zm_ck_t (zm_in_nI (show i + 1 < L by omega) (show L < 2 ^ 31 by omega)), zm_ck_t (zm_in_nI (show i + 2 < L by omega) (show L < 2 ^ 31 by omega)), nI_clamp (show i + 1 < 2 ^ 31 by omega), nI_clamp (show i + 2 < 2 ^ 31 by omega)]
  by_cases hz : xs (i + 2) = 0
  · simp only [hz, if_true]
    exact ag_ww (ag_lift hI hn (xs (i + 1)) 0 (Or.inl rfl)) (Nat.le_succ q)
  · simp only [hz, if_false]
    exact ag_ww (ag_lift hI hn (xs (i + 1)) 1 (Or.inr rfl)) (Nat.le_succ q)
theorem cs_12 {M : zm_Mem} {q n i L : Nat} {xs : Nat → Int32} (hI : Inv M q n) (hn : n < 512) (hi : i + 5 < L) (hL : L ≤ 3072) : Go (f_law_c12 L xs (nI i) M q) i q n := by
  unfold f_law_c12
  simp only [nI_k1, nI_k2, nI_k3, nI_k4, nI_k5, zm_ck_t (zm_in_nI (show i + 1 < L by omega) (show L < 2 ^ 31 by omega)), nI_clamp (show i + 1 < 2 ^ 31 by omega)]
  exact ag_ww (ag_days hI hn (xs (i + 1))) (Nat.le_succ q)
theorem cs_13 {M : zm_Mem} {q n i L : Nat} {xs : Nat → Int32} (hI : Inv M q n) (hn : n < 512) (hi : i + 5 < L) (hL : L ≤ 3072) : Go (f_law_c13 L xs (nI i) M q) i q n := by
  unfold f_law_c13
  exact ag_ww (ag_undo hI hn ) (Nat.le_succ q)
theorem cs_14 {M : zm_Mem} {q n i L : Nat} {xs : Nat → Int32} (hI : Inv M q n) (hn : n < 512) (hi : i + 5 < L) (hL : L ≤ 3072) : Go (f_law_c14 L xs (nI i) M q) i q n := by
  unfold f_law_c14
  exact ag_ww (ag_well hI hn ) (Nat.le_succ q)
theorem cs_15 {M : zm_Mem} {q n i L : Nat} {xs : Nat → Int32} (hI : Inv M q n) (hn : n < 512) (hi : i + 5 < L) (hL : L ≤ 3072) : Go (f_law_c15 L xs (nI i) M q) i q n := by
  unfold f_law_c15
  exact ag_ww (ag_bad hI hn ) (Nat.le_succ q)
theorem cs_16 {M : zm_Mem} {q n i L : Nat} {xs : Nat → Int32} (hI : Inv M q n) (hn : n < 512) (hi : i + 5 < L) (hL : L ≤ 3072) : Go (f_law_c16 L xs (nI i) M q) i q n := by
  unfold f_law_c16
  rw [zm_ck_t (iv_q hI)]
  exact ag_ww (ag_hangings hI hn) (Nat.le_refl _)
theorem cs_17 {M : zm_Mem} {q n i L : Nat} {xs : Nat → Int32} (hI : Inv M q n) (hn : n < 512) (hi : i + 5 < L) (hL : L ≤ 3072) : Go (f_law_c17 L xs (nI i) M q) i q n := by
  unfold f_law_c17
  simp only [nI_k1, nI_k2, nI_k3, nI_k4, nI_k5, zm_ck_t (zm_in_nI (show i + 1 < L by omega) (show L < 2 ^ 31 by omega)), nI_clamp (show i + 1 < 2 ^ 31 by omega)]
  by_cases he : (f_X10_nearestE (xs (i + 1)) M).isSome = true
  · rw [if_pos he]
    exact ag_rw (ag_nearestE hI hn (xs (i + 1)) he) (Nat.le_succ q)
  · rw [if_neg he, zm_ck_t (iv_q hI)]
    exact ag_ww (ag_nearest hI hn (xs (i + 1)) he) (Nat.le_refl _)
theorem cs_18 {M : zm_Mem} {q n i L : Nat} {xs : Nat → Int32} (hI : Inv M q n) (hn : n < 512) (hi : i + 5 < L) (hL : L ≤ 3072) : Go (f_law_c18 L xs (nI i) M q) i q n := by
  unfold f_law_c18
  simp only [nI_k1, nI_k2, nI_k3, nI_k4, nI_k5, zm_ck_t (zm_in_nI (show i + 1 < L by omega) (show L < 2 ^ 31 by omega)), nI_clamp (show i + 1 < 2 ^ 31 by omega)]
  by_cases he : (f_X10_quarrelE (xs (i + 1)) M).isSome = true
  · rw [if_pos he]
    exact ag_rw (ag_quarrelE hI hn (xs (i + 1)) he) (Nat.le_succ q)
  · rw [if_neg he, zm_ck_t (iv_q hI)]
    exact ag_ww (ag_quarrel hI hn (xs (i + 1)) he) (Nat.le_refl _)
theorem cs_19 {M : zm_Mem} {q n i L : Nat} {xs : Nat → Int32} (hI : Inv M q n) (hn : n < 512) (hi : i + 5 < L) (hL : L ≤ 3072) : Go (f_law_c19 L xs (nI i) M q) i q n := by
  unfold f_law_c19
  simp only [nI_k1, nI_k2, nI_k3, nI_k4, nI_k5, zm_ck_t (zm_in_nI (show i + 1 < L by omega) (show L < 2 ^ 31 by omega)), nI_clamp (show i + 1 < 2 ^ 31 by omega)]
  by_cases hz : xs (i + 1) = 0
  · simp only [hz, if_true, zm_ck_t (iv_q hI)]
    exact ag_ww (ag_home hI hn 0 (Or.inl rfl)) (Nat.le_refl _)
  · simp only [hz, if_false, zm_ck_t (iv_q hI)]
    exact ag_ww (ag_home hI hn 1 (Or.inr rfl)) (Nat.le_refl _)
theorem cs_20 {M : zm_Mem} {q n i L : Nat} {xs : Nat → Int32} (hI : Inv M q n) (hn : n < 512) (hi : i + 5 < L) (hL : L ≤ 3072) : Go (f_law_c20 L xs (nI i) M q) i q n := by
  unfold f_law_c20
  simp only [nI_k1, nI_k2, nI_k3, nI_k4, nI_k5, zm_ck_t (zm_in_nI (show i + 1 < L by omega) (show L < 2 ^ 31 by omega)), nI_clamp (show i + 1 < 2 ^ 31 by omega)]
  exact ag_ww (ag_swaps hI hn (xs (i + 1))) (Nat.le_succ q)
theorem cs_21 {M : zm_Mem} {q n i L : Nat} {xs : Nat → Int32} (hI : Inv M q n) (hn : n < 512) (hi : i + 5 < L) (hL : L ≤ 3072) : Go (f_law_c21 L xs (nI i) M q) i q n := by
  unfold f_law_c21
  simp only [nI_k1, nI_k2, nI_k3, nI_k4, nI_k5, zm_ck_t (zm_in_nI (show i + 1 < L by omega) (show L < 2 ^ 31 by omega)), nI_clamp (show i + 1 < 2 ^ 31 by omega)]
  exact ag_ww (ag_backs hI hn (xs (i + 1))) (Nat.le_succ q)
theorem cs_22 {M : zm_Mem} {q n i L : Nat} {xs : Nat → Int32} (hI : Inv M q n) (hn : n < 512) (hi : i + 5 < L) (hL : L ≤ 3072) : Go (f_law_c22 L xs (nI i) M q) i q n := by
  unfold f_law_c22
  exact ag_ww (ag_soonest hI hn ) (Nat.le_succ q)
theorem cs_23 {M : zm_Mem} {q n i L : Nat} {xs : Nat → Int32} (hI : Inv M q n) (hn : n < 512) (hi : i + 5 < L) (hL : L ≤ 3072) : Go (f_law_c23 L xs (nI i) M q) i q n := by
  unfold f_law_c23
  simp only [nI_k1, nI_k2, nI_k3, nI_k4, nI_k5, zm_ck_t (zm_in_nI (show i + 1 < L by omega) (show L < 2 ^ 31 by omega)), zm_ck_t (zm_in_nI (show i + 2 < L by omega) (show L < 2 ^ 31 by omega)), nI_clamp (show i + 1 < 2 ^ 31 by omega), nI_clamp (show i + 2 < 2 ^ 31 by omega)]
  exact ag_rw (ag_then hI hn (xs (i + 1)) (xs (i + 2))) (Nat.le_succ q)
theorem cs_24 {M : zm_Mem} {q n i L : Nat} {xs : Nat → Int32} (hI : Inv M q n) (hn : n < 512) (hi : i + 5 < L) (hL : L ≤ 3072) : Go (f_law_c24 L xs (nI i) M q) i q n := by
  unfold f_law_c24
  simp only [nI_k1, nI_k2, nI_k3, nI_k4, nI_k5, zm_ck_t (zm_in_nI (show i + 1 < L by omega) (show L < 2 ^ 31 by omega)), zm_ck_t (zm_in_nI (show i + 2 < L by omega) (show L < 2 ^ 31 by omega)), zm_ck_t (zm_in_nI (show i + 3 < L by omega) (show L < 2 ^ 31 by omega)), zm_ck_t (zm_in_nI (show i + 4 < L by omega) (show L < 2 ^ 31 by omega)), nI_clamp (show i + 1 < 2 ^ 31 by omega), nI_clamp (show i + 2 < 2 ^ 31 by omega), nI_clamp (show i + 3 < 2 ^ 31 by omega), nI_clamp (show i + 4 < 2 ^ 31 by omega)]
  exact ag_ww (ag_times hI hn (xs (i + 1)) (xs (i + 2)) (xs (i + 3)) (xs (i + 4))) (Nat.le_succ q)
theorem cs_25 {M : zm_Mem} {q n i L : Nat} {xs : Nat → Int32} (hI : Inv M q n) (hn : n < 512) (hi : i + 5 < L) (hL : L ≤ 3072) : Go (f_law_c25 L xs (nI i) M q) i q n := by
  unfold f_law_c25
  simp only [nI_k1, nI_k2, nI_k3, nI_k4, nI_k5, zm_ck_t (zm_in_nI (show i + 1 < L by omega) (show L < 2 ^ 31 by omega)), zm_ck_t (zm_in_nI (show i + 2 < L by omega) (show L < 2 ^ 31 by omega)), nI_clamp (show i + 1 < 2 ^ 31 by omega), nI_clamp (show i + 2 < 2 ^ 31 by omega)]
  exact ag_rr (ag_owes hI hn (xs (i + 1)) (xs (i + 2))) (Nat.le_succ q)
theorem cs_26 {M : zm_Mem} {q n i L : Nat} {xs : Nat → Int32} (hI : Inv M q n) (hn : n < 512) (hi : i + 5 < L) (hL : L ≤ 3072) : Go (f_law_c26 L xs (nI i) M q) i q n := by
  unfold f_law_c26
  simp only [nI_k1, nI_k2, nI_k3, nI_k4, nI_k5, zm_ck_t (zm_in_nI (show i + 1 < L by omega) (show L < 2 ^ 31 by omega)), nI_clamp (show i + 1 < 2 ^ 31 by omega)]
  by_cases hz : xs (i + 1) = 0
  · simp only [hz, if_true]
    exact ag_rr (ag_richest hI hn 0 (Or.inl rfl)) (Nat.le_succ q)
  · simp only [hz, if_false]
    exact ag_rr (ag_richest hI hn 1 (Or.inr rfl)) (Nat.le_succ q)
theorem cs_27 {M : zm_Mem} {q n i L : Nat} {xs : Nat → Int32} (hI : Inv M q n) (hn : n < 512) (hi : i + 5 < L) (hL : L ≤ 3072) : Go (f_law_c27 L xs (nI i) M q) i q n := by
  unfold f_law_c27
  simp only [nI_k1, nI_k2, nI_k3, nI_k4, nI_k5, zm_ck_t (zm_in_nI (show i + 1 < L by omega) (show L < 2 ^ 31 by omega)), zm_ck_t (zm_in_nI (show i + 2 < L by omega) (show L < 2 ^ 31 by omega)), nI_clamp (show i + 1 < 2 ^ 31 by omega), nI_clamp (show i + 2 < 2 ^ 31 by omega)]
  exact ag_rr (ag_lent hI hn (xs (i + 1)) (xs (i + 2))) (Nat.le_succ q)
theorem cs_28 {M : zm_Mem} {q n i L : Nat} {xs : Nat → Int32} (hI : Inv M q n) (hn : n < 512) (hi : i + 5 < L) (hL : L ≤ 3072) : Go (f_law_c28 L xs (nI i) M q) i q n := by
  unfold f_law_c28
  simp only [nI_k1, nI_k2, nI_k3, nI_k4, nI_k5, zm_ck_t (zm_in_nI (show i + 1 < L by omega) (show L < 2 ^ 31 by omega)), zm_ck_t (zm_in_nI (show i + 2 < L by omega) (show L < 2 ^ 31 by omega)), zm_ck_t (zm_in_nI (show i + 3 < L by omega) (show L < 2 ^ 31 by omega)), nI_clamp (show i + 1 < 2 ^ 31 by omega), nI_clamp (show i + 2 < 2 ^ 31 by omega), nI_clamp (show i + 3 < 2 ^ 31 by omega)]
  exact ag_ww (ag_list hI hn (xs (i + 1)) (xs (i + 2)) (xs (i + 3))) (Nat.le_succ q)
theorem cs_29 {M : zm_Mem} {q n i L : Nat} {xs : Nat → Int32} (hI : Inv M q n) (hn : n < 512) (hi : i + 5 < L) (hL : L ≤ 3072) : Go (f_law_c29 L xs (nI i) M q) i q n := by
  unfold f_law_c29
  exact ag_ww (ag_forget hI hn ) (Nat.le_succ q)
theorem cs_30 {M : zm_Mem} {q n i L : Nat} {xs : Nat → Int32} (hI : Inv M q n) (hn : n < 512) (hi : i + 5 < L) (hL : L ≤ 3072) : Go (f_law_c30 L xs (nI i) M q) i q n := by
  unfold f_law_c30
  simp only [nI_k1, nI_k2, nI_k3, nI_k4, nI_k5, zm_ck_t (zm_in_nI (show i + 1 < L by omega) (show L < 2 ^ 31 by omega)), zm_ck_t (zm_in_nI (show i + 2 < L by omega) (show L < 2 ^ 31 by omega)), nI_clamp (show i + 1 < 2 ^ 31 by omega), nI_clamp (show i + 2 < 2 ^ 31 by omega)]
  exact ag_wr (ag_fits hI hn (xs (i + 1)) (xs (i + 2))) (Nat.le_succ q)
theorem cs_31 {M : zm_Mem} {q n i L : Nat} {xs : Nat → Int32} (hI : Inv M q n) (hn : n < 512) (hi : i + 5 < L) (hL : L ≤ 3072) : Go (f_law_c31 L xs (nI i) M q) i q n := by
  unfold f_law_c31
  simp only [nI_k1, nI_k2, nI_k3, nI_k4, nI_k5, zm_ck_t (zm_in_nI (show i + 1 < L by omega) (show L < 2 ^ 31 by omega)), nI_clamp (show i + 1 < 2 ^ 31 by omega)]
  exact ag_wr (ag_least hI hn (xs (i + 1))) (Nat.le_succ q)
theorem cs_32 {M : zm_Mem} {q n i L : Nat} {xs : Nat → Int32} (hI : Inv M q n) (hn : n < 512) (hi : i + 5 < L) (hL : L ≤ 3072) : Go (f_law_c32 L xs (nI i) M q) i q n := by
  unfold f_law_c32
  simp only [nI_k1, nI_k2, nI_k3, nI_k4, nI_k5, zm_ck_t (zm_in_nI (show i + 1 < L by omega) (show L < 2 ^ 31 by omega)), zm_ck_t (zm_in_nI (show i + 2 < L by omega) (show L < 2 ^ 31 by omega)), nI_clamp (show i + 1 < 2 ^ 31 by omega), nI_clamp (show i + 2 < 2 ^ 31 by omega)]
  exact ag_wr (ag_sure hI hn (xs (i + 1)) (xs (i + 2))) (Nat.le_succ q)
theorem cs_33 {M : zm_Mem} {q n i L : Nat} {xs : Nat → Int32} (hI : Inv M q n) (hn : n < 512) (hi : i + 5 < L) (hL : L ≤ 3072) : Go (f_law_c33 L xs (nI i) M q) i q n := by
  unfold f_law_c33
  simp only [nI_k1, nI_k2, nI_k3, nI_k4, nI_k5, zm_ck_t (zm_in_nI (show i + 1 < L by omega) (show L < 2 ^ 31 by omega)), nI_clamp (show i + 1 < 2 ^ 31 by omega)]
  exact ag_ww (ag_hold hI hn (xs (i + 1))) (Nat.le_succ q)
theorem cs_34 {M : zm_Mem} {q n i L : Nat} {xs : Nat → Int32} (hI : Inv M q n) (hn : n < 512) (hi : i + 5 < L) (hL : L ≤ 3072) : Go (f_law_c34 L xs (nI i) M q) i q n := by
  unfold f_law_c34
  simp only [nI_k1, nI_k2, nI_k3, nI_k4, nI_k5, zm_ck_t (zm_in_nI (show i + 1 < L by omega) (show L < 2 ^ 31 by omega)), nI_clamp (show i + 1 < 2 ^ 31 by omega)]
  exact ag_ww (ag_restore hI hn (xs (i + 1))) (Nat.le_succ q)
theorem cs_35 {M : zm_Mem} {q n i L : Nat} {xs : Nat → Int32} (hI : Inv M q n) (hn : n < 512) (hi : i + 5 < L) (hL : L ≤ 3072) : Go (f_law_c35 L xs (nI i) M q) i q n := by
  unfold f_law_c35
  simp only [nI_k1, nI_k2, nI_k3, nI_k4, nI_k5, zm_ck_t (zm_in_nI (show i + 1 < L by omega) (show L < 2 ^ 31 by omega)), nI_clamp (show i + 1 < 2 ^ 31 by omega)]
  exact ag_rw (ag_count hI hn (xs (i + 1))) (Nat.le_succ q)
