theorem ag_mk {M M1 M2 : zm_Mem} {x : Option (Int32 × zm_Mem)} {m : zm_Mem → Option (Int32 × zm_Mem)} {q n : Nat} {r : Int32} (hI : Inv M q n) (h1 : x = some (r, M1)) (h2 : m M1 = some (r, M2)) (hs : Sc M M2) : Ag x m q n := ⟨r, M1, M2, h1, h2, iv_mono (iv_sc_keep hI hs)⟩
theorem sc_C {M M' : zm_Mem} (h : Fr wC M M') : Sc M M' := fr_sc (fun _ _ => wC_iv) h
theorem sc_Q {M M' : zm_Mem} (h : Fr wQ M M') : Sc M M' := fr_sc (fun _ _ => wQ_iv) h
theorem r_isPair0 {M : zm_Mem} {t v n : Nat} {D : zD} {S : Nat → Nat} (hC : Cx M t v D S n) {a b : Int32} (h : (a < 0 ∨ nI (D.1 0 1) ≤ a) ∨ (∃ j, j < D.1 0 1 ∧ a = nI j) ∧ (b < 0 ∨ nI (D.1 0 0) ≤ b)) : f_X11_isPair a b M = some 0 := by
  unfold f_X11_isPair f_X11_isPair_b20
  rcases h with h | ⟨⟨j, hj, rfl⟩, h⟩
  · rw [r_isWork0 hC h]; rfl
  · rw [r_isWork hC hj, zb1_some, if_neg (by decide), r_isHouse0 hC h]; rfl
theorem r_isPair {M : zm_Mem} {t v n : Nat} {D : zD} {S : Nat → Nat} (hC : Cx M t v D S n) {w x : Nat} (hw : w < D.1 0 1) (hx : x < D.1 0 0) : f_X11_isPair (nI w) (nI x) M = some 1 := by
  unfold f_X11_isPair
  rw [r_isWork hC hw, zb1_some, if_neg (by decide), r_isHouse hC hx]; rfl
theorem hg_S {M : zm_Mem} {t v n : Nat} {D : zD} {S : Nat → Nat} (hC : Cx M t v D S n) : ∀ j, j < D.1 0 1 → (fun j => S (4 + j)) j < 5 := by
  intro j hj
  have := (cx_b hC).2 j hj
  have := tT_bh hC.2.2.1
  show S (4 + j) < 5
  omega
theorem ag_place {M : zm_Mem} {q n : Nat} (hI : Inv M q n) (hn : n < 512) : Ag (rd (f_X10_place M) M) (fun M1 => rd (f_X11_place M1) M1) q n := by
  have h : M.1 1 16 = M.1 52 17 := by
    obtain ⟨t, v, D, S, hC, hR⟩ := hI
    exact hR.2.2.2.1
  refine ag_mk hI (r := M.1 1 16) (M1 := M) (M2 := M) rfl ?_ (sc_rfl M)
  rw [h]; rfl
theorem ag_may {M : zm_Mem} {q n : Nat} (hI : Inv M q n) (hn : n < 512) (a1 : Int32) (a2 : Int32) : Ag (f_X10_may a1 a2 M) (fun M1 => f_X11_may a1 a2 M1) q n := by
  have hI' := hI
  obtain ⟨t, v, D, S, hC, -⟩ := hI'
  have ht := hC.2.1
  have hT := hC.2.2.1
  have hR := hC.2.2.2
  have bI := cx_isT hC
  have bv := tT_v hT
  have bh := tT_bh hT
  have bw := tT_bw hT
  have bk := tT_bk hT
  rcases ix_cases a1 (b := D.1 0 1) (by omega) with h1 | ⟨w, hw, rfl⟩
  · refine ag_mk hI (r := -1) (M1 := M) (M2 := M) ?_ ?_ (sc_rfl M)
    · unfold f_X10_may; rw [c_isWork0 hC h1]; rfl
    · show f_X11_may a1 a2 M = _
      unfold f_X11_may; rw [r_isPair0 hC (Or.inl h1)]; rfl
  rcases ix_cases a2 (b := D.1 0 0) (by omega) with h2 | ⟨x, hx, rfl⟩
  · refine ag_mk hI (r := -1) (M1 := M) (M2 := M) ?_ ?_ (sc_rfl M)
    · unfold f_X10_may; rw [c_isWork hC hw, zb1_some, if_neg (by decide), c_isHouse0 hC h2]; rfl
    · show f_X11_may (nI w) a2 M = _
      unfold f_X11_may; rw [r_isPair0 hC (Or.inr ⟨⟨w, hw, rfl⟩, h2⟩)]; rfl
  obtain ⟨M1, e1, s1, n1⟩ := c_lookToday hn hC
  have hC1 := cx_sc s1 hC
  obtain ⟨M2, e2, f2⟩ := c_canHang (li := S 3) hn hC1 n1 (hg_S hC) hw hx
  have s2 := sc_tr s1 (sc_C f2)
  have hC2 := cx_sc s2 hC
  have s3 := sc_tr s2 (sc_copies M2 (nI (D.1 0 5)))
  obtain ⟨M4, e4, f4⟩ := r_mayHang (cx_sc s3 hC) (rw_copies hC2) (hg_S hC) hw hx
  refine ag_mk hI (r := if hng D (isAt S (S 0)) (fun j => S (4 + j)) (S 0) (S 3) w x = true then nI 1 else nI 0) (M1 := M2) (M2 := M4) ?_ ?_ (sc_tr s3 (sc_Q f4))
  · unfold f_X10_may
    rw [c_isWork hC hw, zb1_some, if_neg (by decide), c_isHouse hC hx, zb1_some, if_neg (by decide), e1, zb2_some, c_standing hC1, zb1_some, e2, zb2_some]
    cases hng D (isAt S (S 0)) (fun j => S (4 + j)) (S 0) (S 3) w x <;> rfl
  · show f_X11_may (nI w) (nI x) M2 = _
    unfold f_X11_may
    rw [r_isPair hC2 hw hx, zb1_some, if_neg (by decide), r_copies hC2, zb2_some, e4, zb2_some]
    cases hng D (isAt S (S 0)) (fun j => S (4 + j)) (S 0) (S 3) w x <;> rfl
theorem ag_likes {M : zm_Mem} {q n : Nat} (hI : Inv M q n) (hn : n < 512) (a1 : Int32) (a2 : Int32) : Ag (f_X10_likes a1 a2 M) (fun M1 => f_X11_likes a1 a2 M1) q n := by
  have hI' := hI
  obtain ⟨t, v, D, S, hC, -⟩ := hI'
  have ht := hC.2.1
  have hT := hC.2.2.1
  have hR := hC.2.2.2
  have bI := cx_isT hC
  have bv := tT_v hT
  have bh := tT_bh hT
  have bw := tT_bw hT
  have bk := tT_bk hT
  rcases ix_cases a2 (b := D.1 0 1) (by omega) with h1 | ⟨w, hw, rfl⟩
  · refine ag_mk hI (r := -1) (M1 := M) (M2 := M) ?_ ?_ (sc_rfl M)
    · unfold f_X10_likes; rw [c_isWork0 hC h1]; rfl
    · show f_X11_likes a1 a2 M = _
      unfold f_X11_likes; rw [r_isPair0 hC (Or.inl h1)]; rfl
  rcases ix_cases a1 (b := D.1 0 0) (by omega) with h2 | ⟨x, hx, rfl⟩
  · refine ag_mk hI (r := -1) (M1 := M) (M2 := M) ?_ ?_ (sc_rfl M)
    · unfold f_X10_likes; rw [c_isWork hC hw, zb1_some, if_neg (by decide), c_isHouse0 hC h2]; rfl
    · show f_X11_likes a1 (nI w) M = _
      unfold f_X11_likes; rw [r_isPair0 hC (Or.inr ⟨⟨w, hw, rfl⟩, h2⟩)]; rfl
  obtain ⟨M1, e1, s1, n1⟩ := c_lookToday hn hC
  have hC1 := cx_sc s1 hC
  obtain ⟨M2, e2, f2⟩ := c_liking hC1 n1 (hg_S hC) (-1) hw hx
  have s2 := sc_tr s1 (sc_C f2)
  have hC2 := cx_sc s2 hC
  have s3 := sc_tr s2 (sc_copies M2 (nI (D.1 0 5)))
  obtain ⟨M4, e4, f4⟩ := r_likesOf (cx_sc s3 hC) (rw_copies hC2) (hg_S hC) (-1) hw hx
  refine ag_mk hI (r := lk D (vq D (isAt S (S 0)) (fun j => S (4 + j)) (S 0) w x (-1))) (M1 := M2) (M2 := M4) ?_ ?_ (sc_tr s3 (sc_Q f4))
  · unfold f_X10_likes
    rw [c_isWork hC hw, zb1_some, if_neg (by decide), c_isHouse hC hx, zb1_some, if_neg (by decide), e1, zb2_some, e2, zb2_some]
  · show f_X11_likes (nI x) (nI w) M2 = _
    unfold f_X11_likes
    rw [r_isPair hC2 hw hx, zb1_some, if_neg (by decide), r_copies hC2, zb2_some, e4, zb2_some]
theorem ag_trip {M : zm_Mem} {q n : Nat} (hI : Inv M q n) (hn : n < 512) (a1 : Int32) (a2 : Int32) : Ag (f_X10_trip a1 a2 M) (fun M1 => f_X11_trip a1 a2 M1) q n := by
  have hI' := hI
  obtain ⟨t, v, D, S, hC, -⟩ := hI'
  have ht := hC.2.1
  have hT := hC.2.2.1
  have hR := hC.2.2.2
  have bI := cx_isT hC
  have bv := tT_v hT
  have bh := tT_bh hT
  have bw := tT_bw hT
  have bk := tT_bk hT
  rcases ix_cases a1 (b := D.1 0 1) (by omega) with h1 | ⟨w, hw, rfl⟩
  · refine ag_mk hI (r := -1) (M1 := M) (M2 := M) ?_ ?_ (sc_rfl M)
    · unfold f_X10_trip; rw [c_isWork0 hC h1]; rfl
    · show f_X11_trip a1 a2 M = _
      unfold f_X11_trip; rw [r_isPair0 hC (Or.inl h1)]; rfl
  rcases ix_cases a2 (b := D.1 0 0) (by omega) with h2 | ⟨x, hx, rfl⟩
  · refine ag_mk hI (r := -1) (M1 := M) (M2 := M) ?_ ?_ (sc_rfl M)
    · unfold f_X10_trip; rw [c_isWork hC hw, zb1_some, if_neg (by decide), c_isHouse0 hC h2]; rfl
    · show f_X11_trip (nI w) a2 M = _
      unfold f_X11_trip; rw [r_isPair0 hC (Or.inr ⟨⟨w, hw, rfl⟩, h2⟩)]; rfl
  obtain ⟨M1, e1, s1, n1⟩ := c_lookToday hn hC
  have hC1 := cx_sc s1 hC
  obtain ⟨M2, e2, f2⟩ := c_journey hC1 n1 hw hx
  have s2 := sc_tr s1 (sc_C f2)
  have hC2 := cx_sc s2 hC
  have s3 := sc_tr s2 (sc_copies M2 (nI (D.1 0 5)))
  obtain ⟨M4, e4, f4⟩ := r_tripOf (cx_sc s3 hC) (rw_copies hC2) hw hx
  refine ag_mk hI (r := tp D (vr D w x 0 0 (S 0))) (M1 := M2) (M2 := M4) ?_ ?_ (sc_tr s3 (sc_Q f4))
  · unfold f_X10_trip
    rw [c_isWork hC hw, zb1_some, if_neg (by decide), c_isHouse hC hx, zb1_some, if_neg (by decide), e1, zb2_some, e2, zb2_some]
  · show f_X11_trip (nI w) (nI x) M2 = _
    unfold f_X11_trip
    rw [r_isPair hC2 hw hx, zb1_some, if_neg (by decide), r_copies hC2, zb2_some, e4, zb2_some]
theorem ag_holds {M : zm_Mem} {q n : Nat} (hI : Inv M q n) (hn : n < 512) (a1 : Int32) (a2 : Int32) : Ag (f_X10_holds a1 a2 M) (fun M1 => f_X11_holds a1 a2 M1) q n := by
  have hI' := hI
  obtain ⟨t, v, D, S, hC, -⟩ := hI'
  have ht := hC.2.1
  have hT := hC.2.2.1
  have hR := hC.2.2.2
  have bI := cx_isT hC
  have bv := tT_v hT
  have bh := tT_bh hT
  have bw := tT_bw hT
  have bk := tT_bk hT
  rcases ix_cases a1 (b := D.1 0 2) (by omega) with h1 | ⟨k, hk, rfl⟩
  · refine ag_mk hI (r := -1) (M1 := M) (M2 := M) ?_ ?_ (sc_rfl M)
    · unfold f_X10_holds; rw [c_isTerm0 hC h1]; rfl
    · show f_X11_holds a1 a2 M = _
      unfold f_X11_holds; rw [r_isTerm0 hC h1]; rfl
  rcases ix_cases a2 (b := D.1 0 0) (by omega) with h2 | ⟨x, hx, rfl⟩
  · refine ag_mk hI (r := -1) (M1 := M) (M2 := M) ?_ ?_ (sc_rfl M)
    · unfold f_X10_holds; rw [c_isTerm hC hk, zb1_some, if_neg (by decide), c_isHouse0 hC h2]; rfl
    · show f_X11_holds (nI k) a2 M = _
      unfold f_X11_holds; rw [r_isTerm hC hk, zb1_some, if_neg (by decide), r_isHouse0 hC h2]; rfl
  have hw : D.1 7 k < D.1 0 1 := tT_Kb hT k hk
  obtain ⟨M1, e1, s1, n1⟩ := c_lookToday hn hC
  have hC1 := cx_sc s1 hC
  have hT1 := hC1.2.2.1
  obtain ⟨M2, e2, f2, v2⟩ := c_enter hC1 n1 (hg_S hC) (-1) hw hx
  have hC2 := cx_C f2 hC1
  obtain ⟨M3, e3, f3⟩ := c_kept hC2 (sn_C f2 n1) v2 hk
  have s3 := sc_tr s1 (sc_tr (sc_C f2) (sc_C (frS_C f3)))
  have hC3 := cx_sc s3 hC
  have s4 := sc_tr s3 (sc_copies M3 (nI (D.1 0 5)))
  have hC4 := cx_sc s4 hC
  have hT4 := hC4.2.2.1
  obtain ⟨M5, e5, f5⟩ := r_brokenIn hC4 (rw_copies hC3) (hg_S hC) hw hx
  have hbk : (bitsOf (fun j => decide (D.1 7 j = D.1 7 k) && !kp D (vq D (isAt S (S 0)) (fun j => S (4 + j)) (S 0) (D.1 7 k) x (-nI 1)) j) (D.1 0 2)) / 2 ^ k % 2 = 1 ↔ kp D (vq D (isAt S (S 0)) (fun j => S (4 + j)) (S 0) (D.1 7 k) x (-nI 1)) k = false := by
    rw [← decide_eq_true_eq (p := _ = 1), tb_eq, bitsOf_test, decide_eq_true hk]
    simp
  have hlt := bitsOf_le (fun j => decide (D.1 7 j = D.1 7 k) && !kp D (vq D (isAt S (S 0)) (fun j => S (4 + j)) (S 0) (D.1 7 k) x (-nI 1)) j) bk
  refine ag_mk hI (r := if kp D (vq D (isAt S (S 0)) (fun j => S (4 + j)) (S 0) (D.1 7 k) x (-nI 1)) k = true then nI 1 else nI 0) (M1 := M3) (M2 := M5) ?_ ?_ (sc_tr s4 (sc_Q f5))
  · have e2' : f_X3_enter (nI (D.1 7 k)) (nI x) (-1) M1 = some ((), M2) := e2
    have ek : f_X3_termKept (nI k) (nI x) M1 = some (if kp D (vq D (isAt S (S 0)) (fun j => S (4 + j)) (S 0) (D.1 7 k) x (-nI 1)) k = true then nI 1 else nI 0, M3) := by
      unfold f_X3_termKept
      rw [zv_eq, n1.1, bI, zk_true, zm_ck_t (zm_in_nI (by omega) (by omega)), nI_clamp (by omega), tT_tw hT1 k hk, e2', zb2_some, e3, zb2_some]
      have : vr D (D.1 7 k) x (mny (isAt S (S 0)) (fun j => S (4 + j)) (D.1 7 k) x (-1) (D.1 0 1)) (sme D (isAt S (S 0)) (fun j => S (4 + j)) (D.1 7 k) x (-1) (D.1 0 1)) (S 0) = vq D (isAt S (S 0)) (fun j => S (4 + j)) (S 0) (D.1 7 k) x (-nI 1) := rfl
      rw [this]
      cases kp D (vq D (isAt S (S 0)) (fun j => S (4 + j)) (S 0) (D.1 7 k) x (-nI 1)) k <;> rfl
    unfold f_X10_holds
    rw [c_isTerm hC hk, zb1_some, if_neg (by decide), c_isHouse hC hx, zb1_some, if_neg (by decide), e1, zb2_some, ek, zb2_some]
    cases kp D (vq D (isAt S (S 0)) (fun j => S (4 + j)) (S 0) (D.1 7 k) x (-nI 1)) k <;> rfl
  · show f_X11_holds (nI k) (nI x) M3 = _
    unfold f_X11_holds
    rw [r_isTerm hC3 hk, zb1_some, if_neg (by decide), r_isHouse hC3 hx, zb1_some, if_neg (by decide), r_copies hC3, zb2_some]
    simp (disch := omega) only [lt_lit, tT_live hT4, pk_mul, nI_add, zi_in, ↓zk_true, nI_clamp, tT_rtw hT4, e5, ↓zb2_some, zi_shr, zi_and1, nI_eq, hbk]
    cases kp D (vq D (isAt S (S 0)) (fun j => S (4 + j)) (S 0) (D.1 7 k) x (-nI 1)) k <;> rfl
theorem ag_owes {M : zm_Mem} {q n : Nat} (hI : Inv M q n) (hn : n < 512) (a1 : Int32) (a2 : Int32) : Ag (rd (f_X10_owes a1 a2 M) M) (fun M1 => rd (f_X11_owes a1 a2 M1) M1) q n := by
  have hI' := hI
  obtain ⟨t, v, D, S, hC, -⟩ := hI'
  have ht := hC.2.1
  have hT := hC.2.2.1
  have hR := hC.2.2.2
  have bI := cx_isT hC
  have bv := tT_v hT
  have bh := tT_bh hT
  have bw := tT_bw hT
  have bk := tT_bk hT
  suffices h : ∃ r, f_X10_owes a1 a2 M = some r ∧ f_X11_owes a1 a2 M = some r by
    obtain ⟨r, h1, h2⟩ := h
    exact ag_mk hI (r := r) (M1 := M) (M2 := M) (by rw [h1]; rfl) (by show rd (f_X11_owes a1 a2 M) M = _; rw [h2]; rfl) (sc_rfl M)
  rcases ix_cases a1 (b := D.1 0 0) (by omega) with h1 | ⟨x, hx, rfl⟩
  · exact ⟨-1, by unfold f_X10_owes; rw [c_isHouse0 hC h1]; rfl, by unfold f_X11_owes; rw [r_isHouse0 hC h1]; rfl⟩
  rcases ix_cases a2 (b := D.1 0 0) (by omega) with h2 | ⟨y, hy, rfl⟩
  · exact ⟨-1, by unfold f_X10_owes; rw [c_isHouse hC hx, zb1_some, if_neg (by decide), c_isHouse0 hC h2]; rfl, by unfold f_X11_owes; rw [r_isHouse hC hx, zb1_some, if_neg (by decide), r_isHouse0 hC h2]; rfl⟩
  by_cases hxy : nI x = nI y
  · exact ⟨-1, by unfold f_X10_owes; rw [c_isHouse hC hx, zb1_some, if_neg (by decide), c_isHouse hC hy, zb1_some, if_neg (by decide), if_pos hxy], by unfold f_X11_owes; rw [r_isHouse hC hx, zb1_some, if_neg (by decide), r_isHouse hC hy, zb1_some, if_neg (by decide), if_pos hxy]⟩
  refine ⟨nI (bitsOf (fun j => decide (D.1 3 j = y) && decide (S (4 + j) = x)) (D.1 0 1)), ?_, ?_⟩
  · unfold f_X10_owes
    rw [c_isHouse hC hx, zb1_some, if_neg (by decide), c_isHouse hC hy, zb1_some, if_neg (by decide), if_neg hxy]
    exact c_owes_lp hC hn (by omega) (by omega)
  · unfold f_X11_owes
    rw [r_isHouse hC hx, zb1_some, if_neg (by decide), r_isHouse hC hy, zb1_some, if_neg (by decide), if_neg hxy]
    exact r_owes_lp hC hn (by omega) (by omega)
theorem ag_lent {M : zm_Mem} {q n : Nat} (hI : Inv M q n) (hn : n < 512) (a1 : Int32) (a2 : Int32) : Ag (rd (f_X10_lent a1 a2 M) M) (fun M1 => rd (f_X11_lent a1 a2 M1) M1) q n := by
  have hI' := hI
  obtain ⟨t, v, D, S, hC, -⟩ := hI'
  have ht := hC.2.1
  have hT := hC.2.2.1
  have hR := hC.2.2.2
  have bI := cx_isT hC
  have bv := tT_v hT
  have bh := tT_bh hT
  have bw := tT_bw hT
  have bk := tT_bk hT
  suffices h : ∃ r, f_X10_lent a1 a2 M = some r ∧ f_X11_lent a1 a2 M = some r by
    obtain ⟨r, h1, h2⟩ := h
    exact ag_mk hI (r := r) (M1 := M) (M2 := M) (by rw [h1]; rfl) (by show rd (f_X11_lent a1 a2 M) M = _; rw [h2]; rfl) (sc_rfl M)
  rcases ix_cases a1 (b := D.1 0 0) (by omega) with h1 | ⟨x, hx, rfl⟩
  · exact ⟨-1, by unfold f_X10_lent; rw [c_isHouse0 hC h1]; rfl, by unfold f_X11_lent; rw [r_isHouse0 hC h1]; rfl⟩
  rcases ix_cases a2 (b := D.1 0 0) (by omega) with h2 | ⟨y, hy, rfl⟩
  · exact ⟨-1, by unfold f_X10_lent; rw [c_isHouse hC hx, zb1_some, if_neg (by decide), c_isHouse0 hC h2]; rfl, by unfold f_X11_lent; rw [r_isHouse hC hx, zb1_some, if_neg (by decide), r_isHouse0 hC h2]; rfl⟩
  by_cases hxy : nI x = nI y
  · exact ⟨-1, by unfold f_X10_lent; rw [c_isHouse hC hx, zb1_some, if_neg (by decide), c_isHouse hC hy, zb1_some, if_neg (by decide), if_pos hxy], by unfold f_X11_lent; rw [r_isHouse hC hx, zb1_some, if_neg (by decide), r_isHouse hC hy, zb1_some, if_neg (by decide), if_pos hxy]; rfl⟩
  refine ⟨M.1 12 (22 + (x * 5 + y)), ?_, ?_⟩
  · unfold f_X10_lent
    rw [c_isHouse hC hx, zb1_some, if_neg (by decide), c_isHouse hC hy, zb1_some, if_neg (by decide), if_neg hxy]
    simp (disch := omega) only [↓zv_eq, ↓zb1_some, ↓zb2_some, ↓zk_true, Option.bind_some, Option.bind_none, Option.map_some, Sum.elim_inl, Sum.elim_inr, if_true, if_false, ↓reduceIte, lt_lit, nI_clamp, zi_in, nI_leI, nI_ltI, nI_eq, nI_add, pk_mul, zi_sub, pk_div, zi_rem, zi_sh1, zi_shr, zi_and1, zi_or, zi_en, zi_ne, zi_ln, zi_nl, zi_lne, zi_nle, zi_nn, zq_01, zq_10, zq_011, zq_at, zq_ta, ite_not, Classical.not_not]
    rw [Nat.add_assoc]
  · unfold f_X11_lent
    rw [r_isHouse hC hx, zb1_some, if_neg (by decide), r_isHouse hC hy, zb1_some, if_neg (by decide), if_neg hxy]
    simp (disch := omega) only [↓zv_eq, ↓zb1_some, ↓zb2_some, ↓zk_true, Option.bind_some, Option.bind_none, Option.map_some, Sum.elim_inl, Sum.elim_inr, if_true, if_false, ↓reduceIte, lt_lit, nI_clamp, zi_in, nI_leI, nI_ltI, nI_eq, nI_add, pk_mul, zi_sub, pk_div, zi_rem, zi_sh1, zi_shr, zi_and1, zi_or, zi_en, zi_ne, zi_ln, zi_nl, zi_lne, zi_nle, zi_nn, zq_01, zq_10, zq_011, zq_at, zq_ta, ite_not, Classical.not_not]
    rw [show 33 + 5 * x + y = 33 + (x * 5 + y) by omega, tR_le hR (x * 5 + y) (by omega)]
