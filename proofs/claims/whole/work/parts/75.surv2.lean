/-! the survey asked for -/
def lo (M M' : zm_Mem) : Prop := (∀ x j, x < 103 → ¬ (x = 1 ∧ j = 13) → iv_c x j = true → M'.1 x j = M.1 x j) ∧ (∀ x j, x < 103 → iv_c x j = true → M'.2.1 x j = M.2.1 x j) ∧ (∀ x j, x < 103 → ¬ (x = 1 ∧ (j = 11 ∨ j = 12)) → iv_c x j = true → M'.2.2 x j = M.2.2 x j) ∧ (zm_isT (M.2.2 47 2) = true → zm_isT (M'.2.2 47 2) = true)
theorem lo_tr {M M1 M2 : zm_Mem} (h : lo M M1) (h' : lo M1 M2) : lo M M2 := ⟨fun x j a b c => (h'.1 x j a b c).trans (h.1 x j a b c), fun x j a b => (h'.2.1 x j a b).trans (h.2.1 x j a b), fun x j a b c => (h'.2.2.1 x j a b c).trans (h.2.2.1 x j a b c), fun z => h'.2.2.2 (h.2.2.2 z)⟩
theorem lo_zero {M : zm_Mem} {i : Nat} (hi : 103 ≤ i) : lo M (zm_zero M i) := by
  refine ⟨fun x j a _ _ => ?_, fun x j a _ => ?_, fun x j a _ _ => ?_, fun z => ?_⟩
  · show (if x = i then 0 else M.1 x j) = _
    rw [if_neg (by omega)]
  · show (if x = i then 0 else M.2.1 x j) = _
    rw [if_neg (by omega)]
  · show (if x = i then 0 else M.2.2 x j) = _
    rw [if_neg (by omega)]
  · show zm_isT (if 47 = i then 0 else M.2.2 47 2) = true
    rw [if_neg (by omega)]; exact z
theorem lo_sP {M : zm_Mem} {a i v : Nat} (h : 103 ≤ a ∨ (a = 1 ∧ (i = 11 ∨ i = 12))) : lo M (zm_sP M a i v) := by
  refine ⟨fun _ _ _ _ _ => rfl, fun _ _ _ _ => rfl, fun x j hx hn _ => ?_, fun z => ?_⟩
  · show (if x = a ∧ j = i then v else M.2.2 x j) = _
    rw [if_neg (by omega)]
  · show zm_isT (if 47 = a ∧ 2 = i then v else M.2.2 47 2) = true
    rw [if_neg (by omega)]; exact z
theorem lo_sI {M : zm_Mem} {v : Int32} : lo M (zm_sI M 1 13 v) := ⟨fun x j _ hn _ => by rw [mI1, if_neg hn], fun _ _ _ _ => rfl, fun _ _ _ _ _ => rfl, fun z => z⟩
theorem lo_sc {M M' : zm_Mem} (h : Sc M M') : lo M M' := ⟨fun x j _ _ hc => sc_1 h hc, fun x j _ hc => sc_2 h hc, fun x j _ _ hc => sc_3 h hc, h.2⟩
theorem lo_mk {M M' : zm_Mem} (h : Fg wMk M M') : lo M M' := by
  have hw : ∀ x j, x < 103 → iv_c x j = true → wMk x j = false := by
    intro x j hx hc
    cases hw : wMk x j with
    | false => rfl
    | true =>
      simp only [wMk, wHg, wKr, wC, Bool.or_eq_true, Bool.and_eq_true, decide_eq_true_eq] at hw
      rcases hw with h | h | h | (h | h | h | h | h | h | h) | h | h
      · omega
      · omega
      · omega
      · omega
      · omega
      · omega
      · omega
      · omega
      · omega
      · omega
      · subst h; cases hc
      · obtain ⟨rfl, _⟩ := h; cases hc
  exact ⟨fun x j a _ c => h.2.1 x j (hw x j a c), fun x j a c => h.2.2 x j (hw x j a c), fun x j _ _ _ => by rw [h.1], fun z => by rw [h.1]; exact z⟩
theorem cx_lo {M M' : zm_Mem} {t v n : Nat} {D : zD} {S : Nat → Nat} (h : lo M M') (hC : Cx M t v D S n) : Cx M' t v D S n := by
  refine ⟨hC.1, (h.2.2.1 1 9 (by omega) (by omega) rfl).trans hC.2.1, iT_eq hC.1 (fun x j hc => ?_) hC.2.2.1, ?_⟩
  · have hx : x < 103 ∧ iv_c x j = true ∧ x ≠ 1 := by
      unfold c_T at hc
      split at hc
      · rw [decide_eq_true_eq] at hc
        subst hc
        exact ⟨by omega, rfl, by omega⟩
      · simp only [Bool.or_eq_true, Bool.and_eq_true, decide_eq_true_eq] at hc
        refine ⟨by omega, ?_, by omega⟩
        unfold iv_c
        split <;> first | rfl | omega | (simp only [Bool.or_eq_true, Bool.and_eq_true, decide_eq_true_eq]; omega)
    exact h.1 x j hx.1 (fun z => hx.2.2 z.1) hx.2.1
  · rw [show M'.1 12 = M.1 12 from funext fun j => h.1 12 j (by omega) (by omega) rfl, show M'.1 91 = M.1 91 from funext fun j => h.1 91 j (by omega) (by omega) rfl]; exact hC.2.2.2
theorem rx_lo {M M' : zm_Mem} {t q q' n : Nat} {D : zD} {S : Nat → Nat} (h : lo M M') (H : Rx M t D S q n) (hq : q' ≠ 0) (r1 : M'.2.2 1 11 = 103) (r2 : M'.2.2 1 12 = 112) (su : M'.1 1 13 = 0 ∨ (M'.1 1 13 = 1 ∧ q' ≠ 0 ∧ iv_sok M' t D S)) (z1 : M'.1 109 = fun _ => 0) (z2 : M'.1 110 = fun _ => 0) : Rx M' t D S q' n := by
  obtain ⟨x1, x2, x3, x4, x5, x6, x7, x8, x9, x10, x11⟩ := H
  have i : ∀ x j, x < 103 → ¬ (x = 1 ∧ j = 13) → iv_c x j = true → M'.1 x j = M.1 x j := h.1
  have rw' : ∀ x, x < 103 → x ≠ 1 → (∀ j, iv_c x j = true) → M'.1 x = M.1 x := fun x hx hn hc => funext fun j => i x j hx (by omega) (hc j)
  refine ⟨(h.2.2.1 1 10 (by omega) (by omega) rfl).trans x1, Or.inr ⟨hq, r1, r2⟩, ?_, ?_, ?_, ?_, ?_, ?_, su, fun _ => ⟨z1, z2⟩, h.2.2.2 x11⟩
  · obtain ⟨N, a, b, c, d⟩ := x3
    refine ⟨N, a, (i 1 15 (by omega) (by omega) rfl).trans b, (i 52 2 (by omega) (by omega) rfl).trans c, fun j hj => ?_⟩
    rw [i 2 j (by omega) (by omega) rfl, i 53 j (by omega) (by omega) rfl]; exact d j hj
  · rw [i 1 16 (by omega) (by omega) rfl, i 52 17 (by omega) (by omega) rfl]; exact x4
  · intro j hj
    rw [h.2.1 7 j (by omega) rfl, h.2.1 59 j (by omega) rfl]; exact x5 j hj
  · obtain ⟨s, x, a, b, c, d, e, f⟩ := x6
    refine ⟨s, x, a, b, (i 13 2 (by omega) (by omega) rfl).trans c, (i 52 59 (by omega) (by omega) rfl).trans d, (i 13 1 (by omega) (by omega) rfl).trans e, fun k hk => ?_⟩
    rw [rw' 14 (by omega) (by omega) (fun _ => rfl), rw' 93 (by omega) (by omega) (fun _ => rfl)]; exact f k hk
  · obtain ⟨s, a, b, c⟩ := x7
    refine ⟨s, a, (i 1 14 (by omega) (by omega) rfl).trans b, fun k hk => ?_⟩
    rw [rw' 101 (by omega) (by omega) (fun _ => rfl), rw' 15 (by omega) (by omega) (fun _ => rfl), rw' 102 (by omega) (by omega) (fun _ => rfl)]; exact c k hk
  · obtain ⟨s, a, b, c, d⟩ := x8
    refine ⟨s, a, (i 16 7 (by omega) (by omega) rfl).trans b, (i 52 65 (by omega) (by omega) rfl).trans c, fun k hk => ?_⟩
    rw [rw' 17 (by omega) (by omega) (fun _ => rfl), rw' 18 (by omega) (by omega) (fun _ => rfl), rw' 19 (by omega) (by omega) (fun _ => rfl), rw' 98 (by omega) (by omega) (fun _ => rfl), rw' 99 (by omega) (by omega) (fun _ => rfl), rw' 100 (by omega) (by omega) (fun _ => rfl)]; exact d k hk
/-- the survey is as it should be -/
def SvO (M : zm_Mem) (D : zD) (S : Nat → Nat) : Prop := SvR M (D.1 0 1) (finV D (S 3) (S 0) (isAt S (S 0)) (fun j => S (4 + j))) ∧ M.1 103 11 = nI (stn D (S 3))
theorem svo_of {M : zm_Mem} {t : Nat} {D : zD} {S : Nat → Nat} (h : iv_sok M t D S) : SvO M D S := by
  obtain ⟨Ma, M0, M1, s, v, n, k1, k2, k3, k4, k5, k6, k7, k8, k9, k10, k11, k12⟩ := h
  obtain ⟨M0', e1, s1, n1⟩ := c_lookToday k1 k2
  rw [k5] at e1
  have e1' := (Prod.mk.inj (Option.some.inj e1)).2
  subst e1'
  have hC0 := cx_sc s1 k2
  rw [c_standing hC0] at k6
  have k6' := Option.some.inj k6
  subst k6'
  obtain ⟨M1', g1, g2, g3, g4, g5, g6⟩ := c_make (li := S 3) k1 hC0 n1 (hg_S k2) (by funext j; rw [sc_1 s1 (id := 109) (j := j) rfl, k3]) (by funext j; rw [sc_1 s1 (id := 110) (j := j) rfl, k4])
  rw [k7] at g1
  have g1' := (Prod.mk.inj (Option.some.inj g1)).2
  subst g1'
  refine ⟨?_, by rw [k8]; exact g5⟩
  obtain ⟨q1, q2, q3, q4, q5, q6, q7⟩ := g6
  exact ⟨fun x hx => by rw [k9]; exact q1 x hx, fun x hx => by rw [k10]; exact q2 x hx, fun x hx => by rw [k11]; exact q3 x hx, by rw [k8]; exact q4, by rw [k8]; exact q5, q6, fun h w hw => by rw [k12]; exact q7 h w hw⟩
theorem c_b45 {M : zm_Mem} {t v q n : Nat} {D : zD} {S : Nat → Nat} (hn : n < 512) (hC : Cx M t v D S n) (hX : Rx M t D S q n) (hq : q ≠ 0) : ∃ M', f_X10_makeSurvey_b45 M = some ((), M') ∧ Cx M' t v D S n ∧ Rx M' t D S q n ∧ SvO M' D S := by
  have ht := hC.2.1
  have hT := hC.2.2.1
  have hR := hC.2.2.2
  have bI := cx_isT hC
  have bv := tT_v hT
  have bh := tT_bh hT
  have bw := tT_bw hT
  have bk := tT_bk hT
  have hX' := hX
  obtain ⟨x1, x2, x3, x4, x5, x6, x7, x8, x9, x10, x11⟩ := hX'
  have x2' : M.2.2 1 11 = 103 ∧ M.2.2 1 12 = 112 := by
    rcases x2 with h | h
    · exact absurd h.1 hq
    · exact h.2
  rcases x9 with h0 | ⟨h1, _, hsok⟩
  · obtain ⟨M1, e1, s1, n1⟩ := c_lookToday hn hC
    have hC1 := cx_sc s1 hC
    have e109 : M1.1 109 = fun _ => 0 := by funext j; rw [sc_1 s1 (id := 109) (j := j) rfl, (x10 hq).1]
    have e110 : M1.1 110 = fun _ => 0 := by funext j; rw [sc_1 s1 (id := 110) (j := j) rfl, (x10 hq).2]
    obtain ⟨M2, g1, g2, g3, g4, g5, g6⟩ := c_make (li := S 3) hn hC1 n1 (hg_S hC) e109 e110
    have r11 : M1.2.2 1 11 = 103 := (sc_3 s1 (id := 1) (j := 11) rfl).trans x2'.1
    have r12 : M1.2.2 1 12 = 112 := (sc_3 s1 (id := 1) (j := 12) rfl).trans x2'.2
    have hlo : lo M (zm_sI M2 1 13 1) := lo_tr (lo_sc s1) (lo_tr (lo_sP (a := 103) (i := 10) (v := t) (Or.inl (by omega))) (lo_tr (lo_mk g2) lo_sI))
    have f103 : (zm_sI M2 1 13 1).1 103 = M2.1 103 := by funext j; rw [mI1, if_neg (by omega)]
    have f108 : (zm_sI M2 1 13 1).1 108 = M2.1 108 := by funext j; rw [mI1, if_neg (by omega)]
    have sok : iv_sok (zm_sI M2 1 13 1) t D S := ⟨M, M1, M2, nI (stn D (S 3)), v, n, hn, hC, (x10 hq).1, (x10 hq).2, e1, c_standing hC1, g1, f103, rfl, rfl, rfl, f108⟩
    refine ⟨zm_sI M2 1 13 1, ?_, cx_lo hlo hC, rx_lo hlo hX hq ?_ ?_ (Or.inr ⟨by rw [mI1, if_pos ⟨rfl, rfl⟩], hq, sok⟩) ?_ ?_, svo_of sok⟩
    · unfold f_X10_makeSurvey_b45
      rw [h0, if_pos rfl, e1, zb2_some, zm_ck_t (decide_eq_true r11)]
      simp only [zv_eq]
      rw [hC1.2.1, bI, zk_true, c_standing hC1, zb1_some, g1]; rfl
    · show M2.2.2 1 11 = 103
      rw [g2.1]; exact r11
    · show M2.2.2 1 12 = 112
      rw [g2.1]; exact r12
    · rw [← g3]; funext j; rw [mI1, if_neg (by omega)]
    · rw [← g4]; funext j; rw [mI1, if_neg (by omega)]
  · refine ⟨M, ?_, hC, hX, svo_of hsok⟩
    unfold f_X10_makeSurvey_b45
    rw [h1, if_neg (by decide)]
theorem c_survey {M : zm_Mem} {t v q n : Nat} {D : zD} {S : Nat → Nat} (hn : n < 512) (hC : Cx M t v D S n) (hX : Rx M t D S q n) : ∃ M', f_X10_makeSurvey M = some ((), M') ∧ Cx M' t v D S n ∧ Rx M' t D S (q + 1) n ∧ SvO M' D S ∧ M'.2.2 1 11 = 103 ∧ M'.2.2 1 12 = 112 := by
  have fin : ∀ M0 q0, q0 ≠ 0 → Cx M0 t v D S n → Rx M0 t D S q0 n → f_X10_makeSurvey M = f_X10_makeSurvey_b45 M0 → ∃ M', f_X10_makeSurvey M = some ((), M') ∧ Cx M' t v D S n ∧ Rx M' t D S (q + 1) n ∧ SvO M' D S ∧ M'.2.2 1 11 = 103 ∧ M'.2.2 1 12 = 112 := by
    intro M0 q0 hq0 hC0 hX0 he
    obtain ⟨M', g1, g2, g3, g4⟩ := c_b45 hn hC0 hX0 hq0
    obtain ⟨x1, x2, x3, x4, x5, x6, x7, x8, x9, x10, x11⟩ := g3
    have x2' : M'.2.2 1 11 = 103 ∧ M'.2.2 1 12 = 112 := by
      rcases x2 with h | h
      · exact absurd h.1 hq0
      · exact h.2
    refine ⟨M', he.trans g1, g2, ⟨x1, Or.inr ⟨Nat.succ_ne_zero q, x2'.1, x2'.2⟩, x3, x4, x5, x6, x7, x8, ?_, fun _ => x10 hq0, x11⟩, g4, x2'.1, x2'.2⟩
    rcases x9 with h | h
    · exact Or.inl h
    · exact Or.inr ⟨h.1, Nat.succ_ne_zero q, h.2.2⟩
  have hX' := hX
  obtain ⟨x1, x2, x3, x4, x5, x6, x7, x8, x9, x10, x11⟩ := hX'
  rcases x2 with ⟨h1, h2, h3⟩ | ⟨h1, h2, h3⟩
  · -- made for the first time
    generalize hB : zm_zero (zm_zero (zm_zero (zm_zero (zm_zero (zm_zero (zm_zero (zm_zero (zm_zero M 103) 104) 105) 106) 107) 108) 109) 110) 111 = B
    have lB : lo M B := by
      rw [← hB]
      exact lo_tr (lo_tr (lo_tr (lo_tr (lo_tr (lo_tr (lo_tr (lo_tr (lo_zero (by omega)) (lo_zero (by omega))) (lo_zero (by omega))) (lo_zero (by omega))) (lo_zero (by omega))) (lo_zero (by omega))) (lo_zero (by omega))) (lo_zero (by omega))) (lo_zero (by omega))
    have b47 : B.2.2 47 2 = M.2.2 47 2 := by rw [← hB]; rfl
    have b109 : B.1 109 = fun _ => 0 := by rw [← hB]; rfl
    have b110 : B.1 110 = fun _ => 0 := by rw [← hB]; rfl
    generalize hE : zm_zero (zm_zero (zm_zero (zm_zero (zm_sP (zm_sP B 103 10 (B.2.2 47 2)) 1 11 103) 112) 113) 114) 115 = E
    have lE : lo B E := by
      rw [← hE]
      exact lo_tr (lo_tr (lo_tr (lo_tr (lo_tr (lo_sP (Or.inl (by omega))) (lo_sP (Or.inr ⟨rfl, Or.inl rfl⟩))) (lo_zero (by omega))) (lo_zero (by omega))) (lo_zero (by omega))) (lo_zero (by omega))
    have e11 : E.2.2 1 11 = 103 := by rw [← hE]; rfl
    have e109 : E.1 109 = fun _ => 0 := by rw [← hE]; exact b109
    have e110 : E.1 110 = fun _ => 0 := by rw [← hE]; exact b110
    have lF : lo M (zm_sI (zm_sP E 1 12 112) 1 13 0) := lo_tr lB (lo_tr lE (lo_tr (lo_sP (Or.inr ⟨rfl, Or.inr rfl⟩)) lo_sI))
    refine fin (zm_sI (zm_sP E 1 12 112) 1 13 0) 1 (by omega) (cx_lo lF hC) (rx_lo lF hX (by omega) ?_ ?_ (Or.inl ?_) ?_ ?_) ?_
    · show (zm_sP E 1 12 112).2.2 1 11 = 103
      exact e11
    · rfl
    · rw [mI1, if_pos ⟨rfl, rfl⟩]
    · rw [← e109]; funext j; rw [mI1, if_neg (by omega)]; rfl
    · rw [← e110]; funext j; rw [mI1, if_neg (by omega)]; rfl
    · unfold f_X10_makeSurvey f_X10_makeSurvey_c f_X6_init_103 f_X9_init_112
      rw [if_pos h2]
      simp only [zv_eq]
      rw [hB, b47, x11, zk_true, zb2_some, zb2_some, ← b47, hE]
  · refine fin M q h1 hC hX ?_
    unfold f_X10_makeSurvey
    rw [if_neg (by omega), if_neg (by omega)]
