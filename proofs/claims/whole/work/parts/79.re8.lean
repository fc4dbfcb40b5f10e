/-! the reference's reading, up to the first statement -/
def pS0 (v x j : Nat) : Prop := (x = 52 ∧ (j = 2 ∨ j = 4 ∨ (10 ≤ j ∧ j ≤ 15) ∨ j = 19 ∨ j = 20 ∨ j = 42 ∨ j = 48)) ∨ (54 ≤ x ∧ x ≤ 58) ∨ ((x = 63 ∨ x = 66 ∨ x = 71 ∨ x = 76 ∨ x = 77 ∨ x = 78) ∧ j = v) ∨ ((x = 79 ∨ x = 80) ∧ 2 * v ≤ j ∧ j < 2 * v + 2)
theorem r_start {T : Nat → Nat} {n v v' : Nat} {K : zm_Mem} (hn : n ≤ 2000) (hvv : v + v' = 1) (hW : iv_words K) (h2 : K.1 52 2 = nI n) (hb : ∀ j, j < n → T j < 256 ∧ vp_nar .byte (K.1 53 j) &&& 255 = nI (T j)) (h18 : K.1 52 18 = nI v) : ∃ N, f_X11_read K = (zm_lp f_X11_read_l112 N).bind (fun e134 => f_X11_read_b134 e134) ∧ RLs T n N v' (420 * v') 0 0 none Q0 [] ∧ N.2.2 = K.2.2 ∧ (∀ x j, ¬ pS0 v' x j → N.1 x j = K.1 x j) ∧ (∀ x j, ¬ (52 ≤ x ∧ x ≤ 58) → N.2.1 x j = K.2.1 x j) ∧ N.1 52 2 = 0 := by
  have hv : v ≤ 1 := by omega
  have hv' : v' ≤ 1 := by omega
  -- the tape's copy
  have a4 : (zm_sI K 52 4 (nI n)).1 52 4 = nI n := by rw [mI1, if_pos ⟨rfl, rfl⟩]
  have cp := r_copyT hn a4
  generalize hK6 : cpM (zm_sI K 52 4 (nI n)) 54 0 n (fun j => vp_nar .byte ((zm_sI K 52 4 (nI n)).1 53 j)) = K6 at cp
  have k6 : ∀ x j, x ≠ 54 → ¬ (x = 52 ∧ j = 4) → K6.1 x j = K.1 x j := fun x j a b => by rw [← hK6, mC_ne a, mI1, if_neg b]
  have k6L : K6.2 = K.2 := by rw [← hK6, mC2]; rfl
  have TR : TpR (zm_sI K6 52 2 0) T n := by
    refine ⟨hn, ?_, fun j hj => ⟨(hb j hj).1, ?_⟩⟩
    · rw [mI1, if_neg (by omega), ← hK6, mC_ne (by omega)]; exact a4
    · rw [mI1, if_neg (by omega), ← hK6, mC_in hj, mI1, if_neg (by omega)]; exact (hb j hj).2
  have W7 : iv_words (zm_sI K6 52 2 0) := by
    intro j hj
    show K6.2.1 7 j = _ ∧ K6.2.1 59 j = _
    rw [k6L]; exact hW j hj
  obtain ⟨K8, e8, f8, t8⟩ := r_cut TR W7
  have R8 := r_tks t8
  have k8 : ∀ x j, ¬ (54 ≤ x ∧ x ≤ 58) → ¬ (x = 52 ∧ (j = 2 ∨ j = 4 ∨ j = 10)) → K8.1 x j = K.1 x j := fun x j a b => by
    rw [f8.2.1 x j (by
      unfold wTr
      rw [decide_eq_false (by omega), decide_eq_false (by omega), decide_eq_false (by omega), decide_eq_false (by omega), Bool.false_or, Bool.false_or, Bool.false_or, Bool.false_or, Bool.and_eq_false_iff]
      by_cases hx : x = 52
      · exact Or.inr (decide_eq_false (by omega))
      · exact Or.inl (decide_eq_false hx)), mI1, if_neg (by omega), k6 x j (by omega) (by omega)]
  have k82 : K8.1 52 2 = 0 := by rw [f8.2.1 52 2 rfl, mI1, if_pos ⟨rfl, rfl⟩]
  have c18 : K8.1 52 18 = nI v := by rw [k8 52 18 (by omega) (by omega)]; exact h18
  generalize hK9 : zm_sI (zm_sI (zm_sI (zm_sI (zm_sI (zm_sI K8 52 11 0) 52 12 0) 52 13 0) 52 15 0) 52 19 (nI v')) 52 20 0 = K9
  have k9 : ∀ x j, ¬ (x = 52 ∧ (j = 11 ∨ j = 12 ∨ j = 13 ∨ j = 15 ∨ j = 19 ∨ j = 20)) → K9.1 x j = K8.1 x j := fun x j a => by
    rw [← hK9, mI1, if_neg (by omega), mI1, if_neg (by omega), mI1, if_neg (by omega), mI1, if_neg (by omega), mI1, if_neg (by omega), mI1, if_neg (by omega)]
  have v19 : K9.1 52 19 = nI v' := by rw [← hK9, mI1, if_neg (by omega), mI1, if_pos ⟨rfl, rfl⟩]
  obtain ⟨Ka, ea, fa, pa⟩ := r_plain (M := K9) (v := v') hv'
  have ka : ∀ x j, ¬ ((x = 63 ∨ x = 66 ∨ x = 71 ∨ x = 76 ∨ x = 77 ∨ x = 78) ∧ j = v') → ¬ ((x = 79 ∨ x = 80) ∧ 2 * v' ≤ j ∧ j < 2 * v' + 2) → Ka.1 x j = K9.1 x j := fun x j a b => fa.2 x j (by
    cases hh : wPl v' x j with
    | false => rfl
    | true =>
      exfalso
      unfold wPl at hh
      simp only [Bool.or_eq_true, Bool.and_eq_true, decide_eq_true_eq] at hh
      rcases hh with ⟨c, d⟩ | ⟨c, d⟩
      · exact a ⟨by omega, d⟩
      · exact b ⟨c, by omega, by omega⟩)
  have va19 : Ka.1 52 19 = nI v' := by rw [ka 52 19 (by omega) (by omega)]; exact v19
  have m130 : (130 : Int32) * nI v' = nI (130 * v') := by rw [show (130 : Int32) = nI 130 from rfl, pk_mul]
  have m420 : (420 : Int32) * nI v' = nI (420 * v') := by rw [show (420 : Int32) = nI 420 from rfl, pk_mul]
  generalize hKb : zm_sI (zm_sI Ka 52 42 (nI (130 * v'))) 52 48 (nI (420 * v')) = Kb
  have kb : ∀ x j, ¬ (x = 52 ∧ (j = 42 ∨ j = 48)) → Kb.1 x j = Ka.1 x j := fun x j a => by rw [← hKb, mI1, if_neg (by omega), mI1, if_neg (by omega)]
  have b9 : ∀ j, j ≠ 42 → j ≠ 48 → Kb.1 52 j = K9.1 52 j := fun j a b => by rw [kb 52 j (by omega), ka 52 j (by omega) (by omega)]
  have L : Kb.2 = K8.2 := by
    rw [← hKb]
    show Ka.2 = _
    rw [fa.1, ← hK9]; rfl
  refine ⟨Kb, ?_, ?_, ?_, fun x j a => ?_, fun x j a => ?_, ?_⟩
  · unfold f_X11_read f_X11_read_x36_10
    simp only [zv_eq]
    rw [h2, cp, Option.bind_some, e8, zb2_some]
    have e18 : (zm_sI (zm_sI (zm_sI (zm_sI K8 52 11 0) 52 12 0) 52 13 0) 52 15 0).1 52 18 = nI v := by
      rw [mI1, if_neg (by omega), mI1, if_neg (by omega), mI1, if_neg (by omega), mI1, if_neg (by omega)]; exact c18
    have s1 : (1 : Int32) - nI v = nI v' := by
      rw [show (1 : Int32) = nI 1 from rfl, zi_sub hv, show 1 - v = v' by omega]
    have x42 : (zm_sI Ka 52 42 (nI (130 * v'))).1 52 19 = nI v' := by rw [mI1, if_neg (by omega)]; exact va19
    rw [e18, s1, hK9, v19, ea, zb2_some, va19, m130, x42, m420, hKb]
  · refine r_firstT hv' ?_ ?_ ?_ ?_ ?_ ?_ ?_ ?_ ?_ ?_
    · refine rks_x (fun x j h1 h2 => ?_) (fun j => by rw [L]) R8
      rw [kb x j (by omega), ka x j (by omega) (by omega), k9 x j (by omega)]
    · rw [b9 11 (by omega) (by omega), ← hK9, mI1, if_neg (by omega), mI1, if_neg (by omega), mI1, if_neg (by omega), mI1, if_neg (by omega), mI1, if_neg (by omega), mI1, if_pos ⟨rfl, rfl⟩]
    · rw [b9 12 (by omega) (by omega), ← hK9, mI1, if_neg (by omega), mI1, if_neg (by omega), mI1, if_neg (by omega), mI1, if_neg (by omega), mI1, if_pos ⟨rfl, rfl⟩]
    · rw [b9 13 (by omega) (by omega), ← hK9, mI1, if_neg (by omega), mI1, if_neg (by omega), mI1, if_neg (by omega), mI1, if_pos ⟨rfl, rfl⟩]
    · rw [b9 15 (by omega) (by omega), ← hK9, mI1, if_neg (by omega), mI1, if_neg (by omega), mI1, if_pos ⟨rfl, rfl⟩]
    · rw [b9 19 (by omega) (by omega)]; exact v19
    · rw [b9 20 (by omega) (by omega), ← hK9, mI1, if_pos ⟨rfl, rfl⟩]
    · rw [← hKb, mI1, if_neg (by omega), mI1, if_pos ⟨rfl, rfl⟩]
    · rw [← hKb, mI1, if_pos ⟨rfl, rfl⟩]
    · have kk : ∀ x j, x ≠ 52 → Kb.1 x j = Ka.1 x j := fun x j h => kb x j (by omega)
      obtain ⟨p1, p2, p3, p4, p5, p6, p7⟩ := pa
      exact ⟨by rw [kk _ _ (by omega)]; exact p1, by rw [kk _ _ (by omega)]; exact p2, by rw [kk _ _ (by omega)]; exact p3, by rw [kk _ _ (by omega)]; exact p4, by rw [kk _ _ (by omega)]; exact p5, by rw [kk _ _ (by omega)]; exact p6, fun i hi => by rw [kk _ _ (by omega), kk _ _ (by omega)]; exact p7 i hi⟩
  · rw [L, f8.1]
    show K6.2.2 = _
    rw [k6L]
  · unfold pS0 at a
    rw [kb x j (by omega), ka x j (by omega) (by omega), k9 x j (by omega), k8 x j (by omega) (by omega)]
  · rw [L, f8.2.2 x j (by
      cases hh : wTr x j with
      | false => rfl
      | true =>
        exfalso
        unfold wTr at hh
        simp only [Bool.or_eq_true, Bool.and_eq_true, decide_eq_true_eq] at hh
        omega)]
    show K6.2.1 x j = _
    rw [k6L]
  · rw [b9 2 (by omega) (by omega), k9 52 2 (by omega)]; exact k82
