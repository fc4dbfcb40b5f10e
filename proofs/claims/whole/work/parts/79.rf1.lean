/-! what was told anew is taken up: class -/
theorem c_begin {M : zm_Mem} {t w : Nat} (ht : t = 25 ∨ t = 36) (hw : M.1 t 12 = nI w) (hw6 : w ≤ 6) : f_X4_begin t M = some ((), cpM (cpM M 12 0 47 (fun _ => 0)) 12 4 w (fun j => M.1 (t + 4) j)) := by
  have fe := fill_eq (M := M) (a := 12) (N := 47) (x := 0) rfl (by omega)
  have key : zm_lp (fun s => f_X4_begin_l10 t s.1 s.2) (0, cpM M 12 0 47 (fun _ => 0)) = some (cpM (cpM M 12 0 47 (fun _ => 0)) 12 4 w (fun j => M.1 (t + 4) j)) := by
    refine lp_cpy (cpM M 12 0 47 (fun _ => 0)) 12 4 w (fun j => M.1 (t + 4) j) (fun i hi => ?_) ?_
    · unfold f_X4_begin_l10
      rw [mC_ne (by omega), mC_ne (by omega), hw, if_neg (nI_ge hi (by omega)), zm_ck_t (zm_in_nI (by omega) (by omega)), show (4 : Int32) + nI i = nI (4 + i) from nI_add 4 i, zm_ck_t (zm_in_nI (by omega) (by omega)), nI_clamp (by omega), nI_clamp (by omega), mC_ne (by omega), mC_ne (by omega), nI_k1]
      simp only [zv_eq]
    · unfold f_X4_begin_l10
      rw [mC_ne (by omega), mC_ne (by omega), hw, if_pos (nI_le (Nat.le_refl _) (by omega))]
  unfold f_X4_begin
  rw [fe, zb2_some, key]; rfl
theorem c_takeUp {M : zm_Mem} {t t' w : Nat} (htt : (t = 25 ∧ t' = 36) ∨ (t = 36 ∧ t' = 25)) (h9 : M.2.2 1 9 = t) (h10 : M.2.2 1 10 = t') (hw : M.1 t' 12 = nI w) (hw6 : w ≤ 6) : ∃ M', f_X10_takeUp M = some ((), M') ∧ (∀ x j, x ≠ 12 → ¬ (x = 13 ∧ j = 2) → ¬ (x = 16 ∧ j = 7) → ¬ (x = 1 ∧ (j = 13 ∨ j = 14)) → M'.1 x j = M.1 x j) ∧ M'.2.1 = M.2.1 ∧ (∀ x j, M'.2.2 x j = if x = 1 ∧ j = 10 then t else if x = 1 ∧ j = 9 then t' else M.2.2 x j) ∧ (∀ j, j < 47 → M'.1 12 j = if 4 ≤ j ∧ j < 4 + w then M.1 (t' + 4) (j - 4) else 0) ∧ M'.1 13 2 = 0 ∧ M'.1 16 7 = 0 ∧ M'.1 1 14 = 0 ∧ M'.1 1 13 = 0 := by
  have hT : zm_isT t = true := by rcases htt with ⟨rfl, _⟩ | ⟨rfl, _⟩ <;> rfl
  have hT' : zm_isT t' = true := by rcases htt with ⟨_, rfl⟩ | ⟨_, rfl⟩ <;> rfl
  generalize hM15 : zm_sP (zm_sP M 1 9 t') 1 10 t = M15
  have i15 : ∀ x j, M15.1 x j = M.1 x j := fun x j => by rw [← hM15]; rfl
  have p15 : ∀ x j, M15.2.2 x j = if x = 1 ∧ j = 10 then t else if x = 1 ∧ j = 9 then t' else M.2.2 x j := fun x j => by rw [← hM15]; rfl
  have l15 : M15.2.1 = M.2.1 := by rw [← hM15]; rfl
  have b := c_begin (M := M15) (t := t') (w := w) (by omega) (by rw [i15]; exact hw) hw6
  generalize hB : cpM (cpM M15 12 0 47 (fun _ => 0)) 12 4 w (fun j => M15.1 (t' + 4) j) = B at b
  have iB : ∀ x j, x ≠ 12 → B.1 x j = M.1 x j := fun x j a => by rw [← hB, mC_ne a, mC_ne a, i15]
  have lB : B.2 = M15.2 := by rw [← hB, mC2, mC2]
  refine ⟨zm_sI (zm_sI (zm_sI (zm_sI B 13 2 0) 16 7 0) 1 14 0) 1 13 0, ?_, fun x j a c d e => ?_, ?_, fun x j => ?_, fun j hj => ?_, ?_, ?_, ?_, ?_⟩
  · unfold f_X10_takeUp f_X1_empty f_X0_empty
    simp only [zv_eq]
    rw [h9, hT, zk_true, h10, hT', zk_true, hM15, show M15.2.2 1 9 = t' by rw [p15, if_neg (by omega), if_pos ⟨rfl, rfl⟩], hT', zk_true, b, zb2_some, zb2_some, zb2_some]
  · rw [mI1, if_neg (by omega), mI1, if_neg (by omega), mI1, if_neg d, mI1, if_neg c]; exact iB x j a
  · show B.2.1 = _
    rw [lB]; exact l15
  · show B.2.2 x j = _
    rw [lB]; exact p15 x j
  · rw [mI1, if_neg (by omega), mI1, if_neg (by omega), mI1, if_neg (by omega), mI1, if_neg (by omega), ← hB, mC1]
    by_cases h : 4 ≤ j ∧ j < 4 + w
    · rw [if_pos ⟨rfl, h⟩, if_pos h, i15]
    · rw [if_neg (fun z => h z.2), if_neg h, mC_in hj]
  · rw [mI1, if_neg (by omega), mI1, if_neg (by omega), mI1, if_neg (by omega), mI1, if_pos ⟨rfl, rfl⟩]
  · rw [mI1, if_neg (by omega), mI1, if_neg (by omega), mI1, if_pos ⟨rfl, rfl⟩]
  · rw [mI1, if_neg (by omega), mI1, if_pos ⟨rfl, rfl⟩]
  · rw [mI1, if_pos ⟨rfl, rfl⟩]
/-- the reference's -/
theorem r_takeUp {N : zm_Mem} {v v' w : Nat} (hvv : v + v' = 1) (h13 : N.1 52 13 = 0) (h15 : N.1 52 15 = 0) (h19 : N.1 52 19 = nI v') (h66 : N.1 66 v' = nI w) (hw6 : w ≤ 6) : ∃ N', f_X11_read_b164 N (-1) = some (0, N') ∧ N'.2 = N.2 ∧ (∀ x j, ¬ (x = 52 ∧ (j = 17 ∨ j = 18 ∨ j = 58 ∨ j = 59 ∨ j = 65)) → x ≠ 91 → x ≠ 92 → x ≠ 101 → N'.1 x j = N.1 x j) ∧ N'.1 52 17 = -1 ∧ N'.1 52 18 = nI v' ∧ N'.1 52 59 = 0 ∧ N'.1 52 65 = 0 ∧ (∀ s, s < 3 → N'.1 101 s = 0) ∧ ∀ j, j < 60 → N'.1 91 j = if j < 6 then (if j < w then N.1 68 (6 * v' + j) else -2) else if j < 18 then -2 else 0 := by
  have hv' : v' ≤ 1 := by omega
  generalize hA : zm_sI (zm_sI N 52 17 (-1)) 52 18 (nI v') = A
  have iA : ∀ x j, ¬ (x = 52 ∧ (j = 17 ∨ j = 18)) → A.1 x j = N.1 x j := fun x j a => by rw [← hA, mI1, if_neg (by omega), mI1, if_neg (by omega)]
  have a18 : A.1 52 18 = nI v' := by rw [← hA, mI1, if_pos ⟨rfl, rfl⟩]
  obtain ⟨B, e1, f1, g1⟩ := r_begins (M := A) hv' hw6 a18 (by rw [iA 66 v' (by omega)]; exact h66)
  have iB : ∀ x j, x ≠ 92 → ¬ (x = 52 ∧ j = 58) → B.1 x j = A.1 x j := fun x j a b => f1.2 x j (by
    cases hh : wBg x j with
    | false => rfl
    | true =>
      exfalso
      unfold wBg at hh
      simp only [Bool.or_eq_true, Bool.and_eq_true, decide_eq_true_eq] at hh
      omega)
  generalize hC : zm_sI (zm_sI (cpM B 91 0 60 (B.1 92)) 52 59 0) 52 65 0 = C
  have iC : ∀ x j, ¬ (x = 52 ∧ (j = 59 ∨ j = 65)) → x ≠ 91 → C.1 x j = B.1 x j := fun x j a b => by rw [← hC, mI1, if_neg (by omega), mI1, if_neg (by omega), mC_ne b]
  have lC : C.2 = B.2 := by rw [← hC]; show (cpM B 91 0 60 (B.1 92)).2 = _; rw [mC2]
  have lp : zm_lp (fun s => f_X11_read_l219 s.1 s.2) (0, C) = some (cpM C 101 0 3 (fun _ => 0)) := by
    refine lp_cpy C 101 0 3 (fun _ => 0) (fun i hi => ?_) ?_
    · unfold f_X11_read_l219
      rw [if_neg (show ¬ (3 : Int32) ≤ nI i from nI_ge (b := 3) hi (by omega)), zm_ck_t (zm_in_nI (by omega) (by omega)), nI_clamp (by omega), nI_k1, Nat.zero_add, show vp_nar .boolean 0 = (0 : Int32) from rfl]
      simp only [zv_eq]
    · unfold f_X11_read_l219
      rw [if_pos (by decide)]
  have fin : ∀ x j, x ≠ 101 → (cpM C 101 0 3 (fun _ => 0)).1 x j = C.1 x j := fun x j a => mC_ne a
  refine ⟨cpM C 101 0 3 (fun _ => 0), ?_, ?_, fun x j a b c d => ?_, ?_, ?_, ?_, ?_, fun s hs => mC_in hs, fun j hj => ?_⟩
  · unfold f_X11_read_b164
    simp only [zv_eq]
    have x13 : (zm_sI N 52 17 (-1)).1 52 13 = 0 := by rw [mI1, if_neg (by omega)]; exact h13
    have x15 : (zm_sI N 52 17 (-1)).1 52 15 = 0 := by rw [mI1, if_neg (by omega)]; exact h15
    have x19 : (zm_sI N 52 17 (-1)).1 52 19 = nI v' := by rw [mI1, if_neg (by omega)]; exact h19
    rw [x13, if_pos (by decide), x15, if_pos (by decide), x19, hA, e1, zb2_some, r_keepsRow, zb2_some, hC, lp]; rfl
  · rw [mC2, lC, f1.1, ← hA]; rfl
  · rw [fin x j d, iC x j (by omega) b, iB x j c (by omega), iA x j (by omega)]
  · rw [fin 52 17 (by omega), iC 52 17 (by omega) (by omega), iB 52 17 (by omega) (by omega), ← hA, mI1, if_neg (by omega), mI1, if_pos ⟨rfl, rfl⟩]
  · rw [fin 52 18 (by omega), iC 52 18 (by omega) (by omega), iB 52 18 (by omega) (by omega)]; exact a18
  · rw [fin 52 59 (by omega), ← hC, mI1, if_neg (by omega), mI1, if_pos ⟨rfl, rfl⟩]
  · rw [fin 52 65 (by omega), ← hC, mI1, if_pos ⟨rfl, rfl⟩]
  · rw [fin 91 j (by omega), ← hC, mI1, if_neg (by omega), mI1, if_neg (by omega), mC_in hj, g1 j hj, iA 68 _ (by omega)]
