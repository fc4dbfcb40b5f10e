/-! the class's ends -/
theorem c_endF {T : Nat → Nat} {n t j f : Nat} {M : zm_Mem} (h : CF M t (tkF T n) (tkE T n) j f) : f_X2_compile_b215 M = some (nI f, zm_sI M 8 6 (nI (tkF T n j).2.1)) := by
  unfold f_X2_compile_b215 f_X2_compile_b256
  simp only [zv_eq]
  rw [if_neg (cf_ne h), h.2.1, c_placeI h.1 h.2.2.2.2.2.2.1, zb1_some, mI1, if_neg (by omega), h.2.2.1]
theorem c_endN {M : zm_Mem} {r : Int32} {p : Int32} (h5 : M.1 8 5 = 0) (h7 : M.1 8 7 = r) (h8 : M.1 8 8 = p) : f_X2_compile_b215 M = some (r, zm_sI (zm_sI M 8 5 r) 8 6 p) := by
  unfold f_X2_compile_b215 f_X2_compile_b256
  simp only [zv_eq]
  rw [if_pos h5, h7, mI1 (zm_sI M 8 5 r) 8 6, if_neg (by omega), mI1, if_pos ⟨rfl, rfl⟩, mI1, if_neg (by omega), h8]
/-- all that can come of the statements -/
def E3 (T : Nat → Nat) (n : Nat) (M : zm_Mem) (t : Nat) (r : Nat) (pl : Int32) : Prop := (∃ j, CF M t (tkF T n) (tkE T n) j r ∧ pl = nI (tkF T n j).2.1) ∨ (M.1 8 5 = 0 ∧ ∃ c p, M.1 8 7 = nI c ∧ M.1 8 8 = nI (tkF T n p).2.1 ∧ (3 ≤ c ∧ c ≤ 5) ∧ r = c ∧ pl = nI (tkF T n p).2.1) ∨ (M.1 8 5 = 0 ∧ M.1 8 7 = 0 ∧ M.1 8 8 = -1 ∧ r = 0 ∧ pl = -1)
theorem e3_run {T : Nat → Nat} {n t r : Nat} {M : zm_Mem} {pl : Int32} (h : E3 T n M t r pl) : r ≤ 9 ∧ ∃ M', f_X2_compile_b215 M = some (nI r, M') ∧ M'.1 8 6 = pl ∧ Fp (fun x j => x = 8 ∧ (j = 5 ∨ j = 6)) M M' := by
  rcases h with ⟨j, h, rfl⟩ | ⟨h5, c, p, h7, h8, hc, rfl, rfl⟩ | ⟨h5, h7, h8, rfl, rfl⟩
  · exact ⟨h.2.2.2.1.2, _, c_endF h, by rw [mI1, if_pos ⟨rfl, rfl⟩], fp_sI ⟨rfl, Or.inr rfl⟩⟩
  · exact ⟨by omega, _, c_endN h5 h7 h8, by rw [mI1, if_pos ⟨rfl, rfl⟩], fp_tr (fp_sI ⟨rfl, Or.inl rfl⟩) (fp_sI ⟨rfl, Or.inr rfl⟩)⟩
  · exact ⟨by omega, _, c_endN h5 h7 h8, by rw [mI1, if_pos ⟨rfl, rfl⟩], fp_tr (fp_sI ⟨rfl, Or.inl rfl⟩) (fp_sI ⟨rfl, Or.inr rfl⟩)⟩
/-- the reference's, beside it -/
theorem e3_of {T : Nat → Nat} {n t v : Nat} {M N : zm_Mem} (h : (∃ f j, CF M t (tkF T n) (tkE T n) j f ∧ RF N (tkF T n) (tkE T n) j f) ∨ ∃ i' nt', JJ T n M N t v i' nt') : (∃ r pl, 1 ≤ r ∧ E3 T n M t r pl ∧ f_X11_read_b134 N = some (nI r, zm_sI N 52 17 pl)) ∨ (∃ i', JJ T n M N t v i' none ∧ E3 T n M t 0 (-1) ∧ f_X11_read_b134 N = f_X11_read_b164 N (-1) ∧ N.1 52 13 = 0 ∧ N.1 52 15 = 0) := by
  rcases h with ⟨f, j, a, b⟩ | ⟨i', nt', hJ⟩
  · refine Or.inl ⟨f, nI (tkF T n j).2.1, a.2.2.2.1.1, Or.inl ⟨j, a, rfl⟩, ?_⟩
    unfold f_X11_read_b134 f_X11_read_b164
    simp only [zv_eq]
    have e13 : ∀ w, (zm_sI N 52 17 w).1 52 13 = N.1 52 13 := fun w => by rw [mI1, if_neg (by omega)]
    rw [if_neg (rf_le b), b.2.2.2, e13, if_neg (rf_le b), b.2.1]
  · have hJ' := hJ
    obtain ⟨cl, k, nb, Q, en, hC, hR, hP⟩ := hJ
    obtain ⟨c1, c2, c3, c4⟩ := cz_r hC.1
    have hI := rl_I hR.1
    have hnR : nR T n N nt' i' := by
      rcases hR.1 with ⟨_, _, z, _⟩ | ⟨i'', nt'', z, a, b, c⟩
      · cases z
      · have e := Sum.inr.inj z
        have e1 : i' = i'' := congrArg Prod.fst e
        have e2 : nt' = nt'' := congrArg Prod.snd e
        rw [e1, e2]; exact c
    cases nt' with
    | none =>
      refine Or.inr ⟨i', hJ', Or.inr (Or.inr ⟨c1.2.2.1, (c4.1 rfl).1, (c4.1 rfl).2, rfl, rfl⟩), ?_, hI.1.2.2.1, hnR.1 rfl⟩
      unfold f_X11_read_b134
      rw [hI.1.2.2.1, if_pos (by decide), hnR.1 rfl, if_pos (by decide)]
    | some x =>
      obtain ⟨a1, a2, a3, a4⟩ := c4.2 x.1 x.2 rfl
      obtain ⟨b1, b2, b3, b4⟩ := hnR.2 x.1 x.2 rfl
      refine Or.inl ⟨x.1, nI (tkF T n x.2).2.1, by omega, Or.inr (Or.inl ⟨c1.2.2.1, x.1, x.2, a1, a2, a3, rfl, rfl⟩), ?_⟩
      have n0 : ¬ nI x.1 ≤ 0 := nI_nle (by omega) (by omega)
      have e13 : ∀ w, (zm_sI N 52 17 w).1 52 13 = 0 := fun w => by rw [mI1, if_neg (by omega)]; exact hI.1.2.2.1
      have e15 : ∀ w, (zm_sI N 52 17 w).1 52 15 = nI x.1 := fun w => by rw [mI1, if_neg (by omega)]; exact b1
      unfold f_X11_read_b134 f_X11_read_b164
      simp only [zv_eq]
      rw [hI.1.2.2.1, if_pos (by decide), b1, if_neg n0, b2, e13, if_pos (by decide), e15, if_neg n0]
theorem e3_eq {T : Nat → Nat} {n t r r' : Nat} {M : zm_Mem} {pl pl' : Int32} (h : E3 T n M t r pl) (h' : E3 T n M t r' pl') : r = r' ∧ pl = pl' := by
  obtain ⟨a1, M1, b1, c1, d1⟩ := e3_run h
  obtain ⟨a2, M2, b2, c2, d2⟩ := e3_run h'
  have e := Option.some.inj (b1.symm.trans b2)
  have e1 : nI r = nI r' := congrArg Prod.fst e
  have e2 : M1 = M2 := congrArg Prod.snd e
  exact ⟨(nI_eq (by omega) (by omega)).1 e1, by rw [← c1, ← c2, e2]⟩
/-- the class's reading, up to the first statement -/
theorem c_start {T : Nat → Nat} {n t t' : Nat} {M : zm_Mem} (hn : n ≤ 2000) (htt : (t = 25 ∧ t' = 36) ∨ (t = 36 ∧ t' = 25)) (hW : iv_words M) (h15 : M.1 1 15 = nI n) (hT : TpC M T n) (h10 : M.2.2 1 10 = t') : ∃ A, CL T n A t' 4 0 none Q0 ∧ (∀ M' r M28, zm_lp (fun s : Int32 × zm_Mem => f_X2_compile_l34 s.1 s.2) (0, A) = some M' → f_X2_compile_b215 M' = some (r, M28) → f_X10_read M = (if r = 0 then (zm_b2 (f_X10_takeUp (zm_sI M28 1 16 (M28.1 8 6))) fun _ M48 => some (r, M48)) else some (r, zm_sI M28 1 16 (M28.1 8 6)))) ∧ (∀ x j, ¬ ((8, 3) = (x, j)) → A.2.2 x j = M.2.2 x j) ∧ (∀ x j, ¬ (3 ≤ x ∧ x ≤ 6) → A.2.1 x j = M.2.1 x j) ∧ (∀ x j, ¬ (3 ≤ x ∧ x ≤ 6) → ¬ (x = 1 ∧ j = 15) → ¬ pF t' x j → A.1 x j = M.1 x j) ∧ A.1 1 15 = 0 := by
  have ht' : t' = 25 ∨ t' = 36 := by omega
  have hisT : zm_isT t' = true := by rcases ht' with rfl | rfl <;> rfl
  obtain ⟨M12, e1, f1, tk1⟩ := c_cut hT hW
  have T12 := c_tksT tk1
  have r12 : M12.2.2 = M.2.2 := f1.1
  generalize hM2 : zm_sP (zm_sI M12 1 15 0) 8 3 t' = M2
  have i2 : ∀ x j, ¬ (x = 1 ∧ j = 15) → M2.1 x j = M12.1 x j := fun x j a => by
    rw [← hM2]
    show (zm_sI M12 1 15 0).1 x j = _
    rw [mI1, if_neg a]
  have l2 : M2.2.1 = M12.2.1 := by rw [← hM2]; rfl
  have p2 : ∀ x j, M2.2.2 x j = if x = 8 ∧ j = 3 then t' else M12.2.2 x j := fun x j => by rw [← hM2]; rfl
  have fc := fr_cl M2 t'
  generalize hA : zm_sI (zm_sI (zm_sI (zm_sI (clM M2 t') 8 4 0) 8 5 0) 8 7 0) 8 8 (-1) = A
  have iA : ∀ x j, ¬ (x = 8 ∧ (j = 4 ∨ j = 5 ∨ j = 7 ∨ j = 8)) → A.1 x j = (clM M2 t').1 x j := fun x j a => by
    rw [← hA, mI1, if_neg (by omega), mI1, if_neg (by omega), mI1, if_neg (by omega), mI1, if_neg (by omega)]
  have lA : A.2 = M2.2 := by
    rw [← hA]
    show (clM M2 t').2 = _
    exact fc.1
  have w12 : ∀ x j, ¬ (3 ≤ x ∧ x ≤ 6) → M12.1 x j = M.1 x j ∧ M12.2.1 x j = M.2.1 x j := fun x j a => by
    have hw : wTk x j = false := by
      cases hh : wTk x j with
      | false => rfl
      | true =>
        exfalso
        unfold wTk at hh
        simp only [Bool.or_eq_true, Bool.and_eq_true, decide_eq_true_eq] at hh
        omega
    exact ⟨f1.2.1 x j hw, f1.2.2 x j hw⟩
  have cl12 : ∀ x j, x ≠ t' → x ≠ t' + 10 → (clM M2 t').1 x j = M2.1 x j := fun x j a b => fc.2 x j (wCl_f a b)
  refine ⟨A, ?_, fun M' r M28 hl hb => ?_, fun x j a => ?_, fun x j a => ?_, fun x j a b c => ?_, ?_⟩
  · refine c_firstT (M := M2) ht' ?_ (fun x j a b => iA x j (by omega)) ?_ ?_ ?_ ?_ ?_
    · refine tks_x (fun x j a b => ?_) (fun j => by rw [lA, l2]) T12
      rw [iA x j (by omega), cl12 x j (by omega) (by omega), i2 x j (by omega)]
    · rw [← hA, mI1, if_neg (by omega), mI1, if_neg (by omega), mI1, if_neg (by omega), mI1, if_pos ⟨rfl, rfl⟩]
    · rw [← hA, mI1, if_neg (by omega), mI1, if_neg (by omega), mI1, if_pos ⟨rfl, rfl⟩]
    · rw [← hA, mI1, if_neg (by omega), mI1, if_pos ⟨rfl, rfl⟩]
    · rw [← hA, mI1, if_pos ⟨rfl, rfl⟩]
    · rw [lA, p2, if_pos ⟨rfl, rfl⟩]
  · have q10 : (zm_sI M12 1 15 0).2.2 1 10 = t' := by
      show M12.2.2 1 10 = t'
      rw [r12]; exact h10
    have cmp : f_X2_compile t' (zm_sI M12 1 15 0) = some (r, M28) := by
      unfold f_X2_compile
      simp only [zv_eq]
      rw [hM2, show M2.2.2 8 3 = t' by rw [p2, if_pos ⟨rfl, rfl⟩], hisT, zk_true, c_clear, zb2_some, hA, hl]
      exact hb
    unfold f_X10_read f_X2_faultPlace
    simp only [zv_eq]
    rw [h15, e1, zb2_some, q10, hisT, zk_true, cmp, zb2_some, zb1_some]
  · rw [lA, p2, if_neg (fun z => a (by rw [z.1, z.2])), r12]
  · rw [lA, l2]; exact (w12 x j a).2
  · have n8 : ¬ (x = 8 ∧ (j = 4 ∨ j = 5 ∨ j = 7 ∨ j = 8)) := fun z => c (Or.inr ⟨z.1, by omega, by omega⟩)
    have nt : x ≠ t' ∧ x ≠ t' + 10 := ⟨fun z => c (Or.inl ⟨by omega, by omega⟩), fun z => c (Or.inl ⟨by omega, by omega⟩)⟩
    rw [iA x j n8, cl12 x j nt.1 nt.2, i2 x j b]; exact (w12 x j a).1
  · rw [iA 1 15 (by omega), cl12 1 15 (by omega) (by omega), ← hM2]
    show (zm_sI M12 1 15 0).1 1 15 = 0
    rw [mI1, if_pos ⟨rfl, rfl⟩]
