/-! laws: class -/
def pE (t cl x j : Nat) : Prop := p8 x j ∨ (x = t ∧ j = 10) ∨ (x = t + 10 ∧ cl ≤ j)
theorem fp_8E {t cl : Nat} {M M' : zm_Mem} (h : Fp p8 M M') : Fp (pE t cl) M M' := fp_mono (fun x j z => Or.inl z) h
theorem fp_CE {t cl c : Nat} {M M' : zm_Mem} (h : Fp (pC t c) M M') (hc : cl ≤ c) : Fp (pE t cl) M M' := fp_mono (fun x j z => by unfold pC at z; unfold pE p8; omega) h
theorem fp_PE {t cl c : Nat} {M M' : zm_Mem} (h : Fp (pP t c) M M') (hc : cl ≤ c) : Fp (pE t cl) M M' := fp_mono (fun x j z => by unfold pP at z; unfold pE p8; omega) h
theorem fp_EE {t cl c : Nat} {M M' : zm_Mem} (h : Fp (pE t c) M M') (hc : cl ≤ c) : Fp (pE t cl) M M' := fp_mono (fun x j z => by unfold pE p8 at z ⊢; omega) h
theorem sc_E {M M' : zm_Mem} {t a cl : Nat} {c : zE} (ht : t = 25 ∨ t = 36) (h : iv_sc M t a c) (f : Fp (pE t cl) M M') (hk : a + c.length ≤ cl) : iv_sc M' t a c := sc_x h (fun j hj => f.2 (t + 10) j (by unfold pE p8; omega)) hk
def zBr (T : Nat → Nat) (n : Nat) (Z : zZ) : zZ := zTo (tkF T n) 266 0 noB (zSm (tkF T n) (zTo (tkF T n) 265 0 noB (zSm (tkF T n) (zTo (tkF T n) 60 0 noB (zSm (tkF T n) (zTo (tkF T n) 264 0 noB Z))))))
def brC (T : Nat → Nat) (n i : Nat) : zE × zE × zE := (cdX (tkF T n) (i + 1), cdX (tkF T n) (edX (tkF T n) (i + 1) + 1), cdX (tkF T n) (edX (tkF T n) (edX (tkF T n) (i + 1) + 1) + 1))
def nxB (T : Nat → Nat) (n i : Nat) : Nat := edX (tkF T n) (edX (tkF T n) (edX (tkF T n) (i + 1) + 1) + 1) + 1
def brL (x : zE × zE × zE) : Nat := x.1.length + x.2.1.length + x.2.2.length + 2
theorem cz_10 {T : Nat → Nat} {n t cl : Nat} {M : zm_Mem} {Z : zZ} (h : CZ T n M t cl Z) : ∃ c, c ≤ 408 ∧ M.1 t 10 = nI c ∧ ∀ i nt, Z = .inr (i, nt) → c = cl := by
  rcases h with ⟨f, j, rfl, h⟩ | ⟨i, nt, rfl, h, hi, hcl, hn⟩
  · obtain ⟨_, _, _, _, _, _, _, c, h1, h2⟩ := h
    exact ⟨c, h1, h2, fun i nt z => (by cases z)⟩
  · exact ⟨cl, hcl, h.2.2.2.2.2, fun _ _ _ => rfl⟩
theorem c_goalP {t g c : Nat} {M : zm_Mem} (hg : g ≤ 408) (hc : c ≤ 408) (h : M.1 t 10 = nI c) : f_X8_putGoal t (nI g) M = some ((), if c ≤ g then M else zm_sI M (t + 10) g (nI (6 * 16384 + c))) := by
  unfold f_X8_putGoal
  simp only [zv_eq]
  rw [if_neg (show ¬ nI g < (0 : Int32) from nI_pos (by omega)), h]
  by_cases hh : c ≤ g
  · rw [if_pos (nI_le hh (by omega)), if_pos hh]
  · have e : (98304 : Int32) ||| (nI c &&& 16383) = nI (6 * 16384 + c) := by
      rw [← put_v (a := 6) (b := c) (by omega) (by omega)]
      rw [show nI 6 <<< ((14 : Int32) &&& 31) = 98304 from by decide]
    rw [if_neg (nI_ge (by omega) (by omega)), zm_ck_t (zm_in_nI (by omega) (by omega)), nI_clamp (by omega), e, if_neg hh]
theorem c_branch {T : Nat → Nat} {n t cl l : Nat} {M : zm_Mem} {Z : zZ} (h : CZ T n M t cl Z) (hs : ∀ i nt, Z = .inr (i, nt) → (tkF T n i).1 = 264) (hc : ∀ i nt, Z = .inr (i, nt) → cl ≤ 4 + i) : ∃ M', f_X2_law_b52_20 (nI l) M = some (.inl (nI (l + 1), M')) ∧ Fp (pF t) M M' ∧ (∃ c, CZ T n M' t c (zBr T n Z)) ∧ ∀ j nt', zBr T n Z = .inr (j, nt') → ∃ i nt, Z = .inr (i, nt) ∧ j = nxB T n i ∧ CZ T n M' t (cl + brL (brC T n i)) (.inr (j, nt')) ∧ iv_sc M' t cl ((brC T n i).1 ++ ((brC T n i).2.1 ++ ((6, cl + brL (brC T n i)) :: ((brC T n i).2.2 ++ [(7, 0)])))) ∧ Fp (pE t cl) M M' ∧ cl + brL (brC T n i) ≤ 4 + j ∧ i < j ∧ (iv_ex (brC T n i).1 ∧ iv_ex (brC T n i).2.1 ∧ iv_ex (brC T n i).2.2) ∧ (nt' = none → nt = none) := by
  obtain ⟨ht, h83, hT⟩ := cz_t h
  obtain ⟨M1, e1, f1, z1⟩ := c_ztakeZ hs (by omega) h
  obtain ⟨M2, e2, f2, z2, v2⟩ := c_zsumZ z1 (fun i' n' hz => by
    obtain ⟨i0, n0, w0, _, _, rfl, _, _⟩ := zTo_inr hz
    have := hc i0 n0 w0; omega)
  -- the first sum's end
  have k2 : ∀ j n', zSm (tkF T n) (zTo (tkF T n) 264 0 noB Z) = .inr (j, n') → ∃ i nt, Z = .inr (i, nt) ∧ zTo (tkF T n) 264 0 noB Z = .inr (i + 1, n') ∧ j = edX (tkF T n) (i + 1) ∧ cl + (cdX (tkF T n) (i + 1)).length + 1 ≤ 4 + j ∧ j ≤ 400 ∧ i < j ∧ (n' = none → nt = none) := fun j n' hz => by
    obtain ⟨i', w', a1, _, _, a2, a3, a4, _⟩ := v2 j n' hz
    obtain ⟨i0, n0, w0, _, _, rfl, _, m0⟩ := zTo_inr w'
    have := hc i0 n0 w0
    exact ⟨i0, n0, w0, w', a1, by omega, a4, by omega, fun z => (m0 z).1⟩
  obtain ⟨M3, e3, f3, z3⟩ := c_zexp (s := 60) (by omega) (by omega) z2
  obtain ⟨M4, e4, f4, z4, v4⟩ := c_zsumZ z3 (fun i' n' hz => by
    obtain ⟨j1, n1, w1, _, _, rfl, _, _⟩ := zTo_inr hz
    obtain ⟨i0, n0, w0, w0', _, b1, _, _, _⟩ := k2 j1 n1 w1
    rw [w0']
    show cl + (cdX (tkF T n) (i0 + 1)).length ≤ _
    omega)
  have k4 : ∀ j n', zSm (tkF T n) (zTo (tkF T n) 60 0 noB (zSm (tkF T n) (zTo (tkF T n) 264 0 noB Z))) = .inr (j, n') → ∃ i nt j1 n1, Z = .inr (i, nt) ∧ zTo (tkF T n) 264 0 noB Z = .inr (i + 1, n1) ∧ zSm (tkF T n) (zTo (tkF T n) 264 0 noB Z) = .inr (j1, n1) ∧ zTo (tkF T n) 60 0 noB (zSm (tkF T n) (zTo (tkF T n) 264 0 noB Z)) = .inr (j1 + 1, n') ∧ j1 = edX (tkF T n) (i + 1) ∧ j = edX (tkF T n) (j1 + 1) ∧ cl + (cdX (tkF T n) (i + 1)).length + (cdX (tkF T n) (j1 + 1)).length + 2 ≤ 4 + j ∧ j ≤ 400 ∧ i < j ∧ (n' = none → nt = none) := fun j n' hz => by
    obtain ⟨i', w', a1, _, _, a2, a3, a4, _⟩ := v4 j n' hz
    obtain ⟨j1, n1, w1, _, _, rfl, _, m1⟩ := zTo_inr w'
    obtain ⟨i0, n0, w0, w0', b0, b1, b2, b3, b4⟩ := k2 j1 n1 w1
    exact ⟨i0, n0, j1, n1, w0, w0', w1, w', b0, a1, by omega, a4, by omega, fun z => b4 (m1 z).1⟩
  obtain ⟨g, hg, t4, g4⟩ := cz_10 z4
  obtain ⟨M5, e5, f5, z5, v5⟩ := c_zput (x := 6) (y := 0) (by omega) (by omega) z4 (fun j n' hz => by
    obtain ⟨i0, n0, j1, n1, w0, w0', w1, w', b0, a1, b1, b2, b3, _⟩ := k4 j n' hz
    rw [w', w0']
    show cl + (cdX (tkF T n) (i0 + 1)).length + (cdX (tkF T n) (j1 + 1)).length < 408
    omega)
  obtain ⟨M6, e6, f6, z6⟩ := c_zexp (s := 265) (by omega) (by omega) z5
  obtain ⟨M7, e7, f7, z7, v7⟩ := c_zsumZ z6 (fun i' n' hz => by
    obtain ⟨j2, n2, w2, _, _, rfl, _, _⟩ := zTo_inr hz
    obtain ⟨i0, n0, j1, n1, w0, w0', w1, w', b0, a1, b1, b2, b3, _⟩ := k4 j2 n2 w2
    rw [w', w0']
    show cl + (cdX (tkF T n) (i0 + 1)).length + (cdX (tkF T n) (j1 + 1)).length + 1 ≤ _
    omega)
  obtain ⟨M8, e8, f8, z8, v8⟩ := c_zput (x := 7) (y := 0) (by omega) (by omega) z7 (fun j n' hz => by
    obtain ⟨i', w6, a1', _, _, a2, a3, a4, _⟩ := v7 j n' hz
    obtain ⟨j2, n2, w2, _, _, rfl, _, _⟩ := zTo_inr w6
    obtain ⟨i0, n0, j1, n1, w0, w0', w1, w', b0, a1, b1, b2, b3, _⟩ := k4 j2 n2 w2
    rw [w6, w', w0']
    show cl + (cdX (tkF T n) (i0 + 1)).length + (cdX (tkF T n) (j1 + 1)).length + 1 + (cdX (tkF T n) (j2 + 1)).length < 408
    omega)
  obtain ⟨M9, e9, f9, z9⟩ := c_zexp (s := 266) (by omega) (by omega) z8
  obtain ⟨q, hq, t9, g9⟩ := cz_10 z9
  have ea := c_goalP (g := g) (c := q) hg hq t9
  refine ⟨if q ≤ g then M9 else zm_sI M9 (t + 10) g (nI (6 * 16384 + q)), ?_, ?_, ⟨cl + lenZ (tkF T n) (zTo (tkF T n) 264 0 noB Z) + lenZ (tkF T n) (zTo (tkF T n) 60 0 noB (zSm (tkF T n) (zTo (tkF T n) 264 0 noB Z))) + 1 + lenZ (tkF T n) (zTo (tkF T n) 265 0 noB (zSm (tkF T n) (zTo (tkF T n) 60 0 noB (zSm (tkF T n) (zTo (tkF T n) 264 0 noB Z))))) + 1, ?_⟩, fun j nt' hz => ?_⟩
  · unfold f_X2_law_b52_20
    simp only [zv_eq]
    have e3' : f_X2_expect 60 M2 = some ((), M3) := e3
    have e5' : f_X8_put t 6 0 M4 = some ((), M5) := e5
    have e6' : f_X2_expect 265 M5 = some ((), M6) := e6
    have e8' : f_X8_put t 7 0 M7 = some ((), M8) := e8
    have e9' : f_X2_expect 266 M8 = some ((), M9) := e9
    rw [e1, zb2_some, e2, zb2_some, e3', zb2_some, e4, zb2_some, (cz_t z4).2.1, hT, zk_true, zk_true, t4, e5', zb2_some, e6', zb2_some, e7, zb2_some, (cz_t z7).2.1, hT, zk_true, e8', zb2_some, e9', zb2_some, (cz_t z9).2.1, hT, zk_true, ea, zb2_some, nI_k1]
  · refine fp_tr (fp_8F f1) (fp_tr f2 (fp_tr (fp_8F f3) (fp_tr f4 (fp_tr f5 (fp_tr (fp_8F f6) (fp_tr f7 (fp_tr f8 (fp_tr (fp_8F f9) ?_))))))))
    split
    · exact fp_rfl _ _
    · exact fp_sI (by unfold pF; omega)
  · split
    · exact z9
    · exact cz_sI z9 (by omega) (by omega)
  · have hz0 := hz
    unfold zBr at hz
    obtain ⟨j3, n3, w3, _, _, rfl, _, m3⟩ := zTo_inr hz
    obtain ⟨i', w6, A1, G7, F7, A2, A3, A4, X7⟩ := v7 j3 n3 w3
    obtain ⟨j2, n2, w2, _, _, rfl, _, m2⟩ := zTo_inr w6
    obtain ⟨i0, n0, j1, n1, w0, w0', w1, w', b0, a1, b1, b2, b3, b4⟩ := k4 j2 n2 w2
    obtain ⟨i4, w4, A5, G4, F4, A6, A7, A8, X4⟩ := v4 j2 n2 w2
    have h4 : j1 + 1 = i4 := by rw [w'] at w4; exact congrArg Prod.fst (Sum.inr.inj w4)
    subst h4
    obtain ⟨i1, w1'', A9, G2, F2, B1, B2, B3, X2⟩ := v2 j1 n1 w1
    have h2 : i0 + 1 = i1 := by rw [w0'] at w1''; exact congrArg Prod.fst (Sum.inr.inj w1'')
    subst h2
    obtain ⟨G5, F5⟩ := v5 j2 n2 w2
    obtain ⟨G8, F8⟩ := v8 j3 n3 w3
    have L1 : lenZ (tkF T n) (zTo (tkF T n) 264 0 noB Z) = (cdX (tkF T n) (i0 + 1)).length := by rw [w0']; rfl
    have L2 : lenZ (tkF T n) (zTo (tkF T n) 60 0 noB (zSm (tkF T n) (zTo (tkF T n) 264 0 noB Z))) = (cdX (tkF T n) (j1 + 1)).length := by rw [w']; rfl
    have L3 : lenZ (tkF T n) (zTo (tkF T n) 265 0 noB (zSm (tkF T n) (zTo (tkF T n) 60 0 noB (zSm (tkF T n) (zTo (tkF T n) 264 0 noB Z))))) = (cdX (tkF T n) (j2 + 1)).length := by rw [w6]; rfl
    have g4' := g4 j2 n2 w2
    have g9' := g9 _ _ hz0
    rw [L1] at g4' g9' G4 F4 G5 F5 G7 F7 G8 F8 z9
    rw [L2] at g4' g9' G5 F5 G7 F7 G8 F8 z9
    rw [L3] at g9' G8 F8 z9
    have eB : brC T n i0 = (cdX (tkF T n) (i0 + 1), cdX (tkF T n) (j1 + 1), cdX (tkF T n) (j2 + 1)) := by unfold brC; rw [← b0, ← a1]
    have eL : brL (brC T n i0) = (cdX (tkF T n) (i0 + 1)).length + (cdX (tkF T n) (j1 + 1)).length + (cdX (tkF T n) (j2 + 1)).length + 2 := by rw [eB]; rfl
    have eN : j3 + 1 = nxB T n i0 := by unfold nxB; rw [← b0, ← a1, ← A1]
    have nle : ¬ q ≤ g := by omega
    have fin : Fp (pE t cl) M9 (zm_sI M9 (t + 10) g (nI (6 * 16384 + q))) := fp_sI (Or.inr (Or.inr ⟨rfl, by omega⟩))
    rw [if_neg nle]
    have FE1 : Fp (pE t cl) M M1 := fp_8E f1
    have FE2 : Fp (pE t cl) M1 M2 := fp_CE F2 (Nat.le_refl _)
    have FE4 : Fp (pE t (cl + (cdX (tkF T n) (i0 + 1)).length)) M2 M4 := fp_tr (fp_8E f3) (fp_CE F4 (Nat.le_refl _))
    have FE5 : Fp (pE t (cl + (cdX (tkF T n) (i0 + 1)).length + (cdX (tkF T n) (j1 + 1)).length)) M4 M5 := fp_PE F5 (Nat.le_refl _)
    have FE7 : Fp (pE t (cl + (cdX (tkF T n) (i0 + 1)).length + (cdX (tkF T n) (j1 + 1)).length + 1)) M5 M7 := fp_tr (fp_8E f6) (fp_CE F7 (Nat.le_refl _))
    have FE8 : Fp (pE t (cl + (cdX (tkF T n) (i0 + 1)).length + (cdX (tkF T n) (j1 + 1)).length + 1 + (cdX (tkF T n) (j2 + 1)).length)) M7 M8 := fp_PE F8 (Nat.le_refl _)
    have FE9 : Fp (pE t (cl + (cdX (tkF T n) (i0 + 1)).length + (cdX (tkF T n) (j1 + 1)).length + 1 + (cdX (tkF T n) (j2 + 1)).length + 1)) M8 M9 := fp_8E f9
    have FEa : Fp (pE t (cl + (cdX (tkF T n) (i0 + 1)).length + (cdX (tkF T n) (j1 + 1)).length)) M9 (zm_sI M9 (t + 10) g (nI (6 * 16384 + q))) := fp_sI (Or.inr (Or.inr ⟨rfl, by omega⟩))
    have zz : CZ T n M9 t (cl + brL (brC T n i0)) (.inr (j3 + 1, nt')) := by
      rw [show zTo (tkF T n) 266 0 noB (zSm (tkF T n) (zTo (tkF T n) 265 0 noB (zSm (tkF T n) (zTo (tkF T n) 60 0 noB (zSm (tkF T n) (zTo (tkF T n) 264 0 noB Z)))))) = .inr (j3 + 1, nt') from hz0] at z9
      rw [eL, show cl + ((cdX (tkF T n) (i0 + 1)).length + (cdX (tkF T n) (j1 + 1)).length + (cdX (tkF T n) (j2 + 1)).length + 2) = cl + (cdX (tkF T n) (i0 + 1)).length + (cdX (tkF T n) (j1 + 1)).length + 1 + (cdX (tkF T n) (j2 + 1)).length + 1 by omega]
      exact z9
    refine ⟨i0, n0, w0, eN, cz_sI zz (by omega) (by omega), ?_, ?_, by rw [eL]; omega, by omega, by rw [eB]; exact ⟨X2, X4, X7⟩, fun z => b4 (m2 (m3 z).1).1⟩
    · rw [eL, eB]
      show iv_sc _ t cl (cdX (tkF T n) (i0 + 1) ++ (cdX (tkF T n) (j1 + 1) ++ ([(6, cl + ((cdX (tkF T n) (i0 + 1)).length + (cdX (tkF T n) (j1 + 1)).length + (cdX (tkF T n) (j2 + 1)).length + 2))] ++ (cdX (tkF T n) (j2 + 1) ++ [(7, 0)]))))
      refine sc_app ?_ (sc_app ?_ (sc_app ?_ (sc_app ?_ ?_)))
      · exact sc_E ht (sc_E ht (sc_E ht (sc_E ht (sc_E ht (sc_E ht (sc_E ht G2 FE4 (Nat.le_refl _)) FE5 (by omega)) FE7 (by omega)) FE8 (by omega)) FE9 (by omega)) FEa (by omega)) (fp_rfl (pE t (cl + (cdX (tkF T n) (i0 + 1)).length)) _) (Nat.le_refl _)
      · exact sc_E ht (sc_E ht (sc_E ht (sc_E ht (sc_E ht G4 FE5 (Nat.le_refl _)) FE7 (by omega)) FE8 (by omega)) FE9 (by omega)) FEa (Nat.le_refl _)
      · intro k p hp
        cases k with
        | zero =>
          have hp' := Option.some.inj hp
          rw [← hp', mI1, if_pos ⟨rfl, by omega⟩]
          show nI (6 * 16384 + q) = nI (6 * 16384 + (cl + ((cdX (tkF T n) (i0 + 1)).length + (cdX (tkF T n) (j1 + 1)).length + (cdX (tkF T n) (j2 + 1)).length + 2)))
          exact congrArg nI (by omega)
        | succ k => cases hp
      · have G7' := sc_E ht (sc_E ht G7 FE8 (by omega)) FE9 (by omega)
        show iv_sc _ t (cl + (cdX (tkF T n) (i0 + 1)).length + (cdX (tkF T n) (j1 + 1)).length + 1) _
        intro k p hp
        rw [mI1, if_neg (by omega)]
        exact G7' k p hp
      · have G8' := sc_E ht G8 FE9 (Nat.le_refl _)
        show iv_sc _ t (cl + (cdX (tkF T n) (i0 + 1)).length + (cdX (tkF T n) (j1 + 1)).length + 1 + (cdX (tkF T n) (j2 + 1)).length) _
        intro k p hp
        rw [mI1, if_neg (by omega)]
        exact G8' k p hp
    · exact fp_tr FE1 (fp_tr FE2 (fp_tr (fp_EE FE4 (by omega)) (fp_tr (fp_EE FE5 (by omega)) (fp_tr (fp_EE FE7 (by omega)) (fp_tr (fp_EE FE8 (by omega)) (fp_tr (fp_EE FE9 (by omega)) fin))))))
