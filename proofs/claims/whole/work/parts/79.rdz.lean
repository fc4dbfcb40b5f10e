/-! laws: reference -/
def pY (v k b0 b1 x j : Nat) : Prop := ((x = 86 ∨ x = 87) ∧ k ≤ j ∧ j < 420 * v + 420) ∨ x = 88 ∨ (x = 52 ∧ ((11 ≤ j ∧ j ≤ 16) ∨ j = 42 ∨ j = 48 ∨ j = 52)) ∨ (81 ≤ x ∧ x ≤ 85 ∧ b0 ≤ j ∧ j < b1)
theorem fp_RY {v k k' b0 b1 : Nat} {M M' : zm_Mem} (h : Fp (pR k' (420 * v + 420)) M M') (hk : k ≤ k') : Fp (pY v k b0 b1) M M' := fp_mono (fun x j z => by
  rcases z with ⟨a, b, c⟩ | a | ⟨a, b⟩
  · exact Or.inl ⟨a, by omega, c⟩
  · exact Or.inr (Or.inl a)
  · exact Or.inr (Or.inr (Or.inl ⟨a, by omega⟩))) h
theorem fp_3Y {v k b0 b1 : Nat} {M M' : zm_Mem} (h : Fp (fun x j => x = 52 ∧ (j = 11 ∨ j = 13 ∨ j = 14)) M M') : Fp (pY v k b0 b1) M M' := fp_mono (fun x j z => Or.inr (Or.inr (Or.inl ⟨z.1, by omega⟩))) h
theorem fp_YY {v k k' b0 b1 c0 c1 : Nat} {M M' : zm_Mem} (h : Fp (pY v k' c0 c1) M M') (hk : k ≤ k') (h0 : b0 ≤ c0) (h1 : c1 ≤ b1) : Fp (pY v k b0 b1) M M' := fp_mono (fun x j z => by
  rcases z with ⟨a, b, c⟩ | a | a | ⟨a, b, c, d⟩
  · exact Or.inl ⟨a, by omega, c⟩
  · exact Or.inr (Or.inl a)
  · exact Or.inr (Or.inr (Or.inl a))
  · exact Or.inr (Or.inr (Or.inr ⟨a, b, by omega, by omega⟩))) h
theorem sI_Y {v k b0 b1 x b : Nat} {M : zm_Mem} {w : Int32} (hx : 81 ≤ x ∧ x ≤ 85) (h0 : b0 ≤ b) (h1 : b < b1) : Fp (pY v k b0 b1) M (zm_sI M x b w) := fp_sI (Or.inr (Or.inr (Or.inr ⟨hx.1, hx.2, h0, h1⟩)))
theorem r_zterm {T : Nat → Nat} {n v k bb : Nat} {N : zm_Mem} {Z : zZ} (hv : v ≤ 1) (h : RZ T n N Z) (hb : bb < 260) (h42 : N.1 52 42 = nI bb) (h48 : ∀ p, Z = .inr p → N.1 52 48 = nI k ∧ k ≤ 420 * v + p.1) : ∃ N', f_X11_term N = some ((), N') ∧ Fp (pY v k bb (bb + 1)) N N' ∧ (∀ y, y = 81 ∨ y = 82 ∨ y = 83 → N'.1 y bb = N.1 y bb) ∧ RZ T n N' (zSm (tkF T n) Z) ∧ N'.1 52 42 = nI (bb + 1) ∧ ∀ j nt', zSm (tkF T n) Z = .inr (j, nt') → ∃ i, Z = .inr (i, nt') ∧ N'.1 84 bb = nI k ∧ N'.1 85 bb = nI (k + (cdX (tkF T n) i).length) ∧ N'.1 52 48 = nI (k + (cdX (tkF T n) i).length) ∧ iv_sm N' k (cdX (tkF T n) i) ∧ j = edX (tkF T n) i ∧ (cdX (tkF T n) i).length + i ≤ j := by
  have z1 := rz_sI (x := 84) (j := bb) (v := N.1 52 48) h (by omega)
  generalize hN1 : zm_sI N 84 bb (N.1 52 48) = N1 at z1
  have a48 : N1.1 52 48 = N.1 52 48 := by rw [← hN1, mI1, if_neg (by omega)]
  have a42 : N1.1 52 42 = nI bb := by rw [← hN1, mI1, if_neg (by omega)]; exact h42
  obtain ⟨N2, e2, f2, z2, v2⟩ := r_zexpI (k := k) hv z1 (fun p hz => by rw [a48]; exact h48 p hz) f_X11_term_b24
  have b42 : N2.1 52 42 = nI bb := by rw [f2.2 52 42 (by unfold pR; omega)]; exact a42
  have z3 := rz_sI (x := 85) (j := bb) (v := N2.1 52 48) z2 (by omega)
  generalize hN3 : zm_sI N2 85 bb (N2.1 52 48) = N3 at z3
  have c42 : N3.1 52 42 = nI bb := by rw [← hN3, mI1, if_neg (by omega)]; exact b42
  have z4 := rz_sI (x := 52) (j := 42) (v := nI (bb + 1)) z3 (by omega)
  have nr : ∀ x j, 60 ≤ x → x ≠ 86 → x ≠ 87 → x ≠ 88 → ¬ pR k (420 * v + 420) x j := fun x j h1 h2 h3 h4 => by unfold pR; omega
  refine ⟨zm_sI N3 52 42 (nI (bb + 1)), ?_, ?_, fun y hy => ?_, z4, by rw [mI1, if_pos ⟨rfl, rfl⟩], fun j nt' hz => ?_⟩
  · unfold f_X11_term
    simp only [zv_eq]
    rw [h42, zm_ck_t (zm_in_nI (by omega) (by omega)), nI_clamp (by omega), hN1, e2]
    unfold f_X11_term_b24
    simp only [zv_eq]
    rw [b42, zm_ck_t (zm_in_nI (by omega) (by omega)), nI_clamp (by omega), hN3, c42, nI_k1]
  · rw [← hN1] at f2
    rw [← hN3]
    exact fp_tr (sI_Y (by omega) (by omega) (by omega)) (fp_tr (fp_RY f2 (Nat.le_refl _)) (fp_tr (sI_Y (by omega) (by omega) (by omega)) (fp_sI (Or.inr (Or.inr (Or.inl ⟨rfl, by omega⟩))))))
  · rw [mI1, if_neg (by omega), ← hN3, mI1, if_neg (by omega), f2.2 y bb (nr _ _ (by omega) (by omega) (by omega) (by omega)), ← hN1, mI1, if_neg (by omega)]
  · obtain ⟨i, w, A1, A2, A3, A4⟩ := v2 j nt' hz
    refine ⟨i, w, ?_, ?_, ?_, ?_, A3, A4⟩
    · rw [mI1, if_neg (by omega), ← hN3, mI1, if_neg (by omega), f2.2 84 bb (nr _ _ (by omega) (by omega) (by omega) (by omega)), ← hN1, mI1, if_pos ⟨rfl, rfl⟩]
      exact (h48 _ w).1
    · rw [mI1, if_neg (by omega), ← hN3, mI1, if_pos ⟨rfl, rfl⟩]; exact A1
    · rw [mI1, if_neg (by omega), ← hN3, mI1, if_neg (by omega)]; exact A1
    · exact sm_x (lo := 0) (k := k + (cdX (tkF T n) i).length) A2 (fun x j hx _ _ => by rw [mI1, if_neg (by omega), ← hN3, mI1, if_neg (by omega)]) (by omega) (Nat.le_refl _)
theorem sm_Y {v k2 b0 b1 a : Nat} {M M' : zm_Mem} {c : zE} (h : iv_sm M a c) (f : Fp (pY v k2 b0 b1) M M') (hk : a + c.length ≤ k2) : iv_sm M' a c := sm_fp h f (fun x j h1 h2 h3 z => by
  rcases z with ⟨a, b, c⟩ | a | ⟨a, b⟩ | ⟨a, b, c, d⟩ <;> omega)
theorem r_branch {T : Nat → Nat} {n v k bb l i : Nat} {N : zm_Mem} {nt : Option (Nat × Nat)} (hv : v ≤ 1) (h : RZ T n N (.inr (i, nt))) (hs : (tkF T n i).1 = 264) (hl : l < 4) (hb : bb < 260) (h42 : N.1 52 42 = nI bb) (h48 : N.1 52 48 = nI k) (hk0 : 420 * v ≤ k) (hk : k ≤ 420 * v + i) : ∃ N', f_X11_tellLaw_l12 (nI l) N = some (.inl (nI (l + 1), N')) ∧ Fp (pY v k bb (bb + 1)) N N' ∧ RZ T n N' (zBr T n (.inr (i, nt))) ∧ N'.1 52 42 = nI (bb + 1) ∧ ∀ j nt', zBr T n (.inr (i, nt)) = .inr (j, nt') → ∃ k', N'.1 52 48 = nI k' ∧ k ≤ k' ∧ k' ≤ 420 * v + j ∧ rbr N' v k' bb (brC T n i) ∧ j = nxB T n i ∧ i + 4 ≤ j := by
  have hI := rl_I h
  have he := hI.1.1.1
  have r0 := rs_0 _ cs_num (tkF_ok (T := T) (n := n) (i := i)).1
  have ok := okS_rs _ cs_num (tkF_ok (T := T) (n := n) (i := i)).1
  have is28 : f_X11_is 28 N = some 1 := by
    have := r_is hI.1.1 hI.1.2.1 hI.1.2.2.1 hI.2 (s := 28) (by omega) ok.1
    rw [if_pos (r0.2.1.2 hs)] at this
    exact this
  obtain ⟨N1, e1, f1, z1⟩ := r_zgo hs (by omega) h
  have a42 : N1.1 52 42 = nI bb := by rw [f1.2 52 42 (by omega)]; exact h42
  have a48 : N1.1 52 48 = nI k := by rw [f1.2 52 48 (by omega)]; exact h48
  have z2 := rz_sI (x := 81) (j := bb) (v := (1 : Int32)) z1 (by omega)
  have z3 := rz_sI (x := 82) (j := bb) (v := nI k) z2 (by omega)
  have b48 : (zm_sI N1 81 bb 1).1 52 48 = nI k := by rw [mI1, if_neg (by omega)]; exact a48
  have b42 : (zm_sI N1 81 bb 1).1 52 42 = nI bb := by rw [mI1, if_neg (by omega)]; exact a42
  generalize hN3 : zm_sI (zm_sI N1 81 bb 1) 82 bb (nI k) = N3 at z3
  have c48 : N3.1 52 48 = nI k := by rw [← hN3, mI1, if_neg (by omega)]; exact b48
  have c42 : N3.1 52 42 = nI bb := by rw [← hN3, mI1, if_neg (by omega)]; exact b42
  have i1 : ∀ q, zTo (tkF T n) 264 0 noB (.inr (i, nt)) = .inr q → q.1 = i + 1 := fun q hz => by
    obtain ⟨i0, n0, w0, _, _, a, _, _⟩ := zTo_inr (i := q.1) (nt := q.2) hz
    have t : i = i0 := congrArg Prod.fst (Sum.inr.inj w0)
    omega
  obtain ⟨N4, e4, f4, z4, v4⟩ := r_zexp (k := k) hv z3 (fun q hz => ⟨c48, by have := i1 q hz; omega⟩)
  have nr : ∀ x j k', 60 ≤ x → x ≠ 86 → x ≠ 87 → x ≠ 88 → ¬ pR k' (420 * v + 420) x j := fun x j k' h1 h2 h3 h4 => by unfold pR; omega
  have d42 : N4.1 52 42 = nI bb := by rw [f4.2 52 42 (by unfold pR; omega)]; exact c42
  have r13 := fun s h1 h2 => (rs_4 s h1 h2).2.2.1
  obtain ⟨N5, e5, f5, z5⟩ := r_zmust (rs := 13) (s := 60) (by omega) (by omega) r13 z4
  have g42 : N5.1 52 42 = nI bb := by rw [f5.2 52 42 (by omega)]; exact d42
  have z6 := rz_sI (x := 83) (j := bb) (v := N5.1 52 48) z5 (by omega)
  generalize hN6 : zm_sI N5 83 bb (N5.1 52 48) = N6 at z6
  have g48 : N6.1 52 48 = N4.1 52 48 := by rw [← hN6, mI1, if_neg (by omega), f5.2 52 48 (by omega)]
  have k4 : ∀ j n', zSm (tkF T n) (zTo (tkF T n) 264 0 noB (.inr (i, nt))) = .inr (j, n') → N4.1 52 48 = nI (k + (cdX (tkF T n) (i + 1)).length) ∧ iv_sm N4 k (cdX (tkF T n) (i + 1)) ∧ j = edX (tkF T n) (i + 1) ∧ (cdX (tkF T n) (i + 1)).length + (i + 1) ≤ j := fun j n' hz => by
    obtain ⟨i', w, A1, A2, A3, A4⟩ := v4 j n' hz
    have t : i' = i + 1 := i1 _ w
    subst t
    exact ⟨A1, A2, A3, A4⟩
  obtain ⟨N7, e7, f7, z7, v7⟩ := r_zexpI (k := k + (cdX (tkF T n) (i + 1)).length) hv z6 (fun q hz => by
    obtain ⟨j5, n5, w5, _, _, a5, _, _⟩ := zTo_inr (i := q.1) (nt := q.2) hz
    obtain ⟨A1, A2, A3, A4⟩ := k4 j5 n5 w5
    exact ⟨g48.trans A1, by omega⟩) (f_X11_tellLaw_b110_12 (nI (l + 1)))
  have h42' : N7.1 52 42 = nI bb := by rw [f7.2 52 42 (by unfold pR; omega), ← hN6, mI1, if_neg (by omega)]; exact g42
  have r29 := fun s h1 h2 => (rs_0 s h1 h2).2.2.1
  obtain ⟨N8, e8, f8, z8⟩ := r_zmust (rs := 29) (s := 265) (by omega) (by omega) r29 z7
  have i42 : N8.1 52 42 = nI bb := by rw [f8.2 52 42 (by omega)]; exact h42'
  have k7 : ∀ j n', zSm (tkF T n) (zTo (tkF T n) 60 0 noB (zSm (tkF T n) (zTo (tkF T n) 264 0 noB (.inr (i, nt))))) = .inr (j, n') → ∃ j1 n1, zSm (tkF T n) (zTo (tkF T n) 264 0 noB (.inr (i, nt))) = .inr (j1, n1) ∧ N7.1 52 48 = nI (k + (cdX (tkF T n) (i + 1)).length + (cdX (tkF T n) (j1 + 1)).length) ∧ iv_sm N7 (k + (cdX (tkF T n) (i + 1)).length) (cdX (tkF T n) (j1 + 1)) ∧ j1 = edX (tkF T n) (i + 1) ∧ j = edX (tkF T n) (j1 + 1) ∧ (cdX (tkF T n) (i + 1)).length + (i + 1) ≤ j1 ∧ (cdX (tkF T n) (j1 + 1)).length + (j1 + 1) ≤ j := fun j n' hz => by
    obtain ⟨i', w, A1, A2, A3, A4⟩ := v7 j n' hz
    obtain ⟨j1, n1, w1, _, _, a5, _, _⟩ := zTo_inr w
    subst a5
    obtain ⟨B1, B2, B3, B4⟩ := k4 j1 n1 w1
    exact ⟨j1, n1, w1, A1, A2, B3, A3, B4, A4⟩
  have K2 : ∃ k2, ∀ q, zTo (tkF T n) 265 0 noB (zSm (tkF T n) (zTo (tkF T n) 60 0 noB (zSm (tkF T n) (zTo (tkF T n) 264 0 noB (.inr (i, nt)))))) = .inr q → ∃ j1 n1 n2, q.1 = edX (tkF T n) (j1 + 1) + 1 ∧ zSm (tkF T n) (zTo (tkF T n) 264 0 noB (.inr (i, nt))) = .inr (j1, n1) ∧ zSm (tkF T n) (zTo (tkF T n) 60 0 noB (zSm (tkF T n) (zTo (tkF T n) 264 0 noB (.inr (i, nt))))) = .inr (edX (tkF T n) (j1 + 1), n2) ∧ k2 = k + (cdX (tkF T n) (i + 1)).length + (cdX (tkF T n) (j1 + 1)).length ∧ k2 ≤ 420 * v + q.1 ∧ i + 3 ≤ q.1 := by
    refine ⟨k + (cdX (tkF T n) (i + 1)).length + (cdX (tkF T n) (edX (tkF T n) (i + 1) + 1)).length, fun q hz => ?_⟩
    obtain ⟨j5, n5, w5, _, _, a5, _, _⟩ := zTo_inr (i := q.1) (nt := q.2) hz
    obtain ⟨j1, n1, w1, A1, A2, A3, A4, A5, A6⟩ := k7 j5 n5 w5
    refine ⟨j1, n1, n5, by rw [a5, A4], w1, by rw [← A4]; exact w5, by rw [A3], ?_, by omega⟩
    rw [← A3]; omega
  obtain ⟨k2, hk2⟩ := K2
  have kk2 : ∀ q, zTo (tkF T n) 265 0 noB (zSm (tkF T n) (zTo (tkF T n) 60 0 noB (zSm (tkF T n) (zTo (tkF T n) 264 0 noB (.inr (i, nt)))))) = .inr q → N8.1 52 48 = nI k2 ∧ k2 ≤ 420 * v + q.1 := fun q hz => by
    obtain ⟨j1, n1, n2, B1, B2, B3, B4, B5, B6⟩ := hk2 q hz
    obtain ⟨j1', n1', w1', A1, A2, A3, A4, A5, A6⟩ := k7 _ _ B3
    have t : j1 = j1' := congrArg Prod.fst (Sum.inr.inj (B2.symm.trans w1'))
    subst t
    refine ⟨?_, B5⟩
    rw [f8.2 52 48 (by omega), A1, B4]
  obtain ⟨Nc, ec, fc, yc, zc, c42', vc⟩ := r_zterm (k := k2) hv z8 hb i42 kk2
  have r30 := fun s h1 h2 => (rs_0 s h1 h2).2.2.2
  obtain ⟨Nd, ed, fd, zd⟩ := r_zmust (rs := 30) (s := 266) (by omega) (by omega) r30 zc
  have e5' : f_X11_must 13 N4 = some ((), N5) := e5
  have e8' : f_X11_must 29 N7 = some ((), N8) := e8
  have ed' : f_X11_must 30 Nc = some ((), Nd) := ed
  refine ⟨Nd, ?_, ?_, zd, by rw [fd.2 52 42 (by omega)]; exact c42', fun j nt' hz => ?_⟩
  · have S1 : f_X11_tellLaw_l12 (nI l) N = f_X11_tellLaw_b110_12 (nI (l + 1)) N7 := by
      rw [← e7]
      unfold f_X11_tellLaw_l12 f_X11_tellLaw_b38_12
      simp only [zv_eq]
      rw [hI.1.2.2.1, if_pos rfl, is28, zb1_some, if_neg (by decide), if_neg (show ¬ nI l = (4 : Int32) from fun z => by have := (nI_eq (a := l) (b := 4) (by omega) (by omega)).1 z; omega), if_pos (by decide), e1, zb2_some, a42, zm_ck_t (zm_in_nI (by omega) (by omega)), nI_clamp (by omega), show vp_nar .boolean 1 = (1 : Int32) from rfl, b42, zm_ck_t (zm_in_nI (by omega) (by omega)), nI_clamp (by omega), b48, hN3, e4, zb2_some, e5', zb2_some, g42, zm_ck_t (zm_in_nI (by omega) (by omega)), nI_clamp (by omega), hN6, nI_k1]
    rw [S1]
    unfold f_X11_tellLaw_b110_12
    rw [e8', zb2_some, ec, zb2_some, ed', zb2_some]
  · have F1 : Fp (pY v k bb (bb + 1)) N N8 := by
      rw [← hN3] at f4
      rw [← hN6] at f7
      exact fp_tr (fp_3Y f1) (fp_tr (sI_Y (by omega) (by omega) (by omega)) (fp_tr (sI_Y (by omega) (by omega) (by omega)) (fp_tr (fp_RY f4 (Nat.le_refl _)) (fp_tr (fp_3Y f5) (fp_tr (sI_Y (by omega) (by omega) (by omega)) (fp_tr (fp_RY f7 (by omega)) (fp_3Y f8)))))))
    refine fp_tr F1 (fp_tr ?_ (fp_3Y fd))
    cases hq : zTo (tkF T n) 265 0 noB (zSm (tkF T n) (zTo (tkF T n) 60 0 noB (zSm (tkF T n) (zTo (tkF T n) 264 0 noB (.inr (i, nt)))))) with
    | inr q =>
      obtain ⟨j1, n1, n2, B1, B2, B3, B4, B5, B6⟩ := hk2 q hq
      exact fp_YY fc (by omega) (Nat.le_refl _) (Nat.le_refl _)
    | inl q =>
      -- in a fault no code is put
      obtain ⟨Nc', ec', fc', _⟩ := r_zterm (k := k) hv z8 hb i42 (fun p hp => by rw [hq] at hp; cases hp)
      have : Nc' = Nc := by
        have := ec'.symm.trans ec
        exact congrArg Prod.snd (Option.some.inj this)
      rw [← this]; exact fc'
  · have hz0 := hz
    unfold zBr at hz
    obtain ⟨j3, n3, w3, _, _, rfl, _, m3⟩ := zTo_inr hz
    obtain ⟨i', w6, A1, A2, A3, A4, A5, A6⟩ := vc j3 n3 w3
    obtain ⟨j1, n1, n2, B1, B2, B3, B4, B5, B6⟩ := hk2 _ w6
    have B1' : i' = edX (tkF T n) (j1 + 1) + 1 := B1
    have B5' : k2 ≤ 420 * v + i' := B5
    have B6' : i + 3 ≤ i' := B6
    obtain ⟨j1', n1', w1', C1, C2, C3, C4, C5, C6⟩ := k7 _ _ B3
    have t : j1 = j1' := congrArg Prod.fst (Sum.inr.inj (B2.symm.trans w1'))
    subst t
    obtain ⟨D1, D2, D3, D4⟩ := k4 _ _ B2
    have eB : brC T n i = (cdX (tkF T n) (i + 1), cdX (tkF T n) (j1 + 1), cdX (tkF T n) i') := by unfold brC; rw [← C3, ← B1']
    have eN : j3 + 1 = nxB T n i := by unfold nxB; rw [← C3, ← B1', ← A5]
    refine ⟨k2 + (cdX (tkF T n) i').length, by rw [fd.2 52 48 (by omega)]; exact A3, by omega, by omega, ?_, eN, by omega⟩
    rw [eB]
    have x81 : ∀ y, y = 81 ∨ y = 82 → Nd.1 y bb = N3.1 y bb := fun y hy => by
      rw [fd.2 y bb (by omega), yc y (by omega), f8.2 y bb (by omega), f7.2 y bb (nr _ _ _ (by omega) (by omega) (by omega) (by omega)), ← hN6, mI1, if_neg (by omega), f5.2 y bb (by omega), f4.2 y bb (nr _ _ _ (by omega) (by omega) (by omega) (by omega))]
    refine ⟨k, ?_, ?_, ?_, ?_, ?_, ?_, ?_, ?_, hk0, by show k + (cdX (tkF T n) (i + 1)).length + (cdX (tkF T n) (j1 + 1)).length + (cdX (tkF T n) i').length ≤ _; omega⟩
    · rw [x81 81 (Or.inl rfl), ← hN3, mI1, if_neg (by omega), mI1, if_pos ⟨rfl, rfl⟩]
    · rw [x81 82 (Or.inr rfl), ← hN3, mI1, if_pos ⟨rfl, rfl⟩]
    · rw [fd.2 83 bb (by omega), yc 83 (by omega), f8.2 83 bb (by omega), f7.2 83 bb (nr _ _ _ (by omega) (by omega) (by omega) (by omega)), ← hN6, mI1, if_pos ⟨rfl, rfl⟩, f5.2 52 48 (by omega)]; exact D1
    · show Nd.1 84 bb = nI (k + (cdX (tkF T n) (i + 1)).length + (cdX (tkF T n) (j1 + 1)).length)
      rw [fd.2 84 bb (by omega), A1, B4]
    · show Nd.1 85 bb = nI (k + (cdX (tkF T n) (i + 1)).length + (cdX (tkF T n) (j1 + 1)).length + (cdX (tkF T n) i').length)
      rw [fd.2 85 bb (by omega), A2, B4]
    · have s5 : iv_sm N6 k (cdX (tkF T n) (i + 1)) := sm_x (lo := 0) (k := k + (cdX (tkF T n) (i + 1)).length) D2 (fun x j hx _ _ => by rw [← hN6, mI1, if_neg (by omega), f5.2 x j (by omega)]) (by omega) (Nat.le_refl _)
      have s7 : iv_sm N8 k (cdX (tkF T n) (i + 1)) := sm_x (lo := 0) (k := k + (cdX (tkF T n) (i + 1)).length) (sm_fpK s5 f7 (Nat.le_refl _)) (fun x j hx _ _ => f8.2 x j (by omega)) (by omega) (Nat.le_refl _)
      have s8 : iv_sm Nc k (cdX (tkF T n) (i + 1)) := sm_Y s7 fc (by omega)
      exact sm_x (lo := 0) (k := k + (cdX (tkF T n) (i + 1)).length) s8 (fun x j hx _ _ => fd.2 x j (by omega)) (by omega) (Nat.le_refl _)
    · have s7 : iv_sm N8 (k + (cdX (tkF T n) (i + 1)).length) (cdX (tkF T n) (j1 + 1)) := sm_x (lo := 0) (k := k + (cdX (tkF T n) (i + 1)).length + (cdX (tkF T n) (j1 + 1)).length) C2 (fun x j hx _ _ => f8.2 x j (by omega)) (by omega) (Nat.le_refl _)
      have s8 : iv_sm Nc (k + (cdX (tkF T n) (i + 1)).length) (cdX (tkF T n) (j1 + 1)) := sm_Y s7 fc (by omega)
      exact sm_x (lo := 0) (k := k + (cdX (tkF T n) (i + 1)).length + (cdX (tkF T n) (j1 + 1)).length) s8 (fun x j hx _ _ => fd.2 x j (by omega)) (by omega) (Nat.le_refl _)
    · show iv_sm Nd (k + (cdX (tkF T n) (i + 1)).length + (cdX (tkF T n) (j1 + 1)).length) (cdX (tkF T n) i')
      rw [← B4]
      exact sm_x (lo := 0) (k := k2 + (cdX (tkF T n) i').length) A4 (fun x j hx _ _ => fd.2 x j (by omega)) (by omega) (Nat.le_refl _)
