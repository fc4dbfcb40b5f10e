theorem rsF_23 : rsF 259 = 23 ∧ rsF 260 = 24 := by decide
theorem r_lawS {T : Nat → Nat} {n v k nb i s a1 : Nat} {N : zm_Mem} {nt : Option (Nat × Nat)} {Q : zQ} {en : List (Nat × Nat × List Nat)} (h : RLs T n N v k nb i nt Q en) (hs : (tkF T n i).1 = s) (hm : (s = 259 ∧ a1 = 0) ∨ (s = 260 ∧ a1 = 1)) : ∃ N', f_X11_tellOne N = some ((), N') ∧ Fv2 v N N' ∧ RZ T n N' (zLa T n s (.inr (i, nt))) ∧ ∀ i' nt', zLa T n s (.inr (i, nt)) = .inr (i', nt') → ∃ k' nb', RLs T n N' v k' nb' i' nt' (qLa T n Q (14 + a1) i) en := by
  obtain ⟨hZ, ⟨h19, hv⟩, ⟨h48, k1, k2⟩, ⟨h42, hb⟩, ⟨h63, b63⟩, ⟨h66, b66⟩, ⟨h71, b71⟩, hE, hQ, hel, hD⟩ := h
  have hI := rl_I hZ
  have he := hI.1.1.1
  have ha1 : a1 ≤ 1 := by omega
  have x9 : N.1 55 i = nI (23 + a1) := by
    rw [(hI.1.1.2 i hI.2).1, hs]
    rcases hm with ⟨rfl, rfl⟩ | ⟨rfl, rfl⟩ <;> rfl
  obtain ⟨N1, e1, f1, z1⟩ := r_zgo hs (by omega) hZ
  have U : f_X11_tellOne N = zm_b2 (f_X11_tellLaw (nI a1) N1) fun _ M276 => some ((), M276) := by
    have b262 : f_X11_tellOne_b262 (nI a1) N = zm_b2 (f_X11_tellLaw (nI a1) N1) fun _ M276 => some ((), M276) := by
      unfold f_X11_tellOne_b262
      rw [hI.1.2.2.1, if_pos (by decide), e1, zb2_some]
    have b226 : f_X11_tellOne_b226 N = f_X11_tellOne_b262 (nI a1) N := by
      unfold f_X11_tellOne_b226
      simp only [zv_eq]
      rw [hI.1.2.1, zm_ck_t (zm_in_nI (by omega) (by omega)), zm_ck_t (zm_in_nI (by omega) (by omega)), nI_clamp (by omega), x9]
      rcases hm with ⟨rfl, rfl⟩ | ⟨rfl, rfl⟩ <;> rfl
    rw [← b262, ← b226]
    unfold f_X11_tellOne
    simp only [zv_eq]
    rw [hI.1.2.1, zm_ck_t (zm_in_nI (by omega) (by omega)), nI_clamp (by omega), x9]
    rcases hm with ⟨rfl, rfl⟩ | ⟨rfl, rfl⟩
    · rw [if_neg (by decide), if_neg (by decide), if_neg (by decide), if_pos (by decide)]
    · rw [if_neg (by decide), if_neg (by decide), if_neg (by decide), if_neg (by decide), if_pos (by decide)]
  have r5 := fun s h1 h2 => (rs_4 s h1 h2).2.1
  obtain ⟨N2, e2, f2, z2⟩ := r_zmust (rs := 5) (s := 61) (by omega) (by omega) r5 z1
  have e2' : f_X11_must 5 N1 = some ((), N2) := e2
  have a42 : N2.1 52 42 = nI (130 * v + nb) := by rw [f2.2 52 42 (by omega), f1.2 52 42 (by omega)]; exact h42
  have a48 : N2.1 52 48 = nI k := by rw [f2.2 52 48 (by omega), f1.2 52 48 (by omega)]; exact h48
  have i2 : ∀ q, zTo (tkF T n) 61 0 noB (zTo (tkF T n) s 0 noB (.inr (i, nt))) = .inr q → q.1 = i + 2 ∧ (q.2 = none → nt = none) := fun q hz => by
    obtain ⟨i1, n1, w1, _, _, a, _, m1⟩ := zTo_inr (i := q.1) (nt := q.2) hz
    obtain ⟨i0, n0, w0, _, _, b, _, m0⟩ := zTo_inr w1
    have t : i = i0 := congrArg Prod.fst (Sum.inr.inj w0)
    have t2 : nt = n0 := congrArg Prod.snd (Sum.inr.inj w0)
    rw [t2]
    exact ⟨by omega, fun z => (m0 (m1 z).1).1⟩
  obtain ⟨E, N3, e3, z3, f3, r3⟩ := r_lawsR hv 4 0 N2 _ (130 * v + nb) k rfl z2 (by omega) a42 k1 (fun q hz => ⟨a48, by have := (i2 q hz).1; omega⟩)
  have e3' : zm_lp (fun s : Int32 × zm_Mem => f_X11_tellLaw_l12 s.1 s.2) (0, N2) = some E := e3
  have FV3 : Fv2 v N N3 := fv_tr (fv_3 f1) (fv_tr (fv_3 f2) (fv_Y k1 (by omega) (by omega) f3))
  have V : f_X11_tellLaw (nI a1) N1 = (Sum.elim (fun e45 => some ((), e45)) (fun e129 => f_X11_tellLaw_b129 (nI a1) (nI (130 * v + nb)) e129)) E := by
    unfold f_X11_tellLaw
    simp only [zv_eq]
    rw [e2', zb2_some, a42, e3']; rfl
  rcases r3 with ⟨rfl, f, hf⟩ | ⟨rfl, bb', c1, c2, c3, r3⟩
  · rw [hf] at z3
    have ez : zLa T n s (.inr (i, nt)) = .inl f := by unfold zLa; rw [hf]; rfl
    rw [ez]
    refine ⟨N3, ?_, FV3, z3, fun i' nt' z => by cases z⟩
    rw [U, V]; rfl
  · have z4 := rz_sI (x := 81) (j := bb') (v := (0 : Int32)) z3 (by omega)
    generalize hN4 : zm_sI N3 81 bb' 0 = N4 at z4
    have b42 : N4.1 52 42 = nI bb' := by rw [← hN4, mI1, if_neg (by omega)]; exact c1
    have b48 : N4.1 52 48 = N3.1 52 48 := by rw [← hN4, mI1, if_neg (by omega)]
    have K : ∃ k3, k ≤ k3 ∧ ∀ q, zLo T n 4 (zTo (tkF T n) 61 0 noB (zTo (tkF T n) s 0 noB (.inr (i, nt)))) = .inr q → N4.1 52 48 = nI k3 ∧ k3 ≤ 420 * v + q.1 ∧ bb' = 130 * v + nb + (bsL T n 4 (i + 2)).length ∧ i + 2 + 4 * (bsL T n 4 (i + 2)).length ≤ q.1 ∧ q.1 = edL T n 4 (i + 2) ∧ (∀ y x, (bsL T n 4 (i + 2))[y]? = some x → rbr N3 v k3 (130 * v + nb + y) x) ∧ (q.2 = none → nt = none) := by
      cases hq : zLo T n 4 (zTo (tkF T n) 61 0 noB (zTo (tkF T n) s 0 noB (.inr (i, nt)))) with
      | inl f => exact ⟨k, Nat.le_refl _, fun q z => by cases z⟩
      | inr q =>
        obtain ⟨i1, n1, k', w1, d1, d2, d3, d4, d5, d6, d7⟩ := r3 q.1 q.2 hq
        obtain ⟨t1, t2⟩ := i2 _ w1
        have t1' : i1 = i + 2 := t1
        subst t1'
        refine ⟨k', d3, fun q' z => ?_⟩
        rw [← show q = q' from Sum.inr.inj z]
        refine ⟨b48.trans d2, d4, d1, d5, d6, d7, fun hn => ?_⟩
        -- the note stays as it was
        exact t2 (by
          have key : ∀ m Z j n', zLo T n m Z = .inr (j, n') → n' = none → ∃ i' n'', Z = .inr (i', n'') ∧ n'' = none := by
            intro m
            induction m with
            | zero =>
              intro Z j n' hz hn'
              cases Z with
              | inl f => cases hz
              | inr p =>
                have hz' : (if (tkF T n p.1).1 = 264 then (.inl (2, p.1) : zZ) else .inr p) = .inr (j, n') := hz
                split at hz'
                · cases hz'
                · have := Sum.inr.inj hz'
                  exact ⟨p.1, p.2, rfl, by rw [this]; exact hn'⟩
            | succ m ihm =>
              intro Z j n' hz hn'
              cases Z with
              | inl f => cases hz
              | inr p =>
                have hz' : (if (tkF T n p.1).1 = 264 then zLo T n m (zBr T n (.inr p)) else .inr p) = .inr (j, n') := hz
                split at hz'
                · obtain ⟨ii, nn, hb1, hb2⟩ := ihm _ j n' hz' hn'
                  unfold zBr at hb1
                  obtain ⟨j3, n3, w3, _, _, _, _, m3⟩ := zTo_inr hb1
                  obtain ⟨j3', w3', _⟩ := zSm_inr w3
                  obtain ⟨j2, n2, w2, _, _, _, _, m2⟩ := zTo_inr w3'
                  obtain ⟨j2', w2', _⟩ := zSm_inr w2
                  obtain ⟨j1, n1, w1, _, _, _, _, m1⟩ := zTo_inr w2'
                  obtain ⟨j1', w1', _⟩ := zSm_inr w1
                  obtain ⟨j0, n0, w0, _, _, _, _, m0⟩ := zTo_inr w1'
                  exact ⟨j0, n0, w0, (m0 (m1 (m2 (m3 hb2).1).1).1).1⟩
                · have := Sum.inr.inj hz'
                  exact ⟨p.1, p.2, rfl, by rw [this]; exact hn'⟩
          obtain ⟨i', n'', q1, q2⟩ := key 4 _ q.1 q.2 hq hn
          rw [w1] at q1
          rw [show n1 = n'' from congrArg Prod.snd (Sum.inr.inj q1)]; exact q2)
    obtain ⟨k3, hk3, hK⟩ := K
    obtain ⟨N5, e5, f5, y5, z5, c42, v5⟩ := r_zterm (k := k3) hv z4 (by omega) b42 (fun q hq => ⟨(hK q hq).1, (hK q hq).2.1⟩)
    have r4' := fun s h1 h2 => (rs_4 s h1 h2).1
    obtain ⟨N6, e6, f6, z6⟩ := r_zmust (rs := 4) (s := 59) (by omega) (by omega) r4' z5
    have e6' : f_X11_must 4 N5 = some ((), N6) := e6
    have FV6 : Fv2 v N N6 := by
      rw [← hN4] at f5
      exact fv_tr FV3 (fv_tr (fv_Y (k := k3) (b0 := bb') (b1 := bb' + 1) (by omega) (by omega) (by omega) (sI_Y (by omega) (by omega) (by omega))) (fv_tr (fv_Y (by omega) (by omega) (by omega) f5) (fv_3 f6)))
    have d42 : N6.1 52 42 = nI (bb' + 1) := by rw [f6.2 52 42 (by omega)]; exact c42
    have d19 : N6.1 52 19 = nI v := by
      rw [f6.2 52 19 (by omega), f5.2 52 19 (by unfold pY; omega), ← hN4, mI1, if_neg (by omega), f3.2 52 19 (by unfold pY; omega), f2.2 52 19 (by omega), f1.2 52 19 (by omega)]; exact h19
    have ck2 : (2 : Int32) * nI v + nI a1 = nI (2 * v + a1) := i5v 2
    have W : f_X11_tellOne N = if N6.1 52 13 ≤ 0 then some ((), zm_sI (zm_sI N6 79 (2 * v + a1) (nI (130 * v + nb))) 80 (2 * v + a1) (nI (bb' + 1))) else some ((), N6) := by
      rw [U, V]
      show (zm_b2 (f_X11_tellLaw_b129 (nI a1) (nI (130 * v + nb)) N3) fun _ M276 => some ((), M276)) = _
      have x19 : (zm_sI N6 79 (2 * v + a1) (nI (130 * v + nb))).1 52 19 = nI v := by rw [mI1, if_neg (by omega)]; exact d19
      have x42 : (zm_sI N6 79 (2 * v + a1) (nI (130 * v + nb))).1 52 42 = nI (bb' + 1) := by rw [mI1, if_neg (by omega)]; exact d42
      unfold f_X11_tellLaw_b129
      simp only [zv_eq]
      rw [c1, zm_ck_t (zm_in_nI (by omega) (by omega)), nI_clamp (by omega), show vp_nar .boolean 0 = (0 : Int32) from rfl, hN4, e5, zb2_some, e6', zb2_some, d19, ck2, zm_ck_t (zm_in_nI (by omega) (by omega)), nI_clamp (by omega), x19, ck2, zm_ck_t (zm_in_nI (by omega) (by omega)), nI_clamp (by omega), x42]
      split <;> rfl
    cases hZ7 : zLa T n s (.inr (i, nt)) with
    | inl f =>
      have z7' : RZ T n N6 (zLa T n s (.inr (i, nt))) := z6
      rw [hZ7] at z7'
      exact ⟨N6, by rw [W, if_neg ((rz_f z7').1 f rfl).2], FV6, z7', fun i' nt' z => by cases z⟩
    | inr r =>
      have z7' : RZ T n N6 (zLa T n s (.inr (i, nt))) := z6
      rw [hZ7] at z7'
      have z8 := rz_sI (x := 80) (j := 2 * v + a1) (v := nI (bb' + 1)) (rz_sI (x := 79) (j := 2 * v + a1) (v := nI (130 * v + nb)) z7' (by omega)) (by omega)
      refine ⟨_, by rw [W, if_pos (by rw [(rz_f z7').2 r rfl]; decide)], fv_tr FV6 (fv_tr (fv_sI (Or.inr (Or.inr (Or.inr (Or.inr (Or.inr (Or.inr (Or.inr (Or.inr (Or.inr (Or.inl ⟨Or.inl rfl, by omega, by omega⟩))))))))))) (fv_sI (Or.inr (Or.inr (Or.inr (Or.inr (Or.inr (Or.inr (Or.inr (Or.inr (Or.inr (Or.inl ⟨Or.inr rfl, by omega, by omega⟩)))))))))))), z8, fun i' nt' z => ?_⟩
      have er : r = (i', nt') := Sum.inr.inj z
      have hz : zLa T n s (.inr (i, nt)) = .inr (i', nt') := hZ7.trans z
      rw [er] at z8
      unfold zLa at hz
      obtain ⟨j5, n5, w5, _, _, rfl, _, m5⟩ := zTo_inr hz
      obtain ⟨j4, w4, A1, A2, A3, A4, A5, A6⟩ := v5 j5 n5 w5
      obtain ⟨B1, B2, B3, B4, B5, B6, B7⟩ := hK _ w4
      have B2' : k3 ≤ 420 * v + j4 := B2
      have B4' : i + 2 + 4 * (bsL T n 4 (i + 2)).length ≤ j4 := B4
      have B5' : j4 = edL T n 4 (i + 2) := B5
      have B7' : n5 = none → nt = none := B7
      generalize hF : zm_sI (zm_sI N6 79 (2 * v + a1) (nI (130 * v + nb))) 80 (2 * v + a1) (nI (bb' + 1)) = F at z8
      -- unchanged
      have C : ∀ x j, ¬ pY v k (130 * v + nb) (130 * v + nb + 5) x j → ¬ ((x = 79 ∨ x = 80) ∧ j = 2 * v + a1) → F.1 x j = N.1 x j := fun x j a b => by
        have a3 : ¬ (x = 52 ∧ (j = 11 ∨ j = 13 ∨ j = 14)) := fun z => a (Or.inr (Or.inr (Or.inl ⟨z.1, by omega⟩)))
        have a5 : ¬ pY v k3 bb' (bb' + 1) x j := fun z => a (by
          rcases z with ⟨a', b', c'⟩ | a' | a' | ⟨a', b', c', d'⟩
          · exact Or.inl ⟨a', by omega, c'⟩
          · exact Or.inr (Or.inl a')
          · exact Or.inr (Or.inr (Or.inl a'))
          · exact Or.inr (Or.inr (Or.inr ⟨a', b', by omega, by omega⟩)))
        have a33 : ¬ pY v k (130 * v + nb) (130 * v + nb + 4) x j := fun z => a (by
          rcases z with ⟨a', b', c'⟩ | a' | a' | ⟨a', b', c', d'⟩
          · exact Or.inl ⟨a', b', c'⟩
          · exact Or.inr (Or.inl a')
          · exact Or.inr (Or.inr (Or.inl a'))
          · exact Or.inr (Or.inr (Or.inr ⟨a', b', c', by omega⟩)))
        have a81 : ¬ (x = 81 ∧ j = bb') := fun z => a (Or.inr (Or.inr (Or.inr ⟨by omega, by omega, by omega, by omega⟩)))
        rw [← hF, mI1, if_neg (by omega), mI1, if_neg (by omega), f6.2 x j a3, f5.2 x j a5, ← hN4, mI1, if_neg a81, f3.2 x j a33, f2.2 x j a3, f1.2 x j a3]
      have Cl : ∀ x j, 60 ≤ x → x ≤ 80 → ¬ ((x = 79 ∨ x = 80) ∧ j = 2 * v + a1) → F.1 x j = N.1 x j := fun x j a b c => C x j (fun z => by
        rcases z with ⟨a', b', c'⟩ | a' | ⟨a', b'⟩ | ⟨a', b', c', d'⟩ <;> omega) c
      have R2 : F.2 = N.2 := by
        rw [← hF]
        show N6.2 = _
        rw [f6.1, f5.1, ← hN4]
        show N3.2 = _
        rw [f3.1, f2.1, f1.1]
      have Z3 := z3
      rw [w4] at Z3
      have i4 := rl_I Z3
      have j400 : j4 ≤ 400 := Nat.le_trans i4.2 i4.1.1.1
      have prog : j4 < j5 := by
        obtain ⟨i'', w'', hx⟩ := zSm_inr w5
        have t : j4 = i'' := congrArg Prod.fst (Sum.inr.inj (w4.symm.trans w''))
        rw [← t] at hx
        exact (pX_pr 3000 0 0 j4 j5 _ (by omega) j400 hx).2.1 (by omega)
      have t48 : F.1 52 48 = nI (k3 + (cdX (tkF T n) j4).length) := by
        rw [← hF, mI1, if_neg (by omega), mI1, if_neg (by omega), f6.2 52 48 (by omega)]; exact A3
      have t42 : F.1 52 42 = nI (130 * v + (nb + (bsL T n 4 (i + 2)).length + 1)) := by
        rw [← hF, mI1, if_neg (by omega), mI1, if_neg (by omega), d42, B3]
        exact congrArg nI (by omega)
      have n52 : ∀ j, ¬ ((11 ≤ j ∧ j ≤ 16) ∨ j = 42 ∨ j = 48 ∨ j = 52) → F.1 52 j = N.1 52 j := fun j a => C 52 j (fun z => by
        rcases z with ⟨a', b', c'⟩ | a' | ⟨a', b'⟩ | ⟨a', b', c', d'⟩ <;> omega) (by omega)
      refine ⟨k3 + (cdX (tkF T n) j4).length, nb + (bsL T n 4 (i + 2)).length + 1, z8, ⟨by rw [n52 19 (by omega)]; exact h19, hv⟩, ⟨t48, by omega, by omega⟩, ⟨t42, by omega⟩, ⟨by rw [Cl 63 v (by omega) (by omega) (by omega)]; exact h63, b63⟩, ⟨by rw [Cl 66 v (by omega) (by omega) (by omega)]; exact h66, b66⟩, ⟨by rw [Cl 71 v (by omega) (by omega) (by omega)]; exact h71, b71⟩, rnm_x hE (n52 20 (by omega)) (fun x j hx => Cl x j (by omega) (by omega) (by omega)) (fun j => by rw [R2]), hQ, hel, fun hnt => ?_⟩
      have D := hD (B7' (m5 hnt).1)
      obtain ⟨d1, d2, d3, ⟨d4, d5, d6⟩, d7, d8⟩ := D
      have g8 : ∀ y j, (y = 86 ∨ y = 87) → 420 * v ≤ j → j < k → F.1 y j = N.1 y j := fun y j h1 h2 h3 => C y j (fun z => by
        rcases z with ⟨a', b', c'⟩ | a' | ⟨a', b'⟩ | ⟨a', b', c', d'⟩ <;> omega) (by omega)
      have g81 : ∀ y j, 81 ≤ y → y ≤ 85 → 130 * v ≤ j → j < 130 * v + nb → F.1 y j = N.1 y j := fun y j h1 h2 h3 h4 => C y j (fun z => by
        rcases z with ⟨a', b', c'⟩ | a' | ⟨a', b'⟩ | ⟨a', b', c', d'⟩ <;> omega) (by omega)
      -- the new law
      have nF : ∀ y j, 81 ≤ y → F.1 y j = N5.1 y j := fun y j hy => by
        rw [← hF, mI1, if_neg (by omega), mI1, if_neg (by omega), f6.2 y j (by omega)]
      have nF3 : ∀ y j, 81 ≤ y → y ≤ 87 → (y ≤ 85 → j < bb') → (86 ≤ y → j < k3) → F.1 y j = N3.1 y j := fun y j h1 h2 h3 h4 => by
        rw [nF y j h1, f5.2 y j (fun z => by
          rcases z with ⟨a', b', c'⟩ | a' | ⟨a', b'⟩ | ⟨a', b', c', d'⟩ <;> omega), ← hN4, mI1, if_neg (by omega)]
      have law : rlw F v (k3 + (cdX (tkF T n) j4).length) (nb + (bsL T n 4 (i + 2)).length + 1) a1 (if a1 = 0 then [(0, 3)] else [(1, 3)]) (laQ T n i) := by
        refine Or.inr ⟨130 * v + nb, k3, by omega, ?_, ?_, ?_, fun y x hx => ?_, ?_, ?_, ?_, ?_, by omega, ?_⟩
        · show 130 * v + nb + (bsL T n 4 (i + 2)).length + 1 ≤ _
          omega
        · rw [← hF, mI1, if_neg (by omega), mI1, if_pos ⟨rfl, rfl⟩]
        · show F.1 80 (2 * v + a1) = nI (130 * v + nb + (bsL T n 4 (i + 2)).length + 1)
          rw [← hF, mI1, if_pos ⟨rfl, rfl⟩, B3]
        · have hy := gx_lt hx
          have hy' : y < (bsL T n 4 (i + 2)).length := hy
          exact rbr_x (B6 y x hx) (fun z j h1 h2 h3 => nF3 z j (by omega) (by omega) (by omega) (by omega)) (fun z h1 h2 => nF3 z _ (by omega) (by omega) (by omega) (by omega)) (by omega)
        · show F.1 81 (130 * v + nb + (bsL T n 4 (i + 2)).length) = 0
          rw [← B3, nF 81 _ (by omega), y5 81 (by omega), ← hN4, mI1, if_pos ⟨rfl, rfl⟩]
        · show F.1 84 (130 * v + nb + (bsL T n 4 (i + 2)).length) = nI k3
          rw [← B3, nF 84 _ (by omega)]; exact A1
        · show F.1 85 (130 * v + nb + (bsL T n 4 (i + 2)).length) = nI (k3 + (cdX (tkF T n) (edL T n 4 (i + 2))).length)
          rw [← B3, nF 85 _ (by omega), ← B5']; exact A2
        · show iv_sm F k3 (cdX (tkF T n) (edL T n 4 (i + 2)))
          rw [← B5']
          exact sm_x (lo := 0) (k := k3 + (cdX (tkF T n) j4).length) A4 (fun x j hx _ _ => nF x j (by omega)) (by omega) (Nat.le_refl _)
        · show k3 + (cdX (tkF T n) (edL T n 4 (i + 2))).length ≤ _
          rw [← B5']; exact Nat.le_refl _
      refine ⟨fun j x hx => ?_, fun j x hx => ?_, fun j x hx => ?_, ?_, ?_, ?_⟩
      · rw [Cl 64 _ (by omega) (by omega) (by omega), Cl 65 _ (by omega) (by omega) (by omega)]; exact d1 j x hx
      · rw [Cl 67 _ (by omega) (by omega) (by omega), Cl 68 _ (by omega) (by omega) (by omega), Cl 69 _ (by omega) (by omega) (by omega), Cl 70 _ (by omega) (by omega) (by omega)]; exact d2 j x hx
      · obtain ⟨c1', p, c2', c3', c4', c5', c6', c7', c8'⟩ := d3 j x hx
        exact ⟨by rw [Cl 72 _ (by omega) (by omega) (by omega)]; exact c1', p, by rw [Cl 73 _ (by omega) (by omega) (by omega)]; exact c2', by rw [Cl 74 _ (by omega) (by omega) (by omega)]; exact c3', by rw [Cl 75 _ (by omega) (by omega) (by omega)]; exact c4', sm_x c5' g8 c7' (by omega), sm_x c6' g8 (by omega) (by omega), c7', by omega⟩
      · exact ⟨by rw [Cl 76 v (by omega) (by omega) (by omega)]; exact d4, by rw [Cl 77 v (by omega) (by omega) (by omega)]; exact d5, by rw [Cl 78 v (by omega) (by omega) (by omega)]; exact d6⟩
      · unfold qLa
        rcases hm with ⟨_, rfl⟩ | ⟨_, rfl⟩
        · rw [if_pos rfl]
          rw [if_pos rfl] at law
          exact law
        · rw [if_neg (by omega)]
          exact rlw_x d7 g8 g81 (fun y hy => Cl y _ (by omega) (by omega) (by omega)) (by omega) (by omega)
      · unfold qLa
        rcases hm with ⟨_, rfl⟩ | ⟨_, rfl⟩
        · rw [if_pos rfl]
          exact rlw_x d8 g8 g81 (fun y hy => Cl y _ (by omega) (by omega) (by omega)) (by omega) (by omega)
        · rw [if_neg (by omega)]
          rw [if_neg (by omega)] at law
          exact law
