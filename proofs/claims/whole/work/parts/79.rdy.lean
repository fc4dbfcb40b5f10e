/-! terms: reference -/
theorem r_exprF {N : zm_Mem} (h : N.1 52 13 ≠ 0) : ∃ N', f_X11_expression N = some ((), N') ∧ Fp (fun x j => x = 52 ∧ j = 52) N N' := by
  have f : Fp (fun x j => x = 52 ∧ j = 52) N (zm_sI N 52 52 0) := fp_sI ⟨rfl, rfl⟩
  refine ⟨zm_sI N 52 52 0, ?_, f⟩
  have h' : (zm_sI N 52 52 0).1 52 13 ≠ 0 := by rw [f.2 52 13 (by omega)]; exact h
  have := rx_1f (x9 := (zm_sI N 52 52 0).1 52 12) h'
  unfold f_X11_expression
  simp only [zv_eq]
  exact this
theorem fp_52R {k h : Nat} {M M' : zm_Mem} (f : Fp (fun x j => x = 52 ∧ j = 52) M M') : Fp (pR k h) M M' := fp_mono (fun x j z => by unfold pR; omega) f
/-- an expression, whether or not there is a fault already -/
theorem r_zexp {T : Nat → Nat} {n v k : Nat} {N : zm_Mem} {Z : zZ} (hv : v ≤ 1) (h : RZ T n N Z) (h48 : ∀ p, Z = .inr p → N.1 52 48 = nI k ∧ k ≤ 420 * v + p.1) : ∃ N', f_X11_expression N = some ((), N') ∧ Fp (pR k (420 * v + 420)) N N' ∧ RZ T n N' (zSm (tkF T n) Z) ∧ ∀ j nt', zSm (tkF T n) Z = .inr (j, nt') → ∃ i, Z = .inr (i, nt') ∧ N'.1 52 48 = nI (k + (cdX (tkF T n) i).length) ∧ iv_sm N' k (cdX (tkF T n) i) ∧ j = edX (tkF T n) i ∧ (cdX (tkF T n) i).length + i ≤ j := by
  cases Z with
  | inl f =>
    obtain ⟨N', e, g⟩ := r_exprF ((rz_f h).1 f rfl).1
    exact ⟨N', e, fp_52R g, rz_x h (fun x j a b => g.2 x j (by omega)) (fun j => by rw [g.1]) (fun j a b => g.2 52 j (by omega)), fun j nt' z => by cases z⟩
  | inr p =>
    obtain ⟨N', e, g, z, r⟩ := r_zsum (b := 420 * v) (k := k) (by omega) h h48 p rfl
    refine ⟨N', e, g, z, fun j nt' hz => ?_⟩
    obtain ⟨a, b, c, d, q⟩ := r j nt' hz
    exact ⟨p.1, by rw [q], a, b, c, d⟩
theorem r_zexpI {T : Nat → Nat} {n v k : Nat} {N : zm_Mem} {Z : zZ} (hv : v ≤ 1) (h : RZ T n N Z) (h48 : ∀ p, Z = .inr p → N.1 52 48 = nI k ∧ k ≤ 420 * v + p.1) {α : Type} (K : zm_Mem → Option α) : ∃ N', (if N.1 52 13 = 0 then (zm_b2 (f_X11_expression N) fun _ M => K M) else K N) = K N' ∧ Fp (pR k (420 * v + 420)) N N' ∧ RZ T n N' (zSm (tkF T n) Z) ∧ ∀ j nt', zSm (tkF T n) Z = .inr (j, nt') → ∃ i, Z = .inr (i, nt') ∧ N'.1 52 48 = nI (k + (cdX (tkF T n) i).length) ∧ iv_sm N' k (cdX (tkF T n) i) ∧ j = edX (tkF T n) i ∧ (cdX (tkF T n) i).length + i ≤ j := by
  cases Z with
  | inl f =>
    exact ⟨N, if_neg ((rz_f h).1 f rfl).1, fp_rfl _ _, h, fun j nt' z => by cases z⟩
  | inr p =>
    obtain ⟨N', e, g, z, r⟩ := r_zexp (k := k) hv h h48
    refine ⟨N', ?_, g, z, r⟩
    rw [if_pos ((rz_f h).2 p rfl), e, zb2_some]
theorem fv_R {v k : Nat} {M M' : zm_Mem} (hk : 420 * v ≤ k) (f : Fp (pR k (420 * v + 420)) M M') : Fv2 v M M' := fv_fp f (fun x j z => by
  rcases z with ⟨a, b, c⟩ | a | ⟨a, b⟩
  · exact Or.inr (Or.inr (Or.inr (Or.inr (Or.inr (Or.inr (Or.inr (Or.inr (Or.inr (Or.inr (Or.inr ⟨a, by omega, c⟩))))))))))
  · exact Or.inr (Or.inl a)
  · exact Or.inl ⟨a, by omega⟩)
theorem r_term {T : Nat → Nat} {n v k nb i : Nat} {N : zm_Mem} {nt : Option (Nat × Nat)} {Q : zQ} {en : List (Nat × Nat × List Nat)} (hn0 : n ≤ 2000) (h : RLs T n N v k nb i nt Q en) (hu : nt = none → uqL (nmW Q.2.1)) (hs : (tkF T n i).1 = 258) (hH : Q.2.2.1.length < 6) : ∃ N', f_X11_tellOne N = some ((), N') ∧ Fv2 v N N' ∧ RZ T n N' (zTe T n Q (.inr (i, nt))) ∧ ∀ i' nt', zTe T n Q (.inr (i, nt)) = .inr (i', nt') → ∃ k', RLs T n N' v k' nb i' nt' (qTe T n Q i) en := by
  obtain ⟨hZ, ⟨h19, hv⟩, ⟨h48, k1, k2⟩, ⟨h42, hb⟩, ⟨h63, b63⟩, ⟨h66, b66⟩, ⟨h71, b71⟩, hE, hQ, hel, hD⟩ := h
  have hI := rl_I hZ
  have he := hI.1.1.1
  have x9 : N.1 55 i = nI 22 := by rw [(hI.1.1.2 i hI.2).1, hs]; rfl
  obtain ⟨N1, e1, f1, z1⟩ := r_zgo hs (by omega) hZ
  have room : f_X11_roomFor (nI Q.2.2.1.length) 6 N = some ((), N1) := by
    unfold f_X11_roomFor f_X11_roomFor_b10
    rw [if_neg (show ¬ nI Q.2.2.1.length = (6 : Int32) from fun z => by have := (nI_eq (b := 6) (by omega) (by omega)).1 z; omega), hI.1.2.2.1, if_pos rfl, e1, zb2_some]
  have U : f_X11_tellOne N = if N1.1 52 13 = 0 then (zm_b2 (f_X11_tellTerm N1) fun _ M78 => some ((), M78)) else some ((), N1) := by
    unfold f_X11_tellOne
    simp only [zv_eq]
    rw [hI.1.2.1, zm_ck_t (zm_in_nI (by omega) (by omega)), nI_clamp (by omega), x9, if_neg (by decide), if_neg (by decide), if_pos (by decide), h19, zm_ck_t (zm_in_nI (by omega) (by omega)), nI_clamp (by omega), h71, room, zb2_some]
  cases hZ1 : zTo (tkF T n) 258 0 noB (.inr (i, nt)) with
  | inl f =>
    rw [hZ1] at z1
    have ez : zTe T n Q (.inr (i, nt)) = .inl f := by unfold zTe; rw [hZ1]; rfl
    rw [ez]
    exact ⟨N1, by rw [U, if_neg ((rz_f z1).1 f rfl).1], fv_3 f1, z1, fun i' nt' z => by cases z⟩
  | inr p =>
    obtain ⟨i0, n0, w0, _, _, ei, _, m0⟩ := zTo_inr (i := p.1) (nt := p.2) hZ1
    have ei0 : i = i0 := congrArg Prod.fst (Sum.inr.inj w0)
    have en0 : nt = n0 := congrArg Prod.snd (Sum.inr.inj w0)
    subst ei0; subst en0
    have E1 : RNm N1 en := rnm_fp hE f1 (by omega) (fun j => by omega) (fun j => by omega)
    have z1' := z1
    rw [hZ1] at z1'
    have f13 := (rz_f z1').2 p rfl
    obtain ⟨x2, N2, e2, f2, z2, v2⟩ := r_zknown (ka := 1) (NL := nmW Q.2.1) hn0 z1 E1 hQ (Or.inr ⟨rfl, rfl⟩)
    have z3 := rz_sI (x := 72) (j := 6 * v + Q.2.2.1.length) (v := x2) z2 (by omega)
    have s48 : N2.1 52 48 = nI k := by rw [f2.2 52 48 (by unfold p52; omega), f1.2 52 48 (by omega)]; exact h48
    have s48' : (zm_sI N2 72 (6 * v + Q.2.2.1.length) x2).1 52 48 = nI k := by rw [mI1, if_neg (by omega)]; exact s48
    have z4 := rz_sI (x := 73) (j := 6 * v + Q.2.2.1.length) (v := nI k) z3 (by omega)
    generalize hN4 : zm_sI (zm_sI N2 72 (6 * v + Q.2.2.1.length) x2) 73 (6 * v + Q.2.2.1.length) (nI k) = N4 at z4
    have s4 : N4.1 52 48 = nI k := by rw [← hN4, mI1, if_neg (by omega)]; exact s48'
    have i2 : ∀ q, zTo (tkF T n) 2 4 (notB T n (nmW Q.2.1)) (zTo (tkF T n) 258 0 noB (.inr (i, nt))) = .inr q → q.1 = i + 2 := fun q hz => by
      obtain ⟨i1', n1, w1, s1, _, rfl', _, m1⟩ := zTo_inr (i := q.1) (nt := q.2) hz
      have := congrArg Prod.fst (Sum.inr.inj (hZ1.symm.trans w1))
      have t : p.1 = i1' := this
      omega
    obtain ⟨N5, e5, f5, z5, v5⟩ := r_zexpI (k := k) hv z4 (fun q hz => ⟨s4, by have := i2 q hz; omega⟩) (f_X11_tellTerm_b50 (nI (6 * v + Q.2.2.1.length)))
    have r13 := fun s h1 h2 => (rs_4 s h1 h2).2.2.1
    obtain ⟨N6, e6, f6, z6⟩ := r_zmust (rs := 13) (s := 60) (by omega) (by omega) r13 z5
    have z7 := rz_sI (x := 74) (j := 6 * v + Q.2.2.1.length) (v := N6.1 52 48) z6 (by omega)
    generalize hN7 : zm_sI N6 74 (6 * v + Q.2.2.1.length) (N6.1 52 48) = N7 at z7
    have s7 : N7.1 52 48 = N5.1 52 48 := by rw [← hN7, mI1, if_neg (by omega), f6.2 52 48 (by omega)]
    obtain ⟨N8, e8, f8, z8, v8⟩ := r_zexpI (k := k + (cdX (tkF T n) (i + 2)).length) hv z7 (fun q hz => by
      obtain ⟨j5, n5, w5, _, _, a5, _, _⟩ := zTo_inr (i := q.1) (nt := q.2) hz
      obtain ⟨i4, w4, b1, b2, b3, b4⟩ := v5 j5 n5 w5
      have := i2 _ w4
      have t4 : i4 = i + 2 := this
      subst t4
      exact ⟨s7.trans b1, by omega⟩) (f_X11_tellTerm_b77 (nI (6 * v + Q.2.2.1.length)))
    have z9 := rz_sI (x := 75) (j := 6 * v + Q.2.2.1.length) (v := N8.1 52 48) z8 (by omega)
    generalize hN9 : zm_sI N8 75 (6 * v + Q.2.2.1.length) (N8.1 52 48) = N9 at z9
    have r4' := fun s h1 h2 => (rs_4 s h1 h2).1
    obtain ⟨Na, ea, fa, za⟩ := r_zmust (rs := 4) (s := 59) (by omega) (by omega) r4' z9
    -- unchanged cells
    have C : ∀ x j, ¬ p52 x j → ¬ pR k (420 * v + 420) x j → ¬ (72 ≤ x ∧ x ≤ 75) → Na.1 x j = N1.1 x j := fun x j a b c => by
      have a' : ¬ (x = 52 ∧ (j = 11 ∨ j = 13 ∨ j = 14)) := by unfold p52 at a; omega
      have b' : ¬ pR (k + (cdX (tkF T n) (i + 2)).length) (420 * v + 420) x j := fun z => b (by unfold pR at z ⊢; omega)
      rw [fa.2 x j a', ← hN9, mI1, if_neg (by omega), f8.2 x j b', ← hN7, mI1, if_neg (by omega), f6.2 x j a', f5.2 x j b, ← hN4, mI1, if_neg (by omega), mI1, if_neg (by omega), f2.2 x j a]
    have c1 : N1.1 52 19 = nI v := by rw [f1.2 52 19 (by omega)]; exact h19
    have c171 : N1.1 71 v = nI Q.2.2.1.length := by rw [f1.2 71 v (by omega)]; exact h71
    have c7 : Na.1 52 19 = nI v := by rw [C 52 19 (by unfold p52; omega) (by unfold pR; omega) (by omega)]; exact c1
    have c771 : Na.1 71 v = nI Q.2.2.1.length := by rw [C 71 v (by unfold p52; omega) (by unfold pR; omega) (by omega)]; exact c171
    have W : f_X11_tellOne N = if Na.1 52 13 = 0 then some ((), zm_sI Na 71 v (nI (Q.2.2.1.length + 1))) else some ((), Na) := by
      rw [U, if_pos f13]
      have e2' : f_X11_known 1 N1 = some (x2, N2) := e2
      have e6' : f_X11_must 13 N5 = some ((), N6) := e6
      have ea' : f_X11_must 4 N9 = some ((), Na) := ea
      have T1 : f_X11_tellTerm N1 = f_X11_tellTerm_b50 (nI (6 * v + Q.2.2.1.length)) N5 := by
        rw [← e5]
        unfold f_X11_tellTerm
        simp only [zv_eq]
        rw [c1, zm_ck_t (zm_in_nI (by omega) (by omega)), nI_clamp (by omega), c171, show (6 : Int32) * nI v + nI Q.2.2.1.length = nI (6 * v + Q.2.2.1.length) from i5v 6, e2', zb2_some, zm_ck_t (zm_in_nI (by omega) (by omega)), nI_clamp (by omega), zm_ck_t (zm_in_nI (by omega) (by omega)), s48', hN4]
      have T2 : f_X11_tellTerm_b50 (nI (6 * v + Q.2.2.1.length)) N5 = f_X11_tellTerm_b77 (nI (6 * v + Q.2.2.1.length)) N8 := by
        rw [← e8]
        show f_X11_tellTerm_b50 (nI (6 * v + Q.2.2.1.length)) N5 = _
        unfold f_X11_tellTerm_b50
        simp only [zv_eq]
        rw [e6', zb2_some, zm_ck_t (zm_in_nI (by omega) (by omega)), nI_clamp (by omega), hN7]
      rw [T1, T2]
      unfold f_X11_tellTerm_b77
      simp only [zv_eq]
      rw [zm_ck_t (zm_in_nI (by omega) (by omega)), nI_clamp (by omega), hN9, ea', zb2_some, c7, zm_ck_t (zm_in_nI (by omega) (by omega)), zm_ck_t (zm_in_nI (by omega) (by omega)), nI_clamp (by omega), c771, nI_k1]
      split <;> rfl
    have FV : Fv2 v N Na := by
      rw [← hN4] at f5
      rw [← hN7] at f8
      rw [← hN9] at fa
      exact fv_tr (fv_3 f1) (fv_tr (fv_52 f2) (fv_tr (fv_sI (by unfold pV pD; omega)) (fv_tr (fv_sI (by unfold pV pD; omega)) (fv_tr (fv_R k1 f5) (fv_tr (fv_3 f6) (fv_tr (fv_sI (by unfold pV pD; omega)) (fv_tr (fv_R (by omega) f8) (fv_tr (fv_sI (by unfold pV pD; omega)) (fv_3 fa)))))))))
    cases hZ7 : zTe T n Q (.inr (i, nt)) with
    | inl f =>
      have z7' : RZ T n Na (zTe T n Q (.inr (i, nt))) := za
      rw [hZ7] at z7'
      exact ⟨Na, by rw [W, if_neg ((rz_f z7').1 f rfl).1], FV, z7', fun i' nt' z => by cases z⟩
    | inr r =>
      have z7' : RZ T n Na (zTe T n Q (.inr (i, nt))) := za
      rw [hZ7] at z7'
      have zc := rz_sI (x := 71) (j := v) (v := nI (Q.2.2.1.length + 1)) z7' (by omega)
      refine ⟨zm_sI Na 71 v (nI (Q.2.2.1.length + 1)), by rw [W, if_pos ((rz_f z7').2 r rfl)], fv_tr FV (fv_sI (by unfold pV; omega)), zc, fun i' nt' z => ?_⟩
      have er : r = (i', nt') := Sum.inr.inj z
      have hz : zTe T n Q (.inr (i, nt)) = .inr (i', nt') := hZ7.trans z
      rw [er] at zc
      unfold zTe at hz
      obtain ⟨jb, nb', wb, sb, kb, rfl, _, mb⟩ := zTo_inr hz
      obtain ⟨j7, w7, A1, A2, A3, A4⟩ := v8 jb nb' wb
      obtain ⟨j5, n5, w5, s5, k5, rfl, _, m5⟩ := zTo_inr w7
      obtain ⟨j4, w4, B1, B2, B3, B4⟩ := v5 j5 n5 w5
      have ej : j4 = i + 2 := i2 _ w4
      subst ej
      obtain ⟨i1', n1, w1, s1, k1', ei1, _, m1⟩ := zTo_inr w4
      have q1 : p.1 = i1' := congrArg Prod.fst (Sum.inr.inj (hZ1.symm.trans w1))
      have q2 : p.2 = n1 := congrArg Prod.snd (Sum.inr.inj (hZ1.symm.trans w1))
      have q3 : i1' = i + 1 := by omega
      have lq : (qTe T n Q i).2.2.1.length = Q.2.2.1.length + 1 := by unfold qTe; rw [List.length_append]; rfl
      have g : ∀ x j, ¬ p52 x j → ¬ pR k (420 * v + 420) x j → ¬ (72 ≤ x ∧ x ≤ 75) → ¬ (x = 71 ∧ j = v) → (zm_sI Na 71 v (nI (Q.2.2.1.length + 1))).1 x j = N.1 x j := fun x j a b c e => by
        rw [mI1, if_neg e, C x j a b c, f1.2 x j (by unfold p52 at a; omega)]
      have R2 : Na.2 = N.2 := by
        rw [fa.1, ← hN9]
        show N8.2 = _
        rw [f8.1, ← hN7]
        show N6.2 = _
        rw [f6.1, f5.1, ← hN4]
        show N2.2 = _
        rw [f2.1, f1.1]
      have t48 : Na.1 52 48 = nI (k + (cdX (tkF T n) (i + 2)).length + (cdX (tkF T n) (j5 + 1)).length) := by
        rw [fa.2 52 48 (by omega), ← hN9, mI1, if_neg (by omega)]; exact A1
      refine ⟨k + (cdX (tkF T n) (i + 2)).length + (cdX (tkF T n) (j5 + 1)).length, zc, ⟨by rw [mI1, if_neg (by omega)]; exact c7, hv⟩, ⟨by rw [mI1, if_neg (by omega)]; exact t48, by omega, by omega⟩, ⟨by rw [g 52 42 (by unfold p52; omega) (by unfold pR; omega) (by omega) (by omega)]; exact h42, by omega⟩, ⟨by rw [g 63 v (by unfold p52; omega) (by unfold pR; omega) (by omega) (by omega)]; exact h63, b63⟩, ⟨by rw [g 66 v (by unfold p52; omega) (by unfold pR; omega) (by omega) (by omega)]; exact h66, b66⟩, ⟨by rw [mI1, if_pos ⟨rfl, rfl⟩, lq], by rw [lq]; omega⟩, rnm_x hE (g 52 20 (by unfold p52; omega) (by unfold pR; omega) (by omega) (by omega)) (fun x j hx => g x j (by unfold p52; omega) (by unfold pR; omega) (by omega) (by omega)) (fun j => by show Na.2.1 60 j = _; rw [R2]), hQ, hel, fun hnt => ?_⟩
      have d5 := m5 (mb hnt).1
      have d1 := m1 d5.1
      rw [← q2] at d1
      have d0 := m0 d1.1
      have D := hD d0.1
      have Uq := hu d0.1
      rw [q3] at s1 w1 k1' d1
      obtain ⟨jw, yw, X2⟩ := v2 (i + 1) n1 w1 s1 k1' d1.2
      rw [ixN_eq Uq yw] at X2
      have nr : ∀ x j k' h', 60 ≤ x → x ≠ 86 → x ≠ 87 → x ≠ 88 → ¬ pR k' h' x j := fun x j k' h' h1 h2 h3 h4 => by unfold pR; omega
      have D' : RDt (zm_sI Na 71 v (nI (Q.2.2.1.length + 1))) v (k + (cdX (tkF T n) (i + 2)).length + (cdX (tkF T n) (j5 + 1)).length) nb Q := by
        refine rdt_x D (fun x j hp => ?_) (by omega) (Nat.le_refl _)
        by_cases h64 : 72 ≤ x ∧ x ≤ 75
        · have hj : j < 6 * v + Q.2.2.1.length := by unfold pD at hp; omega
          rw [mI1, if_neg (by omega), fa.2 x j (by omega), ← hN9, mI1, if_neg (by omega), f8.2 x j (nr _ _ _ _ (by omega) (by omega) (by omega) (by omega)), ← hN7, mI1, if_neg (by omega), f6.2 x j (by omega), f5.2 x j (nr _ _ _ _ (by omega) (by omega) (by omega) (by omega)), ← hN4, mI1, if_neg (by omega), mI1, if_neg (by omega), f2.2 x j (by unfold p52; omega), f1.2 x j (by omega)]
        · refine g x j (by unfold pD at hp; unfold p52; omega) (fun z => ?_) h64 (by unfold pD at hp; omega)
          unfold pD at hp
          unfold pR at z
          omega
      refine ⟨D'.1, D'.2.1, fun j x hx => ?_, D'.2.2.2⟩
      rcases snoc_get hx with ⟨hj, hx'⟩ | ⟨rfl, rfl⟩
      · exact D'.2.2.1 j x hx'
      · have E2 : cdX (tkF T n) (edX (tkF T n) (i + 2) + 1) = cdX (tkF T n) (j5 + 1) := by rw [← B3]
        have K72 : (zm_sI Na 71 v (nI (Q.2.2.1.length + 1))).1 72 (6 * v + Q.2.2.1.length) = x2 := by
          rw [mI1, if_neg (by omega), fa.2 _ _ (by omega), ← hN9, mI1, if_neg (by omega), f8.2 _ _ (nr _ _ _ _ (by omega) (by omega) (by omega) (by omega)), ← hN7, mI1, if_neg (by omega), f6.2 _ _ (by omega), f5.2 _ _ (nr _ _ _ _ (by omega) (by omega) (by omega) (by omega)), ← hN4, mI1, if_neg (by omega), mI1, if_pos ⟨rfl, rfl⟩]
        have K73 : (zm_sI Na 71 v (nI (Q.2.2.1.length + 1))).1 73 (6 * v + Q.2.2.1.length) = nI k := by
          rw [mI1, if_neg (by omega), fa.2 _ _ (by omega), ← hN9, mI1, if_neg (by omega), f8.2 _ _ (nr _ _ _ _ (by omega) (by omega) (by omega) (by omega)), ← hN7, mI1, if_neg (by omega), f6.2 _ _ (by omega), f5.2 _ _ (nr _ _ _ _ (by omega) (by omega) (by omega) (by omega)), ← hN4, mI1, if_pos ⟨rfl, rfl⟩]
        have K74 : (zm_sI Na 71 v (nI (Q.2.2.1.length + 1))).1 74 (6 * v + Q.2.2.1.length) = nI (k + (cdX (tkF T n) (i + 2)).length) := by
          rw [mI1, if_neg (by omega), fa.2 _ _ (by omega), ← hN9, mI1, if_neg (by omega), f8.2 _ _ (nr _ _ _ _ (by omega) (by omega) (by omega) (by omega)), ← hN7, mI1, if_pos ⟨rfl, rfl⟩, f6.2 52 48 (by omega)]; exact B1
        have K75 : (zm_sI Na 71 v (nI (Q.2.2.1.length + 1))).1 75 (6 * v + Q.2.2.1.length) = nI (k + (cdX (tkF T n) (i + 2)).length + (cdX (tkF T n) (j5 + 1)).length) := by
          rw [mI1, if_neg (by omega), fa.2 _ _ (by omega), ← hN9, mI1, if_pos ⟨rfl, rfl⟩]; exact A1
        have sA : ∀ x j, (x = 86 ∨ x = 87) → (zm_sI Na 71 v (nI (Q.2.2.1.length + 1))).1 x j = N8.1 x j := fun x j hx => by
          rw [mI1, if_neg (by omega), fa.2 _ _ (by omega), ← hN9, mI1, if_neg (by omega)]
        have sB : ∀ x j, (x = 86 ∨ x = 87) → N7.1 x j = N5.1 x j := fun x j hx => by
          rw [← hN7, mI1, if_neg (by omega), f6.2 _ _ (by omega)]
        have S1 : iv_sm N8 k (cdX (tkF T n) (i + 2)) := sm_fpK (sm_x (lo := 0) (k := k + (cdX (tkF T n) (i + 2)).length) B2 (fun x j hx _ _ => sB x j hx) (by omega) (Nat.le_refl _)) f8 (Nat.le_refl _)
        refine ⟨K72.trans X2, k, K73, K74, ?_, sm_x (lo := 0) (k := k + (cdX (tkF T n) (i + 2)).length) S1 (fun x j hx _ _ => sA x j hx) (by omega) (Nat.le_refl _), ?_, k1, ?_⟩
        · show _ = nI (k + (cdX (tkF T n) (i + 2)).length + (cdX (tkF T n) (edX (tkF T n) (i + 2) + 1)).length)
          rw [E2]; exact K75
        · show iv_sm _ _ (cdX (tkF T n) (edX (tkF T n) (i + 2) + 1))
          rw [E2]
          exact sm_x (lo := 0) (k := k + (cdX (tkF T n) (i + 2)).length + (cdX (tkF T n) (j5 + 1)).length) A2 (fun x j hx _ _ => sA x j hx) (by omega) (Nat.le_refl _)
        · show k + (cdX (tkF T n) (i + 2)).length + (cdX (tkF T n) (edX (tkF T n) (i + 2) + 1)).length ≤ _
          rw [E2]; exact Nat.le_refl _
