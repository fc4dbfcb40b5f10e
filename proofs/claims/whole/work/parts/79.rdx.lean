/-! works and single numbers: reference -/
theorem rl_I {T : Nat → Nat} {n i : Nat} {N : zm_Mem} {nt : Option (Nat × Nat)} (hZ : RZ T n N (.inr (i, nt))) : RI T n N i ∧ i ≤ tkE T n := by
  rcases hZ with ⟨_, _, z, _⟩ | ⟨i', nt', z, a, b, _⟩
  · cases z
  · rw [show i = i' from congrArg Prod.fst (Sum.inr.inj z)]; exact ⟨a, b⟩
theorem r_work {T : Nat → Nat} {n v k nb i : Nat} {N : zm_Mem} {nt : Option (Nat × Nat)} {Q : zQ} {en : List (Nat × Nat × List Nat)} (hn0 : n ≤ 2000) (h : RLs T n N v k nb i nt Q en) (hu : nt = none → uqL (nmH Q.1)) (hs : (tkF T n i).1 = 257) (hH : Q.2.1.length < 6) : ∃ N', f_X11_tellOne N = some ((), N') ∧ Fv2 v N N' ∧ RZ T n N' (zWo T n Q (.inr (i, nt))) ∧ ∀ i' nt', zWo T n Q (.inr (i, nt)) = .inr (i', nt') → RLs T n N' v k nb i' nt' (qWo T n Q i) (en ++ [(1, (nmW Q.2.1).length, (tkF T n (i + 1)).2.2.1)]) := by
  obtain ⟨hZ, ⟨h19, hv⟩, ⟨h48, k1, k2⟩, ⟨h42, hb⟩, ⟨h63, b63⟩, ⟨h66, b66⟩, ⟨h71, b71⟩, hE, hQ, hel, hD⟩ := h
  have hI := rl_I hZ
  have he := hI.1.1.1
  have x9 : N.1 55 i = nI 21 := by rw [(hI.1.1.2 i hI.2).1, hs]; rfl
  obtain ⟨N1, e1, f1, z1⟩ := r_zgo hs (by omega) hZ
  have room : f_X11_roomFor (nI Q.2.1.length) 6 N = some ((), N1) := by
    unfold f_X11_roomFor f_X11_roomFor_b10
    rw [if_neg (show ¬ nI Q.2.1.length = (6 : Int32) from fun z => by have := (nI_eq (b := 6) (by omega) (by omega)).1 z; omega), hI.1.2.2.1, if_pos rfl, e1, zb2_some]
  have U : f_X11_tellOne N = if N1.1 52 13 = 0 then (zm_b2 (f_X11_tellWork N1) fun _ M78 => some ((), M78)) else some ((), N1) := by
    unfold f_X11_tellOne
    simp only [zv_eq]
    rw [hI.1.2.1, zm_ck_t (zm_in_nI (by omega) (by omega)), nI_clamp (by omega), x9, if_neg (by decide), if_pos (by decide), h19, zm_ck_t (zm_in_nI (by omega) (by omega)), nI_clamp (by omega), h66, room, zb2_some]
  cases hZ1 : zTo (tkF T n) 257 0 noB (.inr (i, nt)) with
  | inl f =>
    rw [hZ1] at z1
    have ez : zWo T n Q (.inr (i, nt)) = .inl f := by unfold zWo; rw [hZ1]; rfl
    rw [ez]
    exact ⟨N1, by rw [U, if_neg ((rz_f z1).1 f rfl).1], fv_3 f1, z1, fun i' nt' z => by cases z⟩
  | inr p =>
    obtain ⟨i0, n0, w0, _, _, ei, _, m0⟩ := zTo_inr (i := p.1) (nt := p.2) hZ1
    have ei0 : i = i0 := congrArg Prod.fst (Sum.inr.inj w0)
    have en0 : nt = n0 := congrArg Prod.snd (Sum.inr.inj w0)
    subst ei0; subst en0
    have E1 : RNm N1 en := rnm_fp hE f1 (by omega) (fun j => by omega) (fun j => by omega)
    have z1' := z1
    rw [hZ1] at z1'
    have f13 := (rz_f z1').2 p rfl
    have eE : ∀ {K K' : zm_Mem}, RNm K en → Fp p52 K K' → RNm K' en := fun {K K'} a f => rnm_fp a f (by unfold p52; omega) (fun j => by unfold p52; omega) (fun j => by unfold p52; omega)
    have eS : ∀ {K : zm_Mem} {x j : Nat} {w : Int32}, RNm K en → 63 ≤ x → RNm (zm_sI K x j w) en := fun {K x j w} a hx => rnm_x a (by rw [mI1, if_neg (by omega)]) (fun y j hy => by rw [mI1, if_neg (by omega)]) (fun _ => rfl)
    obtain ⟨x2, N2, e2, f2, z2, v2⟩ := r_znamed hn0 z1 E1 hQ
    have X2 := v2 p.1 p.2 hZ1
    have E2 := eE E1 f2
    obtain ⟨x3, N3, e3, f3, z3, v3⟩ := r_zknown (ka := 0) (NL := nmH Q.1) hn0 z2 E2 hQ (Or.inl ⟨rfl, rfl⟩)
    have z4 := rz_sI (x := 67) (j := 6 * v + Q.2.1.length) (v := x3) z3 (by omega)
    have E4 : RNm (zm_sI N3 67 (6 * v + Q.2.1.length) x3) en := eS (eE E2 f3) (by omega)
    obtain ⟨x5, N5, e5, f5, z5, v5⟩ := r_zknown (ka := 0) (NL := nmH Q.1) hn0 z4 E4 hQ (Or.inl ⟨rfl, rfl⟩)
    have z6 := rz_sI (x := 68) (j := 6 * v + Q.2.1.length) (v := x5) z5 (by omega)
    have E6 : RNm (zm_sI N5 68 (6 * v + Q.2.1.length) x5) en := eS (eE E4 f5) (by omega)
    obtain ⟨x7, N7, e7, f7, z7, v7⟩ := r_zbound (lo := 0) (hi := 9) hn0 z6 (by omega) (by omega)
    have z8 := rz_sI (x := 69) (j := 6 * v + Q.2.1.length) (v := x7) z7 (by omega)
    have E8 : RNm (zm_sI N7 69 (6 * v + Q.2.1.length) x7) en := eS (eE E6 f7) (by omega)
    obtain ⟨x9', N9, e9, f9, z9, v9⟩ := r_zbound (lo := 0) (hi := 99) hn0 z8 (by omega) (by omega)
    have za := rz_sI (x := 70) (j := 6 * v + Q.2.1.length) (v := x9') z9 (by omega)
    have Ea : RNm (zm_sI N9 70 (6 * v + Q.2.1.length) x9') en := eS (eE E8 f9) (by omega)
    have pe : p.1 ≤ tkE T n := by
      rcases z1' with ⟨_, _, z, _⟩ | ⟨i', nt', z, a, b, _⟩
      · cases z
      · rw [show p = (i', nt') from Sum.inr.inj z]; exact b
    obtain ⟨Nb, eb, fb, zb, vb⟩ := r_zends (x := x2) (ka := 1) (io := Q.2.1.length) za Ea (by omega) (fun _ _ => ⟨p.1, pe, X2⟩) (by omega) (by omega)
    have C : ∀ x j, ¬ p52 x j → ¬ pN x j → ¬ (67 ≤ x ∧ x ≤ 70) → Nb.1 x j = N.1 x j := fun x j a b c => by
      rw [fb.2.1 x j b, mI1, if_neg (by omega), f9.2 x j a, mI1, if_neg (by omega), f7.2 x j a, mI1, if_neg (by omega), f5.2 x j a, mI1, if_neg (by omega), f3.2 x j a, f2.2 x j a, f1.2 x j (by unfold p52 at a; omega)]
    have c1 : N1.1 52 19 = nI v := by rw [f1.2 52 19 (by omega)]; exact h19
    have c166 : N1.1 66 v = nI Q.2.1.length := by rw [f1.2 66 v (by omega)]; exact h66
    have ca : ∀ x j, ¬ p52 x j → ¬ (67 ≤ x ∧ x ≤ 70) → (zm_sI N9 70 (6 * v + Q.2.1.length) x9').1 x j = N1.1 x j := fun x j a c => by
      rw [mI1, if_neg (by omega), f9.2 x j a, mI1, if_neg (by omega), f7.2 x j a, mI1, if_neg (by omega), f5.2 x j a, mI1, if_neg (by omega), f3.2 x j a, f2.2 x j a]
    have c6 : (zm_sI N9 70 (6 * v + Q.2.1.length) x9').1 52 19 = nI v := by rw [ca 52 19 (by unfold p52; omega) (by omega)]; exact c1
    have c666 : (zm_sI N9 70 (6 * v + Q.2.1.length) x9').1 66 v = nI Q.2.1.length := by rw [ca 66 v (by unfold p52; omega) (by omega)]; exact c166
    have c7 : Nb.1 52 19 = nI v := by rw [fb.2.1 52 19 (by unfold pN; omega)]; exact c6
    have c766 : Nb.1 66 v = nI Q.2.1.length := by rw [fb.2.1 66 v (by unfold pN; omega)]; exact c666
    have W : f_X11_tellOne N = if Nb.1 52 13 = 0 then some ((), zm_sI Nb 66 v (nI (Q.2.1.length + 1))) else some ((), Nb) := by
      rw [U, if_pos f13]
      unfold f_X11_tellWork
      simp only [zv_eq]
      have e3' : f_X11_known 0 N2 = some (x3, N3) := e3
      have e5' : f_X11_known 0 (zm_sI N3 67 (6 * v + Q.2.1.length) x3) = some (x5, N5) := e5
      have e7' : f_X11_bounded 0 9 (zm_sI N5 68 (6 * v + Q.2.1.length) x5) = some (x7, N7) := e7
      have e9' : f_X11_bounded 0 99 (zm_sI N7 69 (6 * v + Q.2.1.length) x7) = some (x9', N9) := e9
      have eb' : f_X11_ends x2 1 (nI Q.2.1.length) (zm_sI N9 70 (6 * v + Q.2.1.length) x9') = some ((), Nb) := eb
      rw [c1, zm_ck_t (zm_in_nI (by omega) (by omega)), nI_clamp (by omega), c166, show (6 : Int32) * nI v + nI Q.2.1.length = nI (6 * v + Q.2.1.length) from i5v 6, e2, zb2_some, e3', zb2_some, zm_ck_t (zm_in_nI (by omega) (by omega)), nI_clamp (by omega), e5', zb2_some, zm_ck_t (zm_in_nI (by omega) (by omega)), e7', zb2_some, zm_ck_t (zm_in_nI (by omega) (by omega)), e9', zb2_some, zm_ck_t (zm_in_nI (by omega) (by omega)), c6, zm_ck_t (zm_in_nI (by omega) (by omega)), nI_clamp (by omega), c666, eb', zb2_some, c7, zm_ck_t (zm_in_nI (by omega) (by omega)), zm_ck_t (zm_in_nI (by omega) (by omega)), nI_clamp (by omega), c766, nI_k1]
      split <;> rfl
    have FV : Fv2 v N Nb := fv_tr (fv_3 f1) (fv_tr (fv_52 f2) (fv_tr (fv_52 f3) (fv_tr (fv_sI (by unfold pV pD; omega)) (fv_tr (fv_52 f5) (fv_tr (fv_sI (by unfold pV pD; omega)) (fv_tr (fv_52 f7) (fv_tr (fv_sI (by unfold pV pD; omega)) (fv_tr (fv_52 f9) (fv_tr (fv_sI (by unfold pV pD; omega)) ⟨fb.1, fun x j a => fb.2.1 x j (fun z => a (by unfold pN at z; unfold pV; omega)), fb.2.2⟩)))))))))
    cases hZ7 : zWo T n Q (.inr (i, nt)) with
    | inl f =>
      have z7' : RZ T n Nb (zWo T n Q (.inr (i, nt))) := zb
      rw [hZ7] at z7'
      exact ⟨Nb, by rw [W, if_neg ((rz_f z7').1 f rfl).1], FV, z7', fun i' nt' z => by cases z⟩
    | inr r =>
      have z7' : RZ T n Nb (zWo T n Q (.inr (i, nt))) := zb
      rw [hZ7] at z7'
      have zc := rz_sI (x := 66) (j := v) (v := nI (Q.2.1.length + 1)) z7' (by omega)
      refine ⟨zm_sI Nb 66 v (nI (Q.2.1.length + 1)), by rw [W, if_pos ((rz_f z7').2 r rfl)], fv_tr FV (fv_sI (by unfold pV; omega)), zc, fun i' nt' z => ?_⟩
      have er : r = (i', nt') := Sum.inr.inj z
      have hz : zWo T n Q (.inr (i, nt)) = .inr (i', nt') := hZ7.trans z
      have v7' := vb r hZ7 p.1 pe X2
      rw [er] at zc
      unfold zWo at hz
      obtain ⟨i6, n6, w6, s6, k6', rfl, _, m6⟩ := zTo_inr hz
      obtain ⟨i5, n5, w5, s5, k5, rfl, _, m5⟩ := zTo_inr w6
      obtain ⟨i4, n4, w4, s4, k4, rfl, _, m4⟩ := zTo_inr w5
      obtain ⟨i3, n3, w3, s3, k3, rfl, _, m3⟩ := zTo_inr w4
      obtain ⟨i2, n2, w2, s2, k2', rfl, _, m2⟩ := zTo_inr w3
      obtain ⟨i1', n1, w1, s1, k1', rfl, _, m1⟩ := zTo_inr w2
      have q1 : i1' = i + 1 := by
        have := hZ1.symm.trans w1
        rw [← show p.1 = i1' from congrArg Prod.fst (Sum.inr.inj this)]; exact ei
      have q2 : p.2 = n1 := congrArg Prod.snd (Sum.inr.inj (hZ1.symm.trans w1))
      subst q1
      have lq : (qWo T n Q i).2.1.length = Q.2.1.length + 1 := by unfold qWo; rw [List.length_append]; rfl
      have g : ∀ x j, ¬ p52 x j → ¬ pN x j → ¬ (67 ≤ x ∧ x ≤ 70) → ¬ (x = 66 ∧ j = v) → (zm_sI Nb 66 v (nI (Q.2.1.length + 1))).1 x j = N.1 x j := fun x j a b c e => by rw [mI1, if_neg e]; exact C x j a b c
      have lW := len_nmW Q.2.1
      refine ⟨zc, ⟨by rw [mI1, if_neg (by omega)]; exact c7, hv⟩, ⟨by rw [g 52 48 (by unfold p52; omega) (by unfold pN; omega) (by omega) (by omega)]; exact h48, k1, by omega⟩, ⟨by rw [g 52 42 (by unfold p52; omega) (by unfold pN; omega) (by omega) (by omega)]; exact h42, by omega⟩, ⟨by rw [g 63 v (by unfold p52; omega) (by unfold pN; omega) (by omega) (by omega)]; exact h63, b63⟩, ⟨by rw [mI1, if_pos ⟨rfl, rfl⟩, lq], by rw [lq]; omega⟩, ⟨by rw [g 71 v (by unfold p52; omega) (by unfold pN; omega) (by omega) (by omega)]; exact h71, b71⟩, ?_, ?_, ?_, fun hnt => ?_⟩
      · rw [ei, ← lW] at v7'
        exact rnm_x v7' (by rw [mI1, if_neg (by omega)]) (fun x j hx => by rw [mI1, if_neg (by omega)]) (fun _ => rfl)
      · show enQ _ _ (nmW (Q.2.1 ++ [_]))
        unfold nmW
        rw [List.map_append]
        exact enQ_w hQ
      · rw [List.length_append, lq]
        show en.length + 1 = Q.1.length + (Q.2.1.length + 1)
        omega
      · have d6 := m6 hnt
        have d5 := m5 d6.1
        have d4 := m4 d5.1
        have d3 := m3 d4.1
        have d2 := m2 d3.1
        have d1 := m1 d2.1
        rw [← q2] at d1
        have d0 := m0 d1.1
        have D := hD d0.1
        have Uq := hu d0.1
        obtain ⟨j3, y3, X3⟩ := v3 (i + 1 + 1) _ w2 s2 k2' d2.2
        obtain ⟨j5, y5, X5⟩ := v5 (i + 1 + 1 + 1) _ w3 s3 k3 d3.2
        have X7 := v7 (i + 1 + 1 + 1 + 1) _ w4 s4
        have X9 := v9 (i + 1 + 1 + 1 + 1 + 1) _ w5 s5
        rw [ixN_eq Uq y3] at X3
        rw [ixN_eq Uq y5] at X5
        have np : ∀ x j, 60 ≤ x → ¬ p52 x j := fun x j hx => by unfold p52; omega
        have D' : RDt (zm_sI Nb 66 v (nI (Q.2.1.length + 1))) v k nb Q := by
          refine rdt_x D (fun x j hp => ?_) (Nat.le_refl _) (Nat.le_refl _)
          by_cases h64 : 67 ≤ x ∧ x ≤ 70
          · have hj : j < 6 * v + Q.2.1.length := by unfold pD at hp; omega
            have nq := np x j (by omega)
            rw [mI1, if_neg (by omega), fb.2.1 x j (by unfold pN; omega), mI1, if_neg (by omega), f9.2 x j nq, mI1, if_neg (by omega), f7.2 x j nq, mI1, if_neg (by omega), f5.2 x j nq, mI1, if_neg (by omega), f3.2 x j nq, f2.2 x j nq, f1.2 x j (by omega)]
          · unfold pD at hp
            exact g x j (by unfold p52; omega) (by unfold pN; omega) (by omega) (by omega)
        refine ⟨D'.1, fun j x hx => ?_, D'.2.2⟩
        rcases snoc_get hx with ⟨hj, hx'⟩ | ⟨rfl, rfl⟩
        · exact D'.2.1 j x hx'
        · have nn : ∀ x j, 63 ≤ x → ¬ pN x j := fun x j hx => by unfold pN; omega
          refine ⟨?_, ?_, ?_, ?_⟩
          · rw [mI1, if_neg (by omega), fb.2.1 67 _ (nn _ _ (by omega)), mI1, if_neg (by omega), f9.2 67 _ (np _ _ (by omega)), mI1, if_neg (by omega), f7.2 67 _ (np _ _ (by omega)), mI1, if_neg (by omega), f5.2 67 _ (np _ _ (by omega)), mI1, if_pos ⟨rfl, rfl⟩]; exact X3
          · rw [mI1, if_neg (by omega), fb.2.1 68 _ (nn _ _ (by omega)), mI1, if_neg (by omega), f9.2 68 _ (np _ _ (by omega)), mI1, if_neg (by omega), f7.2 68 _ (np _ _ (by omega)), mI1, if_pos ⟨rfl, rfl⟩]; exact X5
          · rw [mI1, if_neg (by omega), fb.2.1 69 _ (nn _ _ (by omega)), mI1, if_neg (by omega), f9.2 69 _ (np _ _ (by omega)), mI1, if_pos ⟨rfl, rfl⟩]; exact X7
          · rw [mI1, if_neg (by omega), fb.2.1 70 _ (nn _ _ (by omega)), mI1, if_pos ⟨rfl, rfl⟩]; exact X9
/-- a number alone -/
theorem r_only {T : Nat → Nat} {n v k nb i s lo hi m : Nat} {N : zm_Mem} {nt : Option (Nat × Nat)} {Q : zQ} {en : List (Nat × Nat × List Nat)} (hn0 : n ≤ 2000) (h : RLs T n N v k nb i nt Q en) (hs : (tkF T n i).1 = s) (hm : (m = 16 ∧ s = 261 ∧ lo = 0 ∧ hi = 100) ∨ (m = 17 ∧ s = 262 ∧ lo = 1 ∧ hi = 3) ∨ (m = 18 ∧ s = 263 ∧ lo = 0 ∧ hi = 9999)) : ∃ N', f_X11_tellOne N = some ((), N') ∧ Fv2 v N N' ∧ RZ T n N' (zOn T n s lo hi (.inr (i, nt))) ∧ ∀ i' nt', zOn T n s lo hi (.inr (i, nt)) = .inr (i', nt') → RLs T n N' v k nb i' nt' (qOn T n Q m i) en := by
  obtain ⟨hZ, ⟨h19, hv⟩, ⟨h48, k1, k2⟩, ⟨h42, hb⟩, ⟨h63, b63⟩, ⟨h66, b66⟩, ⟨h71, b71⟩, hE, hQ, hel, hD⟩ := h
  have hI := rl_I hZ
  have he := hI.1.1.1
  have x9 : N.1 55 i = nI (s - 236) := by
    rw [(hI.1.1.2 i hI.2).1, hs]
    rcases hm with ⟨_, rfl, _, _⟩ | ⟨_, rfl, _, _⟩ | ⟨_, rfl, _, _⟩ <;> rfl
  obtain ⟨N1, e1, f1, z1⟩ := r_zgo hs (by omega) hZ
  obtain ⟨x2, N2, e2, f2, z2, v2⟩ := r_zbound (lo := lo) (hi := hi) hn0 z1 (by omega) (by omega)
  have z3 := rz_sI (x := m + 60) (j := v) (v := x2) z2 (by omega)
  have r4 := fun s h1 h2 => (rs_4 s h1 h2).1
  obtain ⟨N4, e4, f4, z4⟩ := r_zmust (rs := 4) (s := 59) (by omega) (by omega) r4 z3
  have c1 : N1.1 52 19 = nI v := by rw [f1.2 52 19 (by omega)]; exact h19
  refine ⟨N4, ?_, fv_tr (fv_3 f1) (fv_tr (fv_52 f2) (fv_tr (fv_sI (by unfold pV pD; omega)) (fv_3 f4))), z4, fun i' nt' hz => ?_⟩
  · unfold f_X11_tellOne
    simp only [zv_eq]
    rw [hI.1.2.1, zm_ck_t (zm_in_nI (by omega) (by omega)), nI_clamp (by omega), x9]
    rcases hm with ⟨rfl, rfl, rfl, rfl⟩ | ⟨rfl, rfl, rfl, rfl⟩ | ⟨rfl, rfl, rfl, rfl⟩
    · have e2' : f_X11_bounded 0 100 N1 = some (x2, N2) := e2
      have e4' : f_X11_must 4 (zm_sI N2 76 v x2) = some ((), N4) := e4
      rw [if_neg (by decide), if_neg (by decide), if_neg (by decide), if_neg (by decide), if_neg (by decide), if_pos (by decide), e1, zb2_some, e2', zb2_some, c1, zm_ck_t (zm_in_nI (by omega) (by omega)), nI_clamp (by omega), e4', zb2_some]
    · have e2' : f_X11_bounded 1 3 N1 = some (x2, N2) := e2
      have e4' : f_X11_must 4 (zm_sI N2 77 v x2) = some ((), N4) := e4
      rw [if_neg (by decide), if_neg (by decide), if_neg (by decide), if_neg (by decide), if_neg (by decide), if_neg (by decide), if_pos (by decide), e1, zb2_some, e2', zb2_some, c1, zm_ck_t (zm_in_nI (by omega) (by omega)), nI_clamp (by omega), e4', zb2_some]
    · have e2' : f_X11_bounded 0 9999 N1 = some (x2, N2) := e2
      have e4' : f_X11_must 4 (zm_sI N2 78 v x2) = some ((), N4) := e4
      rw [if_neg (by decide), if_neg (by decide), if_neg (by decide), if_neg (by decide), if_neg (by decide), if_neg (by decide), if_neg (by decide), if_pos (by decide), e1, zb2_some, e2', zb2_some, c1, zm_ck_t (zm_in_nI (by omega) (by omega)), nI_clamp (by omega), e4', zb2_some]
  · have z4' : RZ T n N4 (zOn T n s lo hi (.inr (i, nt))) := z4
    rw [hz] at z4'
    unfold zOn at hz
    obtain ⟨i2, n2, w2, s2, _, rfl, _, m2⟩ := zTo_inr hz
    obtain ⟨i1', n1, w1, s1, _, rfl, _, m1⟩ := zTo_inr w2
    obtain ⟨i0, n0, w0, s0, _, rfl, _, m0⟩ := zTo_inr w1
    have ei : i = i0 := congrArg Prod.fst (Sum.inr.inj w0)
    have en' : nt = n0 := congrArg Prod.snd (Sum.inr.inj w0)
    subst ei; subst en'
    have X2 := v2 (i + 1) _ w1 s1
    have g : ∀ x j, ¬ p52 x j → ¬ (x = m + 60 ∧ j = v) → N4.1 x j = N.1 x j := fun x j a b => by
      rw [f4.2 x j (by unfold p52 at a; omega), mI1, if_neg b, f2.2 x j a, f1.2 x j (by unfold p52 at a; omega)]
    have r2 : N4.2 = N.2 := by rw [f4.1]; show N2.2 = _; rw [f2.1, f1.1]
    have gm : N4.1 (m + 60) v = x2 := by rw [f4.2 _ _ (by omega), mI1, if_pos ⟨rfl, rfl⟩]
    refine ⟨z4', ⟨by rw [g 52 19 (by unfold p52; omega) (by omega)]; exact h19, hv⟩, ⟨by rw [g 52 48 (by unfold p52; omega) (by omega)]; exact h48, k1, by omega⟩, ⟨by rw [g 52 42 (by unfold p52; omega) (by omega)]; exact h42, by omega⟩, ⟨by rw [g 63 v (by unfold p52; omega) (by omega)]; exact h63, b63⟩, ⟨by rw [g 66 v (by unfold p52; omega) (by omega)]; exact h66, b66⟩, ⟨by rw [g 71 v (by unfold p52; omega) (by omega)]; exact h71, b71⟩, rnm_x hE (g 52 20 (by unfold p52; omega) (by omega)) (fun x j hx => g x j (by unfold p52; omega) (by omega)) (fun j => by rw [r2]), hQ, hel, fun hnt => ?_⟩
    have D := hD (m0 (m1 (m2 hnt).1).1).1
    obtain ⟨d1, d2, d3, ⟨d4, d5, d6⟩, d7, d8⟩ := D
    have gg : ∀ x j, 61 ≤ x → ¬ (x = m + 60 ∧ j = v) → N4.1 x j = N.1 x j := fun x j a b => g x j (by unfold p52; omega) b
    have f8 : ∀ y j, (y = 86 ∨ y = 87) → 420 * v ≤ j → j < k → N4.1 y j = N.1 y j := fun y j h1 h2 h3 => gg y j (by omega) (by omega)
    have g8 : ∀ y j, 81 ≤ y → y ≤ 85 → 130 * v ≤ j → j < 130 * v + nb → N4.1 y j = N.1 y j := fun y j h1 h2 h3 h4 => gg y j (by omega) (by omega)
    refine ⟨fun j x hx => ?_, fun j x hx => ?_, fun j x hx => ?_, ?_, rlw_x d7 f8 g8 (fun y hy => gg y _ (by omega) (by omega)) (Nat.le_refl _) (Nat.le_refl _), rlw_x d8 f8 g8 (fun y hy => gg y _ (by omega) (by omega)) (Nat.le_refl _) (Nat.le_refl _)⟩
    · rw [gg 64 _ (by omega) (by omega), gg 65 _ (by omega) (by omega)]; exact d1 j x hx
    · rw [gg 67 _ (by omega) (by omega), gg 68 _ (by omega) (by omega), gg 69 _ (by omega) (by omega), gg 70 _ (by omega) (by omega)]; exact d2 j x hx
    · obtain ⟨c1', p, c2, c3, c4, c5, c6, c7, c8⟩ := d3 j x hx
      exact ⟨by rw [gg 72 _ (by omega) (by omega)]; exact c1', p, by rw [gg 73 _ (by omega) (by omega)]; exact c2, by rw [gg 74 _ (by omega) (by omega)]; exact c3, by rw [gg 75 _ (by omega) (by omega)]; exact c4, sm_x c5 f8 c7 (by omega), sm_x c6 f8 (by omega) (by omega), c7, c8⟩
    · unfold qOn
      rcases hm with ⟨rfl, _⟩ | ⟨rfl, _⟩ | ⟨rfl, _⟩
      · rw [if_pos rfl]
        exact ⟨gm.trans X2, by rw [gg 77 v (by omega) (by omega)]; exact d5, by rw [gg 78 v (by omega) (by omega)]; exact d6⟩
      · rw [if_neg (by omega), if_pos rfl]
        exact ⟨by rw [gg 76 v (by omega) (by omega)]; exact d4, gm.trans X2, by rw [gg 78 v (by omega) (by omega)]; exact d6⟩
      · rw [if_neg (by omega), if_neg (by omega)]
        exact ⟨by rw [gg 76 v (by omega) (by omega)]; exact d4, by rw [gg 77 v (by omega) (by omega)]; exact d5, gm.trans X2⟩
