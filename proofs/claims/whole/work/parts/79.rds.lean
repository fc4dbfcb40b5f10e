/-! terms: class -/
def lenZ (tk : Nat → zTk) (Z : zZ) : Nat := Sum.elim (fun _ => 0) (fun p : Nat × Option (Nat × Nat) => (cdX tk p.1).length) Z
def edX (tk : Nat → zTk) (i : Nat) : Nat := Sum.elim (fun _ => 0) (fun p : Nat × zE => p.1) (pX tk 3000 0 0 i)
theorem c_ztakeZ {T : Nat → Nat} {n t cl s : Nat} {M : zm_Mem} {Z : zZ} (hs : ∀ i nt, Z = .inr (i, nt) → (tkF T n i).1 = s) (hs0 : s ≠ 0) (h : CZ T n M t cl Z) : ∃ M', f_X2_take M = some ((), M') ∧ Fp p8 M M' ∧ CZ T n M' t cl (zTo (tkF T n) s 0 noB Z) := by
  cases Z with
  | inr p => exact c_ztake (hs p.1 p.2 rfl) hs0 h
  | inl f =>
    rcases h with ⟨f', j, h', h⟩ | ⟨i', nt', h', h, hi, hcl, hn⟩
    · exact ⟨M, c_takeF' h, fp_rfl _ _, Or.inl ⟨f', j, h', h⟩⟩
    · cases h'
/-- a sum, with all that is known of it -/
theorem c_zsumZ {T : Nat → Nat} {n t cl : Nat} {M : zm_Mem} {Z : zZ} (h : CZ T n M t cl Z) (hc : ∀ i nt, Z = .inr (i, nt) → cl ≤ 4 + i) : ∃ M', f_X2_sumR 64 0 M = some ((), M') ∧ Fp (pF t) M M' ∧ CZ T n M' t (cl + lenZ (tkF T n) Z) (zSm (tkF T n) Z) ∧ ∀ j nt', zSm (tkF T n) Z = .inr (j, nt') → ∃ i, Z = .inr (i, nt') ∧ j = edX (tkF T n) i ∧ iv_sc M' t cl (cdX (tkF T n) i) ∧ Fp (pC t cl) M M' ∧ (cdX (tkF T n) i).length + i ≤ j ∧ i < j ∧ j ≤ 400 ∧ iv_ex (cdX (tkF T n) i) := by
  obtain ⟨M', e, g, a, b⟩ := c_zsum h hc
  refine ⟨M', e, g, ?_, fun j nt' hz => ?_⟩
  · cases Z with
    | inl f => exact b f rfl _
    | inr p => exact (a p.1 p.2 rfl).1
  · obtain ⟨i, rfl, hx⟩ := zSm_inr hz
    obtain ⟨q1, q2, q3, q4, q5⟩ := (a i nt' rfl).2 j nt' hz
    have h400 : i ≤ 400 := by
      obtain ⟨j0, j1, j2, j3, _, _, j6⟩ := cz_at h
      have := j6 i nt' rfl
      have := j3.1
      omega
    refine ⟨i, rfl, ?_, q1, q2, q3, q4, ?_, q5⟩
    · unfold edX; rw [hx]; rfl
    · exact (pX_pr 3000 0 0 i j _ (by omega) h400 hx).2.2.2.1
theorem fp_8C {t cl : Nat} {M M' : zm_Mem} (h : Fp p8 M M') (h7 : M'.1 8 7 = M.1 8 7) (h8 : M'.1 8 8 = M.1 8 8) (h6 : M'.1 8 6 = M.1 8 6) : Fp (pC t cl) M M' := ⟨h.1, fun x j hn => by
  by_cases hp : p8 x j
  · unfold p8 at hp
    unfold pC at hn
    have : x = 8 ∧ (j = 6 ∨ j = 7 ∨ j = 8) := by omega
    obtain ⟨rfl, rfl | rfl | rfl⟩ := this
    · exact h6
    · exact h7
    · exact h8
  · exact h.2 x j hp⟩
def zTe (T : Nat → Nat) (n : Nat) (Q : zQ) (Z : zZ) : zZ := zTo (tkF T n) 59 0 noB (zSm (tkF T n) (zTo (tkF T n) 60 0 noB (zSm (tkF T n) (zTo (tkF T n) 2 4 (notB T n (nmW Q.2.1)) (zTo (tkF T n) 258 0 noB Z)))))
def qTe (T : Nat → Nat) (n : Nat) (Q : zQ) (i : Nat) : zQ := (Q.1, Q.2.1, Q.2.2.1 ++ [(ixN (nmW Q.2.1) (tkF T n (i + 1)).2.2.1, cdX (tkF T n) (i + 2), cdX (tkF T n) (edX (tkF T n) (i + 2) + 1))], Q.2.2.2)
def clTe (T : Nat → Nat) (n cl i : Nat) : Nat := cl + (cdX (tkF T n) (i + 2)).length + 1 + (cdX (tkF T n) (edX (tkF T n) (i + 2) + 1)).length + 1
theorem c_term {T : Nat → Nat} {n t cl i : Nat} {M : zm_Mem} {nt : Option (Nat × Nat)} {Q : zQ} (h : CL T n M t cl i nt Q) (hu : nt = none → uqL (nmW Q.2.1)) (hs : (tkF T n i).1 = 258) (hH : Q.2.2.1.length < 6) : ∃ M', f_X2_tellTerm M = some ((), M') ∧ Fc t M M' ∧ (∃ c, CZ T n M' t c (zTe T n Q (.inr (i, nt)))) ∧ ∀ i' nt', zTe T n Q (.inr (i, nt)) = .inr (i', nt') → CL T n M' t (clTe T n cl i) i' nt' (qTe T n Q i) ∧ iv_ex (cdX (tkF T n) (i + 2)) ∧ iv_ex (cdX (tkF T n) (edX (tkF T n) (i + 2) + 1)) := by
  obtain ⟨hZ, hcl, ⟨h11, b11⟩, ⟨h12, b12⟩, ⟨h13, b13⟩, c9, c10, hD⟩ := h
  obtain ⟨ht, h83, hT⟩ := cz_t hZ
  have lW := len_nmW Q.2.1
  obtain ⟨M1, e1, f1, z1⟩ := c_ztake hs (by omega) hZ
  have b1 : M1.1 t 12 = nI (nmW Q.2.1).length := by rw [f1.2 t 12 (by unfold p8; omega), lW]; exact h12
  obtain ⟨x2, M2, e2, f2, z2, v2⟩ := c_ztold (r := 10) (NL := nmW Q.2.1) z1 (Or.inr rfl) (by rw [lW]; exact b12) (by unfold CN; rw [f1.1]; exact c10)
  have z3 := cz_sI (x := t + 7) (j := Q.2.2.1.length) (v := x2) z2 (by omega) (by omega)
  generalize hM3 : zm_sI M2 (t + 7) Q.2.2.1.length x2 = M3 at z3
  have z4 := cz_sI (x := t + 8) (j := Q.2.2.1.length) (v := M3.1 t 10) z3 (by omega) (by omega)
  generalize hM4 : zm_sI M3 (t + 8) Q.2.2.1.length (M3.1 t 10) = M4 at z4
  have i2 : ∀ i2 n2, zTo (tkF T n) 2 4 (notB T n (nmW Q.2.1)) (zTo (tkF T n) 258 0 noB (.inr (i, nt))) = .inr (i2, n2) → i2 = i + 2 := fun i2 n2 hz => by
    obtain ⟨i1', n1, w1, s1, k1, rfl, _, m1⟩ := zTo_inr hz
    obtain ⟨i0, n0, w0, s0, k0, rfl, _, m0⟩ := zTo_inr w1
    have ei : i = i0 := congrArg Prod.fst (Sum.inr.inj w0)
    omega
  obtain ⟨M5, e5, f5, z5, v5⟩ := c_zsumZ z4 (fun i' n' hz => by have := i2 i' n' hz; omega)
  have i5 : ∀ j n', zSm (tkF T n) (zTo (tkF T n) 2 4 (notB T n (nmW Q.2.1)) (zTo (tkF T n) 258 0 noB (.inr (i, nt)))) = .inr (j, n') → cl + lenZ (tkF T n) (zTo (tkF T n) 2 4 (notB T n (nmW Q.2.1)) (zTo (tkF T n) 258 0 noB (.inr (i, nt)))) + 2 ≤ 4 + j ∧ j ≤ 400 := fun j n' hz => by
    obtain ⟨i', hz', _, _, _, a1, a2, a3, _⟩ := v5 j n' hz
    have := i2 i' n' hz'
    rw [hz']
    show cl + (cdX (tkF T n) i').length + 2 ≤ 4 + j ∧ j ≤ 400
    omega
  obtain ⟨M6, e6, f6, z6, v6⟩ := c_zput (x := 7) (y := 0) (by omega) (by omega) z5 (fun j n' hz => by have := i5 j n' hz; omega)
  obtain ⟨M7, e7, f7, z7⟩ := c_zexp (s := 60) (by omega) (by omega) z6
  have z8 := cz_sI (x := t + 9) (j := Q.2.2.1.length) (v := M7.1 t 10) z7 (by omega) (by omega)
  generalize hM8 : zm_sI M7 (t + 9) Q.2.2.1.length (M7.1 t 10) = M8 at z8
  obtain ⟨M9, e9, f9, z9, v9⟩ := c_zsumZ z8 (fun i' n' hz => by
    obtain ⟨j, nj, w, _, _, rfl, _, _⟩ := zTo_inr hz
    have := i5 j nj w; omega)
  obtain ⟨Ma, ea, fa, za, va⟩ := c_zput (x := 7) (y := 0) (by omega) (by omega) z9 (fun j n' hz => by
    obtain ⟨i', hz', _, _, _, a1, a2, a3, _⟩ := v9 j n' hz
    obtain ⟨j5, nj, w, _, _, rfl, _, _⟩ := zTo_inr hz'
    have := i5 j5 nj w
    rw [hz']
    show cl + lenZ (tkF T n) _ + 1 + (cdX (tkF T n) (j5 + 1)).length < 408
    omega)
  obtain ⟨Mb, eb, fb, zb⟩ := c_zexp (s := 59) (by omega) (by omega) za
  have zc := cz_sI (x := t) (j := 13) (v := Mb.1 t 13 + 1) zb (by omega) (by omega)
  refine ⟨zm_sI Mb t 13 (Mb.1 t 13 + 1), ?_, ?_, ⟨_, zc⟩, fun i' nt' hz => ?_⟩
  · unfold f_X2_tellTerm
    simp only [zv_eq]
    have ck : zm_in (nI Q.2.2.1.length) 6 = true := zm_in_nI (by omega) (by omega)
    have e6' : f_X8_put t 7 0 M5 = some ((), M6) := e6
    have e7' : f_X2_expect 60 M6 = some ((), M7) := e7
    have ea' : f_X8_put t 7 0 M9 = some ((), Ma) := ea
    have eb' : f_X2_expect 59 Ma = some ((), Mb) := eb
    rw [h83, hT, zk_true, h13, if_pos (show nI Q.2.2.1.length < (6 : Int32) from nI_lt (b := 6) hH (by omega)), e1, zb2_some, (cz_t z1).2.1, hT, zk_true, zk_true, b1, e2, zb2_some, ck, zk_true, nI_clamp (by omega), hM3, (cz_t z3).2.1, hT, zk_true, zk_true, zk_true, hM4, e5, zb2_some, (cz_t z5).2.1, hT, zk_true, e6', zb2_some, e7', zb2_some, (cz_t z7).2.1, hT, zk_true, zk_true, zk_true, hM8, e9, zb2_some, (cz_t z9).2.1, hT, zk_true, ea', zb2_some, eb', zb2_some, (cz_t zb).2.1, hT, zk_true]
  · rw [← hM4, ← hM3] at f5
    rw [← hM8] at f9
    exact fc_tr (fc_8 f1) (fc_tr (fc_8 f2) (fc_tr (fc_sI (by unfold pF; omega)) (fc_tr (fc_sI (by unfold pF; omega)) (fc_tr (fc_fp f5) (fc_tr (fc_fp f6) (fc_tr (fc_8 f7) (fc_tr (fc_sI (by unfold pF; omega)) (fc_tr (fc_fp f9) (fc_tr (fc_fp fa) (fc_tr (fc_8 fb) (fc_sI (by unfold pF; omega))))))))))))
  · have hz0 := hz
    unfold zTe at hz
    obtain ⟨jb, nb, wb, sb, kb, rfl, _, mb⟩ := zTo_inr hz
    obtain ⟨j7, w7, E9, g9, F9, u1, u2, u3, ex9⟩ := v9 jb nb wb
    obtain ⟨j5, n5, w5, s5, k5, rfl, _, m5⟩ := zTo_inr w7
    obtain ⟨j4, w4, E5, g5, F5, u4, u5, u6, ex5⟩ := v5 j5 n5 w5
    have ej := i2 j4 n5 w4
    subst ej
    obtain ⟨i1', n1, w1, s1, k1, ei1, _, m1⟩ := zTo_inr w4
    obtain ⟨i0, n0, w0, s0, k0, ei0, _, m0⟩ := zTo_inr w1
    have ei : i = i0 := congrArg Prod.fst (Sum.inr.inj w0)
    have en : nt = n0 := congrArg Prod.snd (Sum.inr.inj w0)
    subst ei; subst en
    obtain ⟨g6, F6⟩ := v6 j5 n5 w5
    obtain ⟨ga, Fa⟩ := va jb nb wb
    have L5 : lenZ (tkF T n) (zTo (tkF T n) 2 4 (notB T n (nmW Q.2.1)) (zTo (tkF T n) 258 0 noB (.inr (i, nt)))) = (cdX (tkF T n) (i + 2)).length := by rw [w4]; rfl
    have L9 : lenZ (tkF T n) (zTo (tkF T n) 60 0 noB (zSm (tkF T n) (zTo (tkF T n) 2 4 (notB T n (nmW Q.2.1)) (zTo (tkF T n) 258 0 noB (.inr (i, nt)))))) = (cdX (tkF T n) (j5 + 1)).length := by
      rw [show zTo (tkF T n) 60 0 noB (zSm (tkF T n) (zTo (tkF T n) 2 4 (notB T n (nmW Q.2.1)) (zTo (tkF T n) 258 0 noB (.inr (i, nt))))) = .inr (j5 + 1, nb) from w7]; rfl
    rw [L5] at z5 z6 z7 z8 z9 za zb zc g6 F6 g9 F9 ga Fa v9
    rw [L9] at z9 za zb zc ga Fa
    have hcT : clTe T n cl i = cl + (cdX (tkF T n) (i + 2)).length + 1 + (cdX (tkF T n) (j5 + 1)).length + 1 := by unfold clTe; rw [← E5]
    have zc' : CZ T n (zm_sI Mb t 13 (Mb.1 t 13 + 1)) t (clTe T n cl i) (zTe T n Q (.inr (i, nt))) := by rw [hcT]; exact zc
    rw [hz0] at zc'
    -- what stayed
    have P : ∀ x j, ¬ p8 x j → ¬ (x = t ∧ j = 10) → ¬ (x = t + 10 ∧ cl ≤ j) → x ≠ t + 7 → x ≠ t + 8 → x ≠ t + 9 → Mb.1 x j = M.1 x j := fun x j a1 a2 a3 a4 a5 a6 => by
      have nC1 : ∀ c, cl ≤ c → ¬ pC t c x j := fun c hc => by unfold pC; unfold p8 at a1; omega
      have nP1 : ∀ c, cl ≤ c → ¬ pP t c x j := fun c hc => by unfold pP; omega
      rw [fb.2 x j a1, Fa.2 x j (nP1 _ (by omega)), F9.2 x j (nC1 _ (by omega)), ← hM8, mI1, if_neg (by omega), f7.2 x j a1, F6.2 x j (nP1 _ (by omega)), F5.2 x j (nC1 _ (by omega)), ← hM4, mI1, if_neg (by omega), ← hM3, mI1, if_neg (by omega), f2.2 x j a1, f1.2 x j a1]
    have R2 : Mb.2 = M.2 := by
      rw [fb.1, Fa.1, F9.1, ← hM8]
      show M7.2 = _
      rw [f7.1, F6.1, F5.1, ← hM4]
      show M3.2 = _
      rw [← hM3]
      show M2.2 = _
      rw [f2.1, f1.1]
    have g : ∀ x j, ¬ p8 x j → ¬ (x = t ∧ j = 10) → ¬ (x = t + 10 ∧ cl ≤ j) → x ≠ t + 7 → x ≠ t + 8 → x ≠ t + 9 → ¬ (x = t ∧ j = 13) → (zm_sI Mb t 13 (Mb.1 t 13 + 1)).1 x j = M.1 x j := fun x j a1 a2 a3 a4 a5 a6 a7 => by
      rw [mI1, if_neg a7]; exact P x j a1 a2 a3 a4 a5 a6
    have e13 : Mb.1 t 13 = nI Q.2.2.1.length := by rw [P t 13 (by unfold p8; omega) (by omega) (by omega) (by omega) (by omega) (by omega)]; exact h13
    have lq : (qTe T n Q i).2.2.1.length = Q.2.2.1.length + 1 := by unfold qTe; rw [List.length_append]; rfl
    refine ⟨⟨zc', by rw [hcT]; omega, ⟨by rw [g t 11 (by unfold p8; omega) (by omega) (by omega) (by omega) (by omega) (by omega) (by omega)]; exact h11, b11⟩, ⟨by rw [g t 12 (by unfold p8; omega) (by omega) (by omega) (by omega) (by omega) (by omega) (by omega)]; exact h12, b12⟩, ⟨by rw [mI1, if_pos ⟨rfl, rfl⟩, e13, nI_k1, lq], by rw [lq]; omega⟩, cn_x c9 (fun j hj => by show Mb.2.1 9 j = _; rw [R2]), cn_x c10 (fun j hj => by show Mb.2.1 10 j = _; rw [R2]), fun hnt => ?_⟩, ex5, by rw [← E5]; exact ex9⟩
    have d5 := m5 (mb hnt).1
    have d1 := m1 d5.1
    have d0 := m0 d1.1
    have D := hD d0.1
    have U := hu d0.1
    rw [ei0] at s1 d1 ei1
    obtain ⟨jw, yw, X2⟩ := v2 (i + 1) n1 (by rw [← ei0]; exact w1) s1 d1.2
    rw [ixN_eq U yw] at X2
    -- the new term's cells
    have t10 : M3.1 t 10 = nI cl := by
      rcases z3 with ⟨_, _, q, _⟩ | ⟨i', n', q, hq, _⟩
      · rw [w4] at q; cases q
      · exact hq.2.2.2.2.2
    have t10' : M7.1 t 10 = nI (cl + (cdX (tkF T n) (i + 2)).length + 1) := by
      rcases z7 with ⟨_, _, q, _⟩ | ⟨i', n', q, hq, _⟩
      · rw [show zTo (tkF T n) 60 0 noB (zSm (tkF T n) (zTo (tkF T n) 2 4 (notB T n (nmW Q.2.1)) (zTo (tkF T n) 258 0 noB (.inr (i, nt))))) = .inr (j5 + 1, nb) from w7] at q; cases q
      · exact hq.2.2.2.2.2
    have np : ∀ x j, ¬ p8 (t + x) j := fun x j => by unfold p8; omega
    have nk : ∀ x c, x < 10 → 0 < x → ¬ pC t c (t + x) Q.2.2.1.length := fun x c hx h0 => by unfold pC; omega
    have nl : ∀ x c, x < 10 → 0 < x → ¬ pP t c (t + x) Q.2.2.1.length := fun x c hx h0 => by unfold pP; omega
    have K7 : (zm_sI Mb t 13 (Mb.1 t 13 + 1)).1 (t + 7) Q.2.2.1.length = x2 := by
      rw [mI1, if_neg (by omega), fb.2 _ _ (np 7 _), Fa.2 _ _ (nl 7 _ (by omega) (by omega)), F9.2 _ _ (nk 7 _ (by omega) (by omega)), ← hM8, mI1, if_neg (by omega), f7.2 _ _ (np 7 _), F6.2 _ _ (nl 7 _ (by omega) (by omega)), F5.2 _ _ (nk 7 _ (by omega) (by omega)), ← hM4, mI1, if_neg (by omega), ← hM3, mI1, if_pos ⟨rfl, rfl⟩]
    have K8 : (zm_sI Mb t 13 (Mb.1 t 13 + 1)).1 (t + 8) Q.2.2.1.length = nI cl := by
      rw [mI1, if_neg (by omega), fb.2 _ _ (np 8 _), Fa.2 _ _ (nl 8 _ (by omega) (by omega)), F9.2 _ _ (nk 8 _ (by omega) (by omega)), ← hM8, mI1, if_neg (by omega), f7.2 _ _ (np 8 _), F6.2 _ _ (nl 8 _ (by omega) (by omega)), F5.2 _ _ (nk 8 _ (by omega) (by omega)), ← hM4, mI1, if_pos ⟨rfl, rfl⟩]; exact t10
    have K9 : (zm_sI Mb t 13 (Mb.1 t 13 + 1)).1 (t + 9) Q.2.2.1.length = nI (cl + (cdX (tkF T n) (i + 2)).length + 1) := by
      rw [mI1, if_neg (by omega), fb.2 _ _ (np 9 _), Fa.2 _ _ (nl 9 _ (by omega) (by omega)), F9.2 _ _ (nk 9 _ (by omega) (by omega)), ← hM8, mI1, if_pos ⟨rfl, rfl⟩]; exact t10'
    have stay : ∀ j, j < cl + (cdX (tkF T n) (i + 2)).length + 1 → (zm_sI Mb t 13 (Mb.1 t 13 + 1)).1 (t + 10) j = M6.1 (t + 10) j := fun j hj => by
      rw [mI1, if_neg (by omega), fb.2 _ _ (np 10 _), Fa.2 _ _ (by unfold pP; omega), F9.2 _ _ (by unfold pC; omega), ← hM8, mI1, if_neg (by omega), f7.2 _ _ (np 10 _)]
    have stay2 : ∀ j, j < cl + (cdX (tkF T n) (i + 2)).length + 1 + (cdX (tkF T n) (j5 + 1)).length + 1 → (zm_sI Mb t 13 (Mb.1 t 13 + 1)).1 (t + 10) j = Ma.1 (t + 10) j := fun j hj => by
      rw [mI1, if_neg (by omega), fb.2 _ _ (np 10 _)]
    have S1 : iv_sc M6 t cl (cdX (tkF T n) (i + 2) ++ [(7, 0)]) := sc_app (sc_fp g5 (fp_PC F6) (Nat.le_refl _) ht) g6
    have S2 : iv_sc Ma t (cl + (cdX (tkF T n) (i + 2)).length + 1) (cdX (tkF T n) (j5 + 1) ++ [(7, 0)]) := sc_app (sc_fp g9 (fp_PC Fa) (Nat.le_refl _) ht) ga
    have D' : CDt (zm_sI Mb t 13 (Mb.1 t 13 + 1)) t (clTe T n cl i) Q := by
      refine cdt_x D (fun x j a1 a2 a3 => g x j (by unfold p8; omega) (by omega) (by omega) (by omega) (by omega) (by omega) (by omega)) (fun x j a1 a2 a3 => g x j (by unfold p8; omega) (by omega) (by omega) (by omega) (by omega) (by omega) (by omega)) (fun x j a1 a2 a3 => ?_) (fun j a1 a2 => g t j (by unfold p8; omega) (by omega) (by omega) (by omega) (by omega) (by omega) (by omega)) (fun j _ => g (t + 10) j (by unfold p8; omega) (by omega) (by omega) (by omega) (by omega) (by omega) (by omega)) (by rw [hcT]; omega)
      have nq : ¬ p8 x j := by unfold p8; omega
      have nC1 : ∀ c, ¬ pC t c x j := fun c => by unfold pC; omega
      have nP1 : ∀ c, ¬ pP t c x j := fun c => by unfold pP; omega
      rw [mI1, if_neg (by omega), fb.2 x j nq, Fa.2 x j (nP1 _), F9.2 x j (nC1 _), ← hM8, mI1, if_neg (by omega), f7.2 x j nq, F6.2 x j (nP1 _), F5.2 x j (nC1 _), ← hM4, mI1, if_neg (by omega), ← hM3, mI1, if_neg (by omega), f2.2 x j nq, f1.2 x j nq]
    refine ⟨D'.1, D'.2.1, fun j x hx => ?_, D'.2.2.2⟩
    rcases snoc_get hx with ⟨hj, hx'⟩ | ⟨rfl, rfl⟩
    · exact D'.2.2.1 j x hx'
    · refine ⟨K7.trans X2, cl, cl + (cdX (tkF T n) (i + 2)).length + 1, K8, K9, sc_x S1 stay (by rw [List.length_append]; show cl + ((cdX (tkF T n) (i + 2)).length + 1) ≤ _; omega), ?_, ?_, ?_⟩
      · show iv_sc _ t _ (cdX (tkF T n) (edX (tkF T n) (i + 2) + 1) ++ [(7, 0)])
        rw [← E5]
        exact sc_x S2 stay2 (by rw [List.length_append]; show _ + ((cdX (tkF T n) (j5 + 1)).length + 1) ≤ _; omega)
      · show cl + (cdX (tkF T n) (i + 2)).length < _
        rw [hcT]; omega
      · show _ + (cdX (tkF T n) (edX (tkF T n) (i + 2) + 1)).length < _
        rw [← E5, hcT]; omega
