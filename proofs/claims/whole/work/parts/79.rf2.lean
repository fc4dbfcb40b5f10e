/-! reading -/
theorem pS_V {v x j : Nat} (h : 63 ≤ x) (hp : pS0 v x j) : pV v x j := by
  rcases hp with ⟨a, b⟩ | ⟨a, b⟩ | ⟨a, b⟩ | ⟨a, b, c⟩
  · omega
  · omega
  · by_cases h' : x = 63 ∨ x = 66 ∨ x = 71
    · exact Or.inr (Or.inr (Or.inr (Or.inr (Or.inl ⟨h', b⟩))))
    · exact Or.inr (Or.inr (Or.inr (Or.inr (Or.inr (Or.inr (Or.inr (Or.inr (Or.inl ⟨by omega, by omega, b⟩))))))))
  · exact Or.inr (Or.inr (Or.inr (Or.inr (Or.inr (Or.inr (Or.inr (Or.inr (Or.inr (Or.inl ⟨a, b, c⟩)))))))))
theorem nV_lo {v x j : Nat} (h : x < 52 ∨ (52 < x ∧ x < 61) ∨ 89 ≤ x) : ¬ pV v x j := fun z => by
  rcases z with ⟨a, b⟩ | a | a | a | ⟨a, b⟩ | a
  · omega
  · omega
  · omega
  · omega
  · omega
  · rcases a with ⟨a, b, c⟩ | ⟨a, b, c, d⟩ | ⟨a, b, c, d⟩ | ⟨a, b, c⟩ | ⟨a, b, c⟩ | ⟨a, b, c, d⟩ | ⟨a, b, c⟩ <;> omega
theorem nV_52 {v j : Nat} (h : ¬ ((11 ≤ j ∧ j ≤ 16) ∨ j = 20 ∨ j = 42 ∨ j = 48 ∨ j = 52)) : ¬ pV v 52 j := fun z => by
  rcases z with ⟨a, b⟩ | a | a | a | ⟨a, b⟩ | a
  · omega
  · omega
  · omega
  · omega
  · omega
  · rcases a with ⟨a, b, c⟩ | ⟨a, b, c, d⟩ | ⟨a, b, c, d⟩ | ⟨a, b, c⟩ | ⟨a, b, c⟩ | ⟨a, b, c, d⟩ | ⟨a, b, c⟩ <;> omega
theorem nS_lo {v x j : Nat} (h : x < 52 ∨ x = 53 ∨ 81 ≤ x) : ¬ pS0 v x j := fun z => by
  rcases z with ⟨a, b⟩ | ⟨a, b⟩ | ⟨a, b⟩ | ⟨a, b, c⟩ <;> omega
theorem nS_52 {v j : Nat} (h : ¬ (j = 2 ∨ j = 4 ∨ (10 ≤ j ∧ j ≤ 15) ∨ j = 19 ∨ j = 20 ∨ j = 42 ∨ j = 48)) : ¬ pS0 v 52 j := fun z => by
  rcases z with ⟨a, b⟩ | ⟨a, b⟩ | ⟨a, b⟩ | ⟨a, b, c⟩ <;> omega
theorem nF_x {t x j : Nat} (ht : t = 25 ∨ t = 36) (h : (x < 8) ∨ (9 ≤ x ∧ x ≤ 24) ∨ 47 ≤ x) : ¬ pF t x j := by unfold pF; omega
theorem rest_keep {M F : zm_Mem} {t q n : Nat} {D : zD} {S : Nat → Nat} (hX : Rx M t D S q n) (G : ∀ x j, (9 ≤ x ∧ x ≤ 24) ∨ 89 ≤ x → F.1 x j = M.1 x j) (g1 : ∀ j, j = 13 ∨ j = 14 → F.1 1 j = M.1 1 j) (g52 : F.1 52 59 = M.1 52 59 ∧ F.1 52 65 = M.1 52 65) (gl : ∀ x j, x = 7 ∨ x = 59 ∨ 100 ≤ x → F.2.1 x j = M.2.1 x j) (gp : ∀ x j, x ≠ 8 → F.2.2 x j = M.2.2 x j) (ta : iv_tape F) (pl : F.1 1 16 = F.1 52 17) : Rx F t D S q (n + 1) := by
  obtain ⟨x1, x2, x3, x4, x5, x6, x7, x8, x9, x10, x11⟩ := hX
  have row : ∀ x, (9 ≤ x ∧ x ≤ 24) ∨ 89 ≤ x → F.1 x = M.1 x := fun x h => funext fun j => G x j h
  have rowl : ∀ x, 100 ≤ x → F.2.1 x = M.2.1 x := fun x h => funext fun j => gl x j (by omega)
  refine ⟨by rw [gp 1 10 (by omega)]; exact x1, by rw [gp 1 11 (by omega), gp 1 12 (by omega)]; exact x2, ta, pl, fun j hj => by rw [gl 7 j (by omega), gl 59 j (by omega)]; exact x5 j hj, ?_, ?_, ?_, ?_, ?_, by rw [gp 47 2 (by omega)]; exact x11⟩
  · obtain ⟨s, x, h1, h2, h3, h4, h5, h6⟩ := iv_past_mono x6
    refine ⟨s, x, h1, h2, by rw [G 13 2 (by omega)]; exact h3, by rw [g52.1]; exact h4, by rw [G 13 1 (by omega)]; exact h5, fun i hi => ?_⟩
    rw [row 14 (by omega), row 93 (by omega)]; exact h6 i hi
  · obtain ⟨a, h1, h2, h3⟩ := iv_held_mono x7
    refine ⟨a, h1, by rw [g1 14 (by omega)]; exact h2, fun s hs => ?_⟩
    rw [row 101 (by omega), row 15 (by omega), row 102 (by omega)]; exact h3 s hs
  · obtain ⟨s, h1, h2, h3, h4⟩ := x8
    refine ⟨s, h1, by rw [G 16 7 (by omega)]; exact h2, by rw [g52.2]; exact h3, fun i hi => ?_⟩
    rw [row 17 (by omega), row 18 (by omega), row 19 (by omega), row 98 (by omega), row 99 (by omega), row 100 (by omega)]; exact h4 i hi
  · rw [g1 13 (by omega)]
    rcases x9 with h | ⟨h1, h2, h3⟩
    · exact Or.inl h
    · refine Or.inr ⟨h1, h2, ?_⟩
      obtain ⟨Ma, M0, M1, s, v, n', k1, k2, k3, k4, k5, k6, k7, k8, k9, k10, k11, k12⟩ := h3
      exact ⟨Ma, M0, M1, s, v, n', k1, k2, k3, k4, k5, k6, k7, (row 103 (by omega)).trans k8, (rowl 103 (by omega)).trans k9, (rowl 104 (by omega)).trans k10, (rowl 105 (by omega)).trans k11, (row 108 (by omega)).trans k12⟩
  · rw [row 109 (by omega), row 110 (by omega)]; exact x10
theorem ag_read {M : zm_Mem} {q n : Nat} (hI : Inv M q n) (hn : n < 512) : Ag (f_X10_read M) (fun M1 => f_X11_read M1) q n := by
  obtain ⟨t, v, D, S, hC, hX⟩ := hI
  have hX' := hX
  obtain ⟨x1, x2, x3, x4, x5, x6, x7, x8, x9, x10, x11⟩ := hX'
  have hT := hC.2.2.1
  have ht := hC.1
  have hv := tT_v hT
  obtain ⟨t', et'⟩ : ∃ t', t' = 61 - t := ⟨_, rfl⟩
  obtain ⟨v', ev'⟩ : ∃ v', v' = 1 - v := ⟨_, rfl⟩
  have htt : (t = 25 ∧ t' = 36) ∨ (t = 36 ∧ t' = 25) := by omega
  have ht' : t' = 25 ∨ t' = 36 := by omega
  have hvv : v + v' = 1 := by omega
  rw [← et'] at x1
  obtain ⟨n0, T, hn0, h15, h2, hTC, hb⟩ := tape_T x3
  obtain ⟨A, cA, run, pA, lA, iA, a15⟩ := c_start hn0 htt x5 h15 hTC x1
  obtain ⟨Nd, _, Rd, _, _, _, _⟩ := r_start hn0 hvv x5 h2 hb (tT_live hT)
  obtain ⟨M', Nd', l1, _, fM, _, cs1⟩ := both_loop hn0 401 0 0 A Nd none (by omega) (by omega) ⟨4, _, 0, Q0, [], cA, Rd, p_Q0⟩
  have l1' : zm_lp (fun s : Int32 × zm_Mem => f_X2_compile_l34 s.1 s.2) (0, A) = some M' := l1
  -- the class's memory behind its compiling
  have back : ∀ r pl M28, E3 T n0 M' t' r pl → f_X2_compile_b215 M' = some (nI r, M28) → Fp (fun x j => x = 8 ∧ (j = 5 ∨ j = 6)) M' M28 → (∀ x j, ¬ (3 ≤ x ∧ x ≤ 6) → ¬ (x = 1 ∧ j = 15) → ¬ pF t' x j → M28.1 x j = M.1 x j) ∧ (∀ x j, ¬ (3 ≤ x ∧ x ≤ 6) → x ≠ 9 → x ≠ 10 → M28.2.1 x j = M.2.1 x j) ∧ (∀ x j, x ≠ 8 → M28.2.2 x j = M.2.2 x j) ∧ M28.1 1 15 = 0 := fun r pl M28 _ _ f => by
    refine ⟨fun x j a b c => ?_, fun x j a b c => ?_, fun x j a => ?_, ?_⟩
    · rw [f.2 x j (fun z => c (Or.inr ⟨z.1, by omega, by omega⟩)), fM.2.1 x j c, iA x j a b c]
    · rw [f.1, fM.2.2 x j b c, lA x j a]
    · rw [f.1, fM.1, pA x j (fun z => a (congrArg Prod.fst z).symm)]
    · rw [f.2 1 15 (by omega), fM.2.1 1 15 (nF_x ht' (by omega))]; exact a15
  -- the reference, behind the class
  have second : ∀ M1 : zm_Mem, iv_words M1 → M1.1 52 2 = nI n0 → (∀ j, M1.1 53 j = M.1 53 j) → M1.1 52 18 = nI v → ∃ N N', f_X11_read M1 = f_X11_read_b134 N' ∧ Fv2 v' N N' ∧ N.2.2 = M1.2.2 ∧ (∀ x j, ¬ pS0 v' x j → N.1 x j = M1.1 x j) ∧ (∀ x j, ¬ (52 ≤ x ∧ x ≤ 58) → N.2.1 x j = M1.2.1 x j) ∧ N.1 52 2 = 0 ∧ ((∃ f j, CF M' t' (tkF T n0) (tkE T n0) j f ∧ RF N' (tkF T n0) (tkE T n0) j f) ∨ ∃ i' nt', JJ T n0 M' N' t' v' i' nt') := fun M1 w1 w2 w3 w4 => by
    obtain ⟨N, eN, RN, pN, iN, lN, n2⟩ := r_start hn0 hvv w1 w2 (fun j hj => by rw [w3]; exact hb j hj) w4
    obtain ⟨M'', N', k1, k2, _, fN, cs2⟩ := both_loop hn0 401 0 0 A N none (by omega) (by omega) ⟨4, _, 0, Q0, [], cA, RN, p_Q0⟩
    have eM : M' = M'' := Option.some.inj (l1.symm.trans k1)
    subst eM
    exact ⟨N, N', by rw [eN, k2]; rfl, fN, pN, iN, lN, n2, cs2⟩
  rcases e3_of cs1 with ⟨r, pl, hr, hE, _⟩ | ⟨i1, J1, hE, _, _, _⟩
  · -- a fault or a note: all stays
    obtain ⟨r9, M28, b28, c86, f28⟩ := e3_run hE
    obtain ⟨B1, B2, B3, B4⟩ := back r pl M28 hE b28 f28
    have rn := run M' (nI r) M28 l1' b28
    rw [if_neg (nI_ne0 hr (by omega)), c86] at rn
    generalize hM1 : zm_sI M28 1 16 pl = M1 at rn
    have i1 : ∀ x j, ¬ (x = 1 ∧ j = 16) → M1.1 x j = M28.1 x j := fun x j a => by rw [← hM1, mI1, if_neg a]
    have s1 : M1.2 = M28.2 := by rw [← hM1]; rfl
    have J1 : ∀ x j, ¬ (3 ≤ x ∧ x ≤ 6) → ¬ (x = 1 ∧ (j = 15 ∨ j = 16)) → ¬ pF t' x j → M1.1 x j = M.1 x j := fun x j a b c => by rw [i1 x j (by omega), B1 x j a (by omega) c]
    obtain ⟨N, N', eN, fN, pN, iN, lN, n2, cs2⟩ := second M1 (fun j hj => by rw [s1, B2 7 j (by omega) (by omega) (by omega), B2 59 j (by omega) (by omega) (by omega)]; exact x5 j hj) (by rw [J1 52 2 (by omega) (by omega) (nF_x ht' (by omega))]; exact h2) (fun j => J1 53 j (by omega) (by omega) (nF_x ht' (by omega))) (by rw [J1 52 18 (by omega) (by omega) (nF_x ht' (by omega))]; exact tT_live hT)
    rcases e3_of cs2 with ⟨r', pl', _, hE', bN⟩ | ⟨i', _, hE', _⟩
    · obtain ⟨er, ep⟩ := e3_eq hE hE'
      subst er; subst ep
      have F0 : ∀ x j, ¬ (3 ≤ x ∧ x ≤ 6) → ¬ (x = 1 ∧ (j = 15 ∨ j = 16)) → ¬ pF t' x j → ¬ pS0 v' x j → ¬ pV v' x j → ¬ (x = 52 ∧ j = 17) → (zm_sI N' 52 17 pl).1 x j = M.1 x j := fun x j a b c d e f => by
        rw [mI1, if_neg f, fN.2.1 x j e, iN x j d, J1 x j a b c]
      refine ⟨nI r, M1, zm_sI N' 52 17 pl, rn, ?_, t, v, D, S, ⟨ht, ?_, ?_, ?_⟩, ?_⟩
      · show f_X11_read M1 = _
        rw [eN, bN]
      · show N'.2.2 1 9 = t
        rw [fN.1, pN, s1, B3 1 9 (by omega)]; exact hC.2.1
      · refine iT_side hvv hT (fun x j a b => F0 x j (by omega) (by omega) (by unfold pF; omega) (nS_lo (by omega)) (nV_lo (by omega)) (by omega)) (fun x j a b c => F0 x j (by omega) (by omega) (nF_x ht' (by omega)) (fun z => c (pS_V a z)) c (by omega)) (F0 52 18 (by omega) (by omega) (nF_x ht' (by omega)) (nS_52 (by omega)) (nV_52 (by omega)) (by omega))
      · have e12 : (zm_sI N' 52 17 pl).1 12 = M.1 12 := funext fun j => F0 12 j (by omega) (by omega) (nF_x ht' (by omega)) (nS_lo (by omega)) (nV_lo (by omega)) (by omega)
        have e91 : (zm_sI N' 52 17 pl).1 91 = M.1 91 := funext fun j => F0 91 j (by omega) (by omega) (nF_x ht' (by omega)) (nS_lo (by omega)) (nV_lo (by omega)) (by omega)
        rw [e12, e91]; exact iv_R_mono hC.2.2.2
      · refine rest_keep hX (fun x j a => F0 x j (by omega) (by omega) (nF_x ht' (by omega)) (nS_lo (by omega)) (nV_lo (by omega)) (by omega)) (fun j a => F0 1 j (by omega) (by omega) (nF_x ht' (by omega)) (nS_lo (by omega)) (nV_lo (by omega)) (by omega)) ⟨F0 52 59 (by omega) (by omega) (nF_x ht' (by omega)) (nS_52 (by omega)) (nV_52 (by omega)) (by omega), F0 52 65 (by omega) (by omega) (nF_x ht' (by omega)) (nS_52 (by omega)) (nV_52 (by omega)) (by omega)⟩ (fun x j a => ?_) (fun x j a => ?_) ⟨0, by omega, ?_, ?_, fun j h => absurd h (Nat.not_lt_zero j)⟩ ?_
        · show N'.2.1 x j = _
          rw [fN.2.2 x j (by omega), lN x j (by omega), s1, B2 x j (by omega) (by omega) (by omega)]
        · show N'.2.2 x j = _
          rw [fN.1, pN, s1, B3 x j a]
        · rw [mI1, if_neg (by omega), fN.2.1 1 15 (nV_lo (by omega)), iN 1 15 (nS_lo (by omega)), i1 1 15 (by omega)]; exact B4
        · rw [mI1, if_neg (by omega), fN.2.1 52 2 (nV_52 (by omega))]; exact n2
        · rw [mI1, if_neg (by omega), fN.2.1 1 16 (nV_lo (by omega)), iN 1 16 (nS_lo (by omega)), ← hM1, mI1, if_pos ⟨rfl, rfl⟩, mI1, if_pos ⟨rfl, rfl⟩]
    · obtain ⟨er, ep⟩ := e3_eq hE hE'
      omega
  · -- all told: it is taken up
    obtain ⟨r9, M28, b28, c86, f28⟩ := e3_run hE
    obtain ⟨B1, B2, B3, B4⟩ := back 0 (-1) M28 hE b28 f28
    have rn := run M' (nI 0) M28 l1' b28
    rw [if_pos (show nI 0 = (0 : Int32) from rfl), c86] at rn
    obtain ⟨cl1, k1, nb1, Q1, en1, hC1, hR1, hP1⟩ := J1
    have w1 : M28.1 t' 12 = nI Q1.2.1.length := by rw [f28.2 t' 12 (by omega)]; exact hC1.2.2.2.1.1
    have w6 := hC1.2.2.2.1.2
    obtain ⟨M1, eU, U1, U2, U3, U4, U5, U6, U7, U8⟩ := c_takeUp (M := zm_sI M28 1 16 (-1)) (w := Q1.2.1.length) htt (by show M28.2.2 1 9 = t; rw [B3 1 9 (by omega)]; exact hC.2.1) (by show M28.2.2 1 10 = t'; rw [B3 1 10 (by omega)]; exact x1) (by rw [mI1, if_neg (by omega)]; exact w1) w6
    rw [eU, zb2_some] at rn
    have i1' : ∀ x j, x ≠ 12 → ¬ (x = 13 ∧ j = 2) → ¬ (x = 16 ∧ j = 7) → ¬ (x = 1 ∧ (j = 13 ∨ j = 14 ∨ j = 16)) → M1.1 x j = M28.1 x j := fun x j a b c d => by rw [U1 x j a b c (by omega), mI1, if_neg (by omega)]
    have lM1 : ∀ x j, ¬ (3 ≤ x ∧ x ≤ 6) → x ≠ 9 → x ≠ 10 → M1.2.1 x j = M.2.1 x j := fun x j a b c => by rw [U2]; exact B2 x j a b c
    obtain ⟨N, N', eN, fN, pN, iN, lN, n2, cs2⟩ := second M1 (fun j hj => by rw [lM1 7 j (by omega) (by omega) (by omega), lM1 59 j (by omega) (by omega) (by omega)]; exact x5 j hj) (by rw [i1' 52 2 (by omega) (by omega) (by omega) (by omega), B1 52 2 (by omega) (by omega) (nF_x ht' (by omega))]; exact h2) (fun j => by rw [i1' 53 j (by omega) (by omega) (by omega) (by omega), B1 53 j (by omega) (by omega) (nF_x ht' (by omega))]) (by rw [i1' 52 18 (by omega) (by omega) (by omega) (by omega), B1 52 18 (by omega) (by omega) (nF_x ht' (by omega))]; exact tT_live hT)
    rcases e3_of cs2 with ⟨r', pl', hr', hE', bN⟩ | ⟨i2, J2, hE', bN, n13, n15⟩
    · obtain ⟨er, ep⟩ := e3_eq hE hE'
      omega
    · obtain ⟨cl2, k2, nb2, Q, en, hC2, hR2, hP2⟩ := J2
      have ew : Q1.2.1.length = Q.2.1.length := (nI_eq (by omega) (by have := hC2.2.2.2.1.2; omega)).1 (hC1.2.2.2.1.1.symm.trans hC2.2.2.2.1.1)
      rw [ew] at U4
      have hw6 := hC2.2.2.2.1.2
      obtain ⟨F, eF, V1, V2, V3, V4, V5, V6, V7, V8⟩ := r_takeUp hvv n13 n15 hR2.2.1.1 hR2.2.2.2.2.2.1.1 hw6
      have i2e := rl_I hR2.1
      have i400 : i2 ≤ 400 := Nat.le_trans i2e.2 i2e.1.1.1
      -- the class's rows are as they were behind its compiling
      have Fc1 : ∀ x j, t' ≤ x → x ≤ t' + 10 → F.1 x j = M'.1 x j := fun x j a b => by
        rw [V2 x j (by omega) (by omega) (by omega) (by omega), fN.2.1 x j (nV_lo (by omega)), iN x j (nS_lo (by omega)), i1' x j (by omega) (by omega) (by omega) (by omega), f28.2 x j (by omega)]
      have T2 := iT_new hC2 hR2 i400 hP2 Fc1 (fun x j a b => V2 x j (by omega) (by omega) (by omega) (by omega)) V4
      have Fk : ∀ x j, (9 ≤ x ∧ x ≤ 24) ∨ 103 ≤ x → x ≠ 12 → ¬ (x = 13 ∧ j = 2) → ¬ (x = 16 ∧ j = 7) → F.1 x j = M.1 x j := fun x j a b c d => by
        rw [V2 x j (by omega) (by omega) (by omega) (by omega), fN.2.1 x j (nV_lo (by omega)), iN x j (nS_lo (by omega)), i1' x j b c d (by omega), B1 x j (by omega) (by omega) (nF_x ht' (by omega))]
      have FM1 : ∀ x j, x < 52 → F.1 x j = M1.1 x j := fun x j a => by
        rw [V2 x j (by omega) (by omega) (by omega) (by omega), fN.2.1 x j (nV_lo (by omega)), iN x j (nS_lo (by omega))]
      have Fp' : ∀ x j, F.2.2 x j = M1.2.2 x j := fun x j => by rw [V1, fN.1, pN]
      have st : ∀ j, j < Q.2.1.length → F.1 (t' + 4) j = nI ((toD Q).1 4 j) := fun j hj => tT_st T2 j hj
      have rst : ∀ j, j < Q.2.1.length → N'.1 68 (6 * v' + j) = nI ((toD Q).1 4 j) := fun j hj => by
        rw [← V2 68 (6 * v' + j) (by omega) (by omega) (by omega) (by omega)]; exact tT_rst T2 j hj
      have c12 : ∀ j, j < 47 → F.1 12 j = if 4 ≤ j ∧ j < 4 + Q.2.1.length then nI ((toD Q).1 4 (j - 4)) else 0 := fun j hj => by
        rw [FM1 12 j (by omega), U4 j hj]
        by_cases h : 4 ≤ j ∧ j < 4 + Q.2.1.length
        · rw [if_pos h, if_pos h, mI1, if_neg (by omega), ← st (j - 4) (by omega), Fc1 _ _ (by omega) (by omega), f28.2 _ _ (by omega)]
        · rw [if_neg h, if_neg h]
      have r91 : ∀ j, j < 60 → F.1 91 j = if j < 6 then (if j < Q.2.1.length then nI ((toD Q).1 4 j) else -2) else if j < 18 then -2 else 0 := fun j hj => by
        rw [V8 j hj]
        by_cases h : j < 6
        · rw [if_pos h, if_pos h]
          by_cases h' : j < Q.2.1.length
          · rw [if_pos h', if_pos h', rst j h']
          · rw [if_neg h', if_neg h']
        · rw [if_neg h, if_neg h]
      have s4 : ∀ j, j < Q.2.1.length → (if 4 ≤ 4 + j ∧ 4 + j < 10 then (toD Q).1 4 (4 + j - 4) else 0) = (toD Q).1 4 j := fun j hj => by
        rw [if_pos (by omega), Nat.add_sub_cancel_left]
      have s10 : ∀ j, (if 4 ≤ 10 + j ∧ 10 + j < 10 then (toD Q).1 4 (10 + j - 4) else 0) = 0 := fun j => if_neg (by omega)
      have ew' : (toD Q).1 0 1 = Q.2.1.length := rfl
      have ek' : (toD Q).1 0 2 = Q.2.2.1.length := rfl
      have bk := tT_bk T2
      refine ⟨0, M1, F, rn, ?_, t', v', toD Q, fun j => if 4 ≤ j ∧ j < 10 then (toD Q).1 4 (j - 4) else 0, ⟨ht', ?_, T2, ?_⟩, ?_⟩
      · show f_X11_read M1 = _
        rw [eN, bN, eF]
      · rw [Fp', U3, if_neg (by omega), if_pos ⟨rfl, rfl⟩]
      · refine ⟨Nat.zero_le _, Nat.zero_le _, Nat.pow_pos (by omega), ?_, ?_, ?_, ?_, ?_, ?_, fun j hj => ?_, fun j hj => ⟨?_, ?_⟩, fun j hj => ?_, fun j hj => ?_, fun j hj => ?_, fun j hj => ?_, fun j hj => ?_, fun j hj => ?_, fun j hj => ?_⟩
        · rw [c12 0 (by omega), if_neg (by omega)]; rfl
        · rw [r91 30 (by omega), if_neg (by omega), if_neg (by omega)]; rfl
        · rw [c12 1 (by omega), if_neg (by omega)]; rfl
        · rw [r91 31 (by omega), if_neg (by omega), if_neg (by omega)]; rfl
        · rw [r91 32 (by omega), if_neg (by omega), if_neg (by omega), c12 2 (by omega), if_neg (by omega)]
        · rw [c12 3 (by omega), if_neg (by omega)]; rfl
        · rw [r91 (24 + j) (by omega), if_neg (by omega), if_neg (by omega)]
          show (0 : Int32) = nI (0 / 2 ^ j % 2)
          rw [Nat.zero_div]; rfl
        · show (if 4 ≤ 4 + j ∧ 4 + j < 10 then (toD Q).1 4 (4 + j - 4) else 0) < _
          rw [s4 j hj]; exact (tT_Wb T2 j hj).2.1
        · show (if 4 ≤ 10 + j ∧ 10 + j < 10 then (toD Q).1 4 (10 + j - 4) else 0) ≤ _
          rw [s10 j]; exact Nat.zero_le _
        · show F.1 12 (4 + j) = nI (if 4 ≤ 4 + j ∧ 4 + j < 10 then (toD Q).1 4 (4 + j - 4) else 0)
          rw [s4 j hj, c12 (4 + j) (by omega), if_pos (by omega), Nat.add_sub_cancel_left]
        · show F.1 12 (10 + j) = nI (if 4 ≤ 10 + j ∧ 10 + j < 10 then (toD Q).1 4 (10 + j - 4) else 0)
          rw [s10 j, c12 (10 + j) (by omega), if_neg (by omega)]; rfl
        · rw [r91 (18 + j) (by omega), if_neg (by omega), if_neg (by omega), c12 (16 + j) (by omega), if_neg (by omega)]
        · show F.1 91 j = if (if 4 ≤ 10 + j ∧ 10 + j < 10 then (toD Q).1 4 (10 + j - 4) else 0) ≤ 0 then nI (if 4 ≤ 4 + j ∧ 4 + j < 10 then (toD Q).1 4 (4 + j - 4) else 0) else -2
          rw [s10 j, if_pos (Nat.le_refl 0), s4 j hj, r91 j (by omega), if_pos (by omega), if_pos (show j < Q.2.1.length from hj)]
        · show F.1 91 (6 + j) = if (if 4 ≤ 10 + j ∧ 10 + j < 10 then (toD Q).1 4 (10 + j - 4) else 0) ≤ 0 then -2 else nI (if 4 ≤ 4 + j ∧ 4 + j < 10 then (toD Q).1 4 (4 + j - 4) else 0)
          rw [s10 j, if_pos (Nat.le_refl 0), r91 (6 + j) (by omega), if_neg (by omega), if_pos (by omega)]
        · show F.1 91 (12 + j) = if (if 4 ≤ 10 + j ∧ 10 + j < 10 then (toD Q).1 4 (10 + j - 4) else 0) ≤ 0 then -2 else nI (if 4 ≤ 10 + j ∧ 10 + j < 10 then (toD Q).1 4 (10 + j - 4) else 0)
          rw [s10 j, if_pos (Nat.le_refl 0), r91 (12 + j) (by omega), if_neg (by omega), if_pos (by omega)]
        · rw [r91 (33 + j) (by omega), if_neg (by omega), if_neg (by omega), c12 (22 + j) (by omega), if_neg (by omega)]
      · obtain ⟨s0, y0, _, hy, _, _, h131, _⟩ := x6
        refine ⟨?_, ?_, ⟨0, by omega, ?_, ?_, fun j h => absurd h (Nat.not_lt_zero j)⟩, ?_, fun j hj => ⟨?_, ?_⟩, ⟨0, y0, by omega, hy, ?_, ?_, ?_, fun i h => absurd h (Nat.not_lt_zero i)⟩, ⟨0, by omega, ?_, fun s hs => ⟨?_, fun h => ?_⟩⟩, ⟨0, by omega, ?_, ?_, fun i h => absurd h (Nat.not_lt_zero i)⟩, Or.inl ?_, fun h => ⟨?_, ?_⟩, ?_⟩
        · rw [Fp', U3, if_pos ⟨rfl, rfl⟩]; omega
        · rw [Fp', Fp', U3, U3, if_neg (by omega), if_neg (by omega), if_neg (by omega), if_neg (by omega)]
          show (q = 0 ∧ M28.2.2 1 11 = 0 ∧ M28.2.2 1 12 = 0) ∨ (q ≠ 0 ∧ M28.2.2 1 11 = 103 ∧ M28.2.2 1 12 = 112)
          rw [B3 1 11 (by omega), B3 1 12 (by omega)]; exact x2
        · rw [FM1 1 15 (by omega), i1' 1 15 (by omega) (by omega) (by omega) (by omega)]; exact B4
        · rw [V2 52 2 (by omega) (by omega) (by omega) (by omega), fN.2.1 52 2 (nV_52 (by omega))]; exact n2
        · rw [FM1 1 16 (by omega), U1 1 16 (by omega) (by omega) (by omega) (by omega), mI1, if_pos ⟨rfl, rfl⟩, V3]
        · rw [V1, fN.2.2 7 j (by omega), lN 7 j (by omega), lM1 7 j (by omega) (by omega) (by omega)]; exact (x5 j hj).1
        · rw [V1, fN.2.2 59 j (by omega), lN 59 j (by omega), lM1 59 j (by omega) (by omega) (by omega)]; exact (x5 j hj).2
        · rw [FM1 13 2 (by omega)]; exact U5
        · exact V5
        · rw [Fk 13 1 (by omega) (by omega) (by omega) (by omega)]; exact h131
        · rw [FM1 1 14 (by omega)]; exact U7
        · rw [V7 s hs, Nat.zero_div]; rfl
        · rw [Nat.zero_div] at h; cases h
        · rw [FM1 16 7 (by omega)]; exact U6
        · exact V6
        · rw [FM1 1 13 (by omega)]; exact U8
        · rw [← (x10 h).1]; exact funext fun j => Fk 109 j (by omega) (by omega) (by omega) (by omega)
        · rw [← (x10 h).2]; exact funext fun j => Fk 110 j (by omega) (by omega) (by omega) (by omega)
        · rw [Fp', U3, if_neg (by omega), if_neg (by omega)]
          show zm_isT (M28.2.2 47 2) = true
          rw [B3 47 2 (by omega)]; exact x11
