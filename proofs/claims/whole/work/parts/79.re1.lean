/-! a law, whole: reference -/
theorem r_is28 {T : Nat → Nat} {n i : Nat} {N : zm_Mem} (hI : RI T n N i) (hi : i ≤ tkE T n) : f_X11_is 28 N = some (if (tkF T n i).1 = 264 then 1 else 0) := by
  have r0 := rs_0 _ cs_num (tkF_ok (T := T) (n := n) (i := i)).1
  have ok := okS_rs _ cs_num (tkF_ok (T := T) (n := n) (i := i)).1
  have := r_is hI.1 hI.2.1 hI.2.2.1 hi (s := 28) (by omega) ok.1
  by_cases h : (tkF T n i).1 = 264
  · rw [if_pos (r0.2.1.2 h)] at this
    rw [if_pos h]; exact this
  · rw [if_neg (fun z => h (r0.2.1.1 z))] at this
    rw [if_neg h]; exact this
theorem r_lawsR {T : Nat → Nat} {n v : Nat} (hv : v ≤ 1) : ∀ m l N Z bb k, l + m = 4 → RZ T n N Z → bb + m ≤ 260 → N.1 52 42 = nI bb → 420 * v ≤ k → (∀ p, Z = .inr p → N.1 52 48 = nI k ∧ k ≤ 420 * v + p.1) → ∃ E N', zm_lp (fun s : Int32 × zm_Mem => f_X11_tellLaw_l12 s.1 s.2) (nI l, N) = some E ∧ RZ T n N' (zLo T n m Z) ∧ Fp (pY v k bb (bb + m)) N N' ∧ ((E = .inl N' ∧ ∃ f, zLo T n m Z = .inl f) ∨ (E = .inr N' ∧ ∃ bb', N'.1 52 42 = nI bb' ∧ bb ≤ bb' ∧ bb' ≤ bb + m ∧ ∀ j nt', zLo T n m Z = .inr (j, nt') → ∃ i nt k', Z = .inr (i, nt) ∧ bb' = bb + (bsL T n m i).length ∧ N'.1 52 48 = nI k' ∧ k ≤ k' ∧ k' ≤ 420 * v + j ∧ i + 4 * (bsL T n m i).length ≤ j ∧ j = edL T n m i ∧ ∀ q x, (bsL T n m i)[q]? = some x → rbr N' v k' (bb + q) x)) := by
  intro m
  induction m with
  | zero =>
    intro l N Z bb k hl h hbb h42 hk0 h48
    have hl4 : l = 4 := by omega
    subst hl4
    cases Z with
    | inl f =>
      refine ⟨.inr N, N, lp_end ?_, h, fp_rfl _ _, Or.inr ⟨rfl, bb, h42, Nat.le_refl _, Nat.le_refl _, fun j nt' z => by cases z⟩⟩
      show f_X11_tellLaw_l12 (nI 4) N = _
      unfold f_X11_tellLaw_l12
      rw [if_neg ((rz_f h).1 f rfl).1]
    | inr p =>
      have hI := rl_I (i := p.1) (nt := p.2) h
      have is28 := r_is28 hI.1 hI.2
      show ∃ E N', _ ∧ RZ T n N' (if (tkF T n p.1).1 = 264 then .inl (2, p.1) else .inr p) ∧ _ ∧ ((_ ∧ ∃ f, (if (tkF T n p.1).1 = 264 then (.inl (2, p.1) : zZ) else .inr p) = .inl f) ∨ (_ ∧ ∃ bb', _ ∧ _ ∧ _ ∧ ∀ j nt', (if (tkF T n p.1).1 = 264 then (.inl (2, p.1) : zZ) else .inr p) = .inr (j, nt') → _))
      by_cases h1 : (tkF T n p.1).1 = 264
      · rw [if_pos h1] at is28 ⊢
        obtain ⟨N1, e1, f1, z1⟩ := r_zfail (k := 2) (by omega) h
        have e1' : f_X11_fail 2 N = some ((), N1) := e1
        refine ⟨.inl N1, N1, lp_end ?_, z1, fp_3Y f1, Or.inl ⟨rfl, _, rfl⟩⟩
        show f_X11_tellLaw_l12 (nI 4) N = _
        unfold f_X11_tellLaw_l12 f_X11_tellLaw_b38_12
        rw [hI.1.2.2.1, if_pos rfl, is28, zb1_some, if_neg (by decide), if_pos (by decide), e1', zb2_some, if_neg ((rz_f z1).1 _ rfl).2]
      · rw [if_neg h1] at is28 ⊢
        refine ⟨.inr N, N, lp_end ?_, h, fp_rfl _ _, Or.inr ⟨rfl, bb, h42, Nat.le_refl _, Nat.le_refl _, fun j nt' z => ?_⟩⟩
        · show f_X11_tellLaw_l12 (nI 4) N = _
          unfold f_X11_tellLaw_l12
          rw [hI.1.2.2.1, if_pos rfl, is28, zb1_some, if_pos rfl]
        · have z' : p = (j, nt') := Sum.inr.inj z
          subst z'
          obtain ⟨a, b⟩ := h48 _ rfl
          exact ⟨j, nt', k, rfl, rfl, a, Nat.le_refl _, b, Nat.le_refl _, rfl, fun q x hx => by cases hx⟩
  | succ m ih =>
    intro l N Z bb k hl h hbb h42 hk0 h48
    cases Z with
    | inl f =>
      refine ⟨.inr N, N, lp_end ?_, h, fp_rfl _ _, Or.inr ⟨rfl, bb, h42, Nat.le_refl _, by omega, fun j nt' z => by cases z⟩⟩
      show f_X11_tellLaw_l12 (nI l) N = _
      unfold f_X11_tellLaw_l12
      rw [if_neg ((rz_f h).1 f rfl).1]
    | inr p =>
      have hI := rl_I (i := p.1) (nt := p.2) h
      have is28 := r_is28 hI.1 hI.2
      show ∃ E N', _ ∧ RZ T n N' (if (tkF T n p.1).1 = 264 then zLo T n m (zBr T n (.inr p)) else .inr p) ∧ _ ∧ ((_ ∧ ∃ f, (if (tkF T n p.1).1 = 264 then zLo T n m (zBr T n (.inr p)) else .inr p) = .inl f) ∨ (_ ∧ ∃ bb', _ ∧ _ ∧ _ ∧ ∀ j nt', (if (tkF T n p.1).1 = 264 then zLo T n m (zBr T n (.inr p)) else .inr p) = .inr (j, nt') → _))
      by_cases h1 : (tkF T n p.1).1 = 264
      · rw [if_pos h1]
        obtain ⟨k48, kk⟩ := h48 p rfl
        obtain ⟨N1, e1, f1, z1, a42, v1⟩ := r_branch (l := l) (i := p.1) (nt := p.2) hv h h1 (by omega) (by omega) h42 k48 hk0 kk
        rw [lp_go (s' := (nI (l + 1), N1)) e1]
        have hb : bsL T n (m + 1) p.1 = brC T n p.1 :: bsL T n m (nxB T n p.1) := by rw [bsL, if_pos h1]
        have he : edL T n (m + 1) p.1 = edL T n m (nxB T n p.1) := by rw [edL, if_pos h1]
        have z1' : RZ T n N1 (zBr T n (.inr p)) := z1
        have K1 : ∃ k1, k ≤ k1 ∧ ∀ q, zBr T n (.inr p) = .inr q → N1.1 52 48 = nI k1 ∧ k1 ≤ 420 * v + q.1 ∧ rbr N1 v k1 bb (brC T n p.1) ∧ q.1 = nxB T n p.1 ∧ p.1 + 4 ≤ q.1 := by
          cases hq : zBr T n (.inr p) with
          | inl f => exact ⟨k, Nat.le_refl _, fun q z => by cases z⟩
          | inr q =>
            obtain ⟨k', b1, b2, b3, b4, b5, b6⟩ := v1 q.1 q.2 hq
            refine ⟨k', b2, fun q' z => ?_⟩
            rw [← show q = q' from Sum.inr.inj z]
            exact ⟨b1, b3, b4, b5, b6⟩
        obtain ⟨k1, hk1, hK⟩ := K1
        obtain ⟨E, N2, e2, z2, f2, r2⟩ := ih (l + 1) N1 (zBr T n (.inr p)) (bb + 1) k1 (by omega) z1' (by omega) a42 (by omega) (fun q hq => ⟨(hK q hq).1, (hK q hq).2.1⟩)
        refine ⟨E, N2, e2, z2, fp_tr (fp_YY f1 (Nat.le_refl _) (Nat.le_refl _) (by omega)) (fp_YY f2 hk1 (by omega) (by omega)), ?_⟩
        rcases r2 with r2 | ⟨eE, bb', c1, c2, c3, r3⟩
        · exact Or.inl r2
        · refine Or.inr ⟨eE, bb', c1, by omega, by omega, fun j nt' z => ?_⟩
          obtain ⟨i1, n1, k', w1, d1, d2, d3, d4, d5, d6, d7⟩ := r3 j nt' z
          obtain ⟨g1, g2, g3, g4, g5⟩ := hK _ w1
          have g4' : i1 = nxB T n p.1 := g4
          have g5' : p.1 + 4 ≤ i1 := g5
          rw [g4'] at d1 d5 d6 d7
          rw [g4'] at g5'
          have lb : (bsL T n (m + 1) p.1).length = (bsL T n m (nxB T n p.1)).length + 1 := by rw [hb]; rfl
          refine ⟨p.1, p.2, k', rfl, by rw [lb]; omega, d2, by omega, d4, by rw [lb]; omega, by rw [he]; exact d6, fun q x hx => ?_⟩
          rw [hb] at hx
          cases q with
          | zero =>
            have ex : brC T n p.1 = x := Option.some.inj hx
            rw [← ex]
            refine rbr_x g3 (fun y j hy a b => f2.2 y j (fun z => ?_)) (fun y y1 y2 => f2.2 y _ (fun z => ?_)) (by omega)
            · rcases z with ⟨a', b', c'⟩ | a' | ⟨a', b'⟩ | ⟨a', b', c', d'⟩ <;> omega
            · rcases z with ⟨a', b', c'⟩ | a' | ⟨a', b'⟩ | ⟨a', b', c', d'⟩ <;> omega
          | succ q =>
            have := d7 q x hx
            rw [show bb + 1 + q = bb + (q + 1) by omega] at this
            exact this
      · rw [if_neg h1] at is28 ⊢
        have hb : bsL T n (m + 1) p.1 = [] := by rw [bsL, if_neg h1]
        have he : edL T n (m + 1) p.1 = p.1 := by rw [edL, if_neg h1]
        refine ⟨.inr N, N, lp_end ?_, h, fp_rfl _ _, Or.inr ⟨rfl, bb, h42, Nat.le_refl _, by omega, fun j nt' z => ?_⟩⟩
        · show f_X11_tellLaw_l12 (nI l) N = _
          unfold f_X11_tellLaw_l12
          rw [hI.1.2.2.1, if_pos rfl, is28, zb1_some, if_pos rfl]
        · have z' : p = (j, nt') := Sum.inr.inj z
          subst z'
          obtain ⟨a, b⟩ := h48 _ rfl
          refine ⟨j, nt', k, rfl, by rw [hb]; rfl, a, Nat.le_refl _, b, by rw [hb]; exact Nat.le_refl _, he.symm, fun q x hx => ?_⟩
          rw [hb] at hx; cases hx
theorem fv_Y {v k b0 b1 : Nat} {M M' : zm_Mem} (hk : 420 * v ≤ k) (h0 : 130 * v ≤ b0) (h1 : b1 ≤ 130 * v + 130) (f : Fp (pY v k b0 b1) M M') : Fv2 v M M' := fv_fp f (fun x j z => by
  rcases z with ⟨a, b, c⟩ | a | ⟨a, b⟩ | ⟨a, b, c, d⟩
  · exact Or.inr (Or.inr (Or.inr (Or.inr (Or.inr (Or.inr (Or.inr (Or.inr (Or.inr (Or.inr (Or.inr ⟨a, by omega, c⟩))))))))))
  · exact Or.inr (Or.inl a)
  · exact Or.inl ⟨a, by omega⟩
  · exact Or.inr (Or.inr (Or.inr (Or.inr (Or.inr (Or.inr (Or.inr (Or.inr (Or.inr (Or.inr (Or.inl ⟨a, b, by omega, by omega⟩)))))))))))
