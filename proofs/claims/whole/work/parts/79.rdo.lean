/-! names that are told, and numbers: reference -/
theorem r_zknown {T : Nat → Nat} {n ka : Nat} {N : zm_Mem} {Z : zZ} {en : List (Nat × Nat × List Nat)} {hN wN NL : List (List Nat)} (hn0 : n ≤ 2000) (h : RZ T n N Z) (hE : RNm N en) (hQ : enQ en hN wN) (hk : (ka = 0 ∧ NL = hN) ∨ (ka = 1 ∧ NL = wN)) : ∃ x N', f_X11_known (nI ka) N = some (x, N') ∧ Fp p52 N N' ∧ RZ T n N' (zTo (tkF T n) 2 4 (notB T n NL) Z) ∧ (∀ i nt, Z = .inr (i, nt) → (tkF T n i).1 = 2 → i ≠ 400 → notB T n NL i = false → ∃ j, NL[j]? = some (tkF T n i).2.2.1 ∧ x = nI j) := by
  rcases h with ⟨f, j, rfl, h⟩ | ⟨i, nt, rfl, h, hi, hn⟩
  · refine ⟨-1, N, ?_, fp_rfl _ _, Or.inl ⟨f, j, rfl, h⟩, fun i nt z => (by cases z)⟩
    unfold f_X11_known
    simp only [zv_eq]
    rw [r_mustF (rf_ne h) (rf_le h), zb2_some, if_neg (rf_le h)]
  · have r4 := rs_4 _ cs_num (tkF_ok (T := T) (n := n) (i := i)).1
    obtain ⟨N7, e, g, a, b, c⟩ := r_mustI (rs := 1) (s := 2) h hi (by omega) (by omega) r4.2.2.2
    have e' : f_X11_must 1 N = some ((), N7) := e
    have he := h.1.1
    have fl : ∀ f, RF N7 (tkF T n) (tkE T n) i f → f_X11_known (nI ka) N = some (-1, N7) := fun f F => by
      unfold f_X11_known
      simp only [zv_eq]
      rw [e', zb2_some, if_neg (rf_le F)]
    rw [zTo_at]
    by_cases h1 : (tkF T n i).1 = 2
    · rw [if_pos h1]
      by_cases h2 : i = 400
      · have F := b h1 h2
        rw [if_pos h2]
        exact ⟨-1, N7, fl _ F, fp_352 g, Or.inl ⟨2, i, rfl, F⟩, fun i' nt' z _ q => absurd h2 (by rw [show i = i' from congrArg Prod.fst (Sum.inr.inj z)]; exact q)⟩
      · rw [if_neg h2]
        obtain ⟨c1, c2⟩ := c h1 h2
        have E7 : RNm N7 en := rnm_fp hE g (by omega) (fun j => by omega) (fun j => by omega)
        have n7 : nR T n N7 nt i := nR_w hn (g.2 52 15 (by omega)) (g.2 52 16 (by omega)) (Nat.le_refl _)
        have hl11 := hE.2.1
        have key : ∃ K, zm_lp (f_X11_known_l21 (nI ka) (nI i) N7) (nI 0) = some K ∧ ((∃ (l : Nat) (x : Nat × Nat × List Nat), en[l]? = some x ∧ x.2.2 = (tkF T n i).2.2.1 ∧ x.1 = ka ∧ K = .inl (nI l)) ∨ ((∀ (l : Nat) (x : Nat × Nat × List Nat), en[l]? = some x → x.2.2 = (tkF T n i).2.2.1 → x.1 ≠ ka) ∧ K = .inr ())) := by
          refine lp_inv (fun l s => s = nI l ∧ ∀ (l' : Nat) (x : Nat × Nat × List Nat), l' < l → en[l']? = some x → x.2.2 = (tkF T n i).2.2.1 → x.1 ≠ ka) _ en.length ?_ ?_ ⟨rfl, fun l' x z => absurd z (by omega)⟩
          · rintro l z hl ⟨rfl, k2⟩
            have ex : en[l]? = some en[l] := List.getElem?_eq_getElem hl
            have cm := r_cmp c1.1 E7 hi ex
            obtain ⟨t1, t2, t3, t4, t5, t6, t7⟩ := E7.2.2 l _ ex
            have st : f_X11_known_l21 (nI ka) (nI i) N7 (nI l) = if en[l].2.2 = (tkF T n i).2.2.1 then (if en[l].1 = ka then some (.inr (.inl (nI l))) else some (.inl (nI (l + 1)))) else some (.inl (nI (l + 1))) := by
              unfold f_X11_known_l21 f_X11_known_b62_21
              simp only [zv_eq]
              rw [E7.1, if_neg (nI_ge (by omega) (by omega)), zm_ck_t (zm_in_nI (by omega) (by omega)), zm_ck_t (zm_in_nI (by omega) (by omega)), zm_ck_t (zm_in_nI (by omega) (by omega)), nI_clamp (by omega), nI_clamp (by omega), nI_k1, t2]
              by_cases hq : en[l].2.2 = (tkF T n i).2.2.1
              · rw [if_pos (cm.2 hq), if_pos hq]
                by_cases hk' : en[l].1 = ka
                · rw [if_pos (by rw [hk']), if_pos hk']
                · rw [if_neg (fun z => hk' ((nI_eq (by omega) (by omega)).1 z)), if_neg hk']
              · rw [if_neg (fun z => hq (cm.1 z)), if_neg hq]
            by_cases hq : en[l].2.2 = (tkF T n i).2.2.1
            · by_cases hk' : en[l].1 = ka
              · exact Or.inr ⟨_, by rw [st, if_pos hq, if_pos hk'], Or.inl ⟨l, _, ex, hq, hk', rfl⟩⟩
              · refine Or.inl ⟨_, by rw [st, if_pos hq, if_neg hk'], rfl, fun l' x hl' hx hq' => ?_⟩
                by_cases hll : l' = l
                · subst hll
                  rw [ex] at hx
                  rw [← Option.some.inj hx]; exact hk'
                · exact k2 l' x (by omega) hx hq'
            · refine Or.inl ⟨_, by rw [st, if_neg hq], rfl, fun l' x hl' hx hq' => ?_⟩
              by_cases hll : l' = l
              · subst hll
                rw [ex] at hx
                rw [← Option.some.inj hx] at hq'
                exact absurd hq' hq
              · exact k2 l' x (by omega) hx hq'
          · rintro z ⟨rfl, k2⟩
            refine ⟨.inr (), ?_, Or.inr ⟨fun l x hx => k2 l x ?_ hx, rfl⟩⟩
            · unfold f_X11_known_l21
              rw [E7.1, if_pos (nI_le (Nat.le_refl _) (by omega))]
            · refine Classical.byContradiction (fun q => ?_)
              rw [List.getElem?_eq_none (by omega)] at hx; cases hx
        obtain ⟨K, k1, k2⟩ := key
        have k1' : zm_lp (f_X11_known_l21 (nI ka) (nI i) N7) 0 = some K := k1
        have U : f_X11_known (nI ka) N = (Sum.elim (fun e55 => f_X11_known_x55_21 N7 e55) (fun _ => zm_b2 (f_X11_wrong 4 (nI i) N7) fun _ M71 => some ((-1), M71))) K := by
          unfold f_X11_known
          simp only [zv_eq]
          rw [h.2.1, e', zb2_some, c1.2.2.1, if_pos (by decide), k1']; rfl
        rcases k2 with ⟨l, x, lx, q1, q2, rfl⟩ | ⟨k2, rfl⟩
        · obtain ⟨t1, t2, t3, t4, t5, t6, t7⟩ := E7.2.2 l x lx
          have hl : l < en.length := by
            refine Classical.byContradiction (fun q => ?_)
            rw [List.getElem?_eq_none (by omega)] at lx; cases lx
          have mem : NL[x.2.1]? = some (tkF T n i).2.2.1 := by
            rw [← q1]
            rcases hk with ⟨k0, rfl⟩ | ⟨k0, rfl⟩
            · rcases hQ.1 x (List.mem_of_getElem? lx) with ⟨_, z⟩ | ⟨z, _⟩
              · exact z
              · omega
            · rcases hQ.1 x (List.mem_of_getElem? lx) with ⟨z, _⟩ | ⟨_, z⟩
              · omega
              · exact z
          have nb : notB T n NL i = false := by unfold notB; rw [decide_eq_false (fun z => z (List.mem_of_getElem? mem))]
          rw [nb, if_neg (by decide)]
          refine ⟨nI x.2.1, N7, ?_, fp_352 g, Or.inr ⟨i + 1, nt, rfl, c1, c2, nR_w n7 rfl rfl (by omega)⟩, fun i' nt' z _ _ _ => ⟨x.2.1, ?_, rfl⟩⟩
          · rw [U]
            show f_X11_known_x55_21 N7 (nI l) = _
            unfold f_X11_known_x55_21
            rw [zm_ck_t (zm_in_nI (by omega) (by omega)), nI_clamp (by omega), t3]
          · rw [← show i = i' from congrArg Prod.fst (Sum.inr.inj z)]; exact mem
        · have nb : notB T n NL i = true := by
            unfold notB
            refine decide_eq_true (fun hm => ?_)
            obtain ⟨j, hj⟩ := List.getElem?_of_mem hm
            rcases hk with ⟨k0, rfl⟩ | ⟨k0, rfl⟩
            · obtain ⟨l, hl⟩ := List.getElem?_of_mem (hQ.2.1 j _ hj)
              exact k2 l _ hl rfl k0.symm
            · obtain ⟨l, hl⟩ := List.getElem?_of_mem (hQ.2.2 j _ hj)
              exact k2 l _ hl rfl k0.symm
          obtain ⟨N8, w1, w2, w3⟩ := r_wrong (c := 4) hn0 c1.1 c1.2.2.1 hi n7 (by omega)
          rw [if_pos nb]
          refine ⟨-1, N8, ?_, fp_tr (fp_352 g) (fp_mono (fun x j z => by unfold p52; omega) w2), Or.inr ⟨i + 1, _, rfl, ri_fp c1 w2 (fun x j a b z => by omega) (by omega) (by omega) (by omega), c2, w3⟩, fun i' nt' z _ _ q => ?_⟩
          · rw [U]
            show (zm_b2 (f_X11_wrong (nI 4) (nI i) N7) fun _ M71 => some ((-1 : Int32), M71)) = _
            rw [w1, zb2_some]
          · rw [← show i = i' from congrArg Prod.fst (Sum.inr.inj z), nb] at q; cases q
    · have F := a h1
      rw [if_neg h1]
      exact ⟨-1, N7, fl _ F, fp_352 g, Or.inl ⟨1, i, rfl, F⟩, fun i' nt' z q => absurd (by rw [show i = i' from congrArg Prod.fst (Sum.inr.inj z)]; exact q) h1⟩
theorem r_zbound {T : Nat → Nat} {n lo hi : Nat} {N : zm_Mem} {Z : zZ} (hn0 : n ≤ 2000) (h : RZ T n N Z) (hlo : lo < 10000) (hhi : hi < 10000) : ∃ x N', f_X11_bounded (nI lo) (nI hi) N = some (x, N') ∧ Fp p52 N N' ∧ RZ T n N' (zTo (tkF T n) 3 5 (outB T n lo hi) Z) ∧ (∀ i nt, Z = .inr (i, nt) → (tkF T n i).1 = 3 → x = nI (tkF T n i).2.2.2) := by
  rcases h with ⟨f, j, rfl, h⟩ | ⟨i, nt, rfl, h, h_i, hn⟩
  · refine ⟨nI lo, N, ?_, fp_rfl _ _, Or.inl ⟨f, j, rfl, h⟩, fun i nt z => (by cases z)⟩
    unfold f_X11_bounded f_X11_bounded_b15
    have hp : 0 < N.1 52 13 := by
      rw [h.2.1]; exact nI_lt (a := 0) h.2.2.1.1 (by have := h.2.2.1.2; omega)
    rw [if_pos hp, r_failF (rf_le h), zb2_some]
  · have he := h.1.1
    have ok := okS_rs _ cs_num (tkF_ok (T := T) (n := n) (i := i)).1
    have hv := (tkF_ok (T := T) (n := n) (i := i)).2.2.2
    have is2 : f_X11_is 2 N = some (if rsF (tkF T n i).1 = 2 then 1 else 0) := r_is h.1 h.2.1 h.2.2.1 h_i (s := 2) (by omega) ok.1
    have go := fun (K : zm_Mem) (hK : RI T n K i) => r_goesOn hK.1 hK.2.1 hK.2.2.1 h_i
    rw [zTo_at]
    by_cases h1 : (tkF T n i).1 = 3
    · rw [if_pos h1]
      rw [if_pos (ok.2.1.2 h1)] at is2
      have U : f_X11_bounded (nI lo) (nI hi) N = if outB T n lo hi i = true then (zm_b2 (f_X11_wrong 5 (nI i) N) fun _ M48 => f_X11_bounded_b51 (nI (tkF T n i).2.2.2) M48) else f_X11_bounded_b51 (nI (tkF T n i).2.2.2) N := by
        unfold f_X11_bounded f_X11_bounded_b42 outB
        simp only [zv_eq]
        rw [h.2.2.1, if_neg (show ¬ (0 : Int32) < 0 by decide), is2, zb1_some, if_neg (by decide), h.2.1, zm_ck_t (zm_in_nI (by omega) (by omega)), nI_clamp (by omega), (h.1.2 i h_i).2.2.1]
        by_cases q1 : (tkF T n i).2.2.2 < lo
        · rw [if_pos (nI_lt q1 (by omega)), decide_eq_true q1, Bool.true_or, if_pos rfl]
        · rw [if_neg (nI_nlt (by omega) (by omega)), decide_eq_false q1, Bool.false_or]
          by_cases q2 : hi < (tkF T n i).2.2.2
          · rw [if_neg (nI_ge q2 (by omega)), decide_eq_true q2, if_pos rfl]
          · rw [if_pos (nI_le (by omega) (by omega)), decide_eq_false q2, if_neg (by decide)]
      have two : ∃ K, Fp (fun x j => x = 52 ∧ (j = 15 ∨ j = 16)) N K ∧ f_X11_bounded (nI lo) (nI hi) N = f_X11_bounded_b51 (nI (tkF T n i).2.2.2) K ∧ nR T n K (if outB T n lo hi i = true then aN nt 5 i else nt) (i + 1) := by
        cases hB : outB T n lo hi i with
        | true =>
          obtain ⟨K, w1, w2, w3⟩ := r_wrong (c := 5) hn0 h.1 h.2.2.1 h_i hn (by omega)
          refine ⟨K, w2, ?_, by rw [if_pos rfl]; exact w3⟩
          rw [U, hB, if_pos rfl]
          show (zm_b2 (f_X11_wrong (nI 5) (nI i) N) fun _ M48 => f_X11_bounded_b51 (nI (tkF T n i).2.2.2) M48) = _
          rw [w1, zb2_some]
        | false =>
          exact ⟨N, fp_rfl _ _, by rw [U, hB, if_neg (by decide)], by rw [if_neg (by decide)]; exact nR_w hn rfl rfl (by omega)⟩
      obtain ⟨K, k1, k2, k3⟩ := two
      have KI : RI T n K i := ri_fp h k1 (fun x j a b z => by omega) (by omega) (by omega) (by omega)
      have g := go K KI
      have k1' : Fp p52 N K := fp_mono (fun x j z => by unfold p52; omega) k1
      by_cases h2 : i = 400
      · rw [if_pos h2]
        rw [if_pos h2] at g
        have ff : Fp p52 K (zm_sI (zm_sI K 52 13 2) 52 14 (nI (tkF T n i).2.1)) := fp_tr (fp_sI ⟨rfl, by omega, by omega⟩) (fp_sI ⟨rfl, by omega, by omega⟩)
        refine ⟨nI (tkF T n i).2.2.2, _, ?_, fp_tr k1' ff, Or.inl ⟨2, i, rfl, rks_fp ff (fun x j a b z => by unfold p52 at z; omega) KI.1, by rw [mI1, if_neg (by omega), mI1, if_pos ⟨rfl, rfl⟩]; rfl, by omega, by rw [mI1, if_pos ⟨rfl, rfl⟩]⟩, fun i' nt' z _ => by rw [← show i = i' from congrArg Prod.fst (Sum.inr.inj z)]⟩
        rw [k2]
        unfold f_X11_bounded_b51
        rw [g, zb2_some]
      · rw [if_neg h2]
        rw [if_neg h2] at g
        have ff : Fp (fun x j => x = 52 ∧ j = 11) K (zm_sI K 52 11 (nI (i + 1))) := fp_sI ⟨rfl, rfl⟩
        refine ⟨nI (tkF T n i).2.2.2, _, ?_, fp_tr k1' (fp_mono (fun x j z => by unfold p52; omega) ff), Or.inr ⟨i + 1, _, rfl, ⟨rks_fp ff (fun x j a b z => by omega) KI.1, by rw [mI1, if_pos ⟨rfl, rfl⟩], by rw [mI1, if_neg (by omega)]; exact KI.2.2.1, by rw [mI1, if_neg (by omega)]; exact KI.2.2.2⟩, tkF_lt h_i (by omega) h2, nR_w k3 (by rw [mI1, if_neg (by omega)]) (by rw [mI1, if_neg (by omega)]) (Nat.le_refl _)⟩, fun i' nt' z _ => by rw [← show i = i' from congrArg Prod.fst (Sum.inr.inj z)]⟩
        rw [k2]
        unfold f_X11_bounded_b51
        rw [g, zb2_some]
    · rw [if_neg h1]
      rw [if_neg (fun z => h1 (ok.2.1.1 z))] at is2
      have fa := r_fail (k := 1) h.1 h.2.1 h.2.2.1 h_i
      have ff : Fp p52 N (zm_sI (zm_sI N 52 13 1) 52 14 (nI (tkF T n i).2.1)) := fp_tr (fp_sI ⟨rfl, by omega, by omega⟩) (fp_sI ⟨rfl, by omega, by omega⟩)
      refine ⟨nI lo, _, ?_, ff, Or.inl ⟨1, i, rfl, rks_fp ff (fun x j a b z => by unfold p52 at z; omega) h.1, by rw [mI1, if_neg (by omega), mI1, if_pos ⟨rfl, rfl⟩]; rfl, by omega, by rw [mI1, if_pos ⟨rfl, rfl⟩]⟩, fun i' nt' z q => absurd (by rw [show i = i' from congrArg Prod.fst (Sum.inr.inj z)]; exact q) h1⟩
      unfold f_X11_bounded f_X11_bounded_b15
      rw [h.2.2.1, if_neg (show ¬ (0 : Int32) < 0 by decide), is2, zb1_some, if_pos rfl, fa, zb2_some]
