/-! the reference's steps in a sum -/
theorem fp_pu {M : zm_Mem} {k h l : Nat} {v : Int32} : Fp (pR k h) M (puM M l v) := fp_tr (fp_sI (Or.inr (Or.inl rfl))) (fp_sI (Or.inr (Or.inr ⟨rfl, Or.inr (Or.inr rfl)⟩)))
theorem fp_pu2 {M : zm_Mem} {l : Nat} {v : Int32} : Fp (fun x j => x = 88 ∨ (x = 52 ∧ j = 52)) M (puM M l v) := fp_tr (fp_sI (Or.inl rfl)) (fp_sI (Or.inr ⟨rfl, rfl⟩))
theorem r_pushE {M : zm_Mem} {sk : List Nat} {v : Int32} {α : Type} (h : SkR M sk) (hl : sk.length < 64) (K : zm_Mem → Option α) : zm_ck (zm_in (M.1 52 52) 64) (K (zm_sI (zm_sI M 88 (M.1 52 52).toNatClampNeg v) 52 52 ((zm_sI M 88 (M.1 52 52).toNatClampNeg v).1 52 52 + 1))) = K (puM M sk.length v) := by
  have e : (zm_sI M 88 sk.length v).1 52 52 = nI sk.length := by rw [mI1, if_neg (by omega)]; exact h.2.1
  rw [h.2.1, zm_ck_t (zm_in_nI (L := 64) hl (by omega)), nI_clamp (by omega), e, nI_k1]; rfl
theorem r_open {M : zm_Mem} {T : Nat → Nat} {n i a k h : Nat} {sk : List Nat} (H : RS M (tkF T n) (tkE T n) i a sk k) (hi : i ≤ tkE T n) (ht : (tkF T n i).1 = 40) (ha : a ≤ 6) (hl : sk.length < 64) : ∃ M', f_X11_expression_l23_12 M = some (.inl M') ∧ Fp (pR k h) M M' ∧ ((a = 6 ∨ i = 400) → RF M' (tkF T n) (tkE T n) i 2) ∧ (a < 6 → i ≠ 400 → RS M' (tkF T n) (tkE T n) (i + 1) (a + 1) (sk ++ [6]) k ∧ i + 1 ≤ tkE T n) := by
  have r4 := rs_40 _ cs_num (tkF_ok (T := T) (n := n) (i := i)).1
  have e6 : f_X11_is 6 M = some 1 := (r_isX H hi 6 40 (by omega) r4.1).1 ht
  have hL : ∀ X, f_X11_expression_l23_12 M = X ↔ (if nI a = (6 : Int32) then (zm_b2 (f_X11_fail 2 M) fun _ M43 => f_X11_expression_b46_23_12 M43) else (f_X11_expression_b46_23_12 M)) = X := fun X => by
    unfold f_X11_expression_l23_12
    rw [e6, zb1_some, if_neg (by decide), H.2.2.2.1]
  by_cases h6 : a = 6
  · obtain ⟨q1, q2, q3, q4⟩ := r_fl (f := 2) (h := h) H hi (by omega)
    have q1' : f_X11_fail 2 M = some ((), zm_sI (zm_sI M 52 13 (nI 2)) 52 14 (nI (tkF T n i).2.1)) := q1
    generalize zm_sI (zm_sI M 52 13 (nI 2)) 52 14 (nI (tkF T n i).2.1) = M1 at q1' q2 q3 q4
    have g2 : Fp (fun x j => x = 52 ∧ j = 12) M1 (zm_sI M1 52 12 (M1.1 52 12 + 1)) := fp_sI ⟨rfl, rfl⟩
    have F2 := rf_fp q2 g2 (fun x j a b z => by omega) (by omega) (by omega)
    generalize hM2 : zm_sI M1 52 12 (M1.1 52 12 + 1) = M2 at g2 F2
    obtain ⟨M3, u1, u2⟩ := r_goesF (rf_le F2)
    have F3 := rf_fp F2 u2 (fun x j a b z => by omega) (by omega) (by omega)
    have S3 : SkR M3 sk := sk_fp u2 (by omega) (fun j => by omega) (sk_fp g2 (by omega) (fun j => by omega) (sk_fp q4 (by omega) (fun j => by omega) H.2.2.2.2.1))
    refine ⟨puM M3 sk.length 6, (hL _).2 ?_, fp_tr q3 (fp_tr (fp_mono (fun x j z => by unfold pR; omega) g2) (fp_tr (fp_mono (fun x j z => by unfold pR; omega) u2) fp_pu)), fun _ => rf_fp F3 fp_pu2 (fun x j a b z => by omega) (by omega) (by omega), fun z => absurd h6 (by omega)⟩
    rw [if_pos (by rw [h6]; rfl), q1', zb2_some]
    unfold f_X11_expression_b46_23_12
    simp only [zv_eq]
    rw [hM2, u1, zb2_some]
    exact r_pushE (α := zm_Mem ⊕ zm_Mem) S3 hl (fun M => some (.inl M))
  · have g2 : Fp (fun x j => x = 52 ∧ j = 12) M (zm_sI M 52 12 (nI (a + 1))) := fp_sI ⟨rfl, rfl⟩
    have H2 : RS (zm_sI M 52 12 (nI (a + 1))) (tkF T n) (tkE T n) i (a + 1) sk k := ⟨rks_fp g2 (fun x j a b z => by omega) H.1, by rw [g2.2 52 11 (by omega)]; exact H.2.1, by rw [g2.2 52 13 (by omega)]; exact H.2.2.1, by rw [mI1, if_pos ⟨rfl, rfl⟩], sk_fp g2 (by omega) (fun j => by omega) H.2.2.2.2.1, by rw [g2.2 52 48 (by omega)]; exact H.2.2.2.2.2⟩
    obtain ⟨M3, u1, u2, u3, u4, u5⟩ := r_go (h := h) H2 hi (by omega)
    have S3 : SkR M3 sk := sk_fp u3 (by omega) (fun j => by omega) H2.2.2.2.2.1
    refine ⟨puM M3 sk.length 6, (hL _).2 ?_, fp_tr (fp_mono (fun x j z => by unfold pR; omega) g2) (fp_tr u2 fp_pu), fun z => ?_, fun _ h4 => ?_⟩
    · rw [if_neg (show ¬ nI a = (6 : Int32) from fun z => h6 ((nI_eq (b := 6) (by omega) (by omega)).1 z))]
      unfold f_X11_expression_b46_23_12
      simp only [zv_eq]
      rw [H.2.2.2.1, nI_k1, u1, zb2_some]
      exact r_pushE (α := zm_Mem ⊕ zm_Mem) S3 hl (fun M => some (.inl M))
    · exact rf_fp (u4 (by omega)) fp_pu2 (fun x j a b z => by omega) (by omega) (by omega)
    · obtain ⟨w1, w2⟩ := u5 h4
      refine ⟨rs_fp w1 fp_pu2 (fun x j a b z => by omega) (by omega) (by omega) (by omega) (sk_push (x := 6) S3 hl) ?_, w2⟩
      rw [fp_pu2.2 52 48 (by omega)]; exact w1.2.2.2.2.2
theorem rs_op3 : ∀ s, s < 276 → isO 3 s = true → (s = 43 ∨ s = 45) ∧ (rsF s = 8 ∨ rsF s = 9) ∧ opc (rsF s) = opF s := by decide +kernel
theorem rs_op4 : ∀ s, s < 276 → isO 4 s = true → (s = 42 ∨ s = 47) ∧ (rsF s = 10 ∨ rsF s = 15) ∧ opc (rsF s) = opF s := by decide +kernel
theorem rs_op5 : ∀ s, s < 276 → isO 3 s = false → s ≠ 43 ∧ s ≠ 45 := by decide +kernel
theorem rs_op6 : ∀ s, s < 276 → isO 4 s = false → s ≠ 42 ∧ s ≠ 47 := by decide +kernel
theorem rs_op : ∀ s, s < 276 → (isO 3 s = true → (s = 43 ∨ s = 45) ∧ (rsF s = 8 ∨ rsF s = 9) ∧ opc (rsF s) = opF s) ∧ (isO 4 s = true → (s = 42 ∨ s = 47) ∧ (rsF s = 10 ∨ rsF s = 15) ∧ opc (rsF s) = opF s) ∧ (isO 3 s = false → s ≠ 43 ∧ s ≠ 45) ∧ (isO 4 s = false → s ≠ 42 ∧ s ≠ 47) := fun s h => ⟨rs_op3 s h, rs_op4 s h, rs_op5 s h, rs_op6 s h⟩
theorem r_b234 {M : zm_Mem} {T : Nat → Nat} {n i a k h : Nat} {s p : List Nat} {a1 : Int32} (H : RS M (tkF T n) (tkE T n) i a (s ++ p) k) (hi : i ≤ tkE T n) (h0 : (tkF T n i).1 ≠ 0) (hh : h ≤ 840) (hk : k + p.length ≤ h) (hl : s.length < 64) (hs : s = [] ∨ ∃ s' x, s = s' ++ [x] ∧ (x = 6 ∨ (a1 ≠ 0 ∧ (x = 8 ∨ x = 9)))) (hp : ∀ x ∈ p, (x = 8 ∨ x = 9 ∨ x = 10 ∨ x = 15) ∧ (a1 = 0 ∨ (x ≠ 8 ∧ x ≠ 9))) : ∃ M', f_X11_expression_b234_12 M 1 a1 = some (.inl (1, M')) ∧ Fp (pR k h) M M' ∧ (i = 400 → RF M' (tkF T n) (tkE T n) i 2) ∧ (i ≠ 400 → RS M' (tkF T n) (tkE T n) (i + 1) a (s ++ [rsF (tkF T n i).1]) (k + p.length) ∧ i + 1 ≤ tkE T n ∧ iv_sm M' k (pc p)) := by
  obtain ⟨M1, c1, c2, c3, c4, c5⟩ := r_comes hh hs p.length p M k rfl H.2.2.2.2.1 H.2.2.2.2.2 hk hp
  have he := H.1.1
  have H1 : RS M1 (tkF T n) (tkE T n) i a s (k + p.length) := rs_fp H c5 (fun x j a b z => by unfold pK at z; omega) (by unfold pK; omega) (by unfold pK; omega) (by unfold pK; omega) c2 c3
  have S2 := sk_push (x := rsF (tkF T n i).1) c2 hl
  have H2 : RS (puM M1 s.length (nI (rsF (tkF T n i).1))) (tkF T n) (tkE T n) i a (s ++ [rsF (tkF T n i).1]) (k + p.length) := rs_fp H1 fp_pu2 (fun x j a b z => by omega) (by omega) (by omega) (by omega) S2 (by rw [fp_pu2.2 52 48 (by omega)]; exact c3)
  obtain ⟨M3, u1, u2, u3, u4, u5⟩ := r_go (h := h) H2 hi h0
  have fR : Fp (pR (k + p.length) h) M1 M3 := fp_tr fp_pu u2
  refine ⟨M3, ?_, fp_tr (fp_KR c5) (fp_RR (by omega) fR), u4, fun z => ?_⟩
  · unfold f_X11_expression_b234_12
    simp only [zv_eq]
    rw [c1, zb2_some, H1.2.1, zm_ck_t (zm_in_nI (by omega) (by omega)), nI_clamp (by omega), (H1.1.2 i hi).1]
    refine (r_pushE (α := (Int32 × zm_Mem) ⊕ (zm_Mem ⊕ zm_Mem ⊕ zm_Mem)) c2 hl (fun M => zm_b2 (f_X11_goesOn M) fun _ M266 => some (.inl ((1 : Int32), M266)))).trans ?_
    show zm_b2 (f_X11_goesOn (puM M1 s.length (nI (rsF (tkF T n i).1)))) _ = _
    rw [u1, zb2_some]
  · obtain ⟨w1, w2⟩ := u5 z
    exact ⟨w1, w2, sm_fpK c4 fR (by rw [pc_len]; omega)⟩
theorem r_opB {M : zm_Mem} {T : Nat → Nat} {n i a k h w : Nat} {s p : List Nat} (hw : w = 3 ∨ w = 4) (ho : isO w (tkF T n i).1 = true) (H : RS M (tkF T n) (tkE T n) i a (s ++ p) k) (hi : i ≤ tkE T n) (hh : h ≤ 840) (hk : k + p.length ≤ h) (hl : s.length < 64) (hs : s = [] ∨ ∃ s' x, s = s' ++ [x] ∧ (x = 6 ∨ (w = 4 ∧ (x = 8 ∨ x = 9)))) (hp : ∀ x ∈ p, (x = 8 ∨ x = 9 ∨ x = 10 ∨ x = 15) ∧ (w = 3 ∨ (x ≠ 8 ∧ x ≠ 9))) : ∃ M', Fp (pR k h) M M' ∧ (i = 400 → RunB 0 M = some ((), M') ∧ RF M' (tkF T n) (tkE T n) i 2) ∧ (i ≠ 400 → RunB 0 M = RunA 0 M' ∧ RS M' (tkF T n) (tkE T n) (i + 1) a (s ++ [rsF (tkF T n i).1]) (k + p.length) ∧ i + 1 ≤ tkE T n ∧ iv_sm M' k (pc p)) := by
  have r4 := rs_40 _ cs_num (tkF_ok (T := T) (n := n) (i := i)).1
  have ro := rs_op (tkF T n i).1 cs_num
  have i7 := r_isX H hi 7 41 (by omega) r4.2.1
  have i8 := r_isX H hi 8 43 (by omega) r4.2.2.1
  have i9 := r_isX H hi 9 45 (by omega) r4.2.2.2.1
  have i10 := r_isX H hi 10 42 (by omega) r4.2.2.2.2.1
  have i15 := r_isX H hi 15 47 (by omega) r4.2.2.2.2.2
  have sort : ((tkF T n i).1 = 43 ∧ w = 3) ∨ ((tkF T n i).1 = 45 ∧ w = 3) ∨ ((tkF T n i).1 = 42 ∧ w = 4) ∨ ((tkF T n i).1 = 47 ∧ w = 4) := by
    rcases hw with rfl | rfl
    · have := (ro.1 ho).1; omega
    · have := (ro.2.1 ho).1; omega
  have l96 : f_X11_expression_l96_12 0 M = some (.inr M) := by
    unfold f_X11_expression_l96_12
    rw [show f_X11_is 7 M = some 0 from i7.2 (by omega), zb1_some, if_pos rfl]
  obtain ⟨M', b1, b2, b3, b4⟩ := r_b234 (a1 := if w = 3 then 0 else 1) H hi (by omega) hh hk hl (by
    rcases hs with hs | ⟨s', x, h1, h2⟩
    · exact Or.inl hs
    · refine Or.inr ⟨s', x, h1, ?_⟩
      rcases h2 with h2 | ⟨h2, h3⟩
      · exact Or.inl h2
      · refine Or.inr ⟨?_, h3⟩
        rw [if_neg (by omega)]; decide) (fun x hx => by
    refine ⟨(hp x hx).1, ?_⟩
    rcases (hp x hx).2 with h2 | h2
    · exact Or.inl (if_pos h2)
    · exact Or.inr h2)
  have b145 : f_X11_expression_b145_12 M = some (.inl (1, M')) := by
    rw [← b1]
    unfold f_X11_expression_b145_12 f_X11_expression_b181_12 f_X11_expression_b186_12 f_X11_expression_b229_12
    rcases sort with ⟨q, hw3⟩ | ⟨q, hw3⟩ | ⟨q, hw3⟩ | ⟨q, hw3⟩
    · rw [show f_X11_is 8 M = some 1 from i8.1 q, zb1_some, if_neg (by decide), if_neg (by decide), show f_X11_is 10 M = some 0 from i10.2 (by omega), zb1_some, if_pos rfl, show f_X11_is 15 M = some 0 from i15.2 (by omega), zb1_some, if_pos rfl, if_pos hw3]
    · rw [show f_X11_is 8 M = some 0 from i8.2 (by omega), zb1_some, if_pos rfl, show f_X11_is 9 M = some 1 from i9.1 q, zb1_some, if_neg (by decide), if_neg (by decide), show f_X11_is 10 M = some 0 from i10.2 (by omega), zb1_some, if_pos rfl, show f_X11_is 15 M = some 0 from i15.2 (by omega), zb1_some, if_pos rfl, if_pos hw3]
    · rw [show f_X11_is 8 M = some 0 from i8.2 (by omega), zb1_some, if_pos rfl, show f_X11_is 9 M = some 0 from i9.2 (by omega), zb1_some, if_pos rfl, show f_X11_is 10 M = some 1 from i10.1 q, zb1_some, if_neg (by decide), if_neg (by decide), zb1_some, if_neg (by decide), if_neg (by omega)]
    · rw [show f_X11_is 8 M = some 0 from i8.2 (by omega), zb1_some, if_pos rfl, show f_X11_is 9 M = some 0 from i9.2 (by omega), zb1_some, if_pos rfl, show f_X11_is 10 M = some 0 from i10.2 (by omega), zb1_some, if_pos rfl, show f_X11_is 15 M = some 1 from i15.1 q, zb1_some, if_neg (by decide), if_neg (by decide), zb1_some, if_pos rfl, zb1_some, if_neg (by decide), if_neg (by omega)]
  have rx := rx_op (x9 := 0) l96 b145
  refine ⟨M', b2, fun z => ?_, fun z => ?_⟩
  · rw [if_neg (rf_ne (b3 z))] at rx
    exact ⟨rx, b3 z⟩
  · rw [if_pos (b4 z).1.2.2.1] at rx
    exact ⟨rx, b4 z⟩
/-- a bracket's end -/
theorem r_close {M : zm_Mem} {T : Nat → Nat} {n j a k h : Nat} {s p : List Nat} (H : RS M (tkF T n) (tkE T n) j (a + 1) (s ++ [6] ++ p) k) (hj : j ≤ tkE T n) (ha : a < 6) (h41 : (tkF T n j).1 = 41) (hh : h ≤ 840) (hk : k + (s.length + p.length) ≤ h) (hs : okK s) (hp : ∀ x ∈ p, x = 8 ∨ x = 9 ∨ x = 10 ∨ x = 15) : ∃ M', Fp (pR k h) M M' ∧ (j = 400 → RunB 0 M = some ((), M') ∧ RF M' (tkF T n) (tkE T n) j 2) ∧ (j ≠ 400 → RunB 0 M = RunB 0 M' ∧ RS M' (tkF T n) (tkE T n) (j + 1) a s (k + p.length) ∧ j + 1 ≤ tkE T n ∧ iv_sm M' k (pc p)) := by
  have r4 := rs_40 _ cs_num (tkF_ok (T := T) (n := n) (i := j)).1
  have i7 : f_X11_is 7 M = some 1 := (r_isX H hj 7 41 (by omega) r4.2.1).1 h41
  obtain ⟨M1, c1, c2, c3, c4, c5⟩ := r_comes (a1 := 0) (h := h) (s := s ++ [6]) hh (Or.inr ⟨s, 6, rfl, Or.inl rfl⟩) p.length p M k rfl H.2.2.2.2.1 H.2.2.2.2.2 (by omega) (fun x hx => ⟨hp x hx, Or.inl rfl⟩)
  have H1 : RS M1 (tkF T n) (tkE T n) j (a + 1) (s ++ [6]) (k + p.length) := rs_fp H c5 (fun x j a b z => by unfold pK at z; omega) (by unfold pK; omega) (by unfold pK; omega) (by unfold pK; omega) c2 c3
  have e52 : M1.1 52 52 - 1 = nI s.length := by
    rw [(sk_top c2).1, show (1 : Int32) = nI 1 from rfl, zi_sub (by omega)]; rfl
  have g2 : Fp (fun x j => x = 52 ∧ j = 52) M1 (zm_sI M1 52 52 (nI s.length)) := fp_sI ⟨rfl, rfl⟩
  have S2 : SkR (zm_sI M1 52 52 (nI s.length)) s := by
    refine ⟨by have := (sk_top c2).2.2; omega, by rw [mI1, if_pos ⟨rfl, rfl⟩], fun i x hx => ?_⟩
    rw [g2.2 88 i (by omega)]
    refine c2.2.2 i x ?_
    have hi' : i < s.length := by
      refine Classical.byContradiction (fun z => ?_)
      rw [List.getElem?_eq_none (by omega)] at hx; cases hx
    rw [List.getElem?_append_left hi']; exact hx
  have H2 : RS (zm_sI M1 52 52 (nI s.length)) (tkF T n) (tkE T n) j (a + 1) s (k + p.length) := rs_fp H1 g2 (fun x j a b z => by omega) (by omega) (by omega) (by omega) S2 (by rw [g2.2 52 48 (by omega)]; exact c3)
  have e12 : (zm_sI M1 52 52 (nI s.length)).1 52 12 - 1 = nI a := by
    rw [H2.2.2.2.1, show (1 : Int32) = nI 1 from rfl, zi_sub (by omega)]; rfl
  have g3 : Fp (fun x j => x = 52 ∧ j = 12) (zm_sI M1 52 52 (nI s.length)) (zm_sI (zm_sI M1 52 52 (nI s.length)) 52 12 (nI a)) := fp_sI ⟨rfl, rfl⟩
  have H3 : RS (zm_sI (zm_sI M1 52 52 (nI s.length)) 52 12 (nI a)) (tkF T n) (tkE T n) j a s (k + p.length) := ⟨rks_fp g3 (fun x j a b z => by omega) H2.1, by rw [g3.2 52 11 (by omega)]; exact H2.2.1, by rw [g3.2 52 13 (by omega)]; exact H2.2.2.1, by rw [mI1, if_pos ⟨rfl, rfl⟩], sk_fp g3 (by omega) (fun j => by omega) S2, by rw [g3.2 52 48 (by omega)]; exact H2.2.2.2.2.2⟩
  obtain ⟨M4, u1, u2, u3, u4, u5⟩ := r_go (h := h) H3 hj (by omega)
  have st : f_X11_expression_l96_12 0 M = some (.inl M4) := by
    unfold f_X11_expression_l96_12
    simp only [zv_eq]
    rw [i7, zb1_some, if_neg (by decide), H.2.2.2.1, if_neg (show ¬ nI (a + 1) ≤ (0 : Int32) from nI_nle (by omega) (by omega)), c1, zb2_some, e52, e12, u1, zb2_some]
  have f4 : Fp (pR (k + p.length) h) M1 M4 := fp_tr (fp_mono (fun x j z => by unfold pR; omega) g2) (fp_tr (fp_mono (fun x j z => by unfold pR; omega) g3) u2)
  have f4' : Fp (pR k h) M M4 := fp_tr (fp_KR c5) (fp_RR (by omega) f4)
  by_cases h4 : j = 400
  · have F4 := u4 h4
    have S4 : SkR M4 s := sk_fp u3 (by omega) (fun j => by omega) H3.2.2.2.2.1
    have k4 : M4.1 52 48 = nI (k + p.length) := by rw [u3.2 52 48 (by omega)]; exact H3.2.2.2.2.2
    obtain ⟨M5, v1, v2⟩ := r_x191F (x9 := 0) (h := h) (rf_le F4) hh hs S4 k4 (by omega)
    refine ⟨M5, fp_tr f4' (fp_RR (by omega) (fp_KR v2)), fun _ => ⟨?_, rf_fp F4 v2 (fun x j a b z => by unfold pK at z; omega) (by unfold pK; omega) (by unfold pK; omega)⟩, fun z => absurd h4 z⟩
    rw [rx_close st, r_end (Or.inl (r_isF (rf_ne F4))) (r_isF (rf_ne F4)) (r_isF (rf_ne F4)) (r_isF (rf_ne F4)) (r_isF (rf_ne F4)), v1]
  · obtain ⟨w1, w2⟩ := u5 h4
    exact ⟨M4, f4', fun z => absurd z h4, fun _ => ⟨rx_close st, w1, w2, sm_fpK c4 f4 (by rw [pc_len]; omega)⟩⟩
/-- a bracket without its end -/
theorem r_noclose {M : zm_Mem} {T : Nat → Nat} {n j a k h : Nat} {s : List Nat} (H : RS M (tkF T n) (tkE T n) j (a + 1) s k) (hj : j ≤ tkE T n) (ha : a < 6) (h41 : (tkF T n j).1 ≠ 41) (h3 : isO 3 (tkF T n j).1 = false) (h4 : isO 4 (tkF T n j).1 = false) (hh : h ≤ 840) (hk : k + s.length ≤ h) (hs : okK s) : ∃ M', Fp (pR k h) M M' ∧ RunB 0 M = some ((), M') ∧ RF M' (tkF T n) (tkE T n) j 1 := by
  have r4 := rs_40 _ cs_num (tkF_ok (T := T) (n := n) (i := j)).1
  have ro := rs_op (tkF T n j).1 cs_num
  have o3 := ro.2.2.1 h3
  have o4 := ro.2.2.2 h4
  obtain ⟨q1, q2, q3, q4⟩ := r_fl (f := 1) (h := h) H hj (by omega)
  have q1' : f_X11_fail 1 M = some ((), zm_sI (zm_sI M 52 13 (nI 1)) 52 14 (nI (tkF T n j).2.1)) := q1
  obtain ⟨M2, v1, v2⟩ := r_comesF (h := h) hh hs (sk_fp q4 (by omega) (fun j => by omega) H.2.2.2.2.1) (by rw [q4.2 52 48 (by omega)]; exact H.2.2.2.2.2) hk
  refine ⟨M2, fp_tr q3 (fp_KR v2), ?_, rf_fp q2 v2 (fun x j a b z => by unfold pK at z; omega) (by unfold pK; omega) (by unfold pK; omega)⟩
  rw [r_end (Or.inl ((r_isX H hj 7 41 (by omega) r4.2.1).2 h41)) ((r_isX H hj 8 43 (by omega) r4.2.2.1).2 o3.1) ((r_isX H hj 9 45 (by omega) r4.2.2.2.1).2 o3.2) ((r_isX H hj 10 42 (by omega) r4.2.2.2.2.1).2 o4.1) ((r_isX H hj 15 47 (by omega) r4.2.2.2.2.2).2 o4.2)]
  unfold f_X11_expression_x191_12 f_X11_expression_b204
  rw [H.2.2.2.1, if_neg (show ¬ nI (a + 1) ≤ (0 : Int32) from nI_nle (by omega) (by omega)), q1', zb2_some, v1, zb2_some]
