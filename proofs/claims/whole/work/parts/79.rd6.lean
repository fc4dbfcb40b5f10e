theorem tpR_fg {M L : zm_Mem} {T : Nat → Nat} {n : Nat} (h : Fg wTr M L) (hT : TpR M T n) : TpR L T n := ⟨hT.1, (h.2.1 52 4 rfl).trans hT.2.1, fun j hj => by rw [h.2.1 54 j rfl]; exact hT.2.2 j hj⟩
theorem wdr_fg {M L : zm_Mem} (h : Fg wTr M L) (hW : iv_words M) : iv_words L := fun j hj => by rw [h.2.2 7 j rfl, h.2.2 59 j rfl]; exact hW j hj
theorem r_cut {M : zm_Mem} {T : Nat → Nat} {n : Nat} (hT : TpR M T n) (hW : iv_words M) : ∃ M', f_X11_cut M = some ((), M') ∧ Fg wTr M M' ∧ TkR M' (if (tokA T n 0).length ≤ 400 then tokA T n 0 ++ [(0, n, [], 0)] else (tokA T n 0).take 401) := by
  have hn := hT.1
  have f0 : Fg wTr M (zm_sI M 52 10 0) := fg_sI rfl
  have k0 : TkR (zm_sI M 52 10 0) [] := ⟨by rw [mI1, if_pos ⟨rfl, rfl⟩]; rfl, fun i x h => by cases h⟩
  have fin : ∀ (L : zm_Mem) p l, p ≤ n → Fg wTr M L → TkR L l → l.length ≤ 401 → tokA T n 0 = l ++ tokA T n p → ¬ (p < n ∧ l.length ≤ 400) → ∃ e, f_X11_cut_l7 (nI p) L = some (.inr e) ∧ ∃ M', (Sum.elim (fun e31 => f_X11_cut_x31_7 e31) (fun e294 => some ((), e294))) e = some ((), M') ∧ Fg wTr M M' ∧ TkR M' (if (tokA T n 0).length ≤ 400 then tokA T n 0 ++ [(0, n, [], 0)] else (tokA T n 0).take 401) := by
    intro L p l hp h5 h6 h7 h8 hno
    by_cases hl : l.length ≤ 400
    · have hpn : n ≤ p := by omega
      have hTL := tpR_fg h5 hT
      refine ⟨.inl L, ?_, adR L l.length (0, n, [], 0), ?_, fg_tr h5 fg_adR, ?_⟩
      · unfold f_X11_cut_l7
        rw [h6.1, if_neg (show ¬ (400 : Int32) < nI l.length from nI_nlt (a := 400) hl (by omega)), r_byte hTL (by omega), zb1_some, hTL.2.1, if_neg (nI_nlt hpn (by omega))]
      · show f_X11_cut_x31_7 L = _
        unfold f_X11_cut_x31_7
        have := r_tadd (x := (0, n, [], 0)) h6.1 (by omega)
        have this' : f_X11_token 0 (nI n) 0 0 L = _ := this
        rw [hTL.2.1, this', zb2_some]
      · rw [h8, tokA_end hpn, List.append_nil, if_pos hl]; exact tkR_add h6
    · refine ⟨.inr L, ?_, L, rfl, h5, ?_⟩
      · unfold f_X11_cut_l7
        rw [h6.1, if_pos (show (400 : Int32) < nI l.length from nI_lt (a := 400) (by omega) (by omega))]
      · rw [h8, if_neg (by rw [List.length_append]; omega), List.take_append_of_le_length (by omega), List.take_of_length_le h7]; exact h6
  have key : ∃ e, zm_lp (fun s => f_X11_cut_l7 s.1 s.2) (nI 0, zm_sI M 52 10 0) = some e ∧ ∃ M', (Sum.elim (fun e31 => f_X11_cut_x31_7 e31) (fun e294 => some ((), e294))) e = some ((), M') ∧ Fg wTr M M' ∧ TkR M' (if (tokA T n 0).length ≤ 400 then tokA T n 0 ++ [(0, n, [], 0)] else (tokA T n 0).take 401) := by
    refine lp_inv (step := fun s => f_X11_cut_l7 s.1 s.2) (fun i z => ∃ p l, z.1 = nI p ∧ i ≤ p ∧ p ≤ n ∧ Fg wTr M z.2 ∧ TkR z.2 l ∧ l.length ≤ 401 ∧ tokA T n 0 = l ++ tokA T n p) _ n ?_ ?_ ⟨0, [], rfl, by omega, by omega, f0, k0, by simp, rfl⟩
    · rintro i ⟨z1, L⟩ hi ⟨p, l, h1, h3, h4, h5, h6, h7, h8⟩
      simp only at h1 h5 h6
      subst h1
      by_cases hgo : p < n ∧ l.length ≤ 400
      · obtain ⟨hp, hl⟩ := hgo
        have st := r_cutStep (tpR_fg h5 hT) (wdr_fg h5 hW) hp h6 hl
        have hg := nxS_gt (T := T) hp
        refine Or.inl ⟨_, st, ?_⟩
        rw [tokA_go hp] at h8
        cases hx : nxT T n p with
        | none =>
          rw [hx] at h8
          exact ⟨nxS T n p, l, rfl, by omega, by omega, h5, h6, h7, h8⟩
        | some x =>
          rw [hx] at h8
          refine ⟨nxS T n p, l ++ [x], rfl, by omega, by omega, fg_tr h5 fg_adR, tkR_add h6, by rw [List.length_append]; show l.length + 1 ≤ 401; omega, ?_⟩
          rw [List.append_assoc]; exact h8
      · exact Or.inr (fin L p l h4 h5 h6 h7 h8 hgo)
    · rintro ⟨z1, L⟩ ⟨p, l, h1, h3, h4, h5, h6, h7, h8⟩
      simp only at h1 h5 h6
      subst h1
      exact fin L p l h4 h5 h6 h7 h8 (fun z => by omega)
  obtain ⟨e, k1, M', k2, k3⟩ := key
  refine ⟨M', ?_, k3⟩
  unfold f_X11_cut
  simp only [zv_eq]
  have k1' : zm_lp (fun s => f_X11_cut_l7 s.1 s.2) (0, zm_sI M 52 10 0) = some e := k1
  rw [k1']; exact k2
/-- the bytes on the tape -/
theorem tape_T {M : zm_Mem} (h : iv_tape M) : ∃ n T, n ≤ 2000 ∧ M.1 1 15 = nI n ∧ M.1 52 2 = nI n ∧ TpC M T n ∧ ∀ j, j < n → T j < 256 ∧ vp_nar .byte (M.1 53 j) &&& 255 = nI (T j) := by
  obtain ⟨n, h1, h2, h3, h4⟩ := h
  refine ⟨n, fun j => (M.1 53 j).toBitVec.toNat % 256, h1, h2, h3, ⟨h1, fun j hj => ?_⟩, fun j hj => ?_⟩
  · obtain ⟨e, x, hx⟩ := h4 j hj
    rw [e]
    refine ⟨Nat.mod_lt _ (by omega), and255 _, fun h => ?_⟩
    show M.1 53 j = nI ((M.1 53 j).toBitVec.toNat % 256)
    have h' : (M.1 53 j).toBitVec.toNat % 256 < 128 := h
    rw [hx] at h' ⊢
    exact byte_lo h'
  · obtain ⟨e, x, hx⟩ := h4 j hj
    refine ⟨Nat.mod_lt _ (by omega), ?_⟩
    show _ = nI ((M.1 53 j).toBitVec.toNat % 256)
    rw [hx, byte_id]; exact and255 _
theorem r_copyT {M : zm_Mem} {n : Nat} (hn : n ≤ 2000) (h : M.1 52 4 = nI n) : zm_lp (fun s => f_X11_read_l10 s.1 s.2) (0, M) = some (cpM M 54 0 n (fun j => vp_nar .byte (M.1 53 j))) := by
  refine lp_cpy M 54 0 n (fun j => vp_nar .byte (M.1 53 j)) (fun i hi => ?_) ?_
  · unfold f_X11_read_l10
    rw [mC_ne (by omega), h, if_neg (nI_ge hi (by omega)), zm_ck_t (zm_in_nI (by omega) (by omega)), zm_ck_t (zm_in_nI (by omega) (by omega)), nI_clamp (by omega), mC_ne (by omega), nI_k1, Nat.zero_add]
    simp only [zv_eq]
  · unfold f_X11_read_l10
    rw [mC_ne (by omega), h, if_pos (nI_le (Nat.le_refl _) (by omega))]
