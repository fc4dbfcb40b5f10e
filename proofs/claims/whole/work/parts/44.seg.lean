def wS (x _j : Nat) : Bool := decide (x = 50)
def wP (x _j : Nat) : Bool := decide (x = 90)
def wR (x j : Nat) : Bool := decide (x = 90) || (decide (x = 52) && decide (j = 55))
theorem iv_sc_hd {M : zm_Mem} {t a : Nat} {p : Nat × Nat} {l : zE} (h : iv_sc M t a (p :: l)) : M.1 (t + 10) a = nI (p.1 * 16384 + p.2) := h 0 p rfl
theorem iv_sc_tl {M : zm_Mem} {t a : Nat} {p : Nat × Nat} {l : zE} (h : iv_sc M t a (p :: l)) : iv_sc M t (a + 1) l := by
  intro i q hq
  have := h (i + 1) q hq
  rwa [show a + (i + 1) = a + 1 + i by omega] at this
theorem iv_sc_l {M : zm_Mem} {t a : Nat} {l l' : zE} (h : iv_sc M t a (l ++ l')) : iv_sc M t a l := by
  intro i q hq
  have hi : i < l.length := by
    rcases Nat.lt_or_ge i l.length with h1 | h1
    · exact h1
    · rw [List.getElem?_eq_none h1] at hq; cases hq
  exact h i q (by rw [List.getElem?_append_left hi]; exact hq)
theorem iv_sc_r {M : zm_Mem} {t a : Nat} {l l' : zE} (h : iv_sc M t a (l ++ l')) : iv_sc M t (a + l.length) l' := by
  intro i q hq
  have := h (l.length + i) q (by rw [List.getElem?_append_right (by omega), Nat.add_sub_cancel_left]; exact hq)
  rwa [← Nat.add_assoc] at this
theorem iv_sc_fr {M M' : zm_Mem} {t a : Nat} {l : zE} {W : Nat → Nat → Bool} (hF : Fr W M M') (hW : ∀ j, W (t + 10) j = false) (h : iv_sc M t a l) : iv_sc M' t a l := fun i p hp => (hF.2 _ _ (hW _)).trans (h i p hp)
theorem iv_sm_hd {M : zm_Mem} {a : Nat} {p : Nat × Nat} {l : zE} (h : iv_sm M a (p :: l)) : M.1 86 a = nI p.1 ∧ M.1 87 a = nI p.2 := h 0 p rfl
theorem iv_sm_tl {M : zm_Mem} {a : Nat} {p : Nat × Nat} {l : zE} (h : iv_sm M a (p :: l)) : iv_sm M (a + 1) l := by
  intro i q hq
  have := h (i + 1) q hq
  rwa [show a + (i + 1) = a + 1 + i by omega] at this
theorem iv_sm_fr {M M' : zm_Mem} {a : Nat} {l : zE} {W : Nat → Nat → Bool} (hF : Fr W M M') (hW : ∀ j, W 86 j = false ∧ W 87 j = false) (h : iv_sm M a l) : iv_sm M' a l := fun i p hp => ⟨(hF.2 _ _ (hW _).1).trans (h i p hp).1, (hF.2 _ _ (hW _).2).trans (h i p hp).2⟩
/-- what iv_dp says of the first code -/
theorem dp_cons {p : Nat × Nat} {l : zE} {d d' : Nat} (h : iv_dp (p :: l) d = some d') : (p.1 < 2 ∧ d < 20 ∧ p.2 < 10000 ∧ (p.1 = 1 → p.2 < 9) ∧ iv_dp l (d + 1) = some d') ∨ (¬ p.1 < 2 ∧ p.1 ≤ 5 ∧ p.2 = 0 ∧ 2 ≤ d ∧ iv_dp l (d - 1) = some d') := by
  unfold iv_dp at h
  by_cases h1 : p.1 < 2
  · rw [if_pos h1] at h
    by_cases h2 : d < 20 ∧ p.2 < 10000 ∧ (p.1 = 1 → p.2 < 9)
    · rw [if_pos h2] at h; exact Or.inl ⟨h1, h2.1, h2.2.1, h2.2.2, h⟩
    · rw [if_neg h2] at h; cases h
  · rw [if_neg h1] at h
    by_cases h2 : p.1 ≤ 5 ∧ p.2 = 0 ∧ 2 ≤ d
    · rw [if_pos h2] at h; exact Or.inr ⟨h1, h2.1, h2.2.1, h2.2.2, h⟩
    · rw [if_neg h2] at h; cases h
theorem dp_le {l : zE} : ∀ {d d' : Nat}, iv_dp l d = some d' → d' ≤ d + l.length := by
  induction l with
  | nil => intro d d' h; cases h; exact Nat.le_refl _
  | cons p l ih =>
    intro d d' h
    simp only [List.length_cons]
    rcases dp_cons h with ⟨_, _, _, _, h5⟩ | ⟨_, _, _, _, h5⟩
    · have := ih h5; omega
    · have := ih h5; omega
theorem ex1_app {vs : Nat → Int32} {base : List Int32} : ∀ {l : zE} {st : List Int32} {d' : Nat}, iv_dp l st.length = some d' → ex1 vs l (st ++ base) = (ex1 vs l st).map (· ++ base) := by
  intro l
  induction l with
  | nil => intro st d' _; rfl
  | cons p l ih =>
    intro st d' h
    rcases dp_cons h with ⟨h1, _, _, _, h5⟩ | ⟨h1, _, _, h4, h5⟩
    · unfold ex1
      rw [if_pos h1, if_pos h1]
      exact ih (st := _ :: st) h5
    · match st, h4 with
      | b :: a :: st', _ =>
        unfold ex1
        rw [if_neg h1, if_neg h1]
        simp only [List.cons_append]
        split
        · rfl
        · exact ih (st := eo p.1 a b :: st') (by simp only [List.length_cons] at h5 ⊢; exact h5)
noncomputable def gS (t : Nat) : Int32 × Int32 × Int32 × zm_Mem → Option ((Int32 × Int32 × Int32 × zm_Mem) ⊕ ((Int32 × zm_Mem) ⊕ zm_Mem ⊕ zm_Mem ⊕ zm_Mem ⊕ zm_Mem)) := fun s => f_X5_goThrough_l8 t s.1 s.2.1 s.2.2.1 s.2.2.2
noncomputable def tS (to : Int32) : Int32 × Int32 × zm_Mem → Option ((Int32 × Int32 × zm_Mem) ⊕ (zm_Mem ⊕ zm_Mem)) := fun s => f_X11_termOf_l5 to s.1 s.2.1 s.2.2
/-- a segment of a sum's code, in the class -/
theorem gt_seg {t cl e : Nat} {vs : Nat → Int32} (ht : t = 25 ∨ t = 36) (hcl : cl ≤ 408) (he : e ≤ 2) : ∀ (l : zE) (st : List Int32) (d d' at' s : Nat) (M : zm_Mem), st.length = d + e → d ≤ 20 → iv_dp l d = some d' → iv_sc M t at' l → M.1 t 10 = nI cl → at' + l.length ≤ cl → s ≤ at' → (∀ i, i < 9 → M.1 49 i = vs i) → Stk (M.1 50) st →
    ∃ M', Fr wS M M' ∧ (ex1 vs l st = none → zm_lp (gS t) (nI at', nI st.length, nI s, M) = some (.inr (.inr (.inr (.inl M'))))) ∧ (∀ st', ex1 vs l st = some st' → zm_lp (gS t) (nI at', nI st.length, nI s, M) = zm_lp (gS t) (nI (at' + l.length), nI st'.length, nI (s + l.length), M') ∧ Stk (M'.1 50) st' ∧ st'.length = d' + e) := by
  intro l
  induction l with
  | nil =>
    intro st d d' at' s M hst hd hdp hc hM hat hs hv hk
    cases hdp
    refine ⟨M, fr_rfl _ M, (fun h => by cases h), fun st' h => ?_⟩
    cases h
    exact ⟨rfl, hk, hst⟩
  | cons p l ih =>
    intro st d d' at' s M hst hd hdp hc hM hat hs hv hk
    simp only [List.length_cons] at hat
    have hhd := iv_sc_hd hc
    have htl := iv_sc_tl hc
    have hWt : ∀ j, wS (t + 10) j = false := fun j => by rcases ht with rfl | rfl <;> rfl
    have hWc : wS t 10 = false := by rcases ht with rfl | rfl <;> rfl
    rcases dp_cons hdp with ⟨h1, h2, h3, h4, h5⟩ | ⟨h1, h2, h3, h4, h5⟩
    · have hstep := gs_push (top := st.length) (s := s) hhd h1 h3 h4 (by omega) (by omega) (by omega) hcl hM
      have hF : Fr wS M (zm_sI M 50 st.length (if p.1 = 0 then nI p.2 else M.1 49 p.2)) := fr_sI rfl
      obtain ⟨M', g1, g2, g3⟩ := ih ((if p.1 = 0 then nI p.2 else M.1 49 p.2) :: st) (d + 1) d' (at' + 1) (s + 1) _ (by simp only [List.length_cons]; omega) (by omega) h5 (iv_sc_fr hF hWt htl) ((hF.2 _ _ hWc).trans hM) (by omega) (by omega) (fun i hi => (hF.2 49 i rfl).trans (hv i hi)) (stk_push hk)
      have ev : (if p.1 = 0 then nI p.2 else M.1 49 p.2) = (if p.1 = 0 then nI p.2 else vs p.2) := by
        by_cases h0 : p.1 = 0
        · rw [if_pos h0, if_pos h0]
        · rw [if_neg h0, if_neg h0, hv _ (h4 (by omega))]
      have e1 : ex1 vs (p :: l) st = ex1 vs l ((if p.1 = 0 then nI p.2 else M.1 49 p.2) :: st) := by
        rw [ev]
        conv => lhs; unfold ex1
        rw [if_pos h1]
      have e2 : zm_lp (gS t) (nI at', nI st.length, nI s, M) = zm_lp (gS t) (nI (at' + 1), nI (st.length + 1), nI (s + 1), zm_sI M 50 st.length (if p.1 = 0 then nI p.2 else M.1 49 p.2)) := lp_go hstep
      refine ⟨M', fr_tr hF g1, fun h => ?_, fun st' h => ?_⟩
      · rw [e2]; exact g2 (e1 ▸ h)
      · have := g3 st' (e1 ▸ h)
        rw [e2]
        refine ⟨?_, this.2⟩
        rw [show at' + (p :: l).length = at' + 1 + l.length by simp only [List.length_cons]; omega, show s + (p :: l).length = s + 1 + l.length by simp only [List.length_cons]; omega]
        exact this.1
    · match st, hst, hk with
      | [], hst, _ => simp only [List.length_nil] at hst; omega
      | [_], hst, _ => simp only [List.length_cons, List.length_nil] at hst; omega
      | b :: a :: st', hst, hk =>
        simp only [List.length_cons] at hst
        have ka : M.1 50 st'.length = a := hk.2.1
        have kb : M.1 50 (st'.length + 1) = b := hk.1
        by_cases h0 : p.1 = 5 ∧ b = 0
        · have hstep := gs_div0 (d := st'.length) (s := s) (h0.1 ▸ hhd) (by omega) (by omega) (by omega) (by omega) hcl hM (kb.trans h0.2)
          have e1 : ex1 vs (p :: l) (b :: a :: st') = none := by unfold ex1; rw [if_neg h1]; simp only; rw [if_pos h0]
          refine ⟨M, fr_rfl _ M, fun _ => lp_end hstep, fun st2 h => by rw [e1] at h; cases h⟩
        · have hstep := gs_bin (d := st'.length) (s := s) hhd (by omega) h2 (by omega) (by omega) (by omega) (by omega) hcl hM (by rw [kb]; exact h0)
          rw [ka, kb] at hstep
          have hF : Fr wS M (zm_sI M 50 st'.length (eo p.1 a b)) := fr_sI rfl
          obtain ⟨M', g1, g2, g3⟩ := ih (eo p.1 a b :: st') (d - 1) d' (at' + 1) (s + 1) _ (by simp only [List.length_cons]; omega) (by omega) h5 (iv_sc_fr hF hWt htl) ((hF.2 _ _ hWc).trans hM) (by omega) (by omega) (fun i hi => (hF.2 49 i rfl).trans (hv i hi)) (stk_push hk.2.2)
          have e1 : ex1 vs (p :: l) (b :: a :: st') = ex1 vs l (eo p.1 a b :: st') := by
            conv => lhs; unfold ex1
            rw [if_neg h1]; simp only; rw [if_neg h0]
          have e2 : zm_lp (gS t) (nI at', nI (b :: a :: st').length, nI s, M) = zm_lp (gS t) (nI (at' + 1), nI (st'.length + 1), nI (s + 1), zm_sI M 50 st'.length (eo p.1 a b)) := lp_go hstep
          refine ⟨M', fr_tr hF g1, fun h => ?_, fun st2 h => ?_⟩
          · rw [e2]; exact g2 (e1 ▸ h)
          · have := g3 st2 (e1 ▸ h)
            rw [e2]
            refine ⟨?_, this.2⟩
            rw [show at' + (p :: l).length = at' + 1 + l.length by simp only [List.length_cons]; omega, show s + (p :: l).length = s + 1 + l.length by simp only [List.length_cons]; omega]
            exact this.1
/-- a segment of a sum's code, in the reference -/
theorem to_seg {to e : Nat} {vs : Nat → Int32} (hto : to ≤ 840) (he : e ≤ 2) : ∀ (l : zE) (st : List Int32) (d d' c : Nat) (M : zm_Mem), st.length = d + e → d ≤ 20 → iv_dp l d = some d' → iv_sm M c l → c + l.length ≤ to → (∀ i, i < 9 → M.1 89 i = vs i) → Stk (M.1 90) st →
    ∃ M', Fr wP M M' ∧ (ex1 vs l st = none → zm_lp (tS (nI to)) (nI st.length, nI c, M) = some (.inl M')) ∧ (∀ st', ex1 vs l st = some st' → zm_lp (tS (nI to)) (nI st.length, nI c, M) = zm_lp (tS (nI to)) (nI st'.length, nI (c + l.length), M') ∧ Stk (M'.1 90) st' ∧ st'.length = d' + e) := by
  intro l
  induction l with
  | nil =>
    intro st d d' c M hst hd hdp hc hat hv hk
    cases hdp
    refine ⟨M, fr_rfl _ M, (fun h => by cases h), fun st' h => ?_⟩
    cases h
    exact ⟨rfl, hk, hst⟩
  | cons p l ih =>
    intro st d d' c M hst hd hdp hc hat hv hk
    simp only [List.length_cons] at hat
    have hhd := iv_sm_hd hc
    have htl := iv_sm_tl hc
    have hWt : ∀ j, wP 86 j = false ∧ wP 87 j = false := fun j => ⟨rfl, rfl⟩
    rcases dp_cons hdp with ⟨h1, h2, h3, h4, h5⟩ | ⟨h1, h2, h3, h4, h5⟩
    · have hstep := ts_push (top := st.length) (to := to) hhd.1 hhd.2 h1 h3 h4 (by omega) (by omega) hto
      have hF : Fr wP M (zm_sI M 90 st.length (if p.1 = 0 then nI p.2 else M.1 89 p.2)) := fr_sI rfl
      obtain ⟨M', g1, g2, g3⟩ := ih ((if p.1 = 0 then nI p.2 else M.1 89 p.2) :: st) (d + 1) d' (c + 1) _ (by simp only [List.length_cons]; omega) (by omega) h5 (iv_sm_fr hF hWt htl) (by omega) (fun i hi => (hF.2 89 i rfl).trans (hv i hi)) (stk_push hk)
      have ev : (if p.1 = 0 then nI p.2 else M.1 89 p.2) = (if p.1 = 0 then nI p.2 else vs p.2) := by
        by_cases h0 : p.1 = 0
        · rw [if_pos h0, if_pos h0]
        · rw [if_neg h0, if_neg h0, hv _ (h4 (by omega))]
      have e1 : ex1 vs (p :: l) st = ex1 vs l ((if p.1 = 0 then nI p.2 else M.1 89 p.2) :: st) := by
        rw [ev]
        conv => lhs; unfold ex1
        rw [if_pos h1]
      have e2 : zm_lp (tS (nI to)) (nI st.length, nI c, M) = zm_lp (tS (nI to)) (nI (st.length + 1), nI (c + 1), zm_sI M 90 st.length (if p.1 = 0 then nI p.2 else M.1 89 p.2)) := lp_go hstep
      refine ⟨M', fr_tr hF g1, fun h => ?_, fun st' h => ?_⟩
      · rw [e2]; exact g2 (e1 ▸ h)
      · have := g3 st' (e1 ▸ h)
        rw [e2]
        refine ⟨?_, this.2⟩
        rw [show c + (p :: l).length = c + 1 + l.length by simp only [List.length_cons]; omega]
        exact this.1
    · match st, hst, hk with
      | [], hst, _ => simp only [List.length_nil] at hst; omega
      | [_], hst, _ => simp only [List.length_cons, List.length_nil] at hst; omega
      | b :: a :: st', hst, hk =>
        simp only [List.length_cons] at hst
        have ka : M.1 90 st'.length = a := hk.2.1
        have kb : M.1 90 (st'.length + 1) = b := hk.1
        by_cases h0 : p.1 = 5 ∧ b = 0
        · have hstep := ts_div0 (d := st'.length) (to := to) (h0.1 ▸ hhd.1) hhd.2 (by omega) (by omega) hto (kb.trans h0.2)
          have e1 : ex1 vs (p :: l) (b :: a :: st') = none := by unfold ex1; rw [if_neg h1]; simp only; rw [if_pos h0]
          refine ⟨M, fr_rfl _ M, fun _ => lp_end hstep, fun st2 h => by rw [e1] at h; cases h⟩
        · have hstep := ts_bin (d := st'.length) (to := to) hhd.1 hhd.2 (by omega) h2 (by omega) (by omega) hto (by rw [kb]; exact h0)
          rw [ka, kb] at hstep
          have hF : Fr wP M (zm_sI M 90 st'.length (eo p.1 a b)) := fr_sI rfl
          obtain ⟨M', g1, g2, g3⟩ := ih (eo p.1 a b :: st') (d - 1) d' (c + 1) _ (by simp only [List.length_cons]; omega) (by omega) h5 (iv_sm_fr hF hWt htl) (by omega) (fun i hi => (hF.2 89 i rfl).trans (hv i hi)) (stk_push hk.2.2)
          have e1 : ex1 vs (p :: l) (b :: a :: st') = ex1 vs l (eo p.1 a b :: st') := by
            conv => lhs; unfold ex1
            rw [if_neg h1]; simp only; rw [if_neg h0]
          have e2 : zm_lp (tS (nI to)) (nI (b :: a :: st').length, nI c, M) = zm_lp (tS (nI to)) (nI (st'.length + 1), nI (c + 1), zm_sI M 90 st'.length (eo p.1 a b)) := lp_go hstep
          refine ⟨M', fr_tr hF g1, fun h => ?_, fun st2 h => ?_⟩
          · rw [e2]; exact g2 (e1 ▸ h)
          · have := g3 st2 (e1 ▸ h)
            rw [e2]
            refine ⟨?_, this.2⟩
            rw [show c + (p :: l).length = c + 1 + l.length by simp only [List.length_cons]; omega]
            exact this.1
