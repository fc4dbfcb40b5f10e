/-- a sum's worth; none: something is divided by 0 -/
def exv (vs : Nat → Int32) (l : zE) : Option Int32 := (ex1 vs l []).bind List.head?
/-- a law's worth -/
def lawv (vs : Nat → Int32) : zB → zE → Option Int32
  | [], l => exv vs l
  | x :: B, l => (exv vs x.1).bind (fun a => (exv vs x.2.1).bind (fun b => if a < b then exv vs x.2.2 else lawv vs B l))
theorem exv_some {vs : Nat → Int32} {l : zE} {st : List Int32} (h : ex1 vs l [] = some st) (hl : st.length = 1) : ∃ x, st = [x] ∧ exv vs l = some x := by
  match st, hl with
  | [x], _ => exact ⟨x, rfl, by unfold exv; rw [h]; rfl⟩
theorem exv_none {vs : Nat → Int32} {l : zE} (h : ex1 vs l [] = none) : exv vs l = none := by unfold exv; rw [h]; rfl
noncomputable def gE : ((Int32 × zm_Mem) ⊕ zm_Mem ⊕ zm_Mem ⊕ zm_Mem ⊕ zm_Mem) → Option (Int32 × zm_Mem) := Sum.elim (fun e61 => f_X5_goThrough_x61_8 e61.1 e61.2) (Sum.elim (fun e111 => some (0, e111)) (Sum.elim (fun e149 => some (0, e149)) (Sum.elim (fun e292 => some (0, e292)) (fun e300 => some (0, e300)))))
theorem gE_end {M : zm_Mem} {x : Int32} (h : M.1 50 0 = x) : gE (.inl (nI 1, M)) = some (x, M) := by
  unfold gE
  simp only [Sum.elim_inl]
  unfold f_X5_goThrough_x61_8
  rw [if_neg (by decide), zm_ck_t (by decide)]
  exact congrArg (fun z => some (z, M)) h
/-- a sum and its end, in the class, from an empty stack -/
theorem gt_sum {t cl : Nat} {vs : Nat → Int32} (ht : t = 25 ∨ t = 36) (hcl : cl ≤ 408) {l : zE} {at' s : Nat} {M : zm_Mem} (hl : iv_ex l) {l' : zE} (hc : iv_sc M t at' (l ++ ((7, 0) :: l'))) (hM : M.1 t 10 = nI cl) (hat : at' + l.length < cl) (hs : s ≤ at') (hv : ∀ i, i < 9 → M.1 49 i = vs i) : ∃ M', Fr wS M M' ∧ (zm_lp (gS t) (nI at', nI 0, nI s, M)).bind gE = some ((exv vs l).getD 0, M') := by
  have hWt : ∀ j, wS (t + 10) j = false := fun j => by rcases ht with rfl | rfl <;> rfl
  have hWc : wS t 10 = false := by rcases ht with rfl | rfl <;> rfl
  obtain ⟨M', g1, g2, g3⟩ := gt_seg (e := 0) (vs := vs) ht hcl (by omega) l [] 0 1 at' s M rfl (by omega) hl (iv_sc_l hc) hM (by omega) hs hv trivial
  refine ⟨M', g1, ?_⟩
  cases he : ex1 vs l [] with
  | none =>
    rw [exv_none he]
    have := g2 he
    simp only [List.length_nil] at this
    rw [this]
    rfl
  | some st =>
    obtain ⟨k1, k2, k3⟩ := g3 st he
    obtain ⟨x, rfl, hx⟩ := exv_some he k3
    rw [hx]
    simp only [List.length_nil, List.length_cons] at k1
    rw [k1]
    have h7 : M'.1 (t + 10) (at' + l.length) = nI (7 * 16384 + 0) := (g1.2 _ _ (hWt _)).trans (iv_sc_hd (p := (7, 0)) (iv_sc_r hc))
    have hstep := gs_end (M := M') (t := t) (at' := at' + l.length) (top := 1) (s := s + l.length) (cl := cl) h7 (by omega) (by omega) hat hcl ((g1.2 _ _ hWc).trans hM)
    have e2 : zm_lp (gS t) (nI (at' + l.length), nI (0 + 1), nI (s + l.length), M') = some (.inl (nI 1, M')) := lp_end hstep
    rw [e2]
    exact gE_end k2.1
theorem lc_nil (l : zE) (a : Nat) : iv_lc [] l a = l ++ [(7, 0)] := rfl
/-- a law, in the class -/
theorem gt_law {t cl : Nat} {vs : Nat → Int32} (ht : t = 25 ∨ t = 36) (hcl : cl ≤ 408) {l : zE} (hl : iv_ex l) : ∀ (B : zB) (at' s : Nat) (M : zm_Mem), (∀ x ∈ B, iv_ex x.1 ∧ iv_ex x.2.1 ∧ iv_ex x.2.2) → iv_sc M t at' (iv_lc B l at') → M.1 t 10 = nI cl → at' + (iv_lc B l at').length ≤ cl → s ≤ at' → (∀ i, i < 9 → M.1 49 i = vs i) → ∃ M', Fr wS M M' ∧ (zm_lp (gS t) (nI at', nI 0, nI s, M)).bind gE = some ((lawv vs B l).getD 0, M') := by
  have hWt : ∀ j, wS (t + 10) j = false := fun j => by rcases ht with rfl | rfl <;> rfl
  have hWc : wS t 10 = false := by rcases ht with rfl | rfl <;> rfl
  intro B
  induction B with
  | nil =>
    intro at' s M _ hc hM hat hs hv
    rw [lc_nil] at hc hat
    simp only [List.length_append, List.length_cons, List.length_nil] at hat
    exact gt_sum ht hcl hl hc hM (by omega) hs hv
  | cons x B ih =>
    obtain ⟨l1, l2, l3⟩ := x
    intro at' s M hB hc hM hat hs hv
    obtain ⟨x1, x2, x3⟩ := hB _ (List.mem_cons_self ..)
    simp only at x1 x2 x3
    unfold iv_lc at hc hat
    simp only [List.length_append, List.length_cons] at hat
    obtain ⟨M1, f1, g2, g3⟩ := gt_seg (e := 0) (vs := vs) ht hcl (by omega) l1 [] 0 1 at' s M rfl (by omega) x1 (iv_sc_l hc) hM (by omega) hs hv trivial
    cases he : ex1 vs l1 [] with
    | none =>
      refine ⟨M1, f1, ?_⟩
      have := g2 he
      simp only [List.length_nil] at this
      rw [this]
      unfold lawv
      rw [exv_none he]
      rfl
    | some st =>
      obtain ⟨k1, k2, k3⟩ := g3 st he
      obtain ⟨a, rfl, ha⟩ := exv_some he k3
      simp only [List.length_nil, List.length_cons] at k1
      have hc1 := iv_sc_fr f1 hWt (iv_sc_r hc)
      have hM1 := (f1.2 _ _ hWc).trans hM
      have hv1 : ∀ i, i < 9 → M1.1 49 i = vs i := fun i hi => (f1.2 49 i rfl).trans (hv i hi)
      obtain ⟨M2, f2, g5, g6⟩ := gt_seg (e := 1) (vs := vs) ht hcl (by omega) l2 [a] 0 1 (at' + l1.length) (s + l1.length) M1 rfl (by omega) x2 (iv_sc_l hc1) hM1 (by omega) (by omega) hv1 k2
      have eapp : ex1 vs l2 [a] = (ex1 vs l2 []).map (· ++ [a]) := ex1_app (st := []) (base := [a]) x2
      cases he2 : ex1 vs l2 [] with
      | none =>
        refine ⟨M2, fr_tr f1 f2, ?_⟩
        have := g5 (by rw [eapp, he2]; rfl)
        simp only [List.length_cons, List.length_nil] at this
        rw [k1, this]
        unfold lawv
        rw [ha, exv_none he2]
        rfl
      | some st2 =>
        obtain ⟨k4, k5, k6⟩ := g6 (st2 ++ [a]) (by rw [eapp, he2]; rfl)
        obtain ⟨b, rfl, hb⟩ := exv_some he2 (by simp only [List.length_append, List.length_cons, List.length_nil] at k6; omega)
        simp only [List.length_cons, List.length_nil, List.cons_append, List.nil_append] at k4 k5
        have hc2 := iv_sc_fr f2 hWt (iv_sc_r hc1)
        have hM2 := (f2.2 _ _ hWc).trans hM1
        have hv2 : ∀ i, i < 9 → M2.1 49 i = vs i := fun i hi => (f2.2 49 i rfl).trans (hv1 i hi)
        have h6 : M2.1 (t + 10) (at' + l1.length + l2.length) = nI (6 * 16384 + (at' + (l1.length + l2.length + l3.length + 2))) := iv_sc_hd (p := (6, at' + (l1.length + l2.length + l3.length + 2))) hc2
        have hstep := gs_unless (M := M2) (t := t) (at' := at' + l1.length + l2.length) (d := 0) (s := s + l1.length + l2.length) (cl := cl) (a := at' + (l1.length + l2.length + l3.length + 2)) h6 (by omega) (by omega) (by omega) (by omega) hcl hM2
        have kx : M2.1 50 0 = a := k5.2.1
        have ky : M2.1 50 (0 + 1) = b := k5.1
        rw [kx, ky] at hstep
        have e3 : zm_lp (gS t) (nI (at' + l1.length + l2.length), nI (0 + 1 + 1), nI (s + l1.length + l2.length), M2) = zm_lp (gS t) (nI (if a < b then at' + l1.length + l2.length + 1 else at' + (l1.length + l2.length + l3.length + 2)), nI 0, nI (s + l1.length + l2.length + 1), M2) := lp_go hstep
        have hc3 := iv_sc_tl hc2
        by_cases hab : a < b
        · rw [if_pos hab] at e3
          obtain ⟨M3, f3, g7⟩ := gt_sum (s := s + l1.length + l2.length + 1) (vs := vs) ht hcl x3 hc3 hM2 (by omega) (by omega) hv2
          refine ⟨M3, fr_tr f1 (fr_tr f2 f3), ?_⟩
          rw [k1, k4, e3, g7]
          unfold lawv
          rw [ha, hb]
          simp only [Option.bind_some, if_pos hab]
        · rw [if_neg hab] at e3
          have hc4 := iv_sc_tl (iv_sc_r hc3)
          rw [show at' + l1.length + l2.length + 1 + l3.length + 1 = at' + (l1.length + l2.length + l3.length + 2) by omega] at hc4
          obtain ⟨M3, f3, g7⟩ := ih (at' + (l1.length + l2.length + l3.length + 2)) (s + l1.length + l2.length + 1) M2 (fun y hy => hB y (List.mem_cons_of_mem _ hy)) hc4 hM2 (by omega) (by omega) hv2
          refine ⟨M3, fr_tr f1 (fr_tr f2 f3), ?_⟩
          rw [k1, k4, e3, g7]
          conv => rhs; unfold lawv
          rw [ha, hb]
          simp only [Option.bind_some, if_neg hab]
/-- the reference: a sum -/
theorem r_termOf {c : Nat} {vs : Nat → Int32} {l : zE} {M : zm_Mem} (hl : iv_ex l) (hc : iv_sm M c l) (hto : c + l.length ≤ 840) (hv : ∀ i, i < 9 → M.1 89 i = vs i) : ∃ M', f_X11_termOf (nI c) (nI (c + l.length)) M = some ((exv vs l).getD 0, M') ∧ Fr wR M M' ∧ M'.1 52 55 = (if (exv vs l).isSome = true then M.1 52 55 else 1) := by
  obtain ⟨M1, f1, g2, g3⟩ := to_seg (e := 0) (vs := vs) hto (by omega) l [] 0 1 c M rfl (by omega) hl hc (Nat.le_refl _) hv trivial
  have hW : ∀ x j, wP x j = true → wR x j = true := by
    intro x j h
    unfold wP at h; unfold wR
    rw [h]; rfl
  unfold f_X11_termOf
  cases he : ex1 vs l [] with
  | none =>
    rw [exv_none he]
    have := g2 he
    simp only [List.length_nil] at this
    have e : zm_lp (fun s => f_X11_termOf_l5 (nI (c + l.length)) s.1 s.2.1 s.2.2) (0, nI c, M) = some (.inl M1) := this
    rw [e]
    refine ⟨zm_sI M1 52 55 1, rfl, fr_tr (fr_mono hW f1) (fr_sI rfl), ?_⟩
    rw [mI1, if_pos ⟨rfl, rfl⟩]
    rfl
  | some st =>
    obtain ⟨k1, k2, k3⟩ := g3 st he
    obtain ⟨x, rfl, hx⟩ := exv_some he k3
    rw [hx]
    simp only [List.length_nil, List.length_cons] at k1
    have e : zm_lp (fun s => f_X11_termOf_l5 (nI (c + l.length)) s.1 s.2.1 s.2.2) (0, nI c, M) = some (.inr M1) := by
      refine Eq.trans (show _ = zm_lp (tS (nI (c + l.length))) (nI 0, nI c, M) from rfl) ?_
      rw [k1]
      exact lp_end (ts_end hto)
    rw [e]
    refine ⟨M1, ?_, fr_mono hW f1, ?_⟩
    · show f_X11_termOf_x165_5 M1 = _
      unfold f_X11_termOf_x165_5
      rw [zm_ck_t (by decide)]
      exact congrArg (fun z => some (z, M1)) k2.1
    · rw [f1.2 52 55 rfl]; rfl
