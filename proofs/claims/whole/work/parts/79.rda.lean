/-! the reference at an operand -/
def RS (M : zm_Mem) (tk : Nat → zTk) (e i a : Nat) (sk : List Nat) (k : Nat) : Prop := Rks M tk e ∧ M.1 52 11 = nI i ∧ M.1 52 13 = 0 ∧ M.1 52 12 = nI a ∧ SkR M sk ∧ M.1 52 48 = nI k
def wUm (k x j : Nat) : Bool := ((decide (x = 86) || decide (x = 87)) && decide (j = k)) || (decide (x = 52) && (decide (j = 48) || (decide (j = 11) || (decide (j = 13) || decide (j = 14)))))
theorem rks_fr {M M' : zm_Mem} {tk : Nat → zTk} {e : Nat} {W : Nat → Nat → Bool} (h : Fr W M M') (h5 : ∀ j, W 55 j = false) (h6 : ∀ j, W 56 j = false) (h7 : ∀ j, W 57 j = false) (H : Rks M tk e) : Rks M' tk e := ⟨H.1, fun i hi => by rw [h.2 55 i (h5 i), h.2 56 i (h6 i), h.2 57 i (h7 i), h.1]; exact H.2 i hi⟩
theorem sk_fr {M M' : zm_Mem} {sk : List Nat} {W : Nat → Nat → Bool} (h : Fr W M M') (h5 : W 52 52 = false) (h6 : ∀ j, W 88 j = false) (H : SkR M sk) : SkR M' sk := ⟨H.1, (h.2 52 52 h5).trans H.2.1, fun i x hx => by rw [h.2 88 i (h6 i)]; exact H.2.2 i x hx⟩
theorem r_emGo {M : zm_Mem} {tk : Nat → zTk} {e i a k : Nat} {sk : List Nat} {x y : Int32} (h : RS M tk e i a sk k) (hi : i ≤ e) (hk : k < 840) : ∃ M', (zm_b2 (f_X11_emit x y M) fun _ M19 => zm_b2 (f_X11_goesOn M19) fun _ M23 => some ((), M23)) = some ((), M') ∧ Fr (wUm k) M M' ∧ M'.1 86 k = x ∧ M'.1 87 k = y ∧ (i = 400 → M'.1 52 13 = 2 ∧ M'.1 52 14 = nI (tk i).2.1) ∧ (i ≠ 400 → RS M' tk e (i + 1) a sk (k + 1)) := by
  obtain ⟨h1, h2, h3, h4, h5, h6⟩ := h
  have u86 : wUm k 86 k = true := by unfold wUm; rw [decide_eq_true (show k = k from rfl)]; rfl
  have u87 : wUm k 87 k = true := by unfold wUm; rw [decide_eq_true (show k = k from rfl)]; rfl
  have f1 : Fr (wUm k) M (emM M k x y) := fr_tr (fr_sI u86) (fr_tr (fr_sI u87) (fr_sI rfl))
  have g11 : (emM M k x y).1 52 11 = nI i := (fr_emM.2 52 11 rfl).trans h2
  have g13 : (emM M k x y).1 52 13 = 0 := (fr_emM.2 52 13 rfl).trans h3
  have gR : Rks (emM M k x y) tk e := rks_fr fr_emM (fun _ => rfl) (fun _ => rfl) (fun _ => rfl) h1
  have e86 : (emM M k x y).1 86 k = x := by unfold emM; rw [mI1, if_neg (by omega), mI1, if_neg (by omega), mI1, if_pos ⟨rfl, rfl⟩]
  have e87 : (emM M k x y).1 87 k = y := by unfold emM; rw [mI1, if_neg (by omega), mI1, if_pos ⟨rfl, rfl⟩]
  have e48 : (emM M k x y).1 52 48 = nI (k + 1) := by unfold emM; rw [mI1, if_pos ⟨rfl, rfl⟩]
  rw [r_emit h6 hk, zb2_some, r_goesOn gR g11 g13 hi, zb2_some]
  by_cases hi4 : i = 400
  · rw [if_pos hi4]
    refine ⟨_, rfl, fr_tr f1 (fr_tr (fr_sI rfl) (fr_sI rfl)), ?_, ?_, fun _ => ⟨?_, ?_⟩, fun z => absurd hi4 z⟩
    · rw [mI1, if_neg (by omega), mI1, if_neg (by omega)]; exact e86
    · rw [mI1, if_neg (by omega), mI1, if_neg (by omega)]; exact e87
    · rw [mI1, if_neg (by omega), mI1, if_pos ⟨rfl, rfl⟩]
    · rw [mI1, if_pos ⟨rfl, rfl⟩]
  · rw [if_neg hi4]
    have f2 : Fr (wUm k) (emM M k x y) (zm_sI (emM M k x y) 52 11 (nI (i + 1))) := fr_sI rfl
    have w55 : ∀ z, z ≠ 86 → z ≠ 87 → z ≠ 52 → ∀ j, wUm k z j = false := fun z h1 h2 h3 j => by
      unfold wUm
      rw [decide_eq_false h1, decide_eq_false h2, decide_eq_false h3]; rfl
    refine ⟨_, rfl, fr_tr f1 f2, ?_, ?_, fun z => absurd z hi4, fun _ => ⟨rks_fr (fr_tr f1 f2) (w55 55 (by omega) (by omega) (by omega)) (w55 56 (by omega) (by omega) (by omega)) (w55 57 (by omega) (by omega) (by omega)) h1, ?_, ?_, ?_, sk_fr (fr_tr f1 f2) rfl (w55 88 (by omega) (by omega) (by omega)) h5, ?_⟩⟩
    · rw [mI1, if_neg (by omega)]; exact e86
    · rw [mI1, if_neg (by omega)]; exact e87
    · rw [mI1, if_pos ⟨rfl, rfl⟩]
    · rw [mI1, if_neg (by omega)]; exact g13
    · rw [mI1, if_neg (by omega)]; exact (fr_emM.2 52 12 rfl).trans h4
    · rw [mI1, if_neg (by omega)]; exact e48
/-- the sorts that there are -/
def okS (s : Nat) : Bool := decide (s ≤ 3) || (isSg s || (decide (256 ≤ s) && decide (s < 276)))
theorem okS_lt : ∀ s, okS s = true → s < 276 := by
  intro s h
  unfold okS isSg at h
  simp only [Bool.or_eq_true, Bool.and_eq_true, decide_eq_true_eq] at h
  omega
theorem okS_rs : ∀ s, s < 276 → okS s = true → rsF s < 1000 ∧ (rsF s = 2 ↔ s = 3) ∧ (31 ≤ rsF s ↔ 267 ≤ s) ∧ rsF s ≤ 39 ∧ (267 ≤ s → rsF s = s - 236) := by decide +kernel
theorem r_unit {M : zm_Mem} {tk : Nat → zTk} {e i a k : Nat} {sk : List Nat} (h : RS M tk e i a sk k) (hi : i ≤ e) (hok : okS (tk i).1 = true) : f_X11_unit M = if (tk i).1 = 3 then (zm_b2 (f_X11_emit 0 (nI (tk i).2.2.2) M) fun _ M19 => zm_b2 (f_X11_goesOn M19) fun _ M23 => some ((), M23)) else if 267 ≤ (tk i).1 then (zm_b2 (f_X11_emit 1 (nI ((tk i).1 - 267)) M) fun _ M19 => zm_b2 (f_X11_goesOn M19) fun _ M23 => some ((), M23)) else some ((), zm_sI (zm_sI M 52 13 1) 52 14 (nI (tk i).2.1)) := by
  obtain ⟨h1, h2, h3, h4, h5, h6⟩ := h
  have he := h1.1
  have ht := okS_lt _ hok
  obtain ⟨b1, b2, b3, b4, b5⟩ := okS_rs _ ht hok
  unfold f_X11_unit f_X11_unit_b88
  have his : f_X11_is 2 M = some (if rsF (tk i).1 = 2 then 1 else 0) := r_is h1 h2 h3 hi (s := 2) (by omega) b1
  rw [his, zb1_some, h3, h2, nI_clamp (by omega), zm_ck_t (zm_in_nI (by omega) (by omega)), zm_ck_t (zm_in_nI (by omega) (by omega)), zm_ck_t (zm_in_nI (by omega) (by omega)), zm_ck_t (zm_in_nI (by omega) (by omega)), (h1.2 i hi).1, (h1.2 i hi).2.2.1, r_fail h1 h2 h3 hi, zb2_some]
  by_cases h3' : (tk i).1 = 3
  · rw [if_pos (b2.2 h3'), if_neg (by decide), if_pos h3']
  · rw [if_neg (fun z => h3' (b2.1 z)), if_pos rfl, if_pos rfl, if_neg h3']
    by_cases hw : 267 ≤ (tk i).1
    · rw [if_neg (show ¬ nI (rsF (tk i).1) < (31 : Int32) from nI_nlt (b := 31) (b3.2 hw) (by omega)), if_neg (show ¬ (39 : Int32) < nI (rsF (tk i).1) from nI_nlt (a := 39) b4 (by omega)), if_pos hw, b5 hw, show nI ((tk i).1 - 236) - 31 = nI ((tk i).1 - 267) by
        rw [show (31 : Int32) = nI 31 from rfl, zi_sub (by omega), show (tk i).1 - 236 - 31 = (tk i).1 - 267 by omega]]
    · rw [if_pos (show nI (rsF (tk i).1) < (31 : Int32) from nI_lt (b := 31) (by omega) (by omega)), if_neg hw]
