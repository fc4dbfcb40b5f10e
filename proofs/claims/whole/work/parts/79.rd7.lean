/-! the reader's small steps, class: index 8 4, fault 8 5, note 8 7 at 8 8; tk: the tokens up to index 400 -/
def Tks (M : zm_Mem) (tk : Nat → zTk) (e : Nat) : Prop := e ≤ 400 ∧ (∃ c, e < c ∧ c ≤ 402 ∧ M.1 3 4 = nI c) ∧ ∀ i, i ≤ e → M.1 4 i = nI (tk i).1 ∧ M.1 5 i = nI (tk i).2.1 ∧ M.2.1 6 i = cwt (tk i)
theorem c_sortI {M : zm_Mem} {tk : Nat → zTk} {e i : Nat} (h : Tks M tk e) (h4 : M.1 8 4 = nI i) (hi : i ≤ e) : f_X2_sort M = some (nI (tk i).1) := by
  obtain ⟨h1, ⟨c, hc1, hc2, h2⟩, h3⟩ := h
  unfold f_X2_sort f_X7_sortAt
  rw [h4, if_neg (show ¬ nI i < (0 : Int32) from nI_pos (by omega)), h2, if_neg (nI_ge (by omega) (by omega)), zm_ck_t (zm_in_nI (by omega) (by omega)), nI_clamp (by omega), (h3 i hi).1]; rfl
theorem c_placeI {M : zm_Mem} {tk : Nat → zTk} {e i : Nat} (h : Tks M tk e) (hi : i ≤ e) : f_X7_placeAt (nI i) M = some (nI (tk i).2.1) := by
  obtain ⟨h1, ⟨c, hc1, hc2, h2⟩, h3⟩ := h
  unfold f_X7_placeAt
  rw [if_neg (show ¬ nI i < (0 : Int32) from nI_pos (by omega)), h2, if_neg (nI_ge (by omega) (by omega)), zm_ck_t (zm_in_nI (by omega) (by omega)), nI_clamp (by omega), (h3 i hi).2.1]
theorem c_take {M : zm_Mem} {i : Nat} (h4 : M.1 8 4 = nI i) (h5 : M.1 8 5 = 0) (hi : i ≤ 400) : f_X2_take M = some ((), if i = 400 then zm_sI M 8 5 2 else zm_sI M 8 4 (nI (i + 1))) := by
  unfold f_X2_take
  simp only [zv_eq]
  rw [h5, if_pos rfl, h4, nI_k1]
  by_cases h : i = 400
  · rw [if_pos (show (400 : Int32) ≤ nI i from nI_le (a := 400) (by omega) (by omega)), if_pos h]
  · rw [if_neg (show ¬ (400 : Int32) ≤ nI i from nI_ge (b := 400) (by omega) (by omega)), if_neg h]
theorem c_takeF {M : zm_Mem} (h5 : M.1 8 5 ≠ 0) : f_X2_take M = some ((), M) := by
  unfold f_X2_take
  rw [if_neg h5]
theorem c_fail {M : zm_Mem} {k : Int32} : f_X2_fail k M = some ((), if M.1 8 5 = 0 then zm_sI M 8 5 k else M) := by
  unfold f_X2_fail
  simp only [zv_eq]
  split <;> rfl
theorem c_expect {M : zm_Mem} {tk : Nat → zTk} {e i s : Nat} (h : Tks M tk e) (h4 : M.1 8 4 = nI i) (h5 : M.1 8 5 = 0) (hi : i ≤ e) (hi4 : i ≤ 400) (hs : s < 1000) (ht : (tk i).1 < 1000) : f_X2_expect (nI s) M = some ((), if (tk i).1 = s then (if i = 400 then zm_sI M 8 5 2 else zm_sI M 8 4 (nI (i + 1))) else zm_sI M 8 5 1) := by
  unfold f_X2_expect
  rw [c_sortI h h4 hi, zb1_some]
  by_cases he : (tk i).1 = s
  · rw [if_pos (by rw [he]), c_take h4 h5 hi4, zb2_some, if_pos he]
  · rw [if_neg (fun z => he ((nI_eq (by omega) (by omega)).1 z)), c_fail, zb2_some, if_pos h5, if_neg he]
theorem c_expectF {M : zm_Mem} {tk : Nat → zTk} {e i : Nat} {s : Int32} (h : Tks M tk e) (h4 : M.1 8 4 = nI i) (h5 : M.1 8 5 ≠ 0) (hi : i ≤ e) : f_X2_expect s M = some ((), M) := by
  unfold f_X2_expect
  rw [c_sortI h h4 hi, zb1_some, c_takeF h5, c_fail, if_neg h5, zb2_some]
  split <;> rfl
/-! the reference's: index 52 11, fault 52 13 at 52 14 -/
def Rks (M : zm_Mem) (tk : Nat → zTk) (e : Nat) : Prop := e ≤ 400 ∧ ∀ i, i ≤ e → M.1 55 i = nI (rsF (tk i).1) ∧ M.1 56 i = nI (tk i).2.1 ∧ M.1 57 i = nI (tk i).2.2.2 ∧ M.2.1 58 i = Int64.ofNat (iv_wn 27 (tk i).2.2.1)
theorem r_is {M : zm_Mem} {tk : Nat → zTk} {e i s : Nat} (h : Rks M tk e) (h4 : M.1 52 11 = nI i) (h5 : M.1 52 13 = 0) (hi : i ≤ e) (hs : s < 1000) (ht : rsF (tk i).1 < 1000) : f_X11_is (nI s) M = some (if rsF (tk i).1 = s then 1 else 0) := by
  obtain ⟨h1, h3⟩ := h
  unfold f_X11_is f_X11_is_b24
  rw [h5, if_pos rfl, h4, zm_ck_t (zm_in_nI (by omega) (by omega)), nI_clamp (by omega), (h3 i hi).1]
  by_cases he : rsF (tk i).1 = s
  · rw [if_pos (by rw [he]), if_pos he]
  · rw [if_neg (fun z => he ((nI_eq (by omega) (by omega)).1 z)), if_neg he]
theorem r_isF {M : zm_Mem} {s : Int32} (h5 : M.1 52 13 ≠ 0) : f_X11_is s M = some 0 := by
  unfold f_X11_is f_X11_is_b24
  rw [if_neg h5]
theorem r_fail {M : zm_Mem} {tk : Nat → zTk} {e i : Nat} {k : Int32} (h : Rks M tk e) (h4 : M.1 52 11 = nI i) (h5 : M.1 52 13 = 0) (hi : i ≤ e) : f_X11_fail k M = some ((), zm_sI (zm_sI M 52 13 k) 52 14 (nI (tk i).2.1)) := by
  obtain ⟨h1, h3⟩ := h
  have e1 : (zm_sI M 52 13 k).1 52 11 = nI i := by rw [mI1, if_neg (by omega)]; exact h4
  unfold f_X11_fail
  simp only [zv_eq]
  rw [h5, if_pos (by decide), e1, zm_ck_t (zm_in_nI (by omega) (by omega)), nI_clamp (by omega), mI1 M 52 13, if_neg (by omega), (h3 i hi).2.1]
theorem r_goesOn {M : zm_Mem} {tk : Nat → zTk} {e i : Nat} (h : Rks M tk e) (h4 : M.1 52 11 = nI i) (h5 : M.1 52 13 = 0) (hi : i ≤ e) : f_X11_goesOn M = some ((), if i = 400 then zm_sI (zm_sI M 52 13 2) 52 14 (nI (tk i).2.1) else zm_sI M 52 11 (nI (i + 1))) := by
  have h1 := h.1
  unfold f_X11_goesOn
  simp only [zv_eq]
  rw [h4, nI_k1]
  by_cases he : i = 400
  · rw [if_pos (show nI i = (400 : Int32) from by rw [he]; rfl), r_fail h h4 h5 hi, zb2_some, if_pos he]
  · rw [if_neg (show ¬ nI i = (400 : Int32) from fun z => he ((nI_eq (a := i) (b := 400) (by omega) (by omega)).1 z)), if_neg he]
theorem r_must {M : zm_Mem} {tk : Nat → zTk} {e i s : Nat} (h : Rks M tk e) (h4 : M.1 52 11 = nI i) (h5 : M.1 52 13 = 0) (hi : i ≤ e) (hs : s < 1000) (ht : rsF (tk i).1 < 1000) : f_X11_must (nI s) M = some ((), if rsF (tk i).1 = s then (if i = 400 then zm_sI (zm_sI M 52 13 2) 52 14 (nI (tk i).2.1) else zm_sI M 52 11 (nI (i + 1))) else zm_sI (zm_sI M 52 13 1) 52 14 (nI (tk i).2.1)) := by
  unfold f_X11_must
  rw [r_is h h4 h5 hi hs ht, zb1_some]
  by_cases he : rsF (tk i).1 = s
  · rw [if_pos he, if_neg (by decide), r_goesOn h h4 h5 hi, zb2_some, if_pos he]
  · rw [if_neg he, if_pos rfl, r_fail h h4 h5 hi, zb2_some, if_neg he]
