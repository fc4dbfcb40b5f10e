/-! the reference's stack: what comes out of it -/
def SkR (M : zm_Mem) (sk : List Nat) : Prop := sk.length ≤ 64 ∧ M.1 52 52 = nI sk.length ∧ ∀ i x, sk[i]? = some x → M.1 88 i = nI x
def emM (M : zm_Mem) (k : Nat) (a b : Int32) : zm_Mem := zm_sI (zm_sI (zm_sI M 86 k a) 87 k b) 52 48 (nI (k + 1))
theorem r_emit {M : zm_Mem} {k : Nat} {a b : Int32} (h : M.1 52 48 = nI k) (hk : k < 840) : f_X11_emit a b M = some ((), emM M k a b) := by
  have e1 : (zm_sI M 86 k a).1 52 48 = nI k := by rw [mI1, if_neg (by omega)]; exact h
  have e2 : (zm_sI (zm_sI M 86 k a) 87 k b).1 52 48 = nI k := by rw [mI1, if_neg (by omega)]; exact e1
  unfold f_X11_emit emM
  simp only [zv_eq]
  rw [h, zm_ck_t (zm_in_nI hk (by omega)), nI_clamp (by omega), e1, zm_ck_t (zm_in_nI hk (by omega)), nI_clamp (by omega), e2, nI_k1]
def opc (x : Nat) : Nat := if x = 8 then 2 else if x = 9 then 3 else if x = 10 then 4 else 5
def wEm (x j : Nat) : Bool := decide (x = 86) || (decide (x = 87) || (decide (x = 52) && decide (j = 48)))
theorem fr_emM {M : zm_Mem} {k : Nat} {a b : Int32} : Fr wEm M (emM M k a b) := fr_tr (fr_sI rfl) (fr_tr (fr_sI rfl) (fr_sI rfl))
theorem sk_top {M : zm_Mem} {s : List Nat} {x : Nat} (h : SkR M (s ++ [x])) : M.1 52 52 = nI (s.length + 1) ∧ M.1 88 s.length = nI x ∧ s.length < 64 := by
  obtain ⟨h1, h2, h3⟩ := h
  rw [List.length_append] at h1 h2
  refine ⟨h2, h3 s.length x ?_, ?_⟩
  · rw [List.getElem?_append_right (Nat.le_refl _), Nat.sub_self]; rfl
  · have h1' : s.length + 1 ≤ 64 := h1
    omega
theorem co_pop {M : zm_Mem} {s : List Nat} {x k : Nat} {a1 : Int32} (h : SkR M (s ++ [x])) (hk : M.1 52 48 = nI k) (hk8 : k < 840) (hx : x = 8 ∨ x = 9 ∨ x = 10 ∨ x = 15) (ha : a1 = 0 ∨ (x ≠ 8 ∧ x ≠ 9)) : f_X11_comesOut a1 M = f_X11_comesOut a1 (emM (zm_sI M 52 52 (nI s.length)) k (nI (opc x)) 0) ∧ SkR (emM (zm_sI M 52 52 (nI s.length)) k (nI (opc x)) 0) s := by
  obtain ⟨t1, t2, t3⟩ := sk_top h
  have ek : (zm_sI M 52 52 (nI s.length)).1 52 48 = nI k := by rw [mI1, if_neg (by omega)]; exact hk
  have es : nI (s.length + 1) - 1 = nI s.length := by rw [show (1 : Int32) = nI 1 from rfl, zi_sub (by omega)]; rfl
  have ex : ∀ y, y < 100 → (nI x = nI y ↔ x = y) := fun y hy => nI_eq (by omega) (by omega)
  have st : f_X11_comesOut_l0 a1 M = some (.inl (emM (zm_sI M 52 52 (nI s.length)) k (nI (opc x)) 0)) := by
    unfold f_X11_comesOut_l0 f_X11_comesOut_b42_0 f_X11_comesOut_b84_0
    simp only [zv_eq]
    rw [t1, if_neg (show ¬ nI (s.length + 1) ≤ (0 : Int32) from nI_nle (by omega) (by omega)), es, zm_ck_t (zm_in_nI t3 (by omega)), nI_clamp (by omega), t2, r_emit ek hk8, r_emit ek hk8, r_emit ek hk8, r_emit ek hk8]
    simp only [zb2_some]
    rcases ha with rfl | ⟨a8, a9⟩
    · rcases hx with rfl | rfl | rfl | rfl <;> rfl
    · rcases hx with rfl | rfl | rfl | rfl
      · exact absurd rfl a8
      · exact absurd rfl a9
      · by_cases h0 : a1 = 0
        · rw [if_neg (by decide), if_pos h0]; rfl
        · rw [if_neg (by decide), if_neg h0]; rfl
      · by_cases h0 : a1 = 0
        · rw [if_neg (by decide), if_pos h0]; rfl
        · rw [if_neg (by decide), if_neg h0]; rfl
  refine ⟨?_, by omega, ?_, fun i y hy => ?_⟩
  · unfold f_X11_comesOut
    rw [lp_go st]
  · rw [fr_emM.2 52 52 rfl, mI1, if_pos ⟨rfl, rfl⟩]
  · rw [fr_emM.2 88 i rfl, mI1, if_neg (by omega)]
    refine h.2.2 i y ?_
    have hi : i < s.length := by
      refine Classical.byContradiction (fun z => ?_)
      rw [List.getElem?_eq_none (by omega)] at hy; cases hy
    rw [List.getElem?_append_left hi]; exact hy
theorem co_nil {M : zm_Mem} {a1 : Int32} (h : SkR M []) : f_X11_comesOut a1 M = some ((), M) := by
  have st : f_X11_comesOut_l0 a1 M = some (.inr (.inr M)) := by
    unfold f_X11_comesOut_l0
    rw [h.2.1, if_pos (by decide)]
  unfold f_X11_comesOut
  rw [lp_end st]; rfl
theorem co_stop {M : zm_Mem} {s : List Nat} {x : Nat} {a1 : Int32} (h : SkR M (s ++ [x])) (hx : x = 6 ∨ (a1 ≠ 0 ∧ (x = 8 ∨ x = 9))) : f_X11_comesOut a1 M = some ((), M) := by
  obtain ⟨t1, t2, t3⟩ := sk_top h
  have es : nI (s.length + 1) - 1 = nI s.length := by rw [show (1 : Int32) = nI 1 from rfl, zi_sub (by omega)]; rfl
  have st : f_X11_comesOut_l0 a1 M = some (.inr (.inl M)) := by
    unfold f_X11_comesOut_l0
    simp only [zv_eq]
    rw [t1, if_neg (show ¬ nI (s.length + 1) ≤ (0 : Int32) from nI_nle (by omega) (by omega)), es, zm_ck_t (zm_in_nI t3 (by omega)), nI_clamp (by omega), t2]
    rcases hx with rfl | ⟨h0, rfl | rfl⟩
    · rfl
    · rw [if_neg (by decide), if_neg h0]; rfl
    · rw [if_neg (by decide), if_neg h0]; rfl
  unfold f_X11_comesOut
  rw [lp_end st]; rfl
