/-! what is told of the one side stays while the other is told -/
theorem nV {v v' : Nat} (h : v + v' = 1) : (∀ x, (x = 63 ∨ x = 66 ∨ x = 71 ∨ x = 76 ∨ x = 77 ∨ x = 78) → ¬ pV v' x v) ∧ (∀ x j, (x = 64 ∨ x = 65) → j < 5 → ¬ pV v' x (5 * v + j)) ∧ (∀ x j, ((67 ≤ x ∧ x ≤ 70) ∨ (72 ≤ x ∧ x ≤ 75)) → j < 6 → ¬ pV v' x (6 * v + j)) ∧ (∀ x j, (x = 79 ∨ x = 80) → j < 2 → ¬ pV v' x (2 * v + j)) ∧ (∀ x j, 81 ≤ x → x ≤ 85 → 130 * v ≤ j → j < 130 * v + 130 → ¬ pV v' x j) ∧ (∀ x j, (x = 86 ∨ x = 87) → 420 * v ≤ j → j < 420 * v + 420 → ¬ pV v' x j) := by
  refine ⟨fun x hx z => ?_, fun x j hx hj z => ?_, fun x j hx hj z => ?_, fun x j hx hj z => ?_, fun x j h1 h2 h3 h4 z => ?_, fun x j hx h1 h2 z => ?_⟩
  all_goals
    rcases z with ⟨a, b⟩ | a | a | a | ⟨a, b⟩ | a
    · omega
    · omega
    · omega
    · omega
    · omega
    · rcases a with ⟨a, b, c⟩ | ⟨a, b, c, d⟩ | ⟨a, b, c, d⟩ | ⟨a, b, c⟩ | ⟨a, b, c⟩ | ⟨a, b, c, d⟩ | ⟨a, b, c⟩ <;> omega
theorem sm_s {M M' : zm_Mem} {v a : Nat} {c : zE} (h : iv_sm M a c) (f : ∀ x j, (x = 86 ∨ x = 87) → 420 * v ≤ j → j < 420 * v + 420 → M'.1 x j = M.1 x j) (h1 : 420 * v ≤ a) (h2 : a + c.length ≤ 420 * v + 420) : iv_sm M' a c := sm_x h f h1 h2
theorem sc_s {M M' : zm_Mem} {t a : Nat} {c : zE} (h : iv_sc M t a c) (f : ∀ j, M'.1 (t + 10) j = M.1 (t + 10) j) : iv_sc M' t a c := fun i p hp => by rw [f]; exact h i p hp
theorem law_side {M M' : zm_Mem} {t v s i : Nat} {d : zE} {B : zB} {l : zE} (hv : v ≤ 1) (hs : M'.1 t s = M.1 t s) (h10 : ∀ j, M'.1 (t + 10) j = M.1 (t + 10) j) (hc : M'.1 t 10 = M.1 t 10) (e79 : ∀ x, x = 79 ∨ x = 80 → M'.1 x (2 * v + i) = M.1 x (2 * v + i)) (e81 : ∀ x j, 81 ≤ x → x ≤ 85 → 130 * v ≤ j → j < 130 * v + 130 → M'.1 x j = M.1 x j) (e86 : ∀ x j, (x = 86 ∨ x = 87) → 420 * v ≤ j → j < 420 * v + 420 → M'.1 x j = M.1 x j) (H : iv_law M t v s i d B l) : iv_law M' t v s i d B l := by
  obtain ⟨a, a1, a2, a3, a4, a5, ⟨cl, a6, a7, a8⟩, r⟩ := H
  refine ⟨a, by rw [hs]; exact a1, a2, a3, a4, sc_s a5 h10, ⟨cl, a6, by rw [hc]; exact a7, a8⟩, ?_⟩
  rcases r with ⟨b1, b2, f, b3, b4, b5⟩ | ⟨f, c, b1, b2, b3, b4, b5, b6, b7, b8, b9, ⟨b10, b11⟩, ⟨b12, b13⟩, b14⟩
  · exact Or.inl ⟨b1, b2, f, b3, by rw [e79 79 (Or.inl rfl)]; exact b4, by rw [e79 80 (Or.inr rfl)]; exact b5⟩
  · refine Or.inr ⟨f, c, b1, by rw [e79 79 (Or.inl rfl)]; exact b2, by rw [e79 80 (Or.inr rfl)]; exact b3, fun j x hx => ?_, by rw [e81 81 _ (by omega) (by omega) (by omega) (by omega)]; exact b5, by rw [e81 84 _ (by omega) (by omega) (by omega) (by omega)]; exact b6, by rw [e81 85 _ (by omega) (by omega) (by omega) (by omega)]; exact b7, sm_s b8 e86 b12 b13, b9, ⟨b10, b11⟩, ⟨b12, b13⟩, fun j x hx => ?_⟩
    · have hj := gx_lt hx
      obtain ⟨c', d1, d2, d3, d4, d5, d6, d7, d8, d9⟩ := b4 j x hx
      obtain ⟨c'', q1, q2, q3⟩ := b14 j x hx
      have ec : c' = c'' := (nI_eq (by omega) (by omega)).1 (d2.symm.trans q1)
      subst ec
      have E : ∀ y, 81 ≤ y → y ≤ 85 → M'.1 y (f + j) = M.1 y (f + j) := fun y y1 y2 => e81 y _ y1 y2 (by omega) (by omega)
      exact ⟨c', by rw [E 81 (by omega) (by omega)]; exact d1, by rw [E 82 (by omega) (by omega)]; exact d2, by rw [E 83 (by omega) (by omega)]; exact d3, by rw [E 84 (by omega) (by omega)]; exact d4, by rw [E 85 (by omega) (by omega)]; exact d5, sm_s d6 e86 q2 (by omega), sm_s d7 e86 (by omega) (by omega), sm_s d8 e86 (by omega) (by omega), d9⟩
    · have hj := gx_lt hx
      obtain ⟨c'', q1, q2, q3⟩ := b14 j x hx
      exact ⟨c'', by rw [e81 82 _ (by omega) (by omega) (by omega) (by omega)]; exact q1, q2, q3⟩
theorem iT_side {M M' : zm_Mem} {t v v' : Nat} {D : zD} (hv' : v + v' = 1) (H : iv_T M t v D) (h1 : ∀ x j, t ≤ x → x ≤ t + 10 → M'.1 x j = M.1 x j) (h2 : ∀ x j, 63 ≤ x → x ≤ 87 → ¬ pV v' x j → M'.1 x j = M.1 x j) (h3 : M'.1 52 18 = M.1 52 18) : iv_T M' t v D := by
  obtain ⟨n1, n2, n3, n4, n5, n6⟩ := nV hv'
  have bh := tT_bh H
  have bw := tT_bw H
  have bk := tT_bk H
  have e1 : ∀ x, (x = 63 ∨ x = 66 ∨ x = 71 ∨ x = 76 ∨ x = 77 ∨ x = 78) → M'.1 x v = M.1 x v := fun x hx => h2 x v (by omega) (by omega) (n1 x hx)
  have e2 : ∀ x j, (x = 64 ∨ x = 65) → j < 5 → M'.1 x (5 * v + j) = M.1 x (5 * v + j) := fun x j hx hj => h2 x _ (by omega) (by omega) (n2 x j hx hj)
  have e3 : ∀ x j, ((67 ≤ x ∧ x ≤ 70) ∨ (72 ≤ x ∧ x ≤ 75)) → j < 6 → M'.1 x (6 * v + j) = M.1 x (6 * v + j) := fun x j hx hj => h2 x _ (by omega) (by omega) (n3 x j hx hj)
  have e4 : ∀ x j, (x = 79 ∨ x = 80) → j < 2 → M'.1 x (2 * v + j) = M.1 x (2 * v + j) := fun x j hx hj => h2 x _ (by omega) (by omega) (n4 x j hx hj)
  have e5 : ∀ x j, 81 ≤ x → x ≤ 85 → 130 * v ≤ j → j < 130 * v + 130 → M'.1 x j = M.1 x j := fun x j a b c d => h2 x _ (by omega) (by omega) (n5 x j a b c d)
  have e6 : ∀ x j, (x = 86 ∨ x = 87) → 420 * v ≤ j → j < 420 * v + 420 → M'.1 x j = M.1 x j := fun x j a b c => h2 x _ (by omega) (by omega) (n6 x j a b c)
  have et : ∀ j, M'.1 t j = M.1 t j := fun j => h1 t j (by omega) (by omega)
  have ec : ∀ y j, y ≤ 10 → M'.1 (t + y) j = M.1 (t + y) j := fun y j hy => h1 (t + y) j (by omega) (by omega)
  refine ⟨tT_v H, bh, bw, bk, by rw [h3]; exact tT_live H, by rw [et]; exact tT_h H, by rw [e1 63 (by omega)]; exact tT_rh H, by rw [et]; exact tT_w H, by rw [e1 66 (by omega)]; exact tT_rw H, by rw [et]; exact tT_k H, by rw [e1 71 (by omega)]; exact tT_rk H, tT_bla H, by rw [et]; exact tT_la H, by rw [e1 76 (by omega)]; exact tT_rla H, tT_bco H, by rw [et]; exact tT_co H, by rw [e1 77 (by omega)]; exact tT_rco H, tT_bse H, by rw [et]; exact tT_se H, by rw [e1 78 (by omega)]; exact tT_rse H, tT_Hb H, ?_, ?_, ?_, ?_, tT_Wb H, ?_, ?_, ?_, ?_, ?_, ?_, ?_, ?_, tT_Kb H, ?_, ?_, ?_, ?_, ?_⟩
  · exact fun j hj => by rw [ec 1 j (by omega)]; exact tT_no H j hj
  · exact fun j hj => by rw [e2 64 j (by omega) (by omega)]; exact tT_rno H j hj
  · exact fun j hj => by rw [ec 2 j (by omega)]; exact tT_wa H j hj
  · exact fun j hj => by rw [e2 65 j (by omega) (by omega)]; exact tT_rwa H j hj
  · exact fun j hj => by rw [ec 3 j (by omega)]; exact tT_ow H j hj
  · exact fun j hj => by rw [e3 67 j (by omega) (by omega)]; exact tT_row H j hj
  · exact fun j hj => by rw [ec 4 j (by omega)]; exact tT_st H j hj
  · exact fun j hj => by rw [e3 68 j (by omega) (by omega)]; exact tT_rst H j hj
  · exact fun j hj => by rw [ec 5 j (by omega)]; exact tT_ki H j hj
  · exact fun j hj => by rw [e3 69 j (by omega) (by omega)]; exact tT_rki H j hj
  · exact fun j hj => by rw [ec 6 j (by omega)]; exact tT_va H j hj
  · exact fun j hj => by rw [e3 70 j (by omega) (by omega)]; exact tT_rva H j hj
  · exact fun j hj => by rw [ec 7 j (by omega)]; exact tT_tw H j hj
  · exact fun j hj => by rw [e3 72 j (by omega) (by omega)]; exact tT_rtw H j hj
  · intro j hj
    obtain ⟨a, b, c, q1, q2, q3, q4, q5, q6, q7, q8, q9, q10, q11, ⟨cl, q12, q13, q14, q15⟩, q16, q17, q18⟩ := tT_term H j hj
    exact ⟨a, b, c, by rw [ec 8 j (by omega)]; exact q1, by rw [ec 9 j (by omega)]; exact q2, by rw [e3 73 j (by omega) (by omega)]; exact q3, by rw [e3 74 j (by omega) (by omega)]; exact q4, by rw [e3 75 j (by omega) (by omega)]; exact q5, q6, q7, sc_s q8 (fun j => ec 10 j (by omega)), sc_s q9 (fun j => ec 10 j (by omega)), sm_s q10 e6 q17 (by omega), sm_s q11 e6 (by omega) (by omega), ⟨cl, q12, by rw [et]; exact q13, q14, q15⟩, q16, q17, q18⟩
  · exact law_side (tT_v H) (et 14) (fun j => ec 10 j (by omega)) (et 10) (fun x hx => e4 x 0 hx (by omega)) e5 e6 (tT_law0 H)
  · exact law_side (tT_v H) (et 15) (fun j => ec 10 j (by omega)) (et 10) (fun x hx => e4 x 1 hx (by omega)) e5 e6 (tT_law1 H)
