/-! the reference's sums -/
theorem fp_fr {W : Nat → Nat → Bool} {P : Nat → Nat → Prop} {M M' : zm_Mem} (h : Fr W M M') (hW : ∀ x j, W x j = true → P x j) : Fp P M M' := ⟨h.1, fun x j hn => h.2 x j (by
  cases hh : W x j with
  | true => exact absurd (hW x j hh) hn
  | false => rfl)⟩
def pK (k h x j : Nat) : Prop := ((x = 86 ∨ x = 87) ∧ k ≤ j ∧ j < h) ∨ (x = 52 ∧ (j = 48 ∨ j = 52))
def pR (k h x j : Nat) : Prop := ((x = 86 ∨ x = 87) ∧ k ≤ j ∧ j < h) ∨ x = 88 ∨ (x = 52 ∧ ((11 ≤ j ∧ j ≤ 14) ∨ j = 48 ∨ j = 52))
theorem fp_KR {k h : Nat} {M M' : zm_Mem} (f : Fp (pK k h) M M') : Fp (pR k h) M M' := fp_mono (fun x j z => by unfold pK at z; unfold pR; omega) f
theorem fp_RR {k k2 h : Nat} {M M' : zm_Mem} (hk : k ≤ k2) (f : Fp (pR k2 h) M M') : Fp (pR k h) M M' := fp_mono (fun x j z => by unfold pR at z ⊢; omega) f
theorem fp_KK {k k2 h : Nat} {M M' : zm_Mem} (hk : k ≤ k2) (f : Fp (pK k2 h) M M') : Fp (pK k h) M M' := fp_mono (fun x j z => by unfold pK at z ⊢; omega) f
theorem rks_fp {P : Nat → Nat → Prop} {M M' : zm_Mem} {tk : Nat → zTk} {e : Nat} (h : Fp P M M') (hP : ∀ x j, 55 ≤ x → x ≤ 57 → ¬ P x j) (H : Rks M tk e) : Rks M' tk e := ⟨H.1, fun i hi => by
  rw [h.2 55 i (hP 55 i (by omega) (by omega)), h.2 56 i (hP 56 i (by omega) (by omega)), h.2 57 i (hP 57 i (by omega) (by omega)), h.1]; exact H.2 i hi⟩
theorem sk_fp {P : Nat → Nat → Prop} {M M' : zm_Mem} {sk : List Nat} (h : Fp P M M') (h5 : ¬ P 52 52) (h6 : ∀ j, ¬ P 88 j) (H : SkR M sk) : SkR M' sk := ⟨H.1, (h.2 52 52 h5).trans H.2.1, fun i x hx => by rw [h.2 88 i (h6 i)]; exact H.2.2 i x hx⟩
def pc (p : List Nat) : zE := p.reverse.map (fun x => (opc x, 0))
theorem pc_len (p : List Nat) : (pc p).length = p.length := by unfold pc; rw [List.length_map, List.length_reverse]
theorem pc_app (p q : List Nat) : pc (p ++ q) = pc q ++ pc p := by unfold pc; rw [List.reverse_append, List.map_append]
theorem sm_nil {M : zm_Mem} {k : Nat} : iv_sm M k [] := fun i p hp => by cases hp
theorem sm_app {M : zm_Mem} {k : Nat} {c d : zE} (h1 : iv_sm M k c) (h2 : iv_sm M (k + c.length) d) : iv_sm M k (c ++ d) := by
  intro i p hp
  rcases Nat.lt_or_ge i c.length with hi | hi
  · rw [List.getElem?_append_left hi] at hp; exact h1 i p hp
  · rw [List.getElem?_append_right hi] at hp
    have := h2 _ p hp
    rw [show k + c.length + (i - c.length) = k + i by omega] at this
    exact this
theorem sm_fp {P : Nat → Nat → Prop} {M M' : zm_Mem} {k : Nat} {c : zE} (h : iv_sm M k c) (f : Fp P M M') (hk : ∀ x j, (x = 86 ∨ x = 87) → k ≤ j → j < k + c.length → ¬ P x j) : iv_sm M' k c := by
  intro i p hp
  have hi : i < c.length := by
    refine Classical.byContradiction (fun z => ?_)
    rw [List.getElem?_eq_none (by omega)] at hp; cases hp
  rw [f.2 86 (k + i) (hk 86 _ (Or.inl rfl) (by omega) (by omega)), f.2 87 (k + i) (hk 87 _ (Or.inr rfl) (by omega) (by omega))]
  exact h i p hp
theorem sm_one {M : zm_Mem} {k a b : Nat} (h1 : M.1 86 k = nI a) (h2 : M.1 87 k = nI b) : iv_sm M k [(a, b)] := by
  intro i p hp
  cases i with
  | zero =>
    have : (a, b) = p := Option.some.inj hp
    subst this
    exact ⟨h1, h2⟩
  | succ i => cases hp
theorem sm_fpK {M M' : zm_Mem} {k k2 h : Nat} {c : zE} (h1 : iv_sm M k c) (f : Fp (pR k2 h) M M') (hk : k + c.length ≤ k2) : iv_sm M' k c := sm_fp h1 f (fun x j a b d z => by unfold pR at z; omega)
theorem fp_em {M : zm_Mem} {k h : Nat} {a b v : Int32} (hk : k < h) : Fp (pK k h) M (emM (zm_sI M 52 52 v) k a b) := by
  unfold emM
  exact fp_tr (fp_sI (Or.inr ⟨rfl, Or.inr rfl⟩)) (fp_tr (fp_sI (Or.inl ⟨Or.inl rfl, by omega, hk⟩)) (fp_tr (fp_sI (Or.inl ⟨Or.inr rfl, by omega, hk⟩)) (fp_sI (Or.inr ⟨rfl, Or.inl rfl⟩))))
theorem r_comes {a1 : Int32} {h : Nat} {s : List Nat} (hh : h ≤ 840) (hs : s = [] ∨ ∃ s' x, s = s' ++ [x] ∧ (x = 6 ∨ (a1 ≠ 0 ∧ (x = 8 ∨ x = 9)))) : ∀ (n : Nat) (p : List Nat) (M : zm_Mem) (k : Nat), p.length = n → SkR M (s ++ p) → M.1 52 48 = nI k → k + p.length ≤ h → (∀ x ∈ p, (x = 8 ∨ x = 9 ∨ x = 10 ∨ x = 15) ∧ (a1 = 0 ∨ (x ≠ 8 ∧ x ≠ 9))) → ∃ M', f_X11_comesOut a1 M = some ((), M') ∧ SkR M' s ∧ M'.1 52 48 = nI (k + p.length) ∧ iv_sm M' k (pc p) ∧ Fp (pK k h) M M'
  | 0, p, M, k, hn, h1, h2, h3, h4 => by
    have hp : p = [] := List.eq_nil_of_length_eq_zero hn
    subst hp
    rw [List.append_nil] at h1
    refine ⟨M, ?_, h1, h2, sm_nil, fp_rfl _ _⟩
    rcases hs with rfl | ⟨s', x, rfl, hx⟩
    · exact co_nil h1
    · exact co_stop h1 hx
  | n + 1, p, M, k, hn, h1, h2, h3, h4 => by
    rcases List.eq_nil_or_concat p with rfl | ⟨q, x, rfl⟩
    · cases hn
    · rw [List.concat_eq_append] at *
      have hl : (q ++ [x]).length = q.length + 1 := by rw [List.length_append]; rfl
      have hx := h4 x (List.mem_append_right _ (List.mem_singleton.2 rfl))
      rw [← List.append_assoc] at h1
      obtain ⟨c1, c2⟩ := co_pop (a1 := a1) h1 h2 (by omega) hx.1 hx.2
      have f := fp_em (M := M) (k := k) (h := h) (a := nI (opc x)) (b := 0) (v := nI (s ++ q).length) (by omega)
      have e48 : (emM (zm_sI M 52 52 (nI (s ++ q).length)) k (nI (opc x)) 0).1 52 48 = nI (k + 1) := by unfold emM; rw [mI1, if_pos ⟨rfl, rfl⟩]
      obtain ⟨M', r1, r2, r3, r4, r5⟩ := r_comes hh hs n q _ (k + 1) (by omega) c2 e48 (by omega) (fun y hy => h4 y (List.mem_append_left _ hy))
      refine ⟨M', by rw [c1]; exact r1, r2, by rw [r3, hl, show k + 1 + q.length = k + (q.length + 1) by omega], ?_, fp_tr f (fp_KK (by omega) r5)⟩
      rw [pc_app]
      refine sm_app (c := pc [x]) ?_ ?_
      · refine sm_fpK (k2 := k + 1) (h := h) ?_ (fp_KR r5) (by rw [pc_len]; exact Nat.le_refl _)
        refine sm_one (a := opc x) (b := 0) ?_ ?_
        · unfold emM; rw [mI1, if_neg (by omega), mI1, if_neg (by omega), mI1, if_pos ⟨rfl, rfl⟩]
        · unfold emM; rw [mI1, if_neg (by omega), mI1, if_pos ⟨rfl, rfl⟩]; rfl
      · exact r4
def okK (s : List Nat) : Prop := ∀ x ∈ s, x = 6 ∨ (x = 8 ∨ x = 9 ∨ x = 10 ∨ x = 15)
theorem okK_split : ∀ (n : Nat) (s : List Nat), s.length = n → okK s → ∃ s1 p, s = s1 ++ p ∧ (s1 = [] ∨ ∃ s' x, s1 = s' ++ [x] ∧ x = 6) ∧ ∀ x ∈ p, x = 8 ∨ x = 9 ∨ x = 10 ∨ x = 15
  | 0, s, hn, h => ⟨[], [], List.eq_nil_of_length_eq_zero hn, Or.inl rfl, fun x hx => by cases hx⟩
  | n + 1, s, hn, h => by
    rcases List.eq_nil_or_concat s with rfl | ⟨q, x, rfl⟩
    · cases hn
    · rw [List.concat_eq_append] at *
      have hl : (q ++ [x]).length = q.length + 1 := by rw [List.length_append]; rfl
      rcases h x (List.mem_append_right _ (List.mem_singleton.2 rfl)) with h6 | h8
      · exact ⟨q ++ [x], [], (List.append_nil _).symm, Or.inr ⟨q, x, rfl, h6⟩, fun x hx => by cases hx⟩
      · obtain ⟨s1, p, e, h1, h2⟩ := okK_split n q (by omega) (fun y hy => h y (List.mem_append_left _ hy))
        refine ⟨s1, p ++ [x], by rw [e, List.append_assoc], h1, fun y hy => ?_⟩
        rcases List.mem_append.1 hy with hy | hy
        · exact h2 y hy
        · rw [List.mem_singleton.1 hy]; exact h8
theorem r_comesF {M : zm_Mem} {s : List Nat} {k h : Nat} (hh : h ≤ 840) (hs : okK s) (h1 : SkR M s) (h2 : M.1 52 48 = nI k) (h3 : k + s.length ≤ h) : ∃ M', f_X11_comesOut 0 M = some ((), M') ∧ Fp (pK k h) M M' := by
  obtain ⟨s1, p, e, h4, h5⟩ := okK_split _ s rfl hs
  subst e
  have hl : (s1 ++ p).length = s1.length + p.length := List.length_append
  obtain ⟨M', r1, r2, r3, r4, r5⟩ := r_comes (a1 := 0) (h := h) (s := s1) hh (by
    rcases h4 with h4 | ⟨s', x, a, b⟩
    · exact Or.inl h4
    · exact Or.inr ⟨s', x, a, Or.inl b⟩) p.length p M k rfl h1 h2 (by omega) (fun x hx => ⟨h5 x hx, Or.inl rfl⟩)
  exact ⟨M', r1, r5⟩
/-! behind a fault -/
def RF (M : zm_Mem) (tk : Nat → zTk) (e i f : Nat) : Prop := Rks M tk e ∧ M.1 52 13 = nI f ∧ (1 ≤ f ∧ f ≤ 9) ∧ M.1 52 14 = nI (tk i).2.1
theorem rf_ne {M : zm_Mem} {tk : Nat → zTk} {e i f : Nat} (h : RF M tk e i f) : M.1 52 13 ≠ 0 := by
  rw [h.2.1]; exact nI_ne0 h.2.2.1.1 (by have := h.2.2.1.2; omega)
theorem rf_le {M : zm_Mem} {tk : Nat → zTk} {e i f : Nat} (h : RF M tk e i f) : ¬ M.1 52 13 ≤ 0 := by
  rw [h.2.1]; exact nI_nle h.2.2.1.1 (by have := h.2.2.1.2; omega)
theorem rf_fp {P : Nat → Nat → Prop} {M M' : zm_Mem} {tk : Nat → zTk} {e i f : Nat} (h : RF M tk e i f) (fp : Fp P M M') (h1 : ∀ x j, 55 ≤ x → x ≤ 57 → ¬ P x j) (h2 : ¬ P 52 13) (h3 : ¬ P 52 14) : RF M' tk e i f :=
  ⟨rks_fp fp h1 h.1, by rw [fp.2 52 13 h2]; exact h.2.1, h.2.2.1, by rw [fp.2 52 14 h3]; exact h.2.2.2⟩
theorem r_failF {M : zm_Mem} {k : Int32} (h : ¬ M.1 52 13 ≤ 0) : f_X11_fail k M = some ((), M) := by
  unfold f_X11_fail
  rw [if_neg h]
theorem r_goesF {M : zm_Mem} (h : ¬ M.1 52 13 ≤ 0) : ∃ M', f_X11_goesOn M = some ((), M') ∧ Fp (fun x j => x = 52 ∧ j = 11) M M' := by
  unfold f_X11_goesOn
  simp only [zv_eq]
  rw [r_failF h, zb2_some]
  split
  · exact ⟨_, rfl, fp_rfl _ _⟩
  · exact ⟨_, rfl, fp_sI ⟨rfl, rfl⟩⟩
theorem r_mustF {M : zm_Mem} {k : Int32} (h0 : M.1 52 13 ≠ 0) (h : ¬ M.1 52 13 ≤ 0) : f_X11_must k M = some ((), M) := by
  unfold f_X11_must
  rw [r_isF h0, zb1_some, if_pos rfl, r_failF h, zb2_some]
theorem r_AF {M : zm_Mem} {x9 : Int32} (h0 : M.1 52 13 ≠ 0) (h : ¬ M.1 52 13 ≤ 0) : RunA x9 M = some ((), M) := by
  have u : f_X11_unit M = some ((), M) := by
    unfold f_X11_unit f_X11_unit_b88
    rw [r_isF h0, zb1_some, if_pos rfl, if_neg h0, r_failF h, zb2_some]
  rw [rx_unit (r_isF h0) u, if_neg h]
theorem r_end {M : zm_Mem} {x9 : Int32} (h7 : f_X11_is 7 M = some 0 ∨ (f_X11_is 7 M = some 1 ∧ M.1 52 12 ≤ x9)) (h8 : f_X11_is 8 M = some 0) (h9 : f_X11_is 9 M = some 0) (h10 : f_X11_is 10 M = some 0) (h15 : f_X11_is 15 M = some 0) : RunB x9 M = f_X11_expression_x191_12 x9 M := by
  refine rx_end ?_ ?_
  · unfold f_X11_expression_l96_12
    rcases h7 with h7 | ⟨h7, hd⟩
    · rw [h7, zb1_some, if_pos rfl]
    · rw [h7, zb1_some, if_neg (by decide), if_pos hd]
  · unfold f_X11_expression_b145_12 f_X11_expression_b186_12
    rw [h8, zb1_some, if_pos rfl, h9, zb1_some, if_pos rfl, h10, zb1_some, if_pos rfl, h15, zb1_some, if_pos rfl, if_pos rfl]
theorem r_fl {M : zm_Mem} {tk : Nat → zTk} {e i a k f h : Nat} {sk : List Nat} (H : RS M tk e i a sk k) (hi : i ≤ e) (hf : 1 ≤ f ∧ f ≤ 9) : f_X11_fail (nI f) M = some ((), zm_sI (zm_sI M 52 13 (nI f)) 52 14 (nI (tk i).2.1)) ∧ RF (zm_sI (zm_sI M 52 13 (nI f)) 52 14 (nI (tk i).2.1)) tk e i f ∧ Fp (pR k h) M (zm_sI (zm_sI M 52 13 (nI f)) 52 14 (nI (tk i).2.1)) ∧ Fp (fun x j => x = 52 ∧ (j = 13 ∨ j = 14)) M (zm_sI (zm_sI M 52 13 (nI f)) 52 14 (nI (tk i).2.1)) := by
  have g : Fp (fun x j => x = 52 ∧ (j = 13 ∨ j = 14)) M (zm_sI (zm_sI M 52 13 (nI f)) 52 14 (nI (tk i).2.1)) := fp_tr (fp_sI ⟨rfl, Or.inl rfl⟩) (fp_sI ⟨rfl, Or.inr rfl⟩)
  refine ⟨r_fail H.1 H.2.1 H.2.2.1 hi, ⟨rks_fp g (fun x j a b z => by omega) H.1, ?_, hf, ?_⟩, fp_mono (fun x j z => by unfold pR; omega) g, g⟩
  · rw [mI1, if_neg (by omega), mI1, if_pos ⟨rfl, rfl⟩]
  · rw [mI1, if_pos ⟨rfl, rfl⟩]
/-- a fault that B runs into: what waits comes out, no more -/
theorem r_x191F {M : zm_Mem} {s : List Nat} {k h : Nat} {x9 : Int32} (hf : ¬ M.1 52 13 ≤ 0) (hh : h ≤ 840) (hs : okK s) (h1 : SkR M s) (h2 : M.1 52 48 = nI k) (h3 : k + s.length ≤ h) : ∃ M', f_X11_expression_x191_12 x9 M = some ((), M') ∧ Fp (pK k h) M M' := by
  obtain ⟨M', r1, r2⟩ := r_comesF hh hs h1 h2 h3
  refine ⟨M', ?_, r2⟩
  unfold f_X11_expression_x191_12 f_X11_expression_b204
  rw [r_failF hf, zb2_some, r1, zb2_some]
  split <;> rfl
theorem rs_fp {P : Nat → Nat → Prop} {M M' : zm_Mem} {tk : Nat → zTk} {e i a k : Nat} {sk : List Nat} (h : RS M tk e i a sk k) (f : Fp P M M') (h1 : ∀ x j, 55 ≤ x → x ≤ 57 → ¬ P x j) (h11 : ¬ P 52 11) (h13 : ¬ P 52 13) (h12 : ¬ P 52 12) {sk' : List Nat} (hs : SkR M' sk') {k' : Nat} (hk : M'.1 52 48 = nI k') : RS M' tk e i a sk' k' :=
  ⟨rks_fp f h1 h.1, by rw [f.2 52 11 h11]; exact h.2.1, by rw [f.2 52 13 h13]; exact h.2.2.1, by rw [f.2 52 12 h12]; exact h.2.2.2.1, hs, hk⟩
theorem r_go {M : zm_Mem} {T : Nat → Nat} {n i a k h : Nat} {sk : List Nat} (H : RS M (tkF T n) (tkE T n) i a sk k) (hi : i ≤ tkE T n) (hs : (tkF T n i).1 ≠ 0) : ∃ M', f_X11_goesOn M = some ((), M') ∧ Fp (pR k h) M M' ∧ Fp (fun x j => x = 52 ∧ 11 ≤ j ∧ j ≤ 14) M M' ∧ (i = 400 → RF M' (tkF T n) (tkE T n) i 2) ∧ (i ≠ 400 → RS M' (tkF T n) (tkE T n) (i + 1) a sk k ∧ i + 1 ≤ tkE T n) := by
  have g := r_goesOn H.1 H.2.1 H.2.2.1 hi
  by_cases h4 : i = 400
  · rw [if_pos h4] at g
    obtain ⟨q1, q2, q3, q4⟩ := r_fl (f := 2) (h := h) H hi (by omega)
    exact ⟨_, g, q3, fp_mono (fun x j z => by omega) q4, fun _ => q2, fun z => absurd h4 z⟩
  · rw [if_neg h4] at g
    have f : Fp (fun x j => x = 52 ∧ j = 11) M (zm_sI M 52 11 (nI (i + 1))) := fp_sI ⟨rfl, rfl⟩
    refine ⟨_, g, fp_mono (fun x j z => by unfold pR; omega) f, fp_mono (fun x j z => by omega) f, fun z => absurd z h4, fun _ => ⟨⟨rks_fp f (fun x j a b z => by omega) H.1, by rw [mI1, if_pos ⟨rfl, rfl⟩], ?_, ?_, sk_fp f (by omega) (fun j => by omega) H.2.2.2.2.1, ?_⟩, tkF_lt hi hs h4⟩⟩
    · rw [f.2 52 13 (by omega)]; exact H.2.2.1
    · rw [f.2 52 12 (by omega)]; exact H.2.2.2.1
    · rw [f.2 52 48 (by omega)]; exact H.2.2.2.2.2
theorem r_isN {M : zm_Mem} {T : Nat → Nat} {n i a k : Nat} {sk : List Nat} (H : RS M (tkF T n) (tkE T n) i a sk k) (hi : i ≤ tkE T n) {x : Nat} (hx : x < 1000) (b : Bool) (hb : rsF (tkF T n i).1 = x ↔ b = true) : f_X11_is (nI x) M = some (if b = true then 1 else 0) := by
  have h := okS_rs _ cs_num (tkF_ok (T := T) (n := n) (i := i)).1
  rw [r_is H.1 H.2.1 H.2.2.1 hi hx h.1]
  by_cases hh : rsF (tkF T n i).1 = x
  · rw [if_pos hh, if_pos (hb.1 hh)]
  · rw [if_neg hh, if_neg (fun z => hh (hb.2 z))]
theorem r_isX {M : zm_Mem} {T : Nat → Nat} {n i a k : Nat} {sk : List Nat} (H : RS M (tkF T n) (tkE T n) i a sk k) (hi : i ≤ tkE T n) (x y : Nat) (hx : x < 1000) (hb : rsF (tkF T n i).1 = x ↔ (tkF T n i).1 = y) : ((tkF T n i).1 = y → f_X11_is (nI x) M = some 1) ∧ ((tkF T n i).1 ≠ y → f_X11_is (nI x) M = some 0) := by
  have h := okS_rs _ cs_num (tkF_ok (T := T) (n := n) (i := i)).1
  have e := r_is H.1 H.2.1 H.2.2.1 hi hx h.1
  refine ⟨fun z => ?_, fun z => ?_⟩
  · rw [e, if_pos (hb.2 z)]
  · rw [e, if_neg (fun q => z (hb.1 q))]
