/-! the class's sums -/
def Fp (P : Nat → Nat → Prop) (M M' : zm_Mem) : Prop := M'.2 = M.2 ∧ ∀ x j, ¬ P x j → M'.1 x j = M.1 x j
theorem fp_rfl (P : Nat → Nat → Prop) (M : zm_Mem) : Fp P M M := ⟨rfl, fun _ _ _ => rfl⟩
theorem fp_tr {P : Nat → Nat → Prop} {M M1 M2 : zm_Mem} (h : Fp P M M1) (h' : Fp P M1 M2) : Fp P M M2 := ⟨h'.1.trans h.1, fun x j hw => (h'.2 x j hw).trans (h.2 x j hw)⟩
theorem fp_sI {P : Nat → Nat → Prop} {M : zm_Mem} {a i : Nat} {v : Int32} (h : P a i) : Fp P M (zm_sI M a i v) := ⟨rfl, fun x j hn => by
  rw [mI1, if_neg (fun z => hn (by rw [z.1, z.2]; exact h))]⟩
theorem fp_mono {P Q : Nat → Nat → Prop} {M M' : zm_Mem} (hW : ∀ x j, P x j → Q x j) (h : Fp P M M') : Fp Q M M' := ⟨h.1, fun x j hn => h.2 x j (fun z => hn (hW x j z))⟩
def pF (t x j : Nat) : Prop := (t ≤ x ∧ x ≤ t + 10) ∨ (x = 8 ∧ 4 ≤ j ∧ j ≤ 8)
def pP (t cl x j : Nat) : Prop := (x = t + 10 ∧ cl ≤ j) ∨ (x = t ∧ j = 10)
def pC (t cl x j : Nat) : Prop := (x = t + 10 ∧ cl ≤ j) ∨ (x = t ∧ j = 10) ∨ (x = 8 ∧ (j = 4 ∨ j = 5))
theorem fp_PC {t cl : Nat} {M M' : zm_Mem} (h : Fp (pP t cl) M M') : Fp (pC t cl) M M' := fp_mono (fun x j z => by unfold pP at z; unfold pC; omega) h
theorem fp_CF {t cl : Nat} {M M' : zm_Mem} (h : Fp (pC t cl) M M') : Fp (pF t) M M' := fp_mono (fun x j z => by unfold pC at z; unfold pF; omega) h
theorem fp_CC {t cl c2 : Nat} {M M' : zm_Mem} (hc : cl ≤ c2) (h : Fp (pC t c2) M M') : Fp (pC t cl) M M' := fp_mono (fun x j z => by unfold pC at z ⊢; omega) h
theorem tks_fp {P : Nat → Nat → Prop} {M M' : zm_Mem} {tk : Nat → zTk} {e : Nat} (h : Fp P M M') (hP : ∀ x j, 3 ≤ x → x ≤ 5 → ¬ P x j) (H : Tks M tk e) : Tks M' tk e := by
  obtain ⟨h1, ⟨c, hc1, hc2, h2⟩, h3⟩ := H
  exact ⟨h1, ⟨c, hc1, hc2, by rw [h.2 3 4 (hP 3 4 (by omega) (by omega))]; exact h2⟩, fun i hi => by
    rw [h.2 4 i (hP 4 i (by omega) (by omega)), h.2 5 i (hP 5 i (by omega) (by omega)), h.1]; exact h3 i hi⟩
def CF (M : zm_Mem) (t : Nat) (tk : Nat → zTk) (e i k : Nat) : Prop := Tks M tk e ∧ M.1 8 4 = nI i ∧ M.1 8 5 = nI k ∧ (1 ≤ k ∧ k ≤ 9) ∧ M.2.2 8 3 = t ∧ (t = 25 ∨ t = 36) ∧ i ≤ e ∧ ∃ c, c ≤ 408 ∧ M.1 t 10 = nI c
theorem cf_ne {M : zm_Mem} {t e i k : Nat} {tk : Nat → zTk} (h : CF M t tk e i k) : M.1 8 5 ≠ 0 := by
  rw [h.2.2.1]; exact nI_ne0 h.2.2.2.1.1 (by have := h.2.2.2.1.2; omega)
theorem cf_isT {M : zm_Mem} {t e i k : Nat} {tk : Nat → zTk} (h : CF M t tk e i k) : zm_isT t = true := by
  rcases h.2.2.2.2.2.1 with rfl | rfl <;> rfl
theorem put_v {a b : Nat} (ha : a < 8) (hb : b < 16384) : ((nI a <<< ((14 : Int32) &&& 31)) ||| (nI b &&& 16383)) = nI (a * 16384 + b) := by
  have e1 : nI a <<< ((14 : Int32) &&& 31) = nI (a * 16384) := by
    have : ∀ a, a < 8 → nI a <<< ((14 : Int32) &&& 31) = nI (a * 16384) := by decide
    exact this a ha
  have e2 : b &&& 16383 = b := (Nat.and_two_pow_sub_one_eq_mod b 14).trans (Nat.mod_eq_of_lt hb)
  have e3 : a * 16384 ||| b = a * 16384 + b := by
    have := Nat.shiftLeft_add_eq_or_of_lt (i := 14) hb a
    rw [Nat.shiftLeft_eq] at this
    exact this.symm
  rw [e1, show (16383 : Int32) = nI 16383 from rfl, zi_and, zi_or, e2, e3]
theorem fp_put {M : zm_Mem} {t k : Nat} {a b : Int32} : Fp (pP t k) M (putM M t k a b) := fp_tr (fp_sI (Or.inl ⟨rfl, Nat.le_refl _⟩)) (fp_sI (Or.inr ⟨rfl, rfl⟩))
theorem put_10 {M : zm_Mem} {t k : Nat} {a b : Int32} : (putM M t k a b).1 t 10 = nI (k + 1) := by unfold putM; rw [mI1, if_pos ⟨rfl, rfl⟩]
theorem put_c {M : zm_Mem} {t k a b : Nat} (ha : a < 8) (hb : b < 16384) : iv_sc (putM M t k (nI a) (nI b)) t k [(a, b)] := by
  intro i p hp
  cases i with
  | zero =>
    have : (a, b) = p := Option.some.inj hp
    subst this
    unfold putM
    rw [mI1, if_neg (by omega), mI1, if_pos ⟨rfl, rfl⟩, put_v ha hb]
  | succ i => cases hp
theorem cs_put {M : zm_Mem} {t e i cl : Nat} {tk : Nat → zTk} {x y : Int32} (h : CS M t tk e i cl) : CS (putM M t cl x y) t tk e i (cl + 1) := by
  obtain ⟨h1, h2, h3, h4, h5, h6⟩ := h
  have f := fp_put (M := M) (t := t) (k := cl) (a := x) (b := y)
  exact ⟨tks_fp f (fun x j a b => by unfold pP; omega) h1, by rw [f.2 8 4 (by unfold pP; omega)]; exact h2, by rw [f.2 8 5 (by unfold pP; omega)]; exact h3, h4, h5, put_10⟩
theorem c_putF {M : zm_Mem} {t e i k : Nat} {tk : Nat → zTk} {x y : Int32} (h : CF M t tk e i k) : ∃ M', f_X8_put t x y M = some ((), M') ∧ CF M' t tk e i k ∧ Fp (pF t) M M' := by
  obtain ⟨h1, h2, h3, h4, h5, h6, h7, c, h8, h9⟩ := h
  by_cases hc : c < 408
  · have f := fp_put (M := M) (t := t) (k := c) (a := x) (b := y)
    exact ⟨_, c_putT h9 hc, ⟨tks_fp f (fun x j a b => by unfold pP; omega) h1, by rw [f.2 8 4 (by unfold pP; omega)]; exact h2, by rw [f.2 8 5 (by unfold pP; omega)]; exact h3, h4, h5, h6, h7, c + 1, by omega, put_10⟩, fp_CF (fp_PC f)⟩
  · refine ⟨M, ?_, ⟨h1, h2, h3, h4, h5, h6, h7, c, h8, h9⟩, fp_rfl _ _⟩
    unfold f_X8_put
    rw [h9, if_pos (show (408 : Int32) ≤ nI c from nI_le (a := 408) (by omega) (by omega))]
/-- how a piece of a sum ends -/
def CR (M : zm_Mem) (t : Nat) (tk : Nat → zTk) (e cl : Nat) (R : zR) (M' : zm_Mem) : Prop := Fp (pF t) M M' ∧ ((∃ k j, R = .inl (k, j) ∧ CF M' t tk e j k) ∨ (∃ j c, R = .inr (j, c) ∧ CS M' t tk e j (cl + c.length) ∧ j ≤ e ∧ iv_sc M' t cl c ∧ Fp (pC t cl) M M'))
theorem sc_nil {M : zm_Mem} {t cl : Nat} : iv_sc M t cl [] := fun i p hp => by cases hp
theorem sc_app {M : zm_Mem} {t cl : Nat} {c d : zE} (h1 : iv_sc M t cl c) (h2 : iv_sc M t (cl + c.length) d) : iv_sc M t cl (c ++ d) := by
  intro i p hp
  rcases Nat.lt_or_ge i c.length with hi | hi
  · rw [List.getElem?_append_left hi] at hp; exact h1 i p hp
  · rw [List.getElem?_append_right hi] at hp
    have := h2 _ p hp
    rw [show cl + c.length + (i - c.length) = cl + i by omega] at this
    exact this
theorem sc_fp {M M' : zm_Mem} {t cl k : Nat} {c : zE} (h : iv_sc M t cl c) (f : Fp (pC t k) M M') (hk : cl + c.length ≤ k) (ht : t = 25 ∨ t = 36) : iv_sc M' t cl c := by
  intro i p hp
  have hi : i < c.length := by
    refine Classical.byContradiction (fun z => ?_)
    rw [List.getElem?_eq_none (by omega)] at hp; cases hp
  rw [f.2 (t + 10) (cl + i) (by unfold pC; omega)]
  exact h i p hp
theorem cr_cat {M M1 M2 : zm_Mem} {t e cl : Nat} {tk : Nat → zTk} {c : zE} {R : zR} (f : Fp (pC t cl) M M1) (hc : iv_sc M1 t cl c) (ht : t = 25 ∨ t = 36) (h : CR M1 t tk e (cl + c.length) R M2) : CR M t tk e cl (cR c R) M2 := by
  obtain ⟨g, h⟩ := h
  refine ⟨fp_tr (fp_CF f) g, ?_⟩
  rcases h with ⟨k, j, rfl, h⟩ | ⟨j, d, rfl, h1, h2, h3, h4⟩
  · exact Or.inl ⟨k, j, rfl, h⟩
  · refine Or.inr ⟨j, c ++ d, rfl, ?_, h2, sc_app (sc_fp hc h4 (Nat.le_refl _) ht) h3, fp_tr f (fp_CC (by omega) h4)⟩
    rw [List.length_append, ← Nat.add_assoc]; exact h1
theorem cf_tk {M : zm_Mem} {t e cl i : Nat} {tk : Nat → zTk} {k : Nat} (h : CS M t tk e i cl) (hi : i ≤ e) (hc : cl ≤ 408) (hk : 1 ≤ k ∧ k ≤ 9) : CF (zm_sI M 8 5 (nI k)) t tk e i k := by
  obtain ⟨h1, h2, h3, h4, h5, h6⟩ := h
  have f : Fp (fun x j => x = 8 ∧ j = 5) M (zm_sI M 8 5 (nI k)) := fp_sI ⟨rfl, rfl⟩
  exact ⟨tks_fp f (fun x j a b z => by omega) h1, by rw [f.2 8 4 (by omega)]; exact h2, by rw [mI1, if_pos ⟨rfl, rfl⟩], hk, h4, h5, hi, cl, hc, by rw [f.2 t 10 (by omega)]; exact h6⟩
theorem cr_tk {M M0 : zm_Mem} {T : Nat → Nat} {n t cl c0 i : Nat} {c : zE} (h : CS M0 t (tkF T n) (tkE T n) i c0) (f : Fp (pC t cl) M M0) (hc : iv_sc M0 t cl c) (h0 : c0 = cl + c.length) (hi : i ≤ tkE T n) (hs : (tkF T n i).1 ≠ 0) (hcl : c0 ≤ 408) : CR M t (tkF T n) (tkE T n) cl (gR i c) (tkN M0 i) := by
  have h' := h
  obtain ⟨h1, h2, h3, h4, h5, h6⟩ := h
  unfold gR tkN
  by_cases h4' : i = 400
  · rw [if_pos h4', if_pos h4']
    exact ⟨fp_tr (fp_CF f) (fp_sI (Or.inr ⟨rfl, by omega, by omega⟩)), Or.inl ⟨2, i, rfl, cf_tk (k := 2) h' hi hcl (by omega)⟩⟩
  · rw [if_neg h4', if_neg h4']
    have g : Fp (fun x j => x = 8 ∧ j = 4) M0 (zm_sI M0 8 4 (nI (i + 1))) := fp_sI ⟨rfl, rfl⟩
    have g' : Fp (pC t c0) M0 (zm_sI M0 8 4 (nI (i + 1))) := fp_sI (Or.inr (Or.inr ⟨rfl, Or.inl rfl⟩))
    refine ⟨fp_tr (fp_CF f) (fp_CF g'), Or.inr ⟨i + 1, c, rfl, ⟨tks_fp g (fun x j a b z => by omega) h1, by rw [mI1, if_pos ⟨rfl, rfl⟩], by rw [g.2 8 5 (by omega)]; exact h3, h4, h5, by rw [g.2 t 10 (by omega), ← h0]; exact h6⟩, tkF_lt hi hs h4', sc_fp hc g' (by omega) h5, fp_tr f (fp_CC (by omega) g')⟩⟩
/-! behind a fault nothing moves -/
theorem c_takeF' {M : zm_Mem} {t e i k : Nat} {tk : Nat → zTk} (h : CF M t tk e i k) : f_X2_take M = some ((), M) := c_takeF (cf_ne h)
theorem c_unitF {M : zm_Mem} {t e i k : Nat} {tk : Nat → zTk} {rec : Nat → Int32 → zm_Mem → Option (Unit × zm_Mem)} {a : Int32} (h : CF M t tk e i k) : ∃ M', f_X2_unit rec a M = some ((), M') ∧ CF M' t tk e i k ∧ Fp (pF t) M M' := by
  have hn := cf_ne h
  have hT := cf_isT h
  have pt : ∀ x y, ∃ M', (zm_b2 (f_X8_put t x y M) fun _ M27 => zm_b2 (f_X2_take M27) fun _ M31 => some ((), M31)) = some ((), M') ∧ CF M' t tk e i k ∧ Fp (pF t) M M' := fun x y => by
    obtain ⟨M', p1, p2, p3⟩ := c_putF (x := x) (y := y) h
    exact ⟨M', by rw [p1, zb2_some, c_takeF' p2, zb2_some], p2, p3⟩
  have nf : ∀ k, (zm_b2 (f_X2_fail k M) fun _ M72 => some ((), M72)) = some ((), M) := fun k => by rw [c_fail, if_neg hn, zb2_some]
  obtain ⟨h1, h2, h3, h4, h5, h6, h7, h8⟩ := id h
  unfold f_X2_unit
  simp only [zv_eq]
  rw [c_sortI h1 h2 h7, zb1_some, h5, hT, zk_true, h2, c_worthI h1 h7, zb1_some, zk_true, nf, nf, if_neg hn]
  by_cases c1 : nI (tk i).1 = 3
  · rw [if_pos c1]; exact pt _ _
  · rw [if_neg c1]
    by_cases c2 : nI (tk i).1 < 267
    · rw [if_pos c2]
      refine ⟨M, ?_, h, fp_rfl _ _⟩
      split
      · split <;> rfl
      · rfl
    · rw [if_neg c2]; exact pt _ _
noncomputable def cLs (rec : Nat → Int32 → zm_Mem → Option (Unit × zm_Mem)) (a l : Int32) (M : zm_Mem) : Option (Unit × zm_Mem) := (zm_lp (fun s => f_X2_sum_l7 rec a s.1 s.2) (l, M)).bind (Sum.elim (fun e38 => some ((), e38)) (fun e73 => some ((), e73)))
theorem cLs_F {rec : Nat → Int32 → zm_Mem → Option (Unit × zm_Mem)} {a l : Int32} {M : zm_Mem} (h : M.1 8 5 ≠ 0) : cLs rec a l M = some ((), M) := by
  have st : (fun s : Int32 × zm_Mem => f_X2_sum_l7 rec a s.1 s.2) (l, M) = some (.inr (.inr M)) := by
    show f_X2_sum_l7 rec a l M = _
    unfold f_X2_sum_l7
    rw [if_neg h]
    split <;> rfl
  unfold cLs
  rw [lp_end st]; rfl
theorem cLs_end {rec : Nat → Int32 → zm_Mem → Option (Unit × zm_Mem)} {a : Int32} {l s : Nat} {M : zm_Mem} (h : M.1 8 5 = 0) (hs : f_X2_sort M = some (nI s)) (hl : l ≤ 400) (hs' : s < 276) (ho : isO 3 s = false) : cLs rec a (nI l) M = some ((), M) := by
  have h1 : s ≠ 43 := fun z => by subst z; cases ho
  have h2 : s ≠ 45 := fun z => by subst z; cases ho
  have st : (fun s : Int32 × zm_Mem => f_X2_sum_l7 rec a s.1 s.2) (nI l, M) = some (.inr (.inl M)) := by
    show f_X2_sum_l7 rec a (nI l) M = _
    unfold f_X2_sum_l7
    rw [if_neg (show ¬ (400 : Int32) < nI l from nI_nlt (a := 400) hl (by omega)), if_pos h, hs, zb1_some, if_neg (show ¬ nI s = (43 : Int32) from fun z => h1 ((nI_eq (b := 43) (by omega) (by omega)).1 z)), if_neg (show ¬ nI s = (45 : Int32) from fun z => h2 ((nI_eq (b := 45) (by omega) (by omega)).1 z))]
  unfold cLs
  rw [lp_end st]; rfl
theorem cLs_go {rec : Nat → Int32 → zm_Mem → Option (Unit × zm_Mem)} {a : Int32} {l s t : Nat} {M Ma Mb Mc : zm_Mem} (h : M.1 8 5 = 0) (hs : f_X2_sort M = some (nI s)) (hl : l ≤ 400) (ho : isO 3 s = true) (ht : f_X2_take M = some ((), Ma)) (hr : rec 1 a Ma = some ((), Mb)) (h3 : Mb.2.2 8 3 = t) (hT : zm_isT t = true) (hp : f_X8_put t (nI (opF s)) 0 Mb = some ((), Mc)) : cLs rec a (nI l) M = cLs rec a (nI (l + 1)) Mc := by
  have h1 : s = 43 ∨ s = 45 := by
    unfold isO at ho
    simp only [if_true, ↓reduceIte, Bool.or_eq_true, decide_eq_true_eq] at ho
    exact ho
  have st : (fun s : Int32 × zm_Mem => f_X2_sum_l7 rec a s.1 s.2) (nI l, M) = some (.inl (nI (l + 1), Mc)) := by
    show f_X2_sum_l7 rec a (nI l) M = _
    unfold f_X2_sum_l7 f_X2_sum_b39_7 f_X2_sum_b63_7
    simp only [zv_eq]
    rw [if_neg (show ¬ (400 : Int32) < nI l from nI_nlt (a := 400) hl (by omega)), if_pos h, hs, zb1_some, ht, zb2_some, hr, zb2_some, h3, hT, zk_true, nI_k1]
    rcases h1 with rfl | rfl
    · rw [if_pos (by decide), if_pos (by decide), show (2 : Int32) = nI (opF 43) from rfl, hp, zb2_some]
    · rw [if_neg (by decide), if_pos (by decide), if_neg (by decide), show (3 : Int32) = nI (opF 45) from rfl, hp, zb2_some]
  unfold cLs
  rw [lp_go st]
noncomputable def cLp (rec : Nat → Int32 → zm_Mem → Option (Unit × zm_Mem)) (a l : Int32) (M : zm_Mem) : Option (Unit × zm_Mem) := (zm_lp (fun s => f_X2_product_l7 rec a s.1 s.2) (l, M)).bind (Sum.elim (fun e38 => some ((), e38)) (fun e73 => some ((), e73)))
theorem cLp_F {rec : Nat → Int32 → zm_Mem → Option (Unit × zm_Mem)} {a l : Int32} {M : zm_Mem} (h : M.1 8 5 ≠ 0) : cLp rec a l M = some ((), M) := by
  have st : (fun s : Int32 × zm_Mem => f_X2_product_l7 rec a s.1 s.2) (l, M) = some (.inr (.inr M)) := by
    show f_X2_product_l7 rec a l M = _
    unfold f_X2_product_l7
    rw [if_neg h]
    split <;> rfl
  unfold cLp
  rw [lp_end st]; rfl
theorem cLp_end {rec : Nat → Int32 → zm_Mem → Option (Unit × zm_Mem)} {a : Int32} {l s : Nat} {M : zm_Mem} (h : M.1 8 5 = 0) (hs : f_X2_sort M = some (nI s)) (hl : l ≤ 400) (hs' : s < 276) (ho : isO 4 s = false) : cLp rec a (nI l) M = some ((), M) := by
  have h1 : s ≠ 42 := fun z => by subst z; cases ho
  have h2 : s ≠ 47 := fun z => by subst z; cases ho
  have st : (fun s : Int32 × zm_Mem => f_X2_product_l7 rec a s.1 s.2) (nI l, M) = some (.inr (.inl M)) := by
    show f_X2_product_l7 rec a (nI l) M = _
    unfold f_X2_product_l7
    rw [if_neg (show ¬ (400 : Int32) < nI l from nI_nlt (a := 400) hl (by omega)), if_pos h, hs, zb1_some, if_neg (show ¬ nI s = (42 : Int32) from fun z => h1 ((nI_eq (b := 42) (by omega) (by omega)).1 z)), if_neg (show ¬ nI s = (47 : Int32) from fun z => h2 ((nI_eq (b := 47) (by omega) (by omega)).1 z))]
  unfold cLp
  rw [lp_end st]; rfl
theorem cLp_go {rec : Nat → Int32 → zm_Mem → Option (Unit × zm_Mem)} {a : Int32} {l s t : Nat} {M Ma Mb Mc : zm_Mem} (h : M.1 8 5 = 0) (hs : f_X2_sort M = some (nI s)) (hl : l ≤ 400) (ho : isO 4 s = true) (ht : f_X2_take M = some ((), Ma)) (hr : rec 2 a Ma = some ((), Mb)) (h3 : Mb.2.2 8 3 = t) (hT : zm_isT t = true) (hp : f_X8_put t (nI (opF s)) 0 Mb = some ((), Mc)) : cLp rec a (nI l) M = cLp rec a (nI (l + 1)) Mc := by
  have h1 : s = 42 ∨ s = 47 := by
    unfold isO at ho
    simp only [show ¬ (4 : Nat) = 3 by omega, if_false, ↓reduceIte, Bool.or_eq_true, decide_eq_true_eq] at ho
    exact ho
  have st : (fun s : Int32 × zm_Mem => f_X2_product_l7 rec a s.1 s.2) (nI l, M) = some (.inl (nI (l + 1), Mc)) := by
    show f_X2_product_l7 rec a (nI l) M = _
    unfold f_X2_product_l7 f_X2_product_b39_7 f_X2_product_b63_7
    simp only [zv_eq]
    rw [if_neg (show ¬ (400 : Int32) < nI l from nI_nlt (a := 400) hl (by omega)), if_pos h, hs, zb1_some, ht, zb2_some, hr, zb2_some, h3, hT, zk_true, nI_k1]
    rcases h1 with rfl | rfl
    · rw [if_pos (by decide), if_pos (by decide), show (4 : Int32) = nI (opF 42) from rfl, hp, zb2_some]
    · rw [if_neg (by decide), if_pos (by decide), if_neg (by decide), show (5 : Int32) = nI (opF 47) from rfl, hp, zb2_some]
  unfold cLp
  rw [lp_go st]
noncomputable def cXf (dp w a l : Nat) (M : zm_Mem) : Option (Unit × zm_Mem) := if w ≤ 2 then fr_X2_sum dp w (nI a) M else if w = 3 then cLs (fr_X2_sum dp) (nI a) (nI l) M else cLp (fr_X2_sum dp) (nI a) (nI l) M
theorem fr_0 (d : Nat) (a : Int32) (M : zm_Mem) : fr_X2_sum (d + 1) 0 a M = zm_b2 (fr_X2_sum d 1 a M) (fun _ M2 => cLs (fr_X2_sum d) a 0 M2) := by
  rw [fr_X2_sum, if_pos rfl]; rfl
theorem fr_1 (d : Nat) (a : Int32) (M : zm_Mem) : fr_X2_sum (d + 1) 1 a M = zm_b2 (fr_X2_sum d 2 a M) (fun _ M2 => cLp (fr_X2_sum d) a 0 M2) := by
  rw [fr_X2_sum, if_neg (by omega), if_pos rfl]; rfl
theorem fr_2 (d : Nat) (a : Int32) (M : zm_Mem) : fr_X2_sum (d + 1) 2 a M = f_X2_unit (fr_X2_sum d) a M := by
  rw [fr_X2_sum, if_neg (by omega), if_neg (by omega)]
theorem c_sumsF {M : zm_Mem} {t e i k : Nat} {tk : Nat → zTk} {d w : Nat} {a : Int32} (hw : w ≤ 2) (h : CF M t tk e i k) : ∃ M', fr_X2_sum (d + (3 - w)) w a M = some ((), M') ∧ CF M' t tk e i k ∧ Fp (pF t) M M' := by
  have u : ∀ d, ∃ M', fr_X2_sum (d + 1) 2 a M = some ((), M') ∧ CF M' t tk e i k ∧ Fp (pF t) M M' := fun d => by
    rw [fr_2]; exact c_unitF h
  have p : ∀ d, ∃ M', fr_X2_sum (d + 2) 1 a M = some ((), M') ∧ CF M' t tk e i k ∧ Fp (pF t) M M' := fun d => by
    obtain ⟨M', u1, u2, u3⟩ := u d
    exact ⟨M', by rw [fr_1, u1, zb2_some, cLp_F (cf_ne u2)], u2, u3⟩
  rcases (show w = 0 ∨ w = 1 ∨ w = 2 by omega) with rfl | rfl | rfl
  · obtain ⟨M', u1, u2, u3⟩ := p d
    exact ⟨M', by rw [show d + (3 - 0) = d + 2 + 1 by omega, fr_0, u1, zb2_some, cLs_F (cf_ne u2)], u2, u3⟩
  · exact p d
  · exact u d
def nd (w : Nat) : Nat := if w = 0 then 3 else if w = 1 then 2 else 1
def dq (w : Nat) : Nat := if w = 0 then 3 else if w = 1 then 2 else if w = 3 then 2 else 1
theorem cs_num {T : Nat → Nat} {n i : Nat} : (tkF T n i).1 < 276 := okS_lt _ (tkF_ok (T := T) (n := n) (i := i)).1
def CSt (T : Nat → Nat) (n0 t n w : Nat) : Prop := ∀ a i dp l M cl, a ≤ 6 → 6 * (401 - i) + nd w ≤ n → 3 * (6 - a) + dq w ≤ dp → l ≤ i → CS M t (tkF T n0) (tkE T n0) i cl → i ≤ tkE T n0 → cl ≤ 4 + i → ∃ M', cXf dp w a l M = some ((), M') ∧ CR M t (tkF T n0) (tkE T n0) cl (pX (tkF T n0) n w a i) M'
theorem c_s0 {T : Nat → Nat} {n0 t n : Nat} (ih : ∀ w, w ≤ 4 → CSt T n0 t n w) : CSt T n0 t (n + 1) 0 := by
    intro a i dp l M cl ha hn hd hl hM hi hcl
    have h400 : i ≤ 400 := Nat.le_trans hi hM.1.1
    have hT := cs_isT hM
    have ht := hM.2.2.2.2.1
    have n0' : nd 0 = 3 := rfl
    have n1' : nd 1 = 2 := rfl
    have n2' : nd 2 = 1 := rfl
    have n3' : nd 3 = 1 := rfl
    have n4' : nd 4 = 1 := rfl
    have q0' : dq 0 = 3 := rfl
    have q1' : dq 1 = 2 := rfl
    have q2' : dq 2 = 1 := rfl
    have q3' : dq 3 = 2 := rfl
    have q4' : dq 4 = 1 := rfl
    obtain ⟨d, rfl⟩ : ∃ d, dp = d + 1 := ⟨dp - 1, by omega⟩
    obtain ⟨M1, e1, g1, c1⟩ := ih 1 (by omega) a i d 0 M cl ha (by omega) (by omega) (by omega) hM hi hcl
    have e1' : fr_X2_sum d 1 (nI a) M = some ((), M1) := e1
    have E : cXf (d + 1) 0 a l M = cLs (fr_X2_sum d) (nI a) 0 M1 := by
      show fr_X2_sum (d + 1) 0 (nI a) M = _
      rw [fr_0, e1', zb2_some]
    rw [E, pX_0]
    rcases c1 with ⟨k, j, r1, r2⟩ | ⟨j, c, r1, r2, r3, r4, r5⟩
    · rw [r1]
      exact ⟨M1, cLs_F (cf_ne r2), g1, Or.inl ⟨k, j, rfl, r2⟩⟩
    · obtain ⟨p1, p2, p3, p4, _, _⟩ := pX_pr n 1 a i j c (by omega) h400 r1
      obtain ⟨M2, e2, c2⟩ := ih 3 (by omega) a j d 0 M1 (cl + c.length) ha (by omega) (by omega) (by omega) r2 r3 (by omega)
      rw [r1]
      exact ⟨M2, e2, cr_cat r5 r4 ht c2⟩

theorem c_s1 {T : Nat → Nat} {n0 t n : Nat} (ih : ∀ w, w ≤ 4 → CSt T n0 t n w) : CSt T n0 t (n + 1) 1 := by
    intro a i dp l M cl ha hn hd hl hM hi hcl
    have h400 : i ≤ 400 := Nat.le_trans hi hM.1.1
    have hT := cs_isT hM
    have ht := hM.2.2.2.2.1
    have n0' : nd 0 = 3 := rfl
    have n1' : nd 1 = 2 := rfl
    have n2' : nd 2 = 1 := rfl
    have n3' : nd 3 = 1 := rfl
    have n4' : nd 4 = 1 := rfl
    have q0' : dq 0 = 3 := rfl
    have q1' : dq 1 = 2 := rfl
    have q2' : dq 2 = 1 := rfl
    have q3' : dq 3 = 2 := rfl
    have q4' : dq 4 = 1 := rfl
    obtain ⟨d, rfl⟩ : ∃ d, dp = d + 1 := ⟨dp - 1, by omega⟩
    obtain ⟨M1, e1, g1, c1⟩ := ih 2 (by omega) a i d 0 M cl ha (by omega) (by omega) (by omega) hM hi hcl
    have e1' : fr_X2_sum d 2 (nI a) M = some ((), M1) := e1
    have E : cXf (d + 1) 1 a l M = cLp (fr_X2_sum d) (nI a) 0 M1 := by
      show fr_X2_sum (d + 1) 1 (nI a) M = _
      rw [fr_1, e1', zb2_some]
    rw [E, pX_1]
    rcases c1 with ⟨k, j, r1, r2⟩ | ⟨j, c, r1, r2, r3, r4, r5⟩
    · rw [r1]
      exact ⟨M1, cLp_F (cf_ne r2), g1, Or.inl ⟨k, j, rfl, r2⟩⟩
    · obtain ⟨p1, p2, p3, p4, _, _⟩ := pX_pr n 2 a i j c (by omega) h400 r1
      obtain ⟨M2, e2, c2⟩ := ih 4 (by omega) a j d 0 M1 (cl + c.length) ha (by omega) (by omega) (by omega) r2 r3 (by omega)
      rw [r1]
      exact ⟨M2, e2, cr_cat r5 r4 ht c2⟩

theorem c_s3 {T : Nat → Nat} {n0 t n : Nat} (ih : ∀ w, w ≤ 4 → CSt T n0 t n w) : CSt T n0 t (n + 1) 3 := by
    intro a i dp l M cl ha hn hd hl hM hi hcl
    have h400 : i ≤ 400 := Nat.le_trans hi hM.1.1
    have hT := cs_isT hM
    have ht := hM.2.2.2.2.1
    have n0' : nd 0 = 3 := rfl
    have n1' : nd 1 = 2 := rfl
    have n2' : nd 2 = 1 := rfl
    have n3' : nd 3 = 1 := rfl
    have n4' : nd 4 = 1 := rfl
    have q0' : dq 0 = 3 := rfl
    have q1' : dq 1 = 2 := rfl
    have q2' : dq 2 = 1 := rfl
    have q3' : dq 3 = 2 := rfl
    have q4' : dq 4 = 1 := rfl
    have E : cXf dp 3 a l M = cLs (fr_X2_sum dp) (nI a) (nI l) M := rfl
    have hlt := cs_num (T := T) (n := n0) (i := i)
    have es := c_sortI hM.1 hM.2.1 hi
    rw [E, pX_3 (w := 3) _ n a i (by omega)]
    by_cases ho : isO 3 (tkF T n0 i).1 = true
    · rw [if_pos ho]
      have hs0 : (tkF T n0 i).1 ≠ 0 := fun z => by rw [z] at ho; cases ho
      have tk1 := cr_tk (c := []) hM (fp_rfl (pC t cl) M) sc_nil rfl hi hs0 (by omega)
      have et : f_X2_take M = some ((), tkN M i) := c_take hM.2.1 hM.2.2.1 h400
      obtain ⟨g1, c1⟩ := tk1
      rcases c1 with ⟨k, j, r1, r2⟩ | ⟨j, c, r1, r2, r3, r4, r5⟩
      · obtain ⟨d', hd'⟩ : ∃ d', dp = d' + 2 := ⟨dp - 2, by omega⟩
        obtain ⟨M2, s1, s2, s3⟩ := c_sumsF (d := d') (w := 1) (a := nI a) (by omega) r2
        have s1' : fr_X2_sum dp 1 (nI a) (tkN M i) = some ((), M2) := by rw [hd']; exact s1
        obtain ⟨M3, u1, u2, u3⟩ := c_putF (x := nI (opF (tkF T n0 i).1)) (y := 0) s2
        rw [r1]
        refine ⟨M3, ?_, fp_tr g1 (fp_tr s3 u3), Or.inl ⟨k, j, rfl, u2⟩⟩
        rw [cLs_go hM.2.2.1 es (by omega) ho et s1' s2.2.2.2.2.1 hT u1, cLs_F (cf_ne u2)]
      · obtain ⟨q1, q2, q3⟩ := gR_inr r1
        subst q2; subst q3
        obtain ⟨M2, e2, g2, c2⟩ := ih 1 (by omega) a (i + 1) dp 0 (tkN M i) cl (by omega) (by omega) (by omega) (by omega) r2 r3 (by omega)
        have e2' : fr_X2_sum dp 1 (nI a) (tkN M i) = some ((), M2) := e2
        rw [r1]
        show ∃ M', _ ∧ CR M t (tkF T n0) (tkE T n0) cl (bR (pX (tkF T n0) n 1 a (i + 1)) (fun j c => cR (c ++ [(opF (tkF T n0 i).1, 0)]) (pX (tkF T n0) n 3 a j))) M'
        rcases c2 with ⟨k, j, r1', r2'⟩ | ⟨j, c, r1', r2', r3', r4', r5'⟩
        · obtain ⟨M3, u1, u2, u3⟩ := c_putF (x := nI (opF (tkF T n0 i).1)) (y := 0) r2'
          rw [r1']
          refine ⟨M3, ?_, fp_tr g1 (fp_tr g2 u3), Or.inl ⟨k, j, rfl, u2⟩⟩
          rw [cLs_go hM.2.2.1 es (by omega) ho et e2' r2'.2.2.2.2.1 hT u1, cLs_F (cf_ne u2)]
        · obtain ⟨p1, p2, p3, p4, _, _⟩ := pX_pr n 1 a (i + 1) j c (by omega) (by omega) r1'
          have o7 : opF (tkF T n0 i).1 < 8 := by unfold opF; split; omega; split; omega; split; omega; omega
          have pm := c_putT (a := nI (opF (tkF T n0 i).1)) (b := 0) r2'.2.2.2.2.2 (by omega)
          have cm := cs_put (x := nI (opF (tkF T n0 i).1)) (y := 0) r2'
          have cc : iv_sc (putM M2 t (cl + c.length) (nI (opF (tkF T n0 i).1)) 0) t (cl + c.length) [(opF (tkF T n0 i).1, 0)] := put_c (b := 0) o7 (by omega)
          have ff := fp_PC (fp_put (M := M2) (t := t) (k := cl + c.length) (a := nI (opF (tkF T n0 i).1)) (b := 0))
          obtain ⟨M4, e4, c4⟩ := ih 3 (by omega) a j dp (l + 1) (putM M2 t (cl + c.length) (nI (opF (tkF T n0 i).1)) 0) (cl + (c ++ [(opF (tkF T n0 i).1, 0)]).length) (by omega) (by omega) (by omega) (by omega) (by rw [List.length_append]; exact cm) r3' (by rw [List.length_append]; show cl + (c.length + 1) ≤ 4 + j; omega)
          have e4' : cLs (fr_X2_sum dp) (nI a) (nI (l + 1)) (putM M2 t (cl + c.length) (nI (opF (tkF T n0 i).1)) 0) = some ((), M4) := e4
          rw [r1']
          refine ⟨M4, ?_, cr_cat (fp_tr r5 (fp_tr r5' (fp_CC (by omega) ff))) (sc_app (sc_fp r4' ff (Nat.le_refl _) ht) cc) ht c4⟩
          rw [cLs_go hM.2.2.1 es (by omega) ho et e2' r2'.2.2.2.1 hT pm, e4']
    · rw [if_neg ho]
      have ho' : isO 3 (tkF T n0 i).1 = false := by cases hh : isO 3 (tkF T n0 i).1 with
        | true => exact absurd hh ho
        | false => rfl
      exact ⟨M, cLs_end hM.2.2.1 es (by omega) hlt ho', fp_rfl _ _, Or.inr ⟨i, [], rfl, hM, hi, sc_nil, fp_rfl _ _⟩⟩
theorem c_s4 {T : Nat → Nat} {n0 t n : Nat} (ih : ∀ w, w ≤ 4 → CSt T n0 t n w) : CSt T n0 t (n + 1) 4 := by
    intro a i dp l M cl ha hn hd hl hM hi hcl
    have h400 : i ≤ 400 := Nat.le_trans hi hM.1.1
    have hT := cs_isT hM
    have ht := hM.2.2.2.2.1
    have n0' : nd 0 = 3 := rfl
    have n1' : nd 1 = 2 := rfl
    have n2' : nd 2 = 1 := rfl
    have n3' : nd 3 = 1 := rfl
    have n4' : nd 4 = 1 := rfl
    have q0' : dq 0 = 3 := rfl
    have q1' : dq 1 = 2 := rfl
    have q2' : dq 2 = 1 := rfl
    have q3' : dq 3 = 2 := rfl
    have q4' : dq 4 = 1 := rfl
    have E : cXf dp 4 a l M = cLp (fr_X2_sum dp) (nI a) (nI l) M := rfl
    have hlt := cs_num (T := T) (n := n0) (i := i)
    have es := c_sortI hM.1 hM.2.1 hi
    rw [E, pX_3 (w := 4) _ n a i (by omega)]
    by_cases ho : isO 4 (tkF T n0 i).1 = true
    · rw [if_pos ho]
      have hs0 : (tkF T n0 i).1 ≠ 0 := fun z => by rw [z] at ho; cases ho
      have tk1 := cr_tk (c := []) hM (fp_rfl (pC t cl) M) sc_nil rfl hi hs0 (by omega)
      have et : f_X2_take M = some ((), tkN M i) := c_take hM.2.1 hM.2.2.1 h400
      obtain ⟨g1, c1⟩ := tk1
      rcases c1 with ⟨k, j, r1, r2⟩ | ⟨j, c, r1, r2, r3, r4, r5⟩
      · obtain ⟨d', hd'⟩ : ∃ d', dp = d' + 1 := ⟨dp - 1, by omega⟩
        obtain ⟨M2, s1, s2, s3⟩ := c_sumsF (d := d') (w := 2) (a := nI a) (by omega) r2
        have s1' : fr_X2_sum dp 2 (nI a) (tkN M i) = some ((), M2) := by rw [hd']; exact s1
        obtain ⟨M3, u1, u2, u3⟩ := c_putF (x := nI (opF (tkF T n0 i).1)) (y := 0) s2
        rw [r1]
        refine ⟨M3, ?_, fp_tr g1 (fp_tr s3 u3), Or.inl ⟨k, j, rfl, u2⟩⟩
        rw [cLp_go hM.2.2.1 es (by omega) ho et s1' s2.2.2.2.2.1 hT u1, cLp_F (cf_ne u2)]
      · obtain ⟨q1, q2, q3⟩ := gR_inr r1
        subst q2; subst q3
        obtain ⟨M2, e2, g2, c2⟩ := ih 2 (by omega) a (i + 1) dp 0 (tkN M i) cl (by omega) (by omega) (by omega) (by omega) r2 r3 (by omega)
        have e2' : fr_X2_sum dp 2 (nI a) (tkN M i) = some ((), M2) := e2
        rw [r1]
        show ∃ M', _ ∧ CR M t (tkF T n0) (tkE T n0) cl (bR (pX (tkF T n0) n 2 a (i + 1)) (fun j c => cR (c ++ [(opF (tkF T n0 i).1, 0)]) (pX (tkF T n0) n 4 a j))) M'
        rcases c2 with ⟨k, j, r1', r2'⟩ | ⟨j, c, r1', r2', r3', r4', r5'⟩
        · obtain ⟨M3, u1, u2, u3⟩ := c_putF (x := nI (opF (tkF T n0 i).1)) (y := 0) r2'
          rw [r1']
          refine ⟨M3, ?_, fp_tr g1 (fp_tr g2 u3), Or.inl ⟨k, j, rfl, u2⟩⟩
          rw [cLp_go hM.2.2.1 es (by omega) ho et e2' r2'.2.2.2.2.1 hT u1, cLp_F (cf_ne u2)]
        · obtain ⟨p1, p2, p3, p4, _, _⟩ := pX_pr n 2 a (i + 1) j c (by omega) (by omega) r1'
          have o7 : opF (tkF T n0 i).1 < 8 := by unfold opF; split; omega; split; omega; split; omega; omega
          have pm := c_putT (a := nI (opF (tkF T n0 i).1)) (b := 0) r2'.2.2.2.2.2 (by omega)
          have cm := cs_put (x := nI (opF (tkF T n0 i).1)) (y := 0) r2'
          have cc : iv_sc (putM M2 t (cl + c.length) (nI (opF (tkF T n0 i).1)) 0) t (cl + c.length) [(opF (tkF T n0 i).1, 0)] := put_c (b := 0) o7 (by omega)
          have ff := fp_PC (fp_put (M := M2) (t := t) (k := cl + c.length) (a := nI (opF (tkF T n0 i).1)) (b := 0))
          obtain ⟨M4, e4, c4⟩ := ih 4 (by omega) a j dp (l + 1) (putM M2 t (cl + c.length) (nI (opF (tkF T n0 i).1)) 0) (cl + (c ++ [(opF (tkF T n0 i).1, 0)]).length) (by omega) (by omega) (by omega) (by omega) (by rw [List.length_append]; exact cm) r3' (by rw [List.length_append]; show cl + (c.length + 1) ≤ 4 + j; omega)
          have e4' : cLp (fr_X2_sum dp) (nI a) (nI (l + 1)) (putM M2 t (cl + c.length) (nI (opF (tkF T n0 i).1)) 0) = some ((), M4) := e4
          rw [r1']
          refine ⟨M4, ?_, cr_cat (fp_tr r5 (fp_tr r5' (fp_CC (by omega) ff))) (sc_app (sc_fp r4' ff (Nat.le_refl _) ht) cc) ht c4⟩
          rw [cLp_go hM.2.2.1 es (by omega) ho et e2' r2'.2.2.2.1 hT pm, e4']
    · rw [if_neg ho]
      have ho' : isO 4 (tkF T n0 i).1 = false := by cases hh : isO 4 (tkF T n0 i).1 with
        | true => exact absurd hh ho
        | false => rfl
      exact ⟨M, cLp_end hM.2.2.1 es (by omega) hlt ho', fp_rfl _ _, Or.inr ⟨i, [], rfl, hM, hi, sc_nil, fp_rfl _ _⟩⟩
