/-! sums over a reader's state -/
def cdX (tk : Nat → zTk) (i : Nat) : zE := Sum.elim (fun _ => []) (fun p : Nat × zE => p.2) (pX tk 3000 0 0 i)
def zSm (tk : Nat → zTk) (Z : zZ) : zZ := Sum.elim (fun f => (.inl f : zZ)) (fun p : Nat × Option (Nat × Nat) => Sum.elim (fun f => (.inl f : zZ)) (fun r : Nat × zE => (.inr (r.1, p.2) : zZ)) (pX tk 3000 0 0 p.1)) Z
theorem zSm_inr {tk : Nat → zTk} {Z : zZ} {j : Nat} {nt : Option (Nat × Nat)} (h : zSm tk Z = .inr (j, nt)) : ∃ i, Z = .inr (i, nt) ∧ pX tk 3000 0 0 i = .inr (j, cdX tk i) := by
  cases Z with
  | inl f => cases h
  | inr p =>
    have h' : Sum.elim (fun f => (.inl f : zZ)) (fun r : Nat × zE => (.inr (r.1, p.2) : zZ)) (pX tk 3000 0 0 p.1) = .inr (j, nt) := h
    cases hx : pX tk 3000 0 0 p.1 with
    | inl f => rw [hx] at h'; cases h'
    | inr r =>
      rw [hx] at h'
      have h3 := Sum.inr.inj h'
      have e1 : r.1 = j := congrArg Prod.fst h3
      have e2 : p.2 = nt := congrArg Prod.snd h3
      refine ⟨p.1, by rw [← e2], ?_⟩
      unfold cdX
      rw [hx, ← e1]; rfl
theorem nC_pC {T : Nat → Nat} {n i i' t cl : Nat} {M M' : zm_Mem} {nt : Option (Nat × Nat)} (ht : t = 25 ∨ t = 36) (h : nC T n M nt i) (f : Fp (pC t cl) M M') (hi : i ≤ i') : nC T n M' nt i' := nC_w h (f.2 8 7 (by unfold pC; omega)) (f.2 8 8 (by unfold pC; omega)) hi
theorem c_zsum {T : Nat → Nat} {n t cl : Nat} {M : zm_Mem} {Z : zZ} (h : CZ T n M t cl Z) (hc : ∀ i nt, Z = .inr (i, nt) → cl ≤ 4 + i) : ∃ M', f_X2_sumR 64 0 M = some ((), M') ∧ Fp (pF t) M M' ∧ (∀ i nt, Z = .inr (i, nt) → CZ T n M' t (cl + (cdX (tkF T n) i).length) (zSm (tkF T n) Z) ∧ ∀ j nt', zSm (tkF T n) Z = .inr (j, nt') → iv_sc M' t cl (cdX (tkF T n) i) ∧ Fp (pC t cl) M M' ∧ (cdX (tkF T n) i).length + i ≤ j ∧ i < j ∧ iv_ex (cdX (tkF T n) i)) ∧ (∀ f, Z = .inl f → ∀ c, CZ T n M' t c Z) := by
  rcases h with ⟨f, j, rfl, h⟩ | ⟨i, nt, rfl, h, hi, hcl, hn⟩
  · obtain ⟨M', a, b, c⟩ := c_sumF0 (d := 64) (a := 0) (by omega) h
    exact ⟨M', a, c, fun i nt z => (by cases z), fun _ _ _ => Or.inl ⟨f, j, rfl, b⟩⟩
  · have h400 : i ≤ 400 := Nat.le_trans hi h.1.1
    have n0' : nd 0 = 3 := rfl
    have q0' : dq 0 = 3 := rfl
    have ht := h.2.2.2.2.1
    obtain ⟨M', e, g, c⟩ := c_sums (T := T) (n0 := n) (t := t) 3000 0 (by omega) 0 i 64 0 M cl (by omega) (by omega) (by omega) (by omega) h hi (hc i nt rfl)
    refine ⟨M', e, g, fun i' nt' z => ?_, fun f z => (by cases z)⟩
    have z1 : i = i' := congrArg Prod.fst (Sum.inr.inj z)
    have z2 : nt = nt' := congrArg Prod.snd (Sum.inr.inj z)
    subst z1; subst z2
    rcases c with ⟨k, j, r1, r2⟩ | ⟨j, d, r1, r2, r3, r4, r5⟩
    · have ez : zSm (tkF T n) (.inr (i, nt)) = .inl (k, j) := by
        show Sum.elim _ _ (pX (tkF T n) 3000 0 0 i) = _
        rw [r1]; rfl
      rw [ez]
      exact ⟨Or.inl ⟨k, j, rfl, r2⟩, fun j' nt' z => (by cases z)⟩
    · have ec : cdX (tkF T n) i = d := by unfold cdX; rw [r1]; rfl
      have ez : zSm (tkF T n) (.inr (i, nt)) = .inr (j, nt) := by
        show Sum.elim _ _ (pX (tkF T n) 3000 0 0 i) = _
        rw [r1]; rfl
      obtain ⟨p1, p2, p3, p4, _, _⟩ := pX_pr 3000 0 0 i j d (by omega) h400 r1
      have hc4 := hc i nt rfl
      rw [ez, ec]
      refine ⟨Or.inr ⟨j, nt, rfl, r2, r3, by omega, nC_pC ht hn r5 (by omega)⟩, fun j' nt' z => ?_⟩
      have z1 : j = j' := congrArg Prod.fst (Sum.inr.inj z)
      rw [← z1]
      exact ⟨r4, r5, p3, p2 (by omega), pX_ex (fun i => tkF_ok) r1⟩
theorem c_zput {T : Nat → Nat} {n t cl x y : Nat} {M : zm_Mem} {Z : zZ} (hx : x < 8) (hy : y < 16384) (h : CZ T n M t cl Z) (hc : ∀ i nt, Z = .inr (i, nt) → cl < 408) : ∃ M', f_X8_put t (nI x) (nI y) M = some ((), M') ∧ Fp (pF t) M M' ∧ CZ T n M' t (cl + 1) Z ∧ (∀ i nt, Z = .inr (i, nt) → iv_sc M' t cl [(x, y)] ∧ Fp (pP t cl) M M') := by
  rcases h with ⟨f, j, rfl, h⟩ | ⟨i, nt, rfl, h, hi, hcl, hn⟩
  · obtain ⟨M', a, b, c⟩ := c_putF (x := nI x) (y := nI y) h
    exact ⟨M', a, c, Or.inl ⟨f, j, rfl, b⟩, fun i nt z => (by cases z)⟩
  · have hc' := hc i nt rfl
    have f := fp_put (M := M) (t := t) (k := cl) (a := nI x) (b := nI y)
    refine ⟨_, c_putT h.2.2.2.2.2 hc', fp_CF (fp_PC f), Or.inr ⟨i, nt, rfl, cs_put h, hi, by omega, nC_pC h.2.2.2.2.1 hn (fp_PC f) (Nat.le_refl _)⟩, fun _ _ _ => ⟨put_c hx hy, f⟩⟩
/-- other cells may change -/
theorem tks_x {M M' : zm_Mem} {tk : Nat → zTk} {e : Nat} (h1 : ∀ x j, 3 ≤ x → x ≤ 5 → M'.1 x j = M.1 x j) (h2 : ∀ j, M'.2.1 6 j = M.2.1 6 j) (H : Tks M tk e) : Tks M' tk e := by
  obtain ⟨a, ⟨c, hc1, hc2, b⟩, d⟩ := H
  exact ⟨a, ⟨c, hc1, hc2, by rw [h1 3 4 (by omega) (by omega)]; exact b⟩, fun i hi => by
    rw [h1 4 i (by omega) (by omega), h1 5 i (by omega) (by omega), h2]; exact d i hi⟩
theorem cz_x {T : Nat → Nat} {n t cl : Nat} {M M' : zm_Mem} {Z : zZ} (h : CZ T n M t cl Z) (h1 : ∀ x j, 3 ≤ x → x ≤ 8 → M'.1 x j = M.1 x j) (h2 : ∀ j, M'.2.1 6 j = M.2.1 6 j) (h3 : M'.2.2 8 3 = M.2.2 8 3) (h4 : M'.1 t 10 = M.1 t 10) : CZ T n M' t cl Z := by
  have k : ∀ j, M'.1 8 j = M.1 8 j := fun j => h1 8 j (by omega) (by omega)
  rcases h with ⟨f, j, rfl, a, b, c, d, e, g, i, m, o, p⟩ | ⟨i, nt, rfl, ⟨a, b, c, d, e, g⟩, hi, hcl, hn⟩
  · exact Or.inl ⟨f, j, rfl, tks_x (fun x j a b => h1 x j a (by omega)) h2 a, by rw [k]; exact b, by rw [k]; exact c, d, by rw [h3]; exact e, g, i, m, o, by rw [h4]; exact p⟩
  · exact Or.inr ⟨i, nt, rfl, ⟨tks_x (fun x j a b => h1 x j a (by omega)) h2 a, by rw [k]; exact b, by rw [k]; exact c, by rw [h3]; exact d, e, by rw [h4]; exact g⟩, hi, hcl, nC_w hn (k 7) (k 8) (Nat.le_refl _)⟩
theorem cz_t {T : Nat → Nat} {n t cl : Nat} {M : zm_Mem} {Z : zZ} (h : CZ T n M t cl Z) : (t = 25 ∨ t = 36) ∧ M.2.2 8 3 = t ∧ zm_isT t = true := by
  rcases h with ⟨f, j, rfl, h⟩ | ⟨i, nt, rfl, h, hi, hcl, hn⟩
  · exact ⟨h.2.2.2.2.2.1, h.2.2.2.2.1, cf_isT h⟩
  · exact ⟨h.2.2.2.2.1, h.2.2.2.1, cs_isT h⟩
theorem cz_sI {T : Nat → Nat} {n t cl x j : Nat} {v : Int32} {M : zm_Mem} {Z : zZ} (h : CZ T n M t cl Z) (hx : 9 ≤ x) (hj : x = t → j ≠ 10) : CZ T n (zm_sI M x j v) t cl Z :=
  cz_x h (fun y i a b => by rw [mI1, if_neg (by omega)]) (fun _ => rfl) rfl (by rw [mI1, if_neg (fun z => hj z.1.symm z.2.symm)])
theorem mLv (M : zm_Mem) (a i : Nat) (v : Int64) (x j : Nat) : (zm_sL M a i v).2.1 x j = if x = a ∧ j = i then v else M.2.1 x j := Eq.trans rfl rfl
theorem cz_sL {T : Nat → Nat} {n t cl x j : Nat} {v : Int64} {M : zm_Mem} {Z : zZ} (h : CZ T n M t cl Z) (hx : 9 ≤ x) : CZ T n (zm_sL M x j v) t cl Z :=
  cz_x h (fun y i a b => rfl) (fun i => by rw [mLv, if_neg (by omega)]) rfl rfl
/-! what the class was told so far -/
abbrev zH := List (List Nat × Nat × Nat)
abbrev zW := List (List Nat × Nat × Nat × Nat × Nat)
abbrev zK := List (Nat × zE × zE)
abbrev zQ := zH × zW × zK × (Nat × Nat × Nat) × (zB × zE) × (zB × zE)
def clw (M : zm_Mem) (t cl s : Nat) (L : zB × zE) : Prop := ∃ a, M.1 t s = nI a ∧ iv_sc M t a (iv_lc L.1 L.2 a) ∧ a + (iv_lc L.1 L.2 a).length ≤ cl
def CDt (M : zm_Mem) (t cl : Nat) (Q : zQ) : Prop :=
  (∀ j x, Q.1[j]? = some x → M.1 (t + 1) j = nI x.2.1 ∧ M.1 (t + 2) j = nI x.2.2) ∧
  (∀ j x, Q.2.1[j]? = some x → M.1 (t + 3) j = nI x.2.1 ∧ M.1 (t + 4) j = nI x.2.2.1 ∧ M.1 (t + 5) j = nI x.2.2.2.1 ∧ M.1 (t + 6) j = nI x.2.2.2.2) ∧
  (∀ j x, Q.2.2.1[j]? = some x → M.1 (t + 7) j = nI x.1 ∧ ∃ a b, M.1 (t + 8) j = nI a ∧ M.1 (t + 9) j = nI b ∧ iv_sc M t a (x.2.1 ++ [(7, 0)]) ∧ iv_sc M t b (x.2.2 ++ [(7, 0)]) ∧ a + x.2.1.length < cl ∧ b + x.2.2.length < cl) ∧
  (M.1 t 16 = nI Q.2.2.2.1.1 ∧ M.1 t 17 = nI Q.2.2.2.1.2.1 ∧ M.1 t 18 = nI Q.2.2.2.1.2.2) ∧
  clw M t cl 14 Q.2.2.2.2.1 ∧ clw M t cl 15 Q.2.2.2.2.2
theorem sc_x {M M' : zm_Mem} {t cl a : Nat} {c : zE} (h : iv_sc M t a c) (f : ∀ j, j < cl → M'.1 (t + 10) j = M.1 (t + 10) j) (hk : a + c.length ≤ cl) : iv_sc M' t a c := by
  intro i p hp
  have hi : i < c.length := by
    refine Classical.byContradiction (fun z => ?_)
    rw [List.getElem?_eq_none (by omega)] at hp; cases hp
  rw [f (a + i) (by omega)]
  exact h i p hp
theorem gx_lt {α : Type} {l : List α} {j : Nat} {x : α} (h : l[j]? = some x) : j < l.length := by
  refine Classical.byContradiction (fun z => ?_)
  rw [List.getElem?_eq_none (by omega)] at h; cases h
theorem clw_x {M M' : zm_Mem} {t cl cl' s : Nat} {L : zB × zE} (h : clw M t cl s L) (hs : M'.1 t s = M.1 t s) (f : ∀ j, j < cl → M'.1 (t + 10) j = M.1 (t + 10) j) (hc : cl ≤ cl') : clw M' t cl' s L := by
  obtain ⟨a, b, c, d⟩ := h
  exact ⟨a, by rw [hs]; exact b, sc_x c f d, by omega⟩
/-- what was told stays -/
theorem cdt_x {M M' : zm_Mem} {t cl cl' : Nat} {Q : zQ} (h : CDt M t cl Q) (h1 : ∀ x j, t + 1 ≤ x → x ≤ t + 2 → j < Q.1.length → M'.1 x j = M.1 x j) (h2 : ∀ x j, t + 3 ≤ x → x ≤ t + 6 → j < Q.2.1.length → M'.1 x j = M.1 x j) (h3 : ∀ x j, t + 7 ≤ x → x ≤ t + 9 → j < Q.2.2.1.length → M'.1 x j = M.1 x j) (h4 : ∀ j, 14 ≤ j → j ≤ 18 → M'.1 t j = M.1 t j) (f : ∀ j, j < cl → M'.1 (t + 10) j = M.1 (t + 10) j) (hc : cl ≤ cl') : CDt M' t cl' Q := by
  obtain ⟨a, b, c, d, e, g⟩ := h
  refine ⟨fun j x hx => ?_, fun j x hx => ?_, fun j x hx => ?_, ?_, clw_x e (h4 14 (by omega) (by omega)) f hc, clw_x g (h4 15 (by omega) (by omega)) f hc⟩
  · have hl := gx_lt hx
    rw [h1 (t + 1) j (by omega) (by omega) hl, h1 (t + 2) j (by omega) (by omega) hl]; exact a j x hx
  · have hl := gx_lt hx
    rw [h2 (t + 3) j (by omega) (by omega) hl, h2 (t + 4) j (by omega) (by omega) hl, h2 (t + 5) j (by omega) (by omega) hl, h2 (t + 6) j (by omega) (by omega) hl]; exact b j x hx
  · have hl := gx_lt hx
    obtain ⟨c1, p, q, c2, c3, c4, c5, c6, c7⟩ := c j x hx
    refine ⟨by rw [h3 (t + 7) j (by omega) (by omega) hl]; exact c1, p, q, by rw [h3 (t + 8) j (by omega) (by omega) hl]; exact c2, by rw [h3 (t + 9) j (by omega) (by omega) hl]; exact c3, sc_x c4 f (by rw [List.length_append]; exact c6), sc_x c5 f (by rw [List.length_append]; exact c7), by omega, by omega⟩
  · rw [h4 16 (by omega) (by omega), h4 17 (by omega) (by omega), h4 18 (by omega) (by omega)]; exact d
