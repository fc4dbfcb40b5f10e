/-! the invariant, part by part -/
def c_T (x j : Nat) : Bool := match x with
  | 52 => decide (j = 18)
  | x => (decide (25 ≤ x) && decide (x ≤ 46)) || (decide (63 ≤ x) && decide (x ≤ 87))
def fmI (c : Nat → Nat → Bool) (M : zm_Mem) : zm_Mem := (fun x j => if c x j = true then M.1 x j else 0, fun _ _ => 0, fun _ _ => 0)
set_option maxRecDepth 100000 in
theorem iT_m {M : zm_Mem} {t v : Nat} {D : zD} (ht : t = 25 ∨ t = 36) : iv_T M t v D ↔ iv_T (fmI c_T M) t v D := by
  rcases ht with rfl | rfl
  · exact Iff.rfl
  · exact Iff.rfl
theorem iT_eq {M M' : zm_Mem} {t v : Nat} {D : zD} (ht : t = 25 ∨ t = 36) (h : ∀ x j, c_T x j = true → M'.1 x j = M.1 x j) (H : iv_T M t v D) : iv_T M' t v D := by
  have e : fmI c_T M' = fmI c_T M := by
    unfold fmI
    refine Prod.ext ?_ rfl
    funext x j
    simp only
    split
    · rename_i hc; exact h x j hc
    · rfl
  rw [iT_m ht, e, ← iT_m ht]
  exact H
theorem iT_fr {W : Nat → Nat → Bool} {M M' : zm_Mem} {t v : Nat} {D : zD} (ht : t = 25 ∨ t = 36) (hF : Fr W M M') (hW : ∀ x j, W x j = true → c_T x j = false) (H : iv_T M t v D) : iv_T M' t v D := by
  refine iT_eq ht (fun x j hc => hF.2 x j ?_) H
  cases hw : W x j with
  | false => rfl
  | true => rw [hW x j hw] at hc; cases hc
theorem fr_row {W : Nat → Nat → Bool} {M M' : zm_Mem} {x : Nat} (hF : Fr W M M') (h : ∀ j, W x j = false) : M'.1 x = M.1 x := funext fun j => hF.2 x j (h j)
theorem tape_fr {W : Nat → Nat → Bool} {M M' : zm_Mem} (hF : Fr W M M') (a : W 1 15 = false) (b : W 52 2 = false) (c : ∀ j, W 2 j = false) (d : ∀ j, W 53 j = false) (H : iv_tape M) : iv_tape M' := by
  obtain ⟨n, h1, h2, h3, h4⟩ := H
  exact ⟨n, h1, (hF.2 _ _ a).trans h2, (hF.2 _ _ b).trans h3, fun j hj => by rw [hF.2 _ _ (c j), hF.2 _ _ (d j)]; exact h4 j hj⟩
theorem past_fr {W : Nat → Nat → Bool} {M M' : zm_Mem} {h w k n : Nat} (hF : Fr W M M') (a : ∀ j, W 13 j = false) (b : ∀ j, W 14 j = false) (c : W 52 59 = false) (d : ∀ j, W 93 j = false) (H : iv_past M h w k n) : iv_past M' h w k (n + 1) := by
  obtain ⟨s, x, h1, h2, h3, h4, h5, h6⟩ := iv_past_mono H
  refine ⟨s, x, h1, h2, (hF.2 _ _ (a _)).trans h3, (hF.2 _ _ c).trans h4, (hF.2 _ _ (a _)).trans h5, fun i hi => ?_⟩
  rw [fr_row hF b, fr_row hF d]
  exact h6 i hi
theorem held_fr {W : Nat → Nat → Bool} {M M' : zm_Mem} {h w k n : Nat} (hF : Fr W M M') (a : W 1 14 = false) (b : ∀ j, W 101 j = false) (c : ∀ j, W 15 j = false) (d : ∀ j, W 102 j = false) (H : iv_held M h w k n) : iv_held M' h w k (n + 1) := by
  obtain ⟨s, h1, h2, h3⟩ := iv_held_mono H
  refine ⟨s, h1, (hF.2 _ _ a).trans h2, fun i hi => ?_⟩
  rw [fr_row hF b, fr_row hF c, fr_row hF d]
  exact h3 i hi
theorem cr_fr {W : Nat → Nat → Bool} {M M' : zm_Mem} {w : Nat} (hF : Fr W M M') (a : W 16 7 = false) (b : W 52 65 = false) (c1 : ∀ j, W 17 j = false) (c2 : ∀ j, W 18 j = false) (c3 : ∀ j, W 19 j = false) (d1 : ∀ j, W 98 j = false) (d2 : ∀ j, W 99 j = false) (d3 : ∀ j, W 100 j = false) (H : iv_crates M w) : iv_crates M' w := by
  obtain ⟨s, h1, h2, h3, h4⟩ := H
  refine ⟨s, h1, (hF.2 _ _ a).trans h2, (hF.2 _ _ b).trans h3, fun i hi => ?_⟩
  rw [fr_row hF c1, fr_row hF c2, fr_row hF c3, fr_row hF d1, fr_row hF d2, fr_row hF d3]
  exact h4 i hi
theorem sur_fr {W : Nat → Nat → Bool} {M M' : zm_Mem} {t q : Nat} {D : zD} {S : Nat → Nat} (hF : Fr W M M') (a : W 1 13 = false) (b : ∀ j, W 103 j = false) (c : ∀ j, W 108 j = false) (H : M.1 1 13 = 0 ∨ (M.1 1 13 = 1 ∧ q ≠ 0 ∧ iv_sok M t D S)) : M'.1 1 13 = 0 ∨ (M'.1 1 13 = 1 ∧ q ≠ 0 ∧ iv_sok M' t D S) := by
  rcases H with h | ⟨h1, h2, h3⟩
  · exact Or.inl ((hF.2 _ _ a).trans h)
  · refine Or.inr ⟨(hF.2 _ _ a).trans h1, h2, ?_⟩
    obtain ⟨Ma, M0, M1, s, v, n, k1, k2, k3, k4, k5, k6, k7, k8, k9, k10, k11, k12⟩ := h3
    exact ⟨Ma, M0, M1, s, v, n, k1, k2, k3, k4, k5, k6, k7, (fr_row hF b).trans k8, by rw [hF.1]; exact k9, by rw [hF.1]; exact k10, by rw [hF.1]; exact k11, (fr_row hF c).trans k12⟩
theorem inv_new {M M' : zm_Mem} {t v q n : Nat} {D : zD} {S S' : Nat → Nat} (hC : Cx M t v D S n) (hX : Rx M t D S q n) (h2 : M'.2 = M.2) (hT : iv_T M' t v D) (hR : iv_R (M'.1 12) (M'.1 91) (D.1 0 0) (D.1 0 1) (D.1 0 2) (n + 1) S') (ta : iv_tape M') (pl : M'.1 1 16 = M'.1 52 17) (pa : iv_past M' (D.1 0 0) (D.1 0 1) (D.1 0 2) (n + 1)) (he : iv_held M' (D.1 0 0) (D.1 0 1) (D.1 0 2) (n + 1)) (cr : iv_crates M' (D.1 0 1)) (su : M'.1 1 13 = 0 ∨ (M'.1 1 13 = 1 ∧ q ≠ 0 ∧ iv_sok M' t D S')) (z1 : M'.1 109 = M.1 109) (z2 : M'.1 110 = M.1 110) : Inv M' q (n + 1) := by
  obtain ⟨x1, x2, x3, x4, x5, x6, x7, x8, x9, x10⟩ := hX
  refine ⟨t, v, D, S', ⟨hC.1, by rw [h2]; exact hC.2.1, hT, hR⟩, by rw [h2]; exact x1, by rw [h2]; exact x2, ta, pl, ?_, pa, he, cr, su, ?_⟩
  · unfold iv_words at x5 ⊢
    rw [h2]; exact x5
  · rw [z1, z2, h2]; exact x10
/-! the tape -/
def wTp (x j : Nat) : Bool := decide (x = 2) || (decide (x = 53) || ((decide (x = 1) && decide (j = 15)) || (decide (x = 52) && decide (j = 2))))
theorem wTp_T : ∀ x j, wTp x j = true → c_T x j = false := by
  intro x j h
  simp only [wTp, Bool.or_eq_true, Bool.and_eq_true, decide_eq_true_eq] at h
  rcases h with rfl | rfl | ⟨rfl, rfl⟩ | ⟨rfl, rfl⟩ <;> rfl
theorem inv_tape {M M' : zm_Mem} {q n : Nat} (hI : Inv M q n) (hF : Fr wTp M M') (ta : iv_tape M') : Inv M' q (n + 1) := by
  obtain ⟨t, v, D, S, hC, hX⟩ := hI
  refine inv_new hC hX hF.1 (iT_fr hC.1 hF wTp_T hC.2.2.1) ?_ ta ?_ (past_fr hF (fun _ => rfl) (fun _ => rfl) rfl (fun _ => rfl) hX.2.2.2.2.2.1) (held_fr hF rfl (fun _ => rfl) (fun _ => rfl) (fun _ => rfl) hX.2.2.2.2.2.2.1) (cr_fr hF rfl rfl (fun _ => rfl) (fun _ => rfl) (fun _ => rfl) (fun _ => rfl) (fun _ => rfl) (fun _ => rfl) hX.2.2.2.2.2.2.2.1) (sur_fr hF rfl (fun _ => rfl) (fun _ => rfl) hX.2.2.2.2.2.2.2.2.1) (fr_row hF (fun _ => rfl)) (fr_row hF (fun _ => rfl))
  · rw [fr_row hF (x := 12) (fun _ => rfl), fr_row hF (x := 91) (fun _ => rfl)]; exact iv_R_mono hC.2.2.2
  · rw [hF.2 1 16 rfl, hF.2 52 17 rfl]; exact hX.2.2.2.1
theorem zj_gt {a : Int32} {b : Nat} (hb : b + 1 < 2 ^ 31) (h : nI (b + 1) ≤ a) : ¬ a ≤ nI b := by
  rw [Int32.le_iff_toInt_le, nI_toInt hb] at h
  rw [Int32.le_iff_toInt_le, nI_toInt (by omega)]
  omega
theorem ag_back {M : zm_Mem} {q n : Nat} (hI : Inv M q n) (hn : n < 512) (a1 : Int32) : Ag (f_X10_back a1 M) (fun M1 => f_X11_back a1 M1) q n := by
  have hI' := hI
  obtain ⟨t, v, D, S, hC, hX⟩ := hI'
  obtain ⟨N, hN, e1, e2, e3⟩ := hX.2.2.1
  rcases ix_cases a1 (b := N + 1) (by omega) with h | ⟨j, hj, rfl⟩
  · refine ag_mk hI (r := -1) (M1 := M) (M2 := M) ?_ ?_ (sc_rfl M)
    · unfold f_X10_back
      by_cases h0 : a1 < 0
      · rw [if_pos h0]
      · rw [if_neg h0, e1, if_neg (zj_gt (by omega) (h.resolve_left h0))]
    · show f_X11_back a1 M = _
      unfold f_X11_back
      by_cases h0 : a1 < 0
      · rw [if_pos h0]
      · rw [if_neg h0, e2, if_neg (zj_gt (by omega) (h.resolve_left h0))]
  · have hle : j ≤ N := by omega
    refine ⟨nI (N - j), zm_sI M 1 15 (nI (N - j)), zm_sI (zm_sI M 1 15 (nI (N - j))) 52 2 (nI (N - j)), ?_, ?_, ?_⟩
    · unfold f_X10_back
      simp (disch := omega) only [↓zv_eq, ↓zb1_some, ↓zb2_some, ↓zk_true, Option.bind_some, Option.bind_none, Option.map_some, Sum.elim_inl, Sum.elim_inr, if_true, if_false, ↓reduceIte, lt_lit, nI_clamp, zi_in, nI_leI, nI_ltI, nI_eq, nI_add, pk_mul, zi_sub, pk_div, zi_rem, zi_sh1, zi_shr, zi_and1, zi_or, zi_en, zi_ne, zi_ln, zi_nl, zi_lne, zi_nle, zi_nn, zq_01, zq_10, zq_011, zq_at, zq_ta, ite_not, Classical.not_not, e1, hle, Nat.not_lt_zero, mI1, and_self]
    · show f_X11_back (nI j) _ = _
      have e2' : (zm_sI M 1 15 (nI (N - j))).1 52 2 = nI N := by rw [mI1, if_neg (by omega)]; exact e2
      unfold f_X11_back
      simp (disch := omega) only [↓zv_eq, ↓zb1_some, ↓zb2_some, ↓zk_true, Option.bind_some, Option.bind_none, Option.map_some, Sum.elim_inl, Sum.elim_inr, if_true, if_false, ↓reduceIte, lt_lit, nI_clamp, zi_in, nI_leI, nI_ltI, nI_eq, nI_add, pk_mul, zi_sub, pk_div, zi_rem, zi_sh1, zi_shr, zi_and1, zi_or, zi_en, zi_ne, zi_ln, zi_nl, zi_lne, zi_nle, zi_nn, zq_01, zq_10, zq_011, zq_at, zq_ta, ite_not, Classical.not_not, e2', hle, Nat.not_lt_zero]
      simp only [mI1, and_self, if_true]
    · refine inv_tape hI (fr_tr (fr_sI rfl) (fr_sI rfl)) ⟨N - j, by omega, ?_, ?_, fun i hi => ?_⟩
      · simp only [mI1, Nat.reduceEqDiff, false_and, if_false, and_self, if_true]
      · simp only [mI1, Nat.reduceEqDiff, false_and, if_false, and_self, if_true]
      · simp only [mI1, Nat.reduceEqDiff, false_and, if_false]
        exact e3 i (by omega)
/-! four bytes on the tape -/
noncomputable def bt (a s : Int32) : Int32 := vp_nar .byte ((a >>> (s &&& 31)).toInt8.toInt32)
noncomputable def b4 (a : Int32) (k : Nat) : Int32 := if k = 0 then bt a 24 else if k = 1 then bt a 16 else if k = 2 then bt a 8 else bt a 0
noncomputable def put4 (L : zm_Mem) (c cc ci N : Nat) (a : Int32) : Nat → zm_Mem
  | 0 => L
  | k + 1 => zm_sI (zm_sI (put4 L c cc ci N a k) c (N + k) (b4 a k)) cc ci (nI (N + k + 1))
theorem put4_len {L : zm_Mem} {c cc ci N : Nat} {a : Int32} (h0 : L.1 cc ci = nI N) : ∀ k, (put4 L c cc ci N a k).1 cc ci = nI (N + k)
  | 0 => h0
  | k + 1 => by unfold put4; rw [mI1, if_pos ⟨rfl, rfl⟩]; rfl
theorem put4_fr {W : Nat → Nat → Bool} {L : zm_Mem} {c cc ci N : Nat} {a : Int32} (h1 : ∀ j, W c j = true) (h2 : W cc ci = true) : ∀ k, Fr W L (put4 L c cc ci N a k)
  | 0 => fr_rfl _ L
  | k + 1 => by unfold put4; exact fr_tr (put4_fr h1 h2 k) (fr_tr (fr_sI (h1 _)) (fr_sI h2))
theorem put4_lo {L : zm_Mem} {c cc ci N : Nat} {a : Int32} (hc : c ≠ cc) : ∀ k j, j < N → (put4 L c cc ci N a k).1 c j = L.1 c j
  | 0, _, _ => rfl
  | k + 1, j, hj => by
    unfold put4
    rw [mI1, if_neg (fun z => hc z.1), mI1, if_neg (by omega)]
    exact put4_lo hc k j hj
theorem put4_hi {L : zm_Mem} {c cc ci N : Nat} {a : Int32} (hc : c ≠ cc) : ∀ k j, j < k → (put4 L c cc ci N a k).1 c (N + j) = b4 a j
  | k + 1, j, hj => by
    unfold put4
    rw [mI1, if_neg (fun z => hc z.1), mI1]
    by_cases h : j = k
    · subst h; rw [if_pos ⟨rfl, rfl⟩]
    · rw [if_neg (by omega)]; exact put4_hi hc k j (by omega)
theorem c_put {L : zm_Mem} {N : Nat} {a : Int32} (h0 : L.1 1 15 = nI N) (hN : N + 4 ≤ 2000) : f_X10_putBytes a L = some ((), put4 L 2 1 15 N a 4) := by
  have st : ∀ k s, k < 4 → ¬ s < (0 : Int32) → bt a s = b4 a k → f_X10_putBytes_l3 a s (put4 L 2 1 15 N a k) = some (.inl (s + (-8), put4 L 2 1 15 N a (k + 1))) := by
    intro k s hk hs hb
    have hl := put4_len (c := 2) (a := a) h0 k
    unfold f_X10_putBytes_l3
    rw [if_neg hs, hl, if_neg (show ¬ (2000 : Int32) ≤ nI (N + k) from nI_ge (b := 2000) (by omega) (by omega)), zm_ck_t (zm_in_nI (by omega) (by omega)), nI_clamp (by omega)]
    simp only [zv_eq]
    rw [show vp_nar .byte ((a >>> (s &&& 31)).toInt8.toInt32) = b4 a k from hb]
    have : (zm_sI (put4 L 2 1 15 N a k) 2 (N + k) (b4 a k)).1 1 15 = nI (N + k) := by rw [mI1, if_neg (by omega)]; exact hl
    rw [this, nI_k1]
    rfl
  unfold f_X10_putBytes
  have e : zm_lp (fun s => f_X10_putBytes_l3 a s.1 s.2) (24, L) = some (put4 L 2 1 15 N a 4) := by
    rw [lp_go (s' := (16, put4 L 2 1 15 N a 1)) (st 0 24 (by omega) (by decide) rfl), lp_go (s' := (8, put4 L 2 1 15 N a 2)) (st 1 16 (by omega) (by decide) rfl), lp_go (s' := (0, put4 L 2 1 15 N a 3)) (st 2 8 (by omega) (by decide) rfl), lp_go (s' := (-8, put4 L 2 1 15 N a 4)) (st 3 0 (by omega) (by decide) rfl)]
    refine lp_end ?_
    show f_X10_putBytes_l3 a (-8) _ = _
    unfold f_X10_putBytes_l3
    rw [if_pos (by decide)]
  rw [e]; rfl
theorem r_put {L : zm_Mem} {N : Nat} {a : Int32} (h0 : L.1 52 2 = nI N) (hN : N + 4 ≤ 2000) : f_X11_put a L = some ((), put4 L 53 52 2 N a 4) := by
  have st : ∀ k s, k < 4 → ¬ s < (0 : Int32) → bt a s = b4 a k → f_X11_put_l3 a s (put4 L 53 52 2 N a k) = some (.inl (s + (-8), put4 L 53 52 2 N a (k + 1))) := by
    intro k s hk hs hb
    have hl := put4_len (c := 53) (a := a) h0 k
    unfold f_X11_put_l3
    rw [if_neg hs, hl, zm_ck_t (zm_in_nI (by omega) (by omega)), nI_clamp (by omega)]
    simp only [zv_eq]
    rw [show vp_nar .byte ((a >>> (s &&& 31)).toInt8.toInt32) = b4 a k from hb]
    have : (zm_sI (put4 L 53 52 2 N a k) 53 (N + k) (b4 a k)).1 52 2 = nI (N + k) := by rw [mI1, if_neg (by omega)]; exact hl
    rw [this, nI_k1]
    rfl
  unfold f_X11_put
  have e : zm_lp (fun s => f_X11_put_l3 a s.1 s.2) (24, L) = some (put4 L 53 52 2 N a 4) := by
    rw [lp_go (s' := (16, put4 L 53 52 2 N a 1)) (st 0 24 (by omega) (by decide) rfl), lp_go (s' := (8, put4 L 53 52 2 N a 2)) (st 1 16 (by omega) (by decide) rfl), lp_go (s' := (0, put4 L 53 52 2 N a 3)) (st 2 8 (by omega) (by decide) rfl), lp_go (s' := (-8, put4 L 53 52 2 N a 4)) (st 3 0 (by omega) (by decide) rfl)]
    refine lp_end ?_
    show f_X11_put_l3 a (-8) _ = _
    unfold f_X11_put_l3
    rw [if_pos (by decide)]
  rw [e]; rfl
/-- the class's tape beside the reference's -/
def tpR (L L' : zm_Mem) (N : Nat) : Prop := L.1 1 15 = nI N ∧ L'.1 52 2 = nI N ∧ ∀ j, j < N → L.1 2 j = L'.1 53 j ∧ ∃ x, L'.1 53 j = vp_nar .byte x
theorem b4_nar (a : Int32) (k : Nat) : ∃ x, b4 a k = vp_nar .byte x := by
  unfold b4 bt
  (repeat' split) <;> exact ⟨_, rfl⟩
theorem tpR_put {L L' : zm_Mem} {N : Nat} {a : Int32} (h : tpR L L' N) : tpR (put4 L 2 1 15 N a 4) (put4 L' 53 52 2 N a 4) (N + 4) := by
  obtain ⟨h1, h2, h3⟩ := h
  refine ⟨put4_len h1 4, put4_len h2 4, fun j hj => ?_⟩
  rcases Nat.lt_or_ge j N with h | h
  · rw [put4_lo (by omega) 4 j h, put4_lo (by omega) 4 j h]; exact h3 j h
  · obtain ⟨k, rfl⟩ := Nat.exists_eq_add_of_le h
    rw [put4_hi (by omega) 4 k (by omega), put4_hi (by omega) 4 k (by omega)]
    exact ⟨rfl, b4_nar a k⟩
theorem ag_feed {M : zm_Mem} {q n : Nat} (hI : Inv M q n) (hn : n < 512) (a1 : Int32) (a2 : Int32) (a3 : Int32) (a4 : Int32) (a5 : Int32) : Ag (f_X10_feed a1 a2 a3 a4 a5 M) (fun M1 => f_X11_feed a1 a2 a3 a4 a5 M1) q n := by
  have hI' := hI
  obtain ⟨t, v, D, S, hC, hX⟩ := hI'
  obtain ⟨N, hN, e1, e2, e3⟩ := hX.2.2.1
  by_cases h : N ≤ 1980
  · have q1 := c_put (a := a1) e1 (by omega)
    have l1 := put4_len (c := 2) (a := a1) e1 4
    have q2 := c_put (a := a2) l1 (by omega)
    have l2 := put4_len (c := 2) (a := a2) l1 4
    have q3 := c_put (a := a3) l2 (by omega)
    have l3 := put4_len (c := 2) (a := a3) l2 4
    have q4 := c_put (a := a4) l3 (by omega)
    have l4 := put4_len (c := 2) (a := a4) l3 4
    have q5 := c_put (a := a5) l4 (by omega)
    have l5 := put4_len (c := 2) (a := a5) l4 4
    generalize hL1 : put4 M 2 1 15 N a1 4 = L1 at q1 l1 q2 l2 q3 l3 q4 l4 q5 l5
    generalize hL2 : put4 L1 2 1 15 (N + 4) a2 4 = L2 at q2 l2 q3 l3 q4 l4 q5 l5
    generalize hL3 : put4 L2 2 1 15 (N + 4 + 4) a3 4 = L3 at q3 l3 q4 l4 q5 l5
    generalize hL4 : put4 L3 2 1 15 (N + 4 + 4 + 4) a4 4 = L4 at q4 l4 q5 l5
    generalize hL5 : put4 L4 2 1 15 (N + 4 + 4 + 4 + 4) a5 4 = L5 at q5 l5
    have f1 : Fr wTp M L1 := hL1 ▸ put4_fr (fun _ => rfl) rfl 4
    have f2 : Fr wTp L1 L2 := hL2 ▸ put4_fr (fun _ => rfl) rfl 4
    have f3 : Fr wTp L2 L3 := hL3 ▸ put4_fr (fun _ => rfl) rfl 4
    have f4 : Fr wTp L3 L4 := hL4 ▸ put4_fr (fun _ => rfl) rfl 4
    have f5 : Fr wTp L4 L5 := hL5 ▸ put4_fr (fun _ => rfl) rfl 4
    have g1 : Fr (fun x j => decide (x = 2) || (decide (x = 1) && decide (j = 15))) M L1 := hL1 ▸ put4_fr (fun _ => rfl) rfl 4
    have g2 : Fr (fun x j => decide (x = 2) || (decide (x = 1) && decide (j = 15))) L1 L2 := hL2 ▸ put4_fr (fun _ => rfl) rfl 4
    have g3 : Fr (fun x j => decide (x = 2) || (decide (x = 1) && decide (j = 15))) L2 L3 := hL3 ▸ put4_fr (fun _ => rfl) rfl 4
    have g4 : Fr (fun x j => decide (x = 2) || (decide (x = 1) && decide (j = 15))) L3 L4 := hL4 ▸ put4_fr (fun _ => rfl) rfl 4
    have g5 : Fr (fun x j => decide (x = 2) || (decide (x = 1) && decide (j = 15))) L4 L5 := hL5 ▸ put4_fr (fun _ => rfl) rfl 4
    have g := fr_tr g1 (fr_tr g2 (fr_tr g3 (fr_tr g4 g5)))
    have r0 : tpR M L5 N := ⟨e1, (g.2 52 2 rfl).trans e2, fun j hj => ⟨(e3 j hj).1.trans (g.2 53 j rfl).symm, by rw [g.2 53 j rfl]; exact (e3 j hj).2⟩⟩
    have r1 := tpR_put (a := a1) r0
    have p1 := r_put (a := a1) r0.2.1 (by omega)
    rw [hL1] at r1
    generalize hK1 : put4 L5 53 52 2 N a1 4 = K1 at r1 p1
    have r2 := tpR_put (a := a2) r1
    have p2 := r_put (a := a2) r1.2.1 (by omega)
    rw [hL2] at r2
    generalize hK2 : put4 K1 53 52 2 (N + 4) a2 4 = K2 at r2 p2
    have r3 := tpR_put (a := a3) r2
    have p3 := r_put (a := a3) r2.2.1 (by omega)
    rw [hL3] at r3
    generalize hK3 : put4 K2 53 52 2 (N + 4 + 4) a3 4 = K3 at r3 p3
    have r4 := tpR_put (a := a4) r3
    have p4 := r_put (a := a4) r3.2.1 (by omega)
    rw [hL4] at r4
    generalize hK4 : put4 K3 53 52 2 (N + 4 + 4 + 4) a4 4 = K4 at r4 p4
    have r5 := tpR_put (a := a5) r4
    have p5 := r_put (a := a5) r4.2.1 (by omega)
    rw [hL5] at r5
    generalize hK5 : put4 K4 53 52 2 (N + 4 + 4 + 4 + 4) a5 4 = K5 at r5 p5
    have w1 : Fr (fun x j => decide (x = 53) || (decide (x = 52) && decide (j = 2))) L5 K1 := hK1 ▸ put4_fr (fun _ => rfl) rfl 4
    have w2 : Fr (fun x j => decide (x = 53) || (decide (x = 52) && decide (j = 2))) K1 K2 := hK2 ▸ put4_fr (fun _ => rfl) rfl 4
    have w3 : Fr (fun x j => decide (x = 53) || (decide (x = 52) && decide (j = 2))) K2 K3 := hK3 ▸ put4_fr (fun _ => rfl) rfl 4
    have w4 : Fr (fun x j => decide (x = 53) || (decide (x = 52) && decide (j = 2))) K3 K4 := hK4 ▸ put4_fr (fun _ => rfl) rfl 4
    have w5 : Fr (fun x j => decide (x = 53) || (decide (x = 52) && decide (j = 2))) K4 K5 := hK5 ▸ put4_fr (fun _ => rfl) rfl 4
    have w := fr_tr w1 (fr_tr w2 (fr_tr w3 (fr_tr w4 w5)))
    have wm : ∀ x j, (decide (x = 53) || (decide (x = 52) && decide (j = 2))) = true → wTp x j = true := by
      intro x j hx
      simp only [wTp, Bool.or_eq_true, Bool.and_eq_true, decide_eq_true_eq] at hx ⊢
      omega
    refine ⟨nI (N + 4 + 4 + 4 + 4 + 4), L5, K5, ?_, ?_, ?_⟩
    · unfold f_X10_feed
      rw [e1, if_pos (show nI N ≤ 1980 from nI_le (b := 1980) h (by omega)), q1, zb2_some, q2, zb2_some, q3, zb2_some, q4, zb2_some, q5, zb2_some, l5]
    · show f_X11_feed a1 a2 a3 a4 a5 L5 = _
      unfold f_X11_feed
      rw [r0.2.1, show nI N + 20 = nI (N + 20) from nI_add N 20, if_pos (show nI (N + 20) ≤ 2000 from nI_le (b := 2000) (by omega) (by omega)), p1, zb2_some, p2, zb2_some, p3, zb2_some, p4, zb2_some, p5, zb2_some, r5.2.1]
    · refine inv_tape hI (fr_tr (fr_tr f1 (fr_tr f2 (fr_tr f3 (fr_tr f4 f5)))) (fr_mono wm w)) ⟨N + 4 + 4 + 4 + 4 + 4, by omega, (w.2 1 15 rfl).trans r5.1, r5.2.1, fun j hj => ⟨(w.2 2 j rfl).trans (r5.2.2 j hj).1, (r5.2.2 j hj).2⟩⟩
  · refine ag_mk hI (r := -1) (M1 := M) (M2 := M) ?_ ?_ (sc_rfl M)
    · unfold f_X10_feed
      rw [e1, if_neg (show ¬ nI N ≤ 1980 from nI_ge (a := 1980) (by omega) (by omega))]
    · show f_X11_feed a1 a2 a3 a4 a5 M = _
      unfold f_X11_feed
      rw [e2, show nI N + 20 = nI (N + 20) from nI_add N 20, if_neg (show ¬ nI (N + 20) ≤ 2000 from nI_ge (a := 2000) (by omega) (by omega))]
