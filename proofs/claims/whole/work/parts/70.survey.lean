/-! the survey: terms that break, by work, house, number of others, number of these of its kind -/
def stF (D : zD) (li w : Nat) : Nat := bitsOf (fun j => decide (D.1 7 j = w) && decide (li / 2 ^ j % 2 = 0)) (D.1 0 2)
def bkF (D : zD) (li dy w x m s : Nat) : Nat := bitsOf (fun j => (stF D li w).testBit j && !kp D (vr D w x m s dy) j) (D.1 0 2)
def alk (D : zD) (w i : Nat) : Nat := sumOf (fun j => if j ≠ w ∧ D.1 5 j = D.1 5 w then 1 else 0) i
theorem alk_le (D : zD) (w i : Nat) : alk D w i ≤ i := by
  have := sumOf_le (f := fun j => if j ≠ w ∧ D.1 5 j = D.1 5 w then 1 else 0) (c := 1) (i := i) (fun j _ => by split <;> omega)
  unfold alk; omega
def bix (w x m s : Nat) : Nat := ((w * 5 + x) * 6 + m) * 6 + s
def rmx (D : zD) (x : Nat) : Nat := min (D.1 0 1) (D.1 2 x)
def FbD (D : zD) (li dy w x m s : Nat) (L : zm_Mem) : Prop := ∀ x' m' s', (x' < x ∨ (x' = x ∧ (m' < m ∨ (m' = m ∧ s' < s)))) → x' < D.1 0 0 → m' < rmx D x' → s' ≤ alk D w (D.1 0 1) → s' ≤ m' → L.1 106 (bix w x' m' s') = nI (bkF D li dy w x' m' s')
def wFb (x j : Nat) : Bool := decide (x = 106) || wC x j
theorem wFb_cx {M M' : zm_Mem} {t v n : Nat} {D : zD} {S : Nat → Nat} (h : Fr wFb M M') (hC : Cx M t v D S n) : Cx M' t v D S n := by
  refine cx_sc (fr_sc (fun x j h => ?_) h) hC
  simp only [wFb, Bool.or_eq_true, decide_eq_true_eq] at h
  rcases h with rfl | h
  · rfl
  · exact wC_iv h
theorem wFb_sn {M M' : zm_Mem} {t dy : Nat} {D : zD} {a : Nat → Bool} {g : Nat → Nat} (hF : Fr wFb M M') (h : Sn M t D a g dy) : Sn M' t D a g dy := ⟨by rw [hF.1]; exact h.1, (hF.2 49 8 rfl).trans h.2.1, fun j hj => (hF.2 51 j rfl).trans (h.2.2 j hj)⟩
theorem c_fill {M : zm_Mem} {t v n dy li : Nat} {D : zD} {S : Nat → Nat} {a : Nat → Bool} {g : Nat → Nat} (hC : Cx M t v D S n) (hS : Sn M t D a g dy) (h10 : M.2.2 103 10 = t) {w : Nat} (hw : w < D.1 0 1) : ∃ M', f_X6_fillBroken (nI w) (nI (stF D li w)) M = some ((), M') ∧ Fr wFb M M' ∧ (∀ i, (i < w * 180 ∨ w * 180 + 180 ≤ i) → M'.1 106 i = M.1 106 i) ∧ FbD D li dy w (D.1 0 0) 0 0 M' := by
  have ht := hC.2.1
  have hT := hC.2.2.1
  have hR := hC.2.2.2
  have bI := cx_isT hC
  have bv := tT_v hT
  have bh := tT_bh hT
  have bw := tT_bw hT
  have bk := tT_bk hT
  have hal := alk_le D w (D.1 0 1)
  have h64 : stF D li w < 64 := bitsOf_le _ bk
  have key1 : zm_lp (fun s => f_X6_fillBroken_l5 (nI w) M s.1 s.2) (0, 0) = some (nI (alk D w (D.1 0 1))) := by
    refine bind_some_id ?_
    refine lp_sum (st := fun b i => f_X6_fillBroken_l5 (nI w) M b i) (fun j => if j ≠ w ∧ D.1 5 j = D.1 5 w then 1 else 0) (D.1 0 1) 1 (fun j _ => by split <;> omega) (fun i b hi hb => ?_) (fun b hb => ?_)
    · have hwi := tT_Wb hT i hi
      have hww := tT_Wb hT w hw
      unfold f_X6_fillBroken_l5 f_X6_fillBroken_b48_5
      simp only [zv_eq]
      rw [h10, bI, zk_true, tT_w hT, if_neg (nI_ge hi (by omega)), nI_k1, nI_k1]
      by_cases hiw : i = w
      · rw [if_pos (by rw [hiw]), if_neg (fun z => z.1 hiw)]; rfl
      · rw [if_neg (by rw [nI_eq (by omega) (by omega)]; exact hiw), zk_true, zm_ck_t (zm_in_nI (by omega) (by omega)), zk_true, zm_ck_t (zm_in_nI (by omega) (by omega)), nI_clamp (by omega), nI_clamp (by omega), tT_ki hT i hi, tT_ki hT w hw]
        by_cases hk : D.1 5 i = D.1 5 w
        · rw [if_pos (by rw [hk]), if_pos ⟨hiw, hk⟩]
        · rw [if_neg (by rw [nI_eq (by omega) (by omega)]; exact hk), if_neg (fun z => hk z.2)]; rfl
    · unfold f_X6_fillBroken_l5
      simp only [zv_eq]
      rw [h10, bI, zk_true, tT_w hT, if_pos (nI_le (Nat.le_refl _) (by omega))]
  have key2 : ∃ e, zm_lp (fun s => f_X6_fillBroken_l57 (nI w) (nI (stF D li w)) (nI (alk D w (D.1 0 1))) s.1 s.2) (nI 0, M) = some e ∧ (Fr wFb M e ∧ (∀ i, (i < w * 180 ∨ w * 180 + 180 ≤ i) → e.1 106 i = M.1 106 i) ∧ FbD D li dy w (D.1 0 0) 0 0 e) := by
    refine lp_inv (step := fun s => f_X6_fillBroken_l57 (nI w) (nI (stF D li w)) (nI (alk D w (D.1 0 1))) s.1 s.2) (fun x z => z.1 = nI x ∧ Fr wFb M z.2 ∧ (∀ i, (i < w * 180 ∨ w * 180 + 180 ≤ i) → z.2.1 106 i = M.1 106 i) ∧ FbD D li dy w x 0 0 z.2) _ (D.1 0 0) ?_ ?_ ⟨rfl, fr_rfl _ M, fun _ _ => rfl, fun x' m' s' h => by omega⟩
    · rintro x ⟨z1, L⟩ hx ⟨p1, p2, p3, p4⟩
      simp only at p1 p2 p3 p4
      subst p1
      have hCL := wFb_cx p2 hC
      have hTL := hCL.2.2.1
      have hHb := tT_Hb hT x hx
      have hrm : rmx D x ≤ 6 := by unfold rmx; omega
      have l10 : L.2.2 103 10 = t := by rw [p2.1]; exact h10
      have key3 : ∃ e, zm_lp (fun s => f_X6_fillBroken_l94_57 (nI w) (nI (stF D li w)) (nI (alk D w (D.1 0 1))) (nI x) (nI (rmx D x)) s.1 s.2) (nI 0, L) = some e ∧ (Fr wFb M e ∧ (∀ i, (i < w * 180 ∨ w * 180 + 180 ≤ i) → e.1 106 i = M.1 106 i) ∧ FbD D li dy w x (rmx D x) 0 e) := by
        refine lp_inv (step := fun s => f_X6_fillBroken_l94_57 (nI w) (nI (stF D li w)) (nI (alk D w (D.1 0 1))) (nI x) (nI (rmx D x)) s.1 s.2) (fun m z => z.1 = nI m ∧ Fr wFb M z.2 ∧ (∀ i, (i < w * 180 ∨ w * 180 + 180 ≤ i) → z.2.1 106 i = M.1 106 i) ∧ FbD D li dy w x m 0 z.2) _ (rmx D x) ?_ ?_ ⟨rfl, p2, p3, p4⟩
        · rintro m ⟨z1, N⟩ hm ⟨q1, q2, q3, q4⟩
          simp only at q1 q2 q3 q4
          subst q1
          have hmn : min (alk D w (D.1 0 1)) m ≤ 5 := by omega
          have key4 : ∃ e, zm_lp (fun s => f_X6_fillBroken_l104_94_57 (nI w) (nI (stF D li w)) (nI (alk D w (D.1 0 1))) (nI x) (nI m) s.1 s.2) (nI 0, N) = some e ∧ (Fr wFb M e ∧ (∀ i, (i < w * 180 ∨ w * 180 + 180 ≤ i) → e.1 106 i = M.1 106 i) ∧ FbD D li dy w x m (min (alk D w (D.1 0 1)) m + 1) e) := by
            refine lp_inv (step := fun s => f_X6_fillBroken_l104_94_57 (nI w) (nI (stF D li w)) (nI (alk D w (D.1 0 1))) (nI x) (nI m) s.1 s.2) (fun s z => z.1 = nI s ∧ Fr wFb M z.2 ∧ (∀ i, (i < w * 180 ∨ w * 180 + 180 ≤ i) → z.2.1 106 i = M.1 106 i) ∧ FbD D li dy w x m s z.2) _ (min (alk D w (D.1 0 1)) m + 1) ?_ ?_ ⟨rfl, q2, q3, q4⟩
            · rintro s ⟨z1, K⟩ hs ⟨r1, r2, r3, r4⟩
              simp only at r1 r2 r3 r4
              subst r1
              have hCK := wFb_cx r2 hC
              have hSK := wFb_sn r2 hS
              obtain ⟨K1, e1, f1, v1⟩ := c_enterAmong (m := m) (s := s) hCK hSK hw hx
              obtain ⟨K2, e2, f2⟩ := c_broken (cx_C f1 hCK) (sn_C f1 hSK) v1 h64
              have ebk : bitsOf (fun j => (stF D li w).testBit j && !kp D (vr D w x m s dy) j) (D.1 0 2) = bkF D li dy w x m s := rfl
              rw [ebk] at e2
              have f12 : Fr wFb K K2 := fr_mono (fun x j h => by unfold wFb; rw [h, Bool.or_true]) (fr_tr f1 (frS_C f2))
              have k106 : ∀ i, K2.1 106 i = K.1 106 i := fun i => (f2.2 106 i rfl).trans (f1.2 106 i rfl)
              have hix : nI ((((w * 5) + x) * 6 + m) * 6 + s) = nI (bix w x m s) := rfl
              have hlt : bix w x m s < 1080 := by unfold bix; omega
              refine Or.inl ⟨(nI (s + 1), zm_sI K2 106 (bix w x m s) (nI (bkF D li dy w x m s))), ?_, rfl, fr_tr r2 (fr_tr f12 (fr_sI rfl)), fun i hi => ?_, fun x' m' s' h hx' hm' hs' hs2 => ?_⟩
              · show f_X6_fillBroken_l104_94_57 (nI w) (nI (stF D li w)) (nI (alk D w (D.1 0 1))) (nI x) (nI m) (nI s) K = _
                unfold f_X6_fillBroken_l104_94_57 f_X6_brokenAt
                rw [zmin_nI (by omega) (by omega), if_neg (nI_nlt (by omega) (by omega)), e1, zb2_some, zb1_some, e2, zb2_some, show (5 : Int32) = nI 5 from rfl, show (6 : Int32) = nI 6 from rfl, pk_mul, nI_add, pk_mul, nI_add, pk_mul, nI_add, hix, zm_ck_t (zm_in_nI hlt (by omega)), nI_clamp (by omega)]
                simp only [zv_eq]
                rw [nI_k1]
              · show (zm_sI _ _ _ _).1 106 i = _
                have : bix w x m s = 180 * w + 36 * x + 6 * m + s := by unfold bix; omega
                rw [mI1, if_neg (by omega), k106]; exact r3 i hi
              · show (zm_sI _ _ _ _).1 106 _ = _
                have e1 : bix w x m s = 180 * w + 36 * x + 6 * m + s := by unfold bix; omega
                have e2 : bix w x' m' s' = 180 * w + 36 * x' + 6 * m' + s' := by unfold bix; omega
                have hm6 : m' < 6 := by unfold rmx at hm'; omega
                rw [mI1]
                by_cases hsame : x' = x ∧ m' = m ∧ s' = s
                · obtain ⟨rfl, rfl, rfl⟩ := hsame
                  rw [if_pos ⟨rfl, rfl⟩]
                · rw [if_neg (by omega), k106]
                  exact r4 x' m' s' (by omega) hx' hm' hs' hs2
            · rintro ⟨z1, K⟩ ⟨r1, r2, r3, r4⟩
              simp only at r1 r2 r3 r4
              subst r1
              refine ⟨K, ?_, r2, r3, r4⟩
              show f_X6_fillBroken_l104_94_57 (nI w) (nI (stF D li w)) (nI (alk D w (D.1 0 1))) (nI x) (nI m) (nI _) K = _
              unfold f_X6_fillBroken_l104_94_57
              rw [zmin_nI (by omega) (by omega), if_pos (nI_lt (by omega) (by omega))]
          obtain ⟨e, g1, g2, g3, g4⟩ := key4
          refine Or.inl ⟨(nI (m + 1), e), ?_, rfl, g2, g3, fun x' m' s' h hx' hm' hs' hs2 => g4 x' m' s' (by omega) hx' hm' hs' hs2⟩
          show f_X6_fillBroken_l94_57 (nI w) (nI (stF D li w)) (nI (alk D w (D.1 0 1))) (nI x) (nI (rmx D x)) (nI m) N = _
          unfold f_X6_fillBroken_l94_57
          rw [if_neg (nI_ge hm (by omega))]
          have g1' : zm_lp (fun s => f_X6_fillBroken_l104_94_57 (nI w) (nI (stF D li w)) (nI (alk D w (D.1 0 1))) (nI x) (nI m) s.1 s.2) (0, N) = some e := g1
          rw [g1']
          simp only [Option.bind_some, zv_eq]
          rw [nI_k1]
        · rintro ⟨z1, N⟩ ⟨q1, q2, q3, q4⟩
          simp only at q1 q2 q3 q4
          subst q1
          refine ⟨N, ?_, q2, q3, q4⟩
          show f_X6_fillBroken_l94_57 (nI w) (nI (stF D li w)) (nI (alk D w (D.1 0 1))) (nI x) (nI (rmx D x)) (nI (rmx D x)) N = _
          unfold f_X6_fillBroken_l94_57
          rw [if_pos (nI_le (Nat.le_refl _) (by omega))]
      obtain ⟨e, g1, g2, g3, g4⟩ := key3
      refine Or.inl ⟨(nI (x + 1), e), ?_, rfl, g2, g3, fun x' m' s' h hx' hm' hs' hs2 => ?_⟩
      · show f_X6_fillBroken_l57 (nI w) (nI (stF D li w)) (nI (alk D w (D.1 0 1))) (nI x) L = _
        unfold f_X6_fillBroken_l57
        simp only [zv_eq]
        rw [l10, bI, zk_true, tT_h hTL, if_neg (nI_ge hx (by omega)), zk_true, zk_true, zm_ck_t (zm_in_nI (by omega) (by omega)), nI_clamp (by omega), tT_w hTL, tT_wa hTL x hx, zmin_nI (by omega) (by omega)]
        have g1' : zm_lp (fun s => f_X6_fillBroken_l94_57 (nI w) (nI (stF D li w)) (nI (alk D w (D.1 0 1))) (nI x) (nI (min (D.1 0 1) (D.1 2 x))) s.1 s.2) (0, L) = some e := g1
        rw [g1']
        simp only [Option.bind_some]
        rw [nI_k1]
      · refine g4 x' m' s' ?_ hx' hm' hs' hs2
        by_cases hxx : x' = x
        · subst hxx; exact Or.inr ⟨rfl, Or.inl hm'⟩
        · omega
    · rintro ⟨z1, L⟩ ⟨p1, p2, p3, p4⟩
      simp only at p1 p2 p3 p4
      subst p1
      have hTL := (wFb_cx p2 hC).2.2.1
      have l10 : L.2.2 103 10 = t := by rw [p2.1]; exact h10
      refine ⟨L, ?_, p2, p3, p4⟩
      show f_X6_fillBroken_l57 (nI w) (nI (stF D li w)) (nI (alk D w (D.1 0 1))) (nI (D.1 0 0)) L = _
      unfold f_X6_fillBroken_l57
      simp only [zv_eq]
      rw [l10, bI, zk_true, tT_h hTL, if_pos (nI_le (Nat.le_refl _) (by omega))]
  obtain ⟨e, g1, g2, g3, g4⟩ := key2
  refine ⟨e, ?_, g2, g3, g4⟩
  unfold f_X6_fillBroken
  rw [key1]
  simp only [Option.bind_some]
  unfold f_X6_fillBroken_x54_5
  have g1' : zm_lp (fun s => f_X6_fillBroken_l57 (nI w) (nI (stF D li w)) (nI (alk D w (D.1 0 1))) s.1 s.2) (0, M) = some e := g1
  rw [g1']; rfl
