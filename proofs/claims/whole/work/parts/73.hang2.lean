def hwF (D : zD) (li dy : Nat) (a : Nat → Bool) (g : Nat → Nat) (s : zV) (way : Nat) : zV := if rmP D (D.1 0 1) way = true then hwL (fun w => rbF D li dy (dgp 5 w (D.1 0 1))) (fun w => ofF a g w (D.1 0 1)) (fun w => atF w (D.1 0 1)) s way else s
def wHg (x j : Nat) : Bool := decide (x = 107) || (decide (x = 109) || (decide (x = 110) || wKr x j))
theorem wHg_T : ∀ x j, wHg x j = true → c_T x j = false := by
  intro x j h
  simp only [wHg, wKr, Bool.or_eq_true, Bool.and_eq_true, decide_eq_true_eq] at h
  rcases h with rfl | rfl | rfl | rfl | rfl | rfl | ⟨rfl, _⟩ <;> rfl
theorem cx_fg {W : Nat → Nat → Bool} {M M' : zm_Mem} {t v n : Nat} {D : zD} {S : Nat → Nat} (hF : Fg W M M') (hW : ∀ x j, W x j = true → c_T x j = false) (a : ∀ j, W 12 j = false) (b : ∀ j, W 91 j = false) (hC : Cx M t v D S n) : Cx M' t v D S n := by
  refine ⟨hC.1, by rw [hF.1]; exact hC.2.1, iT_eq hC.1 (fun x j hc => hF.2.1 x j ?_) hC.2.2.1, ?_⟩
  · cases hw : W x j with
    | false => rfl
    | true => rw [hW x j hw] at hc; cases hc
  · rw [show M'.1 12 = M.1 12 from funext fun j => hF.2.1 12 j (a j), show M'.1 91 = M.1 91 from funext fun j => hF.2.1 91 j (b j)]; exact hC.2.2.2
def HgC (M : zm_Mem) (t v n : Nat) (D : zD) (S : Nat → Nat) (li dy : Nat) (a : Nat → Bool) (g : Nat → Nat) (nb : Nat) (bd : Nat → Nat) : Prop := Cx M t v D S n ∧ Sn M t D a g dy ∧ M.2.2 103 10 = t ∧ BdR M D li dy nb bd
theorem hgc_fg {M M' : zm_Mem} {t v n : Nat} {D : zD} {S : Nat → Nat} {li dy : Nat} {a : Nat → Bool} {g : Nat → Nat} {nb : Nat} {bd : Nat → Nat} (hF : Fg wHg M M') (h : HgC M t v n D S li dy a g nb bd) : HgC M' t v n D S li dy a g nb bd := by
  obtain ⟨h1, h2, h3, b1, b2, b3, b4⟩ := h
  refine ⟨cx_fg hF wHg_T (fun _ => rfl) (fun _ => rfl) h1, ⟨by rw [hF.1]; exact h2.1, (hF.2.1 49 8 rfl).trans h2.2.1, fun j hj => (hF.2.1 51 j rfl).trans (h2.2.2 j hj)⟩, by rw [hF.1]; exact h3, b1, (hF.2.1 103 9 rfl).trans b2, fun i hi => ?_, b4⟩
  obtain ⟨q1, q2, q3⟩ := b3 i hi
  exact ⟨q1, (hF.2.1 111 i rfl).trans q2, fun x' m' s' k1 k2 k3 k4 k5 => (hF.2.1 106 _ rfl).trans (q3 x' m' s' k1 k2 k3 k4 k5)⟩
theorem hang_skip {D : zD} {li dy c k p d : Nat} {a : Nat → Bool} {g : Nat → Nat} {s : zV} (hck : c + 1 + k = D.1 0 1) (h : ¬ rmP D (c + 1) (p * 5 + d) = true) : fo (hwF D li dy a g) ((p * 5 + d) * 5 ^ k) (5 ^ k) s = s := by
  refine fo_skip (fun i hi s => ?_)
  unfold hwF
  rw [if_neg]
  intro z
  rw [← hck] at z
  exact h (rmP_pre hi z)
theorem c_hang {t v n : Nat} {D : zD} {S : Nat → Nat} {li dy : Nat} {a : Nat → Bool} {g : Nat → Nat} {nb : Nat} {bd : Nat → Nat} (hg : ∀ j, j < D.1 0 1 → g j < 5) : ∀ k c, c + k = D.1 0 1 → ∀ (dp p : Nat) (M : zm_Mem) (s : zV), k < dp → HgC M t v n D S li dy a g nb bd → rmP D c p = true → (∀ j, j < c → M.1 107 j = nI (dgp 5 p c j)) → (∀ x, x < 5 → M.1 109 x = nI (cnt (dgp 5 p c) c x)) → (∀ x k, x < 5 → k < 10 → M.1 110 (x * 10 + k) = nI (cnk D (dgp 5 p c) c x k)) → SvR M (D.1 0 1) s → ∃ M', fr_X6_hang dp 0 (nI c) (nI (atF p c)) (nI (ofF a g p c)) M = some ((), M') ∧ Fg wHg M M' ∧ (∀ j, j < c → M'.1 107 j = M.1 107 j) ∧ M'.1 109 = M.1 109 ∧ M'.1 110 = M.1 110 ∧ SvR M' (D.1 0 1) (fo (hwF D li dy a g) (p * 5 ^ k) (5 ^ k) s) := by
  intro k
  induction k with
  | zero =>
    intro c hc dp p M s hdp hH hp h107 h109 h110 hs
    have hcW : c = D.1 0 1 := by omega
    subst hcW
    obtain ⟨d, rfl⟩ : ∃ d, dp = d + 1 := ⟨dp - 1, by omega⟩
    obtain ⟨hC, hS, h10, hB⟩ := hH
    have ht := hC.2.1
    have hT := hC.2.2.1
    have hR := hC.2.2.2
    have bI := cx_isT hC
    have bv := tT_v hT
    have bh := tT_bh hT
    have bw := tT_bw hT
    have bk := tT_bk hT
    have er := c_inRow hC h10 hB hp h107 h109 h110
    obtain ⟨M', k1, k2, k3⟩ := c_keepRow (W := D.1 0 1) (way := p) (rb := fun w => rbF D li dy (dgp 5 w (D.1 0 1))) (off := fun w => ofF a g w (D.1 0 1)) bw er (bitsOf_le _ bk) (Nat.le_trans (ofF_le a g p (D.1 0 1)) bw) hs h107
    have f : Fg wHg M M' := fg_mono (fun x j h => by unfold wHg; rw [h, Bool.or_true, Bool.or_true, Bool.or_true]) k2
    refine ⟨M', ?_, f, fun j _ => k2.2.1 107 j rfl, funext fun j => k2.2.1 109 j rfl, funext fun j => k2.2.1 110 j rfl, ?_⟩
    · unfold fr_X6_hang f_X6_hang f_X6_hang_b17
      simp only [zv_eq]
      rw [h10, bI, zk_true, tT_w hT, if_pos (nI_le (Nat.le_refl _) (by omega)), k1]; rfl
    · show SvR M' (D.1 0 1) (hwF D li dy a g s (p * 5 ^ 0 + 0))
      unfold hwF
      rw [Nat.pow_zero, Nat.mul_one, Nat.add_zero, if_pos hp]
      exact k3
  | succ k ih =>
    intro c hc dp p M s hdp hH hp h107 h109 h110 hs
    obtain ⟨d', rfl⟩ : ∃ d, dp = d + 1 := ⟨dp - 1, by omega⟩
    have hcW : c < D.1 0 1 := by omega
    have hH' := hH
    obtain ⟨hC, hS, h10, hB⟩ := hH'
    have ht := hC.2.1
    have hT := hC.2.2.1
    have hR := hC.2.2.2
    have bI := cx_isT hC
    have bv := tT_v hT
    have bh := tT_bh hT
    have bw := tT_bw hT
    have bk := tT_bk hT
    have hwc := tT_Wb hT c hcW
    have hsp := hS.2.2 c hcW
    have hgc := hg c hcW
    have key : ∃ e, zm_lp (fun z => f_X6_hang_l38 (fr_X6_hang d') (nI c) (nI (atF p c)) (nI (ofF a g p c)) (nI (D.1 5 c)) z.1 z.2) (nI 0, M) = some e ∧ (Fg wHg M e ∧ (∀ j, j < c → e.1 107 j = M.1 107 j) ∧ e.1 109 = M.1 109 ∧ e.1 110 = M.1 110 ∧ SvR e (D.1 0 1) (fo (fun s d => fo (hwF D li dy a g) ((p * 5 + d) * 5 ^ k) (5 ^ k) s) 0 (D.1 0 0) s)) := by
      refine lp_inv (step := fun z => f_X6_hang_l38 (fr_X6_hang d') (nI c) (nI (atF p c)) (nI (ofF a g p c)) (nI (D.1 5 c)) z.1 z.2) (fun d z => z.1 = nI d ∧ Fg wHg M z.2 ∧ (∀ j, j < c → z.2.1 107 j = M.1 107 j) ∧ z.2.1 109 = M.1 109 ∧ z.2.1 110 = M.1 110 ∧ SvR z.2 (D.1 0 1) (fo (fun s d => fo (hwF D li dy a g) ((p * 5 + d) * 5 ^ k) (5 ^ k) s) 0 d s)) _ (D.1 0 0) ?_ ?_ ⟨rfl, fg_rfl _ M, fun _ _ => rfl, rfl, rfl, hs⟩
      · rintro d ⟨z1, L⟩ hd ⟨p1, p2, p3, p4, p5, p6⟩
        simp only at p1 p2 p3 p4 p5 p6
        subst p1
        have hHL := hgc_fg p2 hH
        obtain ⟨hCL, hSL, l10, hBL⟩ := hHL
        have hTL := hCL.2.2.1
        have hHb := tT_Hb hT d hd
        have hcl := cnt_le (dgp 5 p c) c d
        have l109 : L.1 109 d = nI (cnt (dgp 5 p c) c d) := by rw [p4]; exact h109 d (by omega)
        have l110 : L.1 110 (d * 10 + D.1 5 c) = nI (cnk D (dgp 5 p c) c d (D.1 5 c)) := by rw [p5]; exact h110 d _ (by omega) (by omega)
        have e10 : nI d * 10 + nI (D.1 5 c) = nI (d * 10 + D.1 5 c) := by rw [show (10 : Int32) = nI 10 from rfl, pk_mul, nI_add]
        have hext := rmP_ext (D := D) (c := c) (p := p) (d := d) (by omega) hp
        have zd : zm_in (nI d) 5 = true := zm_in_nI (by omega) (by omega)
        have zc : zm_in (nI c) 6 = true := zm_in_nI (by omega) (by omega)
        have zk : zm_in (nI (d * 10 + D.1 5 c)) 50 = true := zm_in_nI (by omega) (by omega)
        have cd : (nI d).toNatClampNeg = d := nI_clamp (by omega)
        have cc : (nI c).toNatClampNeg = c := nI_clamp (by omega)
        have ck : (nI (d * 10 + D.1 5 c)).toNatClampNeg = d * 10 + D.1 5 c := nI_clamp (by omega)
        refine Or.inl ?_
        by_cases hroom : cnt (dgp 5 p c) c d < D.1 2 d
        · have hp' : rmP D (c + 1) (p * 5 + d) = true := hext.2 ⟨hd, hroom⟩
          generalize hA : zm_sI (zm_sI (zm_sI L 107 c (nI d)) 109 d (nI (cnt (dgp 5 p c) c d + 1))) 110 (d * 10 + D.1 5 c) (nI (cnk D (dgp 5 p c) c d (D.1 5 c) + 1)) = A
          have fA : Fg wHg L A := by rw [← hA]; exact fg_tr (fg_tr (fg_sI rfl) (fg_sI rfl)) (fg_sI rfl)
          have a107 : ∀ j, A.1 107 j = if j = c then nI d else L.1 107 j := fun j => by
            rw [← hA, mI1, if_neg (by omega), mI1, if_neg (by omega), mI1]
            by_cases hjc : j = c
            · rw [if_pos ⟨rfl, hjc⟩, if_pos hjc]
            · rw [if_neg (fun z => hjc z.2), if_neg hjc]
          have a109 : ∀ j, A.1 109 j = if j = d then nI (cnt (dgp 5 p c) c d + 1) else L.1 109 j := fun j => by
            rw [← hA, mI1, if_neg (by omega), mI1]
            by_cases hjc : j = d
            · rw [if_pos ⟨rfl, hjc⟩, if_pos hjc]
            · rw [if_neg (fun z => hjc z.2), if_neg hjc, mI1, if_neg (by omega)]
          have a110 : ∀ j, A.1 110 j = if j = d * 10 + D.1 5 c then nI (cnk D (dgp 5 p c) c d (D.1 5 c) + 1) else L.1 110 j := fun j => by
            rw [← hA, mI1]
            by_cases hjc : j = d * 10 + D.1 5 c
            · rw [if_pos ⟨rfl, hjc⟩, if_pos hjc]
            · rw [if_neg (fun z => hjc z.2), if_neg hjc, mI1, if_neg (by omega), mI1, if_neg (by omega)]
          have hHA := hgc_fg (fg_tr p2 fA) hH
          obtain ⟨M', k1, k2, k3, k4, k5, k6⟩ := ih (c + 1) (by omega) d' (p * 5 + d) A _ (by omega) hHA hp' (fun j hj => by
              rw [a107]
              by_cases hjc : j = c
              · rw [if_pos hjc, hjc, dgp_hi (by omega)]
              · rw [if_neg hjc, p3 j (by omega), h107 j (by omega), dgp_lo (by omega) (by omega)]) (fun x hx => by
              rw [a109, cnt_ext (by omega)]
              by_cases hxd : x = d
              · rw [if_pos hxd, hxd, if_pos rfl]
              · rw [if_neg hxd, if_neg (fun z => hxd z.symm), p4]; exact h109 x hx) (fun x kk hx hkk => by
              rw [a110, cnk_ext (by omega)]
              by_cases hxd : x = d ∧ kk = D.1 5 c
              · rw [if_pos (by rw [hxd.1, hxd.2]), hxd.1, hxd.2, if_pos ⟨rfl, rfl⟩]
              · rw [if_neg (by omega), if_neg (fun z => hxd ⟨z.1.symm, z.2.symm⟩), p5]; exact h110 x kk hx hkk) (show SvR A (D.1 0 1) _ from by
              obtain ⟨q1, q2, q3, q4, q5, q6, q7⟩ := p6
              have aL : A.2.1 = L.2.1 := by rw [← hA]; rfl
              refine ⟨fun x hx => by rw [aL]; exact q1 x hx, fun x hx => by rw [aL]; exact q2 x hx, fun x hx => by rw [aL]; exact q3 x hx, ?_, ?_, q6, fun h w hw => ?_⟩
              · rw [← hA, mI1, if_neg (by omega), mI1, if_neg (by omega), mI1, if_neg (by omega)]; exact q4
              · rw [← hA, mI1, if_neg (by omega), mI1, if_neg (by omega), mI1, if_neg (by omega)]; exact q5
              · rw [← hA, mI1, if_neg (by omega), mI1, if_neg (by omega), mI1, if_neg (by omega)]; exact q7 h w hw)
          have m109 : M'.1 109 d = nI (cnt (dgp 5 p c) c d + 1) := by rw [k4, a109, if_pos rfl]
          have m110 : ∀ v, (zm_sI M' 109 d v).1 110 (d * 10 + D.1 5 c) = nI (cnk D (dgp 5 p c) c d (D.1 5 c) + 1) := fun v => by rw [mI1, if_neg (by omega), k5, a110, if_pos rfl]
          refine ⟨(nI (d + 1), zm_sI (zm_sI M' 109 d (nI (cnt (dgp 5 p c) c d))) 110 (d * 10 + D.1 5 c) (nI (cnk D (dgp 5 p c) c d (D.1 5 c)))), ?_, rfl, ?_, fun j hj => ?_, ?_, ?_, ?_⟩
          · have b140 : ∀ z, z = nI (ofF a g (p * 5 + d) (c + 1)) → f_X6_hang_b140_38 (fr_X6_hang d') (nI (D.1 5 c)) (nI d) A (nI c + 1) (nI (atF p c) + nI (stp c) * nI d) z = some (.inl (nI (d + 1), zm_sI (zm_sI M' 109 d (nI (cnt (dgp 5 p c) c d))) 110 (d * 10 + D.1 5 c) (nI (cnk D (dgp 5 p c) c d (D.1 5 c))))) := by
              intro z hz
              unfold f_X6_hang_b140_38 f_X6_hang_b171_38
              rw [nI_k1, pk_mul, nI_add, ← atF_ext (show d < 5 by omega), hz, k1, zb2_some, zd, zk_true, zk_true, cd, m109, nI_pred, e10, zk]
              simp only [zv_eq, zk_true]
              rw [ck, m110, nI_pred, nI_k1]
            have ho := ofF_ext (a := a) (g := g) (p := p) (c := c) (show d < 5 by omega)
            have hol := ofF_le a g p c
            show f_X6_hang_l38 (fr_X6_hang d') (nI c) (nI (atF p c)) (nI (ofF a g p c)) (nI (D.1 5 c)) (nI d) L = _
            unfold f_X6_hang_l38 f_X3_spot
            simp only [zv_eq]
            rw [l10, bI, zk_true, tT_h hTL, if_neg (nI_ge hd (by omega)), zd, zk_true, zk_true, zk_true, cd, tT_wa hTL d hd, l109, if_neg (nI_ge hroom (by omega)), zc, zk_true, cc, zk_true, zk_true]
            have l109' : (zm_sI L 107 c (nI d)).1 109 d = nI (cnt (dgp 5 p c) c d) := by rw [mI1, if_neg (by omega)]; exact l109
            have l110' : ∀ v, (zm_sI (zm_sI L 107 c (nI d)) 109 d v).1 110 (d * 10 + D.1 5 c) = nI (cnk D (dgp 5 p c) c d (D.1 5 c)) := fun v => by rw [mI1, if_neg (by omega), mI1, if_neg (by omega)]; exact l110
            rw [l109', nI_k1, e10, zk, zk_true, zk_true, ck, l110', nI_k1, hA, zk_true, stp_eq c (by omega)]
            have a51 : A.1 51 c = if a c = true then nI (g c) else -nI 1 := (fA.2.1 51 c rfl).trans ((p2.2.1 51 c rfl).trans hsp)
            rw [a51, zk_true, zb1_some]
            cases hac : a c with
            | true =>
              rw [if_pos rfl]
              by_cases hgd : g c = d
              · rw [if_pos (by rw [hgd])]
                rw [if_pos ⟨hac, hgd⟩, Nat.add_zero] at ho
                exact b140 _ (by rw [ho]; rfl)
              · rw [if_neg (by rw [nI_eq (by omega) (by omega)]; exact hgd)]
                rw [if_neg (fun z => hgd z.2)] at ho
                exact b140 _ (by rw [ho, nI_k1])
            | false =>
              rw [if_neg (c := false = true) (by decide), if_neg (fun z => (zi_ne (a := d) (b := 1) (by omega) (by omega) (by omega)).1 z)]
              rw [if_neg (fun z => by rw [hac] at z; exact absurd z.1 (by decide))] at ho
              exact b140 _ (by rw [ho, nI_k1])
          · exact fg_tr p2 (fg_tr fA (fg_tr k2 (fg_tr (fg_sI rfl) (fg_sI rfl))))
          · show (zm_sI _ _ _ _).1 107 j = _
            rw [mI1, if_neg (by omega), mI1, if_neg (by omega), k3 j (by omega), a107, if_neg (by omega)]; exact p3 j hj
          · show (zm_sI _ _ _ _).1 109 = _
            rw [← p4]
            funext y
            rw [mI1, if_neg (by omega), mI1]
            by_cases hyd : y = d
            · rw [if_pos ⟨rfl, hyd⟩, hyd, l109]
            · rw [if_neg (fun z => hyd z.2), k4, a109, if_neg hyd]
          · show (zm_sI _ _ _ _).1 110 = _
            rw [← p5]
            funext y
            rw [mI1]
            by_cases hyd : y = d * 10 + D.1 5 c
            · rw [if_pos ⟨rfl, hyd⟩, hyd, l110]
            · rw [if_neg (fun z => hyd z.2), mI1, if_neg (by omega), k5, a110, if_neg hyd]
          · show SvR _ (D.1 0 1) (fo (hwF D li dy a g) ((p * 5 + (0 + d)) * 5 ^ k) (5 ^ k) _)
            rw [Nat.zero_add]
            obtain ⟨q1, q2, q3, q4, q5, q6, q7⟩ := k6
            refine ⟨q1, q2, q3, ?_, ?_, q6, fun h w hw => ?_⟩
            · rw [mI1, if_neg (by omega), mI1, if_neg (by omega)]; exact q4
            · rw [mI1, if_neg (by omega), mI1, if_neg (by omega)]; exact q5
            · rw [mI1, if_neg (by omega), mI1, if_neg (by omega)]; exact q7 h w hw
        · refine ⟨(nI (d + 1), L), ?_, rfl, p2, p3, p4, p5, ?_⟩
          · show f_X6_hang_l38 (fr_X6_hang d') (nI c) (nI (atF p c)) (nI (ofF a g p c)) (nI (D.1 5 c)) (nI d) L = _
            unfold f_X6_hang_l38 f_X6_hang_b171_38
            simp only [zv_eq]
            rw [l10, bI, zk_true, tT_h hTL, if_neg (nI_ge hd (by omega)), zd, zk_true, zk_true, zk_true, cd, tT_wa hTL d hd, l109, if_pos (nI_le (by omega) (by omega)), nI_k1]
          · show SvR L (D.1 0 1) (fo (hwF D li dy a g) ((p * 5 + (0 + d)) * 5 ^ k) (5 ^ k) _)
            rw [Nat.zero_add, hang_skip (by omega) (fun z => hroom (hext.1 z).2)]; exact p6
      · rintro ⟨z1, L⟩ ⟨p1, p2, p3, p4, p5, p6⟩
        simp only at p1 p2 p3 p4 p5 p6
        subst p1
        obtain ⟨hCL, -, l10, -⟩ := hgc_fg p2 hH
        refine ⟨L, ?_, p2, p3, p4, p5, p6⟩
        show f_X6_hang_l38 (fr_X6_hang d') (nI c) (nI (atF p c)) (nI (ofF a g p c)) (nI (D.1 5 c)) (nI (D.1 0 0)) L = _
        unfold f_X6_hang_l38
        simp only [zv_eq]
        rw [l10, bI, zk_true, tT_h hCL.2.2.1, if_pos (nI_le (Nat.le_refl _) (by omega))]
    obtain ⟨e, k1, k2, k3, k4, k5, k6⟩ := key
    refine ⟨e, ?_, k2, k3, k4, k5, ?_⟩
    · unfold fr_X6_hang f_X6_hang
      simp only [zv_eq]
      rw [h10, bI, zk_true, tT_w hT, if_neg (nI_ge hcW (by omega)), if_pos (show nI c < 6 from nI_lt (b := 6) (by omega) (by omega)), zk_true, zm_ck_t (zm_in_nI (by omega) (by omega)), nI_clamp (by omega), tT_ki hT c hcW]
      have k1' : zm_lp (fun s => f_X6_hang_l38 (fr_X6_hang d') (nI c) (nI (atF p c)) (nI (ofF a g p c)) (nI (D.1 5 c)) s.1 s.2) (0, M) = some e := k1
      rw [k1']; rfl
    · rw [fo_blk]
      have e6 := fo_add (fun s d => fo (hwF D li dy a g) ((p * 5 + d) * 5 ^ k) (5 ^ k) s) 0 (D.1 0 0) s (5 - D.1 0 0)
      rw [show D.1 0 0 + (5 - D.1 0 0) = 5 by omega] at e6
      rw [e6, fo_skip (fun i hi s' => ?_)]
      · exact k6
      · refine hang_skip (c := c) (by omega) (fun z => ?_)
        have := (rmP_ext (D := D) (c := c) (p := p) (d := 0 + D.1 0 0 + i) (by omega) hp).1 z
        omega
