/-! the reference's ways -/
theorem r_threes {M : zm_Mem} {k : Nat} (hk : k ≤ 6) : f_X11_threes (nI k) M = some (nI (3 ^ k)) := by
  have key : zm_lp (fun s => f_X11_threes_l4 (nI k) s.1 s.2) (1, 0) = some (nI (3 ^ k)) := by
    refine lp_for (step := fun s => f_X11_threes_l4 (nI k) s.1 s.2) (fun i => (nI (3 ^ i), nI i)) k (fun i hi => ?_) ?_
    · show f_X11_threes_l4 (nI k) (nI (3 ^ i)) (nI i) = _
      unfold f_X11_threes_l4
      rw [if_neg (nI_ge hi (by omega))]
      simp only [zv_eq]
      rw [nI_k1, show (3 : Int32) = nI 3 from rfl, pk_mul, ← Nat.pow_succ]
    · show f_X11_threes_l4 (nI k) (nI (3 ^ k)) (nI k) = _
      unfold f_X11_threes_l4
      rw [if_pos (nI_le (Nat.le_refl _) (by omega))]
  unfold f_X11_threes
  rw [key]; rfl
theorem p3_le {k : Nat} (hk : k ≤ 6) : 0 < 3 ^ k ∧ 3 ^ k ≤ 729 := ⟨Nat.pow_pos (by omega), Nat.pow_le_pow_right (n := 3) (by omega) hk⟩
def dBF (co : Nat) (T : Nat → Nat) (W way : Nat) : Option Nat := if (co ≤ 1 ∧ 0 < ldF T way 1 W) ∨ (co ≤ 2 ∧ 0 < ldF T way 2 W) then none else some (max (max (ldF T way 0 W) (ldF T way 1 W)) (ldF T way 2 W))
def oI : Option Nat → Int32
  | none => -nI 1
  | some x => nI x
theorem ldF_le {T : Nat → Nat} {W : Nat} (hT : ∀ w, w < W → T w ≤ 99) (way c : Nat) : ldF T way c W ≤ 99 * W := sumOf_le (fun w hw => by
  have := hT w hw
  split <;> omega)
theorem r_daysBy {M : zm_Mem} {t v n : Nat} {D : zD} {S : Nat → Nat} {T : Nat → Nat} (hC : Cx M t v D S n) (hT97 : ∀ w, w < D.1 0 1 → M.1 97 w = nI (T w)) (hTl : ∀ w, w < D.1 0 1 → T w ≤ 99) {way : Nat} (hw : way < 1000) : f_X11_daysBy (nI way) M = some (oI (dBF (D.1 0 4) T (D.1 0 1) way)) := by
  have ht := hC.2.1
  have hT := hC.2.2.1
  have hR := hC.2.2.2
  have bI := cx_isT hC
  have bv := tT_v hT
  have bh := tT_bh hT
  have bw := tT_bw hT
  have bk := tT_bk hT
  have bco := tT_bco hT
  have hv2 : zm_in (nI v) 2 = true := zm_in_nI (by omega) (by omega)
  have hcv : (nI v).toNatClampNeg = v := nI_clamp (by omega)
  have inner : ∀ c, c < 3 → zm_lp (fun s => f_X11_daysBy_l15_4 (nI way) M (nI c) s.1 s.2) (0, 0) = some (nI (ldF T way c (D.1 0 1))) := by
    intro c hc
    refine bind_some_id ?_
    refine lp_sum (st := fun b i => f_X11_daysBy_l15_4 (nI way) M (nI c) b i) (fun w => if way / 3 ^ w % 3 = c then T w else 0) (D.1 0 1) 99 (fun w hw => by have := hTl w hw; split <;> omega) (fun i b hi hb => ?_) (fun b hb => ?_)
    · have p3 := p3_le (k := i) (by omega)
      have hd : way / 3 ^ i < 1000 := Nat.lt_of_le_of_lt (Nat.div_le_self _ _) hw
      have k3 : (!decide ((3 : Int32) = 0)) = true := by decide
      have k4 : (!decide (nI (3 ^ i) = 0)) = true := by
        rw [Bool.not_eq_true', decide_eq_false_iff_not]
        exact nI_ne0 p3.1 (by omega)
      unfold f_X11_daysBy_l15_4 f_X11_daysBy_b54_15_4
      rw [tT_live hT, hv2, zk_true, hcv, tT_rw hT, if_neg (nI_ge hi (by omega)), r_threes (by omega), zb1_some, k4, zk_true, k3, zk_true, pk_div (by omega) p3.1 (by omega), show nI (way / 3 ^ i) - nI (way / 3 ^ i) / 3 * 3 = nI (way / 3 ^ i % 3) from pk_rem (d := 3) (by omega) (by omega) (by omega)]
      by_cases h : way / 3 ^ i % 3 = c
      · rw [if_pos (by rw [h]), if_pos h, zm_ck_t (zm_in_nI (by omega) (by omega)), nI_clamp (by omega), hT97 i hi]
        simp only [zv_eq]
        rw [nI_add, nI_k1]
      · rw [if_neg (by rw [nI_eq (by omega) (by omega)]; exact h), if_neg h]
        simp only [zv_eq]
        rw [nI_k1]; rfl
    · unfold f_X11_daysBy_l15_4
      rw [tT_live hT, hv2, zk_true, hcv, tT_rw hT, if_pos (nI_le (Nat.le_refl _) (by omega))]
  have hl := fun c => ldF_le hTl way c
  have l0 := hl 0
  have l1 := hl 1
  have l2 := hl 2
  have step : ∀ c m, c < 3 → m < 1000 → f_X11_daysBy_l4 (nI way) M (nI m) (nI c) = if D.1 0 4 ≤ c ∧ 0 < ldF T way c (D.1 0 1) then some (.inr (.inl ())) else some (.inl (nI (max m (ldF T way c (D.1 0 1))), nI (c + 1))) := by
    intro c m hc hm
    have lc := hl c
    have b80 : f_X11_daysBy_b80_4 (nI m) (nI c) (nI (ldF T way c (D.1 0 1))) = some (.inl (nI (max m (ldF T way c (D.1 0 1))), nI (c + 1))) := by
      unfold f_X11_daysBy_b80_4 f_X11_daysBy_b89_4
      simp only [zv_eq]
      rw [nI_k1]
      by_cases h : ldF T way c (D.1 0 1) ≤ m
      · rw [if_pos (nI_le h (by omega)), Nat.max_eq_left h]
      · rw [if_neg (nI_ge (by omega) (by omega)), Nat.max_eq_right (by omega)]
    unfold f_X11_daysBy_l4
    rw [if_neg (show ¬ (3 : Int32) ≤ nI c from nI_ge (b := 3) hc (by omega)), inner c hc]
    simp only [Option.bind_some]
    unfold f_X11_daysBy_x60_15_4
    rw [tT_live hT, hv2, zk_true, hcv, tT_rco hT, b80]
    by_cases h1 : c < D.1 0 4
    · rw [if_pos (nI_lt h1 (by omega)), if_neg (by omega)]
    · rw [if_neg (nI_nlt (by omega) (by omega))]
      by_cases h2 : ldF T way c (D.1 0 1) ≤ 0
      · rw [if_pos (show nI (ldF T way c (D.1 0 1)) ≤ 0 from nI_le (b := 0) h2 (by omega)), if_neg (by omega)]
      · rw [if_neg (show ¬ nI (ldF T way c (D.1 0 1)) ≤ 0 from nI_nle (by omega) (by omega)), if_pos (by omega)]
  have s0 := step 0 0 (by omega) (by omega)
  rw [if_neg (by omega), Nat.max_eq_right (Nat.zero_le _)] at s0
  have go0 : zm_lp (fun s => f_X11_daysBy_l4 (nI way) M s.1 s.2) (0, 0) = zm_lp (fun s => f_X11_daysBy_l4 (nI way) M s.1 s.2) (nI (ldF T way 0 (D.1 0 1)), nI 1) := lp_go (step := fun s => f_X11_daysBy_l4 (nI way) M s.1 s.2) s0
  have s1 := step 1 (ldF T way 0 (D.1 0 1)) (by omega) (by omega)
  unfold f_X11_daysBy dBF
  rw [go0]
  by_cases c1 : D.1 0 4 ≤ 1 ∧ 0 < ldF T way 1 (D.1 0 1)
  · rw [if_pos c1] at s1
    rw [lp_end (step := fun s => f_X11_daysBy_l4 (nI way) M s.1 s.2) s1, if_pos (Or.inl c1)]; rfl
  · rw [if_neg c1] at s1
    rw [lp_go (step := fun s => f_X11_daysBy_l4 (nI way) M s.1 s.2) s1]
    have s2 := step 2 (max (ldF T way 0 (D.1 0 1)) (ldF T way 1 (D.1 0 1))) (by omega) (by omega)
    by_cases c2 : D.1 0 4 ≤ 2 ∧ 0 < ldF T way 2 (D.1 0 1)
    · rw [if_pos c2] at s2
      rw [lp_end (step := fun s => f_X11_daysBy_l4 (nI way) M s.1 s.2) s2, if_pos (Or.inr c2)]; rfl
    · rw [if_neg c2] at s2
      rw [lp_go (step := fun s => f_X11_daysBy_l4 (nI way) M s.1 s.2) s2, if_neg (fun z => z.elim c1 c2)]
      rw [lp_end (step := fun s => f_X11_daysBy_l4 (nI way) M s.1 s.2) (e := .inr (nI (max (max (ldF T way 0 (D.1 0 1)) (ldF T way 1 (D.1 0 1))) (ldF T way 2 (D.1 0 1)))))]
      · rfl
      · show f_X11_daysBy_l4 (nI way) M _ (nI (2 + 1)) = _
        unfold f_X11_daysBy_l4
        rw [if_pos (by decide)]
/-- the least so far -/
def mnF (f : Nat → Option Nat) : Nat → Option Nat
  | 0 => none
  | i + 1 => match f i, mnF f i with
    | none, m => m
    | some v, none => some v
    | some v, some b => if b ≤ v then some b else some v
theorem mnF_spec (f : Nat → Option Nat) : ∀ N, (mnF f N = none → ∀ i, i < N → f i = none) ∧ ∀ m, mnF f N = some m → (∃ i, i < N ∧ f i = some m) ∧ ∀ i v, i < N → f i = some v → m ≤ v
  | 0 => ⟨fun _ i hi => by omega, fun m h => by cases h⟩
  | N + 1 => by
    obtain ⟨h1, h2⟩ := mnF_spec f N
    unfold mnF
    cases hf : f N with
    | none =>
      simp only
      refine ⟨fun h i hi => ?_, fun m h => ?_⟩
      · by_cases hiN : i = N
        · subst hiN; exact hf
        · exact h1 h i (by omega)
      · obtain ⟨⟨i, hi, hi2⟩, h4⟩ := h2 m h
        refine ⟨⟨i, by omega, hi2⟩, fun i v hi hv => ?_⟩
        by_cases hiN : i = N
        · subst hiN; rw [hf] at hv; cases hv
        · exact h4 i v (by omega) hv
    | some v =>
      cases hm : mnF f N with
      | none =>
        simp only
        refine ⟨(fun h => by cases h), fun m h => ?_⟩
        cases h
        refine ⟨⟨N, by omega, hf⟩, fun i u hi hu => ?_⟩
        by_cases hiN : i = N
        · subst hiN; rw [hf] at hu; cases hu; exact Nat.le_refl _
        · rw [h1 hm i (by omega)] at hu; cases hu
      | some b =>
        simp only
        obtain ⟨⟨i0, hi0, hi02⟩, h4⟩ := h2 b hm
        by_cases hbv : b ≤ v
        · rw [if_pos hbv]
          refine ⟨(fun h => by cases h), fun m h => ?_⟩
          cases h
          refine ⟨⟨i0, by omega, hi02⟩, fun i u hi hu => ?_⟩
          by_cases hiN : i = N
          · subst hiN; rw [hf] at hu; cases hu; exact hbv
          · exact h4 i u (by omega) hu
        · rw [if_neg hbv]
          refine ⟨(fun h => by cases h), fun m h => ?_⟩
          cases h
          refine ⟨⟨N, by omega, hf⟩, fun i u hi hu => ?_⟩
          by_cases hiN : i = N
          · subst hiN; rw [hf] at hu; cases hu; exact Nat.le_refl _
          · have := h4 i u (by omega) hu; omega
def wLg (x j : Nat) : Bool := decide (x = 24) || wC x j
def wGo (x j : Nat) : Bool := decide (x = 97) || wQ x j
theorem sc_Lg {M M' : zm_Mem} (h : Fr wLg M M') : Sc M M' := fr_sc (fun x j h => by
  simp only [wLg, Bool.or_eq_true, decide_eq_true_eq] at h
  rcases h with rfl | h
  · rfl
  · exact wC_iv h) h
theorem sc_Go {M M' : zm_Mem} (h : Fr wGo M M') : Sc M M' := fr_sc (fun x j h => by
  simp only [wGo, Bool.or_eq_true, decide_eq_true_eq] at h
  rcases h with rfl | h
  · rfl
  · exact wQ_iv h) h
theorem sn_Lg {M M' : zm_Mem} {t dy : Nat} {D : zD} {a : Nat → Bool} {g : Nat → Nat} (hF : Fr wLg M M') (h : Sn M t D a g dy) : Sn M' t D a g dy := ⟨by rw [hF.1]; exact h.1, (hF.2 49 8 rfl).trans h.2.1, fun j hj => (hF.2 51 j rfl).trans (h.2.2 j hj)⟩
theorem c_soonest {M : zm_Mem} {t v n : Nat} {D : zD} {S : Nat → Nat} (hn : n < 512) (hC : Cx M t v D S n) : ∃ M', f_X10_soonest M = some (nI (shr (D.1 0 4) (tlF (toGo D (S 0) (fun j => S (4 + j))) (D.1 0 1)) 0 0 0), M') ∧ Sc M M' := by
  have ht := hC.2.1
  have hT := hC.2.2.1
  have hR := hC.2.2.2
  have bI := cx_isT hC
  have bv := tT_v hT
  have bh := tT_bh hT
  have bw := tT_bw hT
  have bk := tT_bk hT
  obtain ⟨M1, e1, s1, n1⟩ := c_lookToday hn hC
  have hC1 := cx_sc s1 hC
  have hg := hg_S hC
  have key : ∃ e, zm_lp (fun s => f_X10_soonest_l8 s.1 s.2.1 s.2.2) (nI 0, nI 0, M1) = some e ∧ (e.1 = nI (lgR D (S 0) (fun j => S (4 + j)) (D.1 0 1)).length ∧ Fr wLg M1 e.2 ∧ Stk (e.2.1 24) ((lgR D (S 0) (fun j => S (4 + j)) (D.1 0 1)).map nI)) := by
    refine lp_inv (step := fun s => f_X10_soonest_l8 s.1 s.2.1 s.2.2) (fun i z => z.1 = nI (lgR D (S 0) (fun j => S (4 + j)) i).length ∧ z.2.1 = nI i ∧ Fr wLg M1 z.2.2 ∧ Stk (z.2.2.1 24) ((lgR D (S 0) (fun j => S (4 + j)) i).map nI)) _ (D.1 0 1) ?_ ?_ ⟨rfl, rfl, fr_rfl _ M1, trivial⟩
    · rintro i ⟨z1, z2, L⟩ hi ⟨p1, p2, p3, p4⟩
      simp only at p1 p2 p3 p4
      subst p1 p2
      have hCL := cx_sc (sc_Lg p3) hC1
      have hTL := hCL.2.2.1
      have hSL := sn_Lg p3 n1
      have hgi : S (4 + i) < 5 := hg i hi
      have hwi := tT_Wb hT i hi
      have hlen := lgR_len D (S 0) (fun j => S (4 + j)) i
      have el : lgR D (S 0) (fun j => S (4 + j)) (i + 1) = if S (4 + i) = D.1 3 i then lgR D (S 0) (fun j => S (4 + j)) i else toGo D (S 0) (fun j => S (4 + j)) i :: lgR D (S 0) (fun j => S (4 + j)) i := rfl
      by_cases hgo : S (4 + i) = D.1 3 i
      · rw [if_pos hgo] at el
        refine Or.inl ⟨(nI (lgR D (S 0) (fun j => S (4 + j)) i).length, nI (i + 1), L), ?_, by rw [el], rfl, p3, by rw [el]; exact p4⟩
        show f_X10_soonest_l8 _ (nI i) L = _
        unfold f_X10_soonest_l8 f_X10_soonest_b65_8
        simp only [zv_eq]
        rw [hCL.2.1, bI, zk_true, tT_w hTL, if_neg (nI_ge hi (by omega)), c_goal hCL hi, zb1_some, zk_true, zm_ck_t (zm_in_nI (by omega) (by omega)), nI_clamp (by omega), tT_ow hTL i hi, if_pos (by rw [hgo]), nI_k1]
      · rw [if_neg hgo] at el
        obtain ⟨L', k1, k2⟩ := c_journey hCL hSL hi hwi.1
        have te := tpn_eq D (vr D i (D.1 3 i) 0 0 (S 0))
        rw [te.1] at k1
        have etg : toGo D (S 0) (fun j => S (4 + j)) i = tpn D (vr D i (D.1 3 i) 0 0 (S 0)) := if_neg hgo
        refine Or.inl ⟨(nI ((lgR D (S 0) (fun j => S (4 + j)) i).length + 1), nI (i + 1), zm_sI L' 24 (lgR D (S 0) (fun j => S (4 + j)) i).length (nI (toGo D (S 0) (fun j => S (4 + j)) i))), ?_, by rw [el]; rfl, rfl, ?_, ?_⟩
        · show f_X10_soonest_l8 _ (nI i) L = _
          unfold f_X10_soonest_l8 f_X10_soonest_b65_8
          simp only [zv_eq]
          rw [hCL.2.1, bI, zk_true, tT_w hTL, if_neg (nI_ge hi (by omega)), c_goal hCL hi, zb1_some, zk_true, zm_ck_t (zm_in_nI (by omega) (by omega)), nI_clamp (by omega), tT_ow hTL i hi, if_neg (by rw [nI_eq (by omega) (by omega)]; exact hgo), zk_true, zm_ck_t (zm_in_nI (by omega) (by omega)), k1, zb2_some, zm_ck_t (zm_in_nI (by omega) (by omega)), nI_clamp (by omega), nI_k1, nI_k1, etg]
        · exact fr_tr p3 (fr_tr (fr_mono (fun x j h => by unfold wLg; rw [h, Bool.or_true]) k2) (fr_sI rfl))
        · rw [el]
          have h24 : Stk (L'.1 24) ((lgR D (S 0) (fun j => S (4 + j)) i).map nI) := by
            rw [fr_row k2 (x := 24) (fun _ => rfl)]; exact p4
          have := stk_push (x := nI (toGo D (S 0) (fun j => S (4 + j)) i)) h24
          rw [List.length_map] at this
          exact this
    · rintro ⟨z1, z2, L⟩ ⟨p1, p2, p3, p4⟩
      simp only at p1 p2 p3 p4
      subst p1 p2
      have hCL := cx_sc (sc_Lg p3) hC1
      refine ⟨(nI (lgR D (S 0) (fun j => S (4 + j)) (D.1 0 1)).length, L), ?_, rfl, p3, p4⟩
      show f_X10_soonest_l8 _ (nI (D.1 0 1)) L = _
      unfold f_X10_soonest_l8
      simp only [zv_eq]
      rw [hCL.2.1, bI, zk_true, tT_w hCL.2.2.1, if_pos (nI_le (Nat.le_refl _) (by omega))]
  obtain ⟨⟨z, L⟩, k1, k2, k3, k4⟩ := key
  simp only at k2 k3 k4
  have hCL := cx_sc (sc_Lg k3) hC1
  have hlen := lgR_len D (S 0) (fun j => S (4 + j)) (D.1 0 1)
  have ks := c_share hCL (lgR D (S 0) (fun j => S (4 + j)) (D.1 0 1)) 8 0 0 0 (by omega) (by omega) (lgR_le D (S 0) (fun j => S (4 + j)) (D.1 0 1)) (by omega) k4
  refine ⟨L, ?_, sc_tr s1 (sc_Lg k3)⟩
  unfold f_X10_soonest
  rw [e1, zb2_some]
  have k1' : zm_lp (fun s => f_X10_soonest_l8 s.1 s.2.1 s.2.2) (0, 0, M1) = some (z, L) := k1
  rw [k1']
  simp only [Option.bind_some]
  unfold f_X10_soonest_x71_8 f_X10_shareOutR
  rw [k2]
  have ks' : fr_X10_shareOut 8 0 (nI (lgR D (S 0) (fun j => S (4 + j)) (D.1 0 1)).length - 1) 0 0 0 L = _ := ks
  rw [ks', zb1_some, shr_lg]
theorem r_soonest {M : zm_Mem} {t v n : Nat} {D : zD} {S : Nat → Nat} (hC : Cx M t v D S n) : ∃ M', f_X11_soonest M = some (nI (shr (D.1 0 4) (tlF (toGo D (S 0) (fun j => S (4 + j))) (D.1 0 1)) 0 0 0), M') ∧ Sc M M' := by
  have ht := hC.2.1
  have hT := hC.2.2.1
  have hR := hC.2.2.2
  have bI := cx_isT hC
  have bv := tT_v hT
  have bh := tT_bh hT
  have bw := tT_bw hT
  have bk := tT_bk hT
  have hg := hg_S hC
  obtain ⟨P, c1, c2, c3, c4, c5, c6⟩ := r_cp hC
  have hCP := cx_sc c2 hC
  have hv2 : zm_in (nI v) 2 = true := zm_in_nI (by omega) (by omega)
  have hcv : (nI v).toNatClampNeg = v := nI_clamp (by omega)
  generalize hTG : toGo D (S 0) (fun j => S (4 + j)) = T
  have hTl : ∀ w, w < D.1 0 1 → T w ≤ 99 := fun w _ => by rw [← hTG]; exact toGo_le D (S 0) _ w
  have key : ∃ e, zm_lp (fun s => f_X11_soonest_l6 s.1 s.2) (nI 0, P) = some e ∧ (Fr wGo P e ∧ ∀ w, w < D.1 0 1 → e.1 97 w = nI (T w)) := by
    refine lp_inv (step := fun s => f_X11_soonest_l6 s.1 s.2) (fun i z => z.1 = nI i ∧ Fr wGo P z.2 ∧ ∀ w, w < i → z.2.1 97 w = nI (T w)) _ (D.1 0 1) ?_ ?_ ⟨rfl, fr_rfl _ P, fun w hw => by omega⟩
    · rintro i ⟨z1, L⟩ hi ⟨p1, p2, p3⟩
      simp only at p1 p2 p3
      subst p1
      have hCL := cx_sc (sc_Go p2) hCP
      have hTL := hCL.2.2.1
      have l92 : ∀ j, L.1 92 j = P.1 92 j := fun j => p2.2 92 j rfl
      have rwL : Rw L D (isAt S (S 0)) (fun j => S (4 + j)) (S 0) (S 3) := ⟨(l92 30).trans c3.1, fun j hj => (l92 j).trans (c3.2.1 j hj), fun j hj => (l92 _).trans (c3.2.2 j hj)⟩
      have hgi : S (4 + i) < 5 := hg i hi
      have hwi := tT_Wb hT i hi
      have hrow : f_X11_soonest_l6 (nI i) L = f_X11_soonest_b46_6 (nI i) L (nI (S (4 + i))) := by
        have r1 := (c6 i hi).1
        have r2 := (c6 i hi).2.1
        have hneg : ¬ (0 : Int32) ≤ -nI 2 := by decide
        unfold f_X11_soonest_l6
        rw [tT_live hTL, hv2, zk_true, hcv, tT_rw hTL, if_neg (nI_ge hi (by omega)), zm_ck_t (zm_in_nI (by omega) (by omega)), nI_clamp (by omega), l92, r1]
        by_cases hat : S (10 + i) ≤ S 0
        · rw [if_pos hat, if_pos (nI_pos' (by omega)), zm_ck_t (zm_in_nI (by omega) (by omega))]
        · rw [if_neg hat, if_neg hneg, show (6 : Int32) + nI i = nI (6 + i) from nI_add 6 i, zm_ck_t (zm_in_nI (by omega) (by omega)), nI_clamp (by omega), l92, r2, if_neg hat]
      have fin : ∀ L', Fr wQ L L' → f_X11_soonest_l6 (nI i) L = some (.inl (nI (i + 1), zm_sI L' 97 i (nI (T i)))) → (∃ s', f_X11_soonest_l6 (nI i) L = some (.inl s') ∧ s'.1 = nI (i + 1) ∧ Fr wGo P s'.2 ∧ ∀ w, w < i + 1 → s'.2.1 97 w = nI (T w)) := by
        intro L' hF he
        refine ⟨_, he, rfl, fr_tr p2 (fr_tr (fr_mono (fun x j h => by unfold wGo; rw [h, Bool.or_true]) hF) (fr_sI rfl)), fun w hw => ?_⟩
        show (zm_sI L' 97 i (nI (T i))).1 97 w = _
        rw [mI1]
        by_cases hwi : w = i
        · rw [if_pos ⟨rfl, hwi⟩, hwi]
        · rw [if_neg (fun z => hwi z.2), hF.2 97 w rfl]
          exact p3 w (by omega)
      refine Or.inl ?_
      by_cases hgo : S (4 + i) = D.1 3 i
      · have et : T i = 0 := by rw [← hTG]; exact if_pos hgo
        refine fin L (fr_rfl _ L) ?_
        rw [hrow]
        unfold f_X11_soonest_b46_6 f_X11_soonest_b75_6
        rw [r_ownerNow hCL hi, zb1_some, if_pos (by rw [hgo]), zm_ck_t (zm_in_nI (by omega) (by omega)), nI_clamp (by omega), et]
        simp only [zv_eq]
        rw [nI_k1]; rfl
      · have et : T i = tpn D (vr D i (D.1 3 i) 0 0 (S 0)) := by rw [← hTG]; exact if_neg hgo
        obtain ⟨L', k1, k2⟩ := r_tripOf hCL rwL hi hwi.1
        rw [(tpn_eq D (vr D i (D.1 3 i) 0 0 (S 0))).1, ← et] at k1
        refine fin L' k2 ?_
        rw [hrow]
        unfold f_X11_soonest_b46_6 f_X11_soonest_b75_6
        rw [r_ownerNow hCL hi, zb1_some, if_neg (by rw [nI_eq (by omega) (by omega)]; exact hgo), zb1_some, k1, zb2_some, zm_ck_t (zm_in_nI (by omega) (by omega)), nI_clamp (by omega)]
        simp only [zv_eq]
        rw [nI_k1]
    · rintro ⟨z1, L⟩ ⟨p1, p2, p3⟩
      simp only at p1 p2 p3
      subst p1
      have hTL := (cx_sc (sc_Go p2) hCP).2.2.1
      refine ⟨L, ?_, p2, p3⟩
      show f_X11_soonest_l6 (nI (D.1 0 1)) L = _
      unfold f_X11_soonest_l6
      rw [tT_live hTL, hv2, zk_true, hcv, tT_rw hTL, if_pos (nI_le (Nat.le_refl _) (by omega))]
  obtain ⟨Z, k1, k2, k3⟩ := key
  have hCZ := cx_sc (sc_Go k2) hCP
  have hTZ := hCZ.2.2.1
  have p3 := p3_le bw
  have loop : zm_lp (fun s => f_X11_soonest_l86 Z s.1 s.2) ((-1), 0) = some (oI (mnF (dBF (D.1 0 4) T (D.1 0 1)) (3 ^ D.1 0 1))) := by
    have hbd : ∀ i v, dBF (D.1 0 4) T (D.1 0 1) i = some v → v ≤ 600 := by
      intro i v hv
      unfold dBF at hv
      have l0 := ldF_le hTl i 0
      have l1 := ldF_le hTl i 1
      have l2 := ldF_le hTl i 2
      split at hv
      · cases hv
      · cases hv; omega
    refine lp_for (step := fun s => f_X11_soonest_l86 Z s.1 s.2) (fun i => (oI (mnF (dBF (D.1 0 4) T (D.1 0 1)) i), nI i)) (3 ^ D.1 0 1) (fun i hi => ?_) ?_
    · show f_X11_soonest_l86 Z (oI _) (nI i) = _
      have hd := r_daysBy hCZ k3 hTl (way := i) (by omega)
      have em : mnF (dBF (D.1 0 4) T (D.1 0 1)) (i + 1) = match dBF (D.1 0 4) T (D.1 0 1) i, mnF (dBF (D.1 0 4) T (D.1 0 1)) i with
        | none, m => m
        | some v, none => some v
        | some v, some b => if b ≤ v then some b else some v := rfl
      unfold f_X11_soonest_l86 f_X11_soonest_b121_86 f_X11_soonest_b123_86
      rw [tT_live hTZ, hv2, zk_true, hcv, tT_rw hTZ, r_threes bw, zb1_some, if_neg (nI_ge hi (by omega)), hd, zb1_some, em]
      simp only [zv_eq]
      rw [nI_k1]
      have hneg : -nI 1 < (0 : Int32) := by decide
      cases hdb : dBF (D.1 0 4) T (D.1 0 1) i with
      | none =>
        rw [if_pos (show oI none < (0 : Int32) from hneg)]
      | some v =>
        have hv6 := hbd i v hdb
        cases hm : mnF (dBF (D.1 0 4) T (D.1 0 1)) i with
        | none =>
          rw [if_neg (show ¬ oI (some v) < (0 : Int32) from nI_pos (by omega)), if_pos (show oI none < (0 : Int32) from hneg)]
        | some b =>
          obtain ⟨i0, _, hi0⟩ := ((mnF_spec (dBF (D.1 0 4) T (D.1 0 1)) i).2 b hm).1
          have hb6 := hbd i0 b hi0
          rw [if_neg (show ¬ oI (some v) < (0 : Int32) from nI_pos (by omega)), if_neg (show ¬ oI (some b) < (0 : Int32) from nI_pos (by omega))]
          show _ = some (Sum.inl (oI (if b ≤ v then some b else some v), nI (i + 1)))
          by_cases hbv : b ≤ v
          · rw [if_pos (show oI (some b) ≤ oI (some v) from nI_le hbv (by omega)), if_pos hbv]
          · rw [if_neg (show ¬ oI (some b) ≤ oI (some v) from nI_ge (by omega) (by omega)), if_neg hbv]
    · show f_X11_soonest_l86 Z _ (nI (3 ^ D.1 0 1)) = _
      unfold f_X11_soonest_l86
      rw [tT_live hTZ, hv2, zk_true, hcv, tT_rw hTZ, r_threes bw, zb1_some, if_pos (nI_le (Nat.le_refl _) (by omega))]
  have hmin : mnF (dBF (D.1 0 4) T (D.1 0 1)) (3 ^ D.1 0 1) = some (shr (D.1 0 4) (tlF T (D.1 0 1)) 0 0 0) := by
    obtain ⟨way, w1, w2, w3, w4⟩ := shr_ex (D.1 0 4) T (D.1 0 1) 0 0 0
    have dw : dBF (D.1 0 4) T (D.1 0 1) way = some (shr (D.1 0 4) (tlF T (D.1 0 1)) 0 0 0) := by
      unfold dBF
      rw [if_neg (by
        rintro (⟨z1, z2⟩ | ⟨z1, z2⟩)
        · have := w2 z1; omega
        · have := w3 z1; omega)]
      congr 1
      omega
    obtain ⟨q1, q2⟩ := mnF_spec (dBF (D.1 0 4) T (D.1 0 1)) (3 ^ D.1 0 1)
    cases hm : mnF (dBF (D.1 0 4) T (D.1 0 1)) (3 ^ D.1 0 1) with
    | none => rw [q1 hm way w1] at dw; cases dw
    | some m =>
      obtain ⟨⟨i, i1, i2⟩, q3⟩ := q2 m hm
      have le1 := q3 way _ w1 dw
      unfold dBF at i2
      by_cases hc : (D.1 0 4 ≤ 1 ∧ 0 < ldF T i 1 (D.1 0 1)) ∨ (D.1 0 4 ≤ 2 ∧ 0 < ldF T i 2 (D.1 0 1))
      · rw [if_pos hc] at i2; cases i2
      · rw [if_neg hc] at i2
        have i3 := Option.some.inj i2
        have le2 := shr_lb (D.1 0 4) T (D.1 0 1) 0 0 0 i i1 (fun z => by
          refine Classical.byContradiction (fun y => hc (Or.inl ⟨z, by omega⟩))) (fun z => by
          refine Classical.byContradiction (fun y => hc (Or.inr ⟨z, by omega⟩)))
        congr 1
        omega
  rw [hmin] at loop
  refine ⟨Z, ?_, sc_tr c2 (sc_Go k2)⟩
  unfold f_X11_soonest
  rw [c1, zb2_some]
  have k1' : zm_lp (fun s => f_X11_soonest_l6 s.1 s.2) (0, P) = some Z := k1
  rw [k1']
  simp only [Option.bind_some]
  unfold f_X11_soonest_x82_6
  rw [loop]; rfl
theorem ag_soonest {M : zm_Mem} {q n : Nat} (hI : Inv M q n) (hn : n < 512) : Ag (f_X10_soonest M) (fun M1 => f_X11_soonest M1) q n := by
  have hI' := hI
  obtain ⟨t, v, D, S, hC, hX⟩ := hI'
  obtain ⟨M1, e1, s1⟩ := c_soonest hn hC
  obtain ⟨M2, e2, s2⟩ := r_soonest (cx_sc s1 hC)
  exact ag_mk hI e1 e2 (sc_tr s1 s2)
