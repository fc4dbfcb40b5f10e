/-- a loop, its state made of a number, something gathered and a memory -/
theorem lp_gen {τ ε σ : Type} {step : τ → Option (τ ⊕ ε)} (mk : Nat → σ → zm_Mem → τ) (mkE : σ → zm_Mem → ε) (W : Nat → Nat → Bool) (F : Nat → σ) (N : Nat) (M : zm_Mem) (h : ∀ i L, i < N → Fr W M L → ∃ L', step (mk i (F i) L) = some (.inl (mk (i + 1) (F (i + 1)) L')) ∧ Fr W L L') (he : ∀ L, Fr W M L → step (mk N (F N) L) = some (.inr (mkE (F N) L))) : ∃ M', zm_lp step (mk 0 (F 0) M) = some (mkE (F N) M') ∧ Fr W M M' := by
  have key : ∀ m i L, i + m = N → Fr W M L → ∃ M', zm_lp step (mk i (F i) L) = some (mkE (F N) M') ∧ Fr W M M' := by
    intro m
    induction m with
    | zero =>
      intro i L hi hF
      have hi' : i = N := by omega
      subst hi'
      exact ⟨L, lp_end (he L hF), hF⟩
    | succ m ih =>
      intro i L hi hF
      obtain ⟨L', h1, h2⟩ := h i L (by omega) hF
      obtain ⟨M', h3, h4⟩ := ih (i + 1) L' (by omega) (fr_tr hF h2)
      exact ⟨M', by rw [lp_go h1, h3], h4⟩
  exact key N 0 M (by omega) (fr_rfl _ M)
/-! exchanges -/
def gnF (D : zD) (a : Nat → Bool) (g : Nat → Nat) (dy w o : Nat) : Int32 := lk D (vq D a g dy o (g w) (nI w)) - lk D (vq D a g dy w (g w) (-nI 1))
def swB (D : zD) (a : Nat → Bool) (g : Nat → Nat) (dy w o : Nat) : Bool := a w && (a o && (!decide (g w = g o) && (decide (0 < gnF D a g dy w o) && decide (0 < gnF D a g dy o w))))
def gsF (D : zD) (a : Nat → Bool) (g : Nat → Nat) (dy w o : Nat) : Int32 := if swB D a g dy w o = true then gnF D a g dy w o + gnF D a g dy o w else 0
theorem gn_pos {D : zD} {a : Nat → Bool} {g : Nat → Nat} {dy w o : Nat} (h : 0 < gnF D a g dy w o) : ∃ u, 1 ≤ u ∧ u ≤ 99 ∧ gnF D a g dy w o = nI u := by
  unfold gnF at h ⊢
  obtain ⟨y, hy, e1⟩ := lk_nat D (vq D a g dy o (g w) (nI w))
  obtain ⟨z, hz, e2⟩ := lk_nat D (vq D a g dy w (g w) (-nI 1))
  rw [e1, e2] at h ⊢
  rw [Int32.lt_iff_toInt_lt, pk_sub_toInt (by omega) (by omega), show (0 : Int32).toInt = 0 by decide] at h
  exact ⟨y - z, by omega, by omega, pk_sub (by omega)⟩
theorem gs_pos {D : zD} {a : Nat → Bool} {g : Nat → Nat} {dy w o : Nat} (h : swB D a g dy w o = true) : ∃ u, 1 ≤ u ∧ u ≤ 198 ∧ gnF D a g dy w o + gnF D a g dy o w = nI u := by
  simp only [swB, Bool.and_eq_true, decide_eq_true_eq] at h
  obtain ⟨u, u1, u2, e1⟩ := gn_pos h.2.2.2.1
  obtain ⟨z, z1, z2, e2⟩ := gn_pos h.2.2.2.2
  exact ⟨u + z, by omega, by omega, by rw [e1, e2, nI_add]⟩
theorem c_gainOf {M : zm_Mem} {t v n dy : Nat} {D : zD} {S : Nat → Nat} {a : Nat → Bool} {g : Nat → Nat} (hC : Cx M t v D S n) (hS : Sn M t D a g dy) (hg : ∀ j, j < D.1 0 1 → g j < 5) (hh : ∀ j, j < D.1 0 1 → g j < D.1 0 0) {w o : Nat} (hw : w < D.1 0 1) (ho : o < D.1 0 1) : ∃ M', f_X10_gainOf (nI (g w)) (nI w) (nI o) M = some (gnF D a g dy w o, M') ∧ Fr wC M M' := by
  obtain ⟨M1, e1, f1⟩ := c_liking hC hS hg (nI w) ho (hh w hw)
  obtain ⟨M2, e2, f2⟩ := c_liking (cx_C f1 hC) (sn_C f1 hS) hg (-nI 1) hw (hh w hw)
  refine ⟨M2, ?_, fr_tr f1 f2⟩
  unfold f_X10_gainOf
  rw [e1, zb2_some, show (-1 : Int32) = -nI 1 from rfl, e2, zb2_some]; rfl
theorem r_gainOf {M : zm_Mem} {t v n dy li : Nat} {D : zD} {S : Nat → Nat} {a : Nat → Bool} {g : Nat → Nat} (hC : Cx M t v D S n) (hS : Rw M D a g dy li) (hg : ∀ j, j < D.1 0 1 → g j < 5) (hh : ∀ j, j < D.1 0 1 → g j < D.1 0 0) {w o : Nat} (hw : w < D.1 0 1) (ho : o < D.1 0 1) (ha : a w = true) : ∃ M', f_X11_gainOf (nI w) (nI o) M = some (gnF D a g dy w o, M') ∧ Fr wQ M M' := by
  have ht := hC.2.1
  have hT := hC.2.2.1
  have hR := hC.2.2.2
  have bI := cx_isT hC
  have bv := tT_v hT
  have bh := tT_bh hT
  have bw := tT_bw hT
  have bk := tT_bk hT
  obtain ⟨M1, e1, f1⟩ := r_likesOf hC hS hg (nI w) ho (hh w hw)
  obtain ⟨M2, e2, f2⟩ := r_likesOf (cx_Q f1 hC) (rw_Q f1 hS) hg (-nI 1) hw (hh w hw)
  have hsp := hS.2.1 w hw
  rw [if_pos ha] at hsp
  refine ⟨M2, ?_, fr_tr f1 f2⟩
  unfold f_X11_gainOf
  rw [zm_ck_t (zm_in_nI (by omega) (by omega)), nI_clamp (by omega), hsp]
  simp only [zv_eq]
  rw [e1, zb2_some, show (-1 : Int32) = -nI 1 from rfl, e2, zb2_some]; rfl
theorem c_gains {M : zm_Mem} {t v n : Nat} {D : zD} {S : Nat → Nat} (hn : n < 512) (hC : Cx M t v D S n) (hS : Sn M t D (isAt S (S 0)) (fun j => S (4 + j)) (S 0)) {w o : Nat} (hw : w < D.1 0 1) (ho : o < D.1 0 1) : ∃ M', f_X10_gainsOfSwap (nI w) (nI o) M = some (gsF D (isAt S (S 0)) (fun j => S (4 + j)) (S 0) w o, M') ∧ Fr wC M M' := by
  have ht := hC.2.1
  have hT := hC.2.2.1
  have hR := hC.2.2.2
  have bI := cx_isT hC
  have bv := tT_v hT
  have bh := tT_bh hT
  have bw := tT_bw hT
  have bk := tT_bk hT
  have hg := hg_S hC
  have hh := hh_S hC
  have hgw := hg w hw
  have hgo := hg o ho
  simp only at hgw hgo
  unfold f_X10_gainsOfSwap f_X10_gainsOfSwap_b90 gsF swB
  rw [c_underWay hC hn hw, c_underWay hC hn ho, c_goal hC hw, c_goal hC ho]
  simp only [zb1_some]
  cases ha : isAt S (S 0) w with
  | false => exact ⟨M, by rw [if_neg (c := false = true) (by decide), if_neg (by decide)]; rfl, fr_rfl _ M⟩
  | true =>
    cases ha2 : isAt S (S 0) o with
    | false => exact ⟨M, by rw [if_pos (c := true = true) rfl, if_pos rfl, if_neg (c := false = true) (by decide), if_neg (by decide)]; rfl, fr_rfl _ M⟩
    | true =>
      by_cases hgg : S (4 + w) = S (4 + o)
      · refine ⟨M, ?_, fr_rfl _ M⟩
        rw [if_pos (c := true = true) rfl, if_pos rfl, if_pos rfl, if_pos (by rw [hgg])]
        simp only [hgg, decide_true, Bool.not_true, Bool.false_and, Bool.and_false]
        rfl
      · obtain ⟨M1, e1, f1⟩ := c_gainOf hC hS hg hh hw ho
        obtain ⟨M2, e2, f2⟩ := c_gainOf (cx_C f1 hC) (sn_C f1 hS) hg hh ho hw
        refine ⟨M2, ?_, fr_tr f1 f2⟩
        rw [if_pos (c := true = true) rfl, if_pos rfl, if_pos rfl, if_neg (by rw [nI_eq (by omega) (by omega)]; exact hgg), e1, zb2_some, c_goal (cx_C f1 hC) ho, zb1_some, e2, zb2_some]
        by_cases p1 : 0 < gnF D (isAt S (S 0)) (fun j => S (4 + j)) (S 0) w o
        · by_cases p2 : 0 < gnF D (isAt S (S 0)) (fun j => S (4 + j)) (S 0) o w
          · rw [if_neg (Int32.not_le.2 p1), if_neg (Int32.not_le.2 p2)]
            simp only [hgg, p1, p2, decide_true, decide_false, Bool.not_false, Bool.and_self, if_true]
          · rw [if_neg (Int32.not_le.2 p1), if_pos (Int32.not_lt.1 p2)]
            simp only [p2, decide_false, Bool.and_false, reduceCtorEq, if_false]
        · rw [if_pos (Int32.not_lt.1 p1)]
          simp only [p1, decide_false, Bool.false_and, Bool.and_false, reduceCtorEq, if_false]
theorem r_isSwap {M : zm_Mem} {t v n dy li : Nat} {D : zD} {S : Nat → Nat} {a : Nat → Bool} {g : Nat → Nat} (hC : Cx M t v D S n) (hS : Rw M D a g dy li) (hg : ∀ j, j < D.1 0 1 → g j < 5) (hh : ∀ j, j < D.1 0 1 → g j < D.1 0 0) {w o : Nat} (hw : w < D.1 0 1) (ho : o < D.1 0 1) : ∃ M', f_X11_isSwap (nI w) (nI o) M = some (if swB D a g dy w o = true then nI 1 else nI 0, M') ∧ Fr wQ M M' := by
  have ht := hC.2.1
  have hT := hC.2.2.1
  have hR := hC.2.2.2
  have bI := cx_isT hC
  have bv := tT_v hT
  have bh := tT_bh hT
  have bw := tT_bw hT
  have bk := tT_bk hT
  have hsw := hS.2.1 w hw
  have hso := hS.2.1 o ho
  have hgw := hg w hw
  have hgo := hg o ho
  have hneg : (-nI 2 : Int32) < 0 := by decide
  have z1 : zm_in (nI w) 60 = true := zm_in_nI (by omega) (by omega)
  have z2 : zm_in (nI o) 60 = true := zm_in_nI (by omega) (by omega)
  unfold f_X11_isSwap f_X11_isSwap_b55 swB
  rw [z1, z2, nI_clamp (show w < 2 ^ 31 by omega), nI_clamp (show o < 2 ^ 31 by omega), hsw, hso]
  simp only [zk_true]
  cases ha : a w with
  | false => exact ⟨M, by rw [if_neg (c := false = true) (by decide), if_pos hneg]; rfl, fr_rfl _ M⟩
  | true =>
    rw [if_pos (c := true = true) rfl, if_neg (nI_pos (by omega))]
    cases ha2 : a o with
    | false => exact ⟨M, by rw [if_neg (c := false = true) (by decide), if_pos hneg]; rfl, fr_rfl _ M⟩
    | true =>
      rw [if_pos (c := true = true) rfl, if_neg (nI_pos (by omega))]
      by_cases hgg : g w = g o
      · refine ⟨M, ?_, fr_rfl _ M⟩
        rw [if_pos (by rw [hgg])]
        simp only [hgg, decide_true, Bool.not_true, Bool.false_and, Bool.and_false]
        rfl
      · rw [if_neg (by rw [nI_eq (by omega) (by omega)]; exact hgg)]
        obtain ⟨M1, e1, f1⟩ := r_gainOf hC hS hg hh hw ho ha
        rw [e1, zb2_some]
        by_cases p1 : 0 < gnF D a g dy w o
        · obtain ⟨M2, e2, f2⟩ := r_gainOf (cx_Q f1 hC) (rw_Q f1 hS) hg hh ho hw ha2
          rw [if_neg (Int32.not_le.2 p1), e2, zb2_some]
          refine ⟨M2, ?_, fr_tr f1 f2⟩
          by_cases p2 : 0 < gnF D a g dy o w
          · rw [if_neg (Int32.not_le.2 p2)]
            simp only [hgg, p1, p2, decide_true, decide_false, Bool.not_false, Bool.and_self, if_true]
            rfl
          · rw [if_pos (Int32.not_lt.1 p2)]
            simp only [p2, decide_false, Bool.and_false, reduceCtorEq, if_false]
            rfl
        · refine ⟨M1, ?_, f1⟩
          rw [if_pos (Int32.not_lt.1 p1)]
          simp only [p1, decide_false, Bool.false_and, Bool.and_false, reduceCtorEq, if_false]
          rfl
/-- the pairs gone through -/
abbrev zS4 : Type := Int32 × Int32 × Int32 × Int32
def cst (D : zD) (a : Nat → Bool) (g : Nat → Nat) (dy w o : Nat) (s : zS4) : zS4 :=
  if gsF D a g dy w o ≤ s.2.1 then (if gsF D a g dy w o ≤ 0 then s.1 else s.1 + 1, s.2) else (if gsF D a g dy w o ≤ 0 then s.1 else s.1 + 1, gsF D a g dy w o, nI w, nI o)
def rst (D : zD) (a : Nat → Bool) (g : Nat → Nat) (dy w o : Nat) (s : zS4) : zS4 :=
  if swB D a g dy w o = true then (if s.2.2.2 < gnF D a g dy w o + gnF D a g dy o w then (s.1 + 1, nI w, nI o, gnF D a g dy w o + gnF D a g dy o w) else (s.1 + 1, s.2)) else s
def inn (f : Nat → Nat → zS4 → zS4) (w : Nat) (s : zS4) : Nat → zS4
  | 0 => s
  | k + 1 => f w (w + 1 + k) (inn f w s k)
def otr (f : Nat → Nat → zS4 → zS4) (N : Nat) (s : zS4) : Nat → zS4
  | 0 => s
  | w + 1 => inn f w (otr f N s w) (N - (w + 1))
def swR (K : Nat) (c r : zS4) : Prop := c.1 = r.1 ∧ c.2.2.1 = r.2.1 ∧ c.2.2.2 = r.2.2.1 ∧ ((c.1 = nI 0 ∧ c.2.1 = nI 0 ∧ r.2 = (-nI 2, -nI 2, -nI 2)) ∨ ∃ m u, 1 ≤ m ∧ m ≤ K ∧ 1 ≤ u ∧ u ≤ 198 ∧ c.1 = nI m ∧ c.2.1 = nI u ∧ r.2.2.2 = nI u)
theorem swR_step {D : zD} {a : Nat → Bool} {g : Nat → Nat} {dy w o K : Nat} {c r : zS4} (h : swR K c r) : swR (K + 1) (cst D a g dy w o c) (rst D a g dy w o r) := by
  obtain ⟨h1, h2, h3, h4⟩ := h
  unfold cst rst
  cases hs : swB D a g dy w o with
  | false =>
    have e0 : gsF D a g dy w o = nI 0 := by unfold gsF; rw [hs]; rfl
    rw [if_neg (c := false = true) (by decide), e0, if_pos (c := nI 0 ≤ 0) (by decide)]
    have hle : nI 0 ≤ c.2.1 := by
      rcases h4 with ⟨_, q, _⟩ | ⟨m, u, m1, m2, u1, u2, q1, q2, q3⟩
      · rw [q]; decide
      · rw [q2]; exact nI_pos' (by omega)
    rw [if_pos hle]
    refine ⟨h1, h2, h3, ?_⟩
    rcases h4 with h4 | ⟨m, u, m1, m2, q⟩
    · exact Or.inl h4
    · exact Or.inr ⟨m, u, m1, by omega, q⟩
  | true =>
    obtain ⟨z, z1, z2, ez⟩ := gs_pos hs
    have e0 : gsF D a g dy w o = nI z := by unfold gsF; rw [hs, if_pos rfl, ez]
    rw [if_pos (c := true = true) rfl, e0, ez, if_neg (show ¬ nI z ≤ 0 from nI_nle (by omega) (by omega))]
    rcases h4 with ⟨q0, q1, q2⟩ | ⟨m, u, m1, m2, u1, u2, q1, q2, q3⟩
    · have hlt : r.2.2.2 < nI z := by rw [q2]; exact (zi_nl (by omega) (by omega) (by omega)).2 trivial
      rw [if_neg (by rw [q1]; exact nI_ge (by omega) (by omega)), if_pos hlt]
      refine ⟨by rw [h1], rfl, rfl, Or.inr ⟨1, z, by omega, by omega, z1, z2, ?_, rfl, rfl⟩⟩
      show c.1 + 1 = _
      rw [q0]; rfl
    · by_cases hzu : z ≤ u
      · rw [if_pos (by rw [q2]; exact nI_le hzu (by omega)), if_neg (by rw [q3]; exact nI_nlt hzu (by omega))]
        refine ⟨by rw [h1], h2, h3, Or.inr ⟨m + 1, u, by omega, by omega, u1, u2, ?_, q2, q3⟩⟩
        show c.1 + 1 = _
        rw [q1, nI_k1]
      · rw [if_neg (by rw [q2]; exact nI_ge (by omega) (by omega)), if_pos (by rw [q3]; exact nI_lt (by omega) (by omega))]
        refine ⟨by rw [h1], rfl, rfl, Or.inr ⟨m + 1, z, by omega, by omega, z1, z2, ?_, rfl, rfl⟩⟩
        show c.1 + 1 = _
        rw [q1, nI_k1]
theorem swR_mono {K K' : Nat} {c r : zS4} (hK : K ≤ K') (h : swR K c r) : swR K' c r := by
  obtain ⟨h1, h2, h3, h4⟩ := h
  refine ⟨h1, h2, h3, ?_⟩
  rcases h4 with h4 | ⟨m, u, m1, m2, q⟩
  · exact Or.inl h4
  · exact Or.inr ⟨m, u, m1, by omega, q⟩
theorem swR_inn {D : zD} {a : Nat → Bool} {g : Nat → Nat} {dy w K : Nat} {c r : zS4} (h : swR K c r) : ∀ k, swR (K + k) (inn (cst D a g dy) w c k) (inn (rst D a g dy) w r k)
  | 0 => h
  | k + 1 => swR_step (swR_inn h k)
theorem swR_otr {D : zD} {a : Nat → Bool} {g : Nat → Nat} {dy N : Nat} {c r : zS4} (h : swR 0 c r) : ∀ w, w ≤ N → swR (N * w) (otr (cst D a g dy) N c w) (otr (rst D a g dy) N r w)
  | 0, _ => h
  | w + 1, hw => by
    refine swR_mono ?_ (swR_inn (swR_otr h w (by omega)) (N - (w + 1)))
    rw [Nat.mul_succ]; omega
theorem c_swaps {M : zm_Mem} {t v n : Nat} {D : zD} {S : Nat → Nat} (hn : n < 512) (hC : Cx M t v D S n) (hS : Sn M t D (isAt S (S 0)) (fun j => S (4 + j)) (S 0)) : ∃ M', zm_lp (fun s => f_X10_swapAnswer_l15 s.1 s.2.1 s.2.2.1 s.2.2.2.1 s.2.2.2.2.1 s.2.2.2.2.2) (0, 0, (-2), (-2), 0, M) = some ((otr (cst D (isAt S (S 0)) (fun j => S (4 + j)) (S 0)) (D.1 0 1) (0, 0, -nI 2, -nI 2) (D.1 0 1)).1, (otr (cst D (isAt S (S 0)) (fun j => S (4 + j)) (S 0)) (D.1 0 1) (0, 0, -nI 2, -nI 2) (D.1 0 1)).2.1, (otr (cst D (isAt S (S 0)) (fun j => S (4 + j)) (S 0)) (D.1 0 1) (0, 0, -nI 2, -nI 2) (D.1 0 1)).2.2.1, (otr (cst D (isAt S (S 0)) (fun j => S (4 + j)) (S 0)) (D.1 0 1) (0, 0, -nI 2, -nI 2) (D.1 0 1)).2.2.2, M') ∧ Fr wC M M' := by
  have ht := hC.2.1
  have hT := hC.2.2.1
  have hR := hC.2.2.2
  have bI := cx_isT hC
  have bv := tT_v hT
  have bh := tT_bh hT
  have bw := tT_bw hT
  have bk := tT_bk hT
  refine lp_gen (step := fun s => f_X10_swapAnswer_l15 s.1 s.2.1 s.2.2.1 s.2.2.2.1 s.2.2.2.2.1 s.2.2.2.2.2) (fun i (s : zS4) L => (s.1, s.2.1, s.2.2.1, s.2.2.2, nI i, L)) (fun (s : zS4) L => (s.1, s.2.1, s.2.2.1, s.2.2.2, L)) wC (otr (cst D (isAt S (S 0)) (fun j => S (4 + j)) (S 0)) (D.1 0 1) (0, 0, -nI 2, -nI 2)) (D.1 0 1) M (fun w L hw hF => ?_) (fun L hF => ?_)
  · have hCL := cx_C hF hC
    have hSL := sn_C hF hS
    have hTL := hCL.2.2.1
    obtain ⟨L', h1, h2⟩ := lp_gen (step := fun s => f_X10_swapAnswer_l33_15 (nI w) s.1 s.2.1 s.2.2.1 s.2.2.2.1 s.2.2.2.2.1 s.2.2.2.2.2) (fun i (s : zS4) L => (s.1, s.2.1, s.2.2.1, s.2.2.2, nI (w + 1 + i), L)) (fun (s : zS4) L => (s.1, s.2.1, s.2.2.1, s.2.2.2, L)) wC (inn (cst D (isAt S (S 0)) (fun j => S (4 + j)) (S 0)) w (otr (cst D (isAt S (S 0)) (fun j => S (4 + j)) (S 0)) (D.1 0 1) (0, 0, -nI 2, -nI 2) w)) (D.1 0 1 - (w + 1)) L (fun k K hk hFK => by
      have hCK := cx_C hFK hCL
      have hSK := sn_C hFK hSL
      have hTK := hCK.2.2.1
      obtain ⟨K', e1, f1⟩ := c_gains hn hCK hSK hw (show w + 1 + k < D.1 0 1 by omega)
      refine ⟨K', ?_, f1⟩
      generalize hs : inn (cst D (isAt S (S 0)) (fun j => S (4 + j)) (S 0)) w (otr (cst D (isAt S (S 0)) (fun j => S (4 + j)) (S 0)) (D.1 0 1) (0, 0, -nI 2, -nI 2) w) k = s
      have hs' : inn (cst D (isAt S (S 0)) (fun j => S (4 + j)) (S 0)) w (otr (cst D (isAt S (S 0)) (fun j => S (4 + j)) (S 0)) (D.1 0 1) (0, 0, -nI 2, -nI 2) w) (k + 1) = cst D (isAt S (S 0)) (fun j => S (4 + j)) (S 0) w (w + 1 + k) s := by rw [← hs]; rfl
      rw [hs']
      show f_X10_swapAnswer_l33_15 (nI w) s.1 s.2.1 s.2.2.1 s.2.2.2 (nI (w + 1 + k)) K = _
      unfold f_X10_swapAnswer_l33_15 f_X10_swapAnswer_b63_33_15 f_X10_swapAnswer_b80_33_15
      simp only [zv_eq]
      rw [hCK.2.1, bI, zk_true, tT_w hTK, if_neg (nI_ge (by omega) (by omega)), e1, zb2_some, nI_k1]
      unfold cst
      by_cases p1 : gsF D (isAt S (S 0)) (fun j => S (4 + j)) (S 0) w (w + 1 + k) ≤ 0
      · by_cases p2 : gsF D (isAt S (S 0)) (fun j => S (4 + j)) (S 0) w (w + 1 + k) ≤ s.2.1
        · rw [if_pos p1, if_pos p2, if_pos p2, if_pos p1]; rfl
        · rw [if_pos p1, if_neg p2, if_neg p2, if_pos p1]; rfl
      · by_cases p2 : gsF D (isAt S (S 0)) (fun j => S (4 + j)) (S 0) w (w + 1 + k) ≤ s.2.1
        · rw [if_neg p1, if_pos p2, if_pos p2, if_neg p1]; rfl
        · rw [if_neg p1, if_neg p2, if_neg p2, if_neg p1]; rfl) (fun K hFK => by
      have hCK := cx_C hFK hCL
      have hTK := hCK.2.2.1
      show f_X10_swapAnswer_l33_15 (nI w) _ _ _ _ (nI (w + 1 + (D.1 0 1 - (w + 1)))) K = _
      unfold f_X10_swapAnswer_l33_15
      simp only [zv_eq]
      rw [hCK.2.1, bI, zk_true, tT_w hTK, if_pos (nI_le (by omega) (by omega))])
    refine ⟨L', ?_, h2⟩
    generalize hs : otr (cst D (isAt S (S 0)) (fun j => S (4 + j)) (S 0)) (D.1 0 1) (0, 0, -nI 2, -nI 2) w = s at h1
    have hs' : otr (cst D (isAt S (S 0)) (fun j => S (4 + j)) (S 0)) (D.1 0 1) (0, 0, -nI 2, -nI 2) (w + 1) = inn (cst D (isAt S (S 0)) (fun j => S (4 + j)) (S 0)) w s (D.1 0 1 - (w + 1)) := by rw [← hs]; rfl
    rw [hs']
    show f_X10_swapAnswer_l15 s.1 s.2.1 s.2.2.1 s.2.2.2 (nI w) L = _
    unfold f_X10_swapAnswer_l15
    simp only [zv_eq]
    rw [hCL.2.1, bI, zk_true, tT_w hTL, if_neg (nI_ge (by omega) (by omega)), nI_k1]
    simp only [Nat.add_zero] at h1
    have h1' : zm_lp (fun s => f_X10_swapAnswer_l33_15 (nI w) s.1 s.2.1 s.2.2.1 s.2.2.2.1 s.2.2.2.2.1 s.2.2.2.2.2) (s.1, s.2.1, s.2.2.1, s.2.2.2, nI (w + 1), L) = _ := h1
    rw [h1']
    simp only [Option.bind_some]
    unfold f_X10_swapAnswer_x86_33_15
    simp only [zv_eq]
    rw [nI_k1]
  · have hCL := cx_C hF hC
    have hTL := hCL.2.2.1
    show f_X10_swapAnswer_l15 _ _ _ _ (nI (D.1 0 1)) L = _
    unfold f_X10_swapAnswer_l15
    simp only [zv_eq]
    rw [hCL.2.1, bI, zk_true, tT_w hTL, if_pos (nI_le (by omega) (by omega))]
theorem r_swaps {M : zm_Mem} {t v n dy li : Nat} {D : zD} {S : Nat → Nat} {a : Nat → Bool} {g : Nat → Nat} (hC : Cx M t v D S n) (hS : Rw M D a g dy li) (hg : ∀ j, j < D.1 0 1 → g j < 5) (hh : ∀ j, j < D.1 0 1 → g j < D.1 0 0) : ∃ M', zm_lp (fun s => f_X11_swaps_l31 s.1 s.2.1 s.2.2.1 s.2.2.2.1 s.2.2.2.2.1 s.2.2.2.2.2) (0, (-2), (-2), (-2), 0, M) = some ((otr (rst D a g dy) (D.1 0 1) (0, -nI 2, -nI 2, -nI 2) (D.1 0 1)).1, (otr (rst D a g dy) (D.1 0 1) (0, -nI 2, -nI 2, -nI 2) (D.1 0 1)).2.1, (otr (rst D a g dy) (D.1 0 1) (0, -nI 2, -nI 2, -nI 2) (D.1 0 1)).2.2.1, (otr (rst D a g dy) (D.1 0 1) (0, -nI 2, -nI 2, -nI 2) (D.1 0 1)).2.2.2, M') ∧ Fr wQ M M' := by
  have ht := hC.2.1
  have hT := hC.2.2.1
  have hR := hC.2.2.2
  have bI := cx_isT hC
  have bv := tT_v hT
  have bh := tT_bh hT
  have bw := tT_bw hT
  have bk := tT_bk hT
  have hv2 : zm_in (nI v) 2 = true := zm_in_nI (by omega) (by omega)
  have hcv : (nI v).toNatClampNeg = v := nI_clamp (by omega)
  refine lp_gen (step := fun s => f_X11_swaps_l31 s.1 s.2.1 s.2.2.1 s.2.2.2.1 s.2.2.2.2.1 s.2.2.2.2.2) (fun i (s : zS4) L => (s.1, s.2.1, s.2.2.1, s.2.2.2, nI i, L)) (fun (s : zS4) L => (s.1, s.2.1, s.2.2.1, s.2.2.2, L)) wQ (otr (rst D a g dy) (D.1 0 1) (0, -nI 2, -nI 2, -nI 2)) (D.1 0 1) M (fun w L hw hF => ?_) (fun L hF => ?_)
  · have hCL := cx_Q hF hC
    have hSL := rw_Q hF hS
    have hTL := hCL.2.2.1
    obtain ⟨L', h1, h2⟩ := lp_gen (step := fun s => f_X11_swaps_l51_31 (nI w) s.1 s.2.1 s.2.2.1 s.2.2.2.1 s.2.2.2.2.1 s.2.2.2.2.2) (fun i (s : zS4) L => (s.1, s.2.1, s.2.2.1, s.2.2.2, nI (w + 1 + i), L)) (fun (s : zS4) L => (s.1, s.2.1, s.2.2.1, s.2.2.2, L)) wQ (inn (rst D a g dy) w (otr (rst D a g dy) (D.1 0 1) (0, -nI 2, -nI 2, -nI 2) w)) (D.1 0 1 - (w + 1)) L (fun k K hk hFK => by
      have hCK := cx_Q hFK hCL
      have hSK := rw_Q hFK hSL
      have hTK := hCK.2.2.1
      have ho : w + 1 + k < D.1 0 1 := by omega
      obtain ⟨K1, e1, f1⟩ := r_isSwap hCK hSK hg hh hw ho
      generalize hs : inn (rst D a g dy) w (otr (rst D a g dy) (D.1 0 1) (0, -nI 2, -nI 2, -nI 2) w) k = s
      have hs' : inn (rst D a g dy) w (otr (rst D a g dy) (D.1 0 1) (0, -nI 2, -nI 2, -nI 2) w) (k + 1) = rst D a g dy w (w + 1 + k) s := by rw [← hs]; rfl
      rw [hs']
      cases hsw : swB D a g dy w (w + 1 + k) with
      | false =>
        rw [hsw] at e1
        refine ⟨K1, ?_, f1⟩
        show f_X11_swaps_l51_31 (nI w) s.1 s.2.1 s.2.2.1 s.2.2.2 (nI (w + 1 + k)) K = _
        unfold f_X11_swaps_l51_31 f_X11_swaps_b133_51_31 rst
        rw [tT_live hTK, hv2, zk_true, hcv, tT_rw hTK, if_neg (nI_ge (by omega) (by omega)), e1, zb2_some, if_neg (c := false = true) (by decide), if_pos (by rfl), hsw, if_neg (c := false = true) (by decide)]
        simp only [zv_eq]
        rw [nI_k1]; rfl
      | true =>
        rw [hsw] at e1
        have haa : a w = true ∧ a (w + 1 + k) = true := by
          simp only [swB, Bool.and_eq_true] at hsw
          exact ⟨hsw.1, hsw.2.1⟩
        obtain ⟨K2, e2, f2⟩ := r_gainOf (cx_Q f1 hCK) (rw_Q f1 hSK) hg hh hw ho haa.1
        have f12 := fr_tr f1 f2
        obtain ⟨K3, e3, f3⟩ := r_gainOf (cx_Q f12 hCK) (rw_Q f12 hSK) hg hh ho hw haa.2
        have f13 := fr_tr f12 f3
        obtain ⟨K4, e4, f4⟩ := r_gainOf (cx_Q f13 hCK) (rw_Q f13 hSK) hg hh hw ho haa.1
        have f14 := fr_tr f13 f4
        obtain ⟨K5, e5, f5⟩ := r_gainOf (cx_Q f14 hCK) (rw_Q f14 hSK) hg hh ho hw haa.2
        have f15 := fr_tr f14 f5
        by_cases hlt : s.2.2.2 < gnF D a g dy w (w + 1 + k) + gnF D a g dy (w + 1 + k) w
        · refine ⟨K5, ?_, f15⟩
          show f_X11_swaps_l51_31 (nI w) s.1 s.2.1 s.2.2.1 s.2.2.2 (nI (w + 1 + k)) K = _
          unfold f_X11_swaps_l51_31 f_X11_swaps_b133_51_31 rst
          rw [tT_live hTK, hv2, zk_true, hcv, tT_rw hTK, if_neg (nI_ge (by omega) (by omega)), e1, zb2_some, if_pos (c := true = true) rfl, if_neg (by decide), hsw, if_pos (c := true = true) rfl]
          simp only [zv_eq]
          rw [e2, zb2_some, e3, zb2_some, if_pos hlt, e4, zb2_some, e5, zb2_some, nI_k1, if_pos hlt]; rfl
        · refine ⟨K3, ?_, f13⟩
          show f_X11_swaps_l51_31 (nI w) s.1 s.2.1 s.2.2.1 s.2.2.2 (nI (w + 1 + k)) K = _
          unfold f_X11_swaps_l51_31 f_X11_swaps_b133_51_31 rst
          rw [tT_live hTK, hv2, zk_true, hcv, tT_rw hTK, if_neg (nI_ge (by omega) (by omega)), e1, zb2_some, if_pos (c := true = true) rfl, if_neg (by decide), hsw, if_pos (c := true = true) rfl]
          simp only [zv_eq]
          rw [e2, zb2_some, e3, zb2_some, if_neg hlt, nI_k1, if_neg hlt]; rfl) (fun K hFK => by
      have hCK := cx_Q hFK hCL
      have hTK := hCK.2.2.1
      show f_X11_swaps_l51_31 (nI w) _ _ _ _ (nI (w + 1 + (D.1 0 1 - (w + 1)))) K = _
      unfold f_X11_swaps_l51_31
      rw [tT_live hTK, hv2, zk_true, hcv, tT_rw hTK, if_pos (nI_le (by omega) (by omega))])
    refine ⟨L', ?_, h2⟩
    generalize hs : otr (rst D a g dy) (D.1 0 1) (0, -nI 2, -nI 2, -nI 2) w = s at h1
    have hs' : otr (rst D a g dy) (D.1 0 1) (0, -nI 2, -nI 2, -nI 2) (w + 1) = inn (rst D a g dy) w s (D.1 0 1 - (w + 1)) := by rw [← hs]; rfl
    rw [hs']
    show f_X11_swaps_l31 s.1 s.2.1 s.2.2.1 s.2.2.2 (nI w) L = _
    unfold f_X11_swaps_l31
    rw [tT_live hTL, hv2, zk_true, hcv, tT_rw hTL, if_neg (nI_ge (by omega) (by omega))]
    simp only [zv_eq]
    rw [nI_k1]
    simp only [Nat.add_zero] at h1
    have h1' : zm_lp (fun s => f_X11_swaps_l51_31 (nI w) s.1 s.2.1 s.2.2.1 s.2.2.2.1 s.2.2.2.2.1 s.2.2.2.2.2) (s.1, s.2.1, s.2.2.1, s.2.2.2, nI (w + 1), L) = _ := h1
    rw [h1']
    simp only [Option.bind_some]
    unfold f_X11_swaps_x139_51_31
    simp only [zv_eq]
    rw [nI_k1]
  · have hCL := cx_Q hF hC
    have hTL := hCL.2.2.1
    show f_X11_swaps_l31 _ _ _ _ (nI (D.1 0 1)) L = _
    unfold f_X11_swaps_l31
    rw [tT_live hTL, hv2, zk_true, hcv, tT_rw hTL, if_pos (nI_le (by omega) (by omega))]
theorem ag_swaps {M : zm_Mem} {q n : Nat} (hI : Inv M q n) (hn : n < 512) (a1 : Int32) : Ag (f_X10_swaps a1 M) (fun M1 => f_X11_swaps a1 M1) q n := by
  have hI' := hI
  obtain ⟨t, v, D, S, hC, hX⟩ := hI'
  have ht := hC.2.1
  have hT := hC.2.2.1
  have hR := hC.2.2.2
  have bI := cx_isT hC
  have bv := tT_v hT
  have bh := tT_bh hT
  have bw := tT_bw hT
  have bk := tT_bk hT
  by_cases hin : -1 ≤ a1 ∧ a1 ≤ 2
  rotate_left
  · refine ag_mk hI (r := -1) (M1 := M) (M2 := M) ?_ ?_ (sc_rfl M)
    · unfold f_X10_swaps
      by_cases h0 : a1 < -1
      · rw [if_pos h0]
      · rw [if_neg h0, if_neg (fun z => hin ⟨Int32.not_lt.1 h0, z⟩)]
    · show f_X11_swaps a1 M = _
      unfold f_X11_swaps
      rw [r_in, if_neg hin]; rfl
  obtain ⟨M1, e1, s1, n1⟩ := c_lookToday hn hC
  have hC1 := cx_sc s1 hC
  obtain ⟨M2, e2, f2⟩ := c_swaps hn hC1 n1
  have s2 := sc_tr s1 (sc_C f2)
  have hC2 := cx_sc s2 hC
  obtain ⟨P, c1, c2, c3, c4, c5, c6⟩ := r_cp hC2
  obtain ⟨Q, q1, q2⟩ := r_swaps (cx_sc c2 hC2) c3 (hg_S hC) (hh_S hC)
  have hRel := swR_otr (D := D) (a := isAt S (S 0)) (g := fun j => S (4 + j)) (dy := S 0) (N := D.1 0 1) (c := (0, 0, -nI 2, -nI 2)) (r := (0, -nI 2, -nI 2, -nI 2)) ⟨rfl, rfl, rfl, Or.inl ⟨rfl, rfl, rfl⟩⟩ (D.1 0 1) (Nat.le_refl _)
  generalize otr (cst D (isAt S (S 0)) (fun j => S (4 + j)) (S 0)) (D.1 0 1) (0, 0, -nI 2, -nI 2) (D.1 0 1) = c at hRel e2
  generalize otr (rst D (isAt S (S 0)) (fun j => S (4 + j)) (S 0)) (D.1 0 1) (0, -nI 2, -nI 2, -nI 2) (D.1 0 1) = r at hRel q1
  obtain ⟨h1, h2, h3, h4⟩ := hRel
  have h36 : D.1 0 1 * D.1 0 1 ≤ 6 * 6 := Nat.mul_le_mul bw bw
  have kc : f_X10_swaps a1 M = f_X10_swapAnswer_x92_15 a1 c.1 c.2.1 c.2.2.1 c.2.2.2 M2 := by
    unfold f_X10_swaps f_X10_swapAnswer
    rw [if_neg (Int32.not_lt.2 hin.1), if_pos hin.2, e1, zb2_some, e2]
    simp only [Option.bind_some]
    unfold zm_b2
    cases f_X10_swapAnswer_x92_15 a1 c.1 c.2.1 c.2.2.1 c.2.2.2 M2 with
    | none => rfl
    | some z => rfl
  have kr : f_X11_swaps a1 M2 = f_X11_swaps_x145_31 a1 r.1 r.2.1 r.2.2.1 r.2.2.2 Q := by
    unfold f_X11_swaps
    rw [r_in, if_pos hin, zb1_some, if_neg (by decide), c1, zb2_some, q1]
    rfl
  have fin : ∃ z, f_X10_swapAnswer_x92_15 a1 c.1 c.2.1 c.2.2.1 c.2.2.2 M2 = some (z, M2) ∧ f_X11_swaps_x145_31 a1 r.1 r.2.1 r.2.2.1 r.2.2.2 Q = some (z, Q) := by
    unfold f_X10_swapAnswer_x92_15 f_X11_swaps_x145_31
    by_cases k0 : a1 = -1
    · exact ⟨c.1, by rw [if_pos k0], by rw [if_pos k0, h1]⟩
    · rw [if_neg k0, if_neg k0]
      rcases h4 with ⟨p1, p2, p3⟩ | ⟨m, u, m1, m2, u1, u2, p1, p2, p3⟩
      · refine ⟨-2, by rw [if_pos (show c.1 = 0 from p1)], ?_⟩
        rw [p3]
        simp only
        split
        · rfl
        · split <;> rfl
      · rw [if_neg (by rw [p1]; exact nI_ne0 (by omega) (by omega))]
        by_cases k1 : a1 = 0
        · exact ⟨c.2.2.1, by rw [if_pos k1], by rw [if_pos k1, h2]⟩
        · rw [if_neg k1, if_neg k1]
          by_cases k2 : a1 = 1
          · exact ⟨c.2.2.2, by rw [if_pos k2], by rw [if_pos k2, h3]⟩
          · exact ⟨c.2.1, by rw [if_neg k2], by rw [if_neg k2, p2, p3]⟩
  obtain ⟨z, z1, z2⟩ := fin
  exact ag_mk hI (r := z) (M1 := M2) (M2 := Q) (kc.trans z1) (kr.trans z2) (sc_tr s2 (sc_tr c2 (sc_Q q2)))
