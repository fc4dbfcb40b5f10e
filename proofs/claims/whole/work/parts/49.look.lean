/-! a row copied, place by place -/
def cpM (M : zm_Mem) (a o N : Nat) (f : Nat → Int32) : zm_Mem := (fun x j => if x = a ∧ o ≤ j ∧ j < o + N then f (j - o) else M.1 x j, M.2)
theorem mC1 (M : zm_Mem) (a o N : Nat) (f : Nat → Int32) (x j : Nat) : (cpM M a o N f).1 x j = if x = a ∧ o ≤ j ∧ j < o + N then f (j - o) else M.1 x j := Eq.trans rfl rfl
theorem mC2 (M : zm_Mem) (a o N : Nat) (f : Nat → Int32) : (cpM M a o N f).2 = M.2 := Eq.trans rfl rfl
theorem mC_ne {M : zm_Mem} {a o N : Nat} {f : Nat → Int32} {x j : Nat} (h : x ≠ a) : (cpM M a o N f).1 x j = M.1 x j := by rw [mC1, if_neg (fun z => h z.1)]
theorem mC_in {M : zm_Mem} {a N : Nat} {f : Nat → Int32} {j : Nat} (h : j < N) : (cpM M a 0 N f).1 a j = f j := by rw [mC1, if_pos ⟨rfl, by omega, by omega⟩, Nat.sub_zero]
theorem mC_in' {M : zm_Mem} {a o N : Nat} {f : Nat → Int32} {j : Nat} (h : j < N) : (cpM M a o N f).1 a (o + j) = f j := by rw [mC1, if_pos ⟨rfl, by omega, by omega⟩, Nat.add_sub_cancel_left]
theorem mC_out {M : zm_Mem} {a o N : Nat} {f : Nat → Int32} {j : Nat} (h : j < o ∨ o + N ≤ j) : (cpM M a o N f).1 a j = M.1 a j := by rw [mC1, if_neg (by omega)]
theorem cpM_0 (M : zm_Mem) (a o : Nat) (f : Nat → Int32) : cpM M a o 0 f = M := by
  unfold cpM
  refine Prod.ext ?_ rfl
  funext x j
  exact if_neg (by omega)
theorem cpM_s (M : zm_Mem) (a o i : Nat) (f : Nat → Int32) : zm_sI (cpM M a o i f) a (o + i) (f i) = cpM M a o (i + 1) f := by
  refine Prod.ext ?_ rfl
  funext x j
  rw [mI1, mC1, mC1]
  by_cases h : x = a ∧ j = o + i
  · rw [if_pos h, if_pos ⟨h.1, by omega, by omega⟩, show j - o = i by omega]
  · rw [if_neg h]
    by_cases h2 : x = a ∧ o ≤ j ∧ j < o + i
    · rw [if_pos h2, if_pos ⟨h2.1, h2.2.1, by omega⟩]
    · rw [if_neg h2, if_neg]
      rintro ⟨h3, h4, h5⟩
      by_cases h6 : j = o + i
      · exact h ⟨h3, h6⟩
      · exact h2 ⟨h3, h4, by omega⟩
theorem lp_cpy {st : Int32 → zm_Mem → Option ((Int32 × zm_Mem) ⊕ zm_Mem)} (M : zm_Mem) (a o N : Nat) (f : Nat → Int32) (h : ∀ i, i < N → st (nI i) (cpM M a o i f) = some (.inl (nI (i + 1), zm_sI (cpM M a o i f) a (o + i) (f i)))) (he : st (nI N) (cpM M a o N f) = some (.inr (cpM M a o N f))) : zm_lp (fun s => st s.1 s.2) (0, M) = some (cpM M a o N f) := by
  have := lp_for (step := fun s => st s.1 s.2) (fun i => (nI i, cpM M a o i f)) N (fun i hi => by rw [h i hi, cpM_s]) he
  rw [cpM_0] at this
  exact this
theorem sc_cpM {M : zm_Mem} {a o N : Nat} {f : Nat → Int32} (h : ∀ j, o ≤ j → j < o + N → iv_c a j = false) : Sc M (cpM M a o N f) := by
  refine sc_of (fun x j hc => ?_) (fun _ _ _ => rfl) (fun _ _ _ => rfl) (fun h => h)
  rw [mC1, if_neg]
  rintro ⟨rfl, h1, h2⟩
  rw [h j h1 h2] at hc; cases hc
/-- the class looks at a day -/
theorem c_look {M : zm_Mem} {t v n dy : Nat} {D : zD} {S : Nat → Nat} (hn : n < 512) (hC : Cx M t v D S n) (hd : dy < 100000) : ∃ M', f_X3_look t (nI dy) M = some ((), M') ∧ Sc M M' ∧ Sn M' t D (isAt S dy) (fun j => S (4 + j)) dy := by
  have ht := hC.2.1
  have hT := hC.2.2.1
  have hR := hC.2.2.2
  have bI := cx_isT hC
  have bv := tT_v hT
  have bh := tT_bh hT
  have bw := tT_bw hT
  have bk := tT_bk hT
  have s1 : Sc M (zm_sP M 47 2 t) := sc_sP rfl bI
  have s2 : Sc M (zm_sI (zm_sP M 47 2 t) 49 8 (nI dy)) := sc_tr s1 (sc_sI rfl)
  have key : zm_lp (fun s => f_X3_look_l19 (nI dy) s.1 s.2) (0, zm_sI (zm_sP M 47 2 t) 49 8 (nI dy)) = some (cpM (zm_sI (zm_sP M 47 2 t) 49 8 (nI dy)) 51 0 (D.1 0 1) (fun j => if isAt S dy j = true then nI (S (4 + j)) else -nI 1)) := by
    refine lp_cpy _ 51 0 (D.1 0 1) _ (fun i hi => ?_) ?_
    · have hCL := cx_sc (sc_tr s2 (sc_cpM (a := 51) (o := 0) (N := i) (f := fun j => if isAt S dy j = true then nI (S (4 + j)) else -nI 1) (fun _ _ _ => rfl))) hC
      have hb := (cx_b hC).2 i hi
      have hle : ¬ D.1 0 1 ≤ i := by omega
      have e47 : (cpM (zm_sI (zm_sP M 47 2 t) 49 8 (nI dy)) 51 0 i (fun j => if isAt S dy j = true then nI (S (4 + j)) else -nI 1)).2.2 47 2 = t := rfl
      have ew := tT_w hCL.2.2.1
      simp (disch := omega) only [f_X3_look_l19, f_X3_look_b57_19, ↓zv_eq, ↓zb1_some, ↓zb2_some, ↓zk_true, Option.bind_some, Option.bind_none, Option.map_some, Sum.elim_inl, Sum.elim_inr, if_true, if_false, ↓reduceIte, lt_lit, nI_clamp, zi_in, nI_leI, nI_ltI, nI_eq, nI_add, pk_mul, zi_sub, pk_div, zi_rem, zi_sh1, zi_shr, zi_and1, zi_or, zi_en, zi_ne, zi_ln, zi_nl, zi_lne, zi_nle, zi_nn, zq_01, zq_10, zq_011, zq_at, zq_ta, ite_not, Classical.not_not, e47, bI, ew, hle, c_arrival hCL hi, c_goal hCL hi, Nat.zero_add]
      simp only [isAt, decide_eq_true_eq]
      by_cases h : S (10 + i) ≤ dy
      · rw [if_neg (by omega), if_pos h]
      · rw [if_pos (by omega), if_neg h]
    · have hCL := cx_sc (sc_tr s2 (sc_cpM (a := 51) (o := 0) (N := D.1 0 1) (f := fun j => if isAt S dy j = true then nI (S (4 + j)) else -nI 1) (fun _ _ _ => rfl))) hC
      have e47 : (cpM (zm_sI (zm_sP M 47 2 t) 49 8 (nI dy)) 51 0 (D.1 0 1) (fun j => if isAt S dy j = true then nI (S (4 + j)) else -nI 1)).2.2 47 2 = t := rfl
      have ew := tT_w hCL.2.2.1
      simp (disch := omega) only [f_X3_look_l19, ↓zv_eq, ↓zb1_some, ↓zb2_some, ↓zk_true, Option.bind_some, Option.bind_none, Option.map_some, Sum.elim_inl, Sum.elim_inr, if_true, if_false, ↓reduceIte, lt_lit, nI_clamp, zi_in, nI_leI, nI_ltI, nI_eq, nI_add, pk_mul, zi_sub, pk_div, zi_rem, zi_sh1, zi_shr, zi_and1, zi_or, zi_en, zi_ne, zi_ln, zi_nl, zi_lne, zi_nle, zi_nn, zq_01, zq_10, zq_011, zq_at, zq_ta, ite_not, Classical.not_not, e47, bI, ew, Nat.le_refl]
  refine ⟨_, ?_, sc_tr s2 (sc_cpM (a := 51) (o := 0) (N := D.1 0 1) (f := fun j => if isAt S dy j = true then nI (S (4 + j)) else -nI 1) (fun _ _ _ => rfl)), rfl, rfl, fun j hj => mC_in hj⟩
  unfold f_X3_look
  simp only [zv_eq]
  rw [zm_ck_t (by decide)]
  have e8 : (8 : Int32).toNatClampNeg = 8 := by decide
  rw [e8, key]
  rfl
theorem c_lookToday {M : zm_Mem} {t v n : Nat} {D : zD} {S : Nat → Nat} (hn : n < 512) (hC : Cx M t v D S n) : ∃ M', f_X10_lookToday M = some ((), M') ∧ Sc M M' ∧ Sn M' t D (isAt S (S 0)) (fun j => S (4 + j)) (S 0) := by
  have ht := hC.2.1
  have hT := hC.2.2.1
  have hR := hC.2.2.2
  have bI := cx_isT hC
  have bv := tT_v hT
  have bh := tT_bh hT
  have bw := tT_bw hT
  have bk := tT_bk hT
  have hb := (cx_b hC).1
  obtain ⟨M', e1, e2, e3⟩ := c_look (dy := S 0) hn hC (by omega)
  refine ⟨M', ?_, e2, e3⟩
  unfold f_X10_lookToday
  simp only [↓zv_eq, ht, bI, ↓zk_true, c_today hC, ↓zb1_some, e1, ↓zb2_some]
/-- the reference's row, copied -/
theorem r_copies {M : zm_Mem} {t v n : Nat} {D : zD} {S : Nat → Nat} (hC : Cx M t v D S n) : f_X11_copies M = some ((), zm_sI (cpM M 92 0 60 (M.1 91)) 52 58 (nI (D.1 0 5))) := by
  have ht := hC.2.1
  have hT := hC.2.2.1
  have hR := hC.2.2.2
  have bI := cx_isT hC
  have bv := tT_v hT
  have bh := tT_bh hT
  have bw := tT_bw hT
  have bk := tT_bk hT
  have key : zm_lp (fun s => f_X11_copies_l2 s.1 s.2) (0, M) = some (cpM M 92 0 60 (M.1 91)) := by
    refine lp_cpy M 92 0 60 (M.1 91) (fun i hi => ?_) ?_
    · have hle : ¬ 60 ≤ i := by omega
      have e91 : (cpM M 92 0 i (M.1 91)).1 91 i = M.1 91 i := mC_ne (by omega)
      simp (disch := omega) only [f_X11_copies_l2, ↓zv_eq, ↓zb1_some, ↓zb2_some, ↓zk_true, Option.bind_some, Option.bind_none, Option.map_some, Sum.elim_inl, Sum.elim_inr, if_true, if_false, ↓reduceIte, lt_lit, nI_clamp, zi_in, nI_leI, nI_ltI, nI_eq, nI_add, pk_mul, zi_sub, pk_div, zi_rem, zi_sh1, zi_shr, zi_and1, zi_or, zi_en, zi_ne, zi_ln, zi_nl, zi_lne, zi_nle, zi_nn, zq_01, zq_10, zq_011, zq_at, zq_ta, ite_not, Classical.not_not, hle, e91, Nat.zero_add]
    · simp (disch := omega) only [f_X11_copies_l2, ↓zv_eq, ↓zb1_some, ↓zb2_some, ↓zk_true, Option.bind_some, Option.bind_none, Option.map_some, Sum.elim_inl, Sum.elim_inr, if_true, if_false, ↓reduceIte, lt_lit, nI_clamp, zi_in, nI_leI, nI_ltI, nI_eq, nI_add, pk_mul, zi_sub, pk_div, zi_rem, zi_sh1, zi_shr, zi_and1, zi_or, zi_en, zi_ne, zi_ln, zi_nl, zi_lne, zi_nle, zi_nn, zq_01, zq_10, zq_011, zq_at, zq_ta, ite_not, Classical.not_not, Nat.le_refl]
  unfold f_X11_copies
  rw [key]
  simp only [Option.bind_some]
  unfold f_X11_copies_x26_2
  have h52 : (cpM M 92 0 60 (M.1 91)).1 52 18 = nI v := (mC_ne (by omega)).trans (tT_live hT)
  have h78 : (cpM M 92 0 60 (M.1 91)).1 78 v = nI (D.1 0 5) := (mC_ne (by omega)).trans (tT_rse hT)
  simp (disch := omega) only [↓zv_eq, ↓zb1_some, ↓zb2_some, ↓zk_true, Option.bind_some, Option.bind_none, Option.map_some, Sum.elim_inl, Sum.elim_inr, if_true, if_false, ↓reduceIte, lt_lit, nI_clamp, zi_in, nI_leI, nI_ltI, nI_eq, nI_add, pk_mul, zi_sub, pk_div, zi_rem, zi_sh1, zi_shr, zi_and1, zi_or, zi_en, zi_ne, zi_ln, zi_nl, zi_lne, zi_nle, zi_nn, zq_01, zq_10, zq_011, zq_at, zq_ta, ite_not, Classical.not_not, h52, h78]
theorem sc_copies (M : zm_Mem) (x : Int32) : Sc M (zm_sI (cpM M 92 0 60 (M.1 91)) 52 58 x) := sc_tr (sc_cpM (fun _ _ _ => rfl)) (sc_sI rfl)
theorem rw_copies {M : zm_Mem} {t v n : Nat} {D : zD} {S : Nat → Nat} (hC : Cx M t v D S n) : Rw (zm_sI (cpM M 92 0 60 (M.1 91)) 52 58 (nI (D.1 0 5))) D (isAt S (S 0)) (fun j => S (4 + j)) (S 0) (S 3) := by
  have ht := hC.2.1
  have hT := hC.2.2.1
  have hR := hC.2.2.2
  have bI := cx_isT hC
  have bv := tT_v hT
  have bh := tT_bh hT
  have bw := tT_bw hT
  have bk := tT_bk hT
  have h92 : ∀ j, j < 60 → (zm_sI (cpM M 92 0 60 (M.1 91)) 52 58 (nI (D.1 0 5))).1 92 j = M.1 91 j := by
    intro j hj
    rw [mI1, if_neg (by omega), mC_in hj]
  refine ⟨(h92 30 (by omega)).trans (tR_rd hR), fun j hj => (h92 j (by omega)).trans ?_, fun j hj => (h92 (24 + j) (by omega)).trans (tR_rl hR j hj)⟩
  rw [tR_rp hR j hj]
  simp only [isAt, decide_eq_true_eq]
  rfl
/-! liking and journey -/
theorem c_law {M : zm_Mem} {t v s i : Nat} {dflt : zE} {B : zB} {l : zE} {vs : Nat → Int32} (ht : t = 25 ∨ t = 36) (hL : iv_law M t v s i dflt B l) (hv : ∀ i, i < 9 → M.1 49 i = vs i) : ∃ M' a, M.1 t s = nI a ∧ f_X5_goThrough t (nI a) M = some (gd (lawv vs B l), M') ∧ Fr wS M M' := by
  obtain ⟨a, h1, h2, h3, h4, h5, ⟨cl, h6, h7, h8⟩, -⟩ := hL
  obtain ⟨M', g1, g2⟩ := gt_law (vs := vs) ht h6 h4 B a 0 M h3 h5 h7 h8 (by omega) hv
  exact ⟨M', a, h1, g2, g1⟩
theorem c_likingAs {M : zm_Mem} {t v n dy : Nat} {D : zD} {S : Nat → Nat} {a : Nat → Bool} {g : Nat → Nat} {vs : Nat → Int32} (hC : Cx M t v D S n) (hS : Sn M t D a g dy) (hv : ∀ i, i < 9 → M.1 49 i = vs i) : ∃ M', f_X3_likingAsEntered M = some (lk D vs, M') ∧ Fr wS M M' := by
  have ht := hC.2.1
  have hT := hC.2.2.1
  have hR := hC.2.2.2
  have bI := cx_isT hC
  have bv := tT_v hT
  have bh := tT_bh hT
  have bw := tT_bw hT
  have bk := tT_bk hT
  obtain ⟨M1, ca, h1, h2, h3⟩ := c_law hC.1 (tT_law1 hT) hv
  refine ⟨M1, ?_, h3⟩
  unfold f_X3_likingAsEntered
  simp only [↓zv_eq, hS.1, bI, ↓zk_true, h1, h2, ↓zb2_some]
  rfl
theorem c_liking {M : zm_Mem} {t v n dy : Nat} {D : zD} {S : Nat → Nat} {a : Nat → Bool} {g : Nat → Nat} (hC : Cx M t v D S n) (hS : Sn M t D a g dy) (hg : ∀ j, j < D.1 0 1 → g j < 5) {w x : Nat} (b : Int32) (hw : w < D.1 0 1) (hx : x < D.1 0 0) : ∃ M', f_X3_liking (nI x) (nI w) b M = some (lk D (vq D a g dy w x b), M') ∧ Fr wC M M' := by
  obtain ⟨M1, e1, f1, v1⟩ := c_enter hC hS hg b hw hx
  obtain ⟨M2, e2, f2⟩ := c_likingAs (cx_C f1 hC) (sn_C f1 hS) v1
  refine ⟨M2, ?_, fr_tr f1 (frS_C f2)⟩
  unfold f_X3_liking
  simp only [e1, ↓zb2_some, e2]
  rfl
theorem c_likingAlone {M : zm_Mem} {t v n dy : Nat} {D : zD} {S : Nat → Nat} {a : Nat → Bool} {g : Nat → Nat} (hC : Cx M t v D S n) (hS : Sn M t D a g dy) {w x : Nat} (hw : w < D.1 0 1) (hx : x < D.1 0 0) : ∃ M', f_X3_likingAlone (nI x) (nI w) M = some (lk D (vr D w x 0 0 dy), M') ∧ Fr wC M M' := by
  obtain ⟨M1, e1, f1, v1⟩ := c_enterAmong (m := 0) (s := 0) hC hS hw hx
  obtain ⟨M2, e2, f2⟩ := c_likingAs (cx_C f1 hC) (sn_C f1 hS) v1
  refine ⟨M2, ?_, fr_tr f1 (frS_C f2)⟩
  unfold f_X3_likingAlone
  have e1' : f_X3_enterAmong (nI w) (nI x) 0 0 M = some ((), M1) := e1
  simp only [e1', ↓zb2_some, e2]
theorem c_journey {M : zm_Mem} {t v n dy : Nat} {D : zD} {S : Nat → Nat} {a : Nat → Bool} {g : Nat → Nat} (hC : Cx M t v D S n) (hS : Sn M t D a g dy) {w x : Nat} (hw : w < D.1 0 1) (hx : x < D.1 0 0) : ∃ M', f_X3_journey (nI w) (nI x) M = some (tp D (vr D w x 0 0 dy), M') ∧ Fr wC M M' := by
  have bI := cx_isT hC
  obtain ⟨M1, e1, f1, v1⟩ := c_enterAmong (m := 0) (s := 0) hC hS hw hx
  have hC1 := cx_C f1 hC
  have hS1 := sn_C f1 hS
  obtain ⟨M2, ca, h1, h2, h3⟩ := c_law hC1.1 (tT_law0 hC1.2.2.1) v1
  refine ⟨M2, ?_, fr_tr f1 (frS_C h3)⟩
  have e1' : f_X3_enterAmong (nI w) (nI x) 0 0 M = some ((), M1) := e1
  unfold f_X3_journey
  simp only [e1', ↓zb2_some, ↓zv_eq, hS1.1, bI, ↓zk_true, h1, h2]
  rfl
theorem r_likes_as {M : zm_Mem} {t v n w x m s dy : Nat} {D : zD} {S : Nat → Nat} (hC : Cx M t v D S n) (hw : w < D.1 0 1) (hv : ∀ i, i < 9 → M.1 89 i = vr D w x m s dy i) : ∃ M', f_X11_asks 1 (nI (D.1 6 w)) 0 99 M = some (lk D (vr D w x m s dy), M') ∧ Fr wR M M' := by
  have ht := hC.2.1
  have hT := hC.2.2.1
  have hR := hC.2.2.2
  have bI := cx_isT hC
  have bv := tT_v hT
  have bh := tT_bh hT
  have bw := tT_bw hT
  have bk := tT_bk hT
  exact r_asks (i := 1) (plain := nI (D.1 6 w)) (lo := 0) (hi := 99) bv (by omega) (tT_live hT) (tT_law1 hT) rfl (by decide) hv
theorem r_likesOf {M : zm_Mem} {t v n dy li : Nat} {D : zD} {S : Nat → Nat} {a : Nat → Bool} {g : Nat → Nat} (hC : Cx M t v D S n) (hS : Rw M D a g dy li) (hg : ∀ j, j < D.1 0 1 → g j < 5) {w x : Nat} (b : Int32) (hw : w < D.1 0 1) (hx : x < D.1 0 0) : ∃ M', f_X11_likesOf (nI x) (nI w) 0 b M = some (lk D (vq D a g dy w x b), M') ∧ Fr wQ M M' := by
  have ht := hC.2.1
  have hT := hC.2.2.1
  have hR := hC.2.2.2
  have bI := cx_isT hC
  have bv := tT_v hT
  have bh := tT_bh hT
  have bw := tT_bw hT
  have bk := tT_bk hT
  obtain ⟨M1, e1, f1, v1⟩ := r_looks0 hC hS hg b hw hx
  have hC1 := cx_Q f1 hC
  have hT1 := hC1.2.2.1
  obtain ⟨M2, e2, f2⟩ := r_likes_as hC1 hw v1
  refine ⟨M2, ?_, fr_tr f1 (frR_Q f2)⟩
  unfold f_X11_likesOf
  rw [e1, zb2_some, tT_live hT1, show (6 : Int32) = nI 6 from rfl, pk_mul, nI_add, zm_ck_t (zm_in_nI (by omega) (by omega)), nI_clamp (by omega), tT_rva hT1 w hw, e2, zb2_some]
  rfl
theorem r_likesOf1 {M : zm_Mem} {t v n dy li : Nat} {D : zD} {S : Nat → Nat} {a : Nat → Bool} {g : Nat → Nat} (hC : Cx M t v D S n) (hS : Rw M D a g dy li) {w x : Nat} (b : Int32) (hw : w < D.1 0 1) (hx : x < D.1 0 0) : ∃ M', f_X11_likesOf (nI x) (nI w) 1 b M = some (lk D (vr D w x 0 0 dy), M') ∧ Fr wQ M M' := by
  have ht := hC.2.1
  have hT := hC.2.2.1
  have hR := hC.2.2.2
  have bI := cx_isT hC
  have bv := tT_v hT
  have bh := tT_bh hT
  have bw := tT_bw hT
  have bk := tT_bk hT
  obtain ⟨M1, e1, f1, v1⟩ := r_looks1 hC hS b hw hx
  have hC1 := cx_Q f1 hC
  have hT1 := hC1.2.2.1
  obtain ⟨M2, e2, f2⟩ := r_likes_as hC1 hw v1
  refine ⟨M2, ?_, fr_tr f1 (frR_Q f2)⟩
  unfold f_X11_likesOf
  rw [e1, zb2_some, tT_live hT1, show (6 : Int32) = nI 6 from rfl, pk_mul, nI_add, zm_ck_t (zm_in_nI (by omega) (by omega)), nI_clamp (by omega), tT_rva hT1 w hw, e2, zb2_some]
theorem r_tripOf {M : zm_Mem} {t v n dy li : Nat} {D : zD} {S : Nat → Nat} {a : Nat → Bool} {g : Nat → Nat} (hC : Cx M t v D S n) (hS : Rw M D a g dy li) {w x : Nat} (hw : w < D.1 0 1) (hx : x < D.1 0 0) : ∃ M', f_X11_tripOf (nI w) (nI x) M = some (tp D (vr D w x 0 0 dy), M') ∧ Fr wQ M M' := by
  have ht := hC.2.1
  have hT := hC.2.2.1
  have hR := hC.2.2.2
  have bI := cx_isT hC
  have bv := tT_v hT
  have bh := tT_bh hT
  have bw := tT_bw hT
  have bk := tT_bk hT
  obtain ⟨M1, e1, f1, v1⟩ := r_looks1 hC hS (-1) hw hx
  have hC1 := cx_Q f1 hC
  have hT1 := hC1.2.2.1
  have h3 : ∃ M', f_X11_asks 0 3 1 99 M1 = some (tp D (vr D w x 0 0 dy), M') ∧ Fr wR M1 M' := r_asks (i := 0) (plain := 3) (lo := 1) (hi := 99) bv (by omega) (tT_live hT1) (tT_law0 hT1) rfl (by decide) v1
  obtain ⟨M2, e2, f2⟩ := h3
  refine ⟨M2, ?_, fr_tr f1 (frR_Q f2)⟩
  unfold f_X11_tripOf
  rw [e1, zb2_some, e2, zb2_some]
