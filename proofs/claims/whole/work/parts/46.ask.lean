theorem wR_no {x j : Nat} (h : x ≠ 90) (h2 : x ≠ 52) : wR x j = false := by
  unfold wR; rw [decide_eq_false h, decide_eq_false h2]; rfl
theorem iv_br_fr {M M' : zm_Mem} {b : Nat} {x : zE × zE × zE} (hF : Fr wR M M') (h : iv_br M b x) : iv_br M' b x := by
  obtain ⟨c, h1, h2, h3, h4, h5, h6, h7, h8, h9⟩ := h
  have hW : ∀ j, wR 86 j = false ∧ wR 87 j = false := fun j => ⟨wR_no (by omega) (by omega), wR_no (by omega) (by omega)⟩
  exact ⟨c, (hF.2 _ _ (wR_no (by omega) (by omega))).trans h1, (hF.2 _ _ (wR_no (by omega) (by omega))).trans h2, (hF.2 _ _ (wR_no (by omega) (by omega))).trans h3, (hF.2 _ _ (wR_no (by omega) (by omega))).trans h4, (hF.2 _ _ (wR_no (by omega) (by omega))).trans h5, iv_sm_fr hF hW h6, iv_sm_fr hF hW h7, iv_sm_fr hF hW h8, h9⟩
/-- both sums of a test, and what follows: the reference -/
theorem r_sideOf {c : Nat} {vs : Nat → Int32} {l : zE} {M : zm_Mem} (hl : iv_ex l) (hc : iv_sm M c l) (hto : c + l.length ≤ 840) (hv : ∀ i, i < 9 → M.1 89 i = vs i) : ∃ M', f_X11_sideOf (nI c) (nI (c + l.length)) M = some ((exv vs l).getD 0, M') ∧ Fr wR M M' := by
  have f0 : Fr wR M (zm_sI M 52 55 0) := fr_sI rfl
  have hW : ∀ j, wR 86 j = false ∧ wR 87 j = false := fun j => ⟨wR_no (by omega) (by omega), wR_no (by omega) (by omega)⟩
  obtain ⟨M1, e1, f1, b1⟩ := r_termOf (vs := vs) hl (iv_sm_fr f0 hW hc) hto (fun i hi => (f0.2 89 i (wR_no (by omega) (by omega))).trans (hv i hi))
  have hz : (zm_sI M 52 55 0).1 52 55 = 0 := by rw [mI1, if_pos ⟨rfl, rfl⟩]
  rw [hz] at b1
  refine ⟨M1, ?_, fr_tr f0 f1⟩
  unfold f_X11_sideOf
  simp only [zv_eq, e1, zb2_some, b1]
  cases he : exv vs l with
  | none => rfl
  | some x => rfl
noncomputable def lE : (zm_Mem ⊕ (Int32 × zm_Mem) ⊕ zm_Mem) → Option (Int32 × zm_Mem) := Sum.elim (fun e73 => some (0, e73)) (Sum.elim (fun e84 => f_X11_lawTells_b84 e84.1 e84.2) (fun e120 => some (0, e120)))
noncomputable def lS (a1 : Int32) : Int32 × zm_Mem → Option ((Int32 × zm_Mem) ⊕ (zm_Mem ⊕ (Int32 × zm_Mem) ⊕ zm_Mem)) := fun s => f_X11_lawTells_l12 a1 s.1 s.2
theorem r_b84 {b c : Nat} {vs : Nat → Int32} {l : zE} {M : zm_Mem} (hb : b < 260) (hl : iv_ex l) (h4 : M.1 84 b = nI c) (h5 : M.1 85 b = nI (c + l.length)) (hc : iv_sm M c l) (hto : c + l.length ≤ 840) (hv : ∀ i, i < 9 → M.1 89 i = vs i) (h0 : M.1 52 55 = 0) : ∃ M', f_X11_lawTells_b84 (nI b) M = some ((exv vs l).getD 0, M') ∧ Fr wR M M' := by
  obtain ⟨M1, e1, f1, b1⟩ := r_termOf (vs := vs) hl hc hto hv
  refine ⟨M1, ?_, f1⟩
  unfold f_X11_lawTells_b84
  rw [zm_ck_t (zm_in_nI hb (by omega)), zm_ck_t (zm_in_nI hb (by omega)), nI_clamp (by omega), h4, h5, e1, zb2_some, b1, h0]
  cases he : exv vs l with
  | none => rfl
  | some x => rfl
theorem r_laws {a last : Nat} {vs : Nat → Int32} {l : zE} (ha : a < 4) (hlast : last ≤ 260) (hl : iv_ex l) : ∀ (B : zB) (f c : Nat) (M : zm_Mem), (∀ x ∈ B, iv_ex x.1 ∧ iv_ex x.2.1 ∧ iv_ex x.2.2) → (∀ j x, B[j]? = some x → iv_br M (f + j) x) → f + B.length < last → M.1 80 a = nI last → M.1 81 (f + B.length) = 0 → M.1 84 (f + B.length) = nI c → M.1 85 (f + B.length) = nI (c + l.length) → iv_sm M c l → c + l.length ≤ 840 → (∀ i, i < 9 → M.1 89 i = vs i) → M.1 52 55 = 0 → ∃ M', (zm_lp (lS (nI a)) (nI f, M)).bind lE = some ((lawv vs B l).getD 0, M') ∧ Fr wR M M' := by
  intro B
  have hW : ∀ j, wR 86 j = false ∧ wR 87 j = false := fun j => ⟨wR_no (by omega) (by omega), wR_no (by omega) (by omega)⟩
  induction B with
  | nil =>
    intro f c M _ _ h1 h2 h3 h4 h5 h6 h7 h8 h9
    simp only [List.length_nil, Nat.add_zero] at h1 h3 h4 h5
    have hle : ¬ last ≤ f := by omega
    have e : lS (nI a) (nI f, M) = some (.inr (.inr (.inl (nI f, M)))) := by
      unfold lS f_X11_lawTells_l12
      simp (disch := omega) only [↓zv_eq, ↓zb1_some, ↓zb2_some, ↓zk_true, Option.bind_some, Option.bind_none, Option.map_some, Sum.elim_inl, Sum.elim_inr, if_true, if_false, ↓reduceIte, lt_lit, nI_clamp, zi_in, nI_leI, nI_ltI, nI_eq, nI_add, pk_mul, zi_sub, pk_div, zi_rem, zi_sh1, zi_shr, zi_and1, zi_or, zi_en, zi_ne, zi_ln, zi_nl, zi_lne, zi_nle, zi_nn, zq_01, zq_10, zq_011, zq_at, zq_ta, ite_not, Classical.not_not, h2, hle, h3]
    obtain ⟨M1, e1, f1⟩ := r_b84 (b := f) (vs := vs) (by omega) hl h4 h5 h6 h7 h8 h9
    refine ⟨M1, ?_, f1⟩
    rw [lp_end e]
    exact e1
  | cons x B ih =>
    intro f c M hB hbr h1 h2 h3 h4 h5 h6 h7 h8 h9
    obtain ⟨l1, l2, l3⟩ := x
    obtain ⟨x1, x2, x3⟩ := hB _ (List.mem_cons_self ..)
    simp only at x1 x2 x3
    simp only [List.length_cons] at h1 h3 h4 h5
    obtain ⟨cc, c1, c2, c3, c4, c5, c6, c7, c8, c9⟩ := hbr 0 (l1, l2, l3) rfl
    simp only [Nat.add_zero] at c1 c2 c3 c4 c5 c6 c7 c8 c9
    have hle : ¬ last ≤ f := by omega
    obtain ⟨M1, e1, f1, b1⟩ := r_termOf (vs := vs) x1 c6 (by omega) h8
    have hv1 : ∀ i, i < 9 → M1.1 89 i = vs i := fun i hi => (f1.2 89 i (wR_no (by omega) (by omega))).trans (h8 i hi)
    obtain ⟨M2, e2, f2, b2⟩ := r_termOf (vs := vs) x2 (iv_sm_fr f1 hW c7) (by omega) hv1
    have f12 := fr_tr f1 f2
    have k3 : M1.1 83 f = nI (cc + l1.length) := (f1.2 _ _ (wR_no (by omega) (by omega))).trans c3
    have k4 : M1.1 84 f = nI (cc + l1.length + l2.length) := (f1.2 _ _ (wR_no (by omega) (by omega))).trans c4
    rw [b1, h9] at b2
    by_cases hbk : M2.1 52 55 = 0
    · have hab : ∃ u w, exv vs l1 = some u ∧ exv vs l2 = some w := by
        rw [hbk] at b2
        cases q1 : exv vs l1 with
        | none =>
          rw [q1] at b2
          cases q2 : exv vs l2 with
          | none => rw [q2] at b2; exact absurd (show (0 : Int32) = 1 from b2) (by decide)
          | some w => rw [q2] at b2; exact absurd (show (0 : Int32) = 1 from b2) (by decide)
        | some u =>
          cases q2 : exv vs l2 with
          | none => rw [q2] at b2; exact absurd (show (0 : Int32) = 1 from b2) (by decide)
          | some w => exact ⟨u, w, rfl, rfl⟩
      obtain ⟨u, w, q1, q2⟩ := hab
      rw [q1] at e1
      rw [q2] at e2
      simp only [Option.getD_some] at e1 e2
      by_cases huw : u < w
      · have e : lS (nI a) (nI f, M) = some (.inr (.inr (.inl (nI f, M2)))) := by
          unfold lS f_X11_lawTells_l12
          rw [show (0 : Int32) = nI 0 from rfl] at hbk
          have c1' : M.1 81 f = nI 1 := c1
          simp (disch := omega) only [↓zv_eq, ↓zb1_some, ↓zb2_some, ↓zk_true, Option.bind_some, Option.bind_none, Option.map_some, Sum.elim_inl, Sum.elim_inr, if_true, if_false, ↓reduceIte, lt_lit, nI_clamp, zi_in, nI_leI, nI_ltI, nI_eq, nI_add, pk_mul, zi_sub, pk_div, zi_rem, zi_sh1, zi_shr, zi_and1, zi_or, zi_en, zi_ne, zi_ln, zi_nl, zi_lne, zi_nle, zi_nn, zq_01, zq_10, zq_011, zq_at, zq_ta, ite_not, Classical.not_not, h2, hle, c1', c2, c3, e1, k3, k4, e2, hbk, huw, Nat.reduceEqDiff]
        have hv2 : ∀ i, i < 9 → M2.1 89 i = vs i := fun i hi => (f2.2 89 i (wR_no (by omega) (by omega))).trans (hv1 i hi)
        obtain ⟨M3, e3, f3⟩ := r_b84 (b := f) (vs := vs) (by omega) x3 ((f12.2 _ _ (wR_no (by omega) (by omega))).trans c4) ((f12.2 _ _ (wR_no (by omega) (by omega))).trans c5) (iv_sm_fr f12 hW c8) c9 hv2 hbk
        refine ⟨M3, ?_, fr_tr f12 f3⟩
        rw [lp_end e]
        unfold lawv
        rw [q1, q2]
        simp only [Option.bind_some, if_pos huw]
        exact e3
      · have e : lS (nI a) (nI f, M) = some (.inl (nI (f + 1), M2)) := by
          unfold lS f_X11_lawTells_l12
          rw [show (0 : Int32) = nI 0 from rfl] at hbk
          have c1' : M.1 81 f = nI 1 := c1
          simp (disch := omega) only [↓zv_eq, ↓zb1_some, ↓zb2_some, ↓zk_true, Option.bind_some, Option.bind_none, Option.map_some, Sum.elim_inl, Sum.elim_inr, if_true, if_false, ↓reduceIte, lt_lit, nI_clamp, zi_in, nI_leI, nI_ltI, nI_eq, nI_add, pk_mul, zi_sub, pk_div, zi_rem, zi_sh1, zi_shr, zi_and1, zi_or, zi_en, zi_ne, zi_ln, zi_nl, zi_lne, zi_nle, zi_nn, zq_01, zq_10, zq_011, zq_at, zq_ta, ite_not, Classical.not_not, h2, hle, c1', c2, c3, e1, k3, k4, e2, hbk, huw, Nat.reduceEqDiff]
        have hv2 : ∀ i, i < 9 → M2.1 89 i = vs i := fun i hi => (f2.2 89 i (wR_no (by omega) (by omega))).trans (hv1 i hi)
        have eL : f + (B.length + 1) = f + 1 + B.length := by omega
        obtain ⟨M3, e3, f3⟩ := ih (f + 1) c M2 (fun y hy => hB y (List.mem_cons_of_mem _ hy)) (fun j y hy => by
          have := hbr (j + 1) y hy
          rw [show f + 1 + j = f + (j + 1) by omega]
          exact iv_br_fr f12 this) (by omega) ((f12.2 _ _ (wR_no (by omega) (by omega))).trans h2) ((f12.2 _ _ (wR_no (by omega) (by omega))).trans (eL ▸ h3)) ((f12.2 _ _ (wR_no (by omega) (by omega))).trans (eL ▸ h4)) ((f12.2 _ _ (wR_no (by omega) (by omega))).trans (eL ▸ h5)) (iv_sm_fr f12 hW h6) h7 hv2 hbk
        refine ⟨M3, ?_, fr_tr f12 f3⟩
        rw [lp_go e, e3]
        conv => rhs; unfold lawv
        rw [q1, q2]
        simp only [Option.bind_some, if_neg huw]
    · have e : lS (nI a) (nI f, M) = some (.inr (.inl M2)) := by
        unfold lS f_X11_lawTells_l12
        rw [show (0 : Int32) = nI 0 from rfl] at hbk
        have c1' : M.1 81 f = nI 1 := c1
        simp (disch := omega) only [↓zv_eq, ↓zb1_some, ↓zb2_some, ↓zk_true, Option.bind_some, Option.bind_none, Option.map_some, Sum.elim_inl, Sum.elim_inr, if_true, if_false, ↓reduceIte, lt_lit, nI_clamp, zi_in, nI_leI, nI_ltI, nI_eq, nI_add, pk_mul, zi_sub, pk_div, zi_rem, zi_sh1, zi_shr, zi_and1, zi_or, zi_en, zi_ne, zi_ln, zi_nl, zi_lne, zi_nle, zi_nn, zq_01, zq_10, zq_011, zq_at, zq_ta, ite_not, Classical.not_not, h2, hle, c1', c2, c3, e1, k3, k4, e2, hbk, Nat.reduceEqDiff]
      refine ⟨M2, ?_, f12⟩
      rw [lp_end e]
      have : lawv vs ((l1, l2, l3) :: B) l = none := by
        unfold lawv
        cases q1 : exv vs l1 with
        | none => rfl
        | some u =>
          cases q2 : exv vs l2 with
          | none => rfl
          | some w => rw [q1, q2] at b2; exact absurd b2 hbk
      rw [this]
      rfl
theorem clamp_eq {lo hi x : Int32} (h : lo ≤ hi) : zm_max lo (zm_min hi x) = if lo ≤ x then (if x ≤ hi then x else hi) else lo := by
  unfold zm_max zm_min
  simp only [Int32.lt_iff_toInt_lt, Int32.le_iff_toInt_le] at *
  by_cases h1 : x.toInt < hi.toInt
  · rw [if_pos h1]
    by_cases h2 : lo.toInt < x.toInt
    · rw [if_pos h2, if_pos (by omega), if_pos (by omega)]
    · rw [if_neg h2]
      by_cases h3 : lo.toInt ≤ x.toInt
      · rw [if_pos h3, if_pos (by omega)]
        exact Int32.toInt_inj.1 (by omega)
      · rw [if_neg h3]
  · rw [if_neg h1]
    by_cases h2 : lo.toInt < hi.toInt
    · rw [if_pos h2, if_pos (by omega)]
      by_cases h3 : x.toInt ≤ hi.toInt
      · rw [if_pos h3]; exact Int32.toInt_inj.1 (by omega)
      · rw [if_neg h3]
    · rw [if_neg h2, if_pos (by omega)]
      by_cases h3 : x.toInt ≤ hi.toInt
      · rw [if_pos h3]; exact Int32.toInt_inj.1 (by omega)
      · rw [if_neg h3]; exact Int32.toInt_inj.1 (by omega)
theorem r_asks {M : zm_Mem} {t v s i : Nat} {dflt : zE} {B : zB} {l : zE} {vs : Nat → Int32} {plain lo hi : Int32} (hv : v ≤ 1) (hi' : i ≤ 1) (hlive : M.1 52 18 = nI v) (hL : iv_law M t v s i dflt B l) (hp : plain = (exv vs dflt).getD 0) (hlh : lo ≤ hi) (hvs : ∀ i, i < 9 → M.1 89 i = vs i) : ∃ M', f_X11_asks (nI i) plain lo hi M = some (zm_max lo (zm_min hi ((lawv vs B l).getD 0)), M') ∧ Fr wR M M' := by
  obtain ⟨a, -, hB4, hB, hl, -, -, hr⟩ := hL
  have fin : ∀ (x : Int32) (M' : zm_Mem), f_X11_asks_b38 lo hi x M' = some (zm_max lo (zm_min hi x), M') := by
    intro x M'
    rw [clamp_eq hlh]
    unfold f_X11_asks_b38
    by_cases h1 : lo ≤ x
    · rw [if_pos h1, if_pos h1]
      by_cases h2 : x ≤ hi
      · rw [if_pos h2, if_pos h2]
      · rw [if_neg h2, if_neg h2]
    · rw [if_neg h1, if_neg h1]
  rcases hr with ⟨rfl, rfl, f, hf, h1, h2⟩ | ⟨f, c, hf, h1, h2, hbr, h3, h4, h5, h6, h7⟩
  · refine ⟨M, ?_, fr_rfl _ M⟩
    unfold f_X11_asks
    simp (disch := omega) only [↓zv_eq, ↓zb1_some, ↓zb2_some, ↓zk_true, Option.bind_some, Option.bind_none, Option.map_some, Sum.elim_inl, Sum.elim_inr, if_true, if_false, ↓reduceIte, lt_lit, nI_clamp, zi_in, nI_leI, nI_ltI, nI_eq, nI_add, pk_mul, zi_sub, pk_div, zi_rem, zi_sh1, zi_shr, zi_and1, zi_or, zi_en, zi_ne, zi_ln, zi_nl, zi_lne, zi_nle, zi_nn, zq_01, zq_10, zq_011, zq_at, zq_ta, ite_not, Classical.not_not, hlive, h1, h2, Nat.le_refl]
    rw [fin, hp]
    rfl
  · have f0 : Fr wR M (zm_sI M 52 55 0) := fr_sI rfl
    have hW : ∀ j, wR 86 j = false ∧ wR 87 j = false := fun j => ⟨wR_no (by omega) (by omega), wR_no (by omega) (by omega)⟩
    have h0 : ∀ x j, x ≠ 90 → x ≠ 52 → (zm_sI M 52 55 0).1 x j = M.1 x j := fun x j h h' => f0.2 x j (wR_no h h')
    obtain ⟨M1, e1, f1⟩ := r_laws (a := 2 * v + i) (last := f + B.length + 1) (vs := vs) (by omega) (by omega) hl B f c (zm_sI M 52 55 0) hB (fun j x hx => iv_br_fr f0 (hbr j x hx)) (by omega) ((h0 _ _ (by omega) (by omega)).trans h2) ((h0 _ _ (by omega) (by omega)).trans h3) ((h0 _ _ (by omega) (by omega)).trans h4) ((h0 _ _ (by omega) (by omega)).trans h5) (iv_sm_fr f0 hW h6) h7.1 (fun i hi => (h0 _ _ (by omega) (by omega)).trans (hvs i hi)) (by rw [mI1, if_pos ⟨rfl, rfl⟩])
    refine ⟨M1, ?_, fr_tr f0 f1⟩
    have hle : ¬ f + B.length + 1 ≤ f := by omega
    have e2 : f_X11_lawTells (nI (2 * v + i)) M = some ((lawv vs B l).getD 0, M1) := by
      unfold f_X11_lawTells
      simp only [zv_eq]
      rw [zm_ck_t (zm_in_nI (by omega) (by omega)), nI_clamp (by omega), h0 79 _ (by omega) (by omega), h1]
      exact e1
    unfold f_X11_asks
    simp (disch := omega) only [↓zv_eq, ↓zb1_some, ↓zb2_some, ↓zk_true, Option.bind_some, Option.bind_none, Option.map_some, Sum.elim_inl, Sum.elim_inr, if_true, if_false, ↓reduceIte, lt_lit, nI_clamp, zi_in, nI_leI, nI_ltI, nI_eq, nI_add, pk_mul, zi_sub, pk_div, zi_rem, zi_sh1, zi_shr, zi_and1, zi_or, zi_en, zi_ne, zi_ln, zi_nl, zi_lne, zi_nle, zi_nn, zq_01, zq_10, zq_011, zq_at, zq_ta, ite_not, Classical.not_not, hlive, h1, h2, hle, e2]
    exact fin _ _
