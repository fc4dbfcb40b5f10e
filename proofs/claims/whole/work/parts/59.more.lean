/-! loops with something gathered and a memory -/
theorem lp_accM {σ : Type} {st : σ → Int32 → zm_Mem → Option ((σ × Int32 × zm_Mem) ⊕ (σ × zm_Mem))} (W : Nat → Nat → Bool) (F : Nat → σ) (N : Nat) (M : zm_Mem) (h : ∀ i L, i < N → Fr W M L → ∃ L', st (F i) (nI i) L = some (.inl (F (i + 1), nI (i + 1), L')) ∧ Fr W L L') (he : ∀ L, Fr W M L → st (F N) (nI N) L = some (.inr (F N, L))) : ∃ M', zm_lp (fun s => st s.1 s.2.1 s.2.2) (F 0, 0, M) = some (F N, M') ∧ Fr W M M' := by
  have H1 : ∀ i (s : σ × Int32 × zm_Mem), i < N → (s.1 = F i ∧ s.2.1 = nI i ∧ Fr W M s.2.2) → (∃ s', st s.1 s.2.1 s.2.2 = some (.inl s') ∧ (s'.1 = F (i + 1) ∧ s'.2.1 = nI (i + 1) ∧ Fr W M s'.2.2)) ∨ (∃ e, st s.1 s.2.1 s.2.2 = some (.inr e) ∧ (e.1 = F N ∧ Fr W M e.2)) := by
    intro i s hi hP
    obtain ⟨b, i', L⟩ := s
    obtain ⟨p1, p2, p3⟩ := hP
    simp only at p1 p2 p3
    subst p1 p2
    obtain ⟨L', g1, g2⟩ := h i L hi p3
    exact Or.inl ⟨_, g1, rfl, rfl, fr_tr p3 g2⟩
  have H2 : ∀ (s : σ × Int32 × zm_Mem), (s.1 = F N ∧ s.2.1 = nI N ∧ Fr W M s.2.2) → ∃ e, st s.1 s.2.1 s.2.2 = some (.inr e) ∧ (e.1 = F N ∧ Fr W M e.2) := by
    intro s hP
    obtain ⟨b, i', L⟩ := s
    obtain ⟨p1, p2, p3⟩ := hP
    simp only at p1 p2 p3
    subst p1 p2
    exact ⟨_, he L p3, rfl, p3⟩
  obtain ⟨e, h1, h2, h3⟩ := lp_inv (step := fun s => st s.1 s.2.1 s.2.2) (fun i s => s.1 = F i ∧ s.2.1 = nI i ∧ Fr W M s.2.2) (fun e => e.1 = F N ∧ Fr W M e.2) N H1 H2 (s := (F 0, 0, M)) ⟨rfl, rfl, fr_rfl _ M⟩
  refine ⟨e.2, ?_, h3⟩
  rw [h1, ← h2]
/-- what a house likes of all there -/
def plF (D : zD) (a : Nat → Bool) (g : Nat → Nat) (dy x : Nat) : Nat → Int32
  | 0 => 0
  | i + 1 => if a i = true ∧ g i = x then plF D a g dy x i + lk D (vq D a g dy i x (-nI 1)) else plF D a g dy x i
theorem c_pleasure {M : zm_Mem} {t v n : Nat} {D : zD} {S : Nat → Nat} (hn : n < 512) (hC : Cx M t v D S n) {x : Nat} (hx : x < D.1 0 0) : ∃ M', f_X10_pleasureOf (nI x) M = some (plF D (isAt S (S 0)) (fun j => S (4 + j)) (S 0) x (D.1 0 1), M') ∧ Sc M M' := by
  have ht := hC.2.1
  have hT := hC.2.2.1
  have hR := hC.2.2.2
  have bI := cx_isT hC
  have bv := tT_v hT
  have bh := tT_bh hT
  have bw := tT_bw hT
  have bk := tT_bk hT
  obtain ⟨M1, e1, s1, n1⟩ := c_lookToday hn hC
  have hC1 := cx_sc s1 hC
  obtain ⟨M2, h1, h2⟩ := lp_accM (st := fun b i L => f_X10_pleasureOf_l8 (nI x) b i L) wC (plF D (isAt S (S 0)) (fun j => S (4 + j)) (S 0) x) (D.1 0 1) M1 (fun i L hi hF => by
    have hCL := cx_C hF hC1
    have hSL := sn_C hF n1
    have hTL := hCL.2.2.1
    have hle : ¬ D.1 0 1 ≤ i := by omega
    have hgi := hg_S hC i hi
    simp only at hgi
    have hw := tT_w hTL
    unfold f_X10_pleasureOf_l8 f_X10_pleasureOf_b44_8
    simp only [zv_eq]
    rw [hCL.2.1, bI, zk_true, hw, if_neg (show ¬ nI (D.1 0 1) ≤ nI i from nI_ge (by omega) (by omega)), c_isIn hCL hn hi, zb1_some]
    by_cases hc : isAt S (S 0) i = true ∧ S (4 + i) = x
    · obtain ⟨L', k1, k2⟩ := c_liking hCL hSL (hg_S hC) (-nI 1) hi hx
      refine ⟨L', ?_, k2⟩
      rw [if_pos (c := isAt S (S 0) i = true ∧ nI (S (4 + i)) = nI x) ⟨hc.1, by rw [hc.2]⟩, if_neg (by decide), show (-1 : Int32) = -nI 1 from rfl, k1, zb2_some, nI_k1]
      conv => rhs; unfold plF
      rw [if_pos hc]
    · refine ⟨L, ?_, fr_rfl _ L⟩
      rw [if_neg (c := isAt S (S 0) i = true ∧ nI (S (4 + i)) = nI x) (by rw [nI_eq (by omega) (by omega)]; exact hc), if_pos rfl, nI_k1]
      conv => rhs; unfold plF
      rw [if_neg hc]) (fun L hF => by
    have hCL := cx_C hF hC1
    have hTL := hCL.2.2.1
    unfold f_X10_pleasureOf_l8
    simp only [zv_eq]
    rw [hCL.2.1, bI, zk_true, tT_w hTL, if_pos (nI_le (Nat.le_refl _) (by omega))])
  refine ⟨M2, ?_, sc_tr s1 (sc_C h2)⟩
  unfold f_X10_pleasureOf
  rw [e1, zb2_some]
  have h1' : zm_lp (fun s => f_X10_pleasureOf_l8 (nI x) s.1 s.2.1 s.2.2) (0, 0, M1) = _ := h1
  rw [h1']; rfl
theorem r_pleasure {M : zm_Mem} {t v n dy li : Nat} {D : zD} {S : Nat → Nat} {a : Nat → Bool} {g : Nat → Nat} (hC : Cx M t v D S n) (hS : Rw M D a g dy li) (hg : ∀ j, j < D.1 0 1 → g j < 5) {x : Nat} (hx : x < D.1 0 0) : ∃ M', zm_lp (fun s => f_X11_house_l131 (nI x) s.1 s.2.1 s.2.2) (0, 0, M) = some (plF D a g dy x (D.1 0 1), M') ∧ Fr wQ M M' := by
  have ht := hC.2.1
  have hT := hC.2.2.1
  have hR := hC.2.2.2
  have bI := cx_isT hC
  have bv := tT_v hT
  have bh := tT_bh hT
  have bw := tT_bw hT
  have bk := tT_bk hT
  refine lp_accM (st := fun b i L => f_X11_house_l131 (nI x) b i L) wQ (plF D a g dy x) (D.1 0 1) M (fun i L hi hF => ?_) (fun L hF => ?_)
  · have hCL := cx_Q hF hC
    have hSL := rw_Q hF hS
    have hTL := hCL.2.2.1
    have hgi := hg i hi
    have hsp := hSL.2.1 i hi
    unfold f_X11_house_l131 f_X11_house_b168_131
    rw [tT_live hTL, zm_ck_t (zm_in_nI (by omega) (by omega)), nI_clamp (by omega), tT_rw hTL, if_neg (show ¬ nI (D.1 0 1) ≤ nI i from nI_ge (by omega) (by omega)), zm_ck_t (zm_in_nI (by omega) (by omega)), nI_clamp (by omega), hsp]
    have hq := zq_at (a i = true) (g := g i) (x := x) (by omega) (by omega)
    by_cases hc : a i = true ∧ g i = x
    · obtain ⟨L', k1, k2⟩ := r_likesOf hCL hSL hg (-nI 1) hi hx
      refine ⟨L', ?_, k2⟩
      rw [if_pos (hq.2 hc), show (-1 : Int32) = -nI 1 from rfl, k1, zb2_some]
      simp only [zv_eq]
      rw [nI_k1]
      conv => rhs; unfold plF
      rw [if_pos hc]
    · refine ⟨L, ?_, fr_rfl _ L⟩
      rw [if_neg (fun z => hc (hq.1 z))]
      simp only [zv_eq]
      rw [nI_k1]
      conv => rhs; unfold plF
      rw [if_neg hc]
  · have hTL := (cx_Q hF hC).2.2.1
    unfold f_X11_house_l131
    rw [tT_live hTL, zm_ck_t (zm_in_nI (by omega) (by omega)), nI_clamp (by omega), tT_rw hTL, if_pos (nI_le (Nat.le_refl _) (by omega))]
theorem r_worksIn {M : zm_Mem} {t v n dy li : Nat} {D : zD} {S : Nat → Nat} {a : Nat → Bool} {g : Nat → Nat} (hC : Cx M t v D S n) (hS : Rw M D a g dy li) (hg : ∀ j, j < D.1 0 1 → g j < 5) {x : Nat} (hx : x < 5) : f_X11_worksIn (nI x) M = some (nI (bitsOf (fun j => a j && decide (g j = x)) (D.1 0 1))) := by
  have ht := hC.2.1
  have hT := hC.2.2.1
  have hR := hC.2.2.2
  have bI := cx_isT hC
  have bv := tT_v hT
  have bh := tT_bh hT
  have bw := tT_bw hT
  have bk := tT_bk hT
  unfold f_X11_worksIn
  refine lp_bits _ _ (fun i b hi hb => ?_) (fun b hb => ?_)
  · have hle : ¬ (D.1 0 1 ≤ i) := by omega
    have hgi := hg i hi
    have hsp := hS.2.1 i hi
    simp (disch := omega) only [f_X11_worksIn_l4, f_X11_worksIn_b33_4, ↓zv_eq, ↓zb1_some, ↓zb2_some, ↓zk_true, Option.bind_some, Option.bind_none, Option.map_some, Sum.elim_inl, Sum.elim_inr, if_true, if_false, ↓reduceIte, lt_lit, nI_clamp, zi_in, nI_leI, nI_ltI, nI_eq, nI_add, pk_mul, zi_sub, pk_div, zi_rem, zi_sh1, zi_shr, zi_and1, zi_or, zi_en, zi_ne, zi_ln, zi_nl, zi_lne, zi_nle, zi_nn, zq_01, zq_10, zq_011, zq_at, zq_ta, ite_not, Classical.not_not, hle, tT_live hT, tT_rh hT, tT_rw hT, tT_rk hT, tT_rla hT, tT_rco hT, tT_rse hT, tT_rno hT, tT_rwa hT, tT_row hT, tT_rst hT, tT_rki hT, tT_rva hT, tT_rtw hT, hsp]
    simp only [Bool.and_eq_true, decide_eq_true_eq]
    by_cases h : a i = true ∧ g i = x
    · simp only [h, and_self, if_true, or_pow hb]
    · simp only [h, if_false, Nat.add_zero]
  · simp (disch := omega) only [f_X11_worksIn_l4, ↓zv_eq, ↓zb1_some, ↓zb2_some, ↓zk_true, Option.bind_some, Option.bind_none, Option.map_some, Sum.elim_inl, Sum.elim_inr, if_true, if_false, ↓reduceIte, lt_lit, nI_clamp, zi_in, nI_leI, nI_ltI, nI_eq, nI_add, pk_mul, zi_sub, pk_div, zi_rem, zi_sh1, zi_shr, zi_and1, zi_or, zi_en, zi_ne, zi_ln, zi_nl, zi_lne, zi_nle, zi_nn, zq_01, zq_10, zq_011, zq_at, zq_ta, ite_not, Classical.not_not, Nat.le_refl, tT_live hT, tT_rh hT, tT_rw hT, tT_rk hT, tT_rla hT, tT_rco hT, tT_rse hT, tT_rno hT, tT_rwa hT, tT_row hT, tT_rst hT, tT_rki hT, tT_rva hT, tT_rtw hT]
theorem r_ownedBy {M : zm_Mem} {t v n : Nat} {D : zD} {S : Nat → Nat} (hC : Cx M t v D S n) {x : Nat} (hx : x < 5) : (zm_lp (fun s => f_X11_house_l87 (nI x) M s.1 s.2) (0, 0)).bind (fun e => some e) = some (nI (bitsOf (fun j => decide (D.1 3 j = x)) (D.1 0 1))) := by
  have ht := hC.2.1
  have hT := hC.2.2.1
  have hR := hC.2.2.2
  have bI := cx_isT hC
  have bv := tT_v hT
  have bh := tT_bh hT
  have bw := tT_bw hT
  have bk := tT_bk hT
  refine lp_bits _ _ (fun i b hi hb => ?_) (fun b hb => ?_)
  · have hle : ¬ (D.1 0 1 ≤ i) := by omega
    have hwi := tT_Wb hT i hi
    have eo := r_ownerNow hC hi
    simp (disch := omega) only [f_X11_house_l87, f_X11_house_b118_87, ↓zv_eq, ↓zb1_some, ↓zb2_some, ↓zk_true, Option.bind_some, Option.bind_none, Option.map_some, Sum.elim_inl, Sum.elim_inr, if_true, if_false, ↓reduceIte, lt_lit, nI_clamp, zi_in, nI_leI, nI_ltI, nI_eq, nI_add, pk_mul, zi_sub, pk_div, zi_rem, zi_sh1, zi_shr, zi_and1, zi_or, zi_en, zi_ne, zi_ln, zi_nl, zi_lne, zi_nle, zi_nn, zq_01, zq_10, zq_011, zq_at, zq_ta, ite_not, Classical.not_not, hle, tT_live hT, tT_rh hT, tT_rw hT, tT_rk hT, tT_rla hT, tT_rco hT, tT_rse hT, tT_rno hT, tT_rwa hT, tT_row hT, tT_rst hT, tT_rki hT, tT_rva hT, tT_rtw hT, eo]
    simp only [decide_eq_true_eq]
    by_cases h : D.1 3 i = x
    · simp only [h, if_true, or_pow hb]
    · simp only [h, if_false, Nat.add_zero]
  · simp (disch := omega) only [f_X11_house_l87, ↓zv_eq, ↓zb1_some, ↓zb2_some, ↓zk_true, Option.bind_some, Option.bind_none, Option.map_some, Sum.elim_inl, Sum.elim_inr, if_true, if_false, ↓reduceIte, lt_lit, nI_clamp, zi_in, nI_leI, nI_ltI, nI_eq, nI_add, pk_mul, zi_sub, pk_div, zi_rem, zi_sh1, zi_shr, zi_and1, zi_or, zi_en, zi_ne, zi_ln, zi_nl, zi_lne, zi_nle, zi_nn, zq_01, zq_10, zq_011, zq_at, zq_ta, ite_not, Classical.not_not, Nat.le_refl, tT_live hT, tT_rh hT, tT_rw hT, tT_rk hT, tT_rla hT, tT_rco hT, tT_rse hT, tT_rno hT, tT_rwa hT, tT_row hT, tT_rst hT, tT_rki hT, tT_rva hT, tT_rtw hT]
theorem ag_house {M : zm_Mem} {q n : Nat} (hI : Inv M q n) (hn : n < 512) (a1 : Int32) (a2 : Int32) : Ag (f_X10_house a1 a2 M) (fun M1 => f_X11_house a1 a2 M1) q n := by
  have hI' := hI
  obtain ⟨t, v, D, S, hC, hX⟩ := hI'
  have ht := hC.2.1
  have hT := hC.2.2.1
  have hR := hC.2.2.2
  have bI := cx_isT hC
  have bv := tT_v hT
  have bh := tT_bh hT
  have bw := tT_bw hT
  have bk := tT_bk hT
  rcases ix_cases a1 (b := D.1 0 0) (by omega) with h1 | ⟨x, hx, rfl⟩
  · refine ag_mk hI (r := -1) (M1 := M) (M2 := M) ?_ ?_ (sc_rfl M)
    · unfold f_X10_house; rw [c_isHouse0 hC h1]; rfl
    · show f_X11_house a1 a2 M = _
      unfold f_X11_house; rw [r_isHouse0 hC h1]; rfl
  obtain ⟨P, c1, c2, c3, c4, c5, c6⟩ := r_cp hC
  have hCP := cx_sc c2 hC
  have hTP := hCP.2.2.1
  have wl : ∀ (r : Int32), f_X10_house (nI x) a2 M = some (r, M) → f_X11_house (nI x) a2 M = some (r, P) → Ag (f_X10_house (nI x) a2 M) (fun M1 => f_X11_house (nI x) a2 M1) q n := by
    intro r h1 h2
    exact ag_mk hI (r := r) (M1 := M) (M2 := P) h1 h2 c2
  have q5 : (5 : Int32) * nI v + nI x = nI (5 * v + x) := by rw [show (5 : Int32) = nI 5 from rfl, pk_mul, nI_add]
  by_cases k0 : a2 = 0
  · refine wl (nI (D.1 1 x)) ?_ ?_
    · unfold f_X10_house
      rw [c_isHouse hC hx, zb1_some, if_neg (by decide), if_pos k0]
      simp (disch := omega) only [↓zv_eq, ht, bI, ↓zk_true, zi_in, nI_clamp, tT_no hT]
    · unfold f_X11_house
      rw [r_isHouse hC hx, zb1_some, if_neg (by decide), c1, zb2_some, if_pos k0, tT_live hTP, q5, zm_ck_t (zm_in_nI (by omega) (by omega)), nI_clamp (by omega), tT_rno hTP x hx]
  by_cases k1 : a2 = 1
  · refine wl (nI (D.1 2 x)) ?_ ?_
    · unfold f_X10_house
      rw [c_isHouse hC hx, zb1_some, if_neg (by decide), if_neg k0, if_pos k1]
      simp (disch := omega) only [↓zv_eq, ht, bI, ↓zk_true, zi_in, nI_clamp, tT_wa hT]
    · unfold f_X11_house
      rw [r_isHouse hC hx, zb1_some, if_neg (by decide), c1, zb2_some, if_neg k0, if_pos k1, tT_live hTP, q5, zm_ck_t (zm_in_nI (by omega) (by omega)), nI_clamp (by omega), tT_rwa hTP x hx]
  by_cases k2 : a2 = 2
  · refine wl (nI (bitsOf (fun j => isAt S (S 0) j && decide (S (4 + j) = x)) (D.1 0 1))) ?_ ?_
    · unfold f_X10_house
      rw [c_isHouse hC hx, zb1_some, if_neg (by decide), if_neg k0, if_neg k1, if_pos k2, c_worksIn hC hn (by omega)]; rfl
    · unfold f_X11_house
      rw [r_isHouse hC hx, zb1_some, if_neg (by decide), c1, zb2_some, if_neg k0, if_neg k1, if_pos k2, r_worksIn hCP c3 (hg_S hC) (by omega)]; rfl
  by_cases k3 : a2 = 3
  · refine wl (nI (bitsOf (fun j => decide (D.1 3 j = x)) (D.1 0 1))) ?_ ?_
    · unfold f_X10_house
      rw [c_isHouse hC hx, zb1_some, if_neg (by decide), if_neg k0, if_neg k1, if_neg k2, if_pos k3, c_worksOwnedBy hC hn (by omega)]; rfl
    · unfold f_X11_house
      rw [r_isHouse hC hx, zb1_some, if_neg (by decide), c1, zb2_some, if_neg k0, if_neg k1, if_neg k2, if_pos k3, bind_some_id (r_ownedBy hCP (x := x) (by omega))]; rfl
  by_cases k4 : a2 = 4
  · obtain ⟨M1, p1, p2⟩ := c_pleasure hn hC hx
    have hC1 := cx_sc p2 hC
    obtain ⟨P1, d1, d2, d3, d4, d5, d6⟩ := r_cp hC1
    obtain ⟨M2, p3, p4⟩ := r_pleasure (cx_sc d2 hC1) d3 (hg_S hC) hx
    refine ag_mk hI (r := plF D (isAt S (S 0)) (fun j => S (4 + j)) (S 0) x (D.1 0 1)) (M1 := M1) (M2 := M2) ?_ ?_ (sc_tr p2 (sc_tr d2 (sc_Q p4)))
    · unfold f_X10_house
      rw [c_isHouse hC hx, zb1_some, if_neg (by decide), if_neg k0, if_neg k1, if_neg k2, if_neg k3, if_pos k4, p1]; rfl
    · show f_X11_house (nI x) a2 M1 = _
      unfold f_X11_house
      rw [r_isHouse hC1 hx, zb1_some, if_neg (by decide), d1, zb2_some, if_neg k0, if_neg k1, if_neg k2, if_neg k3, if_pos k4, p3]; rfl
  refine wl (-1) ?_ ?_
  · unfold f_X10_house
    rw [c_isHouse hC hx, zb1_some, if_neg (by decide), if_neg k0, if_neg k1, if_neg k2, if_neg k3, if_neg k4]
  · unfold f_X11_house
    rw [r_isHouse hC hx, zb1_some, if_neg (by decide), c1, zb2_some, if_neg k0, if_neg k1, if_neg k2, if_neg k3, if_neg k4]
/-! the richest -/
def bst (V : Nat → Nat) : Nat → Nat
  | 0 => 0
  | i + 1 => if V (bst V i) < V i then i else bst V i
theorem bst_lt (V : Nat → Nat) : ∀ i, 0 < i → bst V i < i
  | i + 1, _ => by
    unfold bst
    split
    · omega
    · rcases Nat.eq_zero_or_pos i with h | h
      · subst h; exact Nat.zero_lt_one
      · have := bst_lt V i h; omega
def vlu (D : zD) (S : Nat → Nat) (x : Nat) : Nat := sumOf (fun j => if isAt S (S 0) j = true ∧ S (4 + j) = x then D.1 6 j else 0) (D.1 0 1)
theorem vlu_le {M : zm_Mem} {t v n : Nat} {D : zD} {S : Nat → Nat} (hC : Cx M t v D S n) (x : Nat) : vlu D S x ≤ 600 := by
  have ht := hC.2.1
  have hT := hC.2.2.1
  have hR := hC.2.2.2
  have bI := cx_isT hC
  have bv := tT_v hT
  have bh := tT_bh hT
  have bw := tT_bw hT
  have bk := tT_bk hT
  have := sumOf_le (f := fun j => if isAt S (S 0) j = true ∧ S (4 + j) = x then D.1 6 j else 0) (c := 99) (i := D.1 0 1) (fun j hj => by have := tT_Wb hT j hj; split <;> omega)
  unfold vlu
  omega
theorem ag_richest {M : zm_Mem} {q n : Nat} (hI : Inv M q n) (hn : n < 512) (a1 : Int32) (ha1 : a1 = 0 ∨ a1 = 1): Ag (rd (f_X10_richest a1 M) M) (fun M1 => rd (f_X11_richest a1 M1) M1) q n := by
  have hI' := hI
  obtain ⟨t, v, D, S, hC, hX⟩ := hI'
  have ht := hC.2.1
  have hT := hC.2.2.1
  have hR := hC.2.2.2
  have bI := cx_isT hC
  have bv := tT_v hT
  have bh := tT_bh hT
  have bw := tT_bw hT
  have bk := tT_bk hT
  have hV := vlu_le hC
  have hc : ∀ x, x < 5 → f_X10_valueIn (nI x) M = some (nI (vlu D S x)) := fun x hx => c_valueIn hC hn hx
  have hr : ∀ x, x < 5 → f_X11_valueIn (nI x) M = some (nI (vlu D S x)) := fun x hx => r_valueIn hC hn hx
  have wl : ∀ (r : Int32), f_X10_richest a1 M = some r → f_X11_richest a1 M = some r → Ag (rd (f_X10_richest a1 M) M) (fun M1 => rd (f_X11_richest a1 M1) M1) q n := by
    intro r h1 h2
    exact ag_mk hI (r := r) (M1 := M) (M2 := M) (by rw [h1]; rfl) (by show rd (f_X11_richest a1 M) M = _; rw [h2]; rfl) (sc_rfl M)
  generalize hVV : vlu D S = V at hV hc hr
  have bb := bst_lt V
  rcases Nat.eq_zero_or_pos (D.1 0 0) with h0 | h0
  · refine wl (-nI 2) ?_ ?_
    · have key : zm_lp (fun s => f_X10_richest_l9 M s.1 s.2.1 s.2.2) ((-2), (-2), 0) = some (-nI 2, -nI 2) := by
        refine lp_end ?_
        show f_X10_richest_l9 M (-2) (-2) 0 = _
        unfold f_X10_richest_l9
        simp only [zv_eq]
        rw [ht, bI, zk_true, tT_h hT, h0, if_pos (by decide)]; rfl
      unfold f_X10_richest
      rw [key]
      simp only [Option.bind_some]
      split <;> rfl
    · unfold f_X11_richest
      rw [tT_live hT, zm_ck_t (zm_in_nI (by omega) (by omega)), nI_clamp (by omega), tT_rh hT, h0, if_pos (by rfl)]; rfl
  have kc : zm_lp (fun s => f_X10_richest_l9 M s.1 s.2.1 s.2.2) ((-2), (-2), 0) = some (nI (bst V (D.1 0 0)), nI (V (bst V (D.1 0 0)))) := by
    refine lp_for (step := fun s => f_X10_richest_l9 M s.1 s.2.1 s.2.2) (fun i => if i = 0 then ((-2), (-2), 0) else (nI (bst V i), nI (V (bst V i)), nI i)) (D.1 0 0) (fun i hi => ?_) ?_
    · have e := hc i (by omega)
      rw [if_neg (show ¬ i + 1 = 0 by omega)]
      by_cases hi0 : i = 0
      · subst hi0
        rw [if_pos rfl]
        show f_X10_richest_l9 M (-2) (-2) (nI 0) = _
        unfold f_X10_richest_l9 f_X10_richest_b41_9
        simp only [zv_eq]
        rw [ht, bI, zk_true, tT_h hT, if_neg (nI_ge (by omega) (by omega)), e, zb1_some, if_neg (show ¬ nI (V 0) ≤ (-2 : Int32) from fun z => (zi_lne (a := V 0) (b := 2) (by omega) (by omega) (by have := hV 0; omega)).1 z), nI_k1]
        have : bst V 1 = 0 := by unfold bst; split <;> rfl
        rw [this]
      · have hbi := bb i (by omega)
        have hv1 := hV i
        have hv2 := hV (bst V i)
        rw [if_neg hi0]
        show f_X10_richest_l9 M (nI (bst V i)) (nI (V (bst V i))) (nI i) = _
        unfold f_X10_richest_l9 f_X10_richest_b41_9
        simp only [zv_eq]
        rw [ht, bI, zk_true, tT_h hT, if_neg (nI_ge (by omega) (by omega)), e, zb1_some, nI_k1]
        have eb : bst V (i + 1) = if V (bst V i) < V i then i else bst V i := rfl
        by_cases hlt : V (bst V i) < V i
        · rw [if_neg (nI_ge hlt (by omega)), eb, if_pos hlt]
        · rw [if_pos (nI_le (by omega) (by omega)), eb, if_neg hlt]
    · rw [if_neg (by omega)]
      show f_X10_richest_l9 M _ _ (nI (D.1 0 0)) = _
      unfold f_X10_richest_l9
      simp only [zv_eq]
      rw [ht, bI, zk_true, tT_h hT, if_pos (nI_le (Nat.le_refl _) (by omega))]
  have kr : zm_lp (fun s => f_X11_richest_l19 M s.1 s.2) (0, 1) = some (nI (bst V (D.1 0 0))) := by
    have b1 : bst V 1 = 0 := by unfold bst; split <;> rfl
    have := lp_for (step := fun s => f_X11_richest_l19 M s.1 s.2) (fun i => (nI (bst V (i + 1)), nI (i + 1))) (D.1 0 0 - 1) (e := nI (bst V (D.1 0 0))) (fun i hi => by
      have hbi := bb (i + 1) (by omega)
      have hv1 := hV (i + 1)
      have hv2 := hV (bst V (i + 1))
      show f_X11_richest_l19 M (nI (bst V (i + 1))) (nI (i + 1)) = _
      unfold f_X11_richest_l19 f_X11_richest_b47_19
      rw [tT_live hT, zm_ck_t (zm_in_nI (by omega) (by omega)), nI_clamp (by omega), tT_rh hT, if_neg (nI_ge (by omega) (by omega)), hr _ (by omega), zb1_some, hr _ (by omega), zb1_some]
      simp only [zv_eq]
      rw [nI_k1]
      have eb : bst V (i + 1 + 1) = if V (bst V (i + 1)) < V (i + 1) then i + 1 else bst V (i + 1) := rfl
      by_cases hlt : V (bst V (i + 1)) < V (i + 1)
      · rw [if_neg (nI_ge hlt (by omega)), eb, if_pos hlt]
      · rw [if_pos (nI_le (by omega) (by omega)), eb, if_neg hlt]) (by
      show f_X11_richest_l19 M _ (nI (D.1 0 0 - 1 + 1)) = _
      unfold f_X11_richest_l19
      rw [show D.1 0 0 - 1 + 1 = D.1 0 0 by omega, tT_live hT, zm_ck_t (zm_in_nI (by omega) (by omega)), nI_clamp (by omega), tT_rh hT, if_pos (nI_le (Nat.le_refl _) (by omega))])
    simp only [Nat.zero_add, b1] at this
    exact this
  have hlast := bb (D.1 0 0) h0
  rcases ha1 with rfl | rfl
  · refine wl (nI (bst V (D.1 0 0))) ?_ ?_
    · unfold f_X10_richest; rw [kc]; rfl
    · unfold f_X11_richest f_X11_richest_x53_19
      rw [tT_live hT, zm_ck_t (zm_in_nI (by omega) (by omega)), nI_clamp (by omega), tT_rh hT, if_neg (nI_ne0 h0 (by omega)), kr]; rfl
  · refine wl (nI (V (bst V (D.1 0 0)))) ?_ ?_
    · unfold f_X10_richest; rw [kc]; rfl
    · unfold f_X11_richest f_X11_richest_x53_19
      rw [tT_live hT, zm_ck_t (zm_in_nI (by omega) (by omega)), nI_clamp (by omega), tT_rh hT, if_neg (nI_ne0 h0 (by omega)), kr]
      simp only [Option.bind_some]
      rw [if_neg (by decide), hr _ (by omega)]; rfl
