/-! the first day that isn't well -/
def fF (p : Nat → Bool) : Nat → Nat → Int32
  | 0, _ => -nI 2
  | m + 1, i => if p i = true then fF p m (i + 1) else nI i
theorem lp_first {st : Int32 → zm_Mem → Option ((Int32 × zm_Mem) ⊕ ((Int32 × zm_Mem) ⊕ zm_Mem))} (K : Nat → zm_Mem → Prop) (E : zm_Mem → Prop) (p : Nat → Bool) (N : Nat) (h : ∀ i L, i < N → K i L → ∃ L', (p i = false → st (nI i) L = some (.inr (.inl (nI i, L'))) ∧ E L') ∧ (p i = true → st (nI i) L = some (.inl (nI (i + 1), L')) ∧ K (i + 1) L')) (he : ∀ L, K N L → st (nI N) L = some (.inr (.inr L)) ∧ E L) : ∀ m i L, i + m = N → K i L → ∃ L', (zm_lp (fun s => st s.1 s.2) (nI i, L)).bind (Sum.elim (fun e => some (e.1, e.2)) (fun e => some ((-2), e))) = some (fF p m i, L') ∧ E L' := by
  intro m
  induction m with
  | zero =>
    intro i L hi hK
    have hi' : i = N := by omega
    subst hi'
    obtain ⟨h1, h2⟩ := he L hK
    refine ⟨L, ?_, h2⟩
    rw [lp_end (step := fun s => st s.1 s.2) (s := (nI i, L)) h1]
    rfl
  | succ m ih =>
    intro i L hi hK
    obtain ⟨L', h1, h2⟩ := h i L (by omega) hK
    cases hp : p i with
    | false =>
      obtain ⟨h3, h4⟩ := h1 hp
      refine ⟨L', ?_, h4⟩
      rw [lp_end (step := fun s => st s.1 s.2) (s := (nI i, L)) h3]
      unfold fF
      rw [if_neg (by rw [hp]; decide)]
      rfl
    | true =>
      obtain ⟨h3, h4⟩ := h2 hp
      obtain ⟨L2, h5, h6⟩ := ih (i + 1) L' (by omega) h4
      refine ⟨L2, ?_, h6⟩
      rw [lp_go (step := fun s => st s.1 s.2) (s := (nI i, L)) h3, h5]
      conv => rhs; unfold fF
      rw [if_pos hp]
theorem ag_bad {M : zm_Mem} {q n : Nat} (hI : Inv M q n) (hn : n < 512) : Ag (f_X10_bad M) (fun M1 => f_X11_bad M1) q n := by
  have hI' := hI
  obtain ⟨t, v, D, S, hC, hX⟩ := hI'
  have ht := hC.2.1
  have hT := hC.2.2.1
  have hR := hC.2.2.2
  have bI := cx_isT hC
  have bv := tT_v hT
  have bh := tT_bh hT
  have bw := tT_bw hT
  have bk := tT_bk hT
  have hb0 := (cx_b hC).1
  have hg := hg_S hC
  have hh := hh_S hC
  obtain ⟨M1, k1, k2⟩ := lp_first (st := fun i L => f_X10_bad_l7 (nI (stn D (S 3))) i L) (fun _ L => Sc M L) (fun L => Sc M L) (fun i => wl D (isAt S (S 0 + i)) (fun j => S (4 + j)) (S 0 + i) (S 3)) 201 (fun i L hi hK => by
    have hCL := cx_sc hK hC
    obtain ⟨L1, e1, s1, n1⟩ := c_look (dy := S 0 + i) hn hCL (by omega)
    have hCL1 := cx_sc s1 hCL
    obtain ⟨L2, e2, f2⟩ := c_allWell (li := S 3) hn hCL1 n1 hg hh
    have s2 := sc_tr hK (sc_tr s1 (sc_C f2))
    have est : f_X10_bad_l7 (nI (stn D (S 3))) (nI i) L = (if (if wl D (isAt S (S 0 + i)) (fun j => S (4 + j)) (S 0 + i) (S 3) = true then nI 1 else nI 0) = 0 then some (.inr (.inl (nI i, L2))) else some (.inl (nI (i + 1), L2))) := by
      unfold f_X10_bad_l7
      rw [if_neg (show ¬ (200 : Int32) < nI i from nI_nlt (a := 200) (by omega) (by omega))]
      simp only [zv_eq]
      rw [hCL.2.1, bI, zk_true, c_today hCL, zb1_some, nI_add, e1, zb2_some, e2, zb2_some, nI_k1]
    refine ⟨L2, fun hp => ⟨?_, s2⟩, fun hp => ⟨?_, s2⟩⟩
    · rw [est, hp]; rfl
    · rw [est, hp]; rfl) (fun L hK => by
    refine ⟨?_, hK⟩
    unfold f_X10_bad_l7
    rw [if_pos (show (200 : Int32) < nI 201 from by decide)]) 201 0 M (by omega) (sc_rfl M)
  have hC1 := cx_sc k2 hC
  obtain ⟨P, c1, c2, c3, c4, c5, c6⟩ := r_cp hC1
  have hCP := cx_sc c2 hC1
  obtain ⟨M2, k3, k4⟩ := lp_first (st := fun i L => f_X11_bad_l6 i L) (fun i L => Sc P L ∧ RwA L D S (fun _ => S 0 + i) ∧ L.1 92 30 = nI (S 0 + i) ∧ ∀ j, j < D.1 0 2 → L.1 92 (24 + j) = nI (S 3 / 2 ^ j % 2)) (fun L => Sc P L) (fun i => wl D (isAt S (S 0 + i)) (fun j => S (4 + j)) (S 0 + i) (S 3)) 201 (fun i L hi hK => by
    obtain ⟨q1, q2, q3, q4⟩ := hK
    have hCL := cx_sc q1 hCP
    obtain ⟨L2, e2, f2⟩ := r_isWell hCL (rw_of_A q2 q3 q4) hg hh
    have s2 := sc_tr q1 (sc_Q f2)
    have e30 : (30 : Int32).toNatClampNeg = 30 := by decide
    have e60 : zm_in 30 60 = true := by decide
    have l30 : L2.1 92 30 = nI (S 0 + i) := (f2.2 92 30 rfl).trans q3
    have a2 := rwA_Q f2 q2
    cases hp : wl D (isAt S (S 0 + i)) (fun j => S (4 + j)) (S 0 + i) (S 3) with
    | false =>
      rw [hp] at e2
      refine ⟨L2, fun _ => ⟨?_, s2⟩, fun z => by cases z⟩
      unfold f_X11_bad_l6
      rw [if_neg (show ¬ (200 : Int32) < nI i from nI_nlt (a := 200) (by omega) (by omega)), e2]
      rfl
    | true =>
      rw [hp] at e2
      have f92 : Fr w92 L2 (zm_sI L2 92 30 (nI (S 0 + (i + 1)))) := fr_sI rfl
      have s3 := sc_tr s2 (sc_92 f92)
      obtain ⟨Y, y1, y2, y3, y4⟩ := r_arrives (d := S 0 + i) (d' := S 0 + (i + 1)) hn (cx_sc s3 hCP) (by rw [mI1, if_pos ⟨rfl, rfl⟩]) (by omega) (by omega) (fun j hj => by
        refine ⟨?_, ?_, ?_⟩
        · rw [mI1, if_neg (by omega)]; exact (a2 j hj).1
        · rw [mI1, if_neg (by omega)]; exact (a2 j hj).2.1
        · rw [mI1, if_neg (by omega)]; exact (a2 j hj).2.2)
      refine ⟨Y, (fun z => by cases z), fun _ => ⟨?_, sc_tr s3 (sc_92 y2), y4, ?_, fun j hj => ?_⟩⟩
      · unfold f_X11_bad_l6
        rw [if_neg (show ¬ (200 : Int32) < nI i from nI_nlt (a := 200) (by omega) (by omega)), e2, if_pos rfl, zb2_some, if_neg (by decide)]
        simp only [zv_eq, e60, e30, zk_true]
        rw [l30, show nI (S 0 + i) + 1 = nI (S 0 + (i + 1)) from nI_add (S 0 + i) 1, y1, zb2_some, nI_k1]
      · rw [y3 30 (by omega), mI1, if_pos ⟨rfl, rfl⟩]
      · rw [y3 _ (by omega), mI1, if_neg (by omega), f2.2 92 _ rfl]; exact q4 j hj) (fun L hK => by
    refine ⟨?_, hK.1⟩
    unfold f_X11_bad_l6
    rw [if_pos (show (200 : Int32) < nI 201 from by decide)]) 201 0 P (by omega) ⟨sc_rfl P, c6, c3.1, c3.2.2⟩
  refine ag_mk hI (r := fF (fun i => wl D (isAt S (S 0 + i)) (fun j => S (4 + j)) (S 0 + i) (S 3)) 201 0) (M1 := M1) (M2 := M2) ?_ ?_ (sc_tr k2 (sc_tr c2 k4))
  · unfold f_X10_bad
    rw [c_standing hC, zb1_some]
    exact k1
  · show f_X11_bad M1 = _
    unfold f_X11_bad
    rw [c1, zb2_some]
    exact k3
/-! how often a work would be there -/
def need (D : zD) (S : Nat → Nat) (d i : Nat) : Int32 := if isL D (nI (D.1 0 5 + i)) (nI (S 1)) = 0 then nI d else nI d + 5
def tmF (D : zD) (S : Nat → Nat) (d : Nat) (k : Int32) : Nat → Int32
  | 0 => 0
  | i + 1 => if k < need D S d i then tmF D S d k i else tmF D S d k i + 1
theorem r_in1N {M : zm_Mem} {a : Int32} (h : ¬ (1 ≤ a ∧ a ≤ 20)) : f_X11_in a 1 20 M = some (nI 0) := by rw [r_in, if_neg h]
theorem ag_times {M : zm_Mem} {q n : Nat} (hI : Inv M q n) (hn : n < 512) (a1 : Int32) (a2 : Int32) (a3 : Int32) (a4 : Int32) : Ag (f_X10_times a1 a2 a3 a4 M) (fun M1 => f_X11_times a1 a2 a3 a4 M1) q n := by
  have hI' := hI
  obtain ⟨t, v, D, S, hC, hX⟩ := hI'
  have ht := hC.2.1
  have hT := hC.2.2.1
  have hR := hC.2.2.2
  have bI := cx_isT hC
  have bv := tT_v hT
  have bh := tT_bh hT
  have bw := tT_bw hT
  have bk := tT_bk hT
  rcases ix_cases a1 (b := D.1 0 1) (by omega) with h1 | ⟨w, hw, rfl⟩
  · refine ag_mk hI (r := -1) (M1 := M) (M2 := M) ?_ ?_ (sc_rfl M)
    · unfold f_X10_times; rw [c_isWork0 hC h1]; rfl
    · show f_X11_times a1 a2 a3 a4 M = _
      unfold f_X11_times; rw [r_isPair0 hC (Or.inl h1)]; rfl
  rcases ix_cases a2 (b := D.1 0 0) (by omega) with h2 | ⟨x, hx, rfl⟩
  · refine ag_mk hI (r := -1) (M1 := M) (M2 := M) ?_ ?_ (sc_rfl M)
    · unfold f_X10_times; rw [c_isWork hC hw, zb1_some, if_neg (by decide), c_isHouse0 hC h2]; rfl
    · show f_X11_times (nI w) a2 a3 a4 M = _
      unfold f_X11_times; rw [r_isPair0 hC (Or.inr ⟨⟨w, hw, rfl⟩, h2⟩)]; rfl
  have r0 := r_isPair hC hw hx
  rcases ix_cases a3 (b := 201) (by omega) with h3 | ⟨k, hk, rfl⟩
  · refine ag_mk hI (r := -1) (M1 := M) (M2 := M) ?_ ?_ (sc_rfl M)
    · unfold f_X10_times
      rw [c_isWork hC hw, zb1_some, if_neg (by decide), c_isHouse hC hx, zb1_some, if_neg (by decide)]
      by_cases h0 : a3 < 0
      · rw [if_pos h0]
      · rw [if_neg h0, if_pos (show (200 : Int32) < a3 from Int32.not_le.1 (zj_gt (b := 200) (by omega) (h3.resolve_left h0)))]
    · show f_X11_times (nI w) (nI x) a3 a4 M = _
      unfold f_X11_times; rw [r0, zb1_some, if_neg (by decide), r_isLong0 h3]; rfl
  have g3 : ¬ nI k < 0 := nI_pos (by omega)
  have g3' : ¬ (200 : Int32) < nI k := nI_nlt (a := 200) (by omega) (by omega)
  by_cases h4 : 1 ≤ a4 ∧ a4 ≤ 20
  rotate_left
  · refine ag_mk hI (r := -1) (M1 := M) (M2 := M) ?_ ?_ (sc_rfl M)
    · unfold f_X10_times
      rw [c_isWork hC hw, zb1_some, if_neg (by decide), c_isHouse hC hx, zb1_some, if_neg (by decide), if_neg g3, if_neg g3']
      by_cases h0 : a4 < 1
      · rw [if_pos h0]
      · rw [if_neg h0, if_neg (fun z => h4 ⟨Int32.not_lt.1 h0, z⟩)]
    · show f_X11_times (nI w) (nI x) (nI k) a4 M = _
      unfold f_X11_times; rw [r0, zb1_some, if_neg (by decide), r_isLong (by omega), zb1_some, if_neg (by decide), r_in1N h4]; rfl
  have e4 : ∃ s, s ≤ 20 ∧ a4 = nI s := nI_of2 (n := 20) (M := 20) (by decide) (fun z => by
    have := h4.1
    rw [Int32.lt_iff_toInt_lt] at z
    rw [Int32.le_iff_toInt_le] at this
    have : (1 : Int32).toInt = 1 := by decide
    have : (0 : Int32).toInt = 0 := by decide
    omega) h4.2
  obtain ⟨s, hs, rfl⟩ := e4
  have g4 : ¬ nI s < 1 := Int32.not_lt.2 h4.1
  have hsent := c_canBeSent hC hn hw (x := x) (by omega)
  have hrp := tR_rp hR w hw
  have hg : S (4 + w) < 5 := hg_S hC w hw
  have em2 : (-2 : Int32) = -nI 2 := rfl
  have neg2 : (-nI 2 : Int32) < 0 := by decide
  have i4 : f_X11_in (nI s) 1 20 M = some (nI 1) := by rw [r_in, if_pos h4]
  by_cases hgo : isAt S (S 0) w = true ∧ S (4 + w) ≠ x
  rotate_left
  · rw [if_neg hgo] at hsent
    refine ag_mk hI (r := -2) (M1 := M) (M2 := M) ?_ ?_ (sc_rfl M)
    · unfold f_X10_times
      rw [c_isWork hC hw, zb1_some, if_neg (by decide), c_isHouse hC hx, zb1_some, if_neg (by decide), if_neg g3, if_neg g3', if_neg g4, if_pos h4.2, hsent]; rfl
    · show f_X11_times (nI w) (nI x) (nI k) (nI s) M = _
      unfold f_X11_times
      rw [r0, zb1_some, if_neg (by decide), r_isLong (by omega), zb1_some, if_neg (by decide), i4, zb1_some, if_neg (by decide), zm_ck_t (zm_in_nI (by omega) (by omega)), nI_clamp (by omega), hrp]
      by_cases hat : S (10 + w) ≤ S 0
      · have hgx : S (4 + w) = x := by
          refine Classical.byContradiction (fun z => hgo ⟨?_, z⟩)
          simp only [isAt, decide_eq_true_eq]; exact hat
        rw [if_pos hat, if_neg (nI_pos (by omega)), zm_ck_t (zm_in_nI (by omega) (by omega)), if_pos (by rw [hgx])]
      · rw [if_neg hat, em2, if_pos neg2]
  obtain ⟨hat, hgx⟩ := hgo
  rw [if_pos ⟨hat, hgx⟩] at hsent
  have hat' : S (10 + w) ≤ S 0 := by simpa only [isAt, decide_eq_true_eq] using hat
  rw [if_pos hat'] at hrp
  obtain ⟨M1, e1, s1, n1⟩ := c_lookToday hn hC
  have hC1 := cx_sc s1 hC
  obtain ⟨M2, e2, f2⟩ := c_journey hC1 n1 hw hx
  have s2 := sc_tr s1 (sc_C f2)
  have hC2 := cx_sc s2 hC
  have hT2 := hC2.2.2.1
  obtain ⟨d, d1, d2, ed⟩ := tp_nat D (vr D w x 0 0 (S 0))
  rw [ed] at e2
  have kc : zm_lp (fun z => f_X10_times_l75 (nI k) (nI s) (nI d) M2 z.1 z.2) (0, 0) = some (tmF D S d (nI k) s) := by
    refine lp_for (step := fun z => f_X10_times_l75 (nI k) (nI s) (nI d) M2 z.1 z.2) (fun i => (tmF D S d (nI k) i, nI i)) s (fun i hi => ?_) ?_
    · show f_X10_times_l75 (nI k) (nI s) (nI d) M2 _ (nI i) = _
      unfold f_X10_times_l75 f_X10_times_b108_75 f_X10_times_b119_75
      rw [if_neg (nI_ge hi (by omega))]
      simp only [zv_eq]
      rw [hC2.2.1, bI, zk_true, tT_se hT2, nI_add, c_isLate hC2, zb1_some, nI_k1]
      have en : ∀ y, tmF D S d (nI k) (i + 1) = y ↔ (if nI k < need D S d i then tmF D S d (nI k) i else tmF D S d (nI k) i + 1) = y := fun y => Iff.rfl
      have en' : tmF D S d (nI k) (i + 1) = (if nI k < need D S d i then tmF D S d (nI k) i else tmF D S d (nI k) i + 1) := rfl
      rw [en']
      unfold need
      by_cases hl : isL D (nI (D.1 0 5 + i)) (nI (S 1)) = 0
      · rw [if_pos hl, if_pos hl]; split <;> rfl
      · rw [if_neg hl, if_neg hl]; split <;> rfl
    · show f_X10_times_l75 (nI k) (nI s) (nI d) M2 _ (nI s) = _
      unfold f_X10_times_l75
      rw [if_pos (nI_le (Nat.le_refl _) (by omega))]
  obtain ⟨P, c1, c2, c3, c4, c5, c6⟩ := r_cp hC2
  have hCP := cx_sc c2 hC2
  obtain ⟨Q, q1, q2⟩ := r_tripOf hCP c3 hw hx
  rw [ed] at q1
  have hCQ := cx_Q q2 hCP
  have q31 : Q.1 92 31 = nI (S 1) := ((q2.2 92 31 rfl).trans (c4 31 (by omega))).trans (tR_rt hC2.2.2.2)
  obtain ⟨Y, y1, y2⟩ := lp_accM (st := fun b i L => f_X11_times_l69 (nI k) (nI s) (nI d) b i L) (fun x j => decide (x = 52) && decide (j = 58)) (tmF D S d (nI k)) s Q (fun i L hi hF => by
    have hsc : Sc Q L := fr_sc (fun x j h => by simp only [Bool.and_eq_true, decide_eq_true_eq] at h; obtain ⟨rfl, rfl⟩ := h; rfl) hF
    have hTL := (cx_sc hsc hCQ).2.2.1
    have fS : Fr (fun x j => decide (x = 52) && decide (j = 58)) L (zm_sI L 52 58 (nI (D.1 0 5 + i))) := fr_sI rfl
    have hsc2 : Sc L (zm_sI L 52 58 (nI (D.1 0 5 + i))) := sc_sI rfl
    have hT3 := (cx_sc (sc_tr hsc hsc2) hCQ).2.2.1
    refine ⟨zm_sI L 52 58 (nI (D.1 0 5 + i)), ?_, fS⟩
    have el := r_isLate (sd := nI (D.1 0 5 + i)) (tr := nI (S 1)) hT3 (by rw [mI1, if_pos ⟨rfl, rfl⟩]) (by rw [mI1, if_neg (by omega)]; exact (hF.2 92 31 rfl).trans q31)
    unfold f_X11_times_l69 f_X11_times_b106_69 f_X11_times_b114_69
    rw [if_neg (nI_ge hi (by omega)), tT_live hTL, zm_ck_t (zm_in_nI (by omega) (by omega)), nI_clamp (by omega), tT_rse hTL, nI_add]
    simp only [zv_eq]
    rw [el, zb1_some, nI_k1]
    have en' : tmF D S d (nI k) (i + 1) = (if nI k < need D S d i then tmF D S d (nI k) i else tmF D S d (nI k) i + 1) := rfl
    rw [en']
    unfold need
    by_cases hl : isL D (nI (D.1 0 5 + i)) (nI (S 1)) = 0
    · rw [if_pos hl, if_pos hl, show nI d + 0 = nI d from nI_add d 0]; split <;> rfl
    · rw [if_neg hl, if_neg hl]; split <;> rfl) (fun L hF => by
    unfold f_X11_times_l69
    rw [if_pos (nI_le (Nat.le_refl _) (by omega))])
  have hscY : Sc Q Y := fr_sc (fun x j h => by simp only [Bool.and_eq_true, decide_eq_true_eq] at h; obtain ⟨rfl, rfl⟩ := h; rfl) y2
  have kw : M2.1 91 w = nI (S (4 + w)) := by rw [tR_rp hC2.2.2.2 w hw, if_pos hat']
  refine ag_mk hI (r := tmF D S d (nI k) s) (M1 := M2) (M2 := Y) ?_ ?_ (sc_tr s2 (sc_tr c2 (sc_tr (sc_Q q2) hscY)))
  · unfold f_X10_times
    rw [c_isWork hC hw, zb1_some, if_neg (by decide), c_isHouse hC hx, zb1_some, if_neg (by decide), if_neg g3, if_neg g3', if_neg g4, if_pos h4.2, hsent, zb1_some, if_neg (by decide), e1, zb2_some, e2, zb2_some, kc]; rfl
  · show f_X11_times (nI w) (nI x) (nI k) (nI s) M2 = _
    unfold f_X11_times
    rw [r_isPair hC2 hw hx, zb1_some, if_neg (by decide), r_isLong (by omega), zb1_some, if_neg (by decide), show f_X11_in (nI s) 1 20 M2 = some (nI 1) by rw [r_in, if_pos h4], zb1_some, if_neg (by decide), zm_ck_t (zm_in_nI (by omega) (by omega)), nI_clamp (by omega), kw, if_neg (nI_pos (by omega)), zm_ck_t (zm_in_nI (by omega) (by omega)), if_neg (by rw [nI_eq (by omega) (by omega)]; exact hgx), c1, zb2_some, q1, zb2_some]
    have y1' : zm_lp (fun z => f_X11_times_l69 (nI k) (nI s) (nI d) z.1 z.2.1 z.2.2) (0, 0, Q) = _ := y1
    rw [y1']; rfl
