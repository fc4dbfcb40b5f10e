/-! what has been gathered from all packings -/
def fW (W : Nat) (wr : Nat → Nat) (way : Nat) : Option Nat := if pkP W W way = true then some (wr way) else none
def sN (W : Nat) (wr : Nat → Nat) (N : Nat) : zC3 := fo (kwF W wr) 0 N (fun _ => 0, 21, fun _ => 0)
theorem sN_S (W : Nat) (wr : Nat → Nat) (N : Nat) : sN W wr (N + 1) = kwF W wr (sN W wr N) N := by
  show kwF W wr _ (0 + N) = _
  rw [Nat.zero_add]; rfl
theorem sN_1 (W : Nat) (wr : Nat → Nat) (w : Nat) : ∀ N, (sN W wr N).1 w = sumOf (fun way => if pkP W W way = true ∧ wr way = w then 1 else 0) N
  | 0 => rfl
  | N + 1 => by
    rw [sN_S]
    unfold sumOf kwF
    rw [← sN_1 W wr w N]
    by_cases hp : pkP W W N = true
    · rw [if_pos hp]
      show (if w = wr N then (sN W wr N).1 w + 1 else (sN W wr N).1 w) = _
      by_cases hw : wr N = w
      · rw [if_pos hw.symm, if_pos ⟨hp, hw⟩]
      · rw [if_neg (fun z => hw z.symm), if_neg (fun z => hw z.2)]; rfl
    · rw [if_neg hp, if_neg (fun z => hp z.1)]; rfl
theorem mn_S (f : Nat → Option Nat) (N : Nat) : mnF f (N + 1) = match f N, mnF f N with
    | none, m => m
    | some v, none => some v
    | some v, some b => if b ≤ v then some b else some v := rfl
theorem sN_2 {W : Nat} {wr : Nat → Nat} (hwr : ∀ w, wr w ≤ 20) : ∀ N, (sN W wr N).2.1 = (mnF (fW W wr) N).getD 21
  | 0 => rfl
  | N + 1 => by
    have ih := sN_2 (W := W) hwr N
    have hw := hwr N
    rw [sN_S, mn_S]
    unfold kwF
    by_cases hp : pkP W W N = true
    · rw [if_pos hp, show fW W wr N = some (wr N) from if_pos hp]
      show (if wr N < (sN W wr N).2.1 then wr N else (sN W wr N).2.1) = _
      rw [ih]
      cases mnF (fW W wr) N with
      | none =>
        show (if wr N < 21 then wr N else 21) = wr N
        rw [if_pos (by omega)]
      | some b =>
        show (if wr N < b then wr N else b) = (if b ≤ wr N then some b else some (wr N)).getD 21
        by_cases hb : b ≤ wr N
        · rw [if_neg (by omega), if_pos hb]; rfl
        · rw [if_pos (by omega), if_neg hb]; rfl
    · rw [if_neg hp, show fW W wr N = none from if_neg hp]
      exact ih
theorem pow_bit6 : ∀ e, e < 6 → 2 ^ e < 64 ∧ ∀ d, d < 6 → 2 ^ e / 2 ^ d % 2 = if d = e then 1 else 0 := by decide +kernel
def qB (W : Nat) (wr : Nat → Nat) (m c d way : Nat) : Bool := pkP W W way && (decide (wr way = m) && decide (dgp 6 way W c = d))
theorem anyB_S (p : Nat → Bool) (n : Nat) : anyB p (n + 1) = (anyB p n || p n) := by
  unfold anyB
  show (!(allB (fun j => !p j) n && !p n)) = _
  cases allB (fun j => !p j) n <;> cases p n <;> rfl
theorem anyB_0 {p : Nat → Bool} {n : Nat} (h : ∀ j, j < n → p j = false) : anyB p n = false := by
  cases hq : anyB p n with
  | false => rfl
  | true =>
    obtain ⟨j, hj, hp⟩ := anyB_iff.1 hq
    rw [h j hj] at hp; cases hp
theorem sN_3 {W : Nat} {wr : Nat → Nat} (hwr : ∀ w, wr w ≤ 20) {c : Nat} (hc : c < W) : ∀ N m, mnF (fW W wr) N = some m → (sN W wr N).2.2 c < 64 ∧ ∀ d, d < 6 → (sN W wr N).2.2 c / 2 ^ d % 2 = if anyB (qB W wr m c d) N = true then 1 else 0
  | 0, m, h => by cases h
  | N + 1, m, h => by
    have ih := sN_3 hwr hc N
    have i2 := sN_2 (W := W) hwr N
    obtain ⟨sp1, sp2⟩ := mnF_spec (fW W wr) N
    have hdl := dgp_lt (B := 6) (by omega) N W c
    rw [mn_S] at h
    rw [sN_S]
    unfold kwF
    by_cases hp : pkP W W N = true
    · rw [show fW W wr N = some (wr N) from if_pos hp] at h
      rw [if_pos hp]
      show (if wr N < (sN W wr N).2.1 then (if c < W then 2 ^ dgp 6 N W c else 0) else if wr N = (sN W wr N).2.1 ∧ c < W then (sN W wr N).2.2 c ||| 2 ^ dgp 6 N W c else (sN W wr N).2.2 c) < 64 ∧ ∀ d, d < 6 → (if wr N < (sN W wr N).2.1 then (if c < W then 2 ^ dgp 6 N W c else 0) else if wr N = (sN W wr N).2.1 ∧ c < W then (sN W wr N).2.2 c ||| 2 ^ dgp 6 N W c else (sN W wr N).2.2 c) / 2 ^ d % 2 = _
      rw [i2]
      -- a new least
      have fresh : m = wr N → (∀ j, j < N → ∀ d, qB W wr m c d j = false) → (2 ^ dgp 6 N W c < 64 ∧ ∀ d, d < 6 → 2 ^ dgp 6 N W c / 2 ^ d % 2 = if anyB (qB W wr m c d) (N + 1) = true then 1 else 0) := by
        intro hm hq
        refine ⟨(pow_bit6 _ hdl).1, fun d hd => ?_⟩
        rw [(pow_bit6 _ hdl).2 d hd, anyB_S, anyB_0 (fun j hj => hq j hj d), Bool.false_or]
        unfold qB
        rw [hp, decide_eq_true hm.symm, Bool.true_and, Bool.true_and]
        by_cases hde : d = dgp 6 N W c
        · rw [if_pos hde, decide_eq_true hde.symm, if_pos rfl]
        · rw [if_neg hde, decide_eq_false (fun z => hde z.symm), if_neg (by decide)]
      cases hb : mnF (fW W wr) N with
      | none =>
        rw [hb] at h
        have hm : wr N = m := Option.some.inj h
        have hw := hwr N
        rw [show (none : Option Nat).getD 21 = 21 from rfl, if_pos (by omega), if_pos hc]
        refine fresh hm.symm (fun j hj d => ?_)
        have := sp1 hb j hj
        unfold fW at this
        cases hpj : pkP W W j with
        | false => unfold qB; rw [hpj]; rfl
        | true => rw [hpj, if_pos rfl] at this; cases this
      | some b =>
        rw [hb] at h
        obtain ⟨⟨i0, hi0, hi1⟩, hle⟩ := sp2 b hb
        have h' : (if b ≤ wr N then some b else some (wr N)) = some m := h
        rw [show (some b).getD 21 = b from rfl]
        by_cases hbw : b ≤ wr N
        · rw [if_pos hbw] at h'
          have hm : b = m := Option.some.inj h'
          subst hm
          obtain ⟨j1, j2⟩ := ih b hb
          rw [if_neg (by omega)]
          by_cases heq : wr N = b
          · rw [if_pos ⟨heq, hc⟩]
            refine ⟨(or_bit6 _ j1 _ hdl).1, fun d hd => ?_⟩
            rw [(or_bit6 _ j1 _ hdl).2 d hd, anyB_S]
            have hqN : qB W wr b c d N = decide (dgp 6 N W c = d) := by
              unfold qB
              rw [hp, decide_eq_true heq, Bool.true_and, Bool.true_and]
            rw [hqN]
            by_cases hde : d = dgp 6 N W c
            · rw [if_pos hde, decide_eq_true hde.symm, Bool.or_true, if_pos rfl]
            · rw [if_neg hde, decide_eq_false (fun z => hde z.symm), Bool.or_false]; exact j2 d hd
          · rw [if_neg (fun z => heq z.1)]
            refine ⟨j1, fun d hd => ?_⟩
            rw [j2 d hd, anyB_S]
            have hqN : qB W wr b c d N = false := by
              unfold qB
              rw [decide_eq_false heq, Bool.false_and, Bool.and_false]
            rw [hqN, Bool.or_false]
        · rw [if_neg hbw] at h'
          have hm : wr N = m := Option.some.inj h'
          rw [if_pos (by omega), if_pos hc]
          refine fresh hm.symm (fun j hj d => ?_)
          cases hpj : pkP W W j with
          | false => unfold qB; rw [hpj]; rfl
          | true =>
            have := hle j (wr j) hj (by unfold fW; rw [hpj, if_pos rfl])
            unfold qB
            rw [decide_eq_false (show ¬ wr j = m by omega), Bool.false_and, Bool.and_false]
    · rw [show fW W wr N = none from if_neg hp] at h
      rw [if_neg hp]
      have h' : mnF (fW W wr) N = some m := h
      obtain ⟨j1, j2⟩ := ih m h'
      refine ⟨j1, fun d hd => ?_⟩
      rw [j2 d hd, anyB_S]
      have hqN : qB W wr m c d N = false := by
        unfold qB
        cases hpN : pkP W W N with
        | false => rfl
        | true => exact absurd hpN hp
      rw [hqN, Bool.or_false]
def idn : Nat → Nat
  | 0 => 0
  | W + 1 => idn W * 6 + W
theorem idn_ok : ∀ W, W < 7 → pkP W W (idn W) = true ∧ idn W < 6 ^ W := by decide +kernel
theorem mn_some {W : Nat} (hW : W ≤ 6) (wr : Nat → Nat) : ∃ m, mnF (fW W wr) (6 ^ W) = some m := by
  cases h : mnF (fW W wr) (6 ^ W) with
  | some m => exact ⟨m, rfl⟩
  | none =>
    have := (mnF_spec (fW W wr) (6 ^ W)).1 h (idn W) (idn_ok W (by omega)).2
    unfold fW at this
    rw [(idn_ok W (by omega)).1, if_pos rfl] at this
    cases this
/-! the reference's loops over all numbers -/
theorem r_waysWith {M : zm_Mem} {t v n K k w : Nat} {D : zD} {S cr bf f : Nat → Nat} (hC : Cx M t v D S n) (hL : LsD M (D.1 0 1) K cr bf f) (hK : K ≤ 20) (hk : k ≤ K) (hw : w ≤ 20) : f_X11_waysWith (nI k) (nI w) M = some (nI (sumOf (fun way => if pkP (D.1 0 1) (D.1 0 1) way = true ∧ wrs D cr bf f k way = w then 1 else 0) (6 ^ D.1 0 1))) := by
  have ht := hC.2.1
  have hT := hC.2.2.1
  have hR := hC.2.2.2
  have bI := cx_isT hC
  have bv := tT_v hT
  have bh := tT_bh hT
  have bw := tT_bw hT
  have bk := tT_bk hT
  have p6 := p6_le bw
  have hv2 : zm_in (nI v) 2 = true := zm_in_nI (by omega) (by omega)
  have hcv : (nI v).toNatClampNeg = v := nI_clamp (by omega)
  unfold f_X11_waysWith
  refine lp_sum (st := fun b i => f_X11_waysWith_l5 (nI k) (nI w) M b i) (fun way => if pkP (D.1 0 1) (D.1 0 1) way = true ∧ wrs D cr bf f k way = w then 1 else 0) (6 ^ D.1 0 1) 1 (fun i _ => by split <;> omega) (fun i b hi hb => ?_) (fun b hb => ?_)
  · have hip := r_isPacking hC hi
    unfold f_X11_waysWith_l5 f_X11_waysWith_b45_5
    rw [tT_live hT, hv2, zk_true, hcv, tT_rw hT, r_sixes bw, zb1_some, if_neg (nI_ge hi (by omega)), hip, zb1_some]
    simp only [zv_eq]
    rw [nI_k1, nI_k1]
    by_cases hp : pkP (D.1 0 1) (D.1 0 1) i = true
    · have hwb := r_wrongBy hC hL hK hk hi hp
      have hwl := wrs_le D cr bf f k i
      rw [if_pos (c := pkP (D.1 0 1) (D.1 0 1) i = true) hp, if_neg (by decide), hwb, zb1_some]
      by_cases he : wrs D cr bf f k i = w
      · rw [if_pos (by rw [he]), if_pos ⟨hp, he⟩]
      · rw [if_neg (by rw [nI_eq (by omega) (by omega)]; exact he), if_neg (fun z => he z.2)]; rfl
    · rw [if_neg (c := pkP (D.1 0 1) (D.1 0 1) i = true) hp, if_pos (by rfl), if_neg (fun z => hp z.1)]; rfl
  · unfold f_X11_waysWith_l5
    rw [tT_live hT, hv2, zk_true, hcv, tT_rw hT, r_sixes bw, zb1_some, if_pos (nI_le (Nat.le_refl _) (by omega))]
theorem r_leastOf {M : zm_Mem} {t v n K k : Nat} {D : zD} {S cr bf f : Nat → Nat} (hC : Cx M t v D S n) (hL : LsD M (D.1 0 1) K cr bf f) (hK : K ≤ 20) (hk : k ≤ K) : f_X11_leastOf (nI k) M = some (oI (mnF (fW (D.1 0 1) (wrs D cr bf f k)) (6 ^ D.1 0 1))) := by
  have ht := hC.2.1
  have hT := hC.2.2.1
  have hR := hC.2.2.2
  have bI := cx_isT hC
  have bv := tT_v hT
  have bh := tT_bh hT
  have bw := tT_bw hT
  have bk := tT_bk hT
  have p6 := p6_le bw
  have hv2 : zm_in (nI v) 2 = true := zm_in_nI (by omega) (by omega)
  have hcv : (nI v).toNatClampNeg = v := nI_clamp (by omega)
  generalize hF : fW (D.1 0 1) (wrs D cr bf f k) = F
  have hneg : -nI 1 < (0 : Int32) := by decide
  have key : zm_lp (fun s => f_X11_leastOf_l4 (nI k) M s.1 s.2) ((-1), 0) = some (oI (mnF F (6 ^ D.1 0 1))) := by
    refine lp_for (step := fun s => f_X11_leastOf_l4 (nI k) M s.1 s.2) (fun i => (oI (mnF F i), nI i)) (6 ^ D.1 0 1) (fun i hi => ?_) ?_
    · show f_X11_leastOf_l4 (nI k) M (oI (mnF F i)) (nI i) = _
      have hip := r_isPacking hC hi
      rw [mn_S]
      unfold f_X11_leastOf_l4 f_X11_leastOf_b42_4 f_X11_leastOf_b49_4
      rw [tT_live hT, hv2, zk_true, hcv, tT_rw hT, r_sixes bw, zb1_some, if_neg (nI_ge hi (by omega)), hip, zb1_some]
      simp only [zv_eq]
      rw [nI_k1]
      by_cases hp : pkP (D.1 0 1) (D.1 0 1) i = true
      · have hwb := r_wrongBy hC hL hK hk hi hp
        have hwl := wrs_le D cr bf f k i
        have hFi : F i = some (wrs D cr bf f k i) := by rw [← hF]; exact if_pos hp
        rw [if_pos (c := pkP (D.1 0 1) (D.1 0 1) i = true) hp, if_neg (by decide), hwb, zb1_some, hFi]
        cases hm : mnF F i with
        | none => rw [if_pos (show oI none < (0 : Int32) from hneg)]; rfl
        | some b =>
          obtain ⟨j, hj, hjb⟩ := ((mnF_spec F i).2 b hm).1
          have hb20 : b ≤ 20 := by
            rw [← hF] at hjb
            unfold fW at hjb
            split at hjb
            · have := wrs_le D cr bf f k j
              have := Option.some.inj hjb
              omega
            · cases hjb
          rw [if_neg (show ¬ oI (some b) < (0 : Int32) from nI_pos (by omega)), zb1_some]
          show _ = some (Sum.inl (oI (if b ≤ wrs D cr bf f k i then some b else some (wrs D cr bf f k i)), nI (i + 1)))
          by_cases hbv : b ≤ wrs D cr bf f k i
          · rw [if_pos (show oI (some b) ≤ nI _ from nI_le hbv (by omega)), if_pos hbv]
          · rw [if_neg (show ¬ oI (some b) ≤ nI _ from nI_ge (by omega) (by omega)), if_neg hbv]; rfl
      · have hFi : F i = none := by rw [← hF]; exact if_neg hp
        rw [if_neg (c := pkP (D.1 0 1) (D.1 0 1) i = true) hp, if_pos (by rfl), hFi]
    · show f_X11_leastOf_l4 (nI k) M _ (nI (6 ^ D.1 0 1)) = _
      unfold f_X11_leastOf_l4
      rw [tT_live hT, hv2, zk_true, hcv, tT_rw hT, r_sixes bw, zb1_some, if_pos (nI_le (Nat.le_refl _) (by omega))]
  unfold f_X11_leastOf
  rw [key]; rfl
theorem c_known {M : zm_Mem} {K : Nat} (h7 : M.1 16 7 = nI K) (hK : K ≤ 20) {j : Nat} (hj : j ≤ K) : f_X10_isKnown (nI j) M = some 1 := by
  unfold f_X10_isKnown f_X10_isKnown_b19 f_X0_size
  rw [if_neg (nI_pos (by omega)), h7, zb1_some, if_neg (nI_nlt (by omega) (by omega))]
theorem c_known0 {M : zm_Mem} {K : Nat} (h7 : M.1 16 7 = nI K) (hK : K ≤ 20) {a : Int32} (h : a < 0 ∨ nI (K + 1) ≤ a) : f_X10_isKnown a M = some 0 := by
  unfold f_X10_isKnown f_X10_isKnown_b19 f_X0_size
  by_cases h0 : a < 0
  · rw [if_pos h0]
  · rw [if_neg h0, h7, zb1_some, if_pos (Int32.not_le.1 (zj_gt (by omega) (h.resolve_left h0)))]
theorem ag_fits {M : zm_Mem} {q n : Nat} (hI : Inv M q n) (hn : n < 512) (a1 : Int32) (a2 : Int32) : Ag (f_X10_fits a1 a2 M) (fun M1 => rd (f_X11_fits a1 a2 M1) M1) q n := by
  have hI' := hI
  obtain ⟨t, v, D, S, hC, hX⟩ := hI'
  have ht := hC.2.1
  have hT := hC.2.2.1
  have hR := hC.2.2.2
  have bI := cx_isT hC
  have bv := tT_v hT
  have bh := tT_bh hT
  have bw := tT_bw hT
  have bk := tT_bk hT
  obtain ⟨K, hK, e7, e65, hL⟩ := lsd_of bw hX.2.2.2.2.2.2.2.1
  generalize (fun i => (M.1 17 i).toNatClampNeg) = cr at hL
  generalize (fun i => (M.1 18 i).toNatClampNeg) = bf at hL
  generalize (fun i => (M.1 19 i).toNatClampNeg) = f at hL
  rcases ix_cases a1 (b := K + 1) (by omega) with h1 | ⟨k, hk, rfl⟩
  · refine ag_mk hI (r := -1) (M1 := M) (M2 := M) ?_ ?_ (sc_rfl M)
    · unfold f_X10_fits; rw [c_known0 e7 hK h1]; rfl
    · show rd (f_X11_fits a1 a2 M) M = _
      unfold f_X11_fits; rw [e65, r_inN (by omega) h1]; rfl
  rcases ix_cases a2 (b := 21) (by omega) with h2 | ⟨w, hw, rfl⟩
  · refine ag_mk hI (r := -1) (M1 := M) (M2 := M) ?_ ?_ (sc_rfl M)
    · unfold f_X10_fits
      rw [c_known e7 hK (by omega), zb1_some, if_neg (by decide)]
      by_cases h0 : a2 < 0
      · rw [if_pos h0]
      · rw [if_neg h0, if_neg (show ¬ a2 ≤ 20 from zj_gt (b := 20) (by omega) (h2.resolve_left h0))]
    · show rd (f_X11_fits (nI k) a2 M) M = _
      unfold f_X11_fits
      rw [e65, r_inY (by omega) (by omega), zb1_some, if_neg (by decide), show f_X11_in a2 0 20 M = some (nI 0) from r_inN (b := 20) (by omega) h2]; rfl
  obtain ⟨M1, g1, g2, g3⟩ := c_through hC hL hK (k := k) (by omega) e7
  have hC1 := cx_sc (sc_Ct g2) hC
  have hL1 : LsD M1 (D.1 0 1) K cr bf f := lsd_fr g2 (fun _ => rfl) (fun _ => rfl) (fun _ => rfl) (fun _ => rfl) (fun _ => rfl) (fun _ => rfl) hL
  have e65' : M1.1 52 65 = nI K := (g2.2 52 65 rfl).trans e65
  refine ag_mk hI (r := nI (sumOf (fun way => if pkP (D.1 0 1) (D.1 0 1) way = true ∧ wrs D cr bf f k way = w then 1 else 0) (6 ^ D.1 0 1))) (M1 := M1) (M2 := M1) ?_ ?_ (sc_Ct g2)
  · unfold f_X10_fits f_X0_waysWith
    rw [c_known e7 hK (by omega), zb1_some, if_neg (by decide), if_neg (nI_pos (by omega)), if_pos (show nI w ≤ 20 from nI_le (b := 20) (by omega) (by omega))]
    simp only [zv_eq]
    rw [ht, bI, zk_true, g1, zb2_some, zm_ck_t (zm_in_nI (by omega) (by omega)), nI_clamp (by omega), g3.1 w (by omega), zb1_some, ← sN_1]; rfl
  · show rd (f_X11_fits (nI k) (nI w) M1) M1 = _
    unfold f_X11_fits
    rw [e65', r_inY (by omega) (by omega), zb1_some, if_neg (by decide), show f_X11_in (nI w) 0 20 M1 = some (nI 1) from r_inY (b := 20) (by omega) (by omega), zb1_some, if_neg (by decide), r_waysWith hC1 hL1 hK (by omega) (by omega)]; rfl
theorem ag_least {M : zm_Mem} {q n : Nat} (hI : Inv M q n) (hn : n < 512) (a1 : Int32) : Ag (f_X10_least a1 M) (fun M1 => rd (f_X11_least a1 M1) M1) q n := by
  have hI' := hI
  obtain ⟨t, v, D, S, hC, hX⟩ := hI'
  have ht := hC.2.1
  have hT := hC.2.2.1
  have hR := hC.2.2.2
  have bI := cx_isT hC
  have bv := tT_v hT
  have bh := tT_bh hT
  have bw := tT_bw hT
  have bk := tT_bk hT
  obtain ⟨K, hK, e7, e65, hL⟩ := lsd_of bw hX.2.2.2.2.2.2.2.1
  generalize (fun i => (M.1 17 i).toNatClampNeg) = cr at hL
  generalize (fun i => (M.1 18 i).toNatClampNeg) = bf at hL
  generalize (fun i => (M.1 19 i).toNatClampNeg) = f at hL
  rcases ix_cases a1 (b := K + 1) (by omega) with h1 | ⟨k, hk, rfl⟩
  · refine ag_mk hI (r := -1) (M1 := M) (M2 := M) ?_ ?_ (sc_rfl M)
    · unfold f_X10_least; rw [c_known0 e7 hK h1]; rfl
    · show rd (f_X11_least a1 M) M = _
      unfold f_X11_least; rw [e65, r_inN (by omega) h1]; rfl
  obtain ⟨M1, g1, g2, g3⟩ := c_through hC hL hK (k := k) (by omega) e7
  have hC1 := cx_sc (sc_Ct g2) hC
  have hL1 : LsD M1 (D.1 0 1) K cr bf f := lsd_fr g2 (fun _ => rfl) (fun _ => rfl) (fun _ => rfl) (fun _ => rfl) (fun _ => rfl) (fun _ => rfl) hL
  have e65' : M1.1 52 65 = nI K := (g2.2 52 65 rfl).trans e65
  obtain ⟨m, hm⟩ := mn_some bw (wrs D cr bf f k)
  have e2 := sN_2 (W := D.1 0 1) (wr := wrs D cr bf f k) (fun w => by have := wrs_le D cr bf f k w; omega) (6 ^ D.1 0 1)
  rw [hm] at e2
  refine ag_mk hI (r := nI m) (M1 := M1) (M2 := M1) ?_ ?_ (sc_Ct g2)
  · unfold f_X10_least f_X0_fewestWrong
    rw [c_known e7 hK (by omega), zb1_some, if_neg (by decide)]
    simp only [zv_eq]
    rw [ht, bI, zk_true, g1, zb2_some, g3.2.1, zb1_some]
    have e2' : (fin3 (D.1 0 1) (wrs D cr bf f k)).2.1 = m := e2
    rw [e2']
  · show rd (f_X11_least (nI k) M1) M1 = _
    unfold f_X11_least
    rw [e65', r_inY (by omega) (by omega), zb1_some, if_neg (by decide), r_leastOf hC1 hL1 hK (by omega), hm]; rfl
theorem ntz_all : ∀ x, x < 64 → ∀ d, d < 6 → (∀ e, e < 6 → x / 2 ^ e % 2 = if e = d then 1 else 0) → pop6 x = 1 ∧ f_J6_numberOfTrailingZeros_0f7a4 (nI x) zm_M0 = some (nI d) := by decide +kernel
theorem pop_two' : ∀ x, x < 64 → ∀ d, d < 6 → ∀ e, e < 6 → (decide (d = e) || (decide (x / 2 ^ d % 2 = 0) || (decide (x / 2 ^ e % 2 = 0) || !decide (pop6 x = 1)))) = true := by decide +kernel
theorem pop_two : ∀ x, x < 64 → ∀ d, d < 6 → ∀ e, e < 6 → d ≠ e → x / 2 ^ d % 2 = 1 → x / 2 ^ e % 2 = 1 → pop6 x ≠ 1 := by
  intro x hx d hd e he hde h1 h2
  have := pop_two' x hx d hd e he
  rw [decide_eq_false hde, decide_eq_false (show ¬ x / 2 ^ d % 2 = 0 by omega), decide_eq_false (show ¬ x / 2 ^ e % 2 = 0 by omega), Bool.false_or, Bool.false_or, Bool.false_or, Bool.not_eq_true', decide_eq_false_iff_not] at this
  exact this
theorem ag_sure {M : zm_Mem} {q n : Nat} (hI : Inv M q n) (hn : n < 512) (a1 : Int32) (a2 : Int32) : Ag (f_X10_sure a1 a2 M) (fun M1 => rd (f_X11_sure a1 a2 M1) M1) q n := by
  have hI' := hI
  obtain ⟨t, v, D, S, hC, hX⟩ := hI'
  have ht := hC.2.1
  have hT := hC.2.2.1
  have hR := hC.2.2.2
  have bI := cx_isT hC
  have bv := tT_v hT
  have bh := tT_bh hT
  have bw := tT_bw hT
  have bk := tT_bk hT
  obtain ⟨K, hK, e7, e65, hL⟩ := lsd_of bw hX.2.2.2.2.2.2.2.1
  generalize (fun i => (M.1 17 i).toNatClampNeg) = cr at hL
  generalize (fun i => (M.1 18 i).toNatClampNeg) = bf at hL
  generalize (fun i => (M.1 19 i).toNatClampNeg) = f at hL
  rcases ix_cases a1 (b := K + 1) (by omega) with h1 | ⟨k, hk, rfl⟩
  · refine ag_mk hI (r := -1) (M1 := M) (M2 := M) ?_ ?_ (sc_rfl M)
    · unfold f_X10_sure; rw [c_known0 e7 hK h1]; rfl
    · show rd (f_X11_sure a1 a2 M) M = _
      unfold f_X11_sure; rw [e65, r_inN (by omega) h1]; rfl
  rcases ix_cases a2 (b := D.1 0 1) (by omega) with h2 | ⟨c, hc, rfl⟩
  · refine ag_mk hI (r := -1) (M1 := M) (M2 := M) ?_ ?_ (sc_rfl M)
    · unfold f_X10_sure
      rw [c_known e7 hK (by omega), zb1_some, if_neg (by decide), c_isWork0 hC h2]; rfl
    · show rd (f_X11_sure (nI k) a2 M) M = _
      unfold f_X11_sure
      rw [e65, r_inY (by omega) (by omega), zb1_some, if_neg (by decide), r_isWork0 hC h2]; rfl
  obtain ⟨M1, g1, g2, g3⟩ := c_through hC hL hK (k := k) (by omega) e7
  have hC1 := cx_sc (sc_Ct g2) hC
  have hT1 := hC1.2.2.1
  have hL1 : LsD M1 (D.1 0 1) K cr bf f := lsd_fr g2 (fun _ => rfl) (fun _ => rfl) (fun _ => rfl) (fun _ => rfl) (fun _ => rfl) (fun _ => rfl) hL
  have e65' : M1.1 52 65 = nI K := (g2.2 52 65 rfl).trans e65
  have hwr20 : ∀ w, wrs D cr bf f k w ≤ 20 := fun w => by have := wrs_le D cr bf f k w; omega
  obtain ⟨m, hm⟩ := mn_some bw (wrs D cr bf f k)
  have e2 := sN_2 (W := D.1 0 1) hwr20 (6 ^ D.1 0 1)
  rw [hm] at e2
  obtain ⟨x1, x2⟩ := sN_3 hwr20 hc (6 ^ D.1 0 1) m hm
  obtain ⟨⟨w0, hw0, hw1⟩, hle⟩ := (mnF_spec (fW (D.1 0 1) (wrs D cr bf f k)) (6 ^ D.1 0 1)).2 m hm
  have hm20 : m ≤ 20 := by
    unfold fW at hw1
    split at hw1
    · have := hwr20 w0
      have := Option.some.inj hw1
      omega
    · cases hw1
  have c23 := (g3.2.2.2 (show (fin3 (D.1 0 1) (wrs D cr bf f k)).2.1 ≤ 20 from by
    have e2' : (fin3 (D.1 0 1) (wrs D cr bf f k)).2.1 = m := e2
    omega) c (by omega)).1
  have c23' : M1.1 23 c = nI ((sN (D.1 0 1) (wrs D cr bf f k) (6 ^ D.1 0 1)).2.2 c) := c23
  generalize (sN (D.1 0 1) (wrs D cr bf f k) (6 ^ D.1 0 1)).2.2 c = x at x1 x2 c23'
  have hv2 : zm_in (nI v) 2 = true := zm_in_nI (by omega) (by omega)
  have hcv : (nI v).toNatClampNeg = v := nI_clamp (by omega)
  have p6 := p6_le bw
  have kc : f_X10_sure (nI k) (nI c) M = (if nI (pop6 x) = (1 : Int32) then (zm_b1 (f_J6_numberOfTrailingZeros_0f7a4 (nI x) M1) <| fun r48 => some (r48, M1)) else (some ((-2), M1))) := by
    unfold f_X10_sure f_X0_couldHave
    rw [c_known e7 hK (by omega), zb1_some, if_neg (by decide), c_isWork hC hc, zb1_some, if_neg (by decide)]
    simp only [zv_eq]
    rw [ht, bI, zk_true, g1, zb2_some, zm_ck_t (zm_in_nI (by omega) (by omega)), nI_clamp (by omega), c23', zb1_some, bc_64 x1, zb1_some]
  have hpop : pop6 x ≤ 6 := by unfold pop6; omega
  -- a way that counts
  have hQ : ∀ way d, qB (D.1 0 1) (wrs D cr bf f k) m c d way = true ↔ (pkP (D.1 0 1) (D.1 0 1) way = true ∧ wrs D cr bf f k way = m ∧ dgp 6 way (D.1 0 1) c = d) := by
    intro way d
    unfold qB
    simp only [Bool.and_eq_true, decide_eq_true_eq]
  have key : ∃ e, zm_lp (fun s => f_X11_sure_l34 (nI k) (nI c) M1 (nI m) s.1 s.2) (-nI 1, nI 0) = some e ∧ ((e = .inl () ∧ ∃ y z, y < 6 ^ D.1 0 1 ∧ z < 6 ^ D.1 0 1 ∧ qB (D.1 0 1) (wrs D cr bf f k) m c (dgp 6 y (D.1 0 1) c) y = true ∧ qB (D.1 0 1) (wrs D cr bf f k) m c (dgp 6 z (D.1 0 1) c) z = true ∧ dgp 6 y (D.1 0 1) c ≠ dgp 6 z (D.1 0 1) c) ∨ (∃ o, e = .inr (oI o) ∧ ((o = none ∧ ∀ y d, y < 6 ^ D.1 0 1 → qB (D.1 0 1) (wrs D cr bf f k) m c d y = false) ∨ ∃ d, o = some d ∧ d < 6 ∧ (∃ y, y < 6 ^ D.1 0 1 ∧ qB (D.1 0 1) (wrs D cr bf f k) m c d y = true) ∧ ∀ y e, y < 6 ^ D.1 0 1 → qB (D.1 0 1) (wrs D cr bf f k) m c e y = true → e = d))) := by
    refine lp_inv (step := fun s => f_X11_sure_l34 (nI k) (nI c) M1 (nI m) s.1 s.2) (fun i z => ∃ o, z = (oI o, nI i) ∧ ((o = none ∧ ∀ y d, y < i → qB (D.1 0 1) (wrs D cr bf f k) m c d y = false) ∨ ∃ d, o = some d ∧ d < 6 ∧ (∃ y, y < i ∧ qB (D.1 0 1) (wrs D cr bf f k) m c d y = true) ∧ ∀ y e, y < i → qB (D.1 0 1) (wrs D cr bf f k) m c e y = true → e = d)) _ (6 ^ D.1 0 1) ?_ ?_ ⟨none, rfl, Or.inl ⟨rfl, fun y d hy => by omega⟩⟩
    · rintro i z hi ⟨o, rfl, ho⟩
      have hip := r_isPacking hC1 hi
      have hdi := dgp_lt (B := 6) (by omega) i (D.1 0 1) c
      have goOn : ∀ o', (∀ d, qB (D.1 0 1) (wrs D cr bf f k) m c d i = false) → o' = o → (∃ o'', (oI o', nI (i + 1)) = (oI o'', nI (i + 1)) ∧ ((o'' = none ∧ ∀ y d, y < i + 1 → qB (D.1 0 1) (wrs D cr bf f k) m c d y = false) ∨ ∃ d, o'' = some d ∧ d < 6 ∧ (∃ y, y < i + 1 ∧ qB (D.1 0 1) (wrs D cr bf f k) m c d y = true) ∧ ∀ y e, y < i + 1 → qB (D.1 0 1) (wrs D cr bf f k) m c e y = true → e = d)) := by
        rintro o' hno rfl
        refine ⟨o', rfl, ?_⟩
        rcases ho with ⟨h1, h2⟩ | ⟨d, h1, h2, ⟨y, hy, h3⟩, h4⟩
        · refine Or.inl ⟨h1, fun y d hy => ?_⟩
          by_cases hyi : y = i
          · subst hyi; exact hno d
          · exact h2 y d (by omega)
        · refine Or.inr ⟨d, h1, h2, ⟨y, by omega, h3⟩, fun y e hy he => ?_⟩
          by_cases hyi : y = i
          · subst hyi; rw [hno e] at he; cases he
          · exact h4 y e (by omega) he
      have st : f_X11_sure_l34 (nI k) (nI c) M1 (nI m) (oI o) (nI i) = if (if pkP (D.1 0 1) (D.1 0 1) i = true then nI 1 else nI 0) = (0 : Int32) then (some (.inl (oI o, nI (i + 1)))) else (zm_b1 (f_X11_wrongBy (nI i) (nI k) M1) <| fun r64 => if r64 = nI m then (if oI o < 0 then some (.inl (nI (dgp 6 i (D.1 0 1) c), nI (i + 1))) else (if oI o = nI (dgp 6 i (D.1 0 1) c) then some (.inl (nI (dgp 6 i (D.1 0 1) c), nI (i + 1))) else (some (.inr (.inl ()))))) else (some (.inl (oI o, nI (i + 1))))) := by
        unfold f_X11_sure_l34 f_X11_sure_b98_34 f_X11_sure_b102_34
        rw [tT_live hT1, hv2, zk_true, hcv, tT_rw hT1, r_sixes bw, zb1_some, if_neg (nI_ge hi (by omega)), hip, zb1_some, r_workIn hC1 (by omega) hc]
        simp only [zv_eq, zb1_some]
        rw [nI_k1]
      by_cases hp : pkP (D.1 0 1) (D.1 0 1) i = true
      · have hwb := r_wrongBy hC1 hL1 hK (k := k) (by omega) hi hp
        have hwl := hwr20 i
        rw [if_pos (c := pkP (D.1 0 1) (D.1 0 1) i = true) hp, if_neg (by decide), hwb, zb1_some] at st
        by_cases hwm : wrs D cr bf f k i = m
        · rw [if_pos (by rw [hwm])] at st
          have hq : qB (D.1 0 1) (wrs D cr bf f k) m c (dgp 6 i (D.1 0 1) c) i = true := (hQ _ _).2 ⟨hp, hwm, rfl⟩
          rcases ho with ⟨rfl, h2⟩ | ⟨d, rfl, h2, ⟨y, hy, h3⟩, h4⟩
          · rw [if_pos (show oI none < (0 : Int32) by decide)] at st
            refine Or.inl ⟨_, st, some (dgp 6 i (D.1 0 1) c), rfl, Or.inr ⟨_, rfl, hdi, ⟨i, by omega, hq⟩, fun y e hy he => ?_⟩⟩
            by_cases hyi : y = i
            · subst hyi; exact ((hQ _ _).1 he).2.2.symm
            · rw [h2 y e (by omega)] at he; cases he
          · rw [if_neg (show ¬ oI (some d) < (0 : Int32) from nI_pos (by omega))] at st
            by_cases hdd : d = dgp 6 i (D.1 0 1) c
            · rw [if_pos (show oI (some d) = nI (dgp 6 i (D.1 0 1) c) by rw [hdd]; rfl)] at st
              refine Or.inl ⟨_, st, some d, by rw [hdd]; rfl, Or.inr ⟨d, rfl, h2, ⟨y, by omega, h3⟩, fun y e hy he => ?_⟩⟩
              by_cases hyi : y = i
              · subst hyi; rw [hdd]; exact ((hQ _ _).1 he).2.2.symm
              · exact h4 y e (by omega) he
            · rw [if_neg (show ¬ oI (some d) = nI (dgp 6 i (D.1 0 1) c) from fun z => hdd ((nI_eq (by omega) (by omega)).1 z))] at st
              have hyd : dgp 6 y (D.1 0 1) c = d := ((hQ _ _).1 h3).2.2
              exact Or.inr ⟨_, st, Or.inl ⟨rfl, y, i, by omega, hi, by rw [hyd]; exact h3, hq, by rw [hyd]; exact hdd⟩⟩
        · rw [if_neg (by rw [nI_eq (by omega) (by omega)]; exact hwm)] at st
          refine Or.inl ⟨_, st, goOn o (fun d => ?_) rfl⟩
          cases hq : qB (D.1 0 1) (wrs D cr bf f k) m c d i with
          | false => rfl
          | true => exact absurd ((hQ _ _).1 hq).2.1 hwm
      · rw [if_neg (c := pkP (D.1 0 1) (D.1 0 1) i = true) hp, if_pos (by rfl)] at st
        refine Or.inl ⟨_, st, goOn o (fun d => ?_) rfl⟩
        cases hq : qB (D.1 0 1) (wrs D cr bf f k) m c d i with
        | false => rfl
        | true => exact absurd ((hQ _ _).1 hq).1 hp
    · rintro z ⟨o, rfl, ho⟩
      refine ⟨.inr (oI o), ?_, Or.inr ⟨o, rfl, ho⟩⟩
      show f_X11_sure_l34 (nI k) (nI c) M1 (nI m) (oI o) (nI (6 ^ D.1 0 1)) = _
      unfold f_X11_sure_l34
      rw [tT_live hT1, hv2, zk_true, hcv, tT_rw hT1, r_sixes bw, zb1_some, if_pos (nI_le (Nat.le_refl _) (by omega))]
  obtain ⟨e, k1, k2⟩ := key
  have kr : f_X11_sure (nI k) (nI c) M1 = Sum.elim (fun _ => some (-2)) (fun e108 => some e108) e := by
    unfold f_X11_sure
    rw [e65', r_inY (by omega) (by omega), zb1_some, if_neg (by decide), r_isWork hC1 hc, zb1_some, if_neg (by decide), r_leastOf hC1 hL1 hK (by omega), hm, zb1_some]
    have k1' : zm_lp (fun s => f_X11_sure_l34 (nI k) (nI c) M1 (oI (some m)) s.1 s.2) (-1, 0) = some e := k1
    rw [k1']; rfl
  have hbit : ∀ d, d < 6 → (∃ y, y < 6 ^ D.1 0 1 ∧ qB (D.1 0 1) (wrs D cr bf f k) m c d y = true) → x / 2 ^ d % 2 = 1 := fun d hd hy => by rw [x2 d hd, if_pos (anyB_iff.2 hy)]
  have hw0q : qB (D.1 0 1) (wrs D cr bf f k) m c (dgp 6 w0 (D.1 0 1) c) w0 = true := by
    unfold fW at hw1
    split at hw1
    · rename_i hp
      exact (hQ _ _).2 ⟨hp, Option.some.inj hw1, rfl⟩
    · cases hw1
  rcases k2 with ⟨rfl, y, z, hy, hz, qy, qz, hne⟩ | ⟨o, rfl, ho⟩
  · have hd1 := dgp_lt (B := 6) (by omega) y (D.1 0 1) c
    have hd2 := dgp_lt (B := 6) (by omega) z (D.1 0 1) c
    have hpp := pop_two x x1 _ hd1 _ hd2 hne (hbit _ hd1 ⟨y, hy, qy⟩) (hbit _ hd2 ⟨z, hz, qz⟩)
    refine ag_mk hI (r := -2) (M1 := M1) (M2 := M1) ?_ ?_ (sc_Ct g2)
    · rw [kc, if_neg (show ¬ nI (pop6 x) = 1 from fun z => hpp ((nI_eq (by omega) (by omega)).1 (show nI (pop6 x) = nI 1 from z)))]
    · show rd (f_X11_sure (nI k) (nI c) M1) M1 = _
      rw [kr]; rfl
  · rcases ho with ⟨rfl, hno⟩ | ⟨d, rfl, hd, hex, hun⟩
    · rw [hno w0 _ hw0] at hw0q; cases hw0q
    · obtain ⟨n1, n2⟩ := ntz_all x x1 d hd (fun e he => by
        rw [x2 e he]
        by_cases hed : e = d
        · rw [if_pos hed, hed, if_pos (anyB_iff.2 hex)]
        · rw [if_neg hed, if_neg]
          intro hz
          obtain ⟨y, hy, hq⟩ := anyB_iff.1 hz
          exact hed (hun y e hy hq))
      have n2' : f_J6_numberOfTrailingZeros_0f7a4 (nI x) M1 = some (nI d) := n2
      refine ag_mk hI (r := nI d) (M1 := M1) (M2 := M1) ?_ ?_ (sc_Ct g2)
      · rw [kc, n1, if_pos (by rfl), n2']; rfl
      · show rd (f_X11_sure (nI k) (nI c) M1) M1 = _
        rw [kr]; rfl
