/-! the reference's rows by number -/
theorem r_fives {M : zm_Mem} {k : Nat} (hk : k ≤ 6) : f_X11_fives (nI k) M = some (nI (5 ^ k)) := by
  have key : zm_lp (fun s => f_X11_fives_l4 (nI k) s.1 s.2) (1, 0) = some (nI (5 ^ k)) := by
    refine lp_for (step := fun s => f_X11_fives_l4 (nI k) s.1 s.2) (fun i => (nI (5 ^ i), nI i)) k (fun i hi => ?_) ?_
    · show f_X11_fives_l4 (nI k) (nI (5 ^ i)) (nI i) = _
      unfold f_X11_fives_l4
      rw [if_neg (nI_ge hi (by omega))]
      simp only [zv_eq]
      rw [nI_k1, show (5 : Int32) = nI 5 from rfl, pk_mul, ← Nat.pow_succ]
    · show f_X11_fives_l4 (nI k) (nI (5 ^ k)) (nI k) = _
      unfold f_X11_fives_l4
      rw [if_pos (nI_le (Nat.le_refl _) (by omega))]
  unfold f_X11_fives
  rw [key]; rfl
theorem p5_le {k : Nat} (hk : k ≤ 6) : 0 < 5 ^ k ∧ 5 ^ k ≤ 15625 := ⟨Nat.pow_pos (by omega), Nat.pow_le_pow_right (n := 5) (by omega) hk⟩
theorem r_houseIn {M : zm_Mem} {t v n way c : Nat} {D : zD} {S : Nat → Nat} (hC : Cx M t v D S n) (hw : way < 50000) (hc : c < D.1 0 1) : f_X11_houseIn (nI way) (nI c) M = some (nI (dgp 5 way (D.1 0 1) c)) := by
  have ht := hC.2.1
  have hT := hC.2.2.1
  have hR := hC.2.2.2
  have bI := cx_isT hC
  have bv := tT_v hT
  have bh := tT_bh hT
  have bw := tT_bw hT
  have bk := tT_bk hT
  have p6 := p5_le (k := D.1 0 1 - 1 - c) (by omega)
  have k3 : (!decide ((5 : Int32) = 0)) = true := by decide
  have k4 : (!decide (nI (5 ^ (D.1 0 1 - 1 - c)) = 0)) = true := by
    rw [Bool.not_eq_true', decide_eq_false_iff_not]
    exact nI_ne0 p6.1 (by omega)
  have hd : way / 5 ^ (D.1 0 1 - 1 - c) ≤ way := Nat.div_le_self _ _
  unfold f_X11_houseIn dgp
  rw [tT_live hT, zm_ck_t (zm_in_nI (by omega) (by omega)), nI_clamp (by omega), tT_rw hT, show nI (D.1 0 1) - 1 - nI c = nI (D.1 0 1 - 1 - c) by rw [show nI (D.1 0 1) - 1 = nI (D.1 0 1 - 1) from zi_sub (b := 1) (by omega), zi_sub (by omega)], r_fives (by omega), zb1_some, k4, zk_true, k3, zk_true, pk_div (by omega) p6.1 (by omega), show nI (way / 5 ^ (D.1 0 1 - 1 - c)) - nI (way / 5 ^ (D.1 0 1 - 1 - c)) / 5 * 5 = nI (way / 5 ^ (D.1 0 1 - 1 - c) % 5) from pk_rem (d := 5) (by omega) (by omega) (by omega)]
/-- what of the row stays, whatever hangs -/
def RwS (M : zm_Mem) (D : zD) (dy li : Nat) : Prop := M.1 92 30 = nI dy ∧ ∀ j, j < D.1 0 2 → M.1 92 (24 + j) = nI (li / 2 ^ j % 2)
def wHn (x j : Nat) : Bool := decide (x = 92) || wQ x j
theorem wHn_iv {x j : Nat} (h : wHn x j = true) : iv_c x j = false := by
  simp only [wHn, Bool.or_eq_true, decide_eq_true_eq] at h
  rcases h with rfl | h
  · rfl
  · exact wQ_iv h
theorem sc_Hn {M M' : zm_Mem} (h : Fr wHn M M') : Sc M M' := fr_sc (fun _ _ => wHn_iv) h
theorem fr_QH {M M' : zm_Mem} (h : Fr wQ M M') : Fr wHn M M' := fr_mono (fun x j h => by unfold wHn; rw [h, Bool.or_true]) h
theorem rm_all {D : zD} {way : Nat} (hW : D.1 0 1 ≤ 6) : rmP D (D.1 0 1) way = allB (fun w => decide (dgp 5 way (D.1 0 1) w < D.1 0 0) && decide (mny (fun _ => true) (dgp 5 way (D.1 0 1)) w (dgp 5 way (D.1 0 1) w) (-nI 1) (D.1 0 1) < D.1 2 (dgp 5 way (D.1 0 1) w))) (D.1 0 1) := by
  rw [Bool.eq_iff_iff, rmP_iff, allB_iff]
  simp only [Bool.and_eq_true, decide_eq_true_eq]
  generalize dgp 5 way (D.1 0 1) = r
  constructor
  · rintro ⟨h1, h2⟩ w hw
    have := mny_cnt (r := r) hw hW
    have := h2 (r w) (h1 w hw)
    exact ⟨h1 w hw, by omega⟩
  · intro h
    refine ⟨fun j hj => (h j hj).1, fun x hx => ?_⟩
    by_cases hex : ∃ w, w < D.1 0 1 ∧ r w = x
    · obtain ⟨w, hw, rfl⟩ := hex
      have := mny_cnt (r := r) hw hW
      have := (h w hw).2
      omega
    · have : cnt r (D.1 0 1) x = 0 := sumOf_0.2 (fun j hj => if_neg (fun z => hex ⟨j, hj, z⟩))
      omega
theorem r_hangs {M : zm_Mem} {t v n way dy li : Nat} {D : zD} {S : Nat → Nat} (hC : Cx M t v D S n) (hS : RwS M D dy li) (hw : way < 5 ^ D.1 0 1) : ∃ M', f_X11_hangs (nI way) M = some (if rmP D (D.1 0 1) way = true then nI 1 else nI 0, M') ∧ Fr wHn M M' ∧ RwS M' D dy li ∧ Rw M' D (fun _ => true) (dgp 5 way (D.1 0 1)) dy li := by
  have ht := hC.2.1
  have hT := hC.2.2.1
  have hR := hC.2.2.2
  have bI := cx_isT hC
  have bv := tT_v hT
  have bh := tT_bh hT
  have bw := tT_bw hT
  have bk := tT_bk hT
  have p5 := p5_le bw
  have hv2 : zm_in (nI v) 2 = true := zm_in_nI (by omega) (by omega)
  have hcv : (nI v).toNatClampNeg = v := nI_clamp (by omega)
  have key : zm_lp (fun s => f_X11_hangs_l2 (nI way) s.1 s.2) (0, M) = some (cpM M 92 0 (D.1 0 1) (fun j => nI (dgp 5 way (D.1 0 1) j))) := by
    refine lp_cpy M 92 0 (D.1 0 1) _ (fun i hi => ?_) ?_
    · have hCL := cx_sc (sc_cpM (M := M) (a := 92) (o := 0) (N := i) (f := fun j => nI (dgp 5 way (D.1 0 1) j)) (fun _ _ _ => rfl)) hC
      have hTL := hCL.2.2.1
      unfold f_X11_hangs_l2
      rw [tT_live hTL, hv2, zk_true, hcv, tT_rw hTL, if_neg (nI_ge hi (by omega)), r_houseIn hCL (by omega) hi, zb1_some, zm_ck_t (zm_in_nI (by omega) (by omega)), nI_clamp (by omega), Nat.zero_add]
      simp only [zv_eq]
      rw [nI_k1]
    · have hTL := (cx_sc (sc_cpM (M := M) (a := 92) (o := 0) (N := D.1 0 1) (f := fun j => nI (dgp 5 way (D.1 0 1) j)) (fun _ _ _ => rfl)) hC).2.2.1
      unfold f_X11_hangs_l2
      rw [tT_live hTL, hv2, zk_true, hcv, tT_rw hTL, if_pos (nI_le (Nat.le_refl _) (by omega))]
  generalize hL : cpM M 92 0 (D.1 0 1) (fun j => nI (dgp 5 way (D.1 0 1) j)) = L at key
  have fL : Fr wHn M L := by rw [← hL]; exact fr_cpM (fun _ => rfl)
  have l92 : ∀ j, j < D.1 0 1 → L.1 92 j = nI (dgp 5 way (D.1 0 1) j) := fun j hj => by rw [← hL, mC_in hj]
  have lhi : ∀ j, 6 ≤ j → L.1 92 j = M.1 92 j := fun j hj => by rw [← hL, mC_out (by omega)]
  have sL : RwS L D dy li := ⟨(lhi 30 (by omega)).trans hS.1, fun j hj => (lhi _ (by omega)).trans (hS.2 j hj)⟩
  have rwL : Rw L D (fun _ => true) (dgp 5 way (D.1 0 1)) dy li := ⟨sL.1, fun j hj => (l92 j hj).trans (if_pos rfl).symm, sL.2⟩
  have hCL := cx_sc (sc_Hn fL) hC
  have hTL := hCL.2.2.1
  have hd5 : ∀ j, j < D.1 0 1 → dgp 5 way (D.1 0 1) j < 5 := fun j _ => dgp_lt (by omega) _ _ _
  generalize hp : (fun w => decide (dgp 5 way (D.1 0 1) w < D.1 0 0) && decide (mny (fun _ => true) (dgp 5 way (D.1 0 1)) w (dgp 5 way (D.1 0 1) w) (-nI 1) (D.1 0 1) < D.1 2 (dgp 5 way (D.1 0 1) w))) = p
  have hrm : rmP D (D.1 0 1) way = allB p (D.1 0 1) := by rw [← hp]; exact rm_all bw
  have st : ∀ i, i < D.1 0 1 → f_X11_hangs_l35 L (nI i) = if p i = true then some (.inl (nI (i + 1))) else some (.inr (.inl ())) := by
    intro i hi
    have hdi := hd5 i hi
    unfold f_X11_hangs_l35
    rw [tT_live hTL, hv2, zk_true, hcv, tT_rw hTL, if_neg (nI_ge hi (by omega)), zm_ck_t (zm_in_nI (by omega) (by omega)), nI_clamp (by omega), l92 i hi, ← hp]
    simp only [Bool.and_eq_true, decide_eq_true_eq]
    by_cases hh : dgp 5 way (D.1 0 1) i < D.1 0 0
    · have hwall := tT_Hb hT _ hh
      have hm := mny_le (fun _ => true) (dgp 5 way (D.1 0 1)) i (dgp 5 way (D.1 0 1) i) (-nI 1) (D.1 0 1)
      rw [r_isHouse hCL hh, zb1_some, if_neg (by decide), zm_ck_t (zm_in_nI (by omega) (by omega))]
      unfold f_X11_hasRoom
      rw [r_othersIn hCL rwL hd5 hi hh, zb1_some, tT_live hTL, show (5 : Int32) * nI v + nI (dgp 5 way (D.1 0 1) i) = nI (5 * v + dgp 5 way (D.1 0 1) i) by rw [show (5 : Int32) = nI 5 from rfl, pk_mul, nI_add], zm_ck_t (zm_in_nI (by omega) (by omega)), nI_clamp (by omega), tT_rwa hTL _ hh]
      by_cases hr : mny (fun _ => true) (dgp 5 way (D.1 0 1)) i (dgp 5 way (D.1 0 1) i) (-nI 1) (D.1 0 1) < D.1 2 (dgp 5 way (D.1 0 1) i)
      · rw [if_neg (nI_ge hr (by omega)), zb1_some, if_neg (by decide), if_pos ⟨hh, hr⟩]
        simp only [zv_eq]
        rw [nI_k1]
      · rw [if_pos (nI_le (by omega) (by omega)), zb1_some, if_pos rfl, if_neg (fun z => hr z.2)]
    · rw [r_isHouse0 hCL (Or.inr (nI_le (by omega) (by omega))), zb1_some, if_pos rfl, if_neg (fun z => hh z.1)]
  have se : f_X11_hangs_l35 L (nI (D.1 0 1)) = some (.inr (.inr ())) := by
    unfold f_X11_hangs_l35
    rw [tT_live hTL, hv2, zk_true, hcv, tT_rw hTL, if_pos (nI_le (Nat.le_refl _) (by omega))]
  have k2 : ∃ e, zm_lp (f_X11_hangs_l35 L) (nI 0) = some e ∧ ((e = .inl () ∧ allB p (D.1 0 1) = false) ∨ (e = .inr () ∧ allB p (D.1 0 1) = true)) := by
    refine lp_inv (fun i z => z = nI i ∧ allB p i = true) _ (D.1 0 1) ?_ ?_ ⟨rfl, rfl⟩
    · rintro i z hi ⟨rfl, h2⟩
      cases hpi : p i with
      | true => exact Or.inl ⟨_, by rw [st i hi, hpi, if_pos rfl], rfl, by unfold allB; rw [h2, hpi]; rfl⟩
      | false => exact Or.inr ⟨_, by rw [st i hi, hpi, if_neg (by decide)], Or.inl ⟨rfl, allB_no hpi hi⟩⟩
    · rintro z ⟨rfl, h2⟩
      exact ⟨_, se, Or.inr ⟨rfl, h2⟩⟩
  obtain ⟨e, k3, k4⟩ := k2
  refine ⟨L, ?_, fL, sL, rwL⟩
  unfold f_X11_hangs
  rw [key]
  simp only [Option.bind_some]
  unfold f_X11_hangs_x33_2
  have k3' : zm_lp (f_X11_hangs_l35 L) 0 = some e := k3
  rw [k3', hrm]
  rcases k4 with ⟨rfl, k4⟩ | ⟨rfl, k4⟩
  · rw [k4]; rfl
  · rw [k4]; rfl
/-- all terms that break in a row, lifted or not -/
def rbA (D : zD) (dy : Nat) (r : Nat → Nat) : Nat := bitsOf (fun j => !kp D (vq D (fun _ => true) r dy (D.1 7 j) (r (D.1 7 j)) (-nI 1)) j) (D.1 0 2)
theorem rbA_st {D : zD} {li dy : Nat} {r : Nat → Nat} : rbA D dy r &&& stn D li = rbF D li dy r := by
  unfold rbA stn rbF
  rw [bitsOf_and]
  exact bitsOf_congr (fun j _ => Bool.and_comm _ _)
theorem r_brokenAll {M : zm_Mem} {t v n way dy li : Nat} {D : zD} {S : Nat → Nat} (hC : Cx M t v D S n) (hS : Rw M D (fun _ => true) (dgp 5 way (D.1 0 1)) dy li) (hp : rmP D (D.1 0 1) way = true) : ∃ M', f_X11_brokenAll M = some (nI (rbA D dy (dgp 5 way (D.1 0 1))), M') ∧ Fr wQ M M' := by
  have ht := hC.2.1
  have hT := hC.2.2.1
  have hR := hC.2.2.2
  have bI := cx_isT hC
  have bv := tT_v hT
  have bh := tT_bh hT
  have bw := tT_bw hT
  have bk := tT_bk hT
  have hv2 : zm_in (nI v) 2 = true := zm_in_nI (by omega) (by omega)
  have hcv : (nI v).toNatClampNeg = v := nI_clamp (by omega)
  have hh := (rmP_iff.1 hp).1
  have hd5 : ∀ j, j < D.1 0 1 → dgp 5 way (D.1 0 1) j < 5 := fun j _ => dgp_lt (by omega) _ _ _
  generalize dgp 5 way (D.1 0 1) = r at *
  obtain ⟨M', h1, h2⟩ := lp_accM (st := fun b i L => f_X11_brokenAll_l4 b i L) wQ (fun i => nI (orF (fun w => bitsOf (fun j => decide (D.1 7 j = w) && !kp D (vq D (fun _ => true) r dy w (r w) (-nI 1)) j) (D.1 0 2)) i)) (D.1 0 1) M (fun i L hi hF => by
    have hCL := cx_Q hF hC
    have hSL := rw_Q hF hS
    have hTL := hCL.2.2.1
    have hsp := hSL.2.1 i hi
    rw [if_pos rfl] at hsp
    obtain ⟨L', k1, k2⟩ := r_brokenIn hCL hSL hd5 hi (hh i hi)
    refine ⟨L', ?_, k2⟩
    unfold f_X11_brokenAll_l4
    rw [tT_live hTL, hv2, zk_true, hcv, tT_rw hTL, if_neg (nI_ge hi (by omega)), zm_ck_t (zm_in_nI (by omega) (by omega)), nI_clamp (by omega), hsp, k1, zb2_some]
    simp only [zv_eq]
    rw [zi_or, nI_k1]; rfl) (fun L hF => by
    have hTL := (cx_Q hF hC).2.2.1
    unfold f_X11_brokenAll_l4
    rw [tT_live hTL, hv2, zk_true, hcv, tT_rw hTL, if_pos (nI_le (Nat.le_refl _) (by omega))])
  refine ⟨M', ?_, h2⟩
  unfold f_X11_brokenAll
  have h1' : zm_lp (fun s => f_X11_brokenAll_l4 s.1 s.2.1 s.2.2) (0, 0, M) = _ := h1
  rw [h1']
  show some (nI _, M') = _
  congr 3
  refine Nat.eq_of_testBit_eq (fun j => ?_)
  rw [orF_bit]
  unfold rbA
  rw [bitsOf_test, Bool.eq_iff_iff, anyB_iff]
  constructor
  · rintro ⟨w, hw, h⟩
    rw [bitsOf_test] at h
    simp only [Bool.and_eq_true, decide_eq_true_eq, Bool.not_eq_true'] at h ⊢
    obtain ⟨q1, rfl, q3⟩ := h
    exact ⟨q1, q3⟩
  · intro h
    simp only [Bool.and_eq_true, decide_eq_true_eq, Bool.not_eq_true'] at h
    refine ⟨D.1 7 j, tT_Kb hT j h.1, ?_⟩
    rw [bitsOf_test]
    simp only [Bool.and_eq_true, decide_eq_true_eq, Bool.not_eq_true']
    exact ⟨h.1, trivial, h.2⟩
def hgB (D : zD) (li dy way : Nat) : Bool := rmP D (D.1 0 1) way && decide (rbF D li dy (dgp 5 way (D.1 0 1)) = 0)
theorem r_isHanging {M : zm_Mem} {t v n way dy li : Nat} {D : zD} {S : Nat → Nat} (hC : Cx M t v D S n) (hS : RwS M D dy li) (hw : way < 5 ^ D.1 0 1) : ∃ M', f_X11_isHanging (nI way) M = some (if hgB D li dy way = true then nI 1 else nI 0, M') ∧ Fr wHn M M' ∧ RwS M' D dy li := by
  have ht := hC.2.1
  have hT := hC.2.2.1
  have hR := hC.2.2.2
  have bI := cx_isT hC
  have bv := tT_v hT
  have bh := tT_bh hT
  have bw := tT_bw hT
  have bk := tT_bk hT
  obtain ⟨M1, e1, f1, s1, w1⟩ := r_hangs hC hS hw
  unfold f_X11_isHanging f_X11_isHanging_b24 hgB
  rw [e1, zb2_some]
  cases hp : rmP D (D.1 0 1) way with
  | false => exact ⟨M1, by rw [if_neg (c := false = true) (by decide), if_pos (by rfl)]; rfl, f1, s1⟩
  | true =>
    have hC1 := cx_sc (sc_Hn f1) hC
    obtain ⟨M2, e2, f2⟩ := r_brokenAll hC1 w1 hp
    have w2 := rw_Q f2 w1
    have hlt : rbF D li dy (dgp 5 way (D.1 0 1)) < 64 := bitsOf_le _ bk
    refine ⟨M2, ?_, fr_tr f1 (fr_QH f2), ⟨w2.1, w2.2.2⟩⟩
    rw [if_pos (c := true = true) rfl, if_neg (by decide), e2, zb2_some, r_standing (cx_Q f2 hC1) w2, zb1_some, zi_and, rbA_st, Bool.true_and]
    by_cases hz : rbF D li dy (dgp 5 way (D.1 0 1)) = 0
    · rw [hz, if_pos (by rfl), decide_eq_true rfl, if_pos rfl]; rfl
    · rw [if_neg (show ¬ nI (rbF D li dy (dgp 5 way (D.1 0 1))) = 0 from nI_ne0 (by omega) (by omega)), decide_eq_false hz, if_neg (by decide)]; rfl
/-! what the class has gathered -/
def vN (D : zD) (li dy : Nat) (a : Nat → Bool) (g : Nat → Nat) (N : Nat) : zV := fo (hwF D li dy a g) 0 N s0V
theorem vN_S (D : zD) (li dy : Nat) (a : Nat → Bool) (g : Nat → Nat) (N : Nat) : vN D li dy a g (N + 1) = hwF D li dy a g (vN D li dy a g N) N := by
  show hwF D li dy a g _ (0 + N) = _
  rw [Nat.zero_add]; rfl
theorem vN_sz (D : zD) (li dy : Nat) (a : Nat → Bool) (g : Nat → Nat) : ∀ N, (vN D li dy a g N).2.2.2.1 = sumOf (fun way => if hgB D li dy way = true then 1 else 0) N
  | 0 => rfl
  | N + 1 => by
    rw [vN_S]
    unfold sumOf hwF
    rw [← vN_sz D li dy a g N]
    cases hp : rmP D (D.1 0 1) N with
    | false =>
      rw [if_neg (by decide), if_neg (by unfold hgB; rw [hp, Bool.false_and]; decide)]; rfl
    | true =>
      rw [if_pos rfl]
      show (if rbF D li dy (dgp 5 N (D.1 0 1)) = 0 then _ + 1 else _) = _
      by_cases hz : rbF D li dy (dgp 5 N (D.1 0 1)) = 0
      · rw [if_pos hz, if_pos (by unfold hgB; rw [hp, decide_eq_true hz]; rfl)]
      · rw [if_neg hz, if_neg (by unfold hgB; rw [hp, decide_eq_false hz]; decide)]; rfl
theorem vN_brk (D : zD) (li dy : Nat) (a : Nat → Bool) (g : Nat → Nat) (x : Nat) : ∀ N, (vN D li dy a g N).1 x = anyB (fun way => rmP D (D.1 0 1) way && decide (rbF D li dy (dgp 5 way (D.1 0 1)) = x)) N
  | 0 => rfl
  | N + 1 => by
    rw [vN_S, anyB_S, ← vN_brk D li dy a g x N]
    unfold hwF
    cases hp : rmP D (D.1 0 1) N with
    | false => rw [if_neg (by decide), Bool.false_and, Bool.or_false]
    | true =>
      rw [if_pos rfl, Bool.true_and]
      show (_ || decide (x = rbF D li dy (dgp 5 N (D.1 0 1)))) = _
      congr 1
      rw [decide_eq_decide]
      exact eq_comm
theorem vN_rm (D : zD) (li dy : Nat) (a : Nat → Bool) (g : Nat → Nat) (x : Nat) : ∀ N, (vN D li dy a g N).2.1 x = anyB (fun way => rmP D (D.1 0 1) way && decide (atF way (D.1 0 1) = x)) N
  | 0 => rfl
  | N + 1 => by
    rw [vN_S, anyB_S, ← vN_rm D li dy a g x N]
    unfold hwF
    cases hp : rmP D (D.1 0 1) N with
    | false => rw [if_neg (by decide), Bool.false_and, Bool.or_false]
    | true =>
      rw [if_pos rfl, Bool.true_and]
      show (_ || decide (x = atF N (D.1 0 1))) = _
      congr 1
      rw [decide_eq_decide]
      exact eq_comm
theorem vN_kt (D : zD) (li dy : Nat) (a : Nat → Bool) (g : Nat → Nat) (x : Nat) : ∀ N, (vN D li dy a g N).2.2.1 x = anyB (fun way => hgB D li dy way && decide (atF way (D.1 0 1) = x)) N
  | 0 => rfl
  | N + 1 => by
    rw [vN_S, anyB_S, ← vN_kt D li dy a g x N]
    unfold hwF hgB
    cases hp : rmP D (D.1 0 1) N with
    | false => rw [if_neg (by decide), Bool.false_and, Bool.false_and, Bool.or_false]
    | true =>
      rw [if_pos rfl, Bool.true_and]
      show (_ || (decide (rbF D li dy (dgp 5 N (D.1 0 1)) = 0) && decide (x = atF N (D.1 0 1)))) = _
      congr 2
      rw [decide_eq_decide]
      exact eq_comm
/-- the nearest so far -/
def blF (D : zD) (li dy : Nat) (a : Nat → Bool) (g : Nat → Nat) : Nat → Option (Nat × Nat)
  | 0 => none
  | N + 1 => if hgB D li dy N = true then (match blF D li dy a g N with
    | none => some (N, ofF a g N (D.1 0 1))
    | some b => if b.2 ≤ ofF a g N (D.1 0 1) then some b else some (N, ofF a g N (D.1 0 1))) else blF D li dy a g N
theorem blF_b {D : zD} {li dy : Nat} {a : Nat → Bool} {g : Nat → Nat} (hW : D.1 0 1 ≤ 6) : ∀ N b, blF D li dy a g N = some b → b.1 < N ∧ b.2 ≤ 6
  | 0, b, h => by cases h
  | N + 1, b, h => by
    have ih := blF_b (li := li) (dy := dy) (a := a) (g := g) hW N
    have ho := ofF_le a g N (D.1 0 1)
    unfold blF at h
    split at h
    · cases hb : blF D li dy a g N with
      | none =>
        rw [hb] at h
        have h' := Option.some.inj h
        subst h'
        exact ⟨by show N < N + 1; omega, by show ofF a g N (D.1 0 1) ≤ 6; omega⟩
      | some c =>
        rw [hb] at h
        simp only at h
        obtain ⟨i1, i2⟩ := ih c hb
        split at h
        · have h' := Option.some.inj h
          subst h'
          exact ⟨by omega, i2⟩
        · have h' := Option.some.inj h
          subst h'
          exact ⟨by show N < N + 1; omega, by show ofF a g N (D.1 0 1) ≤ 6; omega⟩
    · obtain ⟨i1, i2⟩ := ih b h
      exact ⟨by omega, i2⟩
theorem vN_near {D : zD} {li dy : Nat} {a : Nat → Bool} {g : Nat → Nat} (hW : D.1 0 1 ≤ 6) : ∀ N, (vN D li dy a g N).2.2.2.2.1 = (match blF D li dy a g N with | none => 7 | some b => b.2) ∧ ∀ b, blF D li dy a g N = some b → (vN D li dy a g N).2.2.2.2.2 = b.1
  | 0 => ⟨rfl, fun b h => by cases h⟩
  | N + 1 => by
    obtain ⟨i1, i2⟩ := vN_near (li := li) (dy := dy) (a := a) (g := g) hW N
    have ho := ofF_le a g N (D.1 0 1)
    rw [vN_S]
    unfold hwF blF
    cases hp : rmP D (D.1 0 1) N with
    | false =>
      rw [if_neg (by decide), if_neg (by unfold hgB; rw [hp, Bool.false_and]; decide)]
      exact ⟨i1, i2⟩
    | true =>
      rw [if_pos rfl]
      show (if rbF D li dy (dgp 5 N (D.1 0 1)) = 0 ∧ ofF a g N (D.1 0 1) < (vN D li dy a g N).2.2.2.2.1 then ofF a g N (D.1 0 1) else (vN D li dy a g N).2.2.2.2.1) = _ ∧ ∀ b : Nat × Nat, _ → (if rbF D li dy (dgp 5 N (D.1 0 1)) = 0 ∧ ofF a g N (D.1 0 1) < (vN D li dy a g N).2.2.2.2.1 then N else (vN D li dy a g N).2.2.2.2.2) = b.1
      rw [i1]
      by_cases hz : rbF D li dy (dgp 5 N (D.1 0 1)) = 0
      · rw [if_pos (show hgB D li dy N = true by unfold hgB; rw [hp, decide_eq_true hz]; rfl)]
        cases hb : blF D li dy a g N with
        | none =>
          simp only
          rw [if_pos ⟨hz, by omega⟩, if_pos ⟨hz, by omega⟩]
          refine ⟨rfl, fun b h => ?_⟩
          have h' := Option.some.inj h
          subst h'; rfl
        | some c =>
          simp only
          by_cases hle : c.2 ≤ ofF a g N (D.1 0 1)
          · have n1 : ¬ (rbF D li dy (dgp 5 N (D.1 0 1)) = 0 ∧ ofF a g N (D.1 0 1) < c.2) := by omega
            rw [if_neg n1, if_neg n1, if_pos hle]
            refine ⟨rfl, fun b h => ?_⟩
            have h' := Option.some.inj h
            subst h'; exact i2 c hb
          · have n1 : (rbF D li dy (dgp 5 N (D.1 0 1)) = 0 ∧ ofF a g N (D.1 0 1) < c.2) := ⟨hz, by omega⟩
            rw [if_pos n1, if_pos n1, if_neg hle]
            refine ⟨rfl, fun b h => ?_⟩
            have h' := Option.some.inj h
            subst h'; rfl
      · rw [if_neg (show ¬ hgB D li dy N = true by unfold hgB; rw [hp, decide_eq_false hz]; decide)]
        have n1 : ∀ y, ¬ (rbF D li dy (dgp 5 N (D.1 0 1)) = 0 ∧ y) := fun y z => hz z.1
        rw [if_neg (n1 _), if_neg (n1 _)]
        exact ⟨rfl, i2⟩
