/-! the reference's likings by sets -/
def wLb (x j : Nat) : Bool := decide (x = 96) || wRo x j
theorem wLb_iv {x j : Nat} (h : wLb x j = true) : iv_c x j = false := by
  simp only [wLb, wRo, wQ, wR, Bool.or_eq_true, Bool.and_eq_true, decide_eq_true_eq] at h
  rcases h with rfl | rfl | ⟨rfl, rfl⟩ | rfl | rfl | ⟨rfl, rfl⟩ <;> rfl
theorem sc_Lb {M M' : zm_Mem} (h : Fr wLb M M') : Sc M M' := fr_sc (fun _ _ => wLb_iv) h
/-- likesBy, filled for some sets -/
def LbR (M : zm_Mem) (D : zD) (dy : Nat) (g : Nat → Nat) (N : Nat) : Prop := ∀ s h, s < N → h < D.1 0 0 → M.1 96 (5 * s + h) = nI (likS D dy g s h (D.1 0 1))
theorem r_fill {M : zm_Mem} {t v n : Nat} {D : zD} {S : Nat → Nat} (hn : n < 512) (hC : Cx M t v D S n) {s : Nat} (hs : s < 32) (hL : LbR M D (S 0) (fun j => S (4 + j)) s) : ∃ M', f_X11_fillsLikes (nI s) M = some ((), M') ∧ Fr wLb M M' ∧ LbR M' D (S 0) (fun j => S (4 + j)) (s + 1) := by
  have ht := hC.2.1
  have hT := hC.2.2.1
  have hR := hC.2.2.2
  have bI := cx_isT hC
  have bv := tT_v hT
  have bh := tT_bh hT
  have bw := tT_bw hT
  have bk := tT_bk hT
  have hg := hg_S hC
  have hh := hh_S hC
  obtain ⟨P, c1, c2, c3, c4, c5, c6⟩ := r_cp hC
  have hCP := cx_sc c2 hC
  have fP : Fr wLb M P := by
    have e := r_copies hC
    rw [c1] at e
    have e' := (Prod.mk.inj (Option.some.inj e)).2
    rw [e']
    exact fr_tr (fr_cpM (fun _ => rfl)) (fr_sI rfl)
  have p96 : ∀ j, P.1 96 j = M.1 96 j := by
    intro j
    have e := r_copies hC
    rw [c1] at e
    have e' := (Prod.mk.inj (Option.some.inj e)).2
    rw [e', mI1, if_neg (by omega), mC_ne (by omega)]
  have hv2 : zm_in (nI v) 2 = true := zm_in_nI (by omega) (by omega)
  have hcv : (nI v).toNatClampNeg = v := nI_clamp (by omega)
  have q5 : ∀ x, (5 : Int32) * nI s + nI x = nI (5 * s + x) := fun x => by rw [show (5 : Int32) = nI 5 from rfl, pk_mul, nI_add]
  have key1 : zm_lp (fun z => f_X11_fillsLikes_l6 (nI s) z.1 z.2) (0, P) = some (cpM P 96 (5 * s) (D.1 0 0) (fun _ => nI 0)) := by
    refine lp_cpy P 96 (5 * s) (D.1 0 0) _ (fun i hi => ?_) ?_
    · have hTL := (cx_sc (sc_cpM (M := P) (a := 96) (o := 5 * s) (N := i) (f := fun _ => nI 0) (fun _ _ _ => rfl)) hCP).2.2.1
      unfold f_X11_fillsLikes_l6
      rw [tT_live hTL, hv2, zk_true, hcv, tT_rh hTL, if_neg (nI_ge hi (by omega)), q5, zm_ck_t (zm_in_nI (by omega) (by omega)), nI_clamp (by omega)]
      simp only [zv_eq]
      rw [nI_k1]; rfl
    · have hTL := (cx_sc (sc_cpM (M := P) (a := 96) (o := 5 * s) (N := D.1 0 0) (f := fun _ => nI 0) (fun _ _ _ => rfl)) hCP).2.2.1
      unfold f_X11_fillsLikes_l6
      rw [tT_live hTL, hv2, zk_true, hcv, tT_rh hTL, if_pos (nI_le (by omega) (by omega))]
  generalize hZ : cpM P 96 (5 * s) (D.1 0 0) (fun _ => nI 0) = Z at key1
  have fZ : Fr wLb P Z := by rw [← hZ]; exact fr_cpM (fun _ => rfl)
  have z0 : ∀ h, h < D.1 0 0 → Z.1 96 (5 * s + h) = nI 0 := fun h hh => by rw [← hZ, mC_in' hh]
  have z1 : ∀ j, j < 5 * s → Z.1 96 j = M.1 96 j := fun j hj => by rw [← hZ, mC_out (by omega), p96]
  have sZ := sc_tr c2 (sc_Lb fZ)
  have hCZ := cx_sc sZ hC
  have z92 : ∀ j, Z.1 92 j = P.1 92 j := fun j => by rw [← hZ, mC_ne (by omega)]
  have key2 : ∃ e, zm_lp (fun z => f_X11_fillsLikes_l38 (nI s) z.1 z.2) (0, Z) = some e ∧ (Fr (fun x j => decide (x = 96) || wQ x j) Z e ∧ (∀ j, j < 5 * s → e.1 96 j = Z.1 96 j) ∧ ∀ h, h < D.1 0 0 → e.1 96 (5 * s + h) = nI (likS D (S 0) (fun j => S (4 + j)) s h (D.1 0 1))) := by
    refine lp_inv (step := fun z => f_X11_fillsLikes_l38 (nI s) z.1 z.2) (fun i z => z.1 = nI i ∧ Fr (fun x j => decide (x = 96) || wQ x j) Z z.2 ∧ (∀ j, j < 5 * s → z.2.1 96 j = Z.1 96 j) ∧ ∀ h, h < D.1 0 0 → z.2.1 96 (5 * s + h) = nI (likS D (S 0) (fun j => S (4 + j)) s h i)) (fun e => Fr (fun x j => decide (x = 96) || wQ x j) Z e ∧ (∀ j, j < 5 * s → e.1 96 j = Z.1 96 j) ∧ ∀ h, h < D.1 0 0 → e.1 96 (5 * s + h) = nI (likS D (S 0) (fun j => S (4 + j)) s h (D.1 0 1))) (D.1 0 1) ?_ ?_ (s := (0, Z)) ⟨rfl, fr_rfl _ Z, fun _ _ => rfl, fun h hh => z0 h hh⟩
    · rintro i ⟨i', L⟩ hi ⟨p1, p2, p3, p4⟩
      simp only at p1 p2 p3 p4
      subst p1
      have sL : Sc Z L := fr_sc (fun x j h => by
        simp only [Bool.or_eq_true, decide_eq_true_eq] at h
        rcases h with rfl | h
        · rfl
        · exact wQ_iv h) p2
      have hCL := cx_sc sL hCZ
      have hTL := hCL.2.2.1
      have l92 : ∀ j, L.1 92 j = P.1 92 j := fun j => (p2.2 92 j rfl).trans (z92 j)
      have rwL : Rw L D (isAt S (S 0)) (fun j => S (4 + j)) (S 0) (S 3) := ⟨(l92 30).trans c3.1, fun j hj => (l92 j).trans (c3.2.1 j hj), fun j hj => (l92 _).trans (c3.2.2 j hj)⟩
      have hgi : S (4 + i) < 5 := hg i hi
      have hhi : S (4 + i) < D.1 0 0 := hh i hi
      have hwi := tT_Wb hT i hi
      have hrow : f_X11_fillsLikes_l38 (nI s) (nI i) L = f_X11_fillsLikes_b78_38 (nI s) (nI i) L (nI (S (4 + i))) := by
        have r1 := (c6 i hi).1
        have r2 := (c6 i hi).2.1
        have hneg : ¬ (0 : Int32) ≤ -nI 2 := by decide
        unfold f_X11_fillsLikes_l38
        rw [tT_live hTL, hv2, zk_true, hcv, tT_rw hTL, if_neg (nI_ge hi (by omega)), zm_ck_t (zm_in_nI (by omega) (by omega)), nI_clamp (by omega), l92, r1]
        by_cases hat : S (10 + i) ≤ S 0
        · rw [if_pos hat, if_pos (nI_pos' (by omega)), zm_ck_t (zm_in_nI (by omega) (by omega))]
        · rw [if_neg hat, if_neg hneg, show (6 : Int32) + nI i = nI (6 + i) from nI_add 6 i, zm_ck_t (zm_in_nI (by omega) (by omega)), nI_clamp (by omega), l92, r2, if_neg hat]
      have hd : dst D (fun j => S (4 + j)) s i < D.1 0 0 := by unfold dst; split <;> omega
      have hb78 : f_X11_fillsLikes_b78_38 (nI s) (nI i) L (nI (S (4 + i))) = f_X11_fillsLikes_b94_38 (nI s) (nI i) L (nI (dst D (fun j => S (4 + j)) s i)) := by
        unfold f_X11_fillsLikes_b78_38 dst
        rw [show (nI s >>> (nI (S (4 + i)) &&& 31)) &&& 1 = nI (s / 2 ^ S (4 + i) % 2) by
          rw [show (31 : Int32) = nI 31 from rfl, show (1 : Int32) = nI 1 from rfl, zi_shr (by omega) (by omega), zi_and1]]
        by_cases hb : s / 2 ^ S (4 + i) % 2 = 1
        · rw [hb, if_pos (by rfl), r_ownerNow hCL hi, zb1_some, if_pos rfl]
        · rw [if_neg (show ¬ nI (s / 2 ^ S (4 + i) % 2) = 1 from fun z => hb ((nI_eq (by omega) (by omega)).1 (show nI (s / 2 ^ S (4 + i) % 2) = nI 1 from z))), if_neg hb]
      obtain ⟨L', k1, k2⟩ := r_likesOf1 hCL rwL (-nI 1) hi hd
      have le := lkn_eq D (vr D i (dst D (fun j => S (4 + j)) s i) 0 0 (S 0))
      rw [le.1] at k1
      generalize hdd : dst D (fun j => S (4 + j)) s i = d at hd hb78 k1 le
      refine Or.inl ⟨(nI (i + 1), zm_sI L' 96 (5 * s + d) (nI (likS D (S 0) (fun j => S (4 + j)) s d i + lkA D (S 0) i d))), ?_, rfl, ?_, fun j hj => ?_, fun h hh0 => ?_⟩
      · show f_X11_fillsLikes_l38 (nI s) (nI i) L = _
        rw [hrow, hb78]
        unfold f_X11_fillsLikes_b94_38
        rw [q5, zm_ck_t (zm_in_nI (by omega) (by omega)), show (-1 : Int32) = -nI 1 from rfl, k1, zb2_some, zm_ck_t (zm_in_nI (by omega) (by omega)), nI_clamp (by omega), p4 d hd, nI_add]
        simp only [zv_eq]
        rw [nI_k1]; rfl
      · exact fr_tr p2 (fr_tr (fr_mono (fun x j h => by rw [h, Bool.or_true]) k2) (fr_sI rfl))
      · show (zm_sI _ _ _ _).1 96 j = _
        rw [mI1, if_neg (by omega), k2.2 96 j rfl]; exact p3 j hj
      · show (zm_sI _ _ _ _).1 96 _ = _
        have el : likS D (S 0) (fun j => S (4 + j)) s h (i + 1) = likS D (S 0) (fun j => S (4 + j)) s h i + (if dst D (fun j => S (4 + j)) s i = h then lkA D (S 0) i h else 0) := rfl
        rw [mI1, el, hdd]
        by_cases hhd : h = d
        · rw [hhd, if_pos ⟨rfl, rfl⟩, if_pos rfl]
        · rw [if_neg (by omega), if_neg (fun z => hhd z.symm), k2.2 96 _ rfl]; exact p4 h hh0
    · rintro ⟨i', L⟩ ⟨p1, p2, p3, p4⟩
      simp only at p1 p2 p3 p4
      subst p1
      have sL : Sc Z L := fr_sc (fun x j h => by
        simp only [Bool.or_eq_true, decide_eq_true_eq] at h
        rcases h with rfl | h
        · rfl
        · exact wQ_iv h) p2
      have hTL := (cx_sc sL hCZ).2.2.1
      refine ⟨L, ?_, p2, p3, p4⟩
      show f_X11_fillsLikes_l38 (nI s) (nI (D.1 0 1)) L = _
      unfold f_X11_fillsLikes_l38
      rw [tT_live hTL, hv2, zk_true, hcv, tT_rw hTL, if_pos (nI_le (by omega) (by omega))]
  obtain ⟨e, k1, k2, k3, k4⟩ := key2
  refine ⟨e, ?_, fr_tr fP (fr_tr fZ (fr_mono (fun x j h => by
    simp only [Bool.or_eq_true, decide_eq_true_eq] at h
    unfold wLb wRo
    rcases h with rfl | h
    · rfl
    · rw [h, Bool.or_true, Bool.or_true, Bool.or_true]) k2)), fun s' h hs' hh0 => ?_⟩
  · unfold f_X11_fillsLikes
    rw [c1, zb2_some, key1]
    simp only [Option.bind_some]
    unfold f_X11_fillsLikes_x36_6
    rw [k1]; rfl
  · by_cases hss : s' = s
    · subst hss; exact k4 h hh0
    · rw [k3 _ (by omega), z1 _ (by omega)]; exact hL s' h (by omega) hh0
theorem r_resting {M : zm_Mem} {t v n : Nat} {D : zD} {S : Nat → Nat} (hC : Cx M t v D S n) (hL : LbR M D (S 0) (fun j => S (4 + j)) (2 ^ D.1 0 0)) {s : Nat} (hs : s < 2 ^ D.1 0 0) : f_X11_isResting (nI s) M = some (if pp (D.1 0 0) (frF D (S 0) (fun j => S (4 + j)) (D.1 0 1)) s = true then nI 1 else nI 0) := by
  have ht := hC.2.1
  have hT := hC.2.2.1
  have hR := hC.2.2.2
  have bI := cx_isT hC
  have bv := tT_v hT
  have bh := tT_bh hT
  have bw := tT_bw hT
  have bk := tT_bk hT
  have h32 := pow_32 bh
  have hv2 : zm_in (nI v) 2 = true := zm_in_nI (by omega) (by omega)
  have hcv : (nI v).toNatClampNeg = v := nI_clamp (by omega)
  have hg := hg_S hC
  have epp : pp (D.1 0 0) (frF D (S 0) (fun j => S (4 + j)) (D.1 0 1)) s = allB (fun h => decide (likS D (S 0) (fun j => S (4 + j)) (s ^^^ 2 ^ h) h (D.1 0 1) ≤ likS D (S 0) (fun j => S (4 + j)) s h (D.1 0 1))) (D.1 0 0) := by
    unfold pp
    refine allB_congr (fun h hh => ?_)
    exact (rest_iff bh hh (by omega) hg).symm
  rw [epp]
  generalize hp : (fun h => decide (likS D (S 0) (fun j => S (4 + j)) (s ^^^ 2 ^ h) h (D.1 0 1) ≤ likS D (S 0) (fun j => S (4 + j)) s h (D.1 0 1))) = p
  have st : ∀ h, h < D.1 0 0 → f_X11_isResting_l2 (nI s) M (nI h) = if p h = true then some (.inl (nI (h + 1))) else some (.inr (.inl ())) := by
    intro h hh
    have hx : s ^^^ 2 ^ h < 2 ^ D.1 0 0 := Nat.xor_lt_two_pow hs (Nat.pow_lt_pow_right (by omega) hh)
    have b1 := likS_le D (S 0) (fun j => S (4 + j)) (s ^^^ 2 ^ h) h (D.1 0 1)
    have b2 := likS_le D (S 0) (fun j => S (4 + j)) s h (D.1 0 1)
    have sh : (1 : Int32) <<< (nI h &&& 31) = nI (2 ^ h) := zi_sh1 (by omega)
    have q5 : ∀ x, (5 : Int32) * nI x + nI h = nI (5 * x + h) := fun x => by rw [show (5 : Int32) = nI 5 from rfl, pk_mul, nI_add]
    unfold f_X11_isResting_l2
    rw [tT_live hT, hv2, zk_true, hcv, tT_rh hT, if_neg (nI_ge hh (by omega)), sh, zi_xor, q5, q5, zm_ck_t (zm_in_nI (by omega) (by omega)), zm_ck_t (zm_in_nI (by omega) (by omega)), nI_clamp (by omega), nI_clamp (by omega), hL _ h hx hh, hL s h hs hh, ← hp]
    simp only [zv_eq, decide_eq_true_eq]
    rw [nI_k1]
    by_cases hle : likS D (S 0) (fun j => S (4 + j)) (s ^^^ 2 ^ h) h (D.1 0 1) ≤ likS D (S 0) (fun j => S (4 + j)) s h (D.1 0 1)
    · rw [if_pos hle, if_pos (nI_le hle (by omega))]
    · rw [if_neg hle, if_neg (nI_ge (by omega) (by omega))]
  have se : f_X11_isResting_l2 (nI s) M (nI (D.1 0 0)) = some (.inr (.inr ())) := by
    unfold f_X11_isResting_l2
    rw [tT_live hT, hv2, zk_true, hcv, tT_rh hT, if_pos (nI_le (by omega) (by omega))]
  have key : ∃ e, zm_lp (f_X11_isResting_l2 (nI s) M) (nI 0) = some e ∧ ((e = .inl () ∧ allB p (D.1 0 0) = false) ∨ (e = .inr () ∧ allB p (D.1 0 0) = true)) := by
    refine lp_inv (fun i z => z = nI i ∧ allB p i = true) _ (D.1 0 0) ?_ ?_ ⟨rfl, rfl⟩
    · rintro i z hi ⟨rfl, h2⟩
      cases hpi : p i with
      | true => exact Or.inl ⟨_, by rw [st i hi, hpi, if_pos rfl], rfl, by unfold allB; rw [h2, hpi]; rfl⟩
      | false => exact Or.inr ⟨_, by rw [st i hi, hpi, if_neg (by decide)], Or.inl ⟨rfl, allB_no hpi hi⟩⟩
    · rintro z ⟨rfl, h2⟩
      exact ⟨_, se, Or.inr ⟨rfl, h2⟩⟩
  obtain ⟨e, k1, k2⟩ := key
  unfold f_X11_isResting
  have k1' : zm_lp (f_X11_isResting_l2 (nI s) M) 0 = some e := k1
  rw [k1']
  rcases k2 with ⟨rfl, k2⟩ | ⟨rfl, k2⟩
  · rw [k2]; rfl
  · rw [k2]; rfl
theorem ag_backs {M : zm_Mem} {q n : Nat} (hI : Inv M q n) (hn : n < 512) (a1 : Int32) : Ag (f_X10_backs a1 M) (fun M1 => f_X11_backs a1 M1) q n := by
  have hI' := hI
  obtain ⟨t, v, D, S, hC, hX⟩ := hI'
  have ht := hC.2.1
  have hT := hC.2.2.1
  have hR := hC.2.2.2
  have bI := cx_isT hC
  have bv := tT_v hT
  have bh := tT_bh hT
  have bw := tT_bw hT
  have bk := tT_bk hT
  have h32 := pow_32 bh
  obtain ⟨M1, e1, s1⟩ := c_free hn hC
  have hC1 := cx_sc s1 hC
  have hT1 := hC1.2.2.1
  have hfl := frF_lt D (S 0) (fun j => S (4 + j)) (D.1 0 1)
  generalize hf : frF D (S 0) (fun j => S (4 + j)) (D.1 0 1) = f at e1 hfl
  obtain ⟨fin1, fin2, fin3⟩ := bk_fin (D.1 0 0) (by omega) f hfl
  have hpop : pop6 f ≤ 6 := by unfold pop6; omega
  have kc : f_X10_backs a1 M = (if a1 = (-1 : Int32) then (some (nI (2 ^ pop6 f), M1)) else (if a1 < 0 then (some (-1, M1)) else (if a1 < nI (2 ^ pop6 f) then (zm_b1 (f_X10_subsetOf (nI f) a1 M1) <| fun r34 => some (r34, M1)) else (some (-1, M1))))) := by
    unfold f_X10_backs f_X10_backs_b28
    rw [e1, zb2_some, bc_64 (by omega), zb1_some]
    simp only [zv_eq]
    rw [show (1 : Int32) <<< (nI (pop6 f) &&& 31) = nI (2 ^ pop6 f) from zi_sh1 (by omega)]
  have hv2 : zm_in (nI v) 2 = true := zm_in_nI (by omega) (by omega)
  have hcv : (nI v).toNatClampNeg = v := nI_clamp (by omega)
  have shH : (1 : Int32) <<< (nI (D.1 0 0) &&& 31) = nI (2 ^ D.1 0 0) := zi_sh1 (by omega)
  by_cases hlow : a1 < -1
  · refine ag_mk hI (r := -1) (M1 := M1) (M2 := M1) ?_ ?_ s1
    · rw [kc, if_neg (fun z => by rw [z] at hlow; exact absurd hlow (by decide)), if_pos]
      rw [Int32.lt_iff_toInt_lt] at hlow ⊢
      have : (-1 : Int32).toInt = -1 := by decide
      have : (0 : Int32).toInt = 0 := by decide
      omega
    · show f_X11_backs a1 M1 = _
      unfold f_X11_backs
      rw [if_neg (Int32.not_le.2 hlow)]
  have key1 : ∃ Z, zm_lp (fun z => f_X11_backs_l9 z.1 z.2) (nI 0, M1) = some Z ∧ (Fr wLb M1 Z ∧ LbR Z D (S 0) (fun j => S (4 + j)) (2 ^ D.1 0 0)) := by
    refine lp_inv (step := fun z => f_X11_backs_l9 z.1 z.2) (fun i z => z.1 = nI i ∧ Fr wLb M1 z.2 ∧ LbR z.2 D (S 0) (fun j => S (4 + j)) i) _ (2 ^ D.1 0 0) ?_ ?_ ⟨rfl, fr_rfl _ M1, fun s h hs _ => by omega⟩
    · rintro i ⟨i', L⟩ hi ⟨p1, p2, p3⟩
      simp only at p1 p2 p3
      subst p1
      have hCL := cx_sc (sc_Lb p2) hC1
      have hTL := hCL.2.2.1
      obtain ⟨L', k1, k2, k3⟩ := r_fill hn hCL (s := i) (by omega) p3
      refine Or.inl ⟨(nI (i + 1), L'), ?_, rfl, fr_tr p2 k2, k3⟩
      show f_X11_backs_l9 (nI i) L = _
      unfold f_X11_backs_l9
      rw [tT_live hTL, hv2, zk_true, hcv, tT_rh hTL, shH, if_neg (nI_ge hi (by omega)), k1, zb2_some]
      simp only [zv_eq]
      rw [nI_k1]
    · rintro ⟨i', L⟩ ⟨p1, p2, p3⟩
      simp only at p1 p2 p3
      subst p1
      have hTL := (cx_sc (sc_Lb p2) hC1).2.2.1
      refine ⟨L, ?_, p2, p3⟩
      show f_X11_backs_l9 (nI (2 ^ D.1 0 0)) L = _
      unfold f_X11_backs_l9
      rw [tT_live hTL, hv2, zk_true, hcv, tT_rh hTL, shH, if_pos (nI_le (Nat.le_refl _) (by omega))]
  obtain ⟨Z, k1, k2, k3⟩ := key1
  have hCZ := cx_sc (sc_Lb k2) hC1
  have hTZ := hCZ.2.2.1
  have hrest : ∀ s, s < 2 ^ D.1 0 0 → f_X11_isResting (nI s) Z = some (if pp (D.1 0 0) f s = true then nI 1 else nI 0) := fun s hs => by rw [← hf]; exact r_resting hCZ k3 hs
  have st : ∀ s c, s < 2 ^ D.1 0 0 → f_X11_backs_l39 a1 Z (nI c) (nI s) = if pp (D.1 0 0) f s = true then (if nI c = a1 then some (.inr (.inl (nI s))) else some (.inl (nI (c + 1), nI (s + 1)))) else some (.inl (nI c, nI (s + 1))) := by
    intro s c hs
    unfold f_X11_backs_l39 f_X11_backs_b75_39
    rw [tT_live hTZ, hv2, zk_true, hcv, tT_rh hTZ, shH, if_neg (nI_ge hs (by omega)), hrest s hs, zb1_some]
    simp only [zv_eq]
    rw [nI_k1, nI_k1]
    cases pp (D.1 0 0) f s with
    | true => rw [if_pos (c := true = true) rfl, if_pos (c := true = true) rfl, if_neg (by decide)]
    | false => rw [if_neg (c := false = true) (by decide), if_neg (c := false = true) (by decide), if_pos (by rfl)]
  have se : ∀ c, f_X11_backs_l39 a1 Z (nI c) (nI (2 ^ D.1 0 0)) = some (.inr (.inr (nI c))) := by
    intro c
    unfold f_X11_backs_l39
    rw [tT_live hTZ, hv2, zk_true, hcv, tT_rh hTZ, shH, if_pos (nI_le (Nat.le_refl _) (by omega))]
  have run : ∀ m s c, s + m = 2 ^ D.1 0 0 → c ≤ s → (∀ i, i < 32 → a1 = nI i → zm_lp (fun z => f_X11_backs_l39 a1 Z z.1 z.2) (nI c, nI s) = some (match bkN (pp (D.1 0 0) f) i m s c with | some s' => .inl (nI s') | none => .inr (nI (cnN (pp (D.1 0 0) f) m s c)))) ∧ ((∀ i, i < 32 → ¬ nI i = a1) → zm_lp (fun z => f_X11_backs_l39 a1 Z z.1 z.2) (nI c, nI s) = some (.inr (nI (cnN (pp (D.1 0 0) f) m s c)))) := by
    intro m
    induction m with
    | zero =>
      intro s c hs hc
      have hs' : s = 2 ^ D.1 0 0 := by omega
      subst hs'
      exact ⟨fun i hi ha => lp_end (step := fun z => f_X11_backs_l39 a1 Z z.1 z.2) (se c), fun ha => lp_end (step := fun z => f_X11_backs_l39 a1 Z z.1 z.2) (se c)⟩
    | succ m ih =>
      intro s c hs hc
      have hst := st s c (by omega)
      cases hp : pp (D.1 0 0) f s with
      | false =>
        rw [hp, if_neg (by decide)] at hst
        obtain ⟨i1, i2⟩ := ih (s + 1) c (by omega) (by omega)
        refine ⟨fun i hi ha => ?_, fun ha => ?_⟩
        · rw [lp_go (step := fun z => f_X11_backs_l39 a1 Z z.1 z.2) (s := (nI c, nI s)) hst, i1 i hi ha]
          conv => rhs; unfold bkN cnN
          rw [hp, if_neg (by decide), if_neg (by decide)]
        · rw [lp_go (step := fun z => f_X11_backs_l39 a1 Z z.1 z.2) (s := (nI c, nI s)) hst, i2 ha]
          conv => rhs; unfold cnN
          rw [hp, if_neg (by decide)]
      | true =>
        rw [hp, if_pos rfl] at hst
        obtain ⟨i1, i2⟩ := ih (s + 1) (c + 1) (by omega) (by omega)
        refine ⟨fun i hi ha => ?_, fun ha => ?_⟩
        · by_cases hci : c = i
          · rw [if_pos (by rw [hci, ha])] at hst
            rw [lp_end (step := fun z => f_X11_backs_l39 a1 Z z.1 z.2) (s := (nI c, nI s)) hst]
            unfold bkN
            rw [hp, if_pos rfl, if_pos hci]
          · rw [if_neg (by rw [ha, nI_eq (by omega) (by omega)]; exact hci)] at hst
            rw [lp_go (step := fun z => f_X11_backs_l39 a1 Z z.1 z.2) (s := (nI c, nI s)) hst, i1 i hi ha]
            conv => rhs; unfold bkN cnN
            rw [hp, if_pos rfl, if_neg hci, if_pos rfl]
        · rw [if_neg (ha c (by omega))] at hst
          rw [lp_go (step := fun z => f_X11_backs_l39 a1 Z z.1 z.2) (s := (nI c, nI s)) hst, i2 ha]
          conv => rhs; unfold cnN
          rw [hp, if_pos rfl]
  obtain ⟨run1, run2⟩ := run (2 ^ D.1 0 0) 0 0 (by omega) (Nat.le_refl _)
  have kr : ∀ e, zm_lp (fun z => f_X11_backs_l39 a1 Z z.1 z.2) (nI 0, nI 0) = some e → f_X11_backs a1 M1 = (Sum.elim (fun e70 => some (e70, Z)) (fun e81 => f_X11_backs_x81_39 a1 Z e81) e) := by
    intro e he
    unfold f_X11_backs
    rw [if_pos (Int32.not_lt.1 hlow)]
    have k1' : zm_lp (fun s => f_X11_backs_l9 s.1 s.2) (0, M1) = some Z := k1
    rw [k1']
    simp only [Option.bind_some]
    unfold f_X11_backs_x35_9
    have he' : zm_lp (fun s => f_X11_backs_l39 a1 Z s.1 s.2) (0, 0) = some e := he
    rw [he']; rfl
  have sZ := sc_tr s1 (sc_Lb k2)
  by_cases hm1 : a1 = -1
  · refine ag_mk hI (r := nI (2 ^ pop6 f)) (M1 := M1) (M2 := Z) ?_ ?_ sZ
    · rw [kc, if_pos hm1]
    · show f_X11_backs a1 M1 = _
      rw [kr _ (run2 (fun i hi z => by
        rw [hm1, show (-1 : Int32) = -nI 1 from rfl] at z
        exact (zi_en (a := i) (b := 1) (by omega) (by omega) (by omega)).1 z)), fin1]
      show f_X11_backs_x81_39 a1 Z _ = _
      unfold f_X11_backs_x81_39
      rw [if_pos hm1]
  have h0 : ¬ a1 < 0 := by
    intro z
    rw [Int32.lt_iff_toInt_lt] at z hlow
    have e1 : (-1 : Int32).toInt = -1 := by decide
    have e2 : (0 : Int32).toInt = 0 := by decide
    exact hm1 (Int32.toInt_inj.1 (by omega))
  obtain ⟨i, hi, rfl⟩ := nI_of h0
  by_cases hi32 : i < 32
  · have r1 := kr _ (run1 i hi32 rfl)
    rw [fin3 i hi32] at r1
    by_cases hip : i < 2 ^ pop6 f
    · rw [if_pos hip] at r1
      refine ag_mk hI (r := nI (sbF f i 5).1) (M1 := M1) (M2 := Z) ?_ ?_ sZ
      · rw [kc, if_neg hm1, if_neg h0, if_pos (nI_lt hip (by omega)), c_subset (by omega) hi32]; rfl
      · exact r1
    · rw [if_neg hip] at r1
      refine ag_mk hI (r := -1) (M1 := M1) (M2 := Z) ?_ ?_ sZ
      · rw [kc, if_neg hm1, if_neg h0, if_neg (nI_nlt (by omega) (by omega))]
      · refine r1.trans ?_
        show f_X11_backs_x81_39 _ Z _ = _
        unfold f_X11_backs_x81_39
        rw [if_neg hm1]
  · have r1 := kr _ (run2 (fun j hj z => by rw [nI_eq (by omega) hi] at z; omega))
    refine ag_mk hI (r := -1) (M1 := M1) (M2 := Z) ?_ ?_ sZ
    · rw [kc, if_neg hm1, if_neg h0, if_neg (nI_nlt (by omega) hi)]
    · refine r1.trans ?_
      show f_X11_backs_x81_39 _ Z _ = _
      unfold f_X11_backs_x81_39
      rw [if_neg hm1]
