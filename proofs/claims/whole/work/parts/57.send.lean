theorem c_canBeSent {M : zm_Mem} {t v n : Nat} {D : zD} {S : Nat → Nat} (hC : Cx M t v D S n) (hn : n < 512) {w x : Nat} (hw : w < D.1 0 1) (hx : x < 5) : f_X10_canBeSent (nI w) (nI x) M = some (if isAt S (S 0) w = true ∧ S (4 + w) ≠ x then nI 1 else nI 0) := by
  have ht := hC.2.1
  have hT := hC.2.2.1
  have hR := hC.2.2.2
  have bI := cx_isT hC
  have bv := tT_v hT
  have bh := tT_bh hT
  have bw := tT_bw hT
  have bk := tT_bk hT
  have hg := hg_S hC w hw
  simp only at hg
  unfold f_X10_canBeSent f_X10_canBeSent_b27
  rw [c_underWay hC hn hw, zb1_some]
  by_cases ha : isAt S (S 0) w = true
  · rw [if_pos ha, if_pos rfl, c_goal hC hw, zb1_some]
    by_cases hgx : S (4 + w) = x
    · rw [if_pos (by rw [hgx]), if_neg (fun z => z.2 hgx)]; rfl
    · rw [if_neg (by rw [nI_eq (by omega) (by omega)]; exact hgx), if_pos ⟨ha, hgx⟩]; rfl
  · rw [if_neg ha, if_neg (by decide), if_neg (fun z => ha z.1)]; rfl
def dpM (M : zm_Mem) (w x g a : Nat) (lt : Int32) : zm_Mem :=
  if lt = 0 then zm_sI (zm_sI (zm_sI (zm_sI (zm_sI M 12 (22 + g * 5 + x) (M.1 12 (22 + g * 5 + x) + nI 1)) 12 (4 + w) (nI x)) 12 (10 + w) (nI a)) 12 (16 + w) (M.1 12 (16 + w) + nI 1)) 12 1 (M.1 12 1 + nI 1)
  else zm_sI (zm_sI (zm_sI (zm_sI (zm_sI (zm_sI M 12 (22 + g * 5 + x) (M.1 12 (22 + g * 5 + x) + nI 1)) 12 (4 + w) (nI x)) 12 (10 + w) (nI a)) 12 (16 + w) (M.1 12 (16 + w) + nI 1)) 12 1 (M.1 12 1 + nI 1)) 12 2 (M.1 12 2 + nI 1)
theorem c_depart {M : zm_Mem} {w x g d0 dd : Nat} {lt : Int32} (hw : w < 6) (hx : x < 5) (hg : g < 5) (h4 : M.1 12 (4 + w) = nI g) (h0 : M.1 12 0 = nI d0) : f_X4_depart (nI w) (nI x) (nI dd) lt M = some ((), dpM M w x g (d0 + dd) lt) := by
  have r0 : ∀ u z, (zm_sI (zm_sI M 12 (22 + g * 5 + x) u) 12 (4 + w) z).1 12 0 = nI d0 := fun u z => by rw [mI1, if_neg (by omega), mI1, if_neg (by omega)]; exact h0
  have r16 : ∀ u z a, (zm_sI (zm_sI (zm_sI M 12 (22 + g * 5 + x) u) 12 (4 + w) z) 12 (10 + w) a).1 12 (16 + w) = M.1 12 (16 + w) := fun u z a => by rw [mI1, if_neg (by omega), mI1, if_neg (by omega), mI1, if_neg (by omega)]
  have r1 : ∀ u z a b, (zm_sI (zm_sI (zm_sI (zm_sI M 12 (22 + g * 5 + x) u) 12 (4 + w) z) 12 (10 + w) a) 12 (16 + w) b).1 12 1 = M.1 12 1 := fun u z a b => by rw [mI1, if_neg (by omega), mI1, if_neg (by omega), mI1, if_neg (by omega), mI1, if_neg (by omega)]
  have r2 : ∀ u z a b c, (zm_sI (zm_sI (zm_sI (zm_sI (zm_sI M 12 (22 + g * 5 + x) u) 12 (4 + w) z) 12 (10 + w) a) 12 (16 + w) b) 12 1 c).1 12 2 = M.1 12 2 := fun u z a b c => by rw [mI1, if_neg (by omega), mI1, if_neg (by omega), mI1, if_neg (by omega), mI1, if_neg (by omega), mI1, if_neg (by omega)]
  unfold f_X4_depart f_X4_goal f_X4_today dpM
  simp (disch := omega) only [lt_lit, ↓zv_eq, ↓zk_true, ↓zb1_some, zi_in, nI_clamp, nI_add, pk_mul, h4, r0, r16, r1, r2]
  by_cases hl : lt = nI 0
  · rw [if_pos hl, if_pos hl]
  · rw [if_neg hl, if_neg hl]
theorem dp_at {M : zm_Mem} {w x g a i : Nat} {lt : Int32} : (dpM M w x g a lt).1 12 i = if i = 2 ∧ lt ≠ 0 then M.1 12 2 + nI 1 else if i = 1 then M.1 12 1 + nI 1 else if i = 16 + w then M.1 12 (16 + w) + nI 1 else if i = 10 + w then nI a else if i = 4 + w then nI x else if i = 22 + g * 5 + x then M.1 12 (22 + g * 5 + x) + nI 1 else M.1 12 i := by
  unfold dpM
  by_cases hl : lt = 0
  · rw [if_pos hl, if_neg (fun z => z.2 hl)]
    simp only [mI1, true_and]
  · rw [if_neg hl]
    simp only [mI1, true_and, ne_eq, hl, not_false_eq_true, and_true]
theorem dp_fr {M : zm_Mem} {w x g a : Nat} {lt : Int32} : Fr w12 M (dpM M w x g a lt) := by
  unfold dpM
  split
  · exact fr_tr (fr_tr (fr_tr (fr_tr (fr_sI rfl) (fr_sI rfl)) (fr_sI rfl)) (fr_sI rfl)) (fr_sI rfl)
  · exact fr_tr (fr_tr (fr_tr (fr_tr (fr_tr (fr_sI rfl) (fr_sI rfl)) (fr_sI rfl)) (fr_sI rfl)) (fr_sI rfl)) (fr_sI rfl)
def sdM (Q : zm_Mem) (w x : Nat) (a lt : Int32) : zm_Mem :=
  if lt = 0 then zm_sI (zm_sI (zm_sI (zm_sI (zm_sI Q 92 (12 + w) a) 92 (6 + w) (nI x)) 92 w (-nI 2)) 92 (18 + w) (Q.1 92 (18 + w) + nI 1)) 92 31 (Q.1 92 31 + nI 1)
  else zm_sI (zm_sI (zm_sI (zm_sI (zm_sI (zm_sI Q 92 (12 + w) a) 92 (6 + w) (nI x)) 92 w (-nI 2)) 92 (18 + w) (Q.1 92 (18 + w) + nI 1)) 92 31 (Q.1 92 31 + nI 1)) 92 32 (Q.1 92 32 + nI 1)
theorem sd_at {Q : zm_Mem} {w x i : Nat} {a lt : Int32} : (sdM Q w x a lt).1 92 i = if i = 32 ∧ lt ≠ 0 then Q.1 92 32 + nI 1 else if i = 31 then Q.1 92 31 + nI 1 else if i = 18 + w then Q.1 92 (18 + w) + nI 1 else if i = w then -nI 2 else if i = 6 + w then nI x else if i = 12 + w then a else Q.1 92 i := by
  unfold sdM
  by_cases hl : lt = 0
  · rw [if_pos hl, if_neg (fun z => z.2 hl)]
    simp only [mI1, true_and]
  · rw [if_neg hl]
    simp only [mI1, true_and, ne_eq, hl, not_false_eq_true, and_true]
theorem sd_fr {Q : zm_Mem} {w x : Nat} {a lt : Int32} : Fr w92 Q (sdM Q w x a lt) := by
  unfold sdM
  split
  · exact fr_tr (fr_tr (fr_tr (fr_tr (fr_sI rfl) (fr_sI rfl)) (fr_sI rfl)) (fr_sI rfl)) (fr_sI rfl)
  · exact fr_tr (fr_tr (fr_tr (fr_tr (fr_tr (fr_sI rfl) (fr_sI rfl)) (fr_sI rfl)) (fr_sI rfl)) (fr_sI rfl)) (fr_sI rfl)
theorem r_b95 {Q Md : zm_Mem} {w x : Nat} {lt u z : Int32} (hw : w < 6) (hk : f_X11_keeps (sdM Q w x (u + z) lt) = some ((), Md)) : f_X11_send_b95 (nI w) (nI x) lt Q (12 + nI w) u z = some (Md.1 91 (12 + w), Md) := by
  have r18 : ∀ a b c, (zm_sI (zm_sI (zm_sI Q 92 (12 + w) a) 92 (6 + w) b) 92 w c).1 92 (18 + w) = Q.1 92 (18 + w) := fun a b c => by rw [mI1, if_neg (by omega), mI1, if_neg (by omega), mI1, if_neg (by omega)]
  have r31 : ∀ a b c d, (zm_sI (zm_sI (zm_sI (zm_sI Q 92 (12 + w) a) 92 (6 + w) b) 92 w c) 92 (18 + w) d).1 92 31 = Q.1 92 31 := fun a b c d => by rw [mI1, if_neg (by omega), mI1, if_neg (by omega), mI1, if_neg (by omega), mI1, if_neg (by omega)]
  have r32 : ∀ a b c d e, (zm_sI (zm_sI (zm_sI (zm_sI (zm_sI Q 92 (12 + w) a) 92 (6 + w) b) 92 w c) 92 (18 + w) d) 92 31 e).1 92 32 = Q.1 92 32 := fun a b c d e => by rw [mI1, if_neg (by omega), mI1, if_neg (by omega), mI1, if_neg (by omega), mI1, if_neg (by omega), mI1, if_neg (by omega)]
  unfold sdM at hk
  unfold f_X11_send_b95 f_X11_send_b154
  simp (disch := omega) only [lt_lit, ↓zv_eq, ↓zk_true, ↓zb1_some, zi_in, nI_clamp, nI_add, r18, r31, r32] at hk ⊢
  by_cases hl : lt = nI 0
  · rw [if_pos hl] at hk ⊢
    rw [hk, zb2_some]
  · rw [if_neg hl] at hk ⊢
    rw [hk, zb2_some]
theorem ag_send {M : zm_Mem} {q n : Nat} (hI : Inv M q n) (hn : n < 512) (a1 : Int32) (a2 : Int32) : Ag (f_X10_send a1 a2 M) (fun M1 => f_X11_send a1 a2 M1) q n := by
  have hI' := hI
  obtain ⟨t, v, D, S, hC, hX⟩ := hI'
  have ht := hC.2.1
  have hT := hC.2.2.1
  have hR := hC.2.2.2
  have bI := cx_isT hC
  have bv := tT_v hT
  have bh := tT_bh hT
  have bw := tT_bw hT
  have bk := tT_bk hT
  rcases ix_cases a1 (b := D.1 0 1) (by omega) with h1 | ⟨w, hw, rfl⟩
  · refine ag_mk hI (r := -1) (M1 := M) (M2 := M) ?_ ?_ (sc_rfl M)
    · unfold f_X10_send; rw [c_isWork0 hC h1]; rfl
    · show f_X11_send a1 a2 M = _
      unfold f_X11_send; rw [r_isPair0 hC (Or.inl h1)]; rfl
  rcases ix_cases a2 (b := D.1 0 0) (by omega) with h2 | ⟨x, hx, rfl⟩
  · refine ag_mk hI (r := -1) (M1 := M) (M2 := M) ?_ ?_ (sc_rfl M)
    · unfold f_X10_send; rw [c_isWork hC hw, zb1_some, if_neg (by decide), c_isHouse0 hC h2]; rfl
    · show f_X11_send (nI w) a2 M = _
      unfold f_X11_send; rw [r_isPair0 hC (Or.inr ⟨⟨w, hw, rfl⟩, h2⟩)]; rfl
  have hg : S (4 + w) < 5 := hg_S hC w hw
  have hb := (cx_b hC).2 w hw
  have hb0 := (cx_b hC).1
  have hsent := c_canBeSent hC hn hw (x := x) (by omega)
  have hrp := tR_rp hR w hw
  have em2 : (-2 : Int32) = -nI 2 := rfl
  have neg2 : (-nI 2 : Int32) < 0 := by decide
  by_cases hgo : isAt S (S 0) w = true ∧ S (4 + w) ≠ x
  rotate_left
  · rw [if_neg hgo] at hsent
    refine ag_mk hI (r := -2) (M1 := M) (M2 := M) ?_ ?_ (sc_rfl M)
    · unfold f_X10_send
      rw [c_isWork hC hw, zb1_some, if_neg (by decide), c_isHouse hC hx, zb1_some, if_neg (by decide), hsent]; rfl
    · show f_X11_send (nI w) (nI x) M = _
      unfold f_X11_send
      rw [r_isPair hC hw hx, zb1_some, if_neg (by decide), zm_ck_t (zm_in_nI (by omega) (by omega)), nI_clamp (by omega), hrp]
      by_cases hat : S (10 + w) ≤ S 0
      · have hgx : S (4 + w) = x := by
          refine Classical.byContradiction (fun z => hgo ⟨?_, z⟩)
          simp only [isAt, decide_eq_true_eq]; exact hat
        rw [if_pos hat, if_neg (nI_pos (by omega)), zm_ck_t (zm_in_nI (by omega) (by omega)), if_pos (by rw [hgx])]
      · rw [if_neg hat, em2, if_pos neg2]
  obtain ⟨hat, hgx⟩ := hgo
  rw [if_pos ⟨hat, hgx⟩] at hsent
  have hat' : S (10 + w) ≤ S 0 := by simpa only [isAt, decide_eq_true_eq] using hat
  rw [if_pos hat'] at hrp
  obtain ⟨M1, e1, s1, n1⟩ := c_lookToday hn hC
  have hC1 := cx_sc s1 hC
  obtain ⟨M2, e2, f2⟩ := c_journey hC1 n1 hw hx
  have s2 := sc_tr s1 (sc_C f2)
  have hC2 := cx_sc s2 hC
  have hX2 := rx_sc hC.1 s2 hX
  have hT2 := hC2.2.2.1
  have hR2 := hC2.2.2.2
  obtain ⟨d, d1, d2, ed⟩ := tp_nat D (vr D w x 0 0 (S 0))
  rw [ed] at e2
  have eL := c_isLate hC2 (nI (D.1 0 5))
  generalize hL : isL D (nI (D.1 0 5)) (nI (S 1)) = lt at eL
  have hL01 : lt = 0 ∨ lt = 1 := hL ▸ isL_01 D _ _
  obtain ⟨s, y, hs, hy, p1, p2, p3, p4⟩ := hX2.2.2.2.2.2.1
  have bf12 : ∀ i, (bfM M2 s y).1 12 i = M2.1 12 i := fun i => fr_bf.2 12 i rfl
  have ex : ∃ dd, 1 ≤ dd ∧ dd ≤ 104 ∧ (if lt = 0 then nI d else nI d + 5) = nI dd ∧ (nI (S 0 + d) + (if lt = 0 then 0 else 5)) = nI (S 0 + dd) := by
    rcases hL01 with h | h
    · exact ⟨d, by omega, by omega, by rw [if_pos h], by rw [if_pos h]; exact nI_add (S 0 + d) 0⟩
    · refine ⟨d + 5, by omega, by omega, ?_, ?_⟩
      · rw [if_neg (by rw [h]; decide)]; exact nI_add d 5
      · rw [if_neg (by rw [h]; decide), ← Nat.add_assoc]; exact nI_add (S 0 + d) 5
  obtain ⟨dd, dd1, dd2, ed1, ed2⟩ := ex
  have kdp := c_depart (M := bfM M2 s y) (w := w) (x := x) (g := S (4 + w)) (d0 := S 0) (dd := dd) (lt := lt) (by omega) (by omega) hg (by rw [bf12]; exact tR_g hR2 w hw) (by rw [bf12]; exact tR_d hR2)
  have hB : Fr w12 (bfM M2 s y) (dpM (bfM M2 s y) w x (S (4 + w)) (S 0 + dd) lt) := dp_fr
  have kat : ∀ i, (dpM (bfM M2 s y) w x (S (4 + w)) (S 0 + dd) lt).1 12 i = _ := fun i => dp_at
  simp only [bf12] at kat
  generalize hK : dpM (bfM M2 s y) w x (S (4 + w)) (S 0 + dd) lt = K at kdp hB kat
  have kc : f_X10_send (nI w) (nI x) M = some (nI (S 0 + dd), K) := by
    have ka : f_X4_arrival (nI w) K = some (nI (S 0 + dd)) := by
      unfold f_X4_arrival
      rw [show (10 : Int32) + nI w = nI (10 + w) from nI_add 10 w, zm_ck_t (zm_in_nI (by omega) (by omega)), nI_clamp (by omega), kat, if_neg (by omega), if_neg (by omega), if_neg (by omega), if_pos rfl]
    have kb : ∀ z, z = nI dd → f_X10_send_b79 (nI w) lt (bfM M2 s y) (nI w) (nI x) z = some (nI (S 0 + dd), K) := by
      intro z hz
      unfold f_X10_send_b79
      rw [hz, kdp, zb2_some, ka]; rfl
    unfold f_X10_send
    rw [c_isWork hC hw, zb1_some, if_neg (by decide), c_isHouse hC hx, zb1_some, if_neg (by decide), hsent, zb1_some, if_neg (by decide), e1, zb2_some, e2, zb2_some]
    simp only [zv_eq]
    rw [hC2.2.1, bI, zk_true, tT_se hT2, eL, zb1_some, c_before p3 p1 hy hs, zb2_some]
    by_cases hl0 : lt = 0
    · rw [if_pos hl0] at ed1 ⊢
      exact kb _ ed1
    · rw [if_neg hl0] at ed1 ⊢
      exact kb _ ed1
  have kF : ∀ x' j', wBf x' j' = false → w12 x' j' = false → K.1 x' j' = M2.1 x' j' := fun x' j' a b => (hB.2 _ _ b).trans (fr_bf.2 _ _ a)
  have k91 : ∀ j, K.1 91 j = M2.1 91 j := fun j => kF 91 j rfl rfl
  have TK : iv_T K t v D := iT_fr hC.1 (fr_tr (fr_mono (W' := wCh) (fun x j h => by unfold wCh; rw [h]; rfl) (fr_bf (M := M2) (s := s) (x := y))) (fr_mono (fun x j h => by unfold wCh; rw [h, Bool.true_or, Bool.or_true]) hB)) wCh_T hT2
  generalize hP : zm_sI (cpM K 92 0 60 (K.1 91)) 52 58 (nI (D.1 0 5)) = P
  have cP : f_X11_copies K = some ((), P) := by rw [r_copiesT TK, hP]
  have p92 : ∀ j, j < 60 → P.1 92 j = M2.1 91 j := fun j hj => by rw [← hP, mI1, if_neg (by omega), mC_in hj, k91]
  have p58 : P.1 52 58 = nI (D.1 0 5) := by rw [← hP, mI1, if_pos ⟨rfl, rfl⟩]
  have fP : Fr wRo K P := by rw [← hP]; exact fr_tr (fr_cpM (fun _ => rfl)) (fr_sI rfl)
  have TP := iT_fr hC.1 fP wRo_T TK
  have lP := r_isLate TP p58 ((p92 31 (by omega)).trans (tR_rt hR2))
  rw [hL] at lP
  have pw : P.1 92 w = nI (S (4 + w)) := (p92 w (by omega)).trans (by rw [tR_rp hR2 w hw, if_pos hat'])
  have fP3 : Fr wRo K (zm_sI P 92 (33 + 5 * S (4 + w) + x) (P.1 92 (33 + 5 * S (4 + w) + x) + nI 1)) := fr_tr fP (fr_sI rfl)
  have TP3 := iT_fr hC.1 fP3 wRo_T TK
  have a92 : ∀ j, j < 60 → (zm_sI P 92 (33 + 5 * S (4 + w) + x) (P.1 92 (33 + 5 * S (4 + w) + x) + nI 1)).1 92 j = if j = 33 + 5 * S (4 + w) + x then M2.1 91 j + nI 1 else M2.1 91 j := by
    intro j hj
    rw [mI1]
    by_cases hj2 : j = 33 + 5 * S (4 + w) + x
    · rw [if_pos ⟨rfl, hj2⟩, if_pos hj2, p92 _ (by omega), hj2]
    · rw [if_neg (fun z => hj2 z.2), if_neg hj2, p92 _ hj]
  generalize hA : zm_sI P 92 (33 + 5 * S (4 + w) + x) (P.1 92 (33 + 5 * S (4 + w) + x) + nI 1) = A at fP3 TP3 a92
  have rwA : Rw A D (isAt S (S 0)) (fun j => S (4 + j)) (S 0) (S 3) := by
    refine ⟨?_, fun j hj => ?_, fun j hj => ?_⟩
    · rw [a92 30 (by omega), if_neg (by omega)]; exact tR_rd hR2
    · rw [a92 j (by omega), if_neg (by omega), tR_rp hR2 j hj]
      simp only [isAt, decide_eq_true_eq]; rfl
    · rw [a92 _ (by omega), if_neg (by omega)]; exact tR_rl hR2 j hj
  obtain ⟨Q, q1, q2⟩ := r_tripOfT hC.1 TP3 rwA hw hx
  rw [ed] at q1
  have q92 : ∀ j, Q.1 92 j = A.1 92 j := fun j => q2.2 92 j rfl
  have fsd : Fr wRo K (sdM Q w x (nI (S 0 + dd)) lt) := fr_tr fP3 (fr_tr (fr_mono (fun x j h => by unfold wRo; rw [h, Bool.or_true, Bool.or_true]) q2) (fr_mono (fun x j h => by unfold w92 at h; unfold wRo; rw [h]; rfl) sd_fr))
  have sat : ∀ i, (sdM Q w x (nI (S 0 + dd)) lt).1 92 i = _ := fun i => sd_at
  have keep : ∀ i, i < 31 → i ≠ 18 + w → i ≠ w → i ≠ 6 + w → i ≠ 12 + w → (sdM Q w x (nI (S 0 + dd)) lt).1 92 i = M2.1 91 i := fun i b1 b2 b3 b4 b5 => by
    rw [sat, if_neg (by omega), if_neg (by omega), if_neg b2, if_neg b3, if_neg b4, if_neg b5, q92, a92 i (by omega), if_neg (by omega)]
  have keepc : ∀ i, i ≠ 2 → i ≠ 1 → i ≠ 16 + w → i ≠ 10 + w → i ≠ 4 + w → i < 22 → K.1 12 i = M2.1 12 i := fun i b1 b2 b3 b4 b5 b6 => by
    rw [kat, if_neg (fun z => b1 z.1), if_neg b2, if_neg b3, if_neg b4, if_neg b5, if_neg (by omega)]
  obtain ⟨Md, m1, m2, m3⟩ := inv_chg (Mc := sdM Q w x (nI (S 0 + dd)) lt) (S' := upS (upS (upS S (4 + w) x) (10 + w) (S 0 + dd)) 1 (S 1 + 1)) hC2 hX2 hs hy p1 p2 p3 p4 hB fsd (by
    have hat2 : ¬ S 0 + dd ≤ S 0 := by omega
    refine ⟨?_, ?_, ?_, ?_, ?_, ?_, ?_, ?_, ?_, fun i hi => ?_, fun i hi => ?_, fun i hi => ?_, fun i hi => ?_, fun i hi => ?_, fun i hi => ?_, fun i hi => ?_, fun i hi => ?_, fun i hi => ?_⟩
    · simp (disch := omega) only [upS_ne, upS_eq]; omega
    · simp (disch := omega) only [upS_ne, upS_eq]; have := tR_bt hR; omega
    · simp (disch := omega) only [upS_ne, upS_eq]; exact tR_bl hR
    · simp (disch := omega) only [upS_ne, upS_eq]; rw [keepc _ (by omega) (by omega) (by omega) (by omega) (by omega) (by omega)]; exact tR_d hR2
    · simp (disch := omega) only [upS_ne, upS_eq]; rw [keep _ (by omega) (by omega) (by omega) (by omega) (by omega)]; exact tR_rd hR2
    · simp (disch := omega) only [upS_ne, upS_eq]; rw [kat, if_neg (by omega), if_pos rfl, tR_t hR2, nI_add]
    · simp (disch := omega) only [upS_ne, upS_eq]; rw [sat, if_neg (by omega), if_pos rfl, q92, a92 31 (by omega), if_neg (by omega), tR_rt hR2, nI_add]
    · rw [sat, kat]
      by_cases hl0 : lt = 0
      · rw [if_neg (fun z => z.2 hl0), if_neg (by omega), if_neg (by omega), if_neg (by omega), if_neg (by omega), if_neg (by omega), if_neg (fun z => z.2 hl0), if_neg (by omega), if_neg (by omega), if_neg (by omega), if_neg (by omega), if_neg (by omega), q92, a92 32 (by omega), if_neg (by omega)]
        exact tR_la hR2
      · rw [if_pos ⟨rfl, hl0⟩, if_pos ⟨rfl, hl0⟩, q92, a92 32 (by omega), if_neg (by omega), tR_la hR2]
    · simp (disch := omega) only [upS_ne, upS_eq]; rw [keepc _ (by omega) (by omega) (by omega) (by omega) (by omega) (by omega)]; exact tR_l hR2
    · simp (disch := omega) only [upS_ne, upS_eq]; rw [keep _ (by omega) (by omega) (by omega) (by omega) (by omega)]; exact tR_rl hR2 i hi
    · have := tR_bg hR i hi
      by_cases hiw : i = w
      · subst hiw
        simp (disch := omega) only [upS_ne, upS_eq]; omega
      · simp (disch := omega) only [upS_ne, upS_eq]; omega
    · by_cases hiw : i = w
      · subst hiw
        simp (disch := omega) only [upS_ne, upS_eq]; rw [kat, if_neg (by omega), if_neg (by omega), if_neg (by omega), if_neg (by omega), if_pos rfl]
      · simp (disch := omega) only [upS_ne, upS_eq]; rw [keepc _ (by omega) (by omega) (by omega) (by omega) (by omega) (by omega)]; exact tR_g hR2 i hi
    · by_cases hiw : i = w
      · subst hiw
        simp (disch := omega) only [upS_ne, upS_eq]; rw [kat, if_neg (by omega), if_neg (by omega), if_neg (by omega), if_pos rfl]
      · simp (disch := omega) only [upS_ne, upS_eq]; rw [keepc _ (by omega) (by omega) (by omega) (by omega) (by omega) (by omega)]; exact tR_a hR2 i hi
    · by_cases hiw : i = w
      · subst hiw
        rw [sat, if_neg (by omega), if_neg (by omega), if_pos rfl, kat, if_neg (by omega), if_neg (by omega), if_pos rfl, q92, a92 _ (by omega), if_neg (by omega), tR_s hR2 i hi]
      · rw [keep _ (by omega) (by omega) (by omega) (by omega) (by omega), keepc _ (by omega) (by omega) (by omega) (by omega) (by omega) (by omega)]; exact tR_s hR2 i hi
    · by_cases hiw : i = w
      · subst hiw
        simp (disch := omega) only [upS_ne, upS_eq]; rw [if_neg hat2, sat, if_neg (by omega), if_neg (by omega), if_neg (by omega), if_pos rfl]; rfl
      · simp (disch := omega) only [upS_ne, upS_eq]; rw [keep _ (by omega) (by omega) (by omega) (by omega) (by omega)]; exact tR_rp hR2 i hi
    · by_cases hiw : i = w
      · subst hiw
        simp (disch := omega) only [upS_ne, upS_eq]; rw [if_neg hat2, sat, if_neg (by omega), if_neg (by omega), if_neg (by omega), if_neg (by omega), if_pos rfl]
      · simp (disch := omega) only [upS_ne, upS_eq]; rw [keep _ (by omega) (by omega) (by omega) (by omega) (by omega)]; exact tR_rg hR2 i hi
    · by_cases hiw : i = w
      · subst hiw
        simp (disch := omega) only [upS_ne, upS_eq]; rw [if_neg hat2, sat, if_neg (by omega), if_neg (by omega), if_neg (by omega), if_neg (by omega), if_neg (by omega), if_pos rfl]
      · simp (disch := omega) only [upS_ne, upS_eq]; rw [keep _ (by omega) (by omega) (by omega) (by omega) (by omega)]; exact tR_ra hR2 i hi
    · rw [sat, if_neg (by omega), if_neg (by omega), if_neg (by omega), if_neg (by omega), if_neg (by omega), if_neg (by omega), kat, if_neg (by omega), if_neg (by omega), if_neg (by omega), if_neg (by omega), if_neg (by omega), q92, a92 _ (by omega)]
      have := tR_le hR2 i hi
      by_cases hi2 : i = 5 * S (4 + w) + x
      · rw [if_pos (by omega), if_pos (by omega), this, show 22 + S (4 + w) * 5 + x = 22 + i by omega]
      · rw [if_neg (by omega), if_neg (by omega), this])
  refine ⟨nI (S 0 + dd), K, Md, kc, ?_, m2⟩
  have rb : ∀ z, nI (S 0 + d) + z = nI (S 0 + dd) → f_X11_send_b95 (nI w) (nI x) lt Q (12 + nI w) (nI (S 0 + d)) z = some (nI (S 0 + dd), Md) := by
    intro z hz
    rw [r_b95 (Md := Md) (by omega) (by rw [hz]; exact m1), m3 _ (by omega), sat, if_neg (by omega), if_neg (by omega), if_neg (by omega), if_neg (by omega), if_neg (by omega), if_pos rfl]
  show f_X11_send (nI w) (nI x) K = _
  have e30 : (30 : Int32).toNatClampNeg = 30 := by decide
  have e60 : zm_in 30 60 = true := by decide
  have kw : K.1 91 w = nI (S (4 + w)) := (k91 w).trans (by rw [tR_rp hR2 w hw, if_pos hat'])
  have ei : (33 : Int32) + 5 * nI (S (4 + w)) + nI x = nI (33 + 5 * S (4 + w) + x) := by
    rw [show (5 : Int32) = nI 5 from rfl, show (33 : Int32) = nI 33 from rfl, pk_mul, nI_add, nI_add]
  have a30 : A.1 92 30 = nI (S 0) := rwA.1
  unfold f_X11_send
  rw [r_isPairT TK hw hx, zb1_some, if_neg (by decide), zm_ck_t (zm_in_nI (by omega) (by omega)), nI_clamp (by omega), kw, if_neg (nI_pos (by omega)), zm_ck_t (zm_in_nI (by omega) (by omega)), if_neg (by rw [nI_eq (by omega) (by omega)]; exact hgx), cP, zb2_some, lP, zb1_some, zm_ck_t (zm_in_nI (by omega) (by omega)), pw, ei, zm_ck_t (zm_in_nI (by omega) (by omega)), zm_ck_t (zm_in_nI (by omega) (by omega)), nI_clamp (by omega)]
  simp only [zv_eq]
  rw [show (1 : Int32) = nI 1 from rfl, hA, e60, zk_true, q1, zb2_some, e30, a30, nI_add]
  by_cases hl0 : lt = 0
  · rw [if_pos hl0] at ed2 ⊢
    exact rb _ ed2
  · rw [if_neg hl0] at ed2 ⊢
    exact rb _ ed2
