/-! works, and single numbers: class -/
def ixN : List (List Nat) → List Nat → Nat
  | [], _ => 0
  | x :: l, L => if x = L then 0 else ixN l L + 1
theorem ixN_get : ∀ (l : List (List Nat)) (L : List Nat) (j : Nat), l[j]? = some L → l[ixN l L]? = some L
  | [], L, j, h => by cases h
  | x :: l, L, j, h => by
    unfold ixN
    by_cases hx : x = L
    · rw [if_pos hx, hx]; rfl
    · rw [if_neg hx]
      cases j with
      | zero => exact absurd (Option.some.inj h) hx
      | succ j => exact ixN_get l L j h
def uqL (l : List (List Nat)) : Prop := ∀ (j j' : Nat) (L : List Nat), l[j]? = some L → l[j']? = some L → j = j'
theorem ixN_eq {l : List (List Nat)} {L : List Nat} {j : Nat} (hu : uqL l) (h : l[j]? = some L) : j = ixN l L := hu j _ L h (ixN_get l L j h)
def zWo (T : Nat → Nat) (n : Nat) (Q : zQ) (Z : zZ) : zZ := zTo (tkF T n) 59 0 noB (zTo (tkF T n) 3 5 (outB T n 0 99) (zTo (tkF T n) 3 5 (outB T n 0 9) (zTo (tkF T n) 2 4 (notB T n (nmH Q.1)) (zTo (tkF T n) 2 4 (notB T n (nmH Q.1)) (zTo (tkF T n) 2 3 (dupB T n (nmH Q.1) (nmW Q.2.1)) (zTo (tkF T n) 257 0 noB Z))))))
def qWo (T : Nat → Nat) (n : Nat) (Q : zQ) (i : Nat) : zQ := (Q.1, Q.2.1 ++ [((tkF T n (i + 1)).2.2.1, ixN (nmH Q.1) (tkF T n (i + 2)).2.2.1, ixN (nmH Q.1) (tkF T n (i + 3)).2.2.1, (tkF T n (i + 4)).2.2.2, (tkF T n (i + 5)).2.2.2)], Q.2.2)
theorem c_work {T : Nat → Nat} {n t cl i : Nat} {M : zm_Mem} {nt : Option (Nat × Nat)} {Q : zQ} (h : CL T n M t cl i nt Q) (hu : nt = none → uqL (nmH Q.1)) (hs : (tkF T n i).1 = 257) (hH : Q.2.1.length < 6) : ∃ M', f_X2_tellWork M = some ((), M') ∧ Fc t M M' ∧ CZ T n M' t cl (zWo T n Q (.inr (i, nt))) ∧ ∀ i' nt', zWo T n Q (.inr (i, nt)) = .inr (i', nt') → CL T n M' t cl i' nt' (qWo T n Q i) := by
  obtain ⟨hZ, hcl, ⟨h11, b11⟩, ⟨h12, b12⟩, ⟨h13, b13⟩, c9, c10, hD⟩ := h
  obtain ⟨ht, h83, hT⟩ := cz_t hZ
  obtain ⟨M1, e1, f1, z1⟩ := c_ztake hs (by omega) hZ
  have lH := len_nmH Q.1
  have lW := len_nmW Q.2.1
  obtain ⟨x2, M2, e2, f2, z2, v2⟩ := c_znew (hN := nmH Q.1) (wN := nmW Q.2.1) z1 (by rw [f1.2 t 11 (by unfold p8; omega), lH]; exact h11) (by rw [f1.2 t 12 (by unfold p8; omega), lW]; exact h12) (by omega) (by omega) (by unfold CN; rw [f1.1]; exact c9) (by unfold CN; rw [f1.1]; exact c10)
  have z3 := cz_sL (x := 10) (j := Q.2.1.length) (v := x2) z2 (by omega)
  have c9' : ∀ K : zm_Mem, K.2.1 = (zm_sL M2 10 Q.2.1.length x2).2.1 → CN K 9 (nmH Q.1) := fun K hK => cn_x c9 (fun j hj => by rw [hK, mLv, if_neg (by omega), f2.1, f1.1])
  obtain ⟨x4, M4, e4, f4, z4, v4⟩ := c_ztold (r := 9) (NL := nmH Q.1) z3 (Or.inl rfl) (by rw [lH]; exact b11) (c9' _ rfl)
  have z5 := cz_sI (x := t + 3) (j := Q.2.1.length) (v := x4) z4 (by omega) (by omega)
  obtain ⟨x6, M6, e6, f6, z6, v6⟩ := c_ztold (r := 9) (NL := nmH Q.1) z5 (Or.inl rfl) (by rw [lH]; exact b11) (c9' _ (by show M4.2.1 = _; rw [f4.1]))
  have z7 := cz_sI (x := t + 4) (j := Q.2.1.length) (v := x6) z6 (by omega) (by omega)
  obtain ⟨x8, M8, e8, f8, z8, v8⟩ := c_znum (lo := 0) (hi := 9) z7 (by omega) (by omega)
  have z9 := cz_sI (x := t + 5) (j := Q.2.1.length) (v := x8) z8 (by omega) (by omega)
  obtain ⟨xa, Ma, ea, fa, za, va⟩ := c_znum (lo := 0) (hi := 99) z9 (by omega) (by omega)
  have zb := cz_sI (x := t + 6) (j := Q.2.1.length) (v := xa) za (by omega) (by omega)
  obtain ⟨Mc, ec, fc, zc⟩ := c_zexp (s := 59) (by omega) (by omega) zb
  have zd := cz_sI (x := t) (j := 12) (v := Mc.1 t 12 + 1) zc (by omega) (by omega)
  have a : ∀ x j, ¬ p8 x j → x ≠ t + 3 → x ≠ t + 4 → x ≠ t + 5 → x ≠ t + 6 → Mc.1 x j = M.1 x j := fun x j a b c d e => by
    rw [fc.2 x j a, mI1, if_neg (by omega), fa.2 x j a, mI1, if_neg (by omega), f8.2 x j a, mI1, if_neg (by omega), f6.2 x j a, mI1, if_neg (by omega), f4.2 x j a]
    show M2.1 x j = _
    rw [f2.2 x j a, f1.2 x j a]
  have b4 : M4.1 t 11 = nI (nmH Q.1).length := by
    rw [f4.2 t 11 (by unfold p8; omega)]
    show M2.1 t 11 = _
    rw [f2.2 t 11 (by unfold p8; omega), f1.2 t 11 (by unfold p8; omega), lH]; exact h11
  have b2 : (zm_sL M2 10 Q.2.1.length x2).1 t 11 = nI (nmH Q.1).length := by
    show M2.1 t 11 = _
    rw [f2.2 t 11 (by unfold p8; omega), f1.2 t 11 (by unfold p8; omega), lH]; exact h11
  have b5 : (zm_sI M4 (t + 3) Q.2.1.length x4).1 t 11 = nI (nmH Q.1).length := by rw [mI1, if_neg (by omega)]; exact b4
  have r8 : Mc.2.2 8 3 = t := (cz_t zc).2.1
  have e11 : Mc.1 t 12 = nI Q.2.1.length := by rw [a t 12 (by unfold p8; omega) (by omega) (by omega) (by omega) (by omega)]; exact h12
  have l8 : Mc.2.1 = (zm_sL M2 10 Q.2.1.length x2).2.1 := by rw [fc.1]; show Ma.2.1 = _; rw [fa.1]; show M8.2.1 = _; rw [f8.1]; show M6.2.1 = _; rw [f6.1]; show M4.2.1 = _; rw [f4.1]
  refine ⟨zm_sI Mc t 12 (Mc.1 t 12 + 1), ?_, ?_, zd, fun i' nt' hz => ?_⟩
  · unfold f_X2_tellWork
    simp only [zv_eq]
    have ck : zm_in (nI Q.2.1.length) 6 = true := zm_in_nI (by omega) (by omega)
    have e8' : f_X2_number 0 9 (zm_sI M6 (t + 4) Q.2.1.length x6) = some (x8, M8) := e8
    have ea' : f_X2_number 0 99 (zm_sI M8 (t + 5) Q.2.1.length x8) = some (xa, Ma) := ea
    have ec' : f_X2_expect 59 (zm_sI Ma (t + 6) Q.2.1.length xa) = some ((), Mc) := ec
    rw [h83, hT, zk_true, h12, if_pos (show nI Q.2.1.length < (6 : Int32) from nI_lt (b := 6) hH (by omega)), e1, zb2_some, e2, zb2_some, ck, zk_true, nI_clamp (by omega), (cz_t z3).2.1, hT, zk_true, zk_true, b2, e4, zb2_some, zk_true, (cz_t z5).2.1, hT, zk_true, zk_true, b5, e6, zb2_some, zk_true, (cz_t z7).2.1, hT, zk_true, e8', zb2_some, zk_true, (cz_t z9).2.1, hT, zk_true, ea', zb2_some, zk_true, ec', zb2_some, r8, hT, zk_true]
  · exact fc_tr (fc_8 f1) (fc_tr (fc_8 f2) (fc_tr (fc_sL (Or.inr rfl)) (fc_tr (fc_8 f4) (fc_tr (fc_sI (by unfold pF; omega)) (fc_tr (fc_8 f6) (fc_tr (fc_sI (by unfold pF; omega)) (fc_tr (fc_8 f8) (fc_tr (fc_sI (by unfold pF; omega)) (fc_tr (fc_8 fa) (fc_tr (fc_sI (by unfold pF; omega)) (fc_tr (fc_8 fc) (fc_sI (by unfold pF; omega)))))))))))))
  · have hz0 := hz
    unfold zWo at hz
    obtain ⟨i6, n6, w6, s6, k6, rfl, _, m6⟩ := zTo_inr hz
    obtain ⟨i5, n5, w5, s5, k5, rfl, _, m5⟩ := zTo_inr w6
    obtain ⟨i4, n4, w4, s4, k4, rfl, _, m4⟩ := zTo_inr w5
    obtain ⟨i3, n3, w3, s3, k3, rfl, _, m3⟩ := zTo_inr w4
    obtain ⟨i2, n2, w2, s2, k2, rfl, _, m2⟩ := zTo_inr w3
    obtain ⟨i1', n1, w1, s1, k1, rfl, _, m1⟩ := zTo_inr w2
    obtain ⟨i0, n0, w0, s0, k0, rfl, _, m0⟩ := zTo_inr w1
    have ei : i = i0 := congrArg Prod.fst (Sum.inr.inj w0)
    have en : nt = n0 := congrArg Prod.snd (Sum.inr.inj w0)
    subst ei; subst en
    have X2 := v2 (i + 1) _ w1 s1
    have ok := tkF_ok (T := T) (n := n) (i := i + 1)
    have zd' : CZ T n (zm_sI Mc t 12 (Mc.1 t 12 + 1)) t cl (zWo T n Q (.inr (i, nt))) := zd
    rw [hz0] at zd'
    have lq : (qWo T n Q i).2.1.length = Q.2.1.length + 1 := by unfold qWo; rw [List.length_append]; rfl
    have g : ∀ x j, ¬ p8 x j → x ≠ t + 3 → x ≠ t + 4 → x ≠ t + 5 → x ≠ t + 6 → ¬ (x = t ∧ j = 12) → (zm_sI Mc t 12 (Mc.1 t 12 + 1)).1 x j = M.1 x j := fun x j a1 b c d e q => by
      rw [mI1, if_neg q]; exact a x j a1 b c d e
    refine ⟨zd', by omega, ⟨by rw [g t 11 (by unfold p8; omega) (by omega) (by omega) (by omega) (by omega) (by omega)]; exact h11, b11⟩, ⟨by rw [mI1, if_pos ⟨rfl, rfl⟩, e11, nI_k1, lq], by rw [lq]; omega⟩, ⟨by rw [g t 13 (by unfold p8; omega) (by omega) (by omega) (by omega) (by omega) (by omega)]; exact h13, b13⟩, ?_, ?_, fun hnt => ?_⟩
    · refine cn_x c9 (fun j hj => ?_)
      show Mc.2.1 9 j = _
      rw [l8, mLv, if_neg (by omega), f2.1, f1.1]
    · show CN _ 10 (nmW (Q.2.1 ++ [_]))
      unfold nmW
      rw [List.map_append]
      refine cn_snoc (cn_x c10 (fun j hj => ?_)) ?_ ok.2.1 ok.2.2.1
      · show Mc.2.1 10 j = _
        rw [l8, mLv, if_neg (by rw [List.length_map] at hj; omega), f2.1, f1.1]
      · show Mc.2.1 10 (nmW Q.2.1).length = _
        rw [l8, mLv, if_pos ⟨rfl, lW⟩]; exact X2
    · have d6 := m6 hnt
      have d5 := m5 d6.1
      have d4 := m4 d5.1
      have d3 := m3 d4.1
      have d2 := m2 d3.1
      have d1 := m1 d2.1
      have d0 := m0 d1.1
      have D := hD d0.1
      have U := hu d0.1
      obtain ⟨j4, y4, X4⟩ := v4 (i + 1 + 1) _ w2 s2 d2.2
      obtain ⟨j6, y6, X6⟩ := v6 (i + 1 + 1 + 1) _ w3 s3 d3.2
      have X8 := v8 (i + 1 + 1 + 1 + 1) _ w4 s4
      have Xa := va (i + 1 + 1 + 1 + 1 + 1) _ w5 s5
      rw [ixN_eq U y4] at X4
      rw [ixN_eq U y6] at X6
      have D' : CDt (zm_sI Mc t 12 (Mc.1 t 12 + 1)) t cl Q := by
        refine cdt_x D (fun x j a1 a2 a3 => g x j (by unfold p8; omega) (by omega) (by omega) (by omega) (by omega) (by omega)) (fun x j a1 a2 a3 => ?_) (fun x j a1 a2 a3 => g x j (by unfold p8; omega) (by omega) (by omega) (by omega) (by omega) (by omega)) (fun j a1 a2 => g t j (by unfold p8; omega) (by omega) (by omega) (by omega) (by omega) (by omega)) (fun j _ => g (t + 10) j (by unfold p8; omega) (by omega) (by omega) (by omega) (by omega) (by omega)) (Nat.le_refl _)
        have np : ¬ p8 x j := by unfold p8; omega
        rw [mI1, if_neg (by omega), fc.2 x j np, mI1, if_neg (by omega), fa.2 x j np, mI1, if_neg (by omega), f8.2 x j np, mI1, if_neg (by omega), f6.2 x j np, mI1, if_neg (by omega), f4.2 x j np]
        show M2.1 x j = _
        rw [f2.2 x j np, f1.2 x j np]
      refine ⟨D'.1, fun j x hx => ?_, D'.2.2⟩
      rcases snoc_get hx with ⟨hj, hx'⟩ | ⟨rfl, rfl⟩
      · exact D'.2.1 j x hx'
      · have np : ∀ y, ¬ p8 (t + y) Q.2.1.length := fun y => by unfold p8; omega
        refine ⟨?_, ?_, ?_, ?_⟩
        · rw [mI1, if_neg (by omega), fc.2 _ _ (np 3), mI1, if_neg (by omega), fa.2 _ _ (np 3), mI1, if_neg (by omega), f8.2 _ _ (np 3), mI1, if_neg (by omega), f6.2 _ _ (np 3), mI1, if_pos ⟨rfl, rfl⟩]; exact X4
        · rw [mI1, if_neg (by omega), fc.2 _ _ (np 4), mI1, if_neg (by omega), fa.2 _ _ (np 4), mI1, if_neg (by omega), f8.2 _ _ (np 4), mI1, if_pos ⟨rfl, rfl⟩]; exact X6
        · rw [mI1, if_neg (by omega), fc.2 _ _ (np 5), mI1, if_neg (by omega), fa.2 _ _ (np 5), mI1, if_pos ⟨rfl, rfl⟩]; exact X8
        · rw [mI1, if_neg (by omega), fc.2 _ _ (np 6), mI1, if_pos ⟨rfl, rfl⟩]; exact Xa
/-- a number alone: late, couriers, seed -/
def zOn (T : Nat → Nat) (n s lo hi : Nat) (Z : zZ) : zZ := zTo (tkF T n) 59 0 noB (zTo (tkF T n) 3 5 (outB T n lo hi) (zTo (tkF T n) s 0 noB Z))
def qOn (T : Nat → Nat) (n : Nat) (Q : zQ) (m i : Nat) : zQ := (Q.1, Q.2.1, Q.2.2.1, (if m = 16 then ((tkF T n (i + 1)).2.2.2, Q.2.2.2.1.2) else if m = 17 then (Q.2.2.2.1.1, (tkF T n (i + 1)).2.2.2, Q.2.2.2.1.2.2) else (Q.2.2.2.1.1, Q.2.2.2.1.2.1, (tkF T n (i + 1)).2.2.2)), Q.2.2.2.2)
theorem c_only {T : Nat → Nat} {n t cl i s lo hi m : Nat} {M : zm_Mem} {nt : Option (Nat × Nat)} {Q : zQ} (h : CL T n M t cl i nt Q) (hs : (tkF T n i).1 = s) (hs0 : s ≠ 0) (hlo : lo < 10000) (hhi : hi < 10000) (hm : m = 16 ∨ m = 17 ∨ m = 18) : ∃ r M', f_X2_onlyNumber (nI lo) (nI hi) M = some (r, M') ∧ Fc t M (zm_sI M' t m r) ∧ CZ T n (zm_sI M' t m r) t cl (zOn T n s lo hi (.inr (i, nt))) ∧ ∀ i' nt', zOn T n s lo hi (.inr (i, nt)) = .inr (i', nt') → CL T n (zm_sI M' t m r) t cl i' nt' (qOn T n Q m i) := by
  obtain ⟨hZ, hcl, ⟨h11, b11⟩, ⟨h12, b12⟩, ⟨h13, b13⟩, c9, c10, hD⟩ := h
  obtain ⟨ht, h83, hT⟩ := cz_t hZ
  obtain ⟨M1, e1, f1, z1⟩ := c_ztake hs hs0 hZ
  obtain ⟨x2, M2, e2, f2, z2, v2⟩ := c_znum (lo := lo) (hi := hi) z1 hlo hhi
  obtain ⟨M3, e3, f3, z3⟩ := c_zexp (s := 59) (by omega) (by omega) z2
  have z4 := cz_sI (x := t) (j := m) (v := x2) z3 (by omega) (by omega)
  have f : Fp p8 M M3 := fp_tr f1 (fp_tr f2 f3)
  refine ⟨x2, M3, ?_, fc_tr (fc_8 f) (fc_sI (by unfold pF; omega)), z4, fun i' nt' hz => ?_⟩
  · unfold f_X2_onlyNumber
    have e3' : f_X2_expect 59 M2 = some ((), M3) := e3
    rw [e1, zb2_some, e2, zb2_some, e3', zb2_some]
  · have z4' : CZ T n (zm_sI M3 t m x2) t cl (zOn T n s lo hi (.inr (i, nt))) := z4
    rw [hz] at z4'
    unfold zOn at hz
    obtain ⟨i2, n2, w2, s2, k2, rfl, _, m2⟩ := zTo_inr hz
    obtain ⟨i1', n1, w1, s1, k1, rfl, _, m1⟩ := zTo_inr w2
    obtain ⟨i0, n0, w0, s0, k0, rfl, _, m0⟩ := zTo_inr w1
    have ei : i = i0 := congrArg Prod.fst (Sum.inr.inj w0)
    have en : nt = n0 := congrArg Prod.snd (Sum.inr.inj w0)
    subst ei; subst en
    have X2 := v2 (i + 1) _ w1 s1
    have g : ∀ x j, ¬ p8 x j → ¬ (x = t ∧ j = m) → (zm_sI M3 t m x2).1 x j = M.1 x j := fun x j a b => by rw [mI1, if_neg b, f.2 x j a]
    refine ⟨z4', by omega, ⟨by rw [g t 11 (by unfold p8; omega) (by omega)]; exact h11, b11⟩, ⟨by rw [g t 12 (by unfold p8; omega) (by omega)]; exact h12, b12⟩, ⟨by rw [g t 13 (by unfold p8; omega) (by omega)]; exact h13, b13⟩, cn_x c9 (fun j hj => by show M3.2.1 9 j = _; rw [f.1]), cn_x c10 (fun j hj => by show M3.2.1 10 j = _; rw [f.1]), fun hnt => ?_⟩
    have D := hD (m0 (m1 (m2 hnt).1).1).1
    obtain ⟨d1, d2, d3, ⟨d4, d5, d6⟩, d7, d8⟩ := D
    have gf : ∀ j, j < cl → (zm_sI M3 t m x2).1 (t + 10) j = M.1 (t + 10) j := fun j _ => g (t + 10) j (by unfold p8; omega) (by omega)
    refine ⟨fun j x hx => ?_, fun j x hx => ?_, fun j x hx => ?_, ?_, clw_x d7 (g t 14 (by unfold p8; omega) (by omega)) gf (Nat.le_refl _), clw_x d8 (g t 15 (by unfold p8; omega) (by omega)) gf (Nat.le_refl _)⟩
    · rw [g _ j (by unfold p8; omega) (by omega), g _ j (by unfold p8; omega) (by omega)]; exact d1 j x hx
    · rw [g _ j (by unfold p8; omega) (by omega), g _ j (by unfold p8; omega) (by omega), g _ j (by unfold p8; omega) (by omega), g _ j (by unfold p8; omega) (by omega)]; exact d2 j x hx
    · obtain ⟨c1, p, q, c2, c3, c4, c5, c6, c7⟩ := d3 j x hx
      exact ⟨by rw [g _ j (by unfold p8; omega) (by omega)]; exact c1, p, q, by rw [g _ j (by unfold p8; omega) (by omega)]; exact c2, by rw [g _ j (by unfold p8; omega) (by omega)]; exact c3, sc_x c4 gf (by rw [List.length_append]; exact c6), sc_x c5 gf (by rw [List.length_append]; exact c7), c6, c7⟩
    · unfold qOn
      rcases hm with rfl | rfl | rfl
      · rw [if_pos rfl]
        exact ⟨by rw [mI1, if_pos ⟨rfl, rfl⟩]; exact X2, by rw [g t 17 (by unfold p8; omega) (by omega)]; exact d5, by rw [g t 18 (by unfold p8; omega) (by omega)]; exact d6⟩
      · rw [if_neg (by omega), if_pos rfl]
        exact ⟨by rw [g t 16 (by unfold p8; omega) (by omega)]; exact d4, by rw [mI1, if_pos ⟨rfl, rfl⟩]; exact X2, by rw [g t 18 (by unfold p8; omega) (by omega)]; exact d6⟩
      · rw [if_neg (by omega), if_neg (by omega)]
        exact ⟨by rw [g t 16 (by unfold p8; omega) (by omega)]; exact d4, by rw [g t 17 (by unfold p8; omega) (by omega)]; exact d5, by rw [mI1, if_pos ⟨rfl, rfl⟩]; exact X2⟩
