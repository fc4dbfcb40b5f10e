/-! the class's statements -/
def nmH (H : zH) : List (List Nat) := H.map Prod.fst
def nmW (W : zW) : List (List Nat) := W.map Prod.fst
def CL (T : Nat → Nat) (n : Nat) (M : zm_Mem) (t cl i : Nat) (nt : Option (Nat × Nat)) (Q : zQ) : Prop := CZ T n M t cl (.inr (i, nt)) ∧ cl ≤ 4 + i ∧ (M.1 t 11 = nI Q.1.length ∧ Q.1.length ≤ 5) ∧ (M.1 t 12 = nI Q.2.1.length ∧ Q.2.1.length ≤ 6) ∧ (M.1 t 13 = nI Q.2.2.1.length ∧ Q.2.2.1.length ≤ 6) ∧ CN M 9 (nmH Q.1) ∧ CN M 10 (nmW Q.2.1) ∧ (nt = none → CDt M t cl Q)
/-- what the class's telling may change -/
def Fc (t : Nat) (M M' : zm_Mem) : Prop := M'.2.2 = M.2.2 ∧ (∀ x j, ¬ pF t x j → M'.1 x j = M.1 x j) ∧ ∀ x j, x ≠ 9 → x ≠ 10 → M'.2.1 x j = M.2.1 x j
theorem fc_rfl (t : Nat) (M : zm_Mem) : Fc t M M := ⟨rfl, fun _ _ _ => rfl, fun _ _ _ _ => rfl⟩
theorem fc_tr {t : Nat} {M M1 M2 : zm_Mem} (h : Fc t M M1) (h' : Fc t M1 M2) : Fc t M M2 := ⟨h'.1.trans h.1, fun x j a => (h'.2.1 x j a).trans (h.2.1 x j a), fun x j a b => (h'.2.2 x j a b).trans (h.2.2 x j a b)⟩
theorem fc_fp {t : Nat} {M M' : zm_Mem} (h : Fp (pF t) M M') : Fc t M M' := ⟨by rw [h.1], h.2, fun _ _ _ _ => by rw [h.1]⟩
theorem fc_8 {t : Nat} {M M' : zm_Mem} (h : Fp p8 M M') : Fc t M M' := fc_fp (fp_8F h)
theorem fc_sI {t x j : Nat} {M : zm_Mem} {v : Int32} (h : pF t x j) : Fc t M (zm_sI M x j v) := fc_fp (fp_sI h)
theorem fc_sL {t x j : Nat} {M : zm_Mem} {v : Int64} (h : x = 9 ∨ x = 10) : Fc t M (zm_sL M x j v) := ⟨rfl, fun _ _ _ => rfl, fun y i a b => by rw [mLv, if_neg (by omega)]⟩
theorem len_nmH (H : zH) : (nmH H).length = H.length := List.length_map _
theorem len_nmW (W : zW) : (nmW W).length = W.length := List.length_map _
theorem cn_x {M M' : zm_Mem} {r : Nat} {NL : List (List Nat)} (h : CN M r NL) (h2 : ∀ j, j < NL.length → M'.2.1 r j = M.2.1 r j) : CN M' r NL := fun j L hL => by
  rw [h2 j (gx_lt hL)]; exact h j L hL
theorem cn_snoc {M : zm_Mem} {r : Nat} {NL : List (List Nat)} {L : List Nat} (h : CN M r NL) (h1 : M.2.1 r NL.length = Int64.ofNat (iv_wn 32 L)) (h2 : L.length ≤ 8) (h3 : ltsL L) : CN M r (NL ++ [L]) := fun j K hK => by
  rcases Nat.lt_or_ge j NL.length with hj | hj
  · rw [List.getElem?_append_left hj] at hK; exact h j K hK
  · rw [List.getElem?_append_right hj] at hK
    have hj0 : j = NL.length := by
      have := gx_lt hK
      have e : ([L] : List (List Nat)).length = 1 := rfl
      omega
    subst hj0
    rw [Nat.sub_self] at hK
    have e : L = K := Option.some.inj hK
    subst e
    exact ⟨h1, h2, h3⟩
/-- a house -/
def zHo (T : Nat → Nat) (n : Nat) (Q : zQ) (Z : zZ) : zZ := zTo (tkF T n) 59 0 noB (zTo (tkF T n) 3 5 (outB T n 0 9) (zTo (tkF T n) 3 5 (outB T n 0 9) (zTo (tkF T n) 2 3 (dupB T n (nmH Q.1) (nmW Q.2.1)) (zTo (tkF T n) 256 0 noB Z))))
def qHo (T : Nat → Nat) (n : Nat) (Q : zQ) (i : Nat) : zQ := (Q.1 ++ [((tkF T n (i + 1)).2.2.1, (tkF T n (i + 2)).2.2.2, (tkF T n (i + 3)).2.2.2)], Q.2)
theorem snoc_get {α : Type} {l : List α} {a x : α} {j : Nat} (h : (l ++ [a])[j]? = some x) : (j < l.length ∧ l[j]? = some x) ∨ (j = l.length ∧ x = a) := by
  rcases Nat.lt_or_ge j l.length with hj | hj
  · rw [List.getElem?_append_left hj] at h; exact Or.inl ⟨hj, h⟩
  · have hl := gx_lt h
    rw [List.length_append] at hl
    have hj0 : j = l.length := by
      have e : ([a] : List α).length = 1 := rfl
      omega
    rw [List.getElem?_append_right hj, hj0, Nat.sub_self] at h
    exact Or.inr ⟨hj0, (Option.some.inj h).symm⟩
theorem c_house {T : Nat → Nat} {n t cl i : Nat} {M : zm_Mem} {nt : Option (Nat × Nat)} {Q : zQ} (h : CL T n M t cl i nt Q) (hs : (tkF T n i).1 = 256) (hH : Q.1.length < 5) : ∃ M', f_X2_tellHouse M = some ((), M') ∧ Fc t M M' ∧ CZ T n M' t cl (zHo T n Q (.inr (i, nt))) ∧ ∀ i' nt', zHo T n Q (.inr (i, nt)) = .inr (i', nt') → CL T n M' t cl i' nt' (qHo T n Q i) := by
  obtain ⟨hZ, hcl, ⟨h11, b11⟩, ⟨h12, b12⟩, ⟨h13, b13⟩, c9, c10, hD⟩ := h
  obtain ⟨ht, h83, hT⟩ := cz_t hZ
  obtain ⟨M1, e1, f1, z1⟩ := c_ztake hs (by omega) hZ
  have lH := len_nmH Q.1
  have lW := len_nmW Q.2.1
  have i1 : ∀ x j, ¬ p8 x j → M1.1 x j = M.1 x j := f1.2
  obtain ⟨x2, M2, e2, f2, z2, v2⟩ := c_znew (hN := nmH Q.1) (wN := nmW Q.2.1) z1 (by rw [f1.2 t 11 (by unfold p8; omega), lH]; exact h11) (by rw [f1.2 t 12 (by unfold p8; omega), lW]; exact h12) (by omega) (by omega) (by unfold CN; rw [f1.1]; exact c9) (by unfold CN; rw [f1.1]; exact c10)
  have z3 := cz_sL (x := 9) (j := Q.1.length) (v := x2) z2 (by omega)
  obtain ⟨x4, M4, e4, f4, z4, v4⟩ := c_znum (lo := 0) (hi := 9) z3 (by omega) (by omega)
  have z5 := cz_sI (x := t + 1) (j := Q.1.length) (v := x4) z4 (by omega) (by omega)
  obtain ⟨x6, M6, e6, f6, z6, v6⟩ := c_znum (lo := 0) (hi := 9) z5 (by omega) (by omega)
  have z7 := cz_sI (x := t + 2) (j := Q.1.length) (v := x6) z6 (by omega) (by omega)
  obtain ⟨M8, e8, f8, z8⟩ := c_zexp (s := 59) (by omega) (by omega) z7
  have z9 := cz_sI (x := t) (j := 11) (v := M8.1 t 11 + 1) z8 (by omega) (by omega)
  have a : ∀ x j, ¬ p8 x j → x ≠ t + 1 → x ≠ t + 2 → M8.1 x j = M.1 x j := fun x j a b c => by
    rw [f8.2 x j a, mI1, if_neg (by omega), f6.2 x j a, mI1, if_neg (by omega), f4.2 x j a]
    show M2.1 x j = _
    rw [f2.2 x j a, f1.2 x j a]
  have r8 : M8.2.2 8 3 = t := (cz_t z8).2.1
  have e11 : M8.1 t 11 = nI Q.1.length := by rw [a t 11 (by unfold p8; omega) (by omega) (by omega)]; exact h11
  have l8 : M8.2.1 = (zm_sL M2 9 Q.1.length x2).2.1 := by rw [f8.1]; show M6.2.1 = _; rw [f6.1]; show M4.2.1 = _; rw [f4.1]
  refine ⟨zm_sI M8 t 11 (M8.1 t 11 + 1), ?_, ?_, z9, fun i' nt' hz => ?_⟩
  · unfold f_X2_tellHouse
    simp only [zv_eq]
    have ck : zm_in (nI Q.1.length) 5 = true := zm_in_nI (by omega) (by omega)
    have e4' : f_X2_number 0 9 (zm_sL M2 9 Q.1.length x2) = some (x4, M4) := e4
    have e6' : f_X2_number 0 9 (zm_sI M4 (t + 1) Q.1.length x4) = some (x6, M6) := e6
    have e8' : f_X2_expect 59 (zm_sI M6 (t + 2) Q.1.length x6) = some ((), M8) := e8
    rw [h83, hT, zk_true, h11, if_pos (show nI Q.1.length < (5 : Int32) from nI_lt (b := 5) hH (by omega)), e1, zb2_some, e2, zb2_some, ck, zk_true, nI_clamp (by omega), (cz_t z3).2.1, hT, zk_true, e4', zb2_some, zk_true, (cz_t z5).2.1, hT, zk_true, e6', zb2_some, zk_true, e8', zb2_some, r8, hT, zk_true]
  · exact fc_tr (fc_8 f1) (fc_tr (fc_8 f2) (fc_tr (fc_sL (Or.inl rfl)) (fc_tr (fc_8 f4) (fc_tr (fc_sI (by unfold pF; omega)) (fc_tr (fc_8 f6) (fc_tr (fc_sI (by unfold pF; omega)) (fc_tr (fc_8 f8) (fc_sI (by unfold pF; omega)))))))))
  · unfold zHo at hz
    obtain ⟨i4, n4, w4, s4, _, rfl, _, m4⟩ := zTo_inr hz
    obtain ⟨i3, n3, w3, s3, _, rfl, _, m3⟩ := zTo_inr w4
    obtain ⟨i2, n2, w2, s2, _, rfl, _, m2⟩ := zTo_inr w3
    obtain ⟨i1', n1, w1, s1, _, rfl, _, m1⟩ := zTo_inr w2
    obtain ⟨i0, n0, w0, s0, _, rfl, _, m0⟩ := zTo_inr w1
    have ei : i = i0 := congrArg Prod.fst (Sum.inr.inj w0)
    have en : nt = n0 := congrArg Prod.snd (Sum.inr.inj w0)
    subst ei; subst en
    have X2 := v2 (i + 1) _ w1 s1
    have X4 := v4 (i + 1 + 1) _ w2 s2
    have X6 := v6 (i + 1 + 1 + 1) _ w3 s3
    have ok := tkF_ok (T := T) (n := n) (i := i + 1)
    have z9' : CZ T n (zm_sI M8 t 11 (M8.1 t 11 + 1)) t cl (.inr (i + 1 + 1 + 1 + 1 + 1, nt')) := by
      have := z9
      rw [show zTo (tkF T n) 59 0 noB (zTo (tkF T n) 3 5 (outB T n 0 9) (zTo (tkF T n) 3 5 (outB T n 0 9) (zTo (tkF T n) 2 3 (dupB T n (nmH Q.1) (nmW Q.2.1)) (zTo (tkF T n) 256 0 noB (.inr (i, nt)))))) = .inr (i + 1 + 1 + 1 + 1 + 1, nt') from hz] at this
      exact this
    have lq : (qHo T n Q i).1.length = Q.1.length + 1 := by unfold qHo; rw [List.length_append]; rfl
    have g : ∀ x j, ¬ p8 x j → x ≠ t + 1 → x ≠ t + 2 → ¬ (x = t ∧ j = 11) → (zm_sI M8 t 11 (M8.1 t 11 + 1)).1 x j = M.1 x j := fun x j a1 b c d => by
      rw [mI1, if_neg d]; exact a x j a1 b c
    refine ⟨z9', by omega, ⟨by rw [mI1, if_pos ⟨rfl, rfl⟩, e11, nI_k1, lq], by rw [lq]; omega⟩, ⟨by rw [g t 12 (by unfold p8; omega) (by omega) (by omega) (by omega)]; exact h12, b12⟩, ⟨by rw [g t 13 (by unfold p8; omega) (by omega) (by omega) (by omega)]; exact h13, b13⟩, ?_, ?_, fun hnt => ?_⟩
    · show CN _ 9 (nmH (Q.1 ++ [_]))
      unfold nmH
      rw [List.map_append]
      refine cn_snoc (cn_x c9 (fun j hj => ?_)) ?_ ok.2.1 ok.2.2.1
      · show M8.2.1 9 j = _
        rw [l8, mLv, if_neg (by rw [List.length_map] at hj; omega), f2.1, f1.1]
      · show M8.2.1 9 (nmH Q.1).length = _
        rw [l8, mLv, if_pos ⟨rfl, lH⟩]; exact X2
    · refine cn_x c10 (fun j hj => ?_)
      show M8.2.1 10 j = _
      rw [l8, mLv, if_neg (by omega), f2.1, f1.1]
    · have D := hD (m0 (m1 (m2 (m3 (m4 hnt).1).1).1).1).1
      have D' : CDt (zm_sI M8 t 11 (M8.1 t 11 + 1)) t cl Q := by
        refine cdt_x D (fun x j a1 a2 a3 => ?_) (fun x j a1 a2 a3 => g x j (by unfold p8; omega) (by omega) (by omega) (by omega)) (fun x j a1 a2 a3 => g x j (by unfold p8; omega) (by omega) (by omega) (by omega)) (fun j a1 a2 => g t j (by unfold p8; omega) (by omega) (by omega) (by omega)) (fun j _ => g (t + 10) j (by unfold p8; omega) (by omega) (by omega) (by omega)) (Nat.le_refl _)
        rw [mI1, if_neg (by omega), f8.2 x j (by unfold p8; omega), mI1, if_neg (by omega), f6.2 x j (by unfold p8; omega), mI1, if_neg (by omega), f4.2 x j (by unfold p8; omega)]
        show M2.1 x j = _
        rw [f2.2 x j (by unfold p8; omega), f1.2 x j (by unfold p8; omega)]
      refine ⟨fun j x hx => ?_, D'.2⟩
      rcases snoc_get hx with ⟨hj, hx'⟩ | ⟨rfl, rfl⟩
      · exact D'.1 j x hx'
      · refine ⟨?_, ?_⟩
        · rw [mI1, if_neg (by omega), f8.2 (t + 1) _ (by unfold p8; omega), mI1, if_neg (by omega), f6.2 (t + 1) _ (by unfold p8; omega), mI1, if_pos ⟨rfl, rfl⟩]; exact X4
        · rw [mI1, if_neg (by omega), f8.2 (t + 2) _ (by unfold p8; omega), mI1, if_pos ⟨rfl, rfl⟩]; exact X6
