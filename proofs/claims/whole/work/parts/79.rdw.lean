/-! the reference's statements -/
def RLs (T : Nat → Nat) (n : Nat) (N : zm_Mem) (v k nb i : Nat) (nt : Option (Nat × Nat)) (Q : zQ) (en : List (Nat × Nat × List Nat)) : Prop := RZ T n N (.inr (i, nt)) ∧ (N.1 52 19 = nI v ∧ v ≤ 1) ∧ (N.1 52 48 = nI k ∧ 420 * v ≤ k ∧ k ≤ 420 * v + i) ∧ (N.1 52 42 = nI (130 * v + nb) ∧ 4 * nb ≤ i) ∧ (N.1 63 v = nI Q.1.length ∧ Q.1.length ≤ 5) ∧ (N.1 66 v = nI Q.2.1.length ∧ Q.2.1.length ≤ 6) ∧ (N.1 71 v = nI Q.2.2.1.length ∧ Q.2.2.1.length ≤ 6) ∧ RNm N en ∧ enQ en (nmH Q.1) (nmW Q.2.1) ∧ en.length = Q.1.length + Q.2.1.length ∧ (nt = none → RDt N v k nb Q)
theorem rnm_x {N N' : zm_Mem} {en : List (Nat × Nat × List Nat)} (h : RNm N en) (h1 : N'.1 52 20 = N.1 52 20) (h2 : ∀ x j, x = 61 ∨ x = 62 → N'.1 x j = N.1 x j) (h3 : ∀ j, N'.2.1 60 j = N.2.1 60 j) : RNm N' en := ⟨by rw [h1]; exact h.1, h.2.1, fun j x hx => by
  rw [h3, h2 61 j (Or.inl rfl), h2 62 j (Or.inr rfl)]; exact h.2.2 j x hx⟩
def pN (x j : Nat) : Prop := (x = 52 ∧ (j = 11 ∨ j = 13 ∨ j = 14 ∨ j = 20)) ∨ x = 61 ∨ x = 62
/-- the end of a house or a work: its name is kept -/
theorem r_zends {T : Nat → Nat} {n ka io : Nat} {N : zm_Mem} {Z : zZ} {x : Int32} {en : List (Nat × Nat × List Nat)} (h : RZ T n N Z) (hE : RNm N en) (hl : en.length < 11) (hx : ∀ p, Z = .inr p → ∃ q, q ≤ tkE T n ∧ x = nI q) (hk : ka ≤ 1) (ho : io ≤ 6) : ∃ N', f_X11_ends x (nI ka) (nI io) N = some ((), N') ∧ (N'.2.2 = N.2.2 ∧ (∀ y j, ¬ pN y j → N'.1 y j = N.1 y j) ∧ ∀ y j, y ≠ 60 → N'.2.1 y j = N.2.1 y j) ∧ RZ T n N' (zTo (tkF T n) 59 0 noB Z) ∧ ∀ p, zTo (tkF T n) 59 0 noB Z = .inr p → ∀ q, q ≤ tkE T n → x = nI q → RNm N' (en ++ [(ka, io, (tkF T n q).2.2.1)]) := by
  have r4 := fun s h1 h2 => (rs_4 s h1 h2).1
  obtain ⟨N2, e2, f2, z2⟩ := r_zmust (rs := 4) (s := 59) (by omega) (by omega) r4 h
  have e2' : f_X11_must 4 N = some ((), N2) := e2
  have E2 : RNm N2 en := rnm_fp hE f2 (by omega) (fun j => by omega) (fun j => by omega)
  cases hZ : zTo (tkF T n) 59 0 noB Z with
  | inl f =>
    rw [hZ] at z2
    refine ⟨N2, ?_, ⟨by rw [f2.1], fun y j a => f2.2 y j (fun z => a (by unfold pN; omega)), fun y j _ => by rw [f2.1]⟩, z2, fun p z => (by cases z)⟩
    unfold f_X11_ends
    rw [e2', zb2_some, if_neg ((rz_f z2).1 f rfl).2]
  | inr p =>
    rw [hZ] at z2
    obtain ⟨i0, n0, w0, _, _, _, _, _⟩ := zTo_inr (i := p.1) (nt := p.2) hZ
    obtain ⟨q, hq, xq⟩ := hx _ w0
    have he : tkE T n ≤ 400 := by
      rcases z2 with ⟨_, _, z, _⟩ | ⟨_, _, _, a, _, _⟩
      · cases z
      · exact a.1.1
    have R2 : Rks N2 (tkF T n) (tkE T n) := by
      rcases z2 with ⟨_, _, z, _⟩ | ⟨_, _, _, a, _, _⟩
      · cases z
      · exact a.1
    have f13 := (rz_f z2).2 p rfl
    have t20 := E2.1
    have z3 : RZ T n (zm_sI (zm_sI (zm_sI (zm_sL N2 60 en.length (N2.2.1 58 q)) 61 en.length (nI ka)) 62 en.length (nI io)) 52 20 (nI (en.length + 1))) (.inr p) := rz_sI (rz_sI (rz_sI (rz_sL z2) (by omega)) (by omega)) (by omega)
    have ok := tkF_ok (T := T) (n := n) (i := q)
    refine ⟨_, ?_, ⟨by show N2.2.2 = _; rw [f2.1], fun y j a => ?_, fun y j a => ?_⟩, z3, fun p' _ q' hq' xq' => ?_⟩
    · unfold f_X11_ends
      simp only [zv_eq]
      have a1 : (zm_sL N2 60 en.length (N2.2.1 58 q)).1 52 20 = nI en.length := t20
      have a2 : (zm_sI (zm_sL N2 60 en.length (N2.2.1 58 q)) 61 en.length (nI ka)).1 52 20 = nI en.length := by rw [mI1, if_neg (by omega)]; exact t20
      have a3 : (zm_sI (zm_sI (zm_sL N2 60 en.length (N2.2.1 58 q)) 61 en.length (nI ka)) 62 en.length (nI io)).1 52 20 = nI en.length := by rw [mI1, if_neg (by omega)]; exact a2
      rw [e2', zb2_some, f13, if_pos (by decide), xq, zm_ck_t (zm_in_nI (by omega) (by omega)), t20, zm_ck_t (zm_in_nI (by omega) (by omega)), nI_clamp (by omega), nI_clamp (by omega), a1, zm_ck_t (zm_in_nI (by omega) (by omega)), nI_clamp (by omega), a2, zm_ck_t (zm_in_nI (by omega) (by omega)), nI_clamp (by omega), a3, nI_k1]
    · unfold pN at a
      rw [mI1, if_neg (by omega), mI1, if_neg (by omega), mI1, if_neg (by omega)]
      exact f2.2 y j (by omega)
    · show (zm_sL N2 60 en.length (N2.2.1 58 q)).2.1 y j = _
      rw [mLv, if_neg (by omega), f2.1]
    · have eq : q' = q := (nI_eq (by omega) (by omega)).1 (xq'.symm.trans xq)
      subst eq
      refine ⟨?_, by rw [List.length_append]; show en.length + 1 ≤ 11; omega, fun j y hy => ?_⟩
      · rw [mI1, if_pos ⟨rfl, rfl⟩, List.length_append]; rfl
      · rcases snoc_get hy with ⟨hj, hy'⟩ | ⟨rfl, rfl⟩
        · obtain ⟨a, b, c, d⟩ := E2.2.2 j y hy'
          refine ⟨?_, ?_, ?_, d⟩
          · show (zm_sL N2 60 en.length (N2.2.1 58 q')).2.1 60 j = _
            rw [mLv, if_neg (by omega)]; exact a
          · rw [mI1, if_neg (by omega), mI1, if_neg (by omega), mI1, if_neg (by omega)]; exact b
          · rw [mI1, if_neg (by omega), mI1, if_neg (by omega), mI1, if_neg (by omega)]; exact c
        · refine ⟨?_, ?_, ?_, hk, ho, ok.2.1, ok.2.2.1⟩
          · show (zm_sL N2 60 en.length (N2.2.1 58 q')).2.1 60 en.length = _
            rw [mLv, if_pos ⟨rfl, rfl⟩]; exact (R2.2 q' hq').2.2.2
          · rw [mI1, if_neg (by omega), mI1, if_neg (by omega), mI1, if_pos ⟨rfl, rfl⟩]
          · rw [mI1, if_neg (by omega), mI1, if_pos ⟨rfl, rfl⟩]
theorem enQ_h {en : List (Nat × Nat × List Nat)} {hN wN : List (List Nat)} {L : List Nat} (h : enQ en hN wN) : enQ (en ++ [(0, hN.length, L)]) (hN ++ [L]) wN := by
  refine ⟨fun x hx => ?_, fun j K hK => ?_, fun j K hK => List.mem_append_left _ (h.2.2 j K hK)⟩
  · rcases List.mem_append.1 hx with hx | hx
    · rcases h.1 x hx with ⟨a, b⟩ | ⟨a, b⟩
      · exact Or.inl ⟨a, by rw [List.getElem?_append_left (gx_lt b)]; exact b⟩
      · exact Or.inr ⟨a, b⟩
    · rw [List.mem_singleton.1 hx]
      exact Or.inl ⟨rfl, by rw [List.getElem?_append_right (Nat.le_refl _), Nat.sub_self]; rfl⟩
  · rcases snoc_get hK with ⟨_, hK'⟩ | ⟨rfl, rfl⟩
    · exact List.mem_append_left _ (h.2.1 j K hK')
    · exact List.mem_append_right _ (List.mem_singleton.2 rfl)
theorem enQ_w {en : List (Nat × Nat × List Nat)} {hN wN : List (List Nat)} {L : List Nat} (h : enQ en hN wN) : enQ (en ++ [(1, wN.length, L)]) hN (wN ++ [L]) := by
  refine ⟨fun x hx => ?_, fun j K hK => List.mem_append_left _ (h.2.1 j K hK), fun j K hK => ?_⟩
  · rcases List.mem_append.1 hx with hx | hx
    · rcases h.1 x hx with ⟨a, b⟩ | ⟨a, b⟩
      · exact Or.inl ⟨a, b⟩
      · exact Or.inr ⟨a, by rw [List.getElem?_append_left (gx_lt b)]; exact b⟩
    · rw [List.mem_singleton.1 hx]
      exact Or.inr ⟨rfl, by rw [List.getElem?_append_right (Nat.le_refl _), Nat.sub_self]; rfl⟩
  · rcases snoc_get hK with ⟨_, hK'⟩ | ⟨rfl, rfl⟩
    · exact List.mem_append_left _ (h.2.2 j K hK')
    · exact List.mem_append_right _ (List.mem_singleton.2 rfl)
theorem i5v {v h : Nat} (c : Nat) : nI c * nI v + nI h = nI (c * v + h) := by rw [pk_mul, nI_add]
/-- a house -/
theorem r_house {T : Nat → Nat} {n v k nb i : Nat} {N : zm_Mem} {nt : Option (Nat × Nat)} {Q : zQ} {en : List (Nat × Nat × List Nat)} (hn0 : n ≤ 2000) (h : RLs T n N v k nb i nt Q en) (hs : (tkF T n i).1 = 256) (hH : Q.1.length < 5) : ∃ N', f_X11_tellOne N = some ((), N') ∧ Fv2 v N N' ∧ RZ T n N' (zHo T n Q (.inr (i, nt))) ∧ ∀ i' nt', zHo T n Q (.inr (i, nt)) = .inr (i', nt') → RLs T n N' v k nb i' nt' (qHo T n Q i) (en ++ [(0, (nmH Q.1).length, (tkF T n (i + 1)).2.2.1)]) := by
  obtain ⟨hZ, ⟨h19, hv⟩, ⟨h48, k1, k2⟩, ⟨h42, hb⟩, ⟨h63, b63⟩, ⟨h66, b66⟩, ⟨h71, b71⟩, hE, hQ, hel, hD⟩ := h
  have hI : RI T n N i ∧ i ≤ tkE T n := by
    rcases hZ with ⟨_, _, z, _⟩ | ⟨i', nt', z, a, b, _⟩
    · cases z
    · rw [show i = i' from congrArg Prod.fst (Sum.inr.inj z)]; exact ⟨a, b⟩
  have he := hI.1.1.1
  have x9 : N.1 55 i = nI 20 := by rw [(hI.1.1.2 i hI.2).1, hs]; rfl
  obtain ⟨N1, e1, f1, z1⟩ := r_zgo hs (by omega) hZ
  have room : f_X11_roomFor (nI Q.1.length) 5 N = some ((), N1) := by
    unfold f_X11_roomFor f_X11_roomFor_b10
    rw [if_neg (show ¬ nI Q.1.length = (5 : Int32) from fun z => by have := (nI_eq (b := 5) (by omega) (by omega)).1 z; omega), hI.1.2.2.1, if_pos rfl, e1, zb2_some]
  have U : f_X11_tellOne N = if N1.1 52 13 = 0 then (zm_b2 (f_X11_tellHouse N1) fun _ M78 => some ((), M78)) else some ((), N1) := by
    unfold f_X11_tellOne
    simp only [zv_eq]
    rw [hI.1.2.1, zm_ck_t (zm_in_nI (by omega) (by omega)), nI_clamp (by omega), x9, if_pos (by decide), h19, zm_ck_t (zm_in_nI (by omega) (by omega)), nI_clamp (by omega), h63, room, zb2_some]
  cases hZ1 : zTo (tkF T n) 256 0 noB (.inr (i, nt)) with
  | inl f =>
    rw [hZ1] at z1
    have ez : zHo T n Q (.inr (i, nt)) = .inl f := by unfold zHo; rw [hZ1]; rfl
    rw [ez]
    exact ⟨N1, by rw [U, if_neg ((rz_f z1).1 f rfl).1], fv_3 f1, z1, fun i' nt' z => by cases z⟩
  | inr p =>
    obtain ⟨i0, n0, w0, _, _, ei, _, m0⟩ := zTo_inr (i := p.1) (nt := p.2) hZ1
    have ei0 : i = i0 := congrArg Prod.fst (Sum.inr.inj w0)
    have en0 : nt = n0 := congrArg Prod.snd (Sum.inr.inj w0)
    subst ei0; subst en0
    have E1 : RNm N1 en := rnm_fp hE f1 (by omega) (fun j => by omega) (fun j => by omega)
    have z1' := z1
    rw [hZ1] at z1'
    have f13 := (rz_f z1').2 p rfl
    obtain ⟨x2, N2, e2, f2, z2, v2⟩ := r_znamed hn0 z1 E1 hQ
    have X2 := v2 p.1 p.2 hZ1
    obtain ⟨x3, N3, e3, f3, z3, v3⟩ := r_zbound (lo := 0) (hi := 9) hn0 z2 (by omega) (by omega)
    have z4 := rz_sI (x := 64) (j := 5 * v + Q.1.length) (v := x3) z3 (by omega)
    obtain ⟨x5, N5, e5, f5, z5, v5⟩ := r_zbound (lo := 0) (hi := 9) hn0 z4 (by omega) (by omega)
    have z6 := rz_sI (x := 65) (j := 5 * v + Q.1.length) (v := x5) z5 (by omega)
    have E6 : RNm (zm_sI N5 65 (5 * v + Q.1.length) x5) en := by
      have a1 := rnm_fp E1 f2 (by unfold p52; omega) (fun j => by unfold p52; omega) (fun j => by unfold p52; omega)
      have a2 := rnm_fp a1 f3 (by unfold p52; omega) (fun j => by unfold p52; omega) (fun j => by unfold p52; omega)
      have a3 : RNm (zm_sI N3 64 (5 * v + Q.1.length) x3) en := rnm_x a2 (by rw [mI1, if_neg (by omega)]) (fun x j hx => by rw [mI1, if_neg (by omega)]) (fun _ => rfl)
      have a4 := rnm_fp a3 f5 (by unfold p52; omega) (fun j => by unfold p52; omega) (fun j => by unfold p52; omega)
      exact rnm_x a4 (by rw [mI1, if_neg (by omega)]) (fun x j hx => by rw [mI1, if_neg (by omega)]) (fun _ => rfl)
    have pe : p.1 ≤ tkE T n := by
      rcases z1' with ⟨_, _, z, _⟩ | ⟨i', nt', z, a, b, _⟩
      · cases z
      · rw [show p = (i', nt') from Sum.inr.inj z]; exact b
    obtain ⟨N7, e7, f7, z7, v7⟩ := r_zends (x := x2) (ka := 0) (io := Q.1.length) z6 E6 (by omega) (fun _ _ => ⟨p.1, pe, X2⟩) (by omega) (by omega)
    have C : ∀ x j, ¬ p52 x j → ¬ pN x j → x ≠ 64 → x ≠ 65 → N7.1 x j = N.1 x j := fun x j a b c d => by
      rw [f7.2.1 x j b, mI1, if_neg (by omega), f5.2 x j a, mI1, if_neg (by omega), f3.2 x j a, f2.2 x j a, f1.2 x j (by unfold p52 at a; omega)]
    have B19 : ∀ K : zm_Mem, K.1 52 19 = N.1 52 19 → K.1 52 19 = nI v := fun K hK => hK.trans h19
    have c1 : N1.1 52 19 = nI v := by rw [f1.2 52 19 (by omega)]; exact h19
    have c163 : N1.1 63 v = nI Q.1.length := by rw [f1.2 63 v (by omega)]; exact h63
    have c6 : (zm_sI N5 65 (5 * v + Q.1.length) x5).1 52 19 = nI v := by
      rw [mI1, if_neg (by omega), f5.2 52 19 (by unfold p52; omega), mI1, if_neg (by omega), f3.2 52 19 (by unfold p52; omega), f2.2 52 19 (by unfold p52; omega)]; exact c1
    have c663 : (zm_sI N5 65 (5 * v + Q.1.length) x5).1 63 v = nI Q.1.length := by
      rw [mI1, if_neg (by omega), f5.2 63 v (by unfold p52; omega), mI1, if_neg (by omega), f3.2 63 v (by unfold p52; omega), f2.2 63 v (by unfold p52; omega)]; exact c163
    have c7 : N7.1 52 19 = nI v := by rw [f7.2.1 52 19 (by unfold pN; omega)]; exact c6
    have c763 : N7.1 63 v = nI Q.1.length := by rw [f7.2.1 63 v (by unfold pN; omega)]; exact c663
    have W : f_X11_tellOne N = if N7.1 52 13 = 0 then some ((), zm_sI N7 63 v (nI (Q.1.length + 1))) else some ((), N7) := by
      rw [U, if_pos f13]
      unfold f_X11_tellHouse
      simp only [zv_eq]
      have e3' : f_X11_bounded 0 9 N2 = some (x3, N3) := e3
      have e5' : f_X11_bounded 0 9 (zm_sI N3 64 (5 * v + Q.1.length) x3) = some (x5, N5) := e5
      have e7' : f_X11_ends x2 0 (nI Q.1.length) (zm_sI N5 65 (5 * v + Q.1.length) x5) = some ((), N7) := e7
      rw [c1, zm_ck_t (zm_in_nI (by omega) (by omega)), nI_clamp (by omega), c163, show (5 : Int32) * nI v + nI Q.1.length = nI (5 * v + Q.1.length) from i5v 5, e2, zb2_some, e3', zb2_some, zm_ck_t (zm_in_nI (by omega) (by omega)), nI_clamp (by omega), e5', zb2_some, zm_ck_t (zm_in_nI (by omega) (by omega)), c6, zm_ck_t (zm_in_nI (by omega) (by omega)), nI_clamp (by omega), c663, e7', zb2_some, c7, zm_ck_t (zm_in_nI (by omega) (by omega)), zm_ck_t (zm_in_nI (by omega) (by omega)), nI_clamp (by omega), c763, nI_k1]
      split <;> rfl
    have FV : Fv2 v N N7 := fv_tr (fv_3 f1) (fv_tr (fv_52 f2) (fv_tr (fv_52 f3) (fv_tr (fv_sI (by unfold pV pD; omega)) (fv_tr (fv_52 f5) (fv_tr (fv_sI (by unfold pV pD; omega)) ⟨f7.1, fun x j a => f7.2.1 x j (fun z => a (by unfold pN at z; unfold pV; omega)), f7.2.2⟩)))))
    cases hZ7 : zHo T n Q (.inr (i, nt)) with
    | inl f =>
      have z7' : RZ T n N7 (zHo T n Q (.inr (i, nt))) := z7
      rw [hZ7] at z7'
      exact ⟨N7, by rw [W, if_neg ((rz_f z7').1 f rfl).1], FV, z7', fun i' nt' z => by cases z⟩
    | inr r =>
      have z7' : RZ T n N7 (zHo T n Q (.inr (i, nt))) := z7
      rw [hZ7] at z7'
      have z8 := rz_sI (x := 63) (j := v) (v := nI (Q.1.length + 1)) z7' (by omega)
      refine ⟨zm_sI N7 63 v (nI (Q.1.length + 1)), by rw [W, if_pos ((rz_f z7').2 r rfl)], fv_tr FV (fv_sI (by unfold pV; omega)), z8, fun i' nt' z => ?_⟩
      have er : r = (i', nt') := Sum.inr.inj z
      have hz : zHo T n Q (.inr (i, nt)) = .inr (i', nt') := hZ7.trans z
      have v7' := v7 r hZ7 p.1 pe X2
      rw [er] at z8
      unfold zHo at hz
      obtain ⟨i4, n4, w4, s4, _, rfl, _, m4⟩ := zTo_inr hz
      obtain ⟨i3, n3, w3, s3, _, rfl, _, m3⟩ := zTo_inr w4
      obtain ⟨i2, n2, w2, s2, _, rfl, _, m2⟩ := zTo_inr w3
      obtain ⟨i1', n1, w1, s1, _, rfl, _, m1⟩ := zTo_inr w2
      have q1 : i1' = i + 1 := by
        have := hZ1.symm.trans w1
        rw [← show p.1 = i1' from congrArg Prod.fst (Sum.inr.inj this)]; exact ei
      have q2 : p.2 = n1 := congrArg Prod.snd (Sum.inr.inj (hZ1.symm.trans w1))
      subst q1
      have lq : (qHo T n Q i).1.length = Q.1.length + 1 := by unfold qHo; rw [List.length_append]; rfl
      have g : ∀ x j, ¬ p52 x j → ¬ pN x j → x ≠ 64 → x ≠ 65 → ¬ (x = 63 ∧ j = v) → (zm_sI N7 63 v (nI (Q.1.length + 1))).1 x j = N.1 x j := fun x j a b c d e => by rw [mI1, if_neg e]; exact C x j a b c d
      have lH := len_nmH Q.1
      refine ⟨z8, ⟨by rw [mI1, if_neg (by omega)]; exact c7, hv⟩, ⟨by rw [g 52 48 (by unfold p52; omega) (by unfold pN; omega) (by omega) (by omega) (by omega)]; exact h48, k1, by omega⟩, ⟨by rw [g 52 42 (by unfold p52; omega) (by unfold pN; omega) (by omega) (by omega) (by omega)]; exact h42, by omega⟩, ⟨by rw [mI1, if_pos ⟨rfl, rfl⟩, lq], by rw [lq]; omega⟩, ⟨by rw [g 66 v (by unfold p52; omega) (by unfold pN; omega) (by omega) (by omega) (by omega)]; exact h66, b66⟩, ⟨by rw [g 71 v (by unfold p52; omega) (by unfold pN; omega) (by omega) (by omega) (by omega)]; exact h71, b71⟩, ?_, ?_, ?_, fun hnt => ?_⟩
      · rw [ei, ← lH] at v7'
        exact rnm_x v7' (by rw [mI1, if_neg (by omega)]) (fun x j hx => by rw [mI1, if_neg (by omega)]) (fun _ => rfl)
      · show enQ _ (nmH (Q.1 ++ [_])) _
        unfold nmH
        rw [List.map_append]
        exact enQ_h hQ
      · rw [List.length_append, lq]
        show en.length + 1 = _
        rw [hel]
        show _ = Q.1.length + 1 + Q.2.1.length
        omega
      · have d1 := m1 (m2 (m3 (m4 hnt).1).1).1
        rw [← q2] at d1
        have D := hD (m0 d1.1).1
        have X3 := v3 (i + 1 + 1) _ w2 s2
        have X5 := v5 (i + 1 + 1 + 1) _ w3 s3
        have D' : RDt (zm_sI N7 63 v (nI (Q.1.length + 1))) v k nb Q := by
          refine rdt_x D (fun x j hp => ?_) (Nat.le_refl _) (Nat.le_refl _)
          by_cases h64 : x = 64 ∨ x = 65
          · have hj : j < 5 * v + Q.1.length := by unfold pD at hp; omega
            rw [mI1, if_neg (by omega), f7.2.1 x j (by unfold pN; omega), mI1, if_neg (by omega), f5.2 x j (by unfold p52; omega), mI1, if_neg (by omega), f3.2 x j (by unfold p52; omega), f2.2 x j (by unfold p52; omega), f1.2 x j (by omega)]
          · unfold pD at hp
            exact g x j (by unfold p52; omega) (by unfold pN; omega) (by omega) (by omega) (by omega)
        refine ⟨fun j x hx => ?_, D'.2⟩
        rcases snoc_get hx with ⟨hj, hx'⟩ | ⟨rfl, rfl⟩
        · exact D'.1 j x hx'
        · refine ⟨?_, ?_⟩
          · rw [mI1, if_neg (by omega), f7.2.1 64 _ (by unfold pN; omega), mI1, if_neg (by omega), f5.2 64 _ (by unfold p52; omega), mI1, if_pos ⟨rfl, rfl⟩]; exact X3
          · rw [mI1, if_neg (by omega), f7.2.1 65 _ (by unfold pN; omega), mI1, if_pos ⟨rfl, rfl⟩]; exact X5
