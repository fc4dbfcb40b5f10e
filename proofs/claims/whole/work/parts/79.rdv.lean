/-! what the reference was told so far -/
def rbr (N : zm_Mem) (v k b : Nat) (x : zE × zE × zE) : Prop := ∃ c, N.1 81 b = 1 ∧ N.1 82 b = nI c ∧ N.1 83 b = nI (c + x.1.length) ∧ N.1 84 b = nI (c + x.1.length + x.2.1.length) ∧ N.1 85 b = nI (c + x.1.length + x.2.1.length + x.2.2.length) ∧ iv_sm N c x.1 ∧ iv_sm N (c + x.1.length) x.2.1 ∧ iv_sm N (c + x.1.length + x.2.1.length) x.2.2 ∧ 420 * v ≤ c ∧ c + x.1.length + x.2.1.length + x.2.2.length ≤ k
def rlw (N : zm_Mem) (v k nb s : Nat) (dflt : zE) (L : zB × zE) : Prop := (L.1 = [] ∧ L.2 = dflt ∧ ∃ f, f ≤ 260 ∧ N.1 79 (2 * v + s) = nI f ∧ N.1 80 (2 * v + s) = nI f) ∨
  ∃ f c, 130 * v ≤ f ∧ f + L.1.length + 1 ≤ 130 * v + nb ∧ N.1 79 (2 * v + s) = nI f ∧ N.1 80 (2 * v + s) = nI (f + L.1.length + 1) ∧ (∀ j x, L.1[j]? = some x → rbr N v k (f + j) x) ∧ N.1 81 (f + L.1.length) = 0 ∧ N.1 84 (f + L.1.length) = nI c ∧ N.1 85 (f + L.1.length) = nI (c + L.2.length) ∧ iv_sm N c L.2 ∧ 420 * v ≤ c ∧ c + L.2.length ≤ k
def RDt (N : zm_Mem) (v k nb : Nat) (Q : zQ) : Prop :=
  (∀ j x, Q.1[j]? = some x → N.1 64 (5 * v + j) = nI x.2.1 ∧ N.1 65 (5 * v + j) = nI x.2.2) ∧
  (∀ j x, Q.2.1[j]? = some x → N.1 67 (6 * v + j) = nI x.2.1 ∧ N.1 68 (6 * v + j) = nI x.2.2.1 ∧ N.1 69 (6 * v + j) = nI x.2.2.2.1 ∧ N.1 70 (6 * v + j) = nI x.2.2.2.2) ∧
  (∀ j x, Q.2.2.1[j]? = some x → N.1 72 (6 * v + j) = nI x.1 ∧ ∃ c, N.1 73 (6 * v + j) = nI c ∧ N.1 74 (6 * v + j) = nI (c + x.2.1.length) ∧ N.1 75 (6 * v + j) = nI (c + x.2.1.length + x.2.2.length) ∧ iv_sm N c x.2.1 ∧ iv_sm N (c + x.2.1.length) x.2.2 ∧ 420 * v ≤ c ∧ c + x.2.1.length + x.2.2.length ≤ k) ∧
  (N.1 76 v = nI Q.2.2.2.1.1 ∧ N.1 77 v = nI Q.2.2.2.1.2.1 ∧ N.1 78 v = nI Q.2.2.2.1.2.2) ∧
  rlw N v k nb 0 [(0, 3)] Q.2.2.2.2.1 ∧ rlw N v k nb 1 [(1, 3)] Q.2.2.2.2.2
theorem sm_x {M M' : zm_Mem} {a k lo : Nat} {c : zE} (h : iv_sm M a c) (f : ∀ x j, (x = 86 ∨ x = 87) → lo ≤ j → j < k → M'.1 x j = M.1 x j) (hl : lo ≤ a) (hk : a + c.length ≤ k) : iv_sm M' a c := by
  intro i p hp
  have hi := gx_lt hp
  rw [f 86 (a + i) (Or.inl rfl) (by omega) (by omega), f 87 (a + i) (Or.inr rfl) (by omega) (by omega)]
  exact h i p hp
theorem rbr_x {N N' : zm_Mem} {v k k' b : Nat} {x : zE × zE × zE} (h : rbr N v k b x) (f : ∀ y j, (y = 86 ∨ y = 87) → 420 * v ≤ j → j < k → N'.1 y j = N.1 y j) (g : ∀ y, 81 ≤ y → y ≤ 85 → N'.1 y b = N.1 y b) (hk : k ≤ k') : rbr N' v k' b x := by
  obtain ⟨c, a1, a2, a3, a4, a5, a6, a7, a8, a9, a10⟩ := h
  exact ⟨c, by rw [g 81 (by omega) (by omega)]; exact a1, by rw [g 82 (by omega) (by omega)]; exact a2, by rw [g 83 (by omega) (by omega)]; exact a3, by rw [g 84 (by omega) (by omega)]; exact a4, by rw [g 85 (by omega) (by omega)]; exact a5, sm_x a6 f a9 (by omega), sm_x a7 f (by omega) (by omega), sm_x a8 f (by omega) (by omega), a9, by omega⟩
theorem rlw_x {N N' : zm_Mem} {v k k' nb nb' s : Nat} {d : zE} {L : zB × zE} (h : rlw N v k nb s d L) (f : ∀ y j, (y = 86 ∨ y = 87) → 420 * v ≤ j → j < k → N'.1 y j = N.1 y j) (g : ∀ y j, 81 ≤ y → y ≤ 85 → 130 * v ≤ j → j < 130 * v + nb → N'.1 y j = N.1 y j) (e : ∀ y, y = 79 ∨ y = 80 → N'.1 y (2 * v + s) = N.1 y (2 * v + s)) (hk : k ≤ k') (hb : nb ≤ nb') : rlw N' v k' nb' s d L := by
  rcases h with ⟨a1, a2, p, a3, a4, a5⟩ | ⟨p, c, a1, a2, a3, a4, a5, a6, a7, a8, a9, a10, a11⟩
  · exact Or.inl ⟨a1, a2, p, a3, by rw [e 79 (Or.inl rfl)]; exact a4, by rw [e 80 (Or.inr rfl)]; exact a5⟩
  · refine Or.inr ⟨p, c, a1, by omega, by rw [e 79 (Or.inl rfl)]; exact a3, by rw [e 80 (Or.inr rfl)]; exact a4, fun j x hx => ?_, by rw [g 81 _ (by omega) (by omega) (by omega) (by omega)]; exact a6, by rw [g 84 _ (by omega) (by omega) (by omega) (by omega)]; exact a7, by rw [g 85 _ (by omega) (by omega) (by omega) (by omega)]; exact a8, sm_x a9 f a10 (by omega), a10, by omega⟩
    have hj := gx_lt hx
    exact rbr_x (a5 j x hx) f (fun y y1 y2 => g y _ y1 y2 (by omega) (by omega)) hk
def pD (v k nb h w m x j : Nat) : Prop := ((x = 64 ∨ x = 65) ∧ 5 * v ≤ j ∧ j < 5 * v + h) ∨ (67 ≤ x ∧ x ≤ 70 ∧ 6 * v ≤ j ∧ j < 6 * v + w) ∨ (72 ≤ x ∧ x ≤ 75 ∧ 6 * v ≤ j ∧ j < 6 * v + m) ∨ (76 ≤ x ∧ x ≤ 78 ∧ j = v) ∨ ((x = 79 ∨ x = 80) ∧ 2 * v ≤ j ∧ j < 2 * v + 2) ∨ (81 ≤ x ∧ x ≤ 85 ∧ 130 * v ≤ j ∧ j < 130 * v + nb) ∨ ((x = 86 ∨ x = 87) ∧ 420 * v ≤ j ∧ j < k)
theorem rdt_x {N N' : zm_Mem} {v k k' nb nb' : Nat} {Q : zQ} (h : RDt N v k nb Q) (f : ∀ x j, pD v k nb Q.1.length Q.2.1.length Q.2.2.1.length x j → N'.1 x j = N.1 x j) (hk : k ≤ k') (hb : nb ≤ nb') : RDt N' v k' nb' Q := by
  obtain ⟨a, b, c, d, e, g⟩ := h
  have f8 : ∀ y j, (y = 86 ∨ y = 87) → 420 * v ≤ j → j < k → N'.1 y j = N.1 y j := fun y j h1 h2 h3 => f y j (by unfold pD; omega)
  have g8 : ∀ y j, 81 ≤ y → y ≤ 85 → 130 * v ≤ j → j < 130 * v + nb → N'.1 y j = N.1 y j := fun y j h1 h2 h3 h4 => f y j (by unfold pD; omega)
  refine ⟨fun j x hx => ?_, fun j x hx => ?_, fun j x hx => ?_, ?_, rlw_x e f8 g8 (fun y hy => f y _ (by unfold pD; omega)) hk hb, rlw_x g f8 g8 (fun y hy => f y _ (by unfold pD; omega)) hk hb⟩
  · have hl := gx_lt hx
    rw [f 64 _ (by unfold pD; omega), f 65 _ (by unfold pD; omega)]; exact a j x hx
  · have hl := gx_lt hx
    rw [f 67 _ (by unfold pD; omega), f 68 _ (by unfold pD; omega), f 69 _ (by unfold pD; omega), f 70 _ (by unfold pD; omega)]; exact b j x hx
  · have hl := gx_lt hx
    obtain ⟨c1, p, c2, c3, c4, c5, c6, c7, c8⟩ := c j x hx
    exact ⟨by rw [f 72 _ (by unfold pD; omega)]; exact c1, p, by rw [f 73 _ (by unfold pD; omega)]; exact c2, by rw [f 74 _ (by unfold pD; omega)]; exact c3, by rw [f 75 _ (by unfold pD; omega)]; exact c4, sm_x c5 f8 c7 (by omega), sm_x c6 f8 (by omega) (by omega), c7, by omega⟩
  · rw [f 76 _ (by unfold pD; omega), f 77 _ (by unfold pD; omega), f 78 _ (by unfold pD; omega)]; exact d
/-- what the reference's telling may change -/
def pV (v x j : Nat) : Prop := (x = 52 ∧ ((11 ≤ j ∧ j ≤ 16) ∨ j = 20 ∨ j = 42 ∨ j = 48 ∨ j = 52)) ∨ x = 88 ∨ x = 61 ∨ x = 62 ∨ ((x = 63 ∨ x = 66 ∨ x = 71) ∧ j = v) ∨ pD v (420 * v + 420) 130 5 6 6 x j
def Fv2 (v : Nat) (M M' : zm_Mem) : Prop := M'.2.2 = M.2.2 ∧ (∀ x j, ¬ pV v x j → M'.1 x j = M.1 x j) ∧ ∀ x j, x ≠ 60 → M'.2.1 x j = M.2.1 x j
theorem fv_rfl (v : Nat) (M : zm_Mem) : Fv2 v M M := ⟨rfl, fun _ _ _ => rfl, fun _ _ _ => rfl⟩
theorem fv_tr {v : Nat} {M M1 M2 : zm_Mem} (h : Fv2 v M M1) (h' : Fv2 v M1 M2) : Fv2 v M M2 := ⟨h'.1.trans h.1, fun x j a => (h'.2.1 x j a).trans (h.2.1 x j a), fun x j a => (h'.2.2 x j a).trans (h.2.2 x j a)⟩
theorem fv_fp {v : Nat} {P : Nat → Nat → Prop} {M M' : zm_Mem} (h : Fp P M M') (hP : ∀ x j, P x j → pV v x j) : Fv2 v M M' := ⟨by rw [h.1], fun x j a => h.2 x j (fun z => a (hP x j z)), fun _ _ _ => by rw [h.1]⟩
theorem fv_52 {v : Nat} {M M' : zm_Mem} (h : Fp p52 M M') : Fv2 v M M' := fv_fp h (fun x j z => by unfold p52 at z; unfold pV; omega)
theorem fv_3 {v : Nat} {M M' : zm_Mem} (h : Fp (fun x j => x = 52 ∧ (j = 11 ∨ j = 13 ∨ j = 14)) M M') : Fv2 v M M' := fv_52 (fp_352 h)
theorem fv_sI {v x j : Nat} {M : zm_Mem} {w : Int32} (h : pV v x j) : Fv2 v M (zm_sI M x j w) := fv_fp (P := pV v) (fp_sI h) (fun _ _ z => z)
theorem fv_sL {v j : Nat} {M : zm_Mem} {w : Int64} : Fv2 v M (zm_sL M 60 j w) := ⟨rfl, fun _ _ _ => rfl, fun y i a => by rw [mLv, if_neg (by omega)]⟩
theorem rks_x {M M' : zm_Mem} {tk : Nat → zTk} {e : Nat} (h1 : ∀ x j, 55 ≤ x → x ≤ 57 → M'.1 x j = M.1 x j) (h2 : ∀ j, M'.2.1 58 j = M.2.1 58 j) (H : Rks M tk e) : Rks M' tk e := ⟨H.1, fun i hi => by
  rw [h1 55 i (by omega) (by omega), h1 56 i (by omega) (by omega), h1 57 i (by omega) (by omega), h2]; exact H.2 i hi⟩
theorem rz_x {T : Nat → Nat} {n : Nat} {M M' : zm_Mem} {Z : zZ} (h : RZ T n M Z) (h1 : ∀ x j, 55 ≤ x → x ≤ 57 → M'.1 x j = M.1 x j) (h2 : ∀ j, M'.2.1 58 j = M.2.1 58 j) (h3 : ∀ j, 11 ≤ j → j ≤ 16 → M'.1 52 j = M.1 52 j) : RZ T n M' Z := by
  rcases h with ⟨f, j, rfl, a, b, c, d⟩ | ⟨i, nt, rfl, ⟨a, b, c, d⟩, hi, hn⟩
  · exact Or.inl ⟨f, j, rfl, rks_x h1 h2 a, by rw [h3 13 (by omega) (by omega)]; exact b, c, by rw [h3 14 (by omega) (by omega)]; exact d⟩
  · exact Or.inr ⟨i, nt, rfl, ⟨rks_x h1 h2 a, by rw [h3 11 (by omega) (by omega)]; exact b, by rw [h3 13 (by omega) (by omega)]; exact c, by rw [h3 12 (by omega) (by omega)]; exact d⟩, hi, nR_w hn (h3 15 (by omega) (by omega)) (h3 16 (by omega) (by omega)) (Nat.le_refl _)⟩
theorem rz_sI {T : Nat → Nat} {n x j : Nat} {v : Int32} {M : zm_Mem} {Z : zZ} (h : RZ T n M Z) (hx : 61 ≤ x ∨ (x = 52 ∧ 17 ≤ j)) : RZ T n (zm_sI M x j v) Z :=
  rz_x h (fun y i a b => by rw [mI1, if_neg (by omega)]) (fun _ => rfl) (fun i a b => by rw [mI1, if_neg (by omega)])
theorem rz_sL {T : Nat → Nat} {n j : Nat} {v : Int64} {M : zm_Mem} {Z : zZ} (h : RZ T n M Z) : RZ T n (zm_sL M 60 j v) Z :=
  rz_x h (fun y i a b => rfl) (fun i => by rw [mLv, if_neg (by omega)]) (fun i a b => rfl)
/-- is there a fault? -/
theorem rz_f {T : Nat → Nat} {n : Nat} {N : zm_Mem} {Z : zZ} (h : RZ T n N Z) : (∀ f, Z = .inl f → N.1 52 13 ≠ 0 ∧ ¬ N.1 52 13 ≤ 0) ∧ (∀ p, Z = .inr p → N.1 52 13 = 0) := by
  rcases h with ⟨f, j, rfl, h⟩ | ⟨i, nt, rfl, h, hi, hn⟩
  · exact ⟨fun _ _ => ⟨rf_ne h, rf_le h⟩, fun p z => (by cases z)⟩
  · exact ⟨fun f z => (by cases z), fun _ _ => h.2.2.1⟩
theorem r_zgo {T : Nat → Nat} {n i s : Nat} {N : zm_Mem} {nt : Option (Nat × Nat)} (hs : (tkF T n i).1 = s) (hs0 : s ≠ 0) (h : RZ T n N (.inr (i, nt))) : ∃ N', f_X11_goesOn N = some ((), N') ∧ Fp (fun x j => x = 52 ∧ (j = 11 ∨ j = 13 ∨ j = 14)) N N' ∧ RZ T n N' (zTo (tkF T n) s 0 noB (.inr (i, nt))) := by
  rcases h with ⟨f, j, z, h⟩ | ⟨i', nt', z, h, hi, hn⟩
  · cases z
  · have e1 : i = i' := congrArg Prod.fst (Sum.inr.inj z)
    have e2 : nt = nt' := congrArg Prod.snd (Sum.inr.inj z)
    subst e1; subst e2
    have g := r_goesOn h.1 h.2.1 h.2.2.1 hi
    rw [zTo_at, if_pos hs]
    by_cases h2 : i = 400
    · rw [if_pos h2] at g ⊢
      have ff : Fp (fun x j => x = 52 ∧ (j = 11 ∨ j = 13 ∨ j = 14)) N (zm_sI (zm_sI N 52 13 2) 52 14 (nI (tkF T n i).2.1)) := fp_tr (fp_sI ⟨rfl, Or.inr (Or.inl rfl)⟩) (fp_sI ⟨rfl, Or.inr (Or.inr rfl)⟩)
      exact ⟨_, g, ff, Or.inl ⟨2, i, rfl, rks_fp ff (fun x j a b z => by omega) h.1, by rw [mI1, if_neg (by omega), mI1, if_pos ⟨rfl, rfl⟩]; rfl, by omega, by rw [mI1, if_pos ⟨rfl, rfl⟩]⟩⟩
    · rw [if_neg h2] at g ⊢
      rw [if_neg (show ¬ noB i = true from Bool.false_ne_true)]
      have ff : Fp (fun x j => x = 52 ∧ (j = 11 ∨ j = 13 ∨ j = 14)) N (zm_sI N 52 11 (nI (i + 1))) := fp_sI ⟨rfl, Or.inl rfl⟩
      exact ⟨_, g, ff, Or.inr ⟨i + 1, nt, rfl, ⟨rks_fp ff (fun x j a b z => by omega) h.1, by rw [mI1, if_pos ⟨rfl, rfl⟩], by rw [mI1, if_neg (by omega)]; exact h.2.2.1, by rw [mI1, if_neg (by omega)]; exact h.2.2.2⟩, tkF_lt hi (by omega) h2, nR_w hn (by rw [mI1, if_neg (by omega)]) (by rw [mI1, if_neg (by omega)]) (by omega)⟩⟩
theorem r_zfail {T : Nat → Nat} {n i k : Nat} {N : zm_Mem} {nt : Option (Nat × Nat)} (hk : 1 ≤ k ∧ k ≤ 9) (h : RZ T n N (.inr (i, nt))) : ∃ N', f_X11_fail (nI k) N = some ((), N') ∧ Fp (fun x j => x = 52 ∧ (j = 11 ∨ j = 13 ∨ j = 14)) N N' ∧ RZ T n N' (.inl (k, i)) := by
  rcases h with ⟨f, j, z, h⟩ | ⟨i', nt', z, h, hi, hn⟩
  · cases z
  · have e1 : i = i' := congrArg Prod.fst (Sum.inr.inj z)
    subst e1
    have g := r_fail (k := nI k) h.1 h.2.1 h.2.2.1 hi
    have ff : Fp (fun x j => x = 52 ∧ (j = 11 ∨ j = 13 ∨ j = 14)) N (zm_sI (zm_sI N 52 13 (nI k)) 52 14 (nI (tkF T n i).2.1)) := fp_tr (fp_sI ⟨rfl, Or.inr (Or.inl rfl)⟩) (fp_sI ⟨rfl, Or.inr (Or.inr rfl)⟩)
    exact ⟨_, g, ff, Or.inl ⟨k, i, rfl, rks_fp ff (fun x j a b z => by omega) h.1, by rw [mI1, if_neg (by omega), mI1, if_pos ⟨rfl, rfl⟩], hk, by rw [mI1, if_pos ⟨rfl, rfl⟩]⟩⟩
/-- an expression -/
theorem r_zsum {T : Nat → Nat} {n b k : Nat} {N : zm_Mem} {Z : zZ} (hb : b ≤ 420) (h : RZ T n N Z) (hk : ∀ p, Z = .inr p → N.1 52 48 = nI k ∧ k ≤ b + p.1) : (∀ p, Z = .inr p → ∃ N', f_X11_expression N = some ((), N') ∧ Fp (pR k (b + 420)) N N' ∧ RZ T n N' (zSm (tkF T n) Z) ∧ ∀ j nt', zSm (tkF T n) Z = .inr (j, nt') → N'.1 52 48 = nI (k + (cdX (tkF T n) p.1).length) ∧ iv_sm N' k (cdX (tkF T n) p.1) ∧ j = edX (tkF T n) p.1 ∧ (cdX (tkF T n) p.1).length + p.1 ≤ j ∧ nt' = p.2) := by
  rcases h with ⟨f, j, rfl, h⟩ | ⟨i, nt, rfl, h, hi, hn⟩
  · exact fun p z => (by cases z)
  · rintro p z
    have e0 : (i, nt) = p := Sum.inr.inj z
    subst e0
    obtain ⟨k1, k2⟩ := hk (i, nt) rfl
    have h400 : i ≤ 400 := Nat.le_trans hi h.1.1
    obtain ⟨N', e, f, r⟩ := r_expr hb h.1 h.2.1 h.2.2.1 h.2.2.2 k1 hi k2
    refine ⟨N', e, f, ?_⟩
    have nn : ∀ i', i ≤ i' → nR T n N' nt i' := fun i' hi' => nR_w hn (f.2 52 15 (by unfold pR; omega)) (f.2 52 16 (by unfold pR; omega)) hi'
    rcases r with ⟨q, j, r1, r2⟩ | ⟨j, c, r1, r2, r3, r4, r5, r6, r7, r8⟩
    · have ez : zSm (tkF T n) (.inr (i, nt)) = .inl (q, j) := by
        show Sum.elim _ _ (pX (tkF T n) 3000 0 0 i) = _
        rw [r1]; rfl
      rw [ez]
      exact ⟨Or.inl ⟨q, j, rfl, r2⟩, fun j' nt' z => (by cases z)⟩
    · have ec : cdX (tkF T n) i = c := by unfold cdX; rw [r1]; rfl
      have ed : edX (tkF T n) i = j := by unfold edX; rw [r1]; rfl
      have ez : zSm (tkF T n) (.inr (i, nt)) = .inr (j, nt) := by
        show Sum.elim _ _ (pX (tkF T n) 3000 0 0 i) = _
        rw [r1]; rfl
      obtain ⟨p1, p2, p3, p4, _, _⟩ := pX_pr 3000 0 0 i j c (by omega) h400 r1
      rw [ez]
      refine ⟨Or.inr ⟨j, nt, rfl, ⟨r2, r3, r4, r5⟩, r7, nn j (by omega)⟩, fun j' nt' z => ?_⟩
      have z1 : j = j' := congrArg Prod.fst (Sum.inr.inj z)
      have z2 : nt = nt' := congrArg Prod.snd (Sum.inr.inj z)
      subst z1; subst z2
      show _ ∧ iv_sm N' k (cdX (tkF T n) i) ∧ j = edX (tkF T n) i ∧ (cdX (tkF T n) i).length + i ≤ j ∧ nt = nt
      rw [ec, ed]
      exact ⟨r6, r8, rfl, p3, rfl⟩
