/-! the reference's steps over a reader's state -/
def RI (T : Nat → Nat) (n : Nat) (N : zm_Mem) (i : Nat) : Prop := Rks N (tkF T n) (tkE T n) ∧ N.1 52 11 = nI i ∧ N.1 52 13 = 0 ∧ N.1 52 12 = 0
def nR (T : Nat → Nat) (n : Nat) (N : zm_Mem) (nt : Option (Nat × Nat)) (i : Nat) : Prop := (nt = none → N.1 52 15 = 0) ∧ ∀ c p, nt = some (c, p) → N.1 52 15 = nI c ∧ N.1 52 16 = nI (tkF T n p).2.1 ∧ (3 ≤ c ∧ c ≤ 5) ∧ p < i
def RZ (T : Nat → Nat) (n : Nat) (N : zm_Mem) (Z : zZ) : Prop := (∃ f j, Z = .inl (f, j) ∧ RF N (tkF T n) (tkE T n) j f) ∨ (∃ i nt, Z = .inr (i, nt) ∧ RI T n N i ∧ i ≤ tkE T n ∧ nR T n N nt i)
def p52 (x j : Nat) : Prop := x = 52 ∧ 11 ≤ j ∧ j ≤ 16
theorem nR_w {T : Nat → Nat} {n i i' : Nat} {M M' : zm_Mem} {nt : Option (Nat × Nat)} (h : nR T n M nt i) (h7 : M'.1 52 15 = M.1 52 15) (h8 : M'.1 52 16 = M.1 52 16) (hi : i ≤ i') : nR T n M' nt i' := ⟨fun z => by rw [h7]; exact h.1 z, fun c p z => by
  obtain ⟨a, b, d, e⟩ := h.2 c p z
  exact ⟨by rw [h7]; exact a, by rw [h8]; exact b, d, by omega⟩⟩
theorem ri_fp {T : Nat → Nat} {n i : Nat} {P : Nat → Nat → Prop} {M M' : zm_Mem} (h : RI T n M i) (f : Fp P M M') (h1 : ∀ x j, 55 ≤ x → x ≤ 57 → ¬ P x j) (h11 : ¬ P 52 11) (h13 : ¬ P 52 13) (h12 : ¬ P 52 12) : RI T n M' i := ⟨rks_fp f h1 h.1, by rw [f.2 52 11 h11]; exact h.2.1, by rw [f.2 52 13 h13]; exact h.2.2.1, by rw [f.2 52 12 h12]; exact h.2.2.2⟩
/-- a token of the sort that must stand there -/
theorem r_mustI {T : Nat → Nat} {n i s rs : Nat} {N : zm_Mem} (h : RI T n N i) (hi : i ≤ tkE T n) (hrs : rs < 1000) (hs0 : s ≠ 0) (hb : rsF (tkF T n i).1 = rs ↔ (tkF T n i).1 = s) : ∃ N', f_X11_must (nI rs) N = some ((), N') ∧ Fp (fun x j => x = 52 ∧ (j = 11 ∨ j = 13 ∨ j = 14)) N N' ∧ ((tkF T n i).1 ≠ s → RF N' (tkF T n) (tkE T n) i 1) ∧ ((tkF T n i).1 = s → i = 400 → RF N' (tkF T n) (tkE T n) i 2) ∧ ((tkF T n i).1 = s → i ≠ 400 → RI T n N' (i + 1) ∧ i + 1 ≤ tkE T n) := by
  have b1 := (okS_rs _ cs_num (tkF_ok (T := T) (n := n) (i := i)).1).1
  have e := r_must h.1 h.2.1 h.2.2.1 hi hrs b1
  have ff : ∀ k : Int32, Fp (fun x j => x = 52 ∧ (j = 11 ∨ j = 13 ∨ j = 14)) N (zm_sI (zm_sI N 52 13 k) 52 14 (nI (tkF T n i).2.1)) := fun k => fp_tr (fp_sI ⟨rfl, Or.inr (Or.inl rfl)⟩) (fp_sI ⟨rfl, Or.inr (Or.inr rfl)⟩)
  have rf : ∀ k, 1 ≤ k ∧ k ≤ 9 → RF (zm_sI (zm_sI N 52 13 (nI k)) 52 14 (nI (tkF T n i).2.1)) (tkF T n) (tkE T n) i k := fun k hk => ⟨rks_fp (ff _) (fun x j a b z => by omega) h.1, by rw [mI1, if_neg (by omega), mI1, if_pos ⟨rfl, rfl⟩], hk, by rw [mI1, if_pos ⟨rfl, rfl⟩]⟩
  by_cases h1 : (tkF T n i).1 = s
  · rw [if_pos (hb.2 h1)] at e
    by_cases h2 : i = 400
    · rw [if_pos h2] at e
      exact ⟨_, e, ff _, fun z => absurd h1 z, fun _ _ => rf 2 (by omega), fun _ z => absurd h2 z⟩
    · rw [if_neg h2] at e
      have g : Fp (fun x j => x = 52 ∧ (j = 11 ∨ j = 13 ∨ j = 14)) N (zm_sI N 52 11 (nI (i + 1))) := fp_sI ⟨rfl, Or.inl rfl⟩
      refine ⟨_, e, g, fun z => absurd h1 z, fun _ z => absurd z h2, fun _ _ => ⟨⟨rks_fp g (fun x j a b z => by omega) h.1, by rw [mI1, if_pos ⟨rfl, rfl⟩], ?_, ?_⟩, tkF_lt hi (by omega) h2⟩⟩
      · rw [mI1, if_neg (by omega)]; exact h.2.2.1
      · rw [mI1, if_neg (by omega)]; exact h.2.2.2
  · rw [if_neg (fun z => h1 (hb.1 z))] at e
    exact ⟨_, e, ff _, fun _ => rf 1 (by omega), fun z => absurd z h1, fun z => absurd z h1⟩
theorem fp_352 {M M' : zm_Mem} (h : Fp (fun x j => x = 52 ∧ (j = 11 ∨ j = 13 ∨ j = 14)) M M') : Fp p52 M M' := fp_mono (fun x j z => by unfold p52; omega) h
theorem zTo_at {tk : Nat → zTk} {s c : Nat} {bad : Nat → Bool} {i : Nat} {nt : Option (Nat × Nat)} : zTo tk s c bad (.inr (i, nt)) = if (tk i).1 = s then (if i = 400 then .inl (2, i) else .inr (i + 1, if bad i = true then aN nt c i else nt)) else .inl (1, i) := rfl
theorem r_zmust {T : Nat → Nat} {n s rs : Nat} {N : zm_Mem} {Z : zZ} (hrs : rs < 1000) (hs0 : s ≠ 0) (hb : ∀ s', s' < 276 → okS s' = true → (rsF s' = rs ↔ s' = s)) (h : RZ T n N Z) : ∃ N', f_X11_must (nI rs) N = some ((), N') ∧ Fp (fun x j => x = 52 ∧ (j = 11 ∨ j = 13 ∨ j = 14)) N N' ∧ RZ T n N' (zTo (tkF T n) s 0 noB Z) := by
  rcases h with ⟨f, j, rfl, h⟩ | ⟨i, nt, rfl, h, hi, hn⟩
  · exact ⟨N, r_mustF (rf_ne h) (rf_le h), fp_rfl _ _, Or.inl ⟨f, j, rfl, h⟩⟩
  · obtain ⟨N', e, g, a, b, c⟩ := r_mustI h hi hrs hs0 (hb _ cs_num (tkF_ok (T := T) (n := n) (i := i)).1)
    refine ⟨N', e, g, ?_⟩
    rw [zTo_at]
    by_cases h1 : (tkF T n i).1 = s
    · rw [if_pos h1]
      by_cases h2 : i = 400
      · rw [if_pos h2]; exact Or.inl ⟨2, i, rfl, b h1 h2⟩
      · rw [if_neg h2, if_neg (show ¬ noB i = true from Bool.false_ne_true)]
        obtain ⟨c1, c2⟩ := c h1 h2
        exact Or.inr ⟨i + 1, nt, rfl, c1, c2, nR_w hn (g.2 52 15 (by omega)) (g.2 52 16 (by omega)) (by omega)⟩
    · rw [if_neg h1]; exact Or.inl ⟨1, i, rfl, a h1⟩
/-- a note -/
theorem r_wrong {T : Nat → Nat} {n c i : Nat} {N : zm_Mem} {nt : Option (Nat × Nat)} (hn0 : n ≤ 2000) (hR : Rks N (tkF T n) (tkE T n)) (h13 : N.1 52 13 = 0) (hi : i ≤ tkE T n) (hn : nR T n N nt i) (hc : 3 ≤ c ∧ c ≤ 5) : ∃ N', f_X11_wrong (nI c) (nI i) N = some ((), N') ∧ Fp (fun x j => x = 52 ∧ (j = 15 ∨ j = 16)) N N' ∧ nR T n N' (aN nt c i) (i + 1) := by
  have he := hR.1
  unfold f_X11_wrong f_X11_wrong_b46
  simp only [zv_eq]
  rw [zm_ck_t (zm_in_nI (by omega) (by omega)), nI_clamp (by omega), (hR.2 i hi).2.1, h13, if_neg (show ¬ (0 : Int32) < 0 by decide)]
  unfold aN
  cases nt with
  | none =>
    rw [hn.1 rfl, if_pos rfl, if_pos rfl]
    refine ⟨_, rfl, fp_tr (fp_sI ⟨rfl, Or.inl rfl⟩) (fp_sI ⟨rfl, Or.inr rfl⟩), fun z => (by cases z), fun c' p z => ?_⟩
    have z' := Option.some.inj z
    have z1 : c = c' := congrArg Prod.fst z'
    have z2 : i = p := congrArg Prod.snd z'
    subst z1; subst z2
    refine ⟨?_, ?_, hc, by omega⟩
    · rw [mI1, if_neg (by omega), mI1, if_pos ⟨rfl, rfl⟩]
    · rw [mI1, if_pos ⟨rfl, rfl⟩]
  | some x =>
    obtain ⟨a, b, d, e⟩ := hn.2 x.1 x.2 rfl
    have m := tkF_mono (T := T) (n := n) e hi
    have pl := tkF_pl (T := T) (n := n) (i := i)
    rw [a, if_neg (nI_ne0 (by omega) (by omega)), b, if_pos (nI_lt m (by omega)), if_neg (by intro z; cases z)]
    exact ⟨N, rfl, fp_rfl _ _, nR_w hn rfl rfl (by omega)⟩
theorem r_wrong2 {T : Nat → Nat} {n c i : Nat} {N : zm_Mem} {nt : Option (Nat × Nat)} (hn0 : n ≤ 2000) (hR : Rks N (tkF T n) (tkE T n)) (h13 : N.1 52 13 = 0) (hi : i ≤ tkE T n) (hp : ∀ c' p, nt = some (c', p) → p < i) (hn : nR T n N (aN nt c i) (i + 1)) (hc : 3 ≤ c ∧ c ≤ 5) : f_X11_wrong (nI c) (nI i) N = some ((), N) := by
  have he := hR.1
  have pl := tkF_pl (T := T) (n := n) (i := i)
  unfold f_X11_wrong f_X11_wrong_b46
  simp only [zv_eq]
  rw [zm_ck_t (zm_in_nI (by omega) (by omega)), nI_clamp (by omega), (hR.2 i hi).2.1, h13, if_neg (show ¬ (0 : Int32) < 0 by decide)]
  unfold aN at hn
  cases nt with
  | none =>
    rw [if_pos rfl] at hn
    obtain ⟨a, b, d, e⟩ := hn.2 c i rfl
    rw [a, if_neg (nI_ne0 (by omega) (by omega)), b, if_neg (nI_nlt (Nat.le_refl _) (by omega)), if_pos rfl, if_neg (nI_nlt (Nat.le_refl _) (by omega))]
  | some x =>
    rw [if_neg (by intro z; cases z)] at hn
    obtain ⟨a, b, d, e⟩ := hn.2 x.1 x.2 rfl
    have m := tkF_mono (T := T) (n := n) (hp x.1 x.2 rfl) hi
    rw [a, if_neg (nI_ne0 (by omega) (by omega)), b, if_pos (nI_lt m (by omega))]
/-! the reference's names -/
def RNm (N : zm_Mem) (en : List (Nat × Nat × List Nat)) : Prop := N.1 52 20 = nI en.length ∧ en.length ≤ 11 ∧ ∀ j x, en[j]? = some x → N.2.1 60 j = Int64.ofNat (iv_wn 27 x.2.2) ∧ N.1 61 j = nI x.1 ∧ N.1 62 j = nI x.2.1 ∧ x.1 ≤ 1 ∧ x.2.1 ≤ 6 ∧ x.2.2.length ≤ 8 ∧ ltsL x.2.2
def enQ (en : List (Nat × Nat × List Nat)) (hN wN : List (List Nat)) : Prop := (∀ x ∈ en, (x.1 = 0 ∧ hN[x.2.1]? = some x.2.2) ∨ (x.1 = 1 ∧ wN[x.2.1]? = some x.2.2)) ∧ (∀ j L, hN[j]? = some L → (0, j, L) ∈ en) ∧ (∀ j L, wN[j]? = some L → (1, j, L) ∈ en)
theorem rnm_fp {P : Nat → Nat → Prop} {N N' : zm_Mem} {en : List (Nat × Nat × List Nat)} (h : RNm N en) (f : Fp P N N') (h1 : ¬ P 52 20) (h2 : ∀ j, ¬ P 61 j) (h3 : ∀ j, ¬ P 62 j) : RNm N' en := ⟨by rw [f.2 52 20 h1]; exact h.1, h.2.1, fun j x hx => by
  rw [f.1, f.2 61 j (h2 j), f.2 62 j (h3 j)]; exact h.2.2 j x hx⟩
theorem r_cmp {T : Nat → Nat} {n i l : Nat} {N : zm_Mem} {en : List (Nat × Nat × List Nat)} {x : Nat × Nat × List Nat} (hR : Rks N (tkF T n) (tkE T n)) (hE : RNm N en) (hi : i ≤ tkE T n) (hx : en[l]? = some x) : lg_cmp (N.2.1 60 l) (N.2.1 58 i) = 0 ↔ x.2.2 = (tkF T n i).2.2.1 := by
  have ok := tkF_ok (T := T) (n := n) (i := i)
  obtain ⟨a, b, c, d, e, f, g⟩ := hE.2.2 l x hx
  rw [lg_cmp_eq, a, (hR.2 i hi).2.2.2]
  exact (nm_eq f g ok.2.1 ok.2.2.1).2
def hasB (en : List (Nat × Nat × List Nat)) (L : List Nat) (l : Nat) : Bool := (en.take l).any (fun x => decide (x.2.2 = L))
theorem hasB_0 (en : List (Nat × Nat × List Nat)) (L : List Nat) : hasB en L 0 = false := by unfold hasB; rw [List.take_zero]; rfl
theorem hasB_s {en : List (Nat × Nat × List Nat)} {L : List Nat} {l : Nat} {x : Nat × Nat × List Nat} (h : en[l]? = some x) : hasB en L (l + 1) = (hasB en L l || decide (x.2.2 = L)) := by
  unfold hasB
  rw [List.take_succ, h, List.any_append]
  show ((en.take l).any _ || ([x].any (fun x => decide (x.2.2 = L)))) = _
  rw [List.any_cons, List.any_nil, Bool.or_false]
theorem hasB_e {en : List (Nat × Nat × List Nat)} {hN wN : List (List Nat)} (hQ : enQ en hN wN) (T : Nat → Nat) (n i : Nat) : hasB en (tkF T n i).2.2.1 en.length = dupB T n hN wN i := by
  unfold hasB dupB
  rw [List.take_length]
  cases h : en.any (fun x => decide (x.2.2 = (tkF T n i).2.2.1)) with
  | true =>
    obtain ⟨x, hx, hd⟩ := List.any_eq_true.1 h
    have hd' := of_decide_eq_true hd
    rcases hQ.1 x hx with ⟨a, b⟩ | ⟨a, b⟩
    · rw [hd'] at b
      rw [decide_eq_true (List.mem_of_getElem? b), Bool.true_or]
    · rw [hd'] at b
      rw [decide_eq_true (List.mem_of_getElem? b), Bool.or_true]
  | false =>
    have hf := List.any_eq_false.1 h
    have h1 : (tkF T n i).2.2.1 ∉ hN := fun hm => by
      obtain ⟨j, hj⟩ := List.getElem?_of_mem hm
      exact hf _ (hQ.2.1 j _ hj) (decide_eq_true rfl)
    have h2 : (tkF T n i).2.2.1 ∉ wN := fun hm => by
      obtain ⟨j, hj⟩ := List.getElem?_of_mem hm
      exact hf _ (hQ.2.2 j _ hj) (decide_eq_true rfl)
    rw [decide_eq_false h1, decide_eq_false h2]; rfl
theorem r_znamed {T : Nat → Nat} {n : Nat} {N : zm_Mem} {Z : zZ} {en : List (Nat × Nat × List Nat)} {hN wN : List (List Nat)} (hn0 : n ≤ 2000) (h : RZ T n N Z) (hE : RNm N en) (hQ : enQ en hN wN) : ∃ x N', f_X11_named N = some (x, N') ∧ Fp p52 N N' ∧ RZ T n N' (zTo (tkF T n) 2 3 (dupB T n hN wN) Z) ∧ (∀ i nt, Z = .inr (i, nt) → x = nI i) := by
  have endF : ∀ (x : Int32) (K : zm_Mem), K.1 52 13 ≠ 0 → zm_lp (fun s : Int32 × zm_Mem => f_X11_named_l12 x s.1 s.2) (0, K) = some K := fun x K hK => by
    refine lp_end ?_
    show f_X11_named_l12 x 0 K = _
    unfold f_X11_named_l12
    rw [if_neg hK]
    split <;> rfl
  rcases h with ⟨f, j, rfl, h⟩ | ⟨i, nt, rfl, h, hi, hn⟩
  · refine ⟨N.1 52 11, N, ?_, fp_rfl _ _, Or.inl ⟨f, j, rfl, h⟩, fun i nt z => by cases z⟩
    unfold f_X11_named
    simp only [zv_eq]
    rw [r_mustF (rf_ne h) (rf_le h), zb2_some, endF _ _ (rf_ne h)]; rfl
  · have r4 := rs_4 _ cs_num (tkF_ok (T := T) (n := n) (i := i)).1
    obtain ⟨N7, e, g, a, b, c⟩ := r_mustI (rs := 1) (s := 2) h hi (by omega) (by omega) r4.2.2.2
    have e' : f_X11_must 1 N = some ((), N7) := e
    have he := h.1.1
    have U : f_X11_named N = (zm_lp (fun s : Int32 × zm_Mem => f_X11_named_l12 (nI i) s.1 s.2) (0, N7)).bind (fun e55 => some (nI i, e55)) := by
      unfold f_X11_named
      simp only [zv_eq]
      rw [h.2.1, e', zb2_some]
    rw [zTo_at]
    by_cases h1 : (tkF T n i).1 = 2
    · rw [if_pos h1]
      by_cases h2 : i = 400
      · have F := b h1 h2
        rw [if_pos h2]
        refine ⟨nI i, N7, by rw [U, endF _ _ (rf_ne F)]; rfl, fp_352 g, Or.inl ⟨2, i, rfl, F⟩, fun i' nt' z => congrArg (fun p : Nat × Option (Nat × Nat) => nI p.1) (Sum.inr.inj z)⟩
      · rw [if_neg h2]
        obtain ⟨c1, c2⟩ := c h1 h2
        have E7 : RNm N7 en := rnm_fp hE g (by omega) (fun j => by omega) (fun j => by omega)
        have n7 : nR T n N7 nt i := nR_w hn (g.2 52 15 (by omega)) (g.2 52 16 (by omega)) (Nat.le_refl _)
        have key : ∃ K, zm_lp (fun s : Int32 × zm_Mem => f_X11_named_l12 (nI i) s.1 s.2) (nI 0, N7) = some K ∧ (Fp (fun x j => x = 52 ∧ (j = 15 ∨ j = 16)) N7 K ∧ nR T n K (if hasB en (tkF T n i).2.2.1 en.length = true then aN nt 3 i else nt) (i + 1)) := by
          refine lp_inv (fun l s => s.1 = nI l ∧ Fp (fun x j => x = 52 ∧ (j = 15 ∨ j = 16)) N7 s.2 ∧ nR T n s.2 (if hasB en (tkF T n i).2.2.1 l = true then aN nt 3 i else nt) (i + 1) ∧ (hasB en (tkF T n i).2.2.1 l = false → nR T n s.2 nt i)) _ en.length ?_ ?_ ⟨rfl, fp_rfl _ _, ?_, fun _ => n7⟩
          · rintro l ⟨z, K⟩ hl ⟨rfl, fK, k1, k2⟩
            left
            have RK : RI T n K (i + 1) := ri_fp c1 fK (fun x j a b z => by omega) (by omega) (by omega) (by omega)
            have EK : RNm K en := rnm_fp E7 fK (by omega) (fun j => by omega) (fun j => by omega)
            have ex : en[l]? = some en[l] := List.getElem?_eq_getElem hl
            have hl11 := hE.2.1
            have cm := r_cmp RK.1 EK hi ex
            have st : f_X11_named_l12 (nI i) (nI l) K = if en[l].2.2 = (tkF T n i).2.2.1 then (zm_b2 (f_X11_wrong 3 (nI i) K) fun _ M46 => some (.inl (nI (l + 1), M46))) else some (.inl (nI (l + 1), K)) := by
              unfold f_X11_named_l12 f_X11_named_b49_12
              simp only [zv_eq]
              rw [EK.1, if_neg (nI_ge (by omega) (by omega)), if_pos RK.2.2.1, zm_ck_t (zm_in_nI (by omega) (by omega)), zm_ck_t (zm_in_nI (by omega) (by omega)), nI_clamp (by omega), nI_clamp (by omega), nI_k1]
              by_cases hq : en[l].2.2 = (tkF T n i).2.2.1
              · rw [if_pos (cm.2 hq), if_pos hq]
              · rw [if_neg (fun z => hq (cm.1 z)), if_neg hq]
            have hs := hasB_s (L := (tkF T n i).2.2.1) ex
            by_cases hq : en[l].2.2 = (tkF T n i).2.2.1
            · rw [decide_eq_true hq, Bool.or_true] at hs
              cases hB : hasB en (tkF T n i).2.2.1 l with
              | true =>
                rw [hB, if_pos rfl] at k1
                have w2 := r_wrong2 (c := 3) hn0 RK.1 RK.2.2.1 hi (fun c' p z => (hn.2 c' p z).2.2.2) k1 (by omega)
                refine ⟨(nI (l + 1), K), ?_, rfl, fK, by rw [hs, if_pos rfl]; exact k1, fun z => by rw [hs] at z; cases z⟩
                show f_X11_named_l12 (nI i) (nI l) K = _
                rw [st, if_pos hq, show f_X11_wrong 3 (nI i) K = some ((), K) from w2, zb2_some]
              | false =>
                obtain ⟨K', w1, w2, w3⟩ := r_wrong (c := 3) hn0 RK.1 RK.2.2.1 hi (k2 hB) (by omega)
                refine ⟨(nI (l + 1), K'), ?_, rfl, fp_tr fK w2, by rw [hs, if_pos rfl]; exact w3, fun z => by rw [hs] at z; cases z⟩
                show f_X11_named_l12 (nI i) (nI l) K = _
                rw [st, if_pos hq, show f_X11_wrong 3 (nI i) K = some ((), K') from w1, zb2_some]
            · rw [decide_eq_false hq, Bool.or_false] at hs
              refine ⟨(nI (l + 1), K), ?_, rfl, fK, by rw [hs]; exact k1, fun z => by rw [hs] at z; exact k2 z⟩
              show f_X11_named_l12 (nI i) (nI l) K = _
              rw [st, if_neg hq]
          · rintro ⟨z, K⟩ ⟨rfl, fK, k1, k2⟩
            have EK : RNm K en := rnm_fp E7 fK (by omega) (fun j => by omega) (fun j => by omega)
            have hl11 := hE.2.1
            refine ⟨K, ?_, fK, k1⟩
            show f_X11_named_l12 (nI i) (nI en.length) K = _
            unfold f_X11_named_l12
            rw [EK.1, if_pos (nI_le (Nat.le_refl _) (by omega))]
          · rw [hasB_0, if_neg (by decide)]
            exact nR_w n7 rfl rfl (by omega)
        obtain ⟨K, k1, k2, k3⟩ := key
        have k1' : zm_lp (fun s : Int32 × zm_Mem => f_X11_named_l12 (nI i) s.1 s.2) (0, N7) = some K := k1
        rw [hasB_e hQ] at k3
        refine ⟨nI i, K, by rw [U, k1']; rfl, fp_tr (fp_352 g) (fp_mono (fun x j z => by unfold p52; omega) k2), Or.inr ⟨i + 1, _, rfl, ri_fp c1 k2 (fun x j a b z => by omega) (by omega) (by omega) (by omega), c2, k3⟩, fun i' nt' z => congrArg (fun p : Nat × Option (Nat × Nat) => nI p.1) (Sum.inr.inj z)⟩
    · have F := a h1
      rw [if_neg h1]
      exact ⟨nI i, N7, by rw [U, endF _ _ (rf_ne F)]; rfl, fp_352 g, Or.inl ⟨1, i, rfl, F⟩, fun i' nt' z => congrArg (fun p : Nat × Option (Nat × Nat) => nI p.1) (Sum.inr.inj z)⟩
