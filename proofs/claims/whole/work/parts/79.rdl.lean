/-! the class's steps over a reader's state -/
def nC (T : Nat → Nat) (n : Nat) (M : zm_Mem) (nt : Option (Nat × Nat)) (i : Nat) : Prop := (nt = none → M.1 8 7 = 0 ∧ M.1 8 8 = -1) ∧ ∀ c p, nt = some (c, p) → M.1 8 7 = nI c ∧ M.1 8 8 = nI (tkF T n p).2.1 ∧ (3 ≤ c ∧ c ≤ 5) ∧ p < i
def CZ (T : Nat → Nat) (n : Nat) (M : zm_Mem) (t cl : Nat) (Z : zZ) : Prop := (∃ f j, Z = .inl (f, j) ∧ CF M t (tkF T n) (tkE T n) j f) ∨ (∃ i nt, Z = .inr (i, nt) ∧ CS M t (tkF T n) (tkE T n) i cl ∧ i ≤ tkE T n ∧ cl ≤ 408 ∧ nC T n M nt i)
def p8 (x j : Nat) : Prop := x = 8 ∧ 4 ≤ j ∧ j ≤ 8
theorem fp_8F {t : Nat} {M M' : zm_Mem} (h : Fp p8 M M') : Fp (pF t) M M' := fp_mono (fun x j z => by unfold p8 at z; unfold pF; omega) h
theorem cs_8 {T : Nat → Nat} {n t cl i i' : Nat} {M M' : zm_Mem} (h : CS M t (tkF T n) (tkE T n) i cl) (f : Fp p8 M M') (h4 : M'.1 8 4 = nI i') (h5 : M'.1 8 5 = 0) : CS M' t (tkF T n) (tkE T n) i' cl := by
  obtain ⟨h1, h2, h3, h4', h5', h6⟩ := h
  exact ⟨tks_fp f (fun x j a b z => by unfold p8 at z; omega) h1, h4, h5, by rw [f.1]; exact h4', h5', by rw [f.2 t 10 (by unfold p8; omega)]; exact h6⟩
theorem cf_8 {T : Nat → Nat} {n t i k : Nat} {M M' : zm_Mem} {cl : Nat} (h : CS M t (tkF T n) (tkE T n) i cl) (hi : i ≤ tkE T n) (hcl : cl ≤ 408) (f : Fp p8 M M') (h4 : M'.1 8 4 = nI i) (h5 : M'.1 8 5 = nI k) (hk : 1 ≤ k ∧ k ≤ 9) : CF M' t (tkF T n) (tkE T n) i k := by
  obtain ⟨h1, h2, h3, h4', h5', h6⟩ := h
  exact ⟨tks_fp f (fun x j a b z => by unfold p8 at z; omega) h1, h4, h5, hk, by rw [f.1]; exact h4', h5', hi, cl, hcl, by rw [f.2 t 10 (by unfold p8; omega)]; exact h6⟩
theorem nC_w {T : Nat → Nat} {n i i' : Nat} {M M' : zm_Mem} {nt : Option (Nat × Nat)} (h : nC T n M nt i) (h7 : M'.1 8 7 = M.1 8 7) (h8 : M'.1 8 8 = M.1 8 8) (hi : i ≤ i') : nC T n M' nt i' := ⟨fun z => by rw [h7, h8]; exact h.1 z, fun c p z => by
  obtain ⟨a, b, d, e⟩ := h.2 c p z
  exact ⟨by rw [h7]; exact a, by rw [h8]; exact b, d, by omega⟩⟩
/-- a note -/
theorem c_note {T : Nat → Nat} {n t cl i c : Nat} {M : zm_Mem} {nt : Option (Nat × Nat)} (h : CS M t (tkF T n) (tkE T n) i cl) (hi : i ≤ tkE T n) (hn : nC T n M nt i) (hc : 3 ≤ c ∧ c ≤ 5) : ∃ M', f_X2_note (nI c) M = some ((), M') ∧ Fp p8 M M' ∧ M'.1 8 4 = nI i ∧ M'.1 8 5 = 0 ∧ nC T n M' (aN nt c i) (i + 1) := by
  have f7 : Fp p8 M (zm_sI M 8 7 (nI c)) := fp_sI ⟨rfl, by omega, by omega⟩
  have hT7 : Tks (zm_sI M 8 7 (nI c)) (tkF T n) (tkE T n) := tks_fp f7 (fun x j a b z => by unfold p8 at z; omega) h.1
  unfold f_X2_note aN
  simp only [zv_eq]
  rw [h.2.2.1, if_pos rfl]
  cases nt with
  | none =>
    have e4 : (zm_sI M 8 7 (nI c)).1 8 4 = nI i := by rw [mI1, if_neg (by omega)]; exact h.2.1
    rw [(hn.1 rfl).1, if_pos rfl, if_pos rfl, e4, c_placeI hT7 hi, zb1_some]
    refine ⟨_, rfl, fp_tr f7 (fp_sI ⟨rfl, by omega, by omega⟩), ?_, ?_, fun z => (by cases z), fun c' p z => ?_⟩
    · rw [mI1, if_neg (by omega)]; exact e4
    · rw [mI1, if_neg (by omega), mI1, if_neg (by omega)]; exact h.2.2.1
    · have z' := Option.some.inj z
      have z1 : c = c' := congrArg Prod.fst z'
      have z2 : i = p := congrArg Prod.snd z'
      subst z1; subst z2
      refine ⟨?_, ?_, hc, by omega⟩
      · rw [mI1, if_neg (by omega), mI1, if_pos ⟨rfl, rfl⟩]
      · rw [mI1, if_pos ⟨rfl, rfl⟩]
  | some x =>
    obtain ⟨a, b, d, e⟩ := hn.2 x.1 x.2 rfl
    rw [a, if_neg (nI_ne0 (by omega) (by omega)), if_neg (by intro z; cases z)]
    exact ⟨M, rfl, fp_rfl _ _, h.2.1, h.2.2.1, nC_w hn rfl rfl (by omega)⟩
/-- one token, with a note before it where there is ground for one -/
theorem c_step {T : Nat → Nat} {n t cl s c i : Nat} {bad : Nat → Bool} {M M1 : zm_Mem} {nt : Option (Nat × Nat)} (h : CS M t (tkF T n) (tkE T n) i cl) (hi : i ≤ tkE T n) (hcl : cl ≤ 408) (hs : s < 1000) (hs0 : s ≠ 0) (f : Fp p8 M M1) (h4 : M1.1 8 4 = nI i) (h5 : M1.1 8 5 = 0) (hn : (tkF T n i).1 = s → nC T n M1 (if bad i = true then aN nt c i else nt) (i + 1)) : ∃ M', f_X2_expect (nI s) M1 = some ((), M') ∧ Fp p8 M M' ∧ CZ T n M' t cl (zTo (tkF T n) s c bad (.inr (i, nt))) := by
  have hlt := cs_num (T := T) (n := n) (i := i)
  have h400 : i ≤ 400 := Nat.le_trans hi h.1.1
  have H1 := cs_8 h f h4 h5
  have ee := c_expect (s := s) H1.1 h4 h5 hi h400 hs (by omega)
  show ∃ M', _ ∧ _ ∧ CZ T n M' t cl (if (tkF T n i).1 = s then (if i = 400 then .inl (2, i) else .inr (i + 1, if bad i = true then aN nt c i else nt)) else .inl (1, i))
  by_cases h1 : (tkF T n i).1 = s
  · rw [if_pos h1] at ee ⊢
    by_cases h2 : i = 400
    · rw [if_pos h2] at ee ⊢
      have g : Fp p8 M1 (zm_sI M1 8 5 2) := fp_sI ⟨rfl, by omega, by omega⟩
      exact ⟨_, ee, fp_tr f g, Or.inl ⟨2, i, rfl, cf_8 (k := 2) H1 hi hcl g (by rw [mI1, if_neg (by omega)]; exact h4) (by rw [mI1, if_pos ⟨rfl, rfl⟩]; rfl) (by omega)⟩⟩
    · rw [if_neg h2] at ee ⊢
      have g : Fp p8 M1 (zm_sI M1 8 4 (nI (i + 1))) := fp_sI ⟨rfl, by omega, by omega⟩
      refine ⟨_, ee, fp_tr f g, Or.inr ⟨i + 1, _, rfl, cs_8 H1 g (by rw [mI1, if_pos ⟨rfl, rfl⟩]) (by rw [mI1, if_neg (by omega)]; exact h5), tkF_lt hi (by omega) h2, hcl, nC_w (hn h1) (by rw [mI1, if_neg (by omega)]) (by rw [mI1, if_neg (by omega)]) (Nat.le_refl _)⟩⟩
  · rw [if_neg h1] at ee ⊢
    have g : Fp p8 M1 (zm_sI M1 8 5 1) := fp_sI ⟨rfl, by omega, by omega⟩
    exact ⟨_, ee, fp_tr f g, Or.inl ⟨1, i, rfl, cf_8 (k := 1) H1 hi hcl g (by rw [mI1, if_neg (by omega)]; exact h4) (by rw [mI1, if_pos ⟨rfl, rfl⟩]; rfl) (by omega)⟩⟩
theorem c_zexp {T : Nat → Nat} {n t cl s : Nat} {M : zm_Mem} {Z : zZ} (hs : s < 1000) (hs0 : s ≠ 0) (h : CZ T n M t cl Z) : ∃ M', f_X2_expect (nI s) M = some ((), M') ∧ Fp p8 M M' ∧ CZ T n M' t cl (zTo (tkF T n) s 0 noB Z) := by
  rcases h with ⟨f, j, rfl, h⟩ | ⟨i, nt, rfl, h, hi, hcl, hn⟩
  · exact ⟨M, c_expectF h.1 h.2.1 (cf_ne h) h.2.2.2.2.2.2.1, fp_rfl _ _, Or.inl ⟨f, j, rfl, h⟩⟩
  · exact c_step h hi hcl hs hs0 (fp_rfl _ _) h.2.1 h.2.2.1 (fun _ => by rw [if_neg (show ¬ noB i = true from Bool.false_ne_true)]; exact nC_w hn rfl rfl (by omega))
/-- a token whose sort is known is taken -/
theorem c_ztake {T : Nat → Nat} {n t cl i s : Nat} {M : zm_Mem} {nt : Option (Nat × Nat)} (hs : (tkF T n i).1 = s) (hs0 : s ≠ 0) (h : CZ T n M t cl (.inr (i, nt))) : ∃ M', f_X2_take M = some ((), M') ∧ Fp p8 M M' ∧ CZ T n M' t cl (zTo (tkF T n) s 0 noB (.inr (i, nt))) := by
  have hlt := cs_num (T := T) (n := n) (i := i)
  obtain ⟨M', e, f, z⟩ := c_zexp (s := s) (by omega) hs0 h
  refine ⟨M', ?_, f, z⟩
  rcases h with ⟨f, j, h', _⟩ | ⟨i', nt', h', h, hi, hcl, hn⟩
  · cases h'
  · have h'' := Sum.inr.inj h'
    have e1 : i = i' := congrArg Prod.fst h''
    subst e1
    rw [← e]
    unfold f_X2_expect
    rw [c_sortI h.1 h.2.1 hi, zb1_some, if_pos (by rw [hs])]
    have h400 : i ≤ 400 := Nat.le_trans hi h.1.1
    rw [c_take h.2.1 h.2.2.1 h400, zb2_some]
/-- looking a name up -/
theorem c_find {x : Int64} {r h L : Nat} {M : zm_Mem} (hr : (zm_sh r).2 = L) (hh : h ≤ L) (hL : L ≤ 6) : (∃ j, j < h ∧ M.2.1 r j = x ∧ f_X2_find x r (nI h) M = some (nI j)) ∨ ((∀ j, j < h → M.2.1 r j ≠ x) ∧ f_X2_find x r (nI h) M = some (-1)) := by
  have st : ∀ j, j < h → f_X2_find_l3 x r (nI h) M (nI j) = if M.2.1 r j = x then some (.inr (.inl (nI j))) else some (.inl (nI (j + 1))) := fun j hj => by
    unfold f_X2_find_l3
    rw [hr, if_neg (nI_ge (by omega) (by omega)), if_neg (show ¬ Int32.ofNat L ≤ nI j from nI_ge (b := L) (by omega) (by omega)), zm_ck_t (zm_in_nI (by omega) (by omega)), nI_clamp (by omega), nI_k1]
    simp only [zv_eq]
    by_cases he : M.2.1 r j = x
    · rw [if_pos ((lg_cmp_eq _ _).2 he), if_pos he]
    · rw [if_neg (fun z => he ((lg_cmp_eq _ _).1 z)), if_neg he]
  have key : ∃ e, zm_lp (f_X2_find_l3 x r (nI h) M) (nI 0) = some e ∧ ((∃ j, j < h ∧ M.2.1 r j = x ∧ e = .inl (nI j)) ∨ ((∀ j, j < h → M.2.1 r j ≠ x) ∧ e = .inr ())) := by
    refine lp_inv (fun j z => z = nI j ∧ ∀ i, i < j → M.2.1 r i ≠ x) _ h ?_ ?_ ⟨rfl, fun i hi => by omega⟩
    · rintro j z hj ⟨rfl, h2⟩
      by_cases he : M.2.1 r j = x
      · exact Or.inr ⟨_, by rw [st j hj, if_pos he], Or.inl ⟨j, hj, he, rfl⟩⟩
      · refine Or.inl ⟨_, by rw [st j hj, if_neg he], rfl, fun i hi => ?_⟩
        by_cases hij : i = j
        · subst hij; exact he
        · exact h2 i (by omega)
    · rintro z ⟨rfl, h2⟩
      refine ⟨.inr (), ?_, Or.inr ⟨h2, rfl⟩⟩
      unfold f_X2_find_l3
      rw [if_pos (nI_le (Nat.le_refl _) (by omega))]
  obtain ⟨e, k1, k2⟩ := key
  have k1' : zm_lp (f_X2_find_l3 x r (nI h) M) 0 = some e := k1
  unfold f_X2_find
  rw [k1']
  rcases k2 with ⟨j, a, b, rfl⟩ | ⟨a, rfl⟩
  · exact Or.inl ⟨j, a, b, rfl⟩
  · exact Or.inr ⟨a, rfl⟩
