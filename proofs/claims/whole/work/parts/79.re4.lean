/-! one statement, both -/
def JJ (T : Nat → Nat) (n : Nat) (M N : zm_Mem) (t v i : Nat) (nt : Option (Nat × Nat)) : Prop := ∃ cl k nb Q en, CL T n M t cl i nt Q ∧ RLs T n N v k nb i nt Q en ∧ PQ nt Q
theorem cz_l {T : Nat → Nat} {n t cl f j : Nat} {M : zm_Mem} (h : CZ T n M t cl (.inl (f, j))) : CF M t (tkF T n) (tkE T n) j f := by
  rcases h with ⟨f', j', z, h⟩ | ⟨i, nt, z, _⟩
  · have e := Sum.inl.inj z
    have e1 : f = f' := congrArg Prod.fst e
    have e2 : j = j' := congrArg Prod.snd e
    rw [e1, e2]; exact h
  · cases z
theorem rz_l {T : Nat → Nat} {n f j : Nat} {N : zm_Mem} (h : RZ T n N (.inl (f, j))) : RF N (tkF T n) (tkE T n) j f := by
  rcases h with ⟨f', j', z, h⟩ | ⟨i, nt, z, _⟩
  · have e := Sum.inl.inj z
    have e1 : f = f' := congrArg Prod.fst e
    have e2 : j = j' := congrArg Prod.snd e
    rw [e1, e2]; exact h
  · cases z
theorem cz_r {T : Nat → Nat} {n t cl i : Nat} {M : zm_Mem} {nt : Option (Nat × Nat)} (h : CZ T n M t cl (.inr (i, nt))) : CS M t (tkF T n) (tkE T n) i cl ∧ i ≤ tkE T n ∧ cl ≤ 408 ∧ nC T n M nt i := by
  rcases h with ⟨f', j', z, h⟩ | ⟨i', nt', z, a⟩
  · cases z
  · have e := Sum.inr.inj z
    have e1 : i = i' := congrArg Prod.fst e
    have e2 : nt = nt' := congrArg Prod.snd e
    rw [e1, e2]; exact a
def End2 (T : Nat → Nat) (n : Nat) (M N : zm_Mem) (t v i : Nat) : Prop := (∃ f j, CF M t (tkF T n) (tkE T n) j f ∧ RF N (tkF T n) (tkE T n) j f) ∨ (∃ i' nt', JJ T n M N t v i' nt' ∧ i < i')
theorem cl34 {T : Nat → Nat} {n t cl i l s : Nat} {M : zm_Mem} (h : CS M t (tkF T n) (tkE T n) i cl) (hi : i ≤ tkE T n) (hl : l ≤ 400) (hs : (tkF T n i).1 = s) (hs0 : s ≠ 0) : f_X2_compile_l34 (nI l) M = if s = 256 then (zm_b2 (f_X2_tellHouse M) fun _ M105 => some (.inl (nI (l + 1), M105))) else if s = 257 then (zm_b2 (f_X2_tellWork M) fun _ M105 => some (.inl (nI (l + 1), M105))) else if s = 258 then (zm_b2 (f_X2_tellTerm M) fun _ M105 => some (.inl (nI (l + 1), M105))) else if s = 259 then (zm_b2 (f_X2_law M) fun r130 M130 => some (.inl (nI (l + 1), zm_sI M130 t 14 r130))) else if s = 260 then (zm_b2 (f_X2_law M) fun r130 M130 => some (.inl (nI (l + 1), zm_sI M130 t 15 r130))) else if s = 261 then (zm_b2 (f_X2_onlyNumber 0 100 M) fun r130 M130 => some (.inl (nI (l + 1), zm_sI M130 t 16 r130))) else if s = 262 then (zm_b2 (f_X2_onlyNumber 1 3 M) fun r130 M130 => some (.inl (nI (l + 1), zm_sI M130 t 17 r130))) else if s = 263 then (zm_b2 (f_X2_onlyNumber 0 9999 M) fun r130 M130 => some (.inl (nI (l + 1), zm_sI M130 t 18 r130))) else (zm_b2 (f_X2_fail 1 M) fun _ M105 => some (.inl (nI (l + 1), M105))) := by
  have hlt := cs_num (T := T) (n := n) (i := i)
  have hT := cs_isT h
  have q : ∀ c, c < 1000 → (nI s = nI c ↔ s = c) := fun c hc => nI_eq (by omega) (by omega)
  have e : ∀ c, c < 1000 → ((nI s = nI c) = (s = c)) := fun c hc => propext (q c hc)
  unfold f_X2_compile_l34 f_X2_compile_b209_34
  simp only [zv_eq]
  rw [if_neg (show ¬ (400 : Int32) < nI l from nI_nlt (a := 400) hl (by omega)), if_pos h.2.2.1, c_sortI h.1 h.2.1 hi, zb1_some, zb1_some, hs, if_neg (show ¬ nI s = 0 from fun z => hs0 ((nI_eq (b := 0) (by omega) (by omega)).1 z)), h.2.2.2.1, hT, nI_k1]
  simp only [zk_true]
  by_cases a0 : s = 256
  · rw [if_pos a0, if_pos (show nI s = (256 : Int32) by rw [a0]; rfl)]
  rw [if_neg a0, if_neg (show ¬ nI s = (256 : Int32) from fun z => a0 ((q 256 (by omega)).1 z))]
  by_cases a1 : s = 257
  · rw [if_pos a1, if_pos (show nI s = (257 : Int32) by rw [a1]; rfl)]
  rw [if_neg a1, if_neg (show ¬ nI s = (257 : Int32) from fun z => a1 ((q 257 (by omega)).1 z))]
  by_cases a2 : s = 258
  · rw [if_pos a2, if_pos (show nI s = (258 : Int32) by rw [a2]; rfl)]
  rw [if_neg a2, if_neg (show ¬ nI s = (258 : Int32) from fun z => a2 ((q 258 (by omega)).1 z))]
  by_cases a3 : s = 259
  · rw [if_pos a3, if_pos (show nI s = (259 : Int32) by rw [a3]; rfl)]
  rw [if_neg a3, if_neg (show ¬ nI s = (259 : Int32) from fun z => a3 ((q 259 (by omega)).1 z))]
  by_cases a4 : s = 260
  · rw [if_pos a4, if_pos (show nI s = (260 : Int32) by rw [a4]; rfl)]
  rw [if_neg a4, if_neg (show ¬ nI s = (260 : Int32) from fun z => a4 ((q 260 (by omega)).1 z))]
  by_cases a5 : s = 261
  · rw [if_pos a5, if_pos (show nI s = (261 : Int32) by rw [a5]; rfl)]
  rw [if_neg a5, if_neg (show ¬ nI s = (261 : Int32) from fun z => a5 ((q 261 (by omega)).1 z))]
  by_cases a6 : s = 262
  · rw [if_pos a6, if_pos (show nI s = (262 : Int32) by rw [a6]; rfl)]
  rw [if_neg a6, if_neg (show ¬ nI s = (262 : Int32) from fun z => a6 ((q 262 (by omega)).1 z))]
  by_cases a7 : s = 263
  · rw [if_pos a7, if_pos (show nI s = (263 : Int32) by rw [a7]; rfl)]
  rw [if_neg a7, if_neg (show ¬ nI s = (263 : Int32) from fun z => a7 ((q 263 (by omega)).1 z))]
theorem rs_oth : ∀ s, s < 276 → okS s = true → ¬ (256 ≤ s ∧ s ≤ 263) → (rsF s < 20 ∨ 27 < rsF s) := by decide +kernel
theorem rs_sub : ∀ x, x < 40 → (x < 20 → nI x - 23 < 0) ∧ (27 < x → ¬ (nI x - 23 < 0) ∧ ¬ nI x ≤ 24) := by decide
/-- another token where a statement should begin -/
theorem r_other {T : Nat → Nat} {n i : Nat} {N : zm_Mem} {nt : Option (Nat × Nat)} (hZ : RZ T n N (.inr (i, nt))) (ho : ¬ (256 ≤ (tkF T n i).1 ∧ (tkF T n i).1 ≤ 263)) : ∃ N', f_X11_tellOne N = some ((), N') ∧ Fp (fun x j => x = 52 ∧ (j = 11 ∨ j = 13 ∨ j = 14)) N N' ∧ RZ T n N' (.inl (1, i)) := by
  have hI := rl_I hZ
  have he := hI.1.1.1
  have ok := okS_rs _ cs_num (tkF_ok (T := T) (n := n) (i := i)).1
  have oth := rs_oth _ cs_num (tkF_ok (T := T) (n := n) (i := i)).1 ho
  obtain ⟨N1, e1, f1, z1⟩ := r_zfail (k := 1) (by omega) hZ
  have e1' : f_X11_fail 1 N = some ((), N1) := e1
  have x9 : N.1 55 i = nI (rsF (tkF T n i).1) := (hI.1.1.2 i hI.2).1
  generalize rsF (tkF T n i).1 = x at x9 oth ok
  have q : ∀ c, c < 1000 → 20 ≤ c → c ≤ 27 → ¬ nI x = nI c := fun c hc h1 h2 z => by
    have := (nI_eq (by omega) (by omega)).1 z
    omega
  have sub := rs_sub x (by omega)
  refine ⟨N1, ?_, f1, z1⟩
  have b257 : ∀ y, f_X11_tellOne_b257 N y = some ((), N1) := fun y => by
    unfold f_X11_tellOne_b257 f_X11_tellOne_b262
    rw [e1', zb2_some, if_neg ((rz_f z1).1 _ rfl).2]
  unfold f_X11_tellOne
  simp only [zv_eq]
  rw [hI.1.2.1, zm_ck_t (zm_in_nI (by omega) (by omega)), nI_clamp (by omega), x9, if_neg (show ¬ nI x = (20 : Int32) from q 20 (by omega) (by omega) (by omega)), if_neg (show ¬ nI x = (21 : Int32) from q 21 (by omega) (by omega) (by omega)), if_neg (show ¬ nI x = (22 : Int32) from q 22 (by omega) (by omega) (by omega)), if_neg (show ¬ nI x = (23 : Int32) from q 23 (by omega) (by omega) (by omega)), if_neg (show ¬ nI x = (24 : Int32) from q 24 (by omega) (by omega) (by omega)), if_neg (show ¬ nI x = (25 : Int32) from q 25 (by omega) (by omega) (by omega)), if_neg (show ¬ nI x = (26 : Int32) from q 26 (by omega) (by omega) (by omega)), if_neg (show ¬ nI x = (27 : Int32) from q 27 (by omega) (by omega) (by omega))]
  unfold f_X11_tellOne_b226
  simp only [zv_eq]
  rw [hI.1.2.1, zm_ck_t (zm_in_nI (by omega) (by omega)), zm_ck_t (zm_in_nI (by omega) (by omega)), nI_clamp (by omega), x9, b257]
  rcases oth with h1 | h1
  · rw [if_pos (sub.1 h1)]
  · rw [if_neg (sub.2 h1).1, if_neg (sub.2 h1).2]
/-- no room for one more -/
theorem r_full {T : Nat → Nat} {n v k nb i : Nat} {N : zm_Mem} {nt : Option (Nat × Nat)} {Q : zQ} {en : List (Nat × Nat × List Nat)} (h : RLs T n N v k nb i nt Q en) (hf : ((tkF T n i).1 = 256 ∧ Q.1.length = 5) ∨ ((tkF T n i).1 = 257 ∧ Q.2.1.length = 6) ∨ ((tkF T n i).1 = 258 ∧ Q.2.2.1.length = 6)) : ∃ N', f_X11_tellOne N = some ((), N') ∧ Fp (fun x j => x = 52 ∧ (j = 11 ∨ j = 13 ∨ j = 14)) N N' ∧ RZ T n N' (.inl (2, i)) := by
  obtain ⟨hZ, ⟨h19, hv⟩, ⟨h48, k1, k2⟩, ⟨h42, hb⟩, ⟨h63, b63⟩, ⟨h66, b66⟩, ⟨h71, b71⟩, hE, hQ, hel, hD⟩ := h
  have hI := rl_I hZ
  have he := hI.1.1.1
  obtain ⟨N1, e1, f1, z1⟩ := r_zfail (k := 2) (by omega) hZ
  have e1' : f_X11_fail 2 N = some ((), N1) := e1
  have f13 := ((rz_f z1).1 _ rfl).1
  have room : ∀ a, f_X11_roomFor a a N = some ((), N1) := fun a => by
    unfold f_X11_roomFor f_X11_roomFor_b10
    rw [if_pos rfl, e1', zb2_some, if_neg f13]
  refine ⟨N1, ?_, f1, z1⟩
  unfold f_X11_tellOne
  simp only [zv_eq]
  rw [hI.1.2.1, zm_ck_t (zm_in_nI (by omega) (by omega)), nI_clamp (by omega), (hI.1.1.2 i hI.2).1]
  rcases hf with ⟨h1, h2⟩ | ⟨h1, h2⟩ | ⟨h1, h2⟩
  · rw [h1, if_pos (by decide), h19, zm_ck_t (zm_in_nI (by omega) (by omega)), nI_clamp (by omega), h63, h2, show nI 5 = (5 : Int32) from rfl, room, zb2_some, if_neg f13]
  · rw [h1, if_neg (by decide), if_pos (by decide), h19, zm_ck_t (zm_in_nI (by omega) (by omega)), nI_clamp (by omega), h66, h2, show nI 6 = (6 : Int32) from rfl, room, zb2_some, if_neg f13]
  · rw [h1, if_neg (by decide), if_neg (by decide), if_pos (by decide), h19, zm_ck_t (zm_in_nI (by omega) (by omega)), nI_clamp (by omega), h71, h2, show nI 6 = (6 : Int32) from rfl, room, zb2_some, if_neg f13]
theorem both_step {T : Nat → Nat} {n t v i l : Nat} {M N : zm_Mem} {nt : Option (Nat × Nat)} (hn0 : n ≤ 2000) (h : JJ T n M N t v i nt) (hs0 : (tkF T n i).1 ≠ 0) (hl : l ≤ 400) : ∃ M' N', f_X2_compile_l34 (nI l) M = some (.inl (nI (l + 1), M')) ∧ f_X11_tellOne N = some ((), N') ∧ Fc t M M' ∧ Fv2 v N N' ∧ End2 T n M' N' t v i := by
  obtain ⟨cl, k, nb, Q, en, hC, hR, hP⟩ := h
  obtain ⟨c1, c2, c3, c4⟩ := cz_r hC.1
  have h400 : i ≤ 400 := Nat.le_trans c2 c1.1.1
  have disp := cl34 (l := l) c1 c2 hl rfl hs0
  have fin : ∀ {M' N' : zm_Mem} {c : Nat} {Z : zZ}, CZ T n M' t c Z → RZ T n N' Z → (∀ i' nt', Z = .inr (i', nt') → JJ T n M' N' t v i' nt' ∧ i < i') → End2 T n M' N' t v i := fun {M' N' c Z} a b d => by
    cases Z with
    | inl f => exact Or.inl ⟨f.1, f.2, cz_l a, rz_l b⟩
    | inr p => exact Or.inr ⟨p.1, p.2, d p.1 p.2 rfl⟩
  have cfail : ∀ k, 1 ≤ k ∧ k ≤ 9 → f_X2_fail (nI k) M = some ((), zm_sI M 8 5 (nI k)) ∧ CF (zm_sI M 8 5 (nI k)) t (tkF T n) (tkE T n) i k ∧ Fc t M (zm_sI M 8 5 (nI k)) := fun k hk => by
    refine ⟨?_, cf_tk c1 c2 c3 hk, fc_sI (Or.inr ⟨rfl, by omega, by omega⟩)⟩
    rw [c_fail, if_pos c1.2.2.1]
  have ht := c1.2.2.2.1
  have hT := cs_isT c1
  by_cases s0 : (tkF T n i).1 = 256
  · rw [if_pos s0] at disp
    by_cases hH : Q.1.length < 5
    · obtain ⟨M', e1, f1, z1, w1⟩ := c_house hC s0 hH
      obtain ⟨N', e2, f2, z2, w2⟩ := r_house hn0 hR s0 hH
      exact ⟨M', N', by rw [disp, e1, zb2_some], e2, f1, f2, fin z1 z2 (fun i' nt' hz => ⟨⟨cl, k, nb, _, _, w1 i' nt' hz, w2 i' nt' hz, (p_house hP hz).1⟩, (p_house hP hz).2⟩)⟩
    · obtain ⟨N', e2, f2, z2⟩ := r_full hR (Or.inl ⟨s0, by have := hC.2.2.1.2; omega⟩)
      obtain ⟨g1, g2, g3⟩ := cfail 2 (by omega)
      refine ⟨_, N', ?_, e2, g3, fv_3 f2, Or.inl ⟨2, i, g2, rz_l z2⟩⟩
      rw [disp]
      unfold f_X2_tellHouse
      simp only [zv_eq]
      rw [ht, hT, zk_true, hC.2.2.1.1, if_neg (show ¬ nI Q.1.length < (5 : Int32) from nI_nlt (b := 5) (by omega) (by have := hC.2.2.1.2; omega)), show f_X2_fail 2 M = _ from g1, zb2_some, zb2_some]
  rw [if_neg s0] at disp
  by_cases s1 : (tkF T n i).1 = 257
  · rw [if_pos s1] at disp
    by_cases hH : Q.2.1.length < 6
    · obtain ⟨M', e1, f1, z1, w1⟩ := c_work hC (fun z => (hP z).1) s1 hH
      obtain ⟨N', e2, f2, z2, w2⟩ := r_work hn0 hR (fun z => (hP z).1) s1 hH
      exact ⟨M', N', by rw [disp, e1, zb2_some], e2, f1, f2, fin z1 z2 (fun i' nt' hz => ⟨⟨cl, k, nb, _, _, w1 i' nt' hz, w2 i' nt' hz, (p_work hP hz).1⟩, (p_work hP hz).2⟩)⟩
    · obtain ⟨N', e2, f2, z2⟩ := r_full hR (Or.inr (Or.inl ⟨s1, by have := hC.2.2.2.1.2; omega⟩))
      obtain ⟨g1, g2, g3⟩ := cfail 2 (by omega)
      refine ⟨_, N', ?_, e2, g3, fv_3 f2, Or.inl ⟨2, i, g2, rz_l z2⟩⟩
      rw [disp]
      unfold f_X2_tellWork
      simp only [zv_eq]
      rw [ht, hT, zk_true, hC.2.2.2.1.1, if_neg (show ¬ nI Q.2.1.length < (6 : Int32) from nI_nlt (b := 6) (by omega) (by have := hC.2.2.2.1.2; omega)), show f_X2_fail 2 M = _ from g1, zb2_some, zb2_some]
  rw [if_neg s1] at disp
  by_cases s2 : (tkF T n i).1 = 258
  · rw [if_pos s2] at disp
    by_cases hH : Q.2.2.1.length < 6
    · obtain ⟨M', e1, f1, ⟨c, z1⟩, w1⟩ := c_term hC (fun z => (hP z).2.1) s2 hH
      obtain ⟨N', e2, f2, z2, w2⟩ := r_term hn0 hR (fun z => (hP z).2.1) s2 hH
      refine ⟨M', N', by rw [disp, e1, zb2_some], e2, f1, f2, fin z1 z2 (fun i' nt' hz => ?_)⟩
      obtain ⟨a1, a2, a3⟩ := w1 i' nt' hz
      obtain ⟨k', b1⟩ := w2 i' nt' hz
      have p := p_term hP h400 a2 a3 hz
      exact ⟨⟨_, k', nb, _, _, a1, b1, p.1⟩, p.2⟩
    · obtain ⟨N', e2, f2, z2⟩ := r_full hR (Or.inr (Or.inr ⟨s2, by have := hC.2.2.2.2.1.2; omega⟩))
      obtain ⟨g1, g2, g3⟩ := cfail 2 (by omega)
      refine ⟨_, N', ?_, e2, g3, fv_3 f2, Or.inl ⟨2, i, g2, rz_l z2⟩⟩
      rw [disp]
      unfold f_X2_tellTerm
      simp only [zv_eq]
      rw [ht, hT, zk_true, hC.2.2.2.2.1.1, if_neg (show ¬ nI Q.2.2.1.length < (6 : Int32) from nI_nlt (b := 6) (by omega) (by have := hC.2.2.2.2.1.2; omega)), show f_X2_fail 2 M = _ from g1, zb2_some, zb2_some]
  rw [if_neg s2] at disp
  by_cases s3 : (tkF T n i).1 = 259
  · rw [if_pos s3] at disp
    obtain ⟨r, M', e1, f1, ⟨c, z1⟩, w1⟩ := c_lawS (m := 14) hC s3 (by omega) (Or.inl rfl)
    obtain ⟨N', e2, f2, z2, w2⟩ := r_lawS (a1 := 0) hR s3 (Or.inl ⟨rfl, rfl⟩)
    refine ⟨_, N', by rw [disp, e1, zb2_some], e2, f1, f2, fin z1 z2 (fun i' nt' hz => ?_)⟩
    obtain ⟨cl', a1, a2, a3⟩ := w1 i' nt' hz
    obtain ⟨k', nb', b1⟩ := w2 i' nt' hz
    have p := p_law (a1 := 0) hP h400 (Or.inl rfl) a2 a3 hz
    exact ⟨⟨_, k', nb', _, _, a1, b1, p.1⟩, p.2⟩
  rw [if_neg s3] at disp
  by_cases s4 : (tkF T n i).1 = 260
  · rw [if_pos s4] at disp
    obtain ⟨r, M', e1, f1, ⟨c, z1⟩, w1⟩ := c_lawS (m := 15) hC s4 (by omega) (Or.inr rfl)
    obtain ⟨N', e2, f2, z2, w2⟩ := r_lawS (a1 := 1) hR s4 (Or.inr ⟨rfl, rfl⟩)
    refine ⟨_, N', by rw [disp, e1, zb2_some], e2, f1, f2, fin z1 z2 (fun i' nt' hz => ?_)⟩
    obtain ⟨cl', a1, a2, a3⟩ := w1 i' nt' hz
    obtain ⟨k', nb', b1⟩ := w2 i' nt' hz
    have p := p_law (a1 := 1) hP h400 (Or.inr rfl) a2 a3 hz
    exact ⟨⟨_, k', nb', _, _, a1, b1, p.1⟩, p.2⟩
  rw [if_neg s4] at disp
  by_cases s5 : (tkF T n i).1 = 261
  · rw [if_pos s5] at disp
    have hm : (16 = 16 ∧ 261 = 261 ∧ 0 = 0 ∧ 100 = 100) ∨ (16 = 17 ∧ 261 = 262 ∧ 0 = 1 ∧ 100 = 3) ∨ (16 = 18 ∧ 261 = 263 ∧ 0 = 0 ∧ 100 = 9999) := by omega
    obtain ⟨r, M', e1, f1, z1, w1⟩ := c_only (m := 16) (lo := 0) (hi := 100) hC s5 (by omega) (by omega) (by omega) (by omega)
    obtain ⟨N', e2, f2, z2, w2⟩ := r_only hn0 hR s5 hm
    have e1' : f_X2_onlyNumber 0 100 M = some (r, M') := e1
    exact ⟨_, N', by rw [disp, e1', zb2_some], e2, f1, f2, fin z1 z2 (fun i' nt' hz => ⟨⟨cl, k, nb, _, _, w1 i' nt' hz, w2 i' nt' hz, (p_only hP hm hz).1⟩, (p_only hP hm hz).2⟩)⟩
  rw [if_neg s5] at disp
  by_cases s6 : (tkF T n i).1 = 262
  · rw [if_pos s6] at disp
    have hm : (17 = 16 ∧ 262 = 261 ∧ 1 = 0 ∧ 3 = 100) ∨ (17 = 17 ∧ 262 = 262 ∧ 1 = 1 ∧ 3 = 3) ∨ (17 = 18 ∧ 262 = 263 ∧ 1 = 0 ∧ 3 = 9999) := by omega
    obtain ⟨r, M', e1, f1, z1, w1⟩ := c_only (m := 17) (lo := 1) (hi := 3) hC s6 (by omega) (by omega) (by omega) (by omega)
    obtain ⟨N', e2, f2, z2, w2⟩ := r_only hn0 hR s6 hm
    have e1' : f_X2_onlyNumber 1 3 M = some (r, M') := e1
    exact ⟨_, N', by rw [disp, e1', zb2_some], e2, f1, f2, fin z1 z2 (fun i' nt' hz => ⟨⟨cl, k, nb, _, _, w1 i' nt' hz, w2 i' nt' hz, (p_only hP hm hz).1⟩, (p_only hP hm hz).2⟩)⟩
  rw [if_neg s6] at disp
  by_cases s7 : (tkF T n i).1 = 263
  · rw [if_pos s7] at disp
    have hm : (18 = 16 ∧ 263 = 261 ∧ 0 = 0 ∧ 9999 = 100) ∨ (18 = 17 ∧ 263 = 262 ∧ 0 = 1 ∧ 9999 = 3) ∨ (18 = 18 ∧ 263 = 263 ∧ 0 = 0 ∧ 9999 = 9999) := by omega
    obtain ⟨r, M', e1, f1, z1, w1⟩ := c_only (m := 18) (lo := 0) (hi := 9999) hC s7 (by omega) (by omega) (by omega) (by omega)
    obtain ⟨N', e2, f2, z2, w2⟩ := r_only hn0 hR s7 hm
    have e1' : f_X2_onlyNumber 0 9999 M = some (r, M') := e1
    exact ⟨_, N', by rw [disp, e1', zb2_some], e2, f1, f2, fin z1 z2 (fun i' nt' hz => ⟨⟨cl, k, nb, _, _, w1 i' nt' hz, w2 i' nt' hz, (p_only hP hm hz).1⟩, (p_only hP hm hz).2⟩)⟩
  rw [if_neg s7] at disp
  obtain ⟨N', e2, f2, z2⟩ := r_other hR.1 (by omega)
  obtain ⟨g1, g2, g3⟩ := cfail 1 (by omega)
  refine ⟨_, N', ?_, e2, g3, fv_3 f2, Or.inl ⟨1, i, g2, rz_l z2⟩⟩
  rw [disp, show f_X2_fail 1 M = _ from g1, zb2_some]
