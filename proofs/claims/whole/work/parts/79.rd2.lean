/-! words are told apart by their numbers -/
theorem wn_app (b : Nat) (l : List Nat) (c : Nat) : iv_wn b (l ++ [c]) = b * iv_wn b l + (c - 96) := by
  unfold iv_wn
  rw [List.foldl_append]; rfl
def ltsL (l : List Nat) : Prop := ∀ c ∈ l, 97 ≤ c ∧ c ≤ 122
theorem ltsL_app {l : List Nat} {c : Nat} (h : ltsL (l ++ [c])) : ltsL l ∧ 97 ≤ c ∧ c ≤ 122 :=
  ⟨fun x hx => h x (List.mem_append_left _ hx), h c (List.mem_append_right _ (List.mem_singleton.2 rfl))⟩
theorem wn_inj {b : Nat} (hb : 27 ≤ b) : ∀ (k : Nat) (l l' : List Nat), l.length ≤ k → ltsL l → ltsL l' → iv_wn b l = iv_wn b l' → l = l'
  | k, l, l', hk, h1, h2, e => by
    rcases List.eq_nil_or_concat l with rfl | ⟨m, c, rfl⟩
    · rcases List.eq_nil_or_concat l' with rfl | ⟨m', c', rfl⟩
      · rfl
      · exfalso
        rw [List.concat_eq_append] at h2 e
        have := (ltsL_app h2).2
        rw [wn_app] at e
        have e' : (0 : Nat) = b * iv_wn b m' + (c' - 96) := e
        omega
    · rcases List.eq_nil_or_concat l' with rfl | ⟨m', c', rfl⟩
      · exfalso
        rw [List.concat_eq_append] at h1 e
        have := (ltsL_app h1).2
        rw [wn_app] at e
        have e' : b * iv_wn b m + (c - 96) = (0 : Nat) := e
        omega
      · simp only [List.concat_eq_append] at h1 h2 e hk ⊢
        obtain ⟨a1, a2⟩ := ltsL_app h1
        obtain ⟨b1, b2⟩ := ltsL_app h2
        rw [wn_app, wn_app] at e
        have q1 : (b * iv_wn b m + (c - 96)) / b = iv_wn b m := by
          rw [Nat.mul_add_div (by omega), Nat.div_eq_of_lt (by omega), Nat.add_zero]
        have q2 : (b * iv_wn b m' + (c' - 96)) / b = iv_wn b m' := by
          rw [Nat.mul_add_div (by omega), Nat.div_eq_of_lt (by omega), Nat.add_zero]
        have em : iv_wn b m = iv_wn b m' := by rw [← q1, ← q2, e]
        rw [em] at e
        have ec : c = c' := by omega
        rw [List.length_append] at hk
        cases k with
        | zero => simp at hk
        | succ k =>
          have := wn_inj hb k m m' (by simp at hk; omega) a1 b1 em
          rw [this, ec]
theorem wn_lt {b : Nat} (hb : 27 ≤ b) : ∀ (k : Nat) (l : List Nat), l.length ≤ k → ltsL l → iv_wn b l < b ^ k
  | 0, l, hk, _ => by
    have : l = [] := List.length_eq_zero_iff.1 (by omega)
    subst this
    show 0 < b ^ 0
    exact Nat.pow_pos (by omega)
  | k + 1, l, hk, h => by
    rcases List.eq_nil_or_concat l with rfl | ⟨m, c, rfl⟩
    · show 0 < b ^ (k + 1)
      exact Nat.pow_pos (by omega)
    · rw [List.concat_eq_append] at h hk ⊢
      obtain ⟨a1, a2⟩ := ltsL_app h
      have := wn_lt hb k m (by simp at hk; omega) a1
      rw [wn_app, Nat.pow_succ, Nat.mul_comm b]
      have h2 : (iv_wn b m + 1) * b ≤ b ^ k * b := Nat.mul_le_mul_right b this
      rw [Nat.add_mul, Nat.one_mul] at h2
      omega
theorem l_ofNat_inj {a b : Nat} (ha : a < 2 ^ 63) (hb : b < 2 ^ 63) : Int64.ofNat a = Int64.ofNat b ↔ a = b := by
  constructor
  · intro h
    have h1 : (BitVec.ofNat 64 a).toNat = (BitVec.ofNat 64 b).toNat := congrArg (fun x : Int64 => x.toBitVec.toNat) h
    rw [BitVec.toNat_ofNat, BitVec.toNat_ofNat, Nat.mod_eq_of_lt (by omega), Nat.mod_eq_of_lt (by omega)] at h1
    exact h1
  · rintro rfl; rfl
theorem ws_ok : ∀ j, j < 20 → (iv_ws.getD j []).length ≤ 8 ∧ ∀ c ∈ iv_ws.getD j [], 97 ≤ c ∧ c ≤ 122 := by decide +kernel
theorem ws_inj : ∀ i, i < 20 → ∀ j, j < 20 → iv_ws.getD i [] = iv_ws.getD j [] → i = j := by decide +kernel
/-- the first word among the first k that a text is -/
def wIx (l : List Nat) : Nat → Option Nat
  | 0 => none
  | k + 1 => match wIx l k with
    | some i => some i
    | none => if iv_ws.getD k [] = l then some k else none
theorem wIx_some {l : List Nat} : ∀ {k i : Nat}, wIx l k = some i → i < k ∧ iv_ws.getD i [] = l
  | k + 1, i, h => by
    unfold wIx at h
    cases hw : wIx l k with
    | some j =>
      rw [hw] at h
      have hji : j = i := Option.some.inj h
      subst hji
      obtain ⟨h1, h2⟩ := wIx_some hw
      exact ⟨by omega, h2⟩
    | none =>
      rw [hw] at h
      simp only at h
      by_cases he : iv_ws.getD k [] = l
      · rw [if_pos he] at h
        have hki : k = i := Option.some.inj h
        subst hki
        exact ⟨by omega, he⟩
      · rw [if_neg he] at h; cases h
theorem wIx_none {l : List Nat} : ∀ {k : Nat}, wIx l k = none → ∀ i, i < k → iv_ws.getD i [] ≠ l
  | k + 1, h, i, hi => by
    unfold wIx at h
    cases hw : wIx l k with
    | some j => rw [hw] at h; cases h
    | none =>
      rw [hw] at h
      simp only at h
      by_cases he : iv_ws.getD k [] = l
      · rw [if_pos he] at h; cases h
      · by_cases hik : i = k
        · subst hik; exact he
        · exact wIx_none hw i (by omega)
abbrev ksC (o : Option Nat) : Nat := match o with
  | some i => 256 + i
  | none => 2
abbrev ksR (o : Option Nat) : Nat := match o with
  | some i => 20 + i
  | none => 1
/-- a word's number is a text's number just if the word is the text -/
theorem ws_eq {b j : Nat} {l : List Nat} (hb : b = 27 ∨ b = 32) (hj : j < 20) (hl : l.length ≤ 8) (h : ltsL l) : Int64.ofNat (iv_wn b (iv_ws.getD j [])) = Int64.ofNat (iv_wn b l) ↔ iv_ws.getD j [] = l := by
  obtain ⟨w1, w2⟩ := ws_ok j hj
  have hb' : 27 ≤ b := by omega
  have hp : b ^ 8 ≤ 2 ^ 40 := by rcases hb with rfl | rfl <;> decide
  have l1 := wn_lt hb' 8 _ w1 w2
  have l2 := wn_lt hb' 8 l hl h
  rw [l_ofNat_inj (by omega) (by omega)]
  exact ⟨fun e => wn_inj hb' 8 _ _ w1 w2 h e, fun e => by rw [e]⟩
theorem nm_eq {l l' : List Nat} (hl : l.length ≤ 8) (h : ltsL l) (hl' : l'.length ≤ 8) (h' : ltsL l') : (Int64.ofNat (iv_wn 32 l) = Int64.ofNat (iv_wn 32 l') ↔ l = l') ∧ (Int64.ofNat (iv_wn 27 l) = Int64.ofNat (iv_wn 27 l') ↔ l = l') := by
  have a1 := wn_lt (b := 32) (by omega) 8 l hl h
  have a2 := wn_lt (b := 32) (by omega) 8 l' hl' h'
  have b1 := wn_lt (b := 27) (by omega) 8 l hl h
  have b2 := wn_lt (b := 27) (by omega) 8 l' hl' h'
  have e1 : (32 : Nat) ^ 8 = 2 ^ 40 := by decide
  have e2 : (27 : Nat) ^ 8 ≤ 2 ^ 40 := by decide
  rw [l_ofNat_inj (by omega) (by omega), l_ofNat_inj (by omega) (by omega)]
  exact ⟨⟨fun e => wn_inj (by omega) 8 _ _ hl h h' e, fun e => by rw [e]⟩, ⟨fun e => wn_inj (by omega) 8 _ _ hl h h' e, fun e => by rw [e]⟩⟩
theorem c_sortOf {M : zm_Mem} {l : List Nat} (hM : iv_words M) (hl : l.length ≤ 8) (h : ltsL l) : f_X7_sortOf (Int64.ofNat (iv_wn 32 l)) M = some (nI (ksC (wIx l 20))) := by
  have st : ∀ j, j < 20 → f_X7_sortOf_l2 (Int64.ofNat (iv_wn 32 l)) M (nI j) = if iv_ws.getD j [] = l then some (.inr (.inl (nI j))) else some (.inl (nI (j + 1))) := by
    intro j hj
    unfold f_X7_sortOf_l2
    rw [if_neg (show ¬ (20 : Int32) ≤ nI j from nI_ge (b := 20) hj (by omega)), zm_ck_t (zm_in_nI hj (by omega)), nI_clamp (by omega), (hM j hj).1, nI_k1]
    simp only [zv_eq]
    by_cases he : iv_ws.getD j [] = l
    · rw [if_pos ((lg_cmp_eq _ _).2 ((ws_eq (Or.inr rfl) hj hl h).2 he)), if_pos he]
    · rw [if_neg (fun z => he ((ws_eq (Or.inr rfl) hj hl h).1 ((lg_cmp_eq _ _).1 z))), if_neg he]
  have key : ∃ e, zm_lp (f_X7_sortOf_l2 (Int64.ofNat (iv_wn 32 l)) M) (nI 0) = some e ∧ (Sum.elim (fun e19 => some (256 + e19)) (fun _ => some (2 : Int32))) e = some (nI (ksC (wIx l 20))) := by
    refine lp_inv (fun j z => z = nI j ∧ ∀ i, i < j → iv_ws.getD i [] ≠ l) _ 20 ?_ ?_ ⟨rfl, fun i hi => by omega⟩
    · rintro j z hj ⟨rfl, h2⟩
      by_cases he : iv_ws.getD j [] = l
      · refine Or.inr ⟨_, by rw [st j hj, if_pos he], ?_⟩
        have hw : wIx l 20 = some j := by
          cases hw : wIx l 20 with
          | none => exact absurd he (wIx_none hw j hj)
          | some i =>
            obtain ⟨i1, i2⟩ := wIx_some hw
            rw [ws_inj i i1 j hj (i2.trans he.symm)]
        rw [hw]
        show some ((256 : Int32) + nI j) = some (nI (256 + j))
        rw [show (256 : Int32) + nI j = nI (256 + j) from nI_add 256 j]
      · refine Or.inl ⟨_, by rw [st j hj, if_neg he], rfl, fun i hi => ?_⟩
        by_cases hij : i = j
        · subst hij; exact he
        · exact h2 i (by omega)
    · rintro z ⟨rfl, h2⟩
      refine ⟨.inr (), ?_, ?_⟩
      · unfold f_X7_sortOf_l2
        rw [if_pos (by decide)]
      · have hw : wIx l 20 = none := by
          cases hw : wIx l 20 with
          | none => rfl
          | some i =>
            obtain ⟨i1, i2⟩ := wIx_some hw
            exact absurd i2 (h2 i i1)
        rw [hw]; rfl
  obtain ⟨e, k1, k2⟩ := key
  unfold f_X7_sortOf
  have k1' : zm_lp (f_X7_sortOf_l2 (Int64.ofNat (iv_wn 32 l)) M) 0 = some e := k1
  rw [k1']; exact k2
theorem r_sortOf {M : zm_Mem} {l : List Nat} (hM : iv_words M) (hl : l.length ≤ 8) (h : ltsL l) : zm_lp (fun s => f_X11_cut_l146_7 M (Int64.ofNat (iv_wn 27 l)) s.1 s.2) (1, 0) = some (nI (ksR (wIx l 20))) := by
  refine lp_for (step := fun s => f_X11_cut_l146_7 M (Int64.ofNat (iv_wn 27 l)) s.1 s.2) (fun j => (nI (ksR (wIx l j)), nI j)) 20 (fun j hj => ?_) ?_
  · show f_X11_cut_l146_7 M (Int64.ofNat (iv_wn 27 l)) (nI (ksR (wIx l j))) (nI j) = some (.inl (nI (ksR (wIx l (j + 1))), nI (j + 1)))
    unfold f_X11_cut_l146_7 f_X11_cut_b173_146_7
    rw [if_neg (show ¬ (20 : Int32) ≤ nI j from nI_ge (b := 20) hj (by omega)), zm_ck_t (zm_in_nI hj (by omega)), nI_clamp (by omega), (hM j hj).2, nI_k1]
    simp only [zv_eq]
    by_cases he : iv_ws.getD j [] = l
    · have hn : wIx l j = none := by
        cases hw : wIx l j with
        | none => rfl
        | some i =>
          obtain ⟨i1, i2⟩ := wIx_some hw
          have := ws_inj i (by omega) j hj (i2.trans he.symm)
          omega
      have hs : wIx l (j + 1) = some j := by unfold wIx; rw [hn]; simp only; rw [if_pos he]
      rw [if_pos ((lg_cmp_eq _ _).2 ((ws_eq (Or.inl rfl) hj hl h).2 he)), hs, show (20 : Int32) + nI j = nI (20 + j) from nI_add 20 j]
    · have hs : wIx l (j + 1) = wIx l j := by
        cases hw : wIx l j with
        | none => unfold wIx; rw [hw]; simp only; rw [if_neg he]
        | some i => unfold wIx; rw [hw]
      rw [if_neg (fun z => he ((ws_eq (Or.inl rfl) hj hl h).1 ((lg_cmp_eq _ _).1 z))), hs]
  · show f_X11_cut_l146_7 M (Int64.ofNat (iv_wn 27 l)) _ (nI 20) = _
    unfold f_X11_cut_l146_7
    rw [if_pos (by decide)]
