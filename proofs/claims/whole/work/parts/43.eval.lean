/-! what may have changed: W -/
def Fr (W : Nat → Nat → Bool) (M M' : zm_Mem) : Prop := M'.2 = M.2 ∧ ∀ x j, W x j = false → M'.1 x j = M.1 x j
theorem fr_rfl (W : Nat → Nat → Bool) (M : zm_Mem) : Fr W M M := ⟨rfl, fun _ _ _ => rfl⟩
theorem fr_tr {W : Nat → Nat → Bool} {M M1 M2 : zm_Mem} (h : Fr W M M1) (h' : Fr W M1 M2) : Fr W M M2 := ⟨h'.1.trans h.1, fun x j hw => (h'.2 x j hw).trans (h.2 x j hw)⟩
theorem fr_sI {W : Nat → Nat → Bool} {M : zm_Mem} {a i : Nat} {v : Int32} (h : W a i = true) : Fr W M (zm_sI M a i v) := by
  refine ⟨rfl, fun x j hw => ?_⟩
  show (if x = a ∧ j = i then v else M.1 x j) = _
  rw [if_neg]
  rintro ⟨rfl, rfl⟩
  rw [h] at hw; cases hw
theorem fr_mono {W W' : Nat → Nat → Bool} {M M' : zm_Mem} (hW : ∀ x j, W x j = true → W' x j = true) (h : Fr W M M') : Fr W' M M' := by
  refine ⟨h.1, fun x j hw => h.2 x j ?_⟩
  cases hc : W x j with
  | false => rfl
  | true => rw [hW x j hc] at hw; cases hw
theorem fr_sc {W : Nat → Nat → Bool} {M M' : zm_Mem} (hW : ∀ x j, W x j = true → iv_c x j = false) (h : Fr W M M') : Sc M M' := by
  refine sc_of (fun x j hc => h.2 x j ?_) (fun x j _ => by rw [h.1]) (fun x j _ => by rw [h.1]) (fun z => by rw [h.1]; exact z)
  cases hw : W x j with
  | false => rfl
  | true => rw [hW x j hw] at hc; cases hc
theorem mI1 (M : zm_Mem) (a i : Nat) (v : Int32) (x j : Nat) : (zm_sI M a i v).1 x j = if x = a ∧ j = i then v else M.1 x j := Eq.trans rfl rfl
theorem mI2 (M : zm_Mem) (a i : Nat) (v : Int32) : (zm_sI M a i v).2 = M.2 := Eq.trans rfl rfl
theorem zi_m14 (x : Nat) : nI x &&& nI 16383 = nI (x % 16384) := by
  rw [zi_and]
  exact congrArg nI (Nat.and_two_pow_sub_one_eq_mod x 14)
/-! what a sum comes to: a stack of numbers -/
def eo (o : Nat) (a b : Int32) : Int32 := if o = 2 then a + b else if o = 3 then a - b else if o = 4 then a * b else a / b
def ex1 (vs : Nat → Int32) : zE → List Int32 → Option (List Int32)
  | [], st => some st
  | p :: l, st => if p.1 < 2 then ex1 vs l ((if p.1 = 0 then nI p.2 else vs p.2) :: st) else match st with
    | b :: a :: st' => if p.1 = 5 ∧ b = 0 then none else ex1 vs l (eo p.1 a b :: st')
    | _ => none
def Stk (f : Nat → Int32) : List Int32 → Prop
  | [] => True
  | x :: st => f st.length = x ∧ Stk f st
theorem stk_up {f g : Nat → Int32} : ∀ {st : List Int32} {k : Nat}, st.length ≤ k → (∀ i, i < k → g i = f i) → Stk f st → Stk g st
  | [], _, _, _, _ => trivial
  | x :: st, k, hk, hg, h => by
    simp only [List.length_cons] at hk
    exact ⟨(hg _ (by omega)).trans h.1, stk_up (k := k) (by omega) hg h.2⟩
theorem stk_push {M : zm_Mem} {a : Nat} {st : List Int32} {x : Int32} (h : Stk (M.1 a) st) : Stk ((zm_sI M a st.length x).1 a) (x :: st) := by
  refine ⟨?_, stk_up (k := st.length) (Nat.le_refl _) (fun i hi => ?_) h⟩
  · rw [mI1, if_pos ⟨rfl, rfl⟩]
  · rw [mI1, if_neg (by omega)]
theorem op_dec {x : Int32} {o a : Nat} (hx : x = nI (o * 16384 + a)) (ho : o ≤ 7) (ha : a < 10000) : x >>> (nI 14 &&& nI 31) = nI o ∧ x &&& nI 16383 = nI a := by
  rw [hx, zi_shr (by omega) (by omega), zi_m14]
  exact ⟨congrArg nI (by omega), congrArg nI (by omega)⟩
/-! the class: one step of goThrough -/
theorem gs_push {M : zm_Mem} {t at' top s cl o a : Nat} (hc : M.1 (t + 10) at' = nI (o * 16384 + a)) (ho : o < 2) (ha : a < 10000) (h9 : o = 1 → a < 9) (htop : top < 24) (hs : s < 408) (hat : at' < cl) (hcl : cl ≤ 408) (hM : M.1 t 10 = nI cl) : f_X5_goThrough_l8 t (nI at') (nI top) (nI s) M = some (.inl (nI (at' + 1), nI (top + 1), nI (s + 1), zm_sI M 50 top (if o = 0 then nI a else M.1 49 a))) := by
  have h1 : ¬ 408 ≤ s := by omega
  have h2 : ¬ cl ≤ at' := by omega
  have h3 : ¬ 24 ≤ top := by omega
  obtain ⟨e1, e2⟩ := op_dec hc (by omega) ha
  unfold f_X5_goThrough_l8 f_X5_goThrough_b91_8 f_X5_goThrough_b113_8 f_X5_goThrough_b136_8 f_X5_goThrough_b294_8
  rcases (show o = 0 ∨ o = 1 by omega) with rfl | rfl
  · simp (disch := omega) only [↓zv_eq, ↓zb1_some, ↓zb2_some, ↓zk_true, Option.bind_some, Option.bind_none, Option.map_some, Sum.elim_inl, Sum.elim_inr, if_true, if_false, ↓reduceIte, lt_lit, nI_clamp, zi_in, nI_leI, nI_ltI, nI_eq, nI_add, pk_mul, zi_sub, pk_div, zi_rem, zi_sh1, zi_shr, zi_and1, zi_or, zi_en, zi_ne, zi_ln, zi_nl, zi_lne, zi_nle, zi_nn, zq_01, zq_10, zq_011, zq_at, zq_ta, ite_not, Classical.not_not, hM, h1, h2, h3, e1, e2, Nat.not_lt_zero, Nat.reduceEqDiff]
  · have h5 := h9 rfl
    simp (disch := omega) only [↓zv_eq, ↓zb1_some, ↓zb2_some, ↓zk_true, Option.bind_some, Option.bind_none, Option.map_some, Sum.elim_inl, Sum.elim_inr, if_true, if_false, ↓reduceIte, lt_lit, nI_clamp, zi_in, nI_leI, nI_ltI, nI_eq, nI_add, pk_mul, zi_sub, pk_div, zi_rem, zi_sh1, zi_shr, zi_and1, zi_or, zi_en, zi_ne, zi_ln, zi_nl, zi_lne, zi_nle, zi_nn, zq_01, zq_10, zq_011, zq_at, zq_ta, ite_not, Classical.not_not, hM, h1, h2, h3, e1, e2, h5, Nat.not_lt_zero, Nat.reduceEqDiff]
theorem gs_bin {M : zm_Mem} {t at' d s cl o a : Nat} (hc : M.1 (t + 10) at' = nI (o * 16384 + a)) (ho : 2 ≤ o) (ho5 : o ≤ 5) (ha : a < 10000) (hd : d < 22) (hs : s < 408) (hat : at' < cl) (hcl : cl ≤ 408) (hM : M.1 t 10 = nI cl) (h0 : ¬ (o = 5 ∧ M.1 50 (d + 1) = 0)) : f_X5_goThrough_l8 t (nI at') (nI (d + 2)) (nI s) M = some (.inl (nI (at' + 1), nI (d + 1), nI (s + 1), zm_sI M 50 d (eo o (M.1 50 d) (M.1 50 (d + 1))))) := by
  have h1 : ¬ 408 ≤ s := by omega
  have h2 : ¬ cl ≤ at' := by omega
  have h3 : 2 ≤ d + 2 := by omega
  obtain ⟨e1, e2⟩ := op_dec hc (by omega) ha
  have e3 : nI (d + 2) + -nI 1 = nI (d + 1) := pk_m1 (d + 1)
  have e4 : d + 1 - 1 = d := rfl
  unfold f_X5_goThrough_l8 f_X5_goThrough_b294_8
  rcases (show o = 2 ∨ o = 3 ∨ o = 4 ∨ o = 5 by omega) with rfl | rfl | rfl | rfl
  · simp (disch := omega) only [↓zv_eq, ↓zb1_some, ↓zb2_some, ↓zk_true, Option.bind_some, Option.bind_none, Option.map_some, Sum.elim_inl, Sum.elim_inr, if_true, if_false, ↓reduceIte, lt_lit, nI_clamp, zi_in, nI_leI, nI_ltI, nI_eq, nI_add, pk_mul, zi_sub, pk_div, zi_rem, zi_sh1, zi_shr, zi_and1, zi_or, zi_en, zi_ne, zi_ln, zi_nl, zi_lne, zi_nle, zi_nn, zq_01, zq_10, zq_011, zq_at, zq_ta, ite_not, Classical.not_not, hM, h1, h2, h3, e1, e2, e3, e4, Nat.not_lt_zero, Nat.reduceEqDiff, eo]
  · simp (disch := omega) only [↓zv_eq, ↓zb1_some, ↓zb2_some, ↓zk_true, Option.bind_some, Option.bind_none, Option.map_some, Sum.elim_inl, Sum.elim_inr, if_true, if_false, ↓reduceIte, lt_lit, nI_clamp, zi_in, nI_leI, nI_ltI, nI_eq, nI_add, pk_mul, zi_sub, pk_div, zi_rem, zi_sh1, zi_shr, zi_and1, zi_or, zi_en, zi_ne, zi_ln, zi_nl, zi_lne, zi_nle, zi_nn, zq_01, zq_10, zq_011, zq_at, zq_ta, ite_not, Classical.not_not, hM, h1, h2, h3, e1, e2, e3, e4, Nat.not_lt_zero, Nat.reduceEqDiff, eo]
  · simp (disch := omega) only [↓zv_eq, ↓zb1_some, ↓zb2_some, ↓zk_true, Option.bind_some, Option.bind_none, Option.map_some, Sum.elim_inl, Sum.elim_inr, if_true, if_false, ↓reduceIte, lt_lit, nI_clamp, zi_in, nI_leI, nI_ltI, nI_eq, nI_add, pk_mul, zi_sub, pk_div, zi_rem, zi_sh1, zi_shr, zi_and1, zi_or, zi_en, zi_ne, zi_ln, zi_nl, zi_lne, zi_nle, zi_nn, zq_01, zq_10, zq_011, zq_at, zq_ta, ite_not, Classical.not_not, hM, h1, h2, h3, e1, e2, e3, e4, Nat.not_lt_zero, Nat.reduceEqDiff, eo]
  · have h4 : ¬ M.1 50 (d + 1) = nI 0 := fun z => h0 ⟨rfl, z⟩
    simp (disch := omega) only [↓zv_eq, ↓zb1_some, ↓zb2_some, ↓zk_true, Option.bind_some, Option.bind_none, Option.map_some, Sum.elim_inl, Sum.elim_inr, if_true, if_false, ↓reduceIte, lt_lit, nI_clamp, zi_in, nI_leI, nI_ltI, nI_eq, nI_add, pk_mul, zi_sub, pk_div, zi_rem, zi_sh1, zi_shr, zi_and1, zi_or, zi_en, zi_ne, zi_ln, zi_nl, zi_lne, zi_nle, zi_nn, zq_01, zq_10, zq_011, zq_at, zq_ta, ite_not, Classical.not_not, hM, h1, h2, h3, e1, e2, e3, e4, Nat.not_lt_zero, Nat.reduceEqDiff, eo, h4, decide_false, Bool.not_false]
theorem gs_div0 {M : zm_Mem} {t at' d s cl a : Nat} (hc : M.1 (t + 10) at' = nI (5 * 16384 + a)) (ha : a < 10000) (hd : d < 22) (hs : s < 408) (hat : at' < cl) (hcl : cl ≤ 408) (hM : M.1 t 10 = nI cl) (h0 : M.1 50 (d + 1) = 0) : f_X5_goThrough_l8 t (nI at') (nI (d + 2)) (nI s) M = some (.inr (.inr (.inr (.inr (.inl M))))) := by
  have h1 : ¬ 408 ≤ s := by omega
  have h2 : ¬ cl ≤ at' := by omega
  have h3 : 2 ≤ d + 2 := by omega
  obtain ⟨e1, e2⟩ := op_dec hc (by omega) ha
  have e3 : nI (d + 2) + -nI 1 = nI (d + 1) := pk_m1 (d + 1)
  have e4 : d + 1 - 1 = d := rfl
  unfold f_X5_goThrough_l8 f_X5_goThrough_b294_8
  simp (disch := omega) only [↓zv_eq, ↓zb1_some, ↓zb2_some, ↓zk_true, Option.bind_some, Option.bind_none, Option.map_some, Sum.elim_inl, Sum.elim_inr, if_true, if_false, ↓reduceIte, lt_lit, nI_clamp, zi_in, nI_leI, nI_ltI, nI_eq, nI_add, pk_mul, zi_sub, pk_div, zi_rem, zi_sh1, zi_shr, zi_and1, zi_or, zi_en, zi_ne, zi_ln, zi_nl, zi_lne, zi_nle, zi_nn, zq_01, zq_10, zq_011, zq_at, zq_ta, ite_not, Classical.not_not, hM, h1, h2, h3, e1, e2, e3, e4, Nat.not_lt_zero, h0, Nat.reduceEqDiff]
theorem gs_unless {M : zm_Mem} {t at' d s cl a : Nat} (hc : M.1 (t + 10) at' = nI (6 * 16384 + a)) (ha : a < 10000) (hd : d < 22) (hs : s < 408) (hat : at' < cl) (hcl : cl ≤ 408) (hM : M.1 t 10 = nI cl) : f_X5_goThrough_l8 t (nI at') (nI (d + 2)) (nI s) M = some (.inl (nI (if M.1 50 d < M.1 50 (d + 1) then at' + 1 else a), nI d, nI (s + 1), M)) := by
  have h1 : ¬ 408 ≤ s := by omega
  have h2 : ¬ cl ≤ at' := by omega
  have h3 : 2 ≤ d + 2 := by omega
  obtain ⟨e1, e2⟩ := op_dec hc (by omega) ha
  have e3 : nI (d + 2) + -nI 1 = nI (d + 1) := pk_m1 (d + 1)
  have e5 : nI (d + 1) + -nI 1 = nI d := pk_m1 d
  have e4 : d + 1 - 1 = d := rfl
  unfold f_X5_goThrough_l8 f_X5_goThrough_b266_8 f_X5_goThrough_b294_8
  simp (disch := omega) only [↓zv_eq, ↓zb1_some, ↓zb2_some, ↓zk_true, Option.bind_some, Option.bind_none, Option.map_some, Sum.elim_inl, Sum.elim_inr, if_true, if_false, ↓reduceIte, lt_lit, nI_clamp, zi_in, nI_leI, nI_ltI, nI_eq, nI_add, pk_mul, zi_sub, pk_div, zi_rem, zi_sh1, zi_shr, zi_and1, zi_or, zi_en, zi_ne, zi_ln, zi_nl, zi_lne, zi_nle, zi_nn, zq_01, zq_10, zq_011, zq_at, zq_ta, ite_not, Classical.not_not, hM, h1, h2, h3, e1, e2, e3, e4, e5, Nat.not_lt_zero, Nat.reduceEqDiff]
  by_cases h : M.1 50 d < M.1 50 (d + 1)
  · rw [if_neg (Int32.not_le.2 h), if_pos h]
  · rw [if_pos (Int32.not_lt.1 h), if_neg h]
theorem gs_end {M : zm_Mem} {t at' top s cl a : Nat} (hc : M.1 (t + 10) at' = nI (7 * 16384 + a)) (ha : a < 10000) (hs : s < 408) (hat : at' < cl) (hcl : cl ≤ 408) (hM : M.1 t 10 = nI cl) : f_X5_goThrough_l8 t (nI at') (nI top) (nI s) M = some (.inr (.inl (nI top, M))) := by
  have h1 : ¬ 408 ≤ s := by omega
  have h2 : ¬ cl ≤ at' := by omega
  obtain ⟨e1, e2⟩ := op_dec hc (by omega) ha
  unfold f_X5_goThrough_l8
  simp (disch := omega) only [↓zv_eq, ↓zb1_some, ↓zb2_some, ↓zk_true, Option.bind_some, Option.bind_none, Option.map_some, Sum.elim_inl, Sum.elim_inr, if_true, if_false, ↓reduceIte, lt_lit, nI_clamp, zi_in, nI_leI, nI_ltI, nI_eq, nI_add, pk_mul, zi_sub, pk_div, zi_rem, zi_sh1, zi_shr, zi_and1, zi_or, zi_en, zi_ne, zi_ln, zi_nl, zi_lne, zi_nle, zi_nn, zq_01, zq_10, zq_011, zq_at, zq_ta, ite_not, Classical.not_not, hM, h1, h2, e1, e2, Nat.not_lt_zero, Nat.reduceEqDiff]
/-! the reference: one step of termOf -/
theorem ts_push {M : zm_Mem} {c to top o a : Nat} (h6 : M.1 86 c = nI o) (h7 : M.1 87 c = nI a) (ho : o < 2) (ha : a < 10000) (h9 : o = 1 → a < 9) (htop : top < 300) (hc : c < to) (hto : to ≤ 840) : f_X11_termOf_l5 (nI to) (nI top) (nI c) M = some (.inl (nI (top + 1), nI (c + 1), zm_sI M 90 top (if o = 0 then nI a else M.1 89 a))) := by
  have h1 : ¬ to ≤ c := by omega
  have h2 : ¬ 2 ≤ o := by omega
  unfold f_X11_termOf_l5 f_X11_termOf_b58_5 f_X11_termOf_b159_5
  rcases (show o = 0 ∨ o = 1 by omega) with rfl | rfl
  · simp (disch := omega) only [↓zv_eq, ↓zb1_some, ↓zb2_some, ↓zk_true, Option.bind_some, Option.bind_none, Option.map_some, Sum.elim_inl, Sum.elim_inr, if_true, if_false, ↓reduceIte, lt_lit, nI_clamp, zi_in, nI_leI, nI_ltI, nI_eq, nI_add, pk_mul, zi_sub, pk_div, zi_rem, zi_sh1, zi_shr, zi_and1, zi_or, zi_en, zi_ne, zi_ln, zi_nl, zi_lne, zi_nle, zi_nn, zq_01, zq_10, zq_011, zq_at, zq_ta, ite_not, Classical.not_not, h6, h7, h1, h2, Nat.reduceEqDiff]
  · have h5 := h9 rfl
    simp (disch := omega) only [↓zv_eq, ↓zb1_some, ↓zb2_some, ↓zk_true, Option.bind_some, Option.bind_none, Option.map_some, Sum.elim_inl, Sum.elim_inr, if_true, if_false, ↓reduceIte, lt_lit, nI_clamp, zi_in, nI_leI, nI_ltI, nI_eq, nI_add, pk_mul, zi_sub, pk_div, zi_rem, zi_sh1, zi_shr, zi_and1, zi_or, zi_en, zi_ne, zi_ln, zi_nl, zi_lne, zi_nle, zi_nn, zq_01, zq_10, zq_011, zq_at, zq_ta, ite_not, Classical.not_not, h6, h7, h1, h2, h5, Nat.reduceEqDiff]
theorem ts_bin {M : zm_Mem} {c to d o a : Nat} (h6 : M.1 86 c = nI o) (h7 : M.1 87 c = nI a) (ho : 2 ≤ o) (ho5 : o ≤ 5) (hd : d < 300) (hc : c < to) (hto : to ≤ 840) (h0 : ¬ (o = 5 ∧ M.1 90 (d + 1) = 0)) : f_X11_termOf_l5 (nI to) (nI (d + 2)) (nI c) M = some (.inl (nI (d + 1), nI (c + 1), zm_sI M 90 d (eo o (M.1 90 d) (M.1 90 (d + 1))))) := by
  have h1 : ¬ to ≤ c := by omega
  have e3 : nI (d + 2) + -nI 1 = nI (d + 1) := pk_m1 (d + 1)
  have e4 : d + 1 - 1 = d := rfl
  unfold f_X11_termOf_l5 f_X11_termOf_b104_5 f_X11_termOf_b158_5 f_X11_termOf_b159_5
  rcases (show o = 2 ∨ o = 3 ∨ o = 4 ∨ o = 5 by omega) with rfl | rfl | rfl | rfl
  · simp (disch := omega) only [↓zv_eq, ↓zb1_some, ↓zb2_some, ↓zk_true, Option.bind_some, Option.bind_none, Option.map_some, Sum.elim_inl, Sum.elim_inr, if_true, if_false, ↓reduceIte, lt_lit, nI_clamp, zi_in, nI_leI, nI_ltI, nI_eq, nI_add, pk_mul, zi_sub, pk_div, zi_rem, zi_sh1, zi_shr, zi_and1, zi_or, zi_en, zi_ne, zi_ln, zi_nl, zi_lne, zi_nle, zi_nn, zq_01, zq_10, zq_011, zq_at, zq_ta, ite_not, Classical.not_not, h6, h7, h1, ho, e3, e4, Nat.reduceEqDiff, eo]
  · simp (disch := omega) only [↓zv_eq, ↓zb1_some, ↓zb2_some, ↓zk_true, Option.bind_some, Option.bind_none, Option.map_some, Sum.elim_inl, Sum.elim_inr, if_true, if_false, ↓reduceIte, lt_lit, nI_clamp, zi_in, nI_leI, nI_ltI, nI_eq, nI_add, pk_mul, zi_sub, pk_div, zi_rem, zi_sh1, zi_shr, zi_and1, zi_or, zi_en, zi_ne, zi_ln, zi_nl, zi_lne, zi_nle, zi_nn, zq_01, zq_10, zq_011, zq_at, zq_ta, ite_not, Classical.not_not, h6, h7, h1, ho, e3, e4, Nat.reduceEqDiff, eo]
  · simp (disch := omega) only [↓zv_eq, ↓zb1_some, ↓zb2_some, ↓zk_true, Option.bind_some, Option.bind_none, Option.map_some, Sum.elim_inl, Sum.elim_inr, if_true, if_false, ↓reduceIte, lt_lit, nI_clamp, zi_in, nI_leI, nI_ltI, nI_eq, nI_add, pk_mul, zi_sub, pk_div, zi_rem, zi_sh1, zi_shr, zi_and1, zi_or, zi_en, zi_ne, zi_ln, zi_nl, zi_lne, zi_nle, zi_nn, zq_01, zq_10, zq_011, zq_at, zq_ta, ite_not, Classical.not_not, h6, h7, h1, ho, e3, e4, Nat.reduceEqDiff, eo]
  · have h4 : ¬ M.1 90 (d + 1) = nI 0 := fun z => h0 ⟨rfl, z⟩
    simp (disch := omega) only [↓zv_eq, ↓zb1_some, ↓zb2_some, ↓zk_true, Option.bind_some, Option.bind_none, Option.map_some, Sum.elim_inl, Sum.elim_inr, if_true, if_false, ↓reduceIte, lt_lit, nI_clamp, zi_in, nI_leI, nI_ltI, nI_eq, nI_add, pk_mul, zi_sub, pk_div, zi_rem, zi_sh1, zi_shr, zi_and1, zi_or, zi_en, zi_ne, zi_ln, zi_nl, zi_lne, zi_nle, zi_nn, zq_01, zq_10, zq_011, zq_at, zq_ta, ite_not, Classical.not_not, h6, h7, h1, ho, e3, e4, Nat.reduceEqDiff, eo, h4, decide_false, Bool.not_false]
theorem ts_div0 {M : zm_Mem} {c to d a : Nat} (h6 : M.1 86 c = nI 5) (h7 : M.1 87 c = nI a) (hd : d < 300) (hc : c < to) (hto : to ≤ 840) (h0 : M.1 90 (d + 1) = 0) : f_X11_termOf_l5 (nI to) (nI (d + 2)) (nI c) M = some (.inr (.inl M)) := by
  have h1 : ¬ to ≤ c := by omega
  have e3 : nI (d + 2) + -nI 1 = nI (d + 1) := pk_m1 (d + 1)
  have e4 : d + 1 - 1 = d := rfl
  unfold f_X11_termOf_l5
  simp (disch := omega) only [↓zv_eq, ↓zb1_some, ↓zb2_some, ↓zk_true, Option.bind_some, Option.bind_none, Option.map_some, Sum.elim_inl, Sum.elim_inr, if_true, if_false, ↓reduceIte, lt_lit, nI_clamp, zi_in, nI_leI, nI_ltI, nI_eq, nI_add, pk_mul, zi_sub, pk_div, zi_rem, zi_sh1, zi_shr, zi_and1, zi_or, zi_en, zi_ne, zi_ln, zi_nl, zi_lne, zi_nle, zi_nn, zq_01, zq_10, zq_011, zq_at, zq_ta, ite_not, Classical.not_not, h6, h7, h1, e3, e4, h0, Nat.reduceEqDiff, Nat.reduceLeDiff]
theorem ts_end {M : zm_Mem} {to top : Nat} (hto : to ≤ 840) : f_X11_termOf_l5 (nI to) (nI top) (nI to) M = some (.inr (.inr M)) := by
  unfold f_X11_termOf_l5
  simp (disch := omega) only [↓zv_eq, ↓zb1_some, ↓zb2_some, ↓zk_true, Option.bind_some, Option.bind_none, Option.map_some, Sum.elim_inl, Sum.elim_inr, if_true, if_false, ↓reduceIte, lt_lit, nI_clamp, zi_in, nI_leI, nI_ltI, nI_eq, nI_add, pk_mul, zi_sub, pk_div, zi_rem, zi_sh1, zi_shr, zi_and1, zi_or, zi_en, zi_ne, zi_ln, zi_nl, zi_lne, zi_nle, zi_nn, zq_01, zq_10, zq_011, zq_at, zq_ta, ite_not, Classical.not_not, Nat.le_refl]
