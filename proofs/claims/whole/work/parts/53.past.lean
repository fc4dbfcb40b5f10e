theorem r_in {M : zm_Mem} (a lo hi : Int32) : f_X11_in a lo hi M = some (if lo ≤ a ∧ a ≤ hi then nI 1 else nI 0) := by
  unfold f_X11_in f_X11_in_b14
  by_cases h : a < lo
  · rw [if_pos h, if_neg (fun z => Int32.not_le.2 h z.1)]; rfl
  · rw [if_neg h]
    by_cases h2 : hi < a
    · rw [if_pos h2, if_neg (fun z => Int32.not_le.2 h2 z.2)]; rfl
    · rw [if_neg h2, if_pos ⟨Int32.not_lt.1 h, Int32.not_lt.1 h2⟩]; rfl
/-- within 0 .. b - 1, by the two roads -/
theorem r_inN {M : zm_Mem} {a : Int32} {b : Nat} (hb : b + 1 < 2 ^ 31) (h : a < 0 ∨ nI (b + 1) ≤ a) : f_X11_in a 0 (nI b) M = some (nI 0) := by
  rw [r_in, if_neg]
  rintro ⟨h1, h2⟩
  rcases h with h | h
  · exact Int32.not_le.2 h h1
  · exact zj_gt hb h h2
theorem r_inY {M : zm_Mem} {j b : Nat} (hb : b < 2 ^ 31) (hj : j ≤ b) : f_X11_in (nI j) 0 (nI b) M = some (nI 1) := by
  rw [r_in, if_pos ⟨nI_pos' (by omega), nI_le hj hb⟩]
/-! the lists -/
def wCr (x j : Nat) : Bool := decide (x = 17) || (decide (x = 18) || (decide (x = 19) || (decide (x = 98) || (decide (x = 99) || (decide (x = 100) || ((decide (x = 16) && decide (j = 7)) || (decide (x = 52) && decide (j = 65))))))))
theorem wCr_T : ∀ x j, wCr x j = true → c_T x j = false := by
  intro x j h
  simp only [wCr, Bool.or_eq_true, Bool.and_eq_true, decide_eq_true_eq] at h
  rcases h with rfl | rfl | rfl | rfl | rfl | rfl | ⟨rfl, rfl⟩ | ⟨rfl, rfl⟩ <;> rfl
theorem inv_crates {M M' : zm_Mem} {t v q n : Nat} {D : zD} {S : Nat → Nat} (hC : Cx M t v D S n) (hX : Rx M t D S q n) (hF : Fr wCr M M') (cr : iv_crates M' (D.1 0 1)) : Inv M' q (n + 1) := by
  refine inv_new hC hX hF.1 (iT_fr hC.1 hF wCr_T hC.2.2.1) ?_ (tape_fr hF rfl rfl (fun _ => rfl) (fun _ => rfl) hX.2.2.1) ?_ (past_fr hF (fun _ => rfl) (fun _ => rfl) rfl (fun _ => rfl) hX.2.2.2.2.2.1) (held_fr hF rfl (fun _ => rfl) (fun _ => rfl) (fun _ => rfl) hX.2.2.2.2.2.2.1) cr (sur_fr hF rfl (fun _ => rfl) (fun _ => rfl) hX.2.2.2.2.2.2.2.2.1) (fr_row hF (fun _ => rfl)) (fr_row hF (fun _ => rfl))
  · rw [fr_row hF (x := 12) (fun _ => rfl), fr_row hF (x := 91) (fun _ => rfl)]; exact iv_R_mono hC.2.2.2
  · rw [hF.2 1 16 rfl, hF.2 52 17 rfl]; exact hX.2.2.2.1
theorem ag_forget {M : zm_Mem} {q n : Nat} (hI : Inv M q n) (hn : n < 512) : Ag (f_X10_forget M) (fun M1 => f_X11_forget M1) q n := by
  obtain ⟨t, v, D, S, hC, hX⟩ := hI
  obtain ⟨s, hs, e1, e2, e3⟩ := hX.2.2.2.2.2.2.2.1
  have e2' : (zm_sI M 16 7 (nI 0)).1 52 65 = nI s := by rw [mI1, if_neg (by omega)]; exact e2
  refine ⟨nI s, zm_sI M 16 7 (nI 0), zm_sI (zm_sI M 16 7 (nI 0)) 52 65 (nI 0), ?_, ?_, ?_⟩
  · unfold f_X10_forget f_X0_size f_X0_empty
    rw [e1]; rfl
  · show f_X11_forget _ = _
    unfold f_X11_forget
    rw [e2']; rfl
  · refine inv_crates hC hX (fr_tr (fr_sI rfl) (fr_sI rfl)) ⟨0, by omega, ?_, ?_, fun i hi => by omega⟩
    · simp only [mI1, Nat.reduceEqDiff, false_and, if_false, and_self, if_true]
    · simp only [mI1, Nat.reduceEqDiff, false_and, if_false, and_self, if_true]
def addC (M : zm_Mem) (s : Nat) (a b c : Int32) : zm_Mem := zm_sI (zm_sI (zm_sI (zm_sI M 17 s a) 18 s b) 19 s c) 16 7 (nI (s + 1))
def addR (M : zm_Mem) (s : Nat) (a b c : Int32) : zm_Mem := zm_sI (zm_sI (zm_sI (zm_sI M 98 s a) 99 s b) 100 s c) 52 65 (nI (s + 1))
theorem c_add {M : zm_Mem} {s : Nat} (a b c : Int32) (hs : s < 20) (e : M.1 16 7 = nI s) : f_X0_addList a b c M = some (nI s, addC M s a b c) := by
  have e1 : ∀ x, (zm_sI M 17 s x).1 16 7 = nI s := fun x => by rw [mI1, if_neg (by omega)]; exact e
  have e2 : ∀ x y, (zm_sI (zm_sI M 17 s x) 18 s y).1 16 7 = nI s := fun x y => by rw [mI1, if_neg (by omega)]; exact e1 x
  have e3 : ∀ x y z, (zm_sI (zm_sI (zm_sI M 17 s x) 18 s y) 19 s z).1 16 7 = nI s := fun x y z => by rw [mI1, if_neg (by omega)]; exact e2 x y
  have e4 : nI (s + 1) - nI 1 = nI s := nI_pred s
  unfold f_X0_addList addC
  simp (disch := omega) only [↓zv_eq, ↓zk_true, ↓reduceIte, lt_lit, nI_clamp, zi_in, nI_ltI, hs, e, e1, e2, e3, nI_add]
  rw [mI1, if_pos ⟨rfl, rfl⟩, e4]
theorem c_addN {M : zm_Mem} {s : Nat} (a b c : Int32) (hs : ¬ s < 20) (hs2 : s ≤ 20) (e : M.1 16 7 = nI s) : f_X0_addList a b c M = some (-1, M) := by
  unfold f_X0_addList
  rw [e, if_neg (show ¬ nI s < 20 from nI_nlt (b := 20) (by omega) (by omega))]
theorem r_add {M : zm_Mem} {s : Nat} (a b c : Int32) (hs : s < 20) (e : M.1 52 65 = nI s) : f_X11_list_b65 a b c M = some (nI s, addR M s a b c) := by
  have e1 : ∀ x, (zm_sI M 98 s x).1 52 65 = nI s := fun x => by rw [mI1, if_neg (by omega)]; exact e
  have e2 : ∀ x y, (zm_sI (zm_sI M 98 s x) 99 s y).1 52 65 = nI s := fun x y => by rw [mI1, if_neg (by omega)]; exact e1 x
  have e3 : ∀ x y z, (zm_sI (zm_sI (zm_sI M 98 s x) 99 s y) 100 s z).1 52 65 = nI s := fun x y z => by rw [mI1, if_neg (by omega)]; exact e2 x y
  have e4 : nI (s + 1) - nI 1 = nI s := nI_pred s
  unfold f_X11_list_b65 addR
  simp (disch := omega) only [↓zv_eq, ↓zk_true, lt_lit, nI_clamp, zi_in, e, e1, e2, e3, nI_add]
  rw [mI1, if_pos ⟨rfl, rfl⟩, e4]
/-- what a list by b may tell is less than this -/
def lim (D : zD) (b : Nat) : Nat := if b = 0 then 10 else if b = 1 then 100 else D.1 0 0
theorem c_limit {M : zm_Mem} {t v n : Nat} {D : zD} {S : Nat → Nat} (hC : Cx M t v D S n) {b : Nat} (hb : b < 3) : f_X10_limitOf (nI b) M = some (nI (lim D b)) := by
  have ht := hC.2.1
  have hT := hC.2.2.1
  have hR := hC.2.2.2
  have bI := cx_isT hC
  have bv := tT_v hT
  have bh := tT_bh hT
  have bw := tT_bw hT
  have bk := tT_bk hT
  unfold f_X10_limitOf lim
  rcases (show b = 0 ∨ b = 1 ∨ b = 2 by omega) with rfl | rfl | rfl
  · rfl
  · rfl
  · rw [if_neg (by decide), if_neg (by decide), if_pos (by rfl)]
    simp only [↓zv_eq, ht, bI, ↓zk_true, tT_h hT]
    rfl
theorem r_listIn {M : zm_Mem} {t v n s w b c : Nat} {D : zD} {S : Nat → Nat} (hC : Cx M t v D S n) (hs : s < 20) (e : M.1 52 65 = nI s) (hw : w < D.1 0 1) (hb : b < 3) (hc : c < lim D b) : f_X11_list (nI w) (nI b) (nI c) M = some (nI s, addR M s (nI w) (nI b) (nI c)) := by
  have ht := hC.2.1
  have hT := hC.2.2.1
  have hR := hC.2.2.2
  have bI := cx_isT hC
  have bv := tT_v hT
  have bh := tT_bh hT
  have bw := tT_bw hT
  have bk := tT_bk hT
  have ha := r_add (M := M) (nI w) (nI b) (nI c) hs e
  have i2 : f_X11_in (nI b) 0 2 M = some (nI 1) := r_inY (b := 2) (by omega) (by omega)
  unfold f_X11_list
  rw [e, if_neg (show ¬ nI s = 20 from fun z => by rw [show (20 : Int32) = nI 20 from rfl, nI_eq (by omega) (by omega)] at z; omega), r_isWork hC hw, zb1_some, if_neg (by decide), i2, zb1_some, if_neg (by decide)]
  unfold lim at hc
  rcases (show b = 0 ∨ b = 1 ∨ b = 2 by omega) with rfl | rfl | rfl
  · rw [if_pos rfl] at hc
    rw [if_neg (by decide), if_pos (by rfl)]
    unfold f_X11_list_b57
    rw [show f_X11_in (nI c) 0 9 M = some (nI 1) from r_inY (b := 9) (by omega) (by omega), zb1_some, if_neg (by decide)]
    exact ha
  · rw [if_neg (by omega), if_pos rfl] at hc
    rw [if_neg (by decide), if_neg (by decide)]
    unfold f_X11_list_b57
    rw [show f_X11_in (nI c) 0 99 M = some (nI 1) from r_inY (b := 99) (by omega) (by omega), zb1_some, if_neg (by decide)]
    exact ha
  · rw [if_neg (by omega), if_neg (by omega)] at hc
    rw [if_pos (by rfl), r_isHouse hC hc, zb1_some, if_neg (by decide)]
    exact ha
theorem r_listNo {M : zm_Mem} {t v n s : Nat} {D : zD} {S : Nat → Nat} {a1 a2 a3 : Int32} (hC : Cx M t v D S n) (hs : s ≤ 20) (e : M.1 52 65 = nI s) (h : s = 20 ∨ (a1 < 0 ∨ nI (D.1 0 1) ≤ a1) ∨ (a2 < 0 ∨ nI 3 ≤ a2) ∨ (∃ b, b < 3 ∧ a2 = nI b ∧ (a3 < 0 ∨ nI (lim D b) ≤ a3))) : f_X11_list a1 a2 a3 M = some (-1, M) := by
  have ht := hC.2.1
  have hT := hC.2.2.1
  have hR := hC.2.2.2
  have bI := cx_isT hC
  have bv := tT_v hT
  have bh := tT_bh hT
  have bw := tT_bw hT
  have bk := tT_bk hT
  unfold f_X11_list
  by_cases h20 : s = 20
  · subst h20; rw [e, if_pos (by rfl)]
  rw [e, if_neg (show ¬ nI s = 20 from fun z => by rw [show (20 : Int32) = nI 20 from rfl, nI_eq (by omega) (by omega)] at z; omega)]
  rcases ix_cases a1 (b := D.1 0 1) (by omega) with h1 | ⟨w, hw, rfl⟩
  · rw [r_isWork0 hC h1, zb1_some, if_pos rfl]
  rw [r_isWork hC hw, zb1_some, if_neg (by decide)]
  rcases ix_cases a2 (b := 3) (by omega) with h2 | ⟨b, hb, rfl⟩
  · rw [show f_X11_in a2 0 2 M = some (nI 0) from r_inN (b := 2) (by omega) h2, zb1_some, if_pos (by rfl)]
  rw [show f_X11_in (nI b) 0 2 M = some (nI 1) from r_inY (b := 2) (by omega) (by omega), zb1_some, if_neg (by decide)]
  have h3 : a3 < 0 ∨ nI (lim D b) ≤ a3 := by
    rcases h with h | h | h | ⟨b', hb', h4, h5⟩
    · exact absurd h h20
    · rcases h with h | h
      · exact absurd h (nI_pos (by omega))
      · exact absurd h (nI_ge hw (by omega))
    · rcases h with h | h
      · exact absurd h (nI_pos (by omega))
      · exact absurd h (nI_ge hb (by omega))
    · rw [nI_eq (by omega) (by omega)] at h4
      subst h4; exact h5
  unfold lim at h3
  rcases (show b = 0 ∨ b = 1 ∨ b = 2 by omega) with rfl | rfl | rfl
  · rw [if_pos rfl] at h3
    rw [if_neg (by decide), if_pos (by rfl)]
    unfold f_X11_list_b57
    rw [show f_X11_in a3 0 9 M = some (nI 0) from r_inN (b := 9) (by omega) h3, zb1_some, if_pos (by rfl)]
  · rw [if_neg (by omega), if_pos rfl] at h3
    rw [if_neg (by decide), if_neg (by decide)]
    unfold f_X11_list_b57
    rw [show f_X11_in a3 0 99 M = some (nI 0) from r_inN (b := 99) (by omega) h3, zb1_some, if_pos (by rfl)]
  · rw [if_neg (by omega), if_neg (by omega)] at h3
    rw [if_pos (by rfl), r_isHouse0 hC h3, zb1_some, if_pos rfl]
theorem ag_list {M : zm_Mem} {q n : Nat} (hI : Inv M q n) (hn : n < 512) (a1 : Int32) (a2 : Int32) (a3 : Int32) : Ag (f_X10_list a1 a2 a3 M) (fun M1 => f_X11_list a1 a2 a3 M1) q n := by
  have hI' := hI
  obtain ⟨t, v, D, S, hC, hX⟩ := hI'
  have ht := hC.2.1
  have hT := hC.2.2.1
  have hR := hC.2.2.2
  have bI := cx_isT hC
  have bv := tT_v hT
  have bh := tT_bh hT
  have bw := tT_bw hT
  have bk := tT_bk hT
  obtain ⟨s, hs, e1, e2, e3⟩ := hX.2.2.2.2.2.2.2.1
  rcases ix_cases a1 (b := D.1 0 1) (by omega) with h1 | ⟨w, hw, rfl⟩
  · refine ag_mk hI (r := -1) (M1 := M) (M2 := M) ?_ (r_listNo hC hs e2 (Or.inr (Or.inl h1))) (sc_rfl M)
    unfold f_X10_list; rw [c_isWork0 hC h1]; rfl
  by_cases h30 : a3 < 0
  · have hc : f_X10_list (nI w) a2 a3 M = some (-1, M) := by
      unfold f_X10_list; rw [c_isWork hC hw, zb1_some, if_neg (by decide), if_pos h30]
    rcases ix_cases a2 (b := 3) (by omega) with h2 | ⟨b, hb, rfl⟩
    · exact ag_mk hI (r := -1) (M1 := M) (M2 := M) hc (r_listNo hC hs e2 (Or.inr (Or.inr (Or.inl h2)))) (sc_rfl M)
    · exact ag_mk hI (r := -1) (M1 := M) (M2 := M) hc (r_listNo hC hs e2 (Or.inr (Or.inr (Or.inr ⟨b, hb, rfl, Or.inl h30⟩)))) (sc_rfl M)
  rcases ix_cases a2 (b := 3) (by omega) with h2 | ⟨b, hb, rfl⟩
  · refine ag_mk hI (r := -1) (M1 := M) (M2 := M) ?_ (r_listNo hC hs e2 (Or.inr (Or.inr (Or.inl h2)))) (sc_rfl M)
    have n0 : ∀ b, b < 3 → ¬ a2 = nI b := by
      rintro b hb rfl
      rcases h2 with h2 | h2
      · exact nI_pos (by omega) h2
      · exact nI_ge hb (by omega) h2
    unfold f_X10_list f_X10_limitOf
    rw [c_isWork hC hw, zb1_some, if_neg (by decide), if_neg h30, if_neg (show ¬ a2 = 0 from n0 0 (by omega)), if_neg (show ¬ a2 = 1 from n0 1 (by omega)), if_neg (show ¬ a2 = 2 from n0 2 (by omega)), zb1_some, if_neg h30]
  have hlim : lim D b ≤ 100 := by unfold lim; (repeat' split) <;> omega
  rcases ix_cases a3 (b := lim D b) (by omega) with h3 | ⟨c, hc, rfl⟩
  · refine ag_mk hI (r := -1) (M1 := M) (M2 := M) ?_ (r_listNo hC hs e2 (Or.inr (Or.inr (Or.inr ⟨b, hb, rfl, h3⟩)))) (sc_rfl M)
    unfold f_X10_list
    rw [c_isWork hC hw, zb1_some, if_neg (by decide), if_neg h30, c_limit hC hb, zb1_some, if_neg (Int32.not_lt.2 (h3.resolve_left h30))]
  have hcl : f_X10_list (nI w) (nI b) (nI c) M = zm_b2 (f_X0_addList (nI w) (nI b) (nI c) M) (fun r30 M30 => some (r30, M30)) := by
    unfold f_X10_list
    rw [c_isWork hC hw, zb1_some, if_neg (by decide), if_neg h30, c_limit hC hb, zb1_some, if_pos (nI_lt hc (by omega))]
  by_cases hs20 : s < 20
  · have ec := c_add (M := M) (nI w) (nI b) (nI c) hs20 e1
    have e2' : (addC M s (nI w) (nI b) (nI c)).1 52 65 = nI s := by
      unfold addC
      rw [mI1, if_neg (by omega), mI1, if_neg (by omega), mI1, if_neg (by omega), mI1, if_neg (by omega)]
      exact e2
    have fC : Fr (fun x j => decide (x = 17) || (decide (x = 18) || (decide (x = 19) || (decide (x = 16) && decide (j = 7))))) M (addC M s (nI w) (nI b) (nI c)) := fr_tr (fr_tr (fr_tr (fr_sI rfl) (fr_sI rfl)) (fr_sI rfl)) (fr_sI rfl)
    have sC : Cx (addC M s (nI w) (nI b) (nI c)) t v D S n := ⟨hC.1, ht, iT_fr hC.1 fC (by
      intro x j h
      simp only [Bool.or_eq_true, Bool.and_eq_true, decide_eq_true_eq] at h
      rcases h with rfl | rfl | rfl | ⟨rfl, rfl⟩ <;> rfl) hT, by
      rw [fr_row fC (x := 12) (fun _ => rfl), fr_row fC (x := 91) (fun _ => rfl)]; exact hR⟩
    refine ⟨nI s, addC M s (nI w) (nI b) (nI c), addR (addC M s (nI w) (nI b) (nI c)) s (nI w) (nI b) (nI c), ?_, r_listIn sC hs20 e2' hw hb hc, ?_⟩
    · rw [hcl, ec]; rfl
    · refine inv_crates hC hX (fr_tr (fr_tr (fr_tr (fr_tr (fr_sI rfl) (fr_sI rfl)) (fr_sI rfl)) (fr_sI rfl)) (fr_tr (fr_tr (fr_tr (fr_sI rfl) (fr_sI rfl)) (fr_sI rfl)) (fr_sI rfl))) ⟨s + 1, by omega, ?_, ?_, fun i hi => ?_⟩
      · unfold addR addC
        simp only [mI1, Nat.reduceEqDiff, false_and, if_false, and_self, if_true]
      · unfold addR addC
        simp only [mI1, Nat.reduceEqDiff, false_and, if_false, and_self, if_true]
      · unfold addR addC
        simp only [mI1, Nat.reduceEqDiff, false_and, if_false, true_and]
        by_cases his : i = s
        · simp only [his, if_true]
          exact ⟨w, b, c, hw, by omega, by omega, rfl, rfl, rfl, rfl, rfl, rfl⟩
        · simp only [his, if_false]
          exact e3 i (by omega)
  · refine ag_mk hI (r := -1) (M1 := M) (M2 := M) ?_ (r_listNo hC hs e2 (Or.inl (by omega))) (sc_rfl M)
    rw [hcl, c_addN _ _ _ hs20 hs e1]; rfl
/-! what was: the class's ring of rows, the reference's shifted ones -/
theorem zcp0 (M : zm_Mem) (a b dp n : Nat) : zm_cp M a 0 b dp n = cpM M b dp n (M.1 a) := by
  unfold zm_cp cpM
  refine Prod.ext ?_ rfl
  funext x j
  simp only [va_cpy, Nat.zero_add]
  by_cases h : x = b
  · subst h
    by_cases h2 : dp ≤ j ∧ j < dp + n
    · rw [if_pos rfl, if_pos h2, if_pos ⟨rfl, h2⟩]
    · rw [if_pos rfl, if_neg h2, if_neg (fun z => h2 z.2)]
  · rw [if_neg h, if_neg (fun z => h z.1)]
theorem zcp1 (M : zm_Mem) (a sp b n : Nat) : zm_cp M a sp b 0 n = cpM M b 0 n (fun k => M.1 a (sp + k)) := by
  unfold zm_cp cpM
  refine Prod.ext ?_ rfl
  funext x j
  simp only [va_cpy]
  by_cases h : x = b
  · subst h
    by_cases h2 : 0 ≤ j ∧ j < 0 + n
    · rw [if_pos rfl, if_pos h2, if_pos ⟨rfl, h2⟩]
    · rw [if_pos rfl, if_neg h2, if_neg (fun z => h2 z.2)]
  · rw [if_neg h, if_neg (fun z => h z.1)]
theorem ck_cp {a b L1 L2 : Nat} (h1 : a + 47 ≤ L1) (h2 : b + 47 ≤ L2) (ha : L1 < 100000) (hb : L2 < 100000) : (decide (nI 0 ≤ nI a) && (decide (nI 0 ≤ nI b) && (decide (0 ≤ 47) && (decide ((nI a).toNatClampNeg + (nI 47).toNatClampNeg ≤ L1) && decide ((nI b).toNatClampNeg + (nI 47).toNatClampNeg ≤ L2))))) = true := by
  simp only [Bool.and_eq_true, decide_eq_true_eq]
  refine ⟨nI_pos' (by omega), nI_pos' (by omega), by decide, ?_, ?_⟩
  · rw [nI_clamp (by omega), nI_clamp (by omega)]; exact h1
  · rw [nI_clamp (by omega), nI_clamp (by omega)]; exact h2
def kpM (M : zm_Mem) (s x : Nat) : zm_Mem := zm_sI (zm_sI (cpM M 14 (x * 47) 47 (M.1 12)) 13 1 (nI ((x + 1) % 40))) 13 2 (nI (if s < 40 then s + 1 else 40))
def bfM (M : zm_Mem) (s x : Nat) : zm_Mem := zm_sI (kpM M s x) 1 13 (nI 0)
theorem c_keep {M : zm_Mem} {s x : Nat} (h1 : M.1 13 1 = nI x) (h2 : M.1 13 2 = nI s) (hx : x < 40) (hs : s ≤ 40) : f_X1_keep 12 M = some ((), kpM M s x) := by
  have e47 : (zm_sh 12).2 = 47 := rfl
  have k1 : (cpM M 14 (x * 47) 47 (M.1 12)).1 13 1 = nI x := (mC_ne (by omega)).trans h1
  have k2 : ∀ z, (zm_sI (cpM M 14 (x * 47) 47 (M.1 12)) 13 1 z).1 13 2 = nI s := fun z => by rw [mI1, if_neg (by omega)]; exact (mC_ne (by omega)).trans h2
  have k3 : zm_min (nI (s + 1)) (nI 40) = nI (if s < 40 then s + 1 else 40) := by
    unfold zm_min
    by_cases h : s < 40
    · rw [if_pos h, if_neg (nI_nlt (by omega) (by omega))]
    · rw [if_neg h, if_pos (nI_lt (by omega) (by omega))]
  have k4 : (!decide (nI 40 = nI 0)) = true := by decide
  unfold f_X1_keep kpM
  simp only [lt_lit, h1, pk_mul, e47]
  rw [zm_ck_t (ck_cp (a := 0) (b := x * 47) (by omega) (by omega) (by omega) (by omega))]
  simp (disch := omega) only [↓zv_eq, nI_clamp, zcp0, k4, ↓zk_true, k1, k2, nI_add, zi_rem, k3]
theorem c_before {M : zm_Mem} {s x : Nat} (h1 : M.1 13 1 = nI x) (h2 : M.1 13 2 = nI s) (hx : x < 40) (hs : s ≤ 40) : f_X10_beforeChange M = some ((), bfM M s x) := by
  unfold f_X10_beforeChange
  rw [c_keep h1 h2 hx hs]; rfl
def wBf (x j : Nat) : Bool := decide (x = 14) || (decide (x = 13) || (decide (x = 1) && decide (j = 13)))
theorem fr_cpM {W : Nat → Nat → Bool} {M : zm_Mem} {a o N : Nat} {f : Nat → Int32} (h : ∀ j, W a j = true) : Fr W M (cpM M a o N f) := by
  refine ⟨rfl, fun x j hw => ?_⟩
  rw [mC1, if_neg]
  rintro ⟨rfl, _⟩
  rw [h j] at hw; cases hw
theorem fr_bf {M : zm_Mem} {s x : Nat} : Fr wBf M (bfM M s x) := fr_tr (fr_tr (fr_tr (fr_cpM (fun _ => rfl)) (fr_sI rfl)) (fr_sI rfl)) (fr_sI rfl)
theorem r_keepsRow {M : zm_Mem} : f_X11_keepsRow M = some ((), cpM M 91 0 60 (M.1 92)) := by
  have key : zm_lp (fun s => f_X11_keepsRow_l2 s.1 s.2) (0, M) = some (cpM M 91 0 60 (M.1 92)) := by
    refine lp_cpy M 91 0 60 (M.1 92) (fun i hi => ?_) ?_
    · have hle : ¬ 60 ≤ i := by omega
      have e91 : (cpM M 91 0 i (M.1 92)).1 92 i = M.1 92 i := mC_ne (by omega)
      simp (disch := omega) only [f_X11_keepsRow_l2, ↓zv_eq, ↓zb1_some, ↓zb2_some, ↓zk_true, Option.bind_some, Option.bind_none, Option.map_some, Sum.elim_inl, Sum.elim_inr, if_true, if_false, ↓reduceIte, lt_lit, nI_clamp, zi_in, nI_leI, nI_ltI, nI_eq, nI_add, pk_mul, zi_sub, pk_div, zi_rem, zi_sh1, zi_shr, zi_and1, zi_or, zi_en, zi_ne, zi_ln, zi_nl, zi_lne, zi_nle, zi_nn, zq_01, zq_10, zq_011, zq_at, zq_ta, ite_not, Classical.not_not, hle, e91, Nat.zero_add]
    · simp (disch := omega) only [f_X11_keepsRow_l2, ↓zv_eq, ↓zb1_some, ↓zb2_some, ↓zk_true, Option.bind_some, Option.bind_none, Option.map_some, Sum.elim_inl, Sum.elim_inr, if_true, if_false, ↓reduceIte, lt_lit, nI_clamp, zi_in, nI_leI, nI_ltI, nI_eq, nI_add, pk_mul, zi_sub, pk_div, zi_rem, zi_sh1, zi_shr, zi_and1, zi_or, zi_en, zi_ne, zi_ln, zi_nl, zi_lne, zi_nle, zi_nn, zq_01, zq_10, zq_011, zq_at, zq_ta, ite_not, Classical.not_not, Nat.le_refl]
  unfold f_X11_keepsRow
  rw [key]; rfl
def wKp (x j : Nat) : Bool := decide (x = 93) || (decide (x = 91) || (decide (x = 52) && decide (j = 59)))
def kprM (L : zm_Mem) (u : Nat) : zm_Mem := zm_sI (cpM L 93 (60 * u) 60 (L.1 91)) 52 59 (nI (u + 1))
theorem r_keeps_b {L : zm_Mem} {u : Nat} (h : L.1 52 59 = nI u) (hu : u < 40) : f_X11_keeps_b49 L = some ((), cpM (kprM L u) 91 0 60 ((kprM L u).1 92)) := by
  have key : zm_lp (fun s => f_X11_keeps_l51 s.1 s.2) (0, L) = some (cpM L 93 (60 * u) 60 (L.1 91)) := by
    refine lp_cpy L 93 (60 * u) 60 (L.1 91) (fun i hi => ?_) ?_
    · have hle : ¬ 60 ≤ i := by omega
      have e91 : (cpM L 93 (60 * u) i (L.1 91)).1 91 i = L.1 91 i := mC_ne (by omega)
      have e59 : (cpM L 93 (60 * u) i (L.1 91)).1 52 59 = nI u := (mC_ne (by omega)).trans h
      simp (disch := omega) only [f_X11_keeps_l51, ↓zv_eq, ↓zb1_some, ↓zb2_some, ↓zk_true, Option.bind_some, Option.bind_none, Option.map_some, Sum.elim_inl, Sum.elim_inr, if_true, if_false, ↓reduceIte, lt_lit, nI_clamp, zi_in, nI_leI, nI_ltI, nI_eq, nI_add, pk_mul, zi_sub, pk_div, zi_rem, zi_sh1, zi_shr, zi_and1, zi_or, zi_en, zi_ne, zi_ln, zi_nl, zi_lne, zi_nle, zi_nn, zq_01, zq_10, zq_011, zq_at, zq_ta, ite_not, Classical.not_not, hle, e91, e59]
    · simp (disch := omega) only [f_X11_keeps_l51, ↓zv_eq, ↓zb1_some, ↓zb2_some, ↓zk_true, Option.bind_some, Option.bind_none, Option.map_some, Sum.elim_inl, Sum.elim_inr, if_true, if_false, ↓reduceIte, lt_lit, nI_clamp, zi_in, nI_leI, nI_ltI, nI_eq, nI_add, pk_mul, zi_sub, pk_div, zi_rem, zi_sh1, zi_shr, zi_and1, zi_or, zi_en, zi_ne, zi_ln, zi_nl, zi_lne, zi_nle, zi_nn, zq_01, zq_10, zq_011, zq_at, zq_ta, ite_not, Classical.not_not, Nat.le_refl]
  have e59 : (cpM L 93 (60 * u) 60 (L.1 91)).1 52 59 = nI u := (mC_ne (by omega)).trans h
  unfold f_X11_keeps_b49
  rw [key]
  simp only [Option.bind_some]
  unfold f_X11_keeps_x83_51
  rw [e59, nI_k1]
  simp only [zv_eq]
  rw [show zm_sI (cpM L 93 (60 * u) 60 (L.1 91)) 52 59 (nI (u + 1)) = kprM L u from rfl, r_keepsRow]
  rfl
theorem kpr_ne {L : zm_Mem} {u x j : Nat} (h : x ≠ 93) (h2 : x ≠ 52) : (kprM L u).1 x j = L.1 x j := by
  unfold kprM
  rw [mI1, if_neg (fun z => h2 z.1)]
  exact mC_ne h
theorem r_keeps {M : zm_Mem} {s : Nat} (h : M.1 52 59 = nI s) (hs : s ≤ 40) : ∃ M', f_X11_keeps M = some ((), M') ∧ Fr wKp M M' ∧ M'.1 52 59 = nI (if s < 40 then s + 1 else 40) ∧ (∀ j, j < 60 → M'.1 91 j = M.1 92 j) ∧ ∀ i j, i < 40 → j < 60 → M'.1 93 (60 * i + j) = if s < 40 then (if i = s then M.1 91 j else M.1 93 (60 * i + j)) else (if i = 39 then M.1 91 j else M.1 93 (60 * (i + 1) + j)) := by
  by_cases h40 : s < 40
  · refine ⟨cpM (kprM M s) 91 0 60 ((kprM M s).1 92), ?_, ?_, ?_, fun j hj => ?_, fun i j hi hj => ?_⟩
    · unfold f_X11_keeps
      rw [h, if_neg (show ¬ nI s = 40 from fun z => by rw [show (40 : Int32) = nI 40 from rfl, nI_eq (by omega) (by omega)] at z; omega)]
      exact r_keeps_b h h40
    · exact fr_tr (fr_tr (fr_cpM (fun _ => rfl)) (fr_sI rfl)) (fr_cpM (fun _ => rfl))
    · rw [mC_ne (by omega)]
      unfold kprM
      rw [mI1, if_pos ⟨rfl, rfl⟩, if_pos h40]
    · rw [mC_in hj, kpr_ne (by omega) (by omega)]
    · rw [mC_ne (by omega)]
      unfold kprM
      rw [mI1, if_neg (by omega), if_pos h40]
      by_cases hi2 : i = s
      · subst hi2; rw [if_pos rfl, mC_in' hj]
      · rw [if_neg hi2, mC_out (by omega)]
  · have h40' : s = 40 := by omega
    subst h40'
    have key : zm_lp (fun s => f_X11_keeps_l11 s.1 s.2) (0, M) = some (cpM M 93 0 2340 (fun j => M.1 93 (j + 60))) := by
      refine lp_cpy M 93 0 2340 _ (fun i hi => ?_) ?_
      · have hle : ¬ 2340 ≤ i := by omega
        have e91 : (cpM M 93 0 i (fun j => M.1 93 (j + 60))).1 93 (i + 60) = M.1 93 (i + 60) := mC_out (by omega)
        simp (disch := omega) only [f_X11_keeps_l11, ↓zv_eq, ↓zb1_some, ↓zb2_some, ↓zk_true, Option.bind_some, Option.bind_none, Option.map_some, Sum.elim_inl, Sum.elim_inr, if_true, if_false, ↓reduceIte, lt_lit, nI_clamp, zi_in, nI_leI, nI_ltI, nI_eq, nI_add, pk_mul, zi_sub, pk_div, zi_rem, zi_sh1, zi_shr, zi_and1, zi_or, zi_en, zi_ne, zi_ln, zi_nl, zi_lne, zi_nle, zi_nn, zq_01, zq_10, zq_011, zq_at, zq_ta, ite_not, Classical.not_not, hle, e91, Nat.zero_add]
      · simp (disch := omega) only [f_X11_keeps_l11, ↓zv_eq, ↓zb1_some, ↓zb2_some, ↓zk_true, Option.bind_some, Option.bind_none, Option.map_some, Sum.elim_inl, Sum.elim_inr, if_true, if_false, ↓reduceIte, lt_lit, nI_clamp, zi_in, nI_leI, nI_ltI, nI_eq, nI_add, pk_mul, zi_sub, pk_div, zi_rem, zi_sh1, zi_shr, zi_and1, zi_or, zi_en, zi_ne, zi_ln, zi_nl, zi_lne, zi_nle, zi_nn, zq_01, zq_10, zq_011, zq_at, zq_ta, ite_not, Classical.not_not, Nat.le_refl]
    have e59 : (cpM M 93 0 2340 (fun j => M.1 93 (j + 60))).1 52 59 = nI 40 := (mC_ne (by omega)).trans h
    have e59' : (zm_sI (cpM M 93 0 2340 (fun j => M.1 93 (j + 60))) 52 59 (nI 39)).1 52 59 = nI 39 := by rw [mI1, if_pos ⟨rfl, rfl⟩]
    generalize hZ : zm_sI (cpM M 93 0 2340 (fun j => M.1 93 (j + 60))) 52 59 (nI 39) = Z at e59'
    have zF : Fr wKp M Z := by rw [← hZ]; exact fr_tr (fr_cpM (fun _ => rfl)) (fr_sI rfl)
    refine ⟨cpM (kprM Z 39) 91 0 60 ((kprM Z 39).1 92), ?_, ?_, ?_, fun j hj => ?_, fun i j hi hj => ?_⟩
    · unfold f_X11_keeps
      rw [h, if_pos (by rfl), key]
      simp only [Option.bind_some]
      unfold f_X11_keeps_x39_11
      rw [e59, show nI 40 - 1 = nI 39 from nI_pred 39]
      simp only [zv_eq]
      rw [hZ]
      exact r_keeps_b e59' (by omega)
    · exact fr_tr zF (fr_tr (fr_tr (fr_cpM (fun _ => rfl)) (fr_sI rfl)) (fr_cpM (fun _ => rfl)))
    · rw [mC_ne (by omega)]
      unfold kprM
      rw [mI1, if_pos ⟨rfl, rfl⟩, if_neg h40]
    · rw [mC_in hj, kpr_ne (by omega) (by omega)]; exact zF.2 92 j rfl
    · rw [mC_ne (by omega)]
      unfold kprM
      rw [mI1, if_neg (by omega), if_neg h40]
      by_cases hi2 : i = 39
      · subst hi2; rw [if_pos rfl, mC_in' hj, ← hZ, mI1, if_neg (by omega), mC_ne (by omega)]
      · rw [if_neg hi2, mC_out (by omega), ← hZ, mI1, if_neg (by omega), mC1, if_pos ⟨rfl, by omega, by omega⟩, show 60 * i + j - 0 + 60 = 60 * (i + 1) + j by omega]
theorem iv_R_congr {c c' r r' : Nat → Int32} {h w k n : Nat} {S : Nat → Nat} (hw : w ≤ 6) (hk : k ≤ 6) (hc : ∀ j, j < 47 → c' j = c j) (hr : ∀ j, j < 60 → r' j = r j) (H : iv_R c r h w k n S) : iv_R c' r' h w k n S := by
  obtain ⟨h1, h2, h3, h4, h5, h6, h7, h8, h9, h10, h11, h12, h13, h14, h15, h16, h17, h18⟩ := H
  refine ⟨h1, h2, h3, (hc _ (by omega)).trans h4, (hr _ (by omega)).trans h5, (hc _ (by omega)).trans h6, (hr _ (by omega)).trans h7, ?_, (hc _ (by omega)).trans h9, fun j hj => (hr _ (by omega)).trans (h10 j hj), h11, fun j hj => (hc _ (by omega)).trans (h12 j hj), fun j hj => (hc _ (by omega)).trans (h13 j hj), fun j hj => ?_, fun j hj => (hr _ (by omega)).trans (h15 j hj), fun j hj => (hr _ (by omega)).trans (h16 j hj), fun j hj => (hr _ (by omega)).trans (h17 j hj), fun j hj => ?_⟩
  · rw [hr _ (by omega), hc _ (by omega)]; exact h8
  · rw [hr _ (by omega), hc _ (by omega)]; exact h14 j hj
  · rw [hr _ (by omega), hc _ (by omega)]; exact h18 j hj
def w12 (x _j : Nat) : Bool := decide (x = 12)
def wRo (x j : Nat) : Bool := decide (x = 92) || ((decide (x = 52) && decide (j = 58)) || wQ x j)
def wCh (x j : Nat) : Bool := wBf x j || (w12 x j || (wRo x j || wKp x j))
theorem wCh_T : ∀ x j, wCh x j = true → c_T x j = false := by
  intro x j h
  simp only [wCh, wBf, w12, wRo, wKp, wQ, wR, Bool.or_eq_true, Bool.and_eq_true, decide_eq_true_eq] at h
  rcases h with (rfl | rfl | ⟨rfl, rfl⟩) | rfl | (rfl | ⟨rfl, rfl⟩ | rfl | rfl | ⟨rfl, rfl⟩) | rfl | rfl | ⟨rfl, rfl⟩ <;> rfl
/-- a thing done: the state kept, the class's row changed, the reference's row made and kept -/
theorem inv_chg {M Mb Mc : zm_Mem} {t v q n s x : Nat} {D : zD} {S S' : Nat → Nat} (hC : Cx M t v D S n) (hX : Rx M t D S q n) (hs : s ≤ 40) (hx : x < 40) (e1 : M.1 13 2 = nI s) (e2 : M.1 52 59 = nI s) (e3 : M.1 13 1 = nI x) (e4 : ∀ i, i < s → ∃ S, iv_R (fun j => M.1 14 (47 * ((x + 40 - s + i) % 40) + j)) (fun j => M.1 93 (60 * i + j)) (D.1 0 0) (D.1 0 1) (D.1 0 2) n S) (hB : Fr w12 (bfM M s x) Mb) (hD : Fr wRo Mb Mc) (hN : iv_R (Mb.1 12) (Mc.1 92) (D.1 0 0) (D.1 0 1) (D.1 0 2) (n + 1) S') : ∃ Md, f_X11_keeps Mc = some ((), Md) ∧ Inv Md q (n + 1) ∧ ∀ j, j < 60 → Md.1 91 j = Mc.1 92 j := by
  have ht := hC.2.1
  have hT := hC.2.2.1
  have hR := hC.2.2.2
  have bI := cx_isT hC
  have bv := tT_v hT
  have bh := tT_bh hT
  have bw := tT_bw hT
  have bk := tT_bk hT
  have b59 : Mc.1 52 59 = nI s := ((hD.2 52 59 rfl).trans ((hB.2 52 59 rfl).trans (fr_bf.2 52 59 rfl))).trans e2
  obtain ⟨Md, k1, k2, k3, k4, k5⟩ := r_keeps b59 hs
  refine ⟨Md, k1, ?_, k4⟩
  have m1 : Fr wCh M (bfM M s x) := fr_mono (fun x j h => by unfold wCh; rw [h]; rfl) fr_bf
  have m2 : Fr wCh (bfM M s x) Mb := fr_mono (fun x j h => by unfold wCh; rw [h, Bool.true_or, Bool.or_true]) hB
  have m3 : Fr wCh Mb Mc := fr_mono (fun x j h => by unfold wCh; rw [h, Bool.true_or, Bool.or_true, Bool.or_true]) hD
  have m4 : Fr wCh Mc Md := fr_mono (fun x j h => by unfold wCh; rw [h, Bool.or_true, Bool.or_true, Bool.or_true]) k2
  have hF := fr_tr m1 (fr_tr m2 (fr_tr m3 m4))
  have back : ∀ x' j', w12 x' j' = false → wRo x' j' = false → wKp x' j' = false → Md.1 x' j' = (bfM M s x).1 x' j' := fun x' j' a b c => (k2.2 _ _ c).trans ((hD.2 _ _ b).trans (hB.2 _ _ a))
  refine inv_new (S' := S') hC hX hF.1 (iT_fr hC.1 hF wCh_T hT) ?_ (tape_fr hF rfl rfl (fun _ => rfl) (fun _ => rfl) hX.2.2.1) ?_ ?_ (held_fr hF rfl (fun _ => rfl) (fun _ => rfl) (fun _ => rfl) hX.2.2.2.2.2.2.1) (cr_fr hF rfl rfl (fun _ => rfl) (fun _ => rfl) (fun _ => rfl) (fun _ => rfl) (fun _ => rfl) (fun _ => rfl) hX.2.2.2.2.2.2.2.1) (Or.inl ?_) (fr_row hF (fun _ => rfl)) (fr_row hF (fun _ => rfl))
  · refine iv_R_congr bw bk (fun j _ => ?_) (fun j hj => k4 j hj) hN
    exact (k2.2 12 j rfl).trans (hD.2 12 j rfl)
  · rw [hF.2 1 16 rfl, hF.2 52 17 rfl]; exact hX.2.2.2.1
  · have p2 : Md.1 13 2 = nI (if s < 40 then s + 1 else 40) := by
      rw [back 13 2 rfl rfl rfl]
      unfold bfM kpM
      simp only [mI1, Nat.reduceEqDiff, false_and, and_false, if_false, and_self, if_true]
    have p1 : Md.1 13 1 = nI ((x + 1) % 40) := by
      rw [back 13 1 rfl rfl rfl]
      unfold bfM kpM
      simp only [mI1, Nat.reduceEqDiff, false_and, and_false, if_false, and_self, if_true]
    have p14 : ∀ j, Md.1 14 j = (cpM M 14 (x * 47) 47 (M.1 12)).1 14 j := by
      intro j
      rw [back 14 j rfl rfl rfl]
      unfold bfM kpM
      simp only [mI1, Nat.reduceEqDiff, false_and, if_false]
    have c91 : ∀ j, Mc.1 91 j = M.1 91 j := fun j => (hD.2 91 j rfl).trans ((hB.2 91 j rfl).trans (fr_bf.2 91 j rfl))
    have c93 : ∀ j, Mc.1 93 j = M.1 93 j := fun j => (hD.2 93 j rfl).trans ((hB.2 93 j rfl).trans (fr_bf.2 93 j rfl))
    by_cases h40 : s < 40
    · rw [if_pos h40] at p2 k3
      refine ⟨s + 1, (x + 1) % 40, by omega, by omega, p2, k3, p1, fun i hi => ?_⟩
      by_cases his : i = s
      · refine ⟨S, iv_R_congr bw bk (fun j hj => ?_) (fun j hj => ?_) (iv_R_mono hC.2.2.2)⟩
        · show Md.1 14 (47 * (((x + 1) % 40 + 40 - (s + 1) + i) % 40) + j) = _
          rw [p14, show 47 * (((x + 1) % 40 + 40 - (s + 1) + i) % 40) + j = x * 47 + j by omega, mC_in' hj]
        · show Md.1 93 (60 * i + j) = _
          rw [k5 i j (by omega) hj, if_pos h40, if_pos his, c91]
      · obtain ⟨S1, hS1⟩ := e4 i (by omega)
        refine ⟨S1, iv_R_congr bw bk (fun j hj => ?_) (fun j hj => ?_) (iv_R_mono hS1)⟩
        · show Md.1 14 (47 * (((x + 1) % 40 + 40 - (s + 1) + i) % 40) + j) = _
          have e : ((x + 1) % 40 + 40 - (s + 1) + i) % 40 = (x + 40 - s + i) % 40 := by omega
          have e' : (x + 40 - s + i) % 40 ≠ x := by omega
          rw [e, p14, mC_out (by omega)]
        · show Md.1 93 (60 * i + j) = _
          rw [k5 i j (by omega) hj, if_pos h40, if_neg his, c93]
    · rw [if_neg h40] at p2 k3
      have hs40 : s = 40 := by omega
      refine ⟨40, (x + 1) % 40, by omega, by omega, p2, k3, p1, fun i hi => ?_⟩
      by_cases his : i = 39
      · refine ⟨S, iv_R_congr bw bk (fun j hj => ?_) (fun j hj => ?_) (iv_R_mono hC.2.2.2)⟩
        · show Md.1 14 (47 * (((x + 1) % 40 + 40 - 40 + i) % 40) + j) = _
          rw [p14, show 47 * (((x + 1) % 40 + 40 - 40 + i) % 40) + j = x * 47 + j by omega, mC_in' hj]
        · show Md.1 93 (60 * i + j) = _
          rw [k5 i j (by omega) hj, if_neg h40, if_pos his, c91]
      · obtain ⟨S1, hS1⟩ := e4 (i + 1) (by omega)
        refine ⟨S1, iv_R_congr bw bk (fun j hj => ?_) (fun j hj => ?_) (iv_R_mono hS1)⟩
        · show Md.1 14 (47 * (((x + 1) % 40 + 40 - 40 + i) % 40) + j) = _
          have e : ((x + 1) % 40 + 40 - 40 + i) % 40 = (x + 40 - s + (i + 1)) % 40 := by omega
          have e' : (x + 40 - s + (i + 1)) % 40 ≠ x := by omega
          rw [e, p14, mC_out (by omega)]
        · show Md.1 93 (60 * i + j) = _
          rw [k5 i j (by omega) hj, if_neg h40, if_neg his, c93]
  · rw [back 1 13 rfl rfl rfl]
    unfold bfM
    rw [mI1, if_pos ⟨rfl, rfl⟩]; rfl
