/-! the class at an operand -/
def CS (M : zm_Mem) (t : Nat) (tk : Nat → zTk) (e i cl : Nat) : Prop := Tks M tk e ∧ M.1 8 4 = nI i ∧ M.1 8 5 = 0 ∧ M.2.2 8 3 = t ∧ (t = 25 ∨ t = 36) ∧ M.1 t 10 = nI cl
theorem cs_isT {M : zm_Mem} {t e i cl : Nat} {tk : Nat → zTk} (h : CS M t tk e i cl) : zm_isT t = true := by
  rcases h.2.2.2.2.1 with rfl | rfl <;> rfl
def tkN (M : zm_Mem) (i : Nat) : zm_Mem := if i = 400 then zm_sI M 8 5 2 else zm_sI M 8 4 (nI (i + 1))
theorem c_putGo {M : zm_Mem} {t e i cl : Nat} {tk : Nat → zTk} {a b : Int32} (h : CS M t tk e i cl) (hi : i ≤ e) (hc : cl < 408) : (zm_b2 (f_X8_put t a b M) fun _ M27 => zm_b2 (f_X2_take M27) fun _ M31 => some ((), M31)) = some ((), tkN (putM M t cl a b) i) := by
  obtain ⟨h1, h2, h3, h4, h5, h6⟩ := h
  have he := h1.1
  have w8 : ∀ j, wCl t 8 j = false := fun j => wCl_f (by omega) (by omega)
  rw [c_putT h6 hc, zb2_some, c_take (i := i) (by rw [fr_put.2 8 4 (w8 4)]; exact h2) (by rw [fr_put.2 8 5 (w8 5)]; exact h3) (by omega), zb2_some]
  rfl
theorem c_unitO {M : zm_Mem} {t e i cl : Nat} {T : Nat → Nat} {n : Nat} {rec : Nat → Int32 → zm_Mem → Option (Unit × zm_Mem)} {a : Int32} (h : CS M t (tkF T n) e i cl) (hi : i ≤ e) (hc : cl < 408) (hs : (tkF T n i).1 = 3 ∨ 267 ≤ (tkF T n i).1) : f_X2_unit rec a M = some ((), tkN (if (tkF T n i).1 = 3 then putM M t cl 0 (nI (tkF T n i).2.2.2) else putM M t cl 1 (nI ((tkF T n i).1 - 267))) i) := by
  have hT := cs_isT h
  have hlt := okS_lt _ (tkF_ok (T := T) (n := n) (i := i)).1
  have pg := fun x y => c_putGo (a := x) (b := y) h hi hc
  obtain ⟨h1, h2, h3, h4, h5, h6⟩ := h
  unfold f_X2_unit
  simp only [zv_eq]
  rw [c_sortI h1 h2 hi, zb1_some, h4, hT, zk_true, h2, c_worthI h1 hi, zb1_some]
  by_cases hn : (tkF T n i).1 = 3
  · rw [if_pos (show nI (tkF T n i).1 = (3 : Int32) from by rw [hn]; rfl), tkF_num hn, pg, if_pos hn]
  · have hw : 267 ≤ (tkF T n i).1 := by omega
    rw [if_neg (show ¬ nI (tkF T n i).1 = (3 : Int32) from fun z => hn ((nI_eq (b := 3) (by omega) (by omega)).1 z)), if_neg (show ¬ nI (tkF T n i).1 < (267 : Int32) from nI_nlt (b := 267) hw (by omega)), zk_true, show nI (tkF T n i).1 - 267 = nI ((tkF T n i).1 - 267) from zi_sub (b := 267) hw, pg, if_neg hn]
