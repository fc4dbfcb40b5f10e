/-! stages of the making; the survey's making -/
def zm_rf0 : Nat → Nat → Nat := fun _ _ => 0
def zm_rfB : Nat → Nat → Nat := fun id j => if id ≤ 102 then zm_rf id j else 0
theorem zm_rfB_0 : ∀ id j, 102 < id → zm_rfB id j = 0 := fun id j h => by unfold zm_rfB; rw [if_neg (by omega)]
theorem zm_rfB_eq (id j : Nat) (h : id ≤ (zm_w 0).1) : zm_rfB id j = zm_rf id j := by unfold zm_rfB; rw [if_pos (show id ≤ 102 from h)]
def zm_chk (n : Nat) (rf1 rf2 : Nat → Nat → Nat) : Bool := (List.range n).all (fun k => (List.range (zm_nf (zm_sh (k + 1)).2)).all (fun j => !(decide ((zm_sh (k + 1)).1 = 4)) || (!(decide (zm_fk (zm_sh (k + 1)).2 j = 3)) || decide (rf1 (k + 1) j = rf2 (k + 1) j))))
theorem zm_chk_ok {n : Nat} {rf1 rf2 : Nat → Nat → Nat} (h : zm_chk n rf1 rf2 = true) : ∀ id, 0 < id → id ≤ n → ∀ ci, zm_sh id = (4, ci) → ∀ j, j < zm_nf ci → zm_fk ci j = 3 → rf1 id j = rf2 id j := by
  intro id h0 hn ci hsh j hj hk
  have h1 := List.all_eq_true.mp h (id - 1) (List.mem_range.mpr (by omega))
  rw [show id - 1 + 1 = id by omega, hsh] at h1
  have h2 := List.all_eq_true.mp h1 j (List.mem_range.mpr hj)
  simp only [hk, decide_true, Bool.not_true, Bool.false_or, decide_eq_true_eq] at h2
  exact h2
theorem zm_fk_le : ∀ ci j, zm_fk ci j ≤ 3 ∨ zm_nf ci ≤ j := by
  intro ci j
  by_cases hc : ci < 12
  · by_cases hj : j < 71
    · have : ∀ ci, ci < 12 → ∀ j, j < 71 → zm_fk ci j ≤ 3 ∨ zm_nf ci ≤ j := by decide +kernel
      exact this ci hc j hj
    · have : ∀ ci, ci < 12 → zm_nf ci ≤ 71 := by decide
      exact Or.inr (Nat.le_trans (this ci hc) (by omega))
  · right
    have : zm_fkl[ci]? = none := List.getElem?_eq_none (by show 12 ≤ ci; omega)
    unfold zm_nf
    rw [List.getD_eq_getElem?_getD, this]
    exact Nat.zero_le _
section ZW
variable {α ρ : Type} {X : zm_C} {Y : zm_Y} {E : zm_E} {Qf : ρ → zm_Mem → State → Prop} {kc ks pc : Nat} {ex : Bool} {w : zm_W} {lv : List (Nat × Value)} {st : List Value} {M : zm_Mem} {d : Option α} {f : α → Option (ρ × zm_Mem)}
theorem zm_wid {kc' ks' : Nat} (h1 : kc ≤ kc') (h2 : ks ≤ ks') (k : zm_V X Y E Qf kc' ks' false w pc lv st M d f) : zm_V X Y E Qf kc ks ex w pc lv st M d f := by
  obtain ⟨p, e, s, m, args, below, meth, c⟩ := X
  intro ok hz H locs ls hP hS hl r M' hr
  exact W.widen h1 h2 (k ok (fun a => by cases a) H locs ls hP hS hl r M' hr)
theorem zm_callM {g : Option (Unit × zm_Mem)} {kd : Unit → zm_Mem → Option α} {index sv : Nat} {y : MethodName} {Y' : zm_Y} {T : u_T} {N : Nat} {rest : List Value} (pc' : Nat) (hp : pc + 3 = pc') (hd : decode Y.1 pc = .ok (.invokevirtual index, 3)) (hml : zm_Ml Y.2.2.1 index y Y' 0) (hc : vwCl[10]? = some (y.cls, T, N)) (hw : (rest.map fun v => v.category).sum ≤ 8) (hrm : zm_Rm Y Y') (hr0 : Y'.2.2.2.1.cells = 13) (hr1 : Y'.2.2.2.1.slots = 4296) (hcs : 13 ≤ Y.2.2.2.1.cells ∧ 4296 ≤ Y.2.2.2.1.slots) (hal : Y'.2.2.2.2.2.1 = true → ex = true ∧ sv = 0)
    (hM : ∀ r M1, g = some (r, M1) → zm_Ct E (zm_w sv) (zm_w 1) y Y' [.ref (E.2.1 + 1)] M none M1)
    (k : ∀ M1, zm_V X Y E Qf 13 4296 false (zm_w 1) pc' lv rest M1 (kd () M1) f) : zm_V X Y E Qf 0 0 ex (zm_w sv) pc lv (.ref (E.2.1 + 1) :: rest) M (zm_b2 g kd) f := by
  refine zm_call (emb := zm_ev) (mc := 13) (ms := 4296) (ex2 := false) (w2 := zm_w 1) pc' hp (fun a => by cases a) (fun r M1 hg p e s m args below meth c H locs ls ok hP hsz hS hl => ?_) (fun _ M1 _ => by have := k M1; simp only [Nat.zero_add]; exact this)
  have hM := hM r M1 hg
  unfold zm_Ct at hM
  rw [hr0, hr1] at hM
  obtain ⟨m1, m2, m3, m4, m5, m6⟩ := hml
  have hts := ok.2.2.2.2.1
  have hlv := zm_L (a := 1) (sv := sv) rfl
  exact va_runV (C := y.cls) (As := []) (rest := rest) ⟨ok.1, ok.2.1, ok.2.2.1, ok.2.2.2.1, hts⟩ hM ⟨callB_of 0 hts (zm_GoodIn m5) rfl hr0 hr1 (hts _ m4) (hts _ m1) m6 hrm, hts _ m2, hts _ m3⟩
    ⟨zm_blind, va_recv ok.2.2.2.2.2.2.2.1 hP hc (q0 := 1 - 1) (by rw [zm_ws_at hlv.1 hlv.2, zm_ent_o (id := 1) rfl]), fun U hU hW => ⟨rfl, by rw [hU]; exact hP, (fun a => by
      rw [hU]
      obtain ⟨h1, h2⟩ := hal a
      have h3 := hsz h1
      subst h2
      have h4 := (hP 101 _ (zm_ws_at (w := zm_w 0) (id := 102) (by decide) (by decide))).lt
      have h5 : (zm_w 0).1 = 102 := rfl
      simp only at h4
      omega), va_K.moved hW.alike ok.2.2.2.2.2.2.2.1, ok.2.2.2.2.2.2.2.2.1.go hS hU hW⟩⟩ rfl rfl hl.1 rfl (lv_room hw) hd ⟨by rw [Nat.zero_add]; exact hcs.1, by rw [Nat.zero_add]; exact hcs.2⟩
end ZW
