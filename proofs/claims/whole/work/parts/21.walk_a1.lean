abbrev Y_X6_step : zm_Y := (cX6_step, 2, RX6, { frames := 0, cells := 0, slots := 0, locals := 0 }, (some .int), false)
noncomputable def f_X6_step_b20  : Option Int32 :=
 some 0
noncomputable def f_X6_step (a0 : Int32) (a1 : Int32) (M : zm_Mem) : Option Int32 :=
  if a0 < 0 then (f_X6_step_b20) else (if (6 : Int32) ≤ a0 then (f_X6_step_b20) else (zm_ck (zm_in a0 6) <| some ((zm_steps a0.toNatClampNeg) * a1)))
set_option maxRecDepth 20000 in
set_option maxHeartbeats 4000000 in
theorem k_X6_step (E : zm_E) (a0 : Int32) (a1 : Int32) (M : zm_Mem) {r : Int32} (h : f_X6_step a0 a1 M = some r) : zm_Ct E 1 1 yX6_step Y_X6_step [.int a0, .int a1] M (some (.int r)) M := by
  refine zm_methr (emb := zm_ei) (d := f_X6_step a0 a1 M) (by decide) rfl (Nat.le_of_ble_eq_true rfl) h (fun X => ?_)
  show zm_V X Y_X6_step E (zm_Q X E Y_X6_step.2.2.2.1.cells Y_X6_step.2.2.2.1.slots 1 zm_ei) 0 0 1 0 [(0, .int a0), (1, .int a1)] [] M (f_X6_step a0 a1 M) (fun r => some (r, M))
  unfold f_X6_step
  refine zm_iload_n 1 rfl dX6_step_0 rfl 0 rfl ?_
  have hb20 : zm_V X Y_X6_step E (zm_Q X E Y_X6_step.2.2.2.1.cells Y_X6_step.2.2.2.1.slots 1 zm_ei) 0 0 1 20 [] [] M (f_X6_step_b20) (fun r => some (r, M)) := by
    unfold f_X6_step_b20
    refine zm_iconst 21 rfl dX6_step_20 zi_0 ?_
    exact zm_iret dX6_step_21 rfl (Nat.le_refl _) (Nat.le_refl _) rfl
  refine zm_if_lt 20 4 (by decide) rfl dX6_step_1 ?_ ?_
  · exact zm_loc [] rfl (hb20)
  · refine zm_iload_n 5 rfl dX6_step_4 rfl 0 rfl ?_
    refine zm_bipush 7 rfl dX6_step_5 zb_6 ?_
    refine zm_icmp_ge 20 10 (by decide) rfl dX6_step_7 ?_ ?_
    · exact zm_loc [] rfl (hb20)
    · refine zm_steps_get 13 rfl dX6_step_10 fs_X6_48 ?_
      refine zm_iload_n 14 rfl dX6_step_13 rfl 0 rfl ?_
      refine zm_steps_ld 15 rfl dX6_step_14 ?_
      refine zm_iload_n 16 rfl dX6_step_15 rfl 1 rfl ?_
      refine zm_imul 17 rfl dX6_step_16 ?_
      refine zm_goto 21 (by decide) dX6_step_17 ?_
      exact zm_iret dX6_step_21 rfl (Nat.le_refl _) (Nat.le_refl _) rfl
abbrev Y_X6_roomyRows : zm_Y := (cX6_roomyRows, 1, RX6, { frames := 0, cells := 0, slots := 0, locals := 0 }, (some (.array .long)), false)
noncomputable def f_X6_roomyRows  (M : zm_Mem) : Option Nat :=
  some 104
set_option maxRecDepth 20000 in
set_option maxHeartbeats 4000000 in
theorem k_X6_roomyRows (E : zm_E)  (M : zm_Mem) {r : Nat} (h : f_X6_roomyRows M = some r) : zm_Ct E 1 1 yX6_roomyRows Y_X6_roomyRows [.ref (E.2.1 + 103)] M (some (.ref (E.2.1 + r))) M := by
  refine zm_methr (emb := (zm_er E.2.1)) (d := f_X6_roomyRows M) (by decide) rfl (Nat.le_of_ble_eq_true rfl) h (fun X => ?_)
  show zm_V X Y_X6_roomyRows E (zm_Q X E Y_X6_roomyRows.2.2.2.1.cells Y_X6_roomyRows.2.2.2.1.slots 1 (zm_er E.2.1)) 0 0 1 0 [(0, .ref (E.2.1 + 103))] [] M (f_X6_roomyRows M) (fun r => some (r, M))
  unfold f_X6_roomyRows
  refine zm_aload_n 1 rfl dX6_roomyRows_0 rfl 0 rfl ?_
  refine zm_getR 4 rfl dX6_roomyRows_1 fl_X6_11 rfl (zm_L1 rfl) rfl ?_
  exact zm_aret dX6_roomyRows_4 rfl (Nat.le_refl _) (Nat.le_refl _) rfl
abbrev Y_X6_keptRows : zm_Y := (cX6_keptRows, 1, RX6, { frames := 0, cells := 0, slots := 0, locals := 0 }, (some (.array .long)), false)
noncomputable def f_X6_keptRows  (M : zm_Mem) : Option Nat :=
  some 105
set_option maxRecDepth 20000 in
set_option maxHeartbeats 4000000 in
theorem k_X6_keptRows (E : zm_E)  (M : zm_Mem) {r : Nat} (h : f_X6_keptRows M = some r) : zm_Ct E 1 1 yX6_keptRows Y_X6_keptRows [.ref (E.2.1 + 103)] M (some (.ref (E.2.1 + r))) M := by
  refine zm_methr (emb := (zm_er E.2.1)) (d := f_X6_keptRows M) (by decide) rfl (Nat.le_of_ble_eq_true rfl) h (fun X => ?_)
  show zm_V X Y_X6_keptRows E (zm_Q X E Y_X6_keptRows.2.2.2.1.cells Y_X6_keptRows.2.2.2.1.slots 1 (zm_er E.2.1)) 0 0 1 0 [(0, .ref (E.2.1 + 103))] [] M (f_X6_keptRows M) (fun r => some (r, M))
  unfold f_X6_keptRows
  refine zm_aload_n 1 rfl dX6_keptRows_0 rfl 0 rfl ?_
  refine zm_getR 4 rfl dX6_keptRows_1 fl_X6_15 rfl (zm_L1 rfl) rfl ?_
  exact zm_aret dX6_keptRows_4 rfl (Nat.le_refl _) (Nat.le_refl _) rfl
abbrev Y_X6_rowsKept : zm_Y := (cX6_rowsKept, 1, RX6, { frames := 0, cells := 0, slots := 0, locals := 0 }, (some .int), false)
noncomputable def f_X6_rowsKept  (M : zm_Mem) : Option Int32 :=
  some (M.1 103 13)
set_option maxRecDepth 20000 in
set_option maxHeartbeats 4000000 in
theorem k_X6_rowsKept (E : zm_E)  (M : zm_Mem) {r : Int32} (h : f_X6_rowsKept M = some r) : zm_Ct E 1 1 yX6_rowsKept Y_X6_rowsKept [.ref (E.2.1 + 103)] M (some (.int r)) M := by
  refine zm_methr (emb := zm_ei) (d := f_X6_rowsKept M) (by decide) rfl (Nat.le_of_ble_eq_true rfl) h (fun X => ?_)
  show zm_V X Y_X6_rowsKept E (zm_Q X E Y_X6_rowsKept.2.2.2.1.cells Y_X6_rowsKept.2.2.2.1.slots 1 zm_ei) 0 0 1 0 [(0, .ref (E.2.1 + 103))] [] M (f_X6_rowsKept M) (fun r => some (r, M))
  unfold f_X6_rowsKept
  refine zm_aload_n 1 rfl dX6_rowsKept_0 rfl 0 rfl ?_
  refine zm_getI 4 rfl dX6_rowsKept_1 fl_X6_51 rfl (zm_L1 rfl) ?_
  exact zm_iret dX6_rowsKept_4 rfl (Nat.le_refl _) (Nat.le_refl _) rfl
abbrev Y_X6_fewestElsewhere : zm_Y := (cX6_fewestElsewhere, 1, RX6, { frames := 0, cells := 0, slots := 0, locals := 0 }, (some .int), false)
noncomputable def f_X6_fewestElsewhere  (M : zm_Mem) : Option Int32 :=
  some (M.1 103 14)
set_option maxRecDepth 20000 in
set_option maxHeartbeats 4000000 in
theorem k_X6_fewestElsewhere (E : zm_E)  (M : zm_Mem) {r : Int32} (h : f_X6_fewestElsewhere M = some r) : zm_Ct E 1 1 yX6_fewestElsewhere Y_X6_fewestElsewhere [.ref (E.2.1 + 103)] M (some (.int r)) M := by
  refine zm_methr (emb := zm_ei) (d := f_X6_fewestElsewhere M) (by decide) rfl (Nat.le_of_ble_eq_true rfl) h (fun X => ?_)
  show zm_V X Y_X6_fewestElsewhere E (zm_Q X E Y_X6_fewestElsewhere.2.2.2.1.cells Y_X6_fewestElsewhere.2.2.2.1.slots 1 zm_ei) 0 0 1 0 [(0, .ref (E.2.1 + 103))] [] M (f_X6_fewestElsewhere M) (fun r => some (r, M))
  unfold f_X6_fewestElsewhere
  refine zm_aload_n 1 rfl dX6_fewestElsewhere_0 rfl 0 rfl ?_
  refine zm_getI 4 rfl dX6_fewestElsewhere_1 fl_X6_55 rfl (zm_L1 rfl) ?_
  exact zm_iret dX6_fewestElsewhere_4 rfl (Nat.le_refl _) (Nat.le_refl _) rfl
abbrev Y_X6_nearHouse : zm_Y := (cX6_nearHouse, 2, RX6, { frames := 0, cells := 0, slots := 0, locals := 0 }, (some .int), false)
noncomputable def f_X6_nearHouse (a1 : Int32) (M : zm_Mem) : Option Int32 :=
  zm_ck (zm_in a1 6) <| some (M.1 108 a1.toNatClampNeg)
set_option maxRecDepth 20000 in
set_option maxHeartbeats 4000000 in
theorem k_X6_nearHouse (E : zm_E) (a1 : Int32) (M : zm_Mem) {r : Int32} (h : f_X6_nearHouse a1 M = some r) : zm_Ct E 1 1 yX6_nearHouse Y_X6_nearHouse [.ref (E.2.1 + 103), .int a1] M (some (.int r)) M := by
  refine zm_methr (emb := zm_ei) (d := f_X6_nearHouse a1 M) (by decide) rfl (Nat.le_of_ble_eq_true rfl) h (fun X => ?_)
  show zm_V X Y_X6_nearHouse E (zm_Q X E Y_X6_nearHouse.2.2.2.1.cells Y_X6_nearHouse.2.2.2.1.slots 1 zm_ei) 0 0 1 0 [(0, .ref (E.2.1 + 103)), (1, .int a1)] [] M (f_X6_nearHouse a1 M) (fun r => some (r, M))
  unfold f_X6_nearHouse
  refine zm_aload_n 1 rfl dX6_nearHouse_0 rfl 0 rfl ?_
  refine zm_getR 4 rfl dX6_nearHouse_1 fl_X6_25 rfl (zm_L1 rfl) rfl ?_
  refine zm_iload_n 5 rfl dX6_nearHouse_4 rfl 1 rfl ?_
  refine zm_iald 6 rfl dX6_nearHouse_5 rfl (zm_L1 rfl) ?_
  exact zm_iret dX6_nearHouse_6 rfl (Nat.le_refl _) (Nat.le_refl _) rfl
abbrev Y_X6_brokenAt : zm_Y := (cX6_brokenAt, 4, RX6, { frames := 0, cells := 0, slots := 0, locals := 0 }, (some .int), false)
noncomputable def f_X6_brokenAt (a0 : Int32) (a1 : Int32) (a2 : Int32) (a3 : Int32) (M : zm_Mem) : Option Int32 :=
  some ((((((a0 * 5) + a1) * 6) + a2) * 6) + a3)
set_option maxRecDepth 20000 in
set_option maxHeartbeats 4000000 in
theorem k_X6_brokenAt (E : zm_E) (a0 : Int32) (a1 : Int32) (a2 : Int32) (a3 : Int32) (M : zm_Mem) {r : Int32} (h : f_X6_brokenAt a0 a1 a2 a3 M = some r) : zm_Ct E 1 1 yX6_brokenAt Y_X6_brokenAt [.int a0, .int a1, .int a2, .int a3] M (some (.int r)) M := by
  refine zm_methr (emb := zm_ei) (d := f_X6_brokenAt a0 a1 a2 a3 M) (by decide) rfl (Nat.le_of_ble_eq_true rfl) h (fun X => ?_)
  show zm_V X Y_X6_brokenAt E (zm_Q X E Y_X6_brokenAt.2.2.2.1.cells Y_X6_brokenAt.2.2.2.1.slots 1 zm_ei) 0 0 1 0 [(0, .int a0), (1, .int a1), (2, .int a2), (3, .int a3)] [] M (f_X6_brokenAt a0 a1 a2 a3 M) (fun r => some (r, M))
  unfold f_X6_brokenAt
  refine zm_iload_n 1 rfl dX6_brokenAt_0 rfl 0 rfl ?_
  refine zm_iconst 2 rfl dX6_brokenAt_1 zi_5 ?_
  refine zm_imul 3 rfl dX6_brokenAt_2 ?_
  refine zm_iload_n 4 rfl dX6_brokenAt_3 rfl 1 rfl ?_
  refine zm_iadd 5 rfl dX6_brokenAt_4 ?_
  refine zm_bipush 7 rfl dX6_brokenAt_5 zb_6 ?_
  refine zm_imul 8 rfl dX6_brokenAt_7 ?_
  refine zm_iload_n 9 rfl dX6_brokenAt_8 rfl 2 rfl ?_
  refine zm_iadd 10 rfl dX6_brokenAt_9 ?_
  refine zm_bipush 12 rfl dX6_brokenAt_10 zb_6 ?_
  refine zm_imul 13 rfl dX6_brokenAt_12 ?_
  refine zm_iload_n 14 rfl dX6_brokenAt_13 rfl 3 rfl ?_
  refine zm_iadd 15 rfl dX6_brokenAt_14 ?_
  exact zm_iret dX6_brokenAt_15 rfl (Nat.le_refl _) (Nat.le_refl _) rfl
abbrev Y_X6_fillBroken : zm_Y := (cX6_fillBroken, 8, RX6, { frames := 3, cells := 0, slots := 0, locals := 73 }, none, false)
noncomputable def f_X6_fillBroken_l104_94_57 (a1 : Int32) (a2 : Int32) (e54_3 : Int32) (l57_4 : Int32) (l94_6 : Int32) (l104_7 : Int32) (L104 : zm_Mem) : Option ((Int32 × zm_Mem) ⊕ zm_Mem) :=
 if (zm_min e54_3 l94_6) < l104_7 then (some (.inr L104)) else (zm_b2 (f_X3_enterAmong a1 l57_4 l94_6 l104_7 L104) <| fun _ M126 => zm_b1 (f_X6_brokenAt a1 l57_4 l94_6 l104_7 M126) <| fun r140 => zm_b2 (f_X3_brokenAsEntered a2 M126) <| fun r148 M148 => zm_ck (zm_in r140 1080) <| zm_v (zm_sI M148 106 r140.toNatClampNeg r148) <| fun M151 => zm_v (l104_7 + 1) <| fun x152 => some (.inl (x152, M151)))
noncomputable def f_X6_fillBroken_l94_57 (a1 : Int32) (a2 : Int32) (e54_3 : Int32) (l57_4 : Int32) (x89 : Int32) (l94_6 : Int32) (L94 : zm_Mem) : Option ((Int32 × zm_Mem) ⊕ zm_Mem) :=
 if x89 ≤ l94_6 then (some (.inr L94)) else ((zm_lp (fun s => f_X6_fillBroken_l104_94_57 a1 a2 e54_3 l57_4 l94_6 s.1 s.2) (0, L94)).bind (fun e158 => zm_v (l94_6 + 1) <| fun x158 => some (.inl (x158, e158))))
noncomputable def f_X6_fillBroken_l57 (a1 : Int32) (a2 : Int32) (e54_3 : Int32) (l57_4 : Int32) (L57 : zm_Mem) : Option ((Int32 × zm_Mem) ⊕ zm_Mem) :=
 zm_v (L57.2.2 103 10) <| fun t60 => zm_ck (zm_isT t60) <| if (L57.1 t60 11) ≤ l57_4 then (some (.inr L57)) else (zm_v (L57.2.2 103 10) <| fun t70 => zm_ck (zm_isT t70) <| zm_v (L57.2.2 103 10) <| fun t77 => zm_ck (zm_isT t77) <| zm_ck (zm_in l57_4 5) <| zm_v (zm_min (L57.1 t70 12) (L57.1 (t77 + 2) l57_4.toNatClampNeg)) <| fun x89 => (zm_lp (fun s => f_X6_fillBroken_l94_57 a1 a2 e54_3 l57_4 x89 s.1 s.2) (0, L57)).bind (fun e164 => zm_v (l57_4 + 1) <| fun x164 => some (.inl (x164, e164))))
noncomputable def f_X6_fillBroken_x54_5 (a1 : Int32) (a2 : Int32) (M : zm_Mem) (e54_3 : Int32) : Option (Unit × zm_Mem) :=
 (zm_lp (fun s => f_X6_fillBroken_l57 a1 a2 e54_3 s.1 s.2) (0, M)).bind (fun e170 => some ((), e170))
noncomputable def f_X6_fillBroken_b48_5 (l5_4 : Int32) (b48_3 : Int32) : Option ((Int32 × Int32) ⊕ Int32) :=
 zm_v (l5_4 + 1) <| fun x48 => some (.inl (b48_3, x48))
noncomputable def f_X6_fillBroken_l5 (a1 : Int32) (M : zm_Mem) (l5_3 : Int32) (l5_4 : Int32) : Option ((Int32 × Int32) ⊕ Int32) :=
 zm_v (M.2.2 103 10) <| fun t8 => zm_ck (zm_isT t8) <| if (M.1 t8 12) ≤ l5_4 then (some (.inr l5_3)) else (if l5_4 = a1 then (f_X6_fillBroken_b48_5 l5_4 l5_3) else (zm_v (M.2.2 103 10) <| fun t24 => zm_ck (zm_isT t24) <| zm_ck (zm_in l5_4 6) <| zm_v (M.2.2 103 10) <| fun t34 => zm_ck (zm_isT t34) <| zm_ck (zm_in a1 6) <| if (M.1 (t24 + 5) l5_4.toNatClampNeg) = (M.1 (t34 + 5) a1.toNatClampNeg) then (zm_v (l5_3 + 1) <| fun x45 => f_X6_fillBroken_b48_5 l5_4 x45) else (f_X6_fillBroken_b48_5 l5_4 l5_3)))
noncomputable def f_X6_fillBroken (a1 : Int32) (a2 : Int32) (M : zm_Mem) : Option (Unit × zm_Mem) :=
  (zm_lp (fun s => f_X6_fillBroken_l5 a1 M s.1 s.2) (0, 0)).bind (fun e54 => f_X6_fillBroken_x54_5 a1 a2 M e54)
set_option maxRecDepth 20000 in
set_option maxHeartbeats 4000000 in
theorem k_X6_fillBroken (E : zm_E) (a1 : Int32) (a2 : Int32) (M : zm_Mem) {r : Unit} {M' : zm_Mem} (h : f_X6_fillBroken a1 a2 M = some (r, M')) : zm_Ct E 1 1 yX6_fillBroken Y_X6_fillBroken [.ref (E.2.1 + 103), .int a1, .int a2] M none M' := by
  refine zm_meth (emb := zm_ev) (d := f_X6_fillBroken a1 a2 M) (by decide) rfl (Nat.le_of_ble_eq_true rfl) h (fun X => ?_)
  show zm_V X Y_X6_fillBroken E (zm_Q X E Y_X6_fillBroken.2.2.2.1.cells Y_X6_fillBroken.2.2.2.1.slots 1 zm_ev) 0 0 1 0 [(0, .ref (E.2.1 + 103)), (1, .int a1), (2, .int a2)] [] M (f_X6_fillBroken a1 a2 M) some
  unfold f_X6_fillBroken
  refine zm_iconst 1 rfl dX6_fillBroken_0 zi_0 ?_
  refine zm_istore_n (lv' := [(3, .int 0), (0, .ref (E.2.1 + 103)), (1, .int a1), (2, .int a2)]) 2 rfl dX6_fillBroken_1 rfl (by decide) rfl ?_
  refine zm_iconst 3 rfl dX6_fillBroken_2 zi_0 ?_
  refine zm_istore (lv' := [(4, .int 0), (3, .int 0), (0, .ref (E.2.1 + 103)), (1, .int a1), (2, .int a2)]) 5 rfl dX6_fillBroken_3 (by decide) rfl ?_
  have hx54_5 : ∀ (e54_3 : Int32), zm_V X Y_X6_fillBroken E (zm_Q X E Y_X6_fillBroken.2.2.2.1.cells Y_X6_fillBroken.2.2.2.1.slots 1 zm_ev) 0 0 1 54 [(0, .ref (E.2.1 + 103)), (1, .int a1), (2, .int a2), (3, .int e54_3)] [] M (f_X6_fillBroken_x54_5 a1 a2 M e54_3) some := by
    intro e54_3
    unfold f_X6_fillBroken_x54_5
    refine zm_iconst 55 rfl dX6_fillBroken_54 zi_0 ?_
    refine zm_istore (lv' := [(4, .int 0), (0, .ref (E.2.1 + 103)), (1, .int a1), (2, .int a2), (3, .int e54_3)]) 57 rfl dX6_fillBroken_55 (by decide) rfl ?_
    have hx170_57 : ∀ (N170 : zm_Mem), zm_V X Y_X6_fillBroken E (zm_Q X E Y_X6_fillBroken.2.2.2.1.cells Y_X6_fillBroken.2.2.2.1.slots 1 zm_ev) 0 0 1 170 [] [] N170 (some ((), N170)) some := by
      intro N170
      exact zm_vret dX6_fillBroken_170 rfl (Nat.le_refl _) (Nat.le_refl _) rfl
    refine zm_loc [1, 2, 3, 4, 0] rfl (zm_lpp (σ := (Int32 × zm_Mem)) (ε := zm_Mem) (step := fun s => f_X6_fillBroken_l57 a1 a2 e54_3 s.1 s.2) (fun s => [(0, .ref (E.2.1 + 103)), (1, .int a1), (2, .int a2), (3, .int e54_3), (4, .int s.1)]) (fun s => s.2) (fun D57 f57 hf57a hf57b hD57 s => ?_) (0, M))
    obtain ⟨l57_4, L57⟩ := s
    show zm_V X Y_X6_fillBroken E (zm_Q X E Y_X6_fillBroken.2.2.2.1.cells Y_X6_fillBroken.2.2.2.1.slots 1 zm_ev) 0 0 1 57 [(0, .ref (E.2.1 + 103)), (1, .int a1), (2, .int a2), (3, .int e54_3), (4, .int l57_4)] [] L57 (f_X6_fillBroken_l57 a1 a2 e54_3 l57_4 L57) f57
    unfold f_X6_fillBroken_l57
    refine zm_iload 59 rfl dX6_fillBroken_57 4 rfl ?_
    refine zm_aload_n 60 rfl dX6_fillBroken_59 rfl 0 rfl ?_
    refine zm_getT 63 rfl dX6_fillBroken_60 fl_X6_47 rfl (zm_L1 rfl) (fun t60 _ ht60 => ?_)
    refine zm_getI 66 rfl dX6_fillBroken_63 fl_X6_94 (zm_T_o ht60) (zm_T_l0 ht60) ?_
    refine zm_icmp_ge 170 69 (by decide) rfl dX6_fillBroken_66 ?_ ?_
    · exact zm_loc [] rfl (zm_go (hf57b _) (zm_unb (hx170_57 L57)))
    · refine zm_aload_n 70 rfl dX6_fillBroken_69 rfl 0 rfl ?_
      refine zm_getT 73 rfl dX6_fillBroken_70 fl_X6_47 rfl (zm_L1 rfl) (fun t70 _ ht70 => ?_)
      refine zm_getI 76 rfl dX6_fillBroken_73 fl_X6_74 (zm_T_o ht70) (zm_T_l0 ht70) ?_
      refine zm_aload_n 77 rfl dX6_fillBroken_76 rfl 0 rfl ?_
      refine zm_getT 80 rfl dX6_fillBroken_77 fl_X6_47 rfl (zm_L1 rfl) (fun t77 _ ht77 => ?_)
      refine zm_getR (a := t77 + 2) 83 rfl dX6_fillBroken_80 fl_X6_97 (zm_T_o ht77) (zm_T_l0 ht77) (zm_T_r ht77 1 (by decide)) ?_
      refine zm_iload 85 rfl dX6_fillBroken_83 4 rfl ?_
      refine zm_iald 86 rfl dX6_fillBroken_85 (zm_T_a ht77 2 (by decide)) (zm_T_l ht77 2 (by decide)) ?_
      refine zm_mmin 89 rfl dX6_fillBroken_86 mm_X6_100 mm_st_min in_math mm_co_min (Nat.le_of_ble_eq_true rfl) (Nat.le_of_ble_eq_true rfl) ⟨Nat.le_refl _, Nat.le_refl _⟩ ?_
      refine zm_nmi (fun x89 _ => ?_)
      refine zm_istore (lv' := [(5, .int x89), (0, .ref (E.2.1 + 103)), (1, .int a1), (2, .int a2), (3, .int e54_3), (4, .int l57_4)]) 91 rfl dX6_fillBroken_89 (by decide) rfl ?_
      refine zm_iconst 92 rfl dX6_fillBroken_91 zi_0 ?_
      refine zm_istore (lv' := [(6, .int 0), (5, .int x89), (0, .ref (E.2.1 + 103)), (1, .int a1), (2, .int a2), (3, .int e54_3), (4, .int l57_4)]) 94 rfl dX6_fillBroken_92 (by decide) rfl ?_
      have hx164_94_57 : ∀ (N164 : zm_Mem), zm_V X Y_X6_fillBroken E (zm_Q X E Y_X6_fillBroken.2.2.2.1.cells Y_X6_fillBroken.2.2.2.1.slots 1 zm_ev) 0 0 1 164 [(0, .ref (E.2.1 + 103)), (1, .int a1), (2, .int a2), (3, .int e54_3), (4, .int l57_4)] [] N164 (zm_v (l57_4 + 1) <| fun x164 => some (.inl (x164, N164))) f57 := by
        intro N164
        refine zm_iinc (lv' := fun z => [(4, .int z), (0, .ref (E.2.1 + 103)), (1, .int a1), (2, .int a2), (3, .int e54_3)]) 167 rfl dX6_fillBroken_164 zi_1 4 rfl (by decide) (fun _ => rfl) (fun x164 _ => ?_)
        refine zm_goto 57 (by decide) dX6_fillBroken_167 ?_
        exact zm_loc [1, 2, 3, 4, 0] rfl (zm_go (hf57a _) (hD57 (x164, N164)))
      refine zm_loc [2, 3, 4, 5, 6, 1, 0] rfl (zm_lpp (σ := (Int32 × zm_Mem)) (ε := zm_Mem) (step := fun s => f_X6_fillBroken_l94_57 a1 a2 e54_3 l57_4 x89 s.1 s.2) (fun s => [(0, .ref (E.2.1 + 103)), (1, .int a1), (2, .int a2), (3, .int e54_3), (4, .int l57_4), (5, .int x89), (6, .int s.1)]) (fun s => s.2) (fun D94_57 f94_57 hf94_57a hf94_57b hD94_57 s => ?_) (0, L57))
      obtain ⟨l94_6, L94⟩ := s
      show zm_V X Y_X6_fillBroken E (zm_Q X E Y_X6_fillBroken.2.2.2.1.cells Y_X6_fillBroken.2.2.2.1.slots 1 zm_ev) 0 0 1 94 [(0, .ref (E.2.1 + 103)), (1, .int a1), (2, .int a2), (3, .int e54_3), (4, .int l57_4), (5, .int x89), (6, .int l94_6)] [] L94 (f_X6_fillBroken_l94_57 a1 a2 e54_3 l57_4 x89 l94_6 L94) f94_57
      unfold f_X6_fillBroken_l94_57
      refine zm_iload 96 rfl dX6_fillBroken_94 6 rfl ?_
      refine zm_iload 98 rfl dX6_fillBroken_96 5 rfl ?_
      refine zm_icmp_ge 164 101 (by decide) rfl dX6_fillBroken_98 ?_ ?_
      · exact zm_loc [0, 1, 2, 3, 4] rfl (zm_go (hf94_57b _) (zm_unb (hx164_94_57 L94)))
      · refine zm_iconst 102 rfl dX6_fillBroken_101 zi_0 ?_
        refine zm_istore (lv' := [(7, .int 0), (0, .ref (E.2.1 + 103)), (1, .int a1), (2, .int a2), (3, .int e54_3), (4, .int l57_4), (5, .int x89), (6, .int l94_6)]) 104 rfl dX6_fillBroken_102 (by decide) rfl ?_
        have hx158_104_94_57 : ∀ (N158 : zm_Mem), zm_V X Y_X6_fillBroken E (zm_Q X E Y_X6_fillBroken.2.2.2.1.cells Y_X6_fillBroken.2.2.2.1.slots 1 zm_ev) 0 0 1 158 [(0, .ref (E.2.1 + 103)), (1, .int a1), (2, .int a2), (3, .int e54_3), (4, .int l57_4), (5, .int x89), (6, .int l94_6)] [] N158 (zm_v (l94_6 + 1) <| fun x158 => some (.inl (x158, N158))) f94_57 := by
          intro N158
          refine zm_iinc (lv' := fun z => [(6, .int z), (0, .ref (E.2.1 + 103)), (1, .int a1), (2, .int a2), (3, .int e54_3), (4, .int l57_4), (5, .int x89)]) 161 rfl dX6_fillBroken_158 zi_1 6 rfl (by decide) (fun _ => rfl) (fun x158 _ => ?_)
          refine zm_goto 94 (by decide) dX6_fillBroken_161 ?_
          exact zm_loc [1, 2, 3, 4, 5, 6, 0] rfl (zm_go (hf94_57a _) (hD94_57 (x158, N158)))
        refine zm_loc [1, 2, 3, 4, 5, 6, 7, 0] rfl (zm_lpp (σ := (Int32 × zm_Mem)) (ε := zm_Mem) (step := fun s => f_X6_fillBroken_l104_94_57 a1 a2 e54_3 l57_4 l94_6 s.1 s.2) (fun s => [(0, .ref (E.2.1 + 103)), (1, .int a1), (2, .int a2), (3, .int e54_3), (4, .int l57_4), (5, .int x89), (6, .int l94_6), (7, .int s.1)]) (fun s => s.2) (fun D104_94_57 f104_94_57 hf104_94_57a hf104_94_57b hD104_94_57 s => ?_) (0, L94))
        obtain ⟨l104_7, L104⟩ := s
        show zm_V X Y_X6_fillBroken E (zm_Q X E Y_X6_fillBroken.2.2.2.1.cells Y_X6_fillBroken.2.2.2.1.slots 1 zm_ev) 0 0 1 104 [(0, .ref (E.2.1 + 103)), (1, .int a1), (2, .int a2), (3, .int e54_3), (4, .int l57_4), (5, .int x89), (6, .int l94_6), (7, .int l104_7)] [] L104 (f_X6_fillBroken_l104_94_57 a1 a2 e54_3 l57_4 l94_6 l104_7 L104) f104_94_57
        unfold f_X6_fillBroken_l104_94_57
        refine zm_iload 106 rfl dX6_fillBroken_104 7 rfl ?_
        refine zm_iload_n 107 rfl dX6_fillBroken_106 rfl 3 rfl ?_
        refine zm_iload 109 rfl dX6_fillBroken_107 6 rfl ?_
        refine zm_mmin 112 rfl dX6_fillBroken_109 mm_X6_100 mm_st_min in_math mm_co_min (Nat.le_of_ble_eq_true rfl) (Nat.le_of_ble_eq_true rfl) ⟨Nat.le_refl _, Nat.le_refl _⟩ ?_
        refine zm_icmp_gt 158 115 (by decide) rfl dX6_fillBroken_112 ?_ ?_
        · exact zm_loc [0, 1, 2, 3, 4, 5, 6] rfl (zm_go (hf104_94_57b _) (zm_unb (hx158_104_94_57 L104)))
        · refine zm_aload_n 116 rfl dX6_fillBroken_115 rfl 0 rfl ?_
          refine zm_getR 119 rfl dX6_fillBroken_116 fl_X6_37 rfl (zm_L1 rfl) rfl ?_
          refine zm_iload_n 120 rfl dX6_fillBroken_119 rfl 1 rfl ?_
          refine zm_iload 122 rfl dX6_fillBroken_120 4 rfl ?_
          refine zm_iload 124 rfl dX6_fillBroken_122 6 rfl ?_
          refine zm_iload 126 rfl dX6_fillBroken_124 7 rfl ?_
          refine zm_cV4v 129 rfl dX6_fillBroken_126 ml_X6_106 rfl (zm_L rfl) rfl (Nat.le_of_ble_eq_true rfl) ⟨Nat.le_of_ble_eq_true rfl, Nat.le_of_ble_eq_true rfl⟩ rfl rfl ⟨Nat.le_refl _, Nat.le_refl _⟩ rfl (fun _ _ h => k_X3_enterAmong E 1 a1 l57_4 l94_6 l104_7 L104 h) (fun _ M126 => ?_)
          refine zm_aload_n 130 rfl dX6_fillBroken_129 rfl 0 rfl ?_
          refine zm_getR 133 rfl dX6_fillBroken_130 fl_X6_18 rfl (zm_L1 rfl) rfl ?_
          refine zm_iload_n 134 rfl dX6_fillBroken_133 rfl 1 rfl ?_
          refine zm_iload 136 rfl dX6_fillBroken_134 4 rfl ?_
          refine zm_iload 138 rfl dX6_fillBroken_136 6 rfl ?_
          refine zm_iload 140 rfl dX6_fillBroken_138 7 rfl ?_
          refine zm_cS4ir 143 rfl dX6_fillBroken_140 ml_X6_110 (Nat.le_of_ble_eq_true rfl) ⟨Nat.le_of_ble_eq_true rfl, Nat.le_of_ble_eq_true rfl⟩ rfl rfl ⟨Nat.le_refl _, Nat.le_refl _⟩ rfl (fun _ h => k_X6_brokenAt E a1 l57_4 l94_6 l104_7 M126 h) (fun r140 => ?_)
          refine zm_aload_n 144 rfl dX6_fillBroken_143 rfl 0 rfl ?_
          refine zm_getR 147 rfl dX6_fillBroken_144 fl_X6_37 rfl (zm_L1 rfl) rfl ?_
          refine zm_iload_n 148 rfl dX6_fillBroken_147 rfl 2 rfl ?_
          refine zm_cV1i 151 rfl dX6_fillBroken_148 ml_X6_114 rfl (zm_L rfl) rfl (Nat.le_of_ble_eq_true rfl) ⟨Nat.le_of_ble_eq_true rfl, Nat.le_of_ble_eq_true rfl⟩ rfl rfl ⟨Nat.le_refl _, Nat.le_refl _⟩ rfl (fun _ _ h => k_X3_brokenAsEntered E 1 a2 M126 h) (fun r148 M148 => ?_)
          refine zm_iast 152 rfl dX6_fillBroken_151 rfl (zm_L1 rfl) (fun M151 _ => ?_)
          refine zm_iinc (lv' := fun z => [(7, .int z), (0, .ref (E.2.1 + 103)), (1, .int a1), (2, .int a2), (3, .int e54_3), (4, .int l57_4), (5, .int x89), (6, .int l94_6)]) 155 rfl dX6_fillBroken_152 zi_1 7 rfl (by decide) (fun _ => rfl) (fun x152 _ => ?_)
          refine zm_goto 104 (by decide) dX6_fillBroken_155 ?_
          exact zm_loc [1, 2, 3, 4, 5, 6, 7, 0] rfl (zm_go (hf104_94_57a _) (hD104_94_57 (x152, M151)))
  refine zm_loc [2, 3, 4, 1, 0] rfl (zm_lpp (σ := (Int32 × Int32)) (ε := Int32) (step := fun s => f_X6_fillBroken_l5 a1 M s.1 s.2) (fun s => [(0, .ref (E.2.1 + 103)), (1, .int a1), (2, .int a2), (3, .int s.1), (4, .int s.2)]) (fun _ => M) (fun D5 f5 hf5a hf5b hD5 s => ?_) (0, 0))
  obtain ⟨l5_3, l5_4⟩ := s
  show zm_V X Y_X6_fillBroken E (zm_Q X E Y_X6_fillBroken.2.2.2.1.cells Y_X6_fillBroken.2.2.2.1.slots 1 zm_ev) 0 0 1 5 [(0, .ref (E.2.1 + 103)), (1, .int a1), (2, .int a2), (3, .int l5_3), (4, .int l5_4)] [] M (f_X6_fillBroken_l5 a1 M l5_3 l5_4) f5
  unfold f_X6_fillBroken_l5
  refine zm_iload 7 rfl dX6_fillBroken_5 4 rfl ?_
  refine zm_aload_n 8 rfl dX6_fillBroken_7 rfl 0 rfl ?_
  refine zm_getT 11 rfl dX6_fillBroken_8 fl_X6_47 rfl (zm_L1 rfl) (fun t8 _ ht8 => ?_)
  refine zm_getI 14 rfl dX6_fillBroken_11 fl_X6_74 (zm_T_o ht8) (zm_T_l0 ht8) ?_
  refine zm_icmp_ge 54 17 (by decide) rfl dX6_fillBroken_14 ?_ ?_
  · exact zm_loc [0, 1, 2, 3] rfl (zm_go (hf5b _) (zm_unb (hx54_5 l5_3)))
  · refine zm_iload 19 rfl dX6_fillBroken_17 4 rfl ?_
    refine zm_iload_n 20 rfl dX6_fillBroken_19 rfl 1 rfl ?_
    have hb48_5 : ∀ (b48_3 : Int32), zm_V X Y_X6_fillBroken E (zm_Q X E Y_X6_fillBroken.2.2.2.1.cells Y_X6_fillBroken.2.2.2.1.slots 1 zm_ev) 0 0 1 48 [(0, .ref (E.2.1 + 103)), (1, .int a1), (2, .int a2), (3, .int b48_3), (4, .int l5_4)] [] M (f_X6_fillBroken_b48_5 l5_4 b48_3) f5 := by
      intro b48_3
      unfold f_X6_fillBroken_b48_5
      refine zm_iinc (lv' := fun z => [(4, .int z), (0, .ref (E.2.1 + 103)), (1, .int a1), (2, .int a2), (3, .int b48_3)]) 51 rfl dX6_fillBroken_48 zi_1 4 rfl (by decide) (fun _ => rfl) (fun x48 _ => ?_)
      refine zm_goto 5 (by decide) dX6_fillBroken_51 ?_
      exact zm_loc [1, 2, 3, 4, 0] rfl (zm_go (hf5a _) (hD5 (b48_3, x48)))
    refine zm_icmp_eq 48 23 (by decide) rfl dX6_fillBroken_20 ?_ ?_
    · exact zm_loc [0, 1, 2, 3, 4] rfl (hb48_5 l5_3)
    · refine zm_aload_n 24 rfl dX6_fillBroken_23 rfl 0 rfl ?_
      refine zm_getT 27 rfl dX6_fillBroken_24 fl_X6_47 rfl (zm_L1 rfl) (fun t24 _ ht24 => ?_)
      refine zm_getR (a := t24 + 5) 30 rfl dX6_fillBroken_27 fl_X6_91 (zm_T_o ht24) (zm_T_l0 ht24) (zm_T_r ht24 4 (by decide)) ?_
      refine zm_iload 32 rfl dX6_fillBroken_30 4 rfl ?_
      refine zm_iald 33 rfl dX6_fillBroken_32 (zm_T_a ht24 5 (by decide)) (zm_T_l ht24 5 (by decide)) ?_
      refine zm_aload_n 34 rfl dX6_fillBroken_33 rfl 0 rfl ?_
      refine zm_getT 37 rfl dX6_fillBroken_34 fl_X6_47 rfl (zm_L1 rfl) (fun t34 _ ht34 => ?_)
      refine zm_getR (a := t34 + 5) 40 rfl dX6_fillBroken_37 fl_X6_91 (zm_T_o ht34) (zm_T_l0 ht34) (zm_T_r ht34 4 (by decide)) ?_
      refine zm_iload_n 41 rfl dX6_fillBroken_40 rfl 1 rfl ?_
      refine zm_iald 42 rfl dX6_fillBroken_41 (zm_T_a ht34 5 (by decide)) (zm_T_l ht34 5 (by decide)) ?_
      refine zm_icmp_ne 48 45 (by decide) rfl dX6_fillBroken_42 ?_ ?_
      · refine zm_iinc (lv' := fun z => [(3, .int z), (0, .ref (E.2.1 + 103)), (1, .int a1), (2, .int a2), (4, .int l5_4)]) 48 rfl dX6_fillBroken_45 zi_1 3 rfl (by decide) (fun _ => rfl) (fun x45 _ => ?_)
        exact zm_loc [1, 2, 3, 0, 4] rfl (hb48_5 x45)
      · exact zm_loc [0, 1, 2, 3, 4] rfl (hb48_5 l5_3)
abbrev Y_X6_brokenInRow : zm_Y := (cX6_brokenInRow, 6, RX6, { frames := 1, cells := 0, slots := 0, locals := 23 }, (some .int), false)
noncomputable def f_X6_brokenInRow_l4 (M : zm_Mem) (l4_1 : Int32) (l4_2 : Int32) : Option ((Int32 × Int32) ⊕ Int32) :=
 if (M.1 103 9) ≤ l4_2 then (some (.inr l4_1)) else (zm_ck (zm_in l4_2 6) <| zm_v (M.1 111 l4_2.toNatClampNeg) <| fun x18 => zm_ck (zm_in x18 6) <| zm_v (M.1 107 x18.toNatClampNeg) <| fun x25 => zm_v (M.2.2 103 10) <| fun t37 => zm_ck (zm_isT t37) <| zm_ck (zm_in x18 6) <| zm_ck (zm_in ((x25 * 10) + (M.1 (t37 + 5) x18.toNatClampNeg)) 50) <| zm_v ((M.1 110 ((x25 * 10) + (M.1 (t37 + 5) x18.toNatClampNeg)).toNatClampNeg) - 1) <| fun x49 => zm_ck (zm_in x25 5) <| zm_b1 (f_X6_brokenAt x18 x25 ((M.1 109 x25.toNatClampNeg) - 1) x49 M) <| fun r70 => zm_ck (zm_in r70 1080) <| zm_v (l4_1 ||| (M.1 106 r70.toNatClampNeg)) <| fun x75 => zm_v (l4_2 + 1) <| fun x76 => some (.inl (x75, x76)))
noncomputable def f_X6_brokenInRow  (M : zm_Mem) : Option Int32 :=
  (zm_lp (fun s => f_X6_brokenInRow_l4 M s.1 s.2) (0, 0)).bind (fun e82 => some e82)
set_option maxRecDepth 20000 in
set_option maxHeartbeats 4000000 in
theorem k_X6_brokenInRow (E : zm_E)  (M : zm_Mem) {r : Int32} (h : f_X6_brokenInRow M = some r) : zm_Ct E 1 1 yX6_brokenInRow Y_X6_brokenInRow [.ref (E.2.1 + 103)] M (some (.int r)) M := by
  refine zm_methr (emb := zm_ei) (d := f_X6_brokenInRow M) (by decide) rfl (Nat.le_of_ble_eq_true rfl) h (fun X => ?_)
  show zm_V X Y_X6_brokenInRow E (zm_Q X E Y_X6_brokenInRow.2.2.2.1.cells Y_X6_brokenInRow.2.2.2.1.slots 1 zm_ei) 0 0 1 0 [(0, .ref (E.2.1 + 103))] [] M (f_X6_brokenInRow M) (fun r => some (r, M))
  unfold f_X6_brokenInRow
  refine zm_iconst 1 rfl dX6_brokenInRow_0 zi_0 ?_
  refine zm_istore_n (lv' := [(1, .int 0), (0, .ref (E.2.1 + 103))]) 2 rfl dX6_brokenInRow_1 rfl (by decide) rfl ?_
  refine zm_iconst 3 rfl dX6_brokenInRow_2 zi_0 ?_
  refine zm_istore_n (lv' := [(2, .int 0), (1, .int 0), (0, .ref (E.2.1 + 103))]) 4 rfl dX6_brokenInRow_3 rfl (by decide) rfl ?_
  have hx82_4 : ∀ (e82_1 : Int32), zm_V X Y_X6_brokenInRow E (zm_Q X E Y_X6_brokenInRow.2.2.2.1.cells Y_X6_brokenInRow.2.2.2.1.slots 1 zm_ei) 0 0 1 82 [(1, .int e82_1)] [] M (some e82_1) (fun r => some (r, M)) := by
    intro e82_1
    refine zm_iload_n 83 rfl dX6_brokenInRow_82 rfl 0 rfl ?_
    exact zm_iret dX6_brokenInRow_83 rfl (Nat.le_refl _) (Nat.le_refl _) rfl
  refine zm_loc [2, 1, 0] rfl (zm_lpp (σ := (Int32 × Int32)) (ε := Int32) (step := fun s => f_X6_brokenInRow_l4 M s.1 s.2) (fun s => [(0, .ref (E.2.1 + 103)), (1, .int s.1), (2, .int s.2)]) (fun _ => M) (fun D4 f4 hf4a hf4b hD4 s => ?_) (0, 0))
  obtain ⟨l4_1, l4_2⟩ := s
  show zm_V X Y_X6_brokenInRow E (zm_Q X E Y_X6_brokenInRow.2.2.2.1.cells Y_X6_brokenInRow.2.2.2.1.slots 1 zm_ei) 0 0 1 4 [(0, .ref (E.2.1 + 103)), (1, .int l4_1), (2, .int l4_2)] [] M (f_X6_brokenInRow_l4 M l4_1 l4_2) f4
  unfold f_X6_brokenInRow_l4
  refine zm_iload_n 5 rfl dX6_brokenInRow_4 rfl 2 rfl ?_
  refine zm_aload_n 6 rfl dX6_brokenInRow_5 rfl 0 rfl ?_
  refine zm_getI 9 rfl dX6_brokenInRow_6 fl_X6_71 rfl (zm_L1 rfl) ?_
  refine zm_icmp_ge 82 12 (by decide) rfl dX6_brokenInRow_9 ?_ ?_
  · exact zm_loc [1] rfl (zm_go (hf4b _) (zm_unb (hx82_4 l4_1)))
  · refine zm_aload_n 13 rfl dX6_brokenInRow_12 rfl 0 rfl ?_
    refine zm_getR 16 rfl dX6_brokenInRow_13 fl_X6_34 rfl (zm_L1 rfl) rfl ?_
    refine zm_iload_n 17 rfl dX6_brokenInRow_16 rfl 2 rfl ?_
    refine zm_iald 18 rfl dX6_brokenInRow_17 rfl (zm_L1 rfl) ?_
    refine zm_nmi (fun x18 _ => ?_)
    refine zm_istore_n (lv' := [(3, .int x18), (0, .ref (E.2.1 + 103)), (1, .int l4_1), (2, .int l4_2)]) 19 rfl dX6_brokenInRow_18 rfl (by decide) rfl ?_
    refine zm_aload_n 20 rfl dX6_brokenInRow_19 rfl 1 rfl ?_
    refine zm_getR 23 rfl dX6_brokenInRow_20 fl_X6_22 rfl (zm_L1 rfl) rfl ?_
    refine zm_iload_n 24 rfl dX6_brokenInRow_23 rfl 0 rfl ?_
    refine zm_iald 25 rfl dX6_brokenInRow_24 rfl (zm_L1 rfl) ?_
    refine zm_nmi (fun x25 _ => ?_)
    refine zm_istore (lv' := [(4, .int x25), (3, .int x18), (0, .ref (E.2.1 + 103)), (1, .int l4_1), (2, .int l4_2)]) 27 rfl dX6_brokenInRow_25 (by decide) rfl ?_
    refine zm_aload_n 28 rfl dX6_brokenInRow_27 rfl 2 rfl ?_
    refine zm_getR 31 rfl dX6_brokenInRow_28 fl_X6_31 rfl (zm_L1 rfl) rfl ?_
    refine zm_iload 33 rfl dX6_brokenInRow_31 0 rfl ?_
    refine zm_bipush 35 rfl dX6_brokenInRow_33 zb_10 ?_
    refine zm_imul 36 rfl dX6_brokenInRow_35 ?_
    refine zm_aload_n 37 rfl dX6_brokenInRow_36 rfl 2 rfl ?_
    refine zm_getT 40 rfl dX6_brokenInRow_37 fl_X6_47 rfl (zm_L1 rfl) (fun t37 _ ht37 => ?_)
    refine zm_getR (a := t37 + 5) 43 rfl dX6_brokenInRow_40 fl_X6_91 (zm_T_o ht37) (zm_T_l0 ht37) (zm_T_r ht37 4 (by decide)) ?_
    refine zm_iload_n 44 rfl dX6_brokenInRow_43 rfl 1 rfl ?_
    refine zm_iald 45 rfl dX6_brokenInRow_44 (zm_T_a ht37 5 (by decide)) (zm_T_l ht37 5 (by decide)) ?_
    refine zm_iadd 46 rfl dX6_brokenInRow_45 ?_
    refine zm_iald 47 rfl dX6_brokenInRow_46 rfl (zm_L1 rfl) ?_
    refine zm_iconst 48 rfl dX6_brokenInRow_47 zi_1 ?_
    refine zm_isub 49 rfl dX6_brokenInRow_48 ?_
    refine zm_nmi (fun x49 _ => ?_)
    refine zm_istore (lv' := [(5, .int x49), (4, .int x25), (3, .int x18), (0, .ref (E.2.1 + 103)), (1, .int l4_1), (2, .int l4_2)]) 51 rfl dX6_brokenInRow_49 (by decide) rfl ?_
    refine zm_iload_n 52 rfl dX6_brokenInRow_51 rfl 4 rfl ?_
    refine zm_aload_n 53 rfl dX6_brokenInRow_52 rfl 3 rfl ?_
    refine zm_getR 56 rfl dX6_brokenInRow_53 fl_X6_18 rfl (zm_L1 rfl) rfl ?_
    refine zm_iload_n 57 rfl dX6_brokenInRow_56 rfl 2 rfl ?_
    refine zm_iload 59 rfl dX6_brokenInRow_57 1 rfl ?_
    refine zm_aload_n 60 rfl dX6_brokenInRow_59 rfl 3 rfl ?_
    refine zm_getR 63 rfl dX6_brokenInRow_60 fl_X6_28 rfl (zm_L1 rfl) rfl ?_
    refine zm_iload 65 rfl dX6_brokenInRow_63 1 rfl ?_
    refine zm_iald 66 rfl dX6_brokenInRow_65 rfl (zm_L1 rfl) ?_
    refine zm_iconst 67 rfl dX6_brokenInRow_66 zi_1 ?_
    refine zm_isub 68 rfl dX6_brokenInRow_67 ?_
    refine zm_iload 70 rfl dX6_brokenInRow_68 0 rfl ?_
    refine zm_cS4ir 73 rfl dX6_brokenInRow_70 ml_X6_110 (Nat.le_of_ble_eq_true rfl) ⟨Nat.le_of_ble_eq_true rfl, Nat.le_of_ble_eq_true rfl⟩ rfl rfl ⟨Nat.le_refl _, Nat.le_refl _⟩ rfl (fun _ h => k_X6_brokenAt E x18 x25 ((M.1 109 x25.toNatClampNeg) - 1) x49 M h) (fun r70 => ?_)
    refine zm_iald 74 rfl dX6_brokenInRow_73 rfl (zm_L1 rfl) ?_
    refine zm_ior 75 rfl dX6_brokenInRow_74 ?_
    refine zm_nmi (fun x75 _ => ?_)
    refine zm_istore_n (lv' := [(1, .int x75), (5, .int x49), (4, .int x25), (3, .int x18), (0, .ref (E.2.1 + 103)), (2, .int l4_2)]) 76 rfl dX6_brokenInRow_75 rfl (by decide) rfl ?_
    refine zm_iinc (lv' := fun z => [(2, .int z), (1, .int x75), (5, .int x49), (4, .int x25), (3, .int x18), (0, .ref (E.2.1 + 103))]) 79 rfl dX6_brokenInRow_76 zi_1 5 rfl (by decide) (fun _ => rfl) (fun x76 _ => ?_)
    refine zm_goto 4 (by decide) dX6_brokenInRow_79 ?_
    exact zm_loc [5, 1, 0] rfl (zm_go (hf4a _) (hD4 (x75, x76)))
abbrev Y_X6_keepRow : zm_Y := (cX6_keepRow, 7, RX6, { frames := 2, cells := 0, slots := 0, locals := 100 }, none, false)
noncomputable def f_X6_keepRow (a1 : Int32) (a2 : Int32) (M : zm_Mem) : Option (Unit × zm_Mem) :=
  zm_b1 (f_X6_brokenInRow M) <| fun r1 => zm_v (zm_sL M 103 12 ((M.2.1 103 12) ||| (1 <<< (r1.toInt64 &&& 63)))) <| fun M14 => zm_v (a1 >>> (6 &&& 31)) <| fun x21 => if x21 < 0 then (some ((), M14)) else (if x21 < (625 : Int32) then (zm_v (1 <<< ((a1 &&& 63).toInt64 &&& 63)) <| fun x43 => zm_ck (zm_in x21 625) <| zm_ck (zm_in x21 625) <| zm_v (zm_sL M14 104 x21.toNatClampNeg ((M14.2.1 104 x21.toNatClampNeg) ||| x43)) <| fun M56 => if r1 = 0 then (zm_ck (zm_in x21 625) <| zm_ck (zm_in x21 625) <| zm_v (zm_sL M56 105 x21.toNatClampNeg ((M56.2.1 105 x21.toNatClampNeg) ||| x43)) <| fun M73 => zm_v (zm_sI M73 103 13 ((M73.1 103 13) + 1)) <| fun M81 => if (M81.1 103 14) ≤ a2 then (some ((), M81)) else (zm_v (zm_sI M81 103 14 a2) <| fun M94 => zm_ck (decide ((0 : Int32) ≤ 0) && (decide ((0 : Int32) ≤ 0) && (decide (0 ≤ 6) && (decide ((0 : Int32).toNatClampNeg + (6 : Int32).toNatClampNeg ≤ 6) && decide ((0 : Int32).toNatClampNeg + (6 : Int32).toNatClampNeg ≤ 6))))) <| zm_v (zm_cp M94 107 (0 : Int32).toNatClampNeg 108 (0 : Int32).toNatClampNeg (6 : Int32).toNatClampNeg) <| fun M109 => some ((), M109))) else (some ((), M56))) else (some ((), M14)))
set_option maxRecDepth 20000 in
set_option maxHeartbeats 4000000 in
theorem k_X6_keepRow (E : zm_E) (a1 : Int32) (a2 : Int32) (M : zm_Mem) {r : Unit} {M' : zm_Mem} (h : f_X6_keepRow a1 a2 M = some (r, M')) : zm_Ct E 1 1 yX6_keepRow Y_X6_keepRow [.ref (E.2.1 + 103), .int a1, .int a2] M none M' := by
  refine zm_meth (emb := zm_ev) (d := f_X6_keepRow a1 a2 M) (by decide) rfl (Nat.le_of_ble_eq_true rfl) h (fun X => ?_)
  show zm_V X Y_X6_keepRow E (zm_Q X E Y_X6_keepRow.2.2.2.1.cells Y_X6_keepRow.2.2.2.1.slots 1 zm_ev) 0 0 1 0 [(0, .ref (E.2.1 + 103)), (1, .int a1), (2, .int a2)] [] M (f_X6_keepRow a1 a2 M) some
  unfold f_X6_keepRow
  refine zm_aload_n 1 rfl dX6_keepRow_0 rfl 0 rfl ?_
  refine zm_cV0ir 4 rfl dX6_keepRow_1 ml_X6_123 rfl (zm_L1 rfl) rfl (Nat.le_of_ble_eq_true rfl) ⟨Nat.le_of_ble_eq_true rfl, Nat.le_of_ble_eq_true rfl⟩ rfl rfl ⟨Nat.le_refl _, Nat.le_refl _⟩ rfl (fun _ h => k_X6_brokenInRow E M h) (fun r1 => ?_)
  refine zm_istore_n (lv' := [(3, .int r1), (0, .ref (E.2.1 + 103)), (1, .int a1), (2, .int a2)]) 5 rfl dX6_keepRow_4 rfl (by decide) rfl ?_
  refine zm_aload_n 6 rfl dX6_keepRow_5 rfl 1 rfl ?_
  refine zm_dup 7 rfl dX6_keepRow_6 rfl ?_
  refine zm_getL 10 rfl dX6_keepRow_7 fl_X6_67 rfl (zm_L1 rfl) ?_
  refine zm_lconst 11 rfl dX6_keepRow_10 rfl ?_
  refine zm_iload_n 12 rfl dX6_keepRow_11 rfl 0 rfl ?_
  refine zm_lshl 13 rfl dX6_keepRow_12 ?_
  refine zm_lor 14 rfl dX6_keepRow_13 ?_
  refine zm_putL 17 rfl dX6_keepRow_14 fp_X6_67 rfl (zm_L1 rfl) (fun M14 _ => ?_)
  refine zm_iload_n 18 rfl dX6_keepRow_17 rfl 2 rfl ?_
  refine zm_bipush 20 rfl dX6_keepRow_18 zb_6 ?_
  refine zm_ishr 21 rfl dX6_keepRow_20 ?_
  refine zm_nmi (fun x21 _ => ?_)
  refine zm_istore (lv' := [(4, .int x21), (3, .int r1), (0, .ref (E.2.1 + 103)), (1, .int a1), (2, .int a2)]) 23 rfl dX6_keepRow_21 (by decide) rfl ?_
  refine zm_iload 25 rfl dX6_keepRow_23 0 rfl ?_
  refine zm_if_lt 36 28 (by decide) rfl dX6_keepRow_25 ?_ ?_
  · exact zm_vret dX6_keepRow_36 rfl (Nat.le_refl _) (Nat.le_refl _) rfl
  · refine zm_iload 30 rfl dX6_keepRow_28 0 rfl ?_
    refine zm_sipush 33 rfl dX6_keepRow_30 zs_625 ?_
    refine zm_icmp_lt 37 36 (by decide) rfl dX6_keepRow_33 ?_ ?_
    · refine zm_lconst 38 rfl dX6_keepRow_37 rfl ?_
      refine zm_iload_n 39 rfl dX6_keepRow_38 rfl 3 rfl ?_
      refine zm_bipush 41 rfl dX6_keepRow_39 zb_63 ?_
      refine zm_iand 42 rfl dX6_keepRow_41 ?_
      refine zm_lshl 43 rfl dX6_keepRow_42 ?_
      refine zm_nml (fun x43 _ => ?_)
      refine zm_lstore (lv' := [(5, .long x43), (4, .int x21), (3, .int r1), (0, .ref (E.2.1 + 103)), (1, .int a1), (2, .int a2)]) 45 rfl dX6_keepRow_43 (by decide) rfl ?_
      refine zm_aload_n 46 rfl dX6_keepRow_45 rfl 3 rfl ?_
      refine zm_getR 49 rfl dX6_keepRow_46 fl_X6_11 rfl (zm_L1 rfl) rfl ?_
      refine zm_iload 51 rfl dX6_keepRow_49 1 rfl ?_
      refine zm_dup2 52 rfl dX6_keepRow_51 rfl rfl ?_
      refine zm_lald 53 rfl dX6_keepRow_52 rfl (zm_L1 rfl) ?_
      refine zm_lload 55 rfl dX6_keepRow_53 0 rfl ?_
      refine zm_lor 56 rfl dX6_keepRow_55 ?_
      refine zm_last 57 rfl dX6_keepRow_56 rfl (zm_L1 rfl) (fun M56 _ => ?_)
      refine zm_iload_n 58 rfl dX6_keepRow_57 rfl 2 rfl ?_
      refine zm_if_eq 62 61 (by decide) rfl dX6_keepRow_58 ?_ ?_
      · refine zm_aload_n 63 rfl dX6_keepRow_62 rfl 3 rfl ?_
        refine zm_getR 66 rfl dX6_keepRow_63 fl_X6_15 rfl (zm_L1 rfl) rfl ?_
        refine zm_iload 68 rfl dX6_keepRow_66 1 rfl ?_
        refine zm_dup2 69 rfl dX6_keepRow_68 rfl rfl ?_
        refine zm_lald 70 rfl dX6_keepRow_69 rfl (zm_L1 rfl) ?_
        refine zm_lload 72 rfl dX6_keepRow_70 0 rfl ?_
        refine zm_lor 73 rfl dX6_keepRow_72 ?_
        refine zm_last 74 rfl dX6_keepRow_73 rfl (zm_L1 rfl) (fun M73 _ => ?_)
        refine zm_aload_n 75 rfl dX6_keepRow_74 rfl 3 rfl ?_
        refine zm_dup 76 rfl dX6_keepRow_75 rfl ?_
        refine zm_getI 79 rfl dX6_keepRow_76 fl_X6_51 rfl (zm_L1 rfl) ?_
        refine zm_iconst 80 rfl dX6_keepRow_79 zi_1 ?_
        refine zm_iadd 81 rfl dX6_keepRow_80 ?_
        refine zm_putI 84 rfl dX6_keepRow_81 fp_X6_51 rfl (zm_L1 rfl) rfl rfl (fun M81 _ => ?_)
        refine zm_iload_n 85 rfl dX6_keepRow_84 rfl 5 rfl ?_
        refine zm_aload_n 86 rfl dX6_keepRow_85 rfl 3 rfl ?_
        refine zm_getI 89 rfl dX6_keepRow_86 fl_X6_55 rfl (zm_L1 rfl) ?_
        refine zm_icmp_ge 112 92 (by decide) rfl dX6_keepRow_89 ?_ ?_
        · exact zm_vret dX6_keepRow_112 rfl (Nat.le_refl _) (Nat.le_refl _) rfl
        · refine zm_aload_n 93 rfl dX6_keepRow_92 rfl 3 rfl ?_
          refine zm_iload_n 94 rfl dX6_keepRow_93 rfl 5 rfl ?_
          refine zm_putI 97 rfl dX6_keepRow_94 fp_X6_55 rfl (zm_L1 rfl) rfl rfl (fun M94 _ => ?_)
          refine zm_aload_n 98 rfl dX6_keepRow_97 rfl 3 rfl ?_
          refine zm_getR 101 rfl dX6_keepRow_98 fl_X6_22 rfl (zm_L1 rfl) rfl ?_
          refine zm_iconst 102 rfl dX6_keepRow_101 zi_0 ?_
          refine zm_aload_n 103 rfl dX6_keepRow_102 rfl 3 rfl ?_
          refine zm_getR 106 rfl dX6_keepRow_103 fl_X6_25 rfl (zm_L1 rfl) rfl ?_
          refine zm_iconst 107 rfl dX6_keepRow_106 zi_0 ?_
          refine zm_bipush 109 rfl dX6_keepRow_107 zb_6 ?_
          refine zm_copy 112 rfl dX6_keepRow_109 ac_X6_127 ac_nat ac_st in_sys rfl rfl (zm_L1 rfl) (zm_L1 rfl) (Nat.le_of_ble_eq_true rfl) (Nat.le_of_ble_eq_true rfl) (fun M109 _ => ?_)
          exact zm_vret dX6_keepRow_112 rfl (Nat.le_refl _) (Nat.le_refl _) rfl
      · exact zm_vret dX6_keepRow_61 rfl (Nat.le_refl _) (Nat.le_refl _) rfl
    · exact zm_vret dX6_keepRow_36 rfl (Nat.le_refl _) (Nat.le_refl _) rfl
abbrev Y_X6_canKeep : zm_Y := (cX6_canKeep, 3, RX6, { frames := 0, cells := 0, slots := 0, locals := 0 }, (some .boolean), false)
noncomputable def f_X6_canKeep_b29_2 (l2_2 : Int32) : Option (Int32 ⊕ (Unit ⊕ Unit)) :=
 zm_v (l2_2 + 1) <| fun x29 => some (.inl x29)
noncomputable def f_X6_canKeep_l2 (a1 : Int32) (M : zm_Mem) (l2_2 : Int32) : Option (Int32 ⊕ (Unit ⊕ Unit)) :=
 if (64 : Int32) ≤ l2_2 then (some (.inr (.inr ()))) else (if (lg_cmp (((M.2.1 103 12) >>> (l2_2.toInt64 &&& 63)) &&& 1) 1) = 0 then (if (l2_2 &&& a1) = 0 then (some (.inr (.inl ()))) else (f_X6_canKeep_b29_2 l2_2)) else (f_X6_canKeep_b29_2 l2_2))
noncomputable def f_X6_canKeep (a1 : Int32) (M : zm_Mem) : Option Int32 :=
  (zm_lp (f_X6_canKeep_l2 a1 M) 0).bind (Sum.elim (fun _ => some 1) (fun _ => some 0))
set_option maxRecDepth 20000 in
set_option maxHeartbeats 4000000 in
theorem k_X6_canKeep (E : zm_E) (a1 : Int32) (M : zm_Mem) {r : Int32} (h : f_X6_canKeep a1 M = some r) : zm_Ct E 1 1 yX6_canKeep Y_X6_canKeep [.ref (E.2.1 + 103), .int a1] M (some (.int r)) M := by
  refine zm_methr (emb := zm_ei) (d := f_X6_canKeep a1 M) (by decide) rfl (Nat.le_of_ble_eq_true rfl) h (fun X => ?_)
  show zm_V X Y_X6_canKeep E (zm_Q X E Y_X6_canKeep.2.2.2.1.cells Y_X6_canKeep.2.2.2.1.slots 1 zm_ei) 0 0 1 0 [(0, .ref (E.2.1 + 103)), (1, .int a1)] [] M (f_X6_canKeep a1 M) (fun r => some (r, M))
  unfold f_X6_canKeep
  refine zm_iconst 1 rfl dX6_canKeep_0 zi_0 ?_
  refine zm_istore_n (lv' := [(2, .int 0), (0, .ref (E.2.1 + 103)), (1, .int a1)]) 2 rfl dX6_canKeep_1 rfl (by decide) rfl ?_
  have hx27_2 : zm_V X Y_X6_canKeep E (zm_Q X E Y_X6_canKeep.2.2.2.1.cells Y_X6_canKeep.2.2.2.1.slots 1 zm_ei) 0 0 1 27 [] [] M (some 1) (fun r => some (r, M)) := by
    refine zm_iconst 28 rfl dX6_canKeep_27 zi_1 ?_
    exact zm_zret dX6_canKeep_28 rfl rfl (Nat.le_refl _) (Nat.le_refl _) rfl
  have hx35_2 : zm_V X Y_X6_canKeep E (zm_Q X E Y_X6_canKeep.2.2.2.1.cells Y_X6_canKeep.2.2.2.1.slots 1 zm_ei) 0 0 1 35 [] [] M (some 0) (fun r => some (r, M)) := by
    refine zm_iconst 36 rfl dX6_canKeep_35 zi_0 ?_
    exact zm_zret dX6_canKeep_36 rfl rfl (Nat.le_refl _) (Nat.le_refl _) rfl
  refine zm_loc [1, 2, 0] rfl (zm_lpp (σ := Int32) (ε := (Unit ⊕ Unit)) (step := f_X6_canKeep_l2 a1 M) (fun s => [(0, .ref (E.2.1 + 103)), (1, .int a1), (2, .int s)]) (fun _ => M) (fun D2 f2 hf2a hf2b hD2 s => ?_) 0)
  obtain ⟨l2_2, hq2⟩ : ∃ q, q = s := ⟨_, rfl⟩
  rw [← hq2]
  show zm_V X Y_X6_canKeep E (zm_Q X E Y_X6_canKeep.2.2.2.1.cells Y_X6_canKeep.2.2.2.1.slots 1 zm_ei) 0 0 1 2 [(0, .ref (E.2.1 + 103)), (1, .int a1), (2, .int l2_2)] [] M (f_X6_canKeep_l2 a1 M l2_2) f2
  unfold f_X6_canKeep_l2
  refine zm_iload_n 3 rfl dX6_canKeep_2 rfl 2 rfl ?_
  refine zm_bipush 5 rfl dX6_canKeep_3 zb_64 ?_
  refine zm_icmp_ge 35 8 (by decide) rfl dX6_canKeep_5 ?_ ?_
  · exact zm_loc [] rfl (zm_go (hf2b _) (zm_unb (hx35_2)))
  · refine zm_aload_n 9 rfl dX6_canKeep_8 rfl 0 rfl ?_
    refine zm_getL 12 rfl dX6_canKeep_9 fl_X6_67 rfl (zm_L1 rfl) ?_
    refine zm_iload_n 13 rfl dX6_canKeep_12 rfl 2 rfl ?_
    refine zm_lshr 14 rfl dX6_canKeep_13 ?_
    refine zm_lconst 15 rfl dX6_canKeep_14 rfl ?_
    refine zm_land 16 rfl dX6_canKeep_15 ?_
    refine zm_lconst 17 rfl dX6_canKeep_16 rfl ?_
    refine zm_lcmp 18 rfl dX6_canKeep_17 ?_
    have hb29_2 : zm_V X Y_X6_canKeep E (zm_Q X E Y_X6_canKeep.2.2.2.1.cells Y_X6_canKeep.2.2.2.1.slots 1 zm_ei) 0 0 1 29 [(0, .ref (E.2.1 + 103)), (1, .int a1), (2, .int l2_2)] [] M (f_X6_canKeep_b29_2 l2_2) f2 := by
      unfold f_X6_canKeep_b29_2
      refine zm_iinc (lv' := fun z => [(2, .int z), (0, .ref (E.2.1 + 103)), (1, .int a1)]) 32 rfl dX6_canKeep_29 zi_1 2 rfl (by decide) (fun _ => rfl) (fun x29 _ => ?_)
      refine zm_goto 2 (by decide) dX6_canKeep_32 ?_
      exact zm_loc [1, 2, 0] rfl (zm_go (hf2a _) (hD2 x29))
    refine zm_if_ne 29 21 (by decide) rfl dX6_canKeep_18 ?_ ?_
    · refine zm_iload_n 22 rfl dX6_canKeep_21 rfl 2 rfl ?_
      refine zm_iload_n 23 rfl dX6_canKeep_22 rfl 1 rfl ?_
      refine zm_iand 24 rfl dX6_canKeep_23 ?_
      refine zm_if_ne 29 27 (by decide) rfl dX6_canKeep_24 ?_ ?_
      · exact zm_loc [] rfl (zm_go (hf2b _) (zm_unb (hx27_2)))
      · exact zm_loc [0, 1, 2] rfl (hb29_2)
    · exact zm_loc [0, 1, 2] rfl (hb29_2)
abbrev Y_X6_smallestQuarrel : zm_Y := (cX6_smallestQuarrel, 4, RX6, { frames := 1, cells := 0, slots := 0, locals := 22 }, (some .int), false)
noncomputable def f_X6_smallestQuarrel_b54_8 (l8_2 : Int32) (b54_1 : Int32) : Option ((Int32 × Int32) ⊕ Int32) :=
 zm_v (l8_2 + (-1)) <| fun x54 => some (.inl (b54_1, x54))
noncomputable def f_X6_smallestQuarrel_b28_8 (M : zm_Mem) (l8_1 : Int32) (l8_2 : Int32) (b28_s0 : Int32) : Option ((Int32 × Int32) ⊕ Int32) :=
 if (l8_2 &&& ((M.1 103 11) ^^^ (-1))) = 0 then (if b28_s0 = 0 then (f_X6_smallestQuarrel_b54_8 l8_2 l8_1) else (zm_b1 (f_X6_canKeep l8_2 M) <| fun r46 => if r46 = 0 then (f_X6_smallestQuarrel_b54_8 l8_2 l8_2) else (f_X6_smallestQuarrel_b54_8 l8_2 l8_1))) else (f_X6_smallestQuarrel_b54_8 l8_2 l8_1)
noncomputable def f_X6_smallestQuarrel_l8 (M : zm_Mem) (l8_1 : Int32) (l8_2 : Int32) : Option ((Int32 × Int32) ⊕ Int32) :=
 if l8_2 < 0 then (some (.inr l8_1)) else (zm_b1 (f_J6_bitCount_0f7a4 l8_2 M) <| fun r13 => zm_b1 (f_J6_bitCount_0f7a4 l8_1 M) <| fun r17 => if r17 < r13 then (f_X6_smallestQuarrel_b28_8 M l8_1 l8_2 0) else (f_X6_smallestQuarrel_b28_8 M l8_1 l8_2 1))
noncomputable def f_X6_smallestQuarrel  (M : zm_Mem) : Option Int32 :=
  zm_v (M.1 103 11) <| fun x4 => (zm_lp (fun s => f_X6_smallestQuarrel_l8 M s.1 s.2) (x4, 63)).bind (fun e60 => some e60)
set_option maxRecDepth 20000 in
set_option maxHeartbeats 4000000 in
theorem k_X6_smallestQuarrel (E : zm_E)  (M : zm_Mem) {r : Int32} (h : f_X6_smallestQuarrel M = some r) : zm_Ct E 1 1 yX6_smallestQuarrel Y_X6_smallestQuarrel [.ref (E.2.1 + 103)] M (some (.int r)) M := by
  refine zm_methr (emb := zm_ei) (d := f_X6_smallestQuarrel M) (by decide) rfl (Nat.le_of_ble_eq_true rfl) h (fun X => ?_)
  show zm_V X Y_X6_smallestQuarrel E (zm_Q X E Y_X6_smallestQuarrel.2.2.2.1.cells Y_X6_smallestQuarrel.2.2.2.1.slots 1 zm_ei) 0 0 1 0 [(0, .ref (E.2.1 + 103))] [] M (f_X6_smallestQuarrel M) (fun r => some (r, M))
  unfold f_X6_smallestQuarrel
  refine zm_aload_n 1 rfl dX6_smallestQuarrel_0 rfl 0 rfl ?_
  refine zm_getI 4 rfl dX6_smallestQuarrel_1 fl_X6_58 rfl (zm_L1 rfl) ?_
  refine zm_nmi (fun x4 _ => ?_)
  refine zm_istore_n (lv' := [(1, .int x4), (0, .ref (E.2.1 + 103))]) 5 rfl dX6_smallestQuarrel_4 rfl (by decide) rfl ?_
  refine zm_bipush 7 rfl dX6_smallestQuarrel_5 zb_63 ?_
  refine zm_istore_n (lv' := [(2, .int 63), (1, .int x4), (0, .ref (E.2.1 + 103))]) 8 rfl dX6_smallestQuarrel_7 rfl (by decide) rfl ?_
  have hx60_8 : ∀ (e60_1 : Int32), zm_V X Y_X6_smallestQuarrel E (zm_Q X E Y_X6_smallestQuarrel.2.2.2.1.cells Y_X6_smallestQuarrel.2.2.2.1.slots 1 zm_ei) 0 0 1 60 [(1, .int e60_1)] [] M (some e60_1) (fun r => some (r, M)) := by
    intro e60_1
    refine zm_iload_n 61 rfl dX6_smallestQuarrel_60 rfl 0 rfl ?_
    exact zm_iret dX6_smallestQuarrel_61 rfl (Nat.le_refl _) (Nat.le_refl _) rfl
  refine zm_loc [2, 1, 0] rfl (zm_lpp (σ := (Int32 × Int32)) (ε := Int32) (step := fun s => f_X6_smallestQuarrel_l8 M s.1 s.2) (fun s => [(0, .ref (E.2.1 + 103)), (1, .int s.1), (2, .int s.2)]) (fun _ => M) (fun D8 f8 hf8a hf8b hD8 s => ?_) (x4, 63))
  obtain ⟨l8_1, l8_2⟩ := s
  show zm_V X Y_X6_smallestQuarrel E (zm_Q X E Y_X6_smallestQuarrel.2.2.2.1.cells Y_X6_smallestQuarrel.2.2.2.1.slots 1 zm_ei) 0 0 1 8 [(0, .ref (E.2.1 + 103)), (1, .int l8_1), (2, .int l8_2)] [] M (f_X6_smallestQuarrel_l8 M l8_1 l8_2) f8
  unfold f_X6_smallestQuarrel_l8
  refine zm_iload_n 9 rfl dX6_smallestQuarrel_8 rfl 2 rfl ?_
  refine zm_if_lt 60 12 (by decide) rfl dX6_smallestQuarrel_9 ?_ ?_
  · exact zm_loc [1] rfl (zm_go (hf8b _) (zm_unb (hx60_8 l8_1)))
  · refine zm_iload_n 13 rfl dX6_smallestQuarrel_12 rfl 2 rfl ?_
    refine zm_cS1ir 16 rfl dX6_smallestQuarrel_13 ml_X6_133 (Nat.le_of_ble_eq_true rfl) ⟨Nat.le_of_ble_eq_true rfl, Nat.le_of_ble_eq_true rfl⟩ rfl rfl ⟨Nat.le_refl _, Nat.le_refl _⟩ rfl (fun _ h => k_J6_bitCount_0f7a4 E 1 l8_2 M h) (fun r13 => ?_)
    refine zm_iload_n 17 rfl dX6_smallestQuarrel_16 rfl 1 rfl ?_
    refine zm_cS1ir 20 rfl dX6_smallestQuarrel_17 ml_X6_133 (Nat.le_of_ble_eq_true rfl) ⟨Nat.le_of_ble_eq_true rfl, Nat.le_of_ble_eq_true rfl⟩ rfl rfl ⟨Nat.le_refl _, Nat.le_refl _⟩ rfl (fun _ h => k_J6_bitCount_0f7a4 E 1 l8_1 M h) (fun r17 => ?_)
    have hb28_8 : ∀ (b28_s0 : Int32), zm_V X Y_X6_smallestQuarrel E (zm_Q X E Y_X6_smallestQuarrel.2.2.2.1.cells Y_X6_smallestQuarrel.2.2.2.1.slots 1 zm_ei) 0 0 1 28 [(0, .ref (E.2.1 + 103)), (1, .int l8_1), (2, .int l8_2)] [.int b28_s0] M (f_X6_smallestQuarrel_b28_8 M l8_1 l8_2 b28_s0) f8 := by
      intro b28_s0
      unfold f_X6_smallestQuarrel_b28_8
      refine zm_istore_n (lv' := [(3, .int b28_s0), (0, .ref (E.2.1 + 103)), (1, .int l8_1), (2, .int l8_2)]) 29 rfl dX6_smallestQuarrel_28 rfl (by decide) rfl ?_
      refine zm_iload_n 30 rfl dX6_smallestQuarrel_29 rfl 3 rfl ?_
      refine zm_aload_n 31 rfl dX6_smallestQuarrel_30 rfl 1 rfl ?_
      refine zm_getI 34 rfl dX6_smallestQuarrel_31 fl_X6_58 rfl (zm_L1 rfl) ?_
      refine zm_iconst 35 rfl dX6_smallestQuarrel_34 zi_m1 ?_
      refine zm_ixor 36 rfl dX6_smallestQuarrel_35 ?_
      refine zm_iand 37 rfl dX6_smallestQuarrel_36 ?_
      have hb54_8 : ∀ (b54_1 : Int32), zm_V X Y_X6_smallestQuarrel E (zm_Q X E Y_X6_smallestQuarrel.2.2.2.1.cells Y_X6_smallestQuarrel.2.2.2.1.slots 1 zm_ei) 0 0 1 54 [(0, .ref (E.2.1 + 103)), (1, .int b54_1), (2, .int l8_2)] [] M (f_X6_smallestQuarrel_b54_8 l8_2 b54_1) f8 := by
        intro b54_1
        unfold f_X6_smallestQuarrel_b54_8
        refine zm_iinc (lv' := fun z => [(2, .int z), (0, .ref (E.2.1 + 103)), (1, .int b54_1)]) 57 rfl dX6_smallestQuarrel_54 zi_m1 2 rfl (by decide) (fun _ => rfl) (fun x54 _ => ?_)
        refine zm_goto 8 (by decide) dX6_smallestQuarrel_57 ?_
        exact zm_loc [1, 2, 0] rfl (zm_go (hf8a _) (hD8 (b54_1, x54)))
      refine zm_if_ne 54 40 (by decide) rfl dX6_smallestQuarrel_37 ?_ ?_
      · refine zm_iload_n 41 rfl dX6_smallestQuarrel_40 rfl 0 rfl ?_
        refine zm_if_eq 54 44 (by decide) rfl dX6_smallestQuarrel_41 ?_ ?_
        · exact zm_loc [1, 2, 3] rfl (hb54_8 l8_1)
        · refine zm_aload_n 45 rfl dX6_smallestQuarrel_44 rfl 1 rfl ?_
          refine zm_iload_n 46 rfl dX6_smallestQuarrel_45 rfl 3 rfl ?_
          refine zm_cV1ir 49 rfl dX6_smallestQuarrel_46 ml_X6_138 rfl (zm_L1 rfl) rfl (Nat.le_of_ble_eq_true rfl) ⟨Nat.le_of_ble_eq_true rfl, Nat.le_of_ble_eq_true rfl⟩ rfl rfl ⟨Nat.le_refl _, Nat.le_refl _⟩ rfl (fun _ h => k_X6_canKeep E l8_2 M h) (fun r46 => ?_)
          refine zm_if_ne 54 52 (by decide) rfl dX6_smallestQuarrel_49 ?_ ?_
          · refine zm_iload_n 53 rfl dX6_smallestQuarrel_52 rfl 3 rfl ?_
            refine zm_istore_n (lv' := [(1, .int l8_2), (3, .int b28_s0), (0, .ref (E.2.1 + 103)), (2, .int l8_2)]) 54 rfl dX6_smallestQuarrel_53 rfl (by decide) rfl ?_
            exact zm_loc [2, 0, 3] rfl (hb54_8 l8_2)
          · exact zm_loc [1, 2, 3] rfl (hb54_8 l8_1)
      · exact zm_loc [1, 2, 3] rfl (hb54_8 l8_1)
    refine zm_icmp_gt 27 23 (by decide) rfl dX6_smallestQuarrel_20 ?_ ?_
    · refine zm_iconst 28 rfl dX6_smallestQuarrel_27 zi_0 ?_
      exact zm_loc [0, 1, 2] rfl (hb28_8 0)
    · refine zm_iconst 24 rfl dX6_smallestQuarrel_23 zi_1 ?_
      refine zm_goto 28 (by decide) dX6_smallestQuarrel_24 ?_
      exact zm_loc [0, 1, 2] rfl (hb28_8 1)
abbrev Y_X7_withLetter : zm_Y := (cX7_withLetter, 3, RX7, { frames := 0, cells := 0, slots := 0, locals := 0 }, (some .long), false)
noncomputable def f_X7_withLetter (a0 : Int64) (a2 : Int32) (M : zm_Mem) : Option Int64 :=
  some ((a0 * 32) + (((a2 - 97) + 1).toInt64))
set_option maxRecDepth 20000 in
set_option maxHeartbeats 4000000 in
theorem k_X7_withLetter (E : zm_E) (sv : Nat) (a0 : Int64) (a2 : Int32) (M : zm_Mem) {r : Int64} (h : f_X7_withLetter a0 a2 M = some r) : zm_Ct E sv sv yX7_withLetter Y_X7_withLetter [.long a0, .int a2] M (some (.long r)) M := by
  refine zm_methr (emb := zm_el) (d := f_X7_withLetter a0 a2 M) (by decide) rfl (Nat.le_of_ble_eq_true rfl) h (fun X => ?_)
  show zm_V X Y_X7_withLetter E (zm_Q X E Y_X7_withLetter.2.2.2.1.cells Y_X7_withLetter.2.2.2.1.slots sv zm_el) 0 0 sv 0 [(0, .long a0), (2, .int a2)] [] M (f_X7_withLetter a0 a2 M) (fun r => some (r, M))
  unfold f_X7_withLetter
  refine zm_lload_n 1 rfl dX7_withLetter_0 rfl 0 rfl ?_
  refine zm_ldc2 4 rfl dX7_withLetter_1 kc_X7_76 ?_
  refine zm_lmul 5 rfl dX7_withLetter_4 ?_
  refine zm_iload_n 6 rfl dX7_withLetter_5 rfl 1 rfl ?_
  refine zm_bipush 8 rfl dX7_withLetter_6 zb_97 ?_
  refine zm_isub 9 rfl dX7_withLetter_8 ?_
  refine zm_iconst 10 rfl dX7_withLetter_9 zi_1 ?_
  refine zm_iadd 11 rfl dX7_withLetter_10 ?_
  refine zm_i2l 12 rfl dX7_withLetter_11 ?_
  refine zm_ladd 13 rfl dX7_withLetter_12 ?_
  exact zm_lret dX7_withLetter_13 rfl (Nat.le_refl _) (Nat.le_refl _) rfl
abbrev Y_X7_isBlank : zm_Y := (cX7_isBlank, 1, RX7, { frames := 0, cells := 0, slots := 0, locals := 0 }, (some .boolean), false)
noncomputable def f_X7_isBlank_b24  : Option Int32 :=
 some 1
noncomputable def f_X7_isBlank (a0 : Int32) (M : zm_Mem) : Option Int32 :=
  if a0 = (9 : Int32) then (f_X7_isBlank_b24) else (if a0 = (10 : Int32) then (f_X7_isBlank_b24) else (if a0 = (13 : Int32) then (f_X7_isBlank_b24) else (if a0 = (32 : Int32) then (f_X7_isBlank_b24) else (some 0))))
set_option maxRecDepth 20000 in
set_option maxHeartbeats 4000000 in
theorem k_X7_isBlank (E : zm_E) (sv : Nat) (a0 : Int32) (M : zm_Mem) {r : Int32} (h : f_X7_isBlank a0 M = some r) : zm_Ct E sv sv yX7_isBlank Y_X7_isBlank [.int a0] M (some (.int r)) M := by
  refine zm_methr (emb := zm_ei) (d := f_X7_isBlank a0 M) (by decide) rfl (Nat.le_of_ble_eq_true rfl) h (fun X => ?_)
  show zm_V X Y_X7_isBlank E (zm_Q X E Y_X7_isBlank.2.2.2.1.cells Y_X7_isBlank.2.2.2.1.slots sv zm_ei) 0 0 sv 0 [(0, .int a0)] [] M (f_X7_isBlank a0 M) (fun r => some (r, M))
  unfold f_X7_isBlank
  refine zm_iload_n 1 rfl dX7_isBlank_0 rfl 0 rfl ?_
  refine zm_bipush 3 rfl dX7_isBlank_1 zb_9 ?_
  have hb24 : zm_V X Y_X7_isBlank E (zm_Q X E Y_X7_isBlank.2.2.2.1.cells Y_X7_isBlank.2.2.2.1.slots sv zm_ei) 0 0 sv 24 [] [] M (f_X7_isBlank_b24) (fun r => some (r, M)) := by
    unfold f_X7_isBlank_b24
    refine zm_iconst 25 rfl dX7_isBlank_24 zi_1 ?_
    refine zm_goto 29 (by decide) dX7_isBlank_25 ?_
    exact zm_zret dX7_isBlank_29 rfl rfl (Nat.le_refl _) (Nat.le_refl _) rfl
  refine zm_icmp_eq 24 6 (by decide) rfl dX7_isBlank_3 ?_ ?_
  · exact zm_loc [] rfl (hb24)
  · refine zm_iload_n 7 rfl dX7_isBlank_6 rfl 0 rfl ?_
    refine zm_bipush 9 rfl dX7_isBlank_7 zb_10 ?_
    refine zm_icmp_eq 24 12 (by decide) rfl dX7_isBlank_9 ?_ ?_
    · exact zm_loc [] rfl (hb24)
    · refine zm_iload_n 13 rfl dX7_isBlank_12 rfl 0 rfl ?_
      refine zm_bipush 15 rfl dX7_isBlank_13 zb_13 ?_
      refine zm_icmp_eq 24 18 (by decide) rfl dX7_isBlank_15 ?_ ?_
      · exact zm_loc [] rfl (hb24)
      · refine zm_iload_n 19 rfl dX7_isBlank_18 rfl 0 rfl ?_
        refine zm_bipush 21 rfl dX7_isBlank_19 zb_32 ?_
        refine zm_icmp_ne 28 24 (by decide) rfl dX7_isBlank_21 ?_ ?_
        · exact zm_loc [] rfl (hb24)
        · refine zm_iconst 29 rfl dX7_isBlank_28 zi_0 ?_
          exact zm_zret dX7_isBlank_29 rfl rfl (Nat.le_refl _) (Nat.le_refl _) rfl
abbrev Y_X7_isLetter : zm_Y := (cX7_isLetter, 1, RX7, { frames := 0, cells := 0, slots := 0, locals := 0 }, (some .boolean), false)
noncomputable def f_X7_isLetter_b16  : Option Int32 :=
 some 0
noncomputable def f_X7_isLetter (a0 : Int32) (M : zm_Mem) : Option Int32 :=
  if a0 < (97 : Int32) then (f_X7_isLetter_b16) else (if (122 : Int32) < a0 then (f_X7_isLetter_b16) else (some 1))
set_option maxRecDepth 20000 in
set_option maxHeartbeats 4000000 in
theorem k_X7_isLetter (E : zm_E) (sv : Nat) (a0 : Int32) (M : zm_Mem) {r : Int32} (h : f_X7_isLetter a0 M = some r) : zm_Ct E sv sv yX7_isLetter Y_X7_isLetter [.int a0] M (some (.int r)) M := by
  refine zm_methr (emb := zm_ei) (d := f_X7_isLetter a0 M) (by decide) rfl (Nat.le_of_ble_eq_true rfl) h (fun X => ?_)
  show zm_V X Y_X7_isLetter E (zm_Q X E Y_X7_isLetter.2.2.2.1.cells Y_X7_isLetter.2.2.2.1.slots sv zm_ei) 0 0 sv 0 [(0, .int a0)] [] M (f_X7_isLetter a0 M) (fun r => some (r, M))
  unfold f_X7_isLetter
  refine zm_iload_n 1 rfl dX7_isLetter_0 rfl 0 rfl ?_
  refine zm_bipush 3 rfl dX7_isLetter_1 zb_97 ?_
  have hb16 : zm_V X Y_X7_isLetter E (zm_Q X E Y_X7_isLetter.2.2.2.1.cells Y_X7_isLetter.2.2.2.1.slots sv zm_ei) 0 0 sv 16 [] [] M (f_X7_isLetter_b16) (fun r => some (r, M)) := by
    unfold f_X7_isLetter_b16
    refine zm_iconst 17 rfl dX7_isLetter_16 zi_0 ?_
    exact zm_zret dX7_isLetter_17 rfl rfl (Nat.le_refl _) (Nat.le_refl _) rfl
  refine zm_icmp_lt 16 6 (by decide) rfl dX7_isLetter_3 ?_ ?_
  · exact zm_loc [] rfl (hb16)
  · refine zm_iload_n 7 rfl dX7_isLetter_6 rfl 0 rfl ?_
    refine zm_bipush 9 rfl dX7_isLetter_7 zb_122 ?_
    refine zm_icmp_gt 16 12 (by decide) rfl dX7_isLetter_9 ?_ ?_
    · exact zm_loc [] rfl (hb16)
    · refine zm_iconst 13 rfl dX7_isLetter_12 zi_1 ?_
      refine zm_goto 17 (by decide) dX7_isLetter_13 ?_
      exact zm_zret dX7_isLetter_17 rfl rfl (Nat.le_refl _) (Nat.le_refl _) rfl
abbrev Y_X7_sortOf : zm_Y := (cX7_sortOf, 4, RX7, { frames := 0, cells := 0, slots := 0, locals := 0 }, (some .int), false)
noncomputable def f_X7_sortOf_l2 (a1 : Int64) (M : zm_Mem) (l2_3 : Int32) : Option (Int32 ⊕ (Int32 ⊕ Unit)) :=
 if (20 : Int32) ≤ l2_3 then (some (.inr (.inr ()))) else (zm_ck (zm_in l2_3 20) <| if (lg_cmp (M.2.1 7 l2_3.toNatClampNeg) a1) = 0 then (some (.inr (.inl l2_3))) else (zm_v (l2_3 + 1) <| fun x25 => some (.inl x25)))
noncomputable def f_X7_sortOf (a1 : Int64) (M : zm_Mem) : Option Int32 :=
  (zm_lp (f_X7_sortOf_l2 a1 M) 0).bind (Sum.elim (fun e19 => some (256 + e19)) (fun _ => some 2))
set_option maxRecDepth 20000 in
set_option maxHeartbeats 4000000 in
theorem k_X7_sortOf (E : zm_E) (sv : Nat) (a1 : Int64) (M : zm_Mem) {r : Int32} (h : f_X7_sortOf a1 M = some r) : zm_Ct E sv sv yX7_sortOf Y_X7_sortOf [.ref (E.2.1 + 3), .long a1] M (some (.int r)) M := by
  refine zm_methr (emb := zm_ei) (d := f_X7_sortOf a1 M) (by decide) rfl (Nat.le_of_ble_eq_true rfl) h (fun X => ?_)
  show zm_V X Y_X7_sortOf E (zm_Q X E Y_X7_sortOf.2.2.2.1.cells Y_X7_sortOf.2.2.2.1.slots sv zm_ei) 0 0 sv 0 [(0, .ref (E.2.1 + 3)), (1, .long a1)] [] M (f_X7_sortOf a1 M) (fun r => some (r, M))
  unfold f_X7_sortOf
  refine zm_iconst 1 rfl dX7_sortOf_0 zi_0 ?_
  refine zm_istore_n (lv' := [(3, .int 0), (0, .ref (E.2.1 + 3)), (1, .long a1)]) 2 rfl dX7_sortOf_1 rfl (by decide) rfl ?_
  have hx19_2 : ∀ (e19_3 : Int32), zm_V X Y_X7_sortOf E (zm_Q X E Y_X7_sortOf.2.2.2.1.cells Y_X7_sortOf.2.2.2.1.slots sv zm_ei) 0 0 sv 19 [(3, .int e19_3)] [] M (some (256 + e19_3)) (fun r => some (r, M)) := by
    intro e19_3
    refine zm_sipush 22 rfl dX7_sortOf_19 zs_256 ?_
    refine zm_iload_n 23 rfl dX7_sortOf_22 rfl 0 rfl ?_
    refine zm_iadd 24 rfl dX7_sortOf_23 ?_
    exact zm_iret dX7_sortOf_24 rfl (Nat.le_refl _) (Nat.le_refl _) rfl
  have hx31_2 : zm_V X Y_X7_sortOf E (zm_Q X E Y_X7_sortOf.2.2.2.1.cells Y_X7_sortOf.2.2.2.1.slots sv zm_ei) 0 0 sv 31 [] [] M (some 2) (fun r => some (r, M)) := by
    refine zm_iconst 32 rfl dX7_sortOf_31 zi_2 ?_
    exact zm_iret dX7_sortOf_32 rfl (Nat.le_refl _) (Nat.le_refl _) rfl
  refine zm_loc [1, 2, 0] rfl (zm_lpp (σ := Int32) (ε := (Int32 ⊕ Unit)) (step := f_X7_sortOf_l2 a1 M) (fun s => [(0, .ref (E.2.1 + 3)), (1, .long a1), (3, .int s)]) (fun _ => M) (fun D2 f2 hf2a hf2b hD2 s => ?_) 0)
  obtain ⟨l2_3, hq2⟩ : ∃ q, q = s := ⟨_, rfl⟩
  rw [← hq2]
  show zm_V X Y_X7_sortOf E (zm_Q X E Y_X7_sortOf.2.2.2.1.cells Y_X7_sortOf.2.2.2.1.slots sv zm_ei) 0 0 sv 2 [(0, .ref (E.2.1 + 3)), (1, .long a1), (3, .int l2_3)] [] M (f_X7_sortOf_l2 a1 M l2_3) f2
  unfold f_X7_sortOf_l2
  refine zm_iload_n 3 rfl dX7_sortOf_2 rfl 2 rfl ?_
  refine zm_bipush 5 rfl dX7_sortOf_3 zb_20 ?_
  refine zm_icmp_ge 31 8 (by decide) rfl dX7_sortOf_5 ?_ ?_
  · exact zm_loc [] rfl (zm_go (hf2b _) (zm_unb (hx31_2)))
  · refine zm_aload_n 9 rfl dX7_sortOf_8 rfl 0 rfl ?_
    refine zm_getR 12 rfl dX7_sortOf_9 fl_X7_22 rfl (zm_L rfl) rfl ?_
    refine zm_iload_n 13 rfl dX7_sortOf_12 rfl 2 rfl ?_
    refine zm_lald 14 rfl dX7_sortOf_13 rfl (zm_L rfl) ?_
    refine zm_lload_n 15 rfl dX7_sortOf_14 rfl 1 rfl ?_
    refine zm_lcmp 16 rfl dX7_sortOf_15 ?_
    refine zm_if_ne 25 19 (by decide) rfl dX7_sortOf_16 ?_ ?_
    · exact zm_loc [2] rfl (zm_go (hf2b _) (zm_unb (hx19_2 l2_3)))
    · refine zm_iinc (lv' := fun z => [(3, .int z), (0, .ref (E.2.1 + 3)), (1, .long a1)]) 28 rfl dX7_sortOf_25 zi_1 2 rfl (by decide) (fun _ => rfl) (fun x25 _ => ?_)
      refine zm_goto 2 (by decide) dX7_sortOf_28 ?_
      exact zm_loc [1, 2, 0] rfl (zm_go (hf2a _) (hD2 x25))
abbrev Y_X7_add : zm_Y := (cX7_add, 5, RX7, { frames := 0, cells := 0, slots := 0, locals := 0 }, none, false)
noncomputable def f_X7_add (a1 : Int32) (a2 : Int32) (a3 : Int64) (M : zm_Mem) : Option (Unit × zm_Mem) :=
  if (401 : Int32) < (M.1 3 4) then (some ((), M)) else (zm_ck (zm_in (M.1 3 4) 402) <| zm_v (zm_sI M 4 (M.1 3 4).toNatClampNeg a1) <| fun M19 => zm_ck (zm_in (M19.1 3 4) 402) <| zm_v (zm_sI M19 5 (M19.1 3 4).toNatClampNeg a2) <| fun M29 => zm_ck (zm_in (M29.1 3 4) 402) <| zm_v (zm_sL M29 6 (M29.1 3 4).toNatClampNeg a3) <| fun M39 => zm_v (zm_sI M39 3 4 ((M39.1 3 4) + 1)) <| fun M47 => some ((), M47))
set_option maxRecDepth 20000 in
set_option maxHeartbeats 4000000 in
theorem k_X7_add (E : zm_E) (sv : Nat) (a1 : Int32) (a2 : Int32) (a3 : Int64) (M : zm_Mem) {r : Unit} {M' : zm_Mem} (h : f_X7_add a1 a2 a3 M = some (r, M')) : zm_Ct E sv sv yX7_add Y_X7_add [.ref (E.2.1 + 3), .int a1, .int a2, .long a3] M none M' := by
  refine zm_meth (emb := zm_ev) (d := f_X7_add a1 a2 a3 M) (by decide) rfl (Nat.le_of_ble_eq_true rfl) h (fun X => ?_)
  show zm_V X Y_X7_add E (zm_Q X E Y_X7_add.2.2.2.1.cells Y_X7_add.2.2.2.1.slots sv zm_ev) 0 0 sv 0 [(0, .ref (E.2.1 + 3)), (1, .int a1), (2, .int a2), (3, .long a3)] [] M (f_X7_add a1 a2 a3 M) some
  unfold f_X7_add
  refine zm_aload_n 1 rfl dX7_add_0 rfl 0 rfl ?_
  refine zm_getI 4 rfl dX7_add_1 fl_X7_41 rfl (zm_L rfl) ?_
  refine zm_sipush 7 rfl dX7_add_4 zs_401 ?_
  refine zm_icmp_gt 50 10 (by decide) rfl dX7_add_7 ?_ ?_
  · exact zm_vret dX7_add_50 rfl (Nat.le_refl _) (Nat.le_refl _) rfl
  · refine zm_aload_n 11 rfl dX7_add_10 rfl 0 rfl ?_
    refine zm_getR 14 rfl dX7_add_11 fl_X7_11 rfl (zm_L rfl) rfl ?_
    refine zm_aload_n 15 rfl dX7_add_14 rfl 0 rfl ?_
    refine zm_getI 18 rfl dX7_add_15 fl_X7_41 rfl (zm_L rfl) ?_
    refine zm_iload_n 19 rfl dX7_add_18 rfl 1 rfl ?_
    refine zm_iast 20 rfl dX7_add_19 rfl (zm_L rfl) (fun M19 _ => ?_)
    refine zm_aload_n 21 rfl dX7_add_20 rfl 0 rfl ?_
    refine zm_getR 24 rfl dX7_add_21 fl_X7_15 rfl (zm_L rfl) rfl ?_
    refine zm_aload_n 25 rfl dX7_add_24 rfl 0 rfl ?_
    refine zm_getI 28 rfl dX7_add_25 fl_X7_41 rfl (zm_L rfl) ?_
    refine zm_iload_n 29 rfl dX7_add_28 rfl 2 rfl ?_
    refine zm_iast 30 rfl dX7_add_29 rfl (zm_L rfl) (fun M29 _ => ?_)
    refine zm_aload_n 31 rfl dX7_add_30 rfl 0 rfl ?_
    refine zm_getR 34 rfl dX7_add_31 fl_X7_18 rfl (zm_L rfl) rfl ?_
    refine zm_aload_n 35 rfl dX7_add_34 rfl 0 rfl ?_
    refine zm_getI 38 rfl dX7_add_35 fl_X7_41 rfl (zm_L rfl) ?_
    refine zm_lload_n 39 rfl dX7_add_38 rfl 3 rfl ?_
    refine zm_last 40 rfl dX7_add_39 rfl (zm_L rfl) (fun M39 _ => ?_)
    refine zm_aload_n 41 rfl dX7_add_40 rfl 0 rfl ?_
    refine zm_dup 42 rfl dX7_add_41 rfl ?_
    refine zm_getI 45 rfl dX7_add_42 fl_X7_41 rfl (zm_L rfl) ?_
    refine zm_iconst 46 rfl dX7_add_45 zi_1 ?_
    refine zm_iadd 47 rfl dX7_add_46 ?_
    refine zm_putI 50 rfl dX7_add_47 fp_X7_41 rfl (zm_L rfl) rfl rfl (fun M47 _ => ?_)
    exact zm_vret dX7_add_50 rfl (Nat.le_refl _) (Nat.le_refl _) rfl
abbrev Y_X7_cutWord : zm_Y := (cX7_cutWord, 7, RX7, { frames := 1, cells := 0, slots := 0, locals := 24 }, (some .int), false)
noncomputable def f_X7_cutWord_b77 (a3 : Int32) (M : zm_Mem) (b57_4 : Int64) (b57_6 : Int32) (b77_s1 : Int32) : Option (Int32 × zm_Mem) :=
 zm_b2 (f_X7_add b77_s1 a3 b57_4 M) <| fun _ M80 => some (b57_6, M80)
noncomputable def f_X7_cutWord_b57 (a3 : Int32) (M : zm_Mem) (b57_4 : Int64) (b57_6 : Int32) : Option (Int32 × zm_Mem) :=
 if (b57_6 - a3) ≤ (8 : Int32) then (zm_b1 (f_X7_sortOf b57_4 M) <| fun r74 => f_X7_cutWord_b77 a3 M b57_4 b57_6 r74) else (f_X7_cutWord_b77 a3 M b57_4 b57_6 1)
noncomputable def f_X7_cutWord_b51_6 (l6_6 : Int32) (b51_4 : Int64) : Option ((Int64 × Int32) ⊕ (Int64 × Int32)) :=
 zm_v (l6_6 + 1) <| fun x51 => some (.inl (b51_4, x51))
noncomputable def f_X7_cutWord_l6 (a1 : Nat) (a2 : Int32) (a3 : Int32) (M : zm_Mem) (l6_4 : Int64) (l6_6 : Int32) : Option ((Int64 × Int32) ⊕ (Int64 × Int32)) :=
 if a2 ≤ l6_6 then (some (.inr (l6_4, l6_6))) else (zm_ck (zm_in l6_6 (zm_sh a1).2) <| zm_b1 (f_X7_isLetter ((M.1 a1 l6_6.toNatClampNeg) &&& 255) M) <| fun r20 => if r20 = 0 then (some (.inr (l6_4, l6_6))) else (if (8 : Int32) ≤ (l6_6 - a3) then (f_X7_cutWord_b51_6 l6_6 l6_4) else (zm_ck (zm_in l6_6 (zm_sh a1).2) <| zm_b1 (f_X7_withLetter l6_4 ((((M.1 a1 l6_6.toNatClampNeg) &&& 255).toUInt32 % 65536).toInt32) M) <| fun r46 => f_X7_cutWord_b51_6 l6_6 r46)))
noncomputable def f_X7_cutWord (a1 : Nat) (a2 : Int32) (a3 : Int32) (M : zm_Mem) : Option (Int32 × zm_Mem) :=
  (zm_lp (fun s => f_X7_cutWord_l6 a1 a2 a3 M s.1 s.2) (0, a3)).bind (fun e57 => f_X7_cutWord_b57 a3 M e57.1 e57.2)
set_option maxRecDepth 20000 in
set_option maxHeartbeats 4000000 in
theorem k_X7_cutWord (E : zm_E) (sv : Nat) (a1 : Nat) (a2 : Int32) (a3 : Int32) (ha1 : zm_sh a1 = (1, (zm_sh a1).2) ∧ (0 < a1 ∧ a1 ≤ zm_n sv)) (M : zm_Mem) {r : Int32} {M' : zm_Mem} (h : f_X7_cutWord a1 a2 a3 M = some (r, M')) : zm_Ct E sv sv yX7_cutWord Y_X7_cutWord [.ref (E.2.1 + 3), .ref (E.2.1 + a1), .int a2, .int a3] M (some (.int r)) M' := by
  refine zm_meth (emb := zm_ei) (d := f_X7_cutWord a1 a2 a3 M) (by decide) rfl (Nat.le_of_ble_eq_true rfl) h (fun X => ?_)
  show zm_V X Y_X7_cutWord E (zm_Q X E Y_X7_cutWord.2.2.2.1.cells Y_X7_cutWord.2.2.2.1.slots sv zm_ei) 0 0 sv 0 [(0, .ref (E.2.1 + 3)), (1, .ref (E.2.1 + a1)), (2, .int a2), (3, .int a3)] [] M (f_X7_cutWord a1 a2 a3 M) some
  unfold f_X7_cutWord
  refine zm_lconst 1 rfl dX7_cutWord_0 rfl ?_
  refine zm_lstore (lv' := [(4, .long 0), (0, .ref (E.2.1 + 3)), (1, .ref (E.2.1 + a1)), (2, .int a2), (3, .int a3)]) 3 rfl dX7_cutWord_1 (by decide) rfl ?_
  refine zm_iload_n 4 rfl dX7_cutWord_3 rfl 4 rfl ?_
  refine zm_istore (lv' := [(6, .int a3), (4, .long 0), (0, .ref (E.2.1 + 3)), (1, .ref (E.2.1 + a1)), (2, .int a2), (3, .int a3)]) 6 rfl dX7_cutWord_4 (by decide) rfl ?_
  have hb57 : ∀ (b57_4 : Int64) (b57_6 : Int32), zm_V X Y_X7_cutWord E (zm_Q X E Y_X7_cutWord.2.2.2.1.cells Y_X7_cutWord.2.2.2.1.slots sv zm_ei) 0 0 sv 57 [(0, .ref (E.2.1 + 3)), (3, .int a3), (4, .long b57_4), (6, .int b57_6)] [] M (f_X7_cutWord_b57 a3 M b57_4 b57_6) some := by
    intro b57_4 b57_6
    unfold f_X7_cutWord_b57
    refine zm_aload_n 58 rfl dX7_cutWord_57 rfl 0 rfl ?_
    refine zm_iload 60 rfl dX7_cutWord_58 3 rfl ?_
    refine zm_iload_n 61 rfl dX7_cutWord_60 rfl 1 rfl ?_
    refine zm_isub 62 rfl dX7_cutWord_61 ?_
    refine zm_bipush 64 rfl dX7_cutWord_62 zb_8 ?_
    have hb77 : ∀ (b77_s1 : Int32), zm_V X Y_X7_cutWord E (zm_Q X E Y_X7_cutWord.2.2.2.1.cells Y_X7_cutWord.2.2.2.1.slots sv zm_ei) 0 0 sv 77 [(3, .int a3), (4, .long b57_4), (6, .int b57_6)] [.int b77_s1, .ref (E.2.1 + 3)] M (f_X7_cutWord_b77 a3 M b57_4 b57_6 b77_s1) some := by
      intro b77_s1
      unfold f_X7_cutWord_b77
      refine zm_iload_n 78 rfl dX7_cutWord_77 rfl 0 rfl ?_
      refine zm_lload 80 rfl dX7_cutWord_78 1 rfl ?_
      refine zm_cV3v 83 rfl dX7_cutWord_80 ml_X7_68 rfl (zm_L rfl) rfl (Nat.le_of_ble_eq_true rfl) ⟨Nat.le_of_ble_eq_true rfl, Nat.le_of_ble_eq_true rfl⟩ rfl rfl ⟨Nat.le_refl _, Nat.le_refl _⟩ rfl (fun _ _ h => k_X7_add E sv b77_s1 a3 b57_4 M h) (fun _ M80 => ?_)
      refine zm_iload 85 rfl dX7_cutWord_83 2 rfl ?_
      exact zm_iret dX7_cutWord_85 rfl (Nat.le_refl _) (Nat.le_refl _) rfl
    refine zm_icmp_le 71 67 (by decide) rfl dX7_cutWord_64 ?_ ?_
    · refine zm_aload_n 72 rfl dX7_cutWord_71 rfl 0 rfl ?_
      refine zm_lload 74 rfl dX7_cutWord_72 2 rfl ?_
      refine zm_cV1ir 77 rfl dX7_cutWord_74 ml_X7_72 rfl (zm_L rfl) rfl (Nat.le_of_ble_eq_true rfl) ⟨Nat.le_of_ble_eq_true rfl, Nat.le_of_ble_eq_true rfl⟩ rfl rfl ⟨Nat.le_refl _, Nat.le_refl _⟩ rfl (fun _ h => k_X7_sortOf E sv b57_4 M h) (fun r74 => ?_)
      exact zm_loc [1, 2, 3] rfl (hb77 r74)
    · refine zm_iconst 68 rfl dX7_cutWord_67 zi_1 ?_
      refine zm_goto 77 (by decide) dX7_cutWord_68 ?_
      exact zm_loc [1, 2, 3] rfl (hb77 1)
  have hx57_6 : ∀ (e57_4 : Int64) (e57_6 : Int32), zm_V X Y_X7_cutWord E (zm_Q X E Y_X7_cutWord.2.2.2.1.cells Y_X7_cutWord.2.2.2.1.slots sv zm_ei) 0 0 sv 57 [(0, .ref (E.2.1 + 3)), (3, .int a3), (4, .long e57_4), (6, .int e57_6)] [] M (f_X7_cutWord_b57 a3 M e57_4 e57_6) some := by
    intro e57_4 e57_6
    exact zm_loc [0, 1, 2, 3] rfl (hb57 e57_4 e57_6)
  refine zm_loc [2, 3, 4, 5, 1, 0] rfl (zm_lpp (σ := (Int64 × Int32)) (ε := (Int64 × Int32)) (step := fun s => f_X7_cutWord_l6 a1 a2 a3 M s.1 s.2) (fun s => [(0, .ref (E.2.1 + 3)), (1, .ref (E.2.1 + a1)), (2, .int a2), (3, .int a3), (4, .long s.1), (6, .int s.2)]) (fun _ => M) (fun D6 f6 hf6a hf6b hD6 s => ?_) (0, a3))
  obtain ⟨l6_4, l6_6⟩ := s
  show zm_V X Y_X7_cutWord E (zm_Q X E Y_X7_cutWord.2.2.2.1.cells Y_X7_cutWord.2.2.2.1.slots sv zm_ei) 0 0 sv 6 [(0, .ref (E.2.1 + 3)), (1, .ref (E.2.1 + a1)), (2, .int a2), (3, .int a3), (4, .long l6_4), (6, .int l6_6)] [] M (f_X7_cutWord_l6 a1 a2 a3 M l6_4 l6_6) f6
  unfold f_X7_cutWord_l6
  refine zm_iload 8 rfl dX7_cutWord_6 5 rfl ?_
  refine zm_iload_n 9 rfl dX7_cutWord_8 rfl 2 rfl ?_
  refine zm_icmp_ge 57 12 (by decide) rfl dX7_cutWord_9 ?_ ?_
  · exact zm_loc [0, 3, 4, 5] rfl (zm_go (hf6b _) (zm_unb (hx57_6 l6_4 l6_6)))
  · refine zm_aload_n 13 rfl dX7_cutWord_12 rfl 1 rfl ?_
    refine zm_iload 15 rfl dX7_cutWord_13 5 rfl ?_
    refine zm_bald 16 rfl dX7_cutWord_15 ha1.1 ha1.2 ?_
    refine zm_sipush 19 rfl dX7_cutWord_16 zs_255 ?_
    refine zm_iand 20 rfl dX7_cutWord_19 ?_
    refine zm_cS1ir 23 rfl dX7_cutWord_20 ml_X7_49 (Nat.le_of_ble_eq_true rfl) ⟨Nat.le_of_ble_eq_true rfl, Nat.le_of_ble_eq_true rfl⟩ rfl rfl ⟨Nat.le_refl _, Nat.le_refl _⟩ rfl (fun _ h => k_X7_isLetter E sv ((M.1 a1 l6_6.toNatClampNeg) &&& 255) M h) (fun r20 => ?_)
    refine zm_if_eq 57 26 (by decide) rfl dX7_cutWord_23 ?_ ?_
    · exact zm_loc [0, 3, 4, 5] rfl (zm_go (hf6b _) (zm_unb (hx57_6 l6_4 l6_6)))
    · refine zm_iload 28 rfl dX7_cutWord_26 5 rfl ?_
      refine zm_iload_n 29 rfl dX7_cutWord_28 rfl 3 rfl ?_
      refine zm_isub 30 rfl dX7_cutWord_29 ?_
      refine zm_bipush 32 rfl dX7_cutWord_30 zb_8 ?_
      have hb51_6 : ∀ (b51_4 : Int64), zm_V X Y_X7_cutWord E (zm_Q X E Y_X7_cutWord.2.2.2.1.cells Y_X7_cutWord.2.2.2.1.slots sv zm_ei) 0 0 sv 51 [(0, .ref (E.2.1 + 3)), (1, .ref (E.2.1 + a1)), (2, .int a2), (3, .int a3), (4, .long b51_4), (6, .int l6_6)] [] M (f_X7_cutWord_b51_6 l6_6 b51_4) f6 := by
        intro b51_4
        unfold f_X7_cutWord_b51_6
        refine zm_iinc (lv' := fun z => [(6, .int z), (0, .ref (E.2.1 + 3)), (1, .ref (E.2.1 + a1)), (2, .int a2), (3, .int a3), (4, .long b51_4)]) 54 rfl dX7_cutWord_51 zi_1 5 rfl (by decide) (fun _ => rfl) (fun x51 _ => ?_)
        refine zm_goto 6 (by decide) dX7_cutWord_54 ?_
        exact zm_loc [1, 2, 3, 4, 5, 0] rfl (zm_go (hf6a _) (hD6 (b51_4, x51)))
      refine zm_icmp_ge 51 35 (by decide) rfl dX7_cutWord_32 ?_ ?_
      · exact zm_loc [0, 1, 2, 3, 4, 5] rfl (hb51_6 l6_4)
      · refine zm_lload 37 rfl dX7_cutWord_35 4 rfl ?_
        refine zm_aload_n 38 rfl dX7_cutWord_37 rfl 1 rfl ?_
        refine zm_iload 40 rfl dX7_cutWord_38 5 rfl ?_
        refine zm_bald 41 rfl dX7_cutWord_40 ha1.1 ha1.2 ?_
        refine zm_sipush 44 rfl dX7_cutWord_41 zs_255 ?_
        refine zm_iand 45 rfl dX7_cutWord_44 ?_
        refine zm_i2c 46 rfl dX7_cutWord_45 ?_
        refine zm_cS2lr 49 rfl dX7_cutWord_46 ml_X7_37 (Nat.le_of_ble_eq_true rfl) ⟨Nat.le_of_ble_eq_true rfl, Nat.le_of_ble_eq_true rfl⟩ rfl rfl ⟨Nat.le_refl _, Nat.le_refl _⟩ rfl (fun _ h => k_X7_withLetter E sv l6_4 ((((M.1 a1 l6_6.toNatClampNeg) &&& 255).toUInt32 % 65536).toInt32) M h) (fun r46 => ?_)
        refine zm_lstore (lv' := [(4, .long r46), (0, .ref (E.2.1 + 3)), (1, .ref (E.2.1 + a1)), (2, .int a2), (3, .int a3), (6, .int l6_6)]) 51 rfl dX7_cutWord_49 (by decide) rfl ?_
        exact zm_loc [1, 2, 3, 4, 0, 5] rfl (hb51_6 r46)
abbrev Y_X7_isDigit : zm_Y := (cX7_isDigit, 1, RX7, { frames := 0, cells := 0, slots := 0, locals := 0 }, (some .boolean), false)
noncomputable def f_X7_isDigit_b16  : Option Int32 :=
 some 0
noncomputable def f_X7_isDigit (a0 : Int32) (M : zm_Mem) : Option Int32 :=
  if a0 < (48 : Int32) then (f_X7_isDigit_b16) else (if (57 : Int32) < a0 then (f_X7_isDigit_b16) else (some 1))
set_option maxRecDepth 20000 in
set_option maxHeartbeats 4000000 in
theorem k_X7_isDigit (E : zm_E) (sv : Nat) (a0 : Int32) (M : zm_Mem) {r : Int32} (h : f_X7_isDigit a0 M = some r) : zm_Ct E sv sv yX7_isDigit Y_X7_isDigit [.int a0] M (some (.int r)) M := by
  refine zm_methr (emb := zm_ei) (d := f_X7_isDigit a0 M) (by decide) rfl (Nat.le_of_ble_eq_true rfl) h (fun X => ?_)
  show zm_V X Y_X7_isDigit E (zm_Q X E Y_X7_isDigit.2.2.2.1.cells Y_X7_isDigit.2.2.2.1.slots sv zm_ei) 0 0 sv 0 [(0, .int a0)] [] M (f_X7_isDigit a0 M) (fun r => some (r, M))
  unfold f_X7_isDigit
  refine zm_iload_n 1 rfl dX7_isDigit_0 rfl 0 rfl ?_
  refine zm_bipush 3 rfl dX7_isDigit_1 zb_48 ?_
  have hb16 : zm_V X Y_X7_isDigit E (zm_Q X E Y_X7_isDigit.2.2.2.1.cells Y_X7_isDigit.2.2.2.1.slots sv zm_ei) 0 0 sv 16 [] [] M (f_X7_isDigit_b16) (fun r => some (r, M)) := by
    unfold f_X7_isDigit_b16
    refine zm_iconst 17 rfl dX7_isDigit_16 zi_0 ?_
    exact zm_zret dX7_isDigit_17 rfl rfl (Nat.le_refl _) (Nat.le_refl _) rfl
  refine zm_icmp_lt 16 6 (by decide) rfl dX7_isDigit_3 ?_ ?_
  · exact zm_loc [] rfl (hb16)
  · refine zm_iload_n 7 rfl dX7_isDigit_6 rfl 0 rfl ?_
    refine zm_bipush 9 rfl dX7_isDigit_7 zb_57 ?_
    refine zm_icmp_gt 16 12 (by decide) rfl dX7_isDigit_9 ?_ ?_
    · exact zm_loc [] rfl (hb16)
    · refine zm_iconst 13 rfl dX7_isDigit_12 zi_1 ?_
      refine zm_goto 17 (by decide) dX7_isDigit_13 ?_
      exact zm_zret dX7_isDigit_17 rfl rfl (Nat.le_refl _) (Nat.le_refl _) rfl
abbrev Y_X7_cutNumber : zm_Y := (cX7_cutNumber, 6, RX7, { frames := 1, cells := 0, slots := 0, locals := 24 }, (some .int), false)
noncomputable def f_X7_cutNumber_b69 (a3 : Int32) (M : zm_Mem) (b55_4 : Int32) (b55_5 : Int32) (b69_s1 : Int32) : Option (Int32 × zm_Mem) :=
 zm_b2 (f_X7_add b69_s1 a3 (b55_4.toInt64) M) <| fun _ M73 => some (b55_5, M73)
noncomputable def f_X7_cutNumber_b55 (a3 : Int32) (M : zm_Mem) (b55_4 : Int32) (b55_5 : Int32) : Option (Int32 × zm_Mem) :=
 if (b55_5 - a3) ≤ (4 : Int32) then (f_X7_cutNumber_b69 a3 M b55_4 b55_5 3) else (f_X7_cutNumber_b69 a3 M b55_4 b55_5 1)
noncomputable def f_X7_cutNumber_b49_6 (l6_5 : Int32) (b49_4 : Int32) : Option ((Int32 × Int32) ⊕ (Int32 × Int32)) :=
 zm_v (l6_5 + 1) <| fun x49 => some (.inl (b49_4, x49))
noncomputable def f_X7_cutNumber_l6 (a1 : Nat) (a2 : Int32) (a3 : Int32) (M : zm_Mem) (l6_4 : Int32) (l6_5 : Int32) : Option ((Int32 × Int32) ⊕ (Int32 × Int32)) :=
 if a2 ≤ l6_5 then (some (.inr (l6_4, l6_5))) else (zm_ck (zm_in l6_5 (zm_sh a1).2) <| zm_b1 (f_X7_isDigit ((M.1 a1 l6_5.toNatClampNeg) &&& 255) M) <| fun r20 => if r20 = 0 then (some (.inr (l6_4, l6_5))) else (if (4 : Int32) ≤ (l6_5 - a3) then (f_X7_cutNumber_b49_6 l6_5 l6_4) else (zm_ck (zm_in l6_5 (zm_sh a1).2) <| zm_v ((l6_4 * 10) + ((M.1 a1 l6_5.toNatClampNeg) - 48)) <| fun x47 => f_X7_cutNumber_b49_6 l6_5 x47)))
noncomputable def f_X7_cutNumber (a1 : Nat) (a2 : Int32) (a3 : Int32) (M : zm_Mem) : Option (Int32 × zm_Mem) :=
  (zm_lp (fun s => f_X7_cutNumber_l6 a1 a2 a3 M s.1 s.2) (0, a3)).bind (fun e55 => f_X7_cutNumber_b55 a3 M e55.1 e55.2)
set_option maxRecDepth 20000 in
set_option maxHeartbeats 4000000 in
theorem k_X7_cutNumber (E : zm_E) (sv : Nat) (a1 : Nat) (a2 : Int32) (a3 : Int32) (ha1 : zm_sh a1 = (1, (zm_sh a1).2) ∧ (0 < a1 ∧ a1 ≤ zm_n sv)) (M : zm_Mem) {r : Int32} {M' : zm_Mem} (h : f_X7_cutNumber a1 a2 a3 M = some (r, M')) : zm_Ct E sv sv yX7_cutNumber Y_X7_cutNumber [.ref (E.2.1 + 3), .ref (E.2.1 + a1), .int a2, .int a3] M (some (.int r)) M' := by
  refine zm_meth (emb := zm_ei) (d := f_X7_cutNumber a1 a2 a3 M) (by decide) rfl (Nat.le_of_ble_eq_true rfl) h (fun X => ?_)
  show zm_V X Y_X7_cutNumber E (zm_Q X E Y_X7_cutNumber.2.2.2.1.cells Y_X7_cutNumber.2.2.2.1.slots sv zm_ei) 0 0 sv 0 [(0, .ref (E.2.1 + 3)), (1, .ref (E.2.1 + a1)), (2, .int a2), (3, .int a3)] [] M (f_X7_cutNumber a1 a2 a3 M) some
  unfold f_X7_cutNumber
  refine zm_iconst 1 rfl dX7_cutNumber_0 zi_0 ?_
  refine zm_istore (lv' := [(4, .int 0), (0, .ref (E.2.1 + 3)), (1, .ref (E.2.1 + a1)), (2, .int a2), (3, .int a3)]) 3 rfl dX7_cutNumber_1 (by decide) rfl ?_
  refine zm_iload_n 4 rfl dX7_cutNumber_3 rfl 4 rfl ?_
  refine zm_istore (lv' := [(5, .int a3), (4, .int 0), (0, .ref (E.2.1 + 3)), (1, .ref (E.2.1 + a1)), (2, .int a2), (3, .int a3)]) 6 rfl dX7_cutNumber_4 (by decide) rfl ?_
  have hb55 : ∀ (b55_4 : Int32) (b55_5 : Int32), zm_V X Y_X7_cutNumber E (zm_Q X E Y_X7_cutNumber.2.2.2.1.cells Y_X7_cutNumber.2.2.2.1.slots sv zm_ei) 0 0 sv 55 [(0, .ref (E.2.1 + 3)), (3, .int a3), (4, .int b55_4), (5, .int b55_5)] [] M (f_X7_cutNumber_b55 a3 M b55_4 b55_5) some := by
    intro b55_4 b55_5
    unfold f_X7_cutNumber_b55
    refine zm_aload_n 56 rfl dX7_cutNumber_55 rfl 0 rfl ?_
    refine zm_iload 58 rfl dX7_cutNumber_56 3 rfl ?_
    refine zm_iload_n 59 rfl dX7_cutNumber_58 rfl 1 rfl ?_
    refine zm_isub 60 rfl dX7_cutNumber_59 ?_
    refine zm_iconst 61 rfl dX7_cutNumber_60 zi_4 ?_
    have hb69 : ∀ (b69_s1 : Int32), zm_V X Y_X7_cutNumber E (zm_Q X E Y_X7_cutNumber.2.2.2.1.cells Y_X7_cutNumber.2.2.2.1.slots sv zm_ei) 0 0 sv 69 [(3, .int a3), (4, .int b55_4), (5, .int b55_5)] [.int b69_s1, .ref (E.2.1 + 3)] M (f_X7_cutNumber_b69 a3 M b55_4 b55_5 b69_s1) some := by
      intro b69_s1
      unfold f_X7_cutNumber_b69
      refine zm_iload_n 70 rfl dX7_cutNumber_69 rfl 0 rfl ?_
      refine zm_iload 72 rfl dX7_cutNumber_70 1 rfl ?_
      refine zm_i2l 73 rfl dX7_cutNumber_72 ?_
      refine zm_cV3v 76 rfl dX7_cutNumber_73 ml_X7_68 rfl (zm_L rfl) rfl (Nat.le_of_ble_eq_true rfl) ⟨Nat.le_of_ble_eq_true rfl, Nat.le_of_ble_eq_true rfl⟩ rfl rfl ⟨Nat.le_refl _, Nat.le_refl _⟩ rfl (fun _ _ h => k_X7_add E sv b69_s1 a3 (b55_4.toInt64) M h) (fun _ M73 => ?_)
      refine zm_iload 78 rfl dX7_cutNumber_76 2 rfl ?_
      exact zm_iret dX7_cutNumber_78 rfl (Nat.le_refl _) (Nat.le_refl _) rfl
    refine zm_icmp_le 68 64 (by decide) rfl dX7_cutNumber_61 ?_ ?_
    · refine zm_iconst 69 rfl dX7_cutNumber_68 zi_3 ?_
      exact zm_loc [1, 2, 3] rfl (hb69 3)
    · refine zm_iconst 65 rfl dX7_cutNumber_64 zi_1 ?_
      refine zm_goto 69 (by decide) dX7_cutNumber_65 ?_
      exact zm_loc [1, 2, 3] rfl (hb69 1)
  have hx55_6 : ∀ (e55_4 : Int32) (e55_5 : Int32), zm_V X Y_X7_cutNumber E (zm_Q X E Y_X7_cutNumber.2.2.2.1.cells Y_X7_cutNumber.2.2.2.1.slots sv zm_ei) 0 0 sv 55 [(0, .ref (E.2.1 + 3)), (3, .int a3), (4, .int e55_4), (5, .int e55_5)] [] M (f_X7_cutNumber_b55 a3 M e55_4 e55_5) some := by
    intro e55_4 e55_5
    exact zm_loc [0, 1, 2, 3] rfl (hb55 e55_4 e55_5)
  refine zm_loc [2, 3, 4, 5, 1, 0] rfl (zm_lpp (σ := (Int32 × Int32)) (ε := (Int32 × Int32)) (step := fun s => f_X7_cutNumber_l6 a1 a2 a3 M s.1 s.2) (fun s => [(0, .ref (E.2.1 + 3)), (1, .ref (E.2.1 + a1)), (2, .int a2), (3, .int a3), (4, .int s.1), (5, .int s.2)]) (fun _ => M) (fun D6 f6 hf6a hf6b hD6 s => ?_) (0, a3))
  obtain ⟨l6_4, l6_5⟩ := s
  show zm_V X Y_X7_cutNumber E (zm_Q X E Y_X7_cutNumber.2.2.2.1.cells Y_X7_cutNumber.2.2.2.1.slots sv zm_ei) 0 0 sv 6 [(0, .ref (E.2.1 + 3)), (1, .ref (E.2.1 + a1)), (2, .int a2), (3, .int a3), (4, .int l6_4), (5, .int l6_5)] [] M (f_X7_cutNumber_l6 a1 a2 a3 M l6_4 l6_5) f6
  unfold f_X7_cutNumber_l6
  refine zm_iload 8 rfl dX7_cutNumber_6 5 rfl ?_
  refine zm_iload_n 9 rfl dX7_cutNumber_8 rfl 2 rfl ?_
  refine zm_icmp_ge 55 12 (by decide) rfl dX7_cutNumber_9 ?_ ?_
  · exact zm_loc [0, 3, 4, 5] rfl (zm_go (hf6b _) (zm_unb (hx55_6 l6_4 l6_5)))
  · refine zm_aload_n 13 rfl dX7_cutNumber_12 rfl 1 rfl ?_
    refine zm_iload 15 rfl dX7_cutNumber_13 5 rfl ?_
    refine zm_bald 16 rfl dX7_cutNumber_15 ha1.1 ha1.2 ?_
    refine zm_sipush 19 rfl dX7_cutNumber_16 zs_255 ?_
    refine zm_iand 20 rfl dX7_cutNumber_19 ?_
    refine zm_cS1ir 23 rfl dX7_cutNumber_20 ml_X7_56 (Nat.le_of_ble_eq_true rfl) ⟨Nat.le_of_ble_eq_true rfl, Nat.le_of_ble_eq_true rfl⟩ rfl rfl ⟨Nat.le_refl _, Nat.le_refl _⟩ rfl (fun _ h => k_X7_isDigit E sv ((M.1 a1 l6_5.toNatClampNeg) &&& 255) M h) (fun r20 => ?_)
    refine zm_if_eq 55 26 (by decide) rfl dX7_cutNumber_23 ?_ ?_
    · exact zm_loc [0, 3, 4, 5] rfl (zm_go (hf6b _) (zm_unb (hx55_6 l6_4 l6_5)))
    · refine zm_iload 28 rfl dX7_cutNumber_26 5 rfl ?_
      refine zm_iload_n 29 rfl dX7_cutNumber_28 rfl 3 rfl ?_
      refine zm_isub 30 rfl dX7_cutNumber_29 ?_
      refine zm_iconst 31 rfl dX7_cutNumber_30 zi_4 ?_
      have hb49_6 : ∀ (b49_4 : Int32), zm_V X Y_X7_cutNumber E (zm_Q X E Y_X7_cutNumber.2.2.2.1.cells Y_X7_cutNumber.2.2.2.1.slots sv zm_ei) 0 0 sv 49 [(0, .ref (E.2.1 + 3)), (1, .ref (E.2.1 + a1)), (2, .int a2), (3, .int a3), (4, .int b49_4), (5, .int l6_5)] [] M (f_X7_cutNumber_b49_6 l6_5 b49_4) f6 := by
        intro b49_4
        unfold f_X7_cutNumber_b49_6
        refine zm_iinc (lv' := fun z => [(5, .int z), (0, .ref (E.2.1 + 3)), (1, .ref (E.2.1 + a1)), (2, .int a2), (3, .int a3), (4, .int b49_4)]) 52 rfl dX7_cutNumber_49 zi_1 5 rfl (by decide) (fun _ => rfl) (fun x49 _ => ?_)
        refine zm_goto 6 (by decide) dX7_cutNumber_52 ?_
        exact zm_loc [1, 2, 3, 4, 5, 0] rfl (zm_go (hf6a _) (hD6 (b49_4, x49)))
      refine zm_icmp_ge 49 34 (by decide) rfl dX7_cutNumber_31 ?_ ?_
      · exact zm_loc [0, 1, 2, 3, 4, 5] rfl (hb49_6 l6_4)
      · refine zm_iload 36 rfl dX7_cutNumber_34 4 rfl ?_
        refine zm_bipush 38 rfl dX7_cutNumber_36 zb_10 ?_
        refine zm_imul 39 rfl dX7_cutNumber_38 ?_
        refine zm_aload_n 40 rfl dX7_cutNumber_39 rfl 1 rfl ?_
        refine zm_iload 42 rfl dX7_cutNumber_40 5 rfl ?_
        refine zm_bald 43 rfl dX7_cutNumber_42 ha1.1 ha1.2 ?_
        refine zm_bipush 45 rfl dX7_cutNumber_43 zb_48 ?_
        refine zm_isub 46 rfl dX7_cutNumber_45 ?_
        refine zm_iadd 47 rfl dX7_cutNumber_46 ?_
        refine zm_nmi (fun x47 _ => ?_)
        refine zm_istore (lv' := [(4, .int x47), (0, .ref (E.2.1 + 3)), (1, .ref (E.2.1 + a1)), (2, .int a2), (3, .int a3), (5, .int l6_5)]) 49 rfl dX7_cutNumber_47 (by decide) rfl ?_
        exact zm_loc [1, 2, 3, 4, 0, 5] rfl (hb49_6 x47)
abbrev Y_X9_moveFirst : zm_Y := (cX9_moveFirst, 4, RX9, { frames := 0, cells := 0, slots := 0, locals := 0 }, (some .long), false)
noncomputable def f_X9_moveFirst (a0 : Int64) (M : zm_Mem) : Option Int64 :=
  zm_v ((((a0 ||| ((a0.toUInt64 >>> ((1 : Int32).toInt64.toUInt64 &&& Int64.toUInt64 63)).toInt64)) ||| ((a0.toUInt64 >>> ((2 : Int32).toInt64.toUInt64 &&& Int64.toUInt64 63)).toInt64)) ||| ((a0.toUInt64 >>> ((3 : Int32).toInt64.toUInt64 &&& Int64.toUInt64 63)).toInt64)) ||| ((a0.toUInt64 >>> ((4 : Int32).toInt64.toUInt64 &&& Int64.toUInt64 63)).toInt64)) <| fun x17 => some ((x17 &&& 72340172838076673) * 31)
set_option maxRecDepth 20000 in
set_option maxHeartbeats 4000000 in
theorem k_X9_moveFirst (E : zm_E) (a0 : Int64) (M : zm_Mem) {r : Int64} (h : f_X9_moveFirst a0 M = some r) : zm_Ct E 1 1 yX9_moveFirst Y_X9_moveFirst [.long a0] M (some (.long r)) M := by
  refine zm_methr (emb := zm_el) (d := f_X9_moveFirst a0 M) (by decide) rfl (Nat.le_of_ble_eq_true rfl) h (fun X => ?_)
  show zm_V X Y_X9_moveFirst E (zm_Q X E Y_X9_moveFirst.2.2.2.1.cells Y_X9_moveFirst.2.2.2.1.slots 1 zm_el) 0 0 1 0 [(0, .long a0)] [] M (f_X9_moveFirst a0 M) (fun r => some (r, M))
  unfold f_X9_moveFirst
  refine zm_lload_n 1 rfl dX9_moveFirst_0 rfl 0 rfl ?_
  refine zm_lload_n 2 rfl dX9_moveFirst_1 rfl 0 rfl ?_
  refine zm_iconst 3 rfl dX9_moveFirst_2 zi_1 ?_
  refine zm_lushr 4 rfl dX9_moveFirst_3 ?_
  refine zm_lor 5 rfl dX9_moveFirst_4 ?_
  refine zm_lload_n 6 rfl dX9_moveFirst_5 rfl 0 rfl ?_
  refine zm_iconst 7 rfl dX9_moveFirst_6 zi_2 ?_
  refine zm_lushr 8 rfl dX9_moveFirst_7 ?_
  refine zm_lor 9 rfl dX9_moveFirst_8 ?_
  refine zm_lload_n 10 rfl dX9_moveFirst_9 rfl 0 rfl ?_
  refine zm_iconst 11 rfl dX9_moveFirst_10 zi_3 ?_
  refine zm_lushr 12 rfl dX9_moveFirst_11 ?_
  refine zm_lor 13 rfl dX9_moveFirst_12 ?_
  refine zm_lload_n 14 rfl dX9_moveFirst_13 rfl 0 rfl ?_
  refine zm_iconst 15 rfl dX9_moveFirst_14 zi_4 ?_
  refine zm_lushr 16 rfl dX9_moveFirst_15 ?_
  refine zm_lor 17 rfl dX9_moveFirst_16 ?_
  refine zm_nml (fun x17 _ => ?_)
  refine zm_lstore_n (lv' := [(2, .long x17), (0, .long a0)]) 18 rfl dX9_moveFirst_17 rfl (by decide) rfl ?_
  refine zm_lload_n 19 rfl dX9_moveFirst_18 rfl 0 rfl ?_
  refine zm_ldc2 22 rfl dX9_moveFirst_19 kc_X9_47 ?_
  refine zm_land 23 rfl dX9_moveFirst_22 ?_
  refine zm_ldc2 26 rfl dX9_moveFirst_23 kc_X9_49 ?_
  refine zm_lmul 27 rfl dX9_moveFirst_26 ?_
  exact zm_lret dX9_moveFirst_27 rfl (Nat.le_refl _) (Nat.le_refl _) rfl
abbrev Y_X9_moveSecond : zm_Y := (cX9_moveSecond, 4, RX9, { frames := 0, cells := 0, slots := 0, locals := 0 }, (some .long), false)
noncomputable def f_X9_moveSecond (a0 : Int64) (M : zm_Mem) : Option Int64 :=
  zm_v ((((a0 ||| ((a0.toUInt64 >>> ((8 : Int32).toInt64.toUInt64 &&& Int64.toUInt64 63)).toInt64)) ||| ((a0.toUInt64 >>> ((16 : Int32).toInt64.toUInt64 &&& Int64.toUInt64 63)).toInt64)) ||| ((a0.toUInt64 >>> ((24 : Int32).toInt64.toUInt64 &&& Int64.toUInt64 63)).toInt64)) ||| ((a0.toUInt64 >>> ((32 : Int32).toInt64.toUInt64 &&& Int64.toUInt64 63)).toInt64)) <| fun x21 => some ((x21 &&& 255) * 4311810305)
set_option maxRecDepth 20000 in
set_option maxHeartbeats 4000000 in
theorem k_X9_moveSecond (E : zm_E) (a0 : Int64) (M : zm_Mem) {r : Int64} (h : f_X9_moveSecond a0 M = some r) : zm_Ct E 1 1 yX9_moveSecond Y_X9_moveSecond [.long a0] M (some (.long r)) M := by
  refine zm_methr (emb := zm_el) (d := f_X9_moveSecond a0 M) (by decide) rfl (Nat.le_of_ble_eq_true rfl) h (fun X => ?_)
  show zm_V X Y_X9_moveSecond E (zm_Q X E Y_X9_moveSecond.2.2.2.1.cells Y_X9_moveSecond.2.2.2.1.slots 1 zm_el) 0 0 1 0 [(0, .long a0)] [] M (f_X9_moveSecond a0 M) (fun r => some (r, M))
  unfold f_X9_moveSecond
  refine zm_lload_n 1 rfl dX9_moveSecond_0 rfl 0 rfl ?_
  refine zm_lload_n 2 rfl dX9_moveSecond_1 rfl 0 rfl ?_
  refine zm_bipush 4 rfl dX9_moveSecond_2 zb_8 ?_
  refine zm_lushr 5 rfl dX9_moveSecond_4 ?_
  refine zm_lor 6 rfl dX9_moveSecond_5 ?_
  refine zm_lload_n 7 rfl dX9_moveSecond_6 rfl 0 rfl ?_
  refine zm_bipush 9 rfl dX9_moveSecond_7 zb_16 ?_
  refine zm_lushr 10 rfl dX9_moveSecond_9 ?_
  refine zm_lor 11 rfl dX9_moveSecond_10 ?_
  refine zm_lload_n 12 rfl dX9_moveSecond_11 rfl 0 rfl ?_
  refine zm_bipush 14 rfl dX9_moveSecond_12 zb_24 ?_
  refine zm_lushr 15 rfl dX9_moveSecond_14 ?_
  refine zm_lor 16 rfl dX9_moveSecond_15 ?_
  refine zm_lload_n 17 rfl dX9_moveSecond_16 rfl 0 rfl ?_
  refine zm_bipush 19 rfl dX9_moveSecond_17 zb_32 ?_
  refine zm_lushr 20 rfl dX9_moveSecond_19 ?_
  refine zm_lor 21 rfl dX9_moveSecond_20 ?_
  refine zm_nml (fun x21 _ => ?_)
  refine zm_lstore_n (lv' := [(2, .long x21), (0, .long a0)]) 22 rfl dX9_moveSecond_21 rfl (by decide) rfl ?_
  refine zm_lload_n 23 rfl dX9_moveSecond_22 rfl 0 rfl ?_
  refine zm_ldc2 26 rfl dX9_moveSecond_23 kc_X9_51 ?_
  refine zm_land 27 rfl dX9_moveSecond_26 ?_
  refine zm_ldc2 30 rfl dX9_moveSecond_27 kc_X9_53 ?_
  refine zm_lmul 31 rfl dX9_moveSecond_30 ?_
  exact zm_lret dX9_moveSecond_31 rfl (Nat.le_refl _) (Nat.le_refl _) rfl
abbrev Y_X9_moveOther : zm_Y := (cX9_moveOther, 8, RX9, { frames := 0, cells := 0, slots := 0, locals := 0 }, none, false)
noncomputable def f_X9_moveOther_x102_14_2 (a1 : Int32) (l2_3 : Int32) (N102 : zm_Mem) : Option ((Int32 × zm_Mem) ⊕ zm_Mem) :=
 zm_v (l2_3 + (5 * a1)) <| fun x107 => some (.inl (x107, N102))
noncomputable def f_X9_moveOther_b96_14_2 (l14_4 : Int32) (M96 : zm_Mem) : Option ((Int32 × zm_Mem) ⊕ zm_Mem) :=
 zm_v (l14_4 + 1) <| fun x96 => some (.inl (x96, M96))
noncomputable def f_X9_moveOther_l60_14_2 (a1 : Int32) (l14_4 : Int32) (e57_5 : Int64) (l60_7 : Int32) (L60 : zm_Mem) : Option ((Int32 × zm_Mem) ⊕ zm_Mem) :=
 if (5 : Int32) ≤ l60_7 then (some (.inr L60)) else (if (lg_cmp e57_5 0) = 0 then (some (.inr L60)) else (zm_ck (zm_in (l14_4 + (l60_7 * a1)) 625) <| zm_ck (zm_in (l14_4 + (l60_7 * a1)) 625) <| zm_v (zm_sL L60 114 (l14_4 + (l60_7 * a1)).toNatClampNeg ((L60.2.1 114 (l14_4 + (l60_7 * a1)).toNatClampNeg) ||| e57_5)) <| fun M89 => zm_v (l60_7 + 1) <| fun x90 => some (.inl (x90, M89))))
noncomputable def f_X9_moveOther_x57_28_14_2 (a1 : Int32) (l14_4 : Int32) (L14 : zm_Mem) (e57_5 : Int64) : Option ((Int32 × zm_Mem) ⊕ zm_Mem) :=
 (zm_lp (fun s => f_X9_moveOther_l60_14_2 a1 l14_4 e57_5 s.1 s.2) (0, L14)).bind (fun e96 => f_X9_moveOther_b96_14_2 l14_4 e96)
noncomputable def f_X9_moveOther_l28_14_2 (a1 : Int32) (l14_4 : Int32) (L14 : zm_Mem) (l28_5 : Int64) (l28_7 : Int32) : Option ((Int64 × Int32) ⊕ Int64) :=
 if (5 : Int32) ≤ l28_7 then (some (.inr l28_5)) else (zm_ck (zm_in (l14_4 + (l28_7 * a1)) 625) <| zm_v (l28_5 ||| (L14.2.1 113 (l14_4 + (l28_7 * a1)).toNatClampNeg)) <| fun x49 => zm_v (l28_7 + 1) <| fun x51 => some (.inl (x49, x51)))
noncomputable def f_X9_moveOther_l14_2 (a1 : Int32) (l2_3 : Int32) (l14_4 : Int32) (L14 : zm_Mem) : Option ((Int32 × zm_Mem) ⊕ zm_Mem) :=
 if (l2_3 + a1) ≤ l14_4 then (some (.inr L14)) else ((zm_lp (fun s => f_X9_moveOther_l28_14_2 a1 l14_4 L14 s.1 s.2) (0, 0)).bind (fun e57 => f_X9_moveOther_x57_28_14_2 a1 l14_4 L14 e57))
noncomputable def f_X9_moveOther_l2 (a1 : Int32) (a2 : Int32) (l2_3 : Int32) (L2 : zm_Mem) : Option ((Int32 × zm_Mem) ⊕ zm_Mem) :=
 if a2 < (l2_3 + (5 * a1)) then (some (.inr L2)) else ((zm_lp (fun s => f_X9_moveOther_l14_2 a1 l2_3 s.1 s.2) (l2_3, L2)).bind (fun e102 => f_X9_moveOther_x102_14_2 a1 l2_3 e102))
noncomputable def f_X9_moveOther (a1 : Int32) (a2 : Int32) (M : zm_Mem) : Option (Unit × zm_Mem) :=
  (zm_lp (fun s => f_X9_moveOther_l2 a1 a2 s.1 s.2) (0, M)).bind (fun e111 => some ((), e111))
set_option maxRecDepth 20000 in
set_option maxHeartbeats 4000000 in
theorem k_X9_moveOther (E : zm_E) (a1 : Int32) (a2 : Int32) (M : zm_Mem) {r : Unit} {M' : zm_Mem} (h : f_X9_moveOther a1 a2 M = some (r, M')) : zm_Ct E 1 1 yX9_moveOther Y_X9_moveOther [.ref (E.2.1 + 112), .int a1, .int a2] M none M' := by
  refine zm_meth (emb := zm_ev) (d := f_X9_moveOther a1 a2 M) (by decide) rfl (Nat.le_of_ble_eq_true rfl) h (fun X => ?_)
  show zm_V X Y_X9_moveOther E (zm_Q X E Y_X9_moveOther.2.2.2.1.cells Y_X9_moveOther.2.2.2.1.slots 1 zm_ev) 0 0 1 0 [(0, .ref (E.2.1 + 112)), (1, .int a1), (2, .int a2)] [] M (f_X9_moveOther a1 a2 M) some
  unfold f_X9_moveOther
  refine zm_iconst 1 rfl dX9_moveOther_0 zi_0 ?_
  refine zm_istore_n (lv' := [(3, .int 0), (0, .ref (E.2.1 + 112)), (1, .int a1), (2, .int a2)]) 2 rfl dX9_moveOther_1 rfl (by decide) rfl ?_
  have hx111_2 : ∀ (N111 : zm_Mem), zm_V X Y_X9_moveOther E (zm_Q X E Y_X9_moveOther.2.2.2.1.cells Y_X9_moveOther.2.2.2.1.slots 1 zm_ev) 0 0 1 111 [] [] N111 (some ((), N111)) some := by
    intro N111
    exact zm_vret dX9_moveOther_111 rfl (Nat.le_refl _) (Nat.le_refl _) rfl
  refine zm_loc [1, 2, 3, 0] rfl (zm_lpp (σ := (Int32 × zm_Mem)) (ε := zm_Mem) (step := fun s => f_X9_moveOther_l2 a1 a2 s.1 s.2) (fun s => [(0, .ref (E.2.1 + 112)), (1, .int a1), (2, .int a2), (3, .int s.1)]) (fun s => s.2) (fun D2 f2 hf2a hf2b hD2 s => ?_) (0, M))
  obtain ⟨l2_3, L2⟩ := s
  show zm_V X Y_X9_moveOther E (zm_Q X E Y_X9_moveOther.2.2.2.1.cells Y_X9_moveOther.2.2.2.1.slots 1 zm_ev) 0 0 1 2 [(0, .ref (E.2.1 + 112)), (1, .int a1), (2, .int a2), (3, .int l2_3)] [] L2 (f_X9_moveOther_l2 a1 a2 l2_3 L2) f2
  unfold f_X9_moveOther_l2
  refine zm_iload_n 3 rfl dX9_moveOther_2 rfl 3 rfl ?_
  refine zm_iconst 4 rfl dX9_moveOther_3 zi_5 ?_
  refine zm_iload_n 5 rfl dX9_moveOther_4 rfl 1 rfl ?_
  refine zm_imul 6 rfl dX9_moveOther_5 ?_
  refine zm_iadd 7 rfl dX9_moveOther_6 ?_
  refine zm_iload_n 8 rfl dX9_moveOther_7 rfl 2 rfl ?_
  refine zm_icmp_gt 111 11 (by decide) rfl dX9_moveOther_8 ?_ ?_
  · exact zm_loc [] rfl (zm_go (hf2b _) (zm_unb (hx111_2 L2)))
  · refine zm_iload_n 12 rfl dX9_moveOther_11 rfl 3 rfl ?_
    refine zm_istore (lv' := [(4, .int l2_3), (0, .ref (E.2.1 + 112)), (1, .int a1), (2, .int a2), (3, .int l2_3)]) 14 rfl dX9_moveOther_12 (by decide) rfl ?_
    have hx102_14_2 : ∀ (N102 : zm_Mem), zm_V X Y_X9_moveOther E (zm_Q X E Y_X9_moveOther.2.2.2.1.cells Y_X9_moveOther.2.2.2.1.slots 1 zm_ev) 0 0 1 102 [(0, .ref (E.2.1 + 112)), (1, .int a1), (2, .int a2), (3, .int l2_3)] [] N102 (f_X9_moveOther_x102_14_2 a1 l2_3 N102) f2 := by
      intro N102
      unfold f_X9_moveOther_x102_14_2
      refine zm_iload_n 103 rfl dX9_moveOther_102 rfl 3 rfl ?_
      refine zm_iconst 104 rfl dX9_moveOther_103 zi_5 ?_
      refine zm_iload_n 105 rfl dX9_moveOther_104 rfl 1 rfl ?_
      refine zm_imul 106 rfl dX9_moveOther_105 ?_
      refine zm_iadd 107 rfl dX9_moveOther_106 ?_
      refine zm_nmi (fun x107 _ => ?_)
      refine zm_istore_n (lv' := [(3, .int x107), (0, .ref (E.2.1 + 112)), (1, .int a1), (2, .int a2)]) 108 rfl dX9_moveOther_107 rfl (by decide) rfl ?_
      refine zm_goto 2 (by decide) dX9_moveOther_108 ?_
      exact zm_loc [1, 2, 3, 0] rfl (zm_go (hf2a _) (hD2 (x107, N102)))
    refine zm_loc [1, 2, 3, 4, 0] rfl (zm_lpp (σ := (Int32 × zm_Mem)) (ε := zm_Mem) (step := fun s => f_X9_moveOther_l14_2 a1 l2_3 s.1 s.2) (fun s => [(0, .ref (E.2.1 + 112)), (1, .int a1), (2, .int a2), (3, .int l2_3), (4, .int s.1)]) (fun s => s.2) (fun D14_2 f14_2 hf14_2a hf14_2b hD14_2 s => ?_) (l2_3, L2))
    obtain ⟨l14_4, L14⟩ := s
    show zm_V X Y_X9_moveOther E (zm_Q X E Y_X9_moveOther.2.2.2.1.cells Y_X9_moveOther.2.2.2.1.slots 1 zm_ev) 0 0 1 14 [(0, .ref (E.2.1 + 112)), (1, .int a1), (2, .int a2), (3, .int l2_3), (4, .int l14_4)] [] L14 (f_X9_moveOther_l14_2 a1 l2_3 l14_4 L14) f14_2
    unfold f_X9_moveOther_l14_2
    refine zm_iload 16 rfl dX9_moveOther_14 4 rfl ?_
    refine zm_iload_n 17 rfl dX9_moveOther_16 rfl 3 rfl ?_
    refine zm_iload_n 18 rfl dX9_moveOther_17 rfl 1 rfl ?_
    refine zm_iadd 19 rfl dX9_moveOther_18 ?_
    refine zm_icmp_ge 102 22 (by decide) rfl dX9_moveOther_19 ?_ ?_
    · exact zm_loc [0, 1, 2, 3] rfl (zm_go (hf14_2b _) (zm_unb (hx102_14_2 L14)))
    · refine zm_lconst 23 rfl dX9_moveOther_22 rfl ?_
      refine zm_lstore (lv' := [(5, .long 0), (0, .ref (E.2.1 + 112)), (1, .int a1), (2, .int a2), (3, .int l2_3), (4, .int l14_4)]) 25 rfl dX9_moveOther_23 (by decide) rfl ?_
      refine zm_iconst 26 rfl dX9_moveOther_25 zi_0 ?_
      refine zm_istore (lv' := [(7, .int 0), (5, .long 0), (0, .ref (E.2.1 + 112)), (1, .int a1), (2, .int a2), (3, .int l2_3), (4, .int l14_4)]) 28 rfl dX9_moveOther_26 (by decide) rfl ?_
      have hx57_28_14_2 : ∀ (e57_5 : Int64), zm_V X Y_X9_moveOther E (zm_Q X E Y_X9_moveOther.2.2.2.1.cells Y_X9_moveOther.2.2.2.1.slots 1 zm_ev) 0 0 1 57 [(0, .ref (E.2.1 + 112)), (1, .int a1), (2, .int a2), (3, .int l2_3), (4, .int l14_4), (5, .long e57_5)] [] L14 (f_X9_moveOther_x57_28_14_2 a1 l14_4 L14 e57_5) f14_2 := by
        intro e57_5
        unfold f_X9_moveOther_x57_28_14_2
        refine zm_iconst 58 rfl dX9_moveOther_57 zi_0 ?_
        refine zm_istore (lv' := [(7, .int 0), (0, .ref (E.2.1 + 112)), (1, .int a1), (2, .int a2), (3, .int l2_3), (4, .int l14_4), (5, .long e57_5)]) 60 rfl dX9_moveOther_58 (by decide) rfl ?_
        have hb96_14_2 : ∀ (M96 : zm_Mem), zm_V X Y_X9_moveOther E (zm_Q X E Y_X9_moveOther.2.2.2.1.cells Y_X9_moveOther.2.2.2.1.slots 1 zm_ev) 0 0 1 96 [(0, .ref (E.2.1 + 112)), (1, .int a1), (2, .int a2), (3, .int l2_3), (4, .int l14_4)] [] M96 (f_X9_moveOther_b96_14_2 l14_4 M96) f14_2 := by
          intro M96
          unfold f_X9_moveOther_b96_14_2
          refine zm_iinc (lv' := fun z => [(4, .int z), (0, .ref (E.2.1 + 112)), (1, .int a1), (2, .int a2), (3, .int l2_3)]) 99 rfl dX9_moveOther_96 zi_1 4 rfl (by decide) (fun _ => rfl) (fun x96 _ => ?_)
          refine zm_goto 14 (by decide) dX9_moveOther_99 ?_
          exact zm_loc [1, 2, 3, 4, 0] rfl (zm_go (hf14_2a _) (hD14_2 (x96, M96)))
        have hx96_60_14_2 : ∀ (N96 : zm_Mem), zm_V X Y_X9_moveOther E (zm_Q X E Y_X9_moveOther.2.2.2.1.cells Y_X9_moveOther.2.2.2.1.slots 1 zm_ev) 0 0 1 96 [(0, .ref (E.2.1 + 112)), (1, .int a1), (2, .int a2), (3, .int l2_3), (4, .int l14_4)] [] N96 (f_X9_moveOther_b96_14_2 l14_4 N96) f14_2 := by
          intro N96
          exact zm_loc [0, 1, 2, 3, 4] rfl (hb96_14_2 N96)
        refine zm_loc [1, 2, 3, 4, 5, 6, 0] rfl (zm_lpp (σ := (Int32 × zm_Mem)) (ε := zm_Mem) (step := fun s => f_X9_moveOther_l60_14_2 a1 l14_4 e57_5 s.1 s.2) (fun s => [(0, .ref (E.2.1 + 112)), (1, .int a1), (2, .int a2), (3, .int l2_3), (4, .int l14_4), (5, .long e57_5), (7, .int s.1)]) (fun s => s.2) (fun D60_14_2 f60_14_2 hf60_14_2a hf60_14_2b hD60_14_2 s => ?_) (0, L14))
        obtain ⟨l60_7, L60⟩ := s
        show zm_V X Y_X9_moveOther E (zm_Q X E Y_X9_moveOther.2.2.2.1.cells Y_X9_moveOther.2.2.2.1.slots 1 zm_ev) 0 0 1 60 [(0, .ref (E.2.1 + 112)), (1, .int a1), (2, .int a2), (3, .int l2_3), (4, .int l14_4), (5, .long e57_5), (7, .int l60_7)] [] L60 (f_X9_moveOther_l60_14_2 a1 l14_4 e57_5 l60_7 L60) f60_14_2
        unfold f_X9_moveOther_l60_14_2
        refine zm_iload 62 rfl dX9_moveOther_60 6 rfl ?_
        refine zm_iconst 63 rfl dX9_moveOther_62 zi_5 ?_
        refine zm_icmp_ge 96 66 (by decide) rfl dX9_moveOther_63 ?_ ?_
        · exact zm_loc [0, 1, 2, 3, 4] rfl (zm_go (hf60_14_2b _) (zm_unb (hx96_60_14_2 L60)))
        · refine zm_lload 68 rfl dX9_moveOther_66 5 rfl ?_
          refine zm_lconst 69 rfl dX9_moveOther_68 rfl ?_
          refine zm_lcmp 70 rfl dX9_moveOther_69 ?_
          refine zm_if_eq 96 73 (by decide) rfl dX9_moveOther_70 ?_ ?_
          · exact zm_loc [0, 1, 2, 3, 4] rfl (zm_go (hf60_14_2b _) (zm_unb (hx96_60_14_2 L60)))
          · refine zm_aload_n 74 rfl dX9_moveOther_73 rfl 0 rfl ?_
            refine zm_getR 77 rfl dX9_moveOther_74 fl_X9_17 rfl (zm_L1 rfl) rfl ?_
            refine zm_iload 79 rfl dX9_moveOther_77 4 rfl ?_
            refine zm_iload 81 rfl dX9_moveOther_79 6 rfl ?_
            refine zm_iload_n 82 rfl dX9_moveOther_81 rfl 1 rfl ?_
            refine zm_imul 83 rfl dX9_moveOther_82 ?_
            refine zm_iadd 84 rfl dX9_moveOther_83 ?_
            refine zm_dup2 85 rfl dX9_moveOther_84 rfl rfl ?_
            refine zm_lald 86 rfl dX9_moveOther_85 rfl (zm_L1 rfl) ?_
            refine zm_lload 88 rfl dX9_moveOther_86 5 rfl ?_
            refine zm_lor 89 rfl dX9_moveOther_88 ?_
            refine zm_last 90 rfl dX9_moveOther_89 rfl (zm_L1 rfl) (fun M89 _ => ?_)
            refine zm_iinc (lv' := fun z => [(7, .int z), (0, .ref (E.2.1 + 112)), (1, .int a1), (2, .int a2), (3, .int l2_3), (4, .int l14_4), (5, .long e57_5)]) 93 rfl dX9_moveOther_90 zi_1 6 rfl (by decide) (fun _ => rfl) (fun x90 _ => ?_)
            refine zm_goto 60 (by decide) dX9_moveOther_93 ?_
            exact zm_loc [1, 2, 3, 4, 5, 6, 0] rfl (zm_go (hf60_14_2a _) (hD60_14_2 (x90, M89)))
      refine zm_loc [2, 3, 4, 5, 6, 1, 0] rfl (zm_lpp (σ := (Int64 × Int32)) (ε := Int64) (step := fun s => f_X9_moveOther_l28_14_2 a1 l14_4 L14 s.1 s.2) (fun s => [(0, .ref (E.2.1 + 112)), (1, .int a1), (2, .int a2), (3, .int l2_3), (4, .int l14_4), (5, .long s.1), (7, .int s.2)]) (fun _ => L14) (fun D28_14_2 f28_14_2 hf28_14_2a hf28_14_2b hD28_14_2 s => ?_) (0, 0))
      obtain ⟨l28_5, l28_7⟩ := s
      show zm_V X Y_X9_moveOther E (zm_Q X E Y_X9_moveOther.2.2.2.1.cells Y_X9_moveOther.2.2.2.1.slots 1 zm_ev) 0 0 1 28 [(0, .ref (E.2.1 + 112)), (1, .int a1), (2, .int a2), (3, .int l2_3), (4, .int l14_4), (5, .long l28_5), (7, .int l28_7)] [] L14 (f_X9_moveOther_l28_14_2 a1 l14_4 L14 l28_5 l28_7) f28_14_2
      unfold f_X9_moveOther_l28_14_2
      refine zm_iload 30 rfl dX9_moveOther_28 6 rfl ?_
      refine zm_iconst 31 rfl dX9_moveOther_30 zi_5 ?_
      refine zm_icmp_ge 57 34 (by decide) rfl dX9_moveOther_31 ?_ ?_
      · exact zm_loc [0, 1, 2, 3, 4, 5] rfl (zm_go (hf28_14_2b _) (zm_unb (hx57_28_14_2 l28_5)))
      · refine zm_lload 36 rfl dX9_moveOther_34 5 rfl ?_
        refine zm_aload_n 37 rfl dX9_moveOther_36 rfl 0 rfl ?_
        refine zm_getR 40 rfl dX9_moveOther_37 fl_X9_11 rfl (zm_L1 rfl) rfl ?_
        refine zm_iload 42 rfl dX9_moveOther_40 4 rfl ?_
        refine zm_iload 44 rfl dX9_moveOther_42 6 rfl ?_
        refine zm_iload_n 45 rfl dX9_moveOther_44 rfl 1 rfl ?_
        refine zm_imul 46 rfl dX9_moveOther_45 ?_
        refine zm_iadd 47 rfl dX9_moveOther_46 ?_
        refine zm_lald 48 rfl dX9_moveOther_47 rfl (zm_L1 rfl) ?_
        refine zm_lor 49 rfl dX9_moveOther_48 ?_
        refine zm_nml (fun x49 _ => ?_)
        refine zm_lstore (lv' := [(5, .long x49), (0, .ref (E.2.1 + 112)), (1, .int a1), (2, .int a2), (3, .int l2_3), (4, .int l14_4), (7, .int l28_7)]) 51 rfl dX9_moveOther_49 (by decide) rfl ?_
        refine zm_iinc (lv' := fun z => [(7, .int z), (5, .long x49), (0, .ref (E.2.1 + 112)), (1, .int a1), (2, .int a2), (3, .int l2_3), (4, .int l14_4)]) 54 rfl dX9_moveOther_51 zi_1 6 rfl (by decide) (fun _ => rfl) (fun x51 _ => ?_)
        refine zm_goto 28 (by decide) dX9_moveOther_54 ?_
        exact zm_loc [2, 3, 4, 5, 6, 1, 0] rfl (zm_go (hf28_14_2a _) (hD28_14_2 (x49, x51)))
abbrev Y_X9_goOneTrip : zm_Y := (cX9_goOneTrip, 8, RX9, { frames := 1, cells := 0, slots := 0, locals := 27 }, (some .boolean), false)
noncomputable def f_X9_goOneTrip_x142_78 (e142_3 : Int64) (N142 : zm_Mem) : Option (Int32 × zm_Mem) :=
 if (lg_cmp e142_3 0) = 0 then (some (0, N142)) else (some (1, N142))
noncomputable def f_X9_goOneTrip_l78 (a1 : Nat) (a2 : Int32) (l78_3 : Int64) (l78_5 : Int32) (L78 : zm_Mem) : Option ((Int64 × Int32 × zm_Mem) ⊕ (Int64 × zm_Mem)) :=
 if a2 ≤ l78_5 then (some (.inr (l78_3, L78))) else (zm_ck (zm_in l78_5 625) <| zm_ck (zm_in l78_5 (zm_sh a1).2) <| zm_ck (zm_in l78_5 625) <| zm_v (((L78.2.1 114 l78_5.toNatClampNeg) &&& (L78.2.1 a1 l78_5.toNatClampNeg)) &&& ((L78.2.1 115 l78_5.toNatClampNeg) ^^^ (-1))) <| fun x108 => zm_ck (zm_in l78_5 625) <| zm_v (zm_sL L78 113 l78_5.toNatClampNeg x108) <| fun M118 => zm_ck (zm_in l78_5 625) <| zm_ck (zm_in l78_5 625) <| zm_v (zm_sL M118 115 l78_5.toNatClampNeg ((M118.2.1 115 l78_5.toNatClampNeg) ||| x108)) <| fun M130 => zm_v (l78_3 ||| x108) <| fun x135 => zm_v (l78_5 + 1) <| fun x136 => some (.inl (x135, x136, M130)))
noncomputable def f_X9_goOneTrip_x73_55 (a1 : Nat) (a2 : Int32) (N73 : zm_Mem) : Option (Int32 × zm_Mem) :=
 (zm_lp (fun s => f_X9_goOneTrip_l78 a1 a2 s.1 s.2.1 s.2.2) (0, 0, N73)).bind (fun e142 => f_X9_goOneTrip_x142_78 e142.1 e142.2)
noncomputable def f_X9_goOneTrip_l55 (a2 : Int32) (l55_3 : Int32) (L55 : zm_Mem) : Option ((Int32 × zm_Mem) ⊕ zm_Mem) :=
 if a2 ≤ l55_3 then (some (.inr L55)) else (zm_b2 (f_X9_moveOther l55_3 a2 L55) <| fun _ M63 => zm_v (l55_3 * 5) <| fun x69 => some (.inl (x69, M63)))
noncomputable def f_X9_goOneTrip_x53_2 (a1 : Nat) (a2 : Int32) (N53 : zm_Mem) : Option (Int32 × zm_Mem) :=
 (zm_lp (fun s => f_X9_goOneTrip_l55 a2 s.1 s.2) (1, N53)).bind (fun e73 => f_X9_goOneTrip_x73_55 a1 a2 e73)
noncomputable def f_X9_goOneTrip_b46_2 (l2_3 : Int32) (L2 : zm_Mem) (b46_s1 : Int32) (b46_s2 : Int64) : Option ((Int32 × zm_Mem) ⊕ zm_Mem) :=
 zm_ck (zm_in b46_s1 625) <| zm_v (zm_sL L2 114 b46_s1.toNatClampNeg b46_s2) <| fun M46 => zm_v (l2_3 + 1) <| fun x47 => some (.inl (x47, M46))
noncomputable def f_X9_goOneTrip_l2 (a2 : Int32) (l2_3 : Int32) (L2 : zm_Mem) : Option ((Int32 × zm_Mem) ⊕ zm_Mem) :=
 if a2 ≤ l2_3 then (some (.inr L2)) else (zm_ck (zm_in l2_3 625) <| if (lg_cmp (L2.2.1 113 l2_3.toNatClampNeg) 0) = 0 then (f_X9_goOneTrip_b46_2 l2_3 L2 l2_3 0) else (zm_ck (zm_in l2_3 625) <| zm_b1 (f_X9_moveFirst (L2.2.1 113 l2_3.toNatClampNeg) L2) <| fun r33 => zm_ck (zm_in l2_3 625) <| zm_b1 (f_X9_moveSecond (L2.2.1 113 l2_3.toNatClampNeg) L2) <| fun r42 => f_X9_goOneTrip_b46_2 l2_3 L2 l2_3 (r33 ||| r42)))
noncomputable def f_X9_goOneTrip (a1 : Nat) (a2 : Int32) (M : zm_Mem) : Option (Int32 × zm_Mem) :=
  (zm_lp (fun s => f_X9_goOneTrip_l2 a2 s.1 s.2) (0, M)).bind (fun e53 => f_X9_goOneTrip_x53_2 a1 a2 e53)
set_option maxRecDepth 20000 in
set_option maxHeartbeats 4000000 in
theorem k_X9_goOneTrip (E : zm_E) (a1 : Nat) (a2 : Int32) (ha1 : zm_sh a1 = (2, (zm_sh a1).2) ∧ (0 < a1 ∧ a1 ≤ zm_n 1)) (M : zm_Mem) {r : Int32} {M' : zm_Mem} (h : f_X9_goOneTrip a1 a2 M = some (r, M')) : zm_Ct E 1 1 yX9_goOneTrip Y_X9_goOneTrip [.ref (E.2.1 + 112), .ref (E.2.1 + a1), .int a2] M (some (.int r)) M' := by
  refine zm_meth (emb := zm_ei) (d := f_X9_goOneTrip a1 a2 M) (by decide) rfl (Nat.le_of_ble_eq_true rfl) h (fun X => ?_)
  show zm_V X Y_X9_goOneTrip E (zm_Q X E Y_X9_goOneTrip.2.2.2.1.cells Y_X9_goOneTrip.2.2.2.1.slots 1 zm_ei) 0 0 1 0 [(0, .ref (E.2.1 + 112)), (1, .ref (E.2.1 + a1)), (2, .int a2)] [] M (f_X9_goOneTrip a1 a2 M) some
  unfold f_X9_goOneTrip
  refine zm_iconst 1 rfl dX9_goOneTrip_0 zi_0 ?_
  refine zm_istore_n (lv' := [(3, .int 0), (0, .ref (E.2.1 + 112)), (1, .ref (E.2.1 + a1)), (2, .int a2)]) 2 rfl dX9_goOneTrip_1 rfl (by decide) rfl ?_
  have hx53_2 : ∀ (N53 : zm_Mem), zm_V X Y_X9_goOneTrip E (zm_Q X E Y_X9_goOneTrip.2.2.2.1.cells Y_X9_goOneTrip.2.2.2.1.slots 1 zm_ei) 0 0 1 53 [(0, .ref (E.2.1 + 112)), (1, .ref (E.2.1 + a1)), (2, .int a2)] [] N53 (f_X9_goOneTrip_x53_2 a1 a2 N53) some := by
    intro N53
    unfold f_X9_goOneTrip_x53_2
    refine zm_iconst 54 rfl dX9_goOneTrip_53 zi_1 ?_
    refine zm_istore_n (lv' := [(3, .int 1), (0, .ref (E.2.1 + 112)), (1, .ref (E.2.1 + a1)), (2, .int a2)]) 55 rfl dX9_goOneTrip_54 rfl (by decide) rfl ?_
    have hx73_55 : ∀ (N73 : zm_Mem), zm_V X Y_X9_goOneTrip E (zm_Q X E Y_X9_goOneTrip.2.2.2.1.cells Y_X9_goOneTrip.2.2.2.1.slots 1 zm_ei) 0 0 1 73 [(0, .ref (E.2.1 + 112)), (1, .ref (E.2.1 + a1)), (2, .int a2)] [] N73 (f_X9_goOneTrip_x73_55 a1 a2 N73) some := by
      intro N73
      unfold f_X9_goOneTrip_x73_55
      refine zm_lconst 74 rfl dX9_goOneTrip_73 rfl ?_
      refine zm_lstore_n (lv' := [(3, .long 0), (0, .ref (E.2.1 + 112)), (1, .ref (E.2.1 + a1)), (2, .int a2)]) 75 rfl dX9_goOneTrip_74 rfl (by decide) rfl ?_
      refine zm_iconst 76 rfl dX9_goOneTrip_75 zi_0 ?_
      refine zm_istore (lv' := [(5, .int 0), (3, .long 0), (0, .ref (E.2.1 + 112)), (1, .ref (E.2.1 + a1)), (2, .int a2)]) 78 rfl dX9_goOneTrip_76 (by decide) rfl ?_
      have hx142_78 : ∀ (e142_3 : Int64) (N142 : zm_Mem), zm_V X Y_X9_goOneTrip E (zm_Q X E Y_X9_goOneTrip.2.2.2.1.cells Y_X9_goOneTrip.2.2.2.1.slots 1 zm_ei) 0 0 1 142 [(3, .long e142_3)] [] N142 (f_X9_goOneTrip_x142_78 e142_3 N142) some := by
        intro e142_3 N142
        unfold f_X9_goOneTrip_x142_78
        refine zm_lload_n 143 rfl dX9_goOneTrip_142 rfl 0 rfl ?_
        refine zm_lconst 144 rfl dX9_goOneTrip_143 rfl ?_
        refine zm_lcmp 145 rfl dX9_goOneTrip_144 ?_
        refine zm_if_eq 152 148 (by decide) rfl dX9_goOneTrip_145 ?_ ?_
        · refine zm_iconst 153 rfl dX9_goOneTrip_152 zi_0 ?_
          exact zm_zret dX9_goOneTrip_153 rfl rfl (Nat.le_refl _) (Nat.le_refl _) rfl
        · refine zm_iconst 149 rfl dX9_goOneTrip_148 zi_1 ?_
          refine zm_goto 153 (by decide) dX9_goOneTrip_149 ?_
          exact zm_zret dX9_goOneTrip_153 rfl rfl (Nat.le_refl _) (Nat.le_refl _) rfl
      refine zm_loc [2, 3, 4, 1, 0] rfl (zm_lpp (σ := (Int64 × Int32 × zm_Mem)) (ε := (Int64 × zm_Mem)) (step := fun s => f_X9_goOneTrip_l78 a1 a2 s.1 s.2.1 s.2.2) (fun s => [(0, .ref (E.2.1 + 112)), (1, .ref (E.2.1 + a1)), (2, .int a2), (3, .long s.1), (5, .int s.2.1)]) (fun s => s.2.2) (fun D78 f78 hf78a hf78b hD78 s => ?_) (0, 0, N73))
      obtain ⟨l78_3, l78_5, L78⟩ := s
      show zm_V X Y_X9_goOneTrip E (zm_Q X E Y_X9_goOneTrip.2.2.2.1.cells Y_X9_goOneTrip.2.2.2.1.slots 1 zm_ei) 0 0 1 78 [(0, .ref (E.2.1 + 112)), (1, .ref (E.2.1 + a1)), (2, .int a2), (3, .long l78_3), (5, .int l78_5)] [] L78 (f_X9_goOneTrip_l78 a1 a2 l78_3 l78_5 L78) f78
      unfold f_X9_goOneTrip_l78
      refine zm_iload 80 rfl dX9_goOneTrip_78 4 rfl ?_
      refine zm_iload_n 81 rfl dX9_goOneTrip_80 rfl 2 rfl ?_
      refine zm_icmp_ge 142 84 (by decide) rfl dX9_goOneTrip_81 ?_ ?_
      · exact zm_loc [3] rfl (zm_go (hf78b _) (zm_unb (hx142_78 l78_3 L78)))
      · refine zm_aload_n 85 rfl dX9_goOneTrip_84 rfl 0 rfl ?_
        refine zm_getR 88 rfl dX9_goOneTrip_85 fl_X9_17 rfl (zm_L1 rfl) rfl ?_
        refine zm_iload 90 rfl dX9_goOneTrip_88 4 rfl ?_
        refine zm_lald 91 rfl dX9_goOneTrip_90 rfl (zm_L1 rfl) ?_
        refine zm_aload_n 92 rfl dX9_goOneTrip_91 rfl 1 rfl ?_
        refine zm_iload 94 rfl dX9_goOneTrip_92 4 rfl ?_
        refine zm_lald 95 rfl dX9_goOneTrip_94 ha1.1 ha1.2 ?_
        refine zm_land 96 rfl dX9_goOneTrip_95 ?_
        refine zm_aload_n 97 rfl dX9_goOneTrip_96 rfl 0 rfl ?_
        refine zm_getR 100 rfl dX9_goOneTrip_97 fl_X9_20 rfl (zm_L1 rfl) rfl ?_
        refine zm_iload 102 rfl dX9_goOneTrip_100 4 rfl ?_
        refine zm_lald 103 rfl dX9_goOneTrip_102 rfl (zm_L1 rfl) ?_
        refine zm_ldc2 106 rfl dX9_goOneTrip_103 kc_X9_45 ?_
        refine zm_lxor 107 rfl dX9_goOneTrip_106 ?_
        refine zm_land 108 rfl dX9_goOneTrip_107 ?_
        refine zm_nml (fun x108 _ => ?_)
        refine zm_lstore (lv' := [(6, .long x108), (0, .ref (E.2.1 + 112)), (1, .ref (E.2.1 + a1)), (2, .int a2), (3, .long l78_3), (5, .int l78_5)]) 110 rfl dX9_goOneTrip_108 (by decide) rfl ?_
        refine zm_aload_n 111 rfl dX9_goOneTrip_110 rfl 1 rfl ?_
        refine zm_getR 114 rfl dX9_goOneTrip_111 fl_X9_11 rfl (zm_L1 rfl) rfl ?_
        refine zm_iload 116 rfl dX9_goOneTrip_114 5 rfl ?_
        refine zm_lload 118 rfl dX9_goOneTrip_116 0 rfl ?_
        refine zm_last 119 rfl dX9_goOneTrip_118 rfl (zm_L1 rfl) (fun M118 _ => ?_)
        refine zm_aload_n 120 rfl dX9_goOneTrip_119 rfl 1 rfl ?_
        refine zm_getR 123 rfl dX9_goOneTrip_120 fl_X9_20 rfl (zm_L1 rfl) rfl ?_
        refine zm_iload 125 rfl dX9_goOneTrip_123 5 rfl ?_
        refine zm_dup2 126 rfl dX9_goOneTrip_125 rfl rfl ?_
        refine zm_lald 127 rfl dX9_goOneTrip_126 rfl (zm_L1 rfl) ?_
        refine zm_lload 129 rfl dX9_goOneTrip_127 0 rfl ?_
        refine zm_lor 130 rfl dX9_goOneTrip_129 ?_
        refine zm_last 131 rfl dX9_goOneTrip_130 rfl (zm_L1 rfl) (fun M130 _ => ?_)
        refine zm_lload_n 132 rfl dX9_goOneTrip_131 rfl 4 rfl ?_
        refine zm_lload 134 rfl dX9_goOneTrip_132 0 rfl ?_
        refine zm_lor 135 rfl dX9_goOneTrip_134 ?_
        refine zm_nml (fun x135 _ => ?_)
        refine zm_lstore_n (lv' := [(3, .long x135), (6, .long x108), (0, .ref (E.2.1 + 112)), (1, .ref (E.2.1 + a1)), (2, .int a2), (5, .int l78_5)]) 136 rfl dX9_goOneTrip_135 rfl (by decide) rfl ?_
        refine zm_iinc (lv' := fun z => [(5, .int z), (3, .long x135), (6, .long x108), (0, .ref (E.2.1 + 112)), (1, .ref (E.2.1 + a1)), (2, .int a2)]) 139 rfl dX9_goOneTrip_136 zi_1 5 rfl (by decide) (fun _ => rfl) (fun x136 _ => ?_)
        refine zm_goto 78 (by decide) dX9_goOneTrip_139 ?_
        exact zm_loc [3, 4, 5, 1, 0] rfl (zm_go (hf78a _) (hD78 (x135, x136, M130)))
    refine zm_loc [1, 2, 3, 0] rfl (zm_lpp (σ := (Int32 × zm_Mem)) (ε := zm_Mem) (step := fun s => f_X9_goOneTrip_l55 a2 s.1 s.2) (fun s => [(0, .ref (E.2.1 + 112)), (1, .ref (E.2.1 + a1)), (2, .int a2), (3, .int s.1)]) (fun s => s.2) (fun D55 f55 hf55a hf55b hD55 s => ?_) (1, N53))
    obtain ⟨l55_3, L55⟩ := s
    show zm_V X Y_X9_goOneTrip E (zm_Q X E Y_X9_goOneTrip.2.2.2.1.cells Y_X9_goOneTrip.2.2.2.1.slots 1 zm_ei) 0 0 1 55 [(0, .ref (E.2.1 + 112)), (1, .ref (E.2.1 + a1)), (2, .int a2), (3, .int l55_3)] [] L55 (f_X9_goOneTrip_l55 a2 l55_3 L55) f55
    unfold f_X9_goOneTrip_l55
    refine zm_iload_n 56 rfl dX9_goOneTrip_55 rfl 3 rfl ?_
    refine zm_iload_n 57 rfl dX9_goOneTrip_56 rfl 2 rfl ?_
    refine zm_icmp_ge 73 60 (by decide) rfl dX9_goOneTrip_57 ?_ ?_
    · exact zm_loc [0, 1, 2] rfl (zm_go (hf55b _) (zm_unb (hx73_55 L55)))
    · refine zm_aload_n 61 rfl dX9_goOneTrip_60 rfl 0 rfl ?_
      refine zm_iload_n 62 rfl dX9_goOneTrip_61 rfl 3 rfl ?_
      refine zm_iload_n 63 rfl dX9_goOneTrip_62 rfl 2 rfl ?_
      refine zm_cV2v 66 rfl dX9_goOneTrip_63 ml_X9_41 rfl (zm_L1 rfl) rfl (Nat.le_of_ble_eq_true rfl) ⟨Nat.le_of_ble_eq_true rfl, Nat.le_of_ble_eq_true rfl⟩ rfl rfl ⟨Nat.le_refl _, Nat.le_refl _⟩ rfl (fun _ _ h => k_X9_moveOther E l55_3 a2 L55 h) (fun _ M63 => ?_)
      refine zm_iload_n 67 rfl dX9_goOneTrip_66 rfl 3 rfl ?_
      refine zm_iconst 68 rfl dX9_goOneTrip_67 zi_5 ?_
      refine zm_imul 69 rfl dX9_goOneTrip_68 ?_
      refine zm_nmi (fun x69 _ => ?_)
      refine zm_istore_n (lv' := [(3, .int x69), (0, .ref (E.2.1 + 112)), (1, .ref (E.2.1 + a1)), (2, .int a2)]) 70 rfl dX9_goOneTrip_69 rfl (by decide) rfl ?_
      refine zm_goto 55 (by decide) dX9_goOneTrip_70 ?_
      exact zm_loc [1, 2, 3, 0] rfl (zm_go (hf55a _) (hD55 (x69, M63)))
  refine zm_loc [1, 2, 3, 0] rfl (zm_lpp (σ := (Int32 × zm_Mem)) (ε := zm_Mem) (step := fun s => f_X9_goOneTrip_l2 a2 s.1 s.2) (fun s => [(0, .ref (E.2.1 + 112)), (1, .ref (E.2.1 + a1)), (2, .int a2), (3, .int s.1)]) (fun s => s.2) (fun D2 f2 hf2a hf2b hD2 s => ?_) (0, M))
  obtain ⟨l2_3, L2⟩ := s
  show zm_V X Y_X9_goOneTrip E (zm_Q X E Y_X9_goOneTrip.2.2.2.1.cells Y_X9_goOneTrip.2.2.2.1.slots 1 zm_ei) 0 0 1 2 [(0, .ref (E.2.1 + 112)), (1, .ref (E.2.1 + a1)), (2, .int a2), (3, .int l2_3)] [] L2 (f_X9_goOneTrip_l2 a2 l2_3 L2) f2
  unfold f_X9_goOneTrip_l2
  refine zm_iload_n 3 rfl dX9_goOneTrip_2 rfl 3 rfl ?_
  refine zm_iload_n 4 rfl dX9_goOneTrip_3 rfl 2 rfl ?_
  refine zm_icmp_ge 53 7 (by decide) rfl dX9_goOneTrip_4 ?_ ?_
  · exact zm_loc [0, 1, 2] rfl (zm_go (hf2b _) (zm_unb (hx53_2 L2)))
  · refine zm_aload_n 8 rfl dX9_goOneTrip_7 rfl 0 rfl ?_
    refine zm_getR 11 rfl dX9_goOneTrip_8 fl_X9_17 rfl (zm_L1 rfl) rfl ?_
    refine zm_iload_n 12 rfl dX9_goOneTrip_11 rfl 3 rfl ?_
    refine zm_aload_n 13 rfl dX9_goOneTrip_12 rfl 0 rfl ?_
    refine zm_getR 16 rfl dX9_goOneTrip_13 fl_X9_11 rfl (zm_L1 rfl) rfl ?_
    refine zm_iload_n 17 rfl dX9_goOneTrip_16 rfl 3 rfl ?_
    refine zm_lald 18 rfl dX9_goOneTrip_17 rfl (zm_L1 rfl) ?_
    refine zm_lconst 19 rfl dX9_goOneTrip_18 rfl ?_
    refine zm_lcmp 20 rfl dX9_goOneTrip_19 ?_
    have hb46_2 : ∀ (b46_s1 : Int32) (b46_s2 : Int64), zm_V X Y_X9_goOneTrip E (zm_Q X E Y_X9_goOneTrip.2.2.2.1.cells Y_X9_goOneTrip.2.2.2.1.slots 1 zm_ei) 0 0 1 46 [(0, .ref (E.2.1 + 112)), (1, .ref (E.2.1 + a1)), (2, .int a2), (3, .int l2_3)] [.long b46_s2, .int b46_s1, .ref (E.2.1 + 114)] L2 (f_X9_goOneTrip_b46_2 l2_3 L2 b46_s1 b46_s2) f2 := by
      intro b46_s1 b46_s2
      unfold f_X9_goOneTrip_b46_2
      refine zm_last 47 rfl dX9_goOneTrip_46 rfl (zm_L1 rfl) (fun M46 _ => ?_)
      refine zm_iinc (lv' := fun z => [(3, .int z), (0, .ref (E.2.1 + 112)), (1, .ref (E.2.1 + a1)), (2, .int a2)]) 50 rfl dX9_goOneTrip_47 zi_1 3 rfl (by decide) (fun _ => rfl) (fun x47 _ => ?_)
      refine zm_goto 2 (by decide) dX9_goOneTrip_50 ?_
      exact zm_loc [1, 2, 3, 0] rfl (zm_go (hf2a _) (hD2 (x47, M46)))
    refine zm_if_ne 27 23 (by decide) rfl dX9_goOneTrip_20 ?_ ?_
    · refine zm_lconst 24 rfl dX9_goOneTrip_23 rfl ?_
      refine zm_goto 46 (by decide) dX9_goOneTrip_24 ?_
      exact zm_loc [0, 1, 2, 3] rfl (hb46_2 l2_3 0)
    · refine zm_aload_n 28 rfl dX9_goOneTrip_27 rfl 0 rfl ?_
      refine zm_getR 31 rfl dX9_goOneTrip_28 fl_X9_11 rfl (zm_L1 rfl) rfl ?_
      refine zm_iload_n 32 rfl dX9_goOneTrip_31 rfl 3 rfl ?_
      refine zm_lald 33 rfl dX9_goOneTrip_32 rfl (zm_L1 rfl) ?_
      refine zm_cS1lr 36 rfl dX9_goOneTrip_33 ml_X9_34 (Nat.le_of_ble_eq_true rfl) ⟨Nat.le_of_ble_eq_true rfl, Nat.le_of_ble_eq_true rfl⟩ rfl rfl ⟨Nat.le_refl _, Nat.le_refl _⟩ rfl (fun _ h => k_X9_moveFirst E (L2.2.1 113 l2_3.toNatClampNeg) L2 h) (fun r33 => ?_)
      refine zm_aload_n 37 rfl dX9_goOneTrip_36 rfl 0 rfl ?_
      refine zm_getR 40 rfl dX9_goOneTrip_37 fl_X9_11 rfl (zm_L1 rfl) rfl ?_
      refine zm_iload_n 41 rfl dX9_goOneTrip_40 rfl 3 rfl ?_
      refine zm_lald 42 rfl dX9_goOneTrip_41 rfl (zm_L1 rfl) ?_
      refine zm_cS1lr 45 rfl dX9_goOneTrip_42 ml_X9_38 (Nat.le_of_ble_eq_true rfl) ⟨Nat.le_of_ble_eq_true rfl, Nat.le_of_ble_eq_true rfl⟩ rfl rfl ⟨Nat.le_refl _, Nat.le_refl _⟩ rfl (fun _ h => k_X9_moveSecond E (L2.2.1 113 l2_3.toNatClampNeg) L2 h) (fun r42 => ?_)
      refine zm_lor 46 rfl dX9_goOneTrip_45 ?_
      exact zm_loc [0, 1, 2, 3] rfl (hb46_2 l2_3 (r33 ||| r42))
abbrev Y_X9_fewestTrips : zm_Y := (cX9_fewestTrips, 10, RX9, { frames := 2, cells := 0, slots := 0, locals := 54 }, (some .int), false)
noncomputable def f_X9_fewestTrips_l154 (a1 : Nat) (a3 : Int32) (x17 : Int32) (b151_8 : Int32) (l154_9 : Int32) (L154 : zm_Mem) : Option ((Int32 × zm_Mem) ⊕ (zm_Mem ⊕ (Int32 × zm_Mem) ⊕ zm_Mem)) :=
 if (40000 : Int32) < l154_9 then (some (.inr (.inr (.inr L154)))) else (zm_b2 (f_X9_goOneTrip a1 b151_8 L154) <| fun r165 M165 => if r165 = 0 then (some (.inr (.inl M165))) else (zm_ck (zm_in x17 625) <| if (lg_cmp (((M165.2.1 113 x17.toNatClampNeg) >>> ((a3 &&& 63).toInt64 &&& 63)) &&& 1) 1) = 0 then (some (.inr (.inr (.inl (l154_9, M165))))) else (zm_v (l154_9 + 1) <| fun x196 => some (.inl (x196, M165)))))
noncomputable def f_X9_fewestTrips_b151 (a1 : Nat) (a3 : Int32) (x17 : Int32) (M118 : zm_Mem) (b151_8 : Int32) : Option (Int32 × zm_Mem) :=
 (zm_lp (fun s => f_X9_fewestTrips_l154 a1 a3 x17 b151_8 s.1 s.2) (1, M118)).bind (Sum.elim (fun e171 => some ((-2), e171)) (Sum.elim (fun e193 => some (e193.1, e193.2)) (fun e202 => some ((-2), e202))))
noncomputable def f_X9_fewestTrips_l125 (a4 : Int32) (l125_8 : Int32) (l125_9 : Int32) : Option ((Int32 × Int32) ⊕ Int32) :=
 if a4 ≤ l125_9 then (some (.inr l125_8)) else (if (6 : Int32) ≤ l125_9 then (some (.inr l125_8)) else (zm_v (l125_8 * 5) <| fun x143 => zm_v (l125_9 + 1) <| fun x145 => some (.inl (x143, x145))))
noncomputable def f_X9_fewestTrips_b50 (a1 : Nat) (a2 : Int32) (a3 : Int32) (a4 : Int32) (M : zm_Mem) (x11 : Int32) (x17 : Int32) (b50_s0 : Int32) : Option (Int32 × zm_Mem) :=
 if b50_s0 = 0 then (some ((-2), M)) else (zm_ck (zm_in x17 (zm_sh a1).2) <| if (lg_cmp (((M.2.1 a1 x17.toNatClampNeg) >>> ((a3 &&& 63).toInt64 &&& 63)) &&& 1) 0) = 0 then (some ((-2), M)) else (zm_b2 (f_J7_fill_d0a16 113 0 M) <| fun _ M81 => zm_b2 (f_J7_fill_d0a16 115 0 M81) <| fun _ M89 => zm_ck (zm_in x11 625) <| zm_v (zm_sL M89 113 x11.toNatClampNeg (1 <<< ((a2 &&& 63).toInt64 &&& 63))) <| fun M104 => zm_ck (zm_in x11 625) <| zm_ck (zm_in x11 625) <| zm_v (zm_sL M104 115 x11.toNatClampNeg (M104.2.1 113 x11.toNatClampNeg)) <| fun M118 => (zm_lp (fun s => f_X9_fewestTrips_l125 a4 s.1 s.2) (1, 2)).bind (fun e151 => f_X9_fewestTrips_b151 a1 a3 x17 M118 e151)))
noncomputable def f_X9_fewestTrips_b49 (a1 : Nat) (a2 : Int32) (a3 : Int32) (a4 : Int32) (M : zm_Mem) (x11 : Int32) (x17 : Int32) : Option (Int32 × zm_Mem) :=
 f_X9_fewestTrips_b50 a1 a2 a3 a4 M x11 x17 0
noncomputable def f_X9_fewestTrips (a1 : Nat) (a2 : Int32) (a3 : Int32) (a4 : Int32) (M : zm_Mem) : Option (Int32 × zm_Mem) :=
  if a2 = a3 then (some (0, M)) else (zm_v (a2 >>> (6 &&& 31)) <| fun x11 => zm_v (a3 >>> (6 &&& 31)) <| fun x17 => if x11 < 0 then (f_X9_fewestTrips_b49 a1 a2 a3 a4 M x11 x17) else (if (625 : Int32) ≤ x11 then (f_X9_fewestTrips_b49 a1 a2 a3 a4 M x11 x17) else (if x17 < 0 then (f_X9_fewestTrips_b49 a1 a2 a3 a4 M x11 x17) else (if (625 : Int32) ≤ x17 then (f_X9_fewestTrips_b49 a1 a2 a3 a4 M x11 x17) else (f_X9_fewestTrips_b50 a1 a2 a3 a4 M x11 x17 1)))))
set_option maxRecDepth 20000 in
set_option maxHeartbeats 4000000 in
theorem k_X9_fewestTrips (E : zm_E) (a1 : Nat) (a2 : Int32) (a3 : Int32) (a4 : Int32) (ha1 : zm_sh a1 = (2, (zm_sh a1).2) ∧ (0 < a1 ∧ a1 ≤ zm_n 1)) (M : zm_Mem) {r : Int32} {M' : zm_Mem} (h : f_X9_fewestTrips a1 a2 a3 a4 M = some (r, M')) : zm_Ct E 1 1 yX9_fewestTrips Y_X9_fewestTrips [.ref (E.2.1 + 112), .ref (E.2.1 + a1), .int a2, .int a3, .int a4] M (some (.int r)) M' := by
  refine zm_meth (emb := zm_ei) (d := f_X9_fewestTrips a1 a2 a3 a4 M) (by decide) rfl (Nat.le_of_ble_eq_true rfl) h (fun X => ?_)
  show zm_V X Y_X9_fewestTrips E (zm_Q X E Y_X9_fewestTrips.2.2.2.1.cells Y_X9_fewestTrips.2.2.2.1.slots 1 zm_ei) 0 0 1 0 [(0, .ref (E.2.1 + 112)), (1, .ref (E.2.1 + a1)), (2, .int a2), (3, .int a3), (4, .int a4)] [] M (f_X9_fewestTrips a1 a2 a3 a4 M) some
  unfold f_X9_fewestTrips
  refine zm_iload_n 1 rfl dX9_fewestTrips_0 rfl 2 rfl ?_
  refine zm_iload_n 2 rfl dX9_fewestTrips_1 rfl 3 rfl ?_
  refine zm_icmp_ne 7 5 (by decide) rfl dX9_fewestTrips_2 ?_ ?_
  · refine zm_iconst 6 rfl dX9_fewestTrips_5 zi_0 ?_
    exact zm_iret dX9_fewestTrips_6 rfl (Nat.le_refl _) (Nat.le_refl _) rfl
  · refine zm_iload_n 8 rfl dX9_fewestTrips_7 rfl 2 rfl ?_
    refine zm_bipush 10 rfl dX9_fewestTrips_8 zb_6 ?_
    refine zm_ishr 11 rfl dX9_fewestTrips_10 ?_
    refine zm_nmi (fun x11 _ => ?_)
    refine zm_istore (lv' := [(5, .int x11), (0, .ref (E.2.1 + 112)), (1, .ref (E.2.1 + a1)), (2, .int a2), (3, .int a3), (4, .int a4)]) 13 rfl dX9_fewestTrips_11 (by decide) rfl ?_
    refine zm_iload_n 14 rfl dX9_fewestTrips_13 rfl 4 rfl ?_
    refine zm_bipush 16 rfl dX9_fewestTrips_14 zb_6 ?_
    refine zm_ishr 17 rfl dX9_fewestTrips_16 ?_
    refine zm_nmi (fun x17 _ => ?_)
    refine zm_istore (lv' := [(6, .int x17), (5, .int x11), (0, .ref (E.2.1 + 112)), (1, .ref (E.2.1 + a1)), (2, .int a2), (3, .int a3), (4, .int a4)]) 19 rfl dX9_fewestTrips_17 (by decide) rfl ?_
    refine zm_iload 21 rfl dX9_fewestTrips_19 1 rfl ?_
    have hb50 : ∀ (b50_s0 : Int32), zm_V X Y_X9_fewestTrips E (zm_Q X E Y_X9_fewestTrips.2.2.2.1.cells Y_X9_fewestTrips.2.2.2.1.slots 1 zm_ei) 0 0 1 50 [(0, .ref (E.2.1 + 112)), (1, .ref (E.2.1 + a1)), (2, .int a2), (3, .int a3), (4, .int a4), (5, .int x11), (6, .int x17)] [.int b50_s0] M (f_X9_fewestTrips_b50 a1 a2 a3 a4 M x11 x17 b50_s0) some := by
      intro b50_s0
      unfold f_X9_fewestTrips_b50
      refine zm_istore (lv' := [(7, .int b50_s0), (0, .ref (E.2.1 + 112)), (1, .ref (E.2.1 + a1)), (2, .int a2), (3, .int a3), (4, .int a4), (5, .int x11), (6, .int x17)]) 52 rfl dX9_fewestTrips_50 (by decide) rfl ?_
      refine zm_iload 54 rfl dX9_fewestTrips_52 0 rfl ?_
      refine zm_if_eq 73 57 (by decide) rfl dX9_fewestTrips_54 ?_ ?_
      · refine zm_bipush 75 rfl dX9_fewestTrips_73 zb_m2 ?_
        exact zm_iret dX9_fewestTrips_75 rfl (Nat.le_refl _) (Nat.le_refl _) rfl
      · refine zm_aload_n 58 rfl dX9_fewestTrips_57 rfl 2 rfl ?_
        refine zm_iload 60 rfl dX9_fewestTrips_58 7 rfl ?_
        refine zm_lald 61 rfl dX9_fewestTrips_60 ha1.1 ha1.2 ?_
        refine zm_iload_n 62 rfl dX9_fewestTrips_61 rfl 4 rfl ?_
        refine zm_bipush 64 rfl dX9_fewestTrips_62 zb_63 ?_
        refine zm_iand 65 rfl dX9_fewestTrips_64 ?_
        refine zm_lshr 66 rfl dX9_fewestTrips_65 ?_
        refine zm_lconst 67 rfl dX9_fewestTrips_66 rfl ?_
        refine zm_land 68 rfl dX9_fewestTrips_67 ?_
        refine zm_lconst 69 rfl dX9_fewestTrips_68 rfl ?_
        refine zm_lcmp 70 rfl dX9_fewestTrips_69 ?_
        refine zm_if_ne 76 73 (by decide) rfl dX9_fewestTrips_70 ?_ ?_
        · refine zm_bipush 75 rfl dX9_fewestTrips_73 zb_m2 ?_
          exact zm_iret dX9_fewestTrips_75 rfl (Nat.le_refl _) (Nat.le_refl _) rfl
        · refine zm_aload_n 77 rfl dX9_fewestTrips_76 rfl 1 rfl ?_
          refine zm_getR 80 rfl dX9_fewestTrips_77 fl_X9_11 rfl (zm_L1 rfl) rfl ?_
          refine zm_lconst 81 rfl dX9_fewestTrips_80 rfl ?_
          refine zm_cS2v 84 rfl dX9_fewestTrips_81 ml_X9_23 (Nat.le_of_ble_eq_true rfl) ⟨Nat.le_of_ble_eq_true rfl, Nat.le_of_ble_eq_true rfl⟩ rfl rfl ⟨Nat.le_refl _, Nat.le_refl _⟩ rfl (fun _ _ h => k_J7_fill_d0a16 E 1 113 0 ⟨rfl, (zm_L1 rfl)⟩ M h) (fun _ M81 => ?_)
          refine zm_aload_n 85 rfl dX9_fewestTrips_84 rfl 1 rfl ?_
          refine zm_getR 88 rfl dX9_fewestTrips_85 fl_X9_20 rfl (zm_L1 rfl) rfl ?_
          refine zm_lconst 89 rfl dX9_fewestTrips_88 rfl ?_
          refine zm_cS2v 92 rfl dX9_fewestTrips_89 ml_X9_23 (Nat.le_of_ble_eq_true rfl) ⟨Nat.le_of_ble_eq_true rfl, Nat.le_of_ble_eq_true rfl⟩ rfl rfl ⟨Nat.le_refl _, Nat.le_refl _⟩ rfl (fun _ _ h => k_J7_fill_d0a16 E 1 115 0 ⟨rfl, (zm_L1 rfl)⟩ M81 h) (fun _ M89 => ?_)
          refine zm_aload_n 93 rfl dX9_fewestTrips_92 rfl 1 rfl ?_
          refine zm_getR 96 rfl dX9_fewestTrips_93 fl_X9_11 rfl (zm_L1 rfl) rfl ?_
          refine zm_iload 98 rfl dX9_fewestTrips_96 6 rfl ?_
          refine zm_lconst 99 rfl dX9_fewestTrips_98 rfl ?_
          refine zm_iload_n 100 rfl dX9_fewestTrips_99 rfl 3 rfl ?_
          refine zm_bipush 102 rfl dX9_fewestTrips_100 zb_63 ?_
          refine zm_iand 103 rfl dX9_fewestTrips_102 ?_
          refine zm_lshl 104 rfl dX9_fewestTrips_103 ?_
          refine zm_last 105 rfl dX9_fewestTrips_104 rfl (zm_L1 rfl) (fun M104 _ => ?_)
          refine zm_aload_n 106 rfl dX9_fewestTrips_105 rfl 1 rfl ?_
          refine zm_getR 109 rfl dX9_fewestTrips_106 fl_X9_20 rfl (zm_L1 rfl) rfl ?_
          refine zm_iload 111 rfl dX9_fewestTrips_109 6 rfl ?_
          refine zm_aload_n 112 rfl dX9_fewestTrips_111 rfl 1 rfl ?_
          refine zm_getR 115 rfl dX9_fewestTrips_112 fl_X9_11 rfl (zm_L1 rfl) rfl ?_
          refine zm_iload 117 rfl dX9_fewestTrips_115 6 rfl ?_
          refine zm_lald 118 rfl dX9_fewestTrips_117 rfl (zm_L1 rfl) ?_
          refine zm_last 119 rfl dX9_fewestTrips_118 rfl (zm_L1 rfl) (fun M118 _ => ?_)
          refine zm_iconst 120 rfl dX9_fewestTrips_119 zi_1 ?_
          refine zm_istore (lv' := [(8, .int 1), (7, .int b50_s0), (0, .ref (E.2.1 + 112)), (1, .ref (E.2.1 + a1)), (2, .int a2), (3, .int a3), (4, .int a4), (5, .int x11), (6, .int x17)]) 122 rfl dX9_fewestTrips_120 (by decide) rfl ?_
          refine zm_iconst 123 rfl dX9_fewestTrips_122 zi_2 ?_
          refine zm_istore (lv' := [(9, .int 2), (8, .int 1), (7, .int b50_s0), (0, .ref (E.2.1 + 112)), (1, .ref (E.2.1 + a1)), (2, .int a2), (3, .int a3), (4, .int a4), (5, .int x11), (6, .int x17)]) 125 rfl dX9_fewestTrips_123 (by decide) rfl ?_
          have hb151 : ∀ (b151_8 : Int32), zm_V X Y_X9_fewestTrips E (zm_Q X E Y_X9_fewestTrips.2.2.2.1.cells Y_X9_fewestTrips.2.2.2.1.slots 1 zm_ei) 0 0 1 151 [(0, .ref (E.2.1 + 112)), (1, .ref (E.2.1 + a1)), (3, .int a3), (6, .int x17), (8, .int b151_8)] [] M118 (f_X9_fewestTrips_b151 a1 a3 x17 M118 b151_8) some := by
            intro b151_8
            unfold f_X9_fewestTrips_b151
            refine zm_iconst 152 rfl dX9_fewestTrips_151 zi_1 ?_
            refine zm_istore (lv' := [(9, .int 1), (0, .ref (E.2.1 + 112)), (1, .ref (E.2.1 + a1)), (3, .int a3), (6, .int x17), (8, .int b151_8)]) 154 rfl dX9_fewestTrips_152 (by decide) rfl ?_
            have hx171_154 : ∀ (N171 : zm_Mem), zm_V X Y_X9_fewestTrips E (zm_Q X E Y_X9_fewestTrips.2.2.2.1.cells Y_X9_fewestTrips.2.2.2.1.slots 1 zm_ei) 0 0 1 171 [] [] N171 (some ((-2), N171)) some := by
              intro N171
              refine zm_bipush 173 rfl dX9_fewestTrips_171 zb_m2 ?_
              exact zm_iret dX9_fewestTrips_173 rfl (Nat.le_refl _) (Nat.le_refl _) rfl
            have hx193_154 : ∀ (e193_9 : Int32) (N193 : zm_Mem), zm_V X Y_X9_fewestTrips E (zm_Q X E Y_X9_fewestTrips.2.2.2.1.cells Y_X9_fewestTrips.2.2.2.1.slots 1 zm_ei) 0 0 1 193 [(9, .int e193_9)] [] N193 (some (e193_9, N193)) some := by
              intro e193_9 N193
              refine zm_iload 195 rfl dX9_fewestTrips_193 0 rfl ?_
              exact zm_iret dX9_fewestTrips_195 rfl (Nat.le_refl _) (Nat.le_refl _) rfl
            have hx202_154 : ∀ (N202 : zm_Mem), zm_V X Y_X9_fewestTrips E (zm_Q X E Y_X9_fewestTrips.2.2.2.1.cells Y_X9_fewestTrips.2.2.2.1.slots 1 zm_ei) 0 0 1 202 [] [] N202 (some ((-2), N202)) some := by
              intro N202
              refine zm_bipush 204 rfl dX9_fewestTrips_202 zb_m2 ?_
              exact zm_iret dX9_fewestTrips_204 rfl (Nat.le_refl _) (Nat.le_refl _) rfl
            refine zm_loc [1, 2, 3, 4, 5, 0] rfl (zm_lpp (σ := (Int32 × zm_Mem)) (ε := (zm_Mem ⊕ (Int32 × zm_Mem) ⊕ zm_Mem)) (step := fun s => f_X9_fewestTrips_l154 a1 a3 x17 b151_8 s.1 s.2) (fun s => [(0, .ref (E.2.1 + 112)), (1, .ref (E.2.1 + a1)), (3, .int a3), (6, .int x17), (8, .int b151_8), (9, .int s.1)]) (fun s => s.2) (fun D154 f154 hf154a hf154b hD154 s => ?_) (1, M118))
            obtain ⟨l154_9, L154⟩ := s
            show zm_V X Y_X9_fewestTrips E (zm_Q X E Y_X9_fewestTrips.2.2.2.1.cells Y_X9_fewestTrips.2.2.2.1.slots 1 zm_ei) 0 0 1 154 [(0, .ref (E.2.1 + 112)), (1, .ref (E.2.1 + a1)), (3, .int a3), (6, .int x17), (8, .int b151_8), (9, .int l154_9)] [] L154 (f_X9_fewestTrips_l154 a1 a3 x17 b151_8 l154_9 L154) f154
            unfold f_X9_fewestTrips_l154
            refine zm_iload 156 rfl dX9_fewestTrips_154 5 rfl ?_
            refine zm_ldc 158 rfl dX9_fewestTrips_156 kc_X9_29 ?_
            refine zm_icmp_gt 202 161 (by decide) rfl dX9_fewestTrips_158 ?_ ?_
            · exact zm_loc [] rfl (zm_go (hf154b _) (zm_unb (hx202_154 L154)))
            · refine zm_aload_n 162 rfl dX9_fewestTrips_161 rfl 0 rfl ?_
              refine zm_aload_n 163 rfl dX9_fewestTrips_162 rfl 1 rfl ?_
              refine zm_iload 165 rfl dX9_fewestTrips_163 4 rfl ?_
              refine zm_cV2i 168 rfl dX9_fewestTrips_165 ml_X9_30 rfl (zm_L1 rfl) rfl (Nat.le_of_ble_eq_true rfl) ⟨Nat.le_of_ble_eq_true rfl, Nat.le_of_ble_eq_true rfl⟩ rfl rfl ⟨Nat.le_refl _, Nat.le_refl _⟩ rfl (fun _ _ h => k_X9_goOneTrip E a1 b151_8 ⟨ha1.1, ha1.2⟩ L154 h) (fun r165 M165 => ?_)
              refine zm_if_ne 174 171 (by decide) rfl dX9_fewestTrips_168 ?_ ?_
              · exact zm_loc [] rfl (zm_go (hf154b _) (zm_unb (hx171_154 M165)))
              · refine zm_aload_n 175 rfl dX9_fewestTrips_174 rfl 0 rfl ?_
                refine zm_getR 178 rfl dX9_fewestTrips_175 fl_X9_11 rfl (zm_L1 rfl) rfl ?_
                refine zm_iload 180 rfl dX9_fewestTrips_178 3 rfl ?_
                refine zm_lald 181 rfl dX9_fewestTrips_180 rfl (zm_L1 rfl) ?_
                refine zm_iload_n 182 rfl dX9_fewestTrips_181 rfl 2 rfl ?_
                refine zm_bipush 184 rfl dX9_fewestTrips_182 zb_63 ?_
                refine zm_iand 185 rfl dX9_fewestTrips_184 ?_
                refine zm_lshr 186 rfl dX9_fewestTrips_185 ?_
                refine zm_lconst 187 rfl dX9_fewestTrips_186 rfl ?_
                refine zm_land 188 rfl dX9_fewestTrips_187 ?_
                refine zm_lconst 189 rfl dX9_fewestTrips_188 rfl ?_
                refine zm_lcmp 190 rfl dX9_fewestTrips_189 ?_
                refine zm_if_ne 196 193 (by decide) rfl dX9_fewestTrips_190 ?_ ?_
                · exact zm_loc [5] rfl (zm_go (hf154b _) (zm_unb (hx193_154 l154_9 M165)))
                · refine zm_iinc (lv' := fun z => [(9, .int z), (0, .ref (E.2.1 + 112)), (1, .ref (E.2.1 + a1)), (3, .int a3), (6, .int x17), (8, .int b151_8)]) 199 rfl dX9_fewestTrips_196 zi_1 5 rfl (by decide) (fun _ => rfl) (fun x196 _ => ?_)
                  refine zm_goto 154 (by decide) dX9_fewestTrips_199 ?_
                  exact zm_loc [1, 2, 3, 4, 5, 0] rfl (zm_go (hf154a _) (hD154 (x196, M165)))
          have hx151_125 : ∀ (e151_8 : Int32), zm_V X Y_X9_fewestTrips E (zm_Q X E Y_X9_fewestTrips.2.2.2.1.cells Y_X9_fewestTrips.2.2.2.1.slots 1 zm_ei) 0 0 1 151 [(0, .ref (E.2.1 + 112)), (1, .ref (E.2.1 + a1)), (3, .int a3), (6, .int x17), (8, .int e151_8)] [] M118 (f_X9_fewestTrips_b151 a1 a3 x17 M118 e151_8) some := by
            intro e151_8
            exact zm_loc [0, 1, 2, 3, 4] rfl (hb151 e151_8)
          refine zm_loc [3, 4, 6, 7, 9, 1, 0] rfl (zm_lpp (σ := (Int32 × Int32)) (ε := Int32) (step := fun s => f_X9_fewestTrips_l125 a4 s.1 s.2) (fun s => [(0, .ref (E.2.1 + 112)), (1, .ref (E.2.1 + a1)), (3, .int a3), (4, .int a4), (6, .int x17), (8, .int s.1), (9, .int s.2)]) (fun _ => M118) (fun D125 f125 hf125a hf125b hD125 s => ?_) (1, 2))
          obtain ⟨l125_8, l125_9⟩ := s
          show zm_V X Y_X9_fewestTrips E (zm_Q X E Y_X9_fewestTrips.2.2.2.1.cells Y_X9_fewestTrips.2.2.2.1.slots 1 zm_ei) 0 0 1 125 [(0, .ref (E.2.1 + 112)), (1, .ref (E.2.1 + a1)), (3, .int a3), (4, .int a4), (6, .int x17), (8, .int l125_8), (9, .int l125_9)] [] M118 (f_X9_fewestTrips_l125 a4 l125_8 l125_9) f125
          unfold f_X9_fewestTrips_l125
          refine zm_iload 127 rfl dX9_fewestTrips_125 6 rfl ?_
          refine zm_iload 129 rfl dX9_fewestTrips_127 3 rfl ?_
          refine zm_icmp_ge 151 132 (by decide) rfl dX9_fewestTrips_129 ?_ ?_
          · exact zm_loc [0, 1, 2, 4, 5] rfl (zm_go (hf125b _) (zm_unb (hx151_125 l125_8)))
          · refine zm_iload 134 rfl dX9_fewestTrips_132 6 rfl ?_
            refine zm_bipush 136 rfl dX9_fewestTrips_134 zb_6 ?_
            refine zm_icmp_ge 151 139 (by decide) rfl dX9_fewestTrips_136 ?_ ?_
            · exact zm_loc [0, 1, 2, 4, 5] rfl (zm_go (hf125b _) (zm_unb (hx151_125 l125_8)))
            · refine zm_iload 141 rfl dX9_fewestTrips_139 5 rfl ?_
              refine zm_iconst 142 rfl dX9_fewestTrips_141 zi_5 ?_
              refine zm_imul 143 rfl dX9_fewestTrips_142 ?_
              refine zm_nmi (fun x143 _ => ?_)
              refine zm_istore (lv' := [(8, .int x143), (0, .ref (E.2.1 + 112)), (1, .ref (E.2.1 + a1)), (3, .int a3), (4, .int a4), (6, .int x17), (9, .int l125_9)]) 145 rfl dX9_fewestTrips_143 (by decide) rfl ?_
              refine zm_iinc (lv' := fun z => [(9, .int z), (8, .int x143), (0, .ref (E.2.1 + 112)), (1, .ref (E.2.1 + a1)), (3, .int a3), (4, .int a4), (6, .int x17)]) 148 rfl dX9_fewestTrips_145 zi_1 6 rfl (by decide) (fun _ => rfl) (fun x145 _ => ?_)
              refine zm_goto 125 (by decide) dX9_fewestTrips_148 ?_
              exact zm_loc [2, 3, 4, 5, 6, 1, 0] rfl (zm_go (hf125a _) (hD125 (x143, x145)))
    have hb49 : zm_V X Y_X9_fewestTrips E (zm_Q X E Y_X9_fewestTrips.2.2.2.1.cells Y_X9_fewestTrips.2.2.2.1.slots 1 zm_ei) 0 0 1 49 [(0, .ref (E.2.1 + 112)), (1, .ref (E.2.1 + a1)), (2, .int a2), (3, .int a3), (4, .int a4), (5, .int x11), (6, .int x17)] [] M (f_X9_fewestTrips_b49 a1 a2 a3 a4 M x11 x17) some := by
      unfold f_X9_fewestTrips_b49
      refine zm_iconst 50 rfl dX9_fewestTrips_49 zi_0 ?_
      exact zm_loc [0, 1, 2, 3, 4, 5, 6] rfl (hb50 0)
    refine zm_if_lt 49 24 (by decide) rfl dX9_fewestTrips_21 ?_ ?_
    · exact zm_loc [2, 3, 4, 5, 6, 1, 0] rfl (hb49)
    · refine zm_iload 26 rfl dX9_fewestTrips_24 1 rfl ?_
      refine zm_sipush 29 rfl dX9_fewestTrips_26 zs_625 ?_
      refine zm_icmp_ge 49 32 (by decide) rfl dX9_fewestTrips_29 ?_ ?_
      · exact zm_loc [2, 3, 4, 5, 6, 1, 0] rfl (hb49)
      · refine zm_iload 34 rfl dX9_fewestTrips_32 0 rfl ?_
        refine zm_if_lt 49 37 (by decide) rfl dX9_fewestTrips_34 ?_ ?_
        · exact zm_loc [2, 3, 4, 5, 6, 1, 0] rfl (hb49)
        · refine zm_iload 39 rfl dX9_fewestTrips_37 0 rfl ?_
          refine zm_sipush 42 rfl dX9_fewestTrips_39 zs_625 ?_
          refine zm_icmp_ge 49 45 (by decide) rfl dX9_fewestTrips_42 ?_ ?_
          · exact zm_loc [2, 3, 4, 5, 6, 1, 0] rfl (hb49)
          · refine zm_iconst 46 rfl dX9_fewestTrips_45 zi_1 ?_
            refine zm_goto 50 (by decide) dX9_fewestTrips_46 ?_
            exact zm_loc [2, 3, 4, 5, 6, 1, 0] rfl (hb50 1)
