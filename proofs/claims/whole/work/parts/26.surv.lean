abbrev Y_X10_makeSurvey (al : Bool) : zm_Y := (cX10_makeSurvey, 1, RX10, { frames := 13, cells := 13, slots := 4296, locals := 495 }, none, al, "makeSurvey")
noncomputable def f_X10_makeSurvey_b45 (M45 : zm_Mem) : Option (Unit × zm_Mem) :=
 if (M45.1 1 13) = 0 then (zm_b2 (f_X10_lookToday M45) <| fun _ M53 => zm_ck (decide (M53.2.2 1 11 = 103)) <| zm_v (M53.2.2 1 9) <| fun t61 => zm_ck (zm_isT t61) <| zm_b1 (f_X10_standing M53) <| fun r65 => zm_b2 (f_X6_make t61 r65 M53) <| fun _ M68 => zm_v (zm_sI M68 1 13 1) <| fun M73 => some ((), M73)) else (some ((), M45))
noncomputable def f_X10_makeSurvey_c (M : zm_Mem) : Option (Unit × zm_Mem) :=
  zm_v (zm_zero M 103) <| fun M15 => zm_b2 (f_X6_init_103 M15) <| fun _ M23 => zm_v (zm_sP M23 1 11 103) <| fun M26 => zm_v (zm_zero M26 112) <| fun M30 => zm_b2 (f_X9_init_112 M30) <| fun _ M34 => zm_v (zm_sP M34 1 12 112) <| fun M37 => zm_v (zm_sI M37 1 13 0) <| fun M42 => f_X10_makeSurvey_b45 M42
noncomputable def f_X10_makeSurvey (M : zm_Mem) : Option (Unit × zm_Mem) :=
  if M.2.2 1 11 = 0 then f_X10_makeSurvey_c M else (if M.2.2 1 12 = 0 then none else f_X10_makeSurvey_b45 M)
set_option maxRecDepth 20000 in
set_option maxHeartbeats 4000000 in
theorem k_X10_makeSurvey0 (E : zm_E) (M : zm_Mem) (h0 : M.2.2 1 11 = 0) {r : Unit} {M' : zm_Mem} (h : f_X10_makeSurvey M = some (r, M')) : zm_Ct E (zm_w 0) (zm_w 1) yX10_makeSurvey (Y_X10_makeSurvey true) [.ref (E.2.1 + 1)] M none M' := by
  refine zm_meth (emb := zm_ev) (d := f_X10_makeSurvey M) (by decide) rfl rfl (Nat.le_of_ble_eq_true rfl) h (fun X => ?_)
  obtain ⟨al, hal⟩ : ∃ al : Bool, al = true := ⟨_, rfl⟩
  show zm_V X (Y_X10_makeSurvey true) E (zm_Q X E (Y_X10_makeSurvey true).2.2.2.1.cells (Y_X10_makeSurvey true).2.2.2.1.slots (zm_w 1) zm_ev) 0 0 true (zm_w 0) 0 [(0, .ref (E.2.1 + 1))] [] M (f_X10_makeSurvey M) some
  rw [← hal]
  have hb45 : ∀ (M45 : zm_Mem), zm_V X (Y_X10_makeSurvey al) E (zm_Q X E (Y_X10_makeSurvey al).2.2.2.1.cells (Y_X10_makeSurvey al).2.2.2.1.slots (zm_w 1) zm_ev) 13 4296 false (zm_w 1) 45 [(0, .ref (E.2.1 + 1))] [] M45 (f_X10_makeSurvey_b45 M45) some := by
    intro M45
    unfold f_X10_makeSurvey_b45
    refine zm_aload_n 46 rfl dX10_makeSurvey_45 rfl 0 rfl ?_
    refine zm_getI 49 rfl dX10_makeSurvey_46 fl_X10_199 rfl (zm_L (sv := 1) rfl) ?_
    refine zm_if_ne 76 52 (by decide) rfl dX10_makeSurvey_49 ?_ ?_
    · refine zm_aload_n 53 rfl dX10_makeSurvey_52 rfl 0 rfl ?_
      refine zm_cV0v 56 rfl dX10_makeSurvey_53 ml_X10_151 rfl (zm_L (sv := 1) rfl) rfl (Nat.le_of_ble_eq_true rfl) ⟨Nat.le_of_ble_eq_true rfl, Nat.le_of_ble_eq_true rfl⟩ rfl rfl ⟨(Nat.le_of_ble_eq_true rfl), (Nat.le_of_ble_eq_true rfl)⟩ rfl (fun _ _ h => k_X10_lookToday E 1 M45 h) (fun _ M53 => ?_)
      refine zm_aload_n 57 rfl dX10_makeSurvey_56 rfl 0 rfl ?_
      refine zm_getC (a := 103) 60 rfl dX10_makeSurvey_57 fl_X10_213 rfl (zm_L (sv := 1) rfl) (by decide) ?_
      refine zm_aload_n 61 rfl dX10_makeSurvey_60 rfl 0 rfl ?_
      refine zm_getT 64 rfl dX10_makeSurvey_61 fl_X10_60 rfl (zm_L (sv := 1) rfl) (fun t61 _ ht61 => ?_)
      refine zm_aload_n 65 rfl dX10_makeSurvey_64 rfl 0 rfl ?_
      refine zm_cV0ir 68 rfl dX10_makeSurvey_65 ml_X10_148 rfl (zm_L (sv := 1) rfl) rfl (Nat.le_of_ble_eq_true rfl) ⟨Nat.le_of_ble_eq_true rfl, Nat.le_of_ble_eq_true rfl⟩ rfl rfl ⟨(Nat.le_of_ble_eq_true rfl), (Nat.le_of_ble_eq_true rfl)⟩ rfl (fun _ h => k_X10_standing E 1 M53 h) (fun r65 => ?_)
      refine zm_cV2v 71 rfl dX10_makeSurvey_68 ml_X10_339 rfl (zm_L1 rfl) rfl (Nat.le_of_ble_eq_true rfl) ⟨Nat.le_of_ble_eq_true rfl, Nat.le_of_ble_eq_true rfl⟩ rfl rfl ⟨(Nat.le_of_ble_eq_true rfl), (Nat.le_of_ble_eq_true rfl)⟩ rfl (fun _ _ h => k_X6_make E t61 r65 ht61 M53 h) (fun _ M68 => ?_)
      refine zm_aload_n 72 rfl dX10_makeSurvey_71 rfl 0 rfl ?_
      refine zm_iconst 73 rfl dX10_makeSurvey_72 zi_1 ?_
      refine zm_putI 76 rfl dX10_makeSurvey_73 fp_X10_199 rfl (zm_L (sv := 1) rfl) rfl rfl (fun M73 _ => ?_)
      exact zm_vret dX10_makeSurvey_76 rfl (Nat.le_of_ble_eq_true rfl) (Nat.le_of_ble_eq_true rfl) rfl
    · exact zm_vret dX10_makeSurvey_76 rfl (Nat.le_of_ble_eq_true rfl) (Nat.le_of_ble_eq_true rfl) rfl
  refine zm_den (d' := if M.2.2 1 11 = 0 then f_X10_makeSurvey_c M else none) (f' := some) (by unfold f_X10_makeSurvey; rw [if_pos h0, if_pos h0]) ?_
  refine zm_aload_n 1 rfl dX10_makeSurvey_0 rfl 0 rfl ?_
  refine zm_getnu 4 14 7 rfl (by decide) rfl dX10_makeSurvey_1 dX10_makeSurvey_4 fl_X10_213 rfl (zm_L (sv := 0) rfl) ?_ zm_none
  unfold f_X10_makeSurvey_c
  refine zm_stage (w2 := (102, zm_rfB)) rfl (fun id _ h _ _ j _ _ => zm_rfB_eq id j h) zm_fk_le ?_
  rw [hal]
  rw [hal] at hb45
  refine zm_aload_n 15 rfl dX10_makeSurvey_14 rfl 0 rfl ?_
  refine zm_newo (id := 103) (N := 15) 18 1 15 rfl rfl rfl dX10_makeSurvey_15 rfl zm_itX6 tyX6 tyX6_ok cl_X10_218 is_X6 in_X6 rfl rfl rfl (fun j => (zm_rfB_0 _ _ (Nat.le_of_ble_eq_true rfl))) dv_X6 (Nat.le_of_ble_eq_true rfl) (Nat.le_of_ble_eq_true rfl) (fun M15 _ => ?_)
  refine zm_dup 19 rfl dX10_makeSurvey_18 rfl ?_
  refine zm_aload_n 20 rfl dX10_makeSurvey_19 rfl 0 rfl ?_
  refine zm_getR (a := 47) 23 rfl dX10_makeSurvey_20 fl_X10_76 rfl ⟨(Nat.le_of_ble_eq_true rfl), (Nat.le_of_ble_eq_true rfl)⟩ rfl (by decide) ?_
  refine zm_callI (w2 := (111, (zm_ur (zm_ur (zm_ur (zm_ur (zm_ur (zm_ur (zm_ur (zm_ur (zm_ur zm_rfB 103 1 104) 103 2 105) 103 3 106) 103 4 107) 103 5 108) 103 6 109) 103 7 110) 103 8 111) 103 0 47))) 26 9 2418 rfl rfl rfl dX10_makeSurvey_23 [.ref (E.2.1 + 47)] [.ref (E.2.1 + 103), .ref (E.2.1 + 1)] rfl il_X10_335 rfl rfl rfl (Nat.le_of_ble_eq_true rfl) ⟨(Nat.le_of_ble_eq_true rfl), (Nat.le_of_ble_eq_true rfl)⟩ rfl rfl ⟨(Nat.le_of_ble_eq_true rfl), (Nat.le_of_ble_eq_true rfl)⟩ rfl (fun _ h => k_X6_init_103 E zm_rfB (fun id j hj => (zm_rfB_0 id j (by omega))) M15 h) (fun M23 => ?_)
  refine zm_putP 29 rfl dX10_makeSurvey_26 fp_X10_213 rfl ⟨(Nat.le_of_ble_eq_true rfl), (Nat.le_of_ble_eq_true rfl)⟩ (by decide) (fun M26 _ => ?_)
  refine zm_aload_n 30 rfl dX10_makeSurvey_29 rfl 0 rfl ?_
  refine zm_newo (id := 112) (N := 3) 33 10 2421 rfl rfl rfl dX10_makeSurvey_30 rfl zm_itX9 tyX9 tyX9_ok cl_X10_254 is_X9 in_X9 rfl rfl rfl (fun j => ((zm_ur_ne (by decide)).trans ((zm_ur_ne (by decide)).trans ((zm_ur_ne (by decide)).trans ((zm_ur_ne (by decide)).trans ((zm_ur_ne (by decide)).trans ((zm_ur_ne (by decide)).trans ((zm_ur_ne (by decide)).trans ((zm_ur_ne (by decide)).trans ((zm_ur_ne (by decide)).trans (zm_rfB_0 _ _ (Nat.le_of_ble_eq_true rfl)))))))))))) dv_X9 (Nat.le_of_ble_eq_true rfl) (Nat.le_of_ble_eq_true rfl) (fun M30 _ => ?_)
  refine zm_dup 34 rfl dX10_makeSurvey_33 rfl ?_
  refine zm_callN (w2 := (115, (zm_ur (zm_ur (zm_ur (zm_ur (zm_ur (zm_ur (zm_ur (zm_ur (zm_ur (zm_ur (zm_ur (zm_ur zm_rfB 103 1 104) 103 2 105) 103 3 106) 103 4 107) 103 5 108) 103 6 109) 103 7 110) 103 8 111) 103 0 47) 112 0 113) 112 1 114) 112 2 115))) 37 13 4296 rfl rfl rfl dX10_makeSurvey_34 [.ref (E.2.1 + 112), .ref (E.2.1 + 1)] rfl (fun _ hZ => hZ.2.2.2.2.2.2.2.1.2.2.2.2.2) iN_X9_init rfl rfl (Nat.le_of_ble_eq_true rfl) ⟨(Nat.le_of_ble_eq_true rfl), (Nat.le_of_ble_eq_true rfl)⟩ rfl rfl ⟨(Nat.le_of_ble_eq_true rfl), (Nat.le_of_ble_eq_true rfl)⟩ rfl (fun _ h => k_X9_init_112 E (zm_ur (zm_ur (zm_ur (zm_ur (zm_ur (zm_ur (zm_ur (zm_ur (zm_ur zm_rfB 103 1 104) 103 2 105) 103 3 106) 103 4 107) 103 5 108) 103 6 109) 103 7 110) 103 8 111) 103 0 47) (fun id j hj => ((zm_ur_ne (by omega)).trans ((zm_ur_ne (by omega)).trans ((zm_ur_ne (by omega)).trans ((zm_ur_ne (by omega)).trans ((zm_ur_ne (by omega)).trans ((zm_ur_ne (by omega)).trans ((zm_ur_ne (by omega)).trans ((zm_ur_ne (by omega)).trans ((zm_ur_ne (by omega)).trans (zm_rfB_0 id j (by omega)))))))))))) M30 h) (fun M34 => ?_)
  refine zm_putP 40 rfl dX10_makeSurvey_37 fp_X10_242 rfl ⟨(Nat.le_of_ble_eq_true rfl), (Nat.le_of_ble_eq_true rfl)⟩ (by decide) (fun M37 _ => ?_)
  refine zm_aload_n 41 rfl dX10_makeSurvey_40 rfl 0 rfl ?_
  refine zm_iconst 42 rfl dX10_makeSurvey_41 zi_0 ?_
  refine zm_putI 45 rfl dX10_makeSurvey_42 fp_X10_199 rfl ⟨(Nat.le_of_ble_eq_true rfl), (Nat.le_of_ble_eq_true rfl)⟩ rfl rfl (fun M42 _ => ?_)
  refine zm_stage (w2 := zm_w 1) rfl (zm_chk_ok zm_chkB) zm_fk_le ?_
  refine zm_wid (kc' := 13) (ks' := 4296) (Nat.le_of_ble_eq_true rfl) (Nat.le_of_ble_eq_true rfl) ?_
  exact zm_loc [0] rfl (hb45 M42)
set_option maxRecDepth 20000 in
set_option maxHeartbeats 4000000 in
theorem k_X10_makeSurvey1 (E : zm_E) (M : zm_Mem) (h0 : M.2.2 1 11 ≠ 0) {r : Unit} {M' : zm_Mem} (h : f_X10_makeSurvey M = some (r, M')) : zm_Ct E (zm_w 1) (zm_w 1) yX10_makeSurvey (Y_X10_makeSurvey false) [.ref (E.2.1 + 1)] M none M' := by
  refine zm_meth (emb := zm_ev) (d := f_X10_makeSurvey M) (by decide) rfl rfl (Nat.le_of_ble_eq_true rfl) h (fun X => ?_)
  obtain ⟨al, hal⟩ : ∃ al : Bool, al = false := ⟨_, rfl⟩
  show zm_V X (Y_X10_makeSurvey false) E (zm_Q X E (Y_X10_makeSurvey false).2.2.2.1.cells (Y_X10_makeSurvey false).2.2.2.1.slots (zm_w 1) zm_ev) 0 0 false (zm_w 1) 0 [(0, .ref (E.2.1 + 1))] [] M (f_X10_makeSurvey M) some
  rw [← hal]
  have hb45 : ∀ (M45 : zm_Mem), zm_V X (Y_X10_makeSurvey al) E (zm_Q X E (Y_X10_makeSurvey al).2.2.2.1.cells (Y_X10_makeSurvey al).2.2.2.1.slots (zm_w 1) zm_ev) 13 4296 false (zm_w 1) 45 [(0, .ref (E.2.1 + 1))] [] M45 (f_X10_makeSurvey_b45 M45) some := by
    intro M45
    unfold f_X10_makeSurvey_b45
    refine zm_aload_n 46 rfl dX10_makeSurvey_45 rfl 0 rfl ?_
    refine zm_getI 49 rfl dX10_makeSurvey_46 fl_X10_199 rfl (zm_L (sv := 1) rfl) ?_
    refine zm_if_ne 76 52 (by decide) rfl dX10_makeSurvey_49 ?_ ?_
    · refine zm_aload_n 53 rfl dX10_makeSurvey_52 rfl 0 rfl ?_
      refine zm_cV0v 56 rfl dX10_makeSurvey_53 ml_X10_151 rfl (zm_L (sv := 1) rfl) rfl (Nat.le_of_ble_eq_true rfl) ⟨Nat.le_of_ble_eq_true rfl, Nat.le_of_ble_eq_true rfl⟩ rfl rfl ⟨(Nat.le_of_ble_eq_true rfl), (Nat.le_of_ble_eq_true rfl)⟩ rfl (fun _ _ h => k_X10_lookToday E 1 M45 h) (fun _ M53 => ?_)
      refine zm_aload_n 57 rfl dX10_makeSurvey_56 rfl 0 rfl ?_
      refine zm_getC (a := 103) 60 rfl dX10_makeSurvey_57 fl_X10_213 rfl (zm_L (sv := 1) rfl) (by decide) ?_
      refine zm_aload_n 61 rfl dX10_makeSurvey_60 rfl 0 rfl ?_
      refine zm_getT 64 rfl dX10_makeSurvey_61 fl_X10_60 rfl (zm_L (sv := 1) rfl) (fun t61 _ ht61 => ?_)
      refine zm_aload_n 65 rfl dX10_makeSurvey_64 rfl 0 rfl ?_
      refine zm_cV0ir 68 rfl dX10_makeSurvey_65 ml_X10_148 rfl (zm_L (sv := 1) rfl) rfl (Nat.le_of_ble_eq_true rfl) ⟨Nat.le_of_ble_eq_true rfl, Nat.le_of_ble_eq_true rfl⟩ rfl rfl ⟨(Nat.le_of_ble_eq_true rfl), (Nat.le_of_ble_eq_true rfl)⟩ rfl (fun _ h => k_X10_standing E 1 M53 h) (fun r65 => ?_)
      refine zm_cV2v 71 rfl dX10_makeSurvey_68 ml_X10_339 rfl (zm_L1 rfl) rfl (Nat.le_of_ble_eq_true rfl) ⟨Nat.le_of_ble_eq_true rfl, Nat.le_of_ble_eq_true rfl⟩ rfl rfl ⟨(Nat.le_of_ble_eq_true rfl), (Nat.le_of_ble_eq_true rfl)⟩ rfl (fun _ _ h => k_X6_make E t61 r65 ht61 M53 h) (fun _ M68 => ?_)
      refine zm_aload_n 72 rfl dX10_makeSurvey_71 rfl 0 rfl ?_
      refine zm_iconst 73 rfl dX10_makeSurvey_72 zi_1 ?_
      refine zm_putI 76 rfl dX10_makeSurvey_73 fp_X10_199 rfl (zm_L (sv := 1) rfl) rfl rfl (fun M73 _ => ?_)
      exact zm_vret dX10_makeSurvey_76 rfl (Nat.le_of_ble_eq_true rfl) (Nat.le_of_ble_eq_true rfl) rfl
    · exact zm_vret dX10_makeSurvey_76 rfl (Nat.le_of_ble_eq_true rfl) (Nat.le_of_ble_eq_true rfl) rfl
  refine zm_den (d' := if M.2.2 1 11 = 0 then none else (if M.2.2 1 12 = 0 then none else f_X10_makeSurvey_b45 M)) (f' := some) (by unfold f_X10_makeSurvey; rw [if_neg h0, if_neg h0]) ?_
  refine zm_aload_n 1 rfl dX10_makeSurvey_0 rfl 0 rfl ?_
  refine zm_getnu 4 14 7 rfl (by decide) rfl dX10_makeSurvey_1 dX10_makeSurvey_4 fl_X10_213 rfl (zm_L (sv := 1) rfl) zm_none ?_
  refine zm_aload_n 8 rfl dX10_makeSurvey_7 rfl 0 rfl ?_
  refine zm_getnn 11 45 14 rfl (by decide) rfl dX10_makeSurvey_8 dX10_makeSurvey_11 fl_X10_242 rfl (zm_L (sv := 1) rfl) zm_none ?_
  refine zm_wid (kc' := 13) (ks' := 4296) (Nat.le_of_ble_eq_true rfl) (Nat.le_of_ble_eq_true rfl) ?_
  exact hb45 M
abbrev Y_X10_hangings (al : Bool) : zm_Y := (cX10_hangings, 1, RX10, { frames := 14, cells := 13, slots := 4296, locals := 515 }, (some .int), al, "hangings")
noncomputable def f_X10_hangingsP  (M : zm_Mem) : Option (Int32 × zm_Mem) :=
  zm_b2 (f_X10_makeSurvey M) <| fun _ M1 => zm_ck (decide (M1.2.2 1 11 = 103)) <| zm_b1 (f_X6_rowsKept M1) <| fun r8 => some (r8, M1)
set_option maxRecDepth 20000 in
set_option maxHeartbeats 4000000 in
theorem k_X10_hangings0 (E : zm_E) (M : zm_Mem) (h0 : M.2.2 1 11 = 0) {r : Int32} {M' : zm_Mem} (h : f_X10_hangingsP M = some (r, M')) : zm_Ct E (zm_w 0) (zm_w 1) yX10_hangings (Y_X10_hangings true) [.ref (E.2.1 + 1)] M (some (.int r)) M' := by
  refine zm_meth (emb := zm_ei) (d := f_X10_hangingsP M) (by decide) rfl rfl (Nat.le_of_ble_eq_true rfl) h (fun X => ?_)
  show zm_V X (Y_X10_hangings true) E (zm_Q X E (Y_X10_hangings true).2.2.2.1.cells (Y_X10_hangings true).2.2.2.1.slots (zm_w 1) zm_ei) 0 0 true (zm_w 0) 0 [(0, .ref (E.2.1 + 1))] [] M (f_X10_hangingsP M) some
  unfold f_X10_hangingsP
  refine zm_aload_n 1 rfl dX10_hangings_0 rfl 0 rfl ?_
  refine zm_callM (sv := 0) 4 rfl dX10_hangings_1 ml_X10_210 rfl (Nat.le_of_ble_eq_true rfl) ⟨(Nat.le_of_ble_eq_true rfl), (Nat.le_of_ble_eq_true rfl)⟩ rfl rfl ⟨(Nat.le_of_ble_eq_true rfl), (Nat.le_of_ble_eq_true rfl)⟩ (fun a => ⟨rfl, rfl⟩) (fun _ _ h => k_X10_makeSurvey0 E M h0 h) (fun M1 => ?_)
  refine zm_aload_n 5 rfl dX10_hangings_4 rfl 0 rfl ?_
  refine zm_getC (a := 103) 8 rfl dX10_hangings_5 fl_X10_213 rfl (zm_L (sv := 1) rfl) (by decide) ?_
  refine zm_cV0ir 11 rfl dX10_hangings_8 ml_X10_217 rfl (zm_L1 rfl) rfl (Nat.le_of_ble_eq_true rfl) ⟨Nat.le_of_ble_eq_true rfl, Nat.le_of_ble_eq_true rfl⟩ rfl rfl ⟨(Nat.le_of_ble_eq_true rfl), (Nat.le_of_ble_eq_true rfl)⟩ rfl (fun _ h => k_X6_rowsKept E M1 h) (fun r8 => ?_)
  exact zm_iret dX10_hangings_11 rfl (Nat.le_of_ble_eq_true rfl) (Nat.le_of_ble_eq_true rfl) rfl
set_option maxRecDepth 20000 in
set_option maxHeartbeats 4000000 in
theorem k_X10_hangings1 (E : zm_E) (M : zm_Mem) (h0 : M.2.2 1 11 ≠ 0) {r : Int32} {M' : zm_Mem} (h : f_X10_hangingsP M = some (r, M')) : zm_Ct E (zm_w 1) (zm_w 1) yX10_hangings (Y_X10_hangings false) [.ref (E.2.1 + 1)] M (some (.int r)) M' := by
  refine zm_meth (emb := zm_ei) (d := f_X10_hangingsP M) (by decide) rfl rfl (Nat.le_of_ble_eq_true rfl) h (fun X => ?_)
  show zm_V X (Y_X10_hangings false) E (zm_Q X E (Y_X10_hangings false).2.2.2.1.cells (Y_X10_hangings false).2.2.2.1.slots (zm_w 1) zm_ei) 0 0 false (zm_w 1) 0 [(0, .ref (E.2.1 + 1))] [] M (f_X10_hangingsP M) some
  unfold f_X10_hangingsP
  refine zm_aload_n 1 rfl dX10_hangings_0 rfl 0 rfl ?_
  refine zm_callM (sv := 1) 4 rfl dX10_hangings_1 ml_X10_210 rfl (Nat.le_of_ble_eq_true rfl) ⟨(Nat.le_of_ble_eq_true rfl), (Nat.le_of_ble_eq_true rfl)⟩ rfl rfl ⟨(Nat.le_of_ble_eq_true rfl), (Nat.le_of_ble_eq_true rfl)⟩ (fun a => by cases a) (fun _ _ h => k_X10_makeSurvey1 E M h0 h) (fun M1 => ?_)
  refine zm_aload_n 5 rfl dX10_hangings_4 rfl 0 rfl ?_
  refine zm_getC (a := 103) 8 rfl dX10_hangings_5 fl_X10_213 rfl (zm_L (sv := 1) rfl) (by decide) ?_
  refine zm_cV0ir 11 rfl dX10_hangings_8 ml_X10_217 rfl (zm_L1 rfl) rfl (Nat.le_of_ble_eq_true rfl) ⟨Nat.le_of_ble_eq_true rfl, Nat.le_of_ble_eq_true rfl⟩ rfl rfl ⟨(Nat.le_of_ble_eq_true rfl), (Nat.le_of_ble_eq_true rfl)⟩ rfl (fun _ h => k_X6_rowsKept E M1 h) (fun r8 => ?_)
  exact zm_iret dX10_hangings_11 rfl (Nat.le_of_ble_eq_true rfl) (Nat.le_of_ble_eq_true rfl) rfl
abbrev Y_X10_nearest (al : Bool) : zm_Y := (cX10_nearest, 2, RX10, { frames := 14, cells := 13, slots := 4296, locals := 515 }, (some .int), al, "nearest")
noncomputable def f_X10_nearestP_b15 (a1 : Int32) (M : zm_Mem) : Option (Int32 × zm_Mem) :=
 zm_b2 (f_X10_makeSurvey M) <| fun _ M16 => zm_ck (decide (M16.2.2 1 11 = 103)) <| zm_b1 (f_X6_rowsKept M16) <| fun r23 => if r23 = 0 then (some ((-2), M16)) else (if a1 = (-1 : Int32) then (zm_ck (decide (M16.2.2 1 11 = 103)) <| zm_b1 (f_X6_fewestElsewhere M16) <| fun r41 => some (r41, M16)) else (zm_ck (decide (M16.2.2 1 11 = 103)) <| zm_b1 (f_X6_nearHouse a1 M16) <| fun r52 => some (r52, M16)))
noncomputable def f_X10_nearestP (a1 : Int32) (M : zm_Mem) : Option (Int32 × zm_Mem) :=
  if a1 = (-1 : Int32) then (f_X10_nearestP_b15 a1 M) else (zm_b1 (f_X10_isWork a1 M) <| fun r7 => if r7 = 0 then (none) else (f_X10_nearestP_b15 a1 M))
set_option maxRecDepth 20000 in
set_option maxHeartbeats 4000000 in
theorem k_X10_nearest0 (E : zm_E) (a1 : Int32) (M : zm_Mem) (h0 : M.2.2 1 11 = 0) {r : Int32} {M' : zm_Mem} (h : f_X10_nearestP a1 M = some (r, M')) : zm_Ct E (zm_w 0) (zm_w 1) yX10_nearest (Y_X10_nearest true) [.ref (E.2.1 + 1), .int a1] M (some (.int r)) M' := by
  refine zm_meth (emb := zm_ei) (d := f_X10_nearestP a1 M) (by decide) rfl rfl (Nat.le_of_ble_eq_true rfl) h (fun X => ?_)
  show zm_V X (Y_X10_nearest true) E (zm_Q X E (Y_X10_nearest true).2.2.2.1.cells (Y_X10_nearest true).2.2.2.1.slots (zm_w 1) zm_ei) 0 0 true (zm_w 0) 0 [(0, .ref (E.2.1 + 1)), (1, .int a1)] [] M (f_X10_nearestP a1 M) some
  unfold f_X10_nearestP
  refine zm_iload_n 1 rfl dX10_nearest_0 rfl 1 rfl ?_
  refine zm_iconst 2 rfl dX10_nearest_1 zi_m1 ?_
  have hb15 : zm_V X (Y_X10_nearest true) E (zm_Q X E (Y_X10_nearest true).2.2.2.1.cells (Y_X10_nearest true).2.2.2.1.slots (zm_w 1) zm_ei) 0 0 true (zm_w 0) 15 [(0, .ref (E.2.1 + 1)), (1, .int a1)] [] M (f_X10_nearestP_b15 a1 M) some := by
    unfold f_X10_nearestP_b15
    refine zm_aload_n 16 rfl dX10_nearest_15 rfl 0 rfl ?_
    refine zm_callM (sv := 0) 19 rfl dX10_nearest_16 ml_X10_210 rfl (Nat.le_of_ble_eq_true rfl) ⟨(Nat.le_of_ble_eq_true rfl), (Nat.le_of_ble_eq_true rfl)⟩ rfl rfl ⟨(Nat.le_of_ble_eq_true rfl), (Nat.le_of_ble_eq_true rfl)⟩ (fun a => ⟨rfl, rfl⟩) (fun _ _ h => k_X10_makeSurvey0 E M h0 h) (fun M16 => ?_)
    refine zm_aload_n 20 rfl dX10_nearest_19 rfl 0 rfl ?_
    refine zm_getC (a := 103) 23 rfl dX10_nearest_20 fl_X10_213 rfl (zm_L (sv := 1) rfl) (by decide) ?_
    refine zm_cV0ir 26 rfl dX10_nearest_23 ml_X10_217 rfl (zm_L1 rfl) rfl (Nat.le_of_ble_eq_true rfl) ⟨Nat.le_of_ble_eq_true rfl, Nat.le_of_ble_eq_true rfl⟩ rfl rfl ⟨(Nat.le_of_ble_eq_true rfl), (Nat.le_of_ble_eq_true rfl)⟩ rfl (fun _ h => k_X6_rowsKept E M16 h) (fun r23 => ?_)
    refine zm_if_ne 32 29 (by decide) rfl dX10_nearest_26 ?_ ?_
    · refine zm_bipush 31 rfl dX10_nearest_29 zb_m2 ?_
      exact zm_iret dX10_nearest_31 rfl (Nat.le_of_ble_eq_true rfl) (Nat.le_of_ble_eq_true rfl) rfl
    · refine zm_iload_n 33 rfl dX10_nearest_32 rfl 1 rfl ?_
      refine zm_iconst 34 rfl dX10_nearest_33 zi_m1 ?_
      refine zm_icmp_ne 47 37 (by decide) rfl dX10_nearest_34 ?_ ?_
      · refine zm_aload_n 38 rfl dX10_nearest_37 rfl 0 rfl ?_
        refine zm_getC (a := 103) 41 rfl dX10_nearest_38 fl_X10_213 rfl (zm_L (sv := 1) rfl) (by decide) ?_
        refine zm_cV0ir 44 rfl dX10_nearest_41 ml_X10_222 rfl (zm_L1 rfl) rfl (Nat.le_of_ble_eq_true rfl) ⟨Nat.le_of_ble_eq_true rfl, Nat.le_of_ble_eq_true rfl⟩ rfl rfl ⟨(Nat.le_of_ble_eq_true rfl), (Nat.le_of_ble_eq_true rfl)⟩ rfl (fun _ h => k_X6_fewestElsewhere E M16 h) (fun r41 => ?_)
        refine zm_goto 55 (by decide) dX10_nearest_44 ?_
        exact zm_iret dX10_nearest_55 rfl (Nat.le_of_ble_eq_true rfl) (Nat.le_of_ble_eq_true rfl) rfl
      · refine zm_aload_n 48 rfl dX10_nearest_47 rfl 0 rfl ?_
        refine zm_getC (a := 103) 51 rfl dX10_nearest_48 fl_X10_213 rfl (zm_L (sv := 1) rfl) (by decide) ?_
        refine zm_iload_n 52 rfl dX10_nearest_51 rfl 1 rfl ?_
        refine zm_cV1ir 55 rfl dX10_nearest_52 ml_X10_225 rfl (zm_L1 rfl) rfl (Nat.le_of_ble_eq_true rfl) ⟨Nat.le_of_ble_eq_true rfl, Nat.le_of_ble_eq_true rfl⟩ rfl rfl ⟨(Nat.le_of_ble_eq_true rfl), (Nat.le_of_ble_eq_true rfl)⟩ rfl (fun _ h => k_X6_nearHouse E a1 M16 h) (fun r52 => ?_)
        exact zm_iret dX10_nearest_55 rfl (Nat.le_of_ble_eq_true rfl) (Nat.le_of_ble_eq_true rfl) rfl
  refine zm_icmp_eq 15 5 (by decide) rfl dX10_nearest_2 ?_ ?_
  · exact zm_loc [0, 1] rfl (hb15)
  · refine zm_aload_n 6 rfl dX10_nearest_5 rfl 0 rfl ?_
    refine zm_iload_n 7 rfl dX10_nearest_6 rfl 1 rfl ?_
    refine zm_cV1ir 10 rfl dX10_nearest_7 ml_X10_121 rfl (zm_L (sv := 0) rfl) rfl (Nat.le_of_ble_eq_true rfl) ⟨Nat.le_of_ble_eq_true rfl, Nat.le_of_ble_eq_true rfl⟩ rfl rfl ⟨(Nat.le_of_ble_eq_true rfl), (Nat.le_of_ble_eq_true rfl)⟩ rfl (fun _ h => k_X10_isWork E 0 a1 M h) (fun r7 => ?_)
    refine zm_if_ne 15 13 (by decide) rfl dX10_nearest_10 ?_ ?_
    · exact zm_none
    · exact zm_loc [0, 1] rfl (hb15)
set_option maxRecDepth 20000 in
set_option maxHeartbeats 4000000 in
theorem k_X10_nearest1 (E : zm_E) (a1 : Int32) (M : zm_Mem) (h0 : M.2.2 1 11 ≠ 0) {r : Int32} {M' : zm_Mem} (h : f_X10_nearestP a1 M = some (r, M')) : zm_Ct E (zm_w 1) (zm_w 1) yX10_nearest (Y_X10_nearest false) [.ref (E.2.1 + 1), .int a1] M (some (.int r)) M' := by
  refine zm_meth (emb := zm_ei) (d := f_X10_nearestP a1 M) (by decide) rfl rfl (Nat.le_of_ble_eq_true rfl) h (fun X => ?_)
  show zm_V X (Y_X10_nearest false) E (zm_Q X E (Y_X10_nearest false).2.2.2.1.cells (Y_X10_nearest false).2.2.2.1.slots (zm_w 1) zm_ei) 0 0 false (zm_w 1) 0 [(0, .ref (E.2.1 + 1)), (1, .int a1)] [] M (f_X10_nearestP a1 M) some
  unfold f_X10_nearestP
  refine zm_iload_n 1 rfl dX10_nearest_0 rfl 1 rfl ?_
  refine zm_iconst 2 rfl dX10_nearest_1 zi_m1 ?_
  have hb15 : zm_V X (Y_X10_nearest false) E (zm_Q X E (Y_X10_nearest false).2.2.2.1.cells (Y_X10_nearest false).2.2.2.1.slots (zm_w 1) zm_ei) 0 0 false (zm_w 1) 15 [(0, .ref (E.2.1 + 1)), (1, .int a1)] [] M (f_X10_nearestP_b15 a1 M) some := by
    unfold f_X10_nearestP_b15
    refine zm_aload_n 16 rfl dX10_nearest_15 rfl 0 rfl ?_
    refine zm_callM (sv := 1) 19 rfl dX10_nearest_16 ml_X10_210 rfl (Nat.le_of_ble_eq_true rfl) ⟨(Nat.le_of_ble_eq_true rfl), (Nat.le_of_ble_eq_true rfl)⟩ rfl rfl ⟨(Nat.le_of_ble_eq_true rfl), (Nat.le_of_ble_eq_true rfl)⟩ (fun a => by cases a) (fun _ _ h => k_X10_makeSurvey1 E M h0 h) (fun M16 => ?_)
    refine zm_aload_n 20 rfl dX10_nearest_19 rfl 0 rfl ?_
    refine zm_getC (a := 103) 23 rfl dX10_nearest_20 fl_X10_213 rfl (zm_L (sv := 1) rfl) (by decide) ?_
    refine zm_cV0ir 26 rfl dX10_nearest_23 ml_X10_217 rfl (zm_L1 rfl) rfl (Nat.le_of_ble_eq_true rfl) ⟨Nat.le_of_ble_eq_true rfl, Nat.le_of_ble_eq_true rfl⟩ rfl rfl ⟨(Nat.le_of_ble_eq_true rfl), (Nat.le_of_ble_eq_true rfl)⟩ rfl (fun _ h => k_X6_rowsKept E M16 h) (fun r23 => ?_)
    refine zm_if_ne 32 29 (by decide) rfl dX10_nearest_26 ?_ ?_
    · refine zm_bipush 31 rfl dX10_nearest_29 zb_m2 ?_
      exact zm_iret dX10_nearest_31 rfl (Nat.le_of_ble_eq_true rfl) (Nat.le_of_ble_eq_true rfl) rfl
    · refine zm_iload_n 33 rfl dX10_nearest_32 rfl 1 rfl ?_
      refine zm_iconst 34 rfl dX10_nearest_33 zi_m1 ?_
      refine zm_icmp_ne 47 37 (by decide) rfl dX10_nearest_34 ?_ ?_
      · refine zm_aload_n 38 rfl dX10_nearest_37 rfl 0 rfl ?_
        refine zm_getC (a := 103) 41 rfl dX10_nearest_38 fl_X10_213 rfl (zm_L (sv := 1) rfl) (by decide) ?_
        refine zm_cV0ir 44 rfl dX10_nearest_41 ml_X10_222 rfl (zm_L1 rfl) rfl (Nat.le_of_ble_eq_true rfl) ⟨Nat.le_of_ble_eq_true rfl, Nat.le_of_ble_eq_true rfl⟩ rfl rfl ⟨(Nat.le_of_ble_eq_true rfl), (Nat.le_of_ble_eq_true rfl)⟩ rfl (fun _ h => k_X6_fewestElsewhere E M16 h) (fun r41 => ?_)
        refine zm_goto 55 (by decide) dX10_nearest_44 ?_
        exact zm_iret dX10_nearest_55 rfl (Nat.le_of_ble_eq_true rfl) (Nat.le_of_ble_eq_true rfl) rfl
      · refine zm_aload_n 48 rfl dX10_nearest_47 rfl 0 rfl ?_
        refine zm_getC (a := 103) 51 rfl dX10_nearest_48 fl_X10_213 rfl (zm_L (sv := 1) rfl) (by decide) ?_
        refine zm_iload_n 52 rfl dX10_nearest_51 rfl 1 rfl ?_
        refine zm_cV1ir 55 rfl dX10_nearest_52 ml_X10_225 rfl (zm_L1 rfl) rfl (Nat.le_of_ble_eq_true rfl) ⟨Nat.le_of_ble_eq_true rfl, Nat.le_of_ble_eq_true rfl⟩ rfl rfl ⟨(Nat.le_of_ble_eq_true rfl), (Nat.le_of_ble_eq_true rfl)⟩ rfl (fun _ h => k_X6_nearHouse E a1 M16 h) (fun r52 => ?_)
        exact zm_iret dX10_nearest_55 rfl (Nat.le_of_ble_eq_true rfl) (Nat.le_of_ble_eq_true rfl) rfl
  refine zm_icmp_eq 15 5 (by decide) rfl dX10_nearest_2 ?_ ?_
  · exact zm_loc [0, 1] rfl (hb15)
  · refine zm_aload_n 6 rfl dX10_nearest_5 rfl 0 rfl ?_
    refine zm_iload_n 7 rfl dX10_nearest_6 rfl 1 rfl ?_
    refine zm_cV1ir 10 rfl dX10_nearest_7 ml_X10_121 rfl (zm_L (sv := 1) rfl) rfl (Nat.le_of_ble_eq_true rfl) ⟨Nat.le_of_ble_eq_true rfl, Nat.le_of_ble_eq_true rfl⟩ rfl rfl ⟨(Nat.le_of_ble_eq_true rfl), (Nat.le_of_ble_eq_true rfl)⟩ rfl (fun _ h => k_X10_isWork E 1 a1 M h) (fun r7 => ?_)
    refine zm_if_ne 15 13 (by decide) rfl dX10_nearest_10 ?_ ?_
    · exact zm_none
    · exact zm_loc [0, 1] rfl (hb15)
abbrev Y_X10_quarrel (al : Bool) : zm_Y := (cX10_quarrel, 3, RX10, { frames := 14, cells := 13, slots := 4296, locals := 515 }, (some .int), al, "quarrel")
noncomputable def f_X10_quarrelP_b11 (a1 : Int32) (M : zm_Mem) : Option (Int32 × zm_Mem) :=
 zm_b2 (f_X10_makeSurvey M) <| fun _ M12 => zm_ck (decide (M12.2.2 1 11 = 103)) <| zm_b1 (f_X6_rowsKept M12) <| fun r19 => if r19 ≤ 0 then (zm_ck (decide (M12.2.2 1 11 = 103)) <| zm_b1 (f_X6_smallestQuarrel M12) <| fun r32 => if a1 = 0 then (zm_b1 (f_J6_bitCount_0f7a4 r32 M12) <| fun r41 => some (r41, M12)) else (some (r32, M12))) else (some ((-2), M12))
noncomputable def f_X10_quarrelP (a1 : Int32) (M : zm_Mem) : Option (Int32 × zm_Mem) :=
  if a1 = 0 then (f_X10_quarrelP_b11 a1 M) else (if a1 = (1 : Int32) then (f_X10_quarrelP_b11 a1 M) else (none))
set_option maxRecDepth 20000 in
set_option maxHeartbeats 4000000 in
theorem k_X10_quarrel0 (E : zm_E) (a1 : Int32) (M : zm_Mem) (h0 : M.2.2 1 11 = 0) {r : Int32} {M' : zm_Mem} (h : f_X10_quarrelP a1 M = some (r, M')) : zm_Ct E (zm_w 0) (zm_w 1) yX10_quarrel (Y_X10_quarrel true) [.ref (E.2.1 + 1), .int a1] M (some (.int r)) M' := by
  refine zm_meth (emb := zm_ei) (d := f_X10_quarrelP a1 M) (by decide) rfl rfl (Nat.le_of_ble_eq_true rfl) h (fun X => ?_)
  show zm_V X (Y_X10_quarrel true) E (zm_Q X E (Y_X10_quarrel true).2.2.2.1.cells (Y_X10_quarrel true).2.2.2.1.slots (zm_w 1) zm_ei) 0 0 true (zm_w 0) 0 [(0, .ref (E.2.1 + 1)), (1, .int a1)] [] M (f_X10_quarrelP a1 M) some
  unfold f_X10_quarrelP
  refine zm_iload_n 1 rfl dX10_quarrel_0 rfl 1 rfl ?_
  have hb11 : zm_V X (Y_X10_quarrel true) E (zm_Q X E (Y_X10_quarrel true).2.2.2.1.cells (Y_X10_quarrel true).2.2.2.1.slots (zm_w 1) zm_ei) 0 0 true (zm_w 0) 11 [(0, .ref (E.2.1 + 1)), (1, .int a1)] [] M (f_X10_quarrelP_b11 a1 M) some := by
    unfold f_X10_quarrelP_b11
    refine zm_aload_n 12 rfl dX10_quarrel_11 rfl 0 rfl ?_
    refine zm_callM (sv := 0) 15 rfl dX10_quarrel_12 ml_X10_210 rfl (Nat.le_of_ble_eq_true rfl) ⟨(Nat.le_of_ble_eq_true rfl), (Nat.le_of_ble_eq_true rfl)⟩ rfl rfl ⟨(Nat.le_of_ble_eq_true rfl), (Nat.le_of_ble_eq_true rfl)⟩ (fun a => ⟨rfl, rfl⟩) (fun _ _ h => k_X10_makeSurvey0 E M h0 h) (fun M12 => ?_)
    refine zm_aload_n 16 rfl dX10_quarrel_15 rfl 0 rfl ?_
    refine zm_getC (a := 103) 19 rfl dX10_quarrel_16 fl_X10_213 rfl (zm_L (sv := 1) rfl) (by decide) ?_
    refine zm_cV0ir 22 rfl dX10_quarrel_19 ml_X10_217 rfl (zm_L1 rfl) rfl (Nat.le_of_ble_eq_true rfl) ⟨Nat.le_of_ble_eq_true rfl, Nat.le_of_ble_eq_true rfl⟩ rfl rfl ⟨(Nat.le_of_ble_eq_true rfl), (Nat.le_of_ble_eq_true rfl)⟩ rfl (fun _ h => k_X6_rowsKept E M12 h) (fun r19 => ?_)
    refine zm_if_le 28 25 (by decide) rfl dX10_quarrel_22 ?_ ?_
    · refine zm_aload_n 29 rfl dX10_quarrel_28 rfl 0 rfl ?_
      refine zm_getC (a := 103) 32 rfl dX10_quarrel_29 fl_X10_213 rfl (zm_L (sv := 1) rfl) (by decide) ?_
      refine zm_cV0ir 35 rfl dX10_quarrel_32 ml_X10_228 rfl (zm_L1 rfl) rfl (Nat.le_of_ble_eq_true rfl) ⟨Nat.le_of_ble_eq_true rfl, Nat.le_of_ble_eq_true rfl⟩ rfl rfl ⟨(Nat.le_of_ble_eq_true rfl), (Nat.le_of_ble_eq_true rfl)⟩ rfl (fun _ h => k_X6_smallestQuarrel E M12 h) (fun r32 => ?_)
      refine zm_istore_n (lv' := [(2, .int r32), (0, .ref (E.2.1 + 1)), (1, .int a1)]) 36 rfl dX10_quarrel_35 rfl (by decide) rfl ?_
      refine zm_iload_n 37 rfl dX10_quarrel_36 rfl 2 rfl ?_
      refine zm_if_ne 47 40 (by decide) rfl dX10_quarrel_37 ?_ ?_
      · refine zm_iload_n 41 rfl dX10_quarrel_40 rfl 0 rfl ?_
        refine zm_cS1ir 44 rfl dX10_quarrel_41 ml_X10_231 (Nat.le_of_ble_eq_true rfl) ⟨Nat.le_of_ble_eq_true rfl, Nat.le_of_ble_eq_true rfl⟩ rfl rfl ⟨(Nat.le_of_ble_eq_true rfl), (Nat.le_of_ble_eq_true rfl)⟩ rfl (fun _ h => k_J6_bitCount_0f7a4 E (zm_w 1) r32 M12 h) (fun r41 => ?_)
        refine zm_goto 48 (by decide) dX10_quarrel_44 ?_
        exact zm_iret dX10_quarrel_48 rfl (Nat.le_of_ble_eq_true rfl) (Nat.le_of_ble_eq_true rfl) rfl
      · refine zm_iload_n 48 rfl dX10_quarrel_47 rfl 0 rfl ?_
        exact zm_iret dX10_quarrel_48 rfl (Nat.le_of_ble_eq_true rfl) (Nat.le_of_ble_eq_true rfl) rfl
    · refine zm_bipush 27 rfl dX10_quarrel_25 zb_m2 ?_
      exact zm_iret dX10_quarrel_27 rfl (Nat.le_of_ble_eq_true rfl) (Nat.le_of_ble_eq_true rfl) rfl
  refine zm_if_eq 11 4 (by decide) rfl dX10_quarrel_1 ?_ ?_
  · exact zm_loc [0, 1] rfl (hb11)
  · refine zm_iload_n 5 rfl dX10_quarrel_4 rfl 1 rfl ?_
    refine zm_iconst 6 rfl dX10_quarrel_5 zi_1 ?_
    refine zm_icmp_eq 11 9 (by decide) rfl dX10_quarrel_6 ?_ ?_
    · exact zm_loc [0, 1] rfl (hb11)
    · exact zm_none
set_option maxRecDepth 20000 in
set_option maxHeartbeats 4000000 in
theorem k_X10_quarrel1 (E : zm_E) (a1 : Int32) (M : zm_Mem) (h0 : M.2.2 1 11 ≠ 0) {r : Int32} {M' : zm_Mem} (h : f_X10_quarrelP a1 M = some (r, M')) : zm_Ct E (zm_w 1) (zm_w 1) yX10_quarrel (Y_X10_quarrel false) [.ref (E.2.1 + 1), .int a1] M (some (.int r)) M' := by
  refine zm_meth (emb := zm_ei) (d := f_X10_quarrelP a1 M) (by decide) rfl rfl (Nat.le_of_ble_eq_true rfl) h (fun X => ?_)
  show zm_V X (Y_X10_quarrel false) E (zm_Q X E (Y_X10_quarrel false).2.2.2.1.cells (Y_X10_quarrel false).2.2.2.1.slots (zm_w 1) zm_ei) 0 0 false (zm_w 1) 0 [(0, .ref (E.2.1 + 1)), (1, .int a1)] [] M (f_X10_quarrelP a1 M) some
  unfold f_X10_quarrelP
  refine zm_iload_n 1 rfl dX10_quarrel_0 rfl 1 rfl ?_
  have hb11 : zm_V X (Y_X10_quarrel false) E (zm_Q X E (Y_X10_quarrel false).2.2.2.1.cells (Y_X10_quarrel false).2.2.2.1.slots (zm_w 1) zm_ei) 0 0 false (zm_w 1) 11 [(0, .ref (E.2.1 + 1)), (1, .int a1)] [] M (f_X10_quarrelP_b11 a1 M) some := by
    unfold f_X10_quarrelP_b11
    refine zm_aload_n 12 rfl dX10_quarrel_11 rfl 0 rfl ?_
    refine zm_callM (sv := 1) 15 rfl dX10_quarrel_12 ml_X10_210 rfl (Nat.le_of_ble_eq_true rfl) ⟨(Nat.le_of_ble_eq_true rfl), (Nat.le_of_ble_eq_true rfl)⟩ rfl rfl ⟨(Nat.le_of_ble_eq_true rfl), (Nat.le_of_ble_eq_true rfl)⟩ (fun a => by cases a) (fun _ _ h => k_X10_makeSurvey1 E M h0 h) (fun M12 => ?_)
    refine zm_aload_n 16 rfl dX10_quarrel_15 rfl 0 rfl ?_
    refine zm_getC (a := 103) 19 rfl dX10_quarrel_16 fl_X10_213 rfl (zm_L (sv := 1) rfl) (by decide) ?_
    refine zm_cV0ir 22 rfl dX10_quarrel_19 ml_X10_217 rfl (zm_L1 rfl) rfl (Nat.le_of_ble_eq_true rfl) ⟨Nat.le_of_ble_eq_true rfl, Nat.le_of_ble_eq_true rfl⟩ rfl rfl ⟨(Nat.le_of_ble_eq_true rfl), (Nat.le_of_ble_eq_true rfl)⟩ rfl (fun _ h => k_X6_rowsKept E M12 h) (fun r19 => ?_)
    refine zm_if_le 28 25 (by decide) rfl dX10_quarrel_22 ?_ ?_
    · refine zm_aload_n 29 rfl dX10_quarrel_28 rfl 0 rfl ?_
      refine zm_getC (a := 103) 32 rfl dX10_quarrel_29 fl_X10_213 rfl (zm_L (sv := 1) rfl) (by decide) ?_
      refine zm_cV0ir 35 rfl dX10_quarrel_32 ml_X10_228 rfl (zm_L1 rfl) rfl (Nat.le_of_ble_eq_true rfl) ⟨Nat.le_of_ble_eq_true rfl, Nat.le_of_ble_eq_true rfl⟩ rfl rfl ⟨(Nat.le_of_ble_eq_true rfl), (Nat.le_of_ble_eq_true rfl)⟩ rfl (fun _ h => k_X6_smallestQuarrel E M12 h) (fun r32 => ?_)
      refine zm_istore_n (lv' := [(2, .int r32), (0, .ref (E.2.1 + 1)), (1, .int a1)]) 36 rfl dX10_quarrel_35 rfl (by decide) rfl ?_
      refine zm_iload_n 37 rfl dX10_quarrel_36 rfl 2 rfl ?_
      refine zm_if_ne 47 40 (by decide) rfl dX10_quarrel_37 ?_ ?_
      · refine zm_iload_n 41 rfl dX10_quarrel_40 rfl 0 rfl ?_
        refine zm_cS1ir 44 rfl dX10_quarrel_41 ml_X10_231 (Nat.le_of_ble_eq_true rfl) ⟨Nat.le_of_ble_eq_true rfl, Nat.le_of_ble_eq_true rfl⟩ rfl rfl ⟨(Nat.le_of_ble_eq_true rfl), (Nat.le_of_ble_eq_true rfl)⟩ rfl (fun _ h => k_J6_bitCount_0f7a4 E (zm_w 1) r32 M12 h) (fun r41 => ?_)
        refine zm_goto 48 (by decide) dX10_quarrel_44 ?_
        exact zm_iret dX10_quarrel_48 rfl (Nat.le_of_ble_eq_true rfl) (Nat.le_of_ble_eq_true rfl) rfl
      · refine zm_iload_n 48 rfl dX10_quarrel_47 rfl 0 rfl ?_
        exact zm_iret dX10_quarrel_48 rfl (Nat.le_of_ble_eq_true rfl) (Nat.le_of_ble_eq_true rfl) rfl
    · refine zm_bipush 27 rfl dX10_quarrel_25 zb_m2 ?_
      exact zm_iret dX10_quarrel_27 rfl (Nat.le_of_ble_eq_true rfl) (Nat.le_of_ble_eq_true rfl) rfl
  refine zm_if_eq 11 4 (by decide) rfl dX10_quarrel_1 ?_ ?_
  · exact zm_loc [0, 1] rfl (hb11)
  · refine zm_iload_n 5 rfl dX10_quarrel_4 rfl 1 rfl ?_
    refine zm_iconst 6 rfl dX10_quarrel_5 zi_1 ?_
    refine zm_icmp_eq 11 9 (by decide) rfl dX10_quarrel_6 ?_ ?_
    · exact zm_loc [0, 1] rfl (hb11)
    · exact zm_none
abbrev Y_X10_home (al : Bool) : zm_Y := (cX10_home, 5, RX10, { frames := 14, cells := 13, slots := 4296, locals := 515 }, (some .int), al, "home")
noncomputable def f_X10_homeP_b89 (M1 : zm_Mem) (e64_2 : Int32) (e64_3 : Int32) (q89 : Nat) : Option (Int32 × zm_Mem) :=
 zm_v (M1.2.2 1 9) <| fun t92 => zm_ck (zm_isT t92) <| zm_b2 (f_X9_fewestTrips q89 e64_2 e64_3 (M1.1 t92 12) M1) <| fun r98 M98 => some (r98, M98)
noncomputable def f_X10_homeP_x64_11 (a1 : Int32) (M1 : zm_Mem) (e64_2 : Int32) (e64_3 : Int32) : Option (Int32 × zm_Mem) :=
 zm_ck (decide (M1.2.2 1 12 = 112)) <| if a1 = 0 then (zm_ck (decide (M1.2.2 1 11 = 103)) <| zm_b1 (f_X6_roomyRows M1) <| fun r86 => zm_ck (decide (r86 = 104)) <| f_X10_homeP_b89 M1 e64_2 e64_3 104) else (zm_ck (decide (M1.2.2 1 11 = 103)) <| zm_b1 (f_X6_keptRows M1) <| fun r76 => zm_ck (decide (r76 = 105)) <| f_X10_homeP_b89 M1 e64_2 e64_3 105)
noncomputable def f_X10_homeP_l11 (M1 : zm_Mem) (l11_2 : Int32) (l11_3 : Int32) (l11_4 : Int32) : Option ((Int32 × Int32 × Int32) ⊕ (Int32 × Int32)) :=
 zm_v (M1.2.2 1 9) <| fun t14 => zm_ck (zm_isT t14) <| if (M1.1 t14 12) ≤ l11_4 then (some (.inr (l11_2, l11_3))) else (zm_b1 (f_X4_goal l11_4 M1) <| fun r32 => zm_b1 (f_X6_step l11_4 r32 M1) <| fun r35 => zm_v (l11_2 + r35) <| fun x39 => zm_v (M1.2.2 1 9) <| fun t44 => zm_ck (zm_isT t44) <| zm_ck (zm_in l11_4 6) <| zm_b1 (f_X6_step l11_4 (M1.1 (t44 + 3) l11_4.toNatClampNeg) M1) <| fun r53 => zm_v (l11_3 + r53) <| fun x57 => zm_v (l11_4 + 1) <| fun x58 => some (.inl (x39, x57, x58)))
noncomputable def f_X10_homeP (a1 : Int32) (M : zm_Mem) : Option (Int32 × zm_Mem) :=
  zm_b2 (f_X10_makeSurvey M) <| fun _ M1 => (zm_lp (fun s => f_X10_homeP_l11 M1 s.1 s.2.1 s.2.2) (0, 0, 0)).bind (fun e64 => f_X10_homeP_x64_11 a1 M1 e64.1 e64.2)
set_option maxRecDepth 20000 in
set_option maxHeartbeats 4000000 in
theorem k_X10_home0 (E : zm_E) (a1 : Int32) (M : zm_Mem) (h0 : M.2.2 1 11 = 0) {r : Int32} {M' : zm_Mem} (h : f_X10_homeP a1 M = some (r, M')) : zm_Ct E (zm_w 0) (zm_w 1) yX10_home (Y_X10_home true) [.ref (E.2.1 + 1), .int a1] M (some (.int r)) M' := by
  refine zm_meth (emb := zm_ei) (d := f_X10_homeP a1 M) (by decide) rfl rfl (Nat.le_of_ble_eq_true rfl) h (fun X => ?_)
  show zm_V X (Y_X10_home true) E (zm_Q X E (Y_X10_home true).2.2.2.1.cells (Y_X10_home true).2.2.2.1.slots (zm_w 1) zm_ei) 0 0 true (zm_w 0) 0 [(0, .ref (E.2.1 + 1)), (1, .int a1)] [] M (f_X10_homeP a1 M) some
  unfold f_X10_homeP
  refine zm_aload_n 1 rfl dX10_home_0 rfl 0 rfl ?_
  refine zm_callM (sv := 0) 4 rfl dX10_home_1 ml_X10_210 rfl (Nat.le_of_ble_eq_true rfl) ⟨(Nat.le_of_ble_eq_true rfl), (Nat.le_of_ble_eq_true rfl)⟩ rfl rfl ⟨(Nat.le_of_ble_eq_true rfl), (Nat.le_of_ble_eq_true rfl)⟩ (fun a => ⟨rfl, rfl⟩) (fun _ _ h => k_X10_makeSurvey0 E M h0 h) (fun M1 => ?_)
  refine zm_iconst 5 rfl dX10_home_4 zi_0 ?_
  refine zm_istore_n (lv' := [(2, .int 0), (0, .ref (E.2.1 + 1)), (1, .int a1)]) 6 rfl dX10_home_5 rfl (by decide) rfl ?_
  refine zm_iconst 7 rfl dX10_home_6 zi_0 ?_
  refine zm_istore_n (lv' := [(3, .int 0), (2, .int 0), (0, .ref (E.2.1 + 1)), (1, .int a1)]) 8 rfl dX10_home_7 rfl (by decide) rfl ?_
  refine zm_iconst 9 rfl dX10_home_8 zi_0 ?_
  refine zm_istore (lv' := [(4, .int 0), (3, .int 0), (2, .int 0), (0, .ref (E.2.1 + 1)), (1, .int a1)]) 11 rfl dX10_home_9 (by decide) rfl ?_
  have hx64_11 : ∀ (e64_2 : Int32) (e64_3 : Int32), zm_V X (Y_X10_home true) E (zm_Q X E (Y_X10_home true).2.2.2.1.cells (Y_X10_home true).2.2.2.1.slots (zm_w 1) zm_ei) 13 4296 false (zm_w 1) 64 [(0, .ref (E.2.1 + 1)), (1, .int a1), (2, .int e64_2), (3, .int e64_3)] [] M1 (f_X10_homeP_x64_11 a1 M1 e64_2 e64_3) some := by
    intro e64_2 e64_3
    unfold f_X10_homeP_x64_11
    refine zm_aload_n 65 rfl dX10_home_64 rfl 0 rfl ?_
    refine zm_getC (a := 112) 68 rfl dX10_home_65 fl_X10_242 rfl (zm_L (sv := 1) rfl) (by decide) ?_
    refine zm_iload_n 69 rfl dX10_home_68 rfl 1 rfl ?_
    have hb89 : ∀ (q89 : Nat) (hq89 : zm_sh q89 = (2, (zm_sh q89).2) ∧ (0 < q89 ∧ q89 ≤ zm_n 1)), zm_V X (Y_X10_home true) E (zm_Q X E (Y_X10_home true).2.2.2.1.cells (Y_X10_home true).2.2.2.1.slots (zm_w 1) zm_ei) 13 4296 false (zm_w 1) 89 [(0, .ref (E.2.1 + 1)), (2, .int e64_2), (3, .int e64_3)] [.ref (E.2.1 + q89), .ref (E.2.1 + 112)] M1 (f_X10_homeP_b89 M1 e64_2 e64_3 q89) some := by
      intro q89 hq89
      unfold f_X10_homeP_b89
      refine zm_iload_n 90 rfl dX10_home_89 rfl 1 rfl ?_
      refine zm_iload_n 91 rfl dX10_home_90 rfl 2 rfl ?_
      refine zm_aload_n 92 rfl dX10_home_91 rfl 0 rfl ?_
      refine zm_getT 95 rfl dX10_home_92 fl_X10_60 rfl (zm_L (sv := 1) rfl) (fun t92 _ ht92 => ?_)
      refine zm_getI 98 rfl dX10_home_95 fl_X10_236 (zm_T_o ht92) (zm_T_l0 (sv := 1) ht92) ?_
      refine zm_cV4i 101 rfl dX10_home_98 ml_X10_253 rfl (zm_L1 rfl) rfl (Nat.le_of_ble_eq_true rfl) ⟨Nat.le_of_ble_eq_true rfl, Nat.le_of_ble_eq_true rfl⟩ rfl rfl ⟨(Nat.le_of_ble_eq_true rfl), (Nat.le_of_ble_eq_true rfl)⟩ rfl (fun _ _ h => k_X9_fewestTrips E q89 e64_2 e64_3 (M1.1 t92 12) ⟨hq89.1, hq89.2⟩ M1 h) (fun r98 M98 => ?_)
      exact zm_iret dX10_home_101 rfl (Nat.le_of_ble_eq_true rfl) (Nat.le_of_ble_eq_true rfl) rfl
    refine zm_if_eq 82 72 (by decide) rfl dX10_home_69 ?_ ?_
    · refine zm_aload_n 83 rfl dX10_home_82 rfl 0 rfl ?_
      refine zm_getC (a := 103) 86 rfl dX10_home_83 fl_X10_213 rfl (zm_L (sv := 1) rfl) (by decide) ?_
      refine zm_cV0ar 89 rfl dX10_home_86 ml_X10_250 rfl (zm_L1 rfl) rfl (Nat.le_of_ble_eq_true rfl) ⟨Nat.le_of_ble_eq_true rfl, Nat.le_of_ble_eq_true rfl⟩ rfl rfl ⟨(Nat.le_of_ble_eq_true rfl), (Nat.le_of_ble_eq_true rfl)⟩ rfl (fun _ h => k_X6_roomyRows E M1 h) (fun r86 => ?_)
      refine zm_gd (fun hg => ?_)
      obtain rfl := of_decide_eq_true hg
      exact zm_loc [0, 2, 3] rfl (hb89 104 ⟨rfl, zm_L1 rfl⟩)
    · refine zm_aload_n 73 rfl dX10_home_72 rfl 0 rfl ?_
      refine zm_getC (a := 103) 76 rfl dX10_home_73 fl_X10_213 rfl (zm_L (sv := 1) rfl) (by decide) ?_
      refine zm_cV0ar 79 rfl dX10_home_76 ml_X10_246 rfl (zm_L1 rfl) rfl (Nat.le_of_ble_eq_true rfl) ⟨Nat.le_of_ble_eq_true rfl, Nat.le_of_ble_eq_true rfl⟩ rfl rfl ⟨(Nat.le_of_ble_eq_true rfl), (Nat.le_of_ble_eq_true rfl)⟩ rfl (fun _ h => k_X6_keptRows E M1 h) (fun r76 => ?_)
      refine zm_gd (fun hg => ?_)
      obtain rfl := of_decide_eq_true hg
      refine zm_goto 89 (by decide) dX10_home_79 ?_
      exact zm_loc [0, 2, 3] rfl (hb89 105 ⟨rfl, zm_L1 rfl⟩)
  refine zm_loc [3, 4, 2, 1, 0] rfl (zm_lpp (σ := (Int32 × Int32 × Int32)) (ε := (Int32 × Int32)) (step := fun s => f_X10_homeP_l11 M1 s.1 s.2.1 s.2.2) (fun s => [(0, .ref (E.2.1 + 1)), (1, .int a1), (2, .int s.1), (3, .int s.2.1), (4, .int s.2.2)]) (fun _ => M1) (fun D11 f11 hf11a hf11b hD11 s => ?_) (0, 0, 0))
  obtain ⟨l11_2, l11_3, l11_4⟩ := s
  show zm_V X (Y_X10_home true) E (zm_Q X E (Y_X10_home true).2.2.2.1.cells (Y_X10_home true).2.2.2.1.slots (zm_w 1) zm_ei) 13 4296 false (zm_w 1) 11 [(0, .ref (E.2.1 + 1)), (1, .int a1), (2, .int l11_2), (3, .int l11_3), (4, .int l11_4)] [] M1 (f_X10_homeP_l11 M1 l11_2 l11_3 l11_4) f11
  unfold f_X10_homeP_l11
  refine zm_iload 13 rfl dX10_home_11 4 rfl ?_
  refine zm_aload_n 14 rfl dX10_home_13 rfl 0 rfl ?_
  refine zm_getT 17 rfl dX10_home_14 fl_X10_60 rfl (zm_L (sv := 1) rfl) (fun t14 _ ht14 => ?_)
  refine zm_getI 20 rfl dX10_home_17 fl_X10_236 (zm_T_o ht14) (zm_T_l0 (sv := 1) ht14) ?_
  refine zm_icmp_ge 64 23 (by decide) rfl dX10_home_20 ?_ ?_
  · exact zm_loc [0, 1, 2, 3] rfl (zm_go (hf11b _) (zm_unb (hx64_11 l11_2 l11_3)))
  · refine zm_iload_n 24 rfl dX10_home_23 rfl 2 rfl ?_
    refine zm_iload 26 rfl dX10_home_24 4 rfl ?_
    refine zm_aload_n 27 rfl dX10_home_26 rfl 0 rfl ?_
    refine zm_getR (a := 11) 30 rfl dX10_home_27 fl_X10_32 rfl (zm_L (sv := 1) rfl) rfl (by decide) ?_
    refine zm_iload 32 rfl dX10_home_30 4 rfl ?_
    refine zm_cV1ir 35 rfl dX10_home_32 ml_X10_130 rfl (zm_L (sv := 1) rfl) rfl (Nat.le_of_ble_eq_true rfl) ⟨Nat.le_of_ble_eq_true rfl, Nat.le_of_ble_eq_true rfl⟩ rfl rfl ⟨(Nat.le_of_ble_eq_true rfl), (Nat.le_of_ble_eq_true rfl)⟩ rfl (fun _ h => k_X4_goal E 1 l11_4 M1 h) (fun r32 => ?_)
    refine zm_cS2ir 38 rfl dX10_home_35 ml_X10_239 (Nat.le_of_ble_eq_true rfl) ⟨Nat.le_of_ble_eq_true rfl, Nat.le_of_ble_eq_true rfl⟩ rfl rfl ⟨(Nat.le_of_ble_eq_true rfl), (Nat.le_of_ble_eq_true rfl)⟩ rfl (fun _ h => k_X6_step E l11_4 r32 M1 h) (fun r35 => ?_)
    refine zm_iadd 39 rfl dX10_home_38 ?_
    refine zm_nmi (fun x39 _ => ?_)
    refine zm_istore_n (lv' := [(2, .int x39), (0, .ref (E.2.1 + 1)), (1, .int a1), (3, .int l11_3), (4, .int l11_4)]) 40 rfl dX10_home_39 rfl (by decide) rfl ?_
    refine zm_iload_n 41 rfl dX10_home_40 rfl 3 rfl ?_
    refine zm_iload 43 rfl dX10_home_41 4 rfl ?_
    refine zm_aload_n 44 rfl dX10_home_43 rfl 1 rfl ?_
    refine zm_getT 47 rfl dX10_home_44 fl_X10_60 rfl (zm_L (sv := 1) rfl) (fun t44 _ ht44 => ?_)
    refine zm_getR (a := t44 + 3) 50 rfl dX10_home_47 fl_X10_127 (zm_T_o ht44) (zm_T_l0 (sv := 1) ht44) (zm_T_r ht44 2 (by decide)) (Nat.succ_ne_zero _) ?_
    refine zm_iload 52 rfl dX10_home_50 4 rfl ?_
    refine zm_iald 53 rfl dX10_home_52 (zm_T_a ht44 3 (by decide)) (zm_T_l (sv := 1) ht44 3 (by decide)) ?_
    refine zm_cS2ir 56 rfl dX10_home_53 ml_X10_239 (Nat.le_of_ble_eq_true rfl) ⟨Nat.le_of_ble_eq_true rfl, Nat.le_of_ble_eq_true rfl⟩ rfl rfl ⟨(Nat.le_of_ble_eq_true rfl), (Nat.le_of_ble_eq_true rfl)⟩ rfl (fun _ h => k_X6_step E l11_4 (M1.1 (t44 + 3) l11_4.toNatClampNeg) M1 h) (fun r53 => ?_)
    refine zm_iadd 57 rfl dX10_home_56 ?_
    refine zm_nmi (fun x57 _ => ?_)
    refine zm_istore_n (lv' := [(3, .int x57), (2, .int x39), (0, .ref (E.2.1 + 1)), (1, .int a1), (4, .int l11_4)]) 58 rfl dX10_home_57 rfl (by decide) rfl ?_
    refine zm_iinc (lv' := fun z => [(4, .int z), (3, .int x57), (2, .int x39), (0, .ref (E.2.1 + 1)), (1, .int a1)]) 61 rfl dX10_home_58 zi_1 4 rfl (by decide) (fun _ => rfl) (fun x58 _ => ?_)
    refine zm_goto 11 (by decide) dX10_home_61 ?_
    exact zm_loc [3, 4, 2, 1, 0] rfl (zm_go (hf11a _) (hD11 (x39, x57, x58)))
set_option maxRecDepth 20000 in
set_option maxHeartbeats 4000000 in
theorem k_X10_home1 (E : zm_E) (a1 : Int32) (M : zm_Mem) (h0 : M.2.2 1 11 ≠ 0) {r : Int32} {M' : zm_Mem} (h : f_X10_homeP a1 M = some (r, M')) : zm_Ct E (zm_w 1) (zm_w 1) yX10_home (Y_X10_home false) [.ref (E.2.1 + 1), .int a1] M (some (.int r)) M' := by
  refine zm_meth (emb := zm_ei) (d := f_X10_homeP a1 M) (by decide) rfl rfl (Nat.le_of_ble_eq_true rfl) h (fun X => ?_)
  show zm_V X (Y_X10_home false) E (zm_Q X E (Y_X10_home false).2.2.2.1.cells (Y_X10_home false).2.2.2.1.slots (zm_w 1) zm_ei) 0 0 false (zm_w 1) 0 [(0, .ref (E.2.1 + 1)), (1, .int a1)] [] M (f_X10_homeP a1 M) some
  unfold f_X10_homeP
  refine zm_aload_n 1 rfl dX10_home_0 rfl 0 rfl ?_
  refine zm_callM (sv := 1) 4 rfl dX10_home_1 ml_X10_210 rfl (Nat.le_of_ble_eq_true rfl) ⟨(Nat.le_of_ble_eq_true rfl), (Nat.le_of_ble_eq_true rfl)⟩ rfl rfl ⟨(Nat.le_of_ble_eq_true rfl), (Nat.le_of_ble_eq_true rfl)⟩ (fun a => by cases a) (fun _ _ h => k_X10_makeSurvey1 E M h0 h) (fun M1 => ?_)
  refine zm_iconst 5 rfl dX10_home_4 zi_0 ?_
  refine zm_istore_n (lv' := [(2, .int 0), (0, .ref (E.2.1 + 1)), (1, .int a1)]) 6 rfl dX10_home_5 rfl (by decide) rfl ?_
  refine zm_iconst 7 rfl dX10_home_6 zi_0 ?_
  refine zm_istore_n (lv' := [(3, .int 0), (2, .int 0), (0, .ref (E.2.1 + 1)), (1, .int a1)]) 8 rfl dX10_home_7 rfl (by decide) rfl ?_
  refine zm_iconst 9 rfl dX10_home_8 zi_0 ?_
  refine zm_istore (lv' := [(4, .int 0), (3, .int 0), (2, .int 0), (0, .ref (E.2.1 + 1)), (1, .int a1)]) 11 rfl dX10_home_9 (by decide) rfl ?_
  have hx64_11 : ∀ (e64_2 : Int32) (e64_3 : Int32), zm_V X (Y_X10_home false) E (zm_Q X E (Y_X10_home false).2.2.2.1.cells (Y_X10_home false).2.2.2.1.slots (zm_w 1) zm_ei) 13 4296 false (zm_w 1) 64 [(0, .ref (E.2.1 + 1)), (1, .int a1), (2, .int e64_2), (3, .int e64_3)] [] M1 (f_X10_homeP_x64_11 a1 M1 e64_2 e64_3) some := by
    intro e64_2 e64_3
    unfold f_X10_homeP_x64_11
    refine zm_aload_n 65 rfl dX10_home_64 rfl 0 rfl ?_
    refine zm_getC (a := 112) 68 rfl dX10_home_65 fl_X10_242 rfl (zm_L (sv := 1) rfl) (by decide) ?_
    refine zm_iload_n 69 rfl dX10_home_68 rfl 1 rfl ?_
    have hb89 : ∀ (q89 : Nat) (hq89 : zm_sh q89 = (2, (zm_sh q89).2) ∧ (0 < q89 ∧ q89 ≤ zm_n 1)), zm_V X (Y_X10_home false) E (zm_Q X E (Y_X10_home false).2.2.2.1.cells (Y_X10_home false).2.2.2.1.slots (zm_w 1) zm_ei) 13 4296 false (zm_w 1) 89 [(0, .ref (E.2.1 + 1)), (2, .int e64_2), (3, .int e64_3)] [.ref (E.2.1 + q89), .ref (E.2.1 + 112)] M1 (f_X10_homeP_b89 M1 e64_2 e64_3 q89) some := by
      intro q89 hq89
      unfold f_X10_homeP_b89
      refine zm_iload_n 90 rfl dX10_home_89 rfl 1 rfl ?_
      refine zm_iload_n 91 rfl dX10_home_90 rfl 2 rfl ?_
      refine zm_aload_n 92 rfl dX10_home_91 rfl 0 rfl ?_
      refine zm_getT 95 rfl dX10_home_92 fl_X10_60 rfl (zm_L (sv := 1) rfl) (fun t92 _ ht92 => ?_)
      refine zm_getI 98 rfl dX10_home_95 fl_X10_236 (zm_T_o ht92) (zm_T_l0 (sv := 1) ht92) ?_
      refine zm_cV4i 101 rfl dX10_home_98 ml_X10_253 rfl (zm_L1 rfl) rfl (Nat.le_of_ble_eq_true rfl) ⟨Nat.le_of_ble_eq_true rfl, Nat.le_of_ble_eq_true rfl⟩ rfl rfl ⟨(Nat.le_of_ble_eq_true rfl), (Nat.le_of_ble_eq_true rfl)⟩ rfl (fun _ _ h => k_X9_fewestTrips E q89 e64_2 e64_3 (M1.1 t92 12) ⟨hq89.1, hq89.2⟩ M1 h) (fun r98 M98 => ?_)
      exact zm_iret dX10_home_101 rfl (Nat.le_of_ble_eq_true rfl) (Nat.le_of_ble_eq_true rfl) rfl
    refine zm_if_eq 82 72 (by decide) rfl dX10_home_69 ?_ ?_
    · refine zm_aload_n 83 rfl dX10_home_82 rfl 0 rfl ?_
      refine zm_getC (a := 103) 86 rfl dX10_home_83 fl_X10_213 rfl (zm_L (sv := 1) rfl) (by decide) ?_
      refine zm_cV0ar 89 rfl dX10_home_86 ml_X10_250 rfl (zm_L1 rfl) rfl (Nat.le_of_ble_eq_true rfl) ⟨Nat.le_of_ble_eq_true rfl, Nat.le_of_ble_eq_true rfl⟩ rfl rfl ⟨(Nat.le_of_ble_eq_true rfl), (Nat.le_of_ble_eq_true rfl)⟩ rfl (fun _ h => k_X6_roomyRows E M1 h) (fun r86 => ?_)
      refine zm_gd (fun hg => ?_)
      obtain rfl := of_decide_eq_true hg
      exact zm_loc [0, 2, 3] rfl (hb89 104 ⟨rfl, zm_L1 rfl⟩)
    · refine zm_aload_n 73 rfl dX10_home_72 rfl 0 rfl ?_
      refine zm_getC (a := 103) 76 rfl dX10_home_73 fl_X10_213 rfl (zm_L (sv := 1) rfl) (by decide) ?_
      refine zm_cV0ar 79 rfl dX10_home_76 ml_X10_246 rfl (zm_L1 rfl) rfl (Nat.le_of_ble_eq_true rfl) ⟨Nat.le_of_ble_eq_true rfl, Nat.le_of_ble_eq_true rfl⟩ rfl rfl ⟨(Nat.le_of_ble_eq_true rfl), (Nat.le_of_ble_eq_true rfl)⟩ rfl (fun _ h => k_X6_keptRows E M1 h) (fun r76 => ?_)
      refine zm_gd (fun hg => ?_)
      obtain rfl := of_decide_eq_true hg
      refine zm_goto 89 (by decide) dX10_home_79 ?_
      exact zm_loc [0, 2, 3] rfl (hb89 105 ⟨rfl, zm_L1 rfl⟩)
  refine zm_loc [3, 4, 2, 1, 0] rfl (zm_lpp (σ := (Int32 × Int32 × Int32)) (ε := (Int32 × Int32)) (step := fun s => f_X10_homeP_l11 M1 s.1 s.2.1 s.2.2) (fun s => [(0, .ref (E.2.1 + 1)), (1, .int a1), (2, .int s.1), (3, .int s.2.1), (4, .int s.2.2)]) (fun _ => M1) (fun D11 f11 hf11a hf11b hD11 s => ?_) (0, 0, 0))
  obtain ⟨l11_2, l11_3, l11_4⟩ := s
  show zm_V X (Y_X10_home false) E (zm_Q X E (Y_X10_home false).2.2.2.1.cells (Y_X10_home false).2.2.2.1.slots (zm_w 1) zm_ei) 13 4296 false (zm_w 1) 11 [(0, .ref (E.2.1 + 1)), (1, .int a1), (2, .int l11_2), (3, .int l11_3), (4, .int l11_4)] [] M1 (f_X10_homeP_l11 M1 l11_2 l11_3 l11_4) f11
  unfold f_X10_homeP_l11
  refine zm_iload 13 rfl dX10_home_11 4 rfl ?_
  refine zm_aload_n 14 rfl dX10_home_13 rfl 0 rfl ?_
  refine zm_getT 17 rfl dX10_home_14 fl_X10_60 rfl (zm_L (sv := 1) rfl) (fun t14 _ ht14 => ?_)
  refine zm_getI 20 rfl dX10_home_17 fl_X10_236 (zm_T_o ht14) (zm_T_l0 (sv := 1) ht14) ?_
  refine zm_icmp_ge 64 23 (by decide) rfl dX10_home_20 ?_ ?_
  · exact zm_loc [0, 1, 2, 3] rfl (zm_go (hf11b _) (zm_unb (hx64_11 l11_2 l11_3)))
  · refine zm_iload_n 24 rfl dX10_home_23 rfl 2 rfl ?_
    refine zm_iload 26 rfl dX10_home_24 4 rfl ?_
    refine zm_aload_n 27 rfl dX10_home_26 rfl 0 rfl ?_
    refine zm_getR (a := 11) 30 rfl dX10_home_27 fl_X10_32 rfl (zm_L (sv := 1) rfl) rfl (by decide) ?_
    refine zm_iload 32 rfl dX10_home_30 4 rfl ?_
    refine zm_cV1ir 35 rfl dX10_home_32 ml_X10_130 rfl (zm_L (sv := 1) rfl) rfl (Nat.le_of_ble_eq_true rfl) ⟨Nat.le_of_ble_eq_true rfl, Nat.le_of_ble_eq_true rfl⟩ rfl rfl ⟨(Nat.le_of_ble_eq_true rfl), (Nat.le_of_ble_eq_true rfl)⟩ rfl (fun _ h => k_X4_goal E 1 l11_4 M1 h) (fun r32 => ?_)
    refine zm_cS2ir 38 rfl dX10_home_35 ml_X10_239 (Nat.le_of_ble_eq_true rfl) ⟨Nat.le_of_ble_eq_true rfl, Nat.le_of_ble_eq_true rfl⟩ rfl rfl ⟨(Nat.le_of_ble_eq_true rfl), (Nat.le_of_ble_eq_true rfl)⟩ rfl (fun _ h => k_X6_step E l11_4 r32 M1 h) (fun r35 => ?_)
    refine zm_iadd 39 rfl dX10_home_38 ?_
    refine zm_nmi (fun x39 _ => ?_)
    refine zm_istore_n (lv' := [(2, .int x39), (0, .ref (E.2.1 + 1)), (1, .int a1), (3, .int l11_3), (4, .int l11_4)]) 40 rfl dX10_home_39 rfl (by decide) rfl ?_
    refine zm_iload_n 41 rfl dX10_home_40 rfl 3 rfl ?_
    refine zm_iload 43 rfl dX10_home_41 4 rfl ?_
    refine zm_aload_n 44 rfl dX10_home_43 rfl 1 rfl ?_
    refine zm_getT 47 rfl dX10_home_44 fl_X10_60 rfl (zm_L (sv := 1) rfl) (fun t44 _ ht44 => ?_)
    refine zm_getR (a := t44 + 3) 50 rfl dX10_home_47 fl_X10_127 (zm_T_o ht44) (zm_T_l0 (sv := 1) ht44) (zm_T_r ht44 2 (by decide)) (Nat.succ_ne_zero _) ?_
    refine zm_iload 52 rfl dX10_home_50 4 rfl ?_
    refine zm_iald 53 rfl dX10_home_52 (zm_T_a ht44 3 (by decide)) (zm_T_l (sv := 1) ht44 3 (by decide)) ?_
    refine zm_cS2ir 56 rfl dX10_home_53 ml_X10_239 (Nat.le_of_ble_eq_true rfl) ⟨Nat.le_of_ble_eq_true rfl, Nat.le_of_ble_eq_true rfl⟩ rfl rfl ⟨(Nat.le_of_ble_eq_true rfl), (Nat.le_of_ble_eq_true rfl)⟩ rfl (fun _ h => k_X6_step E l11_4 (M1.1 (t44 + 3) l11_4.toNatClampNeg) M1 h) (fun r53 => ?_)
    refine zm_iadd 57 rfl dX10_home_56 ?_
    refine zm_nmi (fun x57 _ => ?_)
    refine zm_istore_n (lv' := [(3, .int x57), (2, .int x39), (0, .ref (E.2.1 + 1)), (1, .int a1), (4, .int l11_4)]) 58 rfl dX10_home_57 rfl (by decide) rfl ?_
    refine zm_iinc (lv' := fun z => [(4, .int z), (3, .int x57), (2, .int x39), (0, .ref (E.2.1 + 1)), (1, .int a1)]) 61 rfl dX10_home_58 zi_1 4 rfl (by decide) (fun _ => rfl) (fun x58 _ => ?_)
    refine zm_goto 11 (by decide) dX10_home_61 ?_
    exact zm_loc [3, 4, 2, 1, 0] rfl (zm_go (hf11a _) (hD11 (x39, x57, x58)))
abbrev Y_X10_nearestE : zm_Y := (cX10_nearest, 2, RX10, { frames := 14, cells := 0, slots := 0, locals := 515 }, (some .int), false, "nearest")
noncomputable def f_X10_nearestE_b15  : Option Int32 :=
 none
noncomputable def f_X10_nearestE (a1 : Int32) (M : zm_Mem) : Option Int32 :=
  if a1 = (-1 : Int32) then (f_X10_nearestE_b15) else (zm_b1 (f_X10_isWork a1 M) <| fun r7 => if r7 = 0 then (some (-1)) else (f_X10_nearestE_b15))
set_option maxRecDepth 20000 in
set_option maxHeartbeats 4000000 in
theorem k_X10_nearestE (E : zm_E) (sv : Nat) (a1 : Int32) (M : zm_Mem) {r : Int32} (h : f_X10_nearestE a1 M = some r) : zm_Ct E (zm_w sv) (zm_w sv) yX10_nearest Y_X10_nearestE [.ref (E.2.1 + 1), .int a1] M (some (.int r)) M := by
  refine zm_methr (emb := zm_ei) (d := f_X10_nearestE a1 M) (by decide) rfl rfl (Nat.le_of_ble_eq_true rfl) h (fun X => ?_)
  show zm_V X Y_X10_nearestE E (zm_Q X E Y_X10_nearestE.2.2.2.1.cells Y_X10_nearestE.2.2.2.1.slots (zm_w sv) zm_ei) 0 0 false (zm_w sv) 0 [(0, .ref (E.2.1 + 1)), (1, .int a1)] [] M (f_X10_nearestE a1 M) (fun r => some (r, M))
  unfold f_X10_nearestE
  refine zm_iload_n 1 rfl dX10_nearest_0 rfl 1 rfl ?_
  refine zm_iconst 2 rfl dX10_nearest_1 zi_m1 ?_
  have hb15 : zm_V X Y_X10_nearestE E (zm_Q X E Y_X10_nearestE.2.2.2.1.cells Y_X10_nearestE.2.2.2.1.slots (zm_w sv) zm_ei) 0 0 false (zm_w sv) 15 [(0, .ref (E.2.1 + 1)), (1, .int a1)] [] M (f_X10_nearestE_b15) (fun r => some (r, M)) := by
    unfold f_X10_nearestE_b15
    exact zm_none
  refine zm_icmp_eq 15 5 (by decide) rfl dX10_nearest_2 ?_ ?_
  · exact zm_loc [0, 1] rfl (hb15)
  · refine zm_aload_n 6 rfl dX10_nearest_5 rfl 0 rfl ?_
    refine zm_iload_n 7 rfl dX10_nearest_6 rfl 1 rfl ?_
    refine zm_cV1ir 10 rfl dX10_nearest_7 ml_X10_121 rfl (zm_L (sv := sv) rfl) rfl (Nat.le_of_ble_eq_true rfl) ⟨Nat.le_of_ble_eq_true rfl, Nat.le_of_ble_eq_true rfl⟩ rfl rfl ⟨Nat.le_refl _, Nat.le_refl _⟩ rfl (fun _ h => k_X10_isWork E sv a1 M h) (fun r7 => ?_)
    refine zm_if_ne 15 13 (by decide) rfl dX10_nearest_10 ?_ ?_
    · refine zm_iconst 14 rfl dX10_nearest_13 zi_m1 ?_
      exact zm_iret dX10_nearest_14 rfl (Nat.le_refl _) (Nat.le_refl _) rfl
    · exact zm_loc [0, 1] rfl (hb15)
abbrev Y_X10_quarrelE : zm_Y := (cX10_quarrel, 3, RX10, { frames := 14, cells := 0, slots := 0, locals := 515 }, (some .int), false, "quarrel")
noncomputable def f_X10_quarrelE_b11  : Option Int32 :=
 none
noncomputable def f_X10_quarrelE (a1 : Int32) (M : zm_Mem) : Option Int32 :=
  if a1 = 0 then (f_X10_quarrelE_b11) else (if a1 = (1 : Int32) then (f_X10_quarrelE_b11) else (some (-1)))
set_option maxRecDepth 20000 in
set_option maxHeartbeats 4000000 in
theorem k_X10_quarrelE (E : zm_E) (sv : Nat) (a1 : Int32) (M : zm_Mem) {r : Int32} (h : f_X10_quarrelE a1 M = some r) : zm_Ct E (zm_w sv) (zm_w sv) yX10_quarrel Y_X10_quarrelE [.ref (E.2.1 + 1), .int a1] M (some (.int r)) M := by
  refine zm_methr (emb := zm_ei) (d := f_X10_quarrelE a1 M) (by decide) rfl rfl (Nat.le_of_ble_eq_true rfl) h (fun X => ?_)
  show zm_V X Y_X10_quarrelE E (zm_Q X E Y_X10_quarrelE.2.2.2.1.cells Y_X10_quarrelE.2.2.2.1.slots (zm_w sv) zm_ei) 0 0 false (zm_w sv) 0 [(0, .ref (E.2.1 + 1)), (1, .int a1)] [] M (f_X10_quarrelE a1 M) (fun r => some (r, M))
  unfold f_X10_quarrelE
  refine zm_iload_n 1 rfl dX10_quarrel_0 rfl 1 rfl ?_
  have hb11 : zm_V X Y_X10_quarrelE E (zm_Q X E Y_X10_quarrelE.2.2.2.1.cells Y_X10_quarrelE.2.2.2.1.slots (zm_w sv) zm_ei) 0 0 false (zm_w sv) 11 [(0, .ref (E.2.1 + 1)), (1, .int a1)] [] M (f_X10_quarrelE_b11) (fun r => some (r, M)) := by
    unfold f_X10_quarrelE_b11
    exact zm_none
  refine zm_if_eq 11 4 (by decide) rfl dX10_quarrel_1 ?_ ?_
  · exact zm_loc [0, 1] rfl (hb11)
  · refine zm_iload_n 5 rfl dX10_quarrel_4 rfl 1 rfl ?_
    refine zm_iconst 6 rfl dX10_quarrel_5 zi_1 ?_
    refine zm_icmp_eq 11 9 (by decide) rfl dX10_quarrel_6 ?_ ?_
    · exact zm_loc [0, 1] rfl (hb11)
    · refine zm_iconst 10 rfl dX10_quarrel_9 zi_m1 ?_
      exact zm_iret dX10_quarrel_10 rfl (Nat.le_refl _) (Nat.le_refl _) rfl
