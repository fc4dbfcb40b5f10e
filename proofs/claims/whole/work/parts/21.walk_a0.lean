abbrev Y_X0_size : zm_Y := (cX0_size, 1, RX0, { frames := 0, cells := 0, slots := 0, locals := 0 }, (some .int), false, "size")
noncomputable def f_X0_size  (M : zm_Mem) : Option Int32 :=
  some (M.1 16 7)
set_option maxRecDepth 20000 in
set_option maxHeartbeats 4000000 in
theorem k_X0_size (E : zm_E) (sv : Nat)  (M : zm_Mem) {r : Int32} (h : f_X0_size M = some r) : zm_Ct E (zm_w sv) (zm_w sv) yX0_size Y_X0_size [.ref (E.2.1 + 16)] M (some (.int r)) M := by
  refine zm_methr (emb := zm_ei) (d := f_X0_size M) (by decide) rfl rfl (Nat.le_of_ble_eq_true rfl) h (fun X => ?_)
  show zm_V X Y_X0_size E (zm_Q X E Y_X0_size.2.2.2.1.cells Y_X0_size.2.2.2.1.slots (zm_w sv) zm_ei) 0 0 false (zm_w sv) 0 [(0, .ref (E.2.1 + 16))] [] M (f_X0_size M) (fun r => some (r, M))
  unfold f_X0_size
  refine zm_aload_n 1 rfl dX0_size_0 rfl 0 rfl ?_
  refine zm_getI 4 rfl dX0_size_1 fl_X0_33 rfl (zm_L (sv := sv) rfl) ?_
  exact zm_iret dX0_size_4 rfl (Nat.le_refl _) (Nat.le_refl _) rfl
abbrev Y_X0_empty : zm_Y := (cX0_empty, 1, RX0, { frames := 0, cells := 0, slots := 0, locals := 0 }, none, false, "empty")
noncomputable def f_X0_empty  (M : zm_Mem) : Option (Unit × zm_Mem) :=
  zm_v (zm_sI M 16 7 0) <| fun M2 => some ((), M2)
set_option maxRecDepth 20000 in
set_option maxHeartbeats 4000000 in
theorem k_X0_empty (E : zm_E) (sv : Nat)  (M : zm_Mem) {r : Unit} {M' : zm_Mem} (h : f_X0_empty M = some (r, M')) : zm_Ct E (zm_w sv) (zm_w sv) yX0_empty Y_X0_empty [.ref (E.2.1 + 16)] M none M' := by
  refine zm_meth (emb := zm_ev) (d := f_X0_empty M) (by decide) rfl rfl (Nat.le_of_ble_eq_true rfl) h (fun X => ?_)
  show zm_V X Y_X0_empty E (zm_Q X E Y_X0_empty.2.2.2.1.cells Y_X0_empty.2.2.2.1.slots (zm_w sv) zm_ev) 0 0 false (zm_w sv) 0 [(0, .ref (E.2.1 + 16))] [] M (f_X0_empty M) some
  unfold f_X0_empty
  refine zm_aload_n 1 rfl dX0_empty_0 rfl 0 rfl ?_
  refine zm_iconst 2 rfl dX0_empty_1 zi_0 ?_
  refine zm_putI 5 rfl dX0_empty_2 fp_X0_33 rfl (zm_L (sv := sv) rfl) rfl rfl (fun M2 _ => ?_)
  exact zm_vret dX0_empty_5 rfl (Nat.le_refl _) (Nat.le_refl _) rfl
abbrev Y_X0_addList : zm_Y := (cX0_addList, 4, RX0, { frames := 0, cells := 0, slots := 0, locals := 0 }, (some .int), false, "addList")
noncomputable def f_X0_addList (a1 : Int32) (a2 : Int32) (a3 : Int32) (M : zm_Mem) : Option (Int32 × zm_Mem) :=
  if (M.1 16 7) < (20 : Int32) then (zm_ck (zm_in (M.1 16 7) 20) <| zm_v (zm_sI M 17 (M.1 16 7).toNatClampNeg a1) <| fun M20 => zm_ck (zm_in (M20.1 16 7) 20) <| zm_v (zm_sI M20 18 (M20.1 16 7).toNatClampNeg a2) <| fun M30 => zm_ck (zm_in (M30.1 16 7) 20) <| zm_v (zm_sI M30 19 (M30.1 16 7).toNatClampNeg a3) <| fun M40 => zm_v (zm_sI M40 16 7 ((M40.1 16 7) + 1)) <| fun M48 => some ((M48.1 16 7) - 1, M48)) else (some ((-1), M))
set_option maxRecDepth 20000 in
set_option maxHeartbeats 4000000 in
theorem k_X0_addList (E : zm_E) (sv : Nat) (a1 : Int32) (a2 : Int32) (a3 : Int32) (M : zm_Mem) {r : Int32} {M' : zm_Mem} (h : f_X0_addList a1 a2 a3 M = some (r, M')) : zm_Ct E (zm_w sv) (zm_w sv) yX0_addList Y_X0_addList [.ref (E.2.1 + 16), .int a1, .int a2, .int a3] M (some (.int r)) M' := by
  refine zm_meth (emb := zm_ei) (d := f_X0_addList a1 a2 a3 M) (by decide) rfl rfl (Nat.le_of_ble_eq_true rfl) h (fun X => ?_)
  show zm_V X Y_X0_addList E (zm_Q X E Y_X0_addList.2.2.2.1.cells Y_X0_addList.2.2.2.1.slots (zm_w sv) zm_ei) 0 0 false (zm_w sv) 0 [(0, .ref (E.2.1 + 16)), (1, .int a1), (2, .int a2), (3, .int a3)] [] M (f_X0_addList a1 a2 a3 M) some
  unfold f_X0_addList
  refine zm_aload_n 1 rfl dX0_addList_0 rfl 0 rfl ?_
  refine zm_getI 4 rfl dX0_addList_1 fl_X0_33 rfl (zm_L (sv := sv) rfl) ?_
  refine zm_bipush 6 rfl dX0_addList_4 zb_20 ?_
  refine zm_icmp_lt 11 9 (by decide) rfl dX0_addList_6 ?_ ?_
  · refine zm_aload_n 12 rfl dX0_addList_11 rfl 0 rfl ?_
    refine zm_getR (a := 17) 15 rfl dX0_addList_12 fl_X0_11 rfl (zm_L (sv := sv) rfl) rfl (by decide) ?_
    refine zm_aload_n 16 rfl dX0_addList_15 rfl 0 rfl ?_
    refine zm_getI 19 rfl dX0_addList_16 fl_X0_33 rfl (zm_L (sv := sv) rfl) ?_
    refine zm_iload_n 20 rfl dX0_addList_19 rfl 1 rfl ?_
    refine zm_iast 21 rfl dX0_addList_20 rfl (zm_L (sv := sv) rfl) (fun M20 _ => ?_)
    refine zm_aload_n 22 rfl dX0_addList_21 rfl 0 rfl ?_
    refine zm_getR (a := 18) 25 rfl dX0_addList_22 fl_X0_15 rfl (zm_L (sv := sv) rfl) rfl (by decide) ?_
    refine zm_aload_n 26 rfl dX0_addList_25 rfl 0 rfl ?_
    refine zm_getI 29 rfl dX0_addList_26 fl_X0_33 rfl (zm_L (sv := sv) rfl) ?_
    refine zm_iload_n 30 rfl dX0_addList_29 rfl 2 rfl ?_
    refine zm_iast 31 rfl dX0_addList_30 rfl (zm_L (sv := sv) rfl) (fun M30 _ => ?_)
    refine zm_aload_n 32 rfl dX0_addList_31 rfl 0 rfl ?_
    refine zm_getR (a := 19) 35 rfl dX0_addList_32 fl_X0_18 rfl (zm_L (sv := sv) rfl) rfl (by decide) ?_
    refine zm_aload_n 36 rfl dX0_addList_35 rfl 0 rfl ?_
    refine zm_getI 39 rfl dX0_addList_36 fl_X0_33 rfl (zm_L (sv := sv) rfl) ?_
    refine zm_iload_n 40 rfl dX0_addList_39 rfl 3 rfl ?_
    refine zm_iast 41 rfl dX0_addList_40 rfl (zm_L (sv := sv) rfl) (fun M40 _ => ?_)
    refine zm_aload_n 42 rfl dX0_addList_41 rfl 0 rfl ?_
    refine zm_dup 43 rfl dX0_addList_42 rfl ?_
    refine zm_getI 46 rfl dX0_addList_43 fl_X0_33 rfl (zm_L (sv := sv) rfl) ?_
    refine zm_iconst 47 rfl dX0_addList_46 zi_1 ?_
    refine zm_iadd 48 rfl dX0_addList_47 ?_
    refine zm_putI 51 rfl dX0_addList_48 fp_X0_33 rfl (zm_L (sv := sv) rfl) rfl rfl (fun M48 _ => ?_)
    refine zm_aload_n 52 rfl dX0_addList_51 rfl 0 rfl ?_
    refine zm_getI 55 rfl dX0_addList_52 fl_X0_33 rfl (zm_L (sv := sv) rfl) ?_
    refine zm_iconst 56 rfl dX0_addList_55 zi_1 ?_
    refine zm_isub 57 rfl dX0_addList_56 ?_
    exact zm_iret dX0_addList_57 rfl (Nat.le_refl _) (Nat.le_refl _) rfl
  · refine zm_iconst 10 rfl dX0_addList_9 zi_m1 ?_
    exact zm_iret dX0_addList_10 rfl (Nat.le_refl _) (Nat.le_refl _) rfl
abbrev Y_X0_waysWith : zm_Y := (cX0_waysWith, 2, RX0, { frames := 0, cells := 0, slots := 0, locals := 0 }, (some .int), false, "waysWith")
noncomputable def f_X0_waysWith (a1 : Int32) (M : zm_Mem) : Option Int32 :=
  zm_ck (zm_in a1 21) <| some (M.1 21 a1.toNatClampNeg)
set_option maxRecDepth 20000 in
set_option maxHeartbeats 4000000 in
theorem k_X0_waysWith (E : zm_E) (sv : Nat) (a1 : Int32) (M : zm_Mem) {r : Int32} (h : f_X0_waysWith a1 M = some r) : zm_Ct E (zm_w sv) (zm_w sv) yX0_waysWith Y_X0_waysWith [.ref (E.2.1 + 16), .int a1] M (some (.int r)) M := by
  refine zm_methr (emb := zm_ei) (d := f_X0_waysWith a1 M) (by decide) rfl rfl (Nat.le_of_ble_eq_true rfl) h (fun X => ?_)
  show zm_V X Y_X0_waysWith E (zm_Q X E Y_X0_waysWith.2.2.2.1.cells Y_X0_waysWith.2.2.2.1.slots (zm_w sv) zm_ei) 0 0 false (zm_w sv) 0 [(0, .ref (E.2.1 + 16)), (1, .int a1)] [] M (f_X0_waysWith a1 M) (fun r => some (r, M))
  unfold f_X0_waysWith
  refine zm_aload_n 1 rfl dX0_waysWith_0 rfl 0 rfl ?_
  refine zm_getR (a := 21) 4 rfl dX0_waysWith_1 fl_X0_24 rfl (zm_L (sv := sv) rfl) rfl (by decide) ?_
  refine zm_iload_n 5 rfl dX0_waysWith_4 rfl 1 rfl ?_
  refine zm_iald 6 rfl dX0_waysWith_5 rfl (zm_L (sv := sv) rfl) ?_
  exact zm_iret dX0_waysWith_6 rfl (Nat.le_refl _) (Nat.le_refl _) rfl
abbrev Y_X0_fewestWrong : zm_Y := (cX0_fewestWrong, 1, RX0, { frames := 0, cells := 0, slots := 0, locals := 0 }, (some .int), false, "fewestWrong")
noncomputable def f_X0_fewestWrong  (M : zm_Mem) : Option Int32 :=
  some (M.1 16 8)
set_option maxRecDepth 20000 in
set_option maxHeartbeats 4000000 in
theorem k_X0_fewestWrong (E : zm_E) (sv : Nat)  (M : zm_Mem) {r : Int32} (h : f_X0_fewestWrong M = some r) : zm_Ct E (zm_w sv) (zm_w sv) yX0_fewestWrong Y_X0_fewestWrong [.ref (E.2.1 + 16)] M (some (.int r)) M := by
  refine zm_methr (emb := zm_ei) (d := f_X0_fewestWrong M) (by decide) rfl rfl (Nat.le_of_ble_eq_true rfl) h (fun X => ?_)
  show zm_V X Y_X0_fewestWrong E (zm_Q X E Y_X0_fewestWrong.2.2.2.1.cells Y_X0_fewestWrong.2.2.2.1.slots (zm_w sv) zm_ei) 0 0 false (zm_w sv) 0 [(0, .ref (E.2.1 + 16))] [] M (f_X0_fewestWrong M) (fun r => some (r, M))
  unfold f_X0_fewestWrong
  refine zm_aload_n 1 rfl dX0_fewestWrong_0 rfl 0 rfl ?_
  refine zm_getI 4 rfl dX0_fewestWrong_1 fl_X0_37 rfl (zm_L (sv := sv) rfl) ?_
  exact zm_iret dX0_fewestWrong_4 rfl (Nat.le_refl _) (Nat.le_refl _) rfl
abbrev Y_X0_couldHave : zm_Y := (cX0_couldHave, 2, RX0, { frames := 0, cells := 0, slots := 0, locals := 0 }, (some .int), false, "couldHave")
noncomputable def f_X0_couldHave (a1 : Int32) (M : zm_Mem) : Option Int32 :=
  zm_ck (zm_in a1 6) <| some (M.1 23 a1.toNatClampNeg)
set_option maxRecDepth 20000 in
set_option maxHeartbeats 4000000 in
theorem k_X0_couldHave (E : zm_E) (sv : Nat) (a1 : Int32) (M : zm_Mem) {r : Int32} (h : f_X0_couldHave a1 M = some r) : zm_Ct E (zm_w sv) (zm_w sv) yX0_couldHave Y_X0_couldHave [.ref (E.2.1 + 16), .int a1] M (some (.int r)) M := by
  refine zm_methr (emb := zm_ei) (d := f_X0_couldHave a1 M) (by decide) rfl rfl (Nat.le_of_ble_eq_true rfl) h (fun X => ?_)
  show zm_V X Y_X0_couldHave E (zm_Q X E Y_X0_couldHave.2.2.2.1.cells Y_X0_couldHave.2.2.2.1.slots (zm_w sv) zm_ei) 0 0 false (zm_w sv) 0 [(0, .ref (E.2.1 + 16)), (1, .int a1)] [] M (f_X0_couldHave a1 M) (fun r => some (r, M))
  unfold f_X0_couldHave
  refine zm_aload_n 1 rfl dX0_couldHave_0 rfl 0 rfl ?_
  refine zm_getR (a := 23) 4 rfl dX0_couldHave_1 fl_X0_30 rfl (zm_L (sv := sv) rfl) rfl (by decide) ?_
  refine zm_iload_n 5 rfl dX0_couldHave_4 rfl 1 rfl ?_
  refine zm_iald 6 rfl dX0_couldHave_5 rfl (zm_L (sv := sv) rfl) ?_
  exact zm_iret dX0_couldHave_6 rfl (Nat.le_refl _) (Nat.le_refl _) rfl
abbrev Y_X0_isRight : zm_Y := (cX0_isRight, 4, RX0, { frames := 0, cells := 0, slots := 0, locals := 0 }, (some .boolean), false, "isRight")
noncomputable def f_X0_isRight (a1 : Nat) (a2 : Int32) (a3 : Int32) (M : zm_Mem) : Option Int32 :=
  zm_ck (zm_in a2 20) <| zm_v (M.1 18 a2.toNatClampNeg) <| fun x6 => if x6 = 0 then (zm_ck (zm_in a3 6) <| zm_ck (zm_in a2 20) <| if (M.1 (a1 + 5) a3.toNatClampNeg) = (M.1 19 a2.toNatClampNeg) then (some 1) else (some 0)) else if x6 = 1 then (zm_ck (zm_in a3 6) <| zm_ck (zm_in a2 20) <| if (M.1 (a1 + 6) a3.toNatClampNeg) = (M.1 19 a2.toNatClampNeg) then (some 1) else (some 0)) else (zm_ck (zm_in a3 6) <| zm_ck (zm_in a2 20) <| if (M.1 (a1 + 3) a3.toNatClampNeg) = (M.1 19 a2.toNatClampNeg) then (some 1) else (some 0))
set_option maxRecDepth 20000 in
set_option maxHeartbeats 4000000 in
theorem k_X0_isRight (E : zm_E) (sv : Nat) (a1 : Nat) (a2 : Int32) (a3 : Int32) (ha1 : zm_isT a1 = true) (M : zm_Mem) {r : Int32} (h : f_X0_isRight a1 a2 a3 M = some r) : zm_Ct E (zm_w sv) (zm_w sv) yX0_isRight Y_X0_isRight [.ref (E.2.1 + 16), .ref (E.2.1 + a1), .int a2, .int a3] M (some (.int r)) M := by
  refine zm_methr (emb := zm_ei) (d := f_X0_isRight a1 a2 a3 M) (by decide) rfl rfl (Nat.le_of_ble_eq_true rfl) h (fun X => ?_)
  show zm_V X Y_X0_isRight E (zm_Q X E Y_X0_isRight.2.2.2.1.cells Y_X0_isRight.2.2.2.1.slots (zm_w sv) zm_ei) 0 0 false (zm_w sv) 0 [(0, .ref (E.2.1 + 16)), (1, .ref (E.2.1 + a1)), (2, .int a2), (3, .int a3)] [] M (f_X0_isRight a1 a2 a3 M) (fun r => some (r, M))
  unfold f_X0_isRight
  refine zm_aload_n 1 rfl dX0_isRight_0 rfl 0 rfl ?_
  refine zm_getR (a := 18) 4 rfl dX0_isRight_1 fl_X0_15 rfl (zm_L (sv := sv) rfl) rfl (by decide) ?_
  refine zm_iload_n 5 rfl dX0_isRight_4 rfl 2 rfl ?_
  refine zm_iald 6 rfl dX0_isRight_5 rfl (zm_L (sv := sv) rfl) ?_
  refine zm_nmi (fun x6 _ => ?_)
  refine zm_case (fun hc => ?_) (fun hc0_6 => ?_)
  · refine zm_lsIn (off := 26) 32 hc dX0_isRight_6 (by decide) (by decide) (by decide) ?_
    refine zm_aload_n 33 rfl dX0_isRight_32 rfl 1 rfl ?_
    refine zm_getR (a := a1 + 5) 36 rfl dX0_isRight_33 fl_X0_59 (zm_T_o ha1) (zm_T_l0 (sv := sv) ha1) (zm_T_r ha1 4 (by decide)) (Nat.succ_ne_zero _) ?_
    refine zm_iload_n 37 rfl dX0_isRight_36 rfl 3 rfl ?_
    refine zm_iald 38 rfl dX0_isRight_37 (zm_T_a ha1 5 (by decide)) (zm_T_l (sv := sv) ha1 5 (by decide)) ?_
    refine zm_aload_n 39 rfl dX0_isRight_38 rfl 0 rfl ?_
    refine zm_getR (a := 19) 42 rfl dX0_isRight_39 fl_X0_18 rfl (zm_L (sv := sv) rfl) rfl (by decide) ?_
    refine zm_iload_n 43 rfl dX0_isRight_42 rfl 2 rfl ?_
    refine zm_iald 44 rfl dX0_isRight_43 rfl (zm_L (sv := sv) rfl) ?_
    refine zm_icmp_ne 51 47 (by decide) rfl dX0_isRight_44 ?_ ?_
    · refine zm_iconst 48 rfl dX0_isRight_47 zi_1 ?_
      refine zm_goto 52 (by decide) dX0_isRight_48 ?_
      exact zm_zret dX0_isRight_52 rfl rfl (Nat.le_refl _) (Nat.le_refl _) rfl
    · refine zm_iconst 52 rfl dX0_isRight_51 zi_0 ?_
      exact zm_zret dX0_isRight_52 rfl rfl (Nat.le_refl _) (Nat.le_refl _) rfl
  refine zm_case (fun hc => ?_) (fun hc1_6 => ?_)
  · refine zm_lsIn (off := 47) 53 hc dX0_isRight_6 (by decide) (by decide) (by decide) ?_
    refine zm_aload_n 54 rfl dX0_isRight_53 rfl 1 rfl ?_
    refine zm_getR (a := a1 + 6) 57 rfl dX0_isRight_54 fl_X0_62 (zm_T_o ha1) (zm_T_l0 (sv := sv) ha1) (zm_T_r ha1 5 (by decide)) (Nat.succ_ne_zero _) ?_
    refine zm_iload_n 58 rfl dX0_isRight_57 rfl 3 rfl ?_
    refine zm_iald 59 rfl dX0_isRight_58 (zm_T_a ha1 6 (by decide)) (zm_T_l (sv := sv) ha1 6 (by decide)) ?_
    refine zm_aload_n 60 rfl dX0_isRight_59 rfl 0 rfl ?_
    refine zm_getR (a := 19) 63 rfl dX0_isRight_60 fl_X0_18 rfl (zm_L (sv := sv) rfl) rfl (by decide) ?_
    refine zm_iload_n 64 rfl dX0_isRight_63 rfl 2 rfl ?_
    refine zm_iald 65 rfl dX0_isRight_64 rfl (zm_L (sv := sv) rfl) ?_
    refine zm_icmp_ne 72 68 (by decide) rfl dX0_isRight_65 ?_ ?_
    · refine zm_iconst 69 rfl dX0_isRight_68 zi_1 ?_
      refine zm_goto 73 (by decide) dX0_isRight_69 ?_
      exact zm_zret dX0_isRight_73 rfl rfl (Nat.le_refl _) (Nat.le_refl _) rfl
    · refine zm_iconst 73 rfl dX0_isRight_72 zi_0 ?_
      exact zm_zret dX0_isRight_73 rfl rfl (Nat.le_refl _) (Nat.le_refl _) rfl
  refine zm_lsIn (off := 68) 74 rfl dX0_isRight_6 (by decide) ((lv_osw hc0_6 (by decide)).trans ((lv_osw hc1_6 (by decide)).trans rfl)) (by decide) ?_
  refine zm_aload_n 75 rfl dX0_isRight_74 rfl 1 rfl ?_
  refine zm_getR (a := a1 + 3) 78 rfl dX0_isRight_75 fl_X0_65 (zm_T_o ha1) (zm_T_l0 (sv := sv) ha1) (zm_T_r ha1 2 (by decide)) (Nat.succ_ne_zero _) ?_
  refine zm_iload_n 79 rfl dX0_isRight_78 rfl 3 rfl ?_
  refine zm_iald 80 rfl dX0_isRight_79 (zm_T_a ha1 3 (by decide)) (zm_T_l (sv := sv) ha1 3 (by decide)) ?_
  refine zm_aload_n 81 rfl dX0_isRight_80 rfl 0 rfl ?_
  refine zm_getR (a := 19) 84 rfl dX0_isRight_81 fl_X0_18 rfl (zm_L (sv := sv) rfl) rfl (by decide) ?_
  refine zm_iload_n 85 rfl dX0_isRight_84 rfl 2 rfl ?_
  refine zm_iald 86 rfl dX0_isRight_85 rfl (zm_L (sv := sv) rfl) ?_
  refine zm_icmp_ne 93 89 (by decide) rfl dX0_isRight_86 ?_ ?_
  · refine zm_iconst 90 rfl dX0_isRight_89 zi_1 ?_
    refine zm_goto 94 (by decide) dX0_isRight_90 ?_
    exact zm_zret dX0_isRight_94 rfl rfl (Nat.le_refl _) (Nat.le_refl _) rfl
  · refine zm_iconst 94 rfl dX0_isRight_93 zi_0 ?_
    exact zm_zret dX0_isRight_94 rfl rfl (Nat.le_refl _) (Nat.le_refl _) rfl
abbrev Y_X0_keepWay : zm_Y := (cX0_keepWay, 4, RX0, { frames := 1, cells := 0, slots := 0, locals := 23 }, none, false, "keepWay")
noncomputable def f_X0_keepWay_l48 (a1 : Int32) (l48_3 : Int32) (L48 : zm_Mem) : Option ((Int32 × zm_Mem) ⊕ zm_Mem) :=
 if a1 ≤ l48_3 then (some (.inr L48)) else (zm_ck (zm_in l48_3 6) <| zm_ck (zm_in l48_3 6) <| zm_ck (zm_in l48_3 6) <| zm_v (zm_sI L48 23 l48_3.toNatClampNeg ((L48.1 23 l48_3.toNatClampNeg) ||| ((1 : Int32) <<< ((L48.1 22 l48_3.toNatClampNeg) &&& 31)))) <| fun M69 => zm_v (l48_3 + 1) <| fun x70 => some (.inl (x70, M69)))
noncomputable def f_X0_keepWay_b38 (a1 : Int32) (a2 : Int32) (M38 : zm_Mem) : Option (Unit × zm_Mem) :=
 if a2 = (M38.1 16 8) then ((zm_lp (fun s => f_X0_keepWay_l48 a1 s.1 s.2) (0, M38)).bind (fun e76 => some ((), e76))) else (some ((), M38))
noncomputable def f_X0_keepWay (a1 : Int32) (a2 : Int32) (M : zm_Mem) : Option (Unit × zm_Mem) :=
  if a2 ≤ (20 : Int32) then (zm_ck (zm_in a2 21) <| zm_ck (zm_in a2 21) <| zm_v (zm_sI M 21 a2.toNatClampNeg ((M.1 21 a2.toNatClampNeg) + 1)) <| fun M16 => if (M16.1 16 8) ≤ a2 then (f_X0_keepWay_b38 a1 a2 M16) else (zm_v (zm_sI M16 16 8 a2) <| fun M27 => zm_b2 (f_J7_fill_53178 23 0 M27) <| fun _ M35 => f_X0_keepWay_b38 a1 a2 M35)) else (some ((), M))
set_option maxRecDepth 20000 in
set_option maxHeartbeats 4000000 in
theorem k_X0_keepWay (E : zm_E) (sv : Nat) (a1 : Int32) (a2 : Int32) (M : zm_Mem) {r : Unit} {M' : zm_Mem} (h : f_X0_keepWay a1 a2 M = some (r, M')) : zm_Ct E (zm_w sv) (zm_w sv) yX0_keepWay Y_X0_keepWay [.ref (E.2.1 + 16), .int a1, .int a2] M none M' := by
  refine zm_meth (emb := zm_ev) (d := f_X0_keepWay a1 a2 M) (by decide) rfl rfl (Nat.le_of_ble_eq_true rfl) h (fun X => ?_)
  show zm_V X Y_X0_keepWay E (zm_Q X E Y_X0_keepWay.2.2.2.1.cells Y_X0_keepWay.2.2.2.1.slots (zm_w sv) zm_ev) 0 0 false (zm_w sv) 0 [(0, .ref (E.2.1 + 16)), (1, .int a1), (2, .int a2)] [] M (f_X0_keepWay a1 a2 M) some
  unfold f_X0_keepWay
  refine zm_iload_n 1 rfl dX0_keepWay_0 rfl 2 rfl ?_
  refine zm_bipush 3 rfl dX0_keepWay_1 zb_20 ?_
  refine zm_icmp_le 7 6 (by decide) rfl dX0_keepWay_3 ?_ ?_
  · refine zm_aload_n 8 rfl dX0_keepWay_7 rfl 0 rfl ?_
    refine zm_getR (a := 21) 11 rfl dX0_keepWay_8 fl_X0_24 rfl (zm_L (sv := sv) rfl) rfl (by decide) ?_
    refine zm_iload_n 12 rfl dX0_keepWay_11 rfl 2 rfl ?_
    refine zm_dup2 13 rfl dX0_keepWay_12 rfl rfl ?_
    refine zm_iald 14 rfl dX0_keepWay_13 rfl (zm_L (sv := sv) rfl) ?_
    refine zm_iconst 15 rfl dX0_keepWay_14 zi_1 ?_
    refine zm_iadd 16 rfl dX0_keepWay_15 ?_
    refine zm_iast 17 rfl dX0_keepWay_16 rfl (zm_L (sv := sv) rfl) (fun M16 _ => ?_)
    refine zm_iload_n 18 rfl dX0_keepWay_17 rfl 2 rfl ?_
    refine zm_aload_n 19 rfl dX0_keepWay_18 rfl 0 rfl ?_
    refine zm_getI 22 rfl dX0_keepWay_19 fl_X0_37 rfl (zm_L (sv := sv) rfl) ?_
    have hb38 : ∀ (M38 : zm_Mem), zm_V X Y_X0_keepWay E (zm_Q X E Y_X0_keepWay.2.2.2.1.cells Y_X0_keepWay.2.2.2.1.slots (zm_w sv) zm_ev) 0 0 false (zm_w sv) 38 [(0, .ref (E.2.1 + 16)), (1, .int a1), (2, .int a2)] [] M38 (f_X0_keepWay_b38 a1 a2 M38) some := by
      intro M38
      unfold f_X0_keepWay_b38
      refine zm_iload_n 39 rfl dX0_keepWay_38 rfl 2 rfl ?_
      refine zm_aload_n 40 rfl dX0_keepWay_39 rfl 0 rfl ?_
      refine zm_getI 43 rfl dX0_keepWay_40 fl_X0_37 rfl (zm_L (sv := sv) rfl) ?_
      refine zm_icmp_ne 76 46 (by decide) rfl dX0_keepWay_43 ?_ ?_
      · refine zm_iconst 47 rfl dX0_keepWay_46 zi_0 ?_
        refine zm_istore_n (lv' := [(3, .int 0), (0, .ref (E.2.1 + 16)), (1, .int a1), (2, .int a2)]) 48 rfl dX0_keepWay_47 rfl (by decide) rfl ?_
        have hx76_48 : ∀ (N76 : zm_Mem), zm_V X Y_X0_keepWay E (zm_Q X E Y_X0_keepWay.2.2.2.1.cells Y_X0_keepWay.2.2.2.1.slots (zm_w sv) zm_ev) 0 0 false (zm_w sv) 76 [] [] N76 (some ((), N76)) some := by
          intro N76
          exact zm_vret dX0_keepWay_76 rfl (Nat.le_refl _) (Nat.le_refl _) rfl
        refine zm_loc [1, 2, 0] rfl (zm_lpp (σ := (Int32 × zm_Mem)) (ε := zm_Mem) (step := fun s => f_X0_keepWay_l48 a1 s.1 s.2) (fun s => [(0, .ref (E.2.1 + 16)), (1, .int a1), (3, .int s.1)]) (fun s => s.2) (fun D48 f48 hf48a hf48b hD48 s => ?_) (0, M38))
        obtain ⟨l48_3, L48⟩ := s
        show zm_V X Y_X0_keepWay E (zm_Q X E Y_X0_keepWay.2.2.2.1.cells Y_X0_keepWay.2.2.2.1.slots (zm_w sv) zm_ev) 0 0 false (zm_w sv) 48 [(0, .ref (E.2.1 + 16)), (1, .int a1), (3, .int l48_3)] [] L48 (f_X0_keepWay_l48 a1 l48_3 L48) f48
        unfold f_X0_keepWay_l48
        refine zm_iload_n 49 rfl dX0_keepWay_48 rfl 2 rfl ?_
        refine zm_iload_n 50 rfl dX0_keepWay_49 rfl 1 rfl ?_
        refine zm_icmp_ge 76 53 (by decide) rfl dX0_keepWay_50 ?_ ?_
        · exact zm_loc [] rfl (zm_go (hf48b _) (zm_unb (hx76_48 L48)))
        · refine zm_aload_n 54 rfl dX0_keepWay_53 rfl 0 rfl ?_
          refine zm_getR (a := 23) 57 rfl dX0_keepWay_54 fl_X0_30 rfl (zm_L (sv := sv) rfl) rfl (by decide) ?_
          refine zm_iload_n 58 rfl dX0_keepWay_57 rfl 2 rfl ?_
          refine zm_dup2 59 rfl dX0_keepWay_58 rfl rfl ?_
          refine zm_iald 60 rfl dX0_keepWay_59 rfl (zm_L (sv := sv) rfl) ?_
          refine zm_iconst 61 rfl dX0_keepWay_60 zi_1 ?_
          refine zm_aload_n 62 rfl dX0_keepWay_61 rfl 0 rfl ?_
          refine zm_getR (a := 22) 65 rfl dX0_keepWay_62 fl_X0_27 rfl (zm_L (sv := sv) rfl) rfl (by decide) ?_
          refine zm_iload_n 66 rfl dX0_keepWay_65 rfl 2 rfl ?_
          refine zm_iald 67 rfl dX0_keepWay_66 rfl (zm_L (sv := sv) rfl) ?_
          refine zm_ishl 68 rfl dX0_keepWay_67 ?_
          refine zm_ior 69 rfl dX0_keepWay_68 ?_
          refine zm_iast 70 rfl dX0_keepWay_69 rfl (zm_L (sv := sv) rfl) (fun M69 _ => ?_)
          refine zm_iinc (lv' := fun z => [(3, .int z), (0, .ref (E.2.1 + 16)), (1, .int a1)]) 73 rfl dX0_keepWay_70 zi_1 2 rfl (by decide) (fun _ => rfl) (fun x70 _ => ?_)
          refine zm_goto 48 (by decide) dX0_keepWay_73 ?_
          exact zm_loc [1, 2, 0] rfl (zm_go (hf48a _) (hD48 (x70, M69)))
      · exact zm_vret dX0_keepWay_76 rfl (Nat.le_refl _) (Nat.le_refl _) rfl
    refine zm_icmp_ge 38 25 (by decide) rfl dX0_keepWay_22 ?_ ?_
    · exact zm_loc [0, 1, 2] rfl (hb38 M16)
    · refine zm_aload_n 26 rfl dX0_keepWay_25 rfl 0 rfl ?_
      refine zm_iload_n 27 rfl dX0_keepWay_26 rfl 2 rfl ?_
      refine zm_putI 30 rfl dX0_keepWay_27 fp_X0_37 rfl (zm_L (sv := sv) rfl) rfl rfl (fun M27 _ => ?_)
      refine zm_aload_n 31 rfl dX0_keepWay_30 rfl 0 rfl ?_
      refine zm_getR (a := 23) 34 rfl dX0_keepWay_31 fl_X0_30 rfl (zm_L (sv := sv) rfl) rfl (by decide) ?_
      refine zm_iconst 35 rfl dX0_keepWay_34 zi_0 ?_
      refine zm_cS2v 38 rfl dX0_keepWay_35 ml_X0_40 (Nat.le_of_ble_eq_true rfl) ⟨Nat.le_of_ble_eq_true rfl, Nat.le_of_ble_eq_true rfl⟩ rfl rfl ⟨Nat.le_refl _, Nat.le_refl _⟩ rfl (fun _ _ h => k_J7_fill_53178 E sv 23 0 ⟨rfl, (zm_L (sv := sv) rfl)⟩ M27 h) (fun _ M35 => ?_)
      exact zm_loc [0, 1, 2] rfl (hb38 M35)
  · exact zm_vret dX0_keepWay_6 rfl (Nat.le_refl _) (Nat.le_refl _) rfl
abbrev Y_X0_pack (dp : Nat) : zm_Y := (cX0_pack, 6, RX0, { frames := 2 + dp, cells := 0, slots := 0, locals := 46 + 40 * dp }, none, false, "pack")
noncomputable def f_X0_pack_b11 (a1 : Int32) (a4 : Int32) (M : zm_Mem) : Option (Unit × zm_Mem) :=
 zm_b2 (f_X0_keepWay a1 a4 M) <| fun _ M15 => some ((), M15)
noncomputable def f_X0_pack_b74_22 (l22_5 : Int32) (M74 : zm_Mem) : Option ((Int32 × zm_Mem) ⊕ zm_Mem) :=
 zm_v (l22_5 + 1) <| fun x74 => some (.inl (x74, M74))
noncomputable def f_X0_pack_l22 (rec : (Nat → Int32 → Int32 → Int32 → Int32 → zm_Mem → Option (Unit × zm_Mem))) (a1 : Int32) (a2 : Int32) (a3 : Int32) (a4 : Int32) (l22_5 : Int32) (L22 : zm_Mem) : Option ((Int32 × zm_Mem) ⊕ zm_Mem) :=
 if a1 ≤ l22_5 then (some (.inr L22)) else (if ((a3 >>> (l22_5 &&& 31)) &&& 1) = 0 then (zm_ck (zm_in a2 6) <| zm_v (zm_sI L22 22 a2.toNatClampNeg l22_5) <| fun M44 => zm_ck (zm_in ((a2 * 6) + l22_5) 36) <| zm_b2 (rec 0 a1 (a2 + 1) (a3 ||| ((1 : Int32) <<< (l22_5 &&& 31))) (a4 + (M44.1 20 ((a2 * 6) + l22_5).toNatClampNeg)) M44) <| fun _ M71 => f_X0_pack_b74_22 l22_5 M71) else (f_X0_pack_b74_22 l22_5 L22))
noncomputable def f_X0_pack (rec : (Nat → Int32 → Int32 → Int32 → Int32 → zm_Mem → Option (Unit × zm_Mem))) (a1 : Int32) (a2 : Int32) (a3 : Int32) (a4 : Int32) (M : zm_Mem) : Option (Unit × zm_Mem) :=
  if a1 ≤ a2 then (f_X0_pack_b11 a1 a4 M) else (if a2 < (6 : Int32) then ((zm_lp (fun s => f_X0_pack_l22 rec a1 a2 a3 a4 s.1 s.2) (0, M)).bind (fun e80 => some ((), e80))) else (f_X0_pack_b11 a1 a4 M))
set_option maxRecDepth 20000 in
set_option maxHeartbeats 4000000 in
theorem kb_X0_pack (E : zm_E) (sv : Nat) (dp : Nat) (rec : (Nat → Int32 → Int32 → Int32 → Int32 → zm_Mem → Option (Unit × zm_Mem))) (hr0 : ∀ (a1 : Int32) (a2 : Int32) (a3 : Int32) (a4 : Int32) (M : zm_Mem) (r : Unit) (M' : zm_Mem), rec 0 a1 a2 a3 a4 M = some (r, M') → zm_Ct E (zm_w sv) (zm_w sv) yX0_pack (Y_X0_pack dp) [.ref (E.2.1 + 16), .int a1, .int a2, .int a3, .int a4] M none M') (a1 : Int32) (a2 : Int32) (a3 : Int32) (a4 : Int32) (M : zm_Mem) (r : Unit) (M' : zm_Mem) (h : f_X0_pack rec a1 a2 a3 a4 M = some (r, M')) : zm_Ct E (zm_w sv) (zm_w sv) yX0_pack (Y_X0_pack (dp + 1)) [.ref (E.2.1 + 16), .int a1, .int a2, .int a3, .int a4] M none M' := by
  have hr0 : ∀ (a1 : Int32) (a2 : Int32) (a3 : Int32) (a4 : Int32) (M : zm_Mem) {r : Unit} {M' : zm_Mem}, rec 0 a1 a2 a3 a4 M = some (r, M') → zm_Ct E (zm_w sv) (zm_w sv) yX0_pack (Y_X0_pack dp) [.ref (E.2.1 + 16), .int a1, .int a2, .int a3, .int a4] M none M' := fun _ _ _ _ _ {_} {_} h => hr0 _ _ _ _ _ _ _ h
  refine zm_meth (emb := zm_ev) (d := f_X0_pack rec a1 a2 a3 a4 M) (by decide) rfl rfl (Nat.le_of_ble_eq_true rfl) h (fun X => ?_)
  show zm_V X (Y_X0_pack (dp + 1)) E (zm_Q X E (Y_X0_pack (dp + 1)).2.2.2.1.cells (Y_X0_pack (dp + 1)).2.2.2.1.slots (zm_w sv) zm_ev) 0 0 false (zm_w sv) 0 [(0, .ref (E.2.1 + 16)), (1, .int a1), (2, .int a2), (3, .int a3), (4, .int a4)] [] M (f_X0_pack rec a1 a2 a3 a4 M) some
  unfold f_X0_pack
  refine zm_iload_n 1 rfl dX0_pack_0 rfl 2 rfl ?_
  refine zm_iload_n 2 rfl dX0_pack_1 rfl 1 rfl ?_
  have hb11 : zm_V X (Y_X0_pack (dp + 1)) E (zm_Q X E (Y_X0_pack (dp + 1)).2.2.2.1.cells (Y_X0_pack (dp + 1)).2.2.2.1.slots (zm_w sv) zm_ev) 0 0 false (zm_w sv) 11 [(0, .ref (E.2.1 + 16)), (1, .int a1), (4, .int a4)] [] M (f_X0_pack_b11 a1 a4 M) some := by
    unfold f_X0_pack_b11
    refine zm_aload_n 12 rfl dX0_pack_11 rfl 0 rfl ?_
    refine zm_iload_n 13 rfl dX0_pack_12 rfl 1 rfl ?_
    refine zm_iload 15 rfl dX0_pack_13 2 rfl ?_
    refine zm_cV2v 18 rfl dX0_pack_15 ml_X0_68 rfl (zm_L (sv := sv) rfl) rfl (Nat.le_of_ble_eq_true rfl) ⟨by show 1 + 1 ≤ 2 + (dp + 1); omega, by show 8 + (4 + 11) + 23 ≤ 46 + 40 * (dp + 1); omega⟩ rfl rfl ⟨Nat.le_refl _, Nat.le_refl _⟩ rfl (fun _ _ h => k_X0_keepWay E sv a1 a4 M h) (fun _ M15 => ?_)
    exact zm_vret dX0_pack_18 rfl (Nat.le_refl _) (Nat.le_refl _) rfl
  refine zm_icmp_ge 11 5 (by decide) rfl dX0_pack_2 ?_ ?_
  · exact zm_loc [0, 1, 4] rfl (hb11)
  · refine zm_iload_n 6 rfl dX0_pack_5 rfl 2 rfl ?_
    refine zm_bipush 8 rfl dX0_pack_6 zb_6 ?_
    refine zm_icmp_lt 19 11 (by decide) rfl dX0_pack_8 ?_ ?_
    · refine zm_iconst 20 rfl dX0_pack_19 zi_0 ?_
      refine zm_istore (lv' := [(5, .int 0), (0, .ref (E.2.1 + 16)), (1, .int a1), (2, .int a2), (3, .int a3), (4, .int a4)]) 22 rfl dX0_pack_20 (Nat.le_of_ble_eq_true rfl) rfl ?_
      have hx80_22 : ∀ (N80 : zm_Mem), zm_V X (Y_X0_pack (dp + 1)) E (zm_Q X E (Y_X0_pack (dp + 1)).2.2.2.1.cells (Y_X0_pack (dp + 1)).2.2.2.1.slots (zm_w sv) zm_ev) 0 0 false (zm_w sv) 80 [] [] N80 (some ((), N80)) some := by
        intro N80
        exact zm_vret dX0_pack_80 rfl (Nat.le_refl _) (Nat.le_refl _) rfl
      refine zm_loc [1, 2, 3, 4, 5, 0] rfl (zm_lpp (σ := (Int32 × zm_Mem)) (ε := zm_Mem) (step := fun s => f_X0_pack_l22 rec a1 a2 a3 a4 s.1 s.2) (fun s => [(0, .ref (E.2.1 + 16)), (1, .int a1), (2, .int a2), (3, .int a3), (4, .int a4), (5, .int s.1)]) (fun s => s.2) (fun D22 f22 hf22a hf22b hD22 s => ?_) (0, M))
      obtain ⟨l22_5, L22⟩ := s
      show zm_V X (Y_X0_pack (dp + 1)) E (zm_Q X E (Y_X0_pack (dp + 1)).2.2.2.1.cells (Y_X0_pack (dp + 1)).2.2.2.1.slots (zm_w sv) zm_ev) 0 0 false (zm_w sv) 22 [(0, .ref (E.2.1 + 16)), (1, .int a1), (2, .int a2), (3, .int a3), (4, .int a4), (5, .int l22_5)] [] L22 (f_X0_pack_l22 rec a1 a2 a3 a4 l22_5 L22) f22
      unfold f_X0_pack_l22
      refine zm_iload 24 rfl dX0_pack_22 5 rfl ?_
      refine zm_iload_n 25 rfl dX0_pack_24 rfl 1 rfl ?_
      refine zm_icmp_ge 80 28 (by decide) rfl dX0_pack_25 ?_ ?_
      · exact zm_loc [] rfl (zm_go (hf22b _) (zm_unb (hx80_22 L22)))
      · refine zm_iload_n 29 rfl dX0_pack_28 rfl 3 rfl ?_
        refine zm_iload 31 rfl dX0_pack_29 5 rfl ?_
        refine zm_ishr 32 rfl dX0_pack_31 ?_
        refine zm_iconst 33 rfl dX0_pack_32 zi_1 ?_
        refine zm_iand 34 rfl dX0_pack_33 ?_
        have hb74_22 : ∀ (M74 : zm_Mem), zm_V X (Y_X0_pack (dp + 1)) E (zm_Q X E (Y_X0_pack (dp + 1)).2.2.2.1.cells (Y_X0_pack (dp + 1)).2.2.2.1.slots (zm_w sv) zm_ev) 0 0 false (zm_w sv) 74 [(0, .ref (E.2.1 + 16)), (1, .int a1), (2, .int a2), (3, .int a3), (4, .int a4), (5, .int l22_5)] [] M74 (f_X0_pack_b74_22 l22_5 M74) f22 := by
          intro M74
          unfold f_X0_pack_b74_22
          refine zm_iinc (lv' := fun z => [(5, .int z), (0, .ref (E.2.1 + 16)), (1, .int a1), (2, .int a2), (3, .int a3), (4, .int a4)]) 77 rfl dX0_pack_74 zi_1 5 rfl (Nat.le_of_ble_eq_true rfl) (fun _ => rfl) (fun x74 _ => ?_)
          refine zm_goto 22 (by decide) dX0_pack_77 ?_
          exact zm_loc [1, 2, 3, 4, 5, 0] rfl (zm_go (hf22a _) (hD22 (x74, M74)))
        refine zm_if_ne 74 37 (by decide) rfl dX0_pack_34 ?_ ?_
        · refine zm_aload_n 38 rfl dX0_pack_37 rfl 0 rfl ?_
          refine zm_getR (a := 22) 41 rfl dX0_pack_38 fl_X0_27 rfl (zm_L (sv := sv) rfl) rfl (by decide) ?_
          refine zm_iload_n 42 rfl dX0_pack_41 rfl 2 rfl ?_
          refine zm_iload 44 rfl dX0_pack_42 5 rfl ?_
          refine zm_iast 45 rfl dX0_pack_44 rfl (zm_L (sv := sv) rfl) (fun M44 _ => ?_)
          refine zm_aload_n 46 rfl dX0_pack_45 rfl 0 rfl ?_
          refine zm_iload_n 47 rfl dX0_pack_46 rfl 1 rfl ?_
          refine zm_iload_n 48 rfl dX0_pack_47 rfl 2 rfl ?_
          refine zm_iconst 49 rfl dX0_pack_48 zi_1 ?_
          refine zm_iadd 50 rfl dX0_pack_49 ?_
          refine zm_iload_n 51 rfl dX0_pack_50 rfl 3 rfl ?_
          refine zm_iconst 52 rfl dX0_pack_51 zi_1 ?_
          refine zm_iload 54 rfl dX0_pack_52 5 rfl ?_
          refine zm_ishl 55 rfl dX0_pack_54 ?_
          refine zm_ior 56 rfl dX0_pack_55 ?_
          refine zm_iload 58 rfl dX0_pack_56 4 rfl ?_
          refine zm_aload_n 59 rfl dX0_pack_58 rfl 0 rfl ?_
          refine zm_getR (a := 20) 62 rfl dX0_pack_59 fl_X0_21 rfl (zm_L (sv := sv) rfl) rfl (by decide) ?_
          refine zm_iload_n 63 rfl dX0_pack_62 rfl 2 rfl ?_
          refine zm_bipush 65 rfl dX0_pack_63 zb_6 ?_
          refine zm_imul 66 rfl dX0_pack_65 ?_
          refine zm_iload 68 rfl dX0_pack_66 5 rfl ?_
          refine zm_iadd 69 rfl dX0_pack_68 ?_
          refine zm_iald 70 rfl dX0_pack_69 rfl (zm_L (sv := sv) rfl) ?_
          refine zm_iadd 71 rfl dX0_pack_70 ?_
          refine zm_cV4v 74 rfl dX0_pack_71 ml_X0_55 rfl (zm_L (sv := sv) rfl) rfl (Nat.le_of_ble_eq_true rfl) ⟨by show 2 + dp + 1 ≤ 2 + (dp + 1); omega, by show 8 + (6 + 11) + (46 + 40 * dp) ≤ 46 + 40 * (dp + 1); omega⟩ rfl rfl ⟨Nat.le_refl _, Nat.le_refl _⟩ rfl (fun _ _ h => hr0 a1 (a2 + 1) (a3 ||| ((1 : Int32) <<< (l22_5 &&& 31))) (a4 + (M44.1 20 ((a2 * 6) + l22_5).toNatClampNeg)) M44 h) (fun _ M71 => ?_)
          exact zm_loc [0, 1, 2, 3, 4, 5] rfl (hb74_22 M71)
        · exact zm_loc [0, 1, 2, 3, 4, 5] rfl (hb74_22 L22)
    · exact zm_loc [0, 1, 4] rfl (hb11)
noncomputable def fr_X0_pack : Nat → (Nat → Int32 → Int32 → Int32 → Int32 → zm_Mem → Option (Unit × zm_Mem))
  | 0, _, _, _, _, _, _ => none
  | dp + 1, _, a1, a2, a3, a4, M => f_X0_pack (fr_X0_pack dp) a1 a2 a3 a4 M
theorem kr_X0_pack (E : zm_E) (sv : Nat) : ∀ dp : Nat, (∀ (a1 : Int32) (a2 : Int32) (a3 : Int32) (a4 : Int32) (M : zm_Mem) (r : Unit) (M' : zm_Mem), fr_X0_pack dp 0 a1 a2 a3 a4 M = some (r, M') → zm_Ct E (zm_w sv) (zm_w sv) yX0_pack (Y_X0_pack dp) [.ref (E.2.1 + 16), .int a1, .int a2, .int a3, .int a4] M none M') := by
  intro dp
  induction dp with
  | zero => exact (fun _ _ _ _ _ _ _ h => by cases h)
  | succ dp ih =>
    exact (fun a1 a2 a3 a4 M r M' h => kb_X0_pack E sv dp (fr_X0_pack dp) ih a1 a2 a3 a4 M r M' h)
noncomputable def f_X0_packR (dp : Nat) (a1 : Int32) (a2 : Int32) (a3 : Int32) (a4 : Int32) (M : zm_Mem) := fr_X0_pack dp 0 a1 a2 a3 a4 M
theorem k_X0_pack (E : zm_E) (sv : Nat) (dp : Nat) (a1 : Int32) (a2 : Int32) (a3 : Int32) (a4 : Int32) (M : zm_Mem) {r : Unit} {M' : zm_Mem} (h : f_X0_packR dp a1 a2 a3 a4 M = some (r, M')) : zm_Ct E (zm_w sv) (zm_w sv) yX0_pack (Y_X0_pack dp) [.ref (E.2.1 + 16), .int a1, .int a2, .int a3, .int a4] M none M' := (kr_X0_pack E sv dp) a1 a2 a3 a4 M r M' h
abbrev Y_X0_goThrough : zm_Y := (cX0_goThrough, 5, RX0, { frames := 11, cells := 0, slots := 0, locals := 391 }, none, false, "goThrough")
noncomputable def f_X0_goThrough_b93 (a1 : Nat) (M93 : zm_Mem) : Option (Unit × zm_Mem) :=
 zm_b2 (f_X0_packR 8 (M93.1 a1 12) 0 0 0 M93) <| fun _ M101 => some ((), M101)
noncomputable def f_X0_goThrough_b81_40_24 (l40_4 : Int32) (M81 : zm_Mem) : Option ((Int32 × zm_Mem) ⊕ zm_Mem) :=
 zm_v (l40_4 + 1) <| fun x81 => some (.inl (x81, M81))
noncomputable def f_X0_goThrough_l40_24 (a1 : Nat) (l24_3 : Int32) (l40_4 : Int32) (L40 : zm_Mem) : Option ((Int32 × zm_Mem) ⊕ zm_Mem) :=
 if (L40.1 a1 12) ≤ l40_4 then (some (.inr L40)) else (zm_b1 (f_X0_isRight a1 l24_3 l40_4 L40) <| fun r54 => if r54 = 0 then (zm_ck (zm_in l24_3 20) <| zm_ck (zm_in (((L40.1 17 l24_3.toNatClampNeg) * 6) + l40_4) 36) <| zm_ck (zm_in (((L40.1 17 l24_3.toNatClampNeg) * 6) + l40_4) 36) <| zm_v (zm_sI L40 20 (((L40.1 17 l24_3.toNatClampNeg) * 6) + l40_4).toNatClampNeg ((L40.1 20 (((L40.1 17 l24_3.toNatClampNeg) * 6) + l40_4).toNatClampNeg) + 1)) <| fun M80 => f_X0_goThrough_b81_40_24 l40_4 M80) else (f_X0_goThrough_b81_40_24 l40_4 L40))
noncomputable def f_X0_goThrough_l24 (a1 : Nat) (a2 : Int32) (l24_3 : Int32) (L24 : zm_Mem) : Option ((Int32 × zm_Mem) ⊕ zm_Mem) :=
 if a2 ≤ l24_3 then (some (.inr L24)) else (if (L24.1 16 7) ≤ l24_3 then (some (.inr L24)) else ((zm_lp (fun s => f_X0_goThrough_l40_24 a1 l24_3 s.1 s.2) (0, L24)).bind (fun e87 => zm_v (l24_3 + 1) <| fun x87 => some (.inl (x87, e87)))))
noncomputable def f_X0_goThrough (a1 : Nat) (a2 : Int32) (M : zm_Mem) : Option (Unit × zm_Mem) :=
  zm_b2 (f_J7_fill_53178 20 0 M) <| fun _ M5 => zm_b2 (f_J7_fill_53178 21 0 M5) <| fun _ M13 => zm_v (zm_sI M13 16 8 21) <| fun M19 => (zm_lp (fun s => f_X0_goThrough_l24 a1 a2 s.1 s.2) (0, M19)).bind (fun e93 => f_X0_goThrough_b93 a1 e93)
set_option maxRecDepth 20000 in
set_option maxHeartbeats 4000000 in
theorem k_X0_goThrough (E : zm_E) (sv : Nat) (a1 : Nat) (a2 : Int32) (ha1 : zm_isT a1 = true) (M : zm_Mem) {r : Unit} {M' : zm_Mem} (h : f_X0_goThrough a1 a2 M = some (r, M')) : zm_Ct E (zm_w sv) (zm_w sv) yX0_goThrough Y_X0_goThrough [.ref (E.2.1 + 16), .ref (E.2.1 + a1), .int a2] M none M' := by
  refine zm_meth (emb := zm_ev) (d := f_X0_goThrough a1 a2 M) (by decide) rfl rfl (Nat.le_of_ble_eq_true rfl) h (fun X => ?_)
  show zm_V X Y_X0_goThrough E (zm_Q X E Y_X0_goThrough.2.2.2.1.cells Y_X0_goThrough.2.2.2.1.slots (zm_w sv) zm_ev) 0 0 false (zm_w sv) 0 [(0, .ref (E.2.1 + 16)), (1, .ref (E.2.1 + a1)), (2, .int a2)] [] M (f_X0_goThrough a1 a2 M) some
  unfold f_X0_goThrough
  refine zm_aload_n 1 rfl dX0_goThrough_0 rfl 0 rfl ?_
  refine zm_getR (a := 20) 4 rfl dX0_goThrough_1 fl_X0_21 rfl (zm_L (sv := sv) rfl) rfl (by decide) ?_
  refine zm_iconst 5 rfl dX0_goThrough_4 zi_0 ?_
  refine zm_cS2v 8 rfl dX0_goThrough_5 ml_X0_40 (Nat.le_of_ble_eq_true rfl) ⟨Nat.le_of_ble_eq_true rfl, Nat.le_of_ble_eq_true rfl⟩ rfl rfl ⟨Nat.le_refl _, Nat.le_refl _⟩ rfl (fun _ _ h => k_J7_fill_53178 E sv 20 0 ⟨rfl, (zm_L (sv := sv) rfl)⟩ M h) (fun _ M5 => ?_)
  refine zm_aload_n 9 rfl dX0_goThrough_8 rfl 0 rfl ?_
  refine zm_getR (a := 21) 12 rfl dX0_goThrough_9 fl_X0_24 rfl (zm_L (sv := sv) rfl) rfl (by decide) ?_
  refine zm_iconst 13 rfl dX0_goThrough_12 zi_0 ?_
  refine zm_cS2v 16 rfl dX0_goThrough_13 ml_X0_40 (Nat.le_of_ble_eq_true rfl) ⟨Nat.le_of_ble_eq_true rfl, Nat.le_of_ble_eq_true rfl⟩ rfl rfl ⟨Nat.le_refl _, Nat.le_refl _⟩ rfl (fun _ _ h => k_J7_fill_53178 E sv 21 0 ⟨rfl, (zm_L (sv := sv) rfl)⟩ M5 h) (fun _ M13 => ?_)
  refine zm_aload_n 17 rfl dX0_goThrough_16 rfl 0 rfl ?_
  refine zm_bipush 19 rfl dX0_goThrough_17 zb_21 ?_
  refine zm_putI 22 rfl dX0_goThrough_19 fp_X0_37 rfl (zm_L (sv := sv) rfl) rfl rfl (fun M19 _ => ?_)
  refine zm_iconst 23 rfl dX0_goThrough_22 zi_0 ?_
  refine zm_istore_n (lv' := [(3, .int 0), (0, .ref (E.2.1 + 16)), (1, .ref (E.2.1 + a1)), (2, .int a2)]) 24 rfl dX0_goThrough_23 rfl (by decide) rfl ?_
  have hb93 : ∀ (M93 : zm_Mem), zm_V X Y_X0_goThrough E (zm_Q X E Y_X0_goThrough.2.2.2.1.cells Y_X0_goThrough.2.2.2.1.slots (zm_w sv) zm_ev) 0 0 false (zm_w sv) 93 [(0, .ref (E.2.1 + 16)), (1, .ref (E.2.1 + a1))] [] M93 (f_X0_goThrough_b93 a1 M93) some := by
    intro M93
    unfold f_X0_goThrough_b93
    refine zm_aload_n 94 rfl dX0_goThrough_93 rfl 0 rfl ?_
    refine zm_aload_n 95 rfl dX0_goThrough_94 rfl 1 rfl ?_
    refine zm_getI 98 rfl dX0_goThrough_95 fl_X0_46 (zm_T_o ha1) (zm_T_l0 (sv := sv) ha1) ?_
    refine zm_iconst 99 rfl dX0_goThrough_98 zi_0 ?_
    refine zm_iconst 100 rfl dX0_goThrough_99 zi_0 ?_
    refine zm_iconst 101 rfl dX0_goThrough_100 zi_0 ?_
    refine zm_cV4v 104 rfl dX0_goThrough_101 ml_X0_55 rfl (zm_L (sv := sv) rfl) rfl (Nat.le_of_ble_eq_true rfl) ⟨Nat.le_of_ble_eq_true rfl, Nat.le_of_ble_eq_true rfl⟩ rfl rfl ⟨Nat.le_refl _, Nat.le_refl _⟩ rfl (fun _ _ h => k_X0_pack E sv 8 (M93.1 a1 12) 0 0 0 M93 h) (fun _ M101 => ?_)
    exact zm_vret dX0_goThrough_104 rfl (Nat.le_refl _) (Nat.le_refl _) rfl
  have hx93_24 : ∀ (N93 : zm_Mem), zm_V X Y_X0_goThrough E (zm_Q X E Y_X0_goThrough.2.2.2.1.cells Y_X0_goThrough.2.2.2.1.slots (zm_w sv) zm_ev) 0 0 false (zm_w sv) 93 [(0, .ref (E.2.1 + 16)), (1, .ref (E.2.1 + a1))] [] N93 (f_X0_goThrough_b93 a1 N93) some := by
    intro N93
    exact zm_loc [0, 1] rfl (hb93 N93)
  refine zm_loc [1, 2, 3, 0] rfl (zm_lpp (σ := (Int32 × zm_Mem)) (ε := zm_Mem) (step := fun s => f_X0_goThrough_l24 a1 a2 s.1 s.2) (fun s => [(0, .ref (E.2.1 + 16)), (1, .ref (E.2.1 + a1)), (2, .int a2), (3, .int s.1)]) (fun s => s.2) (fun D24 f24 hf24a hf24b hD24 s => ?_) (0, M19))
  obtain ⟨l24_3, L24⟩ := s
  show zm_V X Y_X0_goThrough E (zm_Q X E Y_X0_goThrough.2.2.2.1.cells Y_X0_goThrough.2.2.2.1.slots (zm_w sv) zm_ev) 0 0 false (zm_w sv) 24 [(0, .ref (E.2.1 + 16)), (1, .ref (E.2.1 + a1)), (2, .int a2), (3, .int l24_3)] [] L24 (f_X0_goThrough_l24 a1 a2 l24_3 L24) f24
  unfold f_X0_goThrough_l24
  refine zm_iload_n 25 rfl dX0_goThrough_24 rfl 3 rfl ?_
  refine zm_iload_n 26 rfl dX0_goThrough_25 rfl 2 rfl ?_
  refine zm_icmp_ge 93 29 (by decide) rfl dX0_goThrough_26 ?_ ?_
  · exact zm_loc [0, 1] rfl (zm_go (hf24b _) (zm_unb (hx93_24 L24)))
  · refine zm_iload_n 30 rfl dX0_goThrough_29 rfl 3 rfl ?_
    refine zm_aload_n 31 rfl dX0_goThrough_30 rfl 0 rfl ?_
    refine zm_getI 34 rfl dX0_goThrough_31 fl_X0_33 rfl (zm_L (sv := sv) rfl) ?_
    refine zm_icmp_ge 93 37 (by decide) rfl dX0_goThrough_34 ?_ ?_
    · exact zm_loc [0, 1] rfl (zm_go (hf24b _) (zm_unb (hx93_24 L24)))
    · refine zm_iconst 38 rfl dX0_goThrough_37 zi_0 ?_
      refine zm_istore (lv' := [(4, .int 0), (0, .ref (E.2.1 + 16)), (1, .ref (E.2.1 + a1)), (2, .int a2), (3, .int l24_3)]) 40 rfl dX0_goThrough_38 (by decide) rfl ?_
      have hx87_40_24 : ∀ (N87 : zm_Mem), zm_V X Y_X0_goThrough E (zm_Q X E Y_X0_goThrough.2.2.2.1.cells Y_X0_goThrough.2.2.2.1.slots (zm_w sv) zm_ev) 0 0 false (zm_w sv) 87 [(0, .ref (E.2.1 + 16)), (1, .ref (E.2.1 + a1)), (2, .int a2), (3, .int l24_3)] [] N87 (zm_v (l24_3 + 1) <| fun x87 => some (.inl (x87, N87))) f24 := by
        intro N87
        refine zm_iinc (lv' := fun z => [(3, .int z), (0, .ref (E.2.1 + 16)), (1, .ref (E.2.1 + a1)), (2, .int a2)]) 90 rfl dX0_goThrough_87 zi_1 3 rfl (by decide) (fun _ => rfl) (fun x87 _ => ?_)
        refine zm_goto 24 (by decide) dX0_goThrough_90 ?_
        exact zm_loc [1, 2, 3, 0] rfl (zm_go (hf24a _) (hD24 (x87, N87)))
      refine zm_loc [1, 2, 3, 4, 0] rfl (zm_lpp (σ := (Int32 × zm_Mem)) (ε := zm_Mem) (step := fun s => f_X0_goThrough_l40_24 a1 l24_3 s.1 s.2) (fun s => [(0, .ref (E.2.1 + 16)), (1, .ref (E.2.1 + a1)), (2, .int a2), (3, .int l24_3), (4, .int s.1)]) (fun s => s.2) (fun D40_24 f40_24 hf40_24a hf40_24b hD40_24 s => ?_) (0, L24))
      obtain ⟨l40_4, L40⟩ := s
      show zm_V X Y_X0_goThrough E (zm_Q X E Y_X0_goThrough.2.2.2.1.cells Y_X0_goThrough.2.2.2.1.slots (zm_w sv) zm_ev) 0 0 false (zm_w sv) 40 [(0, .ref (E.2.1 + 16)), (1, .ref (E.2.1 + a1)), (2, .int a2), (3, .int l24_3), (4, .int l40_4)] [] L40 (f_X0_goThrough_l40_24 a1 l24_3 l40_4 L40) f40_24
      unfold f_X0_goThrough_l40_24
      refine zm_iload 42 rfl dX0_goThrough_40 4 rfl ?_
      refine zm_aload_n 43 rfl dX0_goThrough_42 rfl 1 rfl ?_
      refine zm_getI 46 rfl dX0_goThrough_43 fl_X0_46 (zm_T_o ha1) (zm_T_l0 (sv := sv) ha1) ?_
      refine zm_icmp_ge 87 49 (by decide) rfl dX0_goThrough_46 ?_ ?_
      · exact zm_loc [0, 1, 2, 3] rfl (zm_go (hf40_24b _) (zm_unb (hx87_40_24 L40)))
      · refine zm_aload_n 50 rfl dX0_goThrough_49 rfl 0 rfl ?_
        refine zm_aload_n 51 rfl dX0_goThrough_50 rfl 1 rfl ?_
        refine zm_iload_n 52 rfl dX0_goThrough_51 rfl 3 rfl ?_
        refine zm_iload 54 rfl dX0_goThrough_52 4 rfl ?_
        refine zm_cV3ir 57 rfl dX0_goThrough_54 ml_X0_51 rfl (zm_L (sv := sv) rfl) rfl (Nat.le_of_ble_eq_true rfl) ⟨Nat.le_of_ble_eq_true rfl, Nat.le_of_ble_eq_true rfl⟩ rfl rfl ⟨Nat.le_refl _, Nat.le_refl _⟩ rfl (fun _ h => k_X0_isRight E sv a1 l24_3 l40_4 ha1 L40 h) (fun r54 => ?_)
        have hb81_40_24 : ∀ (M81 : zm_Mem), zm_V X Y_X0_goThrough E (zm_Q X E Y_X0_goThrough.2.2.2.1.cells Y_X0_goThrough.2.2.2.1.slots (zm_w sv) zm_ev) 0 0 false (zm_w sv) 81 [(0, .ref (E.2.1 + 16)), (1, .ref (E.2.1 + a1)), (2, .int a2), (3, .int l24_3), (4, .int l40_4)] [] M81 (f_X0_goThrough_b81_40_24 l40_4 M81) f40_24 := by
          intro M81
          unfold f_X0_goThrough_b81_40_24
          refine zm_iinc (lv' := fun z => [(4, .int z), (0, .ref (E.2.1 + 16)), (1, .ref (E.2.1 + a1)), (2, .int a2), (3, .int l24_3)]) 84 rfl dX0_goThrough_81 zi_1 4 rfl (by decide) (fun _ => rfl) (fun x81 _ => ?_)
          refine zm_goto 40 (by decide) dX0_goThrough_84 ?_
          exact zm_loc [1, 2, 3, 4, 0] rfl (zm_go (hf40_24a _) (hD40_24 (x81, M81)))
        refine zm_if_ne 81 60 (by decide) rfl dX0_goThrough_57 ?_ ?_
        · refine zm_aload_n 61 rfl dX0_goThrough_60 rfl 0 rfl ?_
          refine zm_getR (a := 20) 64 rfl dX0_goThrough_61 fl_X0_21 rfl (zm_L (sv := sv) rfl) rfl (by decide) ?_
          refine zm_aload_n 65 rfl dX0_goThrough_64 rfl 0 rfl ?_
          refine zm_getR (a := 17) 68 rfl dX0_goThrough_65 fl_X0_11 rfl (zm_L (sv := sv) rfl) rfl (by decide) ?_
          refine zm_iload_n 69 rfl dX0_goThrough_68 rfl 3 rfl ?_
          refine zm_iald 70 rfl dX0_goThrough_69 rfl (zm_L (sv := sv) rfl) ?_
          refine zm_bipush 72 rfl dX0_goThrough_70 zb_6 ?_
          refine zm_imul 73 rfl dX0_goThrough_72 ?_
          refine zm_iload 75 rfl dX0_goThrough_73 4 rfl ?_
          refine zm_iadd 76 rfl dX0_goThrough_75 ?_
          refine zm_dup2 77 rfl dX0_goThrough_76 rfl rfl ?_
          refine zm_iald 78 rfl dX0_goThrough_77 rfl (zm_L (sv := sv) rfl) ?_
          refine zm_iconst 79 rfl dX0_goThrough_78 zi_1 ?_
          refine zm_iadd 80 rfl dX0_goThrough_79 ?_
          refine zm_iast 81 rfl dX0_goThrough_80 rfl (zm_L (sv := sv) rfl) (fun M80 _ => ?_)
          exact zm_loc [0, 1, 2, 3, 4] rfl (hb81_40_24 M80)
        · exact zm_loc [0, 1, 2, 3, 4] rfl (hb81_40_24 L40)
abbrev Y_X1_size : zm_Y := (cX1_size, 1, RX1, { frames := 0, cells := 0, slots := 0, locals := 0 }, (some .int), false, "size")
noncomputable def f_X1_size  (M : zm_Mem) : Option Int32 :=
  some (M.1 13 2)
set_option maxRecDepth 20000 in
set_option maxHeartbeats 4000000 in
theorem k_X1_size (E : zm_E) (sv : Nat)  (M : zm_Mem) {r : Int32} (h : f_X1_size M = some r) : zm_Ct E (zm_w sv) (zm_w sv) yX1_size Y_X1_size [.ref (E.2.1 + 13)] M (some (.int r)) M := by
  refine zm_methr (emb := zm_ei) (d := f_X1_size M) (by decide) rfl rfl (Nat.le_of_ble_eq_true rfl) h (fun X => ?_)
  show zm_V X Y_X1_size E (zm_Q X E Y_X1_size.2.2.2.1.cells Y_X1_size.2.2.2.1.slots (zm_w sv) zm_ei) 0 0 false (zm_w sv) 0 [(0, .ref (E.2.1 + 13))] [] M (f_X1_size M) (fun r => some (r, M))
  unfold f_X1_size
  refine zm_aload_n 1 rfl dX1_size_0 rfl 0 rfl ?_
  refine zm_getI 4 rfl dX1_size_1 fl_X1_15 rfl (zm_L (sv := sv) rfl) ?_
  exact zm_iret dX1_size_4 rfl (Nat.le_refl _) (Nat.le_refl _) rfl
abbrev Y_X1_empty : zm_Y := (cX1_empty, 1, RX1, { frames := 0, cells := 0, slots := 0, locals := 0 }, none, false, "empty")
noncomputable def f_X1_empty  (M : zm_Mem) : Option (Unit × zm_Mem) :=
  zm_v (zm_sI M 13 2 0) <| fun M2 => some ((), M2)
set_option maxRecDepth 20000 in
set_option maxHeartbeats 4000000 in
theorem k_X1_empty (E : zm_E) (sv : Nat)  (M : zm_Mem) {r : Unit} {M' : zm_Mem} (h : f_X1_empty M = some (r, M')) : zm_Ct E (zm_w sv) (zm_w sv) yX1_empty Y_X1_empty [.ref (E.2.1 + 13)] M none M' := by
  refine zm_meth (emb := zm_ev) (d := f_X1_empty M) (by decide) rfl rfl (Nat.le_of_ble_eq_true rfl) h (fun X => ?_)
  show zm_V X Y_X1_empty E (zm_Q X E Y_X1_empty.2.2.2.1.cells Y_X1_empty.2.2.2.1.slots (zm_w sv) zm_ev) 0 0 false (zm_w sv) 0 [(0, .ref (E.2.1 + 13))] [] M (f_X1_empty M) some
  unfold f_X1_empty
  refine zm_aload_n 1 rfl dX1_empty_0 rfl 0 rfl ?_
  refine zm_iconst 2 rfl dX1_empty_1 zi_0 ?_
  refine zm_putI 5 rfl dX1_empty_2 fp_X1_15 rfl (zm_L (sv := sv) rfl) rfl rfl (fun M2 _ => ?_)
  exact zm_vret dX1_empty_5 rfl (Nat.le_refl _) (Nat.le_refl _) rfl
abbrev Y_X1_keep : zm_Y := (cX1_keep, 2, RX1, { frames := 1, cells := 0, slots := 0, locals := 100 }, none, false, "keep")
noncomputable def f_X1_keep (a1 : Nat) (M : zm_Mem) : Option (Unit × zm_Mem) :=
  zm_ck (decide ((0 : Int32) ≤ 0) && (decide (0 ≤ ((M.1 13 1) * 47)) && (decide (0 ≤ 47) && (decide ((0 : Int32).toNatClampNeg + (47 : Int32).toNatClampNeg ≤ (zm_sh a1).2) && decide (((M.1 13 1) * 47).toNatClampNeg + (47 : Int32).toNatClampNeg ≤ 1880))))) <| zm_v (zm_cp M a1 (0 : Int32).toNatClampNeg 14 ((M.1 13 1) * 47).toNatClampNeg (47 : Int32).toNatClampNeg) <| fun M15 => zm_ck (!decide ((40 : Int32) = 0)) <| zm_v (zm_sI M15 13 1 (((M15.1 13 1) + 1) - ((M15.1 13 1) + 1) / 40 * 40)) <| fun M28 => zm_v (zm_sI M28 13 2 (zm_min ((M28.1 13 2) + 1) 40)) <| fun M43 => some ((), M43)
set_option maxRecDepth 20000 in
set_option maxHeartbeats 4000000 in
theorem k_X1_keep (E : zm_E) (sv : Nat) (a1 : Nat) (ha1 : zm_sh a1 = (0, (zm_sh a1).2) ∧ (0 < a1 ∧ a1 ≤ zm_n sv)) (M : zm_Mem) {r : Unit} {M' : zm_Mem} (h : f_X1_keep a1 M = some (r, M')) : zm_Ct E (zm_w sv) (zm_w sv) yX1_keep Y_X1_keep [.ref (E.2.1 + 13), .ref (E.2.1 + a1)] M none M' := by
  refine zm_meth (emb := zm_ev) (d := f_X1_keep a1 M) (by decide) rfl rfl (Nat.le_of_ble_eq_true rfl) h (fun X => ?_)
  show zm_V X Y_X1_keep E (zm_Q X E Y_X1_keep.2.2.2.1.cells Y_X1_keep.2.2.2.1.slots (zm_w sv) zm_ev) 0 0 false (zm_w sv) 0 [(0, .ref (E.2.1 + 13)), (1, .ref (E.2.1 + a1))] [] M (f_X1_keep a1 M) some
  unfold f_X1_keep
  refine zm_aload_n 1 rfl dX1_keep_0 rfl 1 rfl ?_
  refine zm_iconst 2 rfl dX1_keep_1 zi_0 ?_
  refine zm_aload_n 3 rfl dX1_keep_2 rfl 0 rfl ?_
  refine zm_getR (a := 14) 6 rfl dX1_keep_3 fl_X1_11 rfl (zm_L (sv := sv) rfl) rfl (by decide) ?_
  refine zm_aload_n 7 rfl dX1_keep_6 rfl 0 rfl ?_
  refine zm_getI 10 rfl dX1_keep_7 fl_X1_19 rfl (zm_L (sv := sv) rfl) ?_
  refine zm_bipush 12 rfl dX1_keep_10 zb_47 ?_
  refine zm_imul 13 rfl dX1_keep_12 ?_
  refine zm_bipush 15 rfl dX1_keep_13 zb_47 ?_
  refine zm_copy 18 rfl dX1_keep_15 ac_X1_22 ac_nat ac_st in_sys ha1.1 rfl ha1.2 (zm_L (sv := sv) rfl) (Nat.le_of_ble_eq_true rfl) (Nat.le_of_ble_eq_true rfl) (fun M15 _ => ?_)
  refine zm_aload_n 19 rfl dX1_keep_18 rfl 0 rfl ?_
  refine zm_aload_n 20 rfl dX1_keep_19 rfl 0 rfl ?_
  refine zm_getI 23 rfl dX1_keep_20 fl_X1_19 rfl (zm_L (sv := sv) rfl) ?_
  refine zm_iconst 24 rfl dX1_keep_23 zi_1 ?_
  refine zm_iadd 25 rfl dX1_keep_24 ?_
  refine zm_bipush 27 rfl dX1_keep_25 zb_40 ?_
  refine zm_irem 28 rfl dX1_keep_27 ?_
  refine zm_putI 31 rfl dX1_keep_28 fp_X1_19 rfl (zm_L (sv := sv) rfl) rfl rfl (fun M28 _ => ?_)
  refine zm_aload_n 32 rfl dX1_keep_31 rfl 0 rfl ?_
  refine zm_aload_n 33 rfl dX1_keep_32 rfl 0 rfl ?_
  refine zm_getI 36 rfl dX1_keep_33 fl_X1_15 rfl (zm_L (sv := sv) rfl) ?_
  refine zm_iconst 37 rfl dX1_keep_36 zi_1 ?_
  refine zm_iadd 38 rfl dX1_keep_37 ?_
  refine zm_bipush 40 rfl dX1_keep_38 zb_40 ?_
  refine zm_mmin 43 rfl dX1_keep_40 mm_X1_28 mm_st_min in_math mm_co_min (Nat.le_of_ble_eq_true rfl) (Nat.le_of_ble_eq_true rfl) ⟨Nat.le_refl _, Nat.le_refl _⟩ ?_
  refine zm_putI 46 rfl dX1_keep_43 fp_X1_15 rfl (zm_L (sv := sv) rfl) rfl rfl (fun M43 _ => ?_)
  exact zm_vret dX1_keep_46 rfl (Nat.le_refl _) (Nat.le_refl _) rfl
abbrev Y_X1_takeBack : zm_Y := (cX1_takeBack, 2, RX1, { frames := 1, cells := 0, slots := 0, locals := 100 }, none, false, "takeBack")
noncomputable def f_X1_takeBack (a1 : Nat) (M : zm_Mem) : Option (Unit × zm_Mem) :=
  if (M.1 13 2) ≤ 0 then (some ((), M)) else (zm_ck (!decide ((40 : Int32) = 0)) <| zm_v (zm_sI M 13 1 ((((M.1 13 1) + 40) - 1) - (((M.1 13 1) + 40) - 1) / 40 * 40)) <| fun M20 => zm_v (zm_sI M20 13 2 ((M20.1 13 2) - 1)) <| fun M30 => zm_ck (decide (0 ≤ ((M30.1 13 1) * 47)) && (decide ((0 : Int32) ≤ 0) && (decide (0 ≤ 47) && (decide (((M30.1 13 1) * 47).toNatClampNeg + (47 : Int32).toNatClampNeg ≤ 1880) && decide ((0 : Int32).toNatClampNeg + (47 : Int32).toNatClampNeg ≤ (zm_sh a1).2))))) <| zm_v (zm_cp M30 14 ((M30.1 13 1) * 47).toNatClampNeg a1 (0 : Int32).toNatClampNeg (47 : Int32).toNatClampNeg) <| fun M48 => some ((), M48))
set_option maxRecDepth 20000 in
set_option maxHeartbeats 4000000 in
theorem k_X1_takeBack (E : zm_E) (sv : Nat) (a1 : Nat) (ha1 : zm_sh a1 = (0, (zm_sh a1).2) ∧ (0 < a1 ∧ a1 ≤ zm_n sv)) (M : zm_Mem) {r : Unit} {M' : zm_Mem} (h : f_X1_takeBack a1 M = some (r, M')) : zm_Ct E (zm_w sv) (zm_w sv) yX1_takeBack Y_X1_takeBack [.ref (E.2.1 + 13), .ref (E.2.1 + a1)] M none M' := by
  refine zm_meth (emb := zm_ev) (d := f_X1_takeBack a1 M) (by decide) rfl rfl (Nat.le_of_ble_eq_true rfl) h (fun X => ?_)
  show zm_V X Y_X1_takeBack E (zm_Q X E Y_X1_takeBack.2.2.2.1.cells Y_X1_takeBack.2.2.2.1.slots (zm_w sv) zm_ev) 0 0 false (zm_w sv) 0 [(0, .ref (E.2.1 + 13)), (1, .ref (E.2.1 + a1))] [] M (f_X1_takeBack a1 M) some
  unfold f_X1_takeBack
  refine zm_aload_n 1 rfl dX1_takeBack_0 rfl 0 rfl ?_
  refine zm_getI 4 rfl dX1_takeBack_1 fl_X1_15 rfl (zm_L (sv := sv) rfl) ?_
  refine zm_if_le 51 7 (by decide) rfl dX1_takeBack_4 ?_ ?_
  · exact zm_vret dX1_takeBack_51 rfl (Nat.le_refl _) (Nat.le_refl _) rfl
  · refine zm_aload_n 8 rfl dX1_takeBack_7 rfl 0 rfl ?_
    refine zm_aload_n 9 rfl dX1_takeBack_8 rfl 0 rfl ?_
    refine zm_getI 12 rfl dX1_takeBack_9 fl_X1_19 rfl (zm_L (sv := sv) rfl) ?_
    refine zm_bipush 14 rfl dX1_takeBack_12 zb_40 ?_
    refine zm_iadd 15 rfl dX1_takeBack_14 ?_
    refine zm_iconst 16 rfl dX1_takeBack_15 zi_1 ?_
    refine zm_isub 17 rfl dX1_takeBack_16 ?_
    refine zm_bipush 19 rfl dX1_takeBack_17 zb_40 ?_
    refine zm_irem 20 rfl dX1_takeBack_19 ?_
    refine zm_putI 23 rfl dX1_takeBack_20 fp_X1_19 rfl (zm_L (sv := sv) rfl) rfl rfl (fun M20 _ => ?_)
    refine zm_aload_n 24 rfl dX1_takeBack_23 rfl 0 rfl ?_
    refine zm_dup 25 rfl dX1_takeBack_24 rfl ?_
    refine zm_getI 28 rfl dX1_takeBack_25 fl_X1_15 rfl (zm_L (sv := sv) rfl) ?_
    refine zm_iconst 29 rfl dX1_takeBack_28 zi_1 ?_
    refine zm_isub 30 rfl dX1_takeBack_29 ?_
    refine zm_putI 33 rfl dX1_takeBack_30 fp_X1_15 rfl (zm_L (sv := sv) rfl) rfl rfl (fun M30 _ => ?_)
    refine zm_aload_n 34 rfl dX1_takeBack_33 rfl 0 rfl ?_
    refine zm_getR (a := 14) 37 rfl dX1_takeBack_34 fl_X1_11 rfl (zm_L (sv := sv) rfl) rfl (by decide) ?_
    refine zm_aload_n 38 rfl dX1_takeBack_37 rfl 0 rfl ?_
    refine zm_getI 41 rfl dX1_takeBack_38 fl_X1_19 rfl (zm_L (sv := sv) rfl) ?_
    refine zm_bipush 43 rfl dX1_takeBack_41 zb_47 ?_
    refine zm_imul 44 rfl dX1_takeBack_43 ?_
    refine zm_aload_n 45 rfl dX1_takeBack_44 rfl 1 rfl ?_
    refine zm_iconst 46 rfl dX1_takeBack_45 zi_0 ?_
    refine zm_bipush 48 rfl dX1_takeBack_46 zb_47 ?_
    refine zm_copy 51 rfl dX1_takeBack_48 ac_X1_22 ac_nat ac_st in_sys rfl ha1.1 (zm_L (sv := sv) rfl) ha1.2 (Nat.le_of_ble_eq_true rfl) (Nat.le_of_ble_eq_true rfl) (fun M48 _ => ?_)
    exact zm_vret dX1_takeBack_51 rfl (Nat.le_refl _) (Nat.le_refl _) rfl
abbrev Y_X2_faultPlace : zm_Y := (cX2_faultPlace, 1, RX2, { frames := 0, cells := 0, slots := 0, locals := 0 }, (some .int), false, "faultPlace")
noncomputable def f_X2_faultPlace  (M : zm_Mem) : Option Int32 :=
  some (M.1 8 6)
set_option maxRecDepth 20000 in
set_option maxHeartbeats 4000000 in
theorem k_X2_faultPlace (E : zm_E) (sv : Nat)  (M : zm_Mem) {r : Int32} (h : f_X2_faultPlace M = some r) : zm_Ct E (zm_w sv) (zm_w sv) yX2_faultPlace Y_X2_faultPlace [.ref (E.2.1 + 8)] M (some (.int r)) M := by
  refine zm_methr (emb := zm_ei) (d := f_X2_faultPlace M) (by decide) rfl rfl (Nat.le_of_ble_eq_true rfl) h (fun X => ?_)
  show zm_V X Y_X2_faultPlace E (zm_Q X E Y_X2_faultPlace.2.2.2.1.cells Y_X2_faultPlace.2.2.2.1.slots (zm_w sv) zm_ei) 0 0 false (zm_w sv) 0 [(0, .ref (E.2.1 + 8))] [] M (f_X2_faultPlace M) (fun r => some (r, M))
  unfold f_X2_faultPlace
  refine zm_aload_n 1 rfl dX2_faultPlace_0 rfl 0 rfl ?_
  refine zm_getI 4 rfl dX2_faultPlace_1 fl_X2_22 rfl (zm_L (sv := sv) rfl) ?_
  exact zm_iret dX2_faultPlace_4 rfl (Nat.le_refl _) (Nat.le_refl _) rfl
abbrev Y_X8_put : zm_Y := (cX8_put, 3, RX8, { frames := 0, cells := 0, slots := 0, locals := 0 }, none, false, "put")
noncomputable def f_X8_put (t : Nat) (a1 : Int32) (a2 : Int32) (M : zm_Mem) : Option (Unit × zm_Mem) :=
  if (408 : Int32) ≤ (M.1 t 10) then (some ((), M)) else (zm_ck (zm_in (M.1 t 10) 408) <| zm_v (zm_sI M (t + 10) (M.1 t 10).toNatClampNeg ((a1 <<< ((14 : Int32) &&& 31)) ||| (a2 &&& 16383))) <| fun M28 => zm_v (zm_sI M28 t 10 ((M28.1 t 10) + 1)) <| fun M36 => some ((), M36))
set_option maxRecDepth 20000 in
set_option maxHeartbeats 4000000 in
theorem k_X8_put (E : zm_E) (w : zm_W) (t : Nat) (a1 : Int32) (a2 : Int32) (ht : zm_isT t = true) (hwl : t + 10 ≤ w.1) (hwr : ∀ j, j < 10 → w.2 t j = t + (j + 1)) (M : zm_Mem) {r : Unit} {M' : zm_Mem} (h : f_X8_put t a1 a2 M = some (r, M')) : zm_Ct E w w yX8_put Y_X8_put [.ref (E.2.1 + t), .int a1, .int a2] M none M' := by
  refine zm_meth (emb := zm_ev) (d := f_X8_put t a1 a2 M) (by decide) rfl rfl (Nat.le_of_ble_eq_true rfl) h (fun X => ?_)
  show zm_V X Y_X8_put E (zm_Q X E Y_X8_put.2.2.2.1.cells Y_X8_put.2.2.2.1.slots w zm_ev) 0 0 false w 0 [(0, .ref (E.2.1 + t)), (1, .int a1), (2, .int a2)] [] M (f_X8_put t a1 a2 M) some
  unfold f_X8_put
  refine zm_aload_n 1 rfl dX8_put_0 rfl 0 rfl ?_
  refine zm_getI 4 rfl dX8_put_1 fl_X8_64 (zm_T_o ht) (zm_T_lw ht hwl 0 (by decide)) ?_
  refine zm_sipush 7 rfl dX8_put_4 zs_408 ?_
  refine zm_icmp_ge 39 10 (by decide) rfl dX8_put_7 ?_ ?_
  · exact zm_vret dX8_put_39 rfl (Nat.le_refl _) (Nat.le_refl _) rfl
  · refine zm_aload_n 11 rfl dX8_put_10 rfl 0 rfl ?_
    refine zm_getR (a := t + 10) 14 rfl dX8_put_11 fl_X8_39 (zm_T_o ht) (zm_T_lw ht hwl 0 (by decide)) (hwr 9 (by decide)) (Nat.succ_ne_zero _) ?_
    refine zm_aload_n 15 rfl dX8_put_14 rfl 0 rfl ?_
    refine zm_getI 18 rfl dX8_put_15 fl_X8_64 (zm_T_o ht) (zm_T_lw ht hwl 0 (by decide)) ?_
    refine zm_iload_n 19 rfl dX8_put_18 rfl 1 rfl ?_
    refine zm_bipush 21 rfl dX8_put_19 zb_14 ?_
    refine zm_ishl 22 rfl dX8_put_21 ?_
    refine zm_iload_n 23 rfl dX8_put_22 rfl 2 rfl ?_
    refine zm_sipush 26 rfl dX8_put_23 zs_16383 ?_
    refine zm_iand 27 rfl dX8_put_26 ?_
    refine zm_ior 28 rfl dX8_put_27 ?_
    refine zm_iast 29 rfl dX8_put_28 (zm_T_a ht 10 (by decide)) (zm_T_lw ht hwl 10 (by decide)) (fun M28 _ => ?_)
    refine zm_aload_n 30 rfl dX8_put_29 rfl 0 rfl ?_
    refine zm_dup 31 rfl dX8_put_30 rfl ?_
    refine zm_getI 34 rfl dX8_put_31 fl_X8_64 (zm_T_o ht) (zm_T_lw ht hwl 0 (by decide)) ?_
    refine zm_iconst 35 rfl dX8_put_34 zi_1 ?_
    refine zm_iadd 36 rfl dX8_put_35 ?_
    refine zm_putI 39 rfl dX8_put_36 fp_X8_64 (zm_T_o ht) (zm_T_lw ht hwl 0 (by decide)) rfl rfl (fun M36 _ => ?_)
    exact zm_vret dX8_put_39 rfl (Nat.le_refl _) (Nat.le_refl _) rfl
abbrev Y_X8_clear : zm_Y := (cX8_clear, 1, RX8, { frames := 1, cells := 0, slots := 0, locals := 22 }, none, false, "clear")
noncomputable def f_X8_clear (t : Nat) (M : zm_Mem) : Option (Unit × zm_Mem) :=
  zm_v (zm_sI M t 11 0) <| fun M2 => zm_v (zm_sI M2 t 12 0) <| fun M7 => zm_v (zm_sI M7 t 13 0) <| fun M12 => zm_v (zm_sI M12 t 16 0) <| fun M17 => zm_v (zm_sI M17 t 17 1) <| fun M22 => zm_v (zm_sI M22 t 18 0) <| fun M27 => zm_v (zm_sI M27 t 10 0) <| fun M32 => zm_v (zm_sI M32 t 14 (M32.1 t 10)) <| fun M40 => zm_b2 (f_X8_put t 0 3 M40) <| fun _ M46 => zm_b2 (f_X8_put t 7 0 M46) <| fun _ M53 => zm_v (zm_sI M53 t 15 (M53.1 t 10)) <| fun M61 => zm_b2 (f_X8_put t 1 3 M61) <| fun _ M67 => zm_b2 (f_X8_put t 7 0 M67) <| fun _ M74 => some ((), M74)
set_option maxRecDepth 20000 in
set_option maxHeartbeats 4000000 in
theorem k_X8_clear (E : zm_E) (w : zm_W) (t : Nat) (ht : zm_isT t = true) (hwl : t + 10 ≤ w.1) (hwr : ∀ j, j < 10 → w.2 t j = t + (j + 1)) (M : zm_Mem) {r : Unit} {M' : zm_Mem} (h : f_X8_clear t M = some (r, M')) : zm_Ct E w w yX8_clear Y_X8_clear [.ref (E.2.1 + t)] M none M' := by
  refine zm_meth (emb := zm_ev) (d := f_X8_clear t M) (by decide) rfl rfl (Nat.le_of_ble_eq_true rfl) h (fun X => ?_)
  show zm_V X Y_X8_clear E (zm_Q X E Y_X8_clear.2.2.2.1.cells Y_X8_clear.2.2.2.1.slots w zm_ev) 0 0 false w 0 [(0, .ref (E.2.1 + t))] [] M (f_X8_clear t M) some
  unfold f_X8_clear
  refine zm_aload_n 1 rfl dX8_clear_0 rfl 0 rfl ?_
  refine zm_iconst 2 rfl dX8_clear_1 zi_0 ?_
  refine zm_putI 5 rfl dX8_clear_2 fp_X8_45 (zm_T_o ht) (zm_T_lw ht hwl 0 (by decide)) rfl rfl (fun M2 _ => ?_)
  refine zm_aload_n 6 rfl dX8_clear_5 rfl 0 rfl ?_
  refine zm_iconst 7 rfl dX8_clear_6 zi_0 ?_
  refine zm_putI 10 rfl dX8_clear_7 fp_X8_49 (zm_T_o ht) (zm_T_lw ht hwl 0 (by decide)) rfl rfl (fun M7 _ => ?_)
  refine zm_aload_n 11 rfl dX8_clear_10 rfl 0 rfl ?_
  refine zm_iconst 12 rfl dX8_clear_11 zi_0 ?_
  refine zm_putI 15 rfl dX8_clear_12 fp_X8_52 (zm_T_o ht) (zm_T_lw ht hwl 0 (by decide)) rfl rfl (fun M12 _ => ?_)
  refine zm_aload_n 16 rfl dX8_clear_15 rfl 0 rfl ?_
  refine zm_iconst 17 rfl dX8_clear_16 zi_0 ?_
  refine zm_putI 20 rfl dX8_clear_17 fp_X8_55 (zm_T_o ht) (zm_T_lw ht hwl 0 (by decide)) rfl rfl (fun M17 _ => ?_)
  refine zm_aload_n 21 rfl dX8_clear_20 rfl 0 rfl ?_
  refine zm_iconst 22 rfl dX8_clear_21 zi_1 ?_
  refine zm_putI 25 rfl dX8_clear_22 fp_X8_58 (zm_T_o ht) (zm_T_lw ht hwl 0 (by decide)) rfl rfl (fun M22 _ => ?_)
  refine zm_aload_n 26 rfl dX8_clear_25 rfl 0 rfl ?_
  refine zm_iconst 27 rfl dX8_clear_26 zi_0 ?_
  refine zm_putI 30 rfl dX8_clear_27 fp_X8_61 (zm_T_o ht) (zm_T_lw ht hwl 0 (by decide)) rfl rfl (fun M27 _ => ?_)
  refine zm_aload_n 31 rfl dX8_clear_30 rfl 0 rfl ?_
  refine zm_iconst 32 rfl dX8_clear_31 zi_0 ?_
  refine zm_putI 35 rfl dX8_clear_32 fp_X8_64 (zm_T_o ht) (zm_T_lw ht hwl 0 (by decide)) rfl rfl (fun M32 _ => ?_)
  refine zm_aload_n 36 rfl dX8_clear_35 rfl 0 rfl ?_
  refine zm_aload_n 37 rfl dX8_clear_36 rfl 0 rfl ?_
  refine zm_getI 40 rfl dX8_clear_37 fl_X8_64 (zm_T_o ht) (zm_T_lw ht hwl 0 (by decide)) ?_
  refine zm_putI 43 rfl dX8_clear_40 fp_X8_67 (zm_T_o ht) (zm_T_lw ht hwl 0 (by decide)) rfl rfl (fun M40 _ => ?_)
  refine zm_aload_n 44 rfl dX8_clear_43 rfl 0 rfl ?_
  refine zm_iconst 45 rfl dX8_clear_44 zi_0 ?_
  refine zm_iconst 46 rfl dX8_clear_45 zi_3 ?_
  refine zm_cV2v 49 rfl dX8_clear_46 ml_X8_70 (zm_T_o ht) (zm_T_lw ht hwl 0 (by decide)) rfl (Nat.le_of_ble_eq_true rfl) ⟨Nat.le_of_ble_eq_true rfl, Nat.le_of_ble_eq_true rfl⟩ rfl rfl ⟨Nat.le_refl _, Nat.le_refl _⟩ rfl (fun _ _ h => k_X8_put E w t 0 3 ht hwl hwr M40 h) (fun _ M46 => ?_)
  refine zm_aload_n 50 rfl dX8_clear_49 rfl 0 rfl ?_
  refine zm_bipush 52 rfl dX8_clear_50 zb_7 ?_
  refine zm_iconst 53 rfl dX8_clear_52 zi_0 ?_
  refine zm_cV2v 56 rfl dX8_clear_53 ml_X8_70 (zm_T_o ht) (zm_T_lw ht hwl 0 (by decide)) rfl (Nat.le_of_ble_eq_true rfl) ⟨Nat.le_of_ble_eq_true rfl, Nat.le_of_ble_eq_true rfl⟩ rfl rfl ⟨Nat.le_refl _, Nat.le_refl _⟩ rfl (fun _ _ h => k_X8_put E w t 7 0 ht hwl hwr M46 h) (fun _ M53 => ?_)
  refine zm_aload_n 57 rfl dX8_clear_56 rfl 0 rfl ?_
  refine zm_aload_n 58 rfl dX8_clear_57 rfl 0 rfl ?_
  refine zm_getI 61 rfl dX8_clear_58 fl_X8_64 (zm_T_o ht) (zm_T_lw ht hwl 0 (by decide)) ?_
  refine zm_putI 64 rfl dX8_clear_61 fp_X8_74 (zm_T_o ht) (zm_T_lw ht hwl 0 (by decide)) rfl rfl (fun M61 _ => ?_)
  refine zm_aload_n 65 rfl dX8_clear_64 rfl 0 rfl ?_
  refine zm_iconst 66 rfl dX8_clear_65 zi_1 ?_
  refine zm_iconst 67 rfl dX8_clear_66 zi_3 ?_
  refine zm_cV2v 70 rfl dX8_clear_67 ml_X8_70 (zm_T_o ht) (zm_T_lw ht hwl 0 (by decide)) rfl (Nat.le_of_ble_eq_true rfl) ⟨Nat.le_of_ble_eq_true rfl, Nat.le_of_ble_eq_true rfl⟩ rfl rfl ⟨Nat.le_refl _, Nat.le_refl _⟩ rfl (fun _ _ h => k_X8_put E w t 1 3 ht hwl hwr M61 h) (fun _ M67 => ?_)
  refine zm_aload_n 71 rfl dX8_clear_70 rfl 0 rfl ?_
  refine zm_bipush 73 rfl dX8_clear_71 zb_7 ?_
  refine zm_iconst 74 rfl dX8_clear_73 zi_0 ?_
  refine zm_cV2v 77 rfl dX8_clear_74 ml_X8_70 (zm_T_o ht) (zm_T_lw ht hwl 0 (by decide)) rfl (Nat.le_of_ble_eq_true rfl) ⟨Nat.le_of_ble_eq_true rfl, Nat.le_of_ble_eq_true rfl⟩ rfl rfl ⟨Nat.le_refl _, Nat.le_refl _⟩ rfl (fun _ _ h => k_X8_put E w t 7 0 ht hwl hwr M67 h) (fun _ M74 => ?_)
  exact zm_vret dX8_clear_77 rfl (Nat.le_refl _) (Nat.le_refl _) rfl
abbrev Y_X7_sortAt : zm_Y := (cX7_sortAt, 2, RX7, { frames := 0, cells := 0, slots := 0, locals := 0 }, (some .int), false, "sortAt")
noncomputable def f_X7_sortAt_b21  : Option Int32 :=
 some 0
noncomputable def f_X7_sortAt (a1 : Int32) (M : zm_Mem) : Option Int32 :=
  if a1 < 0 then (f_X7_sortAt_b21) else (if (M.1 3 4) ≤ a1 then (f_X7_sortAt_b21) else (zm_ck (zm_in a1 402) <| some (M.1 4 a1.toNatClampNeg)))
set_option maxRecDepth 20000 in
set_option maxHeartbeats 4000000 in
theorem k_X7_sortAt (E : zm_E) (sv : Nat) (a1 : Int32) (M : zm_Mem) {r : Int32} (h : f_X7_sortAt a1 M = some r) : zm_Ct E (zm_w sv) (zm_w sv) yX7_sortAt Y_X7_sortAt [.ref (E.2.1 + 3), .int a1] M (some (.int r)) M := by
  refine zm_methr (emb := zm_ei) (d := f_X7_sortAt a1 M) (by decide) rfl rfl (Nat.le_of_ble_eq_true rfl) h (fun X => ?_)
  show zm_V X Y_X7_sortAt E (zm_Q X E Y_X7_sortAt.2.2.2.1.cells Y_X7_sortAt.2.2.2.1.slots (zm_w sv) zm_ei) 0 0 false (zm_w sv) 0 [(0, .ref (E.2.1 + 3)), (1, .int a1)] [] M (f_X7_sortAt a1 M) (fun r => some (r, M))
  unfold f_X7_sortAt
  refine zm_iload_n 1 rfl dX7_sortAt_0 rfl 1 rfl ?_
  have hb21 : zm_V X Y_X7_sortAt E (zm_Q X E Y_X7_sortAt.2.2.2.1.cells Y_X7_sortAt.2.2.2.1.slots (zm_w sv) zm_ei) 0 0 false (zm_w sv) 21 [] [] M (f_X7_sortAt_b21) (fun r => some (r, M)) := by
    unfold f_X7_sortAt_b21
    refine zm_iconst 22 rfl dX7_sortAt_21 zi_0 ?_
    exact zm_iret dX7_sortAt_22 rfl (Nat.le_refl _) (Nat.le_refl _) rfl
  refine zm_if_lt 21 4 (by decide) rfl dX7_sortAt_1 ?_ ?_
  · exact zm_loc [] rfl (hb21)
  · refine zm_iload_n 5 rfl dX7_sortAt_4 rfl 1 rfl ?_
    refine zm_aload_n 6 rfl dX7_sortAt_5 rfl 0 rfl ?_
    refine zm_getI 9 rfl dX7_sortAt_6 fl_X7_41 rfl (zm_L (sv := sv) rfl) ?_
    refine zm_icmp_ge 21 12 (by decide) rfl dX7_sortAt_9 ?_ ?_
    · exact zm_loc [] rfl (hb21)
    · refine zm_aload_n 13 rfl dX7_sortAt_12 rfl 0 rfl ?_
      refine zm_getR (a := 4) 16 rfl dX7_sortAt_13 fl_X7_11 rfl (zm_L (sv := sv) rfl) rfl (by decide) ?_
      refine zm_iload_n 17 rfl dX7_sortAt_16 rfl 1 rfl ?_
      refine zm_iald 18 rfl dX7_sortAt_17 rfl (zm_L (sv := sv) rfl) ?_
      refine zm_goto 22 (by decide) dX7_sortAt_18 ?_
      exact zm_iret dX7_sortAt_22 rfl (Nat.le_refl _) (Nat.le_refl _) rfl
abbrev Y_X2_sort : zm_Y := (cX2_sort, 1, RX2, { frames := 1, cells := 0, slots := 0, locals := 21 }, (some .int), false, "sort")
noncomputable def f_X2_sort  (M : zm_Mem) : Option Int32 :=
  zm_b1 (f_X7_sortAt (M.1 8 4) M) <| fun r8 => some r8
set_option maxRecDepth 20000 in
set_option maxHeartbeats 4000000 in
theorem k_X2_sort (E : zm_E) (sv : Nat)  (M : zm_Mem) {r : Int32} (h : f_X2_sort M = some r) : zm_Ct E (zm_w sv) (zm_w sv) yX2_sort Y_X2_sort [.ref (E.2.1 + 8)] M (some (.int r)) M := by
  refine zm_methr (emb := zm_ei) (d := f_X2_sort M) (by decide) rfl rfl (Nat.le_of_ble_eq_true rfl) h (fun X => ?_)
  show zm_V X Y_X2_sort E (zm_Q X E Y_X2_sort.2.2.2.1.cells Y_X2_sort.2.2.2.1.slots (zm_w sv) zm_ei) 0 0 false (zm_w sv) 0 [(0, .ref (E.2.1 + 8))] [] M (f_X2_sort M) (fun r => some (r, M))
  unfold f_X2_sort
  refine zm_aload_n 1 rfl dX2_sort_0 rfl 0 rfl ?_
  refine zm_getR (a := 3) 4 rfl dX2_sort_1 fl_X2_18 rfl (zm_L (sv := sv) rfl) rfl (by decide) ?_
  refine zm_aload_n 5 rfl dX2_sort_4 rfl 0 rfl ?_
  refine zm_getI 8 rfl dX2_sort_5 fl_X2_35 rfl (zm_L (sv := sv) rfl) ?_
  refine zm_cV1ir 11 rfl dX2_sort_8 ml_X2_181 rfl (zm_L (sv := sv) rfl) rfl (Nat.le_of_ble_eq_true rfl) ⟨Nat.le_of_ble_eq_true rfl, Nat.le_of_ble_eq_true rfl⟩ rfl rfl ⟨Nat.le_refl _, Nat.le_refl _⟩ rfl (fun _ h => k_X7_sortAt E sv (M.1 8 4) M h) (fun r8 => ?_)
  exact zm_iret dX2_sort_11 rfl (Nat.le_refl _) (Nat.le_refl _) rfl
abbrev Y_X2_fail : zm_Y := (cX2_fail, 2, RX2, { frames := 0, cells := 0, slots := 0, locals := 0 }, none, false, "fail")
noncomputable def f_X2_fail (a1 : Int32) (M : zm_Mem) : Option (Unit × zm_Mem) :=
  if (M.1 8 5) = 0 then (zm_v (zm_sI M 8 5 a1) <| fun M9 => some ((), M9)) else (some ((), M))
set_option maxRecDepth 20000 in
set_option maxHeartbeats 4000000 in
theorem k_X2_fail (E : zm_E) (sv : Nat) (a1 : Int32) (M : zm_Mem) {r : Unit} {M' : zm_Mem} (h : f_X2_fail a1 M = some (r, M')) : zm_Ct E (zm_w sv) (zm_w sv) yX2_fail Y_X2_fail [.ref (E.2.1 + 8), .int a1] M none M' := by
  refine zm_meth (emb := zm_ev) (d := f_X2_fail a1 M) (by decide) rfl rfl (Nat.le_of_ble_eq_true rfl) h (fun X => ?_)
  show zm_V X Y_X2_fail E (zm_Q X E Y_X2_fail.2.2.2.1.cells Y_X2_fail.2.2.2.1.slots (zm_w sv) zm_ev) 0 0 false (zm_w sv) 0 [(0, .ref (E.2.1 + 8)), (1, .int a1)] [] M (f_X2_fail a1 M) some
  unfold f_X2_fail
  refine zm_aload_n 1 rfl dX2_fail_0 rfl 0 rfl ?_
  refine zm_getI 4 rfl dX2_fail_1 fl_X2_38 rfl (zm_L (sv := sv) rfl) ?_
  refine zm_if_ne 12 7 (by decide) rfl dX2_fail_4 ?_ ?_
  · refine zm_aload_n 8 rfl dX2_fail_7 rfl 0 rfl ?_
    refine zm_iload_n 9 rfl dX2_fail_8 rfl 1 rfl ?_
    refine zm_putI 12 rfl dX2_fail_9 fp_X2_38 rfl (zm_L (sv := sv) rfl) rfl rfl (fun M9 _ => ?_)
    exact zm_vret dX2_fail_12 rfl (Nat.le_refl _) (Nat.le_refl _) rfl
  · exact zm_vret dX2_fail_12 rfl (Nat.le_refl _) (Nat.le_refl _) rfl
abbrev Y_X2_take : zm_Y := (cX2_take, 1, RX2, { frames := 0, cells := 0, slots := 0, locals := 0 }, none, false, "take")
noncomputable def f_X2_take  (M : zm_Mem) : Option (Unit × zm_Mem) :=
  if (M.1 8 5) = 0 then (if (400 : Int32) ≤ (M.1 8 4) then (zm_v (zm_sI M 8 5 2) <| fun M33 => some ((), M33)) else (zm_v (zm_sI M 8 4 ((M.1 8 4) + 1)) <| fun M25 => some ((), M25))) else (some ((), M))
set_option maxRecDepth 20000 in
set_option maxHeartbeats 4000000 in
theorem k_X2_take (E : zm_E) (sv : Nat)  (M : zm_Mem) {r : Unit} {M' : zm_Mem} (h : f_X2_take M = some (r, M')) : zm_Ct E (zm_w sv) (zm_w sv) yX2_take Y_X2_take [.ref (E.2.1 + 8)] M none M' := by
  refine zm_meth (emb := zm_ev) (d := f_X2_take M) (by decide) rfl rfl (Nat.le_of_ble_eq_true rfl) h (fun X => ?_)
  show zm_V X Y_X2_take E (zm_Q X E Y_X2_take.2.2.2.1.cells Y_X2_take.2.2.2.1.slots (zm_w sv) zm_ev) 0 0 false (zm_w sv) 0 [(0, .ref (E.2.1 + 8))] [] M (f_X2_take M) some
  unfold f_X2_take
  refine zm_aload_n 1 rfl dX2_take_0 rfl 0 rfl ?_
  refine zm_getI 4 rfl dX2_take_1 fl_X2_38 rfl (zm_L (sv := sv) rfl) ?_
  refine zm_if_eq 8 7 (by decide) rfl dX2_take_4 ?_ ?_
  · refine zm_aload_n 9 rfl dX2_take_8 rfl 0 rfl ?_
    refine zm_getI 12 rfl dX2_take_9 fl_X2_35 rfl (zm_L (sv := sv) rfl) ?_
    refine zm_sipush 15 rfl dX2_take_12 zs_400 ?_
    refine zm_icmp_ge 31 18 (by decide) rfl dX2_take_15 ?_ ?_
    · refine zm_aload_n 32 rfl dX2_take_31 rfl 0 rfl ?_
      refine zm_iconst 33 rfl dX2_take_32 zi_2 ?_
      refine zm_putI 36 rfl dX2_take_33 fp_X2_38 rfl (zm_L (sv := sv) rfl) rfl rfl (fun M33 _ => ?_)
      exact zm_vret dX2_take_36 rfl (Nat.le_refl _) (Nat.le_refl _) rfl
    · refine zm_aload_n 19 rfl dX2_take_18 rfl 0 rfl ?_
      refine zm_dup 20 rfl dX2_take_19 rfl ?_
      refine zm_getI 23 rfl dX2_take_20 fl_X2_35 rfl (zm_L (sv := sv) rfl) ?_
      refine zm_iconst 24 rfl dX2_take_23 zi_1 ?_
      refine zm_iadd 25 rfl dX2_take_24 ?_
      refine zm_putI 28 rfl dX2_take_25 fp_X2_35 rfl (zm_L (sv := sv) rfl) rfl rfl (fun M25 _ => ?_)
      refine zm_goto 36 (by decide) dX2_take_28 ?_
      exact zm_vret dX2_take_36 rfl (Nat.le_refl _) (Nat.le_refl _) rfl
  · exact zm_vret dX2_take_7 rfl (Nat.le_refl _) (Nat.le_refl _) rfl
abbrev Y_X7_worthAt : zm_Y := (cX7_worthAt, 2, RX7, { frames := 0, cells := 0, slots := 0, locals := 0 }, (some .long), false, "worthAt")
noncomputable def f_X7_worthAt_b21  : Option Int64 :=
 some 0
noncomputable def f_X7_worthAt (a1 : Int32) (M : zm_Mem) : Option Int64 :=
  if a1 < 0 then (f_X7_worthAt_b21) else (if (M.1 3 4) ≤ a1 then (f_X7_worthAt_b21) else (zm_ck (zm_in a1 402) <| some (M.2.1 6 a1.toNatClampNeg)))
set_option maxRecDepth 20000 in
set_option maxHeartbeats 4000000 in
theorem k_X7_worthAt (E : zm_E) (sv : Nat) (a1 : Int32) (M : zm_Mem) {r : Int64} (h : f_X7_worthAt a1 M = some r) : zm_Ct E (zm_w sv) (zm_w sv) yX7_worthAt Y_X7_worthAt [.ref (E.2.1 + 3), .int a1] M (some (.long r)) M := by
  refine zm_methr (emb := zm_el) (d := f_X7_worthAt a1 M) (by decide) rfl rfl (Nat.le_of_ble_eq_true rfl) h (fun X => ?_)
  show zm_V X Y_X7_worthAt E (zm_Q X E Y_X7_worthAt.2.2.2.1.cells Y_X7_worthAt.2.2.2.1.slots (zm_w sv) zm_el) 0 0 false (zm_w sv) 0 [(0, .ref (E.2.1 + 3)), (1, .int a1)] [] M (f_X7_worthAt a1 M) (fun r => some (r, M))
  unfold f_X7_worthAt
  refine zm_iload_n 1 rfl dX7_worthAt_0 rfl 1 rfl ?_
  have hb21 : zm_V X Y_X7_worthAt E (zm_Q X E Y_X7_worthAt.2.2.2.1.cells Y_X7_worthAt.2.2.2.1.slots (zm_w sv) zm_el) 0 0 false (zm_w sv) 21 [] [] M (f_X7_worthAt_b21) (fun r => some (r, M)) := by
    unfold f_X7_worthAt_b21
    refine zm_lconst 22 rfl dX7_worthAt_21 rfl ?_
    exact zm_lret dX7_worthAt_22 rfl (Nat.le_refl _) (Nat.le_refl _) rfl
  refine zm_if_lt 21 4 (by decide) rfl dX7_worthAt_1 ?_ ?_
  · exact zm_loc [] rfl (hb21)
  · refine zm_iload_n 5 rfl dX7_worthAt_4 rfl 1 rfl ?_
    refine zm_aload_n 6 rfl dX7_worthAt_5 rfl 0 rfl ?_
    refine zm_getI 9 rfl dX7_worthAt_6 fl_X7_41 rfl (zm_L (sv := sv) rfl) ?_
    refine zm_icmp_ge 21 12 (by decide) rfl dX7_worthAt_9 ?_ ?_
    · exact zm_loc [] rfl (hb21)
    · refine zm_aload_n 13 rfl dX7_worthAt_12 rfl 0 rfl ?_
      refine zm_getR (a := 6) 16 rfl dX7_worthAt_13 fl_X7_18 rfl (zm_L (sv := sv) rfl) rfl (by decide) ?_
      refine zm_iload_n 17 rfl dX7_worthAt_16 rfl 1 rfl ?_
      refine zm_lald 18 rfl dX7_worthAt_17 rfl (zm_L (sv := sv) rfl) ?_
      refine zm_goto 22 (by decide) dX7_worthAt_18 ?_
      exact zm_lret dX7_worthAt_22 rfl (Nat.le_refl _) (Nat.le_refl _) rfl
abbrev Y_X2_find : zm_Y := (cX2_find, 5, RX2, { frames := 0, cells := 0, slots := 0, locals := 0 }, (some .int), false, "find")
noncomputable def f_X2_find_l3 (a0 : Int64) (a2 : Nat) (a3 : Int32) (M : zm_Mem) (l3_4 : Int32) : Option (Int32 ⊕ (Int32 ⊕ Unit)) :=
 if a3 ≤ l3_4 then (some (.inr (.inr ()))) else (if (Int32.ofNat (zm_sh a2).2) ≤ l3_4 then (some (.inr (.inr ()))) else (zm_ck (zm_in l3_4 (zm_sh a2).2) <| if (lg_cmp (M.2.1 a2 l3_4.toNatClampNeg) a0) = 0 then (some (.inr (.inl l3_4))) else (zm_v (l3_4 + 1) <| fun x28 => some (.inl x28))))
noncomputable def f_X2_find (a0 : Int64) (a2 : Nat) (a3 : Int32) (M : zm_Mem) : Option Int32 :=
  (zm_lp (f_X2_find_l3 a0 a2 a3 M) 0).bind (Sum.elim (fun e25 => some e25) (fun _ => some (-1)))
set_option maxRecDepth 20000 in
set_option maxHeartbeats 4000000 in
theorem k_X2_find (E : zm_E) (sv : Nat) (a0 : Int64) (a2 : Nat) (a3 : Int32) (ha2 : zm_sh a2 = (2, (zm_sh a2).2) ∧ (0 < a2 ∧ a2 ≤ zm_n sv)) (M : zm_Mem) {r : Int32} (h : f_X2_find a0 a2 a3 M = some r) : zm_Ct E (zm_w sv) (zm_w sv) yX2_find Y_X2_find [.long a0, .ref (E.2.1 + a2), .int a3] M (some (.int r)) M := by
  refine zm_methr (emb := zm_ei) (d := f_X2_find a0 a2 a3 M) (by decide) rfl rfl (Nat.le_of_ble_eq_true rfl) h (fun X => ?_)
  show zm_V X Y_X2_find E (zm_Q X E Y_X2_find.2.2.2.1.cells Y_X2_find.2.2.2.1.slots (zm_w sv) zm_ei) 0 0 false (zm_w sv) 0 [(0, .long a0), (2, .ref (E.2.1 + a2)), (3, .int a3)] [] M (f_X2_find a0 a2 a3 M) (fun r => some (r, M))
  unfold f_X2_find
  refine zm_iconst 1 rfl dX2_find_0 zi_0 ?_
  refine zm_istore (lv' := [(4, .int 0), (0, .long a0), (2, .ref (E.2.1 + a2)), (3, .int a3)]) 3 rfl dX2_find_1 (by decide) rfl ?_
  have hx25_3 : ∀ (e25_4 : Int32), zm_V X Y_X2_find E (zm_Q X E Y_X2_find.2.2.2.1.cells Y_X2_find.2.2.2.1.slots (zm_w sv) zm_ei) 0 0 false (zm_w sv) 25 [(4, .int e25_4)] [] M (some e25_4) (fun r => some (r, M)) := by
    intro e25_4
    refine zm_iload 27 rfl dX2_find_25 0 rfl ?_
    exact zm_iret dX2_find_27 rfl (Nat.le_refl _) (Nat.le_refl _) rfl
  have hx34_3 : zm_V X Y_X2_find E (zm_Q X E Y_X2_find.2.2.2.1.cells Y_X2_find.2.2.2.1.slots (zm_w sv) zm_ei) 0 0 false (zm_w sv) 34 [] [] M (some (-1)) (fun r => some (r, M)) := by
    refine zm_iconst 35 rfl dX2_find_34 zi_m1 ?_
    exact zm_iret dX2_find_35 rfl (Nat.le_refl _) (Nat.le_refl _) rfl
  refine zm_loc [1, 2, 3, 0] rfl (zm_lpp (σ := Int32) (ε := (Int32 ⊕ Unit)) (step := f_X2_find_l3 a0 a2 a3 M) (fun s => [(0, .long a0), (2, .ref (E.2.1 + a2)), (3, .int a3), (4, .int s)]) (fun _ => M) (fun D3 f3 hf3a hf3b hD3 s => ?_) 0)
  obtain ⟨l3_4, hq3⟩ : ∃ q, q = s := ⟨_, rfl⟩
  rw [← hq3]
  show zm_V X Y_X2_find E (zm_Q X E Y_X2_find.2.2.2.1.cells Y_X2_find.2.2.2.1.slots (zm_w sv) zm_ei) 0 0 false (zm_w sv) 3 [(0, .long a0), (2, .ref (E.2.1 + a2)), (3, .int a3), (4, .int l3_4)] [] M (f_X2_find_l3 a0 a2 a3 M l3_4) f3
  unfold f_X2_find_l3
  refine zm_iload 5 rfl dX2_find_3 3 rfl ?_
  refine zm_iload_n 6 rfl dX2_find_5 rfl 2 rfl ?_
  refine zm_icmp_ge 34 9 (by decide) rfl dX2_find_6 ?_ ?_
  · exact zm_loc [] rfl (zm_go (hf3b _) (zm_unb (hx34_3)))
  · refine zm_iload 11 rfl dX2_find_9 3 rfl ?_
    refine zm_aload_n 12 rfl dX2_find_11 rfl 1 rfl ?_
    refine zm_alen 13 rfl dX2_find_12 ha2.1 (by decide) ha2.2 rfl ?_
    refine zm_icmp_ge 34 16 (by decide) rfl dX2_find_13 ?_ ?_
    · exact zm_loc [] rfl (zm_go (hf3b _) (zm_unb (hx34_3)))
    · refine zm_aload_n 17 rfl dX2_find_16 rfl 1 rfl ?_
      refine zm_iload 19 rfl dX2_find_17 3 rfl ?_
      refine zm_lald 20 rfl dX2_find_19 ha2.1 ha2.2 ?_
      refine zm_lload_n 21 rfl dX2_find_20 rfl 0 rfl ?_
      refine zm_lcmp 22 rfl dX2_find_21 ?_
      refine zm_if_ne 28 25 (by decide) rfl dX2_find_22 ?_ ?_
      · exact zm_loc [3] rfl (zm_go (hf3b _) (zm_unb (hx25_3 l3_4)))
      · refine zm_iinc (lv' := fun z => [(4, .int z), (0, .long a0), (2, .ref (E.2.1 + a2)), (3, .int a3)]) 31 rfl dX2_find_28 zi_1 3 rfl (by decide) (fun _ => rfl) (fun x28 _ => ?_)
        refine zm_goto 3 (by decide) dX2_find_31 ?_
        exact zm_loc [1, 2, 3, 0] rfl (zm_go (hf3a _) (hD3 x28))
abbrev Y_X7_placeAt : zm_Y := (cX7_placeAt, 2, RX7, { frames := 0, cells := 0, slots := 0, locals := 0 }, (some .int), false, "placeAt")
noncomputable def f_X7_placeAt_b21  : Option Int32 :=
 some (-1)
noncomputable def f_X7_placeAt (a1 : Int32) (M : zm_Mem) : Option Int32 :=
  if a1 < 0 then (f_X7_placeAt_b21) else (if (M.1 3 4) ≤ a1 then (f_X7_placeAt_b21) else (zm_ck (zm_in a1 402) <| some (M.1 5 a1.toNatClampNeg)))
set_option maxRecDepth 20000 in
set_option maxHeartbeats 4000000 in
theorem k_X7_placeAt (E : zm_E) (sv : Nat) (a1 : Int32) (M : zm_Mem) {r : Int32} (h : f_X7_placeAt a1 M = some r) : zm_Ct E (zm_w sv) (zm_w sv) yX7_placeAt Y_X7_placeAt [.ref (E.2.1 + 3), .int a1] M (some (.int r)) M := by
  refine zm_methr (emb := zm_ei) (d := f_X7_placeAt a1 M) (by decide) rfl rfl (Nat.le_of_ble_eq_true rfl) h (fun X => ?_)
  show zm_V X Y_X7_placeAt E (zm_Q X E Y_X7_placeAt.2.2.2.1.cells Y_X7_placeAt.2.2.2.1.slots (zm_w sv) zm_ei) 0 0 false (zm_w sv) 0 [(0, .ref (E.2.1 + 3)), (1, .int a1)] [] M (f_X7_placeAt a1 M) (fun r => some (r, M))
  unfold f_X7_placeAt
  refine zm_iload_n 1 rfl dX7_placeAt_0 rfl 1 rfl ?_
  have hb21 : zm_V X Y_X7_placeAt E (zm_Q X E Y_X7_placeAt.2.2.2.1.cells Y_X7_placeAt.2.2.2.1.slots (zm_w sv) zm_ei) 0 0 false (zm_w sv) 21 [] [] M (f_X7_placeAt_b21) (fun r => some (r, M)) := by
    unfold f_X7_placeAt_b21
    refine zm_iconst 22 rfl dX7_placeAt_21 zi_m1 ?_
    exact zm_iret dX7_placeAt_22 rfl (Nat.le_refl _) (Nat.le_refl _) rfl
  refine zm_if_lt 21 4 (by decide) rfl dX7_placeAt_1 ?_ ?_
  · exact zm_loc [] rfl (hb21)
  · refine zm_iload_n 5 rfl dX7_placeAt_4 rfl 1 rfl ?_
    refine zm_aload_n 6 rfl dX7_placeAt_5 rfl 0 rfl ?_
    refine zm_getI 9 rfl dX7_placeAt_6 fl_X7_41 rfl (zm_L (sv := sv) rfl) ?_
    refine zm_icmp_ge 21 12 (by decide) rfl dX7_placeAt_9 ?_ ?_
    · exact zm_loc [] rfl (hb21)
    · refine zm_aload_n 13 rfl dX7_placeAt_12 rfl 0 rfl ?_
      refine zm_getR (a := 5) 16 rfl dX7_placeAt_13 fl_X7_15 rfl (zm_L (sv := sv) rfl) rfl (by decide) ?_
      refine zm_iload_n 17 rfl dX7_placeAt_16 rfl 1 rfl ?_
      refine zm_iald 18 rfl dX7_placeAt_17 rfl (zm_L (sv := sv) rfl) ?_
      refine zm_goto 22 (by decide) dX7_placeAt_18 ?_
      exact zm_iret dX7_placeAt_22 rfl (Nat.le_refl _) (Nat.le_refl _) rfl
abbrev Y_X2_note : zm_Y := (cX2_note, 2, RX2, { frames := 1, cells := 0, slots := 0, locals := 21 }, none, false, "note")
noncomputable def f_X2_note (a1 : Int32) (M : zm_Mem) : Option (Unit × zm_Mem) :=
  if (M.1 8 5) = 0 then (if (M.1 8 7) = 0 then (zm_v (zm_sI M 8 7 a1) <| fun M16 => zm_b1 (f_X7_placeAt (M16.1 8 4) M16) <| fun r28 => zm_v (zm_sI M16 8 8 r28) <| fun M31 => some ((), M31)) else (some ((), M))) else (some ((), M))
set_option maxRecDepth 20000 in
set_option maxHeartbeats 4000000 in
theorem k_X2_note (E : zm_E) (sv : Nat) (a1 : Int32) (M : zm_Mem) {r : Unit} {M' : zm_Mem} (h : f_X2_note a1 M = some (r, M')) : zm_Ct E (zm_w sv) (zm_w sv) yX2_note Y_X2_note [.ref (E.2.1 + 8), .int a1] M none M' := by
  refine zm_meth (emb := zm_ev) (d := f_X2_note a1 M) (by decide) rfl rfl (Nat.le_of_ble_eq_true rfl) h (fun X => ?_)
  show zm_V X Y_X2_note E (zm_Q X E Y_X2_note.2.2.2.1.cells Y_X2_note.2.2.2.1.slots (zm_w sv) zm_ev) 0 0 false (zm_w sv) 0 [(0, .ref (E.2.1 + 8)), (1, .int a1)] [] M (f_X2_note a1 M) some
  unfold f_X2_note
  refine zm_aload_n 1 rfl dX2_note_0 rfl 0 rfl ?_
  refine zm_getI 4 rfl dX2_note_1 fl_X2_38 rfl (zm_L (sv := sv) rfl) ?_
  refine zm_if_ne 34 7 (by decide) rfl dX2_note_4 ?_ ?_
  · refine zm_aload_n 8 rfl dX2_note_7 rfl 0 rfl ?_
    refine zm_getI 11 rfl dX2_note_8 fl_X2_41 rfl (zm_L (sv := sv) rfl) ?_
    refine zm_if_ne 34 14 (by decide) rfl dX2_note_11 ?_ ?_
    · refine zm_aload_n 15 rfl dX2_note_14 rfl 0 rfl ?_
      refine zm_iload_n 16 rfl dX2_note_15 rfl 1 rfl ?_
      refine zm_putI 19 rfl dX2_note_16 fp_X2_41 rfl (zm_L (sv := sv) rfl) rfl rfl (fun M16 _ => ?_)
      refine zm_aload_n 20 rfl dX2_note_19 rfl 0 rfl ?_
      refine zm_aload_n 21 rfl dX2_note_20 rfl 0 rfl ?_
      refine zm_getR (a := 3) 24 rfl dX2_note_21 fl_X2_18 rfl (zm_L (sv := sv) rfl) rfl (by decide) ?_
      refine zm_aload_n 25 rfl dX2_note_24 rfl 0 rfl ?_
      refine zm_getI 28 rfl dX2_note_25 fl_X2_35 rfl (zm_L (sv := sv) rfl) ?_
      refine zm_cV1ir 31 rfl dX2_note_28 ml_X2_86 rfl (zm_L (sv := sv) rfl) rfl (Nat.le_of_ble_eq_true rfl) ⟨Nat.le_of_ble_eq_true rfl, Nat.le_of_ble_eq_true rfl⟩ rfl rfl ⟨Nat.le_refl _, Nat.le_refl _⟩ rfl (fun _ h => k_X7_placeAt E sv (M16.1 8 4) M16 h) (fun r28 => ?_)
      refine zm_putI 34 rfl dX2_note_31 fp_X2_44 rfl (zm_L (sv := sv) rfl) rfl rfl (fun M31 _ => ?_)
      exact zm_vret dX2_note_34 rfl (Nat.le_refl _) (Nat.le_refl _) rfl
    · exact zm_vret dX2_note_34 rfl (Nat.le_refl _) (Nat.le_refl _) rfl
  · exact zm_vret dX2_note_34 rfl (Nat.le_refl _) (Nat.le_refl _) rfl
abbrev Y_X2_expect : zm_Y := (cX2_expect, 2, RX2, { frames := 2, cells := 0, slots := 0, locals := 41 }, none, false, "expect")
noncomputable def f_X2_expect (a1 : Int32) (M : zm_Mem) : Option (Unit × zm_Mem) :=
  zm_b1 (f_X2_sort M) <| fun r1 => if r1 = a1 then (zm_b2 (f_X2_take M) <| fun _ M9 => some ((), M9)) else (zm_b2 (f_X2_fail 1 M) <| fun _ M17 => some ((), M17))
set_option maxRecDepth 20000 in
set_option maxHeartbeats 4000000 in
theorem k_X2_expect (E : zm_E) (sv : Nat) (a1 : Int32) (M : zm_Mem) {r : Unit} {M' : zm_Mem} (h : f_X2_expect a1 M = some (r, M')) : zm_Ct E (zm_w sv) (zm_w sv) yX2_expect Y_X2_expect [.ref (E.2.1 + 8), .int a1] M none M' := by
  refine zm_meth (emb := zm_ev) (d := f_X2_expect a1 M) (by decide) rfl rfl (Nat.le_of_ble_eq_true rfl) h (fun X => ?_)
  show zm_V X Y_X2_expect E (zm_Q X E Y_X2_expect.2.2.2.1.cells Y_X2_expect.2.2.2.1.slots (zm_w sv) zm_ev) 0 0 false (zm_w sv) 0 [(0, .ref (E.2.1 + 8)), (1, .int a1)] [] M (f_X2_expect a1 M) some
  unfold f_X2_expect
  refine zm_aload_n 1 rfl dX2_expect_0 rfl 0 rfl ?_
  refine zm_cV0ir 4 rfl dX2_expect_1 ml_X2_47 rfl (zm_L (sv := sv) rfl) rfl (Nat.le_of_ble_eq_true rfl) ⟨Nat.le_of_ble_eq_true rfl, Nat.le_of_ble_eq_true rfl⟩ rfl rfl ⟨Nat.le_refl _, Nat.le_refl _⟩ rfl (fun _ h => k_X2_sort E sv M h) (fun r1 => ?_)
  refine zm_iload_n 5 rfl dX2_expect_4 rfl 1 rfl ?_
  refine zm_icmp_ne 15 8 (by decide) rfl dX2_expect_5 ?_ ?_
  · refine zm_aload_n 9 rfl dX2_expect_8 rfl 0 rfl ?_
    refine zm_cV0v 12 rfl dX2_expect_9 ml_X2_95 rfl (zm_L (sv := sv) rfl) rfl (Nat.le_of_ble_eq_true rfl) ⟨Nat.le_of_ble_eq_true rfl, Nat.le_of_ble_eq_true rfl⟩ rfl rfl ⟨Nat.le_refl _, Nat.le_refl _⟩ rfl (fun _ _ h => k_X2_take E sv M h) (fun _ M9 => ?_)
    refine zm_goto 20 (by decide) dX2_expect_12 ?_
    exact zm_vret dX2_expect_20 rfl (Nat.le_refl _) (Nat.le_refl _) rfl
  · refine zm_aload_n 16 rfl dX2_expect_15 rfl 0 rfl ?_
    refine zm_iconst 17 rfl dX2_expect_16 zi_1 ?_
    refine zm_cV1v 20 rfl dX2_expect_17 ml_X2_82 rfl (zm_L (sv := sv) rfl) rfl (Nat.le_of_ble_eq_true rfl) ⟨Nat.le_of_ble_eq_true rfl, Nat.le_of_ble_eq_true rfl⟩ rfl rfl ⟨Nat.le_refl _, Nat.le_refl _⟩ rfl (fun _ _ h => k_X2_fail E sv 1 M h) (fun _ M17 => ?_)
    exact zm_vret dX2_expect_20 rfl (Nat.le_refl _) (Nat.le_refl _) rfl
abbrev Y_X2_newName : zm_Y := (cX2_newName, 3, RX2, { frames := 3, cells := 0, slots := 0, locals := 62 }, (some .long), false, "newName")
noncomputable def f_X2_newName_b55 (r8 : Int64) (M55 : zm_Mem) : Option (Int64 × zm_Mem) :=
 zm_b2 (f_X2_expect 2 M55) <| fun _ M57 => some (r8, M57)
noncomputable def f_X2_newName_b50 (M : zm_Mem) (r8 : Int64) : Option (Int64 × zm_Mem) :=
 zm_b2 (f_X2_note 3 M) <| fun _ M52 => f_X2_newName_b55 r8 M52
noncomputable def f_X2_newName  (M : zm_Mem) : Option (Int64 × zm_Mem) :=
  zm_b1 (f_X7_worthAt (M.1 8 4) M) <| fun r8 => zm_v (M.2.2 8 3) <| fun t18 => zm_ck (zm_isT t18) <| zm_b1 (f_X2_find r8 9 (M.1 t18 11) M) <| fun r24 => if r24 = (-1 : Int32) then (zm_v (M.2.2 8 3) <| fun t37 => zm_ck (zm_isT t37) <| zm_b1 (f_X2_find r8 10 (M.1 t37 12) M) <| fun r43 => if r43 = (-1 : Int32) then (f_X2_newName_b55 r8 M) else (f_X2_newName_b50 M r8)) else (f_X2_newName_b50 M r8)
set_option maxRecDepth 20000 in
set_option maxHeartbeats 4000000 in
theorem k_X2_newName (E : zm_E) (sv : Nat)  (M : zm_Mem) {r : Int64} {M' : zm_Mem} (h : f_X2_newName M = some (r, M')) : zm_Ct E (zm_w sv) (zm_w sv) yX2_newName Y_X2_newName [.ref (E.2.1 + 8)] M (some (.long r)) M' := by
  refine zm_meth (emb := zm_el) (d := f_X2_newName M) (by decide) rfl rfl (Nat.le_of_ble_eq_true rfl) h (fun X => ?_)
  show zm_V X Y_X2_newName E (zm_Q X E Y_X2_newName.2.2.2.1.cells Y_X2_newName.2.2.2.1.slots (zm_w sv) zm_el) 0 0 false (zm_w sv) 0 [(0, .ref (E.2.1 + 8))] [] M (f_X2_newName M) some
  unfold f_X2_newName
  refine zm_aload_n 1 rfl dX2_newName_0 rfl 0 rfl ?_
  refine zm_getR (a := 3) 4 rfl dX2_newName_1 fl_X2_18 rfl (zm_L (sv := sv) rfl) rfl (by decide) ?_
  refine zm_aload_n 5 rfl dX2_newName_4 rfl 0 rfl ?_
  refine zm_getI 8 rfl dX2_newName_5 fl_X2_35 rfl (zm_L (sv := sv) rfl) ?_
  refine zm_cV1lr 11 rfl dX2_newName_8 ml_X2_165 rfl (zm_L (sv := sv) rfl) rfl (Nat.le_of_ble_eq_true rfl) ⟨Nat.le_of_ble_eq_true rfl, Nat.le_of_ble_eq_true rfl⟩ rfl rfl ⟨Nat.le_refl _, Nat.le_refl _⟩ rfl (fun _ h => k_X7_worthAt E sv (M.1 8 4) M h) (fun r8 => ?_)
  refine zm_lstore_n (lv' := [(1, .long r8), (0, .ref (E.2.1 + 8))]) 12 rfl dX2_newName_11 rfl (by decide) rfl ?_
  refine zm_lload_n 13 rfl dX2_newName_12 rfl 0 rfl ?_
  refine zm_aload_n 14 rfl dX2_newName_13 rfl 1 rfl ?_
  refine zm_getR (a := 9) 17 rfl dX2_newName_14 fl_X2_9 rfl (zm_L (sv := sv) rfl) rfl (by decide) ?_
  refine zm_aload_n 18 rfl dX2_newName_17 rfl 1 rfl ?_
  refine zm_getT 21 rfl dX2_newName_18 fl_X2_26 rfl (zm_L (sv := sv) rfl) (fun t18 _ ht18 => ?_)
  refine zm_getI 24 rfl dX2_newName_21 fl_X2_92 (zm_T_o ht18) (zm_T_l0 (sv := sv) ht18) ?_
  refine zm_cS3ir 27 rfl dX2_newName_24 ml_X2_172 (Nat.le_of_ble_eq_true rfl) ⟨Nat.le_of_ble_eq_true rfl, Nat.le_of_ble_eq_true rfl⟩ rfl rfl ⟨Nat.le_refl _, Nat.le_refl _⟩ rfl (fun _ h => k_X2_find E sv r8 9 (M.1 t18 11) ⟨rfl, (zm_L (sv := sv) rfl)⟩ M h) (fun r24 => ?_)
  refine zm_iconst 28 rfl dX2_newName_27 zi_m1 ?_
  have hb55 : ∀ (M55 : zm_Mem), zm_V X Y_X2_newName E (zm_Q X E Y_X2_newName.2.2.2.1.cells Y_X2_newName.2.2.2.1.slots (zm_w sv) zm_el) 0 0 false (zm_w sv) 55 [(0, .ref (E.2.1 + 8)), (1, .long r8)] [] M55 (f_X2_newName_b55 r8 M55) some := by
    intro M55
    unfold f_X2_newName_b55
    refine zm_aload_n 56 rfl dX2_newName_55 rfl 0 rfl ?_
    refine zm_iconst 57 rfl dX2_newName_56 zi_2 ?_
    refine zm_cV1v 60 rfl dX2_newName_57 ml_X2_112 rfl (zm_L (sv := sv) rfl) rfl (Nat.le_of_ble_eq_true rfl) ⟨Nat.le_of_ble_eq_true rfl, Nat.le_of_ble_eq_true rfl⟩ rfl rfl ⟨Nat.le_refl _, Nat.le_refl _⟩ rfl (fun _ _ h => k_X2_expect E sv 2 M55 h) (fun _ M57 => ?_)
    refine zm_lload_n 61 rfl dX2_newName_60 rfl 1 rfl ?_
    exact zm_lret dX2_newName_61 rfl (Nat.le_refl _) (Nat.le_refl _) rfl
  have hb50 : zm_V X Y_X2_newName E (zm_Q X E Y_X2_newName.2.2.2.1.cells Y_X2_newName.2.2.2.1.slots (zm_w sv) zm_el) 0 0 false (zm_w sv) 50 [(0, .ref (E.2.1 + 8)), (1, .long r8)] [] M (f_X2_newName_b50 M r8) some := by
    unfold f_X2_newName_b50
    refine zm_aload_n 51 rfl dX2_newName_50 rfl 0 rfl ?_
    refine zm_iconst 52 rfl dX2_newName_51 zi_3 ?_
    refine zm_cV1v 55 rfl dX2_newName_52 ml_X2_169 rfl (zm_L (sv := sv) rfl) rfl (Nat.le_of_ble_eq_true rfl) ⟨Nat.le_of_ble_eq_true rfl, Nat.le_of_ble_eq_true rfl⟩ rfl rfl ⟨Nat.le_refl _, Nat.le_refl _⟩ rfl (fun _ _ h => k_X2_note E sv 3 M h) (fun _ M52 => ?_)
    exact zm_loc [0, 1] rfl (hb55 M52)
  refine zm_icmp_ne 50 31 (by decide) rfl dX2_newName_28 ?_ ?_
  · refine zm_lload_n 32 rfl dX2_newName_31 rfl 0 rfl ?_
    refine zm_aload_n 33 rfl dX2_newName_32 rfl 1 rfl ?_
    refine zm_getR (a := 10) 36 rfl dX2_newName_33 fl_X2_15 rfl (zm_L (sv := sv) rfl) rfl (by decide) ?_
    refine zm_aload_n 37 rfl dX2_newName_36 rfl 1 rfl ?_
    refine zm_getT 40 rfl dX2_newName_37 fl_X2_26 rfl (zm_L (sv := sv) rfl) (fun t37 _ ht37 => ?_)
    refine zm_getI 43 rfl dX2_newName_40 fl_X2_115 (zm_T_o ht37) (zm_T_l0 (sv := sv) ht37) ?_
    refine zm_cS3ir 46 rfl dX2_newName_43 ml_X2_172 (Nat.le_of_ble_eq_true rfl) ⟨Nat.le_of_ble_eq_true rfl, Nat.le_of_ble_eq_true rfl⟩ rfl rfl ⟨Nat.le_refl _, Nat.le_refl _⟩ rfl (fun _ h => k_X2_find E sv r8 10 (M.1 t37 12) ⟨rfl, (zm_L (sv := sv) rfl)⟩ M h) (fun r43 => ?_)
    refine zm_iconst 47 rfl dX2_newName_46 zi_m1 ?_
    refine zm_icmp_eq 55 50 (by decide) rfl dX2_newName_47 ?_ ?_
    · exact zm_loc [1, 0] rfl (hb55 M)
    · exact zm_loc [1, 0] rfl (hb50)
  · exact zm_loc [1, 0] rfl (hb50)
abbrev Y_X2_number : zm_Y := (cX2_number, 4, RX2, { frames := 3, cells := 0, slots := 0, locals := 62 }, (some .int), false, "number")
noncomputable def f_X2_number_b36 (x12 : Int32) (M36 : zm_Mem) : Option (Int32 × zm_Mem) :=
 zm_b2 (f_X2_expect 3 M36) <| fun _ M38 => some (x12, M38)
noncomputable def f_X2_number_b31 (M : zm_Mem) (x12 : Int32) : Option (Int32 × zm_Mem) :=
 zm_b2 (f_X2_note 5 M) <| fun _ M33 => f_X2_number_b36 x12 M33
noncomputable def f_X2_number (a1 : Int32) (a2 : Int32) (M : zm_Mem) : Option (Int32 × zm_Mem) :=
  zm_b1 (f_X7_worthAt (M.1 8 4) M) <| fun r8 => zm_v (r8.toInt32) <| fun x12 => zm_b1 (f_X2_sort M) <| fun r14 => if r14 = (3 : Int32) then (if x12 < a1 then (f_X2_number_b31 M x12) else (if x12 ≤ a2 then (f_X2_number_b36 x12 M) else (f_X2_number_b31 M x12))) else (f_X2_number_b36 x12 M)
set_option maxRecDepth 20000 in
set_option maxHeartbeats 4000000 in
theorem k_X2_number (E : zm_E) (sv : Nat) (a1 : Int32) (a2 : Int32) (M : zm_Mem) {r : Int32} {M' : zm_Mem} (h : f_X2_number a1 a2 M = some (r, M')) : zm_Ct E (zm_w sv) (zm_w sv) yX2_number Y_X2_number [.ref (E.2.1 + 8), .int a1, .int a2] M (some (.int r)) M' := by
  refine zm_meth (emb := zm_ei) (d := f_X2_number a1 a2 M) (by decide) rfl rfl (Nat.le_of_ble_eq_true rfl) h (fun X => ?_)
  show zm_V X Y_X2_number E (zm_Q X E Y_X2_number.2.2.2.1.cells Y_X2_number.2.2.2.1.slots (zm_w sv) zm_ei) 0 0 false (zm_w sv) 0 [(0, .ref (E.2.1 + 8)), (1, .int a1), (2, .int a2)] [] M (f_X2_number a1 a2 M) some
  unfold f_X2_number
  refine zm_aload_n 1 rfl dX2_number_0 rfl 0 rfl ?_
  refine zm_getR (a := 3) 4 rfl dX2_number_1 fl_X2_18 rfl (zm_L (sv := sv) rfl) rfl (by decide) ?_
  refine zm_aload_n 5 rfl dX2_number_4 rfl 0 rfl ?_
  refine zm_getI 8 rfl dX2_number_5 fl_X2_35 rfl (zm_L (sv := sv) rfl) ?_
  refine zm_cV1lr 11 rfl dX2_number_8 ml_X2_165 rfl (zm_L (sv := sv) rfl) rfl (Nat.le_of_ble_eq_true rfl) ⟨Nat.le_of_ble_eq_true rfl, Nat.le_of_ble_eq_true rfl⟩ rfl rfl ⟨Nat.le_refl _, Nat.le_refl _⟩ rfl (fun _ h => k_X7_worthAt E sv (M.1 8 4) M h) (fun r8 => ?_)
  refine zm_l2i 12 rfl dX2_number_11 ?_
  refine zm_nmi (fun x12 _ => ?_)
  refine zm_istore_n (lv' := [(3, .int x12), (0, .ref (E.2.1 + 8)), (1, .int a1), (2, .int a2)]) 13 rfl dX2_number_12 rfl (by decide) rfl ?_
  refine zm_aload_n 14 rfl dX2_number_13 rfl 1 rfl ?_
  refine zm_cV0ir 17 rfl dX2_number_14 ml_X2_47 rfl (zm_L (sv := sv) rfl) rfl (Nat.le_of_ble_eq_true rfl) ⟨Nat.le_of_ble_eq_true rfl, Nat.le_of_ble_eq_true rfl⟩ rfl rfl ⟨Nat.le_refl _, Nat.le_refl _⟩ rfl (fun _ h => k_X2_sort E sv M h) (fun r14 => ?_)
  refine zm_iconst 18 rfl dX2_number_17 zi_3 ?_
  have hb36 : ∀ (M36 : zm_Mem), zm_V X Y_X2_number E (zm_Q X E Y_X2_number.2.2.2.1.cells Y_X2_number.2.2.2.1.slots (zm_w sv) zm_ei) 0 0 false (zm_w sv) 36 [(0, .ref (E.2.1 + 8)), (3, .int x12)] [] M36 (f_X2_number_b36 x12 M36) some := by
    intro M36
    unfold f_X2_number_b36
    refine zm_aload_n 37 rfl dX2_number_36 rfl 0 rfl ?_
    refine zm_iconst 38 rfl dX2_number_37 zi_3 ?_
    refine zm_cV1v 41 rfl dX2_number_38 ml_X2_112 rfl (zm_L (sv := sv) rfl) rfl (Nat.le_of_ble_eq_true rfl) ⟨Nat.le_of_ble_eq_true rfl, Nat.le_of_ble_eq_true rfl⟩ rfl rfl ⟨Nat.le_refl _, Nat.le_refl _⟩ rfl (fun _ _ h => k_X2_expect E sv 3 M36 h) (fun _ M38 => ?_)
    refine zm_iload_n 42 rfl dX2_number_41 rfl 1 rfl ?_
    exact zm_iret dX2_number_42 rfl (Nat.le_refl _) (Nat.le_refl _) rfl
  refine zm_icmp_ne 36 21 (by decide) rfl dX2_number_18 ?_ ?_
  · refine zm_iload_n 22 rfl dX2_number_21 rfl 0 rfl ?_
    refine zm_iload_n 23 rfl dX2_number_22 rfl 2 rfl ?_
    have hb31 : zm_V X Y_X2_number E (zm_Q X E Y_X2_number.2.2.2.1.cells Y_X2_number.2.2.2.1.slots (zm_w sv) zm_ei) 0 0 false (zm_w sv) 31 [(0, .ref (E.2.1 + 8)), (3, .int x12)] [] M (f_X2_number_b31 M x12) some := by
      unfold f_X2_number_b31
      refine zm_aload_n 32 rfl dX2_number_31 rfl 0 rfl ?_
      refine zm_iconst 33 rfl dX2_number_32 zi_5 ?_
      refine zm_cV1v 36 rfl dX2_number_33 ml_X2_169 rfl (zm_L (sv := sv) rfl) rfl (Nat.le_of_ble_eq_true rfl) ⟨Nat.le_of_ble_eq_true rfl, Nat.le_of_ble_eq_true rfl⟩ rfl rfl ⟨Nat.le_refl _, Nat.le_refl _⟩ rfl (fun _ _ h => k_X2_note E sv 5 M h) (fun _ M33 => ?_)
      exact zm_loc [0, 1] rfl (hb36 M33)
    refine zm_icmp_lt 31 26 (by decide) rfl dX2_number_23 ?_ ?_
    · exact zm_loc [1, 0] rfl (hb31)
    · refine zm_iload_n 27 rfl dX2_number_26 rfl 0 rfl ?_
      refine zm_iload_n 28 rfl dX2_number_27 rfl 3 rfl ?_
      refine zm_icmp_le 36 31 (by decide) rfl dX2_number_28 ?_ ?_
      · exact zm_loc [1, 0] rfl (hb36 M)
      · exact zm_loc [1, 0] rfl (hb31)
  · exact zm_loc [1, 0] rfl (hb36 M)
abbrev Y_X2_tellHouse : zm_Y := (cX2_tellHouse, 2, RX2, { frames := 4, cells := 0, slots := 0, locals := 85 }, none, false, "tellHouse")
noncomputable def f_X2_tellHouse  (M : zm_Mem) : Option (Unit × zm_Mem) :=
  zm_v (M.2.2 8 3) <| fun t1 => zm_ck (zm_isT t1) <| zm_v (M.1 t1 11) <| fun x7 => if x7 < (5 : Int32) then (zm_b2 (f_X2_take M) <| fun _ M20 => zm_b2 (f_X2_newName M20) <| fun r29 M29 => zm_ck (zm_in x7 5) <| zm_v (zm_sL M29 9 x7.toNatClampNeg r29) <| fun M32 => zm_v (M32.2.2 8 3) <| fun t34 => zm_ck (zm_isT t34) <| zm_b2 (f_X2_number 0 9 M32) <| fun r45 M45 => zm_ck (zm_in x7 5) <| zm_v (zm_sI M45 (t34 + 1) x7.toNatClampNeg r45) <| fun M48 => zm_v (M48.2.2 8 3) <| fun t50 => zm_ck (zm_isT t50) <| zm_b2 (f_X2_number 0 9 M48) <| fun r61 M61 => zm_ck (zm_in x7 5) <| zm_v (zm_sI M61 (t50 + 2) x7.toNatClampNeg r61) <| fun M64 => zm_b2 (f_X2_expect 59 M64) <| fun _ M68 => zm_v (M68.2.2 8 3) <| fun t72 => zm_ck (zm_isT t72) <| zm_v (zm_sI M68 t72 11 ((M68.1 t72 11) + 1)) <| fun M81 => some ((), M81)) else (zm_b2 (f_X2_fail 2 M) <| fun _ M15 => some ((), M15))
set_option maxRecDepth 20000 in
set_option maxHeartbeats 4000000 in
theorem k_X2_tellHouse (E : zm_E) (sv : Nat)  (M : zm_Mem) {r : Unit} {M' : zm_Mem} (h : f_X2_tellHouse M = some (r, M')) : zm_Ct E (zm_w sv) (zm_w sv) yX2_tellHouse Y_X2_tellHouse [.ref (E.2.1 + 8)] M none M' := by
  refine zm_meth (emb := zm_ev) (d := f_X2_tellHouse M) (by decide) rfl rfl (Nat.le_of_ble_eq_true rfl) h (fun X => ?_)
  show zm_V X Y_X2_tellHouse E (zm_Q X E Y_X2_tellHouse.2.2.2.1.cells Y_X2_tellHouse.2.2.2.1.slots (zm_w sv) zm_ev) 0 0 false (zm_w sv) 0 [(0, .ref (E.2.1 + 8))] [] M (f_X2_tellHouse M) some
  unfold f_X2_tellHouse
  refine zm_aload_n 1 rfl dX2_tellHouse_0 rfl 0 rfl ?_
  refine zm_getT 4 rfl dX2_tellHouse_1 fl_X2_26 rfl (zm_L (sv := sv) rfl) (fun t1 _ ht1 => ?_)
  refine zm_getI 7 rfl dX2_tellHouse_4 fl_X2_92 (zm_T_o ht1) (zm_T_l0 (sv := sv) ht1) ?_
  refine zm_nmi (fun x7 _ => ?_)
  refine zm_istore_n (lv' := [(1, .int x7), (0, .ref (E.2.1 + 8))]) 8 rfl dX2_tellHouse_7 rfl (by decide) rfl ?_
  refine zm_iload_n 9 rfl dX2_tellHouse_8 rfl 0 rfl ?_
  refine zm_iconst 10 rfl dX2_tellHouse_9 zi_5 ?_
  refine zm_icmp_lt 19 13 (by decide) rfl dX2_tellHouse_10 ?_ ?_
  · refine zm_aload_n 20 rfl dX2_tellHouse_19 rfl 1 rfl ?_
    refine zm_cV0v 23 rfl dX2_tellHouse_20 ml_X2_95 rfl (zm_L (sv := sv) rfl) rfl (Nat.le_of_ble_eq_true rfl) ⟨Nat.le_of_ble_eq_true rfl, Nat.le_of_ble_eq_true rfl⟩ rfl rfl ⟨Nat.le_refl _, Nat.le_refl _⟩ rfl (fun _ _ h => k_X2_take E sv M h) (fun _ M20 => ?_)
    refine zm_aload_n 24 rfl dX2_tellHouse_23 rfl 1 rfl ?_
    refine zm_getR (a := 9) 27 rfl dX2_tellHouse_24 fl_X2_9 rfl (zm_L (sv := sv) rfl) rfl (by decide) ?_
    refine zm_iload_n 28 rfl dX2_tellHouse_27 rfl 0 rfl ?_
    refine zm_aload_n 29 rfl dX2_tellHouse_28 rfl 1 rfl ?_
    refine zm_cV0l 32 rfl dX2_tellHouse_29 ml_X2_98 rfl (zm_L (sv := sv) rfl) rfl (Nat.le_of_ble_eq_true rfl) ⟨Nat.le_of_ble_eq_true rfl, Nat.le_of_ble_eq_true rfl⟩ rfl rfl ⟨Nat.le_refl _, Nat.le_refl _⟩ rfl (fun _ _ h => k_X2_newName E sv M20 h) (fun r29 M29 => ?_)
    refine zm_last 33 rfl dX2_tellHouse_32 rfl (zm_L (sv := sv) rfl) (fun M32 _ => ?_)
    refine zm_aload_n 34 rfl dX2_tellHouse_33 rfl 1 rfl ?_
    refine zm_getT 37 rfl dX2_tellHouse_34 fl_X2_26 rfl (zm_L (sv := sv) rfl) (fun t34 _ ht34 => ?_)
    refine zm_getR (a := t34 + 1) 40 rfl dX2_tellHouse_37 fl_X2_102 (zm_T_o ht34) (zm_T_l0 (sv := sv) ht34) (zm_T_r ht34 0 (by decide)) (Nat.succ_ne_zero _) ?_
    refine zm_iload_n 41 rfl dX2_tellHouse_40 rfl 0 rfl ?_
    refine zm_aload_n 42 rfl dX2_tellHouse_41 rfl 1 rfl ?_
    refine zm_iconst 43 rfl dX2_tellHouse_42 zi_0 ?_
    refine zm_bipush 45 rfl dX2_tellHouse_43 zb_9 ?_
    refine zm_cV2i 48 rfl dX2_tellHouse_45 ml_X2_106 rfl (zm_L (sv := sv) rfl) rfl (Nat.le_of_ble_eq_true rfl) ⟨Nat.le_of_ble_eq_true rfl, Nat.le_of_ble_eq_true rfl⟩ rfl rfl ⟨Nat.le_refl _, Nat.le_refl _⟩ rfl (fun _ _ h => k_X2_number E sv 0 9 M32 h) (fun r45 M45 => ?_)
    refine zm_iast 49 rfl dX2_tellHouse_48 (zm_T_a ht34 1 (by decide)) (zm_T_l (sv := sv) ht34 1 (by decide)) (fun M48 _ => ?_)
    refine zm_aload_n 50 rfl dX2_tellHouse_49 rfl 1 rfl ?_
    refine zm_getT 53 rfl dX2_tellHouse_50 fl_X2_26 rfl (zm_L (sv := sv) rfl) (fun t50 _ ht50 => ?_)
    refine zm_getR (a := t50 + 2) 56 rfl dX2_tellHouse_53 fl_X2_109 (zm_T_o ht50) (zm_T_l0 (sv := sv) ht50) (zm_T_r ht50 1 (by decide)) (Nat.succ_ne_zero _) ?_
    refine zm_iload_n 57 rfl dX2_tellHouse_56 rfl 0 rfl ?_
    refine zm_aload_n 58 rfl dX2_tellHouse_57 rfl 1 rfl ?_
    refine zm_iconst 59 rfl dX2_tellHouse_58 zi_0 ?_
    refine zm_bipush 61 rfl dX2_tellHouse_59 zb_9 ?_
    refine zm_cV2i 64 rfl dX2_tellHouse_61 ml_X2_106 rfl (zm_L (sv := sv) rfl) rfl (Nat.le_of_ble_eq_true rfl) ⟨Nat.le_of_ble_eq_true rfl, Nat.le_of_ble_eq_true rfl⟩ rfl rfl ⟨Nat.le_refl _, Nat.le_refl _⟩ rfl (fun _ _ h => k_X2_number E sv 0 9 M48 h) (fun r61 M61 => ?_)
    refine zm_iast 65 rfl dX2_tellHouse_64 (zm_T_a ht50 2 (by decide)) (zm_T_l (sv := sv) ht50 2 (by decide)) (fun M64 _ => ?_)
    refine zm_aload_n 66 rfl dX2_tellHouse_65 rfl 1 rfl ?_
    refine zm_bipush 68 rfl dX2_tellHouse_66 zb_59 ?_
    refine zm_cV1v 71 rfl dX2_tellHouse_68 ml_X2_112 rfl (zm_L (sv := sv) rfl) rfl (Nat.le_of_ble_eq_true rfl) ⟨Nat.le_of_ble_eq_true rfl, Nat.le_of_ble_eq_true rfl⟩ rfl rfl ⟨Nat.le_refl _, Nat.le_refl _⟩ rfl (fun _ _ h => k_X2_expect E sv 59 M64 h) (fun _ M68 => ?_)
    refine zm_aload_n 72 rfl dX2_tellHouse_71 rfl 1 rfl ?_
    refine zm_getT 75 rfl dX2_tellHouse_72 fl_X2_26 rfl (zm_L (sv := sv) rfl) (fun t72 _ ht72 => ?_)
    refine zm_dup 76 rfl dX2_tellHouse_75 rfl ?_
    refine zm_getI 79 rfl dX2_tellHouse_76 fl_X2_92 (zm_T_o ht72) (zm_T_l0 (sv := sv) ht72) ?_
    refine zm_iconst 80 rfl dX2_tellHouse_79 zi_1 ?_
    refine zm_iadd 81 rfl dX2_tellHouse_80 ?_
    refine zm_putI 84 rfl dX2_tellHouse_81 fp_X2_92 (zm_T_o ht72) (zm_T_l0 (sv := sv) ht72) rfl rfl (fun M81 _ => ?_)
    exact zm_vret dX2_tellHouse_84 rfl (Nat.le_refl _) (Nat.le_refl _) rfl
  · refine zm_aload_n 14 rfl dX2_tellHouse_13 rfl 1 rfl ?_
    refine zm_iconst 15 rfl dX2_tellHouse_14 zi_2 ?_
    refine zm_cV1v 18 rfl dX2_tellHouse_15 ml_X2_82 rfl (zm_L (sv := sv) rfl) rfl (Nat.le_of_ble_eq_true rfl) ⟨Nat.le_of_ble_eq_true rfl, Nat.le_of_ble_eq_true rfl⟩ rfl rfl ⟨Nat.le_refl _, Nat.le_refl _⟩ rfl (fun _ _ h => k_X2_fail E sv 2 M h) (fun _ M15 => ?_)
    exact zm_vret dX2_tellHouse_18 rfl (Nat.le_refl _) (Nat.le_refl _) rfl
abbrev Y_X2_toldName : zm_Y := (cX2_toldName, 4, RX2, { frames := 3, cells := 0, slots := 0, locals := 62 }, (some .int), false, "toldName")
noncomputable def f_X2_toldName_b27 (r13 : Int32) (M27 : zm_Mem) : Option (Int32 × zm_Mem) :=
 zm_b2 (f_X2_expect 2 M27) <| fun _ M29 => some (zm_max r13 0, M29)
noncomputable def f_X2_toldName (a1 : Nat) (a2 : Int32) (M : zm_Mem) : Option (Int32 × zm_Mem) :=
  zm_b1 (f_X7_worthAt (M.1 8 4) M) <| fun r8 => zm_b1 (f_X2_find r8 a1 a2 M) <| fun r13 => if r13 = (-1 : Int32) then (zm_b2 (f_X2_note 4 M) <| fun _ M24 => f_X2_toldName_b27 r13 M24) else (f_X2_toldName_b27 r13 M)
set_option maxRecDepth 20000 in
set_option maxHeartbeats 4000000 in
theorem k_X2_toldName (E : zm_E) (sv : Nat) (a1 : Nat) (a2 : Int32) (ha1 : zm_sh a1 = (2, (zm_sh a1).2) ∧ (0 < a1 ∧ a1 ≤ zm_n sv)) (M : zm_Mem) {r : Int32} {M' : zm_Mem} (h : f_X2_toldName a1 a2 M = some (r, M')) : zm_Ct E (zm_w sv) (zm_w sv) yX2_toldName Y_X2_toldName [.ref (E.2.1 + 8), .ref (E.2.1 + a1), .int a2] M (some (.int r)) M' := by
  refine zm_meth (emb := zm_ei) (d := f_X2_toldName a1 a2 M) (by decide) rfl rfl (Nat.le_of_ble_eq_true rfl) h (fun X => ?_)
  show zm_V X Y_X2_toldName E (zm_Q X E Y_X2_toldName.2.2.2.1.cells Y_X2_toldName.2.2.2.1.slots (zm_w sv) zm_ei) 0 0 false (zm_w sv) 0 [(0, .ref (E.2.1 + 8)), (1, .ref (E.2.1 + a1)), (2, .int a2)] [] M (f_X2_toldName a1 a2 M) some
  unfold f_X2_toldName
  refine zm_aload_n 1 rfl dX2_toldName_0 rfl 0 rfl ?_
  refine zm_getR (a := 3) 4 rfl dX2_toldName_1 fl_X2_18 rfl (zm_L (sv := sv) rfl) rfl (by decide) ?_
  refine zm_aload_n 5 rfl dX2_toldName_4 rfl 0 rfl ?_
  refine zm_getI 8 rfl dX2_toldName_5 fl_X2_35 rfl (zm_L (sv := sv) rfl) ?_
  refine zm_cV1lr 11 rfl dX2_toldName_8 ml_X2_165 rfl (zm_L (sv := sv) rfl) rfl (Nat.le_of_ble_eq_true rfl) ⟨Nat.le_of_ble_eq_true rfl, Nat.le_of_ble_eq_true rfl⟩ rfl rfl ⟨Nat.le_refl _, Nat.le_refl _⟩ rfl (fun _ h => k_X7_worthAt E sv (M.1 8 4) M h) (fun r8 => ?_)
  refine zm_aload_n 12 rfl dX2_toldName_11 rfl 1 rfl ?_
  refine zm_iload_n 13 rfl dX2_toldName_12 rfl 2 rfl ?_
  refine zm_cS3ir 16 rfl dX2_toldName_13 ml_X2_172 (Nat.le_of_ble_eq_true rfl) ⟨Nat.le_of_ble_eq_true rfl, Nat.le_of_ble_eq_true rfl⟩ rfl rfl ⟨Nat.le_refl _, Nat.le_refl _⟩ rfl (fun _ h => k_X2_find E sv r8 a1 a2 ⟨ha1.1, ha1.2⟩ M h) (fun r13 => ?_)
  refine zm_istore_n (lv' := [(3, .int r13), (0, .ref (E.2.1 + 8)), (1, .ref (E.2.1 + a1)), (2, .int a2)]) 17 rfl dX2_toldName_16 rfl (by decide) rfl ?_
  refine zm_iload_n 18 rfl dX2_toldName_17 rfl 0 rfl ?_
  refine zm_iconst 19 rfl dX2_toldName_18 zi_m1 ?_
  have hb27 : ∀ (M27 : zm_Mem), zm_V X Y_X2_toldName E (zm_Q X E Y_X2_toldName.2.2.2.1.cells Y_X2_toldName.2.2.2.1.slots (zm_w sv) zm_ei) 0 0 false (zm_w sv) 27 [(0, .ref (E.2.1 + 8)), (3, .int r13)] [] M27 (f_X2_toldName_b27 r13 M27) some := by
    intro M27
    unfold f_X2_toldName_b27
    refine zm_aload_n 28 rfl dX2_toldName_27 rfl 0 rfl ?_
    refine zm_iconst 29 rfl dX2_toldName_28 zi_2 ?_
    refine zm_cV1v 32 rfl dX2_toldName_29 ml_X2_112 rfl (zm_L (sv := sv) rfl) rfl (Nat.le_of_ble_eq_true rfl) ⟨Nat.le_of_ble_eq_true rfl, Nat.le_of_ble_eq_true rfl⟩ rfl rfl ⟨Nat.le_refl _, Nat.le_refl _⟩ rfl (fun _ _ h => k_X2_expect E sv 2 M27 h) (fun _ M29 => ?_)
    refine zm_iload_n 33 rfl dX2_toldName_32 rfl 1 rfl ?_
    refine zm_iconst 34 rfl dX2_toldName_33 zi_0 ?_
    refine zm_mmax 37 rfl dX2_toldName_34 mm_X2_176 mm_st_max in_math mm_co_max (Nat.le_of_ble_eq_true rfl) (Nat.le_of_ble_eq_true rfl) ⟨Nat.le_refl _, Nat.le_refl _⟩ ?_
    exact zm_iret dX2_toldName_37 rfl (Nat.le_refl _) (Nat.le_refl _) rfl
  refine zm_icmp_ne 27 22 (by decide) rfl dX2_toldName_19 ?_ ?_
  · refine zm_aload_n 23 rfl dX2_toldName_22 rfl 1 rfl ?_
    refine zm_iconst 24 rfl dX2_toldName_23 zi_4 ?_
    refine zm_cV1v 27 rfl dX2_toldName_24 ml_X2_169 rfl (zm_L (sv := sv) rfl) rfl (Nat.le_of_ble_eq_true rfl) ⟨Nat.le_of_ble_eq_true rfl, Nat.le_of_ble_eq_true rfl⟩ rfl rfl ⟨Nat.le_refl _, Nat.le_refl _⟩ rfl (fun _ _ h => k_X2_note E sv 4 M h) (fun _ M24 => ?_)
    exact zm_loc [1, 0] rfl (hb27 M24)
  · exact zm_loc [1, 0] rfl (hb27 M)
abbrev Y_X2_tellWork : zm_Y := (cX2_tellWork, 2, RX2, { frames := 4, cells := 0, slots := 0, locals := 85 }, none, false, "tellWork")
noncomputable def f_X2_tellWork  (M : zm_Mem) : Option (Unit × zm_Mem) :=
  zm_v (M.2.2 8 3) <| fun t1 => zm_ck (zm_isT t1) <| zm_v (M.1 t1 12) <| fun x7 => if x7 < (6 : Int32) then (zm_b2 (f_X2_take M) <| fun _ M21 => zm_b2 (f_X2_newName M21) <| fun r30 M30 => zm_ck (zm_in x7 6) <| zm_v (zm_sL M30 10 x7.toNatClampNeg r30) <| fun M33 => zm_v (M33.2.2 8 3) <| fun t35 => zm_ck (zm_isT t35) <| zm_v (M33.2.2 8 3) <| fun t48 => zm_ck (zm_isT t48) <| zm_b2 (f_X2_toldName 9 (M33.1 t48 11) M33) <| fun r54 M54 => zm_ck (zm_in x7 6) <| zm_v (zm_sI M54 (t35 + 3) x7.toNatClampNeg r54) <| fun M57 => zm_v (M57.2.2 8 3) <| fun t59 => zm_ck (zm_isT t59) <| zm_v (M57.2.2 8 3) <| fun t72 => zm_ck (zm_isT t72) <| zm_b2 (f_X2_toldName 9 (M57.1 t72 11) M57) <| fun r78 M78 => zm_ck (zm_in x7 6) <| zm_v (zm_sI M78 (t59 + 4) x7.toNatClampNeg r78) <| fun M81 => zm_v (M81.2.2 8 3) <| fun t83 => zm_ck (zm_isT t83) <| zm_b2 (f_X2_number 0 9 M81) <| fun r94 M94 => zm_ck (zm_in x7 6) <| zm_v (zm_sI M94 (t83 + 5) x7.toNatClampNeg r94) <| fun M97 => zm_v (M97.2.2 8 3) <| fun t99 => zm_ck (zm_isT t99) <| zm_b2 (f_X2_number 0 99 M97) <| fun r110 M110 => zm_ck (zm_in x7 6) <| zm_v (zm_sI M110 (t99 + 6) x7.toNatClampNeg r110) <| fun M113 => zm_b2 (f_X2_expect 59 M113) <| fun _ M117 => zm_v (M117.2.2 8 3) <| fun t121 => zm_ck (zm_isT t121) <| zm_v (zm_sI M117 t121 12 ((M117.1 t121 12) + 1)) <| fun M130 => some ((), M130)) else (zm_b2 (f_X2_fail 2 M) <| fun _ M16 => some ((), M16))
set_option maxRecDepth 20000 in
set_option maxHeartbeats 4000000 in
theorem k_X2_tellWork (E : zm_E) (sv : Nat)  (M : zm_Mem) {r : Unit} {M' : zm_Mem} (h : f_X2_tellWork M = some (r, M')) : zm_Ct E (zm_w sv) (zm_w sv) yX2_tellWork Y_X2_tellWork [.ref (E.2.1 + 8)] M none M' := by
  refine zm_meth (emb := zm_ev) (d := f_X2_tellWork M) (by decide) rfl rfl (Nat.le_of_ble_eq_true rfl) h (fun X => ?_)
  show zm_V X Y_X2_tellWork E (zm_Q X E Y_X2_tellWork.2.2.2.1.cells Y_X2_tellWork.2.2.2.1.slots (zm_w sv) zm_ev) 0 0 false (zm_w sv) 0 [(0, .ref (E.2.1 + 8))] [] M (f_X2_tellWork M) some
  unfold f_X2_tellWork
  refine zm_aload_n 1 rfl dX2_tellWork_0 rfl 0 rfl ?_
  refine zm_getT 4 rfl dX2_tellWork_1 fl_X2_26 rfl (zm_L (sv := sv) rfl) (fun t1 _ ht1 => ?_)
  refine zm_getI 7 rfl dX2_tellWork_4 fl_X2_115 (zm_T_o ht1) (zm_T_l0 (sv := sv) ht1) ?_
  refine zm_nmi (fun x7 _ => ?_)
  refine zm_istore_n (lv' := [(1, .int x7), (0, .ref (E.2.1 + 8))]) 8 rfl dX2_tellWork_7 rfl (by decide) rfl ?_
  refine zm_iload_n 9 rfl dX2_tellWork_8 rfl 0 rfl ?_
  refine zm_bipush 11 rfl dX2_tellWork_9 zb_6 ?_
  refine zm_icmp_lt 20 14 (by decide) rfl dX2_tellWork_11 ?_ ?_
  · refine zm_aload_n 21 rfl dX2_tellWork_20 rfl 1 rfl ?_
    refine zm_cV0v 24 rfl dX2_tellWork_21 ml_X2_95 rfl (zm_L (sv := sv) rfl) rfl (Nat.le_of_ble_eq_true rfl) ⟨Nat.le_of_ble_eq_true rfl, Nat.le_of_ble_eq_true rfl⟩ rfl rfl ⟨Nat.le_refl _, Nat.le_refl _⟩ rfl (fun _ _ h => k_X2_take E sv M h) (fun _ M21 => ?_)
    refine zm_aload_n 25 rfl dX2_tellWork_24 rfl 1 rfl ?_
    refine zm_getR (a := 10) 28 rfl dX2_tellWork_25 fl_X2_15 rfl (zm_L (sv := sv) rfl) rfl (by decide) ?_
    refine zm_iload_n 29 rfl dX2_tellWork_28 rfl 0 rfl ?_
    refine zm_aload_n 30 rfl dX2_tellWork_29 rfl 1 rfl ?_
    refine zm_cV0l 33 rfl dX2_tellWork_30 ml_X2_98 rfl (zm_L (sv := sv) rfl) rfl (Nat.le_of_ble_eq_true rfl) ⟨Nat.le_of_ble_eq_true rfl, Nat.le_of_ble_eq_true rfl⟩ rfl rfl ⟨Nat.le_refl _, Nat.le_refl _⟩ rfl (fun _ _ h => k_X2_newName E sv M21 h) (fun r30 M30 => ?_)
    refine zm_last 34 rfl dX2_tellWork_33 rfl (zm_L (sv := sv) rfl) (fun M33 _ => ?_)
    refine zm_aload_n 35 rfl dX2_tellWork_34 rfl 1 rfl ?_
    refine zm_getT 38 rfl dX2_tellWork_35 fl_X2_26 rfl (zm_L (sv := sv) rfl) (fun t35 _ ht35 => ?_)
    refine zm_getR (a := t35 + 3) 41 rfl dX2_tellWork_38 fl_X2_118 (zm_T_o ht35) (zm_T_l0 (sv := sv) ht35) (zm_T_r ht35 2 (by decide)) (Nat.succ_ne_zero _) ?_
    refine zm_iload_n 42 rfl dX2_tellWork_41 rfl 0 rfl ?_
    refine zm_aload_n 43 rfl dX2_tellWork_42 rfl 1 rfl ?_
    refine zm_aload_n 44 rfl dX2_tellWork_43 rfl 1 rfl ?_
    refine zm_getR (a := 9) 47 rfl dX2_tellWork_44 fl_X2_9 rfl (zm_L (sv := sv) rfl) rfl (by decide) ?_
    refine zm_aload_n 48 rfl dX2_tellWork_47 rfl 1 rfl ?_
    refine zm_getT 51 rfl dX2_tellWork_48 fl_X2_26 rfl (zm_L (sv := sv) rfl) (fun t48 _ ht48 => ?_)
    refine zm_getI 54 rfl dX2_tellWork_51 fl_X2_92 (zm_T_o ht48) (zm_T_l0 (sv := sv) ht48) ?_
    refine zm_cV2i 57 rfl dX2_tellWork_54 ml_X2_121 rfl (zm_L (sv := sv) rfl) rfl (Nat.le_of_ble_eq_true rfl) ⟨Nat.le_of_ble_eq_true rfl, Nat.le_of_ble_eq_true rfl⟩ rfl rfl ⟨Nat.le_refl _, Nat.le_refl _⟩ rfl (fun _ _ h => k_X2_toldName E sv 9 (M33.1 t48 11) ⟨rfl, (zm_L (sv := sv) rfl)⟩ M33 h) (fun r54 M54 => ?_)
    refine zm_iast 58 rfl dX2_tellWork_57 (zm_T_a ht35 3 (by decide)) (zm_T_l (sv := sv) ht35 3 (by decide)) (fun M57 _ => ?_)
    refine zm_aload_n 59 rfl dX2_tellWork_58 rfl 1 rfl ?_
    refine zm_getT 62 rfl dX2_tellWork_59 fl_X2_26 rfl (zm_L (sv := sv) rfl) (fun t59 _ ht59 => ?_)
    refine zm_getR (a := t59 + 4) 65 rfl dX2_tellWork_62 fl_X2_125 (zm_T_o ht59) (zm_T_l0 (sv := sv) ht59) (zm_T_r ht59 3 (by decide)) (Nat.succ_ne_zero _) ?_
    refine zm_iload_n 66 rfl dX2_tellWork_65 rfl 0 rfl ?_
    refine zm_aload_n 67 rfl dX2_tellWork_66 rfl 1 rfl ?_
    refine zm_aload_n 68 rfl dX2_tellWork_67 rfl 1 rfl ?_
    refine zm_getR (a := 9) 71 rfl dX2_tellWork_68 fl_X2_9 rfl (zm_L (sv := sv) rfl) rfl (by decide) ?_
    refine zm_aload_n 72 rfl dX2_tellWork_71 rfl 1 rfl ?_
    refine zm_getT 75 rfl dX2_tellWork_72 fl_X2_26 rfl (zm_L (sv := sv) rfl) (fun t72 _ ht72 => ?_)
    refine zm_getI 78 rfl dX2_tellWork_75 fl_X2_92 (zm_T_o ht72) (zm_T_l0 (sv := sv) ht72) ?_
    refine zm_cV2i 81 rfl dX2_tellWork_78 ml_X2_121 rfl (zm_L (sv := sv) rfl) rfl (Nat.le_of_ble_eq_true rfl) ⟨Nat.le_of_ble_eq_true rfl, Nat.le_of_ble_eq_true rfl⟩ rfl rfl ⟨Nat.le_refl _, Nat.le_refl _⟩ rfl (fun _ _ h => k_X2_toldName E sv 9 (M57.1 t72 11) ⟨rfl, (zm_L (sv := sv) rfl)⟩ M57 h) (fun r78 M78 => ?_)
    refine zm_iast 82 rfl dX2_tellWork_81 (zm_T_a ht59 4 (by decide)) (zm_T_l (sv := sv) ht59 4 (by decide)) (fun M81 _ => ?_)
    refine zm_aload_n 83 rfl dX2_tellWork_82 rfl 1 rfl ?_
    refine zm_getT 86 rfl dX2_tellWork_83 fl_X2_26 rfl (zm_L (sv := sv) rfl) (fun t83 _ ht83 => ?_)
    refine zm_getR (a := t83 + 5) 89 rfl dX2_tellWork_86 fl_X2_128 (zm_T_o ht83) (zm_T_l0 (sv := sv) ht83) (zm_T_r ht83 4 (by decide)) (Nat.succ_ne_zero _) ?_
    refine zm_iload_n 90 rfl dX2_tellWork_89 rfl 0 rfl ?_
    refine zm_aload_n 91 rfl dX2_tellWork_90 rfl 1 rfl ?_
    refine zm_iconst 92 rfl dX2_tellWork_91 zi_0 ?_
    refine zm_bipush 94 rfl dX2_tellWork_92 zb_9 ?_
    refine zm_cV2i 97 rfl dX2_tellWork_94 ml_X2_106 rfl (zm_L (sv := sv) rfl) rfl (Nat.le_of_ble_eq_true rfl) ⟨Nat.le_of_ble_eq_true rfl, Nat.le_of_ble_eq_true rfl⟩ rfl rfl ⟨Nat.le_refl _, Nat.le_refl _⟩ rfl (fun _ _ h => k_X2_number E sv 0 9 M81 h) (fun r94 M94 => ?_)
    refine zm_iast 98 rfl dX2_tellWork_97 (zm_T_a ht83 5 (by decide)) (zm_T_l (sv := sv) ht83 5 (by decide)) (fun M97 _ => ?_)
    refine zm_aload_n 99 rfl dX2_tellWork_98 rfl 1 rfl ?_
    refine zm_getT 102 rfl dX2_tellWork_99 fl_X2_26 rfl (zm_L (sv := sv) rfl) (fun t99 _ ht99 => ?_)
    refine zm_getR (a := t99 + 6) 105 rfl dX2_tellWork_102 fl_X2_131 (zm_T_o ht99) (zm_T_l0 (sv := sv) ht99) (zm_T_r ht99 5 (by decide)) (Nat.succ_ne_zero _) ?_
    refine zm_iload_n 106 rfl dX2_tellWork_105 rfl 0 rfl ?_
    refine zm_aload_n 107 rfl dX2_tellWork_106 rfl 1 rfl ?_
    refine zm_iconst 108 rfl dX2_tellWork_107 zi_0 ?_
    refine zm_bipush 110 rfl dX2_tellWork_108 zb_99 ?_
    refine zm_cV2i 113 rfl dX2_tellWork_110 ml_X2_106 rfl (zm_L (sv := sv) rfl) rfl (Nat.le_of_ble_eq_true rfl) ⟨Nat.le_of_ble_eq_true rfl, Nat.le_of_ble_eq_true rfl⟩ rfl rfl ⟨Nat.le_refl _, Nat.le_refl _⟩ rfl (fun _ _ h => k_X2_number E sv 0 99 M97 h) (fun r110 M110 => ?_)
    refine zm_iast 114 rfl dX2_tellWork_113 (zm_T_a ht99 6 (by decide)) (zm_T_l (sv := sv) ht99 6 (by decide)) (fun M113 _ => ?_)
    refine zm_aload_n 115 rfl dX2_tellWork_114 rfl 1 rfl ?_
    refine zm_bipush 117 rfl dX2_tellWork_115 zb_59 ?_
    refine zm_cV1v 120 rfl dX2_tellWork_117 ml_X2_112 rfl (zm_L (sv := sv) rfl) rfl (Nat.le_of_ble_eq_true rfl) ⟨Nat.le_of_ble_eq_true rfl, Nat.le_of_ble_eq_true rfl⟩ rfl rfl ⟨Nat.le_refl _, Nat.le_refl _⟩ rfl (fun _ _ h => k_X2_expect E sv 59 M113 h) (fun _ M117 => ?_)
    refine zm_aload_n 121 rfl dX2_tellWork_120 rfl 1 rfl ?_
    refine zm_getT 124 rfl dX2_tellWork_121 fl_X2_26 rfl (zm_L (sv := sv) rfl) (fun t121 _ ht121 => ?_)
    refine zm_dup 125 rfl dX2_tellWork_124 rfl ?_
    refine zm_getI 128 rfl dX2_tellWork_125 fl_X2_115 (zm_T_o ht121) (zm_T_l0 (sv := sv) ht121) ?_
    refine zm_iconst 129 rfl dX2_tellWork_128 zi_1 ?_
    refine zm_iadd 130 rfl dX2_tellWork_129 ?_
    refine zm_putI 133 rfl dX2_tellWork_130 fp_X2_115 (zm_T_o ht121) (zm_T_l0 (sv := sv) ht121) rfl rfl (fun M130 _ => ?_)
    exact zm_vret dX2_tellWork_133 rfl (Nat.le_refl _) (Nat.le_refl _) rfl
  · refine zm_aload_n 15 rfl dX2_tellWork_14 rfl 1 rfl ?_
    refine zm_iconst 16 rfl dX2_tellWork_15 zi_2 ?_
    refine zm_cV1v 19 rfl dX2_tellWork_16 ml_X2_82 rfl (zm_L (sv := sv) rfl) rfl (Nat.le_of_ble_eq_true rfl) ⟨Nat.le_of_ble_eq_true rfl, Nat.le_of_ble_eq_true rfl⟩ rfl rfl ⟨Nat.le_refl _, Nat.le_refl _⟩ rfl (fun _ _ h => k_X2_fail E sv 2 M h) (fun _ M16 => ?_)
    exact zm_vret dX2_tellWork_19 rfl (Nat.le_refl _) (Nat.le_refl _) rfl
abbrev Y_X2_sum (dp : Nat) : zm_Y := (cX2_sum, 4, RX2, { frames := 3 + dp, cells := 0, slots := 0, locals := 62 + 40 * dp }, none, false, "sum")
abbrev Y_X2_product (dp : Nat) : zm_Y := (cX2_product, 4, RX2, { frames := 3 + dp, cells := 0, slots := 0, locals := 62 + 40 * dp }, none, false, "product")
abbrev Y_X2_unit (dp : Nat) : zm_Y := (cX2_unit, 3, RX2, { frames := 3 + dp, cells := 0, slots := 0, locals := 62 + 40 * dp }, none, false, "unit")
noncomputable def f_X2_unit (rec : (Nat → Int32 → zm_Mem → Option (Unit × zm_Mem))) (a1 : Int32) (M : zm_Mem) : Option (Unit × zm_Mem) :=
  zm_b1 (f_X2_sort M) <| fun r1 => if r1 = (3 : Int32) then (zm_v (M.2.2 8 3) <| fun t11 => zm_ck (zm_isT t11) <| zm_b1 (f_X7_worthAt (M.1 8 4) M) <| fun r23 => zm_b2 (f_X8_put t11 0 (r23.toInt32) M) <| fun _ M27 => zm_b2 (f_X2_take M27) <| fun _ M31 => some ((), M31)) else (if r1 < (267 : Int32) then (if r1 = (40 : Int32) then (if a1 < (6 : Int32) then (if (M.1 8 5) = 0 then (zm_b2 (f_X2_take M) <| fun _ M100 => zm_b2 (rec 0 (a1 + 1) M100) <| fun _ M107 => zm_b2 (f_X2_expect 41 M107) <| fun _ M113 => some ((), M113)) else (some ((), M))) else (zm_b2 (f_X2_fail 2 M) <| fun _ M86 => some ((), M86))) else (zm_b2 (f_X2_fail 1 M) <| fun _ M72 => some ((), M72))) else (zm_v (M.2.2 8 3) <| fun t45 => zm_ck (zm_isT t45) <| zm_b2 (f_X8_put t45 1 (r1 - 267) M) <| fun _ M54 => zm_b2 (f_X2_take M54) <| fun _ M58 => some ((), M58)))
set_option maxRecDepth 20000 in
set_option maxHeartbeats 4000000 in
theorem kb_X2_unit (E : zm_E) (sv : Nat) (dp : Nat) (rec : (Nat → Int32 → zm_Mem → Option (Unit × zm_Mem))) (hr0 : ∀ (a1 : Int32) (M : zm_Mem) (r : Unit) (M' : zm_Mem), rec 0 a1 M = some (r, M') → zm_Ct E (zm_w sv) (zm_w sv) yX2_sum (Y_X2_sum dp) [.ref (E.2.1 + 8), .int a1] M none M') (hr1 : ∀ (a1 : Int32) (M : zm_Mem) (r : Unit) (M' : zm_Mem), rec 1 a1 M = some (r, M') → zm_Ct E (zm_w sv) (zm_w sv) yX2_product (Y_X2_product dp) [.ref (E.2.1 + 8), .int a1] M none M') (hr2 : ∀ (a1 : Int32) (M : zm_Mem) (r : Unit) (M' : zm_Mem), rec 2 a1 M = some (r, M') → zm_Ct E (zm_w sv) (zm_w sv) yX2_unit (Y_X2_unit dp) [.ref (E.2.1 + 8), .int a1] M none M') (a1 : Int32) (M : zm_Mem) (r : Unit) (M' : zm_Mem) (h : f_X2_unit rec a1 M = some (r, M')) : zm_Ct E (zm_w sv) (zm_w sv) yX2_unit (Y_X2_unit (dp + 1)) [.ref (E.2.1 + 8), .int a1] M none M' := by
  have hr0 : ∀ (a1 : Int32) (M : zm_Mem) {r : Unit} {M' : zm_Mem}, rec 0 a1 M = some (r, M') → zm_Ct E (zm_w sv) (zm_w sv) yX2_sum (Y_X2_sum dp) [.ref (E.2.1 + 8), .int a1] M none M' := fun _ _ {_} {_} h => hr0 _ _ _ _ h
  have hr1 : ∀ (a1 : Int32) (M : zm_Mem) {r : Unit} {M' : zm_Mem}, rec 1 a1 M = some (r, M') → zm_Ct E (zm_w sv) (zm_w sv) yX2_product (Y_X2_product dp) [.ref (E.2.1 + 8), .int a1] M none M' := fun _ _ {_} {_} h => hr1 _ _ _ _ h
  have hr2 : ∀ (a1 : Int32) (M : zm_Mem) {r : Unit} {M' : zm_Mem}, rec 2 a1 M = some (r, M') → zm_Ct E (zm_w sv) (zm_w sv) yX2_unit (Y_X2_unit dp) [.ref (E.2.1 + 8), .int a1] M none M' := fun _ _ {_} {_} h => hr2 _ _ _ _ h
  refine zm_meth (emb := zm_ev) (d := f_X2_unit rec a1 M) (by decide) rfl rfl (Nat.le_of_ble_eq_true rfl) h (fun X => ?_)
  show zm_V X (Y_X2_unit (dp + 1)) E (zm_Q X E (Y_X2_unit (dp + 1)).2.2.2.1.cells (Y_X2_unit (dp + 1)).2.2.2.1.slots (zm_w sv) zm_ev) 0 0 false (zm_w sv) 0 [(0, .ref (E.2.1 + 8)), (1, .int a1)] [] M (f_X2_unit rec a1 M) some
  unfold f_X2_unit
  refine zm_aload_n 1 rfl dX2_unit_0 rfl 0 rfl ?_
  refine zm_cV0ir 4 rfl dX2_unit_1 ml_X2_47 rfl (zm_L (sv := sv) rfl) rfl (Nat.le_of_ble_eq_true rfl) ⟨by show 1 + 1 ≤ 3 + (dp + 1); omega, by show 8 + (1 + 11) + 21 ≤ 62 + 40 * (dp + 1); omega⟩ rfl rfl ⟨Nat.le_refl _, Nat.le_refl _⟩ rfl (fun _ h => k_X2_sort E sv M h) (fun r1 => ?_)
  refine zm_istore_n (lv' := [(2, .int r1), (0, .ref (E.2.1 + 8)), (1, .int a1)]) 5 rfl dX2_unit_4 rfl (Nat.le_of_ble_eq_true rfl) rfl ?_
  refine zm_iload_n 6 rfl dX2_unit_5 rfl 0 rfl ?_
  refine zm_iconst 7 rfl dX2_unit_6 zi_3 ?_
  refine zm_icmp_ne 37 10 (by decide) rfl dX2_unit_7 ?_ ?_
  · refine zm_aload_n 11 rfl dX2_unit_10 rfl 1 rfl ?_
    refine zm_getT 14 rfl dX2_unit_11 fl_X2_26 rfl (zm_L (sv := sv) rfl) (fun t11 _ ht11 => ?_)
    refine zm_iconst 15 rfl dX2_unit_14 zi_0 ?_
    refine zm_aload_n 16 rfl dX2_unit_15 rfl 1 rfl ?_
    refine zm_getR (a := 3) 19 rfl dX2_unit_16 fl_X2_18 rfl (zm_L (sv := sv) rfl) rfl (by decide) ?_
    refine zm_aload_n 20 rfl dX2_unit_19 rfl 1 rfl ?_
    refine zm_getI 23 rfl dX2_unit_20 fl_X2_35 rfl (zm_L (sv := sv) rfl) ?_
    refine zm_cV1lr 26 rfl dX2_unit_23 ml_X2_165 rfl (zm_L (sv := sv) rfl) rfl (Nat.le_of_ble_eq_true rfl) ⟨by show 0 + 1 ≤ 3 + (dp + 1); omega, by show 8 + (2 + 11) + 0 ≤ 62 + 40 * (dp + 1); omega⟩ rfl rfl ⟨Nat.le_refl _, Nat.le_refl _⟩ rfl (fun _ h => k_X7_worthAt E sv (M.1 8 4) M h) (fun r23 => ?_)
    refine zm_l2i 27 rfl dX2_unit_26 ?_
    refine zm_cV2v 30 rfl dX2_unit_27 ml_X2_149 (zm_T_o ht11) (zm_T_l0 (sv := sv) ht11) rfl (Nat.le_of_ble_eq_true rfl) ⟨by show 0 + 1 ≤ 3 + (dp + 1); omega, by show 8 + (3 + 11) + 0 ≤ 62 + 40 * (dp + 1); omega⟩ rfl rfl ⟨Nat.le_refl _, Nat.le_refl _⟩ rfl (fun _ _ h => k_X8_put E (zm_w sv) t11 0 (r23.toInt32) ht11 (zm_T_l (sv := sv) ht11 10 (Nat.le_refl _)).2 (fun j hj => zm_T_r ht11 j hj) M h) (fun _ M27 => ?_)
    refine zm_aload_n 31 rfl dX2_unit_30 rfl 1 rfl ?_
    refine zm_cV0v 34 rfl dX2_unit_31 ml_X2_95 rfl (zm_L (sv := sv) rfl) rfl (Nat.le_of_ble_eq_true rfl) ⟨by show 0 + 1 ≤ 3 + (dp + 1); omega, by show 8 + (1 + 11) + 0 ≤ 62 + 40 * (dp + 1); omega⟩ rfl rfl ⟨Nat.le_refl _, Nat.le_refl _⟩ rfl (fun _ _ h => k_X2_take E sv M27 h) (fun _ M31 => ?_)
    refine zm_goto 116 (by decide) dX2_unit_34 ?_
    exact zm_vret dX2_unit_116 rfl (Nat.le_refl _) (Nat.le_refl _) rfl
  · refine zm_iload_n 38 rfl dX2_unit_37 rfl 0 rfl ?_
    refine zm_sipush 41 rfl dX2_unit_38 zs_267 ?_
    refine zm_icmp_lt 64 44 (by decide) rfl dX2_unit_41 ?_ ?_
    · refine zm_iload_n 65 rfl dX2_unit_64 rfl 0 rfl ?_
      refine zm_bipush 67 rfl dX2_unit_65 zb_40 ?_
      refine zm_icmp_eq 78 70 (by decide) rfl dX2_unit_67 ?_ ?_
      · refine zm_iload_n 79 rfl dX2_unit_78 rfl 2 rfl ?_
        refine zm_bipush 81 rfl dX2_unit_79 zb_6 ?_
        refine zm_icmp_lt 92 84 (by decide) rfl dX2_unit_81 ?_ ?_
        · refine zm_aload_n 93 rfl dX2_unit_92 rfl 1 rfl ?_
          refine zm_getI 96 rfl dX2_unit_93 fl_X2_38 rfl (zm_L (sv := sv) rfl) ?_
          refine zm_if_ne 116 99 (by decide) rfl dX2_unit_96 ?_ ?_
          · refine zm_aload_n 100 rfl dX2_unit_99 rfl 1 rfl ?_
            refine zm_cV0v 103 rfl dX2_unit_100 ml_X2_95 rfl (zm_L (sv := sv) rfl) rfl (Nat.le_of_ble_eq_true rfl) ⟨by show 0 + 1 ≤ 3 + (dp + 1); omega, by show 8 + (1 + 11) + 0 ≤ 62 + 40 * (dp + 1); omega⟩ rfl rfl ⟨Nat.le_refl _, Nat.le_refl _⟩ rfl (fun _ _ h => k_X2_take E sv M h) (fun _ M100 => ?_)
            refine zm_aload_n 104 rfl dX2_unit_103 rfl 1 rfl ?_
            refine zm_iload_n 105 rfl dX2_unit_104 rfl 2 rfl ?_
            refine zm_iconst 106 rfl dX2_unit_105 zi_1 ?_
            refine zm_iadd 107 rfl dX2_unit_106 ?_
            refine zm_cV1v 110 rfl dX2_unit_107 ml_X2_146 rfl (zm_L (sv := sv) rfl) rfl (Nat.le_of_ble_eq_true rfl) ⟨by show 3 + dp + 1 ≤ 3 + (dp + 1); omega, by show 8 + (4 + 11) + (62 + 40 * dp) ≤ 62 + 40 * (dp + 1); omega⟩ rfl rfl ⟨Nat.le_refl _, Nat.le_refl _⟩ rfl (fun _ _ h => hr0 (a1 + 1) M100 h) (fun _ M107 => ?_)
            refine zm_aload_n 111 rfl dX2_unit_110 rfl 1 rfl ?_
            refine zm_bipush 113 rfl dX2_unit_111 zb_41 ?_
            refine zm_cV1v 116 rfl dX2_unit_113 ml_X2_112 rfl (zm_L (sv := sv) rfl) rfl (Nat.le_of_ble_eq_true rfl) ⟨by show 2 + 1 ≤ 3 + (dp + 1); omega, by show 8 + (2 + 11) + 41 ≤ 62 + 40 * (dp + 1); omega⟩ rfl rfl ⟨Nat.le_refl _, Nat.le_refl _⟩ rfl (fun _ _ h => k_X2_expect E sv 41 M107 h) (fun _ M113 => ?_)
            exact zm_vret dX2_unit_116 rfl (Nat.le_refl _) (Nat.le_refl _) rfl
          · exact zm_vret dX2_unit_116 rfl (Nat.le_refl _) (Nat.le_refl _) rfl
        · refine zm_aload_n 85 rfl dX2_unit_84 rfl 1 rfl ?_
          refine zm_iconst 86 rfl dX2_unit_85 zi_2 ?_
          refine zm_cV1v 89 rfl dX2_unit_86 ml_X2_82 rfl (zm_L (sv := sv) rfl) rfl (Nat.le_of_ble_eq_true rfl) ⟨by show 0 + 1 ≤ 3 + (dp + 1); omega, by show 8 + (2 + 11) + 0 ≤ 62 + 40 * (dp + 1); omega⟩ rfl rfl ⟨Nat.le_refl _, Nat.le_refl _⟩ rfl (fun _ _ h => k_X2_fail E sv 2 M h) (fun _ M86 => ?_)
          refine zm_goto 116 (by decide) dX2_unit_89 ?_
          exact zm_vret dX2_unit_116 rfl (Nat.le_refl _) (Nat.le_refl _) rfl
      · refine zm_aload_n 71 rfl dX2_unit_70 rfl 1 rfl ?_
        refine zm_iconst 72 rfl dX2_unit_71 zi_1 ?_
        refine zm_cV1v 75 rfl dX2_unit_72 ml_X2_82 rfl (zm_L (sv := sv) rfl) rfl (Nat.le_of_ble_eq_true rfl) ⟨by show 0 + 1 ≤ 3 + (dp + 1); omega, by show 8 + (2 + 11) + 0 ≤ 62 + 40 * (dp + 1); omega⟩ rfl rfl ⟨Nat.le_refl _, Nat.le_refl _⟩ rfl (fun _ _ h => k_X2_fail E sv 1 M h) (fun _ M72 => ?_)
        refine zm_goto 116 (by decide) dX2_unit_75 ?_
        exact zm_vret dX2_unit_116 rfl (Nat.le_refl _) (Nat.le_refl _) rfl
    · refine zm_aload_n 45 rfl dX2_unit_44 rfl 1 rfl ?_
      refine zm_getT 48 rfl dX2_unit_45 fl_X2_26 rfl (zm_L (sv := sv) rfl) (fun t45 _ ht45 => ?_)
      refine zm_iconst 49 rfl dX2_unit_48 zi_1 ?_
      refine zm_iload_n 50 rfl dX2_unit_49 rfl 0 rfl ?_
      refine zm_sipush 53 rfl dX2_unit_50 zs_267 ?_
      refine zm_isub 54 rfl dX2_unit_53 ?_
      refine zm_cV2v 57 rfl dX2_unit_54 ml_X2_149 (zm_T_o ht45) (zm_T_l0 (sv := sv) ht45) rfl (Nat.le_of_ble_eq_true rfl) ⟨by show 0 + 1 ≤ 3 + (dp + 1); omega, by show 8 + (3 + 11) + 0 ≤ 62 + 40 * (dp + 1); omega⟩ rfl rfl ⟨Nat.le_refl _, Nat.le_refl _⟩ rfl (fun _ _ h => k_X8_put E (zm_w sv) t45 1 (r1 - 267) ht45 (zm_T_l (sv := sv) ht45 10 (Nat.le_refl _)).2 (fun j hj => zm_T_r ht45 j hj) M h) (fun _ M54 => ?_)
      refine zm_aload_n 58 rfl dX2_unit_57 rfl 1 rfl ?_
      refine zm_cV0v 61 rfl dX2_unit_58 ml_X2_95 rfl (zm_L (sv := sv) rfl) rfl (Nat.le_of_ble_eq_true rfl) ⟨by show 0 + 1 ≤ 3 + (dp + 1); omega, by show 8 + (1 + 11) + 0 ≤ 62 + 40 * (dp + 1); omega⟩ rfl rfl ⟨Nat.le_refl _, Nat.le_refl _⟩ rfl (fun _ _ h => k_X2_take E sv M54 h) (fun _ M58 => ?_)
      refine zm_goto 116 (by decide) dX2_unit_61 ?_
      exact zm_vret dX2_unit_116 rfl (Nat.le_refl _) (Nat.le_refl _) rfl
noncomputable def f_X2_product_b63_7 (l7_2 : Int32) (M45 : zm_Mem) (t49 : Nat) (b63_s1 : Int32) : Option ((Int32 × zm_Mem) ⊕ (zm_Mem ⊕ zm_Mem)) :=
 zm_b2 (f_X8_put t49 b63_s1 0 M45) <| fun _ M64 => zm_v (l7_2 + 1) <| fun x67 => some (.inl (x67, M64))
noncomputable def f_X2_product_b39_7 (rec : (Nat → Int32 → zm_Mem → Option (Unit × zm_Mem))) (a1 : Int32) (l7_2 : Int32) (L7 : zm_Mem) (r22 : Int32) : Option ((Int32 × zm_Mem) ⊕ (zm_Mem ⊕ zm_Mem)) :=
 zm_b2 (f_X2_take L7) <| fun _ M40 => zm_b2 (rec 2 a1 M40) <| fun _ M45 => zm_v (M45.2.2 8 3) <| fun t49 => zm_ck (zm_isT t49) <| if r22 = (42 : Int32) then (f_X2_product_b63_7 l7_2 M45 t49 4) else (f_X2_product_b63_7 l7_2 M45 t49 5)
noncomputable def f_X2_product_l7 (rec : (Nat → Int32 → zm_Mem → Option (Unit × zm_Mem))) (a1 : Int32) (l7_2 : Int32) (L7 : zm_Mem) : Option ((Int32 × zm_Mem) ⊕ (zm_Mem ⊕ zm_Mem)) :=
 if (400 : Int32) < l7_2 then (some (.inr (.inr L7))) else (if (L7.1 8 5) = 0 then (zm_b1 (f_X2_sort L7) <| fun r22 => if r22 = (42 : Int32) then (f_X2_product_b39_7 rec a1 l7_2 L7 r22) else (if r22 = (47 : Int32) then (f_X2_product_b39_7 rec a1 l7_2 L7 r22) else (some (.inr (.inl L7))))) else (some (.inr (.inr L7))))
noncomputable def f_X2_product (rec : (Nat → Int32 → zm_Mem → Option (Unit × zm_Mem))) (a1 : Int32) (M : zm_Mem) : Option (Unit × zm_Mem) :=
  zm_b2 (rec 2 a1 M) <| fun _ M2 => (zm_lp (fun s => f_X2_product_l7 rec a1 s.1 s.2) (0, M2)).bind (Sum.elim (fun e38 => some ((), e38)) (fun e73 => some ((), e73)))
set_option maxRecDepth 20000 in
set_option maxHeartbeats 4000000 in
theorem kb_X2_product (E : zm_E) (sv : Nat) (dp : Nat) (rec : (Nat → Int32 → zm_Mem → Option (Unit × zm_Mem))) (hr0 : ∀ (a1 : Int32) (M : zm_Mem) (r : Unit) (M' : zm_Mem), rec 0 a1 M = some (r, M') → zm_Ct E (zm_w sv) (zm_w sv) yX2_sum (Y_X2_sum dp) [.ref (E.2.1 + 8), .int a1] M none M') (hr1 : ∀ (a1 : Int32) (M : zm_Mem) (r : Unit) (M' : zm_Mem), rec 1 a1 M = some (r, M') → zm_Ct E (zm_w sv) (zm_w sv) yX2_product (Y_X2_product dp) [.ref (E.2.1 + 8), .int a1] M none M') (hr2 : ∀ (a1 : Int32) (M : zm_Mem) (r : Unit) (M' : zm_Mem), rec 2 a1 M = some (r, M') → zm_Ct E (zm_w sv) (zm_w sv) yX2_unit (Y_X2_unit dp) [.ref (E.2.1 + 8), .int a1] M none M') (a1 : Int32) (M : zm_Mem) (r : Unit) (M' : zm_Mem) (h : f_X2_product rec a1 M = some (r, M')) : zm_Ct E (zm_w sv) (zm_w sv) yX2_product (Y_X2_product (dp + 1)) [.ref (E.2.1 + 8), .int a1] M none M' := by
  have hr0 : ∀ (a1 : Int32) (M : zm_Mem) {r : Unit} {M' : zm_Mem}, rec 0 a1 M = some (r, M') → zm_Ct E (zm_w sv) (zm_w sv) yX2_sum (Y_X2_sum dp) [.ref (E.2.1 + 8), .int a1] M none M' := fun _ _ {_} {_} h => hr0 _ _ _ _ h
  have hr1 : ∀ (a1 : Int32) (M : zm_Mem) {r : Unit} {M' : zm_Mem}, rec 1 a1 M = some (r, M') → zm_Ct E (zm_w sv) (zm_w sv) yX2_product (Y_X2_product dp) [.ref (E.2.1 + 8), .int a1] M none M' := fun _ _ {_} {_} h => hr1 _ _ _ _ h
  have hr2 : ∀ (a1 : Int32) (M : zm_Mem) {r : Unit} {M' : zm_Mem}, rec 2 a1 M = some (r, M') → zm_Ct E (zm_w sv) (zm_w sv) yX2_unit (Y_X2_unit dp) [.ref (E.2.1 + 8), .int a1] M none M' := fun _ _ {_} {_} h => hr2 _ _ _ _ h
  refine zm_meth (emb := zm_ev) (d := f_X2_product rec a1 M) (by decide) rfl rfl (Nat.le_of_ble_eq_true rfl) h (fun X => ?_)
  show zm_V X (Y_X2_product (dp + 1)) E (zm_Q X E (Y_X2_product (dp + 1)).2.2.2.1.cells (Y_X2_product (dp + 1)).2.2.2.1.slots (zm_w sv) zm_ev) 0 0 false (zm_w sv) 0 [(0, .ref (E.2.1 + 8)), (1, .int a1)] [] M (f_X2_product rec a1 M) some
  unfold f_X2_product
  refine zm_aload_n 1 rfl dX2_product_0 rfl 0 rfl ?_
  refine zm_iload_n 2 rfl dX2_product_1 rfl 1 rfl ?_
  refine zm_cV1v 5 rfl dX2_product_2 ml_X2_162 rfl (zm_L (sv := sv) rfl) rfl (Nat.le_of_ble_eq_true rfl) ⟨by show 3 + dp + 1 ≤ 3 + (dp + 1); omega, by show 8 + (3 + 11) + (62 + 40 * dp) ≤ 62 + 40 * (dp + 1); omega⟩ rfl rfl ⟨Nat.le_refl _, Nat.le_refl _⟩ rfl (fun _ _ h => hr2 a1 M h) (fun _ M2 => ?_)
  refine zm_iconst 6 rfl dX2_product_5 zi_0 ?_
  refine zm_istore_n (lv' := [(2, .int 0), (0, .ref (E.2.1 + 8)), (1, .int a1)]) 7 rfl dX2_product_6 rfl (Nat.le_of_ble_eq_true rfl) rfl ?_
  have hx38_7 : ∀ (N38 : zm_Mem), zm_V X (Y_X2_product (dp + 1)) E (zm_Q X E (Y_X2_product (dp + 1)).2.2.2.1.cells (Y_X2_product (dp + 1)).2.2.2.1.slots (zm_w sv) zm_ev) 0 0 false (zm_w sv) 38 [] [] N38 (some ((), N38)) some := by
    intro N38
    exact zm_vret dX2_product_38 rfl (Nat.le_refl _) (Nat.le_refl _) rfl
  have hx73_7 : ∀ (N73 : zm_Mem), zm_V X (Y_X2_product (dp + 1)) E (zm_Q X E (Y_X2_product (dp + 1)).2.2.2.1.cells (Y_X2_product (dp + 1)).2.2.2.1.slots (zm_w sv) zm_ev) 0 0 false (zm_w sv) 73 [] [] N73 (some ((), N73)) some := by
    intro N73
    exact zm_vret dX2_product_73 rfl (Nat.le_refl _) (Nat.le_refl _) rfl
  refine zm_loc [1, 2, 0] rfl (zm_lpp (σ := (Int32 × zm_Mem)) (ε := (zm_Mem ⊕ zm_Mem)) (step := fun s => f_X2_product_l7 rec a1 s.1 s.2) (fun s => [(0, .ref (E.2.1 + 8)), (1, .int a1), (2, .int s.1)]) (fun s => s.2) (fun D7 f7 hf7a hf7b hD7 s => ?_) (0, M2))
  obtain ⟨l7_2, L7⟩ := s
  show zm_V X (Y_X2_product (dp + 1)) E (zm_Q X E (Y_X2_product (dp + 1)).2.2.2.1.cells (Y_X2_product (dp + 1)).2.2.2.1.slots (zm_w sv) zm_ev) 0 0 false (zm_w sv) 7 [(0, .ref (E.2.1 + 8)), (1, .int a1), (2, .int l7_2)] [] L7 (f_X2_product_l7 rec a1 l7_2 L7) f7
  unfold f_X2_product_l7
  refine zm_iload_n 8 rfl dX2_product_7 rfl 2 rfl ?_
  refine zm_sipush 11 rfl dX2_product_8 zs_400 ?_
  refine zm_icmp_gt 73 14 (by decide) rfl dX2_product_11 ?_ ?_
  · exact zm_loc [] rfl (zm_go (hf7b _) (zm_unb (hx73_7 L7)))
  · refine zm_aload_n 15 rfl dX2_product_14 rfl 0 rfl ?_
    refine zm_getI 18 rfl dX2_product_15 fl_X2_38 rfl (zm_L (sv := sv) rfl) ?_
    refine zm_if_ne 73 21 (by decide) rfl dX2_product_18 ?_ ?_
    · refine zm_aload_n 22 rfl dX2_product_21 rfl 0 rfl ?_
      refine zm_cV0ir 25 rfl dX2_product_22 ml_X2_47 rfl (zm_L (sv := sv) rfl) rfl (Nat.le_of_ble_eq_true rfl) ⟨by show 1 + 1 ≤ 3 + (dp + 1); omega, by show 8 + (1 + 11) + 21 ≤ 62 + 40 * (dp + 1); omega⟩ rfl rfl ⟨Nat.le_refl _, Nat.le_refl _⟩ rfl (fun _ h => k_X2_sort E sv L7 h) (fun r22 => ?_)
      refine zm_istore_n (lv' := [(3, .int r22), (0, .ref (E.2.1 + 8)), (1, .int a1), (2, .int l7_2)]) 26 rfl dX2_product_25 rfl (Nat.le_of_ble_eq_true rfl) rfl ?_
      refine zm_iload_n 27 rfl dX2_product_26 rfl 0 rfl ?_
      refine zm_bipush 29 rfl dX2_product_27 zb_42 ?_
      have hb39_7 : zm_V X (Y_X2_product (dp + 1)) E (zm_Q X E (Y_X2_product (dp + 1)).2.2.2.1.cells (Y_X2_product (dp + 1)).2.2.2.1.slots (zm_w sv) zm_ev) 0 0 false (zm_w sv) 39 [(0, .ref (E.2.1 + 8)), (1, .int a1), (2, .int l7_2), (3, .int r22)] [] L7 (f_X2_product_b39_7 rec a1 l7_2 L7 r22) f7 := by
        unfold f_X2_product_b39_7
        refine zm_aload_n 40 rfl dX2_product_39 rfl 0 rfl ?_
        refine zm_cV0v 43 rfl dX2_product_40 ml_X2_95 rfl (zm_L (sv := sv) rfl) rfl (Nat.le_of_ble_eq_true rfl) ⟨by show 0 + 1 ≤ 3 + (dp + 1); omega, by show 8 + (1 + 11) + 0 ≤ 62 + 40 * (dp + 1); omega⟩ rfl rfl ⟨Nat.le_refl _, Nat.le_refl _⟩ rfl (fun _ _ h => k_X2_take E sv L7 h) (fun _ M40 => ?_)
        refine zm_aload_n 44 rfl dX2_product_43 rfl 0 rfl ?_
        refine zm_iload_n 45 rfl dX2_product_44 rfl 1 rfl ?_
        refine zm_cV1v 48 rfl dX2_product_45 ml_X2_162 rfl (zm_L (sv := sv) rfl) rfl (Nat.le_of_ble_eq_true rfl) ⟨by show 3 + dp + 1 ≤ 3 + (dp + 1); omega, by show 8 + (3 + 11) + (62 + 40 * dp) ≤ 62 + 40 * (dp + 1); omega⟩ rfl rfl ⟨Nat.le_refl _, Nat.le_refl _⟩ rfl (fun _ _ h => hr2 a1 M40 h) (fun _ M45 => ?_)
        refine zm_aload_n 49 rfl dX2_product_48 rfl 0 rfl ?_
        refine zm_getT 52 rfl dX2_product_49 fl_X2_26 rfl (zm_L (sv := sv) rfl) (fun t49 _ ht49 => ?_)
        refine zm_iload_n 53 rfl dX2_product_52 rfl 3 rfl ?_
        refine zm_bipush 55 rfl dX2_product_53 zb_42 ?_
        have hb63_7 : ∀ (b63_s1 : Int32), zm_V X (Y_X2_product (dp + 1)) E (zm_Q X E (Y_X2_product (dp + 1)).2.2.2.1.cells (Y_X2_product (dp + 1)).2.2.2.1.slots (zm_w sv) zm_ev) 0 0 false (zm_w sv) 63 [(0, .ref (E.2.1 + 8)), (1, .int a1), (2, .int l7_2)] [.int b63_s1, .ref (E.2.1 + t49)] M45 (f_X2_product_b63_7 l7_2 M45 t49 b63_s1) f7 := by
          intro b63_s1
          unfold f_X2_product_b63_7
          refine zm_iconst 64 rfl dX2_product_63 zi_0 ?_
          refine zm_cV2v 67 rfl dX2_product_64 ml_X2_149 (zm_T_o ht49) (zm_T_l0 (sv := sv) ht49) rfl (Nat.le_of_ble_eq_true rfl) ⟨by show 0 + 1 ≤ 3 + (dp + 1); omega, by show 8 + (3 + 11) + 0 ≤ 62 + 40 * (dp + 1); omega⟩ rfl rfl ⟨Nat.le_refl _, Nat.le_refl _⟩ rfl (fun _ _ h => k_X8_put E (zm_w sv) t49 b63_s1 0 ht49 (zm_T_l (sv := sv) ht49 10 (Nat.le_refl _)).2 (fun j hj => zm_T_r ht49 j hj) M45 h) (fun _ M64 => ?_)
          refine zm_iinc (lv' := fun z => [(2, .int z), (0, .ref (E.2.1 + 8)), (1, .int a1)]) 70 rfl dX2_product_67 zi_1 2 rfl (Nat.le_of_ble_eq_true rfl) (fun _ => rfl) (fun x67 _ => ?_)
          refine zm_goto 7 (by decide) dX2_product_70 ?_
          exact zm_loc [1, 2, 0] rfl (zm_go (hf7a _) (hD7 (x67, M64)))
        refine zm_icmp_ne 62 58 (by decide) rfl dX2_product_55 ?_ ?_
        · refine zm_iconst 59 rfl dX2_product_58 zi_4 ?_
          refine zm_goto 63 (by decide) dX2_product_59 ?_
          exact zm_loc [0, 1, 2] rfl (hb63_7 4)
        · refine zm_iconst 63 rfl dX2_product_62 zi_5 ?_
          exact zm_loc [0, 1, 2] rfl (hb63_7 5)
      refine zm_icmp_eq 39 32 (by decide) rfl dX2_product_29 ?_ ?_
      · exact zm_loc [1, 2, 3, 0] rfl (hb39_7)
      · refine zm_iload_n 33 rfl dX2_product_32 rfl 0 rfl ?_
        refine zm_bipush 35 rfl dX2_product_33 zb_47 ?_
        refine zm_icmp_eq 39 38 (by decide) rfl dX2_product_35 ?_ ?_
        · exact zm_loc [1, 2, 3, 0] rfl (hb39_7)
        · exact zm_loc [] rfl (zm_go (hf7b _) (zm_unb (hx38_7 L7)))
    · exact zm_loc [] rfl (zm_go (hf7b _) (zm_unb (hx73_7 L7)))
noncomputable def f_X2_sum_b63_7 (l7_2 : Int32) (M45 : zm_Mem) (t49 : Nat) (b63_s1 : Int32) : Option ((Int32 × zm_Mem) ⊕ (zm_Mem ⊕ zm_Mem)) :=
 zm_b2 (f_X8_put t49 b63_s1 0 M45) <| fun _ M64 => zm_v (l7_2 + 1) <| fun x67 => some (.inl (x67, M64))
noncomputable def f_X2_sum_b39_7 (rec : (Nat → Int32 → zm_Mem → Option (Unit × zm_Mem))) (a1 : Int32) (l7_2 : Int32) (L7 : zm_Mem) (r22 : Int32) : Option ((Int32 × zm_Mem) ⊕ (zm_Mem ⊕ zm_Mem)) :=
 zm_b2 (f_X2_take L7) <| fun _ M40 => zm_b2 (rec 1 a1 M40) <| fun _ M45 => zm_v (M45.2.2 8 3) <| fun t49 => zm_ck (zm_isT t49) <| if r22 = (43 : Int32) then (f_X2_sum_b63_7 l7_2 M45 t49 2) else (f_X2_sum_b63_7 l7_2 M45 t49 3)
noncomputable def f_X2_sum_l7 (rec : (Nat → Int32 → zm_Mem → Option (Unit × zm_Mem))) (a1 : Int32) (l7_2 : Int32) (L7 : zm_Mem) : Option ((Int32 × zm_Mem) ⊕ (zm_Mem ⊕ zm_Mem)) :=
 if (400 : Int32) < l7_2 then (some (.inr (.inr L7))) else (if (L7.1 8 5) = 0 then (zm_b1 (f_X2_sort L7) <| fun r22 => if r22 = (43 : Int32) then (f_X2_sum_b39_7 rec a1 l7_2 L7 r22) else (if r22 = (45 : Int32) then (f_X2_sum_b39_7 rec a1 l7_2 L7 r22) else (some (.inr (.inl L7))))) else (some (.inr (.inr L7))))
noncomputable def f_X2_sum (rec : (Nat → Int32 → zm_Mem → Option (Unit × zm_Mem))) (a1 : Int32) (M : zm_Mem) : Option (Unit × zm_Mem) :=
  zm_b2 (rec 1 a1 M) <| fun _ M2 => (zm_lp (fun s => f_X2_sum_l7 rec a1 s.1 s.2) (0, M2)).bind (Sum.elim (fun e38 => some ((), e38)) (fun e73 => some ((), e73)))
set_option maxRecDepth 20000 in
set_option maxHeartbeats 4000000 in
theorem kb_X2_sum (E : zm_E) (sv : Nat) (dp : Nat) (rec : (Nat → Int32 → zm_Mem → Option (Unit × zm_Mem))) (hr0 : ∀ (a1 : Int32) (M : zm_Mem) (r : Unit) (M' : zm_Mem), rec 0 a1 M = some (r, M') → zm_Ct E (zm_w sv) (zm_w sv) yX2_sum (Y_X2_sum dp) [.ref (E.2.1 + 8), .int a1] M none M') (hr1 : ∀ (a1 : Int32) (M : zm_Mem) (r : Unit) (M' : zm_Mem), rec 1 a1 M = some (r, M') → zm_Ct E (zm_w sv) (zm_w sv) yX2_product (Y_X2_product dp) [.ref (E.2.1 + 8), .int a1] M none M') (hr2 : ∀ (a1 : Int32) (M : zm_Mem) (r : Unit) (M' : zm_Mem), rec 2 a1 M = some (r, M') → zm_Ct E (zm_w sv) (zm_w sv) yX2_unit (Y_X2_unit dp) [.ref (E.2.1 + 8), .int a1] M none M') (a1 : Int32) (M : zm_Mem) (r : Unit) (M' : zm_Mem) (h : f_X2_sum rec a1 M = some (r, M')) : zm_Ct E (zm_w sv) (zm_w sv) yX2_sum (Y_X2_sum (dp + 1)) [.ref (E.2.1 + 8), .int a1] M none M' := by
  have hr0 : ∀ (a1 : Int32) (M : zm_Mem) {r : Unit} {M' : zm_Mem}, rec 0 a1 M = some (r, M') → zm_Ct E (zm_w sv) (zm_w sv) yX2_sum (Y_X2_sum dp) [.ref (E.2.1 + 8), .int a1] M none M' := fun _ _ {_} {_} h => hr0 _ _ _ _ h
  have hr1 : ∀ (a1 : Int32) (M : zm_Mem) {r : Unit} {M' : zm_Mem}, rec 1 a1 M = some (r, M') → zm_Ct E (zm_w sv) (zm_w sv) yX2_product (Y_X2_product dp) [.ref (E.2.1 + 8), .int a1] M none M' := fun _ _ {_} {_} h => hr1 _ _ _ _ h
  have hr2 : ∀ (a1 : Int32) (M : zm_Mem) {r : Unit} {M' : zm_Mem}, rec 2 a1 M = some (r, M') → zm_Ct E (zm_w sv) (zm_w sv) yX2_unit (Y_X2_unit dp) [.ref (E.2.1 + 8), .int a1] M none M' := fun _ _ {_} {_} h => hr2 _ _ _ _ h
  refine zm_meth (emb := zm_ev) (d := f_X2_sum rec a1 M) (by decide) rfl rfl (Nat.le_of_ble_eq_true rfl) h (fun X => ?_)
  show zm_V X (Y_X2_sum (dp + 1)) E (zm_Q X E (Y_X2_sum (dp + 1)).2.2.2.1.cells (Y_X2_sum (dp + 1)).2.2.2.1.slots (zm_w sv) zm_ev) 0 0 false (zm_w sv) 0 [(0, .ref (E.2.1 + 8)), (1, .int a1)] [] M (f_X2_sum rec a1 M) some
  unfold f_X2_sum
  refine zm_aload_n 1 rfl dX2_sum_0 rfl 0 rfl ?_
  refine zm_iload_n 2 rfl dX2_sum_1 rfl 1 rfl ?_
  refine zm_cV1v 5 rfl dX2_sum_2 ml_X2_159 rfl (zm_L (sv := sv) rfl) rfl (Nat.le_of_ble_eq_true rfl) ⟨by show 3 + dp + 1 ≤ 3 + (dp + 1); omega, by show 8 + (4 + 11) + (62 + 40 * dp) ≤ 62 + 40 * (dp + 1); omega⟩ rfl rfl ⟨Nat.le_refl _, Nat.le_refl _⟩ rfl (fun _ _ h => hr1 a1 M h) (fun _ M2 => ?_)
  refine zm_iconst 6 rfl dX2_sum_5 zi_0 ?_
  refine zm_istore_n (lv' := [(2, .int 0), (0, .ref (E.2.1 + 8)), (1, .int a1)]) 7 rfl dX2_sum_6 rfl (Nat.le_of_ble_eq_true rfl) rfl ?_
  have hx38_7 : ∀ (N38 : zm_Mem), zm_V X (Y_X2_sum (dp + 1)) E (zm_Q X E (Y_X2_sum (dp + 1)).2.2.2.1.cells (Y_X2_sum (dp + 1)).2.2.2.1.slots (zm_w sv) zm_ev) 0 0 false (zm_w sv) 38 [] [] N38 (some ((), N38)) some := by
    intro N38
    exact zm_vret dX2_sum_38 rfl (Nat.le_refl _) (Nat.le_refl _) rfl
  have hx73_7 : ∀ (N73 : zm_Mem), zm_V X (Y_X2_sum (dp + 1)) E (zm_Q X E (Y_X2_sum (dp + 1)).2.2.2.1.cells (Y_X2_sum (dp + 1)).2.2.2.1.slots (zm_w sv) zm_ev) 0 0 false (zm_w sv) 73 [] [] N73 (some ((), N73)) some := by
    intro N73
    exact zm_vret dX2_sum_73 rfl (Nat.le_refl _) (Nat.le_refl _) rfl
  refine zm_loc [1, 2, 0] rfl (zm_lpp (σ := (Int32 × zm_Mem)) (ε := (zm_Mem ⊕ zm_Mem)) (step := fun s => f_X2_sum_l7 rec a1 s.1 s.2) (fun s => [(0, .ref (E.2.1 + 8)), (1, .int a1), (2, .int s.1)]) (fun s => s.2) (fun D7 f7 hf7a hf7b hD7 s => ?_) (0, M2))
  obtain ⟨l7_2, L7⟩ := s
  show zm_V X (Y_X2_sum (dp + 1)) E (zm_Q X E (Y_X2_sum (dp + 1)).2.2.2.1.cells (Y_X2_sum (dp + 1)).2.2.2.1.slots (zm_w sv) zm_ev) 0 0 false (zm_w sv) 7 [(0, .ref (E.2.1 + 8)), (1, .int a1), (2, .int l7_2)] [] L7 (f_X2_sum_l7 rec a1 l7_2 L7) f7
  unfold f_X2_sum_l7
  refine zm_iload_n 8 rfl dX2_sum_7 rfl 2 rfl ?_
  refine zm_sipush 11 rfl dX2_sum_8 zs_400 ?_
  refine zm_icmp_gt 73 14 (by decide) rfl dX2_sum_11 ?_ ?_
  · exact zm_loc [] rfl (zm_go (hf7b _) (zm_unb (hx73_7 L7)))
  · refine zm_aload_n 15 rfl dX2_sum_14 rfl 0 rfl ?_
    refine zm_getI 18 rfl dX2_sum_15 fl_X2_38 rfl (zm_L (sv := sv) rfl) ?_
    refine zm_if_ne 73 21 (by decide) rfl dX2_sum_18 ?_ ?_
    · refine zm_aload_n 22 rfl dX2_sum_21 rfl 0 rfl ?_
      refine zm_cV0ir 25 rfl dX2_sum_22 ml_X2_47 rfl (zm_L (sv := sv) rfl) rfl (Nat.le_of_ble_eq_true rfl) ⟨by show 1 + 1 ≤ 3 + (dp + 1); omega, by show 8 + (1 + 11) + 21 ≤ 62 + 40 * (dp + 1); omega⟩ rfl rfl ⟨Nat.le_refl _, Nat.le_refl _⟩ rfl (fun _ h => k_X2_sort E sv L7 h) (fun r22 => ?_)
      refine zm_istore_n (lv' := [(3, .int r22), (0, .ref (E.2.1 + 8)), (1, .int a1), (2, .int l7_2)]) 26 rfl dX2_sum_25 rfl (Nat.le_of_ble_eq_true rfl) rfl ?_
      refine zm_iload_n 27 rfl dX2_sum_26 rfl 0 rfl ?_
      refine zm_bipush 29 rfl dX2_sum_27 zb_43 ?_
      have hb39_7 : zm_V X (Y_X2_sum (dp + 1)) E (zm_Q X E (Y_X2_sum (dp + 1)).2.2.2.1.cells (Y_X2_sum (dp + 1)).2.2.2.1.slots (zm_w sv) zm_ev) 0 0 false (zm_w sv) 39 [(0, .ref (E.2.1 + 8)), (1, .int a1), (2, .int l7_2), (3, .int r22)] [] L7 (f_X2_sum_b39_7 rec a1 l7_2 L7 r22) f7 := by
        unfold f_X2_sum_b39_7
        refine zm_aload_n 40 rfl dX2_sum_39 rfl 0 rfl ?_
        refine zm_cV0v 43 rfl dX2_sum_40 ml_X2_95 rfl (zm_L (sv := sv) rfl) rfl (Nat.le_of_ble_eq_true rfl) ⟨by show 0 + 1 ≤ 3 + (dp + 1); omega, by show 8 + (1 + 11) + 0 ≤ 62 + 40 * (dp + 1); omega⟩ rfl rfl ⟨Nat.le_refl _, Nat.le_refl _⟩ rfl (fun _ _ h => k_X2_take E sv L7 h) (fun _ M40 => ?_)
        refine zm_aload_n 44 rfl dX2_sum_43 rfl 0 rfl ?_
        refine zm_iload_n 45 rfl dX2_sum_44 rfl 1 rfl ?_
        refine zm_cV1v 48 rfl dX2_sum_45 ml_X2_159 rfl (zm_L (sv := sv) rfl) rfl (Nat.le_of_ble_eq_true rfl) ⟨by show 3 + dp + 1 ≤ 3 + (dp + 1); omega, by show 8 + (4 + 11) + (62 + 40 * dp) ≤ 62 + 40 * (dp + 1); omega⟩ rfl rfl ⟨Nat.le_refl _, Nat.le_refl _⟩ rfl (fun _ _ h => hr1 a1 M40 h) (fun _ M45 => ?_)
        refine zm_aload_n 49 rfl dX2_sum_48 rfl 0 rfl ?_
        refine zm_getT 52 rfl dX2_sum_49 fl_X2_26 rfl (zm_L (sv := sv) rfl) (fun t49 _ ht49 => ?_)
        refine zm_iload_n 53 rfl dX2_sum_52 rfl 3 rfl ?_
        refine zm_bipush 55 rfl dX2_sum_53 zb_43 ?_
        have hb63_7 : ∀ (b63_s1 : Int32), zm_V X (Y_X2_sum (dp + 1)) E (zm_Q X E (Y_X2_sum (dp + 1)).2.2.2.1.cells (Y_X2_sum (dp + 1)).2.2.2.1.slots (zm_w sv) zm_ev) 0 0 false (zm_w sv) 63 [(0, .ref (E.2.1 + 8)), (1, .int a1), (2, .int l7_2)] [.int b63_s1, .ref (E.2.1 + t49)] M45 (f_X2_sum_b63_7 l7_2 M45 t49 b63_s1) f7 := by
          intro b63_s1
          unfold f_X2_sum_b63_7
          refine zm_iconst 64 rfl dX2_sum_63 zi_0 ?_
          refine zm_cV2v 67 rfl dX2_sum_64 ml_X2_149 (zm_T_o ht49) (zm_T_l0 (sv := sv) ht49) rfl (Nat.le_of_ble_eq_true rfl) ⟨by show 0 + 1 ≤ 3 + (dp + 1); omega, by show 8 + (3 + 11) + 0 ≤ 62 + 40 * (dp + 1); omega⟩ rfl rfl ⟨Nat.le_refl _, Nat.le_refl _⟩ rfl (fun _ _ h => k_X8_put E (zm_w sv) t49 b63_s1 0 ht49 (zm_T_l (sv := sv) ht49 10 (Nat.le_refl _)).2 (fun j hj => zm_T_r ht49 j hj) M45 h) (fun _ M64 => ?_)
          refine zm_iinc (lv' := fun z => [(2, .int z), (0, .ref (E.2.1 + 8)), (1, .int a1)]) 70 rfl dX2_sum_67 zi_1 2 rfl (Nat.le_of_ble_eq_true rfl) (fun _ => rfl) (fun x67 _ => ?_)
          refine zm_goto 7 (by decide) dX2_sum_70 ?_
          exact zm_loc [1, 2, 0] rfl (zm_go (hf7a _) (hD7 (x67, M64)))
        refine zm_icmp_ne 62 58 (by decide) rfl dX2_sum_55 ?_ ?_
        · refine zm_iconst 59 rfl dX2_sum_58 zi_2 ?_
          refine zm_goto 63 (by decide) dX2_sum_59 ?_
          exact zm_loc [0, 1, 2] rfl (hb63_7 2)
        · refine zm_iconst 63 rfl dX2_sum_62 zi_3 ?_
          exact zm_loc [0, 1, 2] rfl (hb63_7 3)
      refine zm_icmp_eq 39 32 (by decide) rfl dX2_sum_29 ?_ ?_
      · exact zm_loc [1, 2, 3, 0] rfl (hb39_7)
      · refine zm_iload_n 33 rfl dX2_sum_32 rfl 0 rfl ?_
        refine zm_bipush 35 rfl dX2_sum_33 zb_45 ?_
        refine zm_icmp_eq 39 38 (by decide) rfl dX2_sum_35 ?_ ?_
        · exact zm_loc [1, 2, 3, 0] rfl (hb39_7)
        · exact zm_loc [] rfl (zm_go (hf7b _) (zm_unb (hx38_7 L7)))
    · exact zm_loc [] rfl (zm_go (hf7b _) (zm_unb (hx73_7 L7)))
noncomputable def fr_X2_sum : Nat → (Nat → Int32 → zm_Mem → Option (Unit × zm_Mem))
  | 0, _, _, _ => none
  | dp + 1, w, a1, M => if w = 0 then f_X2_sum (fr_X2_sum dp) a1 M else if w = 1 then f_X2_product (fr_X2_sum dp) a1 M else f_X2_unit (fr_X2_sum dp) a1 M
theorem kr_X2_sum (E : zm_E) (sv : Nat) : ∀ dp : Nat, (∀ (a1 : Int32) (M : zm_Mem) (r : Unit) (M' : zm_Mem), fr_X2_sum dp 0 a1 M = some (r, M') → zm_Ct E (zm_w sv) (zm_w sv) yX2_sum (Y_X2_sum dp) [.ref (E.2.1 + 8), .int a1] M none M') ∧ (∀ (a1 : Int32) (M : zm_Mem) (r : Unit) (M' : zm_Mem), fr_X2_sum dp 1 a1 M = some (r, M') → zm_Ct E (zm_w sv) (zm_w sv) yX2_product (Y_X2_product dp) [.ref (E.2.1 + 8), .int a1] M none M') ∧ (∀ (a1 : Int32) (M : zm_Mem) (r : Unit) (M' : zm_Mem), fr_X2_sum dp 2 a1 M = some (r, M') → zm_Ct E (zm_w sv) (zm_w sv) yX2_unit (Y_X2_unit dp) [.ref (E.2.1 + 8), .int a1] M none M') := by
  intro dp
  induction dp with
  | zero => exact ⟨(fun _ _ _ _ h => by cases h), (fun _ _ _ _ h => by cases h), (fun _ _ _ _ h => by cases h)⟩
  | succ dp ih =>
    exact ⟨(fun a1 M r M' h => kb_X2_sum E sv dp (fr_X2_sum dp) ih.1 ih.2.1 ih.2.2 a1 M r M' h), (fun a1 M r M' h => kb_X2_product E sv dp (fr_X2_sum dp) ih.1 ih.2.1 ih.2.2 a1 M r M' h), (fun a1 M r M' h => kb_X2_unit E sv dp (fr_X2_sum dp) ih.1 ih.2.1 ih.2.2 a1 M r M' h)⟩
noncomputable def f_X2_sumR (dp : Nat) (a1 : Int32) (M : zm_Mem) := fr_X2_sum dp 0 a1 M
theorem k_X2_sum (E : zm_E) (sv : Nat) (dp : Nat) (a1 : Int32) (M : zm_Mem) {r : Unit} {M' : zm_Mem} (h : f_X2_sumR dp a1 M = some (r, M')) : zm_Ct E (zm_w sv) (zm_w sv) yX2_sum (Y_X2_sum dp) [.ref (E.2.1 + 8), .int a1] M none M' := (kr_X2_sum E sv dp).1 a1 M r M' h
noncomputable def f_X2_productR (dp : Nat) (a1 : Int32) (M : zm_Mem) := fr_X2_sum dp 1 a1 M
theorem k_X2_product (E : zm_E) (sv : Nat) (dp : Nat) (a1 : Int32) (M : zm_Mem) {r : Unit} {M' : zm_Mem} (h : f_X2_productR dp a1 M = some (r, M')) : zm_Ct E (zm_w sv) (zm_w sv) yX2_product (Y_X2_product dp) [.ref (E.2.1 + 8), .int a1] M none M' := (kr_X2_sum E sv dp).2.1 a1 M r M' h
noncomputable def f_X2_unitR (dp : Nat) (a1 : Int32) (M : zm_Mem) := fr_X2_sum dp 2 a1 M
theorem k_X2_unit (E : zm_E) (sv : Nat) (dp : Nat) (a1 : Int32) (M : zm_Mem) {r : Unit} {M' : zm_Mem} (h : f_X2_unitR dp a1 M = some (r, M')) : zm_Ct E (zm_w sv) (zm_w sv) yX2_unit (Y_X2_unit dp) [.ref (E.2.1 + 8), .int a1] M none M' := (kr_X2_sum E sv dp).2.2 a1 M r M' h
abbrev Y_X2_tellTerm : zm_Y := (cX2_tellTerm, 2, RX2, { frames := 68, cells := 0, slots := 0, locals := 2645 }, none, false, "tellTerm")
noncomputable def f_X2_tellTerm  (M : zm_Mem) : Option (Unit × zm_Mem) :=
  zm_v (M.2.2 8 3) <| fun t1 => zm_ck (zm_isT t1) <| zm_v (M.1 t1 13) <| fun x7 => if x7 < (6 : Int32) then (zm_b2 (f_X2_take M) <| fun _ M21 => zm_v (M21.2.2 8 3) <| fun t25 => zm_ck (zm_isT t25) <| zm_v (M21.2.2 8 3) <| fun t38 => zm_ck (zm_isT t38) <| zm_b2 (f_X2_toldName 10 (M21.1 t38 12) M21) <| fun r44 M44 => zm_ck (zm_in x7 6) <| zm_v (zm_sI M44 (t25 + 7) x7.toNatClampNeg r44) <| fun M47 => zm_v (M47.2.2 8 3) <| fun t49 => zm_ck (zm_isT t49) <| zm_v (M47.2.2 8 3) <| fun t57 => zm_ck (zm_isT t57) <| zm_ck (zm_in x7 6) <| zm_v (zm_sI M47 (t49 + 8) x7.toNatClampNeg (M47.1 t57 10)) <| fun M63 => zm_b2 (f_X2_sumR 64 0 M63) <| fun _ M66 => zm_v (M66.2.2 8 3) <| fun t70 => zm_ck (zm_isT t70) <| zm_b2 (f_X8_put t70 7 0 M66) <| fun _ M76 => zm_b2 (f_X2_expect 60 M76) <| fun _ M82 => zm_v (M82.2.2 8 3) <| fun t86 => zm_ck (zm_isT t86) <| zm_v (M82.2.2 8 3) <| fun t94 => zm_ck (zm_isT t94) <| zm_ck (zm_in x7 6) <| zm_v (zm_sI M82 (t86 + 9) x7.toNatClampNeg (M82.1 t94 10)) <| fun M100 => zm_b2 (f_X2_sumR 64 0 M100) <| fun _ M103 => zm_v (M103.2.2 8 3) <| fun t107 => zm_ck (zm_isT t107) <| zm_b2 (f_X8_put t107 7 0 M103) <| fun _ M113 => zm_b2 (f_X2_expect 59 M113) <| fun _ M119 => zm_v (M119.2.2 8 3) <| fun t123 => zm_ck (zm_isT t123) <| zm_v (zm_sI M119 t123 13 ((M119.1 t123 13) + 1)) <| fun M132 => some ((), M132)) else (zm_b2 (f_X2_fail 2 M) <| fun _ M16 => some ((), M16))
set_option maxRecDepth 20000 in
set_option maxHeartbeats 4000000 in
theorem k_X2_tellTerm (E : zm_E) (sv : Nat)  (M : zm_Mem) {r : Unit} {M' : zm_Mem} (h : f_X2_tellTerm M = some (r, M')) : zm_Ct E (zm_w sv) (zm_w sv) yX2_tellTerm Y_X2_tellTerm [.ref (E.2.1 + 8)] M none M' := by
  refine zm_meth (emb := zm_ev) (d := f_X2_tellTerm M) (by decide) rfl rfl (Nat.le_of_ble_eq_true rfl) h (fun X => ?_)
  show zm_V X Y_X2_tellTerm E (zm_Q X E Y_X2_tellTerm.2.2.2.1.cells Y_X2_tellTerm.2.2.2.1.slots (zm_w sv) zm_ev) 0 0 false (zm_w sv) 0 [(0, .ref (E.2.1 + 8))] [] M (f_X2_tellTerm M) some
  unfold f_X2_tellTerm
  refine zm_aload_n 1 rfl dX2_tellTerm_0 rfl 0 rfl ?_
  refine zm_getT 4 rfl dX2_tellTerm_1 fl_X2_26 rfl (zm_L (sv := sv) rfl) (fun t1 _ ht1 => ?_)
  refine zm_getI 7 rfl dX2_tellTerm_4 fl_X2_134 (zm_T_o ht1) (zm_T_l0 (sv := sv) ht1) ?_
  refine zm_nmi (fun x7 _ => ?_)
  refine zm_istore_n (lv' := [(1, .int x7), (0, .ref (E.2.1 + 8))]) 8 rfl dX2_tellTerm_7 rfl (by decide) rfl ?_
  refine zm_iload_n 9 rfl dX2_tellTerm_8 rfl 0 rfl ?_
  refine zm_bipush 11 rfl dX2_tellTerm_9 zb_6 ?_
  refine zm_icmp_lt 20 14 (by decide) rfl dX2_tellTerm_11 ?_ ?_
  · refine zm_aload_n 21 rfl dX2_tellTerm_20 rfl 1 rfl ?_
    refine zm_cV0v 24 rfl dX2_tellTerm_21 ml_X2_95 rfl (zm_L (sv := sv) rfl) rfl (Nat.le_of_ble_eq_true rfl) ⟨Nat.le_of_ble_eq_true rfl, Nat.le_of_ble_eq_true rfl⟩ rfl rfl ⟨Nat.le_refl _, Nat.le_refl _⟩ rfl (fun _ _ h => k_X2_take E sv M h) (fun _ M21 => ?_)
    refine zm_aload_n 25 rfl dX2_tellTerm_24 rfl 1 rfl ?_
    refine zm_getT 28 rfl dX2_tellTerm_25 fl_X2_26 rfl (zm_L (sv := sv) rfl) (fun t25 _ ht25 => ?_)
    refine zm_getR (a := t25 + 7) 31 rfl dX2_tellTerm_28 fl_X2_137 (zm_T_o ht25) (zm_T_l0 (sv := sv) ht25) (zm_T_r ht25 6 (by decide)) (Nat.succ_ne_zero _) ?_
    refine zm_iload_n 32 rfl dX2_tellTerm_31 rfl 0 rfl ?_
    refine zm_aload_n 33 rfl dX2_tellTerm_32 rfl 1 rfl ?_
    refine zm_aload_n 34 rfl dX2_tellTerm_33 rfl 1 rfl ?_
    refine zm_getR (a := 10) 37 rfl dX2_tellTerm_34 fl_X2_15 rfl (zm_L (sv := sv) rfl) rfl (by decide) ?_
    refine zm_aload_n 38 rfl dX2_tellTerm_37 rfl 1 rfl ?_
    refine zm_getT 41 rfl dX2_tellTerm_38 fl_X2_26 rfl (zm_L (sv := sv) rfl) (fun t38 _ ht38 => ?_)
    refine zm_getI 44 rfl dX2_tellTerm_41 fl_X2_115 (zm_T_o ht38) (zm_T_l0 (sv := sv) ht38) ?_
    refine zm_cV2i 47 rfl dX2_tellTerm_44 ml_X2_121 rfl (zm_L (sv := sv) rfl) rfl (Nat.le_of_ble_eq_true rfl) ⟨Nat.le_of_ble_eq_true rfl, Nat.le_of_ble_eq_true rfl⟩ rfl rfl ⟨Nat.le_refl _, Nat.le_refl _⟩ rfl (fun _ _ h => k_X2_toldName E sv 10 (M21.1 t38 12) ⟨rfl, (zm_L (sv := sv) rfl)⟩ M21 h) (fun r44 M44 => ?_)
    refine zm_iast 48 rfl dX2_tellTerm_47 (zm_T_a ht25 7 (by decide)) (zm_T_l (sv := sv) ht25 7 (by decide)) (fun M47 _ => ?_)
    refine zm_aload_n 49 rfl dX2_tellTerm_48 rfl 1 rfl ?_
    refine zm_getT 52 rfl dX2_tellTerm_49 fl_X2_26 rfl (zm_L (sv := sv) rfl) (fun t49 _ ht49 => ?_)
    refine zm_getR (a := t49 + 8) 55 rfl dX2_tellTerm_52 fl_X2_140 (zm_T_o ht49) (zm_T_l0 (sv := sv) ht49) (zm_T_r ht49 7 (by decide)) (Nat.succ_ne_zero _) ?_
    refine zm_iload_n 56 rfl dX2_tellTerm_55 rfl 0 rfl ?_
    refine zm_aload_n 57 rfl dX2_tellTerm_56 rfl 1 rfl ?_
    refine zm_getT 60 rfl dX2_tellTerm_57 fl_X2_26 rfl (zm_L (sv := sv) rfl) (fun t57 _ ht57 => ?_)
    refine zm_getI 63 rfl dX2_tellTerm_60 fl_X2_143 (zm_T_o ht57) (zm_T_l0 (sv := sv) ht57) ?_
    refine zm_iast 64 rfl dX2_tellTerm_63 (zm_T_a ht49 8 (by decide)) (zm_T_l (sv := sv) ht49 8 (by decide)) (fun M63 _ => ?_)
    refine zm_aload_n 65 rfl dX2_tellTerm_64 rfl 1 rfl ?_
    refine zm_iconst 66 rfl dX2_tellTerm_65 zi_0 ?_
    refine zm_cV1v 69 rfl dX2_tellTerm_66 ml_X2_146 rfl (zm_L (sv := sv) rfl) rfl (Nat.le_of_ble_eq_true rfl) ⟨Nat.le_of_ble_eq_true rfl, Nat.le_of_ble_eq_true rfl⟩ rfl rfl ⟨Nat.le_refl _, Nat.le_refl _⟩ rfl (fun _ _ h => k_X2_sum E sv 64 0 M63 h) (fun _ M66 => ?_)
    refine zm_aload_n 70 rfl dX2_tellTerm_69 rfl 1 rfl ?_
    refine zm_getT 73 rfl dX2_tellTerm_70 fl_X2_26 rfl (zm_L (sv := sv) rfl) (fun t70 _ ht70 => ?_)
    refine zm_bipush 75 rfl dX2_tellTerm_73 zb_7 ?_
    refine zm_iconst 76 rfl dX2_tellTerm_75 zi_0 ?_
    refine zm_cV2v 79 rfl dX2_tellTerm_76 ml_X2_149 (zm_T_o ht70) (zm_T_l0 (sv := sv) ht70) rfl (Nat.le_of_ble_eq_true rfl) ⟨Nat.le_of_ble_eq_true rfl, Nat.le_of_ble_eq_true rfl⟩ rfl rfl ⟨Nat.le_refl _, Nat.le_refl _⟩ rfl (fun _ _ h => k_X8_put E (zm_w sv) t70 7 0 ht70 (zm_T_l (sv := sv) ht70 10 (Nat.le_refl _)).2 (fun j hj => zm_T_r ht70 j hj) M66 h) (fun _ M76 => ?_)
    refine zm_aload_n 80 rfl dX2_tellTerm_79 rfl 1 rfl ?_
    refine zm_bipush 82 rfl dX2_tellTerm_80 zb_60 ?_
    refine zm_cV1v 85 rfl dX2_tellTerm_82 ml_X2_112 rfl (zm_L (sv := sv) rfl) rfl (Nat.le_of_ble_eq_true rfl) ⟨Nat.le_of_ble_eq_true rfl, Nat.le_of_ble_eq_true rfl⟩ rfl rfl ⟨Nat.le_refl _, Nat.le_refl _⟩ rfl (fun _ _ h => k_X2_expect E sv 60 M76 h) (fun _ M82 => ?_)
    refine zm_aload_n 86 rfl dX2_tellTerm_85 rfl 1 rfl ?_
    refine zm_getT 89 rfl dX2_tellTerm_86 fl_X2_26 rfl (zm_L (sv := sv) rfl) (fun t86 _ ht86 => ?_)
    refine zm_getR (a := t86 + 9) 92 rfl dX2_tellTerm_89 fl_X2_153 (zm_T_o ht86) (zm_T_l0 (sv := sv) ht86) (zm_T_r ht86 8 (by decide)) (Nat.succ_ne_zero _) ?_
    refine zm_iload_n 93 rfl dX2_tellTerm_92 rfl 0 rfl ?_
    refine zm_aload_n 94 rfl dX2_tellTerm_93 rfl 1 rfl ?_
    refine zm_getT 97 rfl dX2_tellTerm_94 fl_X2_26 rfl (zm_L (sv := sv) rfl) (fun t94 _ ht94 => ?_)
    refine zm_getI 100 rfl dX2_tellTerm_97 fl_X2_143 (zm_T_o ht94) (zm_T_l0 (sv := sv) ht94) ?_
    refine zm_iast 101 rfl dX2_tellTerm_100 (zm_T_a ht86 9 (by decide)) (zm_T_l (sv := sv) ht86 9 (by decide)) (fun M100 _ => ?_)
    refine zm_aload_n 102 rfl dX2_tellTerm_101 rfl 1 rfl ?_
    refine zm_iconst 103 rfl dX2_tellTerm_102 zi_0 ?_
    refine zm_cV1v 106 rfl dX2_tellTerm_103 ml_X2_146 rfl (zm_L (sv := sv) rfl) rfl (Nat.le_of_ble_eq_true rfl) ⟨Nat.le_of_ble_eq_true rfl, Nat.le_of_ble_eq_true rfl⟩ rfl rfl ⟨Nat.le_refl _, Nat.le_refl _⟩ rfl (fun _ _ h => k_X2_sum E sv 64 0 M100 h) (fun _ M103 => ?_)
    refine zm_aload_n 107 rfl dX2_tellTerm_106 rfl 1 rfl ?_
    refine zm_getT 110 rfl dX2_tellTerm_107 fl_X2_26 rfl (zm_L (sv := sv) rfl) (fun t107 _ ht107 => ?_)
    refine zm_bipush 112 rfl dX2_tellTerm_110 zb_7 ?_
    refine zm_iconst 113 rfl dX2_tellTerm_112 zi_0 ?_
    refine zm_cV2v 116 rfl dX2_tellTerm_113 ml_X2_149 (zm_T_o ht107) (zm_T_l0 (sv := sv) ht107) rfl (Nat.le_of_ble_eq_true rfl) ⟨Nat.le_of_ble_eq_true rfl, Nat.le_of_ble_eq_true rfl⟩ rfl rfl ⟨Nat.le_refl _, Nat.le_refl _⟩ rfl (fun _ _ h => k_X8_put E (zm_w sv) t107 7 0 ht107 (zm_T_l (sv := sv) ht107 10 (Nat.le_refl _)).2 (fun j hj => zm_T_r ht107 j hj) M103 h) (fun _ M113 => ?_)
    refine zm_aload_n 117 rfl dX2_tellTerm_116 rfl 1 rfl ?_
    refine zm_bipush 119 rfl dX2_tellTerm_117 zb_59 ?_
    refine zm_cV1v 122 rfl dX2_tellTerm_119 ml_X2_112 rfl (zm_L (sv := sv) rfl) rfl (Nat.le_of_ble_eq_true rfl) ⟨Nat.le_of_ble_eq_true rfl, Nat.le_of_ble_eq_true rfl⟩ rfl rfl ⟨Nat.le_refl _, Nat.le_refl _⟩ rfl (fun _ _ h => k_X2_expect E sv 59 M113 h) (fun _ M119 => ?_)
    refine zm_aload_n 123 rfl dX2_tellTerm_122 rfl 1 rfl ?_
    refine zm_getT 126 rfl dX2_tellTerm_123 fl_X2_26 rfl (zm_L (sv := sv) rfl) (fun t123 _ ht123 => ?_)
    refine zm_dup 127 rfl dX2_tellTerm_126 rfl ?_
    refine zm_getI 130 rfl dX2_tellTerm_127 fl_X2_134 (zm_T_o ht123) (zm_T_l0 (sv := sv) ht123) ?_
    refine zm_iconst 131 rfl dX2_tellTerm_130 zi_1 ?_
    refine zm_iadd 132 rfl dX2_tellTerm_131 ?_
    refine zm_putI 135 rfl dX2_tellTerm_132 fp_X2_134 (zm_T_o ht123) (zm_T_l0 (sv := sv) ht123) rfl rfl (fun M132 _ => ?_)
    exact zm_vret dX2_tellTerm_135 rfl (Nat.le_refl _) (Nat.le_refl _) rfl
  · refine zm_aload_n 15 rfl dX2_tellTerm_14 rfl 1 rfl ?_
    refine zm_iconst 16 rfl dX2_tellTerm_15 zi_2 ?_
    refine zm_cV1v 19 rfl dX2_tellTerm_16 ml_X2_82 rfl (zm_L (sv := sv) rfl) rfl (Nat.le_of_ble_eq_true rfl) ⟨Nat.le_of_ble_eq_true rfl, Nat.le_of_ble_eq_true rfl⟩ rfl rfl ⟨Nat.le_refl _, Nat.le_refl _⟩ rfl (fun _ _ h => k_X2_fail E sv 2 M h) (fun _ M16 => ?_)
    exact zm_vret dX2_tellTerm_19 rfl (Nat.le_refl _) (Nat.le_refl _) rfl
abbrev Y_X8_putGoal : zm_Y := (cX8_putGoal, 2, RX8, { frames := 0, cells := 0, slots := 0, locals := 0 }, none, false, "putGoal")
noncomputable def f_X8_putGoal (t : Nat) (a1 : Int32) (M : zm_Mem) : Option (Unit × zm_Mem) :=
  if a1 < 0 then (some ((), M)) else (if (M.1 t 10) ≤ a1 then (some ((), M)) else (zm_ck (zm_in a1 408) <| zm_v (zm_sI M (t + 10) a1.toNatClampNeg (98304 ||| ((M.1 t 10) &&& 16383))) <| fun M28 => some ((), M28)))
set_option maxRecDepth 20000 in
set_option maxHeartbeats 4000000 in
theorem k_X8_putGoal (E : zm_E) (w : zm_W) (t : Nat) (a1 : Int32) (ht : zm_isT t = true) (hwl : t + 10 ≤ w.1) (hwr : ∀ j, j < 10 → w.2 t j = t + (j + 1)) (M : zm_Mem) {r : Unit} {M' : zm_Mem} (h : f_X8_putGoal t a1 M = some (r, M')) : zm_Ct E w w yX8_putGoal Y_X8_putGoal [.ref (E.2.1 + t), .int a1] M none M' := by
  refine zm_meth (emb := zm_ev) (d := f_X8_putGoal t a1 M) (by decide) rfl rfl (Nat.le_of_ble_eq_true rfl) h (fun X => ?_)
  show zm_V X Y_X8_putGoal E (zm_Q X E Y_X8_putGoal.2.2.2.1.cells Y_X8_putGoal.2.2.2.1.slots w zm_ev) 0 0 false w 0 [(0, .ref (E.2.1 + t)), (1, .int a1)] [] M (f_X8_putGoal t a1 M) some
  unfold f_X8_putGoal
  refine zm_iload_n 1 rfl dX8_putGoal_0 rfl 1 rfl ?_
  refine zm_if_lt 29 4 (by decide) rfl dX8_putGoal_1 ?_ ?_
  · exact zm_vret dX8_putGoal_29 rfl (Nat.le_refl _) (Nat.le_refl _) rfl
  · refine zm_iload_n 5 rfl dX8_putGoal_4 rfl 1 rfl ?_
    refine zm_aload_n 6 rfl dX8_putGoal_5 rfl 0 rfl ?_
    refine zm_getI 9 rfl dX8_putGoal_6 fl_X8_64 (zm_T_o ht) (zm_T_lw ht hwl 0 (by decide)) ?_
    refine zm_icmp_ge 29 12 (by decide) rfl dX8_putGoal_9 ?_ ?_
    · exact zm_vret dX8_putGoal_29 rfl (Nat.le_refl _) (Nat.le_refl _) rfl
    · refine zm_aload_n 13 rfl dX8_putGoal_12 rfl 0 rfl ?_
      refine zm_getR (a := t + 10) 16 rfl dX8_putGoal_13 fl_X8_39 (zm_T_o ht) (zm_T_lw ht hwl 0 (by decide)) (hwr 9 (by decide)) (Nat.succ_ne_zero _) ?_
      refine zm_iload_n 17 rfl dX8_putGoal_16 rfl 1 rfl ?_
      refine zm_ldc 19 rfl dX8_putGoal_17 kc_X8_79 ?_
      refine zm_aload_n 20 rfl dX8_putGoal_19 rfl 0 rfl ?_
      refine zm_getI 23 rfl dX8_putGoal_20 fl_X8_64 (zm_T_o ht) (zm_T_lw ht hwl 0 (by decide)) ?_
      refine zm_sipush 26 rfl dX8_putGoal_23 zs_16383 ?_
      refine zm_iand 27 rfl dX8_putGoal_26 ?_
      refine zm_ior 28 rfl dX8_putGoal_27 ?_
      refine zm_iast 29 rfl dX8_putGoal_28 (zm_T_a ht 10 (by decide)) (zm_T_lw ht hwl 10 (by decide)) (fun M28 _ => ?_)
      exact zm_vret dX8_putGoal_29 rfl (Nat.le_refl _) (Nat.le_refl _) rfl
abbrev Y_X2_law : zm_Y := (cX2_law, 4, RX2, { frames := 68, cells := 0, slots := 0, locals := 2645 }, (some .int), false, "law")
noncomputable def f_X2_law_b133 (x7 : Int32) (M133 : zm_Mem) : Option (Int32 × zm_Mem) :=
 zm_b2 (f_X2_sumR 64 0 M133) <| fun _ M135 => zm_v (M135.2.2 8 3) <| fun t139 => zm_ck (zm_isT t139) <| zm_b2 (f_X8_put t139 7 0 M135) <| fun _ M145 => zm_b2 (f_X2_expect 59 M145) <| fun _ M151 => some (x7, M151)
noncomputable def f_X2_law_b52_20 (l20_2 : Int32) (M52 : zm_Mem) : Option ((Int32 × zm_Mem) ⊕ zm_Mem) :=
 zm_b2 (f_X2_take M52) <| fun _ M53 => zm_b2 (f_X2_sumR 64 0 M53) <| fun _ M58 => zm_b2 (f_X2_expect 60 M58) <| fun _ M64 => zm_b2 (f_X2_sumR 64 0 M64) <| fun _ M69 => zm_v (M69.2.2 8 3) <| fun t73 => zm_ck (zm_isT t73) <| zm_v (M69.1 t73 10) <| fun x79 => zm_v (M69.2.2 8 3) <| fun t81 => zm_ck (zm_isT t81) <| zm_b2 (f_X8_put t81 6 0 M69) <| fun _ M87 => zm_b2 (f_X2_expect 265 M87) <| fun _ M94 => zm_b2 (f_X2_sumR 64 0 M94) <| fun _ M99 => zm_v (M99.2.2 8 3) <| fun t103 => zm_ck (zm_isT t103) <| zm_b2 (f_X8_put t103 7 0 M99) <| fun _ M109 => zm_b2 (f_X2_expect 266 M109) <| fun _ M116 => zm_v (M116.2.2 8 3) <| fun t120 => zm_ck (zm_isT t120) <| zm_b2 (f_X8_putGoal t120 x79 M116) <| fun _ M124 => zm_v (l20_2 + 1) <| fun x127 => some (.inl (x127, M124))
noncomputable def f_X2_law_l20 (l20_2 : Int32) (L20 : zm_Mem) : Option ((Int32 × zm_Mem) ⊕ zm_Mem) :=
 if (4 : Int32) < l20_2 then (some (.inr L20)) else (if (L20.1 8 5) = 0 then (zm_b1 (f_X2_sort L20) <| fun r33 => if r33 = (264 : Int32) then (if l20_2 = (4 : Int32) then (zm_b2 (f_X2_fail 2 L20) <| fun _ M49 => f_X2_law_b52_20 l20_2 M49) else (f_X2_law_b52_20 l20_2 L20)) else (some (.inr L20))) else (some (.inr L20)))
noncomputable def f_X2_law  (M : zm_Mem) : Option (Int32 × zm_Mem) :=
  zm_v (M.2.2 8 3) <| fun t1 => zm_ck (zm_isT t1) <| zm_v (M.1 t1 10) <| fun x7 => zm_b2 (f_X2_take M) <| fun _ M9 => zm_b2 (f_X2_expect 61 M9) <| fun _ M15 => (zm_lp (fun s => f_X2_law_l20 s.1 s.2) (0, M15)).bind (fun e133 => f_X2_law_b133 x7 e133)
set_option maxRecDepth 20000 in
set_option maxHeartbeats 4000000 in
theorem k_X2_law (E : zm_E) (sv : Nat)  (M : zm_Mem) {r : Int32} {M' : zm_Mem} (h : f_X2_law M = some (r, M')) : zm_Ct E (zm_w sv) (zm_w sv) yX2_law Y_X2_law [.ref (E.2.1 + 8)] M (some (.int r)) M' := by
  refine zm_meth (emb := zm_ei) (d := f_X2_law M) (by decide) rfl rfl (Nat.le_of_ble_eq_true rfl) h (fun X => ?_)
  show zm_V X Y_X2_law E (zm_Q X E Y_X2_law.2.2.2.1.cells Y_X2_law.2.2.2.1.slots (zm_w sv) zm_ei) 0 0 false (zm_w sv) 0 [(0, .ref (E.2.1 + 8))] [] M (f_X2_law M) some
  unfold f_X2_law
  refine zm_aload_n 1 rfl dX2_law_0 rfl 0 rfl ?_
  refine zm_getT 4 rfl dX2_law_1 fl_X2_26 rfl (zm_L (sv := sv) rfl) (fun t1 _ ht1 => ?_)
  refine zm_getI 7 rfl dX2_law_4 fl_X2_143 (zm_T_o ht1) (zm_T_l0 (sv := sv) ht1) ?_
  refine zm_nmi (fun x7 _ => ?_)
  refine zm_istore_n (lv' := [(1, .int x7), (0, .ref (E.2.1 + 8))]) 8 rfl dX2_law_7 rfl (by decide) rfl ?_
  refine zm_aload_n 9 rfl dX2_law_8 rfl 1 rfl ?_
  refine zm_cV0v 12 rfl dX2_law_9 ml_X2_95 rfl (zm_L (sv := sv) rfl) rfl (Nat.le_of_ble_eq_true rfl) ⟨Nat.le_of_ble_eq_true rfl, Nat.le_of_ble_eq_true rfl⟩ rfl rfl ⟨Nat.le_refl _, Nat.le_refl _⟩ rfl (fun _ _ h => k_X2_take E sv M h) (fun _ M9 => ?_)
  refine zm_aload_n 13 rfl dX2_law_12 rfl 1 rfl ?_
  refine zm_bipush 15 rfl dX2_law_13 zb_61 ?_
  refine zm_cV1v 18 rfl dX2_law_15 ml_X2_112 rfl (zm_L (sv := sv) rfl) rfl (Nat.le_of_ble_eq_true rfl) ⟨Nat.le_of_ble_eq_true rfl, Nat.le_of_ble_eq_true rfl⟩ rfl rfl ⟨Nat.le_refl _, Nat.le_refl _⟩ rfl (fun _ _ h => k_X2_expect E sv 61 M9 h) (fun _ M15 => ?_)
  refine zm_iconst 19 rfl dX2_law_18 zi_0 ?_
  refine zm_istore_n (lv' := [(2, .int 0), (1, .int x7), (0, .ref (E.2.1 + 8))]) 20 rfl dX2_law_19 rfl (by decide) rfl ?_
  have hb133 : ∀ (M133 : zm_Mem), zm_V X Y_X2_law E (zm_Q X E Y_X2_law.2.2.2.1.cells Y_X2_law.2.2.2.1.slots (zm_w sv) zm_ei) 0 0 false (zm_w sv) 133 [(0, .ref (E.2.1 + 8)), (1, .int x7)] [] M133 (f_X2_law_b133 x7 M133) some := by
    intro M133
    unfold f_X2_law_b133
    refine zm_aload_n 134 rfl dX2_law_133 rfl 0 rfl ?_
    refine zm_iconst 135 rfl dX2_law_134 zi_0 ?_
    refine zm_cV1v 138 rfl dX2_law_135 ml_X2_146 rfl (zm_L (sv := sv) rfl) rfl (Nat.le_of_ble_eq_true rfl) ⟨Nat.le_of_ble_eq_true rfl, Nat.le_of_ble_eq_true rfl⟩ rfl rfl ⟨Nat.le_refl _, Nat.le_refl _⟩ rfl (fun _ _ h => k_X2_sum E sv 64 0 M133 h) (fun _ M135 => ?_)
    refine zm_aload_n 139 rfl dX2_law_138 rfl 0 rfl ?_
    refine zm_getT 142 rfl dX2_law_139 fl_X2_26 rfl (zm_L (sv := sv) rfl) (fun t139 _ ht139 => ?_)
    refine zm_bipush 144 rfl dX2_law_142 zb_7 ?_
    refine zm_iconst 145 rfl dX2_law_144 zi_0 ?_
    refine zm_cV2v 148 rfl dX2_law_145 ml_X2_149 (zm_T_o ht139) (zm_T_l0 (sv := sv) ht139) rfl (Nat.le_of_ble_eq_true rfl) ⟨Nat.le_of_ble_eq_true rfl, Nat.le_of_ble_eq_true rfl⟩ rfl rfl ⟨Nat.le_refl _, Nat.le_refl _⟩ rfl (fun _ _ h => k_X8_put E (zm_w sv) t139 7 0 ht139 (zm_T_l (sv := sv) ht139 10 (Nat.le_refl _)).2 (fun j hj => zm_T_r ht139 j hj) M135 h) (fun _ M145 => ?_)
    refine zm_aload_n 149 rfl dX2_law_148 rfl 0 rfl ?_
    refine zm_bipush 151 rfl dX2_law_149 zb_59 ?_
    refine zm_cV1v 154 rfl dX2_law_151 ml_X2_112 rfl (zm_L (sv := sv) rfl) rfl (Nat.le_of_ble_eq_true rfl) ⟨Nat.le_of_ble_eq_true rfl, Nat.le_of_ble_eq_true rfl⟩ rfl rfl ⟨Nat.le_refl _, Nat.le_refl _⟩ rfl (fun _ _ h => k_X2_expect E sv 59 M145 h) (fun _ M151 => ?_)
    refine zm_iload_n 155 rfl dX2_law_154 rfl 1 rfl ?_
    exact zm_iret dX2_law_155 rfl (Nat.le_refl _) (Nat.le_refl _) rfl
  have hx133_20 : ∀ (N133 : zm_Mem), zm_V X Y_X2_law E (zm_Q X E Y_X2_law.2.2.2.1.cells Y_X2_law.2.2.2.1.slots (zm_w sv) zm_ei) 0 0 false (zm_w sv) 133 [(0, .ref (E.2.1 + 8)), (1, .int x7)] [] N133 (f_X2_law_b133 x7 N133) some := by
    intro N133
    exact zm_loc [0, 1] rfl (hb133 N133)
  refine zm_loc [2, 1, 0] rfl (zm_lpp (σ := (Int32 × zm_Mem)) (ε := zm_Mem) (step := fun s => f_X2_law_l20 s.1 s.2) (fun s => [(0, .ref (E.2.1 + 8)), (1, .int x7), (2, .int s.1)]) (fun s => s.2) (fun D20 f20 hf20a hf20b hD20 s => ?_) (0, M15))
  obtain ⟨l20_2, L20⟩ := s
  show zm_V X Y_X2_law E (zm_Q X E Y_X2_law.2.2.2.1.cells Y_X2_law.2.2.2.1.slots (zm_w sv) zm_ei) 0 0 false (zm_w sv) 20 [(0, .ref (E.2.1 + 8)), (1, .int x7), (2, .int l20_2)] [] L20 (f_X2_law_l20 l20_2 L20) f20
  unfold f_X2_law_l20
  refine zm_iload_n 21 rfl dX2_law_20 rfl 2 rfl ?_
  refine zm_iconst 22 rfl dX2_law_21 zi_4 ?_
  refine zm_icmp_gt 133 25 (by decide) rfl dX2_law_22 ?_ ?_
  · exact zm_loc [0, 1] rfl (zm_go (hf20b _) (zm_unb (hx133_20 L20)))
  · refine zm_aload_n 26 rfl dX2_law_25 rfl 0 rfl ?_
    refine zm_getI 29 rfl dX2_law_26 fl_X2_38 rfl (zm_L (sv := sv) rfl) ?_
    refine zm_if_ne 133 32 (by decide) rfl dX2_law_29 ?_ ?_
    · refine zm_aload_n 33 rfl dX2_law_32 rfl 0 rfl ?_
      refine zm_cV0ir 36 rfl dX2_law_33 ml_X2_47 rfl (zm_L (sv := sv) rfl) rfl (Nat.le_of_ble_eq_true rfl) ⟨Nat.le_of_ble_eq_true rfl, Nat.le_of_ble_eq_true rfl⟩ rfl rfl ⟨Nat.le_refl _, Nat.le_refl _⟩ rfl (fun _ h => k_X2_sort E sv L20 h) (fun r33 => ?_)
      refine zm_sipush 39 rfl dX2_law_36 zs_264 ?_
      refine zm_icmp_ne 133 42 (by decide) rfl dX2_law_39 ?_ ?_
      · refine zm_iload_n 43 rfl dX2_law_42 rfl 2 rfl ?_
        refine zm_iconst 44 rfl dX2_law_43 zi_4 ?_
        have hb52_20 : ∀ (M52 : zm_Mem), zm_V X Y_X2_law E (zm_Q X E Y_X2_law.2.2.2.1.cells Y_X2_law.2.2.2.1.slots (zm_w sv) zm_ei) 0 0 false (zm_w sv) 52 [(0, .ref (E.2.1 + 8)), (1, .int x7), (2, .int l20_2)] [] M52 (f_X2_law_b52_20 l20_2 M52) f20 := by
          intro M52
          unfold f_X2_law_b52_20
          refine zm_aload_n 53 rfl dX2_law_52 rfl 0 rfl ?_
          refine zm_cV0v 56 rfl dX2_law_53 ml_X2_95 rfl (zm_L (sv := sv) rfl) rfl (Nat.le_of_ble_eq_true rfl) ⟨Nat.le_of_ble_eq_true rfl, Nat.le_of_ble_eq_true rfl⟩ rfl rfl ⟨Nat.le_refl _, Nat.le_refl _⟩ rfl (fun _ _ h => k_X2_take E sv M52 h) (fun _ M53 => ?_)
          refine zm_aload_n 57 rfl dX2_law_56 rfl 0 rfl ?_
          refine zm_iconst 58 rfl dX2_law_57 zi_0 ?_
          refine zm_cV1v 61 rfl dX2_law_58 ml_X2_146 rfl (zm_L (sv := sv) rfl) rfl (Nat.le_of_ble_eq_true rfl) ⟨Nat.le_of_ble_eq_true rfl, Nat.le_of_ble_eq_true rfl⟩ rfl rfl ⟨Nat.le_refl _, Nat.le_refl _⟩ rfl (fun _ _ h => k_X2_sum E sv 64 0 M53 h) (fun _ M58 => ?_)
          refine zm_aload_n 62 rfl dX2_law_61 rfl 0 rfl ?_
          refine zm_bipush 64 rfl dX2_law_62 zb_60 ?_
          refine zm_cV1v 67 rfl dX2_law_64 ml_X2_112 rfl (zm_L (sv := sv) rfl) rfl (Nat.le_of_ble_eq_true rfl) ⟨Nat.le_of_ble_eq_true rfl, Nat.le_of_ble_eq_true rfl⟩ rfl rfl ⟨Nat.le_refl _, Nat.le_refl _⟩ rfl (fun _ _ h => k_X2_expect E sv 60 M58 h) (fun _ M64 => ?_)
          refine zm_aload_n 68 rfl dX2_law_67 rfl 0 rfl ?_
          refine zm_iconst 69 rfl dX2_law_68 zi_0 ?_
          refine zm_cV1v 72 rfl dX2_law_69 ml_X2_146 rfl (zm_L (sv := sv) rfl) rfl (Nat.le_of_ble_eq_true rfl) ⟨Nat.le_of_ble_eq_true rfl, Nat.le_of_ble_eq_true rfl⟩ rfl rfl ⟨Nat.le_refl _, Nat.le_refl _⟩ rfl (fun _ _ h => k_X2_sum E sv 64 0 M64 h) (fun _ M69 => ?_)
          refine zm_aload_n 73 rfl dX2_law_72 rfl 0 rfl ?_
          refine zm_getT 76 rfl dX2_law_73 fl_X2_26 rfl (zm_L (sv := sv) rfl) (fun t73 _ ht73 => ?_)
          refine zm_getI 79 rfl dX2_law_76 fl_X2_143 (zm_T_o ht73) (zm_T_l0 (sv := sv) ht73) ?_
          refine zm_nmi (fun x79 _ => ?_)
          refine zm_istore_n (lv' := [(3, .int x79), (0, .ref (E.2.1 + 8)), (1, .int x7), (2, .int l20_2)]) 80 rfl dX2_law_79 rfl (by decide) rfl ?_
          refine zm_aload_n 81 rfl dX2_law_80 rfl 1 rfl ?_
          refine zm_getT 84 rfl dX2_law_81 fl_X2_26 rfl (zm_L (sv := sv) rfl) (fun t81 _ ht81 => ?_)
          refine zm_bipush 86 rfl dX2_law_84 zb_6 ?_
          refine zm_iconst 87 rfl dX2_law_86 zi_0 ?_
          refine zm_cV2v 90 rfl dX2_law_87 ml_X2_149 (zm_T_o ht81) (zm_T_l0 (sv := sv) ht81) rfl (Nat.le_of_ble_eq_true rfl) ⟨Nat.le_of_ble_eq_true rfl, Nat.le_of_ble_eq_true rfl⟩ rfl rfl ⟨Nat.le_refl _, Nat.le_refl _⟩ rfl (fun _ _ h => k_X8_put E (zm_w sv) t81 6 0 ht81 (zm_T_l (sv := sv) ht81 10 (Nat.le_refl _)).2 (fun j hj => zm_T_r ht81 j hj) M69 h) (fun _ M87 => ?_)
          refine zm_aload_n 91 rfl dX2_law_90 rfl 1 rfl ?_
          refine zm_sipush 94 rfl dX2_law_91 zs_265 ?_
          refine zm_cV1v 97 rfl dX2_law_94 ml_X2_112 rfl (zm_L (sv := sv) rfl) rfl (Nat.le_of_ble_eq_true rfl) ⟨Nat.le_of_ble_eq_true rfl, Nat.le_of_ble_eq_true rfl⟩ rfl rfl ⟨Nat.le_refl _, Nat.le_refl _⟩ rfl (fun _ _ h => k_X2_expect E sv 265 M87 h) (fun _ M94 => ?_)
          refine zm_aload_n 98 rfl dX2_law_97 rfl 1 rfl ?_
          refine zm_iconst 99 rfl dX2_law_98 zi_0 ?_
          refine zm_cV1v 102 rfl dX2_law_99 ml_X2_146 rfl (zm_L (sv := sv) rfl) rfl (Nat.le_of_ble_eq_true rfl) ⟨Nat.le_of_ble_eq_true rfl, Nat.le_of_ble_eq_true rfl⟩ rfl rfl ⟨Nat.le_refl _, Nat.le_refl _⟩ rfl (fun _ _ h => k_X2_sum E sv 64 0 M94 h) (fun _ M99 => ?_)
          refine zm_aload_n 103 rfl dX2_law_102 rfl 1 rfl ?_
          refine zm_getT 106 rfl dX2_law_103 fl_X2_26 rfl (zm_L (sv := sv) rfl) (fun t103 _ ht103 => ?_)
          refine zm_bipush 108 rfl dX2_law_106 zb_7 ?_
          refine zm_iconst 109 rfl dX2_law_108 zi_0 ?_
          refine zm_cV2v 112 rfl dX2_law_109 ml_X2_149 (zm_T_o ht103) (zm_T_l0 (sv := sv) ht103) rfl (Nat.le_of_ble_eq_true rfl) ⟨Nat.le_of_ble_eq_true rfl, Nat.le_of_ble_eq_true rfl⟩ rfl rfl ⟨Nat.le_refl _, Nat.le_refl _⟩ rfl (fun _ _ h => k_X8_put E (zm_w sv) t103 7 0 ht103 (zm_T_l (sv := sv) ht103 10 (Nat.le_refl _)).2 (fun j hj => zm_T_r ht103 j hj) M99 h) (fun _ M109 => ?_)
          refine zm_aload_n 113 rfl dX2_law_112 rfl 1 rfl ?_
          refine zm_sipush 116 rfl dX2_law_113 zs_266 ?_
          refine zm_cV1v 119 rfl dX2_law_116 ml_X2_112 rfl (zm_L (sv := sv) rfl) rfl (Nat.le_of_ble_eq_true rfl) ⟨Nat.le_of_ble_eq_true rfl, Nat.le_of_ble_eq_true rfl⟩ rfl rfl ⟨Nat.le_refl _, Nat.le_refl _⟩ rfl (fun _ _ h => k_X2_expect E sv 266 M109 h) (fun _ M116 => ?_)
          refine zm_aload_n 120 rfl dX2_law_119 rfl 1 rfl ?_
          refine zm_getT 123 rfl dX2_law_120 fl_X2_26 rfl (zm_L (sv := sv) rfl) (fun t120 _ ht120 => ?_)
          refine zm_iload_n 124 rfl dX2_law_123 rfl 0 rfl ?_
          refine zm_cV1v 127 rfl dX2_law_124 ml_X2_156 (zm_T_o ht120) (zm_T_l0 (sv := sv) ht120) rfl (Nat.le_of_ble_eq_true rfl) ⟨Nat.le_of_ble_eq_true rfl, Nat.le_of_ble_eq_true rfl⟩ rfl rfl ⟨Nat.le_refl _, Nat.le_refl _⟩ rfl (fun _ _ h => k_X8_putGoal E (zm_w sv) t120 x79 ht120 (zm_T_l (sv := sv) ht120 10 (Nat.le_refl _)).2 (fun j hj => zm_T_r ht120 j hj) M116 h) (fun _ M124 => ?_)
          refine zm_iinc (lv' := fun z => [(2, .int z), (3, .int x79), (0, .ref (E.2.1 + 8)), (1, .int x7)]) 130 rfl dX2_law_127 zi_1 3 rfl (by decide) (fun _ => rfl) (fun x127 _ => ?_)
          refine zm_goto 20 (by decide) dX2_law_130 ?_
          exact zm_loc [2, 3, 0] rfl (zm_go (hf20a _) (hD20 (x127, M124)))
        refine zm_icmp_ne 52 47 (by decide) rfl dX2_law_44 ?_ ?_
        · refine zm_aload_n 48 rfl dX2_law_47 rfl 0 rfl ?_
          refine zm_iconst 49 rfl dX2_law_48 zi_2 ?_
          refine zm_cV1v 52 rfl dX2_law_49 ml_X2_82 rfl (zm_L (sv := sv) rfl) rfl (Nat.le_of_ble_eq_true rfl) ⟨Nat.le_of_ble_eq_true rfl, Nat.le_of_ble_eq_true rfl⟩ rfl rfl ⟨Nat.le_refl _, Nat.le_refl _⟩ rfl (fun _ _ h => k_X2_fail E sv 2 L20 h) (fun _ M49 => ?_)
          exact zm_loc [0, 1, 2] rfl (hb52_20 M49)
        · exact zm_loc [0, 1, 2] rfl (hb52_20 L20)
      · exact zm_loc [0, 1] rfl (zm_go (hf20b _) (zm_unb (hx133_20 L20)))
    · exact zm_loc [0, 1] rfl (zm_go (hf20b _) (zm_unb (hx133_20 L20)))
abbrev Y_X2_onlyNumber : zm_Y := (cX2_onlyNumber, 4, RX2, { frames := 4, cells := 0, slots := 0, locals := 85 }, (some .int), false, "onlyNumber")
noncomputable def f_X2_onlyNumber (a1 : Int32) (a2 : Int32) (M : zm_Mem) : Option (Int32 × zm_Mem) :=
  zm_b2 (f_X2_take M) <| fun _ M1 => zm_b2 (f_X2_number a1 a2 M1) <| fun r7 M7 => zm_b2 (f_X2_expect 59 M7) <| fun _ M14 => some (r7, M14)
set_option maxRecDepth 20000 in
set_option maxHeartbeats 4000000 in
theorem k_X2_onlyNumber (E : zm_E) (sv : Nat) (a1 : Int32) (a2 : Int32) (M : zm_Mem) {r : Int32} {M' : zm_Mem} (h : f_X2_onlyNumber a1 a2 M = some (r, M')) : zm_Ct E (zm_w sv) (zm_w sv) yX2_onlyNumber Y_X2_onlyNumber [.ref (E.2.1 + 8), .int a1, .int a2] M (some (.int r)) M' := by
  refine zm_meth (emb := zm_ei) (d := f_X2_onlyNumber a1 a2 M) (by decide) rfl rfl (Nat.le_of_ble_eq_true rfl) h (fun X => ?_)
  show zm_V X Y_X2_onlyNumber E (zm_Q X E Y_X2_onlyNumber.2.2.2.1.cells Y_X2_onlyNumber.2.2.2.1.slots (zm_w sv) zm_ei) 0 0 false (zm_w sv) 0 [(0, .ref (E.2.1 + 8)), (1, .int a1), (2, .int a2)] [] M (f_X2_onlyNumber a1 a2 M) some
  unfold f_X2_onlyNumber
  refine zm_aload_n 1 rfl dX2_onlyNumber_0 rfl 0 rfl ?_
  refine zm_cV0v 4 rfl dX2_onlyNumber_1 ml_X2_95 rfl (zm_L (sv := sv) rfl) rfl (Nat.le_of_ble_eq_true rfl) ⟨Nat.le_of_ble_eq_true rfl, Nat.le_of_ble_eq_true rfl⟩ rfl rfl ⟨Nat.le_refl _, Nat.le_refl _⟩ rfl (fun _ _ h => k_X2_take E sv M h) (fun _ M1 => ?_)
  refine zm_aload_n 5 rfl dX2_onlyNumber_4 rfl 0 rfl ?_
  refine zm_iload_n 6 rfl dX2_onlyNumber_5 rfl 1 rfl ?_
  refine zm_iload_n 7 rfl dX2_onlyNumber_6 rfl 2 rfl ?_
  refine zm_cV2i 10 rfl dX2_onlyNumber_7 ml_X2_106 rfl (zm_L (sv := sv) rfl) rfl (Nat.le_of_ble_eq_true rfl) ⟨Nat.le_of_ble_eq_true rfl, Nat.le_of_ble_eq_true rfl⟩ rfl rfl ⟨Nat.le_refl _, Nat.le_refl _⟩ rfl (fun _ _ h => k_X2_number E sv a1 a2 M1 h) (fun r7 M7 => ?_)
  refine zm_istore_n (lv' := [(3, .int r7), (0, .ref (E.2.1 + 8)), (1, .int a1), (2, .int a2)]) 11 rfl dX2_onlyNumber_10 rfl (by decide) rfl ?_
  refine zm_aload_n 12 rfl dX2_onlyNumber_11 rfl 1 rfl ?_
  refine zm_bipush 14 rfl dX2_onlyNumber_12 zb_59 ?_
  refine zm_cV1v 17 rfl dX2_onlyNumber_14 ml_X2_112 rfl (zm_L (sv := sv) rfl) rfl (Nat.le_of_ble_eq_true rfl) ⟨Nat.le_of_ble_eq_true rfl, Nat.le_of_ble_eq_true rfl⟩ rfl rfl ⟨Nat.le_refl _, Nat.le_refl _⟩ rfl (fun _ _ h => k_X2_expect E sv 59 M7 h) (fun _ M14 => ?_)
  refine zm_iload_n 18 rfl dX2_onlyNumber_17 rfl 0 rfl ?_
  exact zm_iret dX2_onlyNumber_18 rfl (Nat.le_refl _) (Nat.le_refl _) rfl
abbrev Y_X2_compile : zm_Y := (cX2_compile, 3, RX2, { frames := 69, cells := 0, slots := 0, locals := 2668 }, (some .int), false, "compile")
noncomputable def f_X2_compile_b256 (M256 : zm_Mem) : Option (Int32 × zm_Mem) :=
 some (M256.1 8 5, M256)
noncomputable def f_X2_compile_b215 (M215 : zm_Mem) : Option (Int32 × zm_Mem) :=
 if (M215.1 8 5) = 0 then (zm_v (zm_sI M215 8 5 (M215.1 8 7)) <| fun M227 => zm_v (zm_sI M227 8 6 (M227.1 8 8)) <| fun M235 => f_X2_compile_b256 M235) else (zm_b1 (f_X7_placeAt (M215.1 8 4) M215) <| fun r250 => zm_v (zm_sI M215 8 6 r250) <| fun M253 => f_X2_compile_b256 M253)
noncomputable def f_X2_compile_b209_34 (l34_2 : Int32) (M209 : zm_Mem) : Option ((Int32 × zm_Mem) ⊕ zm_Mem) :=
 zm_v (l34_2 + 1) <| fun x209 => some (.inl (x209, M209))
noncomputable def f_X2_compile_l34 (l34_2 : Int32) (L34 : zm_Mem) : Option ((Int32 × zm_Mem) ⊕ zm_Mem) :=
 if (400 : Int32) < l34_2 then (some (.inr L34)) else (if (L34.1 8 5) = 0 then (zm_b1 (f_X2_sort L34) <| fun r49 => if r49 = 0 then (some (.inr L34)) else (zm_b1 (f_X2_sort L34) <| fun r56 => if r56 = 256 then (zm_b2 (f_X2_tellHouse L34) <| fun _ M105 => f_X2_compile_b209_34 l34_2 M105) else if r56 = 257 then (zm_b2 (f_X2_tellWork L34) <| fun _ M112 => f_X2_compile_b209_34 l34_2 M112) else if r56 = 258 then (zm_b2 (f_X2_tellTerm L34) <| fun _ M119 => f_X2_compile_b209_34 l34_2 M119) else if r56 = 259 then (zm_v (L34.2.2 8 3) <| fun t126 => zm_ck (zm_isT t126) <| zm_b2 (f_X2_law L34) <| fun r130 M130 => zm_v (zm_sI M130 t126 14 r130) <| fun M133 => f_X2_compile_b209_34 l34_2 M133) else if r56 = 260 then (zm_v (L34.2.2 8 3) <| fun t140 => zm_ck (zm_isT t140) <| zm_b2 (f_X2_law L34) <| fun r144 M144 => zm_v (zm_sI M144 t140 15 r144) <| fun M147 => f_X2_compile_b209_34 l34_2 M147) else if r56 = 261 then (zm_v (L34.2.2 8 3) <| fun t154 => zm_ck (zm_isT t154) <| zm_b2 (f_X2_onlyNumber 0 100 L34) <| fun r161 M161 => zm_v (zm_sI M161 t154 16 r161) <| fun M164 => f_X2_compile_b209_34 l34_2 M164) else if r56 = 262 then (zm_v (L34.2.2 8 3) <| fun t171 => zm_ck (zm_isT t171) <| zm_b2 (f_X2_onlyNumber 1 3 L34) <| fun r177 M177 => zm_v (zm_sI M177 t171 17 r177) <| fun M180 => f_X2_compile_b209_34 l34_2 M180) else if r56 = 263 then (zm_v (L34.2.2 8 3) <| fun t187 => zm_ck (zm_isT t187) <| zm_b2 (f_X2_onlyNumber 0 9999 L34) <| fun r195 M195 => zm_v (zm_sI M195 t187 18 r195) <| fun M198 => f_X2_compile_b209_34 l34_2 M198) else (zm_b2 (f_X2_fail 1 L34) <| fun _ M206 => f_X2_compile_b209_34 l34_2 M206))) else (some (.inr L34)))
noncomputable def f_X2_compile (a1 : Nat) (M : zm_Mem) : Option (Int32 × zm_Mem) :=
  zm_v (zm_sP M 8 3 a1) <| fun M2 => zm_v (M2.2.2 8 3) <| fun t6 => zm_ck (zm_isT t6) <| zm_b2 (f_X8_clear t6 M2) <| fun _ M9 => zm_v (zm_sI M9 8 4 0) <| fun M14 => zm_v (zm_sI M14 8 5 0) <| fun M19 => zm_v (zm_sI M19 8 7 0) <| fun M24 => zm_v (zm_sI M24 8 8 (-1)) <| fun M29 => (zm_lp (fun s => f_X2_compile_l34 s.1 s.2) (0, M29)).bind (fun e215 => f_X2_compile_b215 e215)
set_option maxRecDepth 20000 in
set_option maxHeartbeats 4000000 in
theorem k_X2_compile (E : zm_E) (sv : Nat) (a1 : Nat) (ha1 : zm_isT a1 = true) (M : zm_Mem) {r : Int32} {M' : zm_Mem} (h : f_X2_compile a1 M = some (r, M')) : zm_Ct E (zm_w sv) (zm_w sv) yX2_compile Y_X2_compile [.ref (E.2.1 + 8), .ref (E.2.1 + a1)] M (some (.int r)) M' := by
  refine zm_meth (emb := zm_ei) (d := f_X2_compile a1 M) (by decide) rfl rfl (Nat.le_of_ble_eq_true rfl) h (fun X => ?_)
  show zm_V X Y_X2_compile E (zm_Q X E Y_X2_compile.2.2.2.1.cells Y_X2_compile.2.2.2.1.slots (zm_w sv) zm_ei) 0 0 false (zm_w sv) 0 [(0, .ref (E.2.1 + 8)), (1, .ref (E.2.1 + a1))] [] M (f_X2_compile a1 M) some
  unfold f_X2_compile
  refine zm_aload_n 1 rfl dX2_compile_0 rfl 0 rfl ?_
  refine zm_aload_n 2 rfl dX2_compile_1 rfl 1 rfl ?_
  refine zm_putP 5 rfl dX2_compile_2 fp_X2_26 rfl (zm_L (sv := sv) rfl) (zm_T_ne ha1) (fun M2 _ => ?_)
  refine zm_aload_n 6 rfl dX2_compile_5 rfl 0 rfl ?_
  refine zm_getT 9 rfl dX2_compile_6 fl_X2_26 rfl (zm_L (sv := sv) rfl) (fun t6 _ ht6 => ?_)
  refine zm_cV0v 12 rfl dX2_compile_9 ml_X2_30 (zm_T_o ht6) (zm_T_l0 (sv := sv) ht6) rfl (Nat.le_of_ble_eq_true rfl) ⟨Nat.le_of_ble_eq_true rfl, Nat.le_of_ble_eq_true rfl⟩ rfl rfl ⟨Nat.le_refl _, Nat.le_refl _⟩ rfl (fun _ _ h => k_X8_clear E (zm_w sv) t6 ht6 (zm_T_l (sv := sv) ht6 10 (Nat.le_refl _)).2 (fun j hj => zm_T_r ht6 j hj) M2 h) (fun _ M9 => ?_)
  refine zm_aload_n 13 rfl dX2_compile_12 rfl 0 rfl ?_
  refine zm_iconst 14 rfl dX2_compile_13 zi_0 ?_
  refine zm_putI 17 rfl dX2_compile_14 fp_X2_35 rfl (zm_L (sv := sv) rfl) rfl rfl (fun M14 _ => ?_)
  refine zm_aload_n 18 rfl dX2_compile_17 rfl 0 rfl ?_
  refine zm_iconst 19 rfl dX2_compile_18 zi_0 ?_
  refine zm_putI 22 rfl dX2_compile_19 fp_X2_38 rfl (zm_L (sv := sv) rfl) rfl rfl (fun M19 _ => ?_)
  refine zm_aload_n 23 rfl dX2_compile_22 rfl 0 rfl ?_
  refine zm_iconst 24 rfl dX2_compile_23 zi_0 ?_
  refine zm_putI 27 rfl dX2_compile_24 fp_X2_41 rfl (zm_L (sv := sv) rfl) rfl rfl (fun M24 _ => ?_)
  refine zm_aload_n 28 rfl dX2_compile_27 rfl 0 rfl ?_
  refine zm_iconst 29 rfl dX2_compile_28 zi_m1 ?_
  refine zm_putI 32 rfl dX2_compile_29 fp_X2_44 rfl (zm_L (sv := sv) rfl) rfl rfl (fun M29 _ => ?_)
  refine zm_iconst 33 rfl dX2_compile_32 zi_0 ?_
  refine zm_istore_n (lv' := [(2, .int 0), (0, .ref (E.2.1 + 8)), (1, .ref (E.2.1 + a1))]) 34 rfl dX2_compile_33 rfl (by decide) rfl ?_
  have hb215 : ∀ (M215 : zm_Mem), zm_V X Y_X2_compile E (zm_Q X E Y_X2_compile.2.2.2.1.cells Y_X2_compile.2.2.2.1.slots (zm_w sv) zm_ei) 0 0 false (zm_w sv) 215 [(0, .ref (E.2.1 + 8))] [] M215 (f_X2_compile_b215 M215) some := by
    intro M215
    unfold f_X2_compile_b215
    refine zm_aload_n 216 rfl dX2_compile_215 rfl 0 rfl ?_
    refine zm_getI 219 rfl dX2_compile_216 fl_X2_38 rfl (zm_L (sv := sv) rfl) ?_
    have hb256 : ∀ (M256 : zm_Mem), zm_V X Y_X2_compile E (zm_Q X E Y_X2_compile.2.2.2.1.cells Y_X2_compile.2.2.2.1.slots (zm_w sv) zm_ei) 0 0 false (zm_w sv) 256 [(0, .ref (E.2.1 + 8))] [] M256 (f_X2_compile_b256 M256) some := by
      intro M256
      unfold f_X2_compile_b256
      refine zm_aload_n 257 rfl dX2_compile_256 rfl 0 rfl ?_
      refine zm_getI 260 rfl dX2_compile_257 fl_X2_38 rfl (zm_L (sv := sv) rfl) ?_
      exact zm_iret dX2_compile_260 rfl (Nat.le_refl _) (Nat.le_refl _) rfl
    refine zm_if_ne 241 222 (by decide) rfl dX2_compile_219 ?_ ?_
    · refine zm_aload_n 223 rfl dX2_compile_222 rfl 0 rfl ?_
      refine zm_aload_n 224 rfl dX2_compile_223 rfl 0 rfl ?_
      refine zm_getI 227 rfl dX2_compile_224 fl_X2_41 rfl (zm_L (sv := sv) rfl) ?_
      refine zm_putI 230 rfl dX2_compile_227 fp_X2_38 rfl (zm_L (sv := sv) rfl) rfl rfl (fun M227 _ => ?_)
      refine zm_aload_n 231 rfl dX2_compile_230 rfl 0 rfl ?_
      refine zm_aload_n 232 rfl dX2_compile_231 rfl 0 rfl ?_
      refine zm_getI 235 rfl dX2_compile_232 fl_X2_44 rfl (zm_L (sv := sv) rfl) ?_
      refine zm_putI 238 rfl dX2_compile_235 fp_X2_22 rfl (zm_L (sv := sv) rfl) rfl rfl (fun M235 _ => ?_)
      refine zm_goto 256 (by decide) dX2_compile_238 ?_
      exact zm_loc [0] rfl (hb256 M235)
    · refine zm_aload_n 242 rfl dX2_compile_241 rfl 0 rfl ?_
      refine zm_aload_n 243 rfl dX2_compile_242 rfl 0 rfl ?_
      refine zm_getR (a := 3) 246 rfl dX2_compile_243 fl_X2_18 rfl (zm_L (sv := sv) rfl) rfl (by decide) ?_
      refine zm_aload_n 247 rfl dX2_compile_246 rfl 0 rfl ?_
      refine zm_getI 250 rfl dX2_compile_247 fl_X2_35 rfl (zm_L (sv := sv) rfl) ?_
      refine zm_cV1ir 253 rfl dX2_compile_250 ml_X2_86 rfl (zm_L (sv := sv) rfl) rfl (Nat.le_of_ble_eq_true rfl) ⟨Nat.le_of_ble_eq_true rfl, Nat.le_of_ble_eq_true rfl⟩ rfl rfl ⟨Nat.le_refl _, Nat.le_refl _⟩ rfl (fun _ h => k_X7_placeAt E sv (M215.1 8 4) M215 h) (fun r250 => ?_)
      refine zm_putI 256 rfl dX2_compile_253 fp_X2_22 rfl (zm_L (sv := sv) rfl) rfl rfl (fun M253 _ => ?_)
      exact zm_loc [0] rfl (hb256 M253)
  have hx215_34 : ∀ (N215 : zm_Mem), zm_V X Y_X2_compile E (zm_Q X E Y_X2_compile.2.2.2.1.cells Y_X2_compile.2.2.2.1.slots (zm_w sv) zm_ei) 0 0 false (zm_w sv) 215 [(0, .ref (E.2.1 + 8))] [] N215 (f_X2_compile_b215 N215) some := by
    intro N215
    exact zm_loc [0] rfl (hb215 N215)
  refine zm_loc [1, 0] rfl (zm_lpp (σ := (Int32 × zm_Mem)) (ε := zm_Mem) (step := fun s => f_X2_compile_l34 s.1 s.2) (fun s => [(0, .ref (E.2.1 + 8)), (2, .int s.1)]) (fun s => s.2) (fun D34 f34 hf34a hf34b hD34 s => ?_) (0, M29))
  obtain ⟨l34_2, L34⟩ := s
  show zm_V X Y_X2_compile E (zm_Q X E Y_X2_compile.2.2.2.1.cells Y_X2_compile.2.2.2.1.slots (zm_w sv) zm_ei) 0 0 false (zm_w sv) 34 [(0, .ref (E.2.1 + 8)), (2, .int l34_2)] [] L34 (f_X2_compile_l34 l34_2 L34) f34
  unfold f_X2_compile_l34
  refine zm_iload_n 35 rfl dX2_compile_34 rfl 1 rfl ?_
  refine zm_sipush 38 rfl dX2_compile_35 zs_400 ?_
  refine zm_icmp_gt 215 41 (by decide) rfl dX2_compile_38 ?_ ?_
  · exact zm_loc [0] rfl (zm_go (hf34b _) (zm_unb (hx215_34 L34)))
  · refine zm_aload_n 42 rfl dX2_compile_41 rfl 0 rfl ?_
    refine zm_getI 45 rfl dX2_compile_42 fl_X2_38 rfl (zm_L (sv := sv) rfl) ?_
    refine zm_if_ne 215 48 (by decide) rfl dX2_compile_45 ?_ ?_
    · refine zm_aload_n 49 rfl dX2_compile_48 rfl 0 rfl ?_
      refine zm_cV0ir 52 rfl dX2_compile_49 ml_X2_47 rfl (zm_L (sv := sv) rfl) rfl (Nat.le_of_ble_eq_true rfl) ⟨Nat.le_of_ble_eq_true rfl, Nat.le_of_ble_eq_true rfl⟩ rfl rfl ⟨Nat.le_refl _, Nat.le_refl _⟩ rfl (fun _ h => k_X2_sort E sv L34 h) (fun r49 => ?_)
      refine zm_if_eq 215 55 (by decide) rfl dX2_compile_52 ?_ ?_
      · exact zm_loc [0] rfl (zm_go (hf34b _) (zm_unb (hx215_34 L34)))
      · refine zm_aload_n 56 rfl dX2_compile_55 rfl 0 rfl ?_
        refine zm_cV0ir 59 rfl dX2_compile_56 ml_X2_47 rfl (zm_L (sv := sv) rfl) rfl (Nat.le_of_ble_eq_true rfl) ⟨Nat.le_of_ble_eq_true rfl, Nat.le_of_ble_eq_true rfl⟩ rfl rfl ⟨Nat.le_refl _, Nat.le_refl _⟩ rfl (fun _ h => k_X2_sort E sv L34 h) (fun r56 => ?_)
        have hb209_34 : ∀ (M209 : zm_Mem), zm_V X Y_X2_compile E (zm_Q X E Y_X2_compile.2.2.2.1.cells Y_X2_compile.2.2.2.1.slots (zm_w sv) zm_ei) 0 0 false (zm_w sv) 209 [(0, .ref (E.2.1 + 8)), (2, .int l34_2)] [] M209 (f_X2_compile_b209_34 l34_2 M209) f34 := by
          intro M209
          unfold f_X2_compile_b209_34
          refine zm_iinc (lv' := fun z => [(2, .int z), (0, .ref (E.2.1 + 8))]) 212 rfl dX2_compile_209 zi_1 1 rfl (by decide) (fun _ => rfl) (fun x209 _ => ?_)
          refine zm_goto 34 (by decide) dX2_compile_212 ?_
          exact zm_loc [1, 0] rfl (zm_go (hf34a _) (hD34 (x209, M209)))
        refine zm_case (fun hc => ?_) (fun hc0_59 => ?_)
        · refine zm_tsIn (off := 45) 104 hc dX2_compile_59 (by decide) (by decide) (by decide) (by decide) ?_
          refine zm_aload_n 105 rfl dX2_compile_104 rfl 0 rfl ?_
          refine zm_cV0v 108 rfl dX2_compile_105 ml_X2_51 rfl (zm_L (sv := sv) rfl) rfl (Nat.le_of_ble_eq_true rfl) ⟨Nat.le_of_ble_eq_true rfl, Nat.le_of_ble_eq_true rfl⟩ rfl rfl ⟨Nat.le_refl _, Nat.le_refl _⟩ rfl (fun _ _ h => k_X2_tellHouse E sv L34 h) (fun _ M105 => ?_)
          refine zm_goto 209 (by decide) dX2_compile_108 ?_
          exact zm_loc [0, 1] rfl (hb209_34 M105)
        refine zm_case (fun hc => ?_) (fun hc1_59 => ?_)
        · refine zm_tsIn (off := 52) 111 hc dX2_compile_59 (by decide) (by decide) (by decide) (by decide) ?_
          refine zm_aload_n 112 rfl dX2_compile_111 rfl 0 rfl ?_
          refine zm_cV0v 115 rfl dX2_compile_112 ml_X2_54 rfl (zm_L (sv := sv) rfl) rfl (Nat.le_of_ble_eq_true rfl) ⟨Nat.le_of_ble_eq_true rfl, Nat.le_of_ble_eq_true rfl⟩ rfl rfl ⟨Nat.le_refl _, Nat.le_refl _⟩ rfl (fun _ _ h => k_X2_tellWork E sv L34 h) (fun _ M112 => ?_)
          refine zm_goto 209 (by decide) dX2_compile_115 ?_
          exact zm_loc [0, 1] rfl (hb209_34 M112)
        refine zm_case (fun hc => ?_) (fun hc2_59 => ?_)
        · refine zm_tsIn (off := 59) 118 hc dX2_compile_59 (by decide) (by decide) (by decide) (by decide) ?_
          refine zm_aload_n 119 rfl dX2_compile_118 rfl 0 rfl ?_
          refine zm_cV0v 122 rfl dX2_compile_119 ml_X2_57 rfl (zm_L (sv := sv) rfl) rfl (Nat.le_of_ble_eq_true rfl) ⟨Nat.le_of_ble_eq_true rfl, Nat.le_of_ble_eq_true rfl⟩ rfl rfl ⟨Nat.le_refl _, Nat.le_refl _⟩ rfl (fun _ _ h => k_X2_tellTerm E sv L34 h) (fun _ M119 => ?_)
          refine zm_goto 209 (by decide) dX2_compile_122 ?_
          exact zm_loc [0, 1] rfl (hb209_34 M119)
        refine zm_case (fun hc => ?_) (fun hc3_59 => ?_)
        · refine zm_tsIn (off := 66) 125 hc dX2_compile_59 (by decide) (by decide) (by decide) (by decide) ?_
          refine zm_aload_n 126 rfl dX2_compile_125 rfl 0 rfl ?_
          refine zm_getT 129 rfl dX2_compile_126 fl_X2_26 rfl (zm_L (sv := sv) rfl) (fun t126 _ ht126 => ?_)
          refine zm_aload_n 130 rfl dX2_compile_129 rfl 0 rfl ?_
          refine zm_cV0i 133 rfl dX2_compile_130 ml_X2_60 rfl (zm_L (sv := sv) rfl) rfl (Nat.le_of_ble_eq_true rfl) ⟨Nat.le_of_ble_eq_true rfl, Nat.le_of_ble_eq_true rfl⟩ rfl rfl ⟨Nat.le_refl _, Nat.le_refl _⟩ rfl (fun _ _ h => k_X2_law E sv L34 h) (fun r130 M130 => ?_)
          refine zm_putI 136 rfl dX2_compile_133 fp_X2_63 (zm_T_o ht126) (zm_T_l0 (sv := sv) ht126) rfl rfl (fun M133 _ => ?_)
          refine zm_goto 209 (by decide) dX2_compile_136 ?_
          exact zm_loc [0, 1] rfl (hb209_34 M133)
        refine zm_case (fun hc => ?_) (fun hc4_59 => ?_)
        · refine zm_tsIn (off := 80) 139 hc dX2_compile_59 (by decide) (by decide) (by decide) (by decide) ?_
          refine zm_aload_n 140 rfl dX2_compile_139 rfl 0 rfl ?_
          refine zm_getT 143 rfl dX2_compile_140 fl_X2_26 rfl (zm_L (sv := sv) rfl) (fun t140 _ ht140 => ?_)
          refine zm_aload_n 144 rfl dX2_compile_143 rfl 0 rfl ?_
          refine zm_cV0i 147 rfl dX2_compile_144 ml_X2_60 rfl (zm_L (sv := sv) rfl) rfl (Nat.le_of_ble_eq_true rfl) ⟨Nat.le_of_ble_eq_true rfl, Nat.le_of_ble_eq_true rfl⟩ rfl rfl ⟨Nat.le_refl _, Nat.le_refl _⟩ rfl (fun _ _ h => k_X2_law E sv L34 h) (fun r144 M144 => ?_)
          refine zm_putI 150 rfl dX2_compile_147 fp_X2_66 (zm_T_o ht140) (zm_T_l0 (sv := sv) ht140) rfl rfl (fun M147 _ => ?_)
          refine zm_goto 209 (by decide) dX2_compile_150 ?_
          exact zm_loc [0, 1] rfl (hb209_34 M147)
        refine zm_case (fun hc => ?_) (fun hc5_59 => ?_)
        · refine zm_tsIn (off := 94) 153 hc dX2_compile_59 (by decide) (by decide) (by decide) (by decide) ?_
          refine zm_aload_n 154 rfl dX2_compile_153 rfl 0 rfl ?_
          refine zm_getT 157 rfl dX2_compile_154 fl_X2_26 rfl (zm_L (sv := sv) rfl) (fun t154 _ ht154 => ?_)
          refine zm_aload_n 158 rfl dX2_compile_157 rfl 0 rfl ?_
          refine zm_iconst 159 rfl dX2_compile_158 zi_0 ?_
          refine zm_bipush 161 rfl dX2_compile_159 zb_100 ?_
          refine zm_cV2i 164 rfl dX2_compile_161 ml_X2_69 rfl (zm_L (sv := sv) rfl) rfl (Nat.le_of_ble_eq_true rfl) ⟨Nat.le_of_ble_eq_true rfl, Nat.le_of_ble_eq_true rfl⟩ rfl rfl ⟨Nat.le_refl _, Nat.le_refl _⟩ rfl (fun _ _ h => k_X2_onlyNumber E sv 0 100 L34 h) (fun r161 M161 => ?_)
          refine zm_putI 167 rfl dX2_compile_164 fp_X2_73 (zm_T_o ht154) (zm_T_l0 (sv := sv) ht154) rfl rfl (fun M164 _ => ?_)
          refine zm_goto 209 (by decide) dX2_compile_167 ?_
          exact zm_loc [0, 1] rfl (hb209_34 M164)
        refine zm_case (fun hc => ?_) (fun hc6_59 => ?_)
        · refine zm_tsIn (off := 111) 170 hc dX2_compile_59 (by decide) (by decide) (by decide) (by decide) ?_
          refine zm_aload_n 171 rfl dX2_compile_170 rfl 0 rfl ?_
          refine zm_getT 174 rfl dX2_compile_171 fl_X2_26 rfl (zm_L (sv := sv) rfl) (fun t171 _ ht171 => ?_)
          refine zm_aload_n 175 rfl dX2_compile_174 rfl 0 rfl ?_
          refine zm_iconst 176 rfl dX2_compile_175 zi_1 ?_
          refine zm_iconst 177 rfl dX2_compile_176 zi_3 ?_
          refine zm_cV2i 180 rfl dX2_compile_177 ml_X2_69 rfl (zm_L (sv := sv) rfl) rfl (Nat.le_of_ble_eq_true rfl) ⟨Nat.le_of_ble_eq_true rfl, Nat.le_of_ble_eq_true rfl⟩ rfl rfl ⟨Nat.le_refl _, Nat.le_refl _⟩ rfl (fun _ _ h => k_X2_onlyNumber E sv 1 3 L34 h) (fun r177 M177 => ?_)
          refine zm_putI 183 rfl dX2_compile_180 fp_X2_76 (zm_T_o ht171) (zm_T_l0 (sv := sv) ht171) rfl rfl (fun M180 _ => ?_)
          refine zm_goto 209 (by decide) dX2_compile_183 ?_
          exact zm_loc [0, 1] rfl (hb209_34 M180)
        refine zm_case (fun hc => ?_) (fun hc7_59 => ?_)
        · refine zm_tsIn (off := 127) 186 hc dX2_compile_59 (by decide) (by decide) (by decide) (by decide) ?_
          refine zm_aload_n 187 rfl dX2_compile_186 rfl 0 rfl ?_
          refine zm_getT 190 rfl dX2_compile_187 fl_X2_26 rfl (zm_L (sv := sv) rfl) (fun t187 _ ht187 => ?_)
          refine zm_aload_n 191 rfl dX2_compile_190 rfl 0 rfl ?_
          refine zm_iconst 192 rfl dX2_compile_191 zi_0 ?_
          refine zm_sipush 195 rfl dX2_compile_192 zs_9999 ?_
          refine zm_cV2i 198 rfl dX2_compile_195 ml_X2_69 rfl (zm_L (sv := sv) rfl) rfl (Nat.le_of_ble_eq_true rfl) ⟨Nat.le_of_ble_eq_true rfl, Nat.le_of_ble_eq_true rfl⟩ rfl rfl ⟨Nat.le_refl _, Nat.le_refl _⟩ rfl (fun _ _ h => k_X2_onlyNumber E sv 0 9999 L34 h) (fun r195 M195 => ?_)
          refine zm_putI 201 rfl dX2_compile_198 fp_X2_79 (zm_T_o ht187) (zm_T_l0 (sv := sv) ht187) rfl rfl (fun M198 _ => ?_)
          refine zm_goto 209 (by decide) dX2_compile_201 ?_
          exact zm_loc [0, 1] rfl (hb209_34 M198)
        refine zm_tsOut 204 dX2_compile_59 (by have hn0 := zm_ne hc0_59 (w := 256) (by decide); have hn1 := zm_ne hc1_59 (w := 257) (by decide); have hn2 := zm_ne hc2_59 (w := 258) (by decide); have hn3 := zm_ne hc3_59 (w := 259) (by decide); have hn4 := zm_ne hc4_59 (w := 260) (by decide); have hn5 := zm_ne hc5_59 (w := 261) (by decide); have hn6 := zm_ne hc6_59 (w := 262) (by decide); have hn7 := zm_ne hc7_59 (w := 263) (by decide); omega) (by decide) ?_
        refine zm_aload_n 205 rfl dX2_compile_204 rfl 0 rfl ?_
        refine zm_iconst 206 rfl dX2_compile_205 zi_1 ?_
        refine zm_cV1v 209 rfl dX2_compile_206 ml_X2_82 rfl (zm_L (sv := sv) rfl) rfl (Nat.le_of_ble_eq_true rfl) ⟨Nat.le_of_ble_eq_true rfl, Nat.le_of_ble_eq_true rfl⟩ rfl rfl ⟨Nat.le_refl _, Nat.le_refl _⟩ rfl (fun _ _ h => k_X2_fail E sv 1 L34 h) (fun _ M206 => ?_)
        exact zm_loc [0, 1] rfl (hb209_34 M206)
    · exact zm_loc [0] rfl (zm_go (hf34b _) (zm_unb (hx215_34 L34)))
abbrev Y_X4_arrival : zm_Y := (cX4_arrival, 2, RX4, { frames := 0, cells := 0, slots := 0, locals := 0 }, (some .int), false, "arrival")
noncomputable def f_X4_arrival (a1 : Int32) (M : zm_Mem) : Option Int32 :=
  zm_ck (zm_in (10 + a1) 47) <| some (M.1 12 (10 + a1).toNatClampNeg)
set_option maxRecDepth 20000 in
set_option maxHeartbeats 4000000 in
theorem k_X4_arrival (E : zm_E) (sv : Nat) (a1 : Int32) (M : zm_Mem) {r : Int32} (h : f_X4_arrival a1 M = some r) : zm_Ct E (zm_w sv) (zm_w sv) yX4_arrival Y_X4_arrival [.ref (E.2.1 + 11), .int a1] M (some (.int r)) M := by
  refine zm_methr (emb := zm_ei) (d := f_X4_arrival a1 M) (by decide) rfl rfl (Nat.le_of_ble_eq_true rfl) h (fun X => ?_)
  show zm_V X Y_X4_arrival E (zm_Q X E Y_X4_arrival.2.2.2.1.cells Y_X4_arrival.2.2.2.1.slots (zm_w sv) zm_ei) 0 0 false (zm_w sv) 0 [(0, .ref (E.2.1 + 11)), (1, .int a1)] [] M (f_X4_arrival a1 M) (fun r => some (r, M))
  unfold f_X4_arrival
  refine zm_aload_n 1 rfl dX4_arrival_0 rfl 0 rfl ?_
  refine zm_getR (a := 12) 4 rfl dX4_arrival_1 fl_X4_11 rfl (zm_L (sv := sv) rfl) rfl (by decide) ?_
  refine zm_bipush 6 rfl dX4_arrival_4 zb_10 ?_
  refine zm_iload_n 7 rfl dX4_arrival_6 rfl 1 rfl ?_
  refine zm_iadd 8 rfl dX4_arrival_7 ?_
  refine zm_iald 9 rfl dX4_arrival_8 rfl (zm_L (sv := sv) rfl) ?_
  exact zm_iret dX4_arrival_9 rfl (Nat.le_refl _) (Nat.le_refl _) rfl
abbrev Y_X4_goal : zm_Y := (cX4_goal, 2, RX4, { frames := 0, cells := 0, slots := 0, locals := 0 }, (some .int), false, "goal")
noncomputable def f_X4_goal (a1 : Int32) (M : zm_Mem) : Option Int32 :=
  zm_ck (zm_in (4 + a1) 47) <| some (M.1 12 (4 + a1).toNatClampNeg)
set_option maxRecDepth 20000 in
set_option maxHeartbeats 4000000 in
theorem k_X4_goal (E : zm_E) (sv : Nat) (a1 : Int32) (M : zm_Mem) {r : Int32} (h : f_X4_goal a1 M = some r) : zm_Ct E (zm_w sv) (zm_w sv) yX4_goal Y_X4_goal [.ref (E.2.1 + 11), .int a1] M (some (.int r)) M := by
  refine zm_methr (emb := zm_ei) (d := f_X4_goal a1 M) (by decide) rfl rfl (Nat.le_of_ble_eq_true rfl) h (fun X => ?_)
  show zm_V X Y_X4_goal E (zm_Q X E Y_X4_goal.2.2.2.1.cells Y_X4_goal.2.2.2.1.slots (zm_w sv) zm_ei) 0 0 false (zm_w sv) 0 [(0, .ref (E.2.1 + 11)), (1, .int a1)] [] M (f_X4_goal a1 M) (fun r => some (r, M))
  unfold f_X4_goal
  refine zm_aload_n 1 rfl dX4_goal_0 rfl 0 rfl ?_
  refine zm_getR (a := 12) 4 rfl dX4_goal_1 fl_X4_11 rfl (zm_L (sv := sv) rfl) rfl (by decide) ?_
  refine zm_iconst 5 rfl dX4_goal_4 zi_4 ?_
  refine zm_iload_n 6 rfl dX4_goal_5 rfl 1 rfl ?_
  refine zm_iadd 7 rfl dX4_goal_6 ?_
  refine zm_iald 8 rfl dX4_goal_7 rfl (zm_L (sv := sv) rfl) ?_
  exact zm_iret dX4_goal_8 rfl (Nat.le_refl _) (Nat.le_refl _) rfl
abbrev Y_X3_look : zm_Y := (cX3_look, 5, RX3, { frames := 1, cells := 0, slots := 0, locals := 21 }, none, false, "look")
noncomputable def f_X3_look_b57_19 (l19_4 : Int32) (L19 : zm_Mem) (b57_s1 : Int32) (b57_s2 : Int32) : Option ((Int32 × zm_Mem) ⊕ zm_Mem) :=
 zm_ck (zm_in b57_s1 6) <| zm_v (zm_sI L19 51 b57_s1.toNatClampNeg b57_s2) <| fun M57 => zm_v (l19_4 + 1) <| fun x58 => some (.inl (x58, M57))
noncomputable def f_X3_look_l19 (a3 : Int32) (l19_4 : Int32) (L19 : zm_Mem) : Option ((Int32 × zm_Mem) ⊕ zm_Mem) :=
 zm_v (L19.2.2 47 2) <| fun t22 => zm_ck (zm_isT t22) <| if (L19.1 t22 12) ≤ l19_4 then (some (.inr L19)) else (zm_b1 (f_X4_arrival l19_4 L19) <| fun r40 => if a3 < r40 then (f_X3_look_b57_19 l19_4 L19 l19_4 (-1)) else (zm_b1 (f_X4_goal l19_4 L19) <| fun r50 => f_X3_look_b57_19 l19_4 L19 l19_4 r50))
noncomputable def f_X3_look (a1 : Nat) (a3 : Int32) (M : zm_Mem) : Option (Unit × zm_Mem) :=
  zm_v (zm_sP M 47 2 a1) <| fun M2 => zm_ck (zm_in 8 9) <| zm_v (zm_sI M2 49 (8 : Int32).toNatClampNeg a3) <| fun M15 => (zm_lp (fun s => f_X3_look_l19 a3 s.1 s.2) (0, M15)).bind (fun e64 => some ((), e64))
set_option maxRecDepth 20000 in
set_option maxHeartbeats 4000000 in
theorem k_X3_look (E : zm_E) (sv : Nat) (a1 : Nat) (a3 : Int32) (ha1 : zm_isT a1 = true) (M : zm_Mem) {r : Unit} {M' : zm_Mem} (h : f_X3_look a1 a3 M = some (r, M')) : zm_Ct E (zm_w sv) (zm_w sv) yX3_look Y_X3_look [.ref (E.2.1 + 47), .ref (E.2.1 + a1), .ref (E.2.1 + 11), .int a3] M none M' := by
  refine zm_meth (emb := zm_ev) (d := f_X3_look a1 a3 M) (by decide) rfl rfl (Nat.le_of_ble_eq_true rfl) h (fun X => ?_)
  show zm_V X Y_X3_look E (zm_Q X E Y_X3_look.2.2.2.1.cells Y_X3_look.2.2.2.1.slots (zm_w sv) zm_ev) 0 0 false (zm_w sv) 0 [(0, .ref (E.2.1 + 47)), (1, .ref (E.2.1 + a1)), (2, .ref (E.2.1 + 11)), (3, .int a3)] [] M (f_X3_look a1 a3 M) some
  unfold f_X3_look
  refine zm_aload_n 1 rfl dX3_look_0 rfl 0 rfl ?_
  refine zm_aload_n 2 rfl dX3_look_1 rfl 1 rfl ?_
  refine zm_putP 5 rfl dX3_look_2 fp_X3_22 rfl (zm_L (sv := sv) rfl) (zm_T_ne ha1) (fun M2 _ => ?_)
  refine zm_aload_n 6 rfl dX3_look_5 rfl 0 rfl ?_
  refine zm_getR (a := 48) 9 rfl dX3_look_6 fl_X3_12 rfl (zm_L (sv := sv) rfl) rfl (by decide) ?_
  refine zm_getR (a := 49) 12 rfl dX3_look_9 fl_X3_26 rfl (zm_L (sv := sv) rfl) rfl (by decide) ?_
  refine zm_bipush 14 rfl dX3_look_12 zb_8 ?_
  refine zm_iload_n 15 rfl dX3_look_14 rfl 3 rfl ?_
  refine zm_iast 16 rfl dX3_look_15 rfl (zm_L (sv := sv) rfl) (fun M15 _ => ?_)
  refine zm_iconst 17 rfl dX3_look_16 zi_0 ?_
  refine zm_istore (lv' := [(4, .int 0), (0, .ref (E.2.1 + 47)), (1, .ref (E.2.1 + a1)), (2, .ref (E.2.1 + 11)), (3, .int a3)]) 19 rfl dX3_look_17 (by decide) rfl ?_
  have hx64_19 : ∀ (N64 : zm_Mem), zm_V X Y_X3_look E (zm_Q X E Y_X3_look.2.2.2.1.cells Y_X3_look.2.2.2.1.slots (zm_w sv) zm_ev) 0 0 false (zm_w sv) 64 [] [] N64 (some ((), N64)) some := by
    intro N64
    exact zm_vret dX3_look_64 rfl (Nat.le_refl _) (Nat.le_refl _) rfl
  refine zm_loc [1, 3, 4, 0] rfl (zm_lpp (σ := (Int32 × zm_Mem)) (ε := zm_Mem) (step := fun s => f_X3_look_l19 a3 s.1 s.2) (fun s => [(0, .ref (E.2.1 + 47)), (2, .ref (E.2.1 + 11)), (3, .int a3), (4, .int s.1)]) (fun s => s.2) (fun D19 f19 hf19a hf19b hD19 s => ?_) (0, M15))
  obtain ⟨l19_4, L19⟩ := s
  show zm_V X Y_X3_look E (zm_Q X E Y_X3_look.2.2.2.1.cells Y_X3_look.2.2.2.1.slots (zm_w sv) zm_ev) 0 0 false (zm_w sv) 19 [(0, .ref (E.2.1 + 47)), (2, .ref (E.2.1 + 11)), (3, .int a3), (4, .int l19_4)] [] L19 (f_X3_look_l19 a3 l19_4 L19) f19
  unfold f_X3_look_l19
  refine zm_iload 21 rfl dX3_look_19 3 rfl ?_
  refine zm_aload_n 22 rfl dX3_look_21 rfl 0 rfl ?_
  refine zm_getT 25 rfl dX3_look_22 fl_X3_22 rfl (zm_L (sv := sv) rfl) (fun t22 _ ht22 => ?_)
  refine zm_getI 28 rfl dX3_look_25 fl_X3_29 (zm_T_o ht22) (zm_T_l0 (sv := sv) ht22) ?_
  refine zm_icmp_ge 64 31 (by decide) rfl dX3_look_28 ?_ ?_
  · exact zm_loc [] rfl (zm_go (hf19b _) (zm_unb (hx64_19 L19)))
  · refine zm_aload_n 32 rfl dX3_look_31 rfl 0 rfl ?_
    refine zm_getR (a := 51) 35 rfl dX3_look_32 fl_X3_18 rfl (zm_L (sv := sv) rfl) rfl (by decide) ?_
    refine zm_iload 37 rfl dX3_look_35 3 rfl ?_
    refine zm_aload_n 38 rfl dX3_look_37 rfl 1 rfl ?_
    refine zm_iload 40 rfl dX3_look_38 3 rfl ?_
    refine zm_cV1ir 43 rfl dX3_look_40 ml_X3_35 rfl (zm_L (sv := sv) rfl) rfl (Nat.le_of_ble_eq_true rfl) ⟨Nat.le_of_ble_eq_true rfl, Nat.le_of_ble_eq_true rfl⟩ rfl rfl ⟨Nat.le_refl _, Nat.le_refl _⟩ rfl (fun _ h => k_X4_arrival E sv l19_4 L19 h) (fun r40 => ?_)
    refine zm_iload_n 44 rfl dX3_look_43 rfl 2 rfl ?_
    have hb57_19 : ∀ (b57_s1 : Int32) (b57_s2 : Int32), zm_V X Y_X3_look E (zm_Q X E Y_X3_look.2.2.2.1.cells Y_X3_look.2.2.2.1.slots (zm_w sv) zm_ev) 0 0 false (zm_w sv) 57 [(0, .ref (E.2.1 + 47)), (2, .ref (E.2.1 + 11)), (3, .int a3), (4, .int l19_4)] [.int b57_s2, .int b57_s1, .ref (E.2.1 + 51)] L19 (f_X3_look_b57_19 l19_4 L19 b57_s1 b57_s2) f19 := by
      intro b57_s1 b57_s2
      unfold f_X3_look_b57_19
      refine zm_iast 58 rfl dX3_look_57 rfl (zm_L (sv := sv) rfl) (fun M57 _ => ?_)
      refine zm_iinc (lv' := fun z => [(4, .int z), (0, .ref (E.2.1 + 47)), (2, .ref (E.2.1 + 11)), (3, .int a3)]) 61 rfl dX3_look_58 zi_1 3 rfl (by decide) (fun _ => rfl) (fun x58 _ => ?_)
      refine zm_goto 19 (by decide) dX3_look_61 ?_
      exact zm_loc [1, 2, 3, 0] rfl (zm_go (hf19a _) (hD19 (x58, M57)))
    refine zm_icmp_gt 56 47 (by decide) rfl dX3_look_44 ?_ ?_
    · refine zm_iconst 57 rfl dX3_look_56 zi_m1 ?_
      exact zm_loc [0, 1, 2, 3] rfl (hb57_19 l19_4 (-1))
    · refine zm_aload_n 48 rfl dX3_look_47 rfl 1 rfl ?_
      refine zm_iload 50 rfl dX3_look_48 3 rfl ?_
      refine zm_cV1ir 53 rfl dX3_look_50 ml_X3_41 rfl (zm_L (sv := sv) rfl) rfl (Nat.le_of_ble_eq_true rfl) ⟨Nat.le_of_ble_eq_true rfl, Nat.le_of_ble_eq_true rfl⟩ rfl rfl ⟨Nat.le_refl _, Nat.le_refl _⟩ rfl (fun _ h => k_X4_goal E sv l19_4 L19 h) (fun r50 => ?_)
      refine zm_goto 57 (by decide) dX3_look_53 ?_
      exact zm_loc [0, 1, 2, 3] rfl (hb57_19 l19_4 r50)
abbrev Y_X3_spot : zm_Y := (cX3_spot, 2, RX3, { frames := 0, cells := 0, slots := 0, locals := 0 }, (some .int), false, "spot")
noncomputable def f_X3_spot (a1 : Int32) (M : zm_Mem) : Option Int32 :=
  zm_ck (zm_in a1 6) <| some (M.1 51 a1.toNatClampNeg)
set_option maxRecDepth 20000 in
set_option maxHeartbeats 4000000 in
theorem k_X3_spot (E : zm_E) (sv : Nat) (a1 : Int32) (M : zm_Mem) {r : Int32} (h : f_X3_spot a1 M = some r) : zm_Ct E (zm_w sv) (zm_w sv) yX3_spot Y_X3_spot [.ref (E.2.1 + 47), .int a1] M (some (.int r)) M := by
  refine zm_methr (emb := zm_ei) (d := f_X3_spot a1 M) (by decide) rfl rfl (Nat.le_of_ble_eq_true rfl) h (fun X => ?_)
  show zm_V X Y_X3_spot E (zm_Q X E Y_X3_spot.2.2.2.1.cells Y_X3_spot.2.2.2.1.slots (zm_w sv) zm_ei) 0 0 false (zm_w sv) 0 [(0, .ref (E.2.1 + 47)), (1, .int a1)] [] M (f_X3_spot a1 M) (fun r => some (r, M))
  unfold f_X3_spot
  refine zm_aload_n 1 rfl dX3_spot_0 rfl 0 rfl ?_
  refine zm_getR (a := 51) 4 rfl dX3_spot_1 fl_X3_18 rfl (zm_L (sv := sv) rfl) rfl (by decide) ?_
  refine zm_iload_n 5 rfl dX3_spot_4 rfl 1 rfl ?_
  refine zm_iald 6 rfl dX3_spot_5 rfl (zm_L (sv := sv) rfl) ?_
  exact zm_iret dX3_spot_6 rfl (Nat.le_refl _) (Nat.le_refl _) rfl
abbrev Y_X3_enterAmong : zm_Y := (cX3_enterAmong, 6, RX3, { frames := 0, cells := 0, slots := 0, locals := 0 }, none, false, "enterAmong")
noncomputable def f_X3_enterAmong_b94 (a2 : Int32) (M71 : zm_Mem) (b94_s1 : Int32) (b94_s2 : Int32) : Option (Unit × zm_Mem) :=
 zm_ck (zm_in b94_s1 9) <| zm_v (zm_sI M71 49 b94_s1.toNatClampNeg b94_s2) <| fun M94 => zm_ck (zm_in 7 9) <| zm_v (zm_sI M94 49 (7 : Int32).toNatClampNeg a2) <| fun M100 => some ((), M100)
noncomputable def f_X3_enterAmong (a1 : Int32) (a2 : Int32) (a3 : Int32) (a4 : Int32) (M : zm_Mem) : Option (Unit × zm_Mem) :=
  zm_v (M.2.2 47 2) <| fun t13 => zm_ck (zm_isT t13) <| zm_ck (zm_in a2 5) <| zm_ck (zm_in 0 9) <| zm_v (zm_sI M 49 (0 : Int32).toNatClampNeg (M.1 (t13 + 1) a2.toNatClampNeg)) <| fun M21 => zm_v (M21.2.2 47 2) <| fun t26 => zm_ck (zm_isT t26) <| zm_ck (zm_in a2 5) <| zm_ck (zm_in 1 9) <| zm_v (zm_sI M21 49 (1 : Int32).toNatClampNeg (M21.1 (t26 + 2) a2.toNatClampNeg)) <| fun M34 => zm_v (M34.2.2 47 2) <| fun t39 => zm_ck (zm_isT t39) <| zm_ck (zm_in a1 6) <| zm_ck (zm_in 2 9) <| zm_v (zm_sI M34 49 (2 : Int32).toNatClampNeg (M34.1 (t39 + 5) a1.toNatClampNeg)) <| fun M47 => zm_v (M47.2.2 47 2) <| fun t52 => zm_ck (zm_isT t52) <| zm_ck (zm_in a1 6) <| zm_ck (zm_in 3 9) <| zm_v (zm_sI M47 49 (3 : Int32).toNatClampNeg (M47.1 (t52 + 6) a1.toNatClampNeg)) <| fun M60 => zm_ck (zm_in 4 9) <| zm_v (zm_sI M60 49 (4 : Int32).toNatClampNeg a3) <| fun M65 => zm_ck (zm_in 5 9) <| zm_v (zm_sI M65 49 (5 : Int32).toNatClampNeg a4) <| fun M71 => zm_v (M71.2.2 47 2) <| fun t77 => zm_ck (zm_isT t77) <| zm_ck (zm_in a1 6) <| if (M71.1 (t77 + 3) a1.toNatClampNeg) = a2 then (f_X3_enterAmong_b94 a2 M71 6 1) else (f_X3_enterAmong_b94 a2 M71 6 0)
set_option maxRecDepth 20000 in
set_option maxHeartbeats 4000000 in
theorem k_X3_enterAmong (E : zm_E) (sv : Nat) (a1 : Int32) (a2 : Int32) (a3 : Int32) (a4 : Int32) (M : zm_Mem) {r : Unit} {M' : zm_Mem} (h : f_X3_enterAmong a1 a2 a3 a4 M = some (r, M')) : zm_Ct E (zm_w sv) (zm_w sv) yX3_enterAmong Y_X3_enterAmong [.ref (E.2.1 + 47), .int a1, .int a2, .int a3, .int a4] M none M' := by
  refine zm_meth (emb := zm_ev) (d := f_X3_enterAmong a1 a2 a3 a4 M) (by decide) rfl rfl (Nat.le_of_ble_eq_true rfl) h (fun X => ?_)
  show zm_V X Y_X3_enterAmong E (zm_Q X E Y_X3_enterAmong.2.2.2.1.cells Y_X3_enterAmong.2.2.2.1.slots (zm_w sv) zm_ev) 0 0 false (zm_w sv) 0 [(0, .ref (E.2.1 + 47)), (1, .int a1), (2, .int a2), (3, .int a3), (4, .int a4)] [] M (f_X3_enterAmong a1 a2 a3 a4 M) some
  unfold f_X3_enterAmong
  refine zm_aload_n 1 rfl dX3_enterAmong_0 rfl 0 rfl ?_
  refine zm_getR (a := 48) 4 rfl dX3_enterAmong_1 fl_X3_12 rfl (zm_L (sv := sv) rfl) rfl (by decide) ?_
  refine zm_getR (a := 49) 7 rfl dX3_enterAmong_4 fl_X3_26 rfl (zm_L (sv := sv) rfl) rfl (by decide) ?_
  refine zm_astore (lv' := [(5, .ref (E.2.1 + 49)), (0, .ref (E.2.1 + 47)), (1, .int a1), (2, .int a2), (3, .int a3), (4, .int a4)]) 9 rfl dX3_enterAmong_7 (by decide) rfl ?_
  refine zm_aload 11 rfl dX3_enterAmong_9 0 rfl ?_
  refine zm_iconst 12 rfl dX3_enterAmong_11 zi_0 ?_
  refine zm_aload_n 13 rfl dX3_enterAmong_12 rfl 1 rfl ?_
  refine zm_getT 16 rfl dX3_enterAmong_13 fl_X3_22 rfl (zm_L (sv := sv) rfl) (fun t13 _ ht13 => ?_)
  refine zm_getR (a := t13 + 1) 19 rfl dX3_enterAmong_16 fl_X3_51 (zm_T_o ht13) (zm_T_l0 (sv := sv) ht13) (zm_T_r ht13 0 (by decide)) (Nat.succ_ne_zero _) ?_
  refine zm_iload_n 20 rfl dX3_enterAmong_19 rfl 3 rfl ?_
  refine zm_iald 21 rfl dX3_enterAmong_20 (zm_T_a ht13 1 (by decide)) (zm_T_l (sv := sv) ht13 1 (by decide)) ?_
  refine zm_iast 22 rfl dX3_enterAmong_21 rfl (zm_L (sv := sv) rfl) (fun M21 _ => ?_)
  refine zm_aload 24 rfl dX3_enterAmong_22 0 rfl ?_
  refine zm_iconst 25 rfl dX3_enterAmong_24 zi_1 ?_
  refine zm_aload_n 26 rfl dX3_enterAmong_25 rfl 1 rfl ?_
  refine zm_getT 29 rfl dX3_enterAmong_26 fl_X3_22 rfl (zm_L (sv := sv) rfl) (fun t26 _ ht26 => ?_)
  refine zm_getR (a := t26 + 2) 32 rfl dX3_enterAmong_29 fl_X3_54 (zm_T_o ht26) (zm_T_l0 (sv := sv) ht26) (zm_T_r ht26 1 (by decide)) (Nat.succ_ne_zero _) ?_
  refine zm_iload_n 33 rfl dX3_enterAmong_32 rfl 3 rfl ?_
  refine zm_iald 34 rfl dX3_enterAmong_33 (zm_T_a ht26 2 (by decide)) (zm_T_l (sv := sv) ht26 2 (by decide)) ?_
  refine zm_iast 35 rfl dX3_enterAmong_34 rfl (zm_L (sv := sv) rfl) (fun M34 _ => ?_)
  refine zm_aload 37 rfl dX3_enterAmong_35 0 rfl ?_
  refine zm_iconst 38 rfl dX3_enterAmong_37 zi_2 ?_
  refine zm_aload_n 39 rfl dX3_enterAmong_38 rfl 1 rfl ?_
  refine zm_getT 42 rfl dX3_enterAmong_39 fl_X3_22 rfl (zm_L (sv := sv) rfl) (fun t39 _ ht39 => ?_)
  refine zm_getR (a := t39 + 5) 45 rfl dX3_enterAmong_42 fl_X3_44 (zm_T_o ht39) (zm_T_l0 (sv := sv) ht39) (zm_T_r ht39 4 (by decide)) (Nat.succ_ne_zero _) ?_
  refine zm_iload_n 46 rfl dX3_enterAmong_45 rfl 2 rfl ?_
  refine zm_iald 47 rfl dX3_enterAmong_46 (zm_T_a ht39 5 (by decide)) (zm_T_l (sv := sv) ht39 5 (by decide)) ?_
  refine zm_iast 48 rfl dX3_enterAmong_47 rfl (zm_L (sv := sv) rfl) (fun M47 _ => ?_)
  refine zm_aload 50 rfl dX3_enterAmong_48 0 rfl ?_
  refine zm_iconst 51 rfl dX3_enterAmong_50 zi_3 ?_
  refine zm_aload_n 52 rfl dX3_enterAmong_51 rfl 1 rfl ?_
  refine zm_getT 55 rfl dX3_enterAmong_52 fl_X3_22 rfl (zm_L (sv := sv) rfl) (fun t52 _ ht52 => ?_)
  refine zm_getR (a := t52 + 6) 58 rfl dX3_enterAmong_55 fl_X3_57 (zm_T_o ht52) (zm_T_l0 (sv := sv) ht52) (zm_T_r ht52 5 (by decide)) (Nat.succ_ne_zero _) ?_
  refine zm_iload_n 59 rfl dX3_enterAmong_58 rfl 2 rfl ?_
  refine zm_iald 60 rfl dX3_enterAmong_59 (zm_T_a ht52 6 (by decide)) (zm_T_l (sv := sv) ht52 6 (by decide)) ?_
  refine zm_iast 61 rfl dX3_enterAmong_60 rfl (zm_L (sv := sv) rfl) (fun M60 _ => ?_)
  refine zm_aload 63 rfl dX3_enterAmong_61 0 rfl ?_
  refine zm_iconst 64 rfl dX3_enterAmong_63 zi_4 ?_
  refine zm_iload_n 65 rfl dX3_enterAmong_64 rfl 4 rfl ?_
  refine zm_iast 66 rfl dX3_enterAmong_65 rfl (zm_L (sv := sv) rfl) (fun M65 _ => ?_)
  refine zm_aload 68 rfl dX3_enterAmong_66 0 rfl ?_
  refine zm_iconst 69 rfl dX3_enterAmong_68 zi_5 ?_
  refine zm_iload 71 rfl dX3_enterAmong_69 5 rfl ?_
  refine zm_iast 72 rfl dX3_enterAmong_71 rfl (zm_L (sv := sv) rfl) (fun M71 _ => ?_)
  refine zm_aload 74 rfl dX3_enterAmong_72 0 rfl ?_
  refine zm_bipush 76 rfl dX3_enterAmong_74 zb_6 ?_
  refine zm_aload_n 77 rfl dX3_enterAmong_76 rfl 1 rfl ?_
  refine zm_getT 80 rfl dX3_enterAmong_77 fl_X3_22 rfl (zm_L (sv := sv) rfl) (fun t77 _ ht77 => ?_)
  refine zm_getR (a := t77 + 3) 83 rfl dX3_enterAmong_80 fl_X3_60 (zm_T_o ht77) (zm_T_l0 (sv := sv) ht77) (zm_T_r ht77 2 (by decide)) (Nat.succ_ne_zero _) ?_
  refine zm_iload_n 84 rfl dX3_enterAmong_83 rfl 2 rfl ?_
  refine zm_iald 85 rfl dX3_enterAmong_84 (zm_T_a ht77 3 (by decide)) (zm_T_l (sv := sv) ht77 3 (by decide)) ?_
  refine zm_iload_n 86 rfl dX3_enterAmong_85 rfl 3 rfl ?_
  have hb94 : ∀ (b94_s1 : Int32) (b94_s2 : Int32), zm_V X Y_X3_enterAmong E (zm_Q X E Y_X3_enterAmong.2.2.2.1.cells Y_X3_enterAmong.2.2.2.1.slots (zm_w sv) zm_ev) 0 0 false (zm_w sv) 94 [(2, .int a2), (5, .ref (E.2.1 + 49))] [.int b94_s2, .int b94_s1, .ref (E.2.1 + 49)] M71 (f_X3_enterAmong_b94 a2 M71 b94_s1 b94_s2) some := by
    intro b94_s1 b94_s2
    unfold f_X3_enterAmong_b94
    refine zm_iast 95 rfl dX3_enterAmong_94 rfl (zm_L (sv := sv) rfl) (fun M94 _ => ?_)
    refine zm_aload 97 rfl dX3_enterAmong_95 1 rfl ?_
    refine zm_bipush 99 rfl dX3_enterAmong_97 zb_7 ?_
    refine zm_iload_n 100 rfl dX3_enterAmong_99 rfl 0 rfl ?_
    refine zm_iast 101 rfl dX3_enterAmong_100 rfl (zm_L (sv := sv) rfl) (fun M100 _ => ?_)
    exact zm_vret dX3_enterAmong_101 rfl (Nat.le_refl _) (Nat.le_refl _) rfl
  refine zm_icmp_ne 93 89 (by decide) rfl dX3_enterAmong_86 ?_ ?_
  · refine zm_iconst 90 rfl dX3_enterAmong_89 zi_1 ?_
    refine zm_goto 94 (by decide) dX3_enterAmong_90 ?_
    exact zm_loc [3, 0] rfl (hb94 6 1)
  · refine zm_iconst 94 rfl dX3_enterAmong_93 zi_0 ?_
    exact zm_loc [3, 0] rfl (hb94 6 0)
