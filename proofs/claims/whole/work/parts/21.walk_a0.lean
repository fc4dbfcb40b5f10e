abbrev Y_X0_size : zm_Y := (cX0_size, 1, RX0, { frames := 0, cells := 0, slots := 0, locals := 0 }, (some .int), false)
noncomputable def f_X0_size  (M : zm_Mem) : Option Int32 :=
  some (M.1 16 7)
set_option maxRecDepth 20000 in
set_option maxHeartbeats 4000000 in
theorem k_X0_size (E : zm_E) (sv : Nat)  (M : zm_Mem) {r : Int32} (h : f_X0_size M = some r) : zm_Ct E sv sv yX0_size Y_X0_size [.ref (E.2.1 + 16)] M (some (.int r)) M := by
  refine zm_methr (emb := zm_ei) (d := f_X0_size M) (by decide) rfl (Nat.le_of_ble_eq_true rfl) h (fun X => ?_)
  show zm_V X Y_X0_size E (zm_Q X E Y_X0_size.2.2.2.1.cells Y_X0_size.2.2.2.1.slots sv zm_ei) 0 0 sv 0 [(0, .ref (E.2.1 + 16))] [] M (f_X0_size M) (fun r => some (r, M))
  unfold f_X0_size
  refine zm_aload_n 1 rfl dX0_size_0 rfl 0 rfl ?_
  refine zm_getI 4 rfl dX0_size_1 fl_X0_33 rfl (zm_L rfl) ?_
  exact zm_iret dX0_size_4 rfl (Nat.le_refl _) (Nat.le_refl _) rfl
abbrev Y_X0_empty : zm_Y := (cX0_empty, 1, RX0, { frames := 0, cells := 0, slots := 0, locals := 0 }, none, false)
noncomputable def f_X0_empty  (M : zm_Mem) : Option (Unit × zm_Mem) :=
  zm_v (zm_sI M 16 7 0) <| fun M2 => some ((), M2)
set_option maxRecDepth 20000 in
set_option maxHeartbeats 4000000 in
theorem k_X0_empty (E : zm_E) (sv : Nat)  (M : zm_Mem) {r : Unit} {M' : zm_Mem} (h : f_X0_empty M = some (r, M')) : zm_Ct E sv sv yX0_empty Y_X0_empty [.ref (E.2.1 + 16)] M none M' := by
  refine zm_meth (emb := zm_ev) (d := f_X0_empty M) (by decide) rfl (Nat.le_of_ble_eq_true rfl) h (fun X => ?_)
  show zm_V X Y_X0_empty E (zm_Q X E Y_X0_empty.2.2.2.1.cells Y_X0_empty.2.2.2.1.slots sv zm_ev) 0 0 sv 0 [(0, .ref (E.2.1 + 16))] [] M (f_X0_empty M) some
  unfold f_X0_empty
  refine zm_aload_n 1 rfl dX0_empty_0 rfl 0 rfl ?_
  refine zm_iconst 2 rfl dX0_empty_1 zi_0 ?_
  refine zm_putI 5 rfl dX0_empty_2 fp_X0_33 rfl (zm_L rfl) rfl rfl (fun M2 _ => ?_)
  exact zm_vret dX0_empty_5 rfl (Nat.le_refl _) (Nat.le_refl _) rfl
abbrev Y_X0_addList : zm_Y := (cX0_addList, 4, RX0, { frames := 0, cells := 0, slots := 0, locals := 0 }, (some .int), false)
noncomputable def f_X0_addList (a1 : Int32) (a2 : Int32) (a3 : Int32) (M : zm_Mem) : Option (Int32 × zm_Mem) :=
  if (M.1 16 7) < (20 : Int32) then (zm_ck (zm_in (M.1 16 7) 20) <| zm_v (zm_sI M 17 (M.1 16 7).toNatClampNeg a1) <| fun M20 => zm_ck (zm_in (M20.1 16 7) 20) <| zm_v (zm_sI M20 18 (M20.1 16 7).toNatClampNeg a2) <| fun M30 => zm_ck (zm_in (M30.1 16 7) 20) <| zm_v (zm_sI M30 19 (M30.1 16 7).toNatClampNeg a3) <| fun M40 => zm_v (zm_sI M40 16 7 ((M40.1 16 7) + 1)) <| fun M48 => some ((M48.1 16 7) - 1, M48)) else (some ((-1), M))
set_option maxRecDepth 20000 in
set_option maxHeartbeats 4000000 in
theorem k_X0_addList (E : zm_E) (sv : Nat) (a1 : Int32) (a2 : Int32) (a3 : Int32) (M : zm_Mem) {r : Int32} {M' : zm_Mem} (h : f_X0_addList a1 a2 a3 M = some (r, M')) : zm_Ct E sv sv yX0_addList Y_X0_addList [.ref (E.2.1 + 16), .int a1, .int a2, .int a3] M (some (.int r)) M' := by
  refine zm_meth (emb := zm_ei) (d := f_X0_addList a1 a2 a3 M) (by decide) rfl (Nat.le_of_ble_eq_true rfl) h (fun X => ?_)
  show zm_V X Y_X0_addList E (zm_Q X E Y_X0_addList.2.2.2.1.cells Y_X0_addList.2.2.2.1.slots sv zm_ei) 0 0 sv 0 [(0, .ref (E.2.1 + 16)), (1, .int a1), (2, .int a2), (3, .int a3)] [] M (f_X0_addList a1 a2 a3 M) some
  unfold f_X0_addList
  refine zm_aload_n 1 rfl dX0_addList_0 rfl 0 rfl ?_
  refine zm_getI 4 rfl dX0_addList_1 fl_X0_33 rfl (zm_L rfl) ?_
  refine zm_bipush 6 rfl dX0_addList_4 zb_20 ?_
  refine zm_icmp_lt 11 9 (by decide) rfl dX0_addList_6 ?_ ?_
  · refine zm_aload_n 12 rfl dX0_addList_11 rfl 0 rfl ?_
    refine zm_getR 15 rfl dX0_addList_12 fl_X0_11 rfl (zm_L rfl) rfl ?_
    refine zm_aload_n 16 rfl dX0_addList_15 rfl 0 rfl ?_
    refine zm_getI 19 rfl dX0_addList_16 fl_X0_33 rfl (zm_L rfl) ?_
    refine zm_iload_n 20 rfl dX0_addList_19 rfl 1 rfl ?_
    refine zm_iast 21 rfl dX0_addList_20 rfl (zm_L rfl) (fun M20 _ => ?_)
    refine zm_aload_n 22 rfl dX0_addList_21 rfl 0 rfl ?_
    refine zm_getR 25 rfl dX0_addList_22 fl_X0_15 rfl (zm_L rfl) rfl ?_
    refine zm_aload_n 26 rfl dX0_addList_25 rfl 0 rfl ?_
    refine zm_getI 29 rfl dX0_addList_26 fl_X0_33 rfl (zm_L rfl) ?_
    refine zm_iload_n 30 rfl dX0_addList_29 rfl 2 rfl ?_
    refine zm_iast 31 rfl dX0_addList_30 rfl (zm_L rfl) (fun M30 _ => ?_)
    refine zm_aload_n 32 rfl dX0_addList_31 rfl 0 rfl ?_
    refine zm_getR 35 rfl dX0_addList_32 fl_X0_18 rfl (zm_L rfl) rfl ?_
    refine zm_aload_n 36 rfl dX0_addList_35 rfl 0 rfl ?_
    refine zm_getI 39 rfl dX0_addList_36 fl_X0_33 rfl (zm_L rfl) ?_
    refine zm_iload_n 40 rfl dX0_addList_39 rfl 3 rfl ?_
    refine zm_iast 41 rfl dX0_addList_40 rfl (zm_L rfl) (fun M40 _ => ?_)
    refine zm_aload_n 42 rfl dX0_addList_41 rfl 0 rfl ?_
    refine zm_dup 43 rfl dX0_addList_42 rfl ?_
    refine zm_getI 46 rfl dX0_addList_43 fl_X0_33 rfl (zm_L rfl) ?_
    refine zm_iconst 47 rfl dX0_addList_46 zi_1 ?_
    refine zm_iadd 48 rfl dX0_addList_47 ?_
    refine zm_putI 51 rfl dX0_addList_48 fp_X0_33 rfl (zm_L rfl) rfl rfl (fun M48 _ => ?_)
    refine zm_aload_n 52 rfl dX0_addList_51 rfl 0 rfl ?_
    refine zm_getI 55 rfl dX0_addList_52 fl_X0_33 rfl (zm_L rfl) ?_
    refine zm_iconst 56 rfl dX0_addList_55 zi_1 ?_
    refine zm_isub 57 rfl dX0_addList_56 ?_
    exact zm_iret dX0_addList_57 rfl (Nat.le_refl _) (Nat.le_refl _) rfl
  · refine zm_iconst 10 rfl dX0_addList_9 zi_m1 ?_
    exact zm_iret dX0_addList_10 rfl (Nat.le_refl _) (Nat.le_refl _) rfl
abbrev Y_X0_waysWith : zm_Y := (cX0_waysWith, 2, RX0, { frames := 0, cells := 0, slots := 0, locals := 0 }, (some .int), false)
noncomputable def f_X0_waysWith (a1 : Int32) (M : zm_Mem) : Option Int32 :=
  zm_ck (zm_in a1 21) <| some (M.1 21 a1.toNatClampNeg)
set_option maxRecDepth 20000 in
set_option maxHeartbeats 4000000 in
theorem k_X0_waysWith (E : zm_E) (sv : Nat) (a1 : Int32) (M : zm_Mem) {r : Int32} (h : f_X0_waysWith a1 M = some r) : zm_Ct E sv sv yX0_waysWith Y_X0_waysWith [.ref (E.2.1 + 16), .int a1] M (some (.int r)) M := by
  refine zm_methr (emb := zm_ei) (d := f_X0_waysWith a1 M) (by decide) rfl (Nat.le_of_ble_eq_true rfl) h (fun X => ?_)
  show zm_V X Y_X0_waysWith E (zm_Q X E Y_X0_waysWith.2.2.2.1.cells Y_X0_waysWith.2.2.2.1.slots sv zm_ei) 0 0 sv 0 [(0, .ref (E.2.1 + 16)), (1, .int a1)] [] M (f_X0_waysWith a1 M) (fun r => some (r, M))
  unfold f_X0_waysWith
  refine zm_aload_n 1 rfl dX0_waysWith_0 rfl 0 rfl ?_
  refine zm_getR 4 rfl dX0_waysWith_1 fl_X0_24 rfl (zm_L rfl) rfl ?_
  refine zm_iload_n 5 rfl dX0_waysWith_4 rfl 1 rfl ?_
  refine zm_iald 6 rfl dX0_waysWith_5 rfl (zm_L rfl) ?_
  exact zm_iret dX0_waysWith_6 rfl (Nat.le_refl _) (Nat.le_refl _) rfl
abbrev Y_X0_fewestWrong : zm_Y := (cX0_fewestWrong, 1, RX0, { frames := 0, cells := 0, slots := 0, locals := 0 }, (some .int), false)
noncomputable def f_X0_fewestWrong  (M : zm_Mem) : Option Int32 :=
  some (M.1 16 8)
set_option maxRecDepth 20000 in
set_option maxHeartbeats 4000000 in
theorem k_X0_fewestWrong (E : zm_E) (sv : Nat)  (M : zm_Mem) {r : Int32} (h : f_X0_fewestWrong M = some r) : zm_Ct E sv sv yX0_fewestWrong Y_X0_fewestWrong [.ref (E.2.1 + 16)] M (some (.int r)) M := by
  refine zm_methr (emb := zm_ei) (d := f_X0_fewestWrong M) (by decide) rfl (Nat.le_of_ble_eq_true rfl) h (fun X => ?_)
  show zm_V X Y_X0_fewestWrong E (zm_Q X E Y_X0_fewestWrong.2.2.2.1.cells Y_X0_fewestWrong.2.2.2.1.slots sv zm_ei) 0 0 sv 0 [(0, .ref (E.2.1 + 16))] [] M (f_X0_fewestWrong M) (fun r => some (r, M))
  unfold f_X0_fewestWrong
  refine zm_aload_n 1 rfl dX0_fewestWrong_0 rfl 0 rfl ?_
  refine zm_getI 4 rfl dX0_fewestWrong_1 fl_X0_37 rfl (zm_L rfl) ?_
  exact zm_iret dX0_fewestWrong_4 rfl (Nat.le_refl _) (Nat.le_refl _) rfl
abbrev Y_X0_couldHave : zm_Y := (cX0_couldHave, 2, RX0, { frames := 0, cells := 0, slots := 0, locals := 0 }, (some .int), false)
noncomputable def f_X0_couldHave (a1 : Int32) (M : zm_Mem) : Option Int32 :=
  zm_ck (zm_in a1 6) <| some (M.1 23 a1.toNatClampNeg)
set_option maxRecDepth 20000 in
set_option maxHeartbeats 4000000 in
theorem k_X0_couldHave (E : zm_E) (sv : Nat) (a1 : Int32) (M : zm_Mem) {r : Int32} (h : f_X0_couldHave a1 M = some r) : zm_Ct E sv sv yX0_couldHave Y_X0_couldHave [.ref (E.2.1 + 16), .int a1] M (some (.int r)) M := by
  refine zm_methr (emb := zm_ei) (d := f_X0_couldHave a1 M) (by decide) rfl (Nat.le_of_ble_eq_true rfl) h (fun X => ?_)
  show zm_V X Y_X0_couldHave E (zm_Q X E Y_X0_couldHave.2.2.2.1.cells Y_X0_couldHave.2.2.2.1.slots sv zm_ei) 0 0 sv 0 [(0, .ref (E.2.1 + 16)), (1, .int a1)] [] M (f_X0_couldHave a1 M) (fun r => some (r, M))
  unfold f_X0_couldHave
  refine zm_aload_n 1 rfl dX0_couldHave_0 rfl 0 rfl ?_
  refine zm_getR 4 rfl dX0_couldHave_1 fl_X0_30 rfl (zm_L rfl) rfl ?_
  refine zm_iload_n 5 rfl dX0_couldHave_4 rfl 1 rfl ?_
  refine zm_iald 6 rfl dX0_couldHave_5 rfl (zm_L rfl) ?_
  exact zm_iret dX0_couldHave_6 rfl (Nat.le_refl _) (Nat.le_refl _) rfl
abbrev Y_X0_keepWay : zm_Y := (cX0_keepWay, 4, RX0, { frames := 1, cells := 0, slots := 0, locals := 23 }, none, false)
noncomputable def f_X0_keepWay_l48 (a1 : Int32) (l48_3 : Int32) (L48 : zm_Mem) : Option ((Int32 × zm_Mem) ⊕ zm_Mem) :=
 if a1 ≤ l48_3 then (some (.inr L48)) else (zm_ck (zm_in l48_3 6) <| zm_ck (zm_in l48_3 6) <| zm_ck (zm_in l48_3 6) <| zm_v (zm_sI L48 23 l48_3.toNatClampNeg ((L48.1 23 l48_3.toNatClampNeg) ||| (1 <<< ((L48.1 22 l48_3.toNatClampNeg) &&& 31)))) <| fun M69 => zm_v (l48_3 + 1) <| fun x70 => some (.inl (x70, M69)))
noncomputable def f_X0_keepWay_b38 (a1 : Int32) (a2 : Int32) (M38 : zm_Mem) : Option (Unit × zm_Mem) :=
 if a2 = (M38.1 16 8) then ((zm_lp (fun s => f_X0_keepWay_l48 a1 s.1 s.2) (0, M38)).bind (fun e76 => some ((), e76))) else (some ((), M38))
noncomputable def f_X0_keepWay (a1 : Int32) (a2 : Int32) (M : zm_Mem) : Option (Unit × zm_Mem) :=
  if a2 ≤ (20 : Int32) then (zm_ck (zm_in a2 21) <| zm_ck (zm_in a2 21) <| zm_v (zm_sI M 21 a2.toNatClampNeg ((M.1 21 a2.toNatClampNeg) + 1)) <| fun M16 => if (M16.1 16 8) ≤ a2 then (f_X0_keepWay_b38 a1 a2 M16) else (zm_v (zm_sI M16 16 8 a2) <| fun M27 => zm_b2 (f_J7_fill_53178 23 0 M27) <| fun _ M35 => f_X0_keepWay_b38 a1 a2 M35)) else (some ((), M))
set_option maxRecDepth 20000 in
set_option maxHeartbeats 4000000 in
theorem k_X0_keepWay (E : zm_E) (sv : Nat) (a1 : Int32) (a2 : Int32) (M : zm_Mem) {r : Unit} {M' : zm_Mem} (h : f_X0_keepWay a1 a2 M = some (r, M')) : zm_Ct E sv sv yX0_keepWay Y_X0_keepWay [.ref (E.2.1 + 16), .int a1, .int a2] M none M' := by
  refine zm_meth (emb := zm_ev) (d := f_X0_keepWay a1 a2 M) (by decide) rfl (Nat.le_of_ble_eq_true rfl) h (fun X => ?_)
  show zm_V X Y_X0_keepWay E (zm_Q X E Y_X0_keepWay.2.2.2.1.cells Y_X0_keepWay.2.2.2.1.slots sv zm_ev) 0 0 sv 0 [(0, .ref (E.2.1 + 16)), (1, .int a1), (2, .int a2)] [] M (f_X0_keepWay a1 a2 M) some
  unfold f_X0_keepWay
  refine zm_iload_n 1 rfl dX0_keepWay_0 rfl 2 rfl ?_
  refine zm_bipush 3 rfl dX0_keepWay_1 zb_20 ?_
  refine zm_icmp_le 7 6 (by decide) rfl dX0_keepWay_3 ?_ ?_
  · refine zm_aload_n 8 rfl dX0_keepWay_7 rfl 0 rfl ?_
    refine zm_getR 11 rfl dX0_keepWay_8 fl_X0_24 rfl (zm_L rfl) rfl ?_
    refine zm_iload_n 12 rfl dX0_keepWay_11 rfl 2 rfl ?_
    refine zm_dup2 13 rfl dX0_keepWay_12 rfl rfl ?_
    refine zm_iald 14 rfl dX0_keepWay_13 rfl (zm_L rfl) ?_
    refine zm_iconst 15 rfl dX0_keepWay_14 zi_1 ?_
    refine zm_iadd 16 rfl dX0_keepWay_15 ?_
    refine zm_iast 17 rfl dX0_keepWay_16 rfl (zm_L rfl) (fun M16 _ => ?_)
    refine zm_iload_n 18 rfl dX0_keepWay_17 rfl 2 rfl ?_
    refine zm_aload_n 19 rfl dX0_keepWay_18 rfl 0 rfl ?_
    refine zm_getI 22 rfl dX0_keepWay_19 fl_X0_37 rfl (zm_L rfl) ?_
    have hb38 : ∀ (M38 : zm_Mem), zm_V X Y_X0_keepWay E (zm_Q X E Y_X0_keepWay.2.2.2.1.cells Y_X0_keepWay.2.2.2.1.slots sv zm_ev) 0 0 sv 38 [(0, .ref (E.2.1 + 16)), (1, .int a1), (2, .int a2)] [] M38 (f_X0_keepWay_b38 a1 a2 M38) some := by
      intro M38
      unfold f_X0_keepWay_b38
      refine zm_iload_n 39 rfl dX0_keepWay_38 rfl 2 rfl ?_
      refine zm_aload_n 40 rfl dX0_keepWay_39 rfl 0 rfl ?_
      refine zm_getI 43 rfl dX0_keepWay_40 fl_X0_37 rfl (zm_L rfl) ?_
      refine zm_icmp_ne 76 46 (by decide) rfl dX0_keepWay_43 ?_ ?_
      · refine zm_iconst 47 rfl dX0_keepWay_46 zi_0 ?_
        refine zm_istore_n (lv' := [(3, .int 0), (0, .ref (E.2.1 + 16)), (1, .int a1), (2, .int a2)]) 48 rfl dX0_keepWay_47 rfl (by decide) rfl ?_
        have hx76_48 : ∀ (N76 : zm_Mem), zm_V X Y_X0_keepWay E (zm_Q X E Y_X0_keepWay.2.2.2.1.cells Y_X0_keepWay.2.2.2.1.slots sv zm_ev) 0 0 sv 76 [] [] N76 (some ((), N76)) some := by
          intro N76
          exact zm_vret dX0_keepWay_76 rfl (Nat.le_refl _) (Nat.le_refl _) rfl
        refine zm_loc [1, 2, 0] rfl (zm_lpp (σ := (Int32 × zm_Mem)) (ε := zm_Mem) (step := fun s => f_X0_keepWay_l48 a1 s.1 s.2) (fun s => [(0, .ref (E.2.1 + 16)), (1, .int a1), (3, .int s.1)]) (fun s => s.2) (fun D48 f48 hf48a hf48b hD48 s => ?_) (0, M38))
        obtain ⟨l48_3, L48⟩ := s
        show zm_V X Y_X0_keepWay E (zm_Q X E Y_X0_keepWay.2.2.2.1.cells Y_X0_keepWay.2.2.2.1.slots sv zm_ev) 0 0 sv 48 [(0, .ref (E.2.1 + 16)), (1, .int a1), (3, .int l48_3)] [] L48 (f_X0_keepWay_l48 a1 l48_3 L48) f48
        unfold f_X0_keepWay_l48
        refine zm_iload_n 49 rfl dX0_keepWay_48 rfl 2 rfl ?_
        refine zm_iload_n 50 rfl dX0_keepWay_49 rfl 1 rfl ?_
        refine zm_icmp_ge 76 53 (by decide) rfl dX0_keepWay_50 ?_ ?_
        · exact zm_loc [] rfl (zm_go (hf48b _) (zm_unb (hx76_48 L48)))
        · refine zm_aload_n 54 rfl dX0_keepWay_53 rfl 0 rfl ?_
          refine zm_getR 57 rfl dX0_keepWay_54 fl_X0_30 rfl (zm_L rfl) rfl ?_
          refine zm_iload_n 58 rfl dX0_keepWay_57 rfl 2 rfl ?_
          refine zm_dup2 59 rfl dX0_keepWay_58 rfl rfl ?_
          refine zm_iald 60 rfl dX0_keepWay_59 rfl (zm_L rfl) ?_
          refine zm_iconst 61 rfl dX0_keepWay_60 zi_1 ?_
          refine zm_aload_n 62 rfl dX0_keepWay_61 rfl 0 rfl ?_
          refine zm_getR 65 rfl dX0_keepWay_62 fl_X0_27 rfl (zm_L rfl) rfl ?_
          refine zm_iload_n 66 rfl dX0_keepWay_65 rfl 2 rfl ?_
          refine zm_iald 67 rfl dX0_keepWay_66 rfl (zm_L rfl) ?_
          refine zm_ishl 68 rfl dX0_keepWay_67 ?_
          refine zm_ior 69 rfl dX0_keepWay_68 ?_
          refine zm_iast 70 rfl dX0_keepWay_69 rfl (zm_L rfl) (fun M69 _ => ?_)
          refine zm_iinc (lv' := fun z => [(3, .int z), (0, .ref (E.2.1 + 16)), (1, .int a1)]) 73 rfl dX0_keepWay_70 zi_1 2 rfl (by decide) (fun _ => rfl) (fun x70 _ => ?_)
          refine zm_goto 48 (by decide) dX0_keepWay_73 ?_
          exact zm_loc [1, 2, 0] rfl (zm_go (hf48a _) (hD48 (x70, M69)))
      · exact zm_vret dX0_keepWay_76 rfl (Nat.le_refl _) (Nat.le_refl _) rfl
    refine zm_icmp_ge 38 25 (by decide) rfl dX0_keepWay_22 ?_ ?_
    · exact zm_loc [0, 1, 2] rfl (hb38 M16)
    · refine zm_aload_n 26 rfl dX0_keepWay_25 rfl 0 rfl ?_
      refine zm_iload_n 27 rfl dX0_keepWay_26 rfl 2 rfl ?_
      refine zm_putI 30 rfl dX0_keepWay_27 fp_X0_37 rfl (zm_L rfl) rfl rfl (fun M27 _ => ?_)
      refine zm_aload_n 31 rfl dX0_keepWay_30 rfl 0 rfl ?_
      refine zm_getR 34 rfl dX0_keepWay_31 fl_X0_30 rfl (zm_L rfl) rfl ?_
      refine zm_iconst 35 rfl dX0_keepWay_34 zi_0 ?_
      refine zm_cS2v 38 rfl dX0_keepWay_35 ml_X0_40 (Nat.le_of_ble_eq_true rfl) ⟨Nat.le_of_ble_eq_true rfl, Nat.le_of_ble_eq_true rfl⟩ rfl rfl ⟨Nat.le_refl _, Nat.le_refl _⟩ rfl (fun _ _ h => k_J7_fill_53178 E sv 23 0 ⟨rfl, (zm_L rfl)⟩ M27 h) (fun _ M35 => ?_)
      exact zm_loc [0, 1, 2] rfl (hb38 M35)
  · exact zm_vret dX0_keepWay_6 rfl (Nat.le_refl _) (Nat.le_refl _) rfl
abbrev Y_X1_size : zm_Y := (cX1_size, 1, RX1, { frames := 0, cells := 0, slots := 0, locals := 0 }, (some .int), false)
noncomputable def f_X1_size  (M : zm_Mem) : Option Int32 :=
  some (M.1 13 2)
set_option maxRecDepth 20000 in
set_option maxHeartbeats 4000000 in
theorem k_X1_size (E : zm_E) (sv : Nat)  (M : zm_Mem) {r : Int32} (h : f_X1_size M = some r) : zm_Ct E sv sv yX1_size Y_X1_size [.ref (E.2.1 + 13)] M (some (.int r)) M := by
  refine zm_methr (emb := zm_ei) (d := f_X1_size M) (by decide) rfl (Nat.le_of_ble_eq_true rfl) h (fun X => ?_)
  show zm_V X Y_X1_size E (zm_Q X E Y_X1_size.2.2.2.1.cells Y_X1_size.2.2.2.1.slots sv zm_ei) 0 0 sv 0 [(0, .ref (E.2.1 + 13))] [] M (f_X1_size M) (fun r => some (r, M))
  unfold f_X1_size
  refine zm_aload_n 1 rfl dX1_size_0 rfl 0 rfl ?_
  refine zm_getI 4 rfl dX1_size_1 fl_X1_15 rfl (zm_L rfl) ?_
  exact zm_iret dX1_size_4 rfl (Nat.le_refl _) (Nat.le_refl _) rfl
abbrev Y_X1_empty : zm_Y := (cX1_empty, 1, RX1, { frames := 0, cells := 0, slots := 0, locals := 0 }, none, false)
noncomputable def f_X1_empty  (M : zm_Mem) : Option (Unit × zm_Mem) :=
  zm_v (zm_sI M 13 2 0) <| fun M2 => some ((), M2)
set_option maxRecDepth 20000 in
set_option maxHeartbeats 4000000 in
theorem k_X1_empty (E : zm_E) (sv : Nat)  (M : zm_Mem) {r : Unit} {M' : zm_Mem} (h : f_X1_empty M = some (r, M')) : zm_Ct E sv sv yX1_empty Y_X1_empty [.ref (E.2.1 + 13)] M none M' := by
  refine zm_meth (emb := zm_ev) (d := f_X1_empty M) (by decide) rfl (Nat.le_of_ble_eq_true rfl) h (fun X => ?_)
  show zm_V X Y_X1_empty E (zm_Q X E Y_X1_empty.2.2.2.1.cells Y_X1_empty.2.2.2.1.slots sv zm_ev) 0 0 sv 0 [(0, .ref (E.2.1 + 13))] [] M (f_X1_empty M) some
  unfold f_X1_empty
  refine zm_aload_n 1 rfl dX1_empty_0 rfl 0 rfl ?_
  refine zm_iconst 2 rfl dX1_empty_1 zi_0 ?_
  refine zm_putI 5 rfl dX1_empty_2 fp_X1_15 rfl (zm_L rfl) rfl rfl (fun M2 _ => ?_)
  exact zm_vret dX1_empty_5 rfl (Nat.le_refl _) (Nat.le_refl _) rfl
abbrev Y_X1_keep : zm_Y := (cX1_keep, 2, RX1, { frames := 1, cells := 0, slots := 0, locals := 100 }, none, false)
noncomputable def f_X1_keep (a1 : Nat) (M : zm_Mem) : Option (Unit × zm_Mem) :=
  zm_ck (decide ((0 : Int32) ≤ 0) && (decide (0 ≤ ((M.1 13 1) * 47)) && (decide (0 ≤ 47) && (decide ((0 : Int32).toNatClampNeg + (47 : Int32).toNatClampNeg ≤ (zm_sh a1).2) && decide (((M.1 13 1) * 47).toNatClampNeg + (47 : Int32).toNatClampNeg ≤ 1880))))) <| zm_v (zm_cp M a1 (0 : Int32).toNatClampNeg 14 ((M.1 13 1) * 47).toNatClampNeg (47 : Int32).toNatClampNeg) <| fun M15 => zm_ck (!decide ((40 : Int32) = 0)) <| zm_v (zm_sI M15 13 1 (((M15.1 13 1) + 1) - ((M15.1 13 1) + 1) / 40 * 40)) <| fun M28 => zm_v (zm_sI M28 13 2 (zm_min ((M28.1 13 2) + 1) 40)) <| fun M43 => some ((), M43)
set_option maxRecDepth 20000 in
set_option maxHeartbeats 4000000 in
theorem k_X1_keep (E : zm_E) (sv : Nat) (a1 : Nat) (ha1 : zm_sh a1 = (0, (zm_sh a1).2) ∧ (0 < a1 ∧ a1 ≤ zm_n sv)) (M : zm_Mem) {r : Unit} {M' : zm_Mem} (h : f_X1_keep a1 M = some (r, M')) : zm_Ct E sv sv yX1_keep Y_X1_keep [.ref (E.2.1 + 13), .ref (E.2.1 + a1)] M none M' := by
  refine zm_meth (emb := zm_ev) (d := f_X1_keep a1 M) (by decide) rfl (Nat.le_of_ble_eq_true rfl) h (fun X => ?_)
  show zm_V X Y_X1_keep E (zm_Q X E Y_X1_keep.2.2.2.1.cells Y_X1_keep.2.2.2.1.slots sv zm_ev) 0 0 sv 0 [(0, .ref (E.2.1 + 13)), (1, .ref (E.2.1 + a1))] [] M (f_X1_keep a1 M) some
  unfold f_X1_keep
  refine zm_aload_n 1 rfl dX1_keep_0 rfl 1 rfl ?_
  refine zm_iconst 2 rfl dX1_keep_1 zi_0 ?_
  refine zm_aload_n 3 rfl dX1_keep_2 rfl 0 rfl ?_
  refine zm_getR 6 rfl dX1_keep_3 fl_X1_11 rfl (zm_L rfl) rfl ?_
  refine zm_aload_n 7 rfl dX1_keep_6 rfl 0 rfl ?_
  refine zm_getI 10 rfl dX1_keep_7 fl_X1_19 rfl (zm_L rfl) ?_
  refine zm_bipush 12 rfl dX1_keep_10 zb_47 ?_
  refine zm_imul 13 rfl dX1_keep_12 ?_
  refine zm_bipush 15 rfl dX1_keep_13 zb_47 ?_
  refine zm_copy 18 rfl dX1_keep_15 ac_X1_22 ac_nat ac_st in_sys ha1.1 rfl ha1.2 (zm_L rfl) (Nat.le_of_ble_eq_true rfl) (Nat.le_of_ble_eq_true rfl) (fun M15 _ => ?_)
  refine zm_aload_n 19 rfl dX1_keep_18 rfl 0 rfl ?_
  refine zm_aload_n 20 rfl dX1_keep_19 rfl 0 rfl ?_
  refine zm_getI 23 rfl dX1_keep_20 fl_X1_19 rfl (zm_L rfl) ?_
  refine zm_iconst 24 rfl dX1_keep_23 zi_1 ?_
  refine zm_iadd 25 rfl dX1_keep_24 ?_
  refine zm_bipush 27 rfl dX1_keep_25 zb_40 ?_
  refine zm_irem 28 rfl dX1_keep_27 ?_
  refine zm_putI 31 rfl dX1_keep_28 fp_X1_19 rfl (zm_L rfl) rfl rfl (fun M28 _ => ?_)
  refine zm_aload_n 32 rfl dX1_keep_31 rfl 0 rfl ?_
  refine zm_aload_n 33 rfl dX1_keep_32 rfl 0 rfl ?_
  refine zm_getI 36 rfl dX1_keep_33 fl_X1_15 rfl (zm_L rfl) ?_
  refine zm_iconst 37 rfl dX1_keep_36 zi_1 ?_
  refine zm_iadd 38 rfl dX1_keep_37 ?_
  refine zm_bipush 40 rfl dX1_keep_38 zb_40 ?_
  refine zm_mmin 43 rfl dX1_keep_40 mm_X1_28 mm_st_min in_math mm_co_min (Nat.le_of_ble_eq_true rfl) (Nat.le_of_ble_eq_true rfl) ⟨Nat.le_refl _, Nat.le_refl _⟩ ?_
  refine zm_putI 46 rfl dX1_keep_43 fp_X1_15 rfl (zm_L rfl) rfl rfl (fun M43 _ => ?_)
  exact zm_vret dX1_keep_46 rfl (Nat.le_refl _) (Nat.le_refl _) rfl
abbrev Y_X1_takeBack : zm_Y := (cX1_takeBack, 2, RX1, { frames := 1, cells := 0, slots := 0, locals := 100 }, none, false)
noncomputable def f_X1_takeBack (a1 : Nat) (M : zm_Mem) : Option (Unit × zm_Mem) :=
  if (M.1 13 2) ≤ 0 then (some ((), M)) else (zm_ck (!decide ((40 : Int32) = 0)) <| zm_v (zm_sI M 13 1 ((((M.1 13 1) + 40) - 1) - (((M.1 13 1) + 40) - 1) / 40 * 40)) <| fun M20 => zm_v (zm_sI M20 13 2 ((M20.1 13 2) - 1)) <| fun M30 => zm_ck (decide (0 ≤ ((M30.1 13 1) * 47)) && (decide ((0 : Int32) ≤ 0) && (decide (0 ≤ 47) && (decide (((M30.1 13 1) * 47).toNatClampNeg + (47 : Int32).toNatClampNeg ≤ 1880) && decide ((0 : Int32).toNatClampNeg + (47 : Int32).toNatClampNeg ≤ (zm_sh a1).2))))) <| zm_v (zm_cp M30 14 ((M30.1 13 1) * 47).toNatClampNeg a1 (0 : Int32).toNatClampNeg (47 : Int32).toNatClampNeg) <| fun M48 => some ((), M48))
set_option maxRecDepth 20000 in
set_option maxHeartbeats 4000000 in
theorem k_X1_takeBack (E : zm_E) (sv : Nat) (a1 : Nat) (ha1 : zm_sh a1 = (0, (zm_sh a1).2) ∧ (0 < a1 ∧ a1 ≤ zm_n sv)) (M : zm_Mem) {r : Unit} {M' : zm_Mem} (h : f_X1_takeBack a1 M = some (r, M')) : zm_Ct E sv sv yX1_takeBack Y_X1_takeBack [.ref (E.2.1 + 13), .ref (E.2.1 + a1)] M none M' := by
  refine zm_meth (emb := zm_ev) (d := f_X1_takeBack a1 M) (by decide) rfl (Nat.le_of_ble_eq_true rfl) h (fun X => ?_)
  show zm_V X Y_X1_takeBack E (zm_Q X E Y_X1_takeBack.2.2.2.1.cells Y_X1_takeBack.2.2.2.1.slots sv zm_ev) 0 0 sv 0 [(0, .ref (E.2.1 + 13)), (1, .ref (E.2.1 + a1))] [] M (f_X1_takeBack a1 M) some
  unfold f_X1_takeBack
  refine zm_aload_n 1 rfl dX1_takeBack_0 rfl 0 rfl ?_
  refine zm_getI 4 rfl dX1_takeBack_1 fl_X1_15 rfl (zm_L rfl) ?_
  refine zm_if_le 51 7 (by decide) rfl dX1_takeBack_4 ?_ ?_
  · exact zm_vret dX1_takeBack_51 rfl (Nat.le_refl _) (Nat.le_refl _) rfl
  · refine zm_aload_n 8 rfl dX1_takeBack_7 rfl 0 rfl ?_
    refine zm_aload_n 9 rfl dX1_takeBack_8 rfl 0 rfl ?_
    refine zm_getI 12 rfl dX1_takeBack_9 fl_X1_19 rfl (zm_L rfl) ?_
    refine zm_bipush 14 rfl dX1_takeBack_12 zb_40 ?_
    refine zm_iadd 15 rfl dX1_takeBack_14 ?_
    refine zm_iconst 16 rfl dX1_takeBack_15 zi_1 ?_
    refine zm_isub 17 rfl dX1_takeBack_16 ?_
    refine zm_bipush 19 rfl dX1_takeBack_17 zb_40 ?_
    refine zm_irem 20 rfl dX1_takeBack_19 ?_
    refine zm_putI 23 rfl dX1_takeBack_20 fp_X1_19 rfl (zm_L rfl) rfl rfl (fun M20 _ => ?_)
    refine zm_aload_n 24 rfl dX1_takeBack_23 rfl 0 rfl ?_
    refine zm_dup 25 rfl dX1_takeBack_24 rfl ?_
    refine zm_getI 28 rfl dX1_takeBack_25 fl_X1_15 rfl (zm_L rfl) ?_
    refine zm_iconst 29 rfl dX1_takeBack_28 zi_1 ?_
    refine zm_isub 30 rfl dX1_takeBack_29 ?_
    refine zm_putI 33 rfl dX1_takeBack_30 fp_X1_15 rfl (zm_L rfl) rfl rfl (fun M30 _ => ?_)
    refine zm_aload_n 34 rfl dX1_takeBack_33 rfl 0 rfl ?_
    refine zm_getR 37 rfl dX1_takeBack_34 fl_X1_11 rfl (zm_L rfl) rfl ?_
    refine zm_aload_n 38 rfl dX1_takeBack_37 rfl 0 rfl ?_
    refine zm_getI 41 rfl dX1_takeBack_38 fl_X1_19 rfl (zm_L rfl) ?_
    refine zm_bipush 43 rfl dX1_takeBack_41 zb_47 ?_
    refine zm_imul 44 rfl dX1_takeBack_43 ?_
    refine zm_aload_n 45 rfl dX1_takeBack_44 rfl 1 rfl ?_
    refine zm_iconst 46 rfl dX1_takeBack_45 zi_0 ?_
    refine zm_bipush 48 rfl dX1_takeBack_46 zb_47 ?_
    refine zm_copy 51 rfl dX1_takeBack_48 ac_X1_22 ac_nat ac_st in_sys rfl ha1.1 (zm_L rfl) ha1.2 (Nat.le_of_ble_eq_true rfl) (Nat.le_of_ble_eq_true rfl) (fun M48 _ => ?_)
    exact zm_vret dX1_takeBack_51 rfl (Nat.le_refl _) (Nat.le_refl _) rfl
abbrev Y_X2_faultPlace : zm_Y := (cX2_faultPlace, 1, RX2, { frames := 0, cells := 0, slots := 0, locals := 0 }, (some .int), false)
noncomputable def f_X2_faultPlace  (M : zm_Mem) : Option Int32 :=
  some (M.1 8 6)
set_option maxRecDepth 20000 in
set_option maxHeartbeats 4000000 in
theorem k_X2_faultPlace (E : zm_E) (sv : Nat)  (M : zm_Mem) {r : Int32} (h : f_X2_faultPlace M = some r) : zm_Ct E sv sv yX2_faultPlace Y_X2_faultPlace [.ref (E.2.1 + 8)] M (some (.int r)) M := by
  refine zm_methr (emb := zm_ei) (d := f_X2_faultPlace M) (by decide) rfl (Nat.le_of_ble_eq_true rfl) h (fun X => ?_)
  show zm_V X Y_X2_faultPlace E (zm_Q X E Y_X2_faultPlace.2.2.2.1.cells Y_X2_faultPlace.2.2.2.1.slots sv zm_ei) 0 0 sv 0 [(0, .ref (E.2.1 + 8))] [] M (f_X2_faultPlace M) (fun r => some (r, M))
  unfold f_X2_faultPlace
  refine zm_aload_n 1 rfl dX2_faultPlace_0 rfl 0 rfl ?_
  refine zm_getI 4 rfl dX2_faultPlace_1 fl_X2_22 rfl (zm_L rfl) ?_
  exact zm_iret dX2_faultPlace_4 rfl (Nat.le_refl _) (Nat.le_refl _) rfl
abbrev Y_X8_put : zm_Y := (cX8_put, 3, RX8, { frames := 0, cells := 0, slots := 0, locals := 0 }, none, false)
noncomputable def f_X8_put (t : Nat) (a1 : Int32) (a2 : Int32) (M : zm_Mem) : Option (Unit × zm_Mem) :=
  if (408 : Int32) ≤ (M.1 t 10) then (some ((), M)) else (zm_ck (zm_in (M.1 t 10) 408) <| zm_v (zm_sI M (t + 10) (M.1 t 10).toNatClampNeg ((a1 <<< (14 &&& 31)) ||| (a2 &&& 16383))) <| fun M28 => zm_v (zm_sI M28 t 10 ((M28.1 t 10) + 1)) <| fun M36 => some ((), M36))
set_option maxRecDepth 20000 in
set_option maxHeartbeats 4000000 in
theorem k_X8_put (E : zm_E) (sv : Nat) (t : Nat) (a1 : Int32) (a2 : Int32) (ht : zm_isT t = true) (M : zm_Mem) {r : Unit} {M' : zm_Mem} (h : f_X8_put t a1 a2 M = some (r, M')) : zm_Ct E sv sv yX8_put Y_X8_put [.ref (E.2.1 + t), .int a1, .int a2] M none M' := by
  refine zm_meth (emb := zm_ev) (d := f_X8_put t a1 a2 M) (by decide) rfl (Nat.le_of_ble_eq_true rfl) h (fun X => ?_)
  show zm_V X Y_X8_put E (zm_Q X E Y_X8_put.2.2.2.1.cells Y_X8_put.2.2.2.1.slots sv zm_ev) 0 0 sv 0 [(0, .ref (E.2.1 + t)), (1, .int a1), (2, .int a2)] [] M (f_X8_put t a1 a2 M) some
  unfold f_X8_put
  refine zm_aload_n 1 rfl dX8_put_0 rfl 0 rfl ?_
  refine zm_getI 4 rfl dX8_put_1 fl_X8_64 (zm_T_o ht) (zm_T_l0 ht) ?_
  refine zm_sipush 7 rfl dX8_put_4 zs_408 ?_
  refine zm_icmp_ge 39 10 (by decide) rfl dX8_put_7 ?_ ?_
  · exact zm_vret dX8_put_39 rfl (Nat.le_refl _) (Nat.le_refl _) rfl
  · refine zm_aload_n 11 rfl dX8_put_10 rfl 0 rfl ?_
    refine zm_getR (a := t + 10) 14 rfl dX8_put_11 fl_X8_39 (zm_T_o ht) (zm_T_l0 ht) (zm_T_r ht 9 (by decide)) ?_
    refine zm_aload_n 15 rfl dX8_put_14 rfl 0 rfl ?_
    refine zm_getI 18 rfl dX8_put_15 fl_X8_64 (zm_T_o ht) (zm_T_l0 ht) ?_
    refine zm_iload_n 19 rfl dX8_put_18 rfl 1 rfl ?_
    refine zm_bipush 21 rfl dX8_put_19 zb_14 ?_
    refine zm_ishl 22 rfl dX8_put_21 ?_
    refine zm_iload_n 23 rfl dX8_put_22 rfl 2 rfl ?_
    refine zm_sipush 26 rfl dX8_put_23 zs_16383 ?_
    refine zm_iand 27 rfl dX8_put_26 ?_
    refine zm_ior 28 rfl dX8_put_27 ?_
    refine zm_iast 29 rfl dX8_put_28 (zm_T_a ht 10 (by decide)) (zm_T_l ht 10 (by decide)) (fun M28 _ => ?_)
    refine zm_aload_n 30 rfl dX8_put_29 rfl 0 rfl ?_
    refine zm_dup 31 rfl dX8_put_30 rfl ?_
    refine zm_getI 34 rfl dX8_put_31 fl_X8_64 (zm_T_o ht) (zm_T_l0 ht) ?_
    refine zm_iconst 35 rfl dX8_put_34 zi_1 ?_
    refine zm_iadd 36 rfl dX8_put_35 ?_
    refine zm_putI 39 rfl dX8_put_36 fp_X8_64 (zm_T_o ht) (zm_T_l0 ht) rfl rfl (fun M36 _ => ?_)
    exact zm_vret dX8_put_39 rfl (Nat.le_refl _) (Nat.le_refl _) rfl
abbrev Y_X8_clear : zm_Y := (cX8_clear, 1, RX8, { frames := 1, cells := 0, slots := 0, locals := 22 }, none, false)
noncomputable def f_X8_clear (t : Nat) (M : zm_Mem) : Option (Unit × zm_Mem) :=
  zm_v (zm_sI M t 11 0) <| fun M2 => zm_v (zm_sI M2 t 12 0) <| fun M7 => zm_v (zm_sI M7 t 13 0) <| fun M12 => zm_v (zm_sI M12 t 16 0) <| fun M17 => zm_v (zm_sI M17 t 17 1) <| fun M22 => zm_v (zm_sI M22 t 18 0) <| fun M27 => zm_v (zm_sI M27 t 10 0) <| fun M32 => zm_v (zm_sI M32 t 14 (M32.1 t 10)) <| fun M40 => zm_b2 (f_X8_put t 0 3 M40) <| fun _ M46 => zm_b2 (f_X8_put t 7 0 M46) <| fun _ M53 => zm_v (zm_sI M53 t 15 (M53.1 t 10)) <| fun M61 => zm_b2 (f_X8_put t 1 3 M61) <| fun _ M67 => zm_b2 (f_X8_put t 7 0 M67) <| fun _ M74 => some ((), M74)
set_option maxRecDepth 20000 in
set_option maxHeartbeats 4000000 in
theorem k_X8_clear (E : zm_E) (sv : Nat) (t : Nat) (ht : zm_isT t = true) (M : zm_Mem) {r : Unit} {M' : zm_Mem} (h : f_X8_clear t M = some (r, M')) : zm_Ct E sv sv yX8_clear Y_X8_clear [.ref (E.2.1 + t)] M none M' := by
  refine zm_meth (emb := zm_ev) (d := f_X8_clear t M) (by decide) rfl (Nat.le_of_ble_eq_true rfl) h (fun X => ?_)
  show zm_V X Y_X8_clear E (zm_Q X E Y_X8_clear.2.2.2.1.cells Y_X8_clear.2.2.2.1.slots sv zm_ev) 0 0 sv 0 [(0, .ref (E.2.1 + t))] [] M (f_X8_clear t M) some
  unfold f_X8_clear
  refine zm_aload_n 1 rfl dX8_clear_0 rfl 0 rfl ?_
  refine zm_iconst 2 rfl dX8_clear_1 zi_0 ?_
  refine zm_putI 5 rfl dX8_clear_2 fp_X8_45 (zm_T_o ht) (zm_T_l0 ht) rfl rfl (fun M2 _ => ?_)
  refine zm_aload_n 6 rfl dX8_clear_5 rfl 0 rfl ?_
  refine zm_iconst 7 rfl dX8_clear_6 zi_0 ?_
  refine zm_putI 10 rfl dX8_clear_7 fp_X8_49 (zm_T_o ht) (zm_T_l0 ht) rfl rfl (fun M7 _ => ?_)
  refine zm_aload_n 11 rfl dX8_clear_10 rfl 0 rfl ?_
  refine zm_iconst 12 rfl dX8_clear_11 zi_0 ?_
  refine zm_putI 15 rfl dX8_clear_12 fp_X8_52 (zm_T_o ht) (zm_T_l0 ht) rfl rfl (fun M12 _ => ?_)
  refine zm_aload_n 16 rfl dX8_clear_15 rfl 0 rfl ?_
  refine zm_iconst 17 rfl dX8_clear_16 zi_0 ?_
  refine zm_putI 20 rfl dX8_clear_17 fp_X8_55 (zm_T_o ht) (zm_T_l0 ht) rfl rfl (fun M17 _ => ?_)
  refine zm_aload_n 21 rfl dX8_clear_20 rfl 0 rfl ?_
  refine zm_iconst 22 rfl dX8_clear_21 zi_1 ?_
  refine zm_putI 25 rfl dX8_clear_22 fp_X8_58 (zm_T_o ht) (zm_T_l0 ht) rfl rfl (fun M22 _ => ?_)
  refine zm_aload_n 26 rfl dX8_clear_25 rfl 0 rfl ?_
  refine zm_iconst 27 rfl dX8_clear_26 zi_0 ?_
  refine zm_putI 30 rfl dX8_clear_27 fp_X8_61 (zm_T_o ht) (zm_T_l0 ht) rfl rfl (fun M27 _ => ?_)
  refine zm_aload_n 31 rfl dX8_clear_30 rfl 0 rfl ?_
  refine zm_iconst 32 rfl dX8_clear_31 zi_0 ?_
  refine zm_putI 35 rfl dX8_clear_32 fp_X8_64 (zm_T_o ht) (zm_T_l0 ht) rfl rfl (fun M32 _ => ?_)
  refine zm_aload_n 36 rfl dX8_clear_35 rfl 0 rfl ?_
  refine zm_aload_n 37 rfl dX8_clear_36 rfl 0 rfl ?_
  refine zm_getI 40 rfl dX8_clear_37 fl_X8_64 (zm_T_o ht) (zm_T_l0 ht) ?_
  refine zm_putI 43 rfl dX8_clear_40 fp_X8_67 (zm_T_o ht) (zm_T_l0 ht) rfl rfl (fun M40 _ => ?_)
  refine zm_aload_n 44 rfl dX8_clear_43 rfl 0 rfl ?_
  refine zm_iconst 45 rfl dX8_clear_44 zi_0 ?_
  refine zm_iconst 46 rfl dX8_clear_45 zi_3 ?_
  refine zm_cV2v 49 rfl dX8_clear_46 ml_X8_70 (zm_T_o ht) (zm_T_l0 ht) rfl (Nat.le_of_ble_eq_true rfl) ⟨Nat.le_of_ble_eq_true rfl, Nat.le_of_ble_eq_true rfl⟩ rfl rfl ⟨Nat.le_refl _, Nat.le_refl _⟩ rfl (fun _ _ h => k_X8_put E sv t 0 3 ht M40 h) (fun _ M46 => ?_)
  refine zm_aload_n 50 rfl dX8_clear_49 rfl 0 rfl ?_
  refine zm_bipush 52 rfl dX8_clear_50 zb_7 ?_
  refine zm_iconst 53 rfl dX8_clear_52 zi_0 ?_
  refine zm_cV2v 56 rfl dX8_clear_53 ml_X8_70 (zm_T_o ht) (zm_T_l0 ht) rfl (Nat.le_of_ble_eq_true rfl) ⟨Nat.le_of_ble_eq_true rfl, Nat.le_of_ble_eq_true rfl⟩ rfl rfl ⟨Nat.le_refl _, Nat.le_refl _⟩ rfl (fun _ _ h => k_X8_put E sv t 7 0 ht M46 h) (fun _ M53 => ?_)
  refine zm_aload_n 57 rfl dX8_clear_56 rfl 0 rfl ?_
  refine zm_aload_n 58 rfl dX8_clear_57 rfl 0 rfl ?_
  refine zm_getI 61 rfl dX8_clear_58 fl_X8_64 (zm_T_o ht) (zm_T_l0 ht) ?_
  refine zm_putI 64 rfl dX8_clear_61 fp_X8_74 (zm_T_o ht) (zm_T_l0 ht) rfl rfl (fun M61 _ => ?_)
  refine zm_aload_n 65 rfl dX8_clear_64 rfl 0 rfl ?_
  refine zm_iconst 66 rfl dX8_clear_65 zi_1 ?_
  refine zm_iconst 67 rfl dX8_clear_66 zi_3 ?_
  refine zm_cV2v 70 rfl dX8_clear_67 ml_X8_70 (zm_T_o ht) (zm_T_l0 ht) rfl (Nat.le_of_ble_eq_true rfl) ⟨Nat.le_of_ble_eq_true rfl, Nat.le_of_ble_eq_true rfl⟩ rfl rfl ⟨Nat.le_refl _, Nat.le_refl _⟩ rfl (fun _ _ h => k_X8_put E sv t 1 3 ht M61 h) (fun _ M67 => ?_)
  refine zm_aload_n 71 rfl dX8_clear_70 rfl 0 rfl ?_
  refine zm_bipush 73 rfl dX8_clear_71 zb_7 ?_
  refine zm_iconst 74 rfl dX8_clear_73 zi_0 ?_
  refine zm_cV2v 77 rfl dX8_clear_74 ml_X8_70 (zm_T_o ht) (zm_T_l0 ht) rfl (Nat.le_of_ble_eq_true rfl) ⟨Nat.le_of_ble_eq_true rfl, Nat.le_of_ble_eq_true rfl⟩ rfl rfl ⟨Nat.le_refl _, Nat.le_refl _⟩ rfl (fun _ _ h => k_X8_put E sv t 7 0 ht M67 h) (fun _ M74 => ?_)
  exact zm_vret dX8_clear_77 rfl (Nat.le_refl _) (Nat.le_refl _) rfl
abbrev Y_X7_sortAt : zm_Y := (cX7_sortAt, 2, RX7, { frames := 0, cells := 0, slots := 0, locals := 0 }, (some .int), false)
noncomputable def f_X7_sortAt_b21  : Option Int32 :=
 some 0
noncomputable def f_X7_sortAt (a1 : Int32) (M : zm_Mem) : Option Int32 :=
  if a1 < 0 then (f_X7_sortAt_b21) else (if (M.1 3 4) ≤ a1 then (f_X7_sortAt_b21) else (zm_ck (zm_in a1 402) <| some (M.1 4 a1.toNatClampNeg)))
set_option maxRecDepth 20000 in
set_option maxHeartbeats 4000000 in
theorem k_X7_sortAt (E : zm_E) (sv : Nat) (a1 : Int32) (M : zm_Mem) {r : Int32} (h : f_X7_sortAt a1 M = some r) : zm_Ct E sv sv yX7_sortAt Y_X7_sortAt [.ref (E.2.1 + 3), .int a1] M (some (.int r)) M := by
  refine zm_methr (emb := zm_ei) (d := f_X7_sortAt a1 M) (by decide) rfl (Nat.le_of_ble_eq_true rfl) h (fun X => ?_)
  show zm_V X Y_X7_sortAt E (zm_Q X E Y_X7_sortAt.2.2.2.1.cells Y_X7_sortAt.2.2.2.1.slots sv zm_ei) 0 0 sv 0 [(0, .ref (E.2.1 + 3)), (1, .int a1)] [] M (f_X7_sortAt a1 M) (fun r => some (r, M))
  unfold f_X7_sortAt
  refine zm_iload_n 1 rfl dX7_sortAt_0 rfl 1 rfl ?_
  have hb21 : zm_V X Y_X7_sortAt E (zm_Q X E Y_X7_sortAt.2.2.2.1.cells Y_X7_sortAt.2.2.2.1.slots sv zm_ei) 0 0 sv 21 [] [] M (f_X7_sortAt_b21) (fun r => some (r, M)) := by
    unfold f_X7_sortAt_b21
    refine zm_iconst 22 rfl dX7_sortAt_21 zi_0 ?_
    exact zm_iret dX7_sortAt_22 rfl (Nat.le_refl _) (Nat.le_refl _) rfl
  refine zm_if_lt 21 4 (by decide) rfl dX7_sortAt_1 ?_ ?_
  · exact zm_loc [] rfl (hb21)
  · refine zm_iload_n 5 rfl dX7_sortAt_4 rfl 1 rfl ?_
    refine zm_aload_n 6 rfl dX7_sortAt_5 rfl 0 rfl ?_
    refine zm_getI 9 rfl dX7_sortAt_6 fl_X7_41 rfl (zm_L rfl) ?_
    refine zm_icmp_ge 21 12 (by decide) rfl dX7_sortAt_9 ?_ ?_
    · exact zm_loc [] rfl (hb21)
    · refine zm_aload_n 13 rfl dX7_sortAt_12 rfl 0 rfl ?_
      refine zm_getR 16 rfl dX7_sortAt_13 fl_X7_11 rfl (zm_L rfl) rfl ?_
      refine zm_iload_n 17 rfl dX7_sortAt_16 rfl 1 rfl ?_
      refine zm_iald 18 rfl dX7_sortAt_17 rfl (zm_L rfl) ?_
      refine zm_goto 22 (by decide) dX7_sortAt_18 ?_
      exact zm_iret dX7_sortAt_22 rfl (Nat.le_refl _) (Nat.le_refl _) rfl
abbrev Y_X2_sort : zm_Y := (cX2_sort, 1, RX2, { frames := 1, cells := 0, slots := 0, locals := 21 }, (some .int), false)
noncomputable def f_X2_sort  (M : zm_Mem) : Option Int32 :=
  zm_b1 (f_X7_sortAt (M.1 8 4) M) <| fun r8 => some r8
set_option maxRecDepth 20000 in
set_option maxHeartbeats 4000000 in
theorem k_X2_sort (E : zm_E) (sv : Nat)  (M : zm_Mem) {r : Int32} (h : f_X2_sort M = some r) : zm_Ct E sv sv yX2_sort Y_X2_sort [.ref (E.2.1 + 8)] M (some (.int r)) M := by
  refine zm_methr (emb := zm_ei) (d := f_X2_sort M) (by decide) rfl (Nat.le_of_ble_eq_true rfl) h (fun X => ?_)
  show zm_V X Y_X2_sort E (zm_Q X E Y_X2_sort.2.2.2.1.cells Y_X2_sort.2.2.2.1.slots sv zm_ei) 0 0 sv 0 [(0, .ref (E.2.1 + 8))] [] M (f_X2_sort M) (fun r => some (r, M))
  unfold f_X2_sort
  refine zm_aload_n 1 rfl dX2_sort_0 rfl 0 rfl ?_
  refine zm_getR 4 rfl dX2_sort_1 fl_X2_18 rfl (zm_L rfl) rfl ?_
  refine zm_aload_n 5 rfl dX2_sort_4 rfl 0 rfl ?_
  refine zm_getI 8 rfl dX2_sort_5 fl_X2_35 rfl (zm_L rfl) ?_
  refine zm_cV1ir 11 rfl dX2_sort_8 ml_X2_181 rfl (zm_L rfl) rfl (Nat.le_of_ble_eq_true rfl) ⟨Nat.le_of_ble_eq_true rfl, Nat.le_of_ble_eq_true rfl⟩ rfl rfl ⟨Nat.le_refl _, Nat.le_refl _⟩ rfl (fun _ h => k_X7_sortAt E sv (M.1 8 4) M h) (fun r8 => ?_)
  exact zm_iret dX2_sort_11 rfl (Nat.le_refl _) (Nat.le_refl _) rfl
abbrev Y_X2_fail : zm_Y := (cX2_fail, 2, RX2, { frames := 0, cells := 0, slots := 0, locals := 0 }, none, false)
noncomputable def f_X2_fail (a1 : Int32) (M : zm_Mem) : Option (Unit × zm_Mem) :=
  if (M.1 8 5) = 0 then (zm_v (zm_sI M 8 5 a1) <| fun M9 => some ((), M9)) else (some ((), M))
set_option maxRecDepth 20000 in
set_option maxHeartbeats 4000000 in
theorem k_X2_fail (E : zm_E) (sv : Nat) (a1 : Int32) (M : zm_Mem) {r : Unit} {M' : zm_Mem} (h : f_X2_fail a1 M = some (r, M')) : zm_Ct E sv sv yX2_fail Y_X2_fail [.ref (E.2.1 + 8), .int a1] M none M' := by
  refine zm_meth (emb := zm_ev) (d := f_X2_fail a1 M) (by decide) rfl (Nat.le_of_ble_eq_true rfl) h (fun X => ?_)
  show zm_V X Y_X2_fail E (zm_Q X E Y_X2_fail.2.2.2.1.cells Y_X2_fail.2.2.2.1.slots sv zm_ev) 0 0 sv 0 [(0, .ref (E.2.1 + 8)), (1, .int a1)] [] M (f_X2_fail a1 M) some
  unfold f_X2_fail
  refine zm_aload_n 1 rfl dX2_fail_0 rfl 0 rfl ?_
  refine zm_getI 4 rfl dX2_fail_1 fl_X2_38 rfl (zm_L rfl) ?_
  refine zm_if_ne 12 7 (by decide) rfl dX2_fail_4 ?_ ?_
  · refine zm_aload_n 8 rfl dX2_fail_7 rfl 0 rfl ?_
    refine zm_iload_n 9 rfl dX2_fail_8 rfl 1 rfl ?_
    refine zm_putI 12 rfl dX2_fail_9 fp_X2_38 rfl (zm_L rfl) rfl rfl (fun M9 _ => ?_)
    exact zm_vret dX2_fail_12 rfl (Nat.le_refl _) (Nat.le_refl _) rfl
  · exact zm_vret dX2_fail_12 rfl (Nat.le_refl _) (Nat.le_refl _) rfl
abbrev Y_X2_take : zm_Y := (cX2_take, 1, RX2, { frames := 0, cells := 0, slots := 0, locals := 0 }, none, false)
noncomputable def f_X2_take  (M : zm_Mem) : Option (Unit × zm_Mem) :=
  if (M.1 8 5) = 0 then (if (400 : Int32) ≤ (M.1 8 4) then (zm_v (zm_sI M 8 5 2) <| fun M33 => some ((), M33)) else (zm_v (zm_sI M 8 4 ((M.1 8 4) + 1)) <| fun M25 => some ((), M25))) else (some ((), M))
set_option maxRecDepth 20000 in
set_option maxHeartbeats 4000000 in
theorem k_X2_take (E : zm_E) (sv : Nat)  (M : zm_Mem) {r : Unit} {M' : zm_Mem} (h : f_X2_take M = some (r, M')) : zm_Ct E sv sv yX2_take Y_X2_take [.ref (E.2.1 + 8)] M none M' := by
  refine zm_meth (emb := zm_ev) (d := f_X2_take M) (by decide) rfl (Nat.le_of_ble_eq_true rfl) h (fun X => ?_)
  show zm_V X Y_X2_take E (zm_Q X E Y_X2_take.2.2.2.1.cells Y_X2_take.2.2.2.1.slots sv zm_ev) 0 0 sv 0 [(0, .ref (E.2.1 + 8))] [] M (f_X2_take M) some
  unfold f_X2_take
  refine zm_aload_n 1 rfl dX2_take_0 rfl 0 rfl ?_
  refine zm_getI 4 rfl dX2_take_1 fl_X2_38 rfl (zm_L rfl) ?_
  refine zm_if_eq 8 7 (by decide) rfl dX2_take_4 ?_ ?_
  · refine zm_aload_n 9 rfl dX2_take_8 rfl 0 rfl ?_
    refine zm_getI 12 rfl dX2_take_9 fl_X2_35 rfl (zm_L rfl) ?_
    refine zm_sipush 15 rfl dX2_take_12 zs_400 ?_
    refine zm_icmp_ge 31 18 (by decide) rfl dX2_take_15 ?_ ?_
    · refine zm_aload_n 32 rfl dX2_take_31 rfl 0 rfl ?_
      refine zm_iconst 33 rfl dX2_take_32 zi_2 ?_
      refine zm_putI 36 rfl dX2_take_33 fp_X2_38 rfl (zm_L rfl) rfl rfl (fun M33 _ => ?_)
      exact zm_vret dX2_take_36 rfl (Nat.le_refl _) (Nat.le_refl _) rfl
    · refine zm_aload_n 19 rfl dX2_take_18 rfl 0 rfl ?_
      refine zm_dup 20 rfl dX2_take_19 rfl ?_
      refine zm_getI 23 rfl dX2_take_20 fl_X2_35 rfl (zm_L rfl) ?_
      refine zm_iconst 24 rfl dX2_take_23 zi_1 ?_
      refine zm_iadd 25 rfl dX2_take_24 ?_
      refine zm_putI 28 rfl dX2_take_25 fp_X2_35 rfl (zm_L rfl) rfl rfl (fun M25 _ => ?_)
      refine zm_goto 36 (by decide) dX2_take_28 ?_
      exact zm_vret dX2_take_36 rfl (Nat.le_refl _) (Nat.le_refl _) rfl
  · exact zm_vret dX2_take_7 rfl (Nat.le_refl _) (Nat.le_refl _) rfl
abbrev Y_X7_worthAt : zm_Y := (cX7_worthAt, 2, RX7, { frames := 0, cells := 0, slots := 0, locals := 0 }, (some .long), false)
noncomputable def f_X7_worthAt_b21  : Option Int64 :=
 some 0
noncomputable def f_X7_worthAt (a1 : Int32) (M : zm_Mem) : Option Int64 :=
  if a1 < 0 then (f_X7_worthAt_b21) else (if (M.1 3 4) ≤ a1 then (f_X7_worthAt_b21) else (zm_ck (zm_in a1 402) <| some (M.2.1 6 a1.toNatClampNeg)))
set_option maxRecDepth 20000 in
set_option maxHeartbeats 4000000 in
theorem k_X7_worthAt (E : zm_E) (sv : Nat) (a1 : Int32) (M : zm_Mem) {r : Int64} (h : f_X7_worthAt a1 M = some r) : zm_Ct E sv sv yX7_worthAt Y_X7_worthAt [.ref (E.2.1 + 3), .int a1] M (some (.long r)) M := by
  refine zm_methr (emb := zm_el) (d := f_X7_worthAt a1 M) (by decide) rfl (Nat.le_of_ble_eq_true rfl) h (fun X => ?_)
  show zm_V X Y_X7_worthAt E (zm_Q X E Y_X7_worthAt.2.2.2.1.cells Y_X7_worthAt.2.2.2.1.slots sv zm_el) 0 0 sv 0 [(0, .ref (E.2.1 + 3)), (1, .int a1)] [] M (f_X7_worthAt a1 M) (fun r => some (r, M))
  unfold f_X7_worthAt
  refine zm_iload_n 1 rfl dX7_worthAt_0 rfl 1 rfl ?_
  have hb21 : zm_V X Y_X7_worthAt E (zm_Q X E Y_X7_worthAt.2.2.2.1.cells Y_X7_worthAt.2.2.2.1.slots sv zm_el) 0 0 sv 21 [] [] M (f_X7_worthAt_b21) (fun r => some (r, M)) := by
    unfold f_X7_worthAt_b21
    refine zm_lconst 22 rfl dX7_worthAt_21 rfl ?_
    exact zm_lret dX7_worthAt_22 rfl (Nat.le_refl _) (Nat.le_refl _) rfl
  refine zm_if_lt 21 4 (by decide) rfl dX7_worthAt_1 ?_ ?_
  · exact zm_loc [] rfl (hb21)
  · refine zm_iload_n 5 rfl dX7_worthAt_4 rfl 1 rfl ?_
    refine zm_aload_n 6 rfl dX7_worthAt_5 rfl 0 rfl ?_
    refine zm_getI 9 rfl dX7_worthAt_6 fl_X7_41 rfl (zm_L rfl) ?_
    refine zm_icmp_ge 21 12 (by decide) rfl dX7_worthAt_9 ?_ ?_
    · exact zm_loc [] rfl (hb21)
    · refine zm_aload_n 13 rfl dX7_worthAt_12 rfl 0 rfl ?_
      refine zm_getR 16 rfl dX7_worthAt_13 fl_X7_18 rfl (zm_L rfl) rfl ?_
      refine zm_iload_n 17 rfl dX7_worthAt_16 rfl 1 rfl ?_
      refine zm_lald 18 rfl dX7_worthAt_17 rfl (zm_L rfl) ?_
      refine zm_goto 22 (by decide) dX7_worthAt_18 ?_
      exact zm_lret dX7_worthAt_22 rfl (Nat.le_refl _) (Nat.le_refl _) rfl
abbrev Y_X2_find : zm_Y := (cX2_find, 5, RX2, { frames := 0, cells := 0, slots := 0, locals := 0 }, (some .int), false)
noncomputable def f_X2_find_l3 (a0 : Int64) (a2 : Nat) (a3 : Int32) (M : zm_Mem) (l3_4 : Int32) : Option (Int32 ⊕ (Int32 ⊕ Unit)) :=
 if a3 ≤ l3_4 then (some (.inr (.inr ()))) else (if (Int32.ofNat (zm_sh a2).2) ≤ l3_4 then (some (.inr (.inr ()))) else (zm_ck (zm_in l3_4 (zm_sh a2).2) <| if (lg_cmp (M.2.1 a2 l3_4.toNatClampNeg) a0) = 0 then (some (.inr (.inl l3_4))) else (zm_v (l3_4 + 1) <| fun x28 => some (.inl x28))))
noncomputable def f_X2_find (a0 : Int64) (a2 : Nat) (a3 : Int32) (M : zm_Mem) : Option Int32 :=
  (zm_lp (f_X2_find_l3 a0 a2 a3 M) 0).bind (Sum.elim (fun e25 => some e25) (fun _ => some (-1)))
set_option maxRecDepth 20000 in
set_option maxHeartbeats 4000000 in
theorem k_X2_find (E : zm_E) (sv : Nat) (a0 : Int64) (a2 : Nat) (a3 : Int32) (ha2 : zm_sh a2 = (2, (zm_sh a2).2) ∧ (0 < a2 ∧ a2 ≤ zm_n sv)) (M : zm_Mem) {r : Int32} (h : f_X2_find a0 a2 a3 M = some r) : zm_Ct E sv sv yX2_find Y_X2_find [.long a0, .ref (E.2.1 + a2), .int a3] M (some (.int r)) M := by
  refine zm_methr (emb := zm_ei) (d := f_X2_find a0 a2 a3 M) (by decide) rfl (Nat.le_of_ble_eq_true rfl) h (fun X => ?_)
  show zm_V X Y_X2_find E (zm_Q X E Y_X2_find.2.2.2.1.cells Y_X2_find.2.2.2.1.slots sv zm_ei) 0 0 sv 0 [(0, .long a0), (2, .ref (E.2.1 + a2)), (3, .int a3)] [] M (f_X2_find a0 a2 a3 M) (fun r => some (r, M))
  unfold f_X2_find
  refine zm_iconst 1 rfl dX2_find_0 zi_0 ?_
  refine zm_istore (lv' := [(4, .int 0), (0, .long a0), (2, .ref (E.2.1 + a2)), (3, .int a3)]) 3 rfl dX2_find_1 (by decide) rfl ?_
  have hx25_3 : ∀ (e25_4 : Int32), zm_V X Y_X2_find E (zm_Q X E Y_X2_find.2.2.2.1.cells Y_X2_find.2.2.2.1.slots sv zm_ei) 0 0 sv 25 [(4, .int e25_4)] [] M (some e25_4) (fun r => some (r, M)) := by
    intro e25_4
    refine zm_iload 27 rfl dX2_find_25 0 rfl ?_
    exact zm_iret dX2_find_27 rfl (Nat.le_refl _) (Nat.le_refl _) rfl
  have hx34_3 : zm_V X Y_X2_find E (zm_Q X E Y_X2_find.2.2.2.1.cells Y_X2_find.2.2.2.1.slots sv zm_ei) 0 0 sv 34 [] [] M (some (-1)) (fun r => some (r, M)) := by
    refine zm_iconst 35 rfl dX2_find_34 zi_m1 ?_
    exact zm_iret dX2_find_35 rfl (Nat.le_refl _) (Nat.le_refl _) rfl
  refine zm_loc [1, 2, 3, 0] rfl (zm_lpp (σ := Int32) (ε := (Int32 ⊕ Unit)) (step := f_X2_find_l3 a0 a2 a3 M) (fun s => [(0, .long a0), (2, .ref (E.2.1 + a2)), (3, .int a3), (4, .int s)]) (fun _ => M) (fun D3 f3 hf3a hf3b hD3 s => ?_) 0)
  obtain ⟨l3_4, hq3⟩ : ∃ q, q = s := ⟨_, rfl⟩
  rw [← hq3]
  show zm_V X Y_X2_find E (zm_Q X E Y_X2_find.2.2.2.1.cells Y_X2_find.2.2.2.1.slots sv zm_ei) 0 0 sv 3 [(0, .long a0), (2, .ref (E.2.1 + a2)), (3, .int a3), (4, .int l3_4)] [] M (f_X2_find_l3 a0 a2 a3 M l3_4) f3
  unfold f_X2_find_l3
  refine zm_iload 5 rfl dX2_find_3 3 rfl ?_
  refine zm_iload_n 6 rfl dX2_find_5 rfl 2 rfl ?_
  refine zm_icmp_ge 34 9 (by decide) rfl dX2_find_6 ?_ ?_
  · exact zm_loc [] rfl (zm_go (hf3b _) (zm_unb (hx34_3)))
  · refine zm_iload 11 rfl dX2_find_9 3 rfl ?_
    refine zm_aload_n 12 rfl dX2_find_11 rfl 1 rfl ?_
    refine zm_alen 13 rfl dX2_find_12 ha2.1 (by decide) ha2.2 rfl ?_
    refine zm_icmp_ge 34 16 (by decide) rfl dX2_find_13 ?_ ?_
    · exact zm_loc [] rfl (zm_go (hf3b _) (zm_unb (hx34_3)))
    · refine zm_aload_n 17 rfl dX2_find_16 rfl 1 rfl ?_
      refine zm_iload 19 rfl dX2_find_17 3 rfl ?_
      refine zm_lald 20 rfl dX2_find_19 ha2.1 ha2.2 ?_
      refine zm_lload_n 21 rfl dX2_find_20 rfl 0 rfl ?_
      refine zm_lcmp 22 rfl dX2_find_21 ?_
      refine zm_if_ne 28 25 (by decide) rfl dX2_find_22 ?_ ?_
      · exact zm_loc [3] rfl (zm_go (hf3b _) (zm_unb (hx25_3 l3_4)))
      · refine zm_iinc (lv' := fun z => [(4, .int z), (0, .long a0), (2, .ref (E.2.1 + a2)), (3, .int a3)]) 31 rfl dX2_find_28 zi_1 3 rfl (by decide) (fun _ => rfl) (fun x28 _ => ?_)
        refine zm_goto 3 (by decide) dX2_find_31 ?_
        exact zm_loc [1, 2, 3, 0] rfl (zm_go (hf3a _) (hD3 x28))
abbrev Y_X7_placeAt : zm_Y := (cX7_placeAt, 2, RX7, { frames := 0, cells := 0, slots := 0, locals := 0 }, (some .int), false)
noncomputable def f_X7_placeAt_b21  : Option Int32 :=
 some (-1)
noncomputable def f_X7_placeAt (a1 : Int32) (M : zm_Mem) : Option Int32 :=
  if a1 < 0 then (f_X7_placeAt_b21) else (if (M.1 3 4) ≤ a1 then (f_X7_placeAt_b21) else (zm_ck (zm_in a1 402) <| some (M.1 5 a1.toNatClampNeg)))
set_option maxRecDepth 20000 in
set_option maxHeartbeats 4000000 in
theorem k_X7_placeAt (E : zm_E) (sv : Nat) (a1 : Int32) (M : zm_Mem) {r : Int32} (h : f_X7_placeAt a1 M = some r) : zm_Ct E sv sv yX7_placeAt Y_X7_placeAt [.ref (E.2.1 + 3), .int a1] M (some (.int r)) M := by
  refine zm_methr (emb := zm_ei) (d := f_X7_placeAt a1 M) (by decide) rfl (Nat.le_of_ble_eq_true rfl) h (fun X => ?_)
  show zm_V X Y_X7_placeAt E (zm_Q X E Y_X7_placeAt.2.2.2.1.cells Y_X7_placeAt.2.2.2.1.slots sv zm_ei) 0 0 sv 0 [(0, .ref (E.2.1 + 3)), (1, .int a1)] [] M (f_X7_placeAt a1 M) (fun r => some (r, M))
  unfold f_X7_placeAt
  refine zm_iload_n 1 rfl dX7_placeAt_0 rfl 1 rfl ?_
  have hb21 : zm_V X Y_X7_placeAt E (zm_Q X E Y_X7_placeAt.2.2.2.1.cells Y_X7_placeAt.2.2.2.1.slots sv zm_ei) 0 0 sv 21 [] [] M (f_X7_placeAt_b21) (fun r => some (r, M)) := by
    unfold f_X7_placeAt_b21
    refine zm_iconst 22 rfl dX7_placeAt_21 zi_m1 ?_
    exact zm_iret dX7_placeAt_22 rfl (Nat.le_refl _) (Nat.le_refl _) rfl
  refine zm_if_lt 21 4 (by decide) rfl dX7_placeAt_1 ?_ ?_
  · exact zm_loc [] rfl (hb21)
  · refine zm_iload_n 5 rfl dX7_placeAt_4 rfl 1 rfl ?_
    refine zm_aload_n 6 rfl dX7_placeAt_5 rfl 0 rfl ?_
    refine zm_getI 9 rfl dX7_placeAt_6 fl_X7_41 rfl (zm_L rfl) ?_
    refine zm_icmp_ge 21 12 (by decide) rfl dX7_placeAt_9 ?_ ?_
    · exact zm_loc [] rfl (hb21)
    · refine zm_aload_n 13 rfl dX7_placeAt_12 rfl 0 rfl ?_
      refine zm_getR 16 rfl dX7_placeAt_13 fl_X7_15 rfl (zm_L rfl) rfl ?_
      refine zm_iload_n 17 rfl dX7_placeAt_16 rfl 1 rfl ?_
      refine zm_iald 18 rfl dX7_placeAt_17 rfl (zm_L rfl) ?_
      refine zm_goto 22 (by decide) dX7_placeAt_18 ?_
      exact zm_iret dX7_placeAt_22 rfl (Nat.le_refl _) (Nat.le_refl _) rfl
abbrev Y_X2_note : zm_Y := (cX2_note, 2, RX2, { frames := 1, cells := 0, slots := 0, locals := 21 }, none, false)
noncomputable def f_X2_note (a1 : Int32) (M : zm_Mem) : Option (Unit × zm_Mem) :=
  if (M.1 8 5) = 0 then (if (M.1 8 7) = 0 then (zm_v (zm_sI M 8 7 a1) <| fun M16 => zm_b1 (f_X7_placeAt (M16.1 8 4) M16) <| fun r28 => zm_v (zm_sI M16 8 8 r28) <| fun M31 => some ((), M31)) else (some ((), M))) else (some ((), M))
set_option maxRecDepth 20000 in
set_option maxHeartbeats 4000000 in
theorem k_X2_note (E : zm_E) (sv : Nat) (a1 : Int32) (M : zm_Mem) {r : Unit} {M' : zm_Mem} (h : f_X2_note a1 M = some (r, M')) : zm_Ct E sv sv yX2_note Y_X2_note [.ref (E.2.1 + 8), .int a1] M none M' := by
  refine zm_meth (emb := zm_ev) (d := f_X2_note a1 M) (by decide) rfl (Nat.le_of_ble_eq_true rfl) h (fun X => ?_)
  show zm_V X Y_X2_note E (zm_Q X E Y_X2_note.2.2.2.1.cells Y_X2_note.2.2.2.1.slots sv zm_ev) 0 0 sv 0 [(0, .ref (E.2.1 + 8)), (1, .int a1)] [] M (f_X2_note a1 M) some
  unfold f_X2_note
  refine zm_aload_n 1 rfl dX2_note_0 rfl 0 rfl ?_
  refine zm_getI 4 rfl dX2_note_1 fl_X2_38 rfl (zm_L rfl) ?_
  refine zm_if_ne 34 7 (by decide) rfl dX2_note_4 ?_ ?_
  · refine zm_aload_n 8 rfl dX2_note_7 rfl 0 rfl ?_
    refine zm_getI 11 rfl dX2_note_8 fl_X2_41 rfl (zm_L rfl) ?_
    refine zm_if_ne 34 14 (by decide) rfl dX2_note_11 ?_ ?_
    · refine zm_aload_n 15 rfl dX2_note_14 rfl 0 rfl ?_
      refine zm_iload_n 16 rfl dX2_note_15 rfl 1 rfl ?_
      refine zm_putI 19 rfl dX2_note_16 fp_X2_41 rfl (zm_L rfl) rfl rfl (fun M16 _ => ?_)
      refine zm_aload_n 20 rfl dX2_note_19 rfl 0 rfl ?_
      refine zm_aload_n 21 rfl dX2_note_20 rfl 0 rfl ?_
      refine zm_getR 24 rfl dX2_note_21 fl_X2_18 rfl (zm_L rfl) rfl ?_
      refine zm_aload_n 25 rfl dX2_note_24 rfl 0 rfl ?_
      refine zm_getI 28 rfl dX2_note_25 fl_X2_35 rfl (zm_L rfl) ?_
      refine zm_cV1ir 31 rfl dX2_note_28 ml_X2_86 rfl (zm_L rfl) rfl (Nat.le_of_ble_eq_true rfl) ⟨Nat.le_of_ble_eq_true rfl, Nat.le_of_ble_eq_true rfl⟩ rfl rfl ⟨Nat.le_refl _, Nat.le_refl _⟩ rfl (fun _ h => k_X7_placeAt E sv (M16.1 8 4) M16 h) (fun r28 => ?_)
      refine zm_putI 34 rfl dX2_note_31 fp_X2_44 rfl (zm_L rfl) rfl rfl (fun M31 _ => ?_)
      exact zm_vret dX2_note_34 rfl (Nat.le_refl _) (Nat.le_refl _) rfl
    · exact zm_vret dX2_note_34 rfl (Nat.le_refl _) (Nat.le_refl _) rfl
  · exact zm_vret dX2_note_34 rfl (Nat.le_refl _) (Nat.le_refl _) rfl
abbrev Y_X2_expect : zm_Y := (cX2_expect, 2, RX2, { frames := 2, cells := 0, slots := 0, locals := 41 }, none, false)
noncomputable def f_X2_expect (a1 : Int32) (M : zm_Mem) : Option (Unit × zm_Mem) :=
  zm_b1 (f_X2_sort M) <| fun r1 => if r1 = a1 then (zm_b2 (f_X2_take M) <| fun _ M9 => some ((), M9)) else (zm_b2 (f_X2_fail 1 M) <| fun _ M17 => some ((), M17))
set_option maxRecDepth 20000 in
set_option maxHeartbeats 4000000 in
theorem k_X2_expect (E : zm_E) (sv : Nat) (a1 : Int32) (M : zm_Mem) {r : Unit} {M' : zm_Mem} (h : f_X2_expect a1 M = some (r, M')) : zm_Ct E sv sv yX2_expect Y_X2_expect [.ref (E.2.1 + 8), .int a1] M none M' := by
  refine zm_meth (emb := zm_ev) (d := f_X2_expect a1 M) (by decide) rfl (Nat.le_of_ble_eq_true rfl) h (fun X => ?_)
  show zm_V X Y_X2_expect E (zm_Q X E Y_X2_expect.2.2.2.1.cells Y_X2_expect.2.2.2.1.slots sv zm_ev) 0 0 sv 0 [(0, .ref (E.2.1 + 8)), (1, .int a1)] [] M (f_X2_expect a1 M) some
  unfold f_X2_expect
  refine zm_aload_n 1 rfl dX2_expect_0 rfl 0 rfl ?_
  refine zm_cV0ir 4 rfl dX2_expect_1 ml_X2_47 rfl (zm_L rfl) rfl (Nat.le_of_ble_eq_true rfl) ⟨Nat.le_of_ble_eq_true rfl, Nat.le_of_ble_eq_true rfl⟩ rfl rfl ⟨Nat.le_refl _, Nat.le_refl _⟩ rfl (fun _ h => k_X2_sort E sv M h) (fun r1 => ?_)
  refine zm_iload_n 5 rfl dX2_expect_4 rfl 1 rfl ?_
  refine zm_icmp_ne 15 8 (by decide) rfl dX2_expect_5 ?_ ?_
  · refine zm_aload_n 9 rfl dX2_expect_8 rfl 0 rfl ?_
    refine zm_cV0v 12 rfl dX2_expect_9 ml_X2_95 rfl (zm_L rfl) rfl (Nat.le_of_ble_eq_true rfl) ⟨Nat.le_of_ble_eq_true rfl, Nat.le_of_ble_eq_true rfl⟩ rfl rfl ⟨Nat.le_refl _, Nat.le_refl _⟩ rfl (fun _ _ h => k_X2_take E sv M h) (fun _ M9 => ?_)
    refine zm_goto 20 (by decide) dX2_expect_12 ?_
    exact zm_vret dX2_expect_20 rfl (Nat.le_refl _) (Nat.le_refl _) rfl
  · refine zm_aload_n 16 rfl dX2_expect_15 rfl 0 rfl ?_
    refine zm_iconst 17 rfl dX2_expect_16 zi_1 ?_
    refine zm_cV1v 20 rfl dX2_expect_17 ml_X2_82 rfl (zm_L rfl) rfl (Nat.le_of_ble_eq_true rfl) ⟨Nat.le_of_ble_eq_true rfl, Nat.le_of_ble_eq_true rfl⟩ rfl rfl ⟨Nat.le_refl _, Nat.le_refl _⟩ rfl (fun _ _ h => k_X2_fail E sv 1 M h) (fun _ M17 => ?_)
    exact zm_vret dX2_expect_20 rfl (Nat.le_refl _) (Nat.le_refl _) rfl
abbrev Y_X2_newName : zm_Y := (cX2_newName, 3, RX2, { frames := 3, cells := 0, slots := 0, locals := 62 }, (some .long), false)
noncomputable def f_X2_newName_b55 (r8 : Int64) (M55 : zm_Mem) : Option (Int64 × zm_Mem) :=
 zm_b2 (f_X2_expect 2 M55) <| fun _ M57 => some (r8, M57)
noncomputable def f_X2_newName_b50 (M : zm_Mem) (r8 : Int64) : Option (Int64 × zm_Mem) :=
 zm_b2 (f_X2_note 3 M) <| fun _ M52 => f_X2_newName_b55 r8 M52
noncomputable def f_X2_newName  (M : zm_Mem) : Option (Int64 × zm_Mem) :=
  zm_b1 (f_X7_worthAt (M.1 8 4) M) <| fun r8 => zm_v (M.2.2 8 3) <| fun t18 => zm_ck (zm_isT t18) <| zm_b1 (f_X2_find r8 9 (M.1 t18 11) M) <| fun r24 => if r24 = (-1 : Int32) then (zm_v (M.2.2 8 3) <| fun t37 => zm_ck (zm_isT t37) <| zm_b1 (f_X2_find r8 10 (M.1 t37 12) M) <| fun r43 => if r43 = (-1 : Int32) then (f_X2_newName_b55 r8 M) else (f_X2_newName_b50 M r8)) else (f_X2_newName_b50 M r8)
set_option maxRecDepth 20000 in
set_option maxHeartbeats 4000000 in
theorem k_X2_newName (E : zm_E) (sv : Nat)  (M : zm_Mem) {r : Int64} {M' : zm_Mem} (h : f_X2_newName M = some (r, M')) : zm_Ct E sv sv yX2_newName Y_X2_newName [.ref (E.2.1 + 8)] M (some (.long r)) M' := by
  refine zm_meth (emb := zm_el) (d := f_X2_newName M) (by decide) rfl (Nat.le_of_ble_eq_true rfl) h (fun X => ?_)
  show zm_V X Y_X2_newName E (zm_Q X E Y_X2_newName.2.2.2.1.cells Y_X2_newName.2.2.2.1.slots sv zm_el) 0 0 sv 0 [(0, .ref (E.2.1 + 8))] [] M (f_X2_newName M) some
  unfold f_X2_newName
  refine zm_aload_n 1 rfl dX2_newName_0 rfl 0 rfl ?_
  refine zm_getR 4 rfl dX2_newName_1 fl_X2_18 rfl (zm_L rfl) rfl ?_
  refine zm_aload_n 5 rfl dX2_newName_4 rfl 0 rfl ?_
  refine zm_getI 8 rfl dX2_newName_5 fl_X2_35 rfl (zm_L rfl) ?_
  refine zm_cV1lr 11 rfl dX2_newName_8 ml_X2_165 rfl (zm_L rfl) rfl (Nat.le_of_ble_eq_true rfl) ⟨Nat.le_of_ble_eq_true rfl, Nat.le_of_ble_eq_true rfl⟩ rfl rfl ⟨Nat.le_refl _, Nat.le_refl _⟩ rfl (fun _ h => k_X7_worthAt E sv (M.1 8 4) M h) (fun r8 => ?_)
  refine zm_lstore_n (lv' := [(1, .long r8), (0, .ref (E.2.1 + 8))]) 12 rfl dX2_newName_11 rfl (by decide) rfl ?_
  refine zm_lload_n 13 rfl dX2_newName_12 rfl 0 rfl ?_
  refine zm_aload_n 14 rfl dX2_newName_13 rfl 1 rfl ?_
  refine zm_getR 17 rfl dX2_newName_14 fl_X2_9 rfl (zm_L rfl) rfl ?_
  refine zm_aload_n 18 rfl dX2_newName_17 rfl 1 rfl ?_
  refine zm_getT 21 rfl dX2_newName_18 fl_X2_26 rfl (zm_L rfl) (fun t18 _ ht18 => ?_)
  refine zm_getI 24 rfl dX2_newName_21 fl_X2_92 (zm_T_o ht18) (zm_T_l0 ht18) ?_
  refine zm_cS3ir 27 rfl dX2_newName_24 ml_X2_172 (Nat.le_of_ble_eq_true rfl) ⟨Nat.le_of_ble_eq_true rfl, Nat.le_of_ble_eq_true rfl⟩ rfl rfl ⟨Nat.le_refl _, Nat.le_refl _⟩ rfl (fun _ h => k_X2_find E sv r8 9 (M.1 t18 11) ⟨rfl, (zm_L rfl)⟩ M h) (fun r24 => ?_)
  refine zm_iconst 28 rfl dX2_newName_27 zi_m1 ?_
  have hb55 : ∀ (M55 : zm_Mem), zm_V X Y_X2_newName E (zm_Q X E Y_X2_newName.2.2.2.1.cells Y_X2_newName.2.2.2.1.slots sv zm_el) 0 0 sv 55 [(0, .ref (E.2.1 + 8)), (1, .long r8)] [] M55 (f_X2_newName_b55 r8 M55) some := by
    intro M55
    unfold f_X2_newName_b55
    refine zm_aload_n 56 rfl dX2_newName_55 rfl 0 rfl ?_
    refine zm_iconst 57 rfl dX2_newName_56 zi_2 ?_
    refine zm_cV1v 60 rfl dX2_newName_57 ml_X2_112 rfl (zm_L rfl) rfl (Nat.le_of_ble_eq_true rfl) ⟨Nat.le_of_ble_eq_true rfl, Nat.le_of_ble_eq_true rfl⟩ rfl rfl ⟨Nat.le_refl _, Nat.le_refl _⟩ rfl (fun _ _ h => k_X2_expect E sv 2 M55 h) (fun _ M57 => ?_)
    refine zm_lload_n 61 rfl dX2_newName_60 rfl 1 rfl ?_
    exact zm_lret dX2_newName_61 rfl (Nat.le_refl _) (Nat.le_refl _) rfl
  have hb50 : zm_V X Y_X2_newName E (zm_Q X E Y_X2_newName.2.2.2.1.cells Y_X2_newName.2.2.2.1.slots sv zm_el) 0 0 sv 50 [(0, .ref (E.2.1 + 8)), (1, .long r8)] [] M (f_X2_newName_b50 M r8) some := by
    unfold f_X2_newName_b50
    refine zm_aload_n 51 rfl dX2_newName_50 rfl 0 rfl ?_
    refine zm_iconst 52 rfl dX2_newName_51 zi_3 ?_
    refine zm_cV1v 55 rfl dX2_newName_52 ml_X2_169 rfl (zm_L rfl) rfl (Nat.le_of_ble_eq_true rfl) ⟨Nat.le_of_ble_eq_true rfl, Nat.le_of_ble_eq_true rfl⟩ rfl rfl ⟨Nat.le_refl _, Nat.le_refl _⟩ rfl (fun _ _ h => k_X2_note E sv 3 M h) (fun _ M52 => ?_)
    exact zm_loc [0, 1] rfl (hb55 M52)
  refine zm_icmp_ne 50 31 (by decide) rfl dX2_newName_28 ?_ ?_
  · refine zm_lload_n 32 rfl dX2_newName_31 rfl 0 rfl ?_
    refine zm_aload_n 33 rfl dX2_newName_32 rfl 1 rfl ?_
    refine zm_getR 36 rfl dX2_newName_33 fl_X2_15 rfl (zm_L rfl) rfl ?_
    refine zm_aload_n 37 rfl dX2_newName_36 rfl 1 rfl ?_
    refine zm_getT 40 rfl dX2_newName_37 fl_X2_26 rfl (zm_L rfl) (fun t37 _ ht37 => ?_)
    refine zm_getI 43 rfl dX2_newName_40 fl_X2_115 (zm_T_o ht37) (zm_T_l0 ht37) ?_
    refine zm_cS3ir 46 rfl dX2_newName_43 ml_X2_172 (Nat.le_of_ble_eq_true rfl) ⟨Nat.le_of_ble_eq_true rfl, Nat.le_of_ble_eq_true rfl⟩ rfl rfl ⟨Nat.le_refl _, Nat.le_refl _⟩ rfl (fun _ h => k_X2_find E sv r8 10 (M.1 t37 12) ⟨rfl, (zm_L rfl)⟩ M h) (fun r43 => ?_)
    refine zm_iconst 47 rfl dX2_newName_46 zi_m1 ?_
    refine zm_icmp_eq 55 50 (by decide) rfl dX2_newName_47 ?_ ?_
    · exact zm_loc [1, 0] rfl (hb55 M)
    · exact zm_loc [1, 0] rfl (hb50)
  · exact zm_loc [1, 0] rfl (hb50)
abbrev Y_X2_number : zm_Y := (cX2_number, 4, RX2, { frames := 3, cells := 0, slots := 0, locals := 62 }, (some .int), false)
noncomputable def f_X2_number_b36 (x12 : Int32) (M36 : zm_Mem) : Option (Int32 × zm_Mem) :=
 zm_b2 (f_X2_expect 3 M36) <| fun _ M38 => some (x12, M38)
noncomputable def f_X2_number_b31 (M : zm_Mem) (x12 : Int32) : Option (Int32 × zm_Mem) :=
 zm_b2 (f_X2_note 5 M) <| fun _ M33 => f_X2_number_b36 x12 M33
noncomputable def f_X2_number (a1 : Int32) (a2 : Int32) (M : zm_Mem) : Option (Int32 × zm_Mem) :=
  zm_b1 (f_X7_worthAt (M.1 8 4) M) <| fun r8 => zm_v (r8.toInt32) <| fun x12 => zm_b1 (f_X2_sort M) <| fun r14 => if r14 = (3 : Int32) then (if x12 < a1 then (f_X2_number_b31 M x12) else (if x12 ≤ a2 then (f_X2_number_b36 x12 M) else (f_X2_number_b31 M x12))) else (f_X2_number_b36 x12 M)
set_option maxRecDepth 20000 in
set_option maxHeartbeats 4000000 in
theorem k_X2_number (E : zm_E) (sv : Nat) (a1 : Int32) (a2 : Int32) (M : zm_Mem) {r : Int32} {M' : zm_Mem} (h : f_X2_number a1 a2 M = some (r, M')) : zm_Ct E sv sv yX2_number Y_X2_number [.ref (E.2.1 + 8), .int a1, .int a2] M (some (.int r)) M' := by
  refine zm_meth (emb := zm_ei) (d := f_X2_number a1 a2 M) (by decide) rfl (Nat.le_of_ble_eq_true rfl) h (fun X => ?_)
  show zm_V X Y_X2_number E (zm_Q X E Y_X2_number.2.2.2.1.cells Y_X2_number.2.2.2.1.slots sv zm_ei) 0 0 sv 0 [(0, .ref (E.2.1 + 8)), (1, .int a1), (2, .int a2)] [] M (f_X2_number a1 a2 M) some
  unfold f_X2_number
  refine zm_aload_n 1 rfl dX2_number_0 rfl 0 rfl ?_
  refine zm_getR 4 rfl dX2_number_1 fl_X2_18 rfl (zm_L rfl) rfl ?_
  refine zm_aload_n 5 rfl dX2_number_4 rfl 0 rfl ?_
  refine zm_getI 8 rfl dX2_number_5 fl_X2_35 rfl (zm_L rfl) ?_
  refine zm_cV1lr 11 rfl dX2_number_8 ml_X2_165 rfl (zm_L rfl) rfl (Nat.le_of_ble_eq_true rfl) ⟨Nat.le_of_ble_eq_true rfl, Nat.le_of_ble_eq_true rfl⟩ rfl rfl ⟨Nat.le_refl _, Nat.le_refl _⟩ rfl (fun _ h => k_X7_worthAt E sv (M.1 8 4) M h) (fun r8 => ?_)
  refine zm_l2i 12 rfl dX2_number_11 ?_
  refine zm_nmi (fun x12 _ => ?_)
  refine zm_istore_n (lv' := [(3, .int x12), (0, .ref (E.2.1 + 8)), (1, .int a1), (2, .int a2)]) 13 rfl dX2_number_12 rfl (by decide) rfl ?_
  refine zm_aload_n 14 rfl dX2_number_13 rfl 1 rfl ?_
  refine zm_cV0ir 17 rfl dX2_number_14 ml_X2_47 rfl (zm_L rfl) rfl (Nat.le_of_ble_eq_true rfl) ⟨Nat.le_of_ble_eq_true rfl, Nat.le_of_ble_eq_true rfl⟩ rfl rfl ⟨Nat.le_refl _, Nat.le_refl _⟩ rfl (fun _ h => k_X2_sort E sv M h) (fun r14 => ?_)
  refine zm_iconst 18 rfl dX2_number_17 zi_3 ?_
  have hb36 : ∀ (M36 : zm_Mem), zm_V X Y_X2_number E (zm_Q X E Y_X2_number.2.2.2.1.cells Y_X2_number.2.2.2.1.slots sv zm_ei) 0 0 sv 36 [(0, .ref (E.2.1 + 8)), (3, .int x12)] [] M36 (f_X2_number_b36 x12 M36) some := by
    intro M36
    unfold f_X2_number_b36
    refine zm_aload_n 37 rfl dX2_number_36 rfl 0 rfl ?_
    refine zm_iconst 38 rfl dX2_number_37 zi_3 ?_
    refine zm_cV1v 41 rfl dX2_number_38 ml_X2_112 rfl (zm_L rfl) rfl (Nat.le_of_ble_eq_true rfl) ⟨Nat.le_of_ble_eq_true rfl, Nat.le_of_ble_eq_true rfl⟩ rfl rfl ⟨Nat.le_refl _, Nat.le_refl _⟩ rfl (fun _ _ h => k_X2_expect E sv 3 M36 h) (fun _ M38 => ?_)
    refine zm_iload_n 42 rfl dX2_number_41 rfl 1 rfl ?_
    exact zm_iret dX2_number_42 rfl (Nat.le_refl _) (Nat.le_refl _) rfl
  refine zm_icmp_ne 36 21 (by decide) rfl dX2_number_18 ?_ ?_
  · refine zm_iload_n 22 rfl dX2_number_21 rfl 0 rfl ?_
    refine zm_iload_n 23 rfl dX2_number_22 rfl 2 rfl ?_
    have hb31 : zm_V X Y_X2_number E (zm_Q X E Y_X2_number.2.2.2.1.cells Y_X2_number.2.2.2.1.slots sv zm_ei) 0 0 sv 31 [(0, .ref (E.2.1 + 8)), (3, .int x12)] [] M (f_X2_number_b31 M x12) some := by
      unfold f_X2_number_b31
      refine zm_aload_n 32 rfl dX2_number_31 rfl 0 rfl ?_
      refine zm_iconst 33 rfl dX2_number_32 zi_5 ?_
      refine zm_cV1v 36 rfl dX2_number_33 ml_X2_169 rfl (zm_L rfl) rfl (Nat.le_of_ble_eq_true rfl) ⟨Nat.le_of_ble_eq_true rfl, Nat.le_of_ble_eq_true rfl⟩ rfl rfl ⟨Nat.le_refl _, Nat.le_refl _⟩ rfl (fun _ _ h => k_X2_note E sv 5 M h) (fun _ M33 => ?_)
      exact zm_loc [0, 1] rfl (hb36 M33)
    refine zm_icmp_lt 31 26 (by decide) rfl dX2_number_23 ?_ ?_
    · exact zm_loc [1, 0] rfl (hb31)
    · refine zm_iload_n 27 rfl dX2_number_26 rfl 0 rfl ?_
      refine zm_iload_n 28 rfl dX2_number_27 rfl 3 rfl ?_
      refine zm_icmp_le 36 31 (by decide) rfl dX2_number_28 ?_ ?_
      · exact zm_loc [1, 0] rfl (hb36 M)
      · exact zm_loc [1, 0] rfl (hb31)
  · exact zm_loc [1, 0] rfl (hb36 M)
abbrev Y_X2_tellHouse : zm_Y := (cX2_tellHouse, 2, RX2, { frames := 4, cells := 0, slots := 0, locals := 85 }, none, false)
noncomputable def f_X2_tellHouse  (M : zm_Mem) : Option (Unit × zm_Mem) :=
  zm_v (M.2.2 8 3) <| fun t1 => zm_ck (zm_isT t1) <| zm_v (M.1 t1 11) <| fun x7 => if x7 < (5 : Int32) then (zm_b2 (f_X2_take M) <| fun _ M20 => zm_b2 (f_X2_newName M20) <| fun r29 M29 => zm_ck (zm_in x7 5) <| zm_v (zm_sL M29 9 x7.toNatClampNeg r29) <| fun M32 => zm_v (M32.2.2 8 3) <| fun t34 => zm_ck (zm_isT t34) <| zm_b2 (f_X2_number 0 9 M32) <| fun r45 M45 => zm_ck (zm_in x7 5) <| zm_v (zm_sI M45 (t34 + 1) x7.toNatClampNeg r45) <| fun M48 => zm_v (M48.2.2 8 3) <| fun t50 => zm_ck (zm_isT t50) <| zm_b2 (f_X2_number 0 9 M48) <| fun r61 M61 => zm_ck (zm_in x7 5) <| zm_v (zm_sI M61 (t50 + 2) x7.toNatClampNeg r61) <| fun M64 => zm_b2 (f_X2_expect 59 M64) <| fun _ M68 => zm_v (M68.2.2 8 3) <| fun t72 => zm_ck (zm_isT t72) <| zm_v (zm_sI M68 t72 11 ((M68.1 t72 11) + 1)) <| fun M81 => some ((), M81)) else (zm_b2 (f_X2_fail 2 M) <| fun _ M15 => some ((), M15))
set_option maxRecDepth 20000 in
set_option maxHeartbeats 4000000 in
theorem k_X2_tellHouse (E : zm_E) (sv : Nat)  (M : zm_Mem) {r : Unit} {M' : zm_Mem} (h : f_X2_tellHouse M = some (r, M')) : zm_Ct E sv sv yX2_tellHouse Y_X2_tellHouse [.ref (E.2.1 + 8)] M none M' := by
  refine zm_meth (emb := zm_ev) (d := f_X2_tellHouse M) (by decide) rfl (Nat.le_of_ble_eq_true rfl) h (fun X => ?_)
  show zm_V X Y_X2_tellHouse E (zm_Q X E Y_X2_tellHouse.2.2.2.1.cells Y_X2_tellHouse.2.2.2.1.slots sv zm_ev) 0 0 sv 0 [(0, .ref (E.2.1 + 8))] [] M (f_X2_tellHouse M) some
  unfold f_X2_tellHouse
  refine zm_aload_n 1 rfl dX2_tellHouse_0 rfl 0 rfl ?_
  refine zm_getT 4 rfl dX2_tellHouse_1 fl_X2_26 rfl (zm_L rfl) (fun t1 _ ht1 => ?_)
  refine zm_getI 7 rfl dX2_tellHouse_4 fl_X2_92 (zm_T_o ht1) (zm_T_l0 ht1) ?_
  refine zm_nmi (fun x7 _ => ?_)
  refine zm_istore_n (lv' := [(1, .int x7), (0, .ref (E.2.1 + 8))]) 8 rfl dX2_tellHouse_7 rfl (by decide) rfl ?_
  refine zm_iload_n 9 rfl dX2_tellHouse_8 rfl 0 rfl ?_
  refine zm_iconst 10 rfl dX2_tellHouse_9 zi_5 ?_
  refine zm_icmp_lt 19 13 (by decide) rfl dX2_tellHouse_10 ?_ ?_
  · refine zm_aload_n 20 rfl dX2_tellHouse_19 rfl 1 rfl ?_
    refine zm_cV0v 23 rfl dX2_tellHouse_20 ml_X2_95 rfl (zm_L rfl) rfl (Nat.le_of_ble_eq_true rfl) ⟨Nat.le_of_ble_eq_true rfl, Nat.le_of_ble_eq_true rfl⟩ rfl rfl ⟨Nat.le_refl _, Nat.le_refl _⟩ rfl (fun _ _ h => k_X2_take E sv M h) (fun _ M20 => ?_)
    refine zm_aload_n 24 rfl dX2_tellHouse_23 rfl 1 rfl ?_
    refine zm_getR 27 rfl dX2_tellHouse_24 fl_X2_9 rfl (zm_L rfl) rfl ?_
    refine zm_iload_n 28 rfl dX2_tellHouse_27 rfl 0 rfl ?_
    refine zm_aload_n 29 rfl dX2_tellHouse_28 rfl 1 rfl ?_
    refine zm_cV0l 32 rfl dX2_tellHouse_29 ml_X2_98 rfl (zm_L rfl) rfl (Nat.le_of_ble_eq_true rfl) ⟨Nat.le_of_ble_eq_true rfl, Nat.le_of_ble_eq_true rfl⟩ rfl rfl ⟨Nat.le_refl _, Nat.le_refl _⟩ rfl (fun _ _ h => k_X2_newName E sv M20 h) (fun r29 M29 => ?_)
    refine zm_last 33 rfl dX2_tellHouse_32 rfl (zm_L rfl) (fun M32 _ => ?_)
    refine zm_aload_n 34 rfl dX2_tellHouse_33 rfl 1 rfl ?_
    refine zm_getT 37 rfl dX2_tellHouse_34 fl_X2_26 rfl (zm_L rfl) (fun t34 _ ht34 => ?_)
    refine zm_getR (a := t34 + 1) 40 rfl dX2_tellHouse_37 fl_X2_102 (zm_T_o ht34) (zm_T_l0 ht34) (zm_T_r ht34 0 (by decide)) ?_
    refine zm_iload_n 41 rfl dX2_tellHouse_40 rfl 0 rfl ?_
    refine zm_aload_n 42 rfl dX2_tellHouse_41 rfl 1 rfl ?_
    refine zm_iconst 43 rfl dX2_tellHouse_42 zi_0 ?_
    refine zm_bipush 45 rfl dX2_tellHouse_43 zb_9 ?_
    refine zm_cV2i 48 rfl dX2_tellHouse_45 ml_X2_106 rfl (zm_L rfl) rfl (Nat.le_of_ble_eq_true rfl) ⟨Nat.le_of_ble_eq_true rfl, Nat.le_of_ble_eq_true rfl⟩ rfl rfl ⟨Nat.le_refl _, Nat.le_refl _⟩ rfl (fun _ _ h => k_X2_number E sv 0 9 M32 h) (fun r45 M45 => ?_)
    refine zm_iast 49 rfl dX2_tellHouse_48 (zm_T_a ht34 1 (by decide)) (zm_T_l ht34 1 (by decide)) (fun M48 _ => ?_)
    refine zm_aload_n 50 rfl dX2_tellHouse_49 rfl 1 rfl ?_
    refine zm_getT 53 rfl dX2_tellHouse_50 fl_X2_26 rfl (zm_L rfl) (fun t50 _ ht50 => ?_)
    refine zm_getR (a := t50 + 2) 56 rfl dX2_tellHouse_53 fl_X2_109 (zm_T_o ht50) (zm_T_l0 ht50) (zm_T_r ht50 1 (by decide)) ?_
    refine zm_iload_n 57 rfl dX2_tellHouse_56 rfl 0 rfl ?_
    refine zm_aload_n 58 rfl dX2_tellHouse_57 rfl 1 rfl ?_
    refine zm_iconst 59 rfl dX2_tellHouse_58 zi_0 ?_
    refine zm_bipush 61 rfl dX2_tellHouse_59 zb_9 ?_
    refine zm_cV2i 64 rfl dX2_tellHouse_61 ml_X2_106 rfl (zm_L rfl) rfl (Nat.le_of_ble_eq_true rfl) ⟨Nat.le_of_ble_eq_true rfl, Nat.le_of_ble_eq_true rfl⟩ rfl rfl ⟨Nat.le_refl _, Nat.le_refl _⟩ rfl (fun _ _ h => k_X2_number E sv 0 9 M48 h) (fun r61 M61 => ?_)
    refine zm_iast 65 rfl dX2_tellHouse_64 (zm_T_a ht50 2 (by decide)) (zm_T_l ht50 2 (by decide)) (fun M64 _ => ?_)
    refine zm_aload_n 66 rfl dX2_tellHouse_65 rfl 1 rfl ?_
    refine zm_bipush 68 rfl dX2_tellHouse_66 zb_59 ?_
    refine zm_cV1v 71 rfl dX2_tellHouse_68 ml_X2_112 rfl (zm_L rfl) rfl (Nat.le_of_ble_eq_true rfl) ⟨Nat.le_of_ble_eq_true rfl, Nat.le_of_ble_eq_true rfl⟩ rfl rfl ⟨Nat.le_refl _, Nat.le_refl _⟩ rfl (fun _ _ h => k_X2_expect E sv 59 M64 h) (fun _ M68 => ?_)
    refine zm_aload_n 72 rfl dX2_tellHouse_71 rfl 1 rfl ?_
    refine zm_getT 75 rfl dX2_tellHouse_72 fl_X2_26 rfl (zm_L rfl) (fun t72 _ ht72 => ?_)
    refine zm_dup 76 rfl dX2_tellHouse_75 rfl ?_
    refine zm_getI 79 rfl dX2_tellHouse_76 fl_X2_92 (zm_T_o ht72) (zm_T_l0 ht72) ?_
    refine zm_iconst 80 rfl dX2_tellHouse_79 zi_1 ?_
    refine zm_iadd 81 rfl dX2_tellHouse_80 ?_
    refine zm_putI 84 rfl dX2_tellHouse_81 fp_X2_92 (zm_T_o ht72) (zm_T_l0 ht72) rfl rfl (fun M81 _ => ?_)
    exact zm_vret dX2_tellHouse_84 rfl (Nat.le_refl _) (Nat.le_refl _) rfl
  · refine zm_aload_n 14 rfl dX2_tellHouse_13 rfl 1 rfl ?_
    refine zm_iconst 15 rfl dX2_tellHouse_14 zi_2 ?_
    refine zm_cV1v 18 rfl dX2_tellHouse_15 ml_X2_82 rfl (zm_L rfl) rfl (Nat.le_of_ble_eq_true rfl) ⟨Nat.le_of_ble_eq_true rfl, Nat.le_of_ble_eq_true rfl⟩ rfl rfl ⟨Nat.le_refl _, Nat.le_refl _⟩ rfl (fun _ _ h => k_X2_fail E sv 2 M h) (fun _ M15 => ?_)
    exact zm_vret dX2_tellHouse_18 rfl (Nat.le_refl _) (Nat.le_refl _) rfl
abbrev Y_X2_toldName : zm_Y := (cX2_toldName, 4, RX2, { frames := 3, cells := 0, slots := 0, locals := 62 }, (some .int), false)
noncomputable def f_X2_toldName_b27 (r13 : Int32) (M27 : zm_Mem) : Option (Int32 × zm_Mem) :=
 zm_b2 (f_X2_expect 2 M27) <| fun _ M29 => some (zm_max r13 0, M29)
noncomputable def f_X2_toldName (a1 : Nat) (a2 : Int32) (M : zm_Mem) : Option (Int32 × zm_Mem) :=
  zm_b1 (f_X7_worthAt (M.1 8 4) M) <| fun r8 => zm_b1 (f_X2_find r8 a1 a2 M) <| fun r13 => if r13 = (-1 : Int32) then (zm_b2 (f_X2_note 4 M) <| fun _ M24 => f_X2_toldName_b27 r13 M24) else (f_X2_toldName_b27 r13 M)
set_option maxRecDepth 20000 in
set_option maxHeartbeats 4000000 in
theorem k_X2_toldName (E : zm_E) (sv : Nat) (a1 : Nat) (a2 : Int32) (ha1 : zm_sh a1 = (2, (zm_sh a1).2) ∧ (0 < a1 ∧ a1 ≤ zm_n sv)) (M : zm_Mem) {r : Int32} {M' : zm_Mem} (h : f_X2_toldName a1 a2 M = some (r, M')) : zm_Ct E sv sv yX2_toldName Y_X2_toldName [.ref (E.2.1 + 8), .ref (E.2.1 + a1), .int a2] M (some (.int r)) M' := by
  refine zm_meth (emb := zm_ei) (d := f_X2_toldName a1 a2 M) (by decide) rfl (Nat.le_of_ble_eq_true rfl) h (fun X => ?_)
  show zm_V X Y_X2_toldName E (zm_Q X E Y_X2_toldName.2.2.2.1.cells Y_X2_toldName.2.2.2.1.slots sv zm_ei) 0 0 sv 0 [(0, .ref (E.2.1 + 8)), (1, .ref (E.2.1 + a1)), (2, .int a2)] [] M (f_X2_toldName a1 a2 M) some
  unfold f_X2_toldName
  refine zm_aload_n 1 rfl dX2_toldName_0 rfl 0 rfl ?_
  refine zm_getR 4 rfl dX2_toldName_1 fl_X2_18 rfl (zm_L rfl) rfl ?_
  refine zm_aload_n 5 rfl dX2_toldName_4 rfl 0 rfl ?_
  refine zm_getI 8 rfl dX2_toldName_5 fl_X2_35 rfl (zm_L rfl) ?_
  refine zm_cV1lr 11 rfl dX2_toldName_8 ml_X2_165 rfl (zm_L rfl) rfl (Nat.le_of_ble_eq_true rfl) ⟨Nat.le_of_ble_eq_true rfl, Nat.le_of_ble_eq_true rfl⟩ rfl rfl ⟨Nat.le_refl _, Nat.le_refl _⟩ rfl (fun _ h => k_X7_worthAt E sv (M.1 8 4) M h) (fun r8 => ?_)
  refine zm_aload_n 12 rfl dX2_toldName_11 rfl 1 rfl ?_
  refine zm_iload_n 13 rfl dX2_toldName_12 rfl 2 rfl ?_
  refine zm_cS3ir 16 rfl dX2_toldName_13 ml_X2_172 (Nat.le_of_ble_eq_true rfl) ⟨Nat.le_of_ble_eq_true rfl, Nat.le_of_ble_eq_true rfl⟩ rfl rfl ⟨Nat.le_refl _, Nat.le_refl _⟩ rfl (fun _ h => k_X2_find E sv r8 a1 a2 ⟨ha1.1, ha1.2⟩ M h) (fun r13 => ?_)
  refine zm_istore_n (lv' := [(3, .int r13), (0, .ref (E.2.1 + 8)), (1, .ref (E.2.1 + a1)), (2, .int a2)]) 17 rfl dX2_toldName_16 rfl (by decide) rfl ?_
  refine zm_iload_n 18 rfl dX2_toldName_17 rfl 0 rfl ?_
  refine zm_iconst 19 rfl dX2_toldName_18 zi_m1 ?_
  have hb27 : ∀ (M27 : zm_Mem), zm_V X Y_X2_toldName E (zm_Q X E Y_X2_toldName.2.2.2.1.cells Y_X2_toldName.2.2.2.1.slots sv zm_ei) 0 0 sv 27 [(0, .ref (E.2.1 + 8)), (3, .int r13)] [] M27 (f_X2_toldName_b27 r13 M27) some := by
    intro M27
    unfold f_X2_toldName_b27
    refine zm_aload_n 28 rfl dX2_toldName_27 rfl 0 rfl ?_
    refine zm_iconst 29 rfl dX2_toldName_28 zi_2 ?_
    refine zm_cV1v 32 rfl dX2_toldName_29 ml_X2_112 rfl (zm_L rfl) rfl (Nat.le_of_ble_eq_true rfl) ⟨Nat.le_of_ble_eq_true rfl, Nat.le_of_ble_eq_true rfl⟩ rfl rfl ⟨Nat.le_refl _, Nat.le_refl _⟩ rfl (fun _ _ h => k_X2_expect E sv 2 M27 h) (fun _ M29 => ?_)
    refine zm_iload_n 33 rfl dX2_toldName_32 rfl 1 rfl ?_
    refine zm_iconst 34 rfl dX2_toldName_33 zi_0 ?_
    refine zm_mmax 37 rfl dX2_toldName_34 mm_X2_176 mm_st_max in_math mm_co_max (Nat.le_of_ble_eq_true rfl) (Nat.le_of_ble_eq_true rfl) ⟨Nat.le_refl _, Nat.le_refl _⟩ ?_
    exact zm_iret dX2_toldName_37 rfl (Nat.le_refl _) (Nat.le_refl _) rfl
  refine zm_icmp_ne 27 22 (by decide) rfl dX2_toldName_19 ?_ ?_
  · refine zm_aload_n 23 rfl dX2_toldName_22 rfl 1 rfl ?_
    refine zm_iconst 24 rfl dX2_toldName_23 zi_4 ?_
    refine zm_cV1v 27 rfl dX2_toldName_24 ml_X2_169 rfl (zm_L rfl) rfl (Nat.le_of_ble_eq_true rfl) ⟨Nat.le_of_ble_eq_true rfl, Nat.le_of_ble_eq_true rfl⟩ rfl rfl ⟨Nat.le_refl _, Nat.le_refl _⟩ rfl (fun _ _ h => k_X2_note E sv 4 M h) (fun _ M24 => ?_)
    exact zm_loc [1, 0] rfl (hb27 M24)
  · exact zm_loc [1, 0] rfl (hb27 M)
abbrev Y_X2_tellWork : zm_Y := (cX2_tellWork, 2, RX2, { frames := 4, cells := 0, slots := 0, locals := 85 }, none, false)
noncomputable def f_X2_tellWork  (M : zm_Mem) : Option (Unit × zm_Mem) :=
  zm_v (M.2.2 8 3) <| fun t1 => zm_ck (zm_isT t1) <| zm_v (M.1 t1 12) <| fun x7 => if x7 < (6 : Int32) then (zm_b2 (f_X2_take M) <| fun _ M21 => zm_b2 (f_X2_newName M21) <| fun r30 M30 => zm_ck (zm_in x7 6) <| zm_v (zm_sL M30 10 x7.toNatClampNeg r30) <| fun M33 => zm_v (M33.2.2 8 3) <| fun t35 => zm_ck (zm_isT t35) <| zm_v (M33.2.2 8 3) <| fun t48 => zm_ck (zm_isT t48) <| zm_b2 (f_X2_toldName 9 (M33.1 t48 11) M33) <| fun r54 M54 => zm_ck (zm_in x7 6) <| zm_v (zm_sI M54 (t35 + 3) x7.toNatClampNeg r54) <| fun M57 => zm_v (M57.2.2 8 3) <| fun t59 => zm_ck (zm_isT t59) <| zm_v (M57.2.2 8 3) <| fun t72 => zm_ck (zm_isT t72) <| zm_b2 (f_X2_toldName 9 (M57.1 t72 11) M57) <| fun r78 M78 => zm_ck (zm_in x7 6) <| zm_v (zm_sI M78 (t59 + 4) x7.toNatClampNeg r78) <| fun M81 => zm_v (M81.2.2 8 3) <| fun t83 => zm_ck (zm_isT t83) <| zm_b2 (f_X2_number 0 9 M81) <| fun r94 M94 => zm_ck (zm_in x7 6) <| zm_v (zm_sI M94 (t83 + 5) x7.toNatClampNeg r94) <| fun M97 => zm_v (M97.2.2 8 3) <| fun t99 => zm_ck (zm_isT t99) <| zm_b2 (f_X2_number 0 99 M97) <| fun r110 M110 => zm_ck (zm_in x7 6) <| zm_v (zm_sI M110 (t99 + 6) x7.toNatClampNeg r110) <| fun M113 => zm_b2 (f_X2_expect 59 M113) <| fun _ M117 => zm_v (M117.2.2 8 3) <| fun t121 => zm_ck (zm_isT t121) <| zm_v (zm_sI M117 t121 12 ((M117.1 t121 12) + 1)) <| fun M130 => some ((), M130)) else (zm_b2 (f_X2_fail 2 M) <| fun _ M16 => some ((), M16))
set_option maxRecDepth 20000 in
set_option maxHeartbeats 4000000 in
theorem k_X2_tellWork (E : zm_E) (sv : Nat)  (M : zm_Mem) {r : Unit} {M' : zm_Mem} (h : f_X2_tellWork M = some (r, M')) : zm_Ct E sv sv yX2_tellWork Y_X2_tellWork [.ref (E.2.1 + 8)] M none M' := by
  refine zm_meth (emb := zm_ev) (d := f_X2_tellWork M) (by decide) rfl (Nat.le_of_ble_eq_true rfl) h (fun X => ?_)
  show zm_V X Y_X2_tellWork E (zm_Q X E Y_X2_tellWork.2.2.2.1.cells Y_X2_tellWork.2.2.2.1.slots sv zm_ev) 0 0 sv 0 [(0, .ref (E.2.1 + 8))] [] M (f_X2_tellWork M) some
  unfold f_X2_tellWork
  refine zm_aload_n 1 rfl dX2_tellWork_0 rfl 0 rfl ?_
  refine zm_getT 4 rfl dX2_tellWork_1 fl_X2_26 rfl (zm_L rfl) (fun t1 _ ht1 => ?_)
  refine zm_getI 7 rfl dX2_tellWork_4 fl_X2_115 (zm_T_o ht1) (zm_T_l0 ht1) ?_
  refine zm_nmi (fun x7 _ => ?_)
  refine zm_istore_n (lv' := [(1, .int x7), (0, .ref (E.2.1 + 8))]) 8 rfl dX2_tellWork_7 rfl (by decide) rfl ?_
  refine zm_iload_n 9 rfl dX2_tellWork_8 rfl 0 rfl ?_
  refine zm_bipush 11 rfl dX2_tellWork_9 zb_6 ?_
  refine zm_icmp_lt 20 14 (by decide) rfl dX2_tellWork_11 ?_ ?_
  · refine zm_aload_n 21 rfl dX2_tellWork_20 rfl 1 rfl ?_
    refine zm_cV0v 24 rfl dX2_tellWork_21 ml_X2_95 rfl (zm_L rfl) rfl (Nat.le_of_ble_eq_true rfl) ⟨Nat.le_of_ble_eq_true rfl, Nat.le_of_ble_eq_true rfl⟩ rfl rfl ⟨Nat.le_refl _, Nat.le_refl _⟩ rfl (fun _ _ h => k_X2_take E sv M h) (fun _ M21 => ?_)
    refine zm_aload_n 25 rfl dX2_tellWork_24 rfl 1 rfl ?_
    refine zm_getR 28 rfl dX2_tellWork_25 fl_X2_15 rfl (zm_L rfl) rfl ?_
    refine zm_iload_n 29 rfl dX2_tellWork_28 rfl 0 rfl ?_
    refine zm_aload_n 30 rfl dX2_tellWork_29 rfl 1 rfl ?_
    refine zm_cV0l 33 rfl dX2_tellWork_30 ml_X2_98 rfl (zm_L rfl) rfl (Nat.le_of_ble_eq_true rfl) ⟨Nat.le_of_ble_eq_true rfl, Nat.le_of_ble_eq_true rfl⟩ rfl rfl ⟨Nat.le_refl _, Nat.le_refl _⟩ rfl (fun _ _ h => k_X2_newName E sv M21 h) (fun r30 M30 => ?_)
    refine zm_last 34 rfl dX2_tellWork_33 rfl (zm_L rfl) (fun M33 _ => ?_)
    refine zm_aload_n 35 rfl dX2_tellWork_34 rfl 1 rfl ?_
    refine zm_getT 38 rfl dX2_tellWork_35 fl_X2_26 rfl (zm_L rfl) (fun t35 _ ht35 => ?_)
    refine zm_getR (a := t35 + 3) 41 rfl dX2_tellWork_38 fl_X2_118 (zm_T_o ht35) (zm_T_l0 ht35) (zm_T_r ht35 2 (by decide)) ?_
    refine zm_iload_n 42 rfl dX2_tellWork_41 rfl 0 rfl ?_
    refine zm_aload_n 43 rfl dX2_tellWork_42 rfl 1 rfl ?_
    refine zm_aload_n 44 rfl dX2_tellWork_43 rfl 1 rfl ?_
    refine zm_getR 47 rfl dX2_tellWork_44 fl_X2_9 rfl (zm_L rfl) rfl ?_
    refine zm_aload_n 48 rfl dX2_tellWork_47 rfl 1 rfl ?_
    refine zm_getT 51 rfl dX2_tellWork_48 fl_X2_26 rfl (zm_L rfl) (fun t48 _ ht48 => ?_)
    refine zm_getI 54 rfl dX2_tellWork_51 fl_X2_92 (zm_T_o ht48) (zm_T_l0 ht48) ?_
    refine zm_cV2i 57 rfl dX2_tellWork_54 ml_X2_121 rfl (zm_L rfl) rfl (Nat.le_of_ble_eq_true rfl) ⟨Nat.le_of_ble_eq_true rfl, Nat.le_of_ble_eq_true rfl⟩ rfl rfl ⟨Nat.le_refl _, Nat.le_refl _⟩ rfl (fun _ _ h => k_X2_toldName E sv 9 (M33.1 t48 11) ⟨rfl, (zm_L rfl)⟩ M33 h) (fun r54 M54 => ?_)
    refine zm_iast 58 rfl dX2_tellWork_57 (zm_T_a ht35 3 (by decide)) (zm_T_l ht35 3 (by decide)) (fun M57 _ => ?_)
    refine zm_aload_n 59 rfl dX2_tellWork_58 rfl 1 rfl ?_
    refine zm_getT 62 rfl dX2_tellWork_59 fl_X2_26 rfl (zm_L rfl) (fun t59 _ ht59 => ?_)
    refine zm_getR (a := t59 + 4) 65 rfl dX2_tellWork_62 fl_X2_125 (zm_T_o ht59) (zm_T_l0 ht59) (zm_T_r ht59 3 (by decide)) ?_
    refine zm_iload_n 66 rfl dX2_tellWork_65 rfl 0 rfl ?_
    refine zm_aload_n 67 rfl dX2_tellWork_66 rfl 1 rfl ?_
    refine zm_aload_n 68 rfl dX2_tellWork_67 rfl 1 rfl ?_
    refine zm_getR 71 rfl dX2_tellWork_68 fl_X2_9 rfl (zm_L rfl) rfl ?_
    refine zm_aload_n 72 rfl dX2_tellWork_71 rfl 1 rfl ?_
    refine zm_getT 75 rfl dX2_tellWork_72 fl_X2_26 rfl (zm_L rfl) (fun t72 _ ht72 => ?_)
    refine zm_getI 78 rfl dX2_tellWork_75 fl_X2_92 (zm_T_o ht72) (zm_T_l0 ht72) ?_
    refine zm_cV2i 81 rfl dX2_tellWork_78 ml_X2_121 rfl (zm_L rfl) rfl (Nat.le_of_ble_eq_true rfl) ⟨Nat.le_of_ble_eq_true rfl, Nat.le_of_ble_eq_true rfl⟩ rfl rfl ⟨Nat.le_refl _, Nat.le_refl _⟩ rfl (fun _ _ h => k_X2_toldName E sv 9 (M57.1 t72 11) ⟨rfl, (zm_L rfl)⟩ M57 h) (fun r78 M78 => ?_)
    refine zm_iast 82 rfl dX2_tellWork_81 (zm_T_a ht59 4 (by decide)) (zm_T_l ht59 4 (by decide)) (fun M81 _ => ?_)
    refine zm_aload_n 83 rfl dX2_tellWork_82 rfl 1 rfl ?_
    refine zm_getT 86 rfl dX2_tellWork_83 fl_X2_26 rfl (zm_L rfl) (fun t83 _ ht83 => ?_)
    refine zm_getR (a := t83 + 5) 89 rfl dX2_tellWork_86 fl_X2_128 (zm_T_o ht83) (zm_T_l0 ht83) (zm_T_r ht83 4 (by decide)) ?_
    refine zm_iload_n 90 rfl dX2_tellWork_89 rfl 0 rfl ?_
    refine zm_aload_n 91 rfl dX2_tellWork_90 rfl 1 rfl ?_
    refine zm_iconst 92 rfl dX2_tellWork_91 zi_0 ?_
    refine zm_bipush 94 rfl dX2_tellWork_92 zb_9 ?_
    refine zm_cV2i 97 rfl dX2_tellWork_94 ml_X2_106 rfl (zm_L rfl) rfl (Nat.le_of_ble_eq_true rfl) ⟨Nat.le_of_ble_eq_true rfl, Nat.le_of_ble_eq_true rfl⟩ rfl rfl ⟨Nat.le_refl _, Nat.le_refl _⟩ rfl (fun _ _ h => k_X2_number E sv 0 9 M81 h) (fun r94 M94 => ?_)
    refine zm_iast 98 rfl dX2_tellWork_97 (zm_T_a ht83 5 (by decide)) (zm_T_l ht83 5 (by decide)) (fun M97 _ => ?_)
    refine zm_aload_n 99 rfl dX2_tellWork_98 rfl 1 rfl ?_
    refine zm_getT 102 rfl dX2_tellWork_99 fl_X2_26 rfl (zm_L rfl) (fun t99 _ ht99 => ?_)
    refine zm_getR (a := t99 + 6) 105 rfl dX2_tellWork_102 fl_X2_131 (zm_T_o ht99) (zm_T_l0 ht99) (zm_T_r ht99 5 (by decide)) ?_
    refine zm_iload_n 106 rfl dX2_tellWork_105 rfl 0 rfl ?_
    refine zm_aload_n 107 rfl dX2_tellWork_106 rfl 1 rfl ?_
    refine zm_iconst 108 rfl dX2_tellWork_107 zi_0 ?_
    refine zm_bipush 110 rfl dX2_tellWork_108 zb_99 ?_
    refine zm_cV2i 113 rfl dX2_tellWork_110 ml_X2_106 rfl (zm_L rfl) rfl (Nat.le_of_ble_eq_true rfl) ⟨Nat.le_of_ble_eq_true rfl, Nat.le_of_ble_eq_true rfl⟩ rfl rfl ⟨Nat.le_refl _, Nat.le_refl _⟩ rfl (fun _ _ h => k_X2_number E sv 0 99 M97 h) (fun r110 M110 => ?_)
    refine zm_iast 114 rfl dX2_tellWork_113 (zm_T_a ht99 6 (by decide)) (zm_T_l ht99 6 (by decide)) (fun M113 _ => ?_)
    refine zm_aload_n 115 rfl dX2_tellWork_114 rfl 1 rfl ?_
    refine zm_bipush 117 rfl dX2_tellWork_115 zb_59 ?_
    refine zm_cV1v 120 rfl dX2_tellWork_117 ml_X2_112 rfl (zm_L rfl) rfl (Nat.le_of_ble_eq_true rfl) ⟨Nat.le_of_ble_eq_true rfl, Nat.le_of_ble_eq_true rfl⟩ rfl rfl ⟨Nat.le_refl _, Nat.le_refl _⟩ rfl (fun _ _ h => k_X2_expect E sv 59 M113 h) (fun _ M117 => ?_)
    refine zm_aload_n 121 rfl dX2_tellWork_120 rfl 1 rfl ?_
    refine zm_getT 124 rfl dX2_tellWork_121 fl_X2_26 rfl (zm_L rfl) (fun t121 _ ht121 => ?_)
    refine zm_dup 125 rfl dX2_tellWork_124 rfl ?_
    refine zm_getI 128 rfl dX2_tellWork_125 fl_X2_115 (zm_T_o ht121) (zm_T_l0 ht121) ?_
    refine zm_iconst 129 rfl dX2_tellWork_128 zi_1 ?_
    refine zm_iadd 130 rfl dX2_tellWork_129 ?_
    refine zm_putI 133 rfl dX2_tellWork_130 fp_X2_115 (zm_T_o ht121) (zm_T_l0 ht121) rfl rfl (fun M130 _ => ?_)
    exact zm_vret dX2_tellWork_133 rfl (Nat.le_refl _) (Nat.le_refl _) rfl
  · refine zm_aload_n 15 rfl dX2_tellWork_14 rfl 1 rfl ?_
    refine zm_iconst 16 rfl dX2_tellWork_15 zi_2 ?_
    refine zm_cV1v 19 rfl dX2_tellWork_16 ml_X2_82 rfl (zm_L rfl) rfl (Nat.le_of_ble_eq_true rfl) ⟨Nat.le_of_ble_eq_true rfl, Nat.le_of_ble_eq_true rfl⟩ rfl rfl ⟨Nat.le_refl _, Nat.le_refl _⟩ rfl (fun _ _ h => k_X2_fail E sv 2 M h) (fun _ M16 => ?_)
    exact zm_vret dX2_tellWork_19 rfl (Nat.le_refl _) (Nat.le_refl _) rfl
abbrev Y_X8_putGoal : zm_Y := (cX8_putGoal, 2, RX8, { frames := 0, cells := 0, slots := 0, locals := 0 }, none, false)
noncomputable def f_X8_putGoal (t : Nat) (a1 : Int32) (M : zm_Mem) : Option (Unit × zm_Mem) :=
  if a1 < 0 then (some ((), M)) else (if (M.1 t 10) ≤ a1 then (some ((), M)) else (zm_ck (zm_in a1 408) <| zm_v (zm_sI M (t + 10) a1.toNatClampNeg (98304 ||| ((M.1 t 10) &&& 16383))) <| fun M28 => some ((), M28)))
set_option maxRecDepth 20000 in
set_option maxHeartbeats 4000000 in
theorem k_X8_putGoal (E : zm_E) (sv : Nat) (t : Nat) (a1 : Int32) (ht : zm_isT t = true) (M : zm_Mem) {r : Unit} {M' : zm_Mem} (h : f_X8_putGoal t a1 M = some (r, M')) : zm_Ct E sv sv yX8_putGoal Y_X8_putGoal [.ref (E.2.1 + t), .int a1] M none M' := by
  refine zm_meth (emb := zm_ev) (d := f_X8_putGoal t a1 M) (by decide) rfl (Nat.le_of_ble_eq_true rfl) h (fun X => ?_)
  show zm_V X Y_X8_putGoal E (zm_Q X E Y_X8_putGoal.2.2.2.1.cells Y_X8_putGoal.2.2.2.1.slots sv zm_ev) 0 0 sv 0 [(0, .ref (E.2.1 + t)), (1, .int a1)] [] M (f_X8_putGoal t a1 M) some
  unfold f_X8_putGoal
  refine zm_iload_n 1 rfl dX8_putGoal_0 rfl 1 rfl ?_
  refine zm_if_lt 29 4 (by decide) rfl dX8_putGoal_1 ?_ ?_
  · exact zm_vret dX8_putGoal_29 rfl (Nat.le_refl _) (Nat.le_refl _) rfl
  · refine zm_iload_n 5 rfl dX8_putGoal_4 rfl 1 rfl ?_
    refine zm_aload_n 6 rfl dX8_putGoal_5 rfl 0 rfl ?_
    refine zm_getI 9 rfl dX8_putGoal_6 fl_X8_64 (zm_T_o ht) (zm_T_l0 ht) ?_
    refine zm_icmp_ge 29 12 (by decide) rfl dX8_putGoal_9 ?_ ?_
    · exact zm_vret dX8_putGoal_29 rfl (Nat.le_refl _) (Nat.le_refl _) rfl
    · refine zm_aload_n 13 rfl dX8_putGoal_12 rfl 0 rfl ?_
      refine zm_getR (a := t + 10) 16 rfl dX8_putGoal_13 fl_X8_39 (zm_T_o ht) (zm_T_l0 ht) (zm_T_r ht 9 (by decide)) ?_
      refine zm_iload_n 17 rfl dX8_putGoal_16 rfl 1 rfl ?_
      refine zm_ldc 19 rfl dX8_putGoal_17 kc_X8_79 ?_
      refine zm_aload_n 20 rfl dX8_putGoal_19 rfl 0 rfl ?_
      refine zm_getI 23 rfl dX8_putGoal_20 fl_X8_64 (zm_T_o ht) (zm_T_l0 ht) ?_
      refine zm_sipush 26 rfl dX8_putGoal_23 zs_16383 ?_
      refine zm_iand 27 rfl dX8_putGoal_26 ?_
      refine zm_ior 28 rfl dX8_putGoal_27 ?_
      refine zm_iast 29 rfl dX8_putGoal_28 (zm_T_a ht 10 (by decide)) (zm_T_l ht 10 (by decide)) (fun M28 _ => ?_)
      exact zm_vret dX8_putGoal_29 rfl (Nat.le_refl _) (Nat.le_refl _) rfl
abbrev Y_X2_onlyNumber : zm_Y := (cX2_onlyNumber, 4, RX2, { frames := 4, cells := 0, slots := 0, locals := 85 }, (some .int), false)
noncomputable def f_X2_onlyNumber (a1 : Int32) (a2 : Int32) (M : zm_Mem) : Option (Int32 × zm_Mem) :=
  zm_b2 (f_X2_take M) <| fun _ M1 => zm_b2 (f_X2_number a1 a2 M1) <| fun r7 M7 => zm_b2 (f_X2_expect 59 M7) <| fun _ M14 => some (r7, M14)
set_option maxRecDepth 20000 in
set_option maxHeartbeats 4000000 in
theorem k_X2_onlyNumber (E : zm_E) (sv : Nat) (a1 : Int32) (a2 : Int32) (M : zm_Mem) {r : Int32} {M' : zm_Mem} (h : f_X2_onlyNumber a1 a2 M = some (r, M')) : zm_Ct E sv sv yX2_onlyNumber Y_X2_onlyNumber [.ref (E.2.1 + 8), .int a1, .int a2] M (some (.int r)) M' := by
  refine zm_meth (emb := zm_ei) (d := f_X2_onlyNumber a1 a2 M) (by decide) rfl (Nat.le_of_ble_eq_true rfl) h (fun X => ?_)
  show zm_V X Y_X2_onlyNumber E (zm_Q X E Y_X2_onlyNumber.2.2.2.1.cells Y_X2_onlyNumber.2.2.2.1.slots sv zm_ei) 0 0 sv 0 [(0, .ref (E.2.1 + 8)), (1, .int a1), (2, .int a2)] [] M (f_X2_onlyNumber a1 a2 M) some
  unfold f_X2_onlyNumber
  refine zm_aload_n 1 rfl dX2_onlyNumber_0 rfl 0 rfl ?_
  refine zm_cV0v 4 rfl dX2_onlyNumber_1 ml_X2_95 rfl (zm_L rfl) rfl (Nat.le_of_ble_eq_true rfl) ⟨Nat.le_of_ble_eq_true rfl, Nat.le_of_ble_eq_true rfl⟩ rfl rfl ⟨Nat.le_refl _, Nat.le_refl _⟩ rfl (fun _ _ h => k_X2_take E sv M h) (fun _ M1 => ?_)
  refine zm_aload_n 5 rfl dX2_onlyNumber_4 rfl 0 rfl ?_
  refine zm_iload_n 6 rfl dX2_onlyNumber_5 rfl 1 rfl ?_
  refine zm_iload_n 7 rfl dX2_onlyNumber_6 rfl 2 rfl ?_
  refine zm_cV2i 10 rfl dX2_onlyNumber_7 ml_X2_106 rfl (zm_L rfl) rfl (Nat.le_of_ble_eq_true rfl) ⟨Nat.le_of_ble_eq_true rfl, Nat.le_of_ble_eq_true rfl⟩ rfl rfl ⟨Nat.le_refl _, Nat.le_refl _⟩ rfl (fun _ _ h => k_X2_number E sv a1 a2 M1 h) (fun r7 M7 => ?_)
  refine zm_istore_n (lv' := [(3, .int r7), (0, .ref (E.2.1 + 8)), (1, .int a1), (2, .int a2)]) 11 rfl dX2_onlyNumber_10 rfl (by decide) rfl ?_
  refine zm_aload_n 12 rfl dX2_onlyNumber_11 rfl 1 rfl ?_
  refine zm_bipush 14 rfl dX2_onlyNumber_12 zb_59 ?_
  refine zm_cV1v 17 rfl dX2_onlyNumber_14 ml_X2_112 rfl (zm_L rfl) rfl (Nat.le_of_ble_eq_true rfl) ⟨Nat.le_of_ble_eq_true rfl, Nat.le_of_ble_eq_true rfl⟩ rfl rfl ⟨Nat.le_refl _, Nat.le_refl _⟩ rfl (fun _ _ h => k_X2_expect E sv 59 M7 h) (fun _ M14 => ?_)
  refine zm_iload_n 18 rfl dX2_onlyNumber_17 rfl 0 rfl ?_
  exact zm_iret dX2_onlyNumber_18 rfl (Nat.le_refl _) (Nat.le_refl _) rfl
abbrev Y_X4_arrival : zm_Y := (cX4_arrival, 2, RX4, { frames := 0, cells := 0, slots := 0, locals := 0 }, (some .int), false)
noncomputable def f_X4_arrival (a1 : Int32) (M : zm_Mem) : Option Int32 :=
  zm_ck (zm_in (10 + a1) 47) <| some (M.1 12 (10 + a1).toNatClampNeg)
set_option maxRecDepth 20000 in
set_option maxHeartbeats 4000000 in
theorem k_X4_arrival (E : zm_E) (sv : Nat) (a1 : Int32) (M : zm_Mem) {r : Int32} (h : f_X4_arrival a1 M = some r) : zm_Ct E sv sv yX4_arrival Y_X4_arrival [.ref (E.2.1 + 11), .int a1] M (some (.int r)) M := by
  refine zm_methr (emb := zm_ei) (d := f_X4_arrival a1 M) (by decide) rfl (Nat.le_of_ble_eq_true rfl) h (fun X => ?_)
  show zm_V X Y_X4_arrival E (zm_Q X E Y_X4_arrival.2.2.2.1.cells Y_X4_arrival.2.2.2.1.slots sv zm_ei) 0 0 sv 0 [(0, .ref (E.2.1 + 11)), (1, .int a1)] [] M (f_X4_arrival a1 M) (fun r => some (r, M))
  unfold f_X4_arrival
  refine zm_aload_n 1 rfl dX4_arrival_0 rfl 0 rfl ?_
  refine zm_getR 4 rfl dX4_arrival_1 fl_X4_11 rfl (zm_L rfl) rfl ?_
  refine zm_bipush 6 rfl dX4_arrival_4 zb_10 ?_
  refine zm_iload_n 7 rfl dX4_arrival_6 rfl 1 rfl ?_
  refine zm_iadd 8 rfl dX4_arrival_7 ?_
  refine zm_iald 9 rfl dX4_arrival_8 rfl (zm_L rfl) ?_
  exact zm_iret dX4_arrival_9 rfl (Nat.le_refl _) (Nat.le_refl _) rfl
abbrev Y_X4_goal : zm_Y := (cX4_goal, 2, RX4, { frames := 0, cells := 0, slots := 0, locals := 0 }, (some .int), false)
noncomputable def f_X4_goal (a1 : Int32) (M : zm_Mem) : Option Int32 :=
  zm_ck (zm_in (4 + a1) 47) <| some (M.1 12 (4 + a1).toNatClampNeg)
set_option maxRecDepth 20000 in
set_option maxHeartbeats 4000000 in
theorem k_X4_goal (E : zm_E) (sv : Nat) (a1 : Int32) (M : zm_Mem) {r : Int32} (h : f_X4_goal a1 M = some r) : zm_Ct E sv sv yX4_goal Y_X4_goal [.ref (E.2.1 + 11), .int a1] M (some (.int r)) M := by
  refine zm_methr (emb := zm_ei) (d := f_X4_goal a1 M) (by decide) rfl (Nat.le_of_ble_eq_true rfl) h (fun X => ?_)
  show zm_V X Y_X4_goal E (zm_Q X E Y_X4_goal.2.2.2.1.cells Y_X4_goal.2.2.2.1.slots sv zm_ei) 0 0 sv 0 [(0, .ref (E.2.1 + 11)), (1, .int a1)] [] M (f_X4_goal a1 M) (fun r => some (r, M))
  unfold f_X4_goal
  refine zm_aload_n 1 rfl dX4_goal_0 rfl 0 rfl ?_
  refine zm_getR 4 rfl dX4_goal_1 fl_X4_11 rfl (zm_L rfl) rfl ?_
  refine zm_iconst 5 rfl dX4_goal_4 zi_4 ?_
  refine zm_iload_n 6 rfl dX4_goal_5 rfl 1 rfl ?_
  refine zm_iadd 7 rfl dX4_goal_6 ?_
  refine zm_iald 8 rfl dX4_goal_7 rfl (zm_L rfl) ?_
  exact zm_iret dX4_goal_8 rfl (Nat.le_refl _) (Nat.le_refl _) rfl
abbrev Y_X3_look : zm_Y := (cX3_look, 5, RX3, { frames := 1, cells := 0, slots := 0, locals := 21 }, none, false)
noncomputable def f_X3_look_b57_19 (l19_4 : Int32) (L19 : zm_Mem) (b57_s1 : Int32) (b57_s2 : Int32) : Option ((Int32 × zm_Mem) ⊕ zm_Mem) :=
 zm_ck (zm_in b57_s1 6) <| zm_v (zm_sI L19 51 b57_s1.toNatClampNeg b57_s2) <| fun M57 => zm_v (l19_4 + 1) <| fun x58 => some (.inl (x58, M57))
noncomputable def f_X3_look_l19 (a3 : Int32) (l19_4 : Int32) (L19 : zm_Mem) : Option ((Int32 × zm_Mem) ⊕ zm_Mem) :=
 zm_v (L19.2.2 47 2) <| fun t22 => zm_ck (zm_isT t22) <| if (L19.1 t22 12) ≤ l19_4 then (some (.inr L19)) else (zm_b1 (f_X4_arrival l19_4 L19) <| fun r40 => if a3 < r40 then (f_X3_look_b57_19 l19_4 L19 l19_4 (-1)) else (zm_b1 (f_X4_goal l19_4 L19) <| fun r50 => f_X3_look_b57_19 l19_4 L19 l19_4 r50))
noncomputable def f_X3_look (a1 : Nat) (a3 : Int32) (M : zm_Mem) : Option (Unit × zm_Mem) :=
  zm_v (zm_sP M 47 2 a1) <| fun M2 => zm_ck (zm_in 8 9) <| zm_v (zm_sI M2 49 (8 : Int32).toNatClampNeg a3) <| fun M15 => (zm_lp (fun s => f_X3_look_l19 a3 s.1 s.2) (0, M15)).bind (fun e64 => some ((), e64))
set_option maxRecDepth 20000 in
set_option maxHeartbeats 4000000 in
theorem k_X3_look (E : zm_E) (sv : Nat) (a1 : Nat) (a3 : Int32) (ha1 : zm_isT a1 = true) (M : zm_Mem) {r : Unit} {M' : zm_Mem} (h : f_X3_look a1 a3 M = some (r, M')) : zm_Ct E sv sv yX3_look Y_X3_look [.ref (E.2.1 + 47), .ref (E.2.1 + a1), .ref (E.2.1 + 11), .int a3] M none M' := by
  refine zm_meth (emb := zm_ev) (d := f_X3_look a1 a3 M) (by decide) rfl (Nat.le_of_ble_eq_true rfl) h (fun X => ?_)
  show zm_V X Y_X3_look E (zm_Q X E Y_X3_look.2.2.2.1.cells Y_X3_look.2.2.2.1.slots sv zm_ev) 0 0 sv 0 [(0, .ref (E.2.1 + 47)), (1, .ref (E.2.1 + a1)), (2, .ref (E.2.1 + 11)), (3, .int a3)] [] M (f_X3_look a1 a3 M) some
  unfold f_X3_look
  refine zm_aload_n 1 rfl dX3_look_0 rfl 0 rfl ?_
  refine zm_aload_n 2 rfl dX3_look_1 rfl 1 rfl ?_
  refine zm_putP 5 rfl dX3_look_2 fp_X3_22 rfl (zm_L rfl) (zm_T_ne ha1) (fun M2 _ => ?_)
  refine zm_aload_n 6 rfl dX3_look_5 rfl 0 rfl ?_
  refine zm_getR 9 rfl dX3_look_6 fl_X3_12 rfl (zm_L rfl) rfl ?_
  refine zm_getR 12 rfl dX3_look_9 fl_X3_26 rfl (zm_L rfl) rfl ?_
  refine zm_bipush 14 rfl dX3_look_12 zb_8 ?_
  refine zm_iload_n 15 rfl dX3_look_14 rfl 3 rfl ?_
  refine zm_iast 16 rfl dX3_look_15 rfl (zm_L rfl) (fun M15 _ => ?_)
  refine zm_iconst 17 rfl dX3_look_16 zi_0 ?_
  refine zm_istore (lv' := [(4, .int 0), (0, .ref (E.2.1 + 47)), (1, .ref (E.2.1 + a1)), (2, .ref (E.2.1 + 11)), (3, .int a3)]) 19 rfl dX3_look_17 (by decide) rfl ?_
  have hx64_19 : ∀ (N64 : zm_Mem), zm_V X Y_X3_look E (zm_Q X E Y_X3_look.2.2.2.1.cells Y_X3_look.2.2.2.1.slots sv zm_ev) 0 0 sv 64 [] [] N64 (some ((), N64)) some := by
    intro N64
    exact zm_vret dX3_look_64 rfl (Nat.le_refl _) (Nat.le_refl _) rfl
  refine zm_loc [1, 3, 4, 0] rfl (zm_lpp (σ := (Int32 × zm_Mem)) (ε := zm_Mem) (step := fun s => f_X3_look_l19 a3 s.1 s.2) (fun s => [(0, .ref (E.2.1 + 47)), (2, .ref (E.2.1 + 11)), (3, .int a3), (4, .int s.1)]) (fun s => s.2) (fun D19 f19 hf19a hf19b hD19 s => ?_) (0, M15))
  obtain ⟨l19_4, L19⟩ := s
  show zm_V X Y_X3_look E (zm_Q X E Y_X3_look.2.2.2.1.cells Y_X3_look.2.2.2.1.slots sv zm_ev) 0 0 sv 19 [(0, .ref (E.2.1 + 47)), (2, .ref (E.2.1 + 11)), (3, .int a3), (4, .int l19_4)] [] L19 (f_X3_look_l19 a3 l19_4 L19) f19
  unfold f_X3_look_l19
  refine zm_iload 21 rfl dX3_look_19 3 rfl ?_
  refine zm_aload_n 22 rfl dX3_look_21 rfl 0 rfl ?_
  refine zm_getT 25 rfl dX3_look_22 fl_X3_22 rfl (zm_L rfl) (fun t22 _ ht22 => ?_)
  refine zm_getI 28 rfl dX3_look_25 fl_X3_29 (zm_T_o ht22) (zm_T_l0 ht22) ?_
  refine zm_icmp_ge 64 31 (by decide) rfl dX3_look_28 ?_ ?_
  · exact zm_loc [] rfl (zm_go (hf19b _) (zm_unb (hx64_19 L19)))
  · refine zm_aload_n 32 rfl dX3_look_31 rfl 0 rfl ?_
    refine zm_getR 35 rfl dX3_look_32 fl_X3_18 rfl (zm_L rfl) rfl ?_
    refine zm_iload 37 rfl dX3_look_35 3 rfl ?_
    refine zm_aload_n 38 rfl dX3_look_37 rfl 1 rfl ?_
    refine zm_iload 40 rfl dX3_look_38 3 rfl ?_
    refine zm_cV1ir 43 rfl dX3_look_40 ml_X3_35 rfl (zm_L rfl) rfl (Nat.le_of_ble_eq_true rfl) ⟨Nat.le_of_ble_eq_true rfl, Nat.le_of_ble_eq_true rfl⟩ rfl rfl ⟨Nat.le_refl _, Nat.le_refl _⟩ rfl (fun _ h => k_X4_arrival E sv l19_4 L19 h) (fun r40 => ?_)
    refine zm_iload_n 44 rfl dX3_look_43 rfl 2 rfl ?_
    have hb57_19 : ∀ (b57_s1 : Int32) (b57_s2 : Int32), zm_V X Y_X3_look E (zm_Q X E Y_X3_look.2.2.2.1.cells Y_X3_look.2.2.2.1.slots sv zm_ev) 0 0 sv 57 [(0, .ref (E.2.1 + 47)), (2, .ref (E.2.1 + 11)), (3, .int a3), (4, .int l19_4)] [.int b57_s2, .int b57_s1, .ref (E.2.1 + 51)] L19 (f_X3_look_b57_19 l19_4 L19 b57_s1 b57_s2) f19 := by
      intro b57_s1 b57_s2
      unfold f_X3_look_b57_19
      refine zm_iast 58 rfl dX3_look_57 rfl (zm_L rfl) (fun M57 _ => ?_)
      refine zm_iinc (lv' := fun z => [(4, .int z), (0, .ref (E.2.1 + 47)), (2, .ref (E.2.1 + 11)), (3, .int a3)]) 61 rfl dX3_look_58 zi_1 3 rfl (by decide) (fun _ => rfl) (fun x58 _ => ?_)
      refine zm_goto 19 (by decide) dX3_look_61 ?_
      exact zm_loc [1, 2, 3, 0] rfl (zm_go (hf19a _) (hD19 (x58, M57)))
    refine zm_icmp_gt 56 47 (by decide) rfl dX3_look_44 ?_ ?_
    · refine zm_iconst 57 rfl dX3_look_56 zi_m1 ?_
      exact zm_loc [0, 1, 2, 3] rfl (hb57_19 l19_4 (-1))
    · refine zm_aload_n 48 rfl dX3_look_47 rfl 1 rfl ?_
      refine zm_iload 50 rfl dX3_look_48 3 rfl ?_
      refine zm_cV1ir 53 rfl dX3_look_50 ml_X3_41 rfl (zm_L rfl) rfl (Nat.le_of_ble_eq_true rfl) ⟨Nat.le_of_ble_eq_true rfl, Nat.le_of_ble_eq_true rfl⟩ rfl rfl ⟨Nat.le_refl _, Nat.le_refl _⟩ rfl (fun _ h => k_X4_goal E sv l19_4 L19 h) (fun r50 => ?_)
      refine zm_goto 57 (by decide) dX3_look_53 ?_
      exact zm_loc [0, 1, 2, 3] rfl (hb57_19 l19_4 r50)
abbrev Y_X3_spot : zm_Y := (cX3_spot, 2, RX3, { frames := 0, cells := 0, slots := 0, locals := 0 }, (some .int), false)
noncomputable def f_X3_spot (a1 : Int32) (M : zm_Mem) : Option Int32 :=
  zm_ck (zm_in a1 6) <| some (M.1 51 a1.toNatClampNeg)
set_option maxRecDepth 20000 in
set_option maxHeartbeats 4000000 in
theorem k_X3_spot (E : zm_E) (sv : Nat) (a1 : Int32) (M : zm_Mem) {r : Int32} (h : f_X3_spot a1 M = some r) : zm_Ct E sv sv yX3_spot Y_X3_spot [.ref (E.2.1 + 47), .int a1] M (some (.int r)) M := by
  refine zm_methr (emb := zm_ei) (d := f_X3_spot a1 M) (by decide) rfl (Nat.le_of_ble_eq_true rfl) h (fun X => ?_)
  show zm_V X Y_X3_spot E (zm_Q X E Y_X3_spot.2.2.2.1.cells Y_X3_spot.2.2.2.1.slots sv zm_ei) 0 0 sv 0 [(0, .ref (E.2.1 + 47)), (1, .int a1)] [] M (f_X3_spot a1 M) (fun r => some (r, M))
  unfold f_X3_spot
  refine zm_aload_n 1 rfl dX3_spot_0 rfl 0 rfl ?_
  refine zm_getR 4 rfl dX3_spot_1 fl_X3_18 rfl (zm_L rfl) rfl ?_
  refine zm_iload_n 5 rfl dX3_spot_4 rfl 1 rfl ?_
  refine zm_iald 6 rfl dX3_spot_5 rfl (zm_L rfl) ?_
  exact zm_iret dX3_spot_6 rfl (Nat.le_refl _) (Nat.le_refl _) rfl
abbrev Y_X3_enterAmong : zm_Y := (cX3_enterAmong, 6, RX3, { frames := 0, cells := 0, slots := 0, locals := 0 }, none, false)
noncomputable def f_X3_enterAmong_b94 (a2 : Int32) (M71 : zm_Mem) (b94_s1 : Int32) (b94_s2 : Int32) : Option (Unit × zm_Mem) :=
 zm_ck (zm_in b94_s1 9) <| zm_v (zm_sI M71 49 b94_s1.toNatClampNeg b94_s2) <| fun M94 => zm_ck (zm_in 7 9) <| zm_v (zm_sI M94 49 (7 : Int32).toNatClampNeg a2) <| fun M100 => some ((), M100)
noncomputable def f_X3_enterAmong (a1 : Int32) (a2 : Int32) (a3 : Int32) (a4 : Int32) (M : zm_Mem) : Option (Unit × zm_Mem) :=
  zm_v (M.2.2 47 2) <| fun t13 => zm_ck (zm_isT t13) <| zm_ck (zm_in a2 5) <| zm_ck (zm_in 0 9) <| zm_v (zm_sI M 49 (0 : Int32).toNatClampNeg (M.1 (t13 + 1) a2.toNatClampNeg)) <| fun M21 => zm_v (M21.2.2 47 2) <| fun t26 => zm_ck (zm_isT t26) <| zm_ck (zm_in a2 5) <| zm_ck (zm_in 1 9) <| zm_v (zm_sI M21 49 (1 : Int32).toNatClampNeg (M21.1 (t26 + 2) a2.toNatClampNeg)) <| fun M34 => zm_v (M34.2.2 47 2) <| fun t39 => zm_ck (zm_isT t39) <| zm_ck (zm_in a1 6) <| zm_ck (zm_in 2 9) <| zm_v (zm_sI M34 49 (2 : Int32).toNatClampNeg (M34.1 (t39 + 5) a1.toNatClampNeg)) <| fun M47 => zm_v (M47.2.2 47 2) <| fun t52 => zm_ck (zm_isT t52) <| zm_ck (zm_in a1 6) <| zm_ck (zm_in 3 9) <| zm_v (zm_sI M47 49 (3 : Int32).toNatClampNeg (M47.1 (t52 + 6) a1.toNatClampNeg)) <| fun M60 => zm_ck (zm_in 4 9) <| zm_v (zm_sI M60 49 (4 : Int32).toNatClampNeg a3) <| fun M65 => zm_ck (zm_in 5 9) <| zm_v (zm_sI M65 49 (5 : Int32).toNatClampNeg a4) <| fun M71 => zm_v (M71.2.2 47 2) <| fun t77 => zm_ck (zm_isT t77) <| zm_ck (zm_in a1 6) <| if (M71.1 (t77 + 3) a1.toNatClampNeg) = a2 then (f_X3_enterAmong_b94 a2 M71 6 1) else (f_X3_enterAmong_b94 a2 M71 6 0)
set_option maxRecDepth 20000 in
set_option maxHeartbeats 4000000 in
theorem k_X3_enterAmong (E : zm_E) (sv : Nat) (a1 : Int32) (a2 : Int32) (a3 : Int32) (a4 : Int32) (M : zm_Mem) {r : Unit} {M' : zm_Mem} (h : f_X3_enterAmong a1 a2 a3 a4 M = some (r, M')) : zm_Ct E sv sv yX3_enterAmong Y_X3_enterAmong [.ref (E.2.1 + 47), .int a1, .int a2, .int a3, .int a4] M none M' := by
  refine zm_meth (emb := zm_ev) (d := f_X3_enterAmong a1 a2 a3 a4 M) (by decide) rfl (Nat.le_of_ble_eq_true rfl) h (fun X => ?_)
  show zm_V X Y_X3_enterAmong E (zm_Q X E Y_X3_enterAmong.2.2.2.1.cells Y_X3_enterAmong.2.2.2.1.slots sv zm_ev) 0 0 sv 0 [(0, .ref (E.2.1 + 47)), (1, .int a1), (2, .int a2), (3, .int a3), (4, .int a4)] [] M (f_X3_enterAmong a1 a2 a3 a4 M) some
  unfold f_X3_enterAmong
  refine zm_aload_n 1 rfl dX3_enterAmong_0 rfl 0 rfl ?_
  refine zm_getR 4 rfl dX3_enterAmong_1 fl_X3_12 rfl (zm_L rfl) rfl ?_
  refine zm_getR 7 rfl dX3_enterAmong_4 fl_X3_26 rfl (zm_L rfl) rfl ?_
  refine zm_astore (lv' := [(5, .ref (E.2.1 + 49)), (0, .ref (E.2.1 + 47)), (1, .int a1), (2, .int a2), (3, .int a3), (4, .int a4)]) 9 rfl dX3_enterAmong_7 (by decide) rfl ?_
  refine zm_aload 11 rfl dX3_enterAmong_9 0 rfl ?_
  refine zm_iconst 12 rfl dX3_enterAmong_11 zi_0 ?_
  refine zm_aload_n 13 rfl dX3_enterAmong_12 rfl 1 rfl ?_
  refine zm_getT 16 rfl dX3_enterAmong_13 fl_X3_22 rfl (zm_L rfl) (fun t13 _ ht13 => ?_)
  refine zm_getR (a := t13 + 1) 19 rfl dX3_enterAmong_16 fl_X3_51 (zm_T_o ht13) (zm_T_l0 ht13) (zm_T_r ht13 0 (by decide)) ?_
  refine zm_iload_n 20 rfl dX3_enterAmong_19 rfl 3 rfl ?_
  refine zm_iald 21 rfl dX3_enterAmong_20 (zm_T_a ht13 1 (by decide)) (zm_T_l ht13 1 (by decide)) ?_
  refine zm_iast 22 rfl dX3_enterAmong_21 rfl (zm_L rfl) (fun M21 _ => ?_)
  refine zm_aload 24 rfl dX3_enterAmong_22 0 rfl ?_
  refine zm_iconst 25 rfl dX3_enterAmong_24 zi_1 ?_
  refine zm_aload_n 26 rfl dX3_enterAmong_25 rfl 1 rfl ?_
  refine zm_getT 29 rfl dX3_enterAmong_26 fl_X3_22 rfl (zm_L rfl) (fun t26 _ ht26 => ?_)
  refine zm_getR (a := t26 + 2) 32 rfl dX3_enterAmong_29 fl_X3_54 (zm_T_o ht26) (zm_T_l0 ht26) (zm_T_r ht26 1 (by decide)) ?_
  refine zm_iload_n 33 rfl dX3_enterAmong_32 rfl 3 rfl ?_
  refine zm_iald 34 rfl dX3_enterAmong_33 (zm_T_a ht26 2 (by decide)) (zm_T_l ht26 2 (by decide)) ?_
  refine zm_iast 35 rfl dX3_enterAmong_34 rfl (zm_L rfl) (fun M34 _ => ?_)
  refine zm_aload 37 rfl dX3_enterAmong_35 0 rfl ?_
  refine zm_iconst 38 rfl dX3_enterAmong_37 zi_2 ?_
  refine zm_aload_n 39 rfl dX3_enterAmong_38 rfl 1 rfl ?_
  refine zm_getT 42 rfl dX3_enterAmong_39 fl_X3_22 rfl (zm_L rfl) (fun t39 _ ht39 => ?_)
  refine zm_getR (a := t39 + 5) 45 rfl dX3_enterAmong_42 fl_X3_44 (zm_T_o ht39) (zm_T_l0 ht39) (zm_T_r ht39 4 (by decide)) ?_
  refine zm_iload_n 46 rfl dX3_enterAmong_45 rfl 2 rfl ?_
  refine zm_iald 47 rfl dX3_enterAmong_46 (zm_T_a ht39 5 (by decide)) (zm_T_l ht39 5 (by decide)) ?_
  refine zm_iast 48 rfl dX3_enterAmong_47 rfl (zm_L rfl) (fun M47 _ => ?_)
  refine zm_aload 50 rfl dX3_enterAmong_48 0 rfl ?_
  refine zm_iconst 51 rfl dX3_enterAmong_50 zi_3 ?_
  refine zm_aload_n 52 rfl dX3_enterAmong_51 rfl 1 rfl ?_
  refine zm_getT 55 rfl dX3_enterAmong_52 fl_X3_22 rfl (zm_L rfl) (fun t52 _ ht52 => ?_)
  refine zm_getR (a := t52 + 6) 58 rfl dX3_enterAmong_55 fl_X3_57 (zm_T_o ht52) (zm_T_l0 ht52) (zm_T_r ht52 5 (by decide)) ?_
  refine zm_iload_n 59 rfl dX3_enterAmong_58 rfl 2 rfl ?_
  refine zm_iald 60 rfl dX3_enterAmong_59 (zm_T_a ht52 6 (by decide)) (zm_T_l ht52 6 (by decide)) ?_
  refine zm_iast 61 rfl dX3_enterAmong_60 rfl (zm_L rfl) (fun M60 _ => ?_)
  refine zm_aload 63 rfl dX3_enterAmong_61 0 rfl ?_
  refine zm_iconst 64 rfl dX3_enterAmong_63 zi_4 ?_
  refine zm_iload_n 65 rfl dX3_enterAmong_64 rfl 4 rfl ?_
  refine zm_iast 66 rfl dX3_enterAmong_65 rfl (zm_L rfl) (fun M65 _ => ?_)
  refine zm_aload 68 rfl dX3_enterAmong_66 0 rfl ?_
  refine zm_iconst 69 rfl dX3_enterAmong_68 zi_5 ?_
  refine zm_iload 71 rfl dX3_enterAmong_69 5 rfl ?_
  refine zm_iast 72 rfl dX3_enterAmong_71 rfl (zm_L rfl) (fun M71 _ => ?_)
  refine zm_aload 74 rfl dX3_enterAmong_72 0 rfl ?_
  refine zm_bipush 76 rfl dX3_enterAmong_74 zb_6 ?_
  refine zm_aload_n 77 rfl dX3_enterAmong_76 rfl 1 rfl ?_
  refine zm_getT 80 rfl dX3_enterAmong_77 fl_X3_22 rfl (zm_L rfl) (fun t77 _ ht77 => ?_)
  refine zm_getR (a := t77 + 3) 83 rfl dX3_enterAmong_80 fl_X3_60 (zm_T_o ht77) (zm_T_l0 ht77) (zm_T_r ht77 2 (by decide)) ?_
  refine zm_iload_n 84 rfl dX3_enterAmong_83 rfl 2 rfl ?_
  refine zm_iald 85 rfl dX3_enterAmong_84 (zm_T_a ht77 3 (by decide)) (zm_T_l ht77 3 (by decide)) ?_
  refine zm_iload_n 86 rfl dX3_enterAmong_85 rfl 3 rfl ?_
  have hb94 : ∀ (b94_s1 : Int32) (b94_s2 : Int32), zm_V X Y_X3_enterAmong E (zm_Q X E Y_X3_enterAmong.2.2.2.1.cells Y_X3_enterAmong.2.2.2.1.slots sv zm_ev) 0 0 sv 94 [(2, .int a2), (5, .ref (E.2.1 + 49))] [.int b94_s2, .int b94_s1, .ref (E.2.1 + 49)] M71 (f_X3_enterAmong_b94 a2 M71 b94_s1 b94_s2) some := by
    intro b94_s1 b94_s2
    unfold f_X3_enterAmong_b94
    refine zm_iast 95 rfl dX3_enterAmong_94 rfl (zm_L rfl) (fun M94 _ => ?_)
    refine zm_aload 97 rfl dX3_enterAmong_95 1 rfl ?_
    refine zm_bipush 99 rfl dX3_enterAmong_97 zb_7 ?_
    refine zm_iload_n 100 rfl dX3_enterAmong_99 rfl 0 rfl ?_
    refine zm_iast 101 rfl dX3_enterAmong_100 rfl (zm_L rfl) (fun M100 _ => ?_)
    exact zm_vret dX3_enterAmong_101 rfl (Nat.le_refl _) (Nat.le_refl _) rfl
  refine zm_icmp_ne 93 89 (by decide) rfl dX3_enterAmong_86 ?_ ?_
  · refine zm_iconst 90 rfl dX3_enterAmong_89 zi_1 ?_
    refine zm_goto 94 (by decide) dX3_enterAmong_90 ?_
    exact zm_loc [3, 0] rfl (hb94 6 1)
  · refine zm_iconst 94 rfl dX3_enterAmong_93 zi_0 ?_
    exact zm_loc [3, 0] rfl (hb94 6 0)
abbrev Y_X3_enter : zm_Y := (cX3_enter, 7, RX3, { frames := 1, cells := 0, slots := 0, locals := 25 }, none, false)
noncomputable def f_X3_enter_x78_9 (a1 : Int32) (a2 : Int32) (M : zm_Mem) (e78_4 : Int32) (e78_5 : Int32) : Option (Unit × zm_Mem) :=
 zm_b2 (f_X3_enterAmong a1 a2 e78_4 e78_5 M) <| fun _ M85 => some ((), M85)
noncomputable def f_X3_enter_b72_9 (l9_6 : Int32) (b72_4 : Int32) (b72_5 : Int32) : Option ((Int32 × Int32 × Int32) ⊕ (Int32 × Int32)) :=
 zm_v (l9_6 + 1) <| fun x72 => some (.inl (b72_4, b72_5, x72))
noncomputable def f_X3_enter_l9 (a1 : Int32) (a2 : Int32) (a3 : Int32) (M : zm_Mem) (l9_4 : Int32) (l9_5 : Int32) (l9_6 : Int32) : Option ((Int32 × Int32 × Int32) ⊕ (Int32 × Int32)) :=
 zm_v (M.2.2 47 2) <| fun t12 => zm_ck (zm_isT t12) <| if (M.1 t12 12) ≤ l9_6 then (some (.inr (l9_4, l9_5))) else (zm_ck (zm_in l9_6 6) <| if (M.1 51 l9_6.toNatClampNeg) = a2 then (if l9_6 = a1 then (f_X3_enter_b72_9 l9_6 l9_4 l9_5) else (if l9_6 = a3 then (f_X3_enter_b72_9 l9_6 l9_4 l9_5) else (zm_v (l9_4 + 1) <| fun x44 => zm_v (M.2.2 47 2) <| fun t48 => zm_ck (zm_isT t48) <| zm_ck (zm_in l9_6 6) <| zm_v (M.2.2 47 2) <| fun t58 => zm_ck (zm_isT t58) <| zm_ck (zm_in a1 6) <| if (M.1 (t48 + 5) l9_6.toNatClampNeg) = (M.1 (t58 + 5) a1.toNatClampNeg) then (zm_v (l9_5 + 1) <| fun x69 => f_X3_enter_b72_9 l9_6 x44 x69) else (f_X3_enter_b72_9 l9_6 x44 l9_5)))) else (f_X3_enter_b72_9 l9_6 l9_4 l9_5))
noncomputable def f_X3_enter (a1 : Int32) (a2 : Int32) (a3 : Int32) (M : zm_Mem) : Option (Unit × zm_Mem) :=
  (zm_lp (fun s => f_X3_enter_l9 a1 a2 a3 M s.1 s.2.1 s.2.2) (0, 0, 0)).bind (fun e78 => f_X3_enter_x78_9 a1 a2 M e78.1 e78.2)
set_option maxRecDepth 20000 in
set_option maxHeartbeats 4000000 in
theorem k_X3_enter (E : zm_E) (sv : Nat) (a1 : Int32) (a2 : Int32) (a3 : Int32) (M : zm_Mem) {r : Unit} {M' : zm_Mem} (h : f_X3_enter a1 a2 a3 M = some (r, M')) : zm_Ct E sv sv yX3_enter Y_X3_enter [.ref (E.2.1 + 47), .int a1, .int a2, .int a3] M none M' := by
  refine zm_meth (emb := zm_ev) (d := f_X3_enter a1 a2 a3 M) (by decide) rfl (Nat.le_of_ble_eq_true rfl) h (fun X => ?_)
  show zm_V X Y_X3_enter E (zm_Q X E Y_X3_enter.2.2.2.1.cells Y_X3_enter.2.2.2.1.slots sv zm_ev) 0 0 sv 0 [(0, .ref (E.2.1 + 47)), (1, .int a1), (2, .int a2), (3, .int a3)] [] M (f_X3_enter a1 a2 a3 M) some
  unfold f_X3_enter
  refine zm_iconst 1 rfl dX3_enter_0 zi_0 ?_
  refine zm_istore (lv' := [(4, .int 0), (0, .ref (E.2.1 + 47)), (1, .int a1), (2, .int a2), (3, .int a3)]) 3 rfl dX3_enter_1 (by decide) rfl ?_
  refine zm_iconst 4 rfl dX3_enter_3 zi_0 ?_
  refine zm_istore (lv' := [(5, .int 0), (4, .int 0), (0, .ref (E.2.1 + 47)), (1, .int a1), (2, .int a2), (3, .int a3)]) 6 rfl dX3_enter_4 (by decide) rfl ?_
  refine zm_iconst 7 rfl dX3_enter_6 zi_0 ?_
  refine zm_istore (lv' := [(6, .int 0), (5, .int 0), (4, .int 0), (0, .ref (E.2.1 + 47)), (1, .int a1), (2, .int a2), (3, .int a3)]) 9 rfl dX3_enter_7 (by decide) rfl ?_
  have hx78_9 : ∀ (e78_4 : Int32) (e78_5 : Int32), zm_V X Y_X3_enter E (zm_Q X E Y_X3_enter.2.2.2.1.cells Y_X3_enter.2.2.2.1.slots sv zm_ev) 0 0 sv 78 [(0, .ref (E.2.1 + 47)), (1, .int a1), (2, .int a2), (4, .int e78_4), (5, .int e78_5)] [] M (f_X3_enter_x78_9 a1 a2 M e78_4 e78_5) some := by
    intro e78_4 e78_5
    unfold f_X3_enter_x78_9
    refine zm_aload_n 79 rfl dX3_enter_78 rfl 0 rfl ?_
    refine zm_iload_n 80 rfl dX3_enter_79 rfl 1 rfl ?_
    refine zm_iload_n 81 rfl dX3_enter_80 rfl 2 rfl ?_
    refine zm_iload 83 rfl dX3_enter_81 3 rfl ?_
    refine zm_iload 85 rfl dX3_enter_83 4 rfl ?_
    refine zm_cV4v 88 rfl dX3_enter_85 ml_X3_47 rfl (zm_L rfl) rfl (Nat.le_of_ble_eq_true rfl) ⟨Nat.le_of_ble_eq_true rfl, Nat.le_of_ble_eq_true rfl⟩ rfl rfl ⟨Nat.le_refl _, Nat.le_refl _⟩ rfl (fun _ _ h => k_X3_enterAmong E sv a1 a2 e78_4 e78_5 M h) (fun _ M85 => ?_)
    exact zm_vret dX3_enter_88 rfl (Nat.le_refl _) (Nat.le_refl _) rfl
  refine zm_loc [3, 4, 5, 6, 2, 1, 0] rfl (zm_lpp (σ := (Int32 × Int32 × Int32)) (ε := (Int32 × Int32)) (step := fun s => f_X3_enter_l9 a1 a2 a3 M s.1 s.2.1 s.2.2) (fun s => [(0, .ref (E.2.1 + 47)), (1, .int a1), (2, .int a2), (3, .int a3), (4, .int s.1), (5, .int s.2.1), (6, .int s.2.2)]) (fun _ => M) (fun D9 f9 hf9a hf9b hD9 s => ?_) (0, 0, 0))
  obtain ⟨l9_4, l9_5, l9_6⟩ := s
  show zm_V X Y_X3_enter E (zm_Q X E Y_X3_enter.2.2.2.1.cells Y_X3_enter.2.2.2.1.slots sv zm_ev) 0 0 sv 9 [(0, .ref (E.2.1 + 47)), (1, .int a1), (2, .int a2), (3, .int a3), (4, .int l9_4), (5, .int l9_5), (6, .int l9_6)] [] M (f_X3_enter_l9 a1 a2 a3 M l9_4 l9_5 l9_6) f9
  unfold f_X3_enter_l9
  refine zm_iload 11 rfl dX3_enter_9 6 rfl ?_
  refine zm_aload_n 12 rfl dX3_enter_11 rfl 0 rfl ?_
  refine zm_getT 15 rfl dX3_enter_12 fl_X3_22 rfl (zm_L rfl) (fun t12 _ ht12 => ?_)
  refine zm_getI 18 rfl dX3_enter_15 fl_X3_29 (zm_T_o ht12) (zm_T_l0 ht12) ?_
  refine zm_icmp_ge 78 21 (by decide) rfl dX3_enter_18 ?_ ?_
  · exact zm_loc [0, 1, 2, 4, 5] rfl (zm_go (hf9b _) (zm_unb (hx78_9 l9_4 l9_5)))
  · refine zm_aload_n 22 rfl dX3_enter_21 rfl 0 rfl ?_
    refine zm_getR 25 rfl dX3_enter_22 fl_X3_18 rfl (zm_L rfl) rfl ?_
    refine zm_iload 27 rfl dX3_enter_25 6 rfl ?_
    refine zm_iald 28 rfl dX3_enter_27 rfl (zm_L rfl) ?_
    refine zm_iload_n 29 rfl dX3_enter_28 rfl 2 rfl ?_
    have hb72_9 : ∀ (b72_4 : Int32) (b72_5 : Int32), zm_V X Y_X3_enter E (zm_Q X E Y_X3_enter.2.2.2.1.cells Y_X3_enter.2.2.2.1.slots sv zm_ev) 0 0 sv 72 [(0, .ref (E.2.1 + 47)), (1, .int a1), (2, .int a2), (3, .int a3), (4, .int b72_4), (5, .int b72_5), (6, .int l9_6)] [] M (f_X3_enter_b72_9 l9_6 b72_4 b72_5) f9 := by
      intro b72_4 b72_5
      unfold f_X3_enter_b72_9
      refine zm_iinc (lv' := fun z => [(6, .int z), (0, .ref (E.2.1 + 47)), (1, .int a1), (2, .int a2), (3, .int a3), (4, .int b72_4), (5, .int b72_5)]) 75 rfl dX3_enter_72 zi_1 6 rfl (by decide) (fun _ => rfl) (fun x72 _ => ?_)
      refine zm_goto 9 (by decide) dX3_enter_75 ?_
      exact zm_loc [1, 2, 3, 4, 5, 6, 0] rfl (zm_go (hf9a _) (hD9 (b72_4, b72_5, x72)))
    refine zm_icmp_ne 72 32 (by decide) rfl dX3_enter_29 ?_ ?_
    · refine zm_iload 34 rfl dX3_enter_32 6 rfl ?_
      refine zm_iload_n 35 rfl dX3_enter_34 rfl 1 rfl ?_
      refine zm_icmp_eq 72 38 (by decide) rfl dX3_enter_35 ?_ ?_
      · exact zm_loc [0, 1, 2, 3, 4, 5, 6] rfl (hb72_9 l9_4 l9_5)
      · refine zm_iload 40 rfl dX3_enter_38 6 rfl ?_
        refine zm_iload_n 41 rfl dX3_enter_40 rfl 3 rfl ?_
        refine zm_icmp_eq 72 44 (by decide) rfl dX3_enter_41 ?_ ?_
        · exact zm_loc [0, 1, 2, 3, 4, 5, 6] rfl (hb72_9 l9_4 l9_5)
        · refine zm_iinc (lv' := fun z => [(4, .int z), (0, .ref (E.2.1 + 47)), (1, .int a1), (2, .int a2), (3, .int a3), (5, .int l9_5), (6, .int l9_6)]) 47 rfl dX3_enter_44 zi_1 4 rfl (by decide) (fun _ => rfl) (fun x44 _ => ?_)
          refine zm_aload_n 48 rfl dX3_enter_47 rfl 1 rfl ?_
          refine zm_getT 51 rfl dX3_enter_48 fl_X3_22 rfl (zm_L rfl) (fun t48 _ ht48 => ?_)
          refine zm_getR (a := t48 + 5) 54 rfl dX3_enter_51 fl_X3_44 (zm_T_o ht48) (zm_T_l0 ht48) (zm_T_r ht48 4 (by decide)) ?_
          refine zm_iload 56 rfl dX3_enter_54 6 rfl ?_
          refine zm_iald 57 rfl dX3_enter_56 (zm_T_a ht48 5 (by decide)) (zm_T_l ht48 5 (by decide)) ?_
          refine zm_aload_n 58 rfl dX3_enter_57 rfl 1 rfl ?_
          refine zm_getT 61 rfl dX3_enter_58 fl_X3_22 rfl (zm_L rfl) (fun t58 _ ht58 => ?_)
          refine zm_getR (a := t58 + 5) 64 rfl dX3_enter_61 fl_X3_44 (zm_T_o ht58) (zm_T_l0 ht58) (zm_T_r ht58 4 (by decide)) ?_
          refine zm_iload_n 65 rfl dX3_enter_64 rfl 2 rfl ?_
          refine zm_iald 66 rfl dX3_enter_65 (zm_T_a ht58 5 (by decide)) (zm_T_l ht58 5 (by decide)) ?_
          refine zm_icmp_ne 72 69 (by decide) rfl dX3_enter_66 ?_ ?_
          · refine zm_iinc (lv' := fun z => [(5, .int z), (4, .int x44), (0, .ref (E.2.1 + 47)), (1, .int a1), (2, .int a2), (3, .int a3), (6, .int l9_6)]) 72 rfl dX3_enter_69 zi_1 5 rfl (by decide) (fun _ => rfl) (fun x69 _ => ?_)
            exact zm_loc [2, 3, 4, 5, 1, 0, 6] rfl (hb72_9 x44 x69)
          · exact zm_loc [1, 2, 3, 4, 0, 5, 6] rfl (hb72_9 x44 l9_5)
    · exact zm_loc [0, 1, 2, 3, 4, 5, 6] rfl (hb72_9 l9_4 l9_5)
abbrev Y_X5_goThrough : zm_Y := (cX5_goThrough, 10, RX5, { frames := 0, cells := 0, slots := 0, locals := 0 }, (some .int), false)
noncomputable def f_X5_goThrough_x61_8 (e61_4 : Int32) (N61 : zm_Mem) : Option (Int32 × zm_Mem) :=
 if e61_4 ≤ 0 then (some (0, N61)) else (zm_ck (zm_in (e61_4 - 1) 24) <| some (N61.1 50 (e61_4 - 1).toNatClampNeg, N61))
noncomputable def f_X5_goThrough_b294_8 (l8_5 : Int32) (b294_3 : Int32) (b294_4 : Int32) (M294 : zm_Mem) : Option ((Int32 × Int32 × Int32 × zm_Mem) ⊕ ((Int32 × zm_Mem) ⊕ zm_Mem ⊕ zm_Mem ⊕ zm_Mem ⊕ zm_Mem)) :=
 zm_v (l8_5 + 1) <| fun x294 => some (.inl (b294_3, b294_4, x294, M294))
noncomputable def f_X5_goThrough_b136_8 (l8_4 : Int32) (l8_5 : Int32) (L8 : zm_Mem) (x51 : Int32) (b136_s1 : Int32) (b136_s2 : Int32) : Option ((Int32 × Int32 × Int32 × zm_Mem) ⊕ ((Int32 × zm_Mem) ⊕ zm_Mem ⊕ zm_Mem ⊕ zm_Mem ⊕ zm_Mem)) :=
 zm_ck (zm_in b136_s1 24) <| zm_v (zm_sI L8 50 b136_s1.toNatClampNeg b136_s2) <| fun M136 => zm_v (l8_4 + 1) <| fun x137 => f_X5_goThrough_b294_8 l8_5 x51 x137 M136
noncomputable def f_X5_goThrough_b113_8 (l8_4 : Int32) (l8_5 : Int32) (L8 : zm_Mem) (x37 : Int32) (x49 : Int32) (x51 : Int32) : Option ((Int32 × Int32 × Int32 × zm_Mem) ⊕ ((Int32 × zm_Mem) ⊕ zm_Mem ⊕ zm_Mem ⊕ zm_Mem ⊕ zm_Mem)) :=
 if x37 = 0 then (f_X5_goThrough_b136_8 l8_4 l8_5 L8 x51 l8_4 x49) else (zm_ck (zm_in x49 9) <| f_X5_goThrough_b136_8 l8_4 l8_5 L8 x51 l8_4 (L8.1 49 x49.toNatClampNeg))
noncomputable def f_X5_goThrough_b91_8 (l8_4 : Int32) (l8_5 : Int32) (L8 : zm_Mem) (x37 : Int32) (x49 : Int32) (x51 : Int32) : Option ((Int32 × Int32 × Int32 × zm_Mem) ⊕ ((Int32 × zm_Mem) ⊕ zm_Mem ⊕ zm_Mem ⊕ zm_Mem ⊕ zm_Mem)) :=
 if (24 : Int32) ≤ l8_4 then (some (.inr (.inr (.inl L8)))) else (if x37 = (1 : Int32) then (if x49 < (9 : Int32) then (f_X5_goThrough_b113_8 l8_4 l8_5 L8 x37 x49 x51) else (some (.inr (.inr (.inl L8))))) else (f_X5_goThrough_b113_8 l8_4 l8_5 L8 x37 x49 x51))
noncomputable def f_X5_goThrough_b266_8 (l8_5 : Int32) (L8 : zm_Mem) (x250 : Int32) (b266_s0 : Int32) : Option ((Int32 × Int32 × Int32 × zm_Mem) ⊕ ((Int32 × zm_Mem) ⊕ zm_Mem ⊕ zm_Mem ⊕ zm_Mem ⊕ zm_Mem)) :=
 f_X5_goThrough_b294_8 l8_5 b266_s0 x250 L8
noncomputable def f_X5_goThrough_l8 (a1 : Nat) (l8_3 : Int32) (l8_4 : Int32) (l8_5 : Int32) (L8 : zm_Mem) : Option ((Int32 × Int32 × Int32 × zm_Mem) ⊕ ((Int32 × zm_Mem) ⊕ zm_Mem ⊕ zm_Mem ⊕ zm_Mem ⊕ zm_Mem)) :=
 if (408 : Int32) ≤ l8_5 then (some (.inr (.inr (.inr (.inr (.inr L8)))))) else (if l8_3 < 0 then (some (.inr (.inr (.inr (.inr (.inr L8)))))) else (if (L8.1 a1 10) ≤ l8_3 then (some (.inr (.inr (.inr (.inr (.inr L8)))))) else (zm_ck (zm_in l8_3 408) <| zm_v ((L8.1 (a1 + 10) l8_3.toNatClampNeg) >>> (14 &&& 31)) <| fun x37 => zm_ck (zm_in l8_3 408) <| zm_v ((L8.1 (a1 + 10) l8_3.toNatClampNeg) &&& 16383) <| fun x49 => zm_v (l8_3 + 1) <| fun x51 => if x37 = (7 : Int32) then (some (.inr (.inl (l8_4, L8)))) else (if x37 = 0 then (f_X5_goThrough_b91_8 l8_4 l8_5 L8 x37 x49 x51) else (if x37 = (1 : Int32) then (f_X5_goThrough_b91_8 l8_4 l8_5 L8 x37 x49 x51) else (if (2 : Int32) ≤ l8_4 then (zm_v (l8_4 + (-1)) <| fun x151 => zm_ck (zm_in (x151 - 1) 24) <| zm_v (L8.1 50 (x151 - 1).toNatClampNeg) <| fun x163 => zm_ck (zm_in x151 24) <| zm_v (L8.1 50 x151.toNatClampNeg) <| fun x172 => if x37 = (2 : Int32) then (zm_ck (zm_in (x151 - 1) 24) <| zm_v (zm_sI L8 50 (x151 - 1).toNatClampNeg (x163 + x172)) <| fun M193 => f_X5_goThrough_b294_8 l8_5 x51 x151 M193) else (if x37 = (3 : Int32) then (zm_ck (zm_in (x151 - 1) 24) <| zm_v (zm_sI L8 50 (x151 - 1).toNatClampNeg (x163 - x172)) <| fun M216 => f_X5_goThrough_b294_8 l8_5 x51 x151 M216) else (if x37 = (4 : Int32) then (zm_ck (zm_in (x151 - 1) 24) <| zm_v (zm_sI L8 50 (x151 - 1).toNatClampNeg (x163 * x172)) <| fun M239 => f_X5_goThrough_b294_8 l8_5 x51 x151 M239) else (if x37 = (6 : Int32) then (zm_v (x151 + (-1)) <| fun x250 => if x172 ≤ x163 then (f_X5_goThrough_b266_8 l8_5 L8 x250 x49) else (f_X5_goThrough_b266_8 l8_5 L8 x250 x51)) else (if x172 = 0 then (some (.inr (.inr (.inr (.inr (.inl L8)))))) else (zm_ck (!decide (x172 = 0)) <| zm_ck (zm_in (x151 - 1) 24) <| zm_v (zm_sI L8 50 (x151 - 1).toNatClampNeg (x163 / x172)) <| fun M288 => f_X5_goThrough_b294_8 l8_5 x51 x151 M288)))))) else (some (.inr (.inr (.inr (.inl L8)))))))))))
noncomputable def f_X5_goThrough (a1 : Nat) (a2 : Int32) (M : zm_Mem) : Option (Int32 × zm_Mem) :=
  (zm_lp (fun s => f_X5_goThrough_l8 a1 s.1 s.2.1 s.2.2.1 s.2.2.2) (a2, 0, 0, M)).bind (Sum.elim (fun e61 => f_X5_goThrough_x61_8 e61.1 e61.2) (Sum.elim (fun e111 => some (0, e111)) (Sum.elim (fun e149 => some (0, e149)) (Sum.elim (fun e292 => some (0, e292)) (fun e300 => some (0, e300))))))
set_option maxRecDepth 20000 in
set_option maxHeartbeats 4000000 in
theorem k_X5_goThrough (E : zm_E) (sv : Nat) (a1 : Nat) (a2 : Int32) (ha1 : zm_isT a1 = true) (M : zm_Mem) {r : Int32} {M' : zm_Mem} (h : f_X5_goThrough a1 a2 M = some (r, M')) : zm_Ct E sv sv yX5_goThrough Y_X5_goThrough [.ref (E.2.1 + 48), .ref (E.2.1 + a1), .int a2] M (some (.int r)) M' := by
  refine zm_meth (emb := zm_ei) (d := f_X5_goThrough a1 a2 M) (by decide) rfl (Nat.le_of_ble_eq_true rfl) h (fun X => ?_)
  show zm_V X Y_X5_goThrough E (zm_Q X E Y_X5_goThrough.2.2.2.1.cells Y_X5_goThrough.2.2.2.1.slots sv zm_ei) 0 0 sv 0 [(0, .ref (E.2.1 + 48)), (1, .ref (E.2.1 + a1)), (2, .int a2)] [] M (f_X5_goThrough a1 a2 M) some
  unfold f_X5_goThrough
  refine zm_iload_n 1 rfl dX5_goThrough_0 rfl 2 rfl ?_
  refine zm_istore_n (lv' := [(3, .int a2), (0, .ref (E.2.1 + 48)), (1, .ref (E.2.1 + a1)), (2, .int a2)]) 2 rfl dX5_goThrough_1 rfl (by decide) rfl ?_
  refine zm_iconst 3 rfl dX5_goThrough_2 zi_0 ?_
  refine zm_istore (lv' := [(4, .int 0), (3, .int a2), (0, .ref (E.2.1 + 48)), (1, .ref (E.2.1 + a1)), (2, .int a2)]) 5 rfl dX5_goThrough_3 (by decide) rfl ?_
  refine zm_iconst 6 rfl dX5_goThrough_5 zi_0 ?_
  refine zm_istore (lv' := [(5, .int 0), (4, .int 0), (3, .int a2), (0, .ref (E.2.1 + 48)), (1, .ref (E.2.1 + a1)), (2, .int a2)]) 8 rfl dX5_goThrough_6 (by decide) rfl ?_
  have hx61_8 : ∀ (e61_4 : Int32) (N61 : zm_Mem), zm_V X Y_X5_goThrough E (zm_Q X E Y_X5_goThrough.2.2.2.1.cells Y_X5_goThrough.2.2.2.1.slots sv zm_ei) 0 0 sv 61 [(0, .ref (E.2.1 + 48)), (4, .int e61_4)] [] N61 (f_X5_goThrough_x61_8 e61_4 N61) some := by
    intro e61_4 N61
    unfold f_X5_goThrough_x61_8
    refine zm_iload 63 rfl dX5_goThrough_61 1 rfl ?_
    refine zm_if_le 78 66 (by decide) rfl dX5_goThrough_63 ?_ ?_
    · refine zm_iconst 79 rfl dX5_goThrough_78 zi_0 ?_
      exact zm_iret dX5_goThrough_79 rfl (Nat.le_refl _) (Nat.le_refl _) rfl
    · refine zm_aload_n 67 rfl dX5_goThrough_66 rfl 0 rfl ?_
      refine zm_getR 70 rfl dX5_goThrough_67 fl_X5_13 rfl (zm_L rfl) rfl ?_
      refine zm_iload 72 rfl dX5_goThrough_70 1 rfl ?_
      refine zm_iconst 73 rfl dX5_goThrough_72 zi_1 ?_
      refine zm_isub 74 rfl dX5_goThrough_73 ?_
      refine zm_iald 75 rfl dX5_goThrough_74 rfl (zm_L rfl) ?_
      refine zm_goto 79 (by decide) dX5_goThrough_75 ?_
      exact zm_iret dX5_goThrough_79 rfl (Nat.le_refl _) (Nat.le_refl _) rfl
  have hx111_8 : ∀ (N111 : zm_Mem), zm_V X Y_X5_goThrough E (zm_Q X E Y_X5_goThrough.2.2.2.1.cells Y_X5_goThrough.2.2.2.1.slots sv zm_ei) 0 0 sv 111 [] [] N111 (some (0, N111)) some := by
    intro N111
    refine zm_iconst 112 rfl dX5_goThrough_111 zi_0 ?_
    exact zm_iret dX5_goThrough_112 rfl (Nat.le_refl _) (Nat.le_refl _) rfl
  have hx149_8 : ∀ (N149 : zm_Mem), zm_V X Y_X5_goThrough E (zm_Q X E Y_X5_goThrough.2.2.2.1.cells Y_X5_goThrough.2.2.2.1.slots sv zm_ei) 0 0 sv 149 [] [] N149 (some (0, N149)) some := by
    intro N149
    refine zm_iconst 150 rfl dX5_goThrough_149 zi_0 ?_
    exact zm_iret dX5_goThrough_150 rfl (Nat.le_refl _) (Nat.le_refl _) rfl
  have hx292_8 : ∀ (N292 : zm_Mem), zm_V X Y_X5_goThrough E (zm_Q X E Y_X5_goThrough.2.2.2.1.cells Y_X5_goThrough.2.2.2.1.slots sv zm_ei) 0 0 sv 292 [] [] N292 (some (0, N292)) some := by
    intro N292
    refine zm_iconst 293 rfl dX5_goThrough_292 zi_0 ?_
    exact zm_iret dX5_goThrough_293 rfl (Nat.le_refl _) (Nat.le_refl _) rfl
  have hx300_8 : ∀ (N300 : zm_Mem), zm_V X Y_X5_goThrough E (zm_Q X E Y_X5_goThrough.2.2.2.1.cells Y_X5_goThrough.2.2.2.1.slots sv zm_ei) 0 0 sv 300 [] [] N300 (some (0, N300)) some := by
    intro N300
    refine zm_iconst 301 rfl dX5_goThrough_300 zi_0 ?_
    exact zm_iret dX5_goThrough_301 rfl (Nat.le_refl _) (Nat.le_refl _) rfl
  refine zm_loc [3, 4, 2, 1, 0] rfl (zm_lpp (σ := (Int32 × Int32 × Int32 × zm_Mem)) (ε := ((Int32 × zm_Mem) ⊕ zm_Mem ⊕ zm_Mem ⊕ zm_Mem ⊕ zm_Mem)) (step := fun s => f_X5_goThrough_l8 a1 s.1 s.2.1 s.2.2.1 s.2.2.2) (fun s => [(0, .ref (E.2.1 + 48)), (1, .ref (E.2.1 + a1)), (3, .int s.1), (4, .int s.2.1), (5, .int s.2.2.1)]) (fun s => s.2.2.2) (fun D8 f8 hf8a hf8b hD8 s => ?_) (a2, 0, 0, M))
  obtain ⟨l8_3, l8_4, l8_5, L8⟩ := s
  show zm_V X Y_X5_goThrough E (zm_Q X E Y_X5_goThrough.2.2.2.1.cells Y_X5_goThrough.2.2.2.1.slots sv zm_ei) 0 0 sv 8 [(0, .ref (E.2.1 + 48)), (1, .ref (E.2.1 + a1)), (3, .int l8_3), (4, .int l8_4), (5, .int l8_5)] [] L8 (f_X5_goThrough_l8 a1 l8_3 l8_4 l8_5 L8) f8
  unfold f_X5_goThrough_l8
  refine zm_iload 10 rfl dX5_goThrough_8 4 rfl ?_
  refine zm_sipush 13 rfl dX5_goThrough_10 zs_408 ?_
  refine zm_icmp_ge 300 16 (by decide) rfl dX5_goThrough_13 ?_ ?_
  · exact zm_loc [] rfl (zm_go (hf8b _) (zm_unb (hx300_8 L8)))
  · refine zm_iload_n 17 rfl dX5_goThrough_16 rfl 2 rfl ?_
    refine zm_if_lt 300 20 (by decide) rfl dX5_goThrough_17 ?_ ?_
    · exact zm_loc [] rfl (zm_go (hf8b _) (zm_unb (hx300_8 L8)))
    · refine zm_iload_n 21 rfl dX5_goThrough_20 rfl 2 rfl ?_
      refine zm_aload_n 22 rfl dX5_goThrough_21 rfl 1 rfl ?_
      refine zm_getI 25 rfl dX5_goThrough_22 fl_X5_18 (zm_T_o ha1) (zm_T_l0 ha1) ?_
      refine zm_icmp_ge 300 28 (by decide) rfl dX5_goThrough_25 ?_ ?_
      · exact zm_loc [] rfl (zm_go (hf8b _) (zm_unb (hx300_8 L8)))
      · refine zm_aload_n 29 rfl dX5_goThrough_28 rfl 1 rfl ?_
        refine zm_getR (a := a1 + 10) 32 rfl dX5_goThrough_29 fl_X5_22 (zm_T_o ha1) (zm_T_l0 ha1) (zm_T_r ha1 9 (by decide)) ?_
        refine zm_iload_n 33 rfl dX5_goThrough_32 rfl 2 rfl ?_
        refine zm_iald 34 rfl dX5_goThrough_33 (zm_T_a ha1 10 (by decide)) (zm_T_l ha1 10 (by decide)) ?_
        refine zm_bipush 36 rfl dX5_goThrough_34 zb_14 ?_
        refine zm_ishr 37 rfl dX5_goThrough_36 ?_
        refine zm_nmi (fun x37 _ => ?_)
        refine zm_istore (lv' := [(6, .int x37), (0, .ref (E.2.1 + 48)), (1, .ref (E.2.1 + a1)), (3, .int l8_3), (4, .int l8_4), (5, .int l8_5)]) 39 rfl dX5_goThrough_37 (by decide) rfl ?_
        refine zm_aload_n 40 rfl dX5_goThrough_39 rfl 2 rfl ?_
        refine zm_getR (a := a1 + 10) 43 rfl dX5_goThrough_40 fl_X5_22 (zm_T_o ha1) (zm_T_l0 ha1) (zm_T_r ha1 9 (by decide)) ?_
        refine zm_iload_n 44 rfl dX5_goThrough_43 rfl 3 rfl ?_
        refine zm_iald 45 rfl dX5_goThrough_44 (zm_T_a ha1 10 (by decide)) (zm_T_l ha1 10 (by decide)) ?_
        refine zm_sipush 48 rfl dX5_goThrough_45 zs_16383 ?_
        refine zm_iand 49 rfl dX5_goThrough_48 ?_
        refine zm_nmi (fun x49 _ => ?_)
        refine zm_istore (lv' := [(7, .int x49), (6, .int x37), (0, .ref (E.2.1 + 48)), (1, .ref (E.2.1 + a1)), (3, .int l8_3), (4, .int l8_4), (5, .int l8_5)]) 51 rfl dX5_goThrough_49 (by decide) rfl ?_
        refine zm_iinc (lv' := fun z => [(3, .int z), (7, .int x49), (6, .int x37), (0, .ref (E.2.1 + 48)), (1, .ref (E.2.1 + a1)), (4, .int l8_4), (5, .int l8_5)]) 54 rfl dX5_goThrough_51 zi_1 4 rfl (by decide) (fun _ => rfl) (fun x51 _ => ?_)
        refine zm_iload 56 rfl dX5_goThrough_54 2 rfl ?_
        refine zm_bipush 58 rfl dX5_goThrough_56 zb_7 ?_
        refine zm_icmp_ne 80 61 (by decide) rfl dX5_goThrough_58 ?_ ?_
        · exact zm_loc [3, 5] rfl (zm_go (hf8b _) (zm_unb (hx61_8 l8_4 L8)))
        · refine zm_iload 82 rfl dX5_goThrough_80 2 rfl ?_
          have hb294_8 : ∀ (b294_3 : Int32) (b294_4 : Int32) (M294 : zm_Mem), zm_V X Y_X5_goThrough E (zm_Q X E Y_X5_goThrough.2.2.2.1.cells Y_X5_goThrough.2.2.2.1.slots sv zm_ei) 0 0 sv 294 [(0, .ref (E.2.1 + 48)), (1, .ref (E.2.1 + a1)), (3, .int b294_3), (4, .int b294_4), (5, .int l8_5)] [] M294 (f_X5_goThrough_b294_8 l8_5 b294_3 b294_4 M294) f8 := by
            intro b294_3 b294_4 M294
            unfold f_X5_goThrough_b294_8
            refine zm_iinc (lv' := fun z => [(5, .int z), (0, .ref (E.2.1 + 48)), (1, .ref (E.2.1 + a1)), (3, .int b294_3), (4, .int b294_4)]) 297 rfl dX5_goThrough_294 zi_1 4 rfl (by decide) (fun _ => rfl) (fun x294 _ => ?_)
            refine zm_goto 8 (by decide) dX5_goThrough_297 ?_
            exact zm_loc [1, 2, 3, 4, 0] rfl (zm_go (hf8a _) (hD8 (b294_3, b294_4, x294, M294)))
          have hb91_8 : zm_V X Y_X5_goThrough E (zm_Q X E Y_X5_goThrough.2.2.2.1.cells Y_X5_goThrough.2.2.2.1.slots sv zm_ei) 0 0 sv 91 [(0, .ref (E.2.1 + 48)), (1, .ref (E.2.1 + a1)), (3, .int x51), (4, .int l8_4), (5, .int l8_5), (6, .int x37), (7, .int x49)] [] L8 (f_X5_goThrough_b91_8 l8_4 l8_5 L8 x37 x49 x51) f8 := by
            unfold f_X5_goThrough_b91_8
            refine zm_iload 93 rfl dX5_goThrough_91 3 rfl ?_
            refine zm_bipush 95 rfl dX5_goThrough_93 zb_24 ?_
            refine zm_icmp_ge 111 98 (by decide) rfl dX5_goThrough_95 ?_ ?_
            · exact zm_loc [] rfl (zm_go (hf8b _) (zm_unb (hx111_8 L8)))
            · refine zm_iload 100 rfl dX5_goThrough_98 5 rfl ?_
              refine zm_iconst 101 rfl dX5_goThrough_100 zi_1 ?_
              have hb113_8 : zm_V X Y_X5_goThrough E (zm_Q X E Y_X5_goThrough.2.2.2.1.cells Y_X5_goThrough.2.2.2.1.slots sv zm_ei) 0 0 sv 113 [(0, .ref (E.2.1 + 48)), (1, .ref (E.2.1 + a1)), (3, .int x51), (4, .int l8_4), (5, .int l8_5), (6, .int x37), (7, .int x49)] [] L8 (f_X5_goThrough_b113_8 l8_4 l8_5 L8 x37 x49 x51) f8 := by
                unfold f_X5_goThrough_b113_8
                refine zm_aload_n 114 rfl dX5_goThrough_113 rfl 0 rfl ?_
                refine zm_getR 117 rfl dX5_goThrough_114 fl_X5_13 rfl (zm_L rfl) rfl ?_
                refine zm_iload 119 rfl dX5_goThrough_117 3 rfl ?_
                refine zm_iload 121 rfl dX5_goThrough_119 5 rfl ?_
                have hb136_8 : ∀ (b136_s1 : Int32) (b136_s2 : Int32), zm_V X Y_X5_goThrough E (zm_Q X E Y_X5_goThrough.2.2.2.1.cells Y_X5_goThrough.2.2.2.1.slots sv zm_ei) 0 0 sv 136 [(0, .ref (E.2.1 + 48)), (1, .ref (E.2.1 + a1)), (3, .int x51), (4, .int l8_4), (5, .int l8_5)] [.int b136_s2, .int b136_s1, .ref (E.2.1 + 50)] L8 (f_X5_goThrough_b136_8 l8_4 l8_5 L8 x51 b136_s1 b136_s2) f8 := by
                  intro b136_s1 b136_s2
                  unfold f_X5_goThrough_b136_8
                  refine zm_iast 137 rfl dX5_goThrough_136 rfl (zm_L rfl) (fun M136 _ => ?_)
                  refine zm_iinc (lv' := fun z => [(4, .int z), (0, .ref (E.2.1 + 48)), (1, .ref (E.2.1 + a1)), (3, .int x51), (5, .int l8_5)]) 140 rfl dX5_goThrough_137 zi_1 3 rfl (by decide) (fun _ => rfl) (fun x137 _ => ?_)
                  refine zm_goto 294 (by decide) dX5_goThrough_140 ?_
                  exact zm_loc [1, 2, 3, 0, 4] rfl (hb294_8 x51 x137 M136)
                refine zm_if_ne 129 124 (by decide) rfl dX5_goThrough_121 ?_ ?_
                · refine zm_iload 126 rfl dX5_goThrough_124 6 rfl ?_
                  refine zm_goto 136 (by decide) dX5_goThrough_126 ?_
                  exact zm_loc [0, 1, 2, 3, 4] rfl (hb136_8 l8_4 x49)
                · refine zm_aload_n 130 rfl dX5_goThrough_129 rfl 0 rfl ?_
                  refine zm_getR 133 rfl dX5_goThrough_130 fl_X5_9 rfl (zm_L rfl) rfl ?_
                  refine zm_iload 135 rfl dX5_goThrough_133 6 rfl ?_
                  refine zm_iald 136 rfl dX5_goThrough_135 rfl (zm_L rfl) ?_
                  exact zm_loc [0, 1, 2, 3, 4] rfl (hb136_8 l8_4 (L8.1 49 x49.toNatClampNeg))
              refine zm_icmp_ne 113 104 (by decide) rfl dX5_goThrough_101 ?_ ?_
              · refine zm_iload 106 rfl dX5_goThrough_104 6 rfl ?_
                refine zm_bipush 108 rfl dX5_goThrough_106 zb_9 ?_
                refine zm_icmp_lt 113 111 (by decide) rfl dX5_goThrough_108 ?_ ?_
                · exact zm_loc [0, 1, 2, 3, 4, 5, 6] rfl (hb113_8)
                · exact zm_loc [] rfl (zm_go (hf8b _) (zm_unb (hx111_8 L8)))
              · exact zm_loc [0, 1, 2, 3, 4, 5, 6] rfl (hb113_8)
          refine zm_if_eq 91 85 (by decide) rfl dX5_goThrough_82 ?_ ?_
          · exact zm_loc [3, 4, 0, 5, 6, 2, 1] rfl (hb91_8)
          · refine zm_iload 87 rfl dX5_goThrough_85 2 rfl ?_
            refine zm_iconst 88 rfl dX5_goThrough_87 zi_1 ?_
            refine zm_icmp_ne 143 91 (by decide) rfl dX5_goThrough_88 ?_ ?_
            · exact zm_loc [3, 4, 0, 5, 6, 2, 1] rfl (hb91_8)
            · refine zm_iload 145 rfl dX5_goThrough_143 5 rfl ?_
              refine zm_iconst 146 rfl dX5_goThrough_145 zi_2 ?_
              refine zm_icmp_ge 151 149 (by decide) rfl dX5_goThrough_146 ?_ ?_
              · refine zm_iinc (lv' := fun z => [(4, .int z), (3, .int x51), (7, .int x49), (6, .int x37), (0, .ref (E.2.1 + 48)), (1, .ref (E.2.1 + a1)), (5, .int l8_5)]) 154 rfl dX5_goThrough_151 zi_m1 5 rfl (by decide) (fun _ => rfl) (fun x151 _ => ?_)
                refine zm_aload_n 155 rfl dX5_goThrough_154 rfl 4 rfl ?_
                refine zm_getR 158 rfl dX5_goThrough_155 fl_X5_13 rfl (zm_L rfl) rfl ?_
                refine zm_iload 160 rfl dX5_goThrough_158 0 rfl ?_
                refine zm_iconst 161 rfl dX5_goThrough_160 zi_1 ?_
                refine zm_isub 162 rfl dX5_goThrough_161 ?_
                refine zm_iald 163 rfl dX5_goThrough_162 rfl (zm_L rfl) ?_
                refine zm_nmi (fun x163 _ => ?_)
                refine zm_istore (lv' := [(8, .int x163), (4, .int x151), (3, .int x51), (7, .int x49), (6, .int x37), (0, .ref (E.2.1 + 48)), (1, .ref (E.2.1 + a1)), (5, .int l8_5)]) 165 rfl dX5_goThrough_163 (by decide) rfl ?_
                refine zm_aload_n 166 rfl dX5_goThrough_165 rfl 5 rfl ?_
                refine zm_getR 169 rfl dX5_goThrough_166 fl_X5_13 rfl (zm_L rfl) rfl ?_
                refine zm_iload 171 rfl dX5_goThrough_169 1 rfl ?_
                refine zm_iald 172 rfl dX5_goThrough_171 rfl (zm_L rfl) ?_
                refine zm_nmi (fun x172 _ => ?_)
                refine zm_istore (lv' := [(9, .int x172), (8, .int x163), (4, .int x151), (3, .int x51), (7, .int x49), (6, .int x37), (0, .ref (E.2.1 + 48)), (1, .ref (E.2.1 + a1)), (5, .int l8_5)]) 174 rfl dX5_goThrough_172 (by decide) rfl ?_
                refine zm_iload 176 rfl dX5_goThrough_174 5 rfl ?_
                refine zm_iconst 177 rfl dX5_goThrough_176 zi_2 ?_
                refine zm_icmp_ne 197 180 (by decide) rfl dX5_goThrough_177 ?_ ?_
                · refine zm_aload_n 181 rfl dX5_goThrough_180 rfl 6 rfl ?_
                  refine zm_getR 184 rfl dX5_goThrough_181 fl_X5_13 rfl (zm_L rfl) rfl ?_
                  refine zm_iload 186 rfl dX5_goThrough_184 2 rfl ?_
                  refine zm_iconst 187 rfl dX5_goThrough_186 zi_1 ?_
                  refine zm_isub 188 rfl dX5_goThrough_187 ?_
                  refine zm_iload 190 rfl dX5_goThrough_188 1 rfl ?_
                  refine zm_iload 192 rfl dX5_goThrough_190 0 rfl ?_
                  refine zm_iadd 193 rfl dX5_goThrough_192 ?_
                  refine zm_iast 194 rfl dX5_goThrough_193 rfl (zm_L rfl) (fun M193 _ => ?_)
                  refine zm_goto 294 (by decide) dX5_goThrough_194 ?_
                  exact zm_loc [6, 7, 3, 2, 8] rfl (hb294_8 x51 x151 M193)
                · refine zm_iload 199 rfl dX5_goThrough_197 5 rfl ?_
                  refine zm_iconst 200 rfl dX5_goThrough_199 zi_3 ?_
                  refine zm_icmp_ne 220 203 (by decide) rfl dX5_goThrough_200 ?_ ?_
                  · refine zm_aload_n 204 rfl dX5_goThrough_203 rfl 6 rfl ?_
                    refine zm_getR 207 rfl dX5_goThrough_204 fl_X5_13 rfl (zm_L rfl) rfl ?_
                    refine zm_iload 209 rfl dX5_goThrough_207 2 rfl ?_
                    refine zm_iconst 210 rfl dX5_goThrough_209 zi_1 ?_
                    refine zm_isub 211 rfl dX5_goThrough_210 ?_
                    refine zm_iload 213 rfl dX5_goThrough_211 1 rfl ?_
                    refine zm_iload 215 rfl dX5_goThrough_213 0 rfl ?_
                    refine zm_isub 216 rfl dX5_goThrough_215 ?_
                    refine zm_iast 217 rfl dX5_goThrough_216 rfl (zm_L rfl) (fun M216 _ => ?_)
                    refine zm_goto 294 (by decide) dX5_goThrough_217 ?_
                    exact zm_loc [6, 7, 3, 2, 8] rfl (hb294_8 x51 x151 M216)
                  · refine zm_iload 222 rfl dX5_goThrough_220 5 rfl ?_
                    refine zm_iconst 223 rfl dX5_goThrough_222 zi_4 ?_
                    refine zm_icmp_ne 243 226 (by decide) rfl dX5_goThrough_223 ?_ ?_
                    · refine zm_aload_n 227 rfl dX5_goThrough_226 rfl 6 rfl ?_
                      refine zm_getR 230 rfl dX5_goThrough_227 fl_X5_13 rfl (zm_L rfl) rfl ?_
                      refine zm_iload 232 rfl dX5_goThrough_230 2 rfl ?_
                      refine zm_iconst 233 rfl dX5_goThrough_232 zi_1 ?_
                      refine zm_isub 234 rfl dX5_goThrough_233 ?_
                      refine zm_iload 236 rfl dX5_goThrough_234 1 rfl ?_
                      refine zm_iload 238 rfl dX5_goThrough_236 0 rfl ?_
                      refine zm_imul 239 rfl dX5_goThrough_238 ?_
                      refine zm_iast 240 rfl dX5_goThrough_239 rfl (zm_L rfl) (fun M239 _ => ?_)
                      refine zm_goto 294 (by decide) dX5_goThrough_240 ?_
                      exact zm_loc [6, 7, 3, 2, 8] rfl (hb294_8 x51 x151 M239)
                    · refine zm_iload 245 rfl dX5_goThrough_243 5 rfl ?_
                      refine zm_bipush 247 rfl dX5_goThrough_245 zb_6 ?_
                      refine zm_icmp_ne 270 250 (by decide) rfl dX5_goThrough_247 ?_ ?_
                      · refine zm_iinc (lv' := fun z => [(4, .int z), (9, .int x172), (8, .int x163), (3, .int x51), (7, .int x49), (6, .int x37), (0, .ref (E.2.1 + 48)), (1, .ref (E.2.1 + a1)), (5, .int l8_5)]) 253 rfl dX5_goThrough_250 zi_m1 2 rfl (by decide) (fun _ => rfl) (fun x250 _ => ?_)
                        refine zm_iload 255 rfl dX5_goThrough_253 2 rfl ?_
                        refine zm_iload 257 rfl dX5_goThrough_255 1 rfl ?_
                        have hb266_8 : ∀ (b266_s0 : Int32), zm_V X Y_X5_goThrough E (zm_Q X E Y_X5_goThrough.2.2.2.1.cells Y_X5_goThrough.2.2.2.1.slots sv zm_ei) 0 0 sv 266 [(0, .ref (E.2.1 + 48)), (1, .ref (E.2.1 + a1)), (4, .int x250), (5, .int l8_5)] [.int b266_s0] L8 (f_X5_goThrough_b266_8 l8_5 L8 x250 b266_s0) f8 := by
                          intro b266_s0
                          unfold f_X5_goThrough_b266_8
                          refine zm_istore_n (lv' := [(3, .int b266_s0), (0, .ref (E.2.1 + 48)), (1, .ref (E.2.1 + a1)), (4, .int x250), (5, .int l8_5)]) 267 rfl dX5_goThrough_266 rfl (by decide) rfl ?_
                          refine zm_goto 294 (by decide) dX5_goThrough_267 ?_
                          exact zm_loc [1, 2, 0, 3, 4] rfl (hb294_8 b266_s0 x250 L8)
                        refine zm_icmp_ge 264 260 (by decide) rfl dX5_goThrough_257 ?_ ?_
                        · refine zm_iload 266 rfl dX5_goThrough_264 4 rfl ?_
                          exact zm_loc [6, 7, 0, 8] rfl (hb266_8 x49)
                        · refine zm_iload_n 261 rfl dX5_goThrough_260 rfl 3 rfl ?_
                          refine zm_goto 266 (by decide) dX5_goThrough_261 ?_
                          exact zm_loc [6, 7, 0, 8] rfl (hb266_8 x51)
                      · refine zm_iload 272 rfl dX5_goThrough_270 0 rfl ?_
                        refine zm_if_eq 292 275 (by decide) rfl dX5_goThrough_272 ?_ ?_
                        · exact zm_loc [] rfl (zm_go (hf8b _) (zm_unb (hx292_8 L8)))
                        · refine zm_aload_n 276 rfl dX5_goThrough_275 rfl 6 rfl ?_
                          refine zm_getR 279 rfl dX5_goThrough_276 fl_X5_13 rfl (zm_L rfl) rfl ?_
                          refine zm_iload 281 rfl dX5_goThrough_279 2 rfl ?_
                          refine zm_iconst 282 rfl dX5_goThrough_281 zi_1 ?_
                          refine zm_isub 283 rfl dX5_goThrough_282 ?_
                          refine zm_iload 285 rfl dX5_goThrough_283 1 rfl ?_
                          refine zm_iload 287 rfl dX5_goThrough_285 0 rfl ?_
                          refine zm_idiv 288 rfl dX5_goThrough_287 ?_
                          refine zm_iast 289 rfl dX5_goThrough_288 rfl (zm_L rfl) (fun M288 _ => ?_)
                          refine zm_goto 294 (by decide) dX5_goThrough_289 ?_
                          exact zm_loc [6, 7, 3, 2, 8] rfl (hb294_8 x51 x151 M288)
              · exact zm_loc [] rfl (zm_go (hf8b _) (zm_unb (hx149_8 L8)))
abbrev Y_X3_keptAsEntered : zm_Y := (cX3_keptAsEntered, 2, RX3, { frames := 1, cells := 0, slots := 0, locals := 29 }, (some .boolean), false)
noncomputable def f_X3_keptAsEntered (a1 : Int32) (M : zm_Mem) : Option (Int32 × zm_Mem) :=
  zm_v (M.2.2 47 2) <| fun t5 => zm_ck (zm_isT t5) <| zm_v (M.2.2 47 2) <| fun t9 => zm_ck (zm_isT t9) <| zm_ck (zm_in a1 6) <| zm_b2 (f_X5_goThrough t5 (M.1 (t9 + 8) a1.toNatClampNeg) M) <| fun r17 M17 => zm_v (M17.2.2 47 2) <| fun t25 => zm_ck (zm_isT t25) <| zm_v (M17.2.2 47 2) <| fun t29 => zm_ck (zm_isT t29) <| zm_ck (zm_in a1 6) <| zm_b2 (f_X5_goThrough t25 (M17.1 (t29 + 9) a1.toNatClampNeg) M17) <| fun r37 M37 => if r37 ≤ r17 then (some (0, M37)) else (some (1, M37))
set_option maxRecDepth 20000 in
set_option maxHeartbeats 4000000 in
theorem k_X3_keptAsEntered (E : zm_E) (sv : Nat) (a1 : Int32) (M : zm_Mem) {r : Int32} {M' : zm_Mem} (h : f_X3_keptAsEntered a1 M = some (r, M')) : zm_Ct E sv sv yX3_keptAsEntered Y_X3_keptAsEntered [.ref (E.2.1 + 47), .int a1] M (some (.int r)) M' := by
  refine zm_meth (emb := zm_ei) (d := f_X3_keptAsEntered a1 M) (by decide) rfl (Nat.le_of_ble_eq_true rfl) h (fun X => ?_)
  show zm_V X Y_X3_keptAsEntered E (zm_Q X E Y_X3_keptAsEntered.2.2.2.1.cells Y_X3_keptAsEntered.2.2.2.1.slots sv zm_ei) 0 0 sv 0 [(0, .ref (E.2.1 + 47)), (1, .int a1)] [] M (f_X3_keptAsEntered a1 M) some
  unfold f_X3_keptAsEntered
  refine zm_aload_n 1 rfl dX3_keptAsEntered_0 rfl 0 rfl ?_
  refine zm_getR 4 rfl dX3_keptAsEntered_1 fl_X3_12 rfl (zm_L rfl) rfl ?_
  refine zm_aload_n 5 rfl dX3_keptAsEntered_4 rfl 0 rfl ?_
  refine zm_getT 8 rfl dX3_keptAsEntered_5 fl_X3_22 rfl (zm_L rfl) (fun t5 _ ht5 => ?_)
  refine zm_aload_n 9 rfl dX3_keptAsEntered_8 rfl 0 rfl ?_
  refine zm_getT 12 rfl dX3_keptAsEntered_9 fl_X3_22 rfl (zm_L rfl) (fun t9 _ ht9 => ?_)
  refine zm_getR (a := t9 + 8) 15 rfl dX3_keptAsEntered_12 fl_X3_63 (zm_T_o ht9) (zm_T_l0 ht9) (zm_T_r ht9 7 (by decide)) ?_
  refine zm_iload_n 16 rfl dX3_keptAsEntered_15 rfl 1 rfl ?_
  refine zm_iald 17 rfl dX3_keptAsEntered_16 (zm_T_a ht9 8 (by decide)) (zm_T_l ht9 8 (by decide)) ?_
  refine zm_cV2i 20 rfl dX3_keptAsEntered_17 ml_X3_66 rfl (zm_L rfl) rfl (Nat.le_of_ble_eq_true rfl) ⟨Nat.le_of_ble_eq_true rfl, Nat.le_of_ble_eq_true rfl⟩ rfl rfl ⟨Nat.le_refl _, Nat.le_refl _⟩ rfl (fun _ _ h => k_X5_goThrough E sv t5 (M.1 (t9 + 8) a1.toNatClampNeg) ht5 M h) (fun r17 M17 => ?_)
  refine zm_aload_n 21 rfl dX3_keptAsEntered_20 rfl 0 rfl ?_
  refine zm_getR 24 rfl dX3_keptAsEntered_21 fl_X3_12 rfl (zm_L rfl) rfl ?_
  refine zm_aload_n 25 rfl dX3_keptAsEntered_24 rfl 0 rfl ?_
  refine zm_getT 28 rfl dX3_keptAsEntered_25 fl_X3_22 rfl (zm_L rfl) (fun t25 _ ht25 => ?_)
  refine zm_aload_n 29 rfl dX3_keptAsEntered_28 rfl 0 rfl ?_
  refine zm_getT 32 rfl dX3_keptAsEntered_29 fl_X3_22 rfl (zm_L rfl) (fun t29 _ ht29 => ?_)
  refine zm_getR (a := t29 + 9) 35 rfl dX3_keptAsEntered_32 fl_X3_70 (zm_T_o ht29) (zm_T_l0 ht29) (zm_T_r ht29 8 (by decide)) ?_
  refine zm_iload_n 36 rfl dX3_keptAsEntered_35 rfl 1 rfl ?_
  refine zm_iald 37 rfl dX3_keptAsEntered_36 (zm_T_a ht29 9 (by decide)) (zm_T_l ht29 9 (by decide)) ?_
  refine zm_cV2i 40 rfl dX3_keptAsEntered_37 ml_X3_66 rfl (zm_L rfl) rfl (Nat.le_of_ble_eq_true rfl) ⟨Nat.le_of_ble_eq_true rfl, Nat.le_of_ble_eq_true rfl⟩ rfl rfl ⟨Nat.le_refl _, Nat.le_refl _⟩ rfl (fun _ _ h => k_X5_goThrough E sv t25 (M17.1 (t29 + 9) a1.toNatClampNeg) ht25 M17 h) (fun r37 M37 => ?_)
  refine zm_icmp_ge 47 43 (by decide) rfl dX3_keptAsEntered_40 ?_ ?_
  · refine zm_iconst 48 rfl dX3_keptAsEntered_47 zi_0 ?_
    exact zm_zret dX3_keptAsEntered_48 rfl rfl (Nat.le_refl _) (Nat.le_refl _) rfl
  · refine zm_iconst 44 rfl dX3_keptAsEntered_43 zi_1 ?_
    refine zm_goto 48 (by decide) dX3_keptAsEntered_44 ?_
    exact zm_zret dX3_keptAsEntered_48 rfl rfl (Nat.le_refl _) (Nat.le_refl _) rfl
abbrev Y_X3_brokenAsEntered : zm_Y := (cX3_brokenAsEntered, 4, RX3, { frames := 2, cells := 0, slots := 0, locals := 50 }, (some .int), false)
noncomputable def f_X3_brokenAsEntered_b38_4 (l4_3 : Int32) (b38_2 : Int32) (M38 : zm_Mem) : Option ((Int32 × Int32 × zm_Mem) ⊕ (Int32 × zm_Mem)) :=
 zm_v (l4_3 + 1) <| fun x38 => some (.inl (b38_2, x38, M38))
noncomputable def f_X3_brokenAsEntered_l4 (a1 : Int32) (l4_2 : Int32) (l4_3 : Int32) (L4 : zm_Mem) : Option ((Int32 × Int32 × zm_Mem) ⊕ (Int32 × zm_Mem)) :=
 zm_v (L4.2.2 47 2) <| fun t6 => zm_ck (zm_isT t6) <| if (L4.1 t6 13) ≤ l4_3 then (some (.inr (l4_2, L4))) else (if ((a1 >>> (l4_3 &&& 31)) &&& 1) = (1 : Int32) then (zm_b2 (f_X3_keptAsEntered l4_3 L4) <| fun r26 M26 => if r26 = 0 then (zm_v (l4_2 ||| (1 <<< (l4_3 &&& 31))) <| fun x37 => f_X3_brokenAsEntered_b38_4 l4_3 x37 M26) else (f_X3_brokenAsEntered_b38_4 l4_3 l4_2 M26)) else (f_X3_brokenAsEntered_b38_4 l4_3 l4_2 L4))
noncomputable def f_X3_brokenAsEntered (a1 : Int32) (M : zm_Mem) : Option (Int32 × zm_Mem) :=
  (zm_lp (fun s => f_X3_brokenAsEntered_l4 a1 s.1 s.2.1 s.2.2) (0, 0, M)).bind (fun e44 => some (e44.1, e44.2))
set_option maxRecDepth 20000 in
set_option maxHeartbeats 4000000 in
theorem k_X3_brokenAsEntered (E : zm_E) (sv : Nat) (a1 : Int32) (M : zm_Mem) {r : Int32} {M' : zm_Mem} (h : f_X3_brokenAsEntered a1 M = some (r, M')) : zm_Ct E sv sv yX3_brokenAsEntered Y_X3_brokenAsEntered [.ref (E.2.1 + 47), .int a1] M (some (.int r)) M' := by
  refine zm_meth (emb := zm_ei) (d := f_X3_brokenAsEntered a1 M) (by decide) rfl (Nat.le_of_ble_eq_true rfl) h (fun X => ?_)
  show zm_V X Y_X3_brokenAsEntered E (zm_Q X E Y_X3_brokenAsEntered.2.2.2.1.cells Y_X3_brokenAsEntered.2.2.2.1.slots sv zm_ei) 0 0 sv 0 [(0, .ref (E.2.1 + 47)), (1, .int a1)] [] M (f_X3_brokenAsEntered a1 M) some
  unfold f_X3_brokenAsEntered
  refine zm_iconst 1 rfl dX3_brokenAsEntered_0 zi_0 ?_
  refine zm_istore_n (lv' := [(2, .int 0), (0, .ref (E.2.1 + 47)), (1, .int a1)]) 2 rfl dX3_brokenAsEntered_1 rfl (by decide) rfl ?_
  refine zm_iconst 3 rfl dX3_brokenAsEntered_2 zi_0 ?_
  refine zm_istore_n (lv' := [(3, .int 0), (2, .int 0), (0, .ref (E.2.1 + 47)), (1, .int a1)]) 4 rfl dX3_brokenAsEntered_3 rfl (by decide) rfl ?_
  have hx44_4 : ∀ (e44_2 : Int32) (N44 : zm_Mem), zm_V X Y_X3_brokenAsEntered E (zm_Q X E Y_X3_brokenAsEntered.2.2.2.1.cells Y_X3_brokenAsEntered.2.2.2.1.slots sv zm_ei) 0 0 sv 44 [(2, .int e44_2)] [] N44 (some (e44_2, N44)) some := by
    intro e44_2 N44
    refine zm_iload_n 45 rfl dX3_brokenAsEntered_44 rfl 0 rfl ?_
    exact zm_iret dX3_brokenAsEntered_45 rfl (Nat.le_refl _) (Nat.le_refl _) rfl
  refine zm_loc [2, 3, 1, 0] rfl (zm_lpp (σ := (Int32 × Int32 × zm_Mem)) (ε := (Int32 × zm_Mem)) (step := fun s => f_X3_brokenAsEntered_l4 a1 s.1 s.2.1 s.2.2) (fun s => [(0, .ref (E.2.1 + 47)), (1, .int a1), (2, .int s.1), (3, .int s.2.1)]) (fun s => s.2.2) (fun D4 f4 hf4a hf4b hD4 s => ?_) (0, 0, M))
  obtain ⟨l4_2, l4_3, L4⟩ := s
  show zm_V X Y_X3_brokenAsEntered E (zm_Q X E Y_X3_brokenAsEntered.2.2.2.1.cells Y_X3_brokenAsEntered.2.2.2.1.slots sv zm_ei) 0 0 sv 4 [(0, .ref (E.2.1 + 47)), (1, .int a1), (2, .int l4_2), (3, .int l4_3)] [] L4 (f_X3_brokenAsEntered_l4 a1 l4_2 l4_3 L4) f4
  unfold f_X3_brokenAsEntered_l4
  refine zm_iload_n 5 rfl dX3_brokenAsEntered_4 rfl 3 rfl ?_
  refine zm_aload_n 6 rfl dX3_brokenAsEntered_5 rfl 0 rfl ?_
  refine zm_getT 9 rfl dX3_brokenAsEntered_6 fl_X3_22 rfl (zm_L rfl) (fun t6 _ ht6 => ?_)
  refine zm_getI 12 rfl dX3_brokenAsEntered_9 fl_X3_73 (zm_T_o ht6) (zm_T_l0 ht6) ?_
  refine zm_icmp_ge 44 15 (by decide) rfl dX3_brokenAsEntered_12 ?_ ?_
  · exact zm_loc [2] rfl (zm_go (hf4b _) (zm_unb (hx44_4 l4_2 L4)))
  · refine zm_iload_n 16 rfl dX3_brokenAsEntered_15 rfl 1 rfl ?_
    refine zm_iload_n 17 rfl dX3_brokenAsEntered_16 rfl 3 rfl ?_
    refine zm_ishr 18 rfl dX3_brokenAsEntered_17 ?_
    refine zm_iconst 19 rfl dX3_brokenAsEntered_18 zi_1 ?_
    refine zm_iand 20 rfl dX3_brokenAsEntered_19 ?_
    refine zm_iconst 21 rfl dX3_brokenAsEntered_20 zi_1 ?_
    have hb38_4 : ∀ (b38_2 : Int32) (M38 : zm_Mem), zm_V X Y_X3_brokenAsEntered E (zm_Q X E Y_X3_brokenAsEntered.2.2.2.1.cells Y_X3_brokenAsEntered.2.2.2.1.slots sv zm_ei) 0 0 sv 38 [(0, .ref (E.2.1 + 47)), (1, .int a1), (2, .int b38_2), (3, .int l4_3)] [] M38 (f_X3_brokenAsEntered_b38_4 l4_3 b38_2 M38) f4 := by
      intro b38_2 M38
      unfold f_X3_brokenAsEntered_b38_4
      refine zm_iinc (lv' := fun z => [(3, .int z), (0, .ref (E.2.1 + 47)), (1, .int a1), (2, .int b38_2)]) 41 rfl dX3_brokenAsEntered_38 zi_1 3 rfl (by decide) (fun _ => rfl) (fun x38 _ => ?_)
      refine zm_goto 4 (by decide) dX3_brokenAsEntered_41 ?_
      exact zm_loc [1, 2, 3, 0] rfl (zm_go (hf4a _) (hD4 (b38_2, x38, M38)))
    refine zm_icmp_ne 38 24 (by decide) rfl dX3_brokenAsEntered_21 ?_ ?_
    · refine zm_aload_n 25 rfl dX3_brokenAsEntered_24 rfl 0 rfl ?_
      refine zm_iload_n 26 rfl dX3_brokenAsEntered_25 rfl 3 rfl ?_
      refine zm_cV1i 29 rfl dX3_brokenAsEntered_26 ml_X3_76 rfl (zm_L rfl) rfl (Nat.le_of_ble_eq_true rfl) ⟨Nat.le_of_ble_eq_true rfl, Nat.le_of_ble_eq_true rfl⟩ rfl rfl ⟨Nat.le_refl _, Nat.le_refl _⟩ rfl (fun _ _ h => k_X3_keptAsEntered E sv l4_3 L4 h) (fun r26 M26 => ?_)
      refine zm_if_ne 38 32 (by decide) rfl dX3_brokenAsEntered_29 ?_ ?_
      · refine zm_iload_n 33 rfl dX3_brokenAsEntered_32 rfl 2 rfl ?_
        refine zm_iconst 34 rfl dX3_brokenAsEntered_33 zi_1 ?_
        refine zm_iload_n 35 rfl dX3_brokenAsEntered_34 rfl 3 rfl ?_
        refine zm_ishl 36 rfl dX3_brokenAsEntered_35 ?_
        refine zm_ior 37 rfl dX3_brokenAsEntered_36 ?_
        refine zm_nmi (fun x37 _ => ?_)
        refine zm_istore_n (lv' := [(2, .int x37), (0, .ref (E.2.1 + 47)), (1, .int a1), (3, .int l4_3)]) 38 rfl dX3_brokenAsEntered_37 rfl (by decide) rfl ?_
        exact zm_loc [1, 2, 0, 3] rfl (hb38_4 x37 M26)
      · exact zm_loc [0, 1, 2, 3] rfl (hb38_4 l4_2 M26)
    · exact zm_loc [0, 1, 2, 3] rfl (hb38_4 l4_2 L4)
abbrev Y_X3_termKept : zm_Y := (cX3_termKept, 3, RX3, { frames := 2, cells := 0, slots := 0, locals := 51 }, (some .boolean), false)
noncomputable def f_X3_termKept (a1 : Int32) (a2 : Int32) (M : zm_Mem) : Option (Int32 × zm_Mem) :=
  zm_v (M.2.2 47 2) <| fun t2 => zm_ck (zm_isT t2) <| zm_ck (zm_in a1 6) <| zm_b2 (f_X3_enter (M.1 (t2 + 7) a1.toNatClampNeg) a2 (-1) M) <| fun _ M12 => zm_b2 (f_X3_keptAsEntered a1 M12) <| fun r17 M17 => zm_ck (decide (r17 &&& 1 = r17) && fits .boolean (.int r17)) <| some (r17, M17)
set_option maxRecDepth 20000 in
set_option maxHeartbeats 4000000 in
theorem k_X3_termKept (E : zm_E) (sv : Nat) (a1 : Int32) (a2 : Int32) (M : zm_Mem) {r : Int32} {M' : zm_Mem} (h : f_X3_termKept a1 a2 M = some (r, M')) : zm_Ct E sv sv yX3_termKept Y_X3_termKept [.ref (E.2.1 + 47), .int a1, .int a2] M (some (.int r)) M' := by
  refine zm_meth (emb := zm_ei) (d := f_X3_termKept a1 a2 M) (by decide) rfl (Nat.le_of_ble_eq_true rfl) h (fun X => ?_)
  show zm_V X Y_X3_termKept E (zm_Q X E Y_X3_termKept.2.2.2.1.cells Y_X3_termKept.2.2.2.1.slots sv zm_ei) 0 0 sv 0 [(0, .ref (E.2.1 + 47)), (1, .int a1), (2, .int a2)] [] M (f_X3_termKept a1 a2 M) some
  unfold f_X3_termKept
  refine zm_aload_n 1 rfl dX3_termKept_0 rfl 0 rfl ?_
  refine zm_aload_n 2 rfl dX3_termKept_1 rfl 0 rfl ?_
  refine zm_getT 5 rfl dX3_termKept_2 fl_X3_22 rfl (zm_L rfl) (fun t2 _ ht2 => ?_)
  refine zm_getR (a := t2 + 7) 8 rfl dX3_termKept_5 fl_X3_80 (zm_T_o ht2) (zm_T_l0 ht2) (zm_T_r ht2 6 (by decide)) ?_
  refine zm_iload_n 9 rfl dX3_termKept_8 rfl 1 rfl ?_
  refine zm_iald 10 rfl dX3_termKept_9 (zm_T_a ht2 7 (by decide)) (zm_T_l ht2 7 (by decide)) ?_
  refine zm_iload_n 11 rfl dX3_termKept_10 rfl 2 rfl ?_
  refine zm_iconst 12 rfl dX3_termKept_11 zi_m1 ?_
  refine zm_cV3v 15 rfl dX3_termKept_12 ml_X3_83 rfl (zm_L rfl) rfl (Nat.le_of_ble_eq_true rfl) ⟨Nat.le_of_ble_eq_true rfl, Nat.le_of_ble_eq_true rfl⟩ rfl rfl ⟨Nat.le_refl _, Nat.le_refl _⟩ rfl (fun _ _ h => k_X3_enter E sv (M.1 (t2 + 7) a1.toNatClampNeg) a2 (-1) M h) (fun _ M12 => ?_)
  refine zm_aload_n 16 rfl dX3_termKept_15 rfl 0 rfl ?_
  refine zm_iload_n 17 rfl dX3_termKept_16 rfl 1 rfl ?_
  refine zm_cV1i 20 rfl dX3_termKept_17 ml_X3_76 rfl (zm_L rfl) rfl (Nat.le_of_ble_eq_true rfl) ⟨Nat.le_of_ble_eq_true rfl, Nat.le_of_ble_eq_true rfl⟩ rfl rfl ⟨Nat.le_refl _, Nat.le_refl _⟩ rfl (fun _ _ h => k_X3_keptAsEntered E sv a1 M12 h) (fun r17 M17 => ?_)
  refine zm_gd (fun hg20 => ?_)
  exact zm_zret dX3_termKept_20 rfl (zm_bl1 hg20) (Nat.le_refl _) (Nat.le_refl _) rfl
abbrev Y_X8_termsOf : zm_Y := (cX8_termsOf, 4, RX8, { frames := 0, cells := 0, slots := 0, locals := 0 }, (some .int), false)
noncomputable def f_X8_termsOf_b28_4 (l4_3 : Int32) (b28_2 : Int32) : Option ((Int32 × Int32) ⊕ Int32) :=
 zm_v (l4_3 + 1) <| fun x28 => some (.inl (b28_2, x28))
noncomputable def f_X8_termsOf_l4 (t : Nat) (a1 : Int32) (M : zm_Mem) (l4_2 : Int32) (l4_3 : Int32) : Option ((Int32 × Int32) ⊕ Int32) :=
 if (M.1 t 13) ≤ l4_3 then (some (.inr l4_2)) else (zm_ck (zm_in l4_3 6) <| if (M.1 (t + 7) l4_3.toNatClampNeg) = a1 then (zm_v (l4_2 ||| (1 <<< (l4_3 &&& 31))) <| fun x27 => f_X8_termsOf_b28_4 l4_3 x27) else (f_X8_termsOf_b28_4 l4_3 l4_2))
noncomputable def f_X8_termsOf (t : Nat) (a1 : Int32) (M : zm_Mem) : Option Int32 :=
  (zm_lp (fun s => f_X8_termsOf_l4 t a1 M s.1 s.2) (0, 0)).bind (fun e34 => some e34)
set_option maxRecDepth 20000 in
set_option maxHeartbeats 4000000 in
theorem k_X8_termsOf (E : zm_E) (sv : Nat) (t : Nat) (a1 : Int32) (ht : zm_isT t = true) (M : zm_Mem) {r : Int32} (h : f_X8_termsOf t a1 M = some r) : zm_Ct E sv sv yX8_termsOf Y_X8_termsOf [.ref (E.2.1 + t), .int a1] M (some (.int r)) M := by
  refine zm_methr (emb := zm_ei) (d := f_X8_termsOf t a1 M) (by decide) rfl (Nat.le_of_ble_eq_true rfl) h (fun X => ?_)
  show zm_V X Y_X8_termsOf E (zm_Q X E Y_X8_termsOf.2.2.2.1.cells Y_X8_termsOf.2.2.2.1.slots sv zm_ei) 0 0 sv 0 [(0, .ref (E.2.1 + t)), (1, .int a1)] [] M (f_X8_termsOf t a1 M) (fun r => some (r, M))
  unfold f_X8_termsOf
  refine zm_iconst 1 rfl dX8_termsOf_0 zi_0 ?_
  refine zm_istore_n (lv' := [(2, .int 0), (0, .ref (E.2.1 + t)), (1, .int a1)]) 2 rfl dX8_termsOf_1 rfl (by decide) rfl ?_
  refine zm_iconst 3 rfl dX8_termsOf_2 zi_0 ?_
  refine zm_istore_n (lv' := [(3, .int 0), (2, .int 0), (0, .ref (E.2.1 + t)), (1, .int a1)]) 4 rfl dX8_termsOf_3 rfl (by decide) rfl ?_
  have hx34_4 : ∀ (e34_2 : Int32), zm_V X Y_X8_termsOf E (zm_Q X E Y_X8_termsOf.2.2.2.1.cells Y_X8_termsOf.2.2.2.1.slots sv zm_ei) 0 0 sv 34 [(2, .int e34_2)] [] M (some e34_2) (fun r => some (r, M)) := by
    intro e34_2
    refine zm_iload_n 35 rfl dX8_termsOf_34 rfl 0 rfl ?_
    exact zm_iret dX8_termsOf_35 rfl (Nat.le_refl _) (Nat.le_refl _) rfl
  refine zm_loc [2, 3, 1, 0] rfl (zm_lpp (σ := (Int32 × Int32)) (ε := Int32) (step := fun s => f_X8_termsOf_l4 t a1 M s.1 s.2) (fun s => [(0, .ref (E.2.1 + t)), (1, .int a1), (2, .int s.1), (3, .int s.2)]) (fun _ => M) (fun D4 f4 hf4a hf4b hD4 s => ?_) (0, 0))
  obtain ⟨l4_2, l4_3⟩ := s
  show zm_V X Y_X8_termsOf E (zm_Q X E Y_X8_termsOf.2.2.2.1.cells Y_X8_termsOf.2.2.2.1.slots sv zm_ei) 0 0 sv 4 [(0, .ref (E.2.1 + t)), (1, .int a1), (2, .int l4_2), (3, .int l4_3)] [] M (f_X8_termsOf_l4 t a1 M l4_2 l4_3) f4
  unfold f_X8_termsOf_l4
  refine zm_iload_n 5 rfl dX8_termsOf_4 rfl 3 rfl ?_
  refine zm_aload_n 6 rfl dX8_termsOf_5 rfl 0 rfl ?_
  refine zm_getI 9 rfl dX8_termsOf_6 fl_X8_52 (zm_T_o ht) (zm_T_l0 ht) ?_
  refine zm_icmp_ge 34 12 (by decide) rfl dX8_termsOf_9 ?_ ?_
  · exact zm_loc [2] rfl (zm_go (hf4b _) (zm_unb (hx34_4 l4_2)))
  · refine zm_aload_n 13 rfl dX8_termsOf_12 rfl 0 rfl ?_
    refine zm_getR (a := t + 7) 16 rfl dX8_termsOf_13 fl_X8_30 (zm_T_o ht) (zm_T_l0 ht) (zm_T_r ht 6 (by decide)) ?_
    refine zm_iload_n 17 rfl dX8_termsOf_16 rfl 3 rfl ?_
    refine zm_iald 18 rfl dX8_termsOf_17 (zm_T_a ht 7 (by decide)) (zm_T_l ht 7 (by decide)) ?_
    refine zm_iload_n 19 rfl dX8_termsOf_18 rfl 1 rfl ?_
    have hb28_4 : ∀ (b28_2 : Int32), zm_V X Y_X8_termsOf E (zm_Q X E Y_X8_termsOf.2.2.2.1.cells Y_X8_termsOf.2.2.2.1.slots sv zm_ei) 0 0 sv 28 [(0, .ref (E.2.1 + t)), (1, .int a1), (2, .int b28_2), (3, .int l4_3)] [] M (f_X8_termsOf_b28_4 l4_3 b28_2) f4 := by
      intro b28_2
      unfold f_X8_termsOf_b28_4
      refine zm_iinc (lv' := fun z => [(3, .int z), (0, .ref (E.2.1 + t)), (1, .int a1), (2, .int b28_2)]) 31 rfl dX8_termsOf_28 zi_1 3 rfl (by decide) (fun _ => rfl) (fun x28 _ => ?_)
      refine zm_goto 4 (by decide) dX8_termsOf_31 ?_
      exact zm_loc [1, 2, 3, 0] rfl (zm_go (hf4a _) (hD4 (b28_2, x28)))
    refine zm_icmp_ne 28 22 (by decide) rfl dX8_termsOf_19 ?_ ?_
    · refine zm_iload_n 23 rfl dX8_termsOf_22 rfl 2 rfl ?_
      refine zm_iconst 24 rfl dX8_termsOf_23 zi_1 ?_
      refine zm_iload_n 25 rfl dX8_termsOf_24 rfl 3 rfl ?_
      refine zm_ishl 26 rfl dX8_termsOf_25 ?_
      refine zm_ior 27 rfl dX8_termsOf_26 ?_
      refine zm_nmi (fun x27 _ => ?_)
      refine zm_istore_n (lv' := [(2, .int x27), (0, .ref (E.2.1 + t)), (1, .int a1), (3, .int l4_3)]) 28 rfl dX8_termsOf_27 rfl (by decide) rfl ?_
      exact zm_loc [1, 2, 0, 3] rfl (hb28_4 x27)
    · exact zm_loc [0, 1, 2, 3] rfl (hb28_4 l4_2)
abbrev Y_X3_canHang : zm_Y := (cX3_canHang, 4, RX3, { frames := 3, cells := 0, slots := 0, locals := 73 }, (some .boolean), false)
noncomputable def f_X3_canHang_b49 (M49 : zm_Mem) : Option (Int32 × zm_Mem) :=
 some (0, M49)
noncomputable def f_X3_canHang (a1 : Int32) (a2 : Int32) (a3 : Int32) (M : zm_Mem) : Option (Int32 × zm_Mem) :=
  zm_b2 (f_X3_enter a1 a2 (-1) M) <| fun _ M4 => zm_ck (zm_in 4 9) <| zm_v (M4.2.2 47 2) <| fun t17 => zm_ck (zm_isT t17) <| zm_ck (zm_in a2 5) <| if (M4.1 (t17 + 2) a2.toNatClampNeg) ≤ (M4.1 49 (4 : Int32).toNatClampNeg) then (f_X3_canHang_b49 M4) else (zm_v (M4.2.2 47 2) <| fun t30 => zm_ck (zm_isT t30) <| zm_b1 (f_X8_termsOf t30 a1 M4) <| fun r34 => zm_b2 (f_X3_brokenAsEntered (r34 &&& a3) M4) <| fun r39 M39 => if r39 = 0 then (some (1, M39)) else (f_X3_canHang_b49 M39))
set_option maxRecDepth 20000 in
set_option maxHeartbeats 4000000 in
theorem k_X3_canHang (E : zm_E) (sv : Nat) (a1 : Int32) (a2 : Int32) (a3 : Int32) (M : zm_Mem) {r : Int32} {M' : zm_Mem} (h : f_X3_canHang a1 a2 a3 M = some (r, M')) : zm_Ct E sv sv yX3_canHang Y_X3_canHang [.ref (E.2.1 + 47), .int a1, .int a2, .int a3] M (some (.int r)) M' := by
  refine zm_meth (emb := zm_ei) (d := f_X3_canHang a1 a2 a3 M) (by decide) rfl (Nat.le_of_ble_eq_true rfl) h (fun X => ?_)
  show zm_V X Y_X3_canHang E (zm_Q X E Y_X3_canHang.2.2.2.1.cells Y_X3_canHang.2.2.2.1.slots sv zm_ei) 0 0 sv 0 [(0, .ref (E.2.1 + 47)), (1, .int a1), (2, .int a2), (3, .int a3)] [] M (f_X3_canHang a1 a2 a3 M) some
  unfold f_X3_canHang
  refine zm_aload_n 1 rfl dX3_canHang_0 rfl 0 rfl ?_
  refine zm_iload_n 2 rfl dX3_canHang_1 rfl 1 rfl ?_
  refine zm_iload_n 3 rfl dX3_canHang_2 rfl 2 rfl ?_
  refine zm_iconst 4 rfl dX3_canHang_3 zi_m1 ?_
  refine zm_cV3v 7 rfl dX3_canHang_4 ml_X3_83 rfl (zm_L rfl) rfl (Nat.le_of_ble_eq_true rfl) ⟨Nat.le_of_ble_eq_true rfl, Nat.le_of_ble_eq_true rfl⟩ rfl rfl ⟨Nat.le_refl _, Nat.le_refl _⟩ rfl (fun _ _ h => k_X3_enter E sv a1 a2 (-1) M h) (fun _ M4 => ?_)
  refine zm_aload_n 8 rfl dX3_canHang_7 rfl 0 rfl ?_
  refine zm_getR 11 rfl dX3_canHang_8 fl_X3_12 rfl (zm_L rfl) rfl ?_
  refine zm_getR 14 rfl dX3_canHang_11 fl_X3_26 rfl (zm_L rfl) rfl ?_
  refine zm_iconst 15 rfl dX3_canHang_14 zi_4 ?_
  refine zm_iald 16 rfl dX3_canHang_15 rfl (zm_L rfl) ?_
  refine zm_aload_n 17 rfl dX3_canHang_16 rfl 0 rfl ?_
  refine zm_getT 20 rfl dX3_canHang_17 fl_X3_22 rfl (zm_L rfl) (fun t17 _ ht17 => ?_)
  refine zm_getR (a := t17 + 2) 23 rfl dX3_canHang_20 fl_X3_54 (zm_T_o ht17) (zm_T_l0 ht17) (zm_T_r ht17 1 (by decide)) ?_
  refine zm_iload_n 24 rfl dX3_canHang_23 rfl 2 rfl ?_
  refine zm_iald 25 rfl dX3_canHang_24 (zm_T_a ht17 2 (by decide)) (zm_T_l ht17 2 (by decide)) ?_
  have hb49 : ∀ (M49 : zm_Mem), zm_V X Y_X3_canHang E (zm_Q X E Y_X3_canHang.2.2.2.1.cells Y_X3_canHang.2.2.2.1.slots sv zm_ei) 0 0 sv 49 [] [] M49 (f_X3_canHang_b49 M49) some := by
    intro M49
    unfold f_X3_canHang_b49
    refine zm_iconst 50 rfl dX3_canHang_49 zi_0 ?_
    exact zm_zret dX3_canHang_50 rfl rfl (Nat.le_refl _) (Nat.le_refl _) rfl
  refine zm_icmp_ge 49 28 (by decide) rfl dX3_canHang_25 ?_ ?_
  · exact zm_loc [] rfl (hb49 M4)
  · refine zm_aload_n 29 rfl dX3_canHang_28 rfl 0 rfl ?_
    refine zm_aload_n 30 rfl dX3_canHang_29 rfl 0 rfl ?_
    refine zm_getT 33 rfl dX3_canHang_30 fl_X3_22 rfl (zm_L rfl) (fun t30 _ ht30 => ?_)
    refine zm_iload_n 34 rfl dX3_canHang_33 rfl 1 rfl ?_
    refine zm_cV1ir 37 rfl dX3_canHang_34 ml_X3_87 (zm_T_o ht30) (zm_T_l0 ht30) rfl (Nat.le_of_ble_eq_true rfl) ⟨Nat.le_of_ble_eq_true rfl, Nat.le_of_ble_eq_true rfl⟩ rfl rfl ⟨Nat.le_refl _, Nat.le_refl _⟩ rfl (fun _ h => k_X8_termsOf E sv t30 a1 ht30 M4 h) (fun r34 => ?_)
    refine zm_iload_n 38 rfl dX3_canHang_37 rfl 3 rfl ?_
    refine zm_iand 39 rfl dX3_canHang_38 ?_
    refine zm_cV1i 42 rfl dX3_canHang_39 ml_X3_90 rfl (zm_L rfl) rfl (Nat.le_of_ble_eq_true rfl) ⟨Nat.le_of_ble_eq_true rfl, Nat.le_of_ble_eq_true rfl⟩ rfl rfl ⟨Nat.le_refl _, Nat.le_refl _⟩ rfl (fun _ _ h => k_X3_brokenAsEntered E sv (r34 &&& a3) M4 h) (fun r39 M39 => ?_)
    refine zm_if_ne 49 45 (by decide) rfl dX3_canHang_42 ?_ ?_
    · refine zm_iconst 46 rfl dX3_canHang_45 zi_1 ?_
      refine zm_goto 50 (by decide) dX3_canHang_46 ?_
      exact zm_zret dX3_canHang_50 rfl rfl (Nat.le_refl _) (Nat.le_refl _) rfl
    · exact zm_loc [] rfl (hb49 M39)
abbrev Y_X3_allWell : zm_Y := (cX3_allWell, 3, RX3, { frames := 4, cells := 0, slots := 0, locals := 96 }, (some .boolean), false)
noncomputable def f_X3_allWell_b40_2 (l2_2 : Int32) (M40 : zm_Mem) : Option ((Int32 × zm_Mem) ⊕ (zm_Mem ⊕ zm_Mem)) :=
 zm_v (l2_2 + 1) <| fun x40 => some (.inl (x40, M40))
noncomputable def f_X3_allWell_l2 (a1 : Int32) (l2_2 : Int32) (L2 : zm_Mem) : Option ((Int32 × zm_Mem) ⊕ (zm_Mem ⊕ zm_Mem)) :=
 zm_v (L2.2.2 47 2) <| fun t4 => zm_ck (zm_isT t4) <| if (L2.1 t4 12) ≤ l2_2 then (some (.inr (.inr L2))) else (zm_ck (zm_in l2_2 6) <| if (L2.1 51 l2_2.toNatClampNeg) = (-1 : Int32) then (f_X3_allWell_b40_2 l2_2 L2) else (zm_ck (zm_in l2_2 6) <| zm_b2 (f_X3_canHang l2_2 (L2.1 51 l2_2.toNatClampNeg) a1 L2) <| fun r32 M32 => if r32 = 0 then (some (.inr (.inl M32))) else (f_X3_allWell_b40_2 l2_2 M32)))
noncomputable def f_X3_allWell (a1 : Int32) (M : zm_Mem) : Option (Int32 × zm_Mem) :=
  (zm_lp (fun s => f_X3_allWell_l2 a1 s.1 s.2) (0, M)).bind (Sum.elim (fun e38 => some (0, e38)) (fun e46 => some (1, e46)))
set_option maxRecDepth 20000 in
set_option maxHeartbeats 4000000 in
theorem k_X3_allWell (E : zm_E) (sv : Nat) (a1 : Int32) (M : zm_Mem) {r : Int32} {M' : zm_Mem} (h : f_X3_allWell a1 M = some (r, M')) : zm_Ct E sv sv yX3_allWell Y_X3_allWell [.ref (E.2.1 + 47), .int a1] M (some (.int r)) M' := by
  refine zm_meth (emb := zm_ei) (d := f_X3_allWell a1 M) (by decide) rfl (Nat.le_of_ble_eq_true rfl) h (fun X => ?_)
  show zm_V X Y_X3_allWell E (zm_Q X E Y_X3_allWell.2.2.2.1.cells Y_X3_allWell.2.2.2.1.slots sv zm_ei) 0 0 sv 0 [(0, .ref (E.2.1 + 47)), (1, .int a1)] [] M (f_X3_allWell a1 M) some
  unfold f_X3_allWell
  refine zm_iconst 1 rfl dX3_allWell_0 zi_0 ?_
  refine zm_istore_n (lv' := [(2, .int 0), (0, .ref (E.2.1 + 47)), (1, .int a1)]) 2 rfl dX3_allWell_1 rfl (by decide) rfl ?_
  have hx38_2 : ∀ (N38 : zm_Mem), zm_V X Y_X3_allWell E (zm_Q X E Y_X3_allWell.2.2.2.1.cells Y_X3_allWell.2.2.2.1.slots sv zm_ei) 0 0 sv 38 [] [] N38 (some (0, N38)) some := by
    intro N38
    refine zm_iconst 39 rfl dX3_allWell_38 zi_0 ?_
    exact zm_zret dX3_allWell_39 rfl rfl (Nat.le_refl _) (Nat.le_refl _) rfl
  have hx46_2 : ∀ (N46 : zm_Mem), zm_V X Y_X3_allWell E (zm_Q X E Y_X3_allWell.2.2.2.1.cells Y_X3_allWell.2.2.2.1.slots sv zm_ei) 0 0 sv 46 [] [] N46 (some (1, N46)) some := by
    intro N46
    refine zm_iconst 47 rfl dX3_allWell_46 zi_1 ?_
    exact zm_zret dX3_allWell_47 rfl rfl (Nat.le_refl _) (Nat.le_refl _) rfl
  refine zm_loc [1, 2, 0] rfl (zm_lpp (σ := (Int32 × zm_Mem)) (ε := (zm_Mem ⊕ zm_Mem)) (step := fun s => f_X3_allWell_l2 a1 s.1 s.2) (fun s => [(0, .ref (E.2.1 + 47)), (1, .int a1), (2, .int s.1)]) (fun s => s.2) (fun D2 f2 hf2a hf2b hD2 s => ?_) (0, M))
  obtain ⟨l2_2, L2⟩ := s
  show zm_V X Y_X3_allWell E (zm_Q X E Y_X3_allWell.2.2.2.1.cells Y_X3_allWell.2.2.2.1.slots sv zm_ei) 0 0 sv 2 [(0, .ref (E.2.1 + 47)), (1, .int a1), (2, .int l2_2)] [] L2 (f_X3_allWell_l2 a1 l2_2 L2) f2
  unfold f_X3_allWell_l2
  refine zm_iload_n 3 rfl dX3_allWell_2 rfl 2 rfl ?_
  refine zm_aload_n 4 rfl dX3_allWell_3 rfl 0 rfl ?_
  refine zm_getT 7 rfl dX3_allWell_4 fl_X3_22 rfl (zm_L rfl) (fun t4 _ ht4 => ?_)
  refine zm_getI 10 rfl dX3_allWell_7 fl_X3_29 (zm_T_o ht4) (zm_T_l0 ht4) ?_
  refine zm_icmp_ge 46 13 (by decide) rfl dX3_allWell_10 ?_ ?_
  · exact zm_loc [] rfl (zm_go (hf2b _) (zm_unb (hx46_2 L2)))
  · refine zm_aload_n 14 rfl dX3_allWell_13 rfl 0 rfl ?_
    refine zm_getR 17 rfl dX3_allWell_14 fl_X3_18 rfl (zm_L rfl) rfl ?_
    refine zm_iload_n 18 rfl dX3_allWell_17 rfl 2 rfl ?_
    refine zm_iald 19 rfl dX3_allWell_18 rfl (zm_L rfl) ?_
    refine zm_iconst 20 rfl dX3_allWell_19 zi_m1 ?_
    have hb40_2 : ∀ (M40 : zm_Mem), zm_V X Y_X3_allWell E (zm_Q X E Y_X3_allWell.2.2.2.1.cells Y_X3_allWell.2.2.2.1.slots sv zm_ei) 0 0 sv 40 [(0, .ref (E.2.1 + 47)), (1, .int a1), (2, .int l2_2)] [] M40 (f_X3_allWell_b40_2 l2_2 M40) f2 := by
      intro M40
      unfold f_X3_allWell_b40_2
      refine zm_iinc (lv' := fun z => [(2, .int z), (0, .ref (E.2.1 + 47)), (1, .int a1)]) 43 rfl dX3_allWell_40 zi_1 2 rfl (by decide) (fun _ => rfl) (fun x40 _ => ?_)
      refine zm_goto 2 (by decide) dX3_allWell_43 ?_
      exact zm_loc [1, 2, 0] rfl (zm_go (hf2a _) (hD2 (x40, M40)))
    refine zm_icmp_eq 40 23 (by decide) rfl dX3_allWell_20 ?_ ?_
    · exact zm_loc [0, 1, 2] rfl (hb40_2 L2)
    · refine zm_aload_n 24 rfl dX3_allWell_23 rfl 0 rfl ?_
      refine zm_iload_n 25 rfl dX3_allWell_24 rfl 2 rfl ?_
      refine zm_aload_n 26 rfl dX3_allWell_25 rfl 0 rfl ?_
      refine zm_getR 29 rfl dX3_allWell_26 fl_X3_18 rfl (zm_L rfl) rfl ?_
      refine zm_iload_n 30 rfl dX3_allWell_29 rfl 2 rfl ?_
      refine zm_iald 31 rfl dX3_allWell_30 rfl (zm_L rfl) ?_
      refine zm_iload_n 32 rfl dX3_allWell_31 rfl 1 rfl ?_
      refine zm_cV3i 35 rfl dX3_allWell_32 ml_X3_93 rfl (zm_L rfl) rfl (Nat.le_of_ble_eq_true rfl) ⟨Nat.le_of_ble_eq_true rfl, Nat.le_of_ble_eq_true rfl⟩ rfl rfl ⟨Nat.le_refl _, Nat.le_refl _⟩ rfl (fun _ _ h => k_X3_canHang E sv l2_2 (L2.1 51 l2_2.toNatClampNeg) a1 L2 h) (fun r32 M32 => ?_)
      refine zm_if_ne 40 38 (by decide) rfl dX3_allWell_35 ?_ ?_
      · exact zm_loc [] rfl (zm_go (hf2b _) (zm_unb (hx38_2 M32)))
      · exact zm_loc [0, 1, 2] rfl (hb40_2 M32)
abbrev Y_X3_likingAsEntered : zm_Y := (cX3_likingAsEntered, 1, RX3, { frames := 1, cells := 0, slots := 0, locals := 29 }, (some .int), false)
noncomputable def f_X3_likingAsEntered  (M : zm_Mem) : Option (Int32 × zm_Mem) :=
  zm_v (M.2.2 47 2) <| fun t8 => zm_ck (zm_isT t8) <| zm_v (M.2.2 47 2) <| fun t12 => zm_ck (zm_isT t12) <| zm_b2 (f_X5_goThrough t8 (M.1 t12 15) M) <| fun r18 M18 => some (zm_max 0 (zm_min 99 r18), M18)
set_option maxRecDepth 20000 in
set_option maxHeartbeats 4000000 in
theorem k_X3_likingAsEntered (E : zm_E) (sv : Nat)  (M : zm_Mem) {r : Int32} {M' : zm_Mem} (h : f_X3_likingAsEntered M = some (r, M')) : zm_Ct E sv sv yX3_likingAsEntered Y_X3_likingAsEntered [.ref (E.2.1 + 47)] M (some (.int r)) M' := by
  refine zm_meth (emb := zm_ei) (d := f_X3_likingAsEntered M) (by decide) rfl (Nat.le_of_ble_eq_true rfl) h (fun X => ?_)
  show zm_V X Y_X3_likingAsEntered E (zm_Q X E Y_X3_likingAsEntered.2.2.2.1.cells Y_X3_likingAsEntered.2.2.2.1.slots sv zm_ei) 0 0 sv 0 [(0, .ref (E.2.1 + 47))] [] M (f_X3_likingAsEntered M) some
  unfold f_X3_likingAsEntered
  refine zm_iconst 1 rfl dX3_likingAsEntered_0 zi_0 ?_
  refine zm_bipush 3 rfl dX3_likingAsEntered_1 zb_99 ?_
  refine zm_aload_n 4 rfl dX3_likingAsEntered_3 rfl 0 rfl ?_
  refine zm_getR 7 rfl dX3_likingAsEntered_4 fl_X3_12 rfl (zm_L rfl) rfl ?_
  refine zm_aload_n 8 rfl dX3_likingAsEntered_7 rfl 0 rfl ?_
  refine zm_getT 11 rfl dX3_likingAsEntered_8 fl_X3_22 rfl (zm_L rfl) (fun t8 _ ht8 => ?_)
  refine zm_aload_n 12 rfl dX3_likingAsEntered_11 rfl 0 rfl ?_
  refine zm_getT 15 rfl dX3_likingAsEntered_12 fl_X3_22 rfl (zm_L rfl) (fun t12 _ ht12 => ?_)
  refine zm_getI 18 rfl dX3_likingAsEntered_15 fl_X3_101 (zm_T_o ht12) (zm_T_l0 ht12) ?_
  refine zm_cV2i 21 rfl dX3_likingAsEntered_18 ml_X3_66 rfl (zm_L rfl) rfl (Nat.le_of_ble_eq_true rfl) ⟨Nat.le_of_ble_eq_true rfl, Nat.le_of_ble_eq_true rfl⟩ rfl rfl ⟨Nat.le_refl _, Nat.le_refl _⟩ rfl (fun _ _ h => k_X5_goThrough E sv t8 (M.1 t12 15) ht8 M h) (fun r18 M18 => ?_)
  refine zm_mmin 24 rfl dX3_likingAsEntered_21 mm_X3_104 mm_st_min in_math mm_co_min (Nat.le_of_ble_eq_true rfl) (Nat.le_of_ble_eq_true rfl) ⟨Nat.le_refl _, Nat.le_refl _⟩ ?_
  refine zm_mmax 27 rfl dX3_likingAsEntered_24 mm_X3_110 mm_st_max in_math mm_co_max (Nat.le_of_ble_eq_true rfl) (Nat.le_of_ble_eq_true rfl) ⟨Nat.le_refl _, Nat.le_refl _⟩ ?_
  exact zm_iret dX3_likingAsEntered_27 rfl (Nat.le_refl _) (Nat.le_refl _) rfl
abbrev Y_X3_liking : zm_Y := (cX3_liking, 4, RX3, { frames := 2, cells := 0, slots := 0, locals := 51 }, (some .int), false)
noncomputable def f_X3_liking (a1 : Int32) (a2 : Int32) (a3 : Int32) (M : zm_Mem) : Option (Int32 × zm_Mem) :=
  zm_b2 (f_X3_enter a2 a1 a3 M) <| fun _ M4 => zm_b2 (f_X3_likingAsEntered M4) <| fun r8 M8 => some (r8, M8)
set_option maxRecDepth 20000 in
set_option maxHeartbeats 4000000 in
theorem k_X3_liking (E : zm_E) (sv : Nat) (a1 : Int32) (a2 : Int32) (a3 : Int32) (M : zm_Mem) {r : Int32} {M' : zm_Mem} (h : f_X3_liking a1 a2 a3 M = some (r, M')) : zm_Ct E sv sv yX3_liking Y_X3_liking [.ref (E.2.1 + 47), .int a1, .int a2, .int a3] M (some (.int r)) M' := by
  refine zm_meth (emb := zm_ei) (d := f_X3_liking a1 a2 a3 M) (by decide) rfl (Nat.le_of_ble_eq_true rfl) h (fun X => ?_)
  show zm_V X Y_X3_liking E (zm_Q X E Y_X3_liking.2.2.2.1.cells Y_X3_liking.2.2.2.1.slots sv zm_ei) 0 0 sv 0 [(0, .ref (E.2.1 + 47)), (1, .int a1), (2, .int a2), (3, .int a3)] [] M (f_X3_liking a1 a2 a3 M) some
  unfold f_X3_liking
  refine zm_aload_n 1 rfl dX3_liking_0 rfl 0 rfl ?_
  refine zm_iload_n 2 rfl dX3_liking_1 rfl 2 rfl ?_
  refine zm_iload_n 3 rfl dX3_liking_2 rfl 1 rfl ?_
  refine zm_iload_n 4 rfl dX3_liking_3 rfl 3 rfl ?_
  refine zm_cV3v 7 rfl dX3_liking_4 ml_X3_83 rfl (zm_L rfl) rfl (Nat.le_of_ble_eq_true rfl) ⟨Nat.le_of_ble_eq_true rfl, Nat.le_of_ble_eq_true rfl⟩ rfl rfl ⟨Nat.le_refl _, Nat.le_refl _⟩ rfl (fun _ _ h => k_X3_enter E sv a2 a1 a3 M h) (fun _ M4 => ?_)
  refine zm_aload_n 8 rfl dX3_liking_7 rfl 0 rfl ?_
  refine zm_cV0i 11 rfl dX3_liking_8 ml_X3_97 rfl (zm_L rfl) rfl (Nat.le_of_ble_eq_true rfl) ⟨Nat.le_of_ble_eq_true rfl, Nat.le_of_ble_eq_true rfl⟩ rfl rfl ⟨Nat.le_refl _, Nat.le_refl _⟩ rfl (fun _ _ h => k_X3_likingAsEntered E sv M4 h) (fun r8 M8 => ?_)
  exact zm_iret dX3_liking_11 rfl (Nat.le_refl _) (Nat.le_refl _) rfl
abbrev Y_X3_likingAlone : zm_Y := (cX3_likingAlone, 3, RX3, { frames := 2, cells := 0, slots := 0, locals := 49 }, (some .int), false)
noncomputable def f_X3_likingAlone (a1 : Int32) (a2 : Int32) (M : zm_Mem) : Option (Int32 × zm_Mem) :=
  zm_b2 (f_X3_enterAmong a2 a1 0 0 M) <| fun _ M5 => zm_b2 (f_X3_likingAsEntered M5) <| fun r9 M9 => some (r9, M9)
set_option maxRecDepth 20000 in
set_option maxHeartbeats 4000000 in
theorem k_X3_likingAlone (E : zm_E) (sv : Nat) (a1 : Int32) (a2 : Int32) (M : zm_Mem) {r : Int32} {M' : zm_Mem} (h : f_X3_likingAlone a1 a2 M = some (r, M')) : zm_Ct E sv sv yX3_likingAlone Y_X3_likingAlone [.ref (E.2.1 + 47), .int a1, .int a2] M (some (.int r)) M' := by
  refine zm_meth (emb := zm_ei) (d := f_X3_likingAlone a1 a2 M) (by decide) rfl (Nat.le_of_ble_eq_true rfl) h (fun X => ?_)
  show zm_V X Y_X3_likingAlone E (zm_Q X E Y_X3_likingAlone.2.2.2.1.cells Y_X3_likingAlone.2.2.2.1.slots sv zm_ei) 0 0 sv 0 [(0, .ref (E.2.1 + 47)), (1, .int a1), (2, .int a2)] [] M (f_X3_likingAlone a1 a2 M) some
  unfold f_X3_likingAlone
  refine zm_aload_n 1 rfl dX3_likingAlone_0 rfl 0 rfl ?_
  refine zm_iload_n 2 rfl dX3_likingAlone_1 rfl 2 rfl ?_
  refine zm_iload_n 3 rfl dX3_likingAlone_2 rfl 1 rfl ?_
  refine zm_iconst 4 rfl dX3_likingAlone_3 zi_0 ?_
  refine zm_iconst 5 rfl dX3_likingAlone_4 zi_0 ?_
  refine zm_cV4v 8 rfl dX3_likingAlone_5 ml_X3_47 rfl (zm_L rfl) rfl (Nat.le_of_ble_eq_true rfl) ⟨Nat.le_of_ble_eq_true rfl, Nat.le_of_ble_eq_true rfl⟩ rfl rfl ⟨Nat.le_refl _, Nat.le_refl _⟩ rfl (fun _ _ h => k_X3_enterAmong E sv a2 a1 0 0 M h) (fun _ M5 => ?_)
  refine zm_aload_n 9 rfl dX3_likingAlone_8 rfl 0 rfl ?_
  refine zm_cV0i 12 rfl dX3_likingAlone_9 ml_X3_97 rfl (zm_L rfl) rfl (Nat.le_of_ble_eq_true rfl) ⟨Nat.le_of_ble_eq_true rfl, Nat.le_of_ble_eq_true rfl⟩ rfl rfl ⟨Nat.le_refl _, Nat.le_refl _⟩ rfl (fun _ _ h => k_X3_likingAsEntered E sv M5 h) (fun r9 M9 => ?_)
  exact zm_iret dX3_likingAlone_12 rfl (Nat.le_refl _) (Nat.le_refl _) rfl
abbrev Y_X3_journey : zm_Y := (cX3_journey, 3, RX3, { frames := 1, cells := 0, slots := 0, locals := 29 }, (some .int), false)
noncomputable def f_X3_journey (a1 : Int32) (a2 : Int32) (M : zm_Mem) : Option (Int32 × zm_Mem) :=
  zm_b2 (f_X3_enterAmong a1 a2 0 0 M) <| fun _ M5 => zm_v (M5.2.2 47 2) <| fun t16 => zm_ck (zm_isT t16) <| zm_v (M5.2.2 47 2) <| fun t20 => zm_ck (zm_isT t20) <| zm_b2 (f_X5_goThrough t16 (M5.1 t20 14) M5) <| fun r26 M26 => some (zm_max 1 (zm_min 99 r26), M26)
set_option maxRecDepth 20000 in
set_option maxHeartbeats 4000000 in
theorem k_X3_journey (E : zm_E) (sv : Nat) (a1 : Int32) (a2 : Int32) (M : zm_Mem) {r : Int32} {M' : zm_Mem} (h : f_X3_journey a1 a2 M = some (r, M')) : zm_Ct E sv sv yX3_journey Y_X3_journey [.ref (E.2.1 + 47), .int a1, .int a2] M (some (.int r)) M' := by
  refine zm_meth (emb := zm_ei) (d := f_X3_journey a1 a2 M) (by decide) rfl (Nat.le_of_ble_eq_true rfl) h (fun X => ?_)
  show zm_V X Y_X3_journey E (zm_Q X E Y_X3_journey.2.2.2.1.cells Y_X3_journey.2.2.2.1.slots sv zm_ei) 0 0 sv 0 [(0, .ref (E.2.1 + 47)), (1, .int a1), (2, .int a2)] [] M (f_X3_journey a1 a2 M) some
  unfold f_X3_journey
  refine zm_aload_n 1 rfl dX3_journey_0 rfl 0 rfl ?_
  refine zm_iload_n 2 rfl dX3_journey_1 rfl 1 rfl ?_
  refine zm_iload_n 3 rfl dX3_journey_2 rfl 2 rfl ?_
  refine zm_iconst 4 rfl dX3_journey_3 zi_0 ?_
  refine zm_iconst 5 rfl dX3_journey_4 zi_0 ?_
  refine zm_cV4v 8 rfl dX3_journey_5 ml_X3_47 rfl (zm_L rfl) rfl (Nat.le_of_ble_eq_true rfl) ⟨Nat.le_of_ble_eq_true rfl, Nat.le_of_ble_eq_true rfl⟩ rfl rfl ⟨Nat.le_refl _, Nat.le_refl _⟩ rfl (fun _ _ h => k_X3_enterAmong E sv a1 a2 0 0 M h) (fun _ M5 => ?_)
  refine zm_iconst 9 rfl dX3_journey_8 zi_1 ?_
  refine zm_bipush 11 rfl dX3_journey_9 zb_99 ?_
  refine zm_aload_n 12 rfl dX3_journey_11 rfl 0 rfl ?_
  refine zm_getR 15 rfl dX3_journey_12 fl_X3_12 rfl (zm_L rfl) rfl ?_
  refine zm_aload_n 16 rfl dX3_journey_15 rfl 0 rfl ?_
  refine zm_getT 19 rfl dX3_journey_16 fl_X3_22 rfl (zm_L rfl) (fun t16 _ ht16 => ?_)
  refine zm_aload_n 20 rfl dX3_journey_19 rfl 0 rfl ?_
  refine zm_getT 23 rfl dX3_journey_20 fl_X3_22 rfl (zm_L rfl) (fun t20 _ ht20 => ?_)
  refine zm_getI 26 rfl dX3_journey_23 fl_X3_113 (zm_T_o ht20) (zm_T_l0 ht20) ?_
  refine zm_cV2i 29 rfl dX3_journey_26 ml_X3_66 rfl (zm_L rfl) rfl (Nat.le_of_ble_eq_true rfl) ⟨Nat.le_of_ble_eq_true rfl, Nat.le_of_ble_eq_true rfl⟩ rfl rfl ⟨Nat.le_refl _, Nat.le_refl _⟩ rfl (fun _ _ h => k_X5_goThrough E sv t16 (M5.1 t20 14) ht16 M5 h) (fun r26 M26 => ?_)
  refine zm_mmin 32 rfl dX3_journey_29 mm_X3_104 mm_st_min in_math mm_co_min (Nat.le_of_ble_eq_true rfl) (Nat.le_of_ble_eq_true rfl) ⟨Nat.le_refl _, Nat.le_refl _⟩ ?_
  refine zm_mmax 35 rfl dX3_journey_32 mm_X3_110 mm_st_max in_math mm_co_max (Nat.le_of_ble_eq_true rfl) (Nat.le_of_ble_eq_true rfl) ⟨Nat.le_refl _, Nat.le_refl _⟩ ?_
  exact zm_iret dX3_journey_35 rfl (Nat.le_refl _) (Nat.le_refl _) rfl
abbrev Y_X4_begin : zm_Y := (cX4_begin, 3, RX4, { frames := 1, cells := 0, slots := 0, locals := 23 }, none, false)
noncomputable def f_X4_begin_l10 (a1 : Nat) (l10_2 : Int32) (L10 : zm_Mem) : Option ((Int32 × zm_Mem) ⊕ zm_Mem) :=
 if (L10.1 a1 12) ≤ l10_2 then (some (.inr L10)) else (zm_ck (zm_in l10_2 6) <| zm_ck (zm_in (4 + l10_2) 47) <| zm_v (zm_sI L10 12 (4 + l10_2).toNatClampNeg (L10.1 (a1 + 4) l10_2.toNatClampNeg)) <| fun M31 => zm_v (l10_2 + 1) <| fun x32 => some (.inl (x32, M31)))
noncomputable def f_X4_begin (a1 : Nat) (M : zm_Mem) : Option (Unit × zm_Mem) :=
  zm_b2 (f_J7_fill_53178 12 0 M) <| fun _ M5 => (zm_lp (fun s => f_X4_begin_l10 a1 s.1 s.2) (0, M5)).bind (fun e38 => some ((), e38))
set_option maxRecDepth 20000 in
set_option maxHeartbeats 4000000 in
theorem k_X4_begin (E : zm_E) (sv : Nat) (a1 : Nat) (ha1 : zm_isT a1 = true) (M : zm_Mem) {r : Unit} {M' : zm_Mem} (h : f_X4_begin a1 M = some (r, M')) : zm_Ct E sv sv yX4_begin Y_X4_begin [.ref (E.2.1 + 11), .ref (E.2.1 + a1)] M none M' := by
  refine zm_meth (emb := zm_ev) (d := f_X4_begin a1 M) (by decide) rfl (Nat.le_of_ble_eq_true rfl) h (fun X => ?_)
  show zm_V X Y_X4_begin E (zm_Q X E Y_X4_begin.2.2.2.1.cells Y_X4_begin.2.2.2.1.slots sv zm_ev) 0 0 sv 0 [(0, .ref (E.2.1 + 11)), (1, .ref (E.2.1 + a1))] [] M (f_X4_begin a1 M) some
  unfold f_X4_begin
  refine zm_aload_n 1 rfl dX4_begin_0 rfl 0 rfl ?_
  refine zm_getR 4 rfl dX4_begin_1 fl_X4_11 rfl (zm_L rfl) rfl ?_
  refine zm_iconst 5 rfl dX4_begin_4 zi_0 ?_
  refine zm_cS2v 8 rfl dX4_begin_5 ml_X4_15 (Nat.le_of_ble_eq_true rfl) ⟨Nat.le_of_ble_eq_true rfl, Nat.le_of_ble_eq_true rfl⟩ rfl rfl ⟨Nat.le_refl _, Nat.le_refl _⟩ rfl (fun _ _ h => k_J7_fill_53178 E sv 12 0 ⟨rfl, (zm_L rfl)⟩ M h) (fun _ M5 => ?_)
  refine zm_iconst 9 rfl dX4_begin_8 zi_0 ?_
  refine zm_istore_n (lv' := [(2, .int 0), (0, .ref (E.2.1 + 11)), (1, .ref (E.2.1 + a1))]) 10 rfl dX4_begin_9 rfl (by decide) rfl ?_
  have hx38_10 : ∀ (N38 : zm_Mem), zm_V X Y_X4_begin E (zm_Q X E Y_X4_begin.2.2.2.1.cells Y_X4_begin.2.2.2.1.slots sv zm_ev) 0 0 sv 38 [] [] N38 (some ((), N38)) some := by
    intro N38
    exact zm_vret dX4_begin_38 rfl (Nat.le_refl _) (Nat.le_refl _) rfl
  refine zm_loc [1, 2, 0] rfl (zm_lpp (σ := (Int32 × zm_Mem)) (ε := zm_Mem) (step := fun s => f_X4_begin_l10 a1 s.1 s.2) (fun s => [(0, .ref (E.2.1 + 11)), (1, .ref (E.2.1 + a1)), (2, .int s.1)]) (fun s => s.2) (fun D10 f10 hf10a hf10b hD10 s => ?_) (0, M5))
  obtain ⟨l10_2, L10⟩ := s
  show zm_V X Y_X4_begin E (zm_Q X E Y_X4_begin.2.2.2.1.cells Y_X4_begin.2.2.2.1.slots sv zm_ev) 0 0 sv 10 [(0, .ref (E.2.1 + 11)), (1, .ref (E.2.1 + a1)), (2, .int l10_2)] [] L10 (f_X4_begin_l10 a1 l10_2 L10) f10
  unfold f_X4_begin_l10
  refine zm_iload_n 11 rfl dX4_begin_10 rfl 2 rfl ?_
  refine zm_aload_n 12 rfl dX4_begin_11 rfl 1 rfl ?_
  refine zm_getI 15 rfl dX4_begin_12 fl_X4_21 (zm_T_o ha1) (zm_T_l0 ha1) ?_
  refine zm_icmp_ge 38 18 (by decide) rfl dX4_begin_15 ?_ ?_
  · exact zm_loc [] rfl (zm_go (hf10b _) (zm_unb (hx38_10 L10)))
  · refine zm_aload_n 19 rfl dX4_begin_18 rfl 0 rfl ?_
    refine zm_getR 22 rfl dX4_begin_19 fl_X4_11 rfl (zm_L rfl) rfl ?_
    refine zm_iconst 23 rfl dX4_begin_22 zi_4 ?_
    refine zm_iload_n 24 rfl dX4_begin_23 rfl 2 rfl ?_
    refine zm_iadd 25 rfl dX4_begin_24 ?_
    refine zm_aload_n 26 rfl dX4_begin_25 rfl 1 rfl ?_
    refine zm_getR (a := a1 + 4) 29 rfl dX4_begin_26 fl_X4_27 (zm_T_o ha1) (zm_T_l0 ha1) (zm_T_r ha1 3 (by decide)) ?_
    refine zm_iload_n 30 rfl dX4_begin_29 rfl 2 rfl ?_
    refine zm_iald 31 rfl dX4_begin_30 (zm_T_a ha1 4 (by decide)) (zm_T_l ha1 4 (by decide)) ?_
    refine zm_iast 32 rfl dX4_begin_31 rfl (zm_L rfl) (fun M31 _ => ?_)
    refine zm_iinc (lv' := fun z => [(2, .int z), (0, .ref (E.2.1 + 11)), (1, .ref (E.2.1 + a1))]) 35 rfl dX4_begin_32 zi_1 2 rfl (by decide) (fun _ => rfl) (fun x32 _ => ?_)
    refine zm_goto 10 (by decide) dX4_begin_35 ?_
    exact zm_loc [1, 2, 0] rfl (zm_go (hf10a _) (hD10 (x32, M31)))
abbrev Y_X4_today : zm_Y := (cX4_today, 1, RX4, { frames := 0, cells := 0, slots := 0, locals := 0 }, (some .int), false)
noncomputable def f_X4_today  (M : zm_Mem) : Option Int32 :=
  zm_ck (zm_in 0 47) <| some (M.1 12 (0 : Int32).toNatClampNeg)
set_option maxRecDepth 20000 in
set_option maxHeartbeats 4000000 in
theorem k_X4_today (E : zm_E) (sv : Nat)  (M : zm_Mem) {r : Int32} (h : f_X4_today M = some r) : zm_Ct E sv sv yX4_today Y_X4_today [.ref (E.2.1 + 11)] M (some (.int r)) M := by
  refine zm_methr (emb := zm_ei) (d := f_X4_today M) (by decide) rfl (Nat.le_of_ble_eq_true rfl) h (fun X => ?_)
  show zm_V X Y_X4_today E (zm_Q X E Y_X4_today.2.2.2.1.cells Y_X4_today.2.2.2.1.slots sv zm_ei) 0 0 sv 0 [(0, .ref (E.2.1 + 11))] [] M (f_X4_today M) (fun r => some (r, M))
  unfold f_X4_today
  refine zm_aload_n 1 rfl dX4_today_0 rfl 0 rfl ?_
  refine zm_getR 4 rfl dX4_today_1 fl_X4_11 rfl (zm_L rfl) rfl ?_
  refine zm_iconst 5 rfl dX4_today_4 zi_0 ?_
  refine zm_iald 6 rfl dX4_today_5 rfl (zm_L rfl) ?_
  exact zm_iret dX4_today_6 rfl (Nat.le_refl _) (Nat.le_refl _) rfl
abbrev Y_X4_tripsSoFar : zm_Y := (cX4_tripsSoFar, 1, RX4, { frames := 0, cells := 0, slots := 0, locals := 0 }, (some .int), false)
noncomputable def f_X4_tripsSoFar  (M : zm_Mem) : Option Int32 :=
  zm_ck (zm_in 1 47) <| some (M.1 12 (1 : Int32).toNatClampNeg)
set_option maxRecDepth 20000 in
set_option maxHeartbeats 4000000 in
theorem k_X4_tripsSoFar (E : zm_E) (sv : Nat)  (M : zm_Mem) {r : Int32} (h : f_X4_tripsSoFar M = some r) : zm_Ct E sv sv yX4_tripsSoFar Y_X4_tripsSoFar [.ref (E.2.1 + 11)] M (some (.int r)) M := by
  refine zm_methr (emb := zm_ei) (d := f_X4_tripsSoFar M) (by decide) rfl (Nat.le_of_ble_eq_true rfl) h (fun X => ?_)
  show zm_V X Y_X4_tripsSoFar E (zm_Q X E Y_X4_tripsSoFar.2.2.2.1.cells Y_X4_tripsSoFar.2.2.2.1.slots sv zm_ei) 0 0 sv 0 [(0, .ref (E.2.1 + 11))] [] M (f_X4_tripsSoFar M) (fun r => some (r, M))
  unfold f_X4_tripsSoFar
  refine zm_aload_n 1 rfl dX4_tripsSoFar_0 rfl 0 rfl ?_
  refine zm_getR 4 rfl dX4_tripsSoFar_1 fl_X4_11 rfl (zm_L rfl) rfl ?_
  refine zm_iconst 5 rfl dX4_tripsSoFar_4 zi_1 ?_
  refine zm_iald 6 rfl dX4_tripsSoFar_5 rfl (zm_L rfl) ?_
  exact zm_iret dX4_tripsSoFar_6 rfl (Nat.le_refl _) (Nat.le_refl _) rfl
abbrev Y_X4_underWay : zm_Y := (cX4_underWay, 2, RX4, { frames := 1, cells := 0, slots := 0, locals := 21 }, (some .boolean), false)
noncomputable def f_X4_underWay (a1 : Int32) (M : zm_Mem) : Option Int32 :=
  zm_b1 (f_X4_arrival a1 M) <| fun r2 => zm_b1 (f_X4_today M) <| fun r6 => if r2 ≤ r6 then (some 0) else (some 1)
set_option maxRecDepth 20000 in
set_option maxHeartbeats 4000000 in
theorem k_X4_underWay (E : zm_E) (sv : Nat) (a1 : Int32) (M : zm_Mem) {r : Int32} (h : f_X4_underWay a1 M = some r) : zm_Ct E sv sv yX4_underWay Y_X4_underWay [.ref (E.2.1 + 11), .int a1] M (some (.int r)) M := by
  refine zm_methr (emb := zm_ei) (d := f_X4_underWay a1 M) (by decide) rfl (Nat.le_of_ble_eq_true rfl) h (fun X => ?_)
  show zm_V X Y_X4_underWay E (zm_Q X E Y_X4_underWay.2.2.2.1.cells Y_X4_underWay.2.2.2.1.slots sv zm_ei) 0 0 sv 0 [(0, .ref (E.2.1 + 11)), (1, .int a1)] [] M (f_X4_underWay a1 M) (fun r => some (r, M))
  unfold f_X4_underWay
  refine zm_aload_n 1 rfl dX4_underWay_0 rfl 0 rfl ?_
  refine zm_iload_n 2 rfl dX4_underWay_1 rfl 1 rfl ?_
  refine zm_cV1ir 5 rfl dX4_underWay_2 ml_X4_30 rfl (zm_L rfl) rfl (Nat.le_of_ble_eq_true rfl) ⟨Nat.le_of_ble_eq_true rfl, Nat.le_of_ble_eq_true rfl⟩ rfl rfl ⟨Nat.le_refl _, Nat.le_refl _⟩ rfl (fun _ h => k_X4_arrival E sv a1 M h) (fun r2 => ?_)
  refine zm_aload_n 6 rfl dX4_underWay_5 rfl 0 rfl ?_
  refine zm_cV0ir 9 rfl dX4_underWay_6 ml_X4_34 rfl (zm_L rfl) rfl (Nat.le_of_ble_eq_true rfl) ⟨Nat.le_of_ble_eq_true rfl, Nat.le_of_ble_eq_true rfl⟩ rfl rfl ⟨Nat.le_refl _, Nat.le_refl _⟩ rfl (fun _ h => k_X4_today E sv M h) (fun r6 => ?_)
  refine zm_icmp_le 16 12 (by decide) rfl dX4_underWay_9 ?_ ?_
  · refine zm_iconst 17 rfl dX4_underWay_16 zi_0 ?_
    exact zm_zret dX4_underWay_17 rfl rfl (Nat.le_refl _) (Nat.le_refl _) rfl
  · refine zm_iconst 13 rfl dX4_underWay_12 zi_1 ?_
    refine zm_goto 17 (by decide) dX4_underWay_13 ?_
    exact zm_zret dX4_underWay_17 rfl rfl (Nat.le_refl _) (Nat.le_refl _) rfl
abbrev Y_X4_isIn : zm_Y := (cX4_isIn, 3, RX4, { frames := 2, cells := 0, slots := 0, locals := 42 }, (some .boolean), false)
noncomputable def f_X4_isIn_b21  : Option Int32 :=
 some 0
noncomputable def f_X4_isIn (a1 : Int32) (a2 : Int32) (M : zm_Mem) : Option Int32 :=
  zm_b1 (f_X4_goal a1 M) <| fun r2 => if r2 = a2 then (zm_b1 (f_X4_underWay a1 M) <| fun r11 => if r11 = 0 then (some 1) else (f_X4_isIn_b21)) else (f_X4_isIn_b21)
set_option maxRecDepth 20000 in
set_option maxHeartbeats 4000000 in
theorem k_X4_isIn (E : zm_E) (sv : Nat) (a1 : Int32) (a2 : Int32) (M : zm_Mem) {r : Int32} (h : f_X4_isIn a1 a2 M = some r) : zm_Ct E sv sv yX4_isIn Y_X4_isIn [.ref (E.2.1 + 11), .int a1, .int a2] M (some (.int r)) M := by
  refine zm_methr (emb := zm_ei) (d := f_X4_isIn a1 a2 M) (by decide) rfl (Nat.le_of_ble_eq_true rfl) h (fun X => ?_)
  show zm_V X Y_X4_isIn E (zm_Q X E Y_X4_isIn.2.2.2.1.cells Y_X4_isIn.2.2.2.1.slots sv zm_ei) 0 0 sv 0 [(0, .ref (E.2.1 + 11)), (1, .int a1), (2, .int a2)] [] M (f_X4_isIn a1 a2 M) (fun r => some (r, M))
  unfold f_X4_isIn
  refine zm_aload_n 1 rfl dX4_isIn_0 rfl 0 rfl ?_
  refine zm_iload_n 2 rfl dX4_isIn_1 rfl 1 rfl ?_
  refine zm_cV1ir 5 rfl dX4_isIn_2 ml_X4_38 rfl (zm_L rfl) rfl (Nat.le_of_ble_eq_true rfl) ⟨Nat.le_of_ble_eq_true rfl, Nat.le_of_ble_eq_true rfl⟩ rfl rfl ⟨Nat.le_refl _, Nat.le_refl _⟩ rfl (fun _ h => k_X4_goal E sv a1 M h) (fun r2 => ?_)
  refine zm_iload_n 6 rfl dX4_isIn_5 rfl 2 rfl ?_
  have hb21 : zm_V X Y_X4_isIn E (zm_Q X E Y_X4_isIn.2.2.2.1.cells Y_X4_isIn.2.2.2.1.slots sv zm_ei) 0 0 sv 21 [] [] M (f_X4_isIn_b21) (fun r => some (r, M)) := by
    unfold f_X4_isIn_b21
    refine zm_iconst 22 rfl dX4_isIn_21 zi_0 ?_
    exact zm_zret dX4_isIn_22 rfl rfl (Nat.le_refl _) (Nat.le_refl _) rfl
  refine zm_icmp_ne 21 9 (by decide) rfl dX4_isIn_6 ?_ ?_
  · refine zm_aload_n 10 rfl dX4_isIn_9 rfl 0 rfl ?_
    refine zm_iload_n 11 rfl dX4_isIn_10 rfl 1 rfl ?_
    refine zm_cV1ir 14 rfl dX4_isIn_11 ml_X4_41 rfl (zm_L rfl) rfl (Nat.le_of_ble_eq_true rfl) ⟨Nat.le_of_ble_eq_true rfl, Nat.le_of_ble_eq_true rfl⟩ rfl rfl ⟨Nat.le_refl _, Nat.le_refl _⟩ rfl (fun _ h => k_X4_underWay E sv a1 M h) (fun r11 => ?_)
    refine zm_if_ne 21 17 (by decide) rfl dX4_isIn_14 ?_ ?_
    · refine zm_iconst 18 rfl dX4_isIn_17 zi_1 ?_
      refine zm_goto 22 (by decide) dX4_isIn_18 ?_
      exact zm_zret dX4_isIn_22 rfl rfl (Nat.le_refl _) (Nat.le_refl _) rfl
    · exact zm_loc [] rfl (hb21)
  · exact zm_loc [] rfl (hb21)
abbrev Y_X4_depart : zm_Y := (cX4_depart, 5, RX4, { frames := 1, cells := 0, slots := 0, locals := 21 }, none, false)
noncomputable def f_X4_depart (a1 : Int32) (a2 : Int32) (a3 : Int32) (a4 : Int32) (M : zm_Mem) : Option (Unit × zm_Mem) :=
  zm_b1 (f_X4_goal a1 M) <| fun r8 => zm_ck (zm_in ((22 + (r8 * 5)) + a2) 47) <| zm_ck (zm_in ((22 + (r8 * 5)) + a2) 47) <| zm_v (zm_sI M 12 ((22 + (r8 * 5)) + a2).toNatClampNeg ((M.1 12 ((22 + (r8 * 5)) + a2).toNatClampNeg) + 1)) <| fun M20 => zm_ck (zm_in (4 + a1) 47) <| zm_v (zm_sI M20 12 (4 + a1).toNatClampNeg a2) <| fun M29 => zm_b1 (f_X4_today M29) <| fun r39 => zm_ck (zm_in (10 + a1) 47) <| zm_v (zm_sI M29 12 (10 + a1).toNatClampNeg (r39 + a3)) <| fun M44 => zm_ck (zm_in (16 + a1) 47) <| zm_ck (zm_in (16 + a1) 47) <| zm_v (zm_sI M44 12 (16 + a1).toNatClampNeg ((M44.1 12 (16 + a1).toNatClampNeg) + 1)) <| fun M57 => zm_ck (zm_in 1 47) <| zm_ck (zm_in 1 47) <| zm_v (zm_sI M57 12 (1 : Int32).toNatClampNeg ((M57.1 12 (1 : Int32).toNatClampNeg) + 1)) <| fun M67 => if a4 = 0 then (some ((), M67)) else (zm_ck (zm_in 2 47) <| zm_ck (zm_in 2 47) <| zm_v (zm_sI M67 12 (2 : Int32).toNatClampNeg ((M67.1 12 (2 : Int32).toNatClampNeg) + 1)) <| fun M82 => some ((), M82))
set_option maxRecDepth 20000 in
set_option maxHeartbeats 4000000 in
theorem k_X4_depart (E : zm_E) (sv : Nat) (a1 : Int32) (a2 : Int32) (a3 : Int32) (a4 : Int32) (M : zm_Mem) {r : Unit} {M' : zm_Mem} (h : f_X4_depart a1 a2 a3 a4 M = some (r, M')) : zm_Ct E sv sv yX4_depart Y_X4_depart [.ref (E.2.1 + 11), .int a1, .int a2, .int a3, .int a4] M none M' := by
  refine zm_meth (emb := zm_ev) (d := f_X4_depart a1 a2 a3 a4 M) (by decide) rfl (Nat.le_of_ble_eq_true rfl) h (fun X => ?_)
  show zm_V X Y_X4_depart E (zm_Q X E Y_X4_depart.2.2.2.1.cells Y_X4_depart.2.2.2.1.slots sv zm_ev) 0 0 sv 0 [(0, .ref (E.2.1 + 11)), (1, .int a1), (2, .int a2), (3, .int a3), (4, .int a4)] [] M (f_X4_depart a1 a2 a3 a4 M) some
  unfold f_X4_depart
  refine zm_aload_n 1 rfl dX4_depart_0 rfl 0 rfl ?_
  refine zm_getR 4 rfl dX4_depart_1 fl_X4_11 rfl (zm_L rfl) rfl ?_
  refine zm_bipush 6 rfl dX4_depart_4 zb_22 ?_
  refine zm_aload_n 7 rfl dX4_depart_6 rfl 0 rfl ?_
  refine zm_iload_n 8 rfl dX4_depart_7 rfl 1 rfl ?_
  refine zm_cV1ir 11 rfl dX4_depart_8 ml_X4_38 rfl (zm_L rfl) rfl (Nat.le_of_ble_eq_true rfl) ⟨Nat.le_of_ble_eq_true rfl, Nat.le_of_ble_eq_true rfl⟩ rfl rfl ⟨Nat.le_refl _, Nat.le_refl _⟩ rfl (fun _ h => k_X4_goal E sv a1 M h) (fun r8 => ?_)
  refine zm_iconst 12 rfl dX4_depart_11 zi_5 ?_
  refine zm_imul 13 rfl dX4_depart_12 ?_
  refine zm_iadd 14 rfl dX4_depart_13 ?_
  refine zm_iload_n 15 rfl dX4_depart_14 rfl 2 rfl ?_
  refine zm_iadd 16 rfl dX4_depart_15 ?_
  refine zm_dup2 17 rfl dX4_depart_16 rfl rfl ?_
  refine zm_iald 18 rfl dX4_depart_17 rfl (zm_L rfl) ?_
  refine zm_iconst 19 rfl dX4_depart_18 zi_1 ?_
  refine zm_iadd 20 rfl dX4_depart_19 ?_
  refine zm_iast 21 rfl dX4_depart_20 rfl (zm_L rfl) (fun M20 _ => ?_)
  refine zm_aload_n 22 rfl dX4_depart_21 rfl 0 rfl ?_
  refine zm_getR 25 rfl dX4_depart_22 fl_X4_11 rfl (zm_L rfl) rfl ?_
  refine zm_iconst 26 rfl dX4_depart_25 zi_4 ?_
  refine zm_iload_n 27 rfl dX4_depart_26 rfl 1 rfl ?_
  refine zm_iadd 28 rfl dX4_depart_27 ?_
  refine zm_iload_n 29 rfl dX4_depart_28 rfl 2 rfl ?_
  refine zm_iast 30 rfl dX4_depart_29 rfl (zm_L rfl) (fun M29 _ => ?_)
  refine zm_aload_n 31 rfl dX4_depart_30 rfl 0 rfl ?_
  refine zm_getR 34 rfl dX4_depart_31 fl_X4_11 rfl (zm_L rfl) rfl ?_
  refine zm_bipush 36 rfl dX4_depart_34 zb_10 ?_
  refine zm_iload_n 37 rfl dX4_depart_36 rfl 1 rfl ?_
  refine zm_iadd 38 rfl dX4_depart_37 ?_
  refine zm_aload_n 39 rfl dX4_depart_38 rfl 0 rfl ?_
  refine zm_cV0ir 42 rfl dX4_depart_39 ml_X4_34 rfl (zm_L rfl) rfl (Nat.le_of_ble_eq_true rfl) ⟨Nat.le_of_ble_eq_true rfl, Nat.le_of_ble_eq_true rfl⟩ rfl rfl ⟨Nat.le_refl _, Nat.le_refl _⟩ rfl (fun _ h => k_X4_today E sv M29 h) (fun r39 => ?_)
  refine zm_iload_n 43 rfl dX4_depart_42 rfl 3 rfl ?_
  refine zm_iadd 44 rfl dX4_depart_43 ?_
  refine zm_iast 45 rfl dX4_depart_44 rfl (zm_L rfl) (fun M44 _ => ?_)
  refine zm_aload_n 46 rfl dX4_depart_45 rfl 0 rfl ?_
  refine zm_getR 49 rfl dX4_depart_46 fl_X4_11 rfl (zm_L rfl) rfl ?_
  refine zm_bipush 51 rfl dX4_depart_49 zb_16 ?_
  refine zm_iload_n 52 rfl dX4_depart_51 rfl 1 rfl ?_
  refine zm_iadd 53 rfl dX4_depart_52 ?_
  refine zm_dup2 54 rfl dX4_depart_53 rfl rfl ?_
  refine zm_iald 55 rfl dX4_depart_54 rfl (zm_L rfl) ?_
  refine zm_iconst 56 rfl dX4_depart_55 zi_1 ?_
  refine zm_iadd 57 rfl dX4_depart_56 ?_
  refine zm_iast 58 rfl dX4_depart_57 rfl (zm_L rfl) (fun M57 _ => ?_)
  refine zm_aload_n 59 rfl dX4_depart_58 rfl 0 rfl ?_
  refine zm_getR 62 rfl dX4_depart_59 fl_X4_11 rfl (zm_L rfl) rfl ?_
  refine zm_iconst 63 rfl dX4_depart_62 zi_1 ?_
  refine zm_dup2 64 rfl dX4_depart_63 rfl rfl ?_
  refine zm_iald 65 rfl dX4_depart_64 rfl (zm_L rfl) ?_
  refine zm_iconst 66 rfl dX4_depart_65 zi_1 ?_
  refine zm_iadd 67 rfl dX4_depart_66 ?_
  refine zm_iast 68 rfl dX4_depart_67 rfl (zm_L rfl) (fun M67 _ => ?_)
  refine zm_iload 70 rfl dX4_depart_68 4 rfl ?_
  refine zm_if_eq 83 73 (by decide) rfl dX4_depart_70 ?_ ?_
  · exact zm_vret dX4_depart_83 rfl (Nat.le_refl _) (Nat.le_refl _) rfl
  · refine zm_aload_n 74 rfl dX4_depart_73 rfl 0 rfl ?_
    refine zm_getR 77 rfl dX4_depart_74 fl_X4_11 rfl (zm_L rfl) rfl ?_
    refine zm_iconst 78 rfl dX4_depart_77 zi_2 ?_
    refine zm_dup2 79 rfl dX4_depart_78 rfl rfl ?_
    refine zm_iald 80 rfl dX4_depart_79 rfl (zm_L rfl) ?_
    refine zm_iconst 81 rfl dX4_depart_80 zi_1 ?_
    refine zm_iadd 82 rfl dX4_depart_81 ?_
    refine zm_iast 83 rfl dX4_depart_82 rfl (zm_L rfl) (fun M82 _ => ?_)
    exact zm_vret dX4_depart_83 rfl (Nat.le_refl _) (Nat.le_refl _) rfl
