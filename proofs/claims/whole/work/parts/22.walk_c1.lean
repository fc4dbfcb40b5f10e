abbrev Y_X10_richest : zm_Y := (cX10_richest, 6, RX10, { frames := 4, cells := 0, slots := 0, locals := 87 }, (some .int), false, "richest")
noncomputable def f_X10_richest_b41_9 (l9_4 : Int32) (b41_2 : Int32) (b41_3 : Int32) : Option ((Int32 × Int32 × Int32) ⊕ (Int32 × Int32)) :=
 zm_v (l9_4 + 1) <| fun x41 => some (.inl (b41_2, b41_3, x41))
noncomputable def f_X10_richest_l9 (M : zm_Mem) (l9_2 : Int32) (l9_3 : Int32) (l9_4 : Int32) : Option ((Int32 × Int32 × Int32) ⊕ (Int32 × Int32)) :=
 zm_v (M.2.2 1 9) <| fun t12 => zm_ck (zm_isT t12) <| if (M.1 t12 11) ≤ l9_4 then (some (.inr (l9_2, l9_3))) else (zm_b1 (f_X10_valueIn l9_4 M) <| fun r24 => if r24 ≤ l9_3 then (f_X10_richest_b41_9 l9_4 l9_2 l9_3) else (f_X10_richest_b41_9 l9_4 l9_4 r24))
noncomputable def f_X10_richest (a1 : Int32) (M : zm_Mem) : Option Int32 :=
  (zm_lp (fun s => f_X10_richest_l9 M s.1 s.2.1 s.2.2) ((-2), (-2), 0)).bind (fun e47 => if a1 = 0 then (some e47.1) else (some e47.2))
set_option maxRecDepth 20000 in
set_option maxHeartbeats 4000000 in
theorem k_X10_richest (E : zm_E) (sv : Nat) (a1 : Int32) (M : zm_Mem) {r : Int32} (h : f_X10_richest a1 M = some r) : zm_Ct E (zm_w sv) (zm_w sv) yX10_richest Y_X10_richest [.ref (E.2.1 + 1), .int a1] M (some (.int r)) M := by
  refine zm_methr (emb := zm_ei) (d := f_X10_richest a1 M) (by decide) rfl rfl (Nat.le_of_ble_eq_true rfl) h (fun X => ?_)
  show zm_V X Y_X10_richest E (zm_Q X E Y_X10_richest.2.2.2.1.cells Y_X10_richest.2.2.2.1.slots (zm_w sv) zm_ei) 0 0 false (zm_w sv) 0 [(0, .ref (E.2.1 + 1)), (1, .int a1)] [] M (f_X10_richest a1 M) (fun r => some (r, M))
  unfold f_X10_richest
  refine zm_bipush 2 rfl dX10_richest_0 zb_m2 ?_
  refine zm_istore_n (lv' := [(2, .int (-2)), (0, .ref (E.2.1 + 1)), (1, .int a1)]) 3 rfl dX10_richest_2 rfl (by decide) rfl ?_
  refine zm_bipush 5 rfl dX10_richest_3 zb_m2 ?_
  refine zm_istore_n (lv' := [(3, .int (-2)), (2, .int (-2)), (0, .ref (E.2.1 + 1)), (1, .int a1)]) 6 rfl dX10_richest_5 rfl (by decide) rfl ?_
  refine zm_iconst 7 rfl dX10_richest_6 zi_0 ?_
  refine zm_istore (lv' := [(4, .int 0), (3, .int (-2)), (2, .int (-2)), (0, .ref (E.2.1 + 1)), (1, .int a1)]) 9 rfl dX10_richest_7 (by decide) rfl ?_
  have hx47_9 : ∀ (e47_2 : Int32) (e47_3 : Int32), zm_V X Y_X10_richest E (zm_Q X E Y_X10_richest.2.2.2.1.cells Y_X10_richest.2.2.2.1.slots (zm_w sv) zm_ei) 0 0 false (zm_w sv) 47 [(1, .int a1), (2, .int e47_2), (3, .int e47_3)] [] M (if a1 = 0 then (some e47_2) else (some e47_3)) (fun r => some (r, M)) := by
    intro e47_2 e47_3
    refine zm_iload_n 48 rfl dX10_richest_47 rfl 0 rfl ?_
    refine zm_if_eq 55 51 (by decide) rfl dX10_richest_48 ?_ ?_
    · refine zm_iload_n 56 rfl dX10_richest_55 rfl 1 rfl ?_
      exact zm_iret dX10_richest_56 rfl (Nat.le_refl _) (Nat.le_refl _) rfl
    · refine zm_iload_n 52 rfl dX10_richest_51 rfl 2 rfl ?_
      refine zm_goto 56 (by decide) dX10_richest_52 ?_
      exact zm_iret dX10_richest_56 rfl (Nat.le_refl _) (Nat.le_refl _) rfl
  refine zm_loc [3, 4, 2, 1, 0] rfl (zm_lpp (σ := (Int32 × Int32 × Int32)) (ε := (Int32 × Int32)) (step := fun s => f_X10_richest_l9 M s.1 s.2.1 s.2.2) (fun s => [(0, .ref (E.2.1 + 1)), (1, .int a1), (2, .int s.1), (3, .int s.2.1), (4, .int s.2.2)]) (fun _ => M) (fun D9 f9 hf9a hf9b hD9 s => ?_) ((-2), (-2), 0))
  obtain ⟨l9_2, l9_3, l9_4⟩ := s
  show zm_V X Y_X10_richest E (zm_Q X E Y_X10_richest.2.2.2.1.cells Y_X10_richest.2.2.2.1.slots (zm_w sv) zm_ei) 0 0 false (zm_w sv) 9 [(0, .ref (E.2.1 + 1)), (1, .int a1), (2, .int l9_2), (3, .int l9_3), (4, .int l9_4)] [] M (f_X10_richest_l9 M l9_2 l9_3 l9_4) f9
  unfold f_X10_richest_l9
  refine zm_iload 11 rfl dX10_richest_9 4 rfl ?_
  refine zm_aload_n 12 rfl dX10_richest_11 rfl 0 rfl ?_
  refine zm_getT 15 rfl dX10_richest_12 fl_X10_60 rfl (zm_L (sv := sv) rfl) (fun t12 _ ht12 => ?_)
  refine zm_getI 18 rfl dX10_richest_15 fl_X10_272 (zm_T_o ht12) (zm_T_l0 (sv := sv) ht12) ?_
  refine zm_icmp_ge 47 21 (by decide) rfl dX10_richest_18 ?_ ?_
  · exact zm_loc [1, 2, 3] rfl (zm_go (hf9b _) (zm_unb (hx47_9 l9_2 l9_3)))
  · refine zm_aload_n 22 rfl dX10_richest_21 rfl 0 rfl ?_
    refine zm_iload 24 rfl dX10_richest_22 4 rfl ?_
    refine zm_cV1ir 27 rfl dX10_richest_24 ml_X10_275 rfl (zm_L (sv := sv) rfl) rfl (Nat.le_of_ble_eq_true rfl) ⟨Nat.le_of_ble_eq_true rfl, Nat.le_of_ble_eq_true rfl⟩ rfl rfl ⟨Nat.le_refl _, Nat.le_refl _⟩ rfl (fun _ h => k_X10_valueIn E sv l9_4 M h) (fun r24 => ?_)
    refine zm_istore (lv' := [(5, .int r24), (0, .ref (E.2.1 + 1)), (1, .int a1), (2, .int l9_2), (3, .int l9_3), (4, .int l9_4)]) 29 rfl dX10_richest_27 (by decide) rfl ?_
    refine zm_iload 31 rfl dX10_richest_29 0 rfl ?_
    refine zm_iload_n 32 rfl dX10_richest_31 rfl 4 rfl ?_
    have hb41_9 : ∀ (b41_2 : Int32) (b41_3 : Int32), zm_V X Y_X10_richest E (zm_Q X E Y_X10_richest.2.2.2.1.cells Y_X10_richest.2.2.2.1.slots (zm_w sv) zm_ei) 0 0 false (zm_w sv) 41 [(0, .ref (E.2.1 + 1)), (1, .int a1), (2, .int b41_2), (3, .int b41_3), (4, .int l9_4)] [] M (f_X10_richest_b41_9 l9_4 b41_2 b41_3) f9 := by
      intro b41_2 b41_3
      unfold f_X10_richest_b41_9
      refine zm_iinc (lv' := fun z => [(4, .int z), (0, .ref (E.2.1 + 1)), (1, .int a1), (2, .int b41_2), (3, .int b41_3)]) 44 rfl dX10_richest_41 zi_1 4 rfl (by decide) (fun _ => rfl) (fun x41 _ => ?_)
      refine zm_goto 9 (by decide) dX10_richest_44 ?_
      exact zm_loc [1, 2, 3, 4, 0] rfl (zm_go (hf9a _) (hD9 (b41_2, b41_3, x41)))
    refine zm_icmp_le 41 35 (by decide) rfl dX10_richest_32 ?_ ?_
    · exact zm_loc [1, 2, 3, 4, 5] rfl (hb41_9 l9_2 l9_3)
    · refine zm_iload 37 rfl dX10_richest_35 5 rfl ?_
      refine zm_istore_n (lv' := [(2, .int l9_4), (5, .int r24), (0, .ref (E.2.1 + 1)), (1, .int a1), (3, .int l9_3), (4, .int l9_4)]) 38 rfl dX10_richest_37 rfl (by decide) rfl ?_
      refine zm_iload 40 rfl dX10_richest_38 1 rfl ?_
      refine zm_istore_n (lv' := [(3, .int r24), (2, .int l9_4), (5, .int r24), (0, .ref (E.2.1 + 1)), (1, .int a1), (4, .int l9_4)]) 41 rfl dX10_richest_40 rfl (by decide) rfl ?_
      exact zm_loc [3, 4, 1, 0, 5] rfl (hb41_9 l9_4 r24)
abbrev Y_X10_lent : zm_Y := (cX10_lent, 3, RX10, { frames := 1, cells := 0, slots := 0, locals := 21 }, (some .int), false, "lent")
noncomputable def f_X10_lent (a1 : Int32) (a2 : Int32) (M : zm_Mem) : Option Int32 :=
  zm_b1 (f_X10_isHouse a1 M) <| fun r2 => if r2 = 0 then (some (-1)) else (zm_b1 (f_X10_isHouse a2 M) <| fun r10 => if r10 = 0 then (some (-1)) else (if a1 = a2 then (some (-1)) else (zm_ck (zm_in ((22 + (a1 * 5)) + a2) 47) <| some (M.1 12 ((22 + (a1 * 5)) + a2).toNatClampNeg))))
set_option maxRecDepth 20000 in
set_option maxHeartbeats 4000000 in
theorem k_X10_lent (E : zm_E) (sv : Nat) (a1 : Int32) (a2 : Int32) (M : zm_Mem) {r : Int32} (h : f_X10_lent a1 a2 M = some r) : zm_Ct E (zm_w sv) (zm_w sv) yX10_lent Y_X10_lent [.ref (E.2.1 + 1), .int a1, .int a2] M (some (.int r)) M := by
  refine zm_methr (emb := zm_ei) (d := f_X10_lent a1 a2 M) (by decide) rfl rfl (Nat.le_of_ble_eq_true rfl) h (fun X => ?_)
  show zm_V X Y_X10_lent E (zm_Q X E Y_X10_lent.2.2.2.1.cells Y_X10_lent.2.2.2.1.slots (zm_w sv) zm_ei) 0 0 false (zm_w sv) 0 [(0, .ref (E.2.1 + 1)), (1, .int a1), (2, .int a2)] [] M (f_X10_lent a1 a2 M) (fun r => some (r, M))
  unfold f_X10_lent
  refine zm_aload_n 1 rfl dX10_lent_0 rfl 0 rfl ?_
  refine zm_iload_n 2 rfl dX10_lent_1 rfl 1 rfl ?_
  refine zm_cV1ir 5 rfl dX10_lent_2 ml_X10_101 rfl (zm_L (sv := sv) rfl) rfl (Nat.le_of_ble_eq_true rfl) ⟨Nat.le_of_ble_eq_true rfl, Nat.le_of_ble_eq_true rfl⟩ rfl rfl ⟨Nat.le_refl _, Nat.le_refl _⟩ rfl (fun _ h => k_X10_isHouse E sv a1 M h) (fun r2 => ?_)
  refine zm_if_eq 21 8 (by decide) rfl dX10_lent_5 ?_ ?_
  · refine zm_iconst 22 rfl dX10_lent_21 zi_m1 ?_
    exact zm_iret dX10_lent_22 rfl (Nat.le_refl _) (Nat.le_refl _) rfl
  · refine zm_aload_n 9 rfl dX10_lent_8 rfl 0 rfl ?_
    refine zm_iload_n 10 rfl dX10_lent_9 rfl 2 rfl ?_
    refine zm_cV1ir 13 rfl dX10_lent_10 ml_X10_101 rfl (zm_L (sv := sv) rfl) rfl (Nat.le_of_ble_eq_true rfl) ⟨Nat.le_of_ble_eq_true rfl, Nat.le_of_ble_eq_true rfl⟩ rfl rfl ⟨Nat.le_refl _, Nat.le_refl _⟩ rfl (fun _ h => k_X10_isHouse E sv a2 M h) (fun r10 => ?_)
    refine zm_if_eq 21 16 (by decide) rfl dX10_lent_13 ?_ ?_
    · refine zm_iconst 22 rfl dX10_lent_21 zi_m1 ?_
      exact zm_iret dX10_lent_22 rfl (Nat.le_refl _) (Nat.le_refl _) rfl
    · refine zm_iload_n 17 rfl dX10_lent_16 rfl 1 rfl ?_
      refine zm_iload_n 18 rfl dX10_lent_17 rfl 2 rfl ?_
      refine zm_icmp_ne 23 21 (by decide) rfl dX10_lent_18 ?_ ?_
      · refine zm_iconst 22 rfl dX10_lent_21 zi_m1 ?_
        exact zm_iret dX10_lent_22 rfl (Nat.le_refl _) (Nat.le_refl _) rfl
      · refine zm_aload_n 24 rfl dX10_lent_23 rfl 0 rfl ?_
        refine zm_getR (a := 11) 27 rfl dX10_lent_24 fl_X10_32 rfl (zm_L (sv := sv) rfl) rfl (by decide) ?_
        refine zm_getR (a := 12) 30 rfl dX10_lent_27 fl_X10_142 rfl (zm_L (sv := sv) rfl) rfl (by decide) ?_
        refine zm_bipush 32 rfl dX10_lent_30 zb_22 ?_
        refine zm_iload_n 33 rfl dX10_lent_32 rfl 1 rfl ?_
        refine zm_iconst 34 rfl dX10_lent_33 zi_5 ?_
        refine zm_imul 35 rfl dX10_lent_34 ?_
        refine zm_iadd 36 rfl dX10_lent_35 ?_
        refine zm_iload_n 37 rfl dX10_lent_36 rfl 2 rfl ?_
        refine zm_iadd 38 rfl dX10_lent_37 ?_
        refine zm_iald 39 rfl dX10_lent_38 rfl (zm_L (sv := sv) rfl) ?_
        exact zm_iret dX10_lent_39 rfl (Nat.le_refl _) (Nat.le_refl _) rfl
abbrev Y_X10_limitOf : zm_Y := (cX10_limitOf, 2, RX10, { frames := 0, cells := 0, slots := 0, locals := 0 }, (some .int), false, "limitOf")
noncomputable def f_X10_limitOf (a1 : Int32) (M : zm_Mem) : Option Int32 :=
  if a1 = 0 then (some 10) else if a1 = 1 then (some 100) else if a1 = 2 then (zm_v (M.2.2 1 9) <| fun t35 => zm_ck (zm_isT t35) <| some (M.1 t35 11)) else (some 0)
set_option maxRecDepth 20000 in
set_option maxHeartbeats 4000000 in
theorem k_X10_limitOf (E : zm_E) (sv : Nat) (a1 : Int32) (M : zm_Mem) {r : Int32} (h : f_X10_limitOf a1 M = some r) : zm_Ct E (zm_w sv) (zm_w sv) yX10_limitOf Y_X10_limitOf [.ref (E.2.1 + 1), .int a1] M (some (.int r)) M := by
  refine zm_methr (emb := zm_ei) (d := f_X10_limitOf a1 M) (by decide) rfl rfl (Nat.le_of_ble_eq_true rfl) h (fun X => ?_)
  show zm_V X Y_X10_limitOf E (zm_Q X E Y_X10_limitOf.2.2.2.1.cells Y_X10_limitOf.2.2.2.1.slots (zm_w sv) zm_ei) 0 0 false (zm_w sv) 0 [(0, .ref (E.2.1 + 1)), (1, .int a1)] [] M (f_X10_limitOf a1 M) (fun r => some (r, M))
  unfold f_X10_limitOf
  refine zm_iload_n 1 rfl dX10_limitOf_0 rfl 1 rfl ?_
  refine zm_case (fun hc => ?_) (fun hc0_1 => ?_)
  · refine zm_tsIn (off := 27) 28 hc dX10_limitOf_1 (by decide) (by decide) (by decide) (by decide) ?_
    refine zm_bipush 30 rfl dX10_limitOf_28 zb_10 ?_
    exact zm_iret dX10_limitOf_30 rfl (Nat.le_refl _) (Nat.le_refl _) rfl
  refine zm_case (fun hc => ?_) (fun hc1_1 => ?_)
  · refine zm_tsIn (off := 30) 31 hc dX10_limitOf_1 (by decide) (by decide) (by decide) (by decide) ?_
    refine zm_bipush 33 rfl dX10_limitOf_31 zb_100 ?_
    exact zm_iret dX10_limitOf_33 rfl (Nat.le_refl _) (Nat.le_refl _) rfl
  refine zm_case (fun hc => ?_) (fun hc2_1 => ?_)
  · refine zm_tsIn (off := 33) 34 hc dX10_limitOf_1 (by decide) (by decide) (by decide) (by decide) ?_
    refine zm_aload_n 35 rfl dX10_limitOf_34 rfl 0 rfl ?_
    refine zm_getT 38 rfl dX10_limitOf_35 fl_X10_60 rfl (zm_L (sv := sv) rfl) (fun t35 _ ht35 => ?_)
    refine zm_getI 41 rfl dX10_limitOf_38 fl_X10_272 (zm_T_o ht35) (zm_T_l0 (sv := sv) ht35) ?_
    exact zm_iret dX10_limitOf_41 rfl (Nat.le_refl _) (Nat.le_refl _) rfl
  refine zm_tsOut 42 dX10_limitOf_1 (by have hn0 := zm_ne hc0_1 (w := 0) (by decide); have hn1 := zm_ne hc1_1 (w := 1) (by decide); have hn2 := zm_ne hc2_1 (w := 2) (by decide); omega) (by decide) ?_
  refine zm_iconst 43 rfl dX10_limitOf_42 zi_0 ?_
  exact zm_iret dX10_limitOf_43 rfl (Nat.le_refl _) (Nat.le_refl _) rfl
abbrev Y_X10_list : zm_Y := (cX10_list, 4, RX10, { frames := 1, cells := 0, slots := 0, locals := 23 }, (some .int), false, "list")
noncomputable def f_X10_list (a1 : Int32) (a2 : Int32) (a3 : Int32) (M : zm_Mem) : Option (Int32 × zm_Mem) :=
  zm_b1 (f_X10_isWork a1 M) <| fun r2 => if r2 = 0 then (some ((-1), M)) else (if a3 < 0 then (some ((-1), M)) else (zm_b1 (f_X10_limitOf a2 M) <| fun r15 => if a3 < r15 then (zm_b2 (f_X0_addList a1 a2 a3 M) <| fun r30 M30 => some (r30, M30)) else (some ((-1), M))))
set_option maxRecDepth 20000 in
set_option maxHeartbeats 4000000 in
theorem k_X10_list (E : zm_E) (sv : Nat) (a1 : Int32) (a2 : Int32) (a3 : Int32) (M : zm_Mem) {r : Int32} {M' : zm_Mem} (h : f_X10_list a1 a2 a3 M = some (r, M')) : zm_Ct E (zm_w sv) (zm_w sv) yX10_list Y_X10_list [.ref (E.2.1 + 1), .int a1, .int a2, .int a3] M (some (.int r)) M' := by
  refine zm_meth (emb := zm_ei) (d := f_X10_list a1 a2 a3 M) (by decide) rfl rfl (Nat.le_of_ble_eq_true rfl) h (fun X => ?_)
  show zm_V X Y_X10_list E (zm_Q X E Y_X10_list.2.2.2.1.cells Y_X10_list.2.2.2.1.slots (zm_w sv) zm_ei) 0 0 false (zm_w sv) 0 [(0, .ref (E.2.1 + 1)), (1, .int a1), (2, .int a2), (3, .int a3)] [] M (f_X10_list a1 a2 a3 M) some
  unfold f_X10_list
  refine zm_aload_n 1 rfl dX10_list_0 rfl 0 rfl ?_
  refine zm_iload_n 2 rfl dX10_list_1 rfl 1 rfl ?_
  refine zm_cV1ir 5 rfl dX10_list_2 ml_X10_121 rfl (zm_L (sv := sv) rfl) rfl (Nat.le_of_ble_eq_true rfl) ⟨Nat.le_of_ble_eq_true rfl, Nat.le_of_ble_eq_true rfl⟩ rfl rfl ⟨Nat.le_refl _, Nat.le_refl _⟩ rfl (fun _ h => k_X10_isWork E sv a1 M h) (fun r2 => ?_)
  refine zm_if_eq 21 8 (by decide) rfl dX10_list_5 ?_ ?_
  · refine zm_iconst 22 rfl dX10_list_21 zi_m1 ?_
    exact zm_iret dX10_list_22 rfl (Nat.le_refl _) (Nat.le_refl _) rfl
  · refine zm_iload_n 9 rfl dX10_list_8 rfl 3 rfl ?_
    refine zm_if_lt 21 12 (by decide) rfl dX10_list_9 ?_ ?_
    · refine zm_iconst 22 rfl dX10_list_21 zi_m1 ?_
      exact zm_iret dX10_list_22 rfl (Nat.le_refl _) (Nat.le_refl _) rfl
    · refine zm_iload_n 13 rfl dX10_list_12 rfl 3 rfl ?_
      refine zm_aload_n 14 rfl dX10_list_13 rfl 0 rfl ?_
      refine zm_iload_n 15 rfl dX10_list_14 rfl 2 rfl ?_
      refine zm_cV1ir 18 rfl dX10_list_15 ml_X10_278 rfl (zm_L (sv := sv) rfl) rfl (Nat.le_of_ble_eq_true rfl) ⟨Nat.le_of_ble_eq_true rfl, Nat.le_of_ble_eq_true rfl⟩ rfl rfl ⟨Nat.le_refl _, Nat.le_refl _⟩ rfl (fun _ h => k_X10_limitOf E sv a2 M h) (fun r15 => ?_)
      refine zm_icmp_lt 23 21 (by decide) rfl dX10_list_18 ?_ ?_
      · refine zm_aload_n 24 rfl dX10_list_23 rfl 0 rfl ?_
        refine zm_getR (a := 16) 27 rfl dX10_list_24 fl_X10_50 rfl (zm_L (sv := sv) rfl) rfl (by decide) ?_
        refine zm_iload_n 28 rfl dX10_list_27 rfl 1 rfl ?_
        refine zm_iload_n 29 rfl dX10_list_28 rfl 2 rfl ?_
        refine zm_iload_n 30 rfl dX10_list_29 rfl 3 rfl ?_
        refine zm_cV3i 33 rfl dX10_list_30 ml_X10_281 rfl (zm_L (sv := sv) rfl) rfl (Nat.le_of_ble_eq_true rfl) ⟨Nat.le_of_ble_eq_true rfl, Nat.le_of_ble_eq_true rfl⟩ rfl rfl ⟨Nat.le_refl _, Nat.le_refl _⟩ rfl (fun _ _ h => k_X0_addList E sv a1 a2 a3 M h) (fun r30 M30 => ?_)
        exact zm_iret dX10_list_33 rfl (Nat.le_refl _) (Nat.le_refl _) rfl
      · refine zm_iconst 22 rfl dX10_list_21 zi_m1 ?_
        exact zm_iret dX10_list_22 rfl (Nat.le_refl _) (Nat.le_refl _) rfl
abbrev Y_X10_forget : zm_Y := (cX10_forget, 2, RX10, { frames := 1, cells := 0, slots := 0, locals := 20 }, (some .int), false, "forget")
noncomputable def f_X10_forget  (M : zm_Mem) : Option (Int32 × zm_Mem) :=
  zm_b1 (f_X0_size M) <| fun r4 => zm_b2 (f_X0_empty M) <| fun _ M12 => some (r4, M12)
set_option maxRecDepth 20000 in
set_option maxHeartbeats 4000000 in
theorem k_X10_forget (E : zm_E) (sv : Nat)  (M : zm_Mem) {r : Int32} {M' : zm_Mem} (h : f_X10_forget M = some (r, M')) : zm_Ct E (zm_w sv) (zm_w sv) yX10_forget Y_X10_forget [.ref (E.2.1 + 1)] M (some (.int r)) M' := by
  refine zm_meth (emb := zm_ei) (d := f_X10_forget M) (by decide) rfl rfl (Nat.le_of_ble_eq_true rfl) h (fun X => ?_)
  show zm_V X Y_X10_forget E (zm_Q X E Y_X10_forget.2.2.2.1.cells Y_X10_forget.2.2.2.1.slots (zm_w sv) zm_ei) 0 0 false (zm_w sv) 0 [(0, .ref (E.2.1 + 1))] [] M (f_X10_forget M) some
  unfold f_X10_forget
  refine zm_aload_n 1 rfl dX10_forget_0 rfl 0 rfl ?_
  refine zm_getR (a := 16) 4 rfl dX10_forget_1 fl_X10_50 rfl (zm_L (sv := sv) rfl) rfl (by decide) ?_
  refine zm_cV0ir 7 rfl dX10_forget_4 ml_X10_284 rfl (zm_L (sv := sv) rfl) rfl (Nat.le_of_ble_eq_true rfl) ⟨Nat.le_of_ble_eq_true rfl, Nat.le_of_ble_eq_true rfl⟩ rfl rfl ⟨Nat.le_refl _, Nat.le_refl _⟩ rfl (fun _ h => k_X0_size E sv M h) (fun r4 => ?_)
  refine zm_istore_n (lv' := [(1, .int r4), (0, .ref (E.2.1 + 1))]) 8 rfl dX10_forget_7 rfl (by decide) rfl ?_
  refine zm_aload_n 9 rfl dX10_forget_8 rfl 1 rfl ?_
  refine zm_getR (a := 16) 12 rfl dX10_forget_9 fl_X10_50 rfl (zm_L (sv := sv) rfl) rfl (by decide) ?_
  refine zm_cV0v 15 rfl dX10_forget_12 ml_X10_285 rfl (zm_L (sv := sv) rfl) rfl (Nat.le_of_ble_eq_true rfl) ⟨Nat.le_of_ble_eq_true rfl, Nat.le_of_ble_eq_true rfl⟩ rfl rfl ⟨Nat.le_refl _, Nat.le_refl _⟩ rfl (fun _ _ h => k_X0_empty E sv M h) (fun _ M12 => ?_)
  refine zm_iload_n 16 rfl dX10_forget_15 rfl 0 rfl ?_
  exact zm_iret dX10_forget_16 rfl (Nat.le_refl _) (Nat.le_refl _) rfl
abbrev Y_X10_isKnown : zm_Y := (cX10_isKnown, 2, RX10, { frames := 1, cells := 0, slots := 0, locals := 20 }, (some .boolean), false, "isKnown")
noncomputable def f_X10_isKnown_b19  : Option Int32 :=
 some 0
noncomputable def f_X10_isKnown (a1 : Int32) (M : zm_Mem) : Option Int32 :=
  if a1 < 0 then (f_X10_isKnown_b19) else (zm_b1 (f_X0_size M) <| fun r9 => if r9 < a1 then (f_X10_isKnown_b19) else (some 1))
set_option maxRecDepth 20000 in
set_option maxHeartbeats 4000000 in
theorem k_X10_isKnown (E : zm_E) (sv : Nat) (a1 : Int32) (M : zm_Mem) {r : Int32} (h : f_X10_isKnown a1 M = some r) : zm_Ct E (zm_w sv) (zm_w sv) yX10_isKnown Y_X10_isKnown [.ref (E.2.1 + 1), .int a1] M (some (.int r)) M := by
  refine zm_methr (emb := zm_ei) (d := f_X10_isKnown a1 M) (by decide) rfl rfl (Nat.le_of_ble_eq_true rfl) h (fun X => ?_)
  show zm_V X Y_X10_isKnown E (zm_Q X E Y_X10_isKnown.2.2.2.1.cells Y_X10_isKnown.2.2.2.1.slots (zm_w sv) zm_ei) 0 0 false (zm_w sv) 0 [(0, .ref (E.2.1 + 1)), (1, .int a1)] [] M (f_X10_isKnown a1 M) (fun r => some (r, M))
  unfold f_X10_isKnown
  refine zm_iload_n 1 rfl dX10_isKnown_0 rfl 1 rfl ?_
  have hb19 : zm_V X Y_X10_isKnown E (zm_Q X E Y_X10_isKnown.2.2.2.1.cells Y_X10_isKnown.2.2.2.1.slots (zm_w sv) zm_ei) 0 0 false (zm_w sv) 19 [] [] M (f_X10_isKnown_b19) (fun r => some (r, M)) := by
    unfold f_X10_isKnown_b19
    refine zm_iconst 20 rfl dX10_isKnown_19 zi_0 ?_
    exact zm_zret dX10_isKnown_20 rfl rfl (Nat.le_refl _) (Nat.le_refl _) rfl
  refine zm_if_lt 19 4 (by decide) rfl dX10_isKnown_1 ?_ ?_
  · exact zm_loc [] rfl (hb19)
  · refine zm_iload_n 5 rfl dX10_isKnown_4 rfl 1 rfl ?_
    refine zm_aload_n 6 rfl dX10_isKnown_5 rfl 0 rfl ?_
    refine zm_getR (a := 16) 9 rfl dX10_isKnown_6 fl_X10_50 rfl (zm_L (sv := sv) rfl) rfl (by decide) ?_
    refine zm_cV0ir 12 rfl dX10_isKnown_9 ml_X10_284 rfl (zm_L (sv := sv) rfl) rfl (Nat.le_of_ble_eq_true rfl) ⟨Nat.le_of_ble_eq_true rfl, Nat.le_of_ble_eq_true rfl⟩ rfl rfl ⟨Nat.le_refl _, Nat.le_refl _⟩ rfl (fun _ h => k_X0_size E sv M h) (fun r9 => ?_)
    refine zm_icmp_gt 19 15 (by decide) rfl dX10_isKnown_12 ?_ ?_
    · exact zm_loc [] rfl (hb19)
    · refine zm_iconst 16 rfl dX10_isKnown_15 zi_1 ?_
      refine zm_goto 20 (by decide) dX10_isKnown_16 ?_
      exact zm_zret dX10_isKnown_20 rfl rfl (Nat.le_refl _) (Nat.le_refl _) rfl
abbrev Y_X10_fits : zm_Y := (cX10_fits, 3, RX10, { frames := 12, cells := 0, slots := 0, locals := 415 }, (some .int), false, "fits")
noncomputable def f_X10_fits (a1 : Int32) (a2 : Int32) (M : zm_Mem) : Option (Int32 × zm_Mem) :=
  zm_b1 (f_X10_isKnown a1 M) <| fun r2 => if r2 = 0 then (some ((-1), M)) else (if a2 < 0 then (some ((-1), M)) else (if a2 ≤ (20 : Int32) then (zm_v (M.2.2 1 9) <| fun t25 => zm_ck (zm_isT t25) <| zm_b2 (f_X0_goThrough t25 a1 M) <| fun _ M29 => zm_b1 (f_X0_waysWith a2 M29) <| fun r37 => some (r37, M29)) else (some ((-1), M))))
set_option maxRecDepth 20000 in
set_option maxHeartbeats 4000000 in
theorem k_X10_fits (E : zm_E) (sv : Nat) (a1 : Int32) (a2 : Int32) (M : zm_Mem) {r : Int32} {M' : zm_Mem} (h : f_X10_fits a1 a2 M = some (r, M')) : zm_Ct E (zm_w sv) (zm_w sv) yX10_fits Y_X10_fits [.ref (E.2.1 + 1), .int a1, .int a2] M (some (.int r)) M' := by
  refine zm_meth (emb := zm_ei) (d := f_X10_fits a1 a2 M) (by decide) rfl rfl (Nat.le_of_ble_eq_true rfl) h (fun X => ?_)
  show zm_V X Y_X10_fits E (zm_Q X E Y_X10_fits.2.2.2.1.cells Y_X10_fits.2.2.2.1.slots (zm_w sv) zm_ei) 0 0 false (zm_w sv) 0 [(0, .ref (E.2.1 + 1)), (1, .int a1), (2, .int a2)] [] M (f_X10_fits a1 a2 M) some
  unfold f_X10_fits
  refine zm_aload_n 1 rfl dX10_fits_0 rfl 0 rfl ?_
  refine zm_iload_n 2 rfl dX10_fits_1 rfl 1 rfl ?_
  refine zm_cV1ir 5 rfl dX10_fits_2 ml_X10_288 rfl (zm_L (sv := sv) rfl) rfl (Nat.le_of_ble_eq_true rfl) ⟨Nat.le_of_ble_eq_true rfl, Nat.le_of_ble_eq_true rfl⟩ rfl rfl ⟨Nat.le_refl _, Nat.le_refl _⟩ rfl (fun _ h => k_X10_isKnown E sv a1 M h) (fun r2 => ?_)
  refine zm_if_eq 18 8 (by decide) rfl dX10_fits_5 ?_ ?_
  · refine zm_iconst 19 rfl dX10_fits_18 zi_m1 ?_
    exact zm_iret dX10_fits_19 rfl (Nat.le_refl _) (Nat.le_refl _) rfl
  · refine zm_iload_n 9 rfl dX10_fits_8 rfl 2 rfl ?_
    refine zm_if_lt 18 12 (by decide) rfl dX10_fits_9 ?_ ?_
    · refine zm_iconst 19 rfl dX10_fits_18 zi_m1 ?_
      exact zm_iret dX10_fits_19 rfl (Nat.le_refl _) (Nat.le_refl _) rfl
    · refine zm_iload_n 13 rfl dX10_fits_12 rfl 2 rfl ?_
      refine zm_bipush 15 rfl dX10_fits_13 zb_20 ?_
      refine zm_icmp_le 20 18 (by decide) rfl dX10_fits_15 ?_ ?_
      · refine zm_aload_n 21 rfl dX10_fits_20 rfl 0 rfl ?_
        refine zm_getR (a := 16) 24 rfl dX10_fits_21 fl_X10_50 rfl (zm_L (sv := sv) rfl) rfl (by decide) ?_
        refine zm_aload_n 25 rfl dX10_fits_24 rfl 0 rfl ?_
        refine zm_getT 28 rfl dX10_fits_25 fl_X10_60 rfl (zm_L (sv := sv) rfl) (fun t25 _ ht25 => ?_)
        refine zm_iload_n 29 rfl dX10_fits_28 rfl 1 rfl ?_
        refine zm_cV2v 32 rfl dX10_fits_29 ml_X10_291 rfl (zm_L (sv := sv) rfl) rfl (Nat.le_of_ble_eq_true rfl) ⟨Nat.le_of_ble_eq_true rfl, Nat.le_of_ble_eq_true rfl⟩ rfl rfl ⟨Nat.le_refl _, Nat.le_refl _⟩ rfl (fun _ _ h => k_X0_goThrough E sv t25 a1 ht25 M h) (fun _ M29 => ?_)
        refine zm_aload_n 33 rfl dX10_fits_32 rfl 0 rfl ?_
        refine zm_getR (a := 16) 36 rfl dX10_fits_33 fl_X10_50 rfl (zm_L (sv := sv) rfl) rfl (by decide) ?_
        refine zm_iload_n 37 rfl dX10_fits_36 rfl 2 rfl ?_
        refine zm_cV1ir 40 rfl dX10_fits_37 ml_X10_295 rfl (zm_L (sv := sv) rfl) rfl (Nat.le_of_ble_eq_true rfl) ⟨Nat.le_of_ble_eq_true rfl, Nat.le_of_ble_eq_true rfl⟩ rfl rfl ⟨Nat.le_refl _, Nat.le_refl _⟩ rfl (fun _ h => k_X0_waysWith E sv a2 M29 h) (fun r37 => ?_)
        exact zm_iret dX10_fits_40 rfl (Nat.le_refl _) (Nat.le_refl _) rfl
      · refine zm_iconst 19 rfl dX10_fits_18 zi_m1 ?_
        exact zm_iret dX10_fits_19 rfl (Nat.le_refl _) (Nat.le_refl _) rfl
abbrev Y_X10_least : zm_Y := (cX10_least, 2, RX10, { frames := 12, cells := 0, slots := 0, locals := 415 }, (some .int), false, "least")
noncomputable def f_X10_least (a1 : Int32) (M : zm_Mem) : Option (Int32 × zm_Mem) :=
  zm_b1 (f_X10_isKnown a1 M) <| fun r2 => if r2 = 0 then (some ((-1), M)) else (zm_v (M.2.2 1 9) <| fun t15 => zm_ck (zm_isT t15) <| zm_b2 (f_X0_goThrough t15 a1 M) <| fun _ M19 => zm_b1 (f_X0_fewestWrong M19) <| fun r26 => some (r26, M19))
set_option maxRecDepth 20000 in
set_option maxHeartbeats 4000000 in
theorem k_X10_least (E : zm_E) (sv : Nat) (a1 : Int32) (M : zm_Mem) {r : Int32} {M' : zm_Mem} (h : f_X10_least a1 M = some (r, M')) : zm_Ct E (zm_w sv) (zm_w sv) yX10_least Y_X10_least [.ref (E.2.1 + 1), .int a1] M (some (.int r)) M' := by
  refine zm_meth (emb := zm_ei) (d := f_X10_least a1 M) (by decide) rfl rfl (Nat.le_of_ble_eq_true rfl) h (fun X => ?_)
  show zm_V X Y_X10_least E (zm_Q X E Y_X10_least.2.2.2.1.cells Y_X10_least.2.2.2.1.slots (zm_w sv) zm_ei) 0 0 false (zm_w sv) 0 [(0, .ref (E.2.1 + 1)), (1, .int a1)] [] M (f_X10_least a1 M) some
  unfold f_X10_least
  refine zm_aload_n 1 rfl dX10_least_0 rfl 0 rfl ?_
  refine zm_iload_n 2 rfl dX10_least_1 rfl 1 rfl ?_
  refine zm_cV1ir 5 rfl dX10_least_2 ml_X10_288 rfl (zm_L (sv := sv) rfl) rfl (Nat.le_of_ble_eq_true rfl) ⟨Nat.le_of_ble_eq_true rfl, Nat.le_of_ble_eq_true rfl⟩ rfl rfl ⟨Nat.le_refl _, Nat.le_refl _⟩ rfl (fun _ h => k_X10_isKnown E sv a1 M h) (fun r2 => ?_)
  refine zm_if_ne 10 8 (by decide) rfl dX10_least_5 ?_ ?_
  · refine zm_iconst 9 rfl dX10_least_8 zi_m1 ?_
    exact zm_iret dX10_least_9 rfl (Nat.le_refl _) (Nat.le_refl _) rfl
  · refine zm_aload_n 11 rfl dX10_least_10 rfl 0 rfl ?_
    refine zm_getR (a := 16) 14 rfl dX10_least_11 fl_X10_50 rfl (zm_L (sv := sv) rfl) rfl (by decide) ?_
    refine zm_aload_n 15 rfl dX10_least_14 rfl 0 rfl ?_
    refine zm_getT 18 rfl dX10_least_15 fl_X10_60 rfl (zm_L (sv := sv) rfl) (fun t15 _ ht15 => ?_)
    refine zm_iload_n 19 rfl dX10_least_18 rfl 1 rfl ?_
    refine zm_cV2v 22 rfl dX10_least_19 ml_X10_291 rfl (zm_L (sv := sv) rfl) rfl (Nat.le_of_ble_eq_true rfl) ⟨Nat.le_of_ble_eq_true rfl, Nat.le_of_ble_eq_true rfl⟩ rfl rfl ⟨Nat.le_refl _, Nat.le_refl _⟩ rfl (fun _ _ h => k_X0_goThrough E sv t15 a1 ht15 M h) (fun _ M19 => ?_)
    refine zm_aload_n 23 rfl dX10_least_22 rfl 0 rfl ?_
    refine zm_getR (a := 16) 26 rfl dX10_least_23 fl_X10_50 rfl (zm_L (sv := sv) rfl) rfl (by decide) ?_
    refine zm_cV0ir 29 rfl dX10_least_26 ml_X10_298 rfl (zm_L (sv := sv) rfl) rfl (Nat.le_of_ble_eq_true rfl) ⟨Nat.le_of_ble_eq_true rfl, Nat.le_of_ble_eq_true rfl⟩ rfl rfl ⟨Nat.le_refl _, Nat.le_refl _⟩ rfl (fun _ h => k_X0_fewestWrong E sv M19 h) (fun r26 => ?_)
    exact zm_iret dX10_least_29 rfl (Nat.le_refl _) (Nat.le_refl _) rfl
abbrev Y_X10_sure : zm_Y := (cX10_sure, 4, RX10, { frames := 12, cells := 0, slots := 0, locals := 415 }, (some .int), false, "sure")
noncomputable def f_X10_sure (a1 : Int32) (a2 : Int32) (M : zm_Mem) : Option (Int32 × zm_Mem) :=
  zm_b1 (f_X10_isKnown a1 M) <| fun r2 => if r2 = 0 then (some ((-1), M)) else (zm_b1 (f_X10_isWork a2 M) <| fun r10 => if r10 = 0 then (some ((-1), M)) else (zm_v (M.2.2 1 9) <| fun t23 => zm_ck (zm_isT t23) <| zm_b2 (f_X0_goThrough t23 a1 M) <| fun _ M27 => zm_b1 (f_X0_couldHave a2 M27) <| fun r35 => zm_b1 (f_J6_bitCount_0f7a4 r35 M27) <| fun r40 => if r40 = (1 : Int32) then (zm_b1 (f_J6_numberOfTrailingZeros_0f7a4 r35 M27) <| fun r48 => some (r48, M27)) else (some ((-2), M27))))
set_option maxRecDepth 20000 in
set_option maxHeartbeats 4000000 in
theorem k_X10_sure (E : zm_E) (sv : Nat) (a1 : Int32) (a2 : Int32) (M : zm_Mem) {r : Int32} {M' : zm_Mem} (h : f_X10_sure a1 a2 M = some (r, M')) : zm_Ct E (zm_w sv) (zm_w sv) yX10_sure Y_X10_sure [.ref (E.2.1 + 1), .int a1, .int a2] M (some (.int r)) M' := by
  refine zm_meth (emb := zm_ei) (d := f_X10_sure a1 a2 M) (by decide) rfl rfl (Nat.le_of_ble_eq_true rfl) h (fun X => ?_)
  show zm_V X Y_X10_sure E (zm_Q X E Y_X10_sure.2.2.2.1.cells Y_X10_sure.2.2.2.1.slots (zm_w sv) zm_ei) 0 0 false (zm_w sv) 0 [(0, .ref (E.2.1 + 1)), (1, .int a1), (2, .int a2)] [] M (f_X10_sure a1 a2 M) some
  unfold f_X10_sure
  refine zm_aload_n 1 rfl dX10_sure_0 rfl 0 rfl ?_
  refine zm_iload_n 2 rfl dX10_sure_1 rfl 1 rfl ?_
  refine zm_cV1ir 5 rfl dX10_sure_2 ml_X10_288 rfl (zm_L (sv := sv) rfl) rfl (Nat.le_of_ble_eq_true rfl) ⟨Nat.le_of_ble_eq_true rfl, Nat.le_of_ble_eq_true rfl⟩ rfl rfl ⟨Nat.le_refl _, Nat.le_refl _⟩ rfl (fun _ h => k_X10_isKnown E sv a1 M h) (fun r2 => ?_)
  refine zm_if_eq 16 8 (by decide) rfl dX10_sure_5 ?_ ?_
  · refine zm_iconst 17 rfl dX10_sure_16 zi_m1 ?_
    exact zm_iret dX10_sure_17 rfl (Nat.le_refl _) (Nat.le_refl _) rfl
  · refine zm_aload_n 9 rfl dX10_sure_8 rfl 0 rfl ?_
    refine zm_iload_n 10 rfl dX10_sure_9 rfl 2 rfl ?_
    refine zm_cV1ir 13 rfl dX10_sure_10 ml_X10_121 rfl (zm_L (sv := sv) rfl) rfl (Nat.le_of_ble_eq_true rfl) ⟨Nat.le_of_ble_eq_true rfl, Nat.le_of_ble_eq_true rfl⟩ rfl rfl ⟨Nat.le_refl _, Nat.le_refl _⟩ rfl (fun _ h => k_X10_isWork E sv a2 M h) (fun r10 => ?_)
    refine zm_if_ne 18 16 (by decide) rfl dX10_sure_13 ?_ ?_
    · refine zm_iconst 17 rfl dX10_sure_16 zi_m1 ?_
      exact zm_iret dX10_sure_17 rfl (Nat.le_refl _) (Nat.le_refl _) rfl
    · refine zm_aload_n 19 rfl dX10_sure_18 rfl 0 rfl ?_
      refine zm_getR (a := 16) 22 rfl dX10_sure_19 fl_X10_50 rfl (zm_L (sv := sv) rfl) rfl (by decide) ?_
      refine zm_aload_n 23 rfl dX10_sure_22 rfl 0 rfl ?_
      refine zm_getT 26 rfl dX10_sure_23 fl_X10_60 rfl (zm_L (sv := sv) rfl) (fun t23 _ ht23 => ?_)
      refine zm_iload_n 27 rfl dX10_sure_26 rfl 1 rfl ?_
      refine zm_cV2v 30 rfl dX10_sure_27 ml_X10_291 rfl (zm_L (sv := sv) rfl) rfl (Nat.le_of_ble_eq_true rfl) ⟨Nat.le_of_ble_eq_true rfl, Nat.le_of_ble_eq_true rfl⟩ rfl rfl ⟨Nat.le_refl _, Nat.le_refl _⟩ rfl (fun _ _ h => k_X0_goThrough E sv t23 a1 ht23 M h) (fun _ M27 => ?_)
      refine zm_aload_n 31 rfl dX10_sure_30 rfl 0 rfl ?_
      refine zm_getR (a := 16) 34 rfl dX10_sure_31 fl_X10_50 rfl (zm_L (sv := sv) rfl) rfl (by decide) ?_
      refine zm_iload_n 35 rfl dX10_sure_34 rfl 2 rfl ?_
      refine zm_cV1ir 38 rfl dX10_sure_35 ml_X10_301 rfl (zm_L (sv := sv) rfl) rfl (Nat.le_of_ble_eq_true rfl) ⟨Nat.le_of_ble_eq_true rfl, Nat.le_of_ble_eq_true rfl⟩ rfl rfl ⟨Nat.le_refl _, Nat.le_refl _⟩ rfl (fun _ h => k_X0_couldHave E sv a2 M27 h) (fun r35 => ?_)
      refine zm_istore_n (lv' := [(3, .int r35), (0, .ref (E.2.1 + 1)), (1, .int a1), (2, .int a2)]) 39 rfl dX10_sure_38 rfl (by decide) rfl ?_
      refine zm_iload_n 40 rfl dX10_sure_39 rfl 0 rfl ?_
      refine zm_cS1ir 43 rfl dX10_sure_40 ml_X10_231 (Nat.le_of_ble_eq_true rfl) ⟨Nat.le_of_ble_eq_true rfl, Nat.le_of_ble_eq_true rfl⟩ rfl rfl ⟨Nat.le_refl _, Nat.le_refl _⟩ rfl (fun _ h => k_J6_bitCount_0f7a4 E (zm_w sv) r35 M27 h) (fun r40 => ?_)
      refine zm_iconst 44 rfl dX10_sure_43 zi_1 ?_
      refine zm_icmp_ne 54 47 (by decide) rfl dX10_sure_44 ?_ ?_
      · refine zm_iload_n 48 rfl dX10_sure_47 rfl 0 rfl ?_
        refine zm_cS1ir 51 rfl dX10_sure_48 ml_X10_304 (Nat.le_of_ble_eq_true rfl) ⟨Nat.le_of_ble_eq_true rfl, Nat.le_of_ble_eq_true rfl⟩ rfl rfl ⟨Nat.le_refl _, Nat.le_refl _⟩ rfl (fun _ h => k_J6_numberOfTrailingZeros_0f7a4 E (zm_w sv) r35 M27 h) (fun r48 => ?_)
        refine zm_goto 56 (by decide) dX10_sure_51 ?_
        exact zm_iret dX10_sure_56 rfl (Nat.le_refl _) (Nat.le_refl _) rfl
      · refine zm_bipush 56 rfl dX10_sure_54 zb_m2 ?_
        exact zm_iret dX10_sure_56 rfl (Nat.le_refl _) (Nat.le_refl _) rfl
abbrev Y_X10_hold : zm_Y := (cX10_hold, 2, RX10, { frames := 1, cells := 0, slots := 0, locals := 100 }, (some .boolean), false, "hold")
noncomputable def f_X10_hold (a1 : Int32) (M : zm_Mem) : Option (Int32 × zm_Mem) :=
  if a1 < 0 then (some (0, M)) else (if a1 < (3 : Int32) then (zm_ck (decide ((0 : Int32) ≤ 0) && (decide (0 ≤ (a1 * 47)) && (decide (0 ≤ 47) && (decide ((0 : Int32).toNatClampNeg + (47 : Int32).toNatClampNeg ≤ 47) && decide ((a1 * 47).toNatClampNeg + (47 : Int32).toNatClampNeg ≤ 141))))) <| zm_v (zm_cp M 12 (0 : Int32).toNatClampNeg 15 (a1 * 47).toNatClampNeg (47 : Int32).toNatClampNeg) <| fun M29 => zm_v (zm_sI M29 1 14 ((M29.1 1 14) ||| ((1 : Int32) <<< (a1 &&& 31)))) <| fun M41 => some (1, M41)) else (some (0, M)))
set_option maxRecDepth 20000 in
set_option maxHeartbeats 4000000 in
theorem k_X10_hold (E : zm_E) (sv : Nat) (a1 : Int32) (M : zm_Mem) {r : Int32} {M' : zm_Mem} (h : f_X10_hold a1 M = some (r, M')) : zm_Ct E (zm_w sv) (zm_w sv) yX10_hold Y_X10_hold [.ref (E.2.1 + 1), .int a1] M (some (.int r)) M' := by
  refine zm_meth (emb := zm_ei) (d := f_X10_hold a1 M) (by decide) rfl rfl (Nat.le_of_ble_eq_true rfl) h (fun X => ?_)
  show zm_V X Y_X10_hold E (zm_Q X E Y_X10_hold.2.2.2.1.cells Y_X10_hold.2.2.2.1.slots (zm_w sv) zm_ei) 0 0 false (zm_w sv) 0 [(0, .ref (E.2.1 + 1)), (1, .int a1)] [] M (f_X10_hold a1 M) some
  unfold f_X10_hold
  refine zm_iload_n 1 rfl dX10_hold_0 rfl 1 rfl ?_
  refine zm_if_lt 9 4 (by decide) rfl dX10_hold_1 ?_ ?_
  · refine zm_iconst 10 rfl dX10_hold_9 zi_0 ?_
    exact zm_zret dX10_hold_10 rfl rfl (Nat.le_refl _) (Nat.le_refl _) rfl
  · refine zm_iload_n 5 rfl dX10_hold_4 rfl 1 rfl ?_
    refine zm_iconst 6 rfl dX10_hold_5 zi_3 ?_
    refine zm_icmp_lt 11 9 (by decide) rfl dX10_hold_6 ?_ ?_
    · refine zm_aload_n 12 rfl dX10_hold_11 rfl 0 rfl ?_
      refine zm_getR (a := 11) 15 rfl dX10_hold_12 fl_X10_32 rfl (zm_L (sv := sv) rfl) rfl (by decide) ?_
      refine zm_getR (a := 12) 18 rfl dX10_hold_15 fl_X10_142 rfl (zm_L (sv := sv) rfl) rfl (by decide) ?_
      refine zm_iconst 19 rfl dX10_hold_18 zi_0 ?_
      refine zm_aload_n 20 rfl dX10_hold_19 rfl 0 rfl ?_
      refine zm_getR (a := 15) 23 rfl dX10_hold_20 fl_X10_43 rfl (zm_L (sv := sv) rfl) rfl (by decide) ?_
      refine zm_iload_n 24 rfl dX10_hold_23 rfl 1 rfl ?_
      refine zm_bipush 26 rfl dX10_hold_24 zb_47 ?_
      refine zm_imul 27 rfl dX10_hold_26 ?_
      refine zm_bipush 29 rfl dX10_hold_27 zb_47 ?_
      refine zm_copy 32 rfl dX10_hold_29 ac_X10_307 ac_nat ac_st in_sys rfl rfl (zm_L (sv := sv) rfl) (zm_L (sv := sv) rfl) (Nat.le_of_ble_eq_true rfl) (Nat.le_of_ble_eq_true rfl) (fun M29 _ => ?_)
      refine zm_aload_n 33 rfl dX10_hold_32 rfl 0 rfl ?_
      refine zm_dup 34 rfl dX10_hold_33 rfl ?_
      refine zm_getI 37 rfl dX10_hold_34 fl_X10_313 rfl (zm_L (sv := sv) rfl) ?_
      refine zm_iconst 38 rfl dX10_hold_37 zi_1 ?_
      refine zm_iload_n 39 rfl dX10_hold_38 rfl 1 rfl ?_
      refine zm_ishl 40 rfl dX10_hold_39 ?_
      refine zm_ior 41 rfl dX10_hold_40 ?_
      refine zm_putI 44 rfl dX10_hold_41 fp_X10_313 rfl (zm_L (sv := sv) rfl) rfl rfl (fun M41 _ => ?_)
      refine zm_iconst 45 rfl dX10_hold_44 zi_1 ?_
      exact zm_zret dX10_hold_45 rfl rfl (Nat.le_refl _) (Nat.le_refl _) rfl
    · refine zm_iconst 10 rfl dX10_hold_9 zi_0 ?_
      exact zm_zret dX10_hold_10 rfl rfl (Nat.le_refl _) (Nat.le_refl _) rfl
abbrev Y_X10_restore : zm_Y := (cX10_restore, 2, RX10, { frames := 1, cells := 0, slots := 0, locals := 100 }, (some .boolean), false, "restore")
noncomputable def f_X10_restore (a1 : Int32) (M : zm_Mem) : Option (Int32 × zm_Mem) :=
  if a1 < 0 then (some (0, M)) else (if (3 : Int32) ≤ a1 then (some (0, M)) else (if (((M.1 1 14) >>> (a1 &&& 31)) &&& 1) = 0 then (some (0, M)) else (zm_ck (decide (0 ≤ (a1 * 47)) && (decide ((0 : Int32) ≤ 0) && (decide (0 ≤ 47) && (decide ((a1 * 47).toNatClampNeg + (47 : Int32).toNatClampNeg ≤ 141) && decide ((0 : Int32).toNatClampNeg + (47 : Int32).toNatClampNeg ≤ 47))))) <| zm_v (zm_cp M 15 (a1 * 47).toNatClampNeg 12 (0 : Int32).toNatClampNeg (47 : Int32).toNatClampNeg) <| fun M40 => zm_b2 (f_X1_empty M40) <| fun _ M47 => zm_v (zm_sI M47 1 13 0) <| fun M52 => some (1, M52))))
set_option maxRecDepth 20000 in
set_option maxHeartbeats 4000000 in
theorem k_X10_restore (E : zm_E) (sv : Nat) (a1 : Int32) (M : zm_Mem) {r : Int32} {M' : zm_Mem} (h : f_X10_restore a1 M = some (r, M')) : zm_Ct E (zm_w sv) (zm_w sv) yX10_restore Y_X10_restore [.ref (E.2.1 + 1), .int a1] M (some (.int r)) M' := by
  refine zm_meth (emb := zm_ei) (d := f_X10_restore a1 M) (by decide) rfl rfl (Nat.le_of_ble_eq_true rfl) h (fun X => ?_)
  show zm_V X Y_X10_restore E (zm_Q X E Y_X10_restore.2.2.2.1.cells Y_X10_restore.2.2.2.1.slots (zm_w sv) zm_ei) 0 0 false (zm_w sv) 0 [(0, .ref (E.2.1 + 1)), (1, .int a1)] [] M (f_X10_restore a1 M) some
  unfold f_X10_restore
  refine zm_iload_n 1 rfl dX10_restore_0 rfl 1 rfl ?_
  refine zm_if_lt 20 4 (by decide) rfl dX10_restore_1 ?_ ?_
  · refine zm_iconst 21 rfl dX10_restore_20 zi_0 ?_
    exact zm_zret dX10_restore_21 rfl rfl (Nat.le_refl _) (Nat.le_refl _) rfl
  · refine zm_iload_n 5 rfl dX10_restore_4 rfl 1 rfl ?_
    refine zm_iconst 6 rfl dX10_restore_5 zi_3 ?_
    refine zm_icmp_ge 20 9 (by decide) rfl dX10_restore_6 ?_ ?_
    · refine zm_iconst 21 rfl dX10_restore_20 zi_0 ?_
      exact zm_zret dX10_restore_21 rfl rfl (Nat.le_refl _) (Nat.le_refl _) rfl
    · refine zm_aload_n 10 rfl dX10_restore_9 rfl 0 rfl ?_
      refine zm_getI 13 rfl dX10_restore_10 fl_X10_313 rfl (zm_L (sv := sv) rfl) ?_
      refine zm_iload_n 14 rfl dX10_restore_13 rfl 1 rfl ?_
      refine zm_ishr 15 rfl dX10_restore_14 ?_
      refine zm_iconst 16 rfl dX10_restore_15 zi_1 ?_
      refine zm_iand 17 rfl dX10_restore_16 ?_
      refine zm_if_ne 22 20 (by decide) rfl dX10_restore_17 ?_ ?_
      · refine zm_iconst 21 rfl dX10_restore_20 zi_0 ?_
        exact zm_zret dX10_restore_21 rfl rfl (Nat.le_refl _) (Nat.le_refl _) rfl
      · refine zm_aload_n 23 rfl dX10_restore_22 rfl 0 rfl ?_
        refine zm_getR (a := 15) 26 rfl dX10_restore_23 fl_X10_43 rfl (zm_L (sv := sv) rfl) rfl (by decide) ?_
        refine zm_iload_n 27 rfl dX10_restore_26 rfl 1 rfl ?_
        refine zm_bipush 29 rfl dX10_restore_27 zb_47 ?_
        refine zm_imul 30 rfl dX10_restore_29 ?_
        refine zm_aload_n 31 rfl dX10_restore_30 rfl 0 rfl ?_
        refine zm_getR (a := 11) 34 rfl dX10_restore_31 fl_X10_32 rfl (zm_L (sv := sv) rfl) rfl (by decide) ?_
        refine zm_getR (a := 12) 37 rfl dX10_restore_34 fl_X10_142 rfl (zm_L (sv := sv) rfl) rfl (by decide) ?_
        refine zm_iconst 38 rfl dX10_restore_37 zi_0 ?_
        refine zm_bipush 40 rfl dX10_restore_38 zb_47 ?_
        refine zm_copy 43 rfl dX10_restore_40 ac_X10_307 ac_nat ac_st in_sys rfl rfl (zm_L (sv := sv) rfl) (zm_L (sv := sv) rfl) (Nat.le_of_ble_eq_true rfl) (Nat.le_of_ble_eq_true rfl) (fun M40 _ => ?_)
        refine zm_aload_n 44 rfl dX10_restore_43 rfl 0 rfl ?_
        refine zm_getR (a := 13) 47 rfl dX10_restore_44 fl_X10_39 rfl (zm_L (sv := sv) rfl) rfl (by decide) ?_
        refine zm_cV0v 50 rfl dX10_restore_47 ml_X10_316 rfl (zm_L (sv := sv) rfl) rfl (Nat.le_of_ble_eq_true rfl) ⟨Nat.le_of_ble_eq_true rfl, Nat.le_of_ble_eq_true rfl⟩ rfl rfl ⟨Nat.le_refl _, Nat.le_refl _⟩ rfl (fun _ _ h => k_X1_empty E sv M40 h) (fun _ M47 => ?_)
        refine zm_aload_n 51 rfl dX10_restore_50 rfl 0 rfl ?_
        refine zm_iconst 52 rfl dX10_restore_51 zi_0 ?_
        refine zm_putI 55 rfl dX10_restore_52 fp_X10_199 rfl (zm_L (sv := sv) rfl) rfl rfl (fun M52 _ => ?_)
        refine zm_iconst 56 rfl dX10_restore_55 zi_1 ?_
        exact zm_zret dX10_restore_56 rfl rfl (Nat.le_refl _) (Nat.le_refl _) rfl
abbrev Y_X10_worksUnderWay : zm_Y := (cX10_worksUnderWay, 3, RX10, { frames := 2, cells := 0, slots := 0, locals := 42 }, (some .int), false, "worksUnderWay")
noncomputable def f_X10_worksUnderWay_b32_4 (l4_2 : Int32) (b32_1 : Int32) : Option ((Int32 × Int32) ⊕ Int32) :=
 zm_v (l4_2 + 1) <| fun x32 => some (.inl (b32_1, x32))
noncomputable def f_X10_worksUnderWay_l4 (M : zm_Mem) (l4_1 : Int32) (l4_2 : Int32) : Option ((Int32 × Int32) ⊕ Int32) :=
 zm_v (M.2.2 1 9) <| fun t6 => zm_ck (zm_isT t6) <| if (M.1 t6 12) ≤ l4_2 then (some (.inr l4_1)) else (zm_b1 (f_X4_underWay l4_2 M) <| fun r20 => if r20 = 0 then (f_X10_worksUnderWay_b32_4 l4_2 l4_1) else (zm_v (l4_1 ||| ((1 : Int32) <<< (l4_2 &&& 31))) <| fun x31 => f_X10_worksUnderWay_b32_4 l4_2 x31))
noncomputable def f_X10_worksUnderWay  (M : zm_Mem) : Option Int32 :=
  (zm_lp (fun s => f_X10_worksUnderWay_l4 M s.1 s.2) (0, 0)).bind (fun e38 => some e38)
set_option maxRecDepth 20000 in
set_option maxHeartbeats 4000000 in
theorem k_X10_worksUnderWay (E : zm_E) (sv : Nat)  (M : zm_Mem) {r : Int32} (h : f_X10_worksUnderWay M = some r) : zm_Ct E (zm_w sv) (zm_w sv) yX10_worksUnderWay Y_X10_worksUnderWay [.ref (E.2.1 + 1)] M (some (.int r)) M := by
  refine zm_methr (emb := zm_ei) (d := f_X10_worksUnderWay M) (by decide) rfl rfl (Nat.le_of_ble_eq_true rfl) h (fun X => ?_)
  show zm_V X Y_X10_worksUnderWay E (zm_Q X E Y_X10_worksUnderWay.2.2.2.1.cells Y_X10_worksUnderWay.2.2.2.1.slots (zm_w sv) zm_ei) 0 0 false (zm_w sv) 0 [(0, .ref (E.2.1 + 1))] [] M (f_X10_worksUnderWay M) (fun r => some (r, M))
  unfold f_X10_worksUnderWay
  refine zm_iconst 1 rfl dX10_worksUnderWay_0 zi_0 ?_
  refine zm_istore_n (lv' := [(1, .int 0), (0, .ref (E.2.1 + 1))]) 2 rfl dX10_worksUnderWay_1 rfl (by decide) rfl ?_
  refine zm_iconst 3 rfl dX10_worksUnderWay_2 zi_0 ?_
  refine zm_istore_n (lv' := [(2, .int 0), (1, .int 0), (0, .ref (E.2.1 + 1))]) 4 rfl dX10_worksUnderWay_3 rfl (by decide) rfl ?_
  have hx38_4 : ∀ (e38_1 : Int32), zm_V X Y_X10_worksUnderWay E (zm_Q X E Y_X10_worksUnderWay.2.2.2.1.cells Y_X10_worksUnderWay.2.2.2.1.slots (zm_w sv) zm_ei) 0 0 false (zm_w sv) 38 [(1, .int e38_1)] [] M (some e38_1) (fun r => some (r, M)) := by
    intro e38_1
    refine zm_iload_n 39 rfl dX10_worksUnderWay_38 rfl 0 rfl ?_
    exact zm_iret dX10_worksUnderWay_39 rfl (Nat.le_refl _) (Nat.le_refl _) rfl
  refine zm_loc [2, 1, 0] rfl (zm_lpp (σ := (Int32 × Int32)) (ε := Int32) (step := fun s => f_X10_worksUnderWay_l4 M s.1 s.2) (fun s => [(0, .ref (E.2.1 + 1)), (1, .int s.1), (2, .int s.2)]) (fun _ => M) (fun D4 f4 hf4a hf4b hD4 s => ?_) (0, 0))
  obtain ⟨l4_1, l4_2⟩ := s
  show zm_V X Y_X10_worksUnderWay E (zm_Q X E Y_X10_worksUnderWay.2.2.2.1.cells Y_X10_worksUnderWay.2.2.2.1.slots (zm_w sv) zm_ei) 0 0 false (zm_w sv) 4 [(0, .ref (E.2.1 + 1)), (1, .int l4_1), (2, .int l4_2)] [] M (f_X10_worksUnderWay_l4 M l4_1 l4_2) f4
  unfold f_X10_worksUnderWay_l4
  refine zm_iload_n 5 rfl dX10_worksUnderWay_4 rfl 2 rfl ?_
  refine zm_aload_n 6 rfl dX10_worksUnderWay_5 rfl 0 rfl ?_
  refine zm_getT 9 rfl dX10_worksUnderWay_6 fl_X10_60 rfl (zm_L (sv := sv) rfl) (fun t6 _ ht6 => ?_)
  refine zm_getI 12 rfl dX10_worksUnderWay_9 fl_X10_236 (zm_T_o ht6) (zm_T_l0 (sv := sv) ht6) ?_
  refine zm_icmp_ge 38 15 (by decide) rfl dX10_worksUnderWay_12 ?_ ?_
  · exact zm_loc [1] rfl (zm_go (hf4b _) (zm_unb (hx38_4 l4_1)))
  · refine zm_aload_n 16 rfl dX10_worksUnderWay_15 rfl 0 rfl ?_
    refine zm_getR (a := 11) 19 rfl dX10_worksUnderWay_16 fl_X10_32 rfl (zm_L (sv := sv) rfl) rfl (by decide) ?_
    refine zm_iload_n 20 rfl dX10_worksUnderWay_19 rfl 2 rfl ?_
    refine zm_cV1ir 23 rfl dX10_worksUnderWay_20 ml_X10_124 rfl (zm_L (sv := sv) rfl) rfl (Nat.le_of_ble_eq_true rfl) ⟨Nat.le_of_ble_eq_true rfl, Nat.le_of_ble_eq_true rfl⟩ rfl rfl ⟨Nat.le_refl _, Nat.le_refl _⟩ rfl (fun _ h => k_X4_underWay E sv l4_2 M h) (fun r20 => ?_)
    have hb32_4 : ∀ (b32_1 : Int32), zm_V X Y_X10_worksUnderWay E (zm_Q X E Y_X10_worksUnderWay.2.2.2.1.cells Y_X10_worksUnderWay.2.2.2.1.slots (zm_w sv) zm_ei) 0 0 false (zm_w sv) 32 [(0, .ref (E.2.1 + 1)), (1, .int b32_1), (2, .int l4_2)] [] M (f_X10_worksUnderWay_b32_4 l4_2 b32_1) f4 := by
      intro b32_1
      unfold f_X10_worksUnderWay_b32_4
      refine zm_iinc (lv' := fun z => [(2, .int z), (0, .ref (E.2.1 + 1)), (1, .int b32_1)]) 35 rfl dX10_worksUnderWay_32 zi_1 2 rfl (by decide) (fun _ => rfl) (fun x32 _ => ?_)
      refine zm_goto 4 (by decide) dX10_worksUnderWay_35 ?_
      exact zm_loc [1, 2, 0] rfl (zm_go (hf4a _) (hD4 (b32_1, x32)))
    refine zm_if_eq 32 26 (by decide) rfl dX10_worksUnderWay_23 ?_ ?_
    · exact zm_loc [0, 1, 2] rfl (hb32_4 l4_1)
    · refine zm_iload_n 27 rfl dX10_worksUnderWay_26 rfl 1 rfl ?_
      refine zm_iconst 28 rfl dX10_worksUnderWay_27 zi_1 ?_
      refine zm_iload_n 29 rfl dX10_worksUnderWay_28 rfl 2 rfl ?_
      refine zm_ishl 30 rfl dX10_worksUnderWay_29 ?_
      refine zm_ior 31 rfl dX10_worksUnderWay_30 ?_
      refine zm_nmi (fun x31 _ => ?_)
      refine zm_istore_n (lv' := [(1, .int x31), (0, .ref (E.2.1 + 1)), (2, .int l4_2)]) 32 rfl dX10_worksUnderWay_31 rfl (by decide) rfl ?_
      exact zm_loc [1, 0, 2] rfl (hb32_4 x31)
abbrev Y_X10_worksAtOwners : zm_Y := (cX10_worksAtOwners, 3, RX10, { frames := 3, cells := 0, slots := 0, locals := 64 }, (some .int), false, "worksAtOwners")
noncomputable def f_X10_worksAtOwners_b41_4 (l4_2 : Int32) (b41_1 : Int32) : Option ((Int32 × Int32) ⊕ Int32) :=
 zm_v (l4_2 + 1) <| fun x41 => some (.inl (b41_1, x41))
noncomputable def f_X10_worksAtOwners_l4 (M : zm_Mem) (l4_1 : Int32) (l4_2 : Int32) : Option ((Int32 × Int32) ⊕ Int32) :=
 zm_v (M.2.2 1 9) <| fun t6 => zm_ck (zm_isT t6) <| if (M.1 t6 12) ≤ l4_2 then (some (.inr l4_1)) else (zm_v (M.2.2 1 9) <| fun t21 => zm_ck (zm_isT t21) <| zm_ck (zm_in l4_2 6) <| zm_b1 (f_X4_isIn l4_2 (M.1 (t21 + 3) l4_2.toNatClampNeg) M) <| fun r29 => if r29 = 0 then (f_X10_worksAtOwners_b41_4 l4_2 l4_1) else (zm_v (l4_1 ||| ((1 : Int32) <<< (l4_2 &&& 31))) <| fun x40 => f_X10_worksAtOwners_b41_4 l4_2 x40))
noncomputable def f_X10_worksAtOwners  (M : zm_Mem) : Option Int32 :=
  (zm_lp (fun s => f_X10_worksAtOwners_l4 M s.1 s.2) (0, 0)).bind (fun e47 => some e47)
set_option maxRecDepth 20000 in
set_option maxHeartbeats 4000000 in
theorem k_X10_worksAtOwners (E : zm_E) (sv : Nat)  (M : zm_Mem) {r : Int32} (h : f_X10_worksAtOwners M = some r) : zm_Ct E (zm_w sv) (zm_w sv) yX10_worksAtOwners Y_X10_worksAtOwners [.ref (E.2.1 + 1)] M (some (.int r)) M := by
  refine zm_methr (emb := zm_ei) (d := f_X10_worksAtOwners M) (by decide) rfl rfl (Nat.le_of_ble_eq_true rfl) h (fun X => ?_)
  show zm_V X Y_X10_worksAtOwners E (zm_Q X E Y_X10_worksAtOwners.2.2.2.1.cells Y_X10_worksAtOwners.2.2.2.1.slots (zm_w sv) zm_ei) 0 0 false (zm_w sv) 0 [(0, .ref (E.2.1 + 1))] [] M (f_X10_worksAtOwners M) (fun r => some (r, M))
  unfold f_X10_worksAtOwners
  refine zm_iconst 1 rfl dX10_worksAtOwners_0 zi_0 ?_
  refine zm_istore_n (lv' := [(1, .int 0), (0, .ref (E.2.1 + 1))]) 2 rfl dX10_worksAtOwners_1 rfl (by decide) rfl ?_
  refine zm_iconst 3 rfl dX10_worksAtOwners_2 zi_0 ?_
  refine zm_istore_n (lv' := [(2, .int 0), (1, .int 0), (0, .ref (E.2.1 + 1))]) 4 rfl dX10_worksAtOwners_3 rfl (by decide) rfl ?_
  have hx47_4 : ∀ (e47_1 : Int32), zm_V X Y_X10_worksAtOwners E (zm_Q X E Y_X10_worksAtOwners.2.2.2.1.cells Y_X10_worksAtOwners.2.2.2.1.slots (zm_w sv) zm_ei) 0 0 false (zm_w sv) 47 [(1, .int e47_1)] [] M (some e47_1) (fun r => some (r, M)) := by
    intro e47_1
    refine zm_iload_n 48 rfl dX10_worksAtOwners_47 rfl 0 rfl ?_
    exact zm_iret dX10_worksAtOwners_48 rfl (Nat.le_refl _) (Nat.le_refl _) rfl
  refine zm_loc [2, 1, 0] rfl (zm_lpp (σ := (Int32 × Int32)) (ε := Int32) (step := fun s => f_X10_worksAtOwners_l4 M s.1 s.2) (fun s => [(0, .ref (E.2.1 + 1)), (1, .int s.1), (2, .int s.2)]) (fun _ => M) (fun D4 f4 hf4a hf4b hD4 s => ?_) (0, 0))
  obtain ⟨l4_1, l4_2⟩ := s
  show zm_V X Y_X10_worksAtOwners E (zm_Q X E Y_X10_worksAtOwners.2.2.2.1.cells Y_X10_worksAtOwners.2.2.2.1.slots (zm_w sv) zm_ei) 0 0 false (zm_w sv) 4 [(0, .ref (E.2.1 + 1)), (1, .int l4_1), (2, .int l4_2)] [] M (f_X10_worksAtOwners_l4 M l4_1 l4_2) f4
  unfold f_X10_worksAtOwners_l4
  refine zm_iload_n 5 rfl dX10_worksAtOwners_4 rfl 2 rfl ?_
  refine zm_aload_n 6 rfl dX10_worksAtOwners_5 rfl 0 rfl ?_
  refine zm_getT 9 rfl dX10_worksAtOwners_6 fl_X10_60 rfl (zm_L (sv := sv) rfl) (fun t6 _ ht6 => ?_)
  refine zm_getI 12 rfl dX10_worksAtOwners_9 fl_X10_236 (zm_T_o ht6) (zm_T_l0 (sv := sv) ht6) ?_
  refine zm_icmp_ge 47 15 (by decide) rfl dX10_worksAtOwners_12 ?_ ?_
  · exact zm_loc [1] rfl (zm_go (hf4b _) (zm_unb (hx47_4 l4_1)))
  · refine zm_aload_n 16 rfl dX10_worksAtOwners_15 rfl 0 rfl ?_
    refine zm_getR (a := 11) 19 rfl dX10_worksAtOwners_16 fl_X10_32 rfl (zm_L (sv := sv) rfl) rfl (by decide) ?_
    refine zm_iload_n 20 rfl dX10_worksAtOwners_19 rfl 2 rfl ?_
    refine zm_aload_n 21 rfl dX10_worksAtOwners_20 rfl 0 rfl ?_
    refine zm_getT 24 rfl dX10_worksAtOwners_21 fl_X10_60 rfl (zm_L (sv := sv) rfl) (fun t21 _ ht21 => ?_)
    refine zm_getR (a := t21 + 3) 27 rfl dX10_worksAtOwners_24 fl_X10_127 (zm_T_o ht21) (zm_T_l0 (sv := sv) ht21) (zm_T_r ht21 2 (by decide)) (Nat.succ_ne_zero _) ?_
    refine zm_iload_n 28 rfl dX10_worksAtOwners_27 rfl 2 rfl ?_
    refine zm_iald 29 rfl dX10_worksAtOwners_28 (zm_T_a ht21 3 (by decide)) (zm_T_l (sv := sv) ht21 3 (by decide)) ?_
    refine zm_cV2ir 32 rfl dX10_worksAtOwners_29 ml_X10_352 rfl (zm_L (sv := sv) rfl) rfl (Nat.le_of_ble_eq_true rfl) ⟨Nat.le_of_ble_eq_true rfl, Nat.le_of_ble_eq_true rfl⟩ rfl rfl ⟨Nat.le_refl _, Nat.le_refl _⟩ rfl (fun _ h => k_X4_isIn E sv l4_2 (M.1 (t21 + 3) l4_2.toNatClampNeg) M h) (fun r29 => ?_)
    have hb41_4 : ∀ (b41_1 : Int32), zm_V X Y_X10_worksAtOwners E (zm_Q X E Y_X10_worksAtOwners.2.2.2.1.cells Y_X10_worksAtOwners.2.2.2.1.slots (zm_w sv) zm_ei) 0 0 false (zm_w sv) 41 [(0, .ref (E.2.1 + 1)), (1, .int b41_1), (2, .int l4_2)] [] M (f_X10_worksAtOwners_b41_4 l4_2 b41_1) f4 := by
      intro b41_1
      unfold f_X10_worksAtOwners_b41_4
      refine zm_iinc (lv' := fun z => [(2, .int z), (0, .ref (E.2.1 + 1)), (1, .int b41_1)]) 44 rfl dX10_worksAtOwners_41 zi_1 2 rfl (by decide) (fun _ => rfl) (fun x41 _ => ?_)
      refine zm_goto 4 (by decide) dX10_worksAtOwners_44 ?_
      exact zm_loc [1, 2, 0] rfl (zm_go (hf4a _) (hD4 (b41_1, x41)))
    refine zm_if_eq 41 35 (by decide) rfl dX10_worksAtOwners_32 ?_ ?_
    · exact zm_loc [0, 1, 2] rfl (hb41_4 l4_1)
    · refine zm_iload_n 36 rfl dX10_worksAtOwners_35 rfl 1 rfl ?_
      refine zm_iconst 37 rfl dX10_worksAtOwners_36 zi_1 ?_
      refine zm_iload_n 38 rfl dX10_worksAtOwners_37 rfl 2 rfl ?_
      refine zm_ishl 39 rfl dX10_worksAtOwners_38 ?_
      refine zm_ior 40 rfl dX10_worksAtOwners_39 ?_
      refine zm_nmi (fun x40 _ => ?_)
      refine zm_istore_n (lv' := [(1, .int x40), (0, .ref (E.2.1 + 1)), (2, .int l4_2)]) 41 rfl dX10_worksAtOwners_40 rfl (by decide) rfl ?_
      exact zm_loc [1, 0, 2] rfl (hb41_4 x40)
abbrev Y_X10_count : zm_Y := (cX10_count, 2, RX10, { frames := 4, cells := 0, slots := 0, locals := 86 }, (some .int), false, "count")
noncomputable def f_X10_count (a1 : Int32) (M : zm_Mem) : Option Int32 :=
  if a1 = 0 then (zm_v (M.2.2 1 9) <| fun t69 => zm_ck (zm_isT t69) <| some (M.1 t69 11)) else if a1 = 1 then (zm_v (M.2.2 1 9) <| fun t77 => zm_ck (zm_isT t77) <| some (M.1 t77 12)) else if a1 = 2 then (zm_v (M.2.2 1 9) <| fun t85 => zm_ck (zm_isT t85) <| some (M.1 t85 13)) else if a1 = 3 then (zm_b1 (f_X4_today M) <| fun r96 => some r96) else if a1 = 4 then (zm_b1 (f_X4_tripsSoFar M) <| fun r104 => some r104) else if a1 = 5 then (zm_b1 (f_X10_worksUnderWay M) <| fun r109 => some r109) else if a1 = 6 then (zm_b1 (f_X10_worksAtOwners M) <| fun r114 => some r114) else if a1 = 7 then (zm_b1 (f_X10_standing M) <| fun r119 => some r119) else if a1 = 8 then (some (M.1 1 15)) else if a1 = 9 then (zm_b1 (f_X1_size M) <| fun r132 => some r132) else if a1 = 10 then (zm_b1 (f_X0_size M) <| fun r140 => some r140) else if a1 = 11 then (zm_b1 (f_J6_bitCount_0f7a4 (M.1 1 14) M) <| fun r148 => some r148) else if a1 = 12 then (zm_ck (zm_in 2 47) <| some (M.1 12 (2 : Int32).toNatClampNeg)) else (some (-1))
set_option maxRecDepth 20000 in
set_option maxHeartbeats 4000000 in
theorem k_X10_count (E : zm_E) (sv : Nat) (a1 : Int32) (M : zm_Mem) {r : Int32} (h : f_X10_count a1 M = some r) : zm_Ct E (zm_w sv) (zm_w sv) yX10_count Y_X10_count [.ref (E.2.1 + 1), .int a1] M (some (.int r)) M := by
  refine zm_methr (emb := zm_ei) (d := f_X10_count a1 M) (by decide) rfl rfl (Nat.le_of_ble_eq_true rfl) h (fun X => ?_)
  show zm_V X Y_X10_count E (zm_Q X E Y_X10_count.2.2.2.1.cells Y_X10_count.2.2.2.1.slots (zm_w sv) zm_ei) 0 0 false (zm_w sv) 0 [(0, .ref (E.2.1 + 1)), (1, .int a1)] [] M (f_X10_count a1 M) (fun r => some (r, M))
  unfold f_X10_count
  refine zm_iload_n 1 rfl dX10_count_0 rfl 1 rfl ?_
  refine zm_case (fun hc => ?_) (fun hc0_1 => ?_)
  · refine zm_tsIn (off := 67) 68 hc dX10_count_1 (by decide) (by decide) (by decide) (by decide) ?_
    refine zm_aload_n 69 rfl dX10_count_68 rfl 0 rfl ?_
    refine zm_getT 72 rfl dX10_count_69 fl_X10_60 rfl (zm_L (sv := sv) rfl) (fun t69 _ ht69 => ?_)
    refine zm_getI 75 rfl dX10_count_72 fl_X10_272 (zm_T_o ht69) (zm_T_l0 (sv := sv) ht69) ?_
    exact zm_iret dX10_count_75 rfl (Nat.le_refl _) (Nat.le_refl _) rfl
  refine zm_case (fun hc => ?_) (fun hc1_1 => ?_)
  · refine zm_tsIn (off := 75) 76 hc dX10_count_1 (by decide) (by decide) (by decide) (by decide) ?_
    refine zm_aload_n 77 rfl dX10_count_76 rfl 0 rfl ?_
    refine zm_getT 80 rfl dX10_count_77 fl_X10_60 rfl (zm_L (sv := sv) rfl) (fun t77 _ ht77 => ?_)
    refine zm_getI 83 rfl dX10_count_80 fl_X10_236 (zm_T_o ht77) (zm_T_l0 (sv := sv) ht77) ?_
    exact zm_iret dX10_count_83 rfl (Nat.le_refl _) (Nat.le_refl _) rfl
  refine zm_case (fun hc => ?_) (fun hc2_1 => ?_)
  · refine zm_tsIn (off := 83) 84 hc dX10_count_1 (by decide) (by decide) (by decide) (by decide) ?_
    refine zm_aload_n 85 rfl dX10_count_84 rfl 0 rfl ?_
    refine zm_getT 88 rfl dX10_count_85 fl_X10_60 rfl (zm_L (sv := sv) rfl) (fun t85 _ ht85 => ?_)
    refine zm_getI 91 rfl dX10_count_88 fl_X10_317 (zm_T_o ht85) (zm_T_l0 (sv := sv) ht85) ?_
    exact zm_iret dX10_count_91 rfl (Nat.le_refl _) (Nat.le_refl _) rfl
  refine zm_case (fun hc => ?_) (fun hc3_1 => ?_)
  · refine zm_tsIn (off := 91) 92 hc dX10_count_1 (by decide) (by decide) (by decide) (by decide) ?_
    refine zm_aload_n 93 rfl dX10_count_92 rfl 0 rfl ?_
    refine zm_getR (a := 11) 96 rfl dX10_count_93 fl_X10_32 rfl (zm_L (sv := sv) rfl) rfl (by decide) ?_
    refine zm_cV0ir 99 rfl dX10_count_96 ml_X10_189 rfl (zm_L (sv := sv) rfl) rfl (Nat.le_of_ble_eq_true rfl) ⟨Nat.le_of_ble_eq_true rfl, Nat.le_of_ble_eq_true rfl⟩ rfl rfl ⟨Nat.le_refl _, Nat.le_refl _⟩ rfl (fun _ h => k_X4_today E sv M h) (fun r96 => ?_)
    exact zm_iret dX10_count_99 rfl (Nat.le_refl _) (Nat.le_refl _) rfl
  refine zm_case (fun hc => ?_) (fun hc4_1 => ?_)
  · refine zm_tsIn (off := 99) 100 hc dX10_count_1 (by decide) (by decide) (by decide) (by decide) ?_
    refine zm_aload_n 101 rfl dX10_count_100 rfl 0 rfl ?_
    refine zm_getR (a := 11) 104 rfl dX10_count_101 fl_X10_32 rfl (zm_L (sv := sv) rfl) rfl (by decide) ?_
    refine zm_cV0ir 107 rfl dX10_count_104 ml_X10_320 rfl (zm_L (sv := sv) rfl) rfl (Nat.le_of_ble_eq_true rfl) ⟨Nat.le_of_ble_eq_true rfl, Nat.le_of_ble_eq_true rfl⟩ rfl rfl ⟨Nat.le_refl _, Nat.le_refl _⟩ rfl (fun _ h => k_X4_tripsSoFar E sv M h) (fun r104 => ?_)
    exact zm_iret dX10_count_107 rfl (Nat.le_refl _) (Nat.le_refl _) rfl
  refine zm_case (fun hc => ?_) (fun hc5_1 => ?_)
  · refine zm_tsIn (off := 107) 108 hc dX10_count_1 (by decide) (by decide) (by decide) (by decide) ?_
    refine zm_aload_n 109 rfl dX10_count_108 rfl 0 rfl ?_
    refine zm_cV0ir 112 rfl dX10_count_109 ml_X10_323 rfl (zm_L (sv := sv) rfl) rfl (Nat.le_of_ble_eq_true rfl) ⟨Nat.le_of_ble_eq_true rfl, Nat.le_of_ble_eq_true rfl⟩ rfl rfl ⟨Nat.le_refl _, Nat.le_refl _⟩ rfl (fun _ h => k_X10_worksUnderWay E sv M h) (fun r109 => ?_)
    exact zm_iret dX10_count_112 rfl (Nat.le_refl _) (Nat.le_refl _) rfl
  refine zm_case (fun hc => ?_) (fun hc6_1 => ?_)
  · refine zm_tsIn (off := 112) 113 hc dX10_count_1 (by decide) (by decide) (by decide) (by decide) ?_
    refine zm_aload_n 114 rfl dX10_count_113 rfl 0 rfl ?_
    refine zm_cV0ir 117 rfl dX10_count_114 ml_X10_326 rfl (zm_L (sv := sv) rfl) rfl (Nat.le_of_ble_eq_true rfl) ⟨Nat.le_of_ble_eq_true rfl, Nat.le_of_ble_eq_true rfl⟩ rfl rfl ⟨Nat.le_refl _, Nat.le_refl _⟩ rfl (fun _ h => k_X10_worksAtOwners E sv M h) (fun r114 => ?_)
    exact zm_iret dX10_count_117 rfl (Nat.le_refl _) (Nat.le_refl _) rfl
  refine zm_case (fun hc => ?_) (fun hc7_1 => ?_)
  · refine zm_tsIn (off := 117) 118 hc dX10_count_1 (by decide) (by decide) (by decide) (by decide) ?_
    refine zm_aload_n 119 rfl dX10_count_118 rfl 0 rfl ?_
    refine zm_cV0ir 122 rfl dX10_count_119 ml_X10_148 rfl (zm_L (sv := sv) rfl) rfl (Nat.le_of_ble_eq_true rfl) ⟨Nat.le_of_ble_eq_true rfl, Nat.le_of_ble_eq_true rfl⟩ rfl rfl ⟨Nat.le_refl _, Nat.le_refl _⟩ rfl (fun _ h => k_X10_standing E sv M h) (fun r119 => ?_)
    exact zm_iret dX10_count_122 rfl (Nat.le_refl _) (Nat.le_refl _) rfl
  refine zm_case (fun hc => ?_) (fun hc8_1 => ?_)
  · refine zm_tsIn (off := 122) 123 hc dX10_count_1 (by decide) (by decide) (by decide) (by decide) ?_
    refine zm_aload_n 124 rfl dX10_count_123 rfl 0 rfl ?_
    refine zm_getI 127 rfl dX10_count_124 fl_X10_80 rfl (zm_L (sv := sv) rfl) ?_
    exact zm_iret dX10_count_127 rfl (Nat.le_refl _) (Nat.le_refl _) rfl
  refine zm_case (fun hc => ?_) (fun hc9_1 => ?_)
  · refine zm_tsIn (off := 127) 128 hc dX10_count_1 (by decide) (by decide) (by decide) (by decide) ?_
    refine zm_aload_n 129 rfl dX10_count_128 rfl 0 rfl ?_
    refine zm_getR (a := 13) 132 rfl dX10_count_129 fl_X10_39 rfl (zm_L (sv := sv) rfl) rfl (by decide) ?_
    refine zm_cV0ir 135 rfl dX10_count_132 ml_X10_192 rfl (zm_L (sv := sv) rfl) rfl (Nat.le_of_ble_eq_true rfl) ⟨Nat.le_of_ble_eq_true rfl, Nat.le_of_ble_eq_true rfl⟩ rfl rfl ⟨Nat.le_refl _, Nat.le_refl _⟩ rfl (fun _ h => k_X1_size E sv M h) (fun r132 => ?_)
    exact zm_iret dX10_count_135 rfl (Nat.le_refl _) (Nat.le_refl _) rfl
  refine zm_case (fun hc => ?_) (fun hc10_1 => ?_)
  · refine zm_tsIn (off := 135) 136 hc dX10_count_1 (by decide) (by decide) (by decide) (by decide) ?_
    refine zm_aload_n 137 rfl dX10_count_136 rfl 0 rfl ?_
    refine zm_getR (a := 16) 140 rfl dX10_count_137 fl_X10_50 rfl (zm_L (sv := sv) rfl) rfl (by decide) ?_
    refine zm_cV0ir 143 rfl dX10_count_140 ml_X10_284 rfl (zm_L (sv := sv) rfl) rfl (Nat.le_of_ble_eq_true rfl) ⟨Nat.le_of_ble_eq_true rfl, Nat.le_of_ble_eq_true rfl⟩ rfl rfl ⟨Nat.le_refl _, Nat.le_refl _⟩ rfl (fun _ h => k_X0_size E sv M h) (fun r140 => ?_)
    exact zm_iret dX10_count_143 rfl (Nat.le_refl _) (Nat.le_refl _) rfl
  refine zm_case (fun hc => ?_) (fun hc11_1 => ?_)
  · refine zm_tsIn (off := 143) 144 hc dX10_count_1 (by decide) (by decide) (by decide) (by decide) ?_
    refine zm_aload_n 145 rfl dX10_count_144 rfl 0 rfl ?_
    refine zm_getI 148 rfl dX10_count_145 fl_X10_313 rfl (zm_L (sv := sv) rfl) ?_
    refine zm_cS1ir 151 rfl dX10_count_148 ml_X10_231 (Nat.le_of_ble_eq_true rfl) ⟨Nat.le_of_ble_eq_true rfl, Nat.le_of_ble_eq_true rfl⟩ rfl rfl ⟨Nat.le_refl _, Nat.le_refl _⟩ rfl (fun _ h => k_J6_bitCount_0f7a4 E (zm_w sv) (M.1 1 14) M h) (fun r148 => ?_)
    exact zm_iret dX10_count_151 rfl (Nat.le_refl _) (Nat.le_refl _) rfl
  refine zm_case (fun hc => ?_) (fun hc12_1 => ?_)
  · refine zm_tsIn (off := 151) 152 hc dX10_count_1 (by decide) (by decide) (by decide) (by decide) ?_
    refine zm_aload_n 153 rfl dX10_count_152 rfl 0 rfl ?_
    refine zm_getR (a := 11) 156 rfl dX10_count_153 fl_X10_32 rfl (zm_L (sv := sv) rfl) rfl (by decide) ?_
    refine zm_getR (a := 12) 159 rfl dX10_count_156 fl_X10_142 rfl (zm_L (sv := sv) rfl) rfl (by decide) ?_
    refine zm_iconst 160 rfl dX10_count_159 zi_2 ?_
    refine zm_iald 161 rfl dX10_count_160 rfl (zm_L (sv := sv) rfl) ?_
    exact zm_iret dX10_count_161 rfl (Nat.le_refl _) (Nat.le_refl _) rfl
  refine zm_tsOut 162 dX10_count_1 (by have hn0 := zm_ne hc0_1 (w := 0) (by decide); have hn1 := zm_ne hc1_1 (w := 1) (by decide); have hn2 := zm_ne hc2_1 (w := 2) (by decide); have hn3 := zm_ne hc3_1 (w := 3) (by decide); have hn4 := zm_ne hc4_1 (w := 4) (by decide); have hn5 := zm_ne hc5_1 (w := 5) (by decide); have hn6 := zm_ne hc6_1 (w := 6) (by decide); have hn7 := zm_ne hc7_1 (w := 7) (by decide); have hn8 := zm_ne hc8_1 (w := 8) (by decide); have hn9 := zm_ne hc9_1 (w := 9) (by decide); have hn10 := zm_ne hc10_1 (w := 10) (by decide); have hn11 := zm_ne hc11_1 (w := 11) (by decide); have hn12 := zm_ne hc12_1 (w := 12) (by decide); omega) (by decide) ?_
  refine zm_iconst 163 rfl dX10_count_162 zi_m1 ?_
  exact zm_iret dX10_count_163 rfl (Nat.le_refl _) (Nat.le_refl _) rfl
