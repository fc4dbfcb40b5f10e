abbrev Y_X10_putBytes : zm_Y := (cX10_putBytes, 3, RX10, { frames := 0, cells := 0, slots := 0, locals := 0 }, none, false, "putBytes")
noncomputable def f_X10_putBytes_b40_3 (l3_2 : Int32) (M40 : zm_Mem) : Option ((Int32 × zm_Mem) ⊕ zm_Mem) :=
 zm_v (l3_2 + (-8)) <| fun x40 => some (.inl (x40, M40))
noncomputable def f_X10_putBytes_l3 (a1 : Int32) (l3_2 : Int32) (L3 : zm_Mem) : Option ((Int32 × zm_Mem) ⊕ zm_Mem) :=
 if l3_2 < 0 then (some (.inr L3)) else (if (2000 : Int32) ≤ (L3.1 1 15) then (f_X10_putBytes_b40_3 l3_2 L3) else (zm_ck (zm_in (L3.1 1 15) 2000) <| zm_v (zm_sI L3 2 (L3.1 1 15).toNatClampNeg (vp_nar .byte ((a1 >>> (l3_2 &&& 31)).toInt8.toInt32))) <| fun M29 => zm_v (zm_sI M29 1 15 ((M29.1 1 15) + 1)) <| fun M37 => f_X10_putBytes_b40_3 l3_2 M37))
noncomputable def f_X10_putBytes (a1 : Int32) (M : zm_Mem) : Option (Unit × zm_Mem) :=
  (zm_lp (fun s => f_X10_putBytes_l3 a1 s.1 s.2) (24, M)).bind (fun e46 => some ((), e46))
set_option maxRecDepth 20000 in
set_option maxHeartbeats 4000000 in
theorem k_X10_putBytes (E : zm_E) (sv : Nat) (a1 : Int32) (M : zm_Mem) {r : Unit} {M' : zm_Mem} (h : f_X10_putBytes a1 M = some (r, M')) : zm_Ct E (zm_w sv) (zm_w sv) yX10_putBytes Y_X10_putBytes [.ref (E.2.1 + 1), .int a1] M none M' := by
  refine zm_meth (emb := zm_ev) (d := f_X10_putBytes a1 M) (by decide) rfl rfl (Nat.le_of_ble_eq_true rfl) h (fun X => ?_)
  show zm_V X Y_X10_putBytes E (zm_Q X E Y_X10_putBytes.2.2.2.1.cells Y_X10_putBytes.2.2.2.1.slots (zm_w sv) zm_ev) 0 0 false (zm_w sv) 0 [(0, .ref (E.2.1 + 1)), (1, .int a1)] [] M (f_X10_putBytes a1 M) some
  unfold f_X10_putBytes
  refine zm_bipush 2 rfl dX10_putBytes_0 zb_24 ?_
  refine zm_istore_n (lv' := [(2, .int 24), (0, .ref (E.2.1 + 1)), (1, .int a1)]) 3 rfl dX10_putBytes_2 rfl (by decide) rfl ?_
  have hx46_3 : ∀ (N46 : zm_Mem), zm_V X Y_X10_putBytes E (zm_Q X E Y_X10_putBytes.2.2.2.1.cells Y_X10_putBytes.2.2.2.1.slots (zm_w sv) zm_ev) 0 0 false (zm_w sv) 46 [] [] N46 (some ((), N46)) some := by
    intro N46
    exact zm_vret dX10_putBytes_46 rfl (Nat.le_refl _) (Nat.le_refl _) rfl
  refine zm_loc [1, 2, 0] rfl (zm_lpp (σ := (Int32 × zm_Mem)) (ε := zm_Mem) (step := fun s => f_X10_putBytes_l3 a1 s.1 s.2) (fun s => [(0, .ref (E.2.1 + 1)), (1, .int a1), (2, .int s.1)]) (fun s => s.2) (fun D3 f3 hf3a hf3b hD3 s => ?_) (24, M))
  obtain ⟨l3_2, L3⟩ := s
  show zm_V X Y_X10_putBytes E (zm_Q X E Y_X10_putBytes.2.2.2.1.cells Y_X10_putBytes.2.2.2.1.slots (zm_w sv) zm_ev) 0 0 false (zm_w sv) 3 [(0, .ref (E.2.1 + 1)), (1, .int a1), (2, .int l3_2)] [] L3 (f_X10_putBytes_l3 a1 l3_2 L3) f3
  unfold f_X10_putBytes_l3
  refine zm_iload_n 4 rfl dX10_putBytes_3 rfl 2 rfl ?_
  refine zm_if_lt 46 7 (by decide) rfl dX10_putBytes_4 ?_ ?_
  · exact zm_loc [] rfl (zm_go (hf3b _) (zm_unb (hx46_3 L3)))
  · refine zm_aload_n 8 rfl dX10_putBytes_7 rfl 0 rfl ?_
    refine zm_getI 11 rfl dX10_putBytes_8 fl_X10_80 rfl (zm_L (sv := sv) rfl) ?_
    refine zm_sipush 14 rfl dX10_putBytes_11 zs_2000 ?_
    have hb40_3 : ∀ (M40 : zm_Mem), zm_V X Y_X10_putBytes E (zm_Q X E Y_X10_putBytes.2.2.2.1.cells Y_X10_putBytes.2.2.2.1.slots (zm_w sv) zm_ev) 0 0 false (zm_w sv) 40 [(0, .ref (E.2.1 + 1)), (1, .int a1), (2, .int l3_2)] [] M40 (f_X10_putBytes_b40_3 l3_2 M40) f3 := by
      intro M40
      unfold f_X10_putBytes_b40_3
      refine zm_iinc (lv' := fun z => [(2, .int z), (0, .ref (E.2.1 + 1)), (1, .int a1)]) 43 rfl dX10_putBytes_40 zi_m8 2 rfl (by decide) (fun _ => rfl) (fun x40 _ => ?_)
      refine zm_goto 3 (by decide) dX10_putBytes_43 ?_
      exact zm_loc [1, 2, 0] rfl (zm_go (hf3a _) (hD3 (x40, M40)))
    refine zm_icmp_ge 40 17 (by decide) rfl dX10_putBytes_14 ?_ ?_
    · exact zm_loc [0, 1, 2] rfl (hb40_3 L3)
    · refine zm_aload_n 18 rfl dX10_putBytes_17 rfl 0 rfl ?_
      refine zm_getR (a := 2) 21 rfl dX10_putBytes_18 fl_X10_9 rfl (zm_L (sv := sv) rfl) rfl (by decide) ?_
      refine zm_aload_n 22 rfl dX10_putBytes_21 rfl 0 rfl ?_
      refine zm_getI 25 rfl dX10_putBytes_22 fl_X10_80 rfl (zm_L (sv := sv) rfl) ?_
      refine zm_iload_n 26 rfl dX10_putBytes_25 rfl 1 rfl ?_
      refine zm_iload_n 27 rfl dX10_putBytes_26 rfl 2 rfl ?_
      refine zm_ishr 28 rfl dX10_putBytes_27 ?_
      refine zm_i2b 29 rfl dX10_putBytes_28 ?_
      refine zm_bast 30 rfl dX10_putBytes_29 rfl (zm_L (sv := sv) rfl) (fun M29 _ => ?_)
      refine zm_aload_n 31 rfl dX10_putBytes_30 rfl 0 rfl ?_
      refine zm_dup 32 rfl dX10_putBytes_31 rfl ?_
      refine zm_getI 35 rfl dX10_putBytes_32 fl_X10_80 rfl (zm_L (sv := sv) rfl) ?_
      refine zm_iconst 36 rfl dX10_putBytes_35 zi_1 ?_
      refine zm_iadd 37 rfl dX10_putBytes_36 ?_
      refine zm_putI 40 rfl dX10_putBytes_37 fp_X10_80 rfl (zm_L (sv := sv) rfl) rfl rfl (fun M37 _ => ?_)
      exact zm_loc [0, 1, 2] rfl (hb40_3 M37)
abbrev Y_X10_feed : zm_Y := (cX10_feed, 6, RX10, { frames := 1, cells := 0, slots := 0, locals := 22 }, (some .int), false, "feed")
noncomputable def f_X10_feed (a1 : Int32) (a2 : Int32) (a3 : Int32) (a4 : Int32) (a5 : Int32) (M : zm_Mem) : Option (Int32 × zm_Mem) :=
  if (M.1 1 15) ≤ (1980 : Int32) then (zm_b2 (f_X10_putBytes a1 M) <| fun _ M14 => zm_b2 (f_X10_putBytes a2 M14) <| fun _ M19 => zm_b2 (f_X10_putBytes a3 M19) <| fun _ M24 => zm_b2 (f_X10_putBytes a4 M24) <| fun _ M30 => zm_b2 (f_X10_putBytes a5 M30) <| fun _ M36 => some (M36.1 1 15, M36)) else (some ((-1), M))
set_option maxRecDepth 20000 in
set_option maxHeartbeats 4000000 in
theorem k_X10_feed (E : zm_E) (sv : Nat) (a1 : Int32) (a2 : Int32) (a3 : Int32) (a4 : Int32) (a5 : Int32) (M : zm_Mem) {r : Int32} {M' : zm_Mem} (h : f_X10_feed a1 a2 a3 a4 a5 M = some (r, M')) : zm_Ct E (zm_w sv) (zm_w sv) yX10_feed Y_X10_feed [.ref (E.2.1 + 1), .int a1, .int a2, .int a3, .int a4, .int a5] M (some (.int r)) M' := by
  refine zm_meth (emb := zm_ei) (d := f_X10_feed a1 a2 a3 a4 a5 M) (by decide) rfl rfl (Nat.le_of_ble_eq_true rfl) h (fun X => ?_)
  show zm_V X Y_X10_feed E (zm_Q X E Y_X10_feed.2.2.2.1.cells Y_X10_feed.2.2.2.1.slots (zm_w sv) zm_ei) 0 0 false (zm_w sv) 0 [(0, .ref (E.2.1 + 1)), (1, .int a1), (2, .int a2), (3, .int a3), (4, .int a4), (5, .int a5)] [] M (f_X10_feed a1 a2 a3 a4 a5 M) some
  unfold f_X10_feed
  refine zm_aload_n 1 rfl dX10_feed_0 rfl 0 rfl ?_
  refine zm_getI 4 rfl dX10_feed_1 fl_X10_80 rfl (zm_L (sv := sv) rfl) ?_
  refine zm_sipush 7 rfl dX10_feed_4 zs_1980 ?_
  refine zm_icmp_le 12 10 (by decide) rfl dX10_feed_7 ?_ ?_
  · refine zm_aload_n 13 rfl dX10_feed_12 rfl 0 rfl ?_
    refine zm_iload_n 14 rfl dX10_feed_13 rfl 1 rfl ?_
    refine zm_cV1v 17 rfl dX10_feed_14 ml_X10_83 rfl (zm_L (sv := sv) rfl) rfl (Nat.le_of_ble_eq_true rfl) ⟨Nat.le_of_ble_eq_true rfl, Nat.le_of_ble_eq_true rfl⟩ rfl rfl ⟨Nat.le_refl _, Nat.le_refl _⟩ rfl (fun _ _ h => k_X10_putBytes E sv a1 M h) (fun _ M14 => ?_)
    refine zm_aload_n 18 rfl dX10_feed_17 rfl 0 rfl ?_
    refine zm_iload_n 19 rfl dX10_feed_18 rfl 2 rfl ?_
    refine zm_cV1v 22 rfl dX10_feed_19 ml_X10_83 rfl (zm_L (sv := sv) rfl) rfl (Nat.le_of_ble_eq_true rfl) ⟨Nat.le_of_ble_eq_true rfl, Nat.le_of_ble_eq_true rfl⟩ rfl rfl ⟨Nat.le_refl _, Nat.le_refl _⟩ rfl (fun _ _ h => k_X10_putBytes E sv a2 M14 h) (fun _ M19 => ?_)
    refine zm_aload_n 23 rfl dX10_feed_22 rfl 0 rfl ?_
    refine zm_iload_n 24 rfl dX10_feed_23 rfl 3 rfl ?_
    refine zm_cV1v 27 rfl dX10_feed_24 ml_X10_83 rfl (zm_L (sv := sv) rfl) rfl (Nat.le_of_ble_eq_true rfl) ⟨Nat.le_of_ble_eq_true rfl, Nat.le_of_ble_eq_true rfl⟩ rfl rfl ⟨Nat.le_refl _, Nat.le_refl _⟩ rfl (fun _ _ h => k_X10_putBytes E sv a3 M19 h) (fun _ M24 => ?_)
    refine zm_aload_n 28 rfl dX10_feed_27 rfl 0 rfl ?_
    refine zm_iload 30 rfl dX10_feed_28 4 rfl ?_
    refine zm_cV1v 33 rfl dX10_feed_30 ml_X10_83 rfl (zm_L (sv := sv) rfl) rfl (Nat.le_of_ble_eq_true rfl) ⟨Nat.le_of_ble_eq_true rfl, Nat.le_of_ble_eq_true rfl⟩ rfl rfl ⟨Nat.le_refl _, Nat.le_refl _⟩ rfl (fun _ _ h => k_X10_putBytes E sv a4 M24 h) (fun _ M30 => ?_)
    refine zm_aload_n 34 rfl dX10_feed_33 rfl 0 rfl ?_
    refine zm_iload 36 rfl dX10_feed_34 5 rfl ?_
    refine zm_cV1v 39 rfl dX10_feed_36 ml_X10_83 rfl (zm_L (sv := sv) rfl) rfl (Nat.le_of_ble_eq_true rfl) ⟨Nat.le_of_ble_eq_true rfl, Nat.le_of_ble_eq_true rfl⟩ rfl rfl ⟨Nat.le_refl _, Nat.le_refl _⟩ rfl (fun _ _ h => k_X10_putBytes E sv a5 M30 h) (fun _ M36 => ?_)
    refine zm_aload_n 40 rfl dX10_feed_39 rfl 0 rfl ?_
    refine zm_getI 43 rfl dX10_feed_40 fl_X10_80 rfl (zm_L (sv := sv) rfl) ?_
    exact zm_iret dX10_feed_43 rfl (Nat.le_refl _) (Nat.le_refl _) rfl
  · refine zm_iconst 11 rfl dX10_feed_10 zi_m1 ?_
    exact zm_iret dX10_feed_11 rfl (Nat.le_refl _) (Nat.le_refl _) rfl
abbrev Y_X10_back : zm_Y := (cX10_back, 2, RX10, { frames := 0, cells := 0, slots := 0, locals := 0 }, (some .int), false, "back")
noncomputable def f_X10_back (a1 : Int32) (M : zm_Mem) : Option (Int32 × zm_Mem) :=
  if a1 < 0 then (some ((-1), M)) else (if a1 ≤ (M.1 1 15) then (zm_v (zm_sI M 1 15 ((M.1 1 15) - a1)) <| fun M21 => some (M21.1 1 15, M21)) else (some ((-1), M)))
set_option maxRecDepth 20000 in
set_option maxHeartbeats 4000000 in
theorem k_X10_back (E : zm_E) (sv : Nat) (a1 : Int32) (M : zm_Mem) {r : Int32} {M' : zm_Mem} (h : f_X10_back a1 M = some (r, M')) : zm_Ct E (zm_w sv) (zm_w sv) yX10_back Y_X10_back [.ref (E.2.1 + 1), .int a1] M (some (.int r)) M' := by
  refine zm_meth (emb := zm_ei) (d := f_X10_back a1 M) (by decide) rfl rfl (Nat.le_of_ble_eq_true rfl) h (fun X => ?_)
  show zm_V X Y_X10_back E (zm_Q X E Y_X10_back.2.2.2.1.cells Y_X10_back.2.2.2.1.slots (zm_w sv) zm_ei) 0 0 false (zm_w sv) 0 [(0, .ref (E.2.1 + 1)), (1, .int a1)] [] M (f_X10_back a1 M) some
  unfold f_X10_back
  refine zm_iload_n 1 rfl dX10_back_0 rfl 1 rfl ?_
  refine zm_if_lt 12 4 (by decide) rfl dX10_back_1 ?_ ?_
  · refine zm_iconst 13 rfl dX10_back_12 zi_m1 ?_
    exact zm_iret dX10_back_13 rfl (Nat.le_refl _) (Nat.le_refl _) rfl
  · refine zm_iload_n 5 rfl dX10_back_4 rfl 1 rfl ?_
    refine zm_aload_n 6 rfl dX10_back_5 rfl 0 rfl ?_
    refine zm_getI 9 rfl dX10_back_6 fl_X10_80 rfl (zm_L (sv := sv) rfl) ?_
    refine zm_icmp_le 14 12 (by decide) rfl dX10_back_9 ?_ ?_
    · refine zm_aload_n 15 rfl dX10_back_14 rfl 0 rfl ?_
      refine zm_dup 16 rfl dX10_back_15 rfl ?_
      refine zm_getI 19 rfl dX10_back_16 fl_X10_80 rfl (zm_L (sv := sv) rfl) ?_
      refine zm_iload_n 20 rfl dX10_back_19 rfl 1 rfl ?_
      refine zm_isub 21 rfl dX10_back_20 ?_
      refine zm_putI 24 rfl dX10_back_21 fp_X10_80 rfl (zm_L (sv := sv) rfl) rfl rfl (fun M21 _ => ?_)
      refine zm_aload_n 25 rfl dX10_back_24 rfl 0 rfl ?_
      refine zm_getI 28 rfl dX10_back_25 fl_X10_80 rfl (zm_L (sv := sv) rfl) ?_
      exact zm_iret dX10_back_28 rfl (Nat.le_refl _) (Nat.le_refl _) rfl
    · refine zm_iconst 13 rfl dX10_back_12 zi_m1 ?_
      exact zm_iret dX10_back_13 rfl (Nat.le_refl _) (Nat.le_refl _) rfl
abbrev Y_X10_takeUp : zm_Y := (cX10_takeUp, 2, RX10, { frames := 2, cells := 0, slots := 0, locals := 45 }, none, false, "takeUp")
noncomputable def f_X10_takeUp  (M : zm_Mem) : Option (Unit × zm_Mem) :=
  zm_v (M.2.2 1 9) <| fun t1 => zm_ck (zm_isT t1) <| zm_v (M.2.2 1 10) <| fun t7 => zm_ck (zm_isT t7) <| zm_v (zm_sP M 1 9 t7) <| fun M10 => zm_v (zm_sP M10 1 10 t1) <| fun M15 => zm_v (M15.2.2 1 9) <| fun t23 => zm_ck (zm_isT t23) <| zm_b2 (f_X4_begin t23 M15) <| fun _ M26 => zm_b2 (f_X1_empty M26) <| fun _ M33 => zm_b2 (f_X0_empty M33) <| fun _ M40 => zm_v (zm_sI M40 1 14 0) <| fun M45 => zm_v (zm_sI M45 1 13 0) <| fun M50 => some ((), M50)
set_option maxRecDepth 20000 in
set_option maxHeartbeats 4000000 in
theorem k_X10_takeUp (E : zm_E) (sv : Nat)  (M : zm_Mem) {r : Unit} {M' : zm_Mem} (h : f_X10_takeUp M = some (r, M')) : zm_Ct E (zm_w sv) (zm_w sv) yX10_takeUp Y_X10_takeUp [.ref (E.2.1 + 1)] M none M' := by
  refine zm_meth (emb := zm_ev) (d := f_X10_takeUp M) (by decide) rfl rfl (Nat.le_of_ble_eq_true rfl) h (fun X => ?_)
  show zm_V X Y_X10_takeUp E (zm_Q X E Y_X10_takeUp.2.2.2.1.cells Y_X10_takeUp.2.2.2.1.slots (zm_w sv) zm_ev) 0 0 false (zm_w sv) 0 [(0, .ref (E.2.1 + 1))] [] M (f_X10_takeUp M) some
  unfold f_X10_takeUp
  refine zm_aload_n 1 rfl dX10_takeUp_0 rfl 0 rfl ?_
  refine zm_getT 4 rfl dX10_takeUp_1 fl_X10_60 rfl (zm_L (sv := sv) rfl) (fun t1 _ ht1 => ?_)
  refine zm_astore_n (lv' := [(1, .ref (E.2.1 + t1)), (0, .ref (E.2.1 + 1))]) 5 rfl dX10_takeUp_4 rfl (by decide) rfl ?_
  refine zm_aload_n 6 rfl dX10_takeUp_5 rfl 1 rfl ?_
  refine zm_aload_n 7 rfl dX10_takeUp_6 rfl 1 rfl ?_
  refine zm_getT 10 rfl dX10_takeUp_7 fl_X10_64 rfl (zm_L (sv := sv) rfl) (fun t7 _ ht7 => ?_)
  refine zm_putP 13 rfl dX10_takeUp_10 fp_X10_60 rfl (zm_L (sv := sv) rfl) (zm_T_ne ht7) (fun M10 _ => ?_)
  refine zm_aload_n 14 rfl dX10_takeUp_13 rfl 1 rfl ?_
  refine zm_aload_n 15 rfl dX10_takeUp_14 rfl 0 rfl ?_
  refine zm_putP 18 rfl dX10_takeUp_15 fp_X10_64 rfl (zm_L (sv := sv) rfl) (zm_T_ne ht1) (fun M15 _ => ?_)
  refine zm_aload_n 19 rfl dX10_takeUp_18 rfl 1 rfl ?_
  refine zm_getR (a := 11) 22 rfl dX10_takeUp_19 fl_X10_32 rfl (zm_L (sv := sv) rfl) rfl (by decide) ?_
  refine zm_aload_n 23 rfl dX10_takeUp_22 rfl 1 rfl ?_
  refine zm_getT 26 rfl dX10_takeUp_23 fl_X10_60 rfl (zm_L (sv := sv) rfl) (fun t23 _ ht23 => ?_)
  refine zm_cV1v 29 rfl dX10_takeUp_26 ml_X10_329 rfl (zm_L (sv := sv) rfl) rfl (Nat.le_of_ble_eq_true rfl) ⟨Nat.le_of_ble_eq_true rfl, Nat.le_of_ble_eq_true rfl⟩ rfl rfl ⟨Nat.le_refl _, Nat.le_refl _⟩ rfl (fun _ _ h => k_X4_begin E sv t23 ht23 M15 h) (fun _ M26 => ?_)
  refine zm_aload_n 30 rfl dX10_takeUp_29 rfl 1 rfl ?_
  refine zm_getR (a := 13) 33 rfl dX10_takeUp_30 fl_X10_39 rfl (zm_L (sv := sv) rfl) rfl (by decide) ?_
  refine zm_cV0v 36 rfl dX10_takeUp_33 ml_X10_316 rfl (zm_L (sv := sv) rfl) rfl (Nat.le_of_ble_eq_true rfl) ⟨Nat.le_of_ble_eq_true rfl, Nat.le_of_ble_eq_true rfl⟩ rfl rfl ⟨Nat.le_refl _, Nat.le_refl _⟩ rfl (fun _ _ h => k_X1_empty E sv M26 h) (fun _ M33 => ?_)
  refine zm_aload_n 37 rfl dX10_takeUp_36 rfl 1 rfl ?_
  refine zm_getR (a := 16) 40 rfl dX10_takeUp_37 fl_X10_50 rfl (zm_L (sv := sv) rfl) rfl (by decide) ?_
  refine zm_cV0v 43 rfl dX10_takeUp_40 ml_X10_285 rfl (zm_L (sv := sv) rfl) rfl (Nat.le_of_ble_eq_true rfl) ⟨Nat.le_of_ble_eq_true rfl, Nat.le_of_ble_eq_true rfl⟩ rfl rfl ⟨Nat.le_refl _, Nat.le_refl _⟩ rfl (fun _ _ h => k_X0_empty E sv M33 h) (fun _ M40 => ?_)
  refine zm_aload_n 44 rfl dX10_takeUp_43 rfl 1 rfl ?_
  refine zm_iconst 45 rfl dX10_takeUp_44 zi_0 ?_
  refine zm_putI 48 rfl dX10_takeUp_45 fp_X10_313 rfl (zm_L (sv := sv) rfl) rfl rfl (fun M45 _ => ?_)
  refine zm_aload_n 49 rfl dX10_takeUp_48 rfl 1 rfl ?_
  refine zm_iconst 50 rfl dX10_takeUp_49 zi_0 ?_
  refine zm_putI 53 rfl dX10_takeUp_50 fp_X10_199 rfl (zm_L (sv := sv) rfl) rfl rfl (fun M50 _ => ?_)
  exact zm_vret dX10_takeUp_53 rfl (Nat.le_refl _) (Nat.le_refl _) rfl
abbrev Y_X10_read : zm_Y := (cX10_read, 2, RX10, { frames := 70, cells := 0, slots := 0, locals := 2690 }, (some .int), false, "read")
noncomputable def f_X10_read  (M : zm_Mem) : Option (Int32 × zm_Mem) :=
  zm_b2 (f_X7_cut 2 (M.1 1 15) M) <| fun _ M12 => zm_v (zm_sI M12 1 15 0) <| fun M17 => zm_v (M17.2.2 1 10) <| fun t25 => zm_ck (zm_isT t25) <| zm_b2 (f_X2_compile t25 M17) <| fun r28 M28 => zm_b1 (f_X2_faultPlace M28) <| fun r37 => zm_v (zm_sI M28 1 16 r37) <| fun M40 => if r28 = 0 then (zm_b2 (f_X10_takeUp M40) <| fun _ M48 => some (r28, M48)) else (some (r28, M40))
set_option maxRecDepth 20000 in
set_option maxHeartbeats 4000000 in
theorem k_X10_read (E : zm_E) (sv : Nat)  (M : zm_Mem) {r : Int32} {M' : zm_Mem} (h : f_X10_read M = some (r, M')) : zm_Ct E (zm_w sv) (zm_w sv) yX10_read Y_X10_read [.ref (E.2.1 + 1)] M (some (.int r)) M' := by
  refine zm_meth (emb := zm_ei) (d := f_X10_read M) (by decide) rfl rfl (Nat.le_of_ble_eq_true rfl) h (fun X => ?_)
  show zm_V X Y_X10_read E (zm_Q X E Y_X10_read.2.2.2.1.cells Y_X10_read.2.2.2.1.slots (zm_w sv) zm_ei) 0 0 false (zm_w sv) 0 [(0, .ref (E.2.1 + 1))] [] M (f_X10_read M) some
  unfold f_X10_read
  refine zm_aload_n 1 rfl dX10_read_0 rfl 0 rfl ?_
  refine zm_getR (a := 3) 4 rfl dX10_read_1 fl_X10_16 rfl (zm_L (sv := sv) rfl) rfl (by decide) ?_
  refine zm_aload_n 5 rfl dX10_read_4 rfl 0 rfl ?_
  refine zm_getR (a := 2) 8 rfl dX10_read_5 fl_X10_9 rfl (zm_L (sv := sv) rfl) rfl (by decide) ?_
  refine zm_aload_n 9 rfl dX10_read_8 rfl 0 rfl ?_
  refine zm_getI 12 rfl dX10_read_9 fl_X10_80 rfl (zm_L (sv := sv) rfl) ?_
  refine zm_cV2v 15 rfl dX10_read_12 ml_X10_87 rfl (zm_L (sv := sv) rfl) rfl (Nat.le_of_ble_eq_true rfl) ⟨Nat.le_of_ble_eq_true rfl, Nat.le_of_ble_eq_true rfl⟩ rfl rfl ⟨Nat.le_refl _, Nat.le_refl _⟩ rfl (fun _ _ h => k_X7_cut E sv 2 (M.1 1 15) ⟨rfl, (zm_L (sv := sv) rfl)⟩ M h) (fun _ M12 => ?_)
  refine zm_aload_n 16 rfl dX10_read_15 rfl 0 rfl ?_
  refine zm_iconst 17 rfl dX10_read_16 zi_0 ?_
  refine zm_putI 20 rfl dX10_read_17 fp_X10_80 rfl (zm_L (sv := sv) rfl) rfl rfl (fun M17 _ => ?_)
  refine zm_aload_n 21 rfl dX10_read_20 rfl 0 rfl ?_
  refine zm_getR (a := 8) 24 rfl dX10_read_21 fl_X10_25 rfl (zm_L (sv := sv) rfl) rfl (by decide) ?_
  refine zm_aload_n 25 rfl dX10_read_24 rfl 0 rfl ?_
  refine zm_getT 28 rfl dX10_read_25 fl_X10_64 rfl (zm_L (sv := sv) rfl) (fun t25 _ ht25 => ?_)
  refine zm_cV1i 31 rfl dX10_read_28 ml_X10_91 rfl (zm_L (sv := sv) rfl) rfl (Nat.le_of_ble_eq_true rfl) ⟨Nat.le_of_ble_eq_true rfl, Nat.le_of_ble_eq_true rfl⟩ rfl rfl ⟨Nat.le_refl _, Nat.le_refl _⟩ rfl (fun _ _ h => k_X2_compile E sv t25 ht25 M17 h) (fun r28 M28 => ?_)
  refine zm_istore_n (lv' := [(1, .int r28), (0, .ref (E.2.1 + 1))]) 32 rfl dX10_read_31 rfl (by decide) rfl ?_
  refine zm_aload_n 33 rfl dX10_read_32 rfl 1 rfl ?_
  refine zm_aload_n 34 rfl dX10_read_33 rfl 1 rfl ?_
  refine zm_getR (a := 8) 37 rfl dX10_read_34 fl_X10_25 rfl (zm_L (sv := sv) rfl) rfl (by decide) ?_
  refine zm_cV0ir 40 rfl dX10_read_37 ml_X10_95 rfl (zm_L (sv := sv) rfl) rfl (Nat.le_of_ble_eq_true rfl) ⟨Nat.le_of_ble_eq_true rfl, Nat.le_of_ble_eq_true rfl⟩ rfl rfl ⟨Nat.le_refl _, Nat.le_refl _⟩ rfl (fun _ h => k_X2_faultPlace E sv M28 h) (fun r37 => ?_)
  refine zm_putI 43 rfl dX10_read_40 fp_X10_67 rfl (zm_L (sv := sv) rfl) rfl rfl (fun M40 _ => ?_)
  refine zm_iload_n 44 rfl dX10_read_43 rfl 0 rfl ?_
  refine zm_if_ne 51 47 (by decide) rfl dX10_read_44 ?_ ?_
  · refine zm_aload_n 48 rfl dX10_read_47 rfl 1 rfl ?_
    refine zm_cV0v 51 rfl dX10_read_48 ml_X10_98 rfl (zm_L (sv := sv) rfl) rfl (Nat.le_of_ble_eq_true rfl) ⟨Nat.le_of_ble_eq_true rfl, Nat.le_of_ble_eq_true rfl⟩ rfl rfl ⟨Nat.le_refl _, Nat.le_refl _⟩ rfl (fun _ _ h => k_X10_takeUp E sv M40 h) (fun _ M48 => ?_)
    refine zm_iload_n 52 rfl dX10_read_51 rfl 0 rfl ?_
    exact zm_iret dX10_read_52 rfl (Nat.le_refl _) (Nat.le_refl _) rfl
  · refine zm_iload_n 52 rfl dX10_read_51 rfl 0 rfl ?_
    exact zm_iret dX10_read_52 rfl (Nat.le_refl _) (Nat.le_refl _) rfl
abbrev Y_X10_place : zm_Y := (cX10_place, 1, RX10, { frames := 0, cells := 0, slots := 0, locals := 0 }, (some .int), false, "place")
noncomputable def f_X10_place  (M : zm_Mem) : Option Int32 :=
  some (M.1 1 16)
set_option maxRecDepth 20000 in
set_option maxHeartbeats 4000000 in
theorem k_X10_place (E : zm_E) (sv : Nat)  (M : zm_Mem) {r : Int32} (h : f_X10_place M = some r) : zm_Ct E (zm_w sv) (zm_w sv) yX10_place Y_X10_place [.ref (E.2.1 + 1)] M (some (.int r)) M := by
  refine zm_methr (emb := zm_ei) (d := f_X10_place M) (by decide) rfl rfl (Nat.le_of_ble_eq_true rfl) h (fun X => ?_)
  show zm_V X Y_X10_place E (zm_Q X E Y_X10_place.2.2.2.1.cells Y_X10_place.2.2.2.1.slots (zm_w sv) zm_ei) 0 0 false (zm_w sv) 0 [(0, .ref (E.2.1 + 1))] [] M (f_X10_place M) (fun r => some (r, M))
  unfold f_X10_place
  refine zm_aload_n 1 rfl dX10_place_0 rfl 0 rfl ?_
  refine zm_getI 4 rfl dX10_place_1 fl_X10_67 rfl (zm_L (sv := sv) rfl) ?_
  exact zm_iret dX10_place_4 rfl (Nat.le_refl _) (Nat.le_refl _) rfl
abbrev Y_X10_isHouse : zm_Y := (cX10_isHouse, 2, RX10, { frames := 0, cells := 0, slots := 0, locals := 0 }, (some .boolean), false, "isHouse")
noncomputable def f_X10_isHouse_b19  : Option Int32 :=
 some 0
noncomputable def f_X10_isHouse (a1 : Int32) (M : zm_Mem) : Option Int32 :=
  if a1 < 0 then (f_X10_isHouse_b19) else (zm_v (M.2.2 1 9) <| fun t6 => zm_ck (zm_isT t6) <| if (M.1 t6 11) ≤ a1 then (f_X10_isHouse_b19) else (some 1))
set_option maxRecDepth 20000 in
set_option maxHeartbeats 4000000 in
theorem k_X10_isHouse (E : zm_E) (sv : Nat) (a1 : Int32) (M : zm_Mem) {r : Int32} (h : f_X10_isHouse a1 M = some r) : zm_Ct E (zm_w sv) (zm_w sv) yX10_isHouse Y_X10_isHouse [.ref (E.2.1 + 1), .int a1] M (some (.int r)) M := by
  refine zm_methr (emb := zm_ei) (d := f_X10_isHouse a1 M) (by decide) rfl rfl (Nat.le_of_ble_eq_true rfl) h (fun X => ?_)
  show zm_V X Y_X10_isHouse E (zm_Q X E Y_X10_isHouse.2.2.2.1.cells Y_X10_isHouse.2.2.2.1.slots (zm_w sv) zm_ei) 0 0 false (zm_w sv) 0 [(0, .ref (E.2.1 + 1)), (1, .int a1)] [] M (f_X10_isHouse a1 M) (fun r => some (r, M))
  unfold f_X10_isHouse
  refine zm_iload_n 1 rfl dX10_isHouse_0 rfl 1 rfl ?_
  have hb19 : zm_V X Y_X10_isHouse E (zm_Q X E Y_X10_isHouse.2.2.2.1.cells Y_X10_isHouse.2.2.2.1.slots (zm_w sv) zm_ei) 0 0 false (zm_w sv) 19 [] [] M (f_X10_isHouse_b19) (fun r => some (r, M)) := by
    unfold f_X10_isHouse_b19
    refine zm_iconst 20 rfl dX10_isHouse_19 zi_0 ?_
    exact zm_zret dX10_isHouse_20 rfl rfl (Nat.le_refl _) (Nat.le_refl _) rfl
  refine zm_if_lt 19 4 (by decide) rfl dX10_isHouse_1 ?_ ?_
  · exact zm_loc [] rfl (hb19)
  · refine zm_iload_n 5 rfl dX10_isHouse_4 rfl 1 rfl ?_
    refine zm_aload_n 6 rfl dX10_isHouse_5 rfl 0 rfl ?_
    refine zm_getT 9 rfl dX10_isHouse_6 fl_X10_60 rfl (zm_L (sv := sv) rfl) (fun t6 _ ht6 => ?_)
    refine zm_getI 12 rfl dX10_isHouse_9 fl_X10_272 (zm_T_o ht6) (zm_T_l0 (sv := sv) ht6) ?_
    refine zm_icmp_ge 19 15 (by decide) rfl dX10_isHouse_12 ?_ ?_
    · exact zm_loc [] rfl (hb19)
    · refine zm_iconst 16 rfl dX10_isHouse_15 zi_1 ?_
      refine zm_goto 20 (by decide) dX10_isHouse_16 ?_
      exact zm_zret dX10_isHouse_20 rfl rfl (Nat.le_refl _) (Nat.le_refl _) rfl
abbrev Y_X10_worksIn : zm_Y := (cX10_worksIn, 4, RX10, { frames := 3, cells := 0, slots := 0, locals := 64 }, (some .int), false, "worksIn")
noncomputable def f_X10_worksIn_b33_4 (l4_3 : Int32) (b33_2 : Int32) : Option ((Int32 × Int32) ⊕ Int32) :=
 zm_v (l4_3 + 1) <| fun x33 => some (.inl (b33_2, x33))
noncomputable def f_X10_worksIn_l4 (a1 : Int32) (M : zm_Mem) (l4_2 : Int32) (l4_3 : Int32) : Option ((Int32 × Int32) ⊕ Int32) :=
 zm_v (M.2.2 1 9) <| fun t6 => zm_ck (zm_isT t6) <| if (M.1 t6 12) ≤ l4_3 then (some (.inr l4_2)) else (zm_b1 (f_X4_isIn l4_3 a1 M) <| fun r21 => if r21 = 0 then (f_X10_worksIn_b33_4 l4_3 l4_2) else (zm_v (l4_2 ||| ((1 : Int32) <<< (l4_3 &&& 31))) <| fun x32 => f_X10_worksIn_b33_4 l4_3 x32))
noncomputable def f_X10_worksIn (a1 : Int32) (M : zm_Mem) : Option Int32 :=
  (zm_lp (fun s => f_X10_worksIn_l4 a1 M s.1 s.2) (0, 0)).bind (fun e39 => some e39)
set_option maxRecDepth 20000 in
set_option maxHeartbeats 4000000 in
theorem k_X10_worksIn (E : zm_E) (sv : Nat) (a1 : Int32) (M : zm_Mem) {r : Int32} (h : f_X10_worksIn a1 M = some r) : zm_Ct E (zm_w sv) (zm_w sv) yX10_worksIn Y_X10_worksIn [.ref (E.2.1 + 1), .int a1] M (some (.int r)) M := by
  refine zm_methr (emb := zm_ei) (d := f_X10_worksIn a1 M) (by decide) rfl rfl (Nat.le_of_ble_eq_true rfl) h (fun X => ?_)
  show zm_V X Y_X10_worksIn E (zm_Q X E Y_X10_worksIn.2.2.2.1.cells Y_X10_worksIn.2.2.2.1.slots (zm_w sv) zm_ei) 0 0 false (zm_w sv) 0 [(0, .ref (E.2.1 + 1)), (1, .int a1)] [] M (f_X10_worksIn a1 M) (fun r => some (r, M))
  unfold f_X10_worksIn
  refine zm_iconst 1 rfl dX10_worksIn_0 zi_0 ?_
  refine zm_istore_n (lv' := [(2, .int 0), (0, .ref (E.2.1 + 1)), (1, .int a1)]) 2 rfl dX10_worksIn_1 rfl (by decide) rfl ?_
  refine zm_iconst 3 rfl dX10_worksIn_2 zi_0 ?_
  refine zm_istore_n (lv' := [(3, .int 0), (2, .int 0), (0, .ref (E.2.1 + 1)), (1, .int a1)]) 4 rfl dX10_worksIn_3 rfl (by decide) rfl ?_
  have hx39_4 : ∀ (e39_2 : Int32), zm_V X Y_X10_worksIn E (zm_Q X E Y_X10_worksIn.2.2.2.1.cells Y_X10_worksIn.2.2.2.1.slots (zm_w sv) zm_ei) 0 0 false (zm_w sv) 39 [(2, .int e39_2)] [] M (some e39_2) (fun r => some (r, M)) := by
    intro e39_2
    refine zm_iload_n 40 rfl dX10_worksIn_39 rfl 0 rfl ?_
    exact zm_iret dX10_worksIn_40 rfl (Nat.le_refl _) (Nat.le_refl _) rfl
  refine zm_loc [2, 3, 1, 0] rfl (zm_lpp (σ := (Int32 × Int32)) (ε := Int32) (step := fun s => f_X10_worksIn_l4 a1 M s.1 s.2) (fun s => [(0, .ref (E.2.1 + 1)), (1, .int a1), (2, .int s.1), (3, .int s.2)]) (fun _ => M) (fun D4 f4 hf4a hf4b hD4 s => ?_) (0, 0))
  obtain ⟨l4_2, l4_3⟩ := s
  show zm_V X Y_X10_worksIn E (zm_Q X E Y_X10_worksIn.2.2.2.1.cells Y_X10_worksIn.2.2.2.1.slots (zm_w sv) zm_ei) 0 0 false (zm_w sv) 4 [(0, .ref (E.2.1 + 1)), (1, .int a1), (2, .int l4_2), (3, .int l4_3)] [] M (f_X10_worksIn_l4 a1 M l4_2 l4_3) f4
  unfold f_X10_worksIn_l4
  refine zm_iload_n 5 rfl dX10_worksIn_4 rfl 3 rfl ?_
  refine zm_aload_n 6 rfl dX10_worksIn_5 rfl 0 rfl ?_
  refine zm_getT 9 rfl dX10_worksIn_6 fl_X10_60 rfl (zm_L (sv := sv) rfl) (fun t6 _ ht6 => ?_)
  refine zm_getI 12 rfl dX10_worksIn_9 fl_X10_236 (zm_T_o ht6) (zm_T_l0 (sv := sv) ht6) ?_
  refine zm_icmp_ge 39 15 (by decide) rfl dX10_worksIn_12 ?_ ?_
  · exact zm_loc [2] rfl (zm_go (hf4b _) (zm_unb (hx39_4 l4_2)))
  · refine zm_aload_n 16 rfl dX10_worksIn_15 rfl 0 rfl ?_
    refine zm_getR (a := 11) 19 rfl dX10_worksIn_16 fl_X10_32 rfl (zm_L (sv := sv) rfl) rfl (by decide) ?_
    refine zm_iload_n 20 rfl dX10_worksIn_19 rfl 3 rfl ?_
    refine zm_iload_n 21 rfl dX10_worksIn_20 rfl 1 rfl ?_
    refine zm_cV2ir 24 rfl dX10_worksIn_21 ml_X10_352 rfl (zm_L (sv := sv) rfl) rfl (Nat.le_of_ble_eq_true rfl) ⟨Nat.le_of_ble_eq_true rfl, Nat.le_of_ble_eq_true rfl⟩ rfl rfl ⟨Nat.le_refl _, Nat.le_refl _⟩ rfl (fun _ h => k_X4_isIn E sv l4_3 a1 M h) (fun r21 => ?_)
    have hb33_4 : ∀ (b33_2 : Int32), zm_V X Y_X10_worksIn E (zm_Q X E Y_X10_worksIn.2.2.2.1.cells Y_X10_worksIn.2.2.2.1.slots (zm_w sv) zm_ei) 0 0 false (zm_w sv) 33 [(0, .ref (E.2.1 + 1)), (1, .int a1), (2, .int b33_2), (3, .int l4_3)] [] M (f_X10_worksIn_b33_4 l4_3 b33_2) f4 := by
      intro b33_2
      unfold f_X10_worksIn_b33_4
      refine zm_iinc (lv' := fun z => [(3, .int z), (0, .ref (E.2.1 + 1)), (1, .int a1), (2, .int b33_2)]) 36 rfl dX10_worksIn_33 zi_1 3 rfl (by decide) (fun _ => rfl) (fun x33 _ => ?_)
      refine zm_goto 4 (by decide) dX10_worksIn_36 ?_
      exact zm_loc [1, 2, 3, 0] rfl (zm_go (hf4a _) (hD4 (b33_2, x33)))
    refine zm_if_eq 33 27 (by decide) rfl dX10_worksIn_24 ?_ ?_
    · exact zm_loc [0, 1, 2, 3] rfl (hb33_4 l4_2)
    · refine zm_iload_n 28 rfl dX10_worksIn_27 rfl 2 rfl ?_
      refine zm_iconst 29 rfl dX10_worksIn_28 zi_1 ?_
      refine zm_iload_n 30 rfl dX10_worksIn_29 rfl 3 rfl ?_
      refine zm_ishl 31 rfl dX10_worksIn_30 ?_
      refine zm_ior 32 rfl dX10_worksIn_31 ?_
      refine zm_nmi (fun x32 _ => ?_)
      refine zm_istore_n (lv' := [(2, .int x32), (0, .ref (E.2.1 + 1)), (1, .int a1), (3, .int l4_3)]) 33 rfl dX10_worksIn_32 rfl (by decide) rfl ?_
      exact zm_loc [1, 2, 0, 3] rfl (hb33_4 x32)
abbrev Y_X10_worksOwnedBy : zm_Y := (cX10_worksOwnedBy, 4, RX10, { frames := 0, cells := 0, slots := 0, locals := 0 }, (some .int), false, "worksOwnedBy")
noncomputable def f_X10_worksOwnedBy_b34_4 (l4_3 : Int32) (b34_2 : Int32) : Option ((Int32 × Int32) ⊕ Int32) :=
 zm_v (l4_3 + 1) <| fun x34 => some (.inl (b34_2, x34))
noncomputable def f_X10_worksOwnedBy_l4 (a1 : Int32) (M : zm_Mem) (l4_2 : Int32) (l4_3 : Int32) : Option ((Int32 × Int32) ⊕ Int32) :=
 zm_v (M.2.2 1 9) <| fun t6 => zm_ck (zm_isT t6) <| if (M.1 t6 12) ≤ l4_3 then (some (.inr l4_2)) else (zm_v (M.2.2 1 9) <| fun t16 => zm_ck (zm_isT t16) <| zm_ck (zm_in l4_3 6) <| if (M.1 (t16 + 3) l4_3.toNatClampNeg) = a1 then (zm_v (l4_2 ||| ((1 : Int32) <<< (l4_3 &&& 31))) <| fun x33 => f_X10_worksOwnedBy_b34_4 l4_3 x33) else (f_X10_worksOwnedBy_b34_4 l4_3 l4_2))
noncomputable def f_X10_worksOwnedBy (a1 : Int32) (M : zm_Mem) : Option Int32 :=
  (zm_lp (fun s => f_X10_worksOwnedBy_l4 a1 M s.1 s.2) (0, 0)).bind (fun e40 => some e40)
set_option maxRecDepth 20000 in
set_option maxHeartbeats 4000000 in
theorem k_X10_worksOwnedBy (E : zm_E) (sv : Nat) (a1 : Int32) (M : zm_Mem) {r : Int32} (h : f_X10_worksOwnedBy a1 M = some r) : zm_Ct E (zm_w sv) (zm_w sv) yX10_worksOwnedBy Y_X10_worksOwnedBy [.ref (E.2.1 + 1), .int a1] M (some (.int r)) M := by
  refine zm_methr (emb := zm_ei) (d := f_X10_worksOwnedBy a1 M) (by decide) rfl rfl (Nat.le_of_ble_eq_true rfl) h (fun X => ?_)
  show zm_V X Y_X10_worksOwnedBy E (zm_Q X E Y_X10_worksOwnedBy.2.2.2.1.cells Y_X10_worksOwnedBy.2.2.2.1.slots (zm_w sv) zm_ei) 0 0 false (zm_w sv) 0 [(0, .ref (E.2.1 + 1)), (1, .int a1)] [] M (f_X10_worksOwnedBy a1 M) (fun r => some (r, M))
  unfold f_X10_worksOwnedBy
  refine zm_iconst 1 rfl dX10_worksOwnedBy_0 zi_0 ?_
  refine zm_istore_n (lv' := [(2, .int 0), (0, .ref (E.2.1 + 1)), (1, .int a1)]) 2 rfl dX10_worksOwnedBy_1 rfl (by decide) rfl ?_
  refine zm_iconst 3 rfl dX10_worksOwnedBy_2 zi_0 ?_
  refine zm_istore_n (lv' := [(3, .int 0), (2, .int 0), (0, .ref (E.2.1 + 1)), (1, .int a1)]) 4 rfl dX10_worksOwnedBy_3 rfl (by decide) rfl ?_
  have hx40_4 : ∀ (e40_2 : Int32), zm_V X Y_X10_worksOwnedBy E (zm_Q X E Y_X10_worksOwnedBy.2.2.2.1.cells Y_X10_worksOwnedBy.2.2.2.1.slots (zm_w sv) zm_ei) 0 0 false (zm_w sv) 40 [(2, .int e40_2)] [] M (some e40_2) (fun r => some (r, M)) := by
    intro e40_2
    refine zm_iload_n 41 rfl dX10_worksOwnedBy_40 rfl 0 rfl ?_
    exact zm_iret dX10_worksOwnedBy_41 rfl (Nat.le_refl _) (Nat.le_refl _) rfl
  refine zm_loc [2, 3, 1, 0] rfl (zm_lpp (σ := (Int32 × Int32)) (ε := Int32) (step := fun s => f_X10_worksOwnedBy_l4 a1 M s.1 s.2) (fun s => [(0, .ref (E.2.1 + 1)), (1, .int a1), (2, .int s.1), (3, .int s.2)]) (fun _ => M) (fun D4 f4 hf4a hf4b hD4 s => ?_) (0, 0))
  obtain ⟨l4_2, l4_3⟩ := s
  show zm_V X Y_X10_worksOwnedBy E (zm_Q X E Y_X10_worksOwnedBy.2.2.2.1.cells Y_X10_worksOwnedBy.2.2.2.1.slots (zm_w sv) zm_ei) 0 0 false (zm_w sv) 4 [(0, .ref (E.2.1 + 1)), (1, .int a1), (2, .int l4_2), (3, .int l4_3)] [] M (f_X10_worksOwnedBy_l4 a1 M l4_2 l4_3) f4
  unfold f_X10_worksOwnedBy_l4
  refine zm_iload_n 5 rfl dX10_worksOwnedBy_4 rfl 3 rfl ?_
  refine zm_aload_n 6 rfl dX10_worksOwnedBy_5 rfl 0 rfl ?_
  refine zm_getT 9 rfl dX10_worksOwnedBy_6 fl_X10_60 rfl (zm_L (sv := sv) rfl) (fun t6 _ ht6 => ?_)
  refine zm_getI 12 rfl dX10_worksOwnedBy_9 fl_X10_236 (zm_T_o ht6) (zm_T_l0 (sv := sv) ht6) ?_
  refine zm_icmp_ge 40 15 (by decide) rfl dX10_worksOwnedBy_12 ?_ ?_
  · exact zm_loc [2] rfl (zm_go (hf4b _) (zm_unb (hx40_4 l4_2)))
  · refine zm_aload_n 16 rfl dX10_worksOwnedBy_15 rfl 0 rfl ?_
    refine zm_getT 19 rfl dX10_worksOwnedBy_16 fl_X10_60 rfl (zm_L (sv := sv) rfl) (fun t16 _ ht16 => ?_)
    refine zm_getR (a := t16 + 3) 22 rfl dX10_worksOwnedBy_19 fl_X10_127 (zm_T_o ht16) (zm_T_l0 (sv := sv) ht16) (zm_T_r ht16 2 (by decide)) (Nat.succ_ne_zero _) ?_
    refine zm_iload_n 23 rfl dX10_worksOwnedBy_22 rfl 3 rfl ?_
    refine zm_iald 24 rfl dX10_worksOwnedBy_23 (zm_T_a ht16 3 (by decide)) (zm_T_l (sv := sv) ht16 3 (by decide)) ?_
    refine zm_iload_n 25 rfl dX10_worksOwnedBy_24 rfl 1 rfl ?_
    have hb34_4 : ∀ (b34_2 : Int32), zm_V X Y_X10_worksOwnedBy E (zm_Q X E Y_X10_worksOwnedBy.2.2.2.1.cells Y_X10_worksOwnedBy.2.2.2.1.slots (zm_w sv) zm_ei) 0 0 false (zm_w sv) 34 [(0, .ref (E.2.1 + 1)), (1, .int a1), (2, .int b34_2), (3, .int l4_3)] [] M (f_X10_worksOwnedBy_b34_4 l4_3 b34_2) f4 := by
      intro b34_2
      unfold f_X10_worksOwnedBy_b34_4
      refine zm_iinc (lv' := fun z => [(3, .int z), (0, .ref (E.2.1 + 1)), (1, .int a1), (2, .int b34_2)]) 37 rfl dX10_worksOwnedBy_34 zi_1 3 rfl (by decide) (fun _ => rfl) (fun x34 _ => ?_)
      refine zm_goto 4 (by decide) dX10_worksOwnedBy_37 ?_
      exact zm_loc [1, 2, 3, 0] rfl (zm_go (hf4a _) (hD4 (b34_2, x34)))
    refine zm_icmp_ne 34 28 (by decide) rfl dX10_worksOwnedBy_25 ?_ ?_
    · refine zm_iload_n 29 rfl dX10_worksOwnedBy_28 rfl 2 rfl ?_
      refine zm_iconst 30 rfl dX10_worksOwnedBy_29 zi_1 ?_
      refine zm_iload_n 31 rfl dX10_worksOwnedBy_30 rfl 3 rfl ?_
      refine zm_ishl 32 rfl dX10_worksOwnedBy_31 ?_
      refine zm_ior 33 rfl dX10_worksOwnedBy_32 ?_
      refine zm_nmi (fun x33 _ => ?_)
      refine zm_istore_n (lv' := [(2, .int x33), (0, .ref (E.2.1 + 1)), (1, .int a1), (3, .int l4_3)]) 34 rfl dX10_worksOwnedBy_33 rfl (by decide) rfl ?_
      exact zm_loc [1, 2, 0, 3] rfl (hb34_4 x33)
    · exact zm_loc [0, 1, 2, 3] rfl (hb34_4 l4_2)
abbrev Y_X10_lookToday : zm_Y := (cX10_lookToday, 1, RX10, { frames := 2, cells := 0, slots := 0, locals := 45 }, none, false, "lookToday")
noncomputable def f_X10_lookToday  (M : zm_Mem) : Option (Unit × zm_Mem) :=
  zm_v (M.2.2 1 9) <| fun t5 => zm_ck (zm_isT t5) <| zm_b1 (f_X4_today M) <| fun r16 => zm_b2 (f_X3_look t5 r16 M) <| fun _ M19 => some ((), M19)
set_option maxRecDepth 20000 in
set_option maxHeartbeats 4000000 in
theorem k_X10_lookToday (E : zm_E) (sv : Nat)  (M : zm_Mem) {r : Unit} {M' : zm_Mem} (h : f_X10_lookToday M = some (r, M')) : zm_Ct E (zm_w sv) (zm_w sv) yX10_lookToday Y_X10_lookToday [.ref (E.2.1 + 1)] M none M' := by
  refine zm_meth (emb := zm_ev) (d := f_X10_lookToday M) (by decide) rfl rfl (Nat.le_of_ble_eq_true rfl) h (fun X => ?_)
  show zm_V X Y_X10_lookToday E (zm_Q X E Y_X10_lookToday.2.2.2.1.cells Y_X10_lookToday.2.2.2.1.slots (zm_w sv) zm_ev) 0 0 false (zm_w sv) 0 [(0, .ref (E.2.1 + 1))] [] M (f_X10_lookToday M) some
  unfold f_X10_lookToday
  refine zm_aload_n 1 rfl dX10_lookToday_0 rfl 0 rfl ?_
  refine zm_getR (a := 47) 4 rfl dX10_lookToday_1 fl_X10_76 rfl (zm_L (sv := sv) rfl) rfl (by decide) ?_
  refine zm_aload_n 5 rfl dX10_lookToday_4 rfl 0 rfl ?_
  refine zm_getT 8 rfl dX10_lookToday_5 fl_X10_60 rfl (zm_L (sv := sv) rfl) (fun t5 _ ht5 => ?_)
  refine zm_aload_n 9 rfl dX10_lookToday_8 rfl 0 rfl ?_
  refine zm_getR (a := 11) 12 rfl dX10_lookToday_9 fl_X10_32 rfl (zm_L (sv := sv) rfl) rfl (by decide) ?_
  refine zm_aload_n 13 rfl dX10_lookToday_12 rfl 0 rfl ?_
  refine zm_getR (a := 11) 16 rfl dX10_lookToday_13 fl_X10_32 rfl (zm_L (sv := sv) rfl) rfl (by decide) ?_
  refine zm_cV0ir 19 rfl dX10_lookToday_16 ml_X10_189 rfl (zm_L (sv := sv) rfl) rfl (Nat.le_of_ble_eq_true rfl) ⟨Nat.le_of_ble_eq_true rfl, Nat.le_of_ble_eq_true rfl⟩ rfl rfl ⟨Nat.le_refl _, Nat.le_refl _⟩ rfl (fun _ h => k_X4_today E sv M h) (fun r16 => ?_)
  refine zm_cV3v 22 rfl dX10_lookToday_19 ml_X10_206 rfl (zm_L (sv := sv) rfl) rfl (Nat.le_of_ble_eq_true rfl) ⟨Nat.le_of_ble_eq_true rfl, Nat.le_of_ble_eq_true rfl⟩ rfl rfl ⟨Nat.le_refl _, Nat.le_refl _⟩ rfl (fun _ _ h => k_X3_look E sv t5 r16 ht5 M h) (fun _ M19 => ?_)
  exact zm_vret dX10_lookToday_22 rfl (Nat.le_refl _) (Nat.le_refl _) rfl
abbrev Y_X10_pleasureOf : zm_Y := (cX10_pleasureOf, 4, RX10, { frames := 3, cells := 0, slots := 0, locals := 74 }, (some .int), false, "pleasureOf")
noncomputable def f_X10_pleasureOf_b44_8 (l8_3 : Int32) (b44_2 : Int32) (M44 : zm_Mem) : Option ((Int32 × Int32 × zm_Mem) ⊕ (Int32 × zm_Mem)) :=
 zm_v (l8_3 + 1) <| fun x44 => some (.inl (b44_2, x44, M44))
noncomputable def f_X10_pleasureOf_l8 (a1 : Int32) (l8_2 : Int32) (l8_3 : Int32) (L8 : zm_Mem) : Option ((Int32 × Int32 × zm_Mem) ⊕ (Int32 × zm_Mem)) :=
 zm_v (L8.2.2 1 9) <| fun t10 => zm_ck (zm_isT t10) <| if (L8.1 t10 12) ≤ l8_3 then (some (.inr (l8_2, L8))) else (zm_b1 (f_X4_isIn l8_3 a1 L8) <| fun r25 => if r25 = 0 then (f_X10_pleasureOf_b44_8 l8_3 l8_2 L8) else (zm_b2 (f_X3_liking a1 l8_3 (-1) L8) <| fun r39 M39 => zm_v (l8_2 + r39) <| fun x43 => f_X10_pleasureOf_b44_8 l8_3 x43 M39))
noncomputable def f_X10_pleasureOf (a1 : Int32) (M : zm_Mem) : Option (Int32 × zm_Mem) :=
  zm_b2 (f_X10_lookToday M) <| fun _ M1 => (zm_lp (fun s => f_X10_pleasureOf_l8 a1 s.1 s.2.1 s.2.2) (0, 0, M1)).bind (fun e50 => some (e50.1, e50.2))
set_option maxRecDepth 20000 in
set_option maxHeartbeats 4000000 in
theorem k_X10_pleasureOf (E : zm_E) (sv : Nat) (a1 : Int32) (M : zm_Mem) {r : Int32} {M' : zm_Mem} (h : f_X10_pleasureOf a1 M = some (r, M')) : zm_Ct E (zm_w sv) (zm_w sv) yX10_pleasureOf Y_X10_pleasureOf [.ref (E.2.1 + 1), .int a1] M (some (.int r)) M' := by
  refine zm_meth (emb := zm_ei) (d := f_X10_pleasureOf a1 M) (by decide) rfl rfl (Nat.le_of_ble_eq_true rfl) h (fun X => ?_)
  show zm_V X Y_X10_pleasureOf E (zm_Q X E Y_X10_pleasureOf.2.2.2.1.cells Y_X10_pleasureOf.2.2.2.1.slots (zm_w sv) zm_ei) 0 0 false (zm_w sv) 0 [(0, .ref (E.2.1 + 1)), (1, .int a1)] [] M (f_X10_pleasureOf a1 M) some
  unfold f_X10_pleasureOf
  refine zm_aload_n 1 rfl dX10_pleasureOf_0 rfl 0 rfl ?_
  refine zm_cV0v 4 rfl dX10_pleasureOf_1 ml_X10_151 rfl (zm_L (sv := sv) rfl) rfl (Nat.le_of_ble_eq_true rfl) ⟨Nat.le_of_ble_eq_true rfl, Nat.le_of_ble_eq_true rfl⟩ rfl rfl ⟨Nat.le_refl _, Nat.le_refl _⟩ rfl (fun _ _ h => k_X10_lookToday E sv M h) (fun _ M1 => ?_)
  refine zm_iconst 5 rfl dX10_pleasureOf_4 zi_0 ?_
  refine zm_istore_n (lv' := [(2, .int 0), (0, .ref (E.2.1 + 1)), (1, .int a1)]) 6 rfl dX10_pleasureOf_5 rfl (by decide) rfl ?_
  refine zm_iconst 7 rfl dX10_pleasureOf_6 zi_0 ?_
  refine zm_istore_n (lv' := [(3, .int 0), (2, .int 0), (0, .ref (E.2.1 + 1)), (1, .int a1)]) 8 rfl dX10_pleasureOf_7 rfl (by decide) rfl ?_
  have hx50_8 : ∀ (e50_2 : Int32) (N50 : zm_Mem), zm_V X Y_X10_pleasureOf E (zm_Q X E Y_X10_pleasureOf.2.2.2.1.cells Y_X10_pleasureOf.2.2.2.1.slots (zm_w sv) zm_ei) 0 0 false (zm_w sv) 50 [(2, .int e50_2)] [] N50 (some (e50_2, N50)) some := by
    intro e50_2 N50
    refine zm_iload_n 51 rfl dX10_pleasureOf_50 rfl 0 rfl ?_
    exact zm_iret dX10_pleasureOf_51 rfl (Nat.le_refl _) (Nat.le_refl _) rfl
  refine zm_loc [2, 3, 1, 0] rfl (zm_lpp (σ := (Int32 × Int32 × zm_Mem)) (ε := (Int32 × zm_Mem)) (step := fun s => f_X10_pleasureOf_l8 a1 s.1 s.2.1 s.2.2) (fun s => [(0, .ref (E.2.1 + 1)), (1, .int a1), (2, .int s.1), (3, .int s.2.1)]) (fun s => s.2.2) (fun D8 f8 hf8a hf8b hD8 s => ?_) (0, 0, M1))
  obtain ⟨l8_2, l8_3, L8⟩ := s
  show zm_V X Y_X10_pleasureOf E (zm_Q X E Y_X10_pleasureOf.2.2.2.1.cells Y_X10_pleasureOf.2.2.2.1.slots (zm_w sv) zm_ei) 0 0 false (zm_w sv) 8 [(0, .ref (E.2.1 + 1)), (1, .int a1), (2, .int l8_2), (3, .int l8_3)] [] L8 (f_X10_pleasureOf_l8 a1 l8_2 l8_3 L8) f8
  unfold f_X10_pleasureOf_l8
  refine zm_iload_n 9 rfl dX10_pleasureOf_8 rfl 3 rfl ?_
  refine zm_aload_n 10 rfl dX10_pleasureOf_9 rfl 0 rfl ?_
  refine zm_getT 13 rfl dX10_pleasureOf_10 fl_X10_60 rfl (zm_L (sv := sv) rfl) (fun t10 _ ht10 => ?_)
  refine zm_getI 16 rfl dX10_pleasureOf_13 fl_X10_236 (zm_T_o ht10) (zm_T_l0 (sv := sv) ht10) ?_
  refine zm_icmp_ge 50 19 (by decide) rfl dX10_pleasureOf_16 ?_ ?_
  · exact zm_loc [2] rfl (zm_go (hf8b _) (zm_unb (hx50_8 l8_2 L8)))
  · refine zm_aload_n 20 rfl dX10_pleasureOf_19 rfl 0 rfl ?_
    refine zm_getR (a := 11) 23 rfl dX10_pleasureOf_20 fl_X10_32 rfl (zm_L (sv := sv) rfl) rfl (by decide) ?_
    refine zm_iload_n 24 rfl dX10_pleasureOf_23 rfl 3 rfl ?_
    refine zm_iload_n 25 rfl dX10_pleasureOf_24 rfl 1 rfl ?_
    refine zm_cV2ir 28 rfl dX10_pleasureOf_25 ml_X10_352 rfl (zm_L (sv := sv) rfl) rfl (Nat.le_of_ble_eq_true rfl) ⟨Nat.le_of_ble_eq_true rfl, Nat.le_of_ble_eq_true rfl⟩ rfl rfl ⟨Nat.le_refl _, Nat.le_refl _⟩ rfl (fun _ h => k_X4_isIn E sv l8_3 a1 L8 h) (fun r25 => ?_)
    have hb44_8 : ∀ (b44_2 : Int32) (M44 : zm_Mem), zm_V X Y_X10_pleasureOf E (zm_Q X E Y_X10_pleasureOf.2.2.2.1.cells Y_X10_pleasureOf.2.2.2.1.slots (zm_w sv) zm_ei) 0 0 false (zm_w sv) 44 [(0, .ref (E.2.1 + 1)), (1, .int a1), (2, .int b44_2), (3, .int l8_3)] [] M44 (f_X10_pleasureOf_b44_8 l8_3 b44_2 M44) f8 := by
      intro b44_2 M44
      unfold f_X10_pleasureOf_b44_8
      refine zm_iinc (lv' := fun z => [(3, .int z), (0, .ref (E.2.1 + 1)), (1, .int a1), (2, .int b44_2)]) 47 rfl dX10_pleasureOf_44 zi_1 3 rfl (by decide) (fun _ => rfl) (fun x44 _ => ?_)
      refine zm_goto 8 (by decide) dX10_pleasureOf_47 ?_
      exact zm_loc [1, 2, 3, 0] rfl (zm_go (hf8a _) (hD8 (b44_2, x44, M44)))
    refine zm_if_eq 44 31 (by decide) rfl dX10_pleasureOf_28 ?_ ?_
    · exact zm_loc [0, 1, 2, 3] rfl (hb44_8 l8_2 L8)
    · refine zm_iload_n 32 rfl dX10_pleasureOf_31 rfl 2 rfl ?_
      refine zm_aload_n 33 rfl dX10_pleasureOf_32 rfl 0 rfl ?_
      refine zm_getR (a := 47) 36 rfl dX10_pleasureOf_33 fl_X10_76 rfl (zm_L (sv := sv) rfl) rfl (by decide) ?_
      refine zm_iload_n 37 rfl dX10_pleasureOf_36 rfl 1 rfl ?_
      refine zm_iload_n 38 rfl dX10_pleasureOf_37 rfl 3 rfl ?_
      refine zm_iconst 39 rfl dX10_pleasureOf_38 zi_m1 ?_
      refine zm_cV3i 42 rfl dX10_pleasureOf_39 ml_X10_165 rfl (zm_L (sv := sv) rfl) rfl (Nat.le_of_ble_eq_true rfl) ⟨Nat.le_of_ble_eq_true rfl, Nat.le_of_ble_eq_true rfl⟩ rfl rfl ⟨Nat.le_refl _, Nat.le_refl _⟩ rfl (fun _ _ h => k_X3_liking E sv a1 l8_3 (-1) L8 h) (fun r39 M39 => ?_)
      refine zm_iadd 43 rfl dX10_pleasureOf_42 ?_
      refine zm_nmi (fun x43 _ => ?_)
      refine zm_istore_n (lv' := [(2, .int x43), (0, .ref (E.2.1 + 1)), (1, .int a1), (3, .int l8_3)]) 44 rfl dX10_pleasureOf_43 rfl (by decide) rfl ?_
      exact zm_loc [1, 2, 0, 3] rfl (hb44_8 x43 M39)
abbrev Y_X10_house : zm_Y := (cX10_house, 3, RX10, { frames := 4, cells := 0, slots := 0, locals := 97 }, (some .int), false, "house")
noncomputable def f_X10_house (a1 : Int32) (a2 : Int32) (M : zm_Mem) : Option (Int32 × zm_Mem) :=
  zm_b1 (f_X10_isHouse a1 M) <| fun r2 => if r2 = 0 then (some ((-1), M)) else (if a2 = 0 then (zm_v (M.2.2 1 9) <| fun t45 => zm_ck (zm_isT t45) <| zm_ck (zm_in a1 5) <| some (M.1 (t45 + 1) a1.toNatClampNeg, M)) else if a2 = 1 then (zm_v (M.2.2 1 9) <| fun t55 => zm_ck (zm_isT t55) <| zm_ck (zm_in a1 5) <| some (M.1 (t55 + 2) a1.toNatClampNeg, M)) else if a2 = 2 then (zm_b1 (f_X10_worksIn a1 M) <| fun r66 => some (r66, M)) else if a2 = 3 then (zm_b1 (f_X10_worksOwnedBy a1 M) <| fun r72 => some (r72, M)) else if a2 = 4 then (zm_b2 (f_X10_pleasureOf a1 M) <| fun r78 M78 => some (r78, M78)) else (some ((-1), M)))
set_option maxRecDepth 20000 in
set_option maxHeartbeats 4000000 in
theorem k_X10_house (E : zm_E) (sv : Nat) (a1 : Int32) (a2 : Int32) (M : zm_Mem) {r : Int32} {M' : zm_Mem} (h : f_X10_house a1 a2 M = some (r, M')) : zm_Ct E (zm_w sv) (zm_w sv) yX10_house Y_X10_house [.ref (E.2.1 + 1), .int a1, .int a2] M (some (.int r)) M' := by
  refine zm_meth (emb := zm_ei) (d := f_X10_house a1 a2 M) (by decide) rfl rfl (Nat.le_of_ble_eq_true rfl) h (fun X => ?_)
  show zm_V X Y_X10_house E (zm_Q X E Y_X10_house.2.2.2.1.cells Y_X10_house.2.2.2.1.slots (zm_w sv) zm_ei) 0 0 false (zm_w sv) 0 [(0, .ref (E.2.1 + 1)), (1, .int a1), (2, .int a2)] [] M (f_X10_house a1 a2 M) some
  unfold f_X10_house
  refine zm_aload_n 1 rfl dX10_house_0 rfl 0 rfl ?_
  refine zm_iload_n 2 rfl dX10_house_1 rfl 1 rfl ?_
  refine zm_cV1ir 5 rfl dX10_house_2 ml_X10_101 rfl (zm_L (sv := sv) rfl) rfl (Nat.le_of_ble_eq_true rfl) ⟨Nat.le_of_ble_eq_true rfl, Nat.le_of_ble_eq_true rfl⟩ rfl rfl ⟨Nat.le_refl _, Nat.le_refl _⟩ rfl (fun _ h => k_X10_isHouse E sv a1 M h) (fun r2 => ?_)
  refine zm_if_ne 10 8 (by decide) rfl dX10_house_5 ?_ ?_
  · refine zm_iconst 9 rfl dX10_house_8 zi_m1 ?_
    exact zm_iret dX10_house_9 rfl (Nat.le_refl _) (Nat.le_refl _) rfl
  · refine zm_iload_n 11 rfl dX10_house_10 rfl 2 rfl ?_
    refine zm_case (fun hc => ?_) (fun hc0_11 => ?_)
    · refine zm_tsIn (off := 33) 44 hc dX10_house_11 (by decide) (by decide) (by decide) (by decide) ?_
      refine zm_aload_n 45 rfl dX10_house_44 rfl 0 rfl ?_
      refine zm_getT 48 rfl dX10_house_45 fl_X10_60 rfl (zm_L (sv := sv) rfl) (fun t45 _ ht45 => ?_)
      refine zm_getR (a := t45 + 1) 51 rfl dX10_house_48 fl_X10_105 (zm_T_o ht45) (zm_T_l0 (sv := sv) ht45) (zm_T_r ht45 0 (by decide)) (Nat.succ_ne_zero _) ?_
      refine zm_iload_n 52 rfl dX10_house_51 rfl 1 rfl ?_
      refine zm_iald 53 rfl dX10_house_52 (zm_T_a ht45 1 (by decide)) (zm_T_l (sv := sv) ht45 1 (by decide)) ?_
      exact zm_iret dX10_house_53 rfl (Nat.le_refl _) (Nat.le_refl _) rfl
    refine zm_case (fun hc => ?_) (fun hc1_11 => ?_)
    · refine zm_tsIn (off := 43) 54 hc dX10_house_11 (by decide) (by decide) (by decide) (by decide) ?_
      refine zm_aload_n 55 rfl dX10_house_54 rfl 0 rfl ?_
      refine zm_getT 58 rfl dX10_house_55 fl_X10_60 rfl (zm_L (sv := sv) rfl) (fun t55 _ ht55 => ?_)
      refine zm_getR (a := t55 + 2) 61 rfl dX10_house_58 fl_X10_108 (zm_T_o ht55) (zm_T_l0 (sv := sv) ht55) (zm_T_r ht55 1 (by decide)) (Nat.succ_ne_zero _) ?_
      refine zm_iload_n 62 rfl dX10_house_61 rfl 1 rfl ?_
      refine zm_iald 63 rfl dX10_house_62 (zm_T_a ht55 2 (by decide)) (zm_T_l (sv := sv) ht55 2 (by decide)) ?_
      exact zm_iret dX10_house_63 rfl (Nat.le_refl _) (Nat.le_refl _) rfl
    refine zm_case (fun hc => ?_) (fun hc2_11 => ?_)
    · refine zm_tsIn (off := 53) 64 hc dX10_house_11 (by decide) (by decide) (by decide) (by decide) ?_
      refine zm_aload_n 65 rfl dX10_house_64 rfl 0 rfl ?_
      refine zm_iload_n 66 rfl dX10_house_65 rfl 1 rfl ?_
      refine zm_cV1ir 69 rfl dX10_house_66 ml_X10_111 rfl (zm_L (sv := sv) rfl) rfl (Nat.le_of_ble_eq_true rfl) ⟨Nat.le_of_ble_eq_true rfl, Nat.le_of_ble_eq_true rfl⟩ rfl rfl ⟨Nat.le_refl _, Nat.le_refl _⟩ rfl (fun _ h => k_X10_worksIn E sv a1 M h) (fun r66 => ?_)
      exact zm_iret dX10_house_69 rfl (Nat.le_refl _) (Nat.le_refl _) rfl
    refine zm_case (fun hc => ?_) (fun hc3_11 => ?_)
    · refine zm_tsIn (off := 59) 70 hc dX10_house_11 (by decide) (by decide) (by decide) (by decide) ?_
      refine zm_aload_n 71 rfl dX10_house_70 rfl 0 rfl ?_
      refine zm_iload_n 72 rfl dX10_house_71 rfl 1 rfl ?_
      refine zm_cV1ir 75 rfl dX10_house_72 ml_X10_115 rfl (zm_L (sv := sv) rfl) rfl (Nat.le_of_ble_eq_true rfl) ⟨Nat.le_of_ble_eq_true rfl, Nat.le_of_ble_eq_true rfl⟩ rfl rfl ⟨Nat.le_refl _, Nat.le_refl _⟩ rfl (fun _ h => k_X10_worksOwnedBy E sv a1 M h) (fun r72 => ?_)
      exact zm_iret dX10_house_75 rfl (Nat.le_refl _) (Nat.le_refl _) rfl
    refine zm_case (fun hc => ?_) (fun hc4_11 => ?_)
    · refine zm_tsIn (off := 65) 76 hc dX10_house_11 (by decide) (by decide) (by decide) (by decide) ?_
      refine zm_aload_n 77 rfl dX10_house_76 rfl 0 rfl ?_
      refine zm_iload_n 78 rfl dX10_house_77 rfl 1 rfl ?_
      refine zm_cV1i 81 rfl dX10_house_78 ml_X10_118 rfl (zm_L (sv := sv) rfl) rfl (Nat.le_of_ble_eq_true rfl) ⟨Nat.le_of_ble_eq_true rfl, Nat.le_of_ble_eq_true rfl⟩ rfl rfl ⟨Nat.le_refl _, Nat.le_refl _⟩ rfl (fun _ _ h => k_X10_pleasureOf E sv a1 M h) (fun r78 M78 => ?_)
      exact zm_iret dX10_house_81 rfl (Nat.le_refl _) (Nat.le_refl _) rfl
    refine zm_tsOut 82 dX10_house_11 (by have hn0 := zm_ne hc0_11 (w := 0) (by decide); have hn1 := zm_ne hc1_11 (w := 1) (by decide); have hn2 := zm_ne hc2_11 (w := 2) (by decide); have hn3 := zm_ne hc3_11 (w := 3) (by decide); have hn4 := zm_ne hc4_11 (w := 4) (by decide); omega) (by decide) ?_
    refine zm_iconst 83 rfl dX10_house_82 zi_m1 ?_
    exact zm_iret dX10_house_83 rfl (Nat.le_refl _) (Nat.le_refl _) rfl
abbrev Y_X10_isWork : zm_Y := (cX10_isWork, 2, RX10, { frames := 0, cells := 0, slots := 0, locals := 0 }, (some .boolean), false, "isWork")
noncomputable def f_X10_isWork_b19  : Option Int32 :=
 some 0
noncomputable def f_X10_isWork (a1 : Int32) (M : zm_Mem) : Option Int32 :=
  if a1 < 0 then (f_X10_isWork_b19) else (zm_v (M.2.2 1 9) <| fun t6 => zm_ck (zm_isT t6) <| if (M.1 t6 12) ≤ a1 then (f_X10_isWork_b19) else (some 1))
set_option maxRecDepth 20000 in
set_option maxHeartbeats 4000000 in
theorem k_X10_isWork (E : zm_E) (sv : Nat) (a1 : Int32) (M : zm_Mem) {r : Int32} (h : f_X10_isWork a1 M = some r) : zm_Ct E (zm_w sv) (zm_w sv) yX10_isWork Y_X10_isWork [.ref (E.2.1 + 1), .int a1] M (some (.int r)) M := by
  refine zm_methr (emb := zm_ei) (d := f_X10_isWork a1 M) (by decide) rfl rfl (Nat.le_of_ble_eq_true rfl) h (fun X => ?_)
  show zm_V X Y_X10_isWork E (zm_Q X E Y_X10_isWork.2.2.2.1.cells Y_X10_isWork.2.2.2.1.slots (zm_w sv) zm_ei) 0 0 false (zm_w sv) 0 [(0, .ref (E.2.1 + 1)), (1, .int a1)] [] M (f_X10_isWork a1 M) (fun r => some (r, M))
  unfold f_X10_isWork
  refine zm_iload_n 1 rfl dX10_isWork_0 rfl 1 rfl ?_
  have hb19 : zm_V X Y_X10_isWork E (zm_Q X E Y_X10_isWork.2.2.2.1.cells Y_X10_isWork.2.2.2.1.slots (zm_w sv) zm_ei) 0 0 false (zm_w sv) 19 [] [] M (f_X10_isWork_b19) (fun r => some (r, M)) := by
    unfold f_X10_isWork_b19
    refine zm_iconst 20 rfl dX10_isWork_19 zi_0 ?_
    exact zm_zret dX10_isWork_20 rfl rfl (Nat.le_refl _) (Nat.le_refl _) rfl
  refine zm_if_lt 19 4 (by decide) rfl dX10_isWork_1 ?_ ?_
  · exact zm_loc [] rfl (hb19)
  · refine zm_iload_n 5 rfl dX10_isWork_4 rfl 1 rfl ?_
    refine zm_aload_n 6 rfl dX10_isWork_5 rfl 0 rfl ?_
    refine zm_getT 9 rfl dX10_isWork_6 fl_X10_60 rfl (zm_L (sv := sv) rfl) (fun t6 _ ht6 => ?_)
    refine zm_getI 12 rfl dX10_isWork_9 fl_X10_236 (zm_T_o ht6) (zm_T_l0 (sv := sv) ht6) ?_
    refine zm_icmp_ge 19 15 (by decide) rfl dX10_isWork_12 ?_ ?_
    · exact zm_loc [] rfl (hb19)
    · refine zm_iconst 16 rfl dX10_isWork_15 zi_1 ?_
      refine zm_goto 20 (by decide) dX10_isWork_16 ?_
      exact zm_zret dX10_isWork_20 rfl rfl (Nat.le_refl _) (Nat.le_refl _) rfl
abbrev Y_X10_standing : zm_Y := (cX10_standing, 1, RX10, { frames := 0, cells := 0, slots := 0, locals := 0 }, (some .int), false, "standing")
noncomputable def f_X10_standing  (M : zm_Mem) : Option Int32 :=
  zm_v (M.2.2 1 9) <| fun t2 => zm_ck (zm_isT t2) <| zm_ck (zm_in 3 47) <| some ((((1 : Int32) <<< ((M.1 t2 13) &&& 31)) - 1) &&& ((M.1 12 (3 : Int32).toNatClampNeg) ^^^ (-1)))
set_option maxRecDepth 20000 in
set_option maxHeartbeats 4000000 in
theorem k_X10_standing (E : zm_E) (sv : Nat)  (M : zm_Mem) {r : Int32} (h : f_X10_standing M = some r) : zm_Ct E (zm_w sv) (zm_w sv) yX10_standing Y_X10_standing [.ref (E.2.1 + 1)] M (some (.int r)) M := by
  refine zm_methr (emb := zm_ei) (d := f_X10_standing M) (by decide) rfl rfl (Nat.le_of_ble_eq_true rfl) h (fun X => ?_)
  show zm_V X Y_X10_standing E (zm_Q X E Y_X10_standing.2.2.2.1.cells Y_X10_standing.2.2.2.1.slots (zm_w sv) zm_ei) 0 0 false (zm_w sv) 0 [(0, .ref (E.2.1 + 1))] [] M (f_X10_standing M) (fun r => some (r, M))
  unfold f_X10_standing
  refine zm_iconst 1 rfl dX10_standing_0 zi_1 ?_
  refine zm_aload_n 2 rfl dX10_standing_1 rfl 0 rfl ?_
  refine zm_getT 5 rfl dX10_standing_2 fl_X10_60 rfl (zm_L (sv := sv) rfl) (fun t2 _ ht2 => ?_)
  refine zm_getI 8 rfl dX10_standing_5 fl_X10_317 (zm_T_o ht2) (zm_T_l0 (sv := sv) ht2) ?_
  refine zm_ishl 9 rfl dX10_standing_8 ?_
  refine zm_iconst 10 rfl dX10_standing_9 zi_1 ?_
  refine zm_isub 11 rfl dX10_standing_10 ?_
  refine zm_aload_n 12 rfl dX10_standing_11 rfl 0 rfl ?_
  refine zm_getR (a := 11) 15 rfl dX10_standing_12 fl_X10_32 rfl (zm_L (sv := sv) rfl) rfl (by decide) ?_
  refine zm_getR (a := 12) 18 rfl dX10_standing_15 fl_X10_142 rfl (zm_L (sv := sv) rfl) rfl (by decide) ?_
  refine zm_iconst 19 rfl dX10_standing_18 zi_3 ?_
  refine zm_iald 20 rfl dX10_standing_19 rfl (zm_L (sv := sv) rfl) ?_
  refine zm_iconst 21 rfl dX10_standing_20 zi_m1 ?_
  refine zm_ixor 22 rfl dX10_standing_21 ?_
  refine zm_iand 23 rfl dX10_standing_22 ?_
  exact zm_iret dX10_standing_23 rfl (Nat.le_refl _) (Nat.le_refl _) rfl
abbrev Y_X10_work : zm_Y := (cX10_work, 4, RX10, { frames := 2, cells := 0, slots := 0, locals := 42 }, (some .int), false, "work")
noncomputable def f_X10_work (a1 : Int32) (a2 : Int32) (M : zm_Mem) : Option Int32 :=
  zm_b1 (f_X10_isWork a1 M) <| fun r2 => if r2 = 0 then (some (-1)) else (zm_b1 (f_X4_underWay a1 M) <| fun r15 => if a2 = 0 then (zm_v (M.2.2 1 9) <| fun t69 => zm_ck (zm_isT t69) <| zm_ck (zm_in a1 6) <| some (M.1 (t69 + 3) a1.toNatClampNeg)) else if a2 = 1 then (if r15 = 0 then (zm_b1 (f_X4_goal a1 M) <| fun r92 => some r92) else (some (-2))) else if a2 = 2 then (zm_v (M.2.2 1 9) <| fun t97 => zm_ck (zm_isT t97) <| zm_ck (zm_in a1 6) <| some (M.1 (t97 + 5) a1.toNatClampNeg)) else if a2 = 3 then (zm_v (M.2.2 1 9) <| fun t107 => zm_ck (zm_isT t107) <| zm_ck (zm_in a1 6) <| some (M.1 (t107 + 6) a1.toNatClampNeg)) else if a2 = 4 then (if r15 = 0 then (some (-2)) else (zm_b1 (f_X4_goal a1 M) <| fun r125 => some r125)) else if a2 = 5 then (if r15 = 0 then (some (-2)) else (zm_b1 (f_X4_arrival a1 M) <| fun r143 => some r143)) else if a2 = 6 then (zm_ck (zm_in (16 + a1) 47) <| some (M.1 12 (16 + a1).toNatClampNeg)) else if a2 = 7 then (zm_v (M.2.2 1 9) <| fun t166 => zm_ck (zm_isT t166) <| zm_b1 (f_X8_termsOf t166 a1 M) <| fun r170 => zm_b1 (f_X10_standing M) <| fun r174 => some (r170 &&& r174)) else (some (-1)))
set_option maxRecDepth 20000 in
set_option maxHeartbeats 4000000 in
theorem k_X10_work (E : zm_E) (sv : Nat) (a1 : Int32) (a2 : Int32) (M : zm_Mem) {r : Int32} (h : f_X10_work a1 a2 M = some r) : zm_Ct E (zm_w sv) (zm_w sv) yX10_work Y_X10_work [.ref (E.2.1 + 1), .int a1, .int a2] M (some (.int r)) M := by
  refine zm_methr (emb := zm_ei) (d := f_X10_work a1 a2 M) (by decide) rfl rfl (Nat.le_of_ble_eq_true rfl) h (fun X => ?_)
  show zm_V X Y_X10_work E (zm_Q X E Y_X10_work.2.2.2.1.cells Y_X10_work.2.2.2.1.slots (zm_w sv) zm_ei) 0 0 false (zm_w sv) 0 [(0, .ref (E.2.1 + 1)), (1, .int a1), (2, .int a2)] [] M (f_X10_work a1 a2 M) (fun r => some (r, M))
  unfold f_X10_work
  refine zm_aload_n 1 rfl dX10_work_0 rfl 0 rfl ?_
  refine zm_iload_n 2 rfl dX10_work_1 rfl 1 rfl ?_
  refine zm_cV1ir 5 rfl dX10_work_2 ml_X10_121 rfl (zm_L (sv := sv) rfl) rfl (Nat.le_of_ble_eq_true rfl) ⟨Nat.le_of_ble_eq_true rfl, Nat.le_of_ble_eq_true rfl⟩ rfl rfl ⟨Nat.le_refl _, Nat.le_refl _⟩ rfl (fun _ h => k_X10_isWork E sv a1 M h) (fun r2 => ?_)
  refine zm_if_ne 10 8 (by decide) rfl dX10_work_5 ?_ ?_
  · refine zm_iconst 9 rfl dX10_work_8 zi_m1 ?_
    exact zm_iret dX10_work_9 rfl (Nat.le_refl _) (Nat.le_refl _) rfl
  · refine zm_aload_n 11 rfl dX10_work_10 rfl 0 rfl ?_
    refine zm_getR (a := 11) 14 rfl dX10_work_11 fl_X10_32 rfl (zm_L (sv := sv) rfl) rfl (by decide) ?_
    refine zm_iload_n 15 rfl dX10_work_14 rfl 1 rfl ?_
    refine zm_cV1ir 18 rfl dX10_work_15 ml_X10_124 rfl (zm_L (sv := sv) rfl) rfl (Nat.le_of_ble_eq_true rfl) ⟨Nat.le_of_ble_eq_true rfl, Nat.le_of_ble_eq_true rfl⟩ rfl rfl ⟨Nat.le_refl _, Nat.le_refl _⟩ rfl (fun _ h => k_X4_underWay E sv a1 M h) (fun r15 => ?_)
    refine zm_istore_n (lv' := [(3, .int r15), (0, .ref (E.2.1 + 1)), (1, .int a1), (2, .int a2)]) 19 rfl dX10_work_18 rfl (by decide) rfl ?_
    refine zm_iload_n 20 rfl dX10_work_19 rfl 3 rfl ?_
    refine zm_case (fun hc => ?_) (fun hc0_20 => ?_)
    · refine zm_tsIn (off := 48) 68 hc dX10_work_20 (by decide) (by decide) (by decide) (by decide) ?_
      refine zm_aload_n 69 rfl dX10_work_68 rfl 1 rfl ?_
      refine zm_getT 72 rfl dX10_work_69 fl_X10_60 rfl (zm_L (sv := sv) rfl) (fun t69 _ ht69 => ?_)
      refine zm_getR (a := t69 + 3) 75 rfl dX10_work_72 fl_X10_127 (zm_T_o ht69) (zm_T_l0 (sv := sv) ht69) (zm_T_r ht69 2 (by decide)) (Nat.succ_ne_zero _) ?_
      refine zm_iload_n 76 rfl dX10_work_75 rfl 2 rfl ?_
      refine zm_iald 77 rfl dX10_work_76 (zm_T_a ht69 3 (by decide)) (zm_T_l (sv := sv) ht69 3 (by decide)) ?_
      exact zm_iret dX10_work_77 rfl (Nat.le_refl _) (Nat.le_refl _) rfl
    refine zm_case (fun hc => ?_) (fun hc1_20 => ?_)
    · refine zm_tsIn (off := 58) 78 hc dX10_work_20 (by decide) (by decide) (by decide) (by decide) ?_
      refine zm_iload_n 79 rfl dX10_work_78 rfl 0 rfl ?_
      refine zm_if_eq 87 82 (by decide) rfl dX10_work_79 ?_ ?_
      · refine zm_aload_n 88 rfl dX10_work_87 rfl 1 rfl ?_
        refine zm_getR (a := 11) 91 rfl dX10_work_88 fl_X10_32 rfl (zm_L (sv := sv) rfl) rfl (by decide) ?_
        refine zm_iload_n 92 rfl dX10_work_91 rfl 2 rfl ?_
        refine zm_cV1ir 95 rfl dX10_work_92 ml_X10_130 rfl (zm_L (sv := sv) rfl) rfl (Nat.le_of_ble_eq_true rfl) ⟨Nat.le_of_ble_eq_true rfl, Nat.le_of_ble_eq_true rfl⟩ rfl rfl ⟨Nat.le_refl _, Nat.le_refl _⟩ rfl (fun _ h => k_X4_goal E sv a1 M h) (fun r92 => ?_)
        exact zm_iret dX10_work_95 rfl (Nat.le_refl _) (Nat.le_refl _) rfl
      · refine zm_bipush 84 rfl dX10_work_82 zb_m2 ?_
        refine zm_goto 95 (by decide) dX10_work_84 ?_
        exact zm_iret dX10_work_95 rfl (Nat.le_refl _) (Nat.le_refl _) rfl
    refine zm_case (fun hc => ?_) (fun hc2_20 => ?_)
    · refine zm_tsIn (off := 76) 96 hc dX10_work_20 (by decide) (by decide) (by decide) (by decide) ?_
      refine zm_aload_n 97 rfl dX10_work_96 rfl 1 rfl ?_
      refine zm_getT 100 rfl dX10_work_97 fl_X10_60 rfl (zm_L (sv := sv) rfl) (fun t97 _ ht97 => ?_)
      refine zm_getR (a := t97 + 5) 103 rfl dX10_work_100 fl_X10_133 (zm_T_o ht97) (zm_T_l0 (sv := sv) ht97) (zm_T_r ht97 4 (by decide)) (Nat.succ_ne_zero _) ?_
      refine zm_iload_n 104 rfl dX10_work_103 rfl 2 rfl ?_
      refine zm_iald 105 rfl dX10_work_104 (zm_T_a ht97 5 (by decide)) (zm_T_l (sv := sv) ht97 5 (by decide)) ?_
      exact zm_iret dX10_work_105 rfl (Nat.le_refl _) (Nat.le_refl _) rfl
    refine zm_case (fun hc => ?_) (fun hc3_20 => ?_)
    · refine zm_tsIn (off := 86) 106 hc dX10_work_20 (by decide) (by decide) (by decide) (by decide) ?_
      refine zm_aload_n 107 rfl dX10_work_106 rfl 1 rfl ?_
      refine zm_getT 110 rfl dX10_work_107 fl_X10_60 rfl (zm_L (sv := sv) rfl) (fun t107 _ ht107 => ?_)
      refine zm_getR (a := t107 + 6) 113 rfl dX10_work_110 fl_X10_136 (zm_T_o ht107) (zm_T_l0 (sv := sv) ht107) (zm_T_r ht107 5 (by decide)) (Nat.succ_ne_zero _) ?_
      refine zm_iload_n 114 rfl dX10_work_113 rfl 2 rfl ?_
      refine zm_iald 115 rfl dX10_work_114 (zm_T_a ht107 6 (by decide)) (zm_T_l (sv := sv) ht107 6 (by decide)) ?_
      exact zm_iret dX10_work_115 rfl (Nat.le_refl _) (Nat.le_refl _) rfl
    refine zm_case (fun hc => ?_) (fun hc4_20 => ?_)
    · refine zm_tsIn (off := 96) 116 hc dX10_work_20 (by decide) (by decide) (by decide) (by decide) ?_
      refine zm_iload_n 117 rfl dX10_work_116 rfl 0 rfl ?_
      refine zm_if_eq 131 120 (by decide) rfl dX10_work_117 ?_ ?_
      · refine zm_bipush 133 rfl dX10_work_131 zb_m2 ?_
        exact zm_iret dX10_work_133 rfl (Nat.le_refl _) (Nat.le_refl _) rfl
      · refine zm_aload_n 121 rfl dX10_work_120 rfl 1 rfl ?_
        refine zm_getR (a := 11) 124 rfl dX10_work_121 fl_X10_32 rfl (zm_L (sv := sv) rfl) rfl (by decide) ?_
        refine zm_iload_n 125 rfl dX10_work_124 rfl 2 rfl ?_
        refine zm_cV1ir 128 rfl dX10_work_125 ml_X10_130 rfl (zm_L (sv := sv) rfl) rfl (Nat.le_of_ble_eq_true rfl) ⟨Nat.le_of_ble_eq_true rfl, Nat.le_of_ble_eq_true rfl⟩ rfl rfl ⟨Nat.le_refl _, Nat.le_refl _⟩ rfl (fun _ h => k_X4_goal E sv a1 M h) (fun r125 => ?_)
        refine zm_goto 133 (by decide) dX10_work_128 ?_
        exact zm_iret dX10_work_133 rfl (Nat.le_refl _) (Nat.le_refl _) rfl
    refine zm_case (fun hc => ?_) (fun hc5_20 => ?_)
    · refine zm_tsIn (off := 114) 134 hc dX10_work_20 (by decide) (by decide) (by decide) (by decide) ?_
      refine zm_iload_n 135 rfl dX10_work_134 rfl 0 rfl ?_
      refine zm_if_eq 149 138 (by decide) rfl dX10_work_135 ?_ ?_
      · refine zm_bipush 151 rfl dX10_work_149 zb_m2 ?_
        exact zm_iret dX10_work_151 rfl (Nat.le_refl _) (Nat.le_refl _) rfl
      · refine zm_aload_n 139 rfl dX10_work_138 rfl 1 rfl ?_
        refine zm_getR (a := 11) 142 rfl dX10_work_139 fl_X10_32 rfl (zm_L (sv := sv) rfl) rfl (by decide) ?_
        refine zm_iload_n 143 rfl dX10_work_142 rfl 2 rfl ?_
        refine zm_cV1ir 146 rfl dX10_work_143 ml_X10_139 rfl (zm_L (sv := sv) rfl) rfl (Nat.le_of_ble_eq_true rfl) ⟨Nat.le_of_ble_eq_true rfl, Nat.le_of_ble_eq_true rfl⟩ rfl rfl ⟨Nat.le_refl _, Nat.le_refl _⟩ rfl (fun _ h => k_X4_arrival E sv a1 M h) (fun r143 => ?_)
        refine zm_goto 151 (by decide) dX10_work_146 ?_
        exact zm_iret dX10_work_151 rfl (Nat.le_refl _) (Nat.le_refl _) rfl
    refine zm_case (fun hc => ?_) (fun hc6_20 => ?_)
    · refine zm_tsIn (off := 132) 152 hc dX10_work_20 (by decide) (by decide) (by decide) (by decide) ?_
      refine zm_aload_n 153 rfl dX10_work_152 rfl 1 rfl ?_
      refine zm_getR (a := 11) 156 rfl dX10_work_153 fl_X10_32 rfl (zm_L (sv := sv) rfl) rfl (by decide) ?_
      refine zm_getR (a := 12) 159 rfl dX10_work_156 fl_X10_142 rfl (zm_L (sv := sv) rfl) rfl (by decide) ?_
      refine zm_bipush 161 rfl dX10_work_159 zb_16 ?_
      refine zm_iload_n 162 rfl dX10_work_161 rfl 2 rfl ?_
      refine zm_iadd 163 rfl dX10_work_162 ?_
      refine zm_iald 164 rfl dX10_work_163 rfl (zm_L (sv := sv) rfl) ?_
      exact zm_iret dX10_work_164 rfl (Nat.le_refl _) (Nat.le_refl _) rfl
    refine zm_case (fun hc => ?_) (fun hc7_20 => ?_)
    · refine zm_tsIn (off := 145) 165 hc dX10_work_20 (by decide) (by decide) (by decide) (by decide) ?_
      refine zm_aload_n 166 rfl dX10_work_165 rfl 1 rfl ?_
      refine zm_getT 169 rfl dX10_work_166 fl_X10_60 rfl (zm_L (sv := sv) rfl) (fun t166 _ ht166 => ?_)
      refine zm_iload_n 170 rfl dX10_work_169 rfl 2 rfl ?_
      refine zm_cV1ir 173 rfl dX10_work_170 ml_X10_145 (zm_T_o ht166) (zm_T_l0 (sv := sv) ht166) rfl (Nat.le_of_ble_eq_true rfl) ⟨Nat.le_of_ble_eq_true rfl, Nat.le_of_ble_eq_true rfl⟩ rfl rfl ⟨Nat.le_refl _, Nat.le_refl _⟩ rfl (fun _ h => k_X8_termsOf E (zm_w sv) t166 a1 ht166 (zm_T_l (sv := sv) ht166 10 (Nat.le_refl _)).2 (fun j hj => zm_T_r ht166 j hj) M h) (fun r170 => ?_)
      refine zm_aload_n 174 rfl dX10_work_173 rfl 1 rfl ?_
      refine zm_cV0ir 177 rfl dX10_work_174 ml_X10_148 rfl (zm_L (sv := sv) rfl) rfl (Nat.le_of_ble_eq_true rfl) ⟨Nat.le_of_ble_eq_true rfl, Nat.le_of_ble_eq_true rfl⟩ rfl rfl ⟨Nat.le_refl _, Nat.le_refl _⟩ rfl (fun _ h => k_X10_standing E sv M h) (fun r174 => ?_)
      refine zm_iand 178 rfl dX10_work_177 ?_
      exact zm_iret dX10_work_178 rfl (Nat.le_refl _) (Nat.le_refl _) rfl
    refine zm_tsOut 179 dX10_work_20 (by have hn0 := zm_ne hc0_20 (w := 0) (by decide); have hn1 := zm_ne hc1_20 (w := 1) (by decide); have hn2 := zm_ne hc2_20 (w := 2) (by decide); have hn3 := zm_ne hc3_20 (w := 3) (by decide); have hn4 := zm_ne hc4_20 (w := 4) (by decide); have hn5 := zm_ne hc5_20 (w := 5) (by decide); have hn6 := zm_ne hc6_20 (w := 6) (by decide); have hn7 := zm_ne hc7_20 (w := 7) (by decide); omega) (by decide) ?_
    refine zm_iconst 180 rfl dX10_work_179 zi_m1 ?_
    exact zm_iret dX10_work_180 rfl (Nat.le_refl _) (Nat.le_refl _) rfl
abbrev Y_X10_may : zm_Y := (cX10_may, 3, RX10, { frames := 4, cells := 0, slots := 0, locals := 96 }, (some .int), false, "may")
noncomputable def f_X10_may (a1 : Int32) (a2 : Int32) (M : zm_Mem) : Option (Int32 × zm_Mem) :=
  zm_b1 (f_X10_isWork a1 M) <| fun r2 => if r2 = 0 then (some ((-1), M)) else (zm_b1 (f_X10_isHouse a2 M) <| fun r10 => if r10 = 0 then (some ((-1), M)) else (zm_b2 (f_X10_lookToday M) <| fun _ M19 => zm_b1 (f_X10_standing M19) <| fun r29 => zm_b2 (f_X3_canHang a1 a2 r29 M19) <| fun r32 M32 => if r32 = 0 then (some (0, M32)) else (some (1, M32))))
set_option maxRecDepth 20000 in
set_option maxHeartbeats 4000000 in
theorem k_X10_may (E : zm_E) (sv : Nat) (a1 : Int32) (a2 : Int32) (M : zm_Mem) {r : Int32} {M' : zm_Mem} (h : f_X10_may a1 a2 M = some (r, M')) : zm_Ct E (zm_w sv) (zm_w sv) yX10_may Y_X10_may [.ref (E.2.1 + 1), .int a1, .int a2] M (some (.int r)) M' := by
  refine zm_meth (emb := zm_ei) (d := f_X10_may a1 a2 M) (by decide) rfl rfl (Nat.le_of_ble_eq_true rfl) h (fun X => ?_)
  show zm_V X Y_X10_may E (zm_Q X E Y_X10_may.2.2.2.1.cells Y_X10_may.2.2.2.1.slots (zm_w sv) zm_ei) 0 0 false (zm_w sv) 0 [(0, .ref (E.2.1 + 1)), (1, .int a1), (2, .int a2)] [] M (f_X10_may a1 a2 M) some
  unfold f_X10_may
  refine zm_aload_n 1 rfl dX10_may_0 rfl 0 rfl ?_
  refine zm_iload_n 2 rfl dX10_may_1 rfl 1 rfl ?_
  refine zm_cV1ir 5 rfl dX10_may_2 ml_X10_121 rfl (zm_L (sv := sv) rfl) rfl (Nat.le_of_ble_eq_true rfl) ⟨Nat.le_of_ble_eq_true rfl, Nat.le_of_ble_eq_true rfl⟩ rfl rfl ⟨Nat.le_refl _, Nat.le_refl _⟩ rfl (fun _ h => k_X10_isWork E sv a1 M h) (fun r2 => ?_)
  refine zm_if_eq 16 8 (by decide) rfl dX10_may_5 ?_ ?_
  · refine zm_iconst 17 rfl dX10_may_16 zi_m1 ?_
    exact zm_iret dX10_may_17 rfl (Nat.le_refl _) (Nat.le_refl _) rfl
  · refine zm_aload_n 9 rfl dX10_may_8 rfl 0 rfl ?_
    refine zm_iload_n 10 rfl dX10_may_9 rfl 2 rfl ?_
    refine zm_cV1ir 13 rfl dX10_may_10 ml_X10_101 rfl (zm_L (sv := sv) rfl) rfl (Nat.le_of_ble_eq_true rfl) ⟨Nat.le_of_ble_eq_true rfl, Nat.le_of_ble_eq_true rfl⟩ rfl rfl ⟨Nat.le_refl _, Nat.le_refl _⟩ rfl (fun _ h => k_X10_isHouse E sv a2 M h) (fun r10 => ?_)
    refine zm_if_ne 18 16 (by decide) rfl dX10_may_13 ?_ ?_
    · refine zm_iconst 17 rfl dX10_may_16 zi_m1 ?_
      exact zm_iret dX10_may_17 rfl (Nat.le_refl _) (Nat.le_refl _) rfl
    · refine zm_aload_n 19 rfl dX10_may_18 rfl 0 rfl ?_
      refine zm_cV0v 22 rfl dX10_may_19 ml_X10_151 rfl (zm_L (sv := sv) rfl) rfl (Nat.le_of_ble_eq_true rfl) ⟨Nat.le_of_ble_eq_true rfl, Nat.le_of_ble_eq_true rfl⟩ rfl rfl ⟨Nat.le_refl _, Nat.le_refl _⟩ rfl (fun _ _ h => k_X10_lookToday E sv M h) (fun _ M19 => ?_)
      refine zm_aload_n 23 rfl dX10_may_22 rfl 0 rfl ?_
      refine zm_getR (a := 47) 26 rfl dX10_may_23 fl_X10_76 rfl (zm_L (sv := sv) rfl) rfl (by decide) ?_
      refine zm_iload_n 27 rfl dX10_may_26 rfl 1 rfl ?_
      refine zm_iload_n 28 rfl dX10_may_27 rfl 2 rfl ?_
      refine zm_aload_n 29 rfl dX10_may_28 rfl 0 rfl ?_
      refine zm_cV0ir 32 rfl dX10_may_29 ml_X10_148 rfl (zm_L (sv := sv) rfl) rfl (Nat.le_of_ble_eq_true rfl) ⟨Nat.le_of_ble_eq_true rfl, Nat.le_of_ble_eq_true rfl⟩ rfl rfl ⟨Nat.le_refl _, Nat.le_refl _⟩ rfl (fun _ h => k_X10_standing E sv M19 h) (fun r29 => ?_)
      refine zm_cV3i 35 rfl dX10_may_32 ml_X10_154 rfl (zm_L (sv := sv) rfl) rfl (Nat.le_of_ble_eq_true rfl) ⟨Nat.le_of_ble_eq_true rfl, Nat.le_of_ble_eq_true rfl⟩ rfl rfl ⟨Nat.le_refl _, Nat.le_refl _⟩ rfl (fun _ _ h => k_X3_canHang E sv a1 a2 r29 M19 h) (fun r32 M32 => ?_)
      refine zm_if_eq 42 38 (by decide) rfl dX10_may_35 ?_ ?_
      · refine zm_iconst 43 rfl dX10_may_42 zi_0 ?_
        exact zm_iret dX10_may_43 rfl (Nat.le_refl _) (Nat.le_refl _) rfl
      · refine zm_iconst 39 rfl dX10_may_38 zi_1 ?_
        refine zm_goto 43 (by decide) dX10_may_39 ?_
        exact zm_iret dX10_may_43 rfl (Nat.le_refl _) (Nat.le_refl _) rfl
abbrev Y_X10_isTerm : zm_Y := (cX10_isTerm, 2, RX10, { frames := 0, cells := 0, slots := 0, locals := 0 }, (some .boolean), false, "isTerm")
noncomputable def f_X10_isTerm_b19  : Option Int32 :=
 some 0
noncomputable def f_X10_isTerm (a1 : Int32) (M : zm_Mem) : Option Int32 :=
  if a1 < 0 then (f_X10_isTerm_b19) else (zm_v (M.2.2 1 9) <| fun t6 => zm_ck (zm_isT t6) <| if (M.1 t6 13) ≤ a1 then (f_X10_isTerm_b19) else (some 1))
set_option maxRecDepth 20000 in
set_option maxHeartbeats 4000000 in
theorem k_X10_isTerm (E : zm_E) (sv : Nat) (a1 : Int32) (M : zm_Mem) {r : Int32} (h : f_X10_isTerm a1 M = some r) : zm_Ct E (zm_w sv) (zm_w sv) yX10_isTerm Y_X10_isTerm [.ref (E.2.1 + 1), .int a1] M (some (.int r)) M := by
  refine zm_methr (emb := zm_ei) (d := f_X10_isTerm a1 M) (by decide) rfl rfl (Nat.le_of_ble_eq_true rfl) h (fun X => ?_)
  show zm_V X Y_X10_isTerm E (zm_Q X E Y_X10_isTerm.2.2.2.1.cells Y_X10_isTerm.2.2.2.1.slots (zm_w sv) zm_ei) 0 0 false (zm_w sv) 0 [(0, .ref (E.2.1 + 1)), (1, .int a1)] [] M (f_X10_isTerm a1 M) (fun r => some (r, M))
  unfold f_X10_isTerm
  refine zm_iload_n 1 rfl dX10_isTerm_0 rfl 1 rfl ?_
  have hb19 : zm_V X Y_X10_isTerm E (zm_Q X E Y_X10_isTerm.2.2.2.1.cells Y_X10_isTerm.2.2.2.1.slots (zm_w sv) zm_ei) 0 0 false (zm_w sv) 19 [] [] M (f_X10_isTerm_b19) (fun r => some (r, M)) := by
    unfold f_X10_isTerm_b19
    refine zm_iconst 20 rfl dX10_isTerm_19 zi_0 ?_
    exact zm_zret dX10_isTerm_20 rfl rfl (Nat.le_refl _) (Nat.le_refl _) rfl
  refine zm_if_lt 19 4 (by decide) rfl dX10_isTerm_1 ?_ ?_
  · exact zm_loc [] rfl (hb19)
  · refine zm_iload_n 5 rfl dX10_isTerm_4 rfl 1 rfl ?_
    refine zm_aload_n 6 rfl dX10_isTerm_5 rfl 0 rfl ?_
    refine zm_getT 9 rfl dX10_isTerm_6 fl_X10_60 rfl (zm_L (sv := sv) rfl) (fun t6 _ ht6 => ?_)
    refine zm_getI 12 rfl dX10_isTerm_9 fl_X10_317 (zm_T_o ht6) (zm_T_l0 (sv := sv) ht6) ?_
    refine zm_icmp_ge 19 15 (by decide) rfl dX10_isTerm_12 ?_ ?_
    · exact zm_loc [] rfl (hb19)
    · refine zm_iconst 16 rfl dX10_isTerm_15 zi_1 ?_
      refine zm_goto 20 (by decide) dX10_isTerm_16 ?_
      exact zm_zret dX10_isTerm_20 rfl rfl (Nat.le_refl _) (Nat.le_refl _) rfl
abbrev Y_X10_holds : zm_Y := (cX10_holds, 3, RX10, { frames := 3, cells := 0, slots := 0, locals := 73 }, (some .int), false, "holds")
noncomputable def f_X10_holds (a1 : Int32) (a2 : Int32) (M : zm_Mem) : Option (Int32 × zm_Mem) :=
  zm_b1 (f_X10_isTerm a1 M) <| fun r2 => if r2 = 0 then (some ((-1), M)) else (zm_b1 (f_X10_isHouse a2 M) <| fun r10 => if r10 = 0 then (some ((-1), M)) else (zm_b2 (f_X10_lookToday M) <| fun _ M19 => zm_b2 (f_X3_termKept a1 a2 M19) <| fun r28 M28 => if r28 = 0 then (some (0, M28)) else (some (1, M28))))
set_option maxRecDepth 20000 in
set_option maxHeartbeats 4000000 in
theorem k_X10_holds (E : zm_E) (sv : Nat) (a1 : Int32) (a2 : Int32) (M : zm_Mem) {r : Int32} {M' : zm_Mem} (h : f_X10_holds a1 a2 M = some (r, M')) : zm_Ct E (zm_w sv) (zm_w sv) yX10_holds Y_X10_holds [.ref (E.2.1 + 1), .int a1, .int a2] M (some (.int r)) M' := by
  refine zm_meth (emb := zm_ei) (d := f_X10_holds a1 a2 M) (by decide) rfl rfl (Nat.le_of_ble_eq_true rfl) h (fun X => ?_)
  show zm_V X Y_X10_holds E (zm_Q X E Y_X10_holds.2.2.2.1.cells Y_X10_holds.2.2.2.1.slots (zm_w sv) zm_ei) 0 0 false (zm_w sv) 0 [(0, .ref (E.2.1 + 1)), (1, .int a1), (2, .int a2)] [] M (f_X10_holds a1 a2 M) some
  unfold f_X10_holds
  refine zm_aload_n 1 rfl dX10_holds_0 rfl 0 rfl ?_
  refine zm_iload_n 2 rfl dX10_holds_1 rfl 1 rfl ?_
  refine zm_cV1ir 5 rfl dX10_holds_2 ml_X10_158 rfl (zm_L (sv := sv) rfl) rfl (Nat.le_of_ble_eq_true rfl) ⟨Nat.le_of_ble_eq_true rfl, Nat.le_of_ble_eq_true rfl⟩ rfl rfl ⟨Nat.le_refl _, Nat.le_refl _⟩ rfl (fun _ h => k_X10_isTerm E sv a1 M h) (fun r2 => ?_)
  refine zm_if_eq 16 8 (by decide) rfl dX10_holds_5 ?_ ?_
  · refine zm_iconst 17 rfl dX10_holds_16 zi_m1 ?_
    exact zm_iret dX10_holds_17 rfl (Nat.le_refl _) (Nat.le_refl _) rfl
  · refine zm_aload_n 9 rfl dX10_holds_8 rfl 0 rfl ?_
    refine zm_iload_n 10 rfl dX10_holds_9 rfl 2 rfl ?_
    refine zm_cV1ir 13 rfl dX10_holds_10 ml_X10_101 rfl (zm_L (sv := sv) rfl) rfl (Nat.le_of_ble_eq_true rfl) ⟨Nat.le_of_ble_eq_true rfl, Nat.le_of_ble_eq_true rfl⟩ rfl rfl ⟨Nat.le_refl _, Nat.le_refl _⟩ rfl (fun _ h => k_X10_isHouse E sv a2 M h) (fun r10 => ?_)
    refine zm_if_ne 18 16 (by decide) rfl dX10_holds_13 ?_ ?_
    · refine zm_iconst 17 rfl dX10_holds_16 zi_m1 ?_
      exact zm_iret dX10_holds_17 rfl (Nat.le_refl _) (Nat.le_refl _) rfl
    · refine zm_aload_n 19 rfl dX10_holds_18 rfl 0 rfl ?_
      refine zm_cV0v 22 rfl dX10_holds_19 ml_X10_151 rfl (zm_L (sv := sv) rfl) rfl (Nat.le_of_ble_eq_true rfl) ⟨Nat.le_of_ble_eq_true rfl, Nat.le_of_ble_eq_true rfl⟩ rfl rfl ⟨Nat.le_refl _, Nat.le_refl _⟩ rfl (fun _ _ h => k_X10_lookToday E sv M h) (fun _ M19 => ?_)
      refine zm_aload_n 23 rfl dX10_holds_22 rfl 0 rfl ?_
      refine zm_getR (a := 47) 26 rfl dX10_holds_23 fl_X10_76 rfl (zm_L (sv := sv) rfl) rfl (by decide) ?_
      refine zm_iload_n 27 rfl dX10_holds_26 rfl 1 rfl ?_
      refine zm_iload_n 28 rfl dX10_holds_27 rfl 2 rfl ?_
      refine zm_cV2i 31 rfl dX10_holds_28 ml_X10_161 rfl (zm_L (sv := sv) rfl) rfl (Nat.le_of_ble_eq_true rfl) ⟨Nat.le_of_ble_eq_true rfl, Nat.le_of_ble_eq_true rfl⟩ rfl rfl ⟨Nat.le_refl _, Nat.le_refl _⟩ rfl (fun _ _ h => k_X3_termKept E sv a1 a2 M19 h) (fun r28 M28 => ?_)
      refine zm_if_eq 38 34 (by decide) rfl dX10_holds_31 ?_ ?_
      · refine zm_iconst 39 rfl dX10_holds_38 zi_0 ?_
        exact zm_iret dX10_holds_39 rfl (Nat.le_refl _) (Nat.le_refl _) rfl
      · refine zm_iconst 35 rfl dX10_holds_34 zi_1 ?_
        refine zm_goto 39 (by decide) dX10_holds_35 ?_
        exact zm_iret dX10_holds_39 rfl (Nat.le_refl _) (Nat.le_refl _) rfl
abbrev Y_X10_likes : zm_Y := (cX10_likes, 3, RX10, { frames := 3, cells := 0, slots := 0, locals := 74 }, (some .int), false, "likes")
noncomputable def f_X10_likes (a1 : Int32) (a2 : Int32) (M : zm_Mem) : Option (Int32 × zm_Mem) :=
  zm_b1 (f_X10_isWork a2 M) <| fun r2 => if r2 = 0 then (some ((-1), M)) else (zm_b1 (f_X10_isHouse a1 M) <| fun r10 => if r10 = 0 then (some ((-1), M)) else (zm_b2 (f_X10_lookToday M) <| fun _ M19 => zm_b2 (f_X3_liking a1 a2 (-1) M19) <| fun r29 M29 => some (r29, M29)))
set_option maxRecDepth 20000 in
set_option maxHeartbeats 4000000 in
theorem k_X10_likes (E : zm_E) (sv : Nat) (a1 : Int32) (a2 : Int32) (M : zm_Mem) {r : Int32} {M' : zm_Mem} (h : f_X10_likes a1 a2 M = some (r, M')) : zm_Ct E (zm_w sv) (zm_w sv) yX10_likes Y_X10_likes [.ref (E.2.1 + 1), .int a1, .int a2] M (some (.int r)) M' := by
  refine zm_meth (emb := zm_ei) (d := f_X10_likes a1 a2 M) (by decide) rfl rfl (Nat.le_of_ble_eq_true rfl) h (fun X => ?_)
  show zm_V X Y_X10_likes E (zm_Q X E Y_X10_likes.2.2.2.1.cells Y_X10_likes.2.2.2.1.slots (zm_w sv) zm_ei) 0 0 false (zm_w sv) 0 [(0, .ref (E.2.1 + 1)), (1, .int a1), (2, .int a2)] [] M (f_X10_likes a1 a2 M) some
  unfold f_X10_likes
  refine zm_aload_n 1 rfl dX10_likes_0 rfl 0 rfl ?_
  refine zm_iload_n 2 rfl dX10_likes_1 rfl 2 rfl ?_
  refine zm_cV1ir 5 rfl dX10_likes_2 ml_X10_121 rfl (zm_L (sv := sv) rfl) rfl (Nat.le_of_ble_eq_true rfl) ⟨Nat.le_of_ble_eq_true rfl, Nat.le_of_ble_eq_true rfl⟩ rfl rfl ⟨Nat.le_refl _, Nat.le_refl _⟩ rfl (fun _ h => k_X10_isWork E sv a2 M h) (fun r2 => ?_)
  refine zm_if_eq 16 8 (by decide) rfl dX10_likes_5 ?_ ?_
  · refine zm_iconst 17 rfl dX10_likes_16 zi_m1 ?_
    exact zm_iret dX10_likes_17 rfl (Nat.le_refl _) (Nat.le_refl _) rfl
  · refine zm_aload_n 9 rfl dX10_likes_8 rfl 0 rfl ?_
    refine zm_iload_n 10 rfl dX10_likes_9 rfl 1 rfl ?_
    refine zm_cV1ir 13 rfl dX10_likes_10 ml_X10_101 rfl (zm_L (sv := sv) rfl) rfl (Nat.le_of_ble_eq_true rfl) ⟨Nat.le_of_ble_eq_true rfl, Nat.le_of_ble_eq_true rfl⟩ rfl rfl ⟨Nat.le_refl _, Nat.le_refl _⟩ rfl (fun _ h => k_X10_isHouse E sv a1 M h) (fun r10 => ?_)
    refine zm_if_ne 18 16 (by decide) rfl dX10_likes_13 ?_ ?_
    · refine zm_iconst 17 rfl dX10_likes_16 zi_m1 ?_
      exact zm_iret dX10_likes_17 rfl (Nat.le_refl _) (Nat.le_refl _) rfl
    · refine zm_aload_n 19 rfl dX10_likes_18 rfl 0 rfl ?_
      refine zm_cV0v 22 rfl dX10_likes_19 ml_X10_151 rfl (zm_L (sv := sv) rfl) rfl (Nat.le_of_ble_eq_true rfl) ⟨Nat.le_of_ble_eq_true rfl, Nat.le_of_ble_eq_true rfl⟩ rfl rfl ⟨Nat.le_refl _, Nat.le_refl _⟩ rfl (fun _ _ h => k_X10_lookToday E sv M h) (fun _ M19 => ?_)
      refine zm_aload_n 23 rfl dX10_likes_22 rfl 0 rfl ?_
      refine zm_getR (a := 47) 26 rfl dX10_likes_23 fl_X10_76 rfl (zm_L (sv := sv) rfl) rfl (by decide) ?_
      refine zm_iload_n 27 rfl dX10_likes_26 rfl 1 rfl ?_
      refine zm_iload_n 28 rfl dX10_likes_27 rfl 2 rfl ?_
      refine zm_iconst 29 rfl dX10_likes_28 zi_m1 ?_
      refine zm_cV3i 32 rfl dX10_likes_29 ml_X10_165 rfl (zm_L (sv := sv) rfl) rfl (Nat.le_of_ble_eq_true rfl) ⟨Nat.le_of_ble_eq_true rfl, Nat.le_of_ble_eq_true rfl⟩ rfl rfl ⟨Nat.le_refl _, Nat.le_refl _⟩ rfl (fun _ _ h => k_X3_liking E sv a1 a2 (-1) M19 h) (fun r29 M29 => ?_)
      exact zm_iret dX10_likes_32 rfl (Nat.le_refl _) (Nat.le_refl _) rfl
abbrev Y_X10_trip : zm_Y := (cX10_trip, 3, RX10, { frames := 3, cells := 0, slots := 0, locals := 65 }, (some .int), false, "trip")
noncomputable def f_X10_trip (a1 : Int32) (a2 : Int32) (M : zm_Mem) : Option (Int32 × zm_Mem) :=
  zm_b1 (f_X10_isWork a1 M) <| fun r2 => if r2 = 0 then (some ((-1), M)) else (zm_b1 (f_X10_isHouse a2 M) <| fun r10 => if r10 = 0 then (some ((-1), M)) else (zm_b2 (f_X10_lookToday M) <| fun _ M19 => zm_b2 (f_X3_journey a1 a2 M19) <| fun r28 M28 => some (r28, M28)))
set_option maxRecDepth 20000 in
set_option maxHeartbeats 4000000 in
theorem k_X10_trip (E : zm_E) (sv : Nat) (a1 : Int32) (a2 : Int32) (M : zm_Mem) {r : Int32} {M' : zm_Mem} (h : f_X10_trip a1 a2 M = some (r, M')) : zm_Ct E (zm_w sv) (zm_w sv) yX10_trip Y_X10_trip [.ref (E.2.1 + 1), .int a1, .int a2] M (some (.int r)) M' := by
  refine zm_meth (emb := zm_ei) (d := f_X10_trip a1 a2 M) (by decide) rfl rfl (Nat.le_of_ble_eq_true rfl) h (fun X => ?_)
  show zm_V X Y_X10_trip E (zm_Q X E Y_X10_trip.2.2.2.1.cells Y_X10_trip.2.2.2.1.slots (zm_w sv) zm_ei) 0 0 false (zm_w sv) 0 [(0, .ref (E.2.1 + 1)), (1, .int a1), (2, .int a2)] [] M (f_X10_trip a1 a2 M) some
  unfold f_X10_trip
  refine zm_aload_n 1 rfl dX10_trip_0 rfl 0 rfl ?_
  refine zm_iload_n 2 rfl dX10_trip_1 rfl 1 rfl ?_
  refine zm_cV1ir 5 rfl dX10_trip_2 ml_X10_121 rfl (zm_L (sv := sv) rfl) rfl (Nat.le_of_ble_eq_true rfl) ⟨Nat.le_of_ble_eq_true rfl, Nat.le_of_ble_eq_true rfl⟩ rfl rfl ⟨Nat.le_refl _, Nat.le_refl _⟩ rfl (fun _ h => k_X10_isWork E sv a1 M h) (fun r2 => ?_)
  refine zm_if_eq 16 8 (by decide) rfl dX10_trip_5 ?_ ?_
  · refine zm_iconst 17 rfl dX10_trip_16 zi_m1 ?_
    exact zm_iret dX10_trip_17 rfl (Nat.le_refl _) (Nat.le_refl _) rfl
  · refine zm_aload_n 9 rfl dX10_trip_8 rfl 0 rfl ?_
    refine zm_iload_n 10 rfl dX10_trip_9 rfl 2 rfl ?_
    refine zm_cV1ir 13 rfl dX10_trip_10 ml_X10_101 rfl (zm_L (sv := sv) rfl) rfl (Nat.le_of_ble_eq_true rfl) ⟨Nat.le_of_ble_eq_true rfl, Nat.le_of_ble_eq_true rfl⟩ rfl rfl ⟨Nat.le_refl _, Nat.le_refl _⟩ rfl (fun _ h => k_X10_isHouse E sv a2 M h) (fun r10 => ?_)
    refine zm_if_ne 18 16 (by decide) rfl dX10_trip_13 ?_ ?_
    · refine zm_iconst 17 rfl dX10_trip_16 zi_m1 ?_
      exact zm_iret dX10_trip_17 rfl (Nat.le_refl _) (Nat.le_refl _) rfl
    · refine zm_aload_n 19 rfl dX10_trip_18 rfl 0 rfl ?_
      refine zm_cV0v 22 rfl dX10_trip_19 ml_X10_151 rfl (zm_L (sv := sv) rfl) rfl (Nat.le_of_ble_eq_true rfl) ⟨Nat.le_of_ble_eq_true rfl, Nat.le_of_ble_eq_true rfl⟩ rfl rfl ⟨Nat.le_refl _, Nat.le_refl _⟩ rfl (fun _ _ h => k_X10_lookToday E sv M h) (fun _ M19 => ?_)
      refine zm_aload_n 23 rfl dX10_trip_22 rfl 0 rfl ?_
      refine zm_getR (a := 47) 26 rfl dX10_trip_23 fl_X10_76 rfl (zm_L (sv := sv) rfl) rfl (by decide) ?_
      refine zm_iload_n 27 rfl dX10_trip_26 rfl 1 rfl ?_
      refine zm_iload_n 28 rfl dX10_trip_27 rfl 2 rfl ?_
      refine zm_cV2i 31 rfl dX10_trip_28 ml_X10_169 rfl (zm_L (sv := sv) rfl) rfl (Nat.le_of_ble_eq_true rfl) ⟨Nat.le_of_ble_eq_true rfl, Nat.le_of_ble_eq_true rfl⟩ rfl rfl ⟨Nat.le_refl _, Nat.le_refl _⟩ rfl (fun _ _ h => k_X3_journey E sv a1 a2 M19 h) (fun r28 M28 => ?_)
      exact zm_iret dX10_trip_31 rfl (Nat.le_refl _) (Nat.le_refl _) rfl
abbrev Y_X10_canBeSent : zm_Y := (cX10_canBeSent, 3, RX10, { frames := 2, cells := 0, slots := 0, locals := 42 }, (some .boolean), false, "canBeSent")
noncomputable def f_X10_canBeSent_b27  : Option Int32 :=
 some 0
noncomputable def f_X10_canBeSent (a1 : Int32) (a2 : Int32) (M : zm_Mem) : Option Int32 :=
  zm_b1 (f_X4_underWay a1 M) <| fun r5 => if r5 = 0 then (zm_b1 (f_X4_goal a1 M) <| fun r16 => if r16 = a2 then (f_X10_canBeSent_b27) else (some 1)) else (f_X10_canBeSent_b27)
set_option maxRecDepth 20000 in
set_option maxHeartbeats 4000000 in
theorem k_X10_canBeSent (E : zm_E) (sv : Nat) (a1 : Int32) (a2 : Int32) (M : zm_Mem) {r : Int32} (h : f_X10_canBeSent a1 a2 M = some r) : zm_Ct E (zm_w sv) (zm_w sv) yX10_canBeSent Y_X10_canBeSent [.ref (E.2.1 + 1), .int a1, .int a2] M (some (.int r)) M := by
  refine zm_methr (emb := zm_ei) (d := f_X10_canBeSent a1 a2 M) (by decide) rfl rfl (Nat.le_of_ble_eq_true rfl) h (fun X => ?_)
  show zm_V X Y_X10_canBeSent E (zm_Q X E Y_X10_canBeSent.2.2.2.1.cells Y_X10_canBeSent.2.2.2.1.slots (zm_w sv) zm_ei) 0 0 false (zm_w sv) 0 [(0, .ref (E.2.1 + 1)), (1, .int a1), (2, .int a2)] [] M (f_X10_canBeSent a1 a2 M) (fun r => some (r, M))
  unfold f_X10_canBeSent
  refine zm_aload_n 1 rfl dX10_canBeSent_0 rfl 0 rfl ?_
  refine zm_getR (a := 11) 4 rfl dX10_canBeSent_1 fl_X10_32 rfl (zm_L (sv := sv) rfl) rfl (by decide) ?_
  refine zm_iload_n 5 rfl dX10_canBeSent_4 rfl 1 rfl ?_
  refine zm_cV1ir 8 rfl dX10_canBeSent_5 ml_X10_124 rfl (zm_L (sv := sv) rfl) rfl (Nat.le_of_ble_eq_true rfl) ⟨Nat.le_of_ble_eq_true rfl, Nat.le_of_ble_eq_true rfl⟩ rfl rfl ⟨Nat.le_refl _, Nat.le_refl _⟩ rfl (fun _ h => k_X4_underWay E sv a1 M h) (fun r5 => ?_)
  have hb27 : zm_V X Y_X10_canBeSent E (zm_Q X E Y_X10_canBeSent.2.2.2.1.cells Y_X10_canBeSent.2.2.2.1.slots (zm_w sv) zm_ei) 0 0 false (zm_w sv) 27 [] [] M (f_X10_canBeSent_b27) (fun r => some (r, M)) := by
    unfold f_X10_canBeSent_b27
    refine zm_iconst 28 rfl dX10_canBeSent_27 zi_0 ?_
    exact zm_zret dX10_canBeSent_28 rfl rfl (Nat.le_refl _) (Nat.le_refl _) rfl
  refine zm_if_ne 27 11 (by decide) rfl dX10_canBeSent_8 ?_ ?_
  · refine zm_aload_n 12 rfl dX10_canBeSent_11 rfl 0 rfl ?_
    refine zm_getR (a := 11) 15 rfl dX10_canBeSent_12 fl_X10_32 rfl (zm_L (sv := sv) rfl) rfl (by decide) ?_
    refine zm_iload_n 16 rfl dX10_canBeSent_15 rfl 1 rfl ?_
    refine zm_cV1ir 19 rfl dX10_canBeSent_16 ml_X10_130 rfl (zm_L (sv := sv) rfl) rfl (Nat.le_of_ble_eq_true rfl) ⟨Nat.le_of_ble_eq_true rfl, Nat.le_of_ble_eq_true rfl⟩ rfl rfl ⟨Nat.le_refl _, Nat.le_refl _⟩ rfl (fun _ h => k_X4_goal E sv a1 M h) (fun r16 => ?_)
    refine zm_iload_n 20 rfl dX10_canBeSent_19 rfl 2 rfl ?_
    refine zm_icmp_eq 27 23 (by decide) rfl dX10_canBeSent_20 ?_ ?_
    · exact zm_loc [] rfl (hb27)
    · refine zm_iconst 24 rfl dX10_canBeSent_23 zi_1 ?_
      refine zm_goto 28 (by decide) dX10_canBeSent_24 ?_
      exact zm_zret dX10_canBeSent_28 rfl rfl (Nat.le_refl _) (Nat.le_refl _) rfl
  · exact zm_loc [] rfl (hb27)
abbrev Y_X10_stir : zm_Y := (cX10_stir, 3, RX10, { frames := 0, cells := 0, slots := 0, locals := 0 }, (some .int), false, "stir")
noncomputable def f_X10_stir (a0 : Int32) (a1 : Int32) (M : zm_Mem) : Option Int32 :=
  zm_v (((a0 ^^^ a1) * 1103515245) + 12345) <| fun x11 => some (x11 ^^^ ((x11.toUInt32 >>> ((15 : Int32).toUInt32 &&& Int32.toUInt32 31)).toInt32))
set_option maxRecDepth 20000 in
set_option maxHeartbeats 4000000 in
theorem k_X10_stir (E : zm_E) (w : zm_W) (a0 : Int32) (a1 : Int32) (M : zm_Mem) {r : Int32} (h : f_X10_stir a0 a1 M = some r) : zm_Ct E w w yX10_stir Y_X10_stir [.int a0, .int a1] M (some (.int r)) M := by
  refine zm_methr (emb := zm_ei) (d := f_X10_stir a0 a1 M) (by decide) rfl rfl (Nat.le_of_ble_eq_true rfl) h (fun X => ?_)
  show zm_V X Y_X10_stir E (zm_Q X E Y_X10_stir.2.2.2.1.cells Y_X10_stir.2.2.2.1.slots w zm_ei) 0 0 false w 0 [(0, .int a0), (1, .int a1)] [] M (f_X10_stir a0 a1 M) (fun r => some (r, M))
  unfold f_X10_stir
  refine zm_iload_n 1 rfl dX10_stir_0 rfl 0 rfl ?_
  refine zm_iload_n 2 rfl dX10_stir_1 rfl 1 rfl ?_
  refine zm_ixor 3 rfl dX10_stir_2 ?_
  refine zm_ldcw 6 rfl dX10_stir_3 kc_X10_351 ?_
  refine zm_imul 7 rfl dX10_stir_6 ?_
  refine zm_sipush 10 rfl dX10_stir_7 zs_12345 ?_
  refine zm_iadd 11 rfl dX10_stir_10 ?_
  refine zm_nmi (fun x11 _ => ?_)
  refine zm_istore_n (lv' := [(2, .int x11), (0, .int a0), (1, .int a1)]) 12 rfl dX10_stir_11 rfl (by decide) rfl ?_
  refine zm_iload_n 13 rfl dX10_stir_12 rfl 0 rfl ?_
  refine zm_iload_n 14 rfl dX10_stir_13 rfl 0 rfl ?_
  refine zm_bipush 16 rfl dX10_stir_14 zb_15 ?_
  refine zm_iushr 17 rfl dX10_stir_16 ?_
  refine zm_ixor 18 rfl dX10_stir_17 ?_
  exact zm_iret dX10_stir_18 rfl (Nat.le_refl _) (Nat.le_refl _) rfl
abbrev Y_X10_lotOf100 : zm_Y := (cX10_lotOf100, 3, RX10, { frames := 1, cells := 0, slots := 0, locals := 22 }, (some .int), false, "lotOf100")
noncomputable def f_X10_lotOf100 (a0 : Int32) (a1 : Int32) (M : zm_Mem) : Option Int32 :=
  zm_b1 (f_X10_stir a0 83 M) <| fun r3 => zm_b1 (f_X10_stir r3 a1 M) <| fun r7 => zm_ck (!decide ((100 : Int32) = 0)) <| some (((r7.toUInt32 >>> ((1 : Int32).toUInt32 &&& Int32.toUInt32 31)).toInt32) - ((r7.toUInt32 >>> ((1 : Int32).toUInt32 &&& Int32.toUInt32 31)).toInt32) / 100 * 100)
set_option maxRecDepth 20000 in
set_option maxHeartbeats 4000000 in
theorem k_X10_lotOf100 (E : zm_E) (w : zm_W) (a0 : Int32) (a1 : Int32) (M : zm_Mem) {r : Int32} (h : f_X10_lotOf100 a0 a1 M = some r) : zm_Ct E w w yX10_lotOf100 Y_X10_lotOf100 [.int a0, .int a1] M (some (.int r)) M := by
  refine zm_methr (emb := zm_ei) (d := f_X10_lotOf100 a0 a1 M) (by decide) rfl rfl (Nat.le_of_ble_eq_true rfl) h (fun X => ?_)
  show zm_V X Y_X10_lotOf100 E (zm_Q X E Y_X10_lotOf100.2.2.2.1.cells Y_X10_lotOf100.2.2.2.1.slots w zm_ei) 0 0 false w 0 [(0, .int a0), (1, .int a1)] [] M (f_X10_lotOf100 a0 a1 M) (fun r => some (r, M))
  unfold f_X10_lotOf100
  refine zm_iload_n 1 rfl dX10_lotOf100_0 rfl 0 rfl ?_
  refine zm_bipush 3 rfl dX10_lotOf100_1 zb_83 ?_
  refine zm_cS2ir 6 rfl dX10_lotOf100_3 ml_X10_348 (Nat.le_of_ble_eq_true rfl) ⟨Nat.le_of_ble_eq_true rfl, Nat.le_of_ble_eq_true rfl⟩ rfl rfl ⟨Nat.le_refl _, Nat.le_refl _⟩ rfl (fun _ h => k_X10_stir E w a0 83 M h) (fun r3 => ?_)
  refine zm_iload_n 7 rfl dX10_lotOf100_6 rfl 1 rfl ?_
  refine zm_cS2ir 10 rfl dX10_lotOf100_7 ml_X10_348 (Nat.le_of_ble_eq_true rfl) ⟨Nat.le_of_ble_eq_true rfl, Nat.le_of_ble_eq_true rfl⟩ rfl rfl ⟨Nat.le_refl _, Nat.le_refl _⟩ rfl (fun _ h => k_X10_stir E w r3 a1 M h) (fun r7 => ?_)
  refine zm_istore_n (lv' := [(2, .int r7), (0, .int a0), (1, .int a1)]) 11 rfl dX10_lotOf100_10 rfl (by decide) rfl ?_
  refine zm_iload_n 12 rfl dX10_lotOf100_11 rfl 0 rfl ?_
  refine zm_iconst 13 rfl dX10_lotOf100_12 zi_1 ?_
  refine zm_iushr 14 rfl dX10_lotOf100_13 ?_
  refine zm_bipush 16 rfl dX10_lotOf100_14 zb_100 ?_
  refine zm_irem 17 rfl dX10_lotOf100_16 ?_
  exact zm_iret dX10_lotOf100_17 rfl (Nat.le_refl _) (Nat.le_refl _) rfl
abbrev Y_X10_isLate : zm_Y := (cX10_isLate, 2, RX10, { frames := 2, cells := 0, slots := 0, locals := 44 }, (some .boolean), false, "isLate")
noncomputable def f_X10_isLate (a1 : Int32) (M : zm_Mem) : Option Int32 :=
  zm_b1 (f_X4_tripsSoFar M) <| fun r7 => zm_b1 (f_X10_lotOf100 a1 (8 * r7) M) <| fun r11 => zm_v (M.2.2 1 9) <| fun t15 => zm_ck (zm_isT t15) <| if (M.1 t15 16) ≤ r11 then (some 0) else (some 1)
set_option maxRecDepth 20000 in
set_option maxHeartbeats 4000000 in
theorem k_X10_isLate (E : zm_E) (sv : Nat) (a1 : Int32) (M : zm_Mem) {r : Int32} (h : f_X10_isLate a1 M = some r) : zm_Ct E (zm_w sv) (zm_w sv) yX10_isLate Y_X10_isLate [.ref (E.2.1 + 1), .int a1] M (some (.int r)) M := by
  refine zm_methr (emb := zm_ei) (d := f_X10_isLate a1 M) (by decide) rfl rfl (Nat.le_of_ble_eq_true rfl) h (fun X => ?_)
  show zm_V X Y_X10_isLate E (zm_Q X E Y_X10_isLate.2.2.2.1.cells Y_X10_isLate.2.2.2.1.slots (zm_w sv) zm_ei) 0 0 false (zm_w sv) 0 [(0, .ref (E.2.1 + 1)), (1, .int a1)] [] M (f_X10_isLate a1 M) (fun r => some (r, M))
  unfold f_X10_isLate
  refine zm_iload_n 1 rfl dX10_isLate_0 rfl 1 rfl ?_
  refine zm_bipush 3 rfl dX10_isLate_1 zb_8 ?_
  refine zm_aload_n 4 rfl dX10_isLate_3 rfl 0 rfl ?_
  refine zm_getR (a := 11) 7 rfl dX10_isLate_4 fl_X10_32 rfl (zm_L (sv := sv) rfl) rfl (by decide) ?_
  refine zm_cV0ir 10 rfl dX10_isLate_7 ml_X10_320 rfl (zm_L (sv := sv) rfl) rfl (Nat.le_of_ble_eq_true rfl) ⟨Nat.le_of_ble_eq_true rfl, Nat.le_of_ble_eq_true rfl⟩ rfl rfl ⟨Nat.le_refl _, Nat.le_refl _⟩ rfl (fun _ h => k_X4_tripsSoFar E sv M h) (fun r7 => ?_)
  refine zm_imul 11 rfl dX10_isLate_10 ?_
  refine zm_cS2ir 14 rfl dX10_isLate_11 ml_X10_342 (Nat.le_of_ble_eq_true rfl) ⟨Nat.le_of_ble_eq_true rfl, Nat.le_of_ble_eq_true rfl⟩ rfl rfl ⟨Nat.le_refl _, Nat.le_refl _⟩ rfl (fun _ h => k_X10_lotOf100 E (zm_w sv) a1 (8 * r7) M h) (fun r11 => ?_)
  refine zm_aload_n 15 rfl dX10_isLate_14 rfl 0 rfl ?_
  refine zm_getT 18 rfl dX10_isLate_15 fl_X10_60 rfl (zm_L (sv := sv) rfl) (fun t15 _ ht15 => ?_)
  refine zm_getI 21 rfl dX10_isLate_18 fl_X10_345 (zm_T_o ht15) (zm_T_l0 (sv := sv) ht15) ?_
  refine zm_icmp_ge 28 24 (by decide) rfl dX10_isLate_21 ?_ ?_
  · refine zm_iconst 29 rfl dX10_isLate_28 zi_0 ?_
    exact zm_zret dX10_isLate_29 rfl rfl (Nat.le_refl _) (Nat.le_refl _) rfl
  · refine zm_iconst 25 rfl dX10_isLate_24 zi_1 ?_
    refine zm_goto 29 (by decide) dX10_isLate_25 ?_
    exact zm_zret dX10_isLate_29 rfl rfl (Nat.le_refl _) (Nat.le_refl _) rfl
abbrev Y_X10_beforeChange : zm_Y := (cX10_beforeChange, 1, RX10, { frames := 2, cells := 0, slots := 0, locals := 121 }, none, false, "beforeChange")
noncomputable def f_X10_beforeChange  (M : zm_Mem) : Option (Unit × zm_Mem) :=
  zm_b2 (f_X1_keep 12 M) <| fun _ M11 => zm_v (zm_sI M11 1 13 0) <| fun M16 => some ((), M16)
set_option maxRecDepth 20000 in
set_option maxHeartbeats 4000000 in
theorem k_X10_beforeChange (E : zm_E) (sv : Nat)  (M : zm_Mem) {r : Unit} {M' : zm_Mem} (h : f_X10_beforeChange M = some (r, M')) : zm_Ct E (zm_w sv) (zm_w sv) yX10_beforeChange Y_X10_beforeChange [.ref (E.2.1 + 1)] M none M' := by
  refine zm_meth (emb := zm_ev) (d := f_X10_beforeChange M) (by decide) rfl rfl (Nat.le_of_ble_eq_true rfl) h (fun X => ?_)
  show zm_V X Y_X10_beforeChange E (zm_Q X E Y_X10_beforeChange.2.2.2.1.cells Y_X10_beforeChange.2.2.2.1.slots (zm_w sv) zm_ev) 0 0 false (zm_w sv) 0 [(0, .ref (E.2.1 + 1))] [] M (f_X10_beforeChange M) some
  unfold f_X10_beforeChange
  refine zm_aload_n 1 rfl dX10_beforeChange_0 rfl 0 rfl ?_
  refine zm_getR (a := 13) 4 rfl dX10_beforeChange_1 fl_X10_39 rfl (zm_L (sv := sv) rfl) rfl (by decide) ?_
  refine zm_aload_n 5 rfl dX10_beforeChange_4 rfl 0 rfl ?_
  refine zm_getR (a := 11) 8 rfl dX10_beforeChange_5 fl_X10_32 rfl (zm_L (sv := sv) rfl) rfl (by decide) ?_
  refine zm_getR (a := 12) 11 rfl dX10_beforeChange_8 fl_X10_142 rfl (zm_L (sv := sv) rfl) rfl (by decide) ?_
  refine zm_cV1v 14 rfl dX10_beforeChange_11 ml_X10_332 rfl (zm_L (sv := sv) rfl) rfl (Nat.le_of_ble_eq_true rfl) ⟨Nat.le_of_ble_eq_true rfl, Nat.le_of_ble_eq_true rfl⟩ rfl rfl ⟨Nat.le_refl _, Nat.le_refl _⟩ rfl (fun _ _ h => k_X1_keep E sv 12 ⟨rfl, (zm_L (sv := sv) rfl)⟩ M h) (fun _ M11 => ?_)
  refine zm_aload_n 15 rfl dX10_beforeChange_14 rfl 0 rfl ?_
  refine zm_iconst 16 rfl dX10_beforeChange_15 zi_0 ?_
  refine zm_putI 19 rfl dX10_beforeChange_16 fp_X10_199 rfl (zm_L (sv := sv) rfl) rfl rfl (fun M16 _ => ?_)
  exact zm_vret dX10_beforeChange_19 rfl (Nat.le_refl _) (Nat.le_refl _) rfl
abbrev Y_X10_send : zm_Y := (cX10_send, 5, RX10, { frames := 3, cells := 0, slots := 0, locals := 141 }, (some .int), false, "send")
noncomputable def f_X10_send_b79 (a1 : Int32) (r52 : Int32) (M58 : zm_Mem) (b79_s1 : Int32) (b79_s2 : Int32) (b79_s3 : Int32) : Option (Int32 × zm_Mem) :=
 zm_b2 (f_X4_depart b79_s1 b79_s2 b79_s3 r52 M58) <| fun _ M81 => zm_b1 (f_X4_arrival a1 M81) <| fun r89 => some (r89, M81)
noncomputable def f_X10_send (a1 : Int32) (a2 : Int32) (M : zm_Mem) : Option (Int32 × zm_Mem) :=
  zm_b1 (f_X10_isWork a1 M) <| fun r2 => if r2 = 0 then (some ((-1), M)) else (zm_b1 (f_X10_isHouse a2 M) <| fun r10 => if r10 = 0 then (some ((-1), M)) else (zm_b1 (f_X10_canBeSent a1 a2 M) <| fun r21 => if r21 = 0 then (some ((-2), M)) else (zm_b2 (f_X10_lookToday M) <| fun _ M31 => zm_b2 (f_X3_journey a1 a2 M31) <| fun r40 M40 => zm_v (M40.2.2 1 9) <| fun t46 => zm_ck (zm_isT t46) <| zm_b1 (f_X10_isLate (M40.1 t46 18) M40) <| fun r52 => zm_b2 (f_X10_beforeChange M40) <| fun _ M58 => if r52 = 0 then (f_X10_send_b79 a1 r52 M58 a1 a2 r40) else (f_X10_send_b79 a1 r52 M58 a1 a2 (r40 + 5)))))
set_option maxRecDepth 20000 in
set_option maxHeartbeats 4000000 in
theorem k_X10_send (E : zm_E) (sv : Nat) (a1 : Int32) (a2 : Int32) (M : zm_Mem) {r : Int32} {M' : zm_Mem} (h : f_X10_send a1 a2 M = some (r, M')) : zm_Ct E (zm_w sv) (zm_w sv) yX10_send Y_X10_send [.ref (E.2.1 + 1), .int a1, .int a2] M (some (.int r)) M' := by
  refine zm_meth (emb := zm_ei) (d := f_X10_send a1 a2 M) (by decide) rfl rfl (Nat.le_of_ble_eq_true rfl) h (fun X => ?_)
  show zm_V X Y_X10_send E (zm_Q X E Y_X10_send.2.2.2.1.cells Y_X10_send.2.2.2.1.slots (zm_w sv) zm_ei) 0 0 false (zm_w sv) 0 [(0, .ref (E.2.1 + 1)), (1, .int a1), (2, .int a2)] [] M (f_X10_send a1 a2 M) some
  unfold f_X10_send
  refine zm_aload_n 1 rfl dX10_send_0 rfl 0 rfl ?_
  refine zm_iload_n 2 rfl dX10_send_1 rfl 1 rfl ?_
  refine zm_cV1ir 5 rfl dX10_send_2 ml_X10_121 rfl (zm_L (sv := sv) rfl) rfl (Nat.le_of_ble_eq_true rfl) ⟨Nat.le_of_ble_eq_true rfl, Nat.le_of_ble_eq_true rfl⟩ rfl rfl ⟨Nat.le_refl _, Nat.le_refl _⟩ rfl (fun _ h => k_X10_isWork E sv a1 M h) (fun r2 => ?_)
  refine zm_if_eq 16 8 (by decide) rfl dX10_send_5 ?_ ?_
  · refine zm_iconst 17 rfl dX10_send_16 zi_m1 ?_
    exact zm_iret dX10_send_17 rfl (Nat.le_refl _) (Nat.le_refl _) rfl
  · refine zm_aload_n 9 rfl dX10_send_8 rfl 0 rfl ?_
    refine zm_iload_n 10 rfl dX10_send_9 rfl 2 rfl ?_
    refine zm_cV1ir 13 rfl dX10_send_10 ml_X10_101 rfl (zm_L (sv := sv) rfl) rfl (Nat.le_of_ble_eq_true rfl) ⟨Nat.le_of_ble_eq_true rfl, Nat.le_of_ble_eq_true rfl⟩ rfl rfl ⟨Nat.le_refl _, Nat.le_refl _⟩ rfl (fun _ h => k_X10_isHouse E sv a2 M h) (fun r10 => ?_)
    refine zm_if_ne 18 16 (by decide) rfl dX10_send_13 ?_ ?_
    · refine zm_iconst 17 rfl dX10_send_16 zi_m1 ?_
      exact zm_iret dX10_send_17 rfl (Nat.le_refl _) (Nat.le_refl _) rfl
    · refine zm_aload_n 19 rfl dX10_send_18 rfl 0 rfl ?_
      refine zm_iload_n 20 rfl dX10_send_19 rfl 1 rfl ?_
      refine zm_iload_n 21 rfl dX10_send_20 rfl 2 rfl ?_
      refine zm_cV2ir 24 rfl dX10_send_21 ml_X10_173 rfl (zm_L (sv := sv) rfl) rfl (Nat.le_of_ble_eq_true rfl) ⟨Nat.le_of_ble_eq_true rfl, Nat.le_of_ble_eq_true rfl⟩ rfl rfl ⟨Nat.le_refl _, Nat.le_refl _⟩ rfl (fun _ h => k_X10_canBeSent E sv a1 a2 M h) (fun r21 => ?_)
      refine zm_if_ne 30 27 (by decide) rfl dX10_send_24 ?_ ?_
      · refine zm_bipush 29 rfl dX10_send_27 zb_m2 ?_
        exact zm_iret dX10_send_29 rfl (Nat.le_refl _) (Nat.le_refl _) rfl
      · refine zm_aload_n 31 rfl dX10_send_30 rfl 0 rfl ?_
        refine zm_cV0v 34 rfl dX10_send_31 ml_X10_151 rfl (zm_L (sv := sv) rfl) rfl (Nat.le_of_ble_eq_true rfl) ⟨Nat.le_of_ble_eq_true rfl, Nat.le_of_ble_eq_true rfl⟩ rfl rfl ⟨Nat.le_refl _, Nat.le_refl _⟩ rfl (fun _ _ h => k_X10_lookToday E sv M h) (fun _ M31 => ?_)
        refine zm_aload_n 35 rfl dX10_send_34 rfl 0 rfl ?_
        refine zm_getR (a := 47) 38 rfl dX10_send_35 fl_X10_76 rfl (zm_L (sv := sv) rfl) rfl (by decide) ?_
        refine zm_iload_n 39 rfl dX10_send_38 rfl 1 rfl ?_
        refine zm_iload_n 40 rfl dX10_send_39 rfl 2 rfl ?_
        refine zm_cV2i 43 rfl dX10_send_40 ml_X10_169 rfl (zm_L (sv := sv) rfl) rfl (Nat.le_of_ble_eq_true rfl) ⟨Nat.le_of_ble_eq_true rfl, Nat.le_of_ble_eq_true rfl⟩ rfl rfl ⟨Nat.le_refl _, Nat.le_refl _⟩ rfl (fun _ _ h => k_X3_journey E sv a1 a2 M31 h) (fun r40 M40 => ?_)
        refine zm_istore_n (lv' := [(3, .int r40), (0, .ref (E.2.1 + 1)), (1, .int a1), (2, .int a2)]) 44 rfl dX10_send_43 rfl (by decide) rfl ?_
        refine zm_aload_n 45 rfl dX10_send_44 rfl 1 rfl ?_
        refine zm_aload_n 46 rfl dX10_send_45 rfl 1 rfl ?_
        refine zm_getT 49 rfl dX10_send_46 fl_X10_60 rfl (zm_L (sv := sv) rfl) (fun t46 _ ht46 => ?_)
        refine zm_getI 52 rfl dX10_send_49 fl_X10_176 (zm_T_o ht46) (zm_T_l0 (sv := sv) ht46) ?_
        refine zm_cV1ir 55 rfl dX10_send_52 ml_X10_179 rfl (zm_L (sv := sv) rfl) rfl (Nat.le_of_ble_eq_true rfl) ⟨Nat.le_of_ble_eq_true rfl, Nat.le_of_ble_eq_true rfl⟩ rfl rfl ⟨Nat.le_refl _, Nat.le_refl _⟩ rfl (fun _ h => k_X10_isLate E sv (M40.1 t46 18) M40 h) (fun r52 => ?_)
        refine zm_istore (lv' := [(4, .int r52), (3, .int r40), (0, .ref (E.2.1 + 1)), (1, .int a1), (2, .int a2)]) 57 rfl dX10_send_55 (by decide) rfl ?_
        refine zm_aload_n 58 rfl dX10_send_57 rfl 2 rfl ?_
        refine zm_cV0v 61 rfl dX10_send_58 ml_X10_182 rfl (zm_L (sv := sv) rfl) rfl (Nat.le_of_ble_eq_true rfl) ⟨Nat.le_of_ble_eq_true rfl, Nat.le_of_ble_eq_true rfl⟩ rfl rfl ⟨Nat.le_refl _, Nat.le_refl _⟩ rfl (fun _ _ h => k_X10_beforeChange E sv M40 h) (fun _ M58 => ?_)
        refine zm_aload_n 62 rfl dX10_send_61 rfl 2 rfl ?_
        refine zm_getR (a := 11) 65 rfl dX10_send_62 fl_X10_32 rfl (zm_L (sv := sv) rfl) rfl (by decide) ?_
        refine zm_iload_n 66 rfl dX10_send_65 rfl 3 rfl ?_
        refine zm_iload_n 67 rfl dX10_send_66 rfl 4 rfl ?_
        refine zm_iload 69 rfl dX10_send_67 0 rfl ?_
        have hb79 : ∀ (b79_s1 : Int32) (b79_s2 : Int32) (b79_s3 : Int32), zm_V X Y_X10_send E (zm_Q X E Y_X10_send.2.2.2.1.cells Y_X10_send.2.2.2.1.slots (zm_w sv) zm_ei) 0 0 false (zm_w sv) 79 [(0, .ref (E.2.1 + 1)), (1, .int a1), (4, .int r52)] [.int b79_s3, .int b79_s2, .int b79_s1, .ref (E.2.1 + 11)] M58 (f_X10_send_b79 a1 r52 M58 b79_s1 b79_s2 b79_s3) some := by
          intro b79_s1 b79_s2 b79_s3
          unfold f_X10_send_b79
          refine zm_iload 81 rfl dX10_send_79 2 rfl ?_
          refine zm_cV4v 84 rfl dX10_send_81 ml_X10_185 rfl (zm_L (sv := sv) rfl) rfl (Nat.le_of_ble_eq_true rfl) ⟨Nat.le_of_ble_eq_true rfl, Nat.le_of_ble_eq_true rfl⟩ rfl rfl ⟨Nat.le_refl _, Nat.le_refl _⟩ rfl (fun _ _ h => k_X4_depart E sv b79_s1 b79_s2 b79_s3 r52 M58 h) (fun _ M81 => ?_)
          refine zm_aload_n 85 rfl dX10_send_84 rfl 0 rfl ?_
          refine zm_getR (a := 11) 88 rfl dX10_send_85 fl_X10_32 rfl (zm_L (sv := sv) rfl) rfl (by decide) ?_
          refine zm_iload_n 89 rfl dX10_send_88 rfl 1 rfl ?_
          refine zm_cV1ir 92 rfl dX10_send_89 ml_X10_139 rfl (zm_L (sv := sv) rfl) rfl (Nat.le_of_ble_eq_true rfl) ⟨Nat.le_of_ble_eq_true rfl, Nat.le_of_ble_eq_true rfl⟩ rfl rfl ⟨Nat.le_refl _, Nat.le_refl _⟩ rfl (fun _ h => k_X4_arrival E sv a1 M81 h) (fun r89 => ?_)
          exact zm_iret dX10_send_92 rfl (Nat.le_refl _) (Nat.le_refl _) rfl
        refine zm_if_eq 78 72 (by decide) rfl dX10_send_69 ?_ ?_
        · refine zm_iload_n 79 rfl dX10_send_78 rfl 1 rfl ?_
          exact zm_loc [2, 3, 0] rfl (hb79 a1 a2 r40)
        · refine zm_iload_n 73 rfl dX10_send_72 rfl 1 rfl ?_
          refine zm_iconst 74 rfl dX10_send_73 zi_5 ?_
          refine zm_iadd 75 rfl dX10_send_74 ?_
          refine zm_goto 79 (by decide) dX10_send_75 ?_
          exact zm_loc [2, 3, 0] rfl (hb79 a1 a2 (r40 + 5))
abbrev Y_X10_lift : zm_Y := (cX10_lift, 4, RX10, { frames := 3, cells := 0, slots := 0, locals := 141 }, (some .boolean), false, "lift")
noncomputable def f_X10_lift_b27 (a1 : Int32) (a2 : Int32) (M : zm_Mem) (b27_s0 : Int32) : Option (Int32 × zm_Mem) :=
 if b27_s0 = a2 then (zm_b2 (f_X10_beforeChange M) <| fun _ M36 => zm_ck (zm_in 3 47) <| zm_ck (zm_in 3 47) <| zm_v (zm_sI M36 12 (3 : Int32).toNatClampNeg ((M36.1 12 (3 : Int32).toNatClampNeg) ^^^ ((1 : Int32) <<< (a1 &&& 31)))) <| fun M53 => some (1, M53)) else (some (0, M))
noncomputable def f_X10_lift (a1 : Int32) (a2 : Int32) (M : zm_Mem) : Option (Int32 × zm_Mem) :=
  zm_b1 (f_X10_isTerm a1 M) <| fun r2 => if r2 = 0 then (some (0, M)) else (zm_b1 (f_X10_standing M) <| fun r11 => if ((r11 >>> (a1 &&& 31)) &&& 1) = (1 : Int32) then (f_X10_lift_b27 a1 a2 M 1) else (f_X10_lift_b27 a1 a2 M 0))
set_option maxRecDepth 20000 in
set_option maxHeartbeats 4000000 in
theorem k_X10_lift (E : zm_E) (sv : Nat) (a1 : Int32) (a2 : Int32) (M : zm_Mem) {r : Int32} {M' : zm_Mem} (h : f_X10_lift a1 a2 M = some (r, M')) : zm_Ct E (zm_w sv) (zm_w sv) yX10_lift Y_X10_lift [.ref (E.2.1 + 1), .int a1, .int a2] M (some (.int r)) M' := by
  refine zm_meth (emb := zm_ei) (d := f_X10_lift a1 a2 M) (by decide) rfl rfl (Nat.le_of_ble_eq_true rfl) h (fun X => ?_)
  show zm_V X Y_X10_lift E (zm_Q X E Y_X10_lift.2.2.2.1.cells Y_X10_lift.2.2.2.1.slots (zm_w sv) zm_ei) 0 0 false (zm_w sv) 0 [(0, .ref (E.2.1 + 1)), (1, .int a1), (2, .int a2)] [] M (f_X10_lift a1 a2 M) some
  unfold f_X10_lift
  refine zm_aload_n 1 rfl dX10_lift_0 rfl 0 rfl ?_
  refine zm_iload_n 2 rfl dX10_lift_1 rfl 1 rfl ?_
  refine zm_cV1ir 5 rfl dX10_lift_2 ml_X10_158 rfl (zm_L (sv := sv) rfl) rfl (Nat.le_of_ble_eq_true rfl) ⟨Nat.le_of_ble_eq_true rfl, Nat.le_of_ble_eq_true rfl⟩ rfl rfl ⟨Nat.le_refl _, Nat.le_refl _⟩ rfl (fun _ h => k_X10_isTerm E sv a1 M h) (fun r2 => ?_)
  refine zm_if_ne 10 8 (by decide) rfl dX10_lift_5 ?_ ?_
  · refine zm_iconst 9 rfl dX10_lift_8 zi_0 ?_
    exact zm_zret dX10_lift_9 rfl rfl (Nat.le_refl _) (Nat.le_refl _) rfl
  · refine zm_aload_n 11 rfl dX10_lift_10 rfl 0 rfl ?_
    refine zm_cV0ir 14 rfl dX10_lift_11 ml_X10_148 rfl (zm_L (sv := sv) rfl) rfl (Nat.le_of_ble_eq_true rfl) ⟨Nat.le_of_ble_eq_true rfl, Nat.le_of_ble_eq_true rfl⟩ rfl rfl ⟨Nat.le_refl _, Nat.le_refl _⟩ rfl (fun _ h => k_X10_standing E sv M h) (fun r11 => ?_)
    refine zm_iload_n 15 rfl dX10_lift_14 rfl 1 rfl ?_
    refine zm_ishr 16 rfl dX10_lift_15 ?_
    refine zm_iconst 17 rfl dX10_lift_16 zi_1 ?_
    refine zm_iand 18 rfl dX10_lift_17 ?_
    refine zm_iconst 19 rfl dX10_lift_18 zi_1 ?_
    have hb27 : ∀ (b27_s0 : Int32), zm_V X Y_X10_lift E (zm_Q X E Y_X10_lift.2.2.2.1.cells Y_X10_lift.2.2.2.1.slots (zm_w sv) zm_ei) 0 0 false (zm_w sv) 27 [(0, .ref (E.2.1 + 1)), (1, .int a1), (2, .int a2)] [.int b27_s0] M (f_X10_lift_b27 a1 a2 M b27_s0) some := by
      intro b27_s0
      unfold f_X10_lift_b27
      refine zm_istore_n (lv' := [(3, .int b27_s0), (0, .ref (E.2.1 + 1)), (1, .int a1), (2, .int a2)]) 28 rfl dX10_lift_27 rfl (by decide) rfl ?_
      refine zm_iload_n 29 rfl dX10_lift_28 rfl 0 rfl ?_
      refine zm_iload_n 30 rfl dX10_lift_29 rfl 3 rfl ?_
      refine zm_icmp_eq 35 33 (by decide) rfl dX10_lift_30 ?_ ?_
      · refine zm_aload_n 36 rfl dX10_lift_35 rfl 1 rfl ?_
        refine zm_cV0v 39 rfl dX10_lift_36 ml_X10_182 rfl (zm_L (sv := sv) rfl) rfl (Nat.le_of_ble_eq_true rfl) ⟨Nat.le_of_ble_eq_true rfl, Nat.le_of_ble_eq_true rfl⟩ rfl rfl ⟨Nat.le_refl _, Nat.le_refl _⟩ rfl (fun _ _ h => k_X10_beforeChange E sv M h) (fun _ M36 => ?_)
        refine zm_aload_n 40 rfl dX10_lift_39 rfl 1 rfl ?_
        refine zm_getR (a := 11) 43 rfl dX10_lift_40 fl_X10_32 rfl (zm_L (sv := sv) rfl) rfl (by decide) ?_
        refine zm_getR (a := 12) 46 rfl dX10_lift_43 fl_X10_142 rfl (zm_L (sv := sv) rfl) rfl (by decide) ?_
        refine zm_iconst 47 rfl dX10_lift_46 zi_3 ?_
        refine zm_dup2 48 rfl dX10_lift_47 rfl rfl ?_
        refine zm_iald 49 rfl dX10_lift_48 rfl (zm_L (sv := sv) rfl) ?_
        refine zm_iconst 50 rfl dX10_lift_49 zi_1 ?_
        refine zm_iload_n 51 rfl dX10_lift_50 rfl 2 rfl ?_
        refine zm_ishl 52 rfl dX10_lift_51 ?_
        refine zm_ixor 53 rfl dX10_lift_52 ?_
        refine zm_iast 54 rfl dX10_lift_53 rfl (zm_L (sv := sv) rfl) (fun M53 _ => ?_)
        refine zm_iconst 55 rfl dX10_lift_54 zi_1 ?_
        exact zm_zret dX10_lift_55 rfl rfl (Nat.le_refl _) (Nat.le_refl _) rfl
      · refine zm_iconst 34 rfl dX10_lift_33 zi_0 ?_
        exact zm_zret dX10_lift_34 rfl rfl (Nat.le_refl _) (Nat.le_refl _) rfl
    refine zm_icmp_ne 26 22 (by decide) rfl dX10_lift_19 ?_ ?_
    · refine zm_iconst 23 rfl dX10_lift_22 zi_1 ?_
      refine zm_goto 27 (by decide) dX10_lift_23 ?_
      exact zm_loc [0, 1, 2] rfl (hb27 1)
    · refine zm_iconst 27 rfl dX10_lift_26 zi_0 ?_
      exact zm_loc [0, 1, 2] rfl (hb27 0)
abbrev Y_X10_days : zm_Y := (cX10_days, 2, RX10, { frames := 3, cells := 0, slots := 0, locals := 141 }, (some .int), false, "days")
noncomputable def f_X10_days_b33 (M33 : zm_Mem) : Option (Int32 × zm_Mem) :=
 zm_b1 (f_X4_today M33) <| fun r37 => some (r37, M33)
noncomputable def f_X10_days (a1 : Int32) (M : zm_Mem) : Option (Int32 × zm_Mem) :=
  if a1 < 0 then (some ((-1), M)) else (if a1 ≤ (99 : Int32) then (if a1 ≤ 0 then (f_X10_days_b33 M) else (zm_b2 (f_X10_beforeChange M) <| fun _ M17 => zm_ck (zm_in 0 47) <| zm_ck (zm_in 0 47) <| zm_v (zm_sI M17 12 (0 : Int32).toNatClampNeg ((M17.1 12 (0 : Int32).toNatClampNeg) + a1)) <| fun M32 => f_X10_days_b33 M32)) else (some ((-1), M)))
set_option maxRecDepth 20000 in
set_option maxHeartbeats 4000000 in
theorem k_X10_days (E : zm_E) (sv : Nat) (a1 : Int32) (M : zm_Mem) {r : Int32} {M' : zm_Mem} (h : f_X10_days a1 M = some (r, M')) : zm_Ct E (zm_w sv) (zm_w sv) yX10_days Y_X10_days [.ref (E.2.1 + 1), .int a1] M (some (.int r)) M' := by
  refine zm_meth (emb := zm_ei) (d := f_X10_days a1 M) (by decide) rfl rfl (Nat.le_of_ble_eq_true rfl) h (fun X => ?_)
  show zm_V X Y_X10_days E (zm_Q X E Y_X10_days.2.2.2.1.cells Y_X10_days.2.2.2.1.slots (zm_w sv) zm_ei) 0 0 false (zm_w sv) 0 [(0, .ref (E.2.1 + 1)), (1, .int a1)] [] M (f_X10_days a1 M) some
  unfold f_X10_days
  refine zm_iload_n 1 rfl dX10_days_0 rfl 1 rfl ?_
  refine zm_if_lt 10 4 (by decide) rfl dX10_days_1 ?_ ?_
  · refine zm_iconst 11 rfl dX10_days_10 zi_m1 ?_
    exact zm_iret dX10_days_11 rfl (Nat.le_refl _) (Nat.le_refl _) rfl
  · refine zm_iload_n 5 rfl dX10_days_4 rfl 1 rfl ?_
    refine zm_bipush 7 rfl dX10_days_5 zb_99 ?_
    refine zm_icmp_le 12 10 (by decide) rfl dX10_days_7 ?_ ?_
    · refine zm_iload_n 13 rfl dX10_days_12 rfl 1 rfl ?_
      have hb33 : ∀ (M33 : zm_Mem), zm_V X Y_X10_days E (zm_Q X E Y_X10_days.2.2.2.1.cells Y_X10_days.2.2.2.1.slots (zm_w sv) zm_ei) 0 0 false (zm_w sv) 33 [(0, .ref (E.2.1 + 1))] [] M33 (f_X10_days_b33 M33) some := by
        intro M33
        unfold f_X10_days_b33
        refine zm_aload_n 34 rfl dX10_days_33 rfl 0 rfl ?_
        refine zm_getR (a := 11) 37 rfl dX10_days_34 fl_X10_32 rfl (zm_L (sv := sv) rfl) rfl (by decide) ?_
        refine zm_cV0ir 40 rfl dX10_days_37 ml_X10_189 rfl (zm_L (sv := sv) rfl) rfl (Nat.le_of_ble_eq_true rfl) ⟨Nat.le_of_ble_eq_true rfl, Nat.le_of_ble_eq_true rfl⟩ rfl rfl ⟨Nat.le_refl _, Nat.le_refl _⟩ rfl (fun _ h => k_X4_today E sv M33 h) (fun r37 => ?_)
        exact zm_iret dX10_days_40 rfl (Nat.le_refl _) (Nat.le_refl _) rfl
      refine zm_if_le 33 16 (by decide) rfl dX10_days_13 ?_ ?_
      · exact zm_loc [0] rfl (hb33 M)
      · refine zm_aload_n 17 rfl dX10_days_16 rfl 0 rfl ?_
        refine zm_cV0v 20 rfl dX10_days_17 ml_X10_182 rfl (zm_L (sv := sv) rfl) rfl (Nat.le_of_ble_eq_true rfl) ⟨Nat.le_of_ble_eq_true rfl, Nat.le_of_ble_eq_true rfl⟩ rfl rfl ⟨Nat.le_refl _, Nat.le_refl _⟩ rfl (fun _ _ h => k_X10_beforeChange E sv M h) (fun _ M17 => ?_)
        refine zm_aload_n 21 rfl dX10_days_20 rfl 0 rfl ?_
        refine zm_getR (a := 11) 24 rfl dX10_days_21 fl_X10_32 rfl (zm_L (sv := sv) rfl) rfl (by decide) ?_
        refine zm_getR (a := 12) 27 rfl dX10_days_24 fl_X10_142 rfl (zm_L (sv := sv) rfl) rfl (by decide) ?_
        refine zm_iconst 28 rfl dX10_days_27 zi_0 ?_
        refine zm_dup2 29 rfl dX10_days_28 rfl rfl ?_
        refine zm_iald 30 rfl dX10_days_29 rfl (zm_L (sv := sv) rfl) ?_
        refine zm_iload_n 31 rfl dX10_days_30 rfl 1 rfl ?_
        refine zm_iadd 32 rfl dX10_days_31 ?_
        refine zm_iast 33 rfl dX10_days_32 rfl (zm_L (sv := sv) rfl) (fun M32 _ => ?_)
        exact zm_loc [0] rfl (hb33 M32)
    · refine zm_iconst 11 rfl dX10_days_10 zi_m1 ?_
      exact zm_iret dX10_days_11 rfl (Nat.le_refl _) (Nat.le_refl _) rfl
abbrev Y_X10_undo : zm_Y := (cX10_undo, 1, RX10, { frames := 2, cells := 0, slots := 0, locals := 121 }, (some .boolean), false, "undo")
noncomputable def f_X10_undo  (M : zm_Mem) : Option (Int32 × zm_Mem) :=
  zm_b1 (f_X1_size M) <| fun r4 => if r4 = 0 then (some (0, M)) else (zm_b2 (f_X1_takeBack 12 M) <| fun _ M23 => zm_v (zm_sI M23 1 13 0) <| fun M28 => some (1, M28))
set_option maxRecDepth 20000 in
set_option maxHeartbeats 4000000 in
theorem k_X10_undo (E : zm_E) (sv : Nat)  (M : zm_Mem) {r : Int32} {M' : zm_Mem} (h : f_X10_undo M = some (r, M')) : zm_Ct E (zm_w sv) (zm_w sv) yX10_undo Y_X10_undo [.ref (E.2.1 + 1)] M (some (.int r)) M' := by
  refine zm_meth (emb := zm_ei) (d := f_X10_undo M) (by decide) rfl rfl (Nat.le_of_ble_eq_true rfl) h (fun X => ?_)
  show zm_V X Y_X10_undo E (zm_Q X E Y_X10_undo.2.2.2.1.cells Y_X10_undo.2.2.2.1.slots (zm_w sv) zm_ei) 0 0 false (zm_w sv) 0 [(0, .ref (E.2.1 + 1))] [] M (f_X10_undo M) some
  unfold f_X10_undo
  refine zm_aload_n 1 rfl dX10_undo_0 rfl 0 rfl ?_
  refine zm_getR (a := 13) 4 rfl dX10_undo_1 fl_X10_39 rfl (zm_L (sv := sv) rfl) rfl (by decide) ?_
  refine zm_cV0ir 7 rfl dX10_undo_4 ml_X10_192 rfl (zm_L (sv := sv) rfl) rfl (Nat.le_of_ble_eq_true rfl) ⟨Nat.le_of_ble_eq_true rfl, Nat.le_of_ble_eq_true rfl⟩ rfl rfl ⟨Nat.le_refl _, Nat.le_refl _⟩ rfl (fun _ h => k_X1_size E sv M h) (fun r4 => ?_)
  refine zm_if_ne 12 10 (by decide) rfl dX10_undo_7 ?_ ?_
  · refine zm_iconst 11 rfl dX10_undo_10 zi_0 ?_
    exact zm_zret dX10_undo_11 rfl rfl (Nat.le_refl _) (Nat.le_refl _) rfl
  · refine zm_aload_n 13 rfl dX10_undo_12 rfl 0 rfl ?_
    refine zm_getR (a := 13) 16 rfl dX10_undo_13 fl_X10_39 rfl (zm_L (sv := sv) rfl) rfl (by decide) ?_
    refine zm_aload_n 17 rfl dX10_undo_16 rfl 0 rfl ?_
    refine zm_getR (a := 11) 20 rfl dX10_undo_17 fl_X10_32 rfl (zm_L (sv := sv) rfl) rfl (by decide) ?_
    refine zm_getR (a := 12) 23 rfl dX10_undo_20 fl_X10_142 rfl (zm_L (sv := sv) rfl) rfl (by decide) ?_
    refine zm_cV1v 26 rfl dX10_undo_23 ml_X10_195 rfl (zm_L (sv := sv) rfl) rfl (Nat.le_of_ble_eq_true rfl) ⟨Nat.le_of_ble_eq_true rfl, Nat.le_of_ble_eq_true rfl⟩ rfl rfl ⟨Nat.le_refl _, Nat.le_refl _⟩ rfl (fun _ _ h => k_X1_takeBack E sv 12 ⟨rfl, (zm_L (sv := sv) rfl)⟩ M h) (fun _ M23 => ?_)
    refine zm_aload_n 27 rfl dX10_undo_26 rfl 0 rfl ?_
    refine zm_iconst 28 rfl dX10_undo_27 zi_0 ?_
    refine zm_putI 31 rfl dX10_undo_28 fp_X10_199 rfl (zm_L (sv := sv) rfl) rfl rfl (fun M28 _ => ?_)
    refine zm_iconst 32 rfl dX10_undo_31 zi_1 ?_
    exact zm_zret dX10_undo_32 rfl rfl (Nat.le_refl _) (Nat.le_refl _) rfl
abbrev Y_X10_well : zm_Y := (cX10_well, 1, RX10, { frames := 5, cells := 0, slots := 0, locals := 118 }, (some .boolean), false, "well")
noncomputable def f_X10_well  (M : zm_Mem) : Option (Int32 × zm_Mem) :=
  zm_b2 (f_X10_lookToday M) <| fun _ M1 => zm_b1 (f_X10_standing M1) <| fun r9 => zm_b2 (f_X3_allWell r9 M1) <| fun r12 M12 => zm_ck (decide (r12 &&& 1 = r12) && fits .boolean (.int r12)) <| some (r12, M12)
set_option maxRecDepth 20000 in
set_option maxHeartbeats 4000000 in
theorem k_X10_well (E : zm_E) (sv : Nat)  (M : zm_Mem) {r : Int32} {M' : zm_Mem} (h : f_X10_well M = some (r, M')) : zm_Ct E (zm_w sv) (zm_w sv) yX10_well Y_X10_well [.ref (E.2.1 + 1)] M (some (.int r)) M' := by
  refine zm_meth (emb := zm_ei) (d := f_X10_well M) (by decide) rfl rfl (Nat.le_of_ble_eq_true rfl) h (fun X => ?_)
  show zm_V X Y_X10_well E (zm_Q X E Y_X10_well.2.2.2.1.cells Y_X10_well.2.2.2.1.slots (zm_w sv) zm_ei) 0 0 false (zm_w sv) 0 [(0, .ref (E.2.1 + 1))] [] M (f_X10_well M) some
  unfold f_X10_well
  refine zm_aload_n 1 rfl dX10_well_0 rfl 0 rfl ?_
  refine zm_cV0v 4 rfl dX10_well_1 ml_X10_151 rfl (zm_L (sv := sv) rfl) rfl (Nat.le_of_ble_eq_true rfl) ⟨Nat.le_of_ble_eq_true rfl, Nat.le_of_ble_eq_true rfl⟩ rfl rfl ⟨Nat.le_refl _, Nat.le_refl _⟩ rfl (fun _ _ h => k_X10_lookToday E sv M h) (fun _ M1 => ?_)
  refine zm_aload_n 5 rfl dX10_well_4 rfl 0 rfl ?_
  refine zm_getR (a := 47) 8 rfl dX10_well_5 fl_X10_76 rfl (zm_L (sv := sv) rfl) rfl (by decide) ?_
  refine zm_aload_n 9 rfl dX10_well_8 rfl 0 rfl ?_
  refine zm_cV0ir 12 rfl dX10_well_9 ml_X10_148 rfl (zm_L (sv := sv) rfl) rfl (Nat.le_of_ble_eq_true rfl) ⟨Nat.le_of_ble_eq_true rfl, Nat.le_of_ble_eq_true rfl⟩ rfl rfl ⟨Nat.le_refl _, Nat.le_refl _⟩ rfl (fun _ h => k_X10_standing E sv M1 h) (fun r9 => ?_)
  refine zm_cV1i 15 rfl dX10_well_12 ml_X10_203 rfl (zm_L (sv := sv) rfl) rfl (Nat.le_of_ble_eq_true rfl) ⟨Nat.le_of_ble_eq_true rfl, Nat.le_of_ble_eq_true rfl⟩ rfl rfl ⟨Nat.le_refl _, Nat.le_refl _⟩ rfl (fun _ _ h => k_X3_allWell E sv r9 M1 h) (fun r12 M12 => ?_)
  refine zm_gd (fun hg15 => ?_)
  exact zm_zret dX10_well_15 rfl (zm_bl1 hg15) (Nat.le_refl _) (Nat.le_refl _) rfl
abbrev Y_X10_bad : zm_Y := (cX10_bad, 3, RX10, { frames := 5, cells := 0, slots := 0, locals := 118 }, (some .int), false, "bad")
noncomputable def f_X10_bad_l7 (r1 : Int32) (l7_2 : Int32) (L7 : zm_Mem) : Option ((Int32 × zm_Mem) ⊕ ((Int32 × zm_Mem) ⊕ zm_Mem)) :=
 if (200 : Int32) < l7_2 then (some (.inr (.inr L7))) else (zm_v (L7.2.2 1 9) <| fun t19 => zm_ck (zm_isT t19) <| zm_b1 (f_X4_today L7) <| fun r30 => zm_b2 (f_X3_look t19 (r30 + l7_2) L7) <| fun _ M35 => zm_b2 (f_X3_allWell r1 M35) <| fun r43 M43 => if r43 = 0 then (some (.inr (.inl (l7_2, M43)))) else (zm_v (l7_2 + 1) <| fun x51 => some (.inl (x51, M43))))
noncomputable def f_X10_bad  (M : zm_Mem) : Option (Int32 × zm_Mem) :=
  zm_b1 (f_X10_standing M) <| fun r1 => (zm_lp (fun s => f_X10_bad_l7 r1 s.1 s.2) (0, M)).bind (Sum.elim (fun e49 => some (e49.1, e49.2)) (fun e57 => some ((-2), e57)))
set_option maxRecDepth 20000 in
set_option maxHeartbeats 4000000 in
theorem k_X10_bad (E : zm_E) (sv : Nat)  (M : zm_Mem) {r : Int32} {M' : zm_Mem} (h : f_X10_bad M = some (r, M')) : zm_Ct E (zm_w sv) (zm_w sv) yX10_bad Y_X10_bad [.ref (E.2.1 + 1)] M (some (.int r)) M' := by
  refine zm_meth (emb := zm_ei) (d := f_X10_bad M) (by decide) rfl rfl (Nat.le_of_ble_eq_true rfl) h (fun X => ?_)
  show zm_V X Y_X10_bad E (zm_Q X E Y_X10_bad.2.2.2.1.cells Y_X10_bad.2.2.2.1.slots (zm_w sv) zm_ei) 0 0 false (zm_w sv) 0 [(0, .ref (E.2.1 + 1))] [] M (f_X10_bad M) some
  unfold f_X10_bad
  refine zm_aload_n 1 rfl dX10_bad_0 rfl 0 rfl ?_
  refine zm_cV0ir 4 rfl dX10_bad_1 ml_X10_148 rfl (zm_L (sv := sv) rfl) rfl (Nat.le_of_ble_eq_true rfl) ⟨Nat.le_of_ble_eq_true rfl, Nat.le_of_ble_eq_true rfl⟩ rfl rfl ⟨Nat.le_refl _, Nat.le_refl _⟩ rfl (fun _ h => k_X10_standing E sv M h) (fun r1 => ?_)
  refine zm_istore_n (lv' := [(1, .int r1), (0, .ref (E.2.1 + 1))]) 5 rfl dX10_bad_4 rfl (by decide) rfl ?_
  refine zm_iconst 6 rfl dX10_bad_5 zi_0 ?_
  refine zm_istore_n (lv' := [(2, .int 0), (1, .int r1), (0, .ref (E.2.1 + 1))]) 7 rfl dX10_bad_6 rfl (by decide) rfl ?_
  have hx49_7 : ∀ (e49_2 : Int32) (N49 : zm_Mem), zm_V X Y_X10_bad E (zm_Q X E Y_X10_bad.2.2.2.1.cells Y_X10_bad.2.2.2.1.slots (zm_w sv) zm_ei) 0 0 false (zm_w sv) 49 [(2, .int e49_2)] [] N49 (some (e49_2, N49)) some := by
    intro e49_2 N49
    refine zm_iload_n 50 rfl dX10_bad_49 rfl 0 rfl ?_
    exact zm_iret dX10_bad_50 rfl (Nat.le_refl _) (Nat.le_refl _) rfl
  have hx57_7 : ∀ (N57 : zm_Mem), zm_V X Y_X10_bad E (zm_Q X E Y_X10_bad.2.2.2.1.cells Y_X10_bad.2.2.2.1.slots (zm_w sv) zm_ei) 0 0 false (zm_w sv) 57 [] [] N57 (some ((-2), N57)) some := by
    intro N57
    refine zm_bipush 59 rfl dX10_bad_57 zb_m2 ?_
    exact zm_iret dX10_bad_59 rfl (Nat.le_refl _) (Nat.le_refl _) rfl
  refine zm_loc [2, 1, 0] rfl (zm_lpp (σ := (Int32 × zm_Mem)) (ε := ((Int32 × zm_Mem) ⊕ zm_Mem)) (step := fun s => f_X10_bad_l7 r1 s.1 s.2) (fun s => [(0, .ref (E.2.1 + 1)), (1, .int r1), (2, .int s.1)]) (fun s => s.2) (fun D7 f7 hf7a hf7b hD7 s => ?_) (0, M))
  obtain ⟨l7_2, L7⟩ := s
  show zm_V X Y_X10_bad E (zm_Q X E Y_X10_bad.2.2.2.1.cells Y_X10_bad.2.2.2.1.slots (zm_w sv) zm_ei) 0 0 false (zm_w sv) 7 [(0, .ref (E.2.1 + 1)), (1, .int r1), (2, .int l7_2)] [] L7 (f_X10_bad_l7 r1 l7_2 L7) f7
  unfold f_X10_bad_l7
  refine zm_iload_n 8 rfl dX10_bad_7 rfl 2 rfl ?_
  refine zm_sipush 11 rfl dX10_bad_8 zs_200 ?_
  refine zm_icmp_gt 57 14 (by decide) rfl dX10_bad_11 ?_ ?_
  · exact zm_loc [] rfl (zm_go (hf7b _) (zm_unb (hx57_7 L7)))
  · refine zm_aload_n 15 rfl dX10_bad_14 rfl 0 rfl ?_
    refine zm_getR (a := 47) 18 rfl dX10_bad_15 fl_X10_76 rfl (zm_L (sv := sv) rfl) rfl (by decide) ?_
    refine zm_aload_n 19 rfl dX10_bad_18 rfl 0 rfl ?_
    refine zm_getT 22 rfl dX10_bad_19 fl_X10_60 rfl (zm_L (sv := sv) rfl) (fun t19 _ ht19 => ?_)
    refine zm_aload_n 23 rfl dX10_bad_22 rfl 0 rfl ?_
    refine zm_getR (a := 11) 26 rfl dX10_bad_23 fl_X10_32 rfl (zm_L (sv := sv) rfl) rfl (by decide) ?_
    refine zm_aload_n 27 rfl dX10_bad_26 rfl 0 rfl ?_
    refine zm_getR (a := 11) 30 rfl dX10_bad_27 fl_X10_32 rfl (zm_L (sv := sv) rfl) rfl (by decide) ?_
    refine zm_cV0ir 33 rfl dX10_bad_30 ml_X10_189 rfl (zm_L (sv := sv) rfl) rfl (Nat.le_of_ble_eq_true rfl) ⟨Nat.le_of_ble_eq_true rfl, Nat.le_of_ble_eq_true rfl⟩ rfl rfl ⟨Nat.le_refl _, Nat.le_refl _⟩ rfl (fun _ h => k_X4_today E sv L7 h) (fun r30 => ?_)
    refine zm_iload_n 34 rfl dX10_bad_33 rfl 2 rfl ?_
    refine zm_iadd 35 rfl dX10_bad_34 ?_
    refine zm_cV3v 38 rfl dX10_bad_35 ml_X10_206 rfl (zm_L (sv := sv) rfl) rfl (Nat.le_of_ble_eq_true rfl) ⟨Nat.le_of_ble_eq_true rfl, Nat.le_of_ble_eq_true rfl⟩ rfl rfl ⟨Nat.le_refl _, Nat.le_refl _⟩ rfl (fun _ _ h => k_X3_look E sv t19 (r30 + l7_2) ht19 L7 h) (fun _ M35 => ?_)
    refine zm_aload_n 39 rfl dX10_bad_38 rfl 0 rfl ?_
    refine zm_getR (a := 47) 42 rfl dX10_bad_39 fl_X10_76 rfl (zm_L (sv := sv) rfl) rfl (by decide) ?_
    refine zm_iload_n 43 rfl dX10_bad_42 rfl 1 rfl ?_
    refine zm_cV1i 46 rfl dX10_bad_43 ml_X10_203 rfl (zm_L (sv := sv) rfl) rfl (Nat.le_of_ble_eq_true rfl) ⟨Nat.le_of_ble_eq_true rfl, Nat.le_of_ble_eq_true rfl⟩ rfl rfl ⟨Nat.le_refl _, Nat.le_refl _⟩ rfl (fun _ _ h => k_X3_allWell E sv r1 M35 h) (fun r43 M43 => ?_)
    refine zm_if_ne 51 49 (by decide) rfl dX10_bad_46 ?_ ?_
    · exact zm_loc [2] rfl (zm_go (hf7b _) (zm_unb (hx49_7 l7_2 M43)))
    · refine zm_iinc (lv' := fun z => [(2, .int z), (0, .ref (E.2.1 + 1)), (1, .int r1)]) 54 rfl dX10_bad_51 zi_1 2 rfl (by decide) (fun _ => rfl) (fun x51 _ => ?_)
      refine zm_goto 7 (by decide) dX10_bad_54 ?_
      exact zm_loc [1, 2, 0] rfl (zm_go (hf7a _) (hD7 (x51, M43)))
abbrev Y_X10_gainOf : zm_Y := (cX10_gainOf, 4, RX10, { frames := 3, cells := 0, slots := 0, locals := 74 }, (some .int), false, "gainOf")
noncomputable def f_X10_gainOf (a1 : Int32) (a2 : Int32) (a3 : Int32) (M : zm_Mem) : Option (Int32 × zm_Mem) :=
  zm_b2 (f_X3_liking a1 a3 a2 M) <| fun r7 M7 => zm_b2 (f_X3_liking a1 a2 (-1) M7) <| fun r17 M17 => some (r7 - r17, M17)
set_option maxRecDepth 20000 in
set_option maxHeartbeats 4000000 in
theorem k_X10_gainOf (E : zm_E) (sv : Nat) (a1 : Int32) (a2 : Int32) (a3 : Int32) (M : zm_Mem) {r : Int32} {M' : zm_Mem} (h : f_X10_gainOf a1 a2 a3 M = some (r, M')) : zm_Ct E (zm_w sv) (zm_w sv) yX10_gainOf Y_X10_gainOf [.ref (E.2.1 + 1), .int a1, .int a2, .int a3] M (some (.int r)) M' := by
  refine zm_meth (emb := zm_ei) (d := f_X10_gainOf a1 a2 a3 M) (by decide) rfl rfl (Nat.le_of_ble_eq_true rfl) h (fun X => ?_)
  show zm_V X Y_X10_gainOf E (zm_Q X E Y_X10_gainOf.2.2.2.1.cells Y_X10_gainOf.2.2.2.1.slots (zm_w sv) zm_ei) 0 0 false (zm_w sv) 0 [(0, .ref (E.2.1 + 1)), (1, .int a1), (2, .int a2), (3, .int a3)] [] M (f_X10_gainOf a1 a2 a3 M) some
  unfold f_X10_gainOf
  refine zm_aload_n 1 rfl dX10_gainOf_0 rfl 0 rfl ?_
  refine zm_getR (a := 47) 4 rfl dX10_gainOf_1 fl_X10_76 rfl (zm_L (sv := sv) rfl) rfl (by decide) ?_
  refine zm_iload_n 5 rfl dX10_gainOf_4 rfl 1 rfl ?_
  refine zm_iload_n 6 rfl dX10_gainOf_5 rfl 3 rfl ?_
  refine zm_iload_n 7 rfl dX10_gainOf_6 rfl 2 rfl ?_
  refine zm_cV3i 10 rfl dX10_gainOf_7 ml_X10_165 rfl (zm_L (sv := sv) rfl) rfl (Nat.le_of_ble_eq_true rfl) ⟨Nat.le_of_ble_eq_true rfl, Nat.le_of_ble_eq_true rfl⟩ rfl rfl ⟨Nat.le_refl _, Nat.le_refl _⟩ rfl (fun _ _ h => k_X3_liking E sv a1 a3 a2 M h) (fun r7 M7 => ?_)
  refine zm_aload_n 11 rfl dX10_gainOf_10 rfl 0 rfl ?_
  refine zm_getR (a := 47) 14 rfl dX10_gainOf_11 fl_X10_76 rfl (zm_L (sv := sv) rfl) rfl (by decide) ?_
  refine zm_iload_n 15 rfl dX10_gainOf_14 rfl 1 rfl ?_
  refine zm_iload_n 16 rfl dX10_gainOf_15 rfl 2 rfl ?_
  refine zm_iconst 17 rfl dX10_gainOf_16 zi_m1 ?_
  refine zm_cV3i 20 rfl dX10_gainOf_17 ml_X10_165 rfl (zm_L (sv := sv) rfl) rfl (Nat.le_of_ble_eq_true rfl) ⟨Nat.le_of_ble_eq_true rfl, Nat.le_of_ble_eq_true rfl⟩ rfl rfl ⟨Nat.le_refl _, Nat.le_refl _⟩ rfl (fun _ _ h => k_X3_liking E sv a1 a2 (-1) M7 h) (fun r17 M17 => ?_)
  refine zm_isub 21 rfl dX10_gainOf_20 ?_
  exact zm_iret dX10_gainOf_21 rfl (Nat.le_refl _) (Nat.le_refl _) rfl
abbrev Y_X10_gainsOfSwap : zm_Y := (cX10_gainsOfSwap, 5, RX10, { frames := 4, cells := 0, slots := 0, locals := 97 }, (some .int), false, "gainsOfSwap")
noncomputable def f_X10_gainsOfSwap_b90 (M69 : zm_Mem) : Option (Int32 × zm_Mem) :=
 some (0, M69)
noncomputable def f_X10_gainsOfSwap (a1 : Int32) (a2 : Int32) (M : zm_Mem) : Option (Int32 × zm_Mem) :=
  zm_b1 (f_X4_underWay a1 M) <| fun r5 => if r5 = 0 then (zm_b1 (f_X4_underWay a2 M) <| fun r16 => if r16 = 0 then (zm_b1 (f_X4_goal a1 M) <| fun r27 => zm_b1 (f_X4_goal a2 M) <| fun r35 => if r27 = r35 then (some (0, M)) else (zm_b1 (f_X4_goal a1 M) <| fun r49 => zm_b2 (f_X10_gainOf r49 a1 a2 M) <| fun r54 M54 => zm_b1 (f_X4_goal a2 M54) <| fun r64 => zm_b2 (f_X10_gainOf r64 a2 a1 M54) <| fun r69 M69 => if r54 ≤ 0 then (f_X10_gainsOfSwap_b90 M69) else (if r69 ≤ 0 then (f_X10_gainsOfSwap_b90 M69) else (some (r54 + r69, M69))))) else (some (0, M))) else (some (0, M))
set_option maxRecDepth 20000 in
set_option maxHeartbeats 4000000 in
theorem k_X10_gainsOfSwap (E : zm_E) (sv : Nat) (a1 : Int32) (a2 : Int32) (M : zm_Mem) {r : Int32} {M' : zm_Mem} (h : f_X10_gainsOfSwap a1 a2 M = some (r, M')) : zm_Ct E (zm_w sv) (zm_w sv) yX10_gainsOfSwap Y_X10_gainsOfSwap [.ref (E.2.1 + 1), .int a1, .int a2] M (some (.int r)) M' := by
  refine zm_meth (emb := zm_ei) (d := f_X10_gainsOfSwap a1 a2 M) (by decide) rfl rfl (Nat.le_of_ble_eq_true rfl) h (fun X => ?_)
  show zm_V X Y_X10_gainsOfSwap E (zm_Q X E Y_X10_gainsOfSwap.2.2.2.1.cells Y_X10_gainsOfSwap.2.2.2.1.slots (zm_w sv) zm_ei) 0 0 false (zm_w sv) 0 [(0, .ref (E.2.1 + 1)), (1, .int a1), (2, .int a2)] [] M (f_X10_gainsOfSwap a1 a2 M) some
  unfold f_X10_gainsOfSwap
  refine zm_aload_n 1 rfl dX10_gainsOfSwap_0 rfl 0 rfl ?_
  refine zm_getR (a := 11) 4 rfl dX10_gainsOfSwap_1 fl_X10_32 rfl (zm_L (sv := sv) rfl) rfl (by decide) ?_
  refine zm_iload_n 5 rfl dX10_gainsOfSwap_4 rfl 1 rfl ?_
  refine zm_cV1ir 8 rfl dX10_gainsOfSwap_5 ml_X10_124 rfl (zm_L (sv := sv) rfl) rfl (Nat.le_of_ble_eq_true rfl) ⟨Nat.le_of_ble_eq_true rfl, Nat.le_of_ble_eq_true rfl⟩ rfl rfl ⟨Nat.le_refl _, Nat.le_refl _⟩ rfl (fun _ h => k_X4_underWay E sv a1 M h) (fun r5 => ?_)
  refine zm_if_ne 41 11 (by decide) rfl dX10_gainsOfSwap_8 ?_ ?_
  · refine zm_aload_n 12 rfl dX10_gainsOfSwap_11 rfl 0 rfl ?_
    refine zm_getR (a := 11) 15 rfl dX10_gainsOfSwap_12 fl_X10_32 rfl (zm_L (sv := sv) rfl) rfl (by decide) ?_
    refine zm_iload_n 16 rfl dX10_gainsOfSwap_15 rfl 2 rfl ?_
    refine zm_cV1ir 19 rfl dX10_gainsOfSwap_16 ml_X10_124 rfl (zm_L (sv := sv) rfl) rfl (Nat.le_of_ble_eq_true rfl) ⟨Nat.le_of_ble_eq_true rfl, Nat.le_of_ble_eq_true rfl⟩ rfl rfl ⟨Nat.le_refl _, Nat.le_refl _⟩ rfl (fun _ h => k_X4_underWay E sv a2 M h) (fun r16 => ?_)
    refine zm_if_ne 41 22 (by decide) rfl dX10_gainsOfSwap_19 ?_ ?_
    · refine zm_aload_n 23 rfl dX10_gainsOfSwap_22 rfl 0 rfl ?_
      refine zm_getR (a := 11) 26 rfl dX10_gainsOfSwap_23 fl_X10_32 rfl (zm_L (sv := sv) rfl) rfl (by decide) ?_
      refine zm_iload_n 27 rfl dX10_gainsOfSwap_26 rfl 1 rfl ?_
      refine zm_cV1ir 30 rfl dX10_gainsOfSwap_27 ml_X10_130 rfl (zm_L (sv := sv) rfl) rfl (Nat.le_of_ble_eq_true rfl) ⟨Nat.le_of_ble_eq_true rfl, Nat.le_of_ble_eq_true rfl⟩ rfl rfl ⟨Nat.le_refl _, Nat.le_refl _⟩ rfl (fun _ h => k_X4_goal E sv a1 M h) (fun r27 => ?_)
      refine zm_aload_n 31 rfl dX10_gainsOfSwap_30 rfl 0 rfl ?_
      refine zm_getR (a := 11) 34 rfl dX10_gainsOfSwap_31 fl_X10_32 rfl (zm_L (sv := sv) rfl) rfl (by decide) ?_
      refine zm_iload_n 35 rfl dX10_gainsOfSwap_34 rfl 2 rfl ?_
      refine zm_cV1ir 38 rfl dX10_gainsOfSwap_35 ml_X10_130 rfl (zm_L (sv := sv) rfl) rfl (Nat.le_of_ble_eq_true rfl) ⟨Nat.le_of_ble_eq_true rfl, Nat.le_of_ble_eq_true rfl⟩ rfl rfl ⟨Nat.le_refl _, Nat.le_refl _⟩ rfl (fun _ h => k_X4_goal E sv a2 M h) (fun r35 => ?_)
      refine zm_icmp_ne 43 41 (by decide) rfl dX10_gainsOfSwap_38 ?_ ?_
      · refine zm_iconst 42 rfl dX10_gainsOfSwap_41 zi_0 ?_
        exact zm_iret dX10_gainsOfSwap_42 rfl (Nat.le_refl _) (Nat.le_refl _) rfl
      · refine zm_aload_n 44 rfl dX10_gainsOfSwap_43 rfl 0 rfl ?_
        refine zm_aload_n 45 rfl dX10_gainsOfSwap_44 rfl 0 rfl ?_
        refine zm_getR (a := 11) 48 rfl dX10_gainsOfSwap_45 fl_X10_32 rfl (zm_L (sv := sv) rfl) rfl (by decide) ?_
        refine zm_iload_n 49 rfl dX10_gainsOfSwap_48 rfl 1 rfl ?_
        refine zm_cV1ir 52 rfl dX10_gainsOfSwap_49 ml_X10_130 rfl (zm_L (sv := sv) rfl) rfl (Nat.le_of_ble_eq_true rfl) ⟨Nat.le_of_ble_eq_true rfl, Nat.le_of_ble_eq_true rfl⟩ rfl rfl ⟨Nat.le_refl _, Nat.le_refl _⟩ rfl (fun _ h => k_X4_goal E sv a1 M h) (fun r49 => ?_)
        refine zm_iload_n 53 rfl dX10_gainsOfSwap_52 rfl 1 rfl ?_
        refine zm_iload_n 54 rfl dX10_gainsOfSwap_53 rfl 2 rfl ?_
        refine zm_cV3i 57 rfl dX10_gainsOfSwap_54 ml_X10_358 rfl (zm_L (sv := sv) rfl) rfl (Nat.le_of_ble_eq_true rfl) ⟨Nat.le_of_ble_eq_true rfl, Nat.le_of_ble_eq_true rfl⟩ rfl rfl ⟨Nat.le_refl _, Nat.le_refl _⟩ rfl (fun _ _ h => k_X10_gainOf E sv r49 a1 a2 M h) (fun r54 M54 => ?_)
        refine zm_istore_n (lv' := [(3, .int r54), (0, .ref (E.2.1 + 1)), (1, .int a1), (2, .int a2)]) 58 rfl dX10_gainsOfSwap_57 rfl (by decide) rfl ?_
        refine zm_aload_n 59 rfl dX10_gainsOfSwap_58 rfl 1 rfl ?_
        refine zm_aload_n 60 rfl dX10_gainsOfSwap_59 rfl 1 rfl ?_
        refine zm_getR (a := 11) 63 rfl dX10_gainsOfSwap_60 fl_X10_32 rfl (zm_L (sv := sv) rfl) rfl (by decide) ?_
        refine zm_iload_n 64 rfl dX10_gainsOfSwap_63 rfl 3 rfl ?_
        refine zm_cV1ir 67 rfl dX10_gainsOfSwap_64 ml_X10_130 rfl (zm_L (sv := sv) rfl) rfl (Nat.le_of_ble_eq_true rfl) ⟨Nat.le_of_ble_eq_true rfl, Nat.le_of_ble_eq_true rfl⟩ rfl rfl ⟨Nat.le_refl _, Nat.le_refl _⟩ rfl (fun _ h => k_X4_goal E sv a2 M54 h) (fun r64 => ?_)
        refine zm_iload_n 68 rfl dX10_gainsOfSwap_67 rfl 3 rfl ?_
        refine zm_iload_n 69 rfl dX10_gainsOfSwap_68 rfl 2 rfl ?_
        refine zm_cV3i 72 rfl dX10_gainsOfSwap_69 ml_X10_358 rfl (zm_L (sv := sv) rfl) rfl (Nat.le_of_ble_eq_true rfl) ⟨Nat.le_of_ble_eq_true rfl, Nat.le_of_ble_eq_true rfl⟩ rfl rfl ⟨Nat.le_refl _, Nat.le_refl _⟩ rfl (fun _ _ h => k_X10_gainOf E sv r64 a2 a1 M54 h) (fun r69 M69 => ?_)
        refine zm_istore (lv' := [(4, .int r69), (3, .int r54), (0, .ref (E.2.1 + 1)), (1, .int a1), (2, .int a2)]) 74 rfl dX10_gainsOfSwap_72 (by decide) rfl ?_
        refine zm_iload_n 75 rfl dX10_gainsOfSwap_74 rfl 1 rfl ?_
        have hb90 : zm_V X Y_X10_gainsOfSwap E (zm_Q X E Y_X10_gainsOfSwap.2.2.2.1.cells Y_X10_gainsOfSwap.2.2.2.1.slots (zm_w sv) zm_ei) 0 0 false (zm_w sv) 90 [] [] M69 (f_X10_gainsOfSwap_b90 M69) some := by
          unfold f_X10_gainsOfSwap_b90
          refine zm_iconst 91 rfl dX10_gainsOfSwap_90 zi_0 ?_
          exact zm_iret dX10_gainsOfSwap_91 rfl (Nat.le_refl _) (Nat.le_refl _) rfl
        refine zm_if_le 90 78 (by decide) rfl dX10_gainsOfSwap_75 ?_ ?_
        · exact zm_loc [] rfl (hb90)
        · refine zm_iload 80 rfl dX10_gainsOfSwap_78 0 rfl ?_
          refine zm_if_le 90 83 (by decide) rfl dX10_gainsOfSwap_80 ?_ ?_
          · exact zm_loc [] rfl (hb90)
          · refine zm_iload_n 84 rfl dX10_gainsOfSwap_83 rfl 1 rfl ?_
            refine zm_iload 86 rfl dX10_gainsOfSwap_84 0 rfl ?_
            refine zm_iadd 87 rfl dX10_gainsOfSwap_86 ?_
            refine zm_goto 91 (by decide) dX10_gainsOfSwap_87 ?_
            exact zm_iret dX10_gainsOfSwap_91 rfl (Nat.le_refl _) (Nat.le_refl _) rfl
    · refine zm_iconst 42 rfl dX10_gainsOfSwap_41 zi_0 ?_
      exact zm_iret dX10_gainsOfSwap_42 rfl (Nat.le_refl _) (Nat.le_refl _) rfl
  · refine zm_iconst 42 rfl dX10_gainsOfSwap_41 zi_0 ?_
    exact zm_iret dX10_gainsOfSwap_42 rfl (Nat.le_refl _) (Nat.le_refl _) rfl
abbrev Y_X10_swapAnswer : zm_Y := (cX10_swapAnswer, 9, RX10, { frames := 5, cells := 0, slots := 0, locals := 121 }, (some .int), false, "swapAnswer")
noncomputable def f_X10_swapAnswer_x92_15 (a1 : Int32) (e92_2 : Int32) (e92_3 : Int32) (e92_4 : Int32) (e92_5 : Int32) (N92 : zm_Mem) : Option (Int32 × zm_Mem) :=
 if a1 = (-1 : Int32) then (some (e92_2, N92)) else (if e92_2 = 0 then (some ((-2), N92)) else (if a1 = 0 then (some (e92_4, N92)) else (if a1 = (1 : Int32) then (some (e92_5, N92)) else (some (e92_3, N92)))))
noncomputable def f_X10_swapAnswer_x86_33_15 (l15_6 : Int32) (e86_2 : Int32) (e86_3 : Int32) (e86_4 : Int32) (e86_5 : Int32) (N86 : zm_Mem) : Option ((Int32 × Int32 × Int32 × Int32 × Int32 × zm_Mem) ⊕ (Int32 × Int32 × Int32 × Int32 × zm_Mem)) :=
 zm_v (l15_6 + 1) <| fun x86 => some (.inl (e86_2, e86_3, e86_4, e86_5, x86, N86))
noncomputable def f_X10_swapAnswer_b80_33_15 (l33_7 : Int32) (M50 : zm_Mem) (b63_2 : Int32) (b80_3 : Int32) (b80_4 : Int32) (b80_5 : Int32) : Option ((Int32 × Int32 × Int32 × Int32 × Int32 × zm_Mem) ⊕ (Int32 × Int32 × Int32 × Int32 × zm_Mem)) :=
 zm_v (l33_7 + 1) <| fun x80 => some (.inl (b63_2, b80_3, b80_4, b80_5, x80, M50))
noncomputable def f_X10_swapAnswer_b63_33_15 (l15_6 : Int32) (l33_3 : Int32) (l33_4 : Int32) (l33_5 : Int32) (l33_7 : Int32) (r50 : Int32) (M50 : zm_Mem) (b63_2 : Int32) : Option ((Int32 × Int32 × Int32 × Int32 × Int32 × zm_Mem) ⊕ (Int32 × Int32 × Int32 × Int32 × zm_Mem)) :=
 if r50 ≤ l33_3 then (f_X10_swapAnswer_b80_33_15 l33_7 M50 b63_2 l33_3 l33_4 l33_5) else (f_X10_swapAnswer_b80_33_15 l33_7 M50 b63_2 r50 l15_6 l33_7)
noncomputable def f_X10_swapAnswer_l33_15 (l15_6 : Int32) (l33_2 : Int32) (l33_3 : Int32) (l33_4 : Int32) (l33_5 : Int32) (l33_7 : Int32) (L33 : zm_Mem) : Option ((Int32 × Int32 × Int32 × Int32 × Int32 × zm_Mem) ⊕ (Int32 × Int32 × Int32 × Int32 × zm_Mem)) :=
 zm_v (L33.2.2 1 9) <| fun t36 => zm_ck (zm_isT t36) <| if (L33.1 t36 12) ≤ l33_7 then (some (.inr (l33_2, l33_3, l33_4, l33_5, L33))) else (zm_b2 (f_X10_gainsOfSwap l15_6 l33_7 L33) <| fun r50 M50 => if r50 ≤ 0 then (f_X10_swapAnswer_b63_33_15 l15_6 l33_3 l33_4 l33_5 l33_7 r50 M50 l33_2) else (zm_v (l33_2 + 1) <| fun x60 => f_X10_swapAnswer_b63_33_15 l15_6 l33_3 l33_4 l33_5 l33_7 r50 M50 x60))
noncomputable def f_X10_swapAnswer_l15 (l15_2 : Int32) (l15_3 : Int32) (l15_4 : Int32) (l15_5 : Int32) (l15_6 : Int32) (L15 : zm_Mem) : Option ((Int32 × Int32 × Int32 × Int32 × Int32 × zm_Mem) ⊕ (Int32 × Int32 × Int32 × Int32 × zm_Mem)) :=
 zm_v (L15.2.2 1 9) <| fun t18 => zm_ck (zm_isT t18) <| if (L15.1 t18 12) ≤ l15_6 then (some (.inr (l15_2, l15_3, l15_4, l15_5, L15))) else (zm_v (l15_6 + 1) <| fun x31 => (zm_lp (fun s => f_X10_swapAnswer_l33_15 l15_6 s.1 s.2.1 s.2.2.1 s.2.2.2.1 s.2.2.2.2.1 s.2.2.2.2.2) (l15_2, l15_3, l15_4, l15_5, x31, L15)).bind (fun e86 => f_X10_swapAnswer_x86_33_15 l15_6 e86.1 e86.2.1 e86.2.2.1 e86.2.2.2.1 e86.2.2.2.2))
noncomputable def f_X10_swapAnswer (a1 : Int32) (M : zm_Mem) : Option (Int32 × zm_Mem) :=
  (zm_lp (fun s => f_X10_swapAnswer_l15 s.1 s.2.1 s.2.2.1 s.2.2.2.1 s.2.2.2.2.1 s.2.2.2.2.2) (0, 0, (-2), (-2), 0, M)).bind (fun e92 => f_X10_swapAnswer_x92_15 a1 e92.1 e92.2.1 e92.2.2.1 e92.2.2.2.1 e92.2.2.2.2)
set_option maxRecDepth 20000 in
set_option maxHeartbeats 4000000 in
theorem k_X10_swapAnswer (E : zm_E) (sv : Nat) (a1 : Int32) (M : zm_Mem) {r : Int32} {M' : zm_Mem} (h : f_X10_swapAnswer a1 M = some (r, M')) : zm_Ct E (zm_w sv) (zm_w sv) yX10_swapAnswer Y_X10_swapAnswer [.ref (E.2.1 + 1), .int a1] M (some (.int r)) M' := by
  refine zm_meth (emb := zm_ei) (d := f_X10_swapAnswer a1 M) (by decide) rfl rfl (Nat.le_of_ble_eq_true rfl) h (fun X => ?_)
  show zm_V X Y_X10_swapAnswer E (zm_Q X E Y_X10_swapAnswer.2.2.2.1.cells Y_X10_swapAnswer.2.2.2.1.slots (zm_w sv) zm_ei) 0 0 false (zm_w sv) 0 [(0, .ref (E.2.1 + 1)), (1, .int a1)] [] M (f_X10_swapAnswer a1 M) some
  unfold f_X10_swapAnswer
  refine zm_iconst 1 rfl dX10_swapAnswer_0 zi_0 ?_
  refine zm_istore_n (lv' := [(2, .int 0), (0, .ref (E.2.1 + 1)), (1, .int a1)]) 2 rfl dX10_swapAnswer_1 rfl (by decide) rfl ?_
  refine zm_iconst 3 rfl dX10_swapAnswer_2 zi_0 ?_
  refine zm_istore_n (lv' := [(3, .int 0), (2, .int 0), (0, .ref (E.2.1 + 1)), (1, .int a1)]) 4 rfl dX10_swapAnswer_3 rfl (by decide) rfl ?_
  refine zm_bipush 6 rfl dX10_swapAnswer_4 zb_m2 ?_
  refine zm_istore (lv' := [(4, .int (-2)), (3, .int 0), (2, .int 0), (0, .ref (E.2.1 + 1)), (1, .int a1)]) 8 rfl dX10_swapAnswer_6 (by decide) rfl ?_
  refine zm_bipush 10 rfl dX10_swapAnswer_8 zb_m2 ?_
  refine zm_istore (lv' := [(5, .int (-2)), (4, .int (-2)), (3, .int 0), (2, .int 0), (0, .ref (E.2.1 + 1)), (1, .int a1)]) 12 rfl dX10_swapAnswer_10 (by decide) rfl ?_
  refine zm_iconst 13 rfl dX10_swapAnswer_12 zi_0 ?_
  refine zm_istore (lv' := [(6, .int 0), (5, .int (-2)), (4, .int (-2)), (3, .int 0), (2, .int 0), (0, .ref (E.2.1 + 1)), (1, .int a1)]) 15 rfl dX10_swapAnswer_13 (by decide) rfl ?_
  have hx92_15 : ∀ (e92_2 : Int32) (e92_3 : Int32) (e92_4 : Int32) (e92_5 : Int32) (N92 : zm_Mem), zm_V X Y_X10_swapAnswer E (zm_Q X E Y_X10_swapAnswer.2.2.2.1.cells Y_X10_swapAnswer.2.2.2.1.slots (zm_w sv) zm_ei) 0 0 false (zm_w sv) 92 [(1, .int a1), (2, .int e92_2), (3, .int e92_3), (4, .int e92_4), (5, .int e92_5)] [] N92 (f_X10_swapAnswer_x92_15 a1 e92_2 e92_3 e92_4 e92_5 N92) some := by
    intro e92_2 e92_3 e92_4 e92_5 N92
    unfold f_X10_swapAnswer_x92_15
    refine zm_iload_n 93 rfl dX10_swapAnswer_92 rfl 0 rfl ?_
    refine zm_iconst 94 rfl dX10_swapAnswer_93 zi_m1 ?_
    refine zm_icmp_ne 99 97 (by decide) rfl dX10_swapAnswer_94 ?_ ?_
    · refine zm_iload_n 98 rfl dX10_swapAnswer_97 rfl 1 rfl ?_
      exact zm_iret dX10_swapAnswer_98 rfl (Nat.le_refl _) (Nat.le_refl _) rfl
    · refine zm_iload_n 100 rfl dX10_swapAnswer_99 rfl 1 rfl ?_
      refine zm_if_ne 106 103 (by decide) rfl dX10_swapAnswer_100 ?_ ?_
      · refine zm_bipush 105 rfl dX10_swapAnswer_103 zb_m2 ?_
        exact zm_iret dX10_swapAnswer_105 rfl (Nat.le_refl _) (Nat.le_refl _) rfl
      · refine zm_iload_n 107 rfl dX10_swapAnswer_106 rfl 0 rfl ?_
        refine zm_if_ne 115 110 (by decide) rfl dX10_swapAnswer_107 ?_ ?_
        · refine zm_iload 112 rfl dX10_swapAnswer_110 3 rfl ?_
          refine zm_goto 126 (by decide) dX10_swapAnswer_112 ?_
          exact zm_iret dX10_swapAnswer_126 rfl (Nat.le_refl _) (Nat.le_refl _) rfl
        · refine zm_iload_n 116 rfl dX10_swapAnswer_115 rfl 0 rfl ?_
          refine zm_iconst 117 rfl dX10_swapAnswer_116 zi_1 ?_
          refine zm_icmp_ne 125 120 (by decide) rfl dX10_swapAnswer_117 ?_ ?_
          · refine zm_iload 122 rfl dX10_swapAnswer_120 4 rfl ?_
            refine zm_goto 126 (by decide) dX10_swapAnswer_122 ?_
            exact zm_iret dX10_swapAnswer_126 rfl (Nat.le_refl _) (Nat.le_refl _) rfl
          · refine zm_iload_n 126 rfl dX10_swapAnswer_125 rfl 2 rfl ?_
            exact zm_iret dX10_swapAnswer_126 rfl (Nat.le_refl _) (Nat.le_refl _) rfl
  refine zm_loc [5, 6, 4, 3, 2, 1, 0] rfl (zm_lpp (σ := (Int32 × Int32 × Int32 × Int32 × Int32 × zm_Mem)) (ε := (Int32 × Int32 × Int32 × Int32 × zm_Mem)) (step := fun s => f_X10_swapAnswer_l15 s.1 s.2.1 s.2.2.1 s.2.2.2.1 s.2.2.2.2.1 s.2.2.2.2.2) (fun s => [(0, .ref (E.2.1 + 1)), (1, .int a1), (2, .int s.1), (3, .int s.2.1), (4, .int s.2.2.1), (5, .int s.2.2.2.1), (6, .int s.2.2.2.2.1)]) (fun s => s.2.2.2.2.2) (fun D15 f15 hf15a hf15b hD15 s => ?_) (0, 0, (-2), (-2), 0, M))
  obtain ⟨l15_2, l15_3, l15_4, l15_5, l15_6, L15⟩ := s
  show zm_V X Y_X10_swapAnswer E (zm_Q X E Y_X10_swapAnswer.2.2.2.1.cells Y_X10_swapAnswer.2.2.2.1.slots (zm_w sv) zm_ei) 0 0 false (zm_w sv) 15 [(0, .ref (E.2.1 + 1)), (1, .int a1), (2, .int l15_2), (3, .int l15_3), (4, .int l15_4), (5, .int l15_5), (6, .int l15_6)] [] L15 (f_X10_swapAnswer_l15 l15_2 l15_3 l15_4 l15_5 l15_6 L15) f15
  unfold f_X10_swapAnswer_l15
  refine zm_iload 17 rfl dX10_swapAnswer_15 6 rfl ?_
  refine zm_aload_n 18 rfl dX10_swapAnswer_17 rfl 0 rfl ?_
  refine zm_getT 21 rfl dX10_swapAnswer_18 fl_X10_60 rfl (zm_L (sv := sv) rfl) (fun t18 _ ht18 => ?_)
  refine zm_getI 24 rfl dX10_swapAnswer_21 fl_X10_236 (zm_T_o ht18) (zm_T_l0 (sv := sv) ht18) ?_
  refine zm_icmp_ge 92 27 (by decide) rfl dX10_swapAnswer_24 ?_ ?_
  · exact zm_loc [1, 2, 3, 4, 5] rfl (zm_go (hf15b _) (zm_unb (hx92_15 l15_2 l15_3 l15_4 l15_5 L15)))
  · refine zm_iload 29 rfl dX10_swapAnswer_27 6 rfl ?_
    refine zm_iconst 30 rfl dX10_swapAnswer_29 zi_1 ?_
    refine zm_iadd 31 rfl dX10_swapAnswer_30 ?_
    refine zm_nmi (fun x31 _ => ?_)
    refine zm_istore (lv' := [(7, .int x31), (0, .ref (E.2.1 + 1)), (1, .int a1), (2, .int l15_2), (3, .int l15_3), (4, .int l15_4), (5, .int l15_5), (6, .int l15_6)]) 33 rfl dX10_swapAnswer_31 (by decide) rfl ?_
    have hx86_33_15 : ∀ (e86_2 : Int32) (e86_3 : Int32) (e86_4 : Int32) (e86_5 : Int32) (N86 : zm_Mem), zm_V X Y_X10_swapAnswer E (zm_Q X E Y_X10_swapAnswer.2.2.2.1.cells Y_X10_swapAnswer.2.2.2.1.slots (zm_w sv) zm_ei) 0 0 false (zm_w sv) 86 [(0, .ref (E.2.1 + 1)), (1, .int a1), (2, .int e86_2), (3, .int e86_3), (4, .int e86_4), (5, .int e86_5), (6, .int l15_6)] [] N86 (f_X10_swapAnswer_x86_33_15 l15_6 e86_2 e86_3 e86_4 e86_5 N86) f15 := by
      intro e86_2 e86_3 e86_4 e86_5 N86
      unfold f_X10_swapAnswer_x86_33_15
      refine zm_iinc (lv' := fun z => [(6, .int z), (0, .ref (E.2.1 + 1)), (1, .int a1), (2, .int e86_2), (3, .int e86_3), (4, .int e86_4), (5, .int e86_5)]) 89 rfl dX10_swapAnswer_86 zi_1 6 rfl (by decide) (fun _ => rfl) (fun x86 _ => ?_)
      refine zm_goto 15 (by decide) dX10_swapAnswer_89 ?_
      exact zm_loc [1, 2, 3, 4, 5, 6, 0] rfl (zm_go (hf15a _) (hD15 (e86_2, e86_3, e86_4, e86_5, x86, N86)))
    refine zm_loc [1, 2, 3, 4, 5, 6, 7, 0] rfl (zm_lpp (σ := (Int32 × Int32 × Int32 × Int32 × Int32 × zm_Mem)) (ε := (Int32 × Int32 × Int32 × Int32 × zm_Mem)) (step := fun s => f_X10_swapAnswer_l33_15 l15_6 s.1 s.2.1 s.2.2.1 s.2.2.2.1 s.2.2.2.2.1 s.2.2.2.2.2) (fun s => [(0, .ref (E.2.1 + 1)), (1, .int a1), (2, .int s.1), (3, .int s.2.1), (4, .int s.2.2.1), (5, .int s.2.2.2.1), (6, .int l15_6), (7, .int s.2.2.2.2.1)]) (fun s => s.2.2.2.2.2) (fun D33_15 f33_15 hf33_15a hf33_15b hD33_15 s => ?_) (l15_2, l15_3, l15_4, l15_5, x31, L15))
    obtain ⟨l33_2, l33_3, l33_4, l33_5, l33_7, L33⟩ := s
    show zm_V X Y_X10_swapAnswer E (zm_Q X E Y_X10_swapAnswer.2.2.2.1.cells Y_X10_swapAnswer.2.2.2.1.slots (zm_w sv) zm_ei) 0 0 false (zm_w sv) 33 [(0, .ref (E.2.1 + 1)), (1, .int a1), (2, .int l33_2), (3, .int l33_3), (4, .int l33_4), (5, .int l33_5), (6, .int l15_6), (7, .int l33_7)] [] L33 (f_X10_swapAnswer_l33_15 l15_6 l33_2 l33_3 l33_4 l33_5 l33_7 L33) f33_15
    unfold f_X10_swapAnswer_l33_15
    refine zm_iload 35 rfl dX10_swapAnswer_33 7 rfl ?_
    refine zm_aload_n 36 rfl dX10_swapAnswer_35 rfl 0 rfl ?_
    refine zm_getT 39 rfl dX10_swapAnswer_36 fl_X10_60 rfl (zm_L (sv := sv) rfl) (fun t36 _ ht36 => ?_)
    refine zm_getI 42 rfl dX10_swapAnswer_39 fl_X10_236 (zm_T_o ht36) (zm_T_l0 (sv := sv) ht36) ?_
    refine zm_icmp_ge 86 45 (by decide) rfl dX10_swapAnswer_42 ?_ ?_
    · exact zm_loc [0, 1, 2, 3, 4, 5, 6] rfl (zm_go (hf33_15b _) (zm_unb (hx86_33_15 l33_2 l33_3 l33_4 l33_5 L33)))
    · refine zm_aload_n 46 rfl dX10_swapAnswer_45 rfl 0 rfl ?_
      refine zm_iload 48 rfl dX10_swapAnswer_46 6 rfl ?_
      refine zm_iload 50 rfl dX10_swapAnswer_48 7 rfl ?_
      refine zm_cV2i 53 rfl dX10_swapAnswer_50 ml_X10_355 rfl (zm_L (sv := sv) rfl) rfl (Nat.le_of_ble_eq_true rfl) ⟨Nat.le_of_ble_eq_true rfl, Nat.le_of_ble_eq_true rfl⟩ rfl rfl ⟨Nat.le_refl _, Nat.le_refl _⟩ rfl (fun _ _ h => k_X10_gainsOfSwap E sv l15_6 l33_7 L33 h) (fun r50 M50 => ?_)
      refine zm_istore (lv' := [(8, .int r50), (0, .ref (E.2.1 + 1)), (1, .int a1), (2, .int l33_2), (3, .int l33_3), (4, .int l33_4), (5, .int l33_5), (6, .int l15_6), (7, .int l33_7)]) 55 rfl dX10_swapAnswer_53 (by decide) rfl ?_
      refine zm_iload 57 rfl dX10_swapAnswer_55 0 rfl ?_
      have hb63_33_15 : ∀ (b63_2 : Int32), zm_V X Y_X10_swapAnswer E (zm_Q X E Y_X10_swapAnswer.2.2.2.1.cells Y_X10_swapAnswer.2.2.2.1.slots (zm_w sv) zm_ei) 0 0 false (zm_w sv) 63 [(0, .ref (E.2.1 + 1)), (1, .int a1), (2, .int b63_2), (3, .int l33_3), (4, .int l33_4), (5, .int l33_5), (6, .int l15_6), (7, .int l33_7), (8, .int r50)] [] M50 (f_X10_swapAnswer_b63_33_15 l15_6 l33_3 l33_4 l33_5 l33_7 r50 M50 b63_2) f33_15 := by
        intro b63_2
        unfold f_X10_swapAnswer_b63_33_15
        refine zm_iload 65 rfl dX10_swapAnswer_63 8 rfl ?_
        refine zm_iload_n 66 rfl dX10_swapAnswer_65 rfl 3 rfl ?_
        have hb80_33_15 : ∀ (b80_3 : Int32) (b80_4 : Int32) (b80_5 : Int32), zm_V X Y_X10_swapAnswer E (zm_Q X E Y_X10_swapAnswer.2.2.2.1.cells Y_X10_swapAnswer.2.2.2.1.slots (zm_w sv) zm_ei) 0 0 false (zm_w sv) 80 [(0, .ref (E.2.1 + 1)), (1, .int a1), (2, .int b63_2), (3, .int b80_3), (4, .int b80_4), (5, .int b80_5), (6, .int l15_6), (7, .int l33_7)] [] M50 (f_X10_swapAnswer_b80_33_15 l33_7 M50 b63_2 b80_3 b80_4 b80_5) f33_15 := by
          intro b80_3 b80_4 b80_5
          unfold f_X10_swapAnswer_b80_33_15
          refine zm_iinc (lv' := fun z => [(7, .int z), (0, .ref (E.2.1 + 1)), (1, .int a1), (2, .int b63_2), (3, .int b80_3), (4, .int b80_4), (5, .int b80_5), (6, .int l15_6)]) 83 rfl dX10_swapAnswer_80 zi_1 7 rfl (by decide) (fun _ => rfl) (fun x80 _ => ?_)
          refine zm_goto 33 (by decide) dX10_swapAnswer_83 ?_
          exact zm_loc [1, 2, 3, 4, 5, 6, 7, 0] rfl (zm_go (hf33_15a _) (hD33_15 (b63_2, b80_3, b80_4, b80_5, x80, M50)))
        refine zm_icmp_le 80 69 (by decide) rfl dX10_swapAnswer_66 ?_ ?_
        · exact zm_loc [0, 1, 2, 3, 4, 5, 6, 7] rfl (hb80_33_15 l33_3 l33_4 l33_5)
        · refine zm_iload 71 rfl dX10_swapAnswer_69 8 rfl ?_
          refine zm_istore_n (lv' := [(3, .int r50), (0, .ref (E.2.1 + 1)), (1, .int a1), (2, .int b63_2), (4, .int l33_4), (5, .int l33_5), (6, .int l15_6), (7, .int l33_7), (8, .int r50)]) 72 rfl dX10_swapAnswer_71 rfl (by decide) rfl ?_
          refine zm_iload 74 rfl dX10_swapAnswer_72 6 rfl ?_
          refine zm_istore (lv' := [(4, .int l15_6), (3, .int r50), (0, .ref (E.2.1 + 1)), (1, .int a1), (2, .int b63_2), (5, .int l33_5), (6, .int l15_6), (7, .int l33_7), (8, .int r50)]) 76 rfl dX10_swapAnswer_74 (by decide) rfl ?_
          refine zm_iload 78 rfl dX10_swapAnswer_76 7 rfl ?_
          refine zm_istore (lv' := [(5, .int l33_7), (4, .int l15_6), (3, .int r50), (0, .ref (E.2.1 + 1)), (1, .int a1), (2, .int b63_2), (6, .int l15_6), (7, .int l33_7), (8, .int r50)]) 80 rfl dX10_swapAnswer_78 (by decide) rfl ?_
          exact zm_loc [3, 4, 5, 2, 1, 0, 6, 7] rfl (hb80_33_15 r50 l15_6 l33_7)
      refine zm_if_le 63 60 (by decide) rfl dX10_swapAnswer_57 ?_ ?_
      · exact zm_loc [1, 2, 3, 4, 5, 6, 7, 8, 0] rfl (hb63_33_15 l33_2)
      · refine zm_iinc (lv' := fun z => [(2, .int z), (8, .int r50), (0, .ref (E.2.1 + 1)), (1, .int a1), (3, .int l33_3), (4, .int l33_4), (5, .int l33_5), (6, .int l15_6), (7, .int l33_7)]) 63 rfl dX10_swapAnswer_60 zi_1 3 rfl (by decide) (fun _ => rfl) (fun x60 _ => ?_)
        exact zm_loc [2, 3, 0, 4, 5, 6, 7, 8, 1] rfl (hb63_33_15 x60)
abbrev Y_X10_swaps : zm_Y := (cX10_swaps, 2, RX10, { frames := 6, cells := 0, slots := 0, locals := 149 }, (some .int), false, "swaps")
noncomputable def f_X10_swaps (a1 : Int32) (M : zm_Mem) : Option (Int32 × zm_Mem) :=
  if a1 < (-1 : Int32) then (some ((-1), M)) else (if a1 ≤ (2 : Int32) then (zm_b2 (f_X10_lookToday M) <| fun _ M13 => zm_b2 (f_X10_swapAnswer a1 M13) <| fun r18 M18 => some (r18, M18)) else (some ((-1), M)))
set_option maxRecDepth 20000 in
set_option maxHeartbeats 4000000 in
theorem k_X10_swaps (E : zm_E) (sv : Nat) (a1 : Int32) (M : zm_Mem) {r : Int32} {M' : zm_Mem} (h : f_X10_swaps a1 M = some (r, M')) : zm_Ct E (zm_w sv) (zm_w sv) yX10_swaps Y_X10_swaps [.ref (E.2.1 + 1), .int a1] M (some (.int r)) M' := by
  refine zm_meth (emb := zm_ei) (d := f_X10_swaps a1 M) (by decide) rfl rfl (Nat.le_of_ble_eq_true rfl) h (fun X => ?_)
  show zm_V X Y_X10_swaps E (zm_Q X E Y_X10_swaps.2.2.2.1.cells Y_X10_swaps.2.2.2.1.slots (zm_w sv) zm_ei) 0 0 false (zm_w sv) 0 [(0, .ref (E.2.1 + 1)), (1, .int a1)] [] M (f_X10_swaps a1 M) some
  unfold f_X10_swaps
  refine zm_iload_n 1 rfl dX10_swaps_0 rfl 1 rfl ?_
  refine zm_iconst 2 rfl dX10_swaps_1 zi_m1 ?_
  refine zm_icmp_lt 10 5 (by decide) rfl dX10_swaps_2 ?_ ?_
  · refine zm_iconst 11 rfl dX10_swaps_10 zi_m1 ?_
    exact zm_iret dX10_swaps_11 rfl (Nat.le_refl _) (Nat.le_refl _) rfl
  · refine zm_iload_n 6 rfl dX10_swaps_5 rfl 1 rfl ?_
    refine zm_iconst 7 rfl dX10_swaps_6 zi_2 ?_
    refine zm_icmp_le 12 10 (by decide) rfl dX10_swaps_7 ?_ ?_
    · refine zm_aload_n 13 rfl dX10_swaps_12 rfl 0 rfl ?_
      refine zm_cV0v 16 rfl dX10_swaps_13 ml_X10_151 rfl (zm_L (sv := sv) rfl) rfl (Nat.le_of_ble_eq_true rfl) ⟨Nat.le_of_ble_eq_true rfl, Nat.le_of_ble_eq_true rfl⟩ rfl rfl ⟨Nat.le_refl _, Nat.le_refl _⟩ rfl (fun _ _ h => k_X10_lookToday E sv M h) (fun _ M13 => ?_)
      refine zm_aload_n 17 rfl dX10_swaps_16 rfl 0 rfl ?_
      refine zm_iload_n 18 rfl dX10_swaps_17 rfl 1 rfl ?_
      refine zm_cV1i 21 rfl dX10_swaps_18 ml_X10_259 rfl (zm_L (sv := sv) rfl) rfl (Nat.le_of_ble_eq_true rfl) ⟨Nat.le_of_ble_eq_true rfl, Nat.le_of_ble_eq_true rfl⟩ rfl rfl ⟨Nat.le_refl _, Nat.le_refl _⟩ rfl (fun _ _ h => k_X10_swapAnswer E sv a1 M13 h) (fun r18 M18 => ?_)
      exact zm_iret dX10_swaps_21 rfl (Nat.le_refl _) (Nat.le_refl _) rfl
    · refine zm_iconst 11 rfl dX10_swaps_10 zi_m1 ?_
      exact zm_iret dX10_swaps_11 rfl (Nat.le_refl _) (Nat.le_refl _) rfl
abbrev Y_X10_housesFreeToSendBack : zm_Y := (cX10_housesFreeToSendBack, 4, RX10, { frames := 3, cells := 0, slots := 0, locals := 71 }, (some .int), false, "housesFreeToSendBack")
noncomputable def f_X10_housesFreeToSendBack_b71_18 (l18_2 : Int32) (b71_1 : Int32) (M71 : zm_Mem) : Option ((Int32 × Int32 × zm_Mem) ⊕ (Int32 × zm_Mem)) :=
 zm_v (l18_2 + 1) <| fun x71 => some (.inl (b71_1, x71, M71))
noncomputable def f_X10_housesFreeToSendBack_l18 (l18_1 : Int32) (l18_2 : Int32) (L18 : zm_Mem) : Option ((Int32 × Int32 × zm_Mem) ⊕ (Int32 × zm_Mem)) :=
 zm_v (L18.2.2 1 9) <| fun t20 => zm_ck (zm_isT t20) <| if (L18.1 t20 12) ≤ l18_2 then (some (.inr (l18_1, L18))) else (zm_b1 (f_X4_goal l18_2 L18) <| fun r34 => zm_v (L18.2.2 1 9) <| fun t40 => zm_ck (zm_isT t40) <| zm_ck (zm_in l18_2 6) <| if r34 = (L18.1 (t40 + 3) l18_2.toNatClampNeg) then (f_X10_housesFreeToSendBack_b71_18 l18_2 l18_1 L18) else (zm_b2 (f_X3_likingAlone r34 l18_2 L18) <| fun r57 M57 => if r57 ≤ 0 then (f_X10_housesFreeToSendBack_b71_18 l18_2 l18_1 M57) else (zm_v (l18_1 &&& (((1 : Int32) <<< (r34 &&& 31)) ^^^ (-1))) <| fun x70 => f_X10_housesFreeToSendBack_b71_18 l18_2 x70 M57)))
noncomputable def f_X10_housesFreeToSendBack  (M : zm_Mem) : Option (Int32 × zm_Mem) :=
  zm_b2 (f_X10_lookToday M) <| fun _ M1 => zm_v (M1.2.2 1 9) <| fun t6 => zm_ck (zm_isT t6) <| zm_v (((1 : Int32) <<< ((M1.1 t6 11) &&& 31)) - 1) <| fun x15 => (zm_lp (fun s => f_X10_housesFreeToSendBack_l18 s.1 s.2.1 s.2.2) (x15, 0, M1)).bind (fun e77 => some (e77.1, e77.2))
set_option maxRecDepth 20000 in
set_option maxHeartbeats 4000000 in
theorem k_X10_housesFreeToSendBack (E : zm_E) (sv : Nat)  (M : zm_Mem) {r : Int32} {M' : zm_Mem} (h : f_X10_housesFreeToSendBack M = some (r, M')) : zm_Ct E (zm_w sv) (zm_w sv) yX10_housesFreeToSendBack Y_X10_housesFreeToSendBack [.ref (E.2.1 + 1)] M (some (.int r)) M' := by
  refine zm_meth (emb := zm_ei) (d := f_X10_housesFreeToSendBack M) (by decide) rfl rfl (Nat.le_of_ble_eq_true rfl) h (fun X => ?_)
  show zm_V X Y_X10_housesFreeToSendBack E (zm_Q X E Y_X10_housesFreeToSendBack.2.2.2.1.cells Y_X10_housesFreeToSendBack.2.2.2.1.slots (zm_w sv) zm_ei) 0 0 false (zm_w sv) 0 [(0, .ref (E.2.1 + 1))] [] M (f_X10_housesFreeToSendBack M) some
  unfold f_X10_housesFreeToSendBack
  refine zm_aload_n 1 rfl dX10_housesFreeToSendBack_0 rfl 0 rfl ?_
  refine zm_cV0v 4 rfl dX10_housesFreeToSendBack_1 ml_X10_151 rfl (zm_L (sv := sv) rfl) rfl (Nat.le_of_ble_eq_true rfl) ⟨Nat.le_of_ble_eq_true rfl, Nat.le_of_ble_eq_true rfl⟩ rfl rfl ⟨Nat.le_refl _, Nat.le_refl _⟩ rfl (fun _ _ h => k_X10_lookToday E sv M h) (fun _ M1 => ?_)
  refine zm_iconst 5 rfl dX10_housesFreeToSendBack_4 zi_1 ?_
  refine zm_aload_n 6 rfl dX10_housesFreeToSendBack_5 rfl 0 rfl ?_
  refine zm_getT 9 rfl dX10_housesFreeToSendBack_6 fl_X10_60 rfl (zm_L (sv := sv) rfl) (fun t6 _ ht6 => ?_)
  refine zm_getI 12 rfl dX10_housesFreeToSendBack_9 fl_X10_272 (zm_T_o ht6) (zm_T_l0 (sv := sv) ht6) ?_
  refine zm_ishl 13 rfl dX10_housesFreeToSendBack_12 ?_
  refine zm_iconst 14 rfl dX10_housesFreeToSendBack_13 zi_1 ?_
  refine zm_isub 15 rfl dX10_housesFreeToSendBack_14 ?_
  refine zm_nmi (fun x15 _ => ?_)
  refine zm_istore_n (lv' := [(1, .int x15), (0, .ref (E.2.1 + 1))]) 16 rfl dX10_housesFreeToSendBack_15 rfl (by decide) rfl ?_
  refine zm_iconst 17 rfl dX10_housesFreeToSendBack_16 zi_0 ?_
  refine zm_istore_n (lv' := [(2, .int 0), (1, .int x15), (0, .ref (E.2.1 + 1))]) 18 rfl dX10_housesFreeToSendBack_17 rfl (by decide) rfl ?_
  have hx77_18 : ∀ (e77_1 : Int32) (N77 : zm_Mem), zm_V X Y_X10_housesFreeToSendBack E (zm_Q X E Y_X10_housesFreeToSendBack.2.2.2.1.cells Y_X10_housesFreeToSendBack.2.2.2.1.slots (zm_w sv) zm_ei) 0 0 false (zm_w sv) 77 [(1, .int e77_1)] [] N77 (some (e77_1, N77)) some := by
    intro e77_1 N77
    refine zm_iload_n 78 rfl dX10_housesFreeToSendBack_77 rfl 0 rfl ?_
    exact zm_iret dX10_housesFreeToSendBack_78 rfl (Nat.le_refl _) (Nat.le_refl _) rfl
  refine zm_loc [2, 1, 0] rfl (zm_lpp (σ := (Int32 × Int32 × zm_Mem)) (ε := (Int32 × zm_Mem)) (step := fun s => f_X10_housesFreeToSendBack_l18 s.1 s.2.1 s.2.2) (fun s => [(0, .ref (E.2.1 + 1)), (1, .int s.1), (2, .int s.2.1)]) (fun s => s.2.2) (fun D18 f18 hf18a hf18b hD18 s => ?_) (x15, 0, M1))
  obtain ⟨l18_1, l18_2, L18⟩ := s
  show zm_V X Y_X10_housesFreeToSendBack E (zm_Q X E Y_X10_housesFreeToSendBack.2.2.2.1.cells Y_X10_housesFreeToSendBack.2.2.2.1.slots (zm_w sv) zm_ei) 0 0 false (zm_w sv) 18 [(0, .ref (E.2.1 + 1)), (1, .int l18_1), (2, .int l18_2)] [] L18 (f_X10_housesFreeToSendBack_l18 l18_1 l18_2 L18) f18
  unfold f_X10_housesFreeToSendBack_l18
  refine zm_iload_n 19 rfl dX10_housesFreeToSendBack_18 rfl 2 rfl ?_
  refine zm_aload_n 20 rfl dX10_housesFreeToSendBack_19 rfl 0 rfl ?_
  refine zm_getT 23 rfl dX10_housesFreeToSendBack_20 fl_X10_60 rfl (zm_L (sv := sv) rfl) (fun t20 _ ht20 => ?_)
  refine zm_getI 26 rfl dX10_housesFreeToSendBack_23 fl_X10_236 (zm_T_o ht20) (zm_T_l0 (sv := sv) ht20) ?_
  refine zm_icmp_ge 77 29 (by decide) rfl dX10_housesFreeToSendBack_26 ?_ ?_
  · exact zm_loc [1] rfl (zm_go (hf18b _) (zm_unb (hx77_18 l18_1 L18)))
  · refine zm_aload_n 30 rfl dX10_housesFreeToSendBack_29 rfl 0 rfl ?_
    refine zm_getR (a := 11) 33 rfl dX10_housesFreeToSendBack_30 fl_X10_32 rfl (zm_L (sv := sv) rfl) rfl (by decide) ?_
    refine zm_iload_n 34 rfl dX10_housesFreeToSendBack_33 rfl 2 rfl ?_
    refine zm_cV1ir 37 rfl dX10_housesFreeToSendBack_34 ml_X10_130 rfl (zm_L (sv := sv) rfl) rfl (Nat.le_of_ble_eq_true rfl) ⟨Nat.le_of_ble_eq_true rfl, Nat.le_of_ble_eq_true rfl⟩ rfl rfl ⟨Nat.le_refl _, Nat.le_refl _⟩ rfl (fun _ h => k_X4_goal E sv l18_2 L18 h) (fun r34 => ?_)
    refine zm_istore_n (lv' := [(3, .int r34), (0, .ref (E.2.1 + 1)), (1, .int l18_1), (2, .int l18_2)]) 38 rfl dX10_housesFreeToSendBack_37 rfl (by decide) rfl ?_
    refine zm_iload_n 39 rfl dX10_housesFreeToSendBack_38 rfl 0 rfl ?_
    refine zm_aload_n 40 rfl dX10_housesFreeToSendBack_39 rfl 1 rfl ?_
    refine zm_getT 43 rfl dX10_housesFreeToSendBack_40 fl_X10_60 rfl (zm_L (sv := sv) rfl) (fun t40 _ ht40 => ?_)
    refine zm_getR (a := t40 + 3) 46 rfl dX10_housesFreeToSendBack_43 fl_X10_127 (zm_T_o ht40) (zm_T_l0 (sv := sv) ht40) (zm_T_r ht40 2 (by decide)) (Nat.succ_ne_zero _) ?_
    refine zm_iload_n 47 rfl dX10_housesFreeToSendBack_46 rfl 3 rfl ?_
    refine zm_iald 48 rfl dX10_housesFreeToSendBack_47 (zm_T_a ht40 3 (by decide)) (zm_T_l (sv := sv) ht40 3 (by decide)) ?_
    have hb71_18 : ∀ (b71_1 : Int32) (M71 : zm_Mem), zm_V X Y_X10_housesFreeToSendBack E (zm_Q X E Y_X10_housesFreeToSendBack.2.2.2.1.cells Y_X10_housesFreeToSendBack.2.2.2.1.slots (zm_w sv) zm_ei) 0 0 false (zm_w sv) 71 [(0, .ref (E.2.1 + 1)), (1, .int b71_1), (2, .int l18_2)] [] M71 (f_X10_housesFreeToSendBack_b71_18 l18_2 b71_1 M71) f18 := by
      intro b71_1 M71
      unfold f_X10_housesFreeToSendBack_b71_18
      refine zm_iinc (lv' := fun z => [(2, .int z), (0, .ref (E.2.1 + 1)), (1, .int b71_1)]) 74 rfl dX10_housesFreeToSendBack_71 zi_1 2 rfl (by decide) (fun _ => rfl) (fun x71 _ => ?_)
      refine zm_goto 18 (by decide) dX10_housesFreeToSendBack_74 ?_
      exact zm_loc [1, 2, 0] rfl (zm_go (hf18a _) (hD18 (b71_1, x71, M71)))
    refine zm_icmp_eq 71 51 (by decide) rfl dX10_housesFreeToSendBack_48 ?_ ?_
    · exact zm_loc [1, 2, 3] rfl (hb71_18 l18_1 L18)
    · refine zm_aload_n 52 rfl dX10_housesFreeToSendBack_51 rfl 1 rfl ?_
      refine zm_getR (a := 47) 55 rfl dX10_housesFreeToSendBack_52 fl_X10_76 rfl (zm_L (sv := sv) rfl) rfl (by decide) ?_
      refine zm_iload_n 56 rfl dX10_housesFreeToSendBack_55 rfl 0 rfl ?_
      refine zm_iload_n 57 rfl dX10_housesFreeToSendBack_56 rfl 3 rfl ?_
      refine zm_cV2i 60 rfl dX10_housesFreeToSendBack_57 ml_X10_361 rfl (zm_L (sv := sv) rfl) rfl (Nat.le_of_ble_eq_true rfl) ⟨Nat.le_of_ble_eq_true rfl, Nat.le_of_ble_eq_true rfl⟩ rfl rfl ⟨Nat.le_refl _, Nat.le_refl _⟩ rfl (fun _ _ h => k_X3_likingAlone E sv r34 l18_2 L18 h) (fun r57 M57 => ?_)
      refine zm_if_le 71 63 (by decide) rfl dX10_housesFreeToSendBack_60 ?_ ?_
      · exact zm_loc [1, 2, 3] rfl (hb71_18 l18_1 M57)
      · refine zm_iload_n 64 rfl dX10_housesFreeToSendBack_63 rfl 2 rfl ?_
        refine zm_iconst 65 rfl dX10_housesFreeToSendBack_64 zi_1 ?_
        refine zm_iload_n 66 rfl dX10_housesFreeToSendBack_65 rfl 0 rfl ?_
        refine zm_ishl 67 rfl dX10_housesFreeToSendBack_66 ?_
        refine zm_iconst 68 rfl dX10_housesFreeToSendBack_67 zi_m1 ?_
        refine zm_ixor 69 rfl dX10_housesFreeToSendBack_68 ?_
        refine zm_iand 70 rfl dX10_housesFreeToSendBack_69 ?_
        refine zm_nmi (fun x70 _ => ?_)
        refine zm_istore_n (lv' := [(1, .int x70), (3, .int r34), (0, .ref (E.2.1 + 1)), (2, .int l18_2)]) 71 rfl dX10_housesFreeToSendBack_70 rfl (by decide) rfl ?_
        exact zm_loc [2, 0, 3] rfl (hb71_18 x70 M57)
abbrev Y_X10_subsetOf : zm_Y := (cX10_subsetOf, 5, RX10, { frames := 0, cells := 0, slots := 0, locals := 0 }, (some .int), false, "subsetOf")
noncomputable def f_X10_subsetOf_b36_7 (l7_4 : Int32) (b36_2 : Int32) (b36_3 : Int32) : Option ((Int32 × Int32 × Int32) ⊕ Int32) :=
 zm_v (l7_4 + 1) <| fun x36 => some (.inl (b36_2, b36_3, x36))
noncomputable def f_X10_subsetOf_l7 (a0 : Int32) (l7_2 : Int32) (l7_3 : Int32) (l7_4 : Int32) : Option ((Int32 × Int32 × Int32) ⊕ Int32) :=
 if (5 : Int32) ≤ l7_4 then (some (.inr l7_2)) else (if ((a0 >>> (l7_4 &&& 31)) &&& 1) = (1 : Int32) then (zm_v (l7_2 ||| ((l7_3 &&& 1) <<< (l7_4 &&& 31))) <| fun x31 => zm_v (l7_3 >>> ((1 : Int32) &&& 31)) <| fun x35 => f_X10_subsetOf_b36_7 l7_4 x31 x35) else (f_X10_subsetOf_b36_7 l7_4 l7_2 l7_3))
noncomputable def f_X10_subsetOf (a0 : Int32) (a1 : Int32) (M : zm_Mem) : Option Int32 :=
  (zm_lp (fun s => f_X10_subsetOf_l7 a0 s.1 s.2.1 s.2.2) (0, a1, 0)).bind (fun e42 => some e42)
set_option maxRecDepth 20000 in
set_option maxHeartbeats 4000000 in
theorem k_X10_subsetOf (E : zm_E) (w : zm_W) (a0 : Int32) (a1 : Int32) (M : zm_Mem) {r : Int32} (h : f_X10_subsetOf a0 a1 M = some r) : zm_Ct E w w yX10_subsetOf Y_X10_subsetOf [.int a0, .int a1] M (some (.int r)) M := by
  refine zm_methr (emb := zm_ei) (d := f_X10_subsetOf a0 a1 M) (by decide) rfl rfl (Nat.le_of_ble_eq_true rfl) h (fun X => ?_)
  show zm_V X Y_X10_subsetOf E (zm_Q X E Y_X10_subsetOf.2.2.2.1.cells Y_X10_subsetOf.2.2.2.1.slots w zm_ei) 0 0 false w 0 [(0, .int a0), (1, .int a1)] [] M (f_X10_subsetOf a0 a1 M) (fun r => some (r, M))
  unfold f_X10_subsetOf
  refine zm_iconst 1 rfl dX10_subsetOf_0 zi_0 ?_
  refine zm_istore_n (lv' := [(2, .int 0), (0, .int a0), (1, .int a1)]) 2 rfl dX10_subsetOf_1 rfl (by decide) rfl ?_
  refine zm_iload_n 3 rfl dX10_subsetOf_2 rfl 2 rfl ?_
  refine zm_istore_n (lv' := [(3, .int a1), (2, .int 0), (0, .int a0), (1, .int a1)]) 4 rfl dX10_subsetOf_3 rfl (by decide) rfl ?_
  refine zm_iconst 5 rfl dX10_subsetOf_4 zi_0 ?_
  refine zm_istore (lv' := [(4, .int 0), (3, .int a1), (2, .int 0), (0, .int a0), (1, .int a1)]) 7 rfl dX10_subsetOf_5 (by decide) rfl ?_
  have hx42_7 : ∀ (e42_2 : Int32), zm_V X Y_X10_subsetOf E (zm_Q X E Y_X10_subsetOf.2.2.2.1.cells Y_X10_subsetOf.2.2.2.1.slots w zm_ei) 0 0 false w 42 [(2, .int e42_2)] [] M (some e42_2) (fun r => some (r, M)) := by
    intro e42_2
    refine zm_iload_n 43 rfl dX10_subsetOf_42 rfl 0 rfl ?_
    exact zm_iret dX10_subsetOf_43 rfl (Nat.le_refl _) (Nat.le_refl _) rfl
  refine zm_loc [3, 2, 1, 0] rfl (zm_lpp (σ := (Int32 × Int32 × Int32)) (ε := Int32) (step := fun s => f_X10_subsetOf_l7 a0 s.1 s.2.1 s.2.2) (fun s => [(0, .int a0), (2, .int s.1), (3, .int s.2.1), (4, .int s.2.2)]) (fun _ => M) (fun D7 f7 hf7a hf7b hD7 s => ?_) (0, a1, 0))
  obtain ⟨l7_2, l7_3, l7_4⟩ := s
  show zm_V X Y_X10_subsetOf E (zm_Q X E Y_X10_subsetOf.2.2.2.1.cells Y_X10_subsetOf.2.2.2.1.slots w zm_ei) 0 0 false w 7 [(0, .int a0), (2, .int l7_2), (3, .int l7_3), (4, .int l7_4)] [] M (f_X10_subsetOf_l7 a0 l7_2 l7_3 l7_4) f7
  unfold f_X10_subsetOf_l7
  refine zm_iload 9 rfl dX10_subsetOf_7 3 rfl ?_
  refine zm_iconst 10 rfl dX10_subsetOf_9 zi_5 ?_
  refine zm_icmp_ge 42 13 (by decide) rfl dX10_subsetOf_10 ?_ ?_
  · exact zm_loc [1] rfl (zm_go (hf7b _) (zm_unb (hx42_7 l7_2)))
  · refine zm_iload_n 14 rfl dX10_subsetOf_13 rfl 0 rfl ?_
    refine zm_iload 16 rfl dX10_subsetOf_14 3 rfl ?_
    refine zm_ishr 17 rfl dX10_subsetOf_16 ?_
    refine zm_iconst 18 rfl dX10_subsetOf_17 zi_1 ?_
    refine zm_iand 19 rfl dX10_subsetOf_18 ?_
    refine zm_iconst 20 rfl dX10_subsetOf_19 zi_1 ?_
    have hb36_7 : ∀ (b36_2 : Int32) (b36_3 : Int32), zm_V X Y_X10_subsetOf E (zm_Q X E Y_X10_subsetOf.2.2.2.1.cells Y_X10_subsetOf.2.2.2.1.slots w zm_ei) 0 0 false w 36 [(0, .int a0), (2, .int b36_2), (3, .int b36_3), (4, .int l7_4)] [] M (f_X10_subsetOf_b36_7 l7_4 b36_2 b36_3) f7 := by
      intro b36_2 b36_3
      unfold f_X10_subsetOf_b36_7
      refine zm_iinc (lv' := fun z => [(4, .int z), (0, .int a0), (2, .int b36_2), (3, .int b36_3)]) 39 rfl dX10_subsetOf_36 zi_1 3 rfl (by decide) (fun _ => rfl) (fun x36 _ => ?_)
      refine zm_goto 7 (by decide) dX10_subsetOf_39 ?_
      exact zm_loc [1, 2, 3, 0] rfl (zm_go (hf7a _) (hD7 (b36_2, b36_3, x36)))
    refine zm_icmp_ne 36 23 (by decide) rfl dX10_subsetOf_20 ?_ ?_
    · refine zm_iload_n 24 rfl dX10_subsetOf_23 rfl 1 rfl ?_
      refine zm_iload_n 25 rfl dX10_subsetOf_24 rfl 2 rfl ?_
      refine zm_iconst 26 rfl dX10_subsetOf_25 zi_1 ?_
      refine zm_iand 27 rfl dX10_subsetOf_26 ?_
      refine zm_iload 29 rfl dX10_subsetOf_27 3 rfl ?_
      refine zm_ishl 30 rfl dX10_subsetOf_29 ?_
      refine zm_ior 31 rfl dX10_subsetOf_30 ?_
      refine zm_nmi (fun x31 _ => ?_)
      refine zm_istore_n (lv' := [(2, .int x31), (0, .int a0), (3, .int l7_3), (4, .int l7_4)]) 32 rfl dX10_subsetOf_31 rfl (by decide) rfl ?_
      refine zm_iload_n 33 rfl dX10_subsetOf_32 rfl 2 rfl ?_
      refine zm_iconst 34 rfl dX10_subsetOf_33 zi_1 ?_
      refine zm_ishr 35 rfl dX10_subsetOf_34 ?_
      refine zm_nmi (fun x35 _ => ?_)
      refine zm_istore_n (lv' := [(3, .int x35), (2, .int x31), (0, .int a0), (4, .int l7_4)]) 36 rfl dX10_subsetOf_35 rfl (by decide) rfl ?_
      exact zm_loc [2, 1, 0, 3] rfl (hb36_7 x31 x35)
    · exact zm_loc [0, 1, 2, 3] rfl (hb36_7 l7_2 l7_3)
abbrev Y_X10_backs : zm_Y := (cX10_backs, 4, RX10, { frames := 4, cells := 0, slots := 0, locals := 94 }, (some .int), false, "backs")
noncomputable def f_X10_backs_b28 (M1 : zm_Mem) : Option (Int32 × zm_Mem) :=
 some ((-1), M1)
noncomputable def f_X10_backs (a1 : Int32) (M : zm_Mem) : Option (Int32 × zm_Mem) :=
  zm_b2 (f_X10_housesFreeToSendBack M) <| fun r1 M1 => zm_b1 (f_J6_bitCount_0f7a4 r1 M1) <| fun r7 => zm_v ((1 : Int32) <<< (r7 &&& 31)) <| fun x11 => if a1 = (-1 : Int32) then (some (x11, M1)) else (if a1 < 0 then (f_X10_backs_b28 M1) else (if a1 < x11 then (zm_b1 (f_X10_subsetOf r1 a1 M1) <| fun r34 => some (r34, M1)) else (f_X10_backs_b28 M1)))
set_option maxRecDepth 20000 in
set_option maxHeartbeats 4000000 in
theorem k_X10_backs (E : zm_E) (sv : Nat) (a1 : Int32) (M : zm_Mem) {r : Int32} {M' : zm_Mem} (h : f_X10_backs a1 M = some (r, M')) : zm_Ct E (zm_w sv) (zm_w sv) yX10_backs Y_X10_backs [.ref (E.2.1 + 1), .int a1] M (some (.int r)) M' := by
  refine zm_meth (emb := zm_ei) (d := f_X10_backs a1 M) (by decide) rfl rfl (Nat.le_of_ble_eq_true rfl) h (fun X => ?_)
  show zm_V X Y_X10_backs E (zm_Q X E Y_X10_backs.2.2.2.1.cells Y_X10_backs.2.2.2.1.slots (zm_w sv) zm_ei) 0 0 false (zm_w sv) 0 [(0, .ref (E.2.1 + 1)), (1, .int a1)] [] M (f_X10_backs a1 M) some
  unfold f_X10_backs
  refine zm_aload_n 1 rfl dX10_backs_0 rfl 0 rfl ?_
  refine zm_cV0i 4 rfl dX10_backs_1 ml_X10_262 rfl (zm_L (sv := sv) rfl) rfl (Nat.le_of_ble_eq_true rfl) ⟨Nat.le_of_ble_eq_true rfl, Nat.le_of_ble_eq_true rfl⟩ rfl rfl ⟨Nat.le_refl _, Nat.le_refl _⟩ rfl (fun _ _ h => k_X10_housesFreeToSendBack E sv M h) (fun r1 M1 => ?_)
  refine zm_istore_n (lv' := [(2, .int r1), (0, .ref (E.2.1 + 1)), (1, .int a1)]) 5 rfl dX10_backs_4 rfl (by decide) rfl ?_
  refine zm_iconst 6 rfl dX10_backs_5 zi_1 ?_
  refine zm_iload_n 7 rfl dX10_backs_6 rfl 0 rfl ?_
  refine zm_cS1ir 10 rfl dX10_backs_7 ml_X10_231 (Nat.le_of_ble_eq_true rfl) ⟨Nat.le_of_ble_eq_true rfl, Nat.le_of_ble_eq_true rfl⟩ rfl rfl ⟨Nat.le_refl _, Nat.le_refl _⟩ rfl (fun _ h => k_J6_bitCount_0f7a4 E (zm_w sv) r1 M1 h) (fun r7 => ?_)
  refine zm_ishl 11 rfl dX10_backs_10 ?_
  refine zm_nmi (fun x11 _ => ?_)
  refine zm_istore_n (lv' := [(3, .int x11), (2, .int r1), (0, .ref (E.2.1 + 1)), (1, .int a1)]) 12 rfl dX10_backs_11 rfl (by decide) rfl ?_
  refine zm_iload_n 13 rfl dX10_backs_12 rfl 3 rfl ?_
  refine zm_iconst 14 rfl dX10_backs_13 zi_m1 ?_
  refine zm_icmp_ne 19 17 (by decide) rfl dX10_backs_14 ?_ ?_
  · refine zm_iload_n 18 rfl dX10_backs_17 rfl 0 rfl ?_
    exact zm_iret dX10_backs_18 rfl (Nat.le_refl _) (Nat.le_refl _) rfl
  · refine zm_iload_n 20 rfl dX10_backs_19 rfl 3 rfl ?_
    have hb28 : zm_V X Y_X10_backs E (zm_Q X E Y_X10_backs.2.2.2.1.cells Y_X10_backs.2.2.2.1.slots (zm_w sv) zm_ei) 0 0 false (zm_w sv) 28 [] [] M1 (f_X10_backs_b28 M1) some := by
      unfold f_X10_backs_b28
      refine zm_iconst 29 rfl dX10_backs_28 zi_m1 ?_
      refine zm_goto 37 (by decide) dX10_backs_29 ?_
      exact zm_iret dX10_backs_37 rfl (Nat.le_refl _) (Nat.le_refl _) rfl
    refine zm_if_lt 28 23 (by decide) rfl dX10_backs_20 ?_ ?_
    · exact zm_loc [] rfl (hb28)
    · refine zm_iload_n 24 rfl dX10_backs_23 rfl 3 rfl ?_
      refine zm_iload_n 25 rfl dX10_backs_24 rfl 0 rfl ?_
      refine zm_icmp_lt 32 28 (by decide) rfl dX10_backs_25 ?_ ?_
      · refine zm_iload_n 33 rfl dX10_backs_32 rfl 1 rfl ?_
        refine zm_iload_n 34 rfl dX10_backs_33 rfl 3 rfl ?_
        refine zm_cS2ir 37 rfl dX10_backs_34 ml_X10_265 (Nat.le_of_ble_eq_true rfl) ⟨Nat.le_of_ble_eq_true rfl, Nat.le_of_ble_eq_true rfl⟩ rfl rfl ⟨Nat.le_refl _, Nat.le_refl _⟩ rfl (fun _ h => k_X10_subsetOf E (zm_w sv) r1 a1 M1 h) (fun r34 => ?_)
        exact zm_iret dX10_backs_37 rfl (Nat.le_refl _) (Nat.le_refl _) rfl
      · exact zm_loc [] rfl (hb28)
abbrev Y_X10_shareOut (dp : Nat) : zm_Y := (cX10_shareOut, 7, RX10, { frames := 1 + dp, cells := 0, slots := 0, locals := 24 + 40 * dp }, (some .int), false, "shareOut")
noncomputable def f_X10_shareOut_b10 (a2 : Int32) (a3 : Int32) (a4 : Int32) : Option Int32 :=
 some (zm_max a2 (zm_max a3 a4))
noncomputable def f_X10_shareOut_b77 (rec : (Nat → Int32 → Int32 → Int32 → Int32 → zm_Mem → Option Int32)) (a1 : Int32) (a2 : Int32) (a3 : Int32) (a4 : Int32) (M : zm_Mem) (x27 : Int32) (b77_6 : Int32) : Option Int32 :=
 zm_v (M.2.2 1 9) <| fun t78 => zm_ck (zm_isT t78) <| if (M.1 t78 17) ≤ (2 : Int32) then (some b77_6) else (zm_b1 (rec 0 (a1 - 1) a2 a3 (a4 + x27) M) <| fun r101 => zm_v (zm_min b77_6 r101) <| fun x107 => some x107)
noncomputable def f_X10_shareOut (rec : (Nat → Int32 → Int32 → Int32 → Int32 → zm_Mem → Option Int32)) (a1 : Int32) (a2 : Int32) (a3 : Int32) (a4 : Int32) (M : zm_Mem) : Option Int32 :=
  if a1 < 0 then (f_X10_shareOut_b10 a2 a3 a4) else (if a1 < (6 : Int32) then (zm_ck (zm_in a1 6) <| zm_v (M.1 24 a1.toNatClampNeg) <| fun x27 => zm_b1 (rec 0 (a1 - 1) (a2 + x27) a3 a4 M) <| fun r40 => zm_v (M.2.2 1 9) <| fun t46 => zm_ck (zm_isT t46) <| if (M.1 t46 17) ≤ (1 : Int32) then (f_X10_shareOut_b77 rec a1 a2 a3 a4 M x27 r40) else (zm_b1 (rec 0 (a1 - 1) a2 (a3 + x27) a4 M) <| fun r69 => zm_v (zm_min r40 r69) <| fun x75 => f_X10_shareOut_b77 rec a1 a2 a3 a4 M x27 x75)) else (f_X10_shareOut_b10 a2 a3 a4))
set_option maxRecDepth 20000 in
set_option maxHeartbeats 4000000 in
theorem kb_X10_shareOut (E : zm_E) (sv : Nat) (dp : Nat) (rec : (Nat → Int32 → Int32 → Int32 → Int32 → zm_Mem → Option Int32)) (hr0 : ∀ (a1 : Int32) (a2 : Int32) (a3 : Int32) (a4 : Int32) (M : zm_Mem) (r : Int32), rec 0 a1 a2 a3 a4 M = some r → zm_Ct E (zm_w sv) (zm_w sv) yX10_shareOut (Y_X10_shareOut dp) [.ref (E.2.1 + 1), .int a1, .int a2, .int a3, .int a4] M (some (.int r)) M) (a1 : Int32) (a2 : Int32) (a3 : Int32) (a4 : Int32) (M : zm_Mem) (r : Int32) (h : f_X10_shareOut rec a1 a2 a3 a4 M = some r) : zm_Ct E (zm_w sv) (zm_w sv) yX10_shareOut (Y_X10_shareOut (dp + 1)) [.ref (E.2.1 + 1), .int a1, .int a2, .int a3, .int a4] M (some (.int r)) M := by
  have hr0 : ∀ (a1 : Int32) (a2 : Int32) (a3 : Int32) (a4 : Int32) (M : zm_Mem) {r : Int32}, rec 0 a1 a2 a3 a4 M = some r → zm_Ct E (zm_w sv) (zm_w sv) yX10_shareOut (Y_X10_shareOut dp) [.ref (E.2.1 + 1), .int a1, .int a2, .int a3, .int a4] M (some (.int r)) M := fun _ _ _ _ _ {_} h => hr0 _ _ _ _ _ _ h
  refine zm_methr (emb := zm_ei) (d := f_X10_shareOut rec a1 a2 a3 a4 M) (by decide) rfl rfl (Nat.le_of_ble_eq_true rfl) h (fun X => ?_)
  show zm_V X (Y_X10_shareOut (dp + 1)) E (zm_Q X E (Y_X10_shareOut (dp + 1)).2.2.2.1.cells (Y_X10_shareOut (dp + 1)).2.2.2.1.slots (zm_w sv) zm_ei) 0 0 false (zm_w sv) 0 [(0, .ref (E.2.1 + 1)), (1, .int a1), (2, .int a2), (3, .int a3), (4, .int a4)] [] M (f_X10_shareOut rec a1 a2 a3 a4 M) (fun r => some (r, M))
  unfold f_X10_shareOut
  refine zm_iload_n 1 rfl dX10_shareOut_0 rfl 1 rfl ?_
  have hb10 : zm_V X (Y_X10_shareOut (dp + 1)) E (zm_Q X E (Y_X10_shareOut (dp + 1)).2.2.2.1.cells (Y_X10_shareOut (dp + 1)).2.2.2.1.slots (zm_w sv) zm_ei) 0 0 false (zm_w sv) 10 [(2, .int a2), (3, .int a3), (4, .int a4)] [] M (f_X10_shareOut_b10 a2 a3 a4) (fun r => some (r, M)) := by
    unfold f_X10_shareOut_b10
    refine zm_iload_n 11 rfl dX10_shareOut_10 rfl 0 rfl ?_
    refine zm_iload_n 12 rfl dX10_shareOut_11 rfl 1 rfl ?_
    refine zm_iload 14 rfl dX10_shareOut_12 2 rfl ?_
    refine zm_mmax 17 rfl dX10_shareOut_14 mm_X10_364 mm_st_max in_math mm_co_max (by show 1 ≤ 1 + (dp + 1); omega) (by show _ + 13 ≤ 24 + 40 * (dp + 1); simp [Value.category]; omega) ⟨Nat.le_refl _, Nat.le_refl _⟩ ?_
    refine zm_mmax 20 rfl dX10_shareOut_17 mm_X10_364 mm_st_max in_math mm_co_max (by show 1 ≤ 1 + (dp + 1); omega) (by show _ + 13 ≤ 24 + 40 * (dp + 1); simp [Value.category]; omega) ⟨Nat.le_refl _, Nat.le_refl _⟩ ?_
    exact zm_iret dX10_shareOut_20 rfl (Nat.le_refl _) (Nat.le_refl _) rfl
  refine zm_if_lt 10 4 (by decide) rfl dX10_shareOut_1 ?_ ?_
  · exact zm_loc [2, 3, 4] rfl (hb10)
  · refine zm_iload_n 5 rfl dX10_shareOut_4 rfl 1 rfl ?_
    refine zm_bipush 7 rfl dX10_shareOut_5 zb_6 ?_
    refine zm_icmp_lt 21 10 (by decide) rfl dX10_shareOut_7 ?_ ?_
    · refine zm_aload_n 22 rfl dX10_shareOut_21 rfl 0 rfl ?_
      refine zm_getR (a := 24) 25 rfl dX10_shareOut_22 fl_X10_54 rfl (zm_L (sv := sv) rfl) rfl (by decide) ?_
      refine zm_iload_n 26 rfl dX10_shareOut_25 rfl 1 rfl ?_
      refine zm_iald 27 rfl dX10_shareOut_26 rfl (zm_L (sv := sv) rfl) ?_
      refine zm_nmi (fun x27 _ => ?_)
      refine zm_istore (lv' := [(5, .int x27), (0, .ref (E.2.1 + 1)), (1, .int a1), (2, .int a2), (3, .int a3), (4, .int a4)]) 29 rfl dX10_shareOut_27 (Nat.le_of_ble_eq_true rfl) rfl ?_
      refine zm_aload_n 30 rfl dX10_shareOut_29 rfl 1 rfl ?_
      refine zm_iload_n 31 rfl dX10_shareOut_30 rfl 2 rfl ?_
      refine zm_iconst 32 rfl dX10_shareOut_31 zi_1 ?_
      refine zm_isub 33 rfl dX10_shareOut_32 ?_
      refine zm_iload_n 34 rfl dX10_shareOut_33 rfl 3 rfl ?_
      refine zm_iload 36 rfl dX10_shareOut_34 0 rfl ?_
      refine zm_iadd 37 rfl dX10_shareOut_36 ?_
      refine zm_iload_n 38 rfl dX10_shareOut_37 rfl 4 rfl ?_
      refine zm_iload 40 rfl dX10_shareOut_38 5 rfl ?_
      refine zm_cV4ir 43 rfl dX10_shareOut_40 ml_X10_268 rfl (zm_L (sv := sv) rfl) rfl (Nat.le_of_ble_eq_true rfl) ⟨by show 1 + dp + 1 ≤ 1 + (dp + 1); omega, by show 8 + (7 + 11) + (24 + 40 * dp) ≤ 24 + 40 * (dp + 1); omega⟩ rfl rfl ⟨Nat.le_refl _, Nat.le_refl _⟩ rfl (fun _ h => hr0 (a1 - 1) (a2 + x27) a3 a4 M h) (fun r40 => ?_)
      refine zm_istore (lv' := [(6, .int r40), (5, .int x27), (0, .ref (E.2.1 + 1)), (1, .int a1), (2, .int a2), (3, .int a3), (4, .int a4)]) 45 rfl dX10_shareOut_43 (Nat.le_of_ble_eq_true rfl) rfl ?_
      refine zm_aload_n 46 rfl dX10_shareOut_45 rfl 2 rfl ?_
      refine zm_getT 49 rfl dX10_shareOut_46 fl_X10_60 rfl (zm_L (sv := sv) rfl) (fun t46 _ ht46 => ?_)
      refine zm_getI 52 rfl dX10_shareOut_49 fl_X10_369 (zm_T_o ht46) (zm_T_l0 (sv := sv) ht46) ?_
      refine zm_iconst 53 rfl dX10_shareOut_52 zi_1 ?_
      have hb77 : ∀ (b77_6 : Int32), zm_V X (Y_X10_shareOut (dp + 1)) E (zm_Q X E (Y_X10_shareOut (dp + 1)).2.2.2.1.cells (Y_X10_shareOut (dp + 1)).2.2.2.1.slots (zm_w sv) zm_ei) 0 0 false (zm_w sv) 77 [(0, .ref (E.2.1 + 1)), (1, .int a1), (2, .int a2), (3, .int a3), (4, .int a4), (5, .int x27), (6, .int b77_6)] [] M (f_X10_shareOut_b77 rec a1 a2 a3 a4 M x27 b77_6) (fun r => some (r, M)) := by
        intro b77_6
        unfold f_X10_shareOut_b77
        refine zm_aload_n 78 rfl dX10_shareOut_77 rfl 0 rfl ?_
        refine zm_getT 81 rfl dX10_shareOut_78 fl_X10_60 rfl (zm_L (sv := sv) rfl) (fun t78 _ ht78 => ?_)
        refine zm_getI 84 rfl dX10_shareOut_81 fl_X10_369 (zm_T_o ht78) (zm_T_l0 (sv := sv) ht78) ?_
        refine zm_iconst 85 rfl dX10_shareOut_84 zi_2 ?_
        refine zm_icmp_le 109 88 (by decide) rfl dX10_shareOut_85 ?_ ?_
        · refine zm_iload 111 rfl dX10_shareOut_109 6 rfl ?_
          exact zm_iret dX10_shareOut_111 rfl (Nat.le_refl _) (Nat.le_refl _) rfl
        · refine zm_iload 90 rfl dX10_shareOut_88 6 rfl ?_
          refine zm_aload_n 91 rfl dX10_shareOut_90 rfl 0 rfl ?_
          refine zm_iload_n 92 rfl dX10_shareOut_91 rfl 1 rfl ?_
          refine zm_iconst 93 rfl dX10_shareOut_92 zi_1 ?_
          refine zm_isub 94 rfl dX10_shareOut_93 ?_
          refine zm_iload_n 95 rfl dX10_shareOut_94 rfl 2 rfl ?_
          refine zm_iload_n 96 rfl dX10_shareOut_95 rfl 3 rfl ?_
          refine zm_iload 98 rfl dX10_shareOut_96 4 rfl ?_
          refine zm_iload 100 rfl dX10_shareOut_98 5 rfl ?_
          refine zm_iadd 101 rfl dX10_shareOut_100 ?_
          refine zm_cV4ir 104 rfl dX10_shareOut_101 ml_X10_268 rfl (zm_L (sv := sv) rfl) rfl (Nat.le_of_ble_eq_true rfl) ⟨by show 1 + dp + 1 ≤ 1 + (dp + 1); omega, by show 8 + (7 + 11) + (24 + 40 * dp) ≤ 24 + 40 * (dp + 1); omega⟩ rfl rfl ⟨Nat.le_refl _, Nat.le_refl _⟩ rfl (fun _ h => hr0 (a1 - 1) a2 a3 (a4 + x27) M h) (fun r101 => ?_)
          refine zm_mmin 107 rfl dX10_shareOut_104 mm_X10_372 mm_st_min in_math mm_co_min (by show 1 ≤ 1 + (dp + 1); omega) (by show _ + 13 ≤ 24 + 40 * (dp + 1); simp [Value.category]; omega) ⟨Nat.le_refl _, Nat.le_refl _⟩ ?_
          refine zm_nmi (fun x107 _ => ?_)
          refine zm_istore (lv' := [(6, .int x107), (0, .ref (E.2.1 + 1)), (1, .int a1), (2, .int a2), (3, .int a3), (4, .int a4), (5, .int x27)]) 109 rfl dX10_shareOut_107 (Nat.le_of_ble_eq_true rfl) rfl ?_
          refine zm_iload 111 rfl dX10_shareOut_109 0 rfl ?_
          exact zm_iret dX10_shareOut_111 rfl (Nat.le_refl _) (Nat.le_refl _) rfl
      refine zm_icmp_le 77 56 (by decide) rfl dX10_shareOut_53 ?_ ?_
      · exact zm_loc [2, 3, 4, 5, 6, 1, 0] rfl (hb77 r40)
      · refine zm_iload 58 rfl dX10_shareOut_56 0 rfl ?_
        refine zm_aload_n 59 rfl dX10_shareOut_58 rfl 2 rfl ?_
        refine zm_iload_n 60 rfl dX10_shareOut_59 rfl 3 rfl ?_
        refine zm_iconst 61 rfl dX10_shareOut_60 zi_1 ?_
        refine zm_isub 62 rfl dX10_shareOut_61 ?_
        refine zm_iload_n 63 rfl dX10_shareOut_62 rfl 4 rfl ?_
        refine zm_iload_n 64 rfl dX10_shareOut_63 rfl 5 rfl ?_
        refine zm_iload 66 rfl dX10_shareOut_64 1 rfl ?_
        refine zm_iadd 67 rfl dX10_shareOut_66 ?_
        refine zm_iload 69 rfl dX10_shareOut_67 6 rfl ?_
        refine zm_cV4ir 72 rfl dX10_shareOut_69 ml_X10_268 rfl (zm_L (sv := sv) rfl) rfl (Nat.le_of_ble_eq_true rfl) ⟨by show 1 + dp + 1 ≤ 1 + (dp + 1); omega, by show 8 + (7 + 11) + (24 + 40 * dp) ≤ 24 + 40 * (dp + 1); omega⟩ rfl rfl ⟨Nat.le_refl _, Nat.le_refl _⟩ rfl (fun _ h => hr0 (a1 - 1) a2 (a3 + x27) a4 M h) (fun r69 => ?_)
        refine zm_mmin 75 rfl dX10_shareOut_72 mm_X10_372 mm_st_min in_math mm_co_min (by show 1 ≤ 1 + (dp + 1); omega) (by show _ + 13 ≤ 24 + 40 * (dp + 1); simp [Value.category]; omega) ⟨Nat.le_refl _, Nat.le_refl _⟩ ?_
        refine zm_nmi (fun x75 _ => ?_)
        refine zm_istore (lv' := [(6, .int x75), (5, .int x27), (0, .ref (E.2.1 + 1)), (1, .int a1), (2, .int a2), (3, .int a3), (4, .int a4)]) 77 rfl dX10_shareOut_75 (Nat.le_of_ble_eq_true rfl) rfl ?_
        exact zm_loc [2, 3, 4, 5, 6, 1, 0] rfl (hb77 x75)
    · exact zm_loc [2, 3, 4] rfl (hb10)
noncomputable def fr_X10_shareOut : Nat → (Nat → Int32 → Int32 → Int32 → Int32 → zm_Mem → Option Int32)
  | 0, _, _, _, _, _, _ => none
  | dp + 1, _, a1, a2, a3, a4, M => f_X10_shareOut (fr_X10_shareOut dp) a1 a2 a3 a4 M
theorem kr_X10_shareOut (E : zm_E) (sv : Nat) : ∀ dp : Nat, (∀ (a1 : Int32) (a2 : Int32) (a3 : Int32) (a4 : Int32) (M : zm_Mem) (r : Int32), fr_X10_shareOut dp 0 a1 a2 a3 a4 M = some r → zm_Ct E (zm_w sv) (zm_w sv) yX10_shareOut (Y_X10_shareOut dp) [.ref (E.2.1 + 1), .int a1, .int a2, .int a3, .int a4] M (some (.int r)) M) := by
  intro dp
  induction dp with
  | zero => exact (fun _ _ _ _ _ _ h => by cases h)
  | succ dp ih =>
    exact (fun a1 a2 a3 a4 M r h => kb_X10_shareOut E sv dp (fr_X10_shareOut dp) ih a1 a2 a3 a4 M r h)
noncomputable def f_X10_shareOutR (dp : Nat) (a1 : Int32) (a2 : Int32) (a3 : Int32) (a4 : Int32) (M : zm_Mem) := fr_X10_shareOut dp 0 a1 a2 a3 a4 M
theorem k_X10_shareOut (E : zm_E) (sv : Nat) (dp : Nat) (a1 : Int32) (a2 : Int32) (a3 : Int32) (a4 : Int32) (M : zm_Mem) {r : Int32} (h : f_X10_shareOutR dp a1 a2 a3 a4 M = some r) : zm_Ct E (zm_w sv) (zm_w sv) yX10_shareOut (Y_X10_shareOut dp) [.ref (E.2.1 + 1), .int a1, .int a2, .int a3, .int a4] M (some (.int r)) M := (kr_X10_shareOut E sv dp) a1 a2 a3 a4 M r h
abbrev Y_X10_soonest : zm_Y := (cX10_soonest, 3, RX10, { frames := 10, cells := 0, slots := 0, locals := 370 }, (some .int), false, "soonest")
noncomputable def f_X10_soonest_x71_8 (e71_1 : Int32) (N71 : zm_Mem) : Option (Int32 × zm_Mem) :=
 zm_b1 (f_X10_shareOutR 8 (e71_1 - 1) 0 0 0 N71) <| fun r78 => some (r78, N71)
noncomputable def f_X10_soonest_b65_8 (l8_2 : Int32) (b65_1 : Int32) (M65 : zm_Mem) : Option ((Int32 × Int32 × zm_Mem) ⊕ (Int32 × zm_Mem)) :=
 zm_v (l8_2 + 1) <| fun x65 => some (.inl (b65_1, x65, M65))
noncomputable def f_X10_soonest_l8 (l8_1 : Int32) (l8_2 : Int32) (L8 : zm_Mem) : Option ((Int32 × Int32 × zm_Mem) ⊕ (Int32 × zm_Mem)) :=
 zm_v (L8.2.2 1 9) <| fun t10 => zm_ck (zm_isT t10) <| if (L8.1 t10 12) ≤ l8_2 then (some (.inr (l8_1, L8))) else (zm_b1 (f_X4_goal l8_2 L8) <| fun r24 => zm_v (L8.2.2 1 9) <| fun t28 => zm_ck (zm_isT t28) <| zm_ck (zm_in l8_2 6) <| if r24 = (L8.1 (t28 + 3) l8_2.toNatClampNeg) then (f_X10_soonest_b65_8 l8_2 l8_1 L8) else (zm_v (L8.2.2 1 9) <| fun t50 => zm_ck (zm_isT t50) <| zm_ck (zm_in l8_2 6) <| zm_b2 (f_X3_journey l8_2 (L8.1 (t50 + 3) l8_2.toNatClampNeg) L8) <| fun r58 M58 => zm_ck (zm_in l8_1 6) <| zm_v (zm_sI M58 24 l8_1.toNatClampNeg r58) <| fun M61 => zm_v (l8_1 + 1) <| fun x62 => f_X10_soonest_b65_8 l8_2 x62 M61))
noncomputable def f_X10_soonest  (M : zm_Mem) : Option (Int32 × zm_Mem) :=
  zm_b2 (f_X10_lookToday M) <| fun _ M1 => (zm_lp (fun s => f_X10_soonest_l8 s.1 s.2.1 s.2.2) (0, 0, M1)).bind (fun e71 => f_X10_soonest_x71_8 e71.1 e71.2)
set_option maxRecDepth 20000 in
set_option maxHeartbeats 4000000 in
theorem k_X10_soonest (E : zm_E) (sv : Nat)  (M : zm_Mem) {r : Int32} {M' : zm_Mem} (h : f_X10_soonest M = some (r, M')) : zm_Ct E (zm_w sv) (zm_w sv) yX10_soonest Y_X10_soonest [.ref (E.2.1 + 1)] M (some (.int r)) M' := by
  refine zm_meth (emb := zm_ei) (d := f_X10_soonest M) (by decide) rfl rfl (Nat.le_of_ble_eq_true rfl) h (fun X => ?_)
  show zm_V X Y_X10_soonest E (zm_Q X E Y_X10_soonest.2.2.2.1.cells Y_X10_soonest.2.2.2.1.slots (zm_w sv) zm_ei) 0 0 false (zm_w sv) 0 [(0, .ref (E.2.1 + 1))] [] M (f_X10_soonest M) some
  unfold f_X10_soonest
  refine zm_aload_n 1 rfl dX10_soonest_0 rfl 0 rfl ?_
  refine zm_cV0v 4 rfl dX10_soonest_1 ml_X10_151 rfl (zm_L (sv := sv) rfl) rfl (Nat.le_of_ble_eq_true rfl) ⟨Nat.le_of_ble_eq_true rfl, Nat.le_of_ble_eq_true rfl⟩ rfl rfl ⟨Nat.le_refl _, Nat.le_refl _⟩ rfl (fun _ _ h => k_X10_lookToday E sv M h) (fun _ M1 => ?_)
  refine zm_iconst 5 rfl dX10_soonest_4 zi_0 ?_
  refine zm_istore_n (lv' := [(1, .int 0), (0, .ref (E.2.1 + 1))]) 6 rfl dX10_soonest_5 rfl (by decide) rfl ?_
  refine zm_iconst 7 rfl dX10_soonest_6 zi_0 ?_
  refine zm_istore_n (lv' := [(2, .int 0), (1, .int 0), (0, .ref (E.2.1 + 1))]) 8 rfl dX10_soonest_7 rfl (by decide) rfl ?_
  have hx71_8 : ∀ (e71_1 : Int32) (N71 : zm_Mem), zm_V X Y_X10_soonest E (zm_Q X E Y_X10_soonest.2.2.2.1.cells Y_X10_soonest.2.2.2.1.slots (zm_w sv) zm_ei) 0 0 false (zm_w sv) 71 [(0, .ref (E.2.1 + 1)), (1, .int e71_1)] [] N71 (f_X10_soonest_x71_8 e71_1 N71) some := by
    intro e71_1 N71
    unfold f_X10_soonest_x71_8
    refine zm_aload_n 72 rfl dX10_soonest_71 rfl 0 rfl ?_
    refine zm_iload_n 73 rfl dX10_soonest_72 rfl 1 rfl ?_
    refine zm_iconst 74 rfl dX10_soonest_73 zi_1 ?_
    refine zm_isub 75 rfl dX10_soonest_74 ?_
    refine zm_iconst 76 rfl dX10_soonest_75 zi_0 ?_
    refine zm_iconst 77 rfl dX10_soonest_76 zi_0 ?_
    refine zm_iconst 78 rfl dX10_soonest_77 zi_0 ?_
    refine zm_cV4ir 81 rfl dX10_soonest_78 ml_X10_268 rfl (zm_L (sv := sv) rfl) rfl (Nat.le_of_ble_eq_true rfl) ⟨Nat.le_of_ble_eq_true rfl, Nat.le_of_ble_eq_true rfl⟩ rfl rfl ⟨Nat.le_refl _, Nat.le_refl _⟩ rfl (fun _ h => k_X10_shareOut E sv 8 (e71_1 - 1) 0 0 0 N71 h) (fun r78 => ?_)
    exact zm_iret dX10_soonest_81 rfl (Nat.le_refl _) (Nat.le_refl _) rfl
  refine zm_loc [2, 1, 0] rfl (zm_lpp (σ := (Int32 × Int32 × zm_Mem)) (ε := (Int32 × zm_Mem)) (step := fun s => f_X10_soonest_l8 s.1 s.2.1 s.2.2) (fun s => [(0, .ref (E.2.1 + 1)), (1, .int s.1), (2, .int s.2.1)]) (fun s => s.2.2) (fun D8 f8 hf8a hf8b hD8 s => ?_) (0, 0, M1))
  obtain ⟨l8_1, l8_2, L8⟩ := s
  show zm_V X Y_X10_soonest E (zm_Q X E Y_X10_soonest.2.2.2.1.cells Y_X10_soonest.2.2.2.1.slots (zm_w sv) zm_ei) 0 0 false (zm_w sv) 8 [(0, .ref (E.2.1 + 1)), (1, .int l8_1), (2, .int l8_2)] [] L8 (f_X10_soonest_l8 l8_1 l8_2 L8) f8
  unfold f_X10_soonest_l8
  refine zm_iload_n 9 rfl dX10_soonest_8 rfl 2 rfl ?_
  refine zm_aload_n 10 rfl dX10_soonest_9 rfl 0 rfl ?_
  refine zm_getT 13 rfl dX10_soonest_10 fl_X10_60 rfl (zm_L (sv := sv) rfl) (fun t10 _ ht10 => ?_)
  refine zm_getI 16 rfl dX10_soonest_13 fl_X10_236 (zm_T_o ht10) (zm_T_l0 (sv := sv) ht10) ?_
  refine zm_icmp_ge 71 19 (by decide) rfl dX10_soonest_16 ?_ ?_
  · exact zm_loc [0, 1] rfl (zm_go (hf8b _) (zm_unb (hx71_8 l8_1 L8)))
  · refine zm_aload_n 20 rfl dX10_soonest_19 rfl 0 rfl ?_
    refine zm_getR (a := 11) 23 rfl dX10_soonest_20 fl_X10_32 rfl (zm_L (sv := sv) rfl) rfl (by decide) ?_
    refine zm_iload_n 24 rfl dX10_soonest_23 rfl 2 rfl ?_
    refine zm_cV1ir 27 rfl dX10_soonest_24 ml_X10_130 rfl (zm_L (sv := sv) rfl) rfl (Nat.le_of_ble_eq_true rfl) ⟨Nat.le_of_ble_eq_true rfl, Nat.le_of_ble_eq_true rfl⟩ rfl rfl ⟨Nat.le_refl _, Nat.le_refl _⟩ rfl (fun _ h => k_X4_goal E sv l8_2 L8 h) (fun r24 => ?_)
    refine zm_aload_n 28 rfl dX10_soonest_27 rfl 0 rfl ?_
    refine zm_getT 31 rfl dX10_soonest_28 fl_X10_60 rfl (zm_L (sv := sv) rfl) (fun t28 _ ht28 => ?_)
    refine zm_getR (a := t28 + 3) 34 rfl dX10_soonest_31 fl_X10_127 (zm_T_o ht28) (zm_T_l0 (sv := sv) ht28) (zm_T_r ht28 2 (by decide)) (Nat.succ_ne_zero _) ?_
    refine zm_iload_n 35 rfl dX10_soonest_34 rfl 2 rfl ?_
    refine zm_iald 36 rfl dX10_soonest_35 (zm_T_a ht28 3 (by decide)) (zm_T_l (sv := sv) ht28 3 (by decide)) ?_
    have hb65_8 : ∀ (b65_1 : Int32) (M65 : zm_Mem), zm_V X Y_X10_soonest E (zm_Q X E Y_X10_soonest.2.2.2.1.cells Y_X10_soonest.2.2.2.1.slots (zm_w sv) zm_ei) 0 0 false (zm_w sv) 65 [(0, .ref (E.2.1 + 1)), (1, .int b65_1), (2, .int l8_2)] [] M65 (f_X10_soonest_b65_8 l8_2 b65_1 M65) f8 := by
      intro b65_1 M65
      unfold f_X10_soonest_b65_8
      refine zm_iinc (lv' := fun z => [(2, .int z), (0, .ref (E.2.1 + 1)), (1, .int b65_1)]) 68 rfl dX10_soonest_65 zi_1 2 rfl (by decide) (fun _ => rfl) (fun x65 _ => ?_)
      refine zm_goto 8 (by decide) dX10_soonest_68 ?_
      exact zm_loc [1, 2, 0] rfl (zm_go (hf8a _) (hD8 (b65_1, x65, M65)))
    refine zm_icmp_eq 65 39 (by decide) rfl dX10_soonest_36 ?_ ?_
    · exact zm_loc [0, 1, 2] rfl (hb65_8 l8_1 L8)
    · refine zm_aload_n 40 rfl dX10_soonest_39 rfl 0 rfl ?_
      refine zm_getR (a := 24) 43 rfl dX10_soonest_40 fl_X10_54 rfl (zm_L (sv := sv) rfl) rfl (by decide) ?_
      refine zm_iload_n 44 rfl dX10_soonest_43 rfl 1 rfl ?_
      refine zm_aload_n 45 rfl dX10_soonest_44 rfl 0 rfl ?_
      refine zm_getR (a := 47) 48 rfl dX10_soonest_45 fl_X10_76 rfl (zm_L (sv := sv) rfl) rfl (by decide) ?_
      refine zm_iload_n 49 rfl dX10_soonest_48 rfl 2 rfl ?_
      refine zm_aload_n 50 rfl dX10_soonest_49 rfl 0 rfl ?_
      refine zm_getT 53 rfl dX10_soonest_50 fl_X10_60 rfl (zm_L (sv := sv) rfl) (fun t50 _ ht50 => ?_)
      refine zm_getR (a := t50 + 3) 56 rfl dX10_soonest_53 fl_X10_127 (zm_T_o ht50) (zm_T_l0 (sv := sv) ht50) (zm_T_r ht50 2 (by decide)) (Nat.succ_ne_zero _) ?_
      refine zm_iload_n 57 rfl dX10_soonest_56 rfl 2 rfl ?_
      refine zm_iald 58 rfl dX10_soonest_57 (zm_T_a ht50 3 (by decide)) (zm_T_l (sv := sv) ht50 3 (by decide)) ?_
      refine zm_cV2i 61 rfl dX10_soonest_58 ml_X10_169 rfl (zm_L (sv := sv) rfl) rfl (Nat.le_of_ble_eq_true rfl) ⟨Nat.le_of_ble_eq_true rfl, Nat.le_of_ble_eq_true rfl⟩ rfl rfl ⟨Nat.le_refl _, Nat.le_refl _⟩ rfl (fun _ _ h => k_X3_journey E sv l8_2 (L8.1 (t50 + 3) l8_2.toNatClampNeg) L8 h) (fun r58 M58 => ?_)
      refine zm_iast 62 rfl dX10_soonest_61 rfl (zm_L (sv := sv) rfl) (fun M61 _ => ?_)
      refine zm_iinc (lv' := fun z => [(1, .int z), (0, .ref (E.2.1 + 1)), (2, .int l8_2)]) 65 rfl dX10_soonest_62 zi_1 1 rfl (by decide) (fun _ => rfl) (fun x62 _ => ?_)
      exact zm_loc [1, 0, 2] rfl (hb65_8 x62 M61)
abbrev Y_X10_then : zm_Y := (cX10_then, 3, RX10, { frames := 1, cells := 0, slots := 0, locals := 21 }, (some .int), false, "then")
noncomputable def f_X10_then (a1 : Int32) (a2 : Int32) (M : zm_Mem) : Option Int32 :=
  zm_b1 (f_X10_isWork a1 M) <| fun r2 => if r2 = 0 then (some (-1)) else (if a2 < 0 then (some (-1)) else (if a2 ≤ (200 : Int32) then (zm_b1 (f_X4_arrival a1 M) <| fun r26 => zm_b1 (f_X4_today M) <| fun r33 => if (r33 + a2) < r26 then (some (-2)) else (zm_b1 (f_X4_goal a1 M) <| fun r46 => some r46)) else (some (-1))))
set_option maxRecDepth 20000 in
set_option maxHeartbeats 4000000 in
theorem k_X10_then (E : zm_E) (sv : Nat) (a1 : Int32) (a2 : Int32) (M : zm_Mem) {r : Int32} (h : f_X10_then a1 a2 M = some r) : zm_Ct E (zm_w sv) (zm_w sv) yX10_then Y_X10_then [.ref (E.2.1 + 1), .int a1, .int a2] M (some (.int r)) M := by
  refine zm_methr (emb := zm_ei) (d := f_X10_then a1 a2 M) (by decide) rfl rfl (Nat.le_of_ble_eq_true rfl) h (fun X => ?_)
  show zm_V X Y_X10_then E (zm_Q X E Y_X10_then.2.2.2.1.cells Y_X10_then.2.2.2.1.slots (zm_w sv) zm_ei) 0 0 false (zm_w sv) 0 [(0, .ref (E.2.1 + 1)), (1, .int a1), (2, .int a2)] [] M (f_X10_then a1 a2 M) (fun r => some (r, M))
  unfold f_X10_then
  refine zm_aload_n 1 rfl dX10_then_0 rfl 0 rfl ?_
  refine zm_iload_n 2 rfl dX10_then_1 rfl 1 rfl ?_
  refine zm_cV1ir 5 rfl dX10_then_2 ml_X10_121 rfl (zm_L (sv := sv) rfl) rfl (Nat.le_of_ble_eq_true rfl) ⟨Nat.le_of_ble_eq_true rfl, Nat.le_of_ble_eq_true rfl⟩ rfl rfl ⟨Nat.le_refl _, Nat.le_refl _⟩ rfl (fun _ h => k_X10_isWork E sv a1 M h) (fun r2 => ?_)
  refine zm_if_eq 19 8 (by decide) rfl dX10_then_5 ?_ ?_
  · refine zm_iconst 20 rfl dX10_then_19 zi_m1 ?_
    exact zm_iret dX10_then_20 rfl (Nat.le_refl _) (Nat.le_refl _) rfl
  · refine zm_iload_n 9 rfl dX10_then_8 rfl 2 rfl ?_
    refine zm_if_lt 19 12 (by decide) rfl dX10_then_9 ?_ ?_
    · refine zm_iconst 20 rfl dX10_then_19 zi_m1 ?_
      exact zm_iret dX10_then_20 rfl (Nat.le_refl _) (Nat.le_refl _) rfl
    · refine zm_iload_n 13 rfl dX10_then_12 rfl 2 rfl ?_
      refine zm_sipush 16 rfl dX10_then_13 zs_200 ?_
      refine zm_icmp_le 21 19 (by decide) rfl dX10_then_16 ?_ ?_
      · refine zm_aload_n 22 rfl dX10_then_21 rfl 0 rfl ?_
        refine zm_getR (a := 11) 25 rfl dX10_then_22 fl_X10_32 rfl (zm_L (sv := sv) rfl) rfl (by decide) ?_
        refine zm_iload_n 26 rfl dX10_then_25 rfl 1 rfl ?_
        refine zm_cV1ir 29 rfl dX10_then_26 ml_X10_139 rfl (zm_L (sv := sv) rfl) rfl (Nat.le_of_ble_eq_true rfl) ⟨Nat.le_of_ble_eq_true rfl, Nat.le_of_ble_eq_true rfl⟩ rfl rfl ⟨Nat.le_refl _, Nat.le_refl _⟩ rfl (fun _ h => k_X4_arrival E sv a1 M h) (fun r26 => ?_)
        refine zm_aload_n 30 rfl dX10_then_29 rfl 0 rfl ?_
        refine zm_getR (a := 11) 33 rfl dX10_then_30 fl_X10_32 rfl (zm_L (sv := sv) rfl) rfl (by decide) ?_
        refine zm_cV0ir 36 rfl dX10_then_33 ml_X10_189 rfl (zm_L (sv := sv) rfl) rfl (Nat.le_of_ble_eq_true rfl) ⟨Nat.le_of_ble_eq_true rfl, Nat.le_of_ble_eq_true rfl⟩ rfl rfl ⟨Nat.le_refl _, Nat.le_refl _⟩ rfl (fun _ h => k_X4_today E sv M h) (fun r33 => ?_)
        refine zm_iload_n 37 rfl dX10_then_36 rfl 2 rfl ?_
        refine zm_iadd 38 rfl dX10_then_37 ?_
        refine zm_icmp_gt 52 41 (by decide) rfl dX10_then_38 ?_ ?_
        · refine zm_bipush 54 rfl dX10_then_52 zb_m2 ?_
          exact zm_iret dX10_then_54 rfl (Nat.le_refl _) (Nat.le_refl _) rfl
        · refine zm_aload_n 42 rfl dX10_then_41 rfl 0 rfl ?_
          refine zm_getR (a := 11) 45 rfl dX10_then_42 fl_X10_32 rfl (zm_L (sv := sv) rfl) rfl (by decide) ?_
          refine zm_iload_n 46 rfl dX10_then_45 rfl 1 rfl ?_
          refine zm_cV1ir 49 rfl dX10_then_46 ml_X10_130 rfl (zm_L (sv := sv) rfl) rfl (Nat.le_of_ble_eq_true rfl) ⟨Nat.le_of_ble_eq_true rfl, Nat.le_of_ble_eq_true rfl⟩ rfl rfl ⟨Nat.le_refl _, Nat.le_refl _⟩ rfl (fun _ h => k_X4_goal E sv a1 M h) (fun r46 => ?_)
          refine zm_goto 54 (by decide) dX10_then_49 ?_
          exact zm_iret dX10_then_54 rfl (Nat.le_refl _) (Nat.le_refl _) rfl
      · refine zm_iconst 20 rfl dX10_then_19 zi_m1 ?_
        exact zm_iret dX10_then_20 rfl (Nat.le_refl _) (Nat.le_refl _) rfl
abbrev Y_X10_times : zm_Y := (cX10_times, 9, RX10, { frames := 3, cells := 0, slots := 0, locals := 65 }, (some .int), false, "times")
noncomputable def f_X10_times_b119_75 (l75_7 : Int32) (b119_6 : Int32) : Option ((Int32 × Int32) ⊕ Int32) :=
 zm_v (l75_7 + 1) <| fun x119 => some (.inl (b119_6, x119))
noncomputable def f_X10_times_b108_75 (a3 : Int32) (l75_6 : Int32) (l75_7 : Int32) (b108_s0 : Int32) : Option ((Int32 × Int32) ⊕ Int32) :=
 if a3 < b108_s0 then (f_X10_times_b119_75 l75_7 l75_6) else (zm_v (l75_6 + 1) <| fun x116 => f_X10_times_b119_75 l75_7 x116)
noncomputable def f_X10_times_l75 (a3 : Int32) (a4 : Int32) (r64 : Int32) (M64 : zm_Mem) (l75_6 : Int32) (l75_7 : Int32) : Option ((Int32 × Int32) ⊕ Int32) :=
 if a4 ≤ l75_7 then (some (.inr l75_6)) else (zm_v (M64.2.2 1 9) <| fun t84 => zm_ck (zm_isT t84) <| zm_b1 (f_X10_isLate ((M64.1 t84 18) + l75_7) M64) <| fun r93 => if r93 = 0 then (f_X10_times_b108_75 a3 l75_6 l75_7 r64) else (f_X10_times_b108_75 a3 l75_6 l75_7 (r64 + 5)))
noncomputable def f_X10_times (a1 : Int32) (a2 : Int32) (a3 : Int32) (a4 : Int32) (M : zm_Mem) : Option (Int32 × zm_Mem) :=
  zm_b1 (f_X10_isWork a1 M) <| fun r2 => if r2 = 0 then (some ((-1), M)) else (zm_b1 (f_X10_isHouse a2 M) <| fun r10 => if r10 = 0 then (some ((-1), M)) else (if a3 < 0 then (some ((-1), M)) else (if (200 : Int32) < a3 then (some ((-1), M)) else (if a4 < (1 : Int32) then (some ((-1), M)) else (if a4 ≤ (20 : Int32) then (zm_b1 (f_X10_canBeSent a1 a2 M) <| fun r45 => if r45 = 0 then (some ((-2), M)) else (zm_b2 (f_X10_lookToday M) <| fun _ M55 => zm_b2 (f_X3_journey a1 a2 M55) <| fun r64 M64 => (zm_lp (fun s => f_X10_times_l75 a3 a4 r64 M64 s.1 s.2) (0, 0)).bind (fun e125 => some (e125, M64)))) else (some ((-1), M)))))))
set_option maxRecDepth 20000 in
set_option maxHeartbeats 4000000 in
theorem k_X10_times (E : zm_E) (sv : Nat) (a1 : Int32) (a2 : Int32) (a3 : Int32) (a4 : Int32) (M : zm_Mem) {r : Int32} {M' : zm_Mem} (h : f_X10_times a1 a2 a3 a4 M = some (r, M')) : zm_Ct E (zm_w sv) (zm_w sv) yX10_times Y_X10_times [.ref (E.2.1 + 1), .int a1, .int a2, .int a3, .int a4] M (some (.int r)) M' := by
  refine zm_meth (emb := zm_ei) (d := f_X10_times a1 a2 a3 a4 M) (by decide) rfl rfl (Nat.le_of_ble_eq_true rfl) h (fun X => ?_)
  show zm_V X Y_X10_times E (zm_Q X E Y_X10_times.2.2.2.1.cells Y_X10_times.2.2.2.1.slots (zm_w sv) zm_ei) 0 0 false (zm_w sv) 0 [(0, .ref (E.2.1 + 1)), (1, .int a1), (2, .int a2), (3, .int a3), (4, .int a4)] [] M (f_X10_times a1 a2 a3 a4 M) some
  unfold f_X10_times
  refine zm_aload_n 1 rfl dX10_times_0 rfl 0 rfl ?_
  refine zm_iload_n 2 rfl dX10_times_1 rfl 1 rfl ?_
  refine zm_cV1ir 5 rfl dX10_times_2 ml_X10_121 rfl (zm_L (sv := sv) rfl) rfl (Nat.le_of_ble_eq_true rfl) ⟨Nat.le_of_ble_eq_true rfl, Nat.le_of_ble_eq_true rfl⟩ rfl rfl ⟨Nat.le_refl _, Nat.le_refl _⟩ rfl (fun _ h => k_X10_isWork E sv a1 M h) (fun r2 => ?_)
  refine zm_if_eq 40 8 (by decide) rfl dX10_times_5 ?_ ?_
  · refine zm_iconst 41 rfl dX10_times_40 zi_m1 ?_
    exact zm_iret dX10_times_41 rfl (Nat.le_refl _) (Nat.le_refl _) rfl
  · refine zm_aload_n 9 rfl dX10_times_8 rfl 0 rfl ?_
    refine zm_iload_n 10 rfl dX10_times_9 rfl 2 rfl ?_
    refine zm_cV1ir 13 rfl dX10_times_10 ml_X10_101 rfl (zm_L (sv := sv) rfl) rfl (Nat.le_of_ble_eq_true rfl) ⟨Nat.le_of_ble_eq_true rfl, Nat.le_of_ble_eq_true rfl⟩ rfl rfl ⟨Nat.le_refl _, Nat.le_refl _⟩ rfl (fun _ h => k_X10_isHouse E sv a2 M h) (fun r10 => ?_)
    refine zm_if_eq 40 16 (by decide) rfl dX10_times_13 ?_ ?_
    · refine zm_iconst 41 rfl dX10_times_40 zi_m1 ?_
      exact zm_iret dX10_times_41 rfl (Nat.le_refl _) (Nat.le_refl _) rfl
    · refine zm_iload_n 17 rfl dX10_times_16 rfl 3 rfl ?_
      refine zm_if_lt 40 20 (by decide) rfl dX10_times_17 ?_ ?_
      · refine zm_iconst 41 rfl dX10_times_40 zi_m1 ?_
        exact zm_iret dX10_times_41 rfl (Nat.le_refl _) (Nat.le_refl _) rfl
      · refine zm_iload_n 21 rfl dX10_times_20 rfl 3 rfl ?_
        refine zm_sipush 24 rfl dX10_times_21 zs_200 ?_
        refine zm_icmp_gt 40 27 (by decide) rfl dX10_times_24 ?_ ?_
        · refine zm_iconst 41 rfl dX10_times_40 zi_m1 ?_
          exact zm_iret dX10_times_41 rfl (Nat.le_refl _) (Nat.le_refl _) rfl
        · refine zm_iload 29 rfl dX10_times_27 4 rfl ?_
          refine zm_iconst 30 rfl dX10_times_29 zi_1 ?_
          refine zm_icmp_lt 40 33 (by decide) rfl dX10_times_30 ?_ ?_
          · refine zm_iconst 41 rfl dX10_times_40 zi_m1 ?_
            exact zm_iret dX10_times_41 rfl (Nat.le_refl _) (Nat.le_refl _) rfl
          · refine zm_iload 35 rfl dX10_times_33 4 rfl ?_
            refine zm_bipush 37 rfl dX10_times_35 zb_20 ?_
            refine zm_icmp_le 42 40 (by decide) rfl dX10_times_37 ?_ ?_
            · refine zm_aload_n 43 rfl dX10_times_42 rfl 0 rfl ?_
              refine zm_iload_n 44 rfl dX10_times_43 rfl 1 rfl ?_
              refine zm_iload_n 45 rfl dX10_times_44 rfl 2 rfl ?_
              refine zm_cV2ir 48 rfl dX10_times_45 ml_X10_173 rfl (zm_L (sv := sv) rfl) rfl (Nat.le_of_ble_eq_true rfl) ⟨Nat.le_of_ble_eq_true rfl, Nat.le_of_ble_eq_true rfl⟩ rfl rfl ⟨Nat.le_refl _, Nat.le_refl _⟩ rfl (fun _ h => k_X10_canBeSent E sv a1 a2 M h) (fun r45 => ?_)
              refine zm_if_ne 54 51 (by decide) rfl dX10_times_48 ?_ ?_
              · refine zm_bipush 53 rfl dX10_times_51 zb_m2 ?_
                exact zm_iret dX10_times_53 rfl (Nat.le_refl _) (Nat.le_refl _) rfl
              · refine zm_aload_n 55 rfl dX10_times_54 rfl 0 rfl ?_
                refine zm_cV0v 58 rfl dX10_times_55 ml_X10_151 rfl (zm_L (sv := sv) rfl) rfl (Nat.le_of_ble_eq_true rfl) ⟨Nat.le_of_ble_eq_true rfl, Nat.le_of_ble_eq_true rfl⟩ rfl rfl ⟨Nat.le_refl _, Nat.le_refl _⟩ rfl (fun _ _ h => k_X10_lookToday E sv M h) (fun _ M55 => ?_)
                refine zm_aload_n 59 rfl dX10_times_58 rfl 0 rfl ?_
                refine zm_getR (a := 47) 62 rfl dX10_times_59 fl_X10_76 rfl (zm_L (sv := sv) rfl) rfl (by decide) ?_
                refine zm_iload_n 63 rfl dX10_times_62 rfl 1 rfl ?_
                refine zm_iload_n 64 rfl dX10_times_63 rfl 2 rfl ?_
                refine zm_cV2i 67 rfl dX10_times_64 ml_X10_169 rfl (zm_L (sv := sv) rfl) rfl (Nat.le_of_ble_eq_true rfl) ⟨Nat.le_of_ble_eq_true rfl, Nat.le_of_ble_eq_true rfl⟩ rfl rfl ⟨Nat.le_refl _, Nat.le_refl _⟩ rfl (fun _ _ h => k_X3_journey E sv a1 a2 M55 h) (fun r64 M64 => ?_)
                refine zm_istore (lv' := [(5, .int r64), (0, .ref (E.2.1 + 1)), (1, .int a1), (2, .int a2), (3, .int a3), (4, .int a4)]) 69 rfl dX10_times_67 (by decide) rfl ?_
                refine zm_iconst 70 rfl dX10_times_69 zi_0 ?_
                refine zm_istore (lv' := [(6, .int 0), (5, .int r64), (0, .ref (E.2.1 + 1)), (1, .int a1), (2, .int a2), (3, .int a3), (4, .int a4)]) 72 rfl dX10_times_70 (by decide) rfl ?_
                refine zm_iconst 73 rfl dX10_times_72 zi_0 ?_
                refine zm_istore (lv' := [(7, .int 0), (6, .int 0), (5, .int r64), (0, .ref (E.2.1 + 1)), (1, .int a1), (2, .int a2), (3, .int a3), (4, .int a4)]) 75 rfl dX10_times_73 (by decide) rfl ?_
                have hx125_75 : ∀ (e125_6 : Int32), zm_V X Y_X10_times E (zm_Q X E Y_X10_times.2.2.2.1.cells Y_X10_times.2.2.2.1.slots (zm_w sv) zm_ei) 0 0 false (zm_w sv) 125 [(6, .int e125_6)] [] M64 (some (e125_6, M64)) some := by
                  intro e125_6
                  refine zm_iload 127 rfl dX10_times_125 0 rfl ?_
                  exact zm_iret dX10_times_127 rfl (Nat.le_refl _) (Nat.le_refl _) rfl
                refine zm_loc [3, 6, 7, 2, 1, 0] rfl (zm_lpp (σ := (Int32 × Int32)) (ε := Int32) (step := fun s => f_X10_times_l75 a3 a4 r64 M64 s.1 s.2) (fun s => [(0, .ref (E.2.1 + 1)), (3, .int a3), (4, .int a4), (5, .int r64), (6, .int s.1), (7, .int s.2)]) (fun _ => M64) (fun D75 f75 hf75a hf75b hD75 s => ?_) (0, 0))
                obtain ⟨l75_6, l75_7⟩ := s
                show zm_V X Y_X10_times E (zm_Q X E Y_X10_times.2.2.2.1.cells Y_X10_times.2.2.2.1.slots (zm_w sv) zm_ei) 0 0 false (zm_w sv) 75 [(0, .ref (E.2.1 + 1)), (3, .int a3), (4, .int a4), (5, .int r64), (6, .int l75_6), (7, .int l75_7)] [] M64 (f_X10_times_l75 a3 a4 r64 M64 l75_6 l75_7) f75
                unfold f_X10_times_l75
                refine zm_iload 77 rfl dX10_times_75 5 rfl ?_
                refine zm_iload 79 rfl dX10_times_77 2 rfl ?_
                refine zm_icmp_ge 125 82 (by decide) rfl dX10_times_79 ?_ ?_
                · exact zm_loc [4] rfl (zm_go (hf75b _) (zm_unb (hx125_75 l75_6)))
                · refine zm_aload_n 83 rfl dX10_times_82 rfl 0 rfl ?_
                  refine zm_aload_n 84 rfl dX10_times_83 rfl 0 rfl ?_
                  refine zm_getT 87 rfl dX10_times_84 fl_X10_60 rfl (zm_L (sv := sv) rfl) (fun t84 _ ht84 => ?_)
                  refine zm_getI 90 rfl dX10_times_87 fl_X10_176 (zm_T_o ht84) (zm_T_l0 (sv := sv) ht84) ?_
                  refine zm_iload 92 rfl dX10_times_90 5 rfl ?_
                  refine zm_iadd 93 rfl dX10_times_92 ?_
                  refine zm_cV1ir 96 rfl dX10_times_93 ml_X10_179 rfl (zm_L (sv := sv) rfl) rfl (Nat.le_of_ble_eq_true rfl) ⟨Nat.le_of_ble_eq_true rfl, Nat.le_of_ble_eq_true rfl⟩ rfl rfl ⟨Nat.le_refl _, Nat.le_refl _⟩ rfl (fun _ h => k_X10_isLate E sv ((M64.1 t84 18) + l75_7) M64 h) (fun r93 => ?_)
                  have hb108_75 : ∀ (b108_s0 : Int32), zm_V X Y_X10_times E (zm_Q X E Y_X10_times.2.2.2.1.cells Y_X10_times.2.2.2.1.slots (zm_w sv) zm_ei) 0 0 false (zm_w sv) 108 [(0, .ref (E.2.1 + 1)), (3, .int a3), (4, .int a4), (5, .int r64), (6, .int l75_6), (7, .int l75_7)] [.int b108_s0] M64 (f_X10_times_b108_75 a3 l75_6 l75_7 b108_s0) f75 := by
                    intro b108_s0
                    unfold f_X10_times_b108_75
                    refine zm_istore (lv' := [(8, .int b108_s0), (0, .ref (E.2.1 + 1)), (3, .int a3), (4, .int a4), (5, .int r64), (6, .int l75_6), (7, .int l75_7)]) 110 rfl dX10_times_108 (by decide) rfl ?_
                    refine zm_iload 112 rfl dX10_times_110 0 rfl ?_
                    refine zm_iload_n 113 rfl dX10_times_112 rfl 2 rfl ?_
                    have hb119_75 : ∀ (b119_6 : Int32), zm_V X Y_X10_times E (zm_Q X E Y_X10_times.2.2.2.1.cells Y_X10_times.2.2.2.1.slots (zm_w sv) zm_ei) 0 0 false (zm_w sv) 119 [(0, .ref (E.2.1 + 1)), (3, .int a3), (4, .int a4), (5, .int r64), (6, .int b119_6), (7, .int l75_7)] [] M64 (f_X10_times_b119_75 l75_7 b119_6) f75 := by
                      intro b119_6
                      unfold f_X10_times_b119_75
                      refine zm_iinc (lv' := fun z => [(7, .int z), (0, .ref (E.2.1 + 1)), (3, .int a3), (4, .int a4), (5, .int r64), (6, .int b119_6)]) 122 rfl dX10_times_119 zi_1 5 rfl (by decide) (fun _ => rfl) (fun x119 _ => ?_)
                      refine zm_goto 75 (by decide) dX10_times_122 ?_
                      exact zm_loc [1, 2, 3, 4, 5, 0] rfl (zm_go (hf75a _) (hD75 (b119_6, x119)))
                    refine zm_icmp_gt 119 116 (by decide) rfl dX10_times_113 ?_ ?_
                    · exact zm_loc [1, 2, 3, 4, 5, 6] rfl (hb119_75 l75_6)
                    · refine zm_iinc (lv' := fun z => [(6, .int z), (8, .int b108_s0), (0, .ref (E.2.1 + 1)), (3, .int a3), (4, .int a4), (5, .int r64), (7, .int l75_7)]) 119 rfl dX10_times_116 zi_1 5 rfl (by decide) (fun _ => rfl) (fun x116 _ => ?_)
                      exact zm_loc [2, 3, 4, 5, 0, 6] rfl (hb119_75 x116)
                  refine zm_if_eq 106 99 (by decide) rfl dX10_times_96 ?_ ?_
                  · refine zm_iload 108 rfl dX10_times_106 3 rfl ?_
                    exact zm_loc [0, 1, 2, 3, 4, 5] rfl (hb108_75 r64)
                  · refine zm_iload 101 rfl dX10_times_99 3 rfl ?_
                    refine zm_iconst 102 rfl dX10_times_101 zi_5 ?_
                    refine zm_iadd 103 rfl dX10_times_102 ?_
                    refine zm_goto 108 (by decide) dX10_times_103 ?_
                    exact zm_loc [0, 1, 2, 3, 4, 5] rfl (hb108_75 (r64 + 5))
            · refine zm_iconst 41 rfl dX10_times_40 zi_m1 ?_
              exact zm_iret dX10_times_41 rfl (Nat.le_refl _) (Nat.le_refl _) rfl
abbrev Y_X10_owes : zm_Y := (cX10_owes, 5, RX10, { frames := 1, cells := 0, slots := 0, locals := 21 }, (some .int), false, "owes")
noncomputable def f_X10_owes_b74_28 (l28_4 : Int32) (b74_3 : Int32) : Option ((Int32 × Int32) ⊕ Int32) :=
 zm_v (l28_4 + 1) <| fun x74 => some (.inl (b74_3, x74))
noncomputable def f_X10_owes_l28 (a1 : Int32) (a2 : Int32) (M : zm_Mem) (l28_3 : Int32) (l28_4 : Int32) : Option ((Int32 × Int32) ⊕ Int32) :=
 zm_v (M.2.2 1 9) <| fun t31 => zm_ck (zm_isT t31) <| if (M.1 t31 12) ≤ l28_4 then (some (.inr l28_3)) else (zm_v (M.2.2 1 9) <| fun t41 => zm_ck (zm_isT t41) <| zm_ck (zm_in l28_4 6) <| if (M.1 (t41 + 3) l28_4.toNatClampNeg) = a2 then (zm_b1 (f_X4_goal l28_4 M) <| fun r60 => if r60 = a1 then (zm_v (l28_3 ||| ((1 : Int32) <<< (l28_4 &&& 31))) <| fun x73 => f_X10_owes_b74_28 l28_4 x73) else (f_X10_owes_b74_28 l28_4 l28_3)) else (f_X10_owes_b74_28 l28_4 l28_3))
noncomputable def f_X10_owes (a1 : Int32) (a2 : Int32) (M : zm_Mem) : Option Int32 :=
  zm_b1 (f_X10_isHouse a1 M) <| fun r2 => if r2 = 0 then (some (-1)) else (zm_b1 (f_X10_isHouse a2 M) <| fun r10 => if r10 = 0 then (some (-1)) else (if a1 = a2 then (some (-1)) else ((zm_lp (fun s => f_X10_owes_l28 a1 a2 M s.1 s.2) (0, 0)).bind (fun e80 => some e80))))
set_option maxRecDepth 20000 in
set_option maxHeartbeats 4000000 in
theorem k_X10_owes (E : zm_E) (sv : Nat) (a1 : Int32) (a2 : Int32) (M : zm_Mem) {r : Int32} (h : f_X10_owes a1 a2 M = some r) : zm_Ct E (zm_w sv) (zm_w sv) yX10_owes Y_X10_owes [.ref (E.2.1 + 1), .int a1, .int a2] M (some (.int r)) M := by
  refine zm_methr (emb := zm_ei) (d := f_X10_owes a1 a2 M) (by decide) rfl rfl (Nat.le_of_ble_eq_true rfl) h (fun X => ?_)
  show zm_V X Y_X10_owes E (zm_Q X E Y_X10_owes.2.2.2.1.cells Y_X10_owes.2.2.2.1.slots (zm_w sv) zm_ei) 0 0 false (zm_w sv) 0 [(0, .ref (E.2.1 + 1)), (1, .int a1), (2, .int a2)] [] M (f_X10_owes a1 a2 M) (fun r => some (r, M))
  unfold f_X10_owes
  refine zm_aload_n 1 rfl dX10_owes_0 rfl 0 rfl ?_
  refine zm_iload_n 2 rfl dX10_owes_1 rfl 1 rfl ?_
  refine zm_cV1ir 5 rfl dX10_owes_2 ml_X10_101 rfl (zm_L (sv := sv) rfl) rfl (Nat.le_of_ble_eq_true rfl) ⟨Nat.le_of_ble_eq_true rfl, Nat.le_of_ble_eq_true rfl⟩ rfl rfl ⟨Nat.le_refl _, Nat.le_refl _⟩ rfl (fun _ h => k_X10_isHouse E sv a1 M h) (fun r2 => ?_)
  refine zm_if_eq 21 8 (by decide) rfl dX10_owes_5 ?_ ?_
  · refine zm_iconst 22 rfl dX10_owes_21 zi_m1 ?_
    exact zm_iret dX10_owes_22 rfl (Nat.le_refl _) (Nat.le_refl _) rfl
  · refine zm_aload_n 9 rfl dX10_owes_8 rfl 0 rfl ?_
    refine zm_iload_n 10 rfl dX10_owes_9 rfl 2 rfl ?_
    refine zm_cV1ir 13 rfl dX10_owes_10 ml_X10_101 rfl (zm_L (sv := sv) rfl) rfl (Nat.le_of_ble_eq_true rfl) ⟨Nat.le_of_ble_eq_true rfl, Nat.le_of_ble_eq_true rfl⟩ rfl rfl ⟨Nat.le_refl _, Nat.le_refl _⟩ rfl (fun _ h => k_X10_isHouse E sv a2 M h) (fun r10 => ?_)
    refine zm_if_eq 21 16 (by decide) rfl dX10_owes_13 ?_ ?_
    · refine zm_iconst 22 rfl dX10_owes_21 zi_m1 ?_
      exact zm_iret dX10_owes_22 rfl (Nat.le_refl _) (Nat.le_refl _) rfl
    · refine zm_iload_n 17 rfl dX10_owes_16 rfl 1 rfl ?_
      refine zm_iload_n 18 rfl dX10_owes_17 rfl 2 rfl ?_
      refine zm_icmp_ne 23 21 (by decide) rfl dX10_owes_18 ?_ ?_
      · refine zm_iconst 22 rfl dX10_owes_21 zi_m1 ?_
        exact zm_iret dX10_owes_22 rfl (Nat.le_refl _) (Nat.le_refl _) rfl
      · refine zm_iconst 24 rfl dX10_owes_23 zi_0 ?_
        refine zm_istore_n (lv' := [(3, .int 0), (0, .ref (E.2.1 + 1)), (1, .int a1), (2, .int a2)]) 25 rfl dX10_owes_24 rfl (by decide) rfl ?_
        refine zm_iconst 26 rfl dX10_owes_25 zi_0 ?_
        refine zm_istore (lv' := [(4, .int 0), (3, .int 0), (0, .ref (E.2.1 + 1)), (1, .int a1), (2, .int a2)]) 28 rfl dX10_owes_26 (by decide) rfl ?_
        have hx80_28 : ∀ (e80_3 : Int32), zm_V X Y_X10_owes E (zm_Q X E Y_X10_owes.2.2.2.1.cells Y_X10_owes.2.2.2.1.slots (zm_w sv) zm_ei) 0 0 false (zm_w sv) 80 [(3, .int e80_3)] [] M (some e80_3) (fun r => some (r, M)) := by
          intro e80_3
          refine zm_iload_n 81 rfl dX10_owes_80 rfl 0 rfl ?_
          exact zm_iret dX10_owes_81 rfl (Nat.le_refl _) (Nat.le_refl _) rfl
        refine zm_loc [2, 3, 4, 1, 0] rfl (zm_lpp (σ := (Int32 × Int32)) (ε := Int32) (step := fun s => f_X10_owes_l28 a1 a2 M s.1 s.2) (fun s => [(0, .ref (E.2.1 + 1)), (1, .int a1), (2, .int a2), (3, .int s.1), (4, .int s.2)]) (fun _ => M) (fun D28 f28 hf28a hf28b hD28 s => ?_) (0, 0))
        obtain ⟨l28_3, l28_4⟩ := s
        show zm_V X Y_X10_owes E (zm_Q X E Y_X10_owes.2.2.2.1.cells Y_X10_owes.2.2.2.1.slots (zm_w sv) zm_ei) 0 0 false (zm_w sv) 28 [(0, .ref (E.2.1 + 1)), (1, .int a1), (2, .int a2), (3, .int l28_3), (4, .int l28_4)] [] M (f_X10_owes_l28 a1 a2 M l28_3 l28_4) f28
        unfold f_X10_owes_l28
        refine zm_iload 30 rfl dX10_owes_28 4 rfl ?_
        refine zm_aload_n 31 rfl dX10_owes_30 rfl 0 rfl ?_
        refine zm_getT 34 rfl dX10_owes_31 fl_X10_60 rfl (zm_L (sv := sv) rfl) (fun t31 _ ht31 => ?_)
        refine zm_getI 37 rfl dX10_owes_34 fl_X10_236 (zm_T_o ht31) (zm_T_l0 (sv := sv) ht31) ?_
        refine zm_icmp_ge 80 40 (by decide) rfl dX10_owes_37 ?_ ?_
        · exact zm_loc [3] rfl (zm_go (hf28b _) (zm_unb (hx80_28 l28_3)))
        · refine zm_aload_n 41 rfl dX10_owes_40 rfl 0 rfl ?_
          refine zm_getT 44 rfl dX10_owes_41 fl_X10_60 rfl (zm_L (sv := sv) rfl) (fun t41 _ ht41 => ?_)
          refine zm_getR (a := t41 + 3) 47 rfl dX10_owes_44 fl_X10_127 (zm_T_o ht41) (zm_T_l0 (sv := sv) ht41) (zm_T_r ht41 2 (by decide)) (Nat.succ_ne_zero _) ?_
          refine zm_iload 49 rfl dX10_owes_47 4 rfl ?_
          refine zm_iald 50 rfl dX10_owes_49 (zm_T_a ht41 3 (by decide)) (zm_T_l (sv := sv) ht41 3 (by decide)) ?_
          refine zm_iload_n 51 rfl dX10_owes_50 rfl 2 rfl ?_
          have hb74_28 : ∀ (b74_3 : Int32), zm_V X Y_X10_owes E (zm_Q X E Y_X10_owes.2.2.2.1.cells Y_X10_owes.2.2.2.1.slots (zm_w sv) zm_ei) 0 0 false (zm_w sv) 74 [(0, .ref (E.2.1 + 1)), (1, .int a1), (2, .int a2), (3, .int b74_3), (4, .int l28_4)] [] M (f_X10_owes_b74_28 l28_4 b74_3) f28 := by
            intro b74_3
            unfold f_X10_owes_b74_28
            refine zm_iinc (lv' := fun z => [(4, .int z), (0, .ref (E.2.1 + 1)), (1, .int a1), (2, .int a2), (3, .int b74_3)]) 77 rfl dX10_owes_74 zi_1 4 rfl (by decide) (fun _ => rfl) (fun x74 _ => ?_)
            refine zm_goto 28 (by decide) dX10_owes_77 ?_
            exact zm_loc [1, 2, 3, 4, 0] rfl (zm_go (hf28a _) (hD28 (b74_3, x74)))
          refine zm_icmp_ne 74 54 (by decide) rfl dX10_owes_51 ?_ ?_
          · refine zm_aload_n 55 rfl dX10_owes_54 rfl 0 rfl ?_
            refine zm_getR (a := 11) 58 rfl dX10_owes_55 fl_X10_32 rfl (zm_L (sv := sv) rfl) rfl (by decide) ?_
            refine zm_iload 60 rfl dX10_owes_58 4 rfl ?_
            refine zm_cV1ir 63 rfl dX10_owes_60 ml_X10_130 rfl (zm_L (sv := sv) rfl) rfl (Nat.le_of_ble_eq_true rfl) ⟨Nat.le_of_ble_eq_true rfl, Nat.le_of_ble_eq_true rfl⟩ rfl rfl ⟨Nat.le_refl _, Nat.le_refl _⟩ rfl (fun _ h => k_X4_goal E sv l28_4 M h) (fun r60 => ?_)
            refine zm_iload_n 64 rfl dX10_owes_63 rfl 1 rfl ?_
            refine zm_icmp_ne 74 67 (by decide) rfl dX10_owes_64 ?_ ?_
            · refine zm_iload_n 68 rfl dX10_owes_67 rfl 3 rfl ?_
              refine zm_iconst 69 rfl dX10_owes_68 zi_1 ?_
              refine zm_iload 71 rfl dX10_owes_69 4 rfl ?_
              refine zm_ishl 72 rfl dX10_owes_71 ?_
              refine zm_ior 73 rfl dX10_owes_72 ?_
              refine zm_nmi (fun x73 _ => ?_)
              refine zm_istore_n (lv' := [(3, .int x73), (0, .ref (E.2.1 + 1)), (1, .int a1), (2, .int a2), (4, .int l28_4)]) 74 rfl dX10_owes_73 rfl (by decide) rfl ?_
              exact zm_loc [1, 2, 3, 0, 4] rfl (hb74_28 x73)
            · exact zm_loc [0, 1, 2, 3, 4] rfl (hb74_28 l28_3)
          · exact zm_loc [0, 1, 2, 3, 4] rfl (hb74_28 l28_3)
abbrev Y_X10_valueIn : zm_Y := (cX10_valueIn, 4, RX10, { frames := 3, cells := 0, slots := 0, locals := 64 }, (some .int), false, "valueIn")
noncomputable def f_X10_valueIn_b39_4 (l4_3 : Int32) (b39_2 : Int32) : Option ((Int32 × Int32) ⊕ Int32) :=
 zm_v (l4_3 + 1) <| fun x39 => some (.inl (b39_2, x39))
noncomputable def f_X10_valueIn_l4 (a1 : Int32) (M : zm_Mem) (l4_2 : Int32) (l4_3 : Int32) : Option ((Int32 × Int32) ⊕ Int32) :=
 zm_v (M.2.2 1 9) <| fun t6 => zm_ck (zm_isT t6) <| if (M.1 t6 12) ≤ l4_3 then (some (.inr l4_2)) else (zm_b1 (f_X4_isIn l4_3 a1 M) <| fun r21 => if r21 = 0 then (f_X10_valueIn_b39_4 l4_3 l4_2) else (zm_v (M.2.2 1 9) <| fun t29 => zm_ck (zm_isT t29) <| zm_ck (zm_in l4_3 6) <| zm_v (l4_2 + (M.1 (t29 + 6) l4_3.toNatClampNeg)) <| fun x38 => f_X10_valueIn_b39_4 l4_3 x38))
noncomputable def f_X10_valueIn (a1 : Int32) (M : zm_Mem) : Option Int32 :=
  (zm_lp (fun s => f_X10_valueIn_l4 a1 M s.1 s.2) (0, 0)).bind (fun e45 => some e45)
set_option maxRecDepth 20000 in
set_option maxHeartbeats 4000000 in
theorem k_X10_valueIn (E : zm_E) (sv : Nat) (a1 : Int32) (M : zm_Mem) {r : Int32} (h : f_X10_valueIn a1 M = some r) : zm_Ct E (zm_w sv) (zm_w sv) yX10_valueIn Y_X10_valueIn [.ref (E.2.1 + 1), .int a1] M (some (.int r)) M := by
  refine zm_methr (emb := zm_ei) (d := f_X10_valueIn a1 M) (by decide) rfl rfl (Nat.le_of_ble_eq_true rfl) h (fun X => ?_)
  show zm_V X Y_X10_valueIn E (zm_Q X E Y_X10_valueIn.2.2.2.1.cells Y_X10_valueIn.2.2.2.1.slots (zm_w sv) zm_ei) 0 0 false (zm_w sv) 0 [(0, .ref (E.2.1 + 1)), (1, .int a1)] [] M (f_X10_valueIn a1 M) (fun r => some (r, M))
  unfold f_X10_valueIn
  refine zm_iconst 1 rfl dX10_valueIn_0 zi_0 ?_
  refine zm_istore_n (lv' := [(2, .int 0), (0, .ref (E.2.1 + 1)), (1, .int a1)]) 2 rfl dX10_valueIn_1 rfl (by decide) rfl ?_
  refine zm_iconst 3 rfl dX10_valueIn_2 zi_0 ?_
  refine zm_istore_n (lv' := [(3, .int 0), (2, .int 0), (0, .ref (E.2.1 + 1)), (1, .int a1)]) 4 rfl dX10_valueIn_3 rfl (by decide) rfl ?_
  have hx45_4 : ∀ (e45_2 : Int32), zm_V X Y_X10_valueIn E (zm_Q X E Y_X10_valueIn.2.2.2.1.cells Y_X10_valueIn.2.2.2.1.slots (zm_w sv) zm_ei) 0 0 false (zm_w sv) 45 [(2, .int e45_2)] [] M (some e45_2) (fun r => some (r, M)) := by
    intro e45_2
    refine zm_iload_n 46 rfl dX10_valueIn_45 rfl 0 rfl ?_
    exact zm_iret dX10_valueIn_46 rfl (Nat.le_refl _) (Nat.le_refl _) rfl
  refine zm_loc [2, 3, 1, 0] rfl (zm_lpp (σ := (Int32 × Int32)) (ε := Int32) (step := fun s => f_X10_valueIn_l4 a1 M s.1 s.2) (fun s => [(0, .ref (E.2.1 + 1)), (1, .int a1), (2, .int s.1), (3, .int s.2)]) (fun _ => M) (fun D4 f4 hf4a hf4b hD4 s => ?_) (0, 0))
  obtain ⟨l4_2, l4_3⟩ := s
  show zm_V X Y_X10_valueIn E (zm_Q X E Y_X10_valueIn.2.2.2.1.cells Y_X10_valueIn.2.2.2.1.slots (zm_w sv) zm_ei) 0 0 false (zm_w sv) 4 [(0, .ref (E.2.1 + 1)), (1, .int a1), (2, .int l4_2), (3, .int l4_3)] [] M (f_X10_valueIn_l4 a1 M l4_2 l4_3) f4
  unfold f_X10_valueIn_l4
  refine zm_iload_n 5 rfl dX10_valueIn_4 rfl 3 rfl ?_
  refine zm_aload_n 6 rfl dX10_valueIn_5 rfl 0 rfl ?_
  refine zm_getT 9 rfl dX10_valueIn_6 fl_X10_60 rfl (zm_L (sv := sv) rfl) (fun t6 _ ht6 => ?_)
  refine zm_getI 12 rfl dX10_valueIn_9 fl_X10_236 (zm_T_o ht6) (zm_T_l0 (sv := sv) ht6) ?_
  refine zm_icmp_ge 45 15 (by decide) rfl dX10_valueIn_12 ?_ ?_
  · exact zm_loc [2] rfl (zm_go (hf4b _) (zm_unb (hx45_4 l4_2)))
  · refine zm_aload_n 16 rfl dX10_valueIn_15 rfl 0 rfl ?_
    refine zm_getR (a := 11) 19 rfl dX10_valueIn_16 fl_X10_32 rfl (zm_L (sv := sv) rfl) rfl (by decide) ?_
    refine zm_iload_n 20 rfl dX10_valueIn_19 rfl 3 rfl ?_
    refine zm_iload_n 21 rfl dX10_valueIn_20 rfl 1 rfl ?_
    refine zm_cV2ir 24 rfl dX10_valueIn_21 ml_X10_352 rfl (zm_L (sv := sv) rfl) rfl (Nat.le_of_ble_eq_true rfl) ⟨Nat.le_of_ble_eq_true rfl, Nat.le_of_ble_eq_true rfl⟩ rfl rfl ⟨Nat.le_refl _, Nat.le_refl _⟩ rfl (fun _ h => k_X4_isIn E sv l4_3 a1 M h) (fun r21 => ?_)
    have hb39_4 : ∀ (b39_2 : Int32), zm_V X Y_X10_valueIn E (zm_Q X E Y_X10_valueIn.2.2.2.1.cells Y_X10_valueIn.2.2.2.1.slots (zm_w sv) zm_ei) 0 0 false (zm_w sv) 39 [(0, .ref (E.2.1 + 1)), (1, .int a1), (2, .int b39_2), (3, .int l4_3)] [] M (f_X10_valueIn_b39_4 l4_3 b39_2) f4 := by
      intro b39_2
      unfold f_X10_valueIn_b39_4
      refine zm_iinc (lv' := fun z => [(3, .int z), (0, .ref (E.2.1 + 1)), (1, .int a1), (2, .int b39_2)]) 42 rfl dX10_valueIn_39 zi_1 3 rfl (by decide) (fun _ => rfl) (fun x39 _ => ?_)
      refine zm_goto 4 (by decide) dX10_valueIn_42 ?_
      exact zm_loc [1, 2, 3, 0] rfl (zm_go (hf4a _) (hD4 (b39_2, x39)))
    refine zm_if_eq 39 27 (by decide) rfl dX10_valueIn_24 ?_ ?_
    · exact zm_loc [0, 1, 2, 3] rfl (hb39_4 l4_2)
    · refine zm_iload_n 28 rfl dX10_valueIn_27 rfl 2 rfl ?_
      refine zm_aload_n 29 rfl dX10_valueIn_28 rfl 0 rfl ?_
      refine zm_getT 32 rfl dX10_valueIn_29 fl_X10_60 rfl (zm_L (sv := sv) rfl) (fun t29 _ ht29 => ?_)
      refine zm_getR (a := t29 + 6) 35 rfl dX10_valueIn_32 fl_X10_136 (zm_T_o ht29) (zm_T_l0 (sv := sv) ht29) (zm_T_r ht29 5 (by decide)) (Nat.succ_ne_zero _) ?_
      refine zm_iload_n 36 rfl dX10_valueIn_35 rfl 3 rfl ?_
      refine zm_iald 37 rfl dX10_valueIn_36 (zm_T_a ht29 6 (by decide)) (zm_T_l (sv := sv) ht29 6 (by decide)) ?_
      refine zm_iadd 38 rfl dX10_valueIn_37 ?_
      refine zm_nmi (fun x38 _ => ?_)
      refine zm_istore_n (lv' := [(2, .int x38), (0, .ref (E.2.1 + 1)), (1, .int a1), (3, .int l4_3)]) 39 rfl dX10_valueIn_38 rfl (by decide) rfl ?_
      exact zm_loc [1, 2, 0, 3] rfl (hb39_4 x38)
