def zm_rfA : Nat → Nat → Nat := (zm_ur (zm_ur (zm_ur (zm_ur (zm_ur (zm_ur (zm_ur (zm_ur (zm_ur (zm_ur (zm_ur (zm_ur (zm_ur (zm_ur (zm_ur (zm_ur (zm_ur (zm_ur (zm_ur (zm_ur (zm_ur (zm_ur (zm_ur (zm_ur (zm_ur (zm_ur (zm_ur (zm_ur (zm_ur (zm_ur (zm_ur (zm_ur (zm_ur (zm_ur (zm_ur (zm_ur (zm_ur (zm_ur (zm_ur (zm_ur (zm_ur (zm_ur (zm_ur (zm_ur (zm_ur (zm_ur (zm_ur (zm_ur (zm_ur zm_rf0 1 0 2) 3 0 4) 3 1 5) 3 2 6) 3 3 7) 1 1 3) 8 1 9) 8 2 10) 8 0 3) 1 2 8) 11 0 12) 1 3 11) 13 0 14) 1 4 13) 1 5 15) 16 0 17) 16 1 18) 16 2 19) 16 3 20) 16 4 21) 16 5 22) 16 6 23) 1 6 16) 1 8 24) 25 0 26) 25 1 27) 25 2 28) 25 3 29) 25 4 30) 25 5 31) 25 6 32) 25 7 33) 25 8 34) 25 9 35) 36 0 37) 36 1 38) 36 2 39) 36 3 40) 36 4 41) 36 5 42) 36 6 43) 36 7 44) 36 8 45) 36 9 46) 48 0 49) 48 1 50) 47 0 48) 47 1 51) 1 7 47)
theorem zm_chkA : zm_chk 102 zm_rf (zm_ur (zm_ur (zm_ur (zm_ur (zm_ur (zm_ur (zm_ur (zm_ur (zm_ur (zm_ur (zm_ur (zm_ur (zm_ur (zm_ur (zm_ur (zm_ur (zm_ur (zm_ur (zm_ur (zm_ur (zm_ur (zm_ur (zm_ur (zm_ur (zm_ur (zm_ur (zm_ur (zm_ur (zm_ur (zm_ur (zm_ur (zm_ur (zm_ur (zm_ur (zm_ur (zm_ur (zm_ur (zm_ur (zm_ur (zm_ur (zm_ur (zm_ur (zm_ur (zm_ur (zm_ur (zm_ur (zm_ur (zm_ur (zm_ur (zm_ur zm_rfA 52 1 53) 52 3 54) 52 5 55) 52 6 56) 52 7 57) 52 8 58) 52 9 59) 52 21 60) 52 22 61) 52 23 62) 52 24 63) 52 25 64) 52 26 65) 52 27 66) 52 28 67) 52 29 68) 52 30 69) 52 31 70) 52 32 71) 52 33 72) 52 34 73) 52 35 74) 52 36 75) 52 37 76) 52 38 77) 52 39 78) 52 40 79) 52 41 80) 52 43 81) 52 44 82) 52 45 83) 52 46 84) 52 47 85) 52 49 86) 52 50 87) 52 51 88) 52 53 89) 52 54 90) 52 56 91) 52 57 92) 52 60 93) 52 61 94) 52 62 95) 52 63 96) 52 64 97) 52 66 98) 52 67 99) 52 68 100) 52 69 101) 52 70 102) = true := by decide +kernel
theorem zm_chkB : zm_chk 115 zm_rf (zm_ur (zm_ur (zm_ur (zm_ur (zm_ur (zm_ur (zm_ur (zm_ur (zm_ur (zm_ur (zm_ur (zm_ur zm_rfB 103 1 104) 103 2 105) 103 3 106) 103 4 107) 103 5 108) 103 6 109) 103 7 110) 103 8 111) 103 0 47) 112 0 113) 112 1 114) 112 2 115) = true := by decide +kernel
abbrev Y_X7_init_3 : zm_Y := (cX7_init, 4, RX7, { frames := 5, cells := 4, slots := 1226, locals := 106 }, none, true, "<init>")
noncomputable def f_X7_init_3_b93_43 (l43_2 : Int32) (b93_1 : Int32) (M93 : zm_Mem) : Option ((Int32 × Int32 × zm_Mem) ⊕ zm_Mem) :=
 zm_v (l43_2 + 1) <| fun x93 => some (.inl (b93_1, x93, M93))
noncomputable def f_X7_init_3_l43 (l43_1 : Int32) (l43_2 : Int32) (L43 : zm_Mem) : Option ((Int32 × Int32 × zm_Mem) ⊕ zm_Mem) :=
 zm_b1 (f_J0_length_8abf5_s0 L43) <| fun r46 => if r46 ≤ l43_2 then (some (.inr L43)) else (if (20 : Int32) ≤ l43_1 then (some (.inr L43)) else (zm_b1 (f_J0_charAt_5068e_s0 l43_2 L43) <| fun r61 => if r61 = (32 : Int32) then (zm_v (l43_1 + 1) <| fun x71 => f_X7_init_3_b93_43 l43_2 x71 L43) else (zm_ck (zm_in l43_1 20) <| zm_b1 (f_X7_withLetter (L43.2.1 7 l43_1.toNatClampNeg) r61 L43) <| fun r89 => zm_ck (zm_in l43_1 20) <| zm_v (zm_sL L43 7 l43_1.toNatClampNeg r89) <| fun M92 => f_X7_init_3_b93_43 l43_2 l43_1 M92)))
noncomputable def f_X7_init_3  (M : zm_Mem) : Option (Unit × zm_Mem) :=
  zm_v (zm_zero M 4) <| fun M8 => zm_v (zm_zero M8 5) <| fun M17 => zm_v (zm_zero M17 6) <| fun M26 => zm_v (zm_zero M26 7) <| fun M34 => (zm_lp (fun s => f_X7_init_3_l43 s.1 s.2.1 s.2.2) (0, 0, M34)).bind (fun e99 => some ((), e99))
set_option maxRecDepth 20000 in
set_option maxHeartbeats 4000000 in
theorem k_X7_init_3 (E : zm_E) (rf : Nat → Nat → Nat) (hz : ∀ id j, 3 < id → rf id j = 0)  (M : zm_Mem) {r : Unit} {M' : zm_Mem} (h : f_X7_init_3 M = some (r, M')) : zm_Ct E (3, rf) (7, (zm_ur (zm_ur (zm_ur (zm_ur rf 3 0 4) 3 1 5) 3 2 6) 3 3 7)) yX7_init Y_X7_init_3 [.ref (E.2.1 + 3)] M none M' := by
  refine zm_meth (emb := zm_ev) (d := f_X7_init_3 M) (by decide) rfl rfl (Nat.le_of_ble_eq_true rfl) h (fun X => ?_)
  show zm_V X Y_X7_init_3 E (zm_Q X E Y_X7_init_3.2.2.2.1.cells Y_X7_init_3.2.2.2.1.slots (7, (zm_ur (zm_ur (zm_ur (zm_ur rf 3 0 4) 3 1 5) 3 2 6) 3 3 7)) zm_ev) 0 0 true (3, rf) 0 [(0, .ref (E.2.1 + 3))] [] M (f_X7_init_3 M) some
  unfold f_X7_init_3
  refine zm_aload_n 1 rfl dX7_init_0 rfl 0 rfl ?_
  refine zm_objI 4 rfl dX7_init_1 oi_X7_3 oi_inst oi_code (Nat.le_of_ble_eq_true rfl) (Nat.le_of_ble_eq_true rfl) ?_
  refine zm_aload_n 5 rfl dX7_init_4 rfl 0 rfl ?_
  refine zm_sipush 8 rfl dX7_init_5 zs_402 ?_
  refine zm_newi (id := 4) (N := 402) (kd := 0) (ty := .int) 10 1 402 rfl rfl rfl dX7_init_8 akint rfl rfl rfl (Or.inl ⟨rfl, rfl⟩) (by decide) (by decide) (Nat.le_of_ble_eq_true rfl) (Nat.le_of_ble_eq_true rfl) (Nat.le_of_ble_eq_true rfl) (fun M8 _ => ?_)
  refine zm_putr 13 rfl dX7_init_10 ff_X7_11 rfl rfl ⟨(Nat.le_of_ble_eq_true rfl), (Nat.le_of_ble_eq_true rfl)⟩ (by decide) ?_
  refine zm_aload_n 14 rfl dX7_init_13 rfl 0 rfl ?_
  refine zm_sipush 17 rfl dX7_init_14 zs_402 ?_
  refine zm_newi (id := 5) (N := 402) (kd := 0) (ty := .int) 19 2 804 rfl rfl rfl dX7_init_17 akint rfl rfl rfl (Or.inl ⟨rfl, rfl⟩) (by decide) (by decide) (Nat.le_of_ble_eq_true rfl) (Nat.le_of_ble_eq_true rfl) (Nat.le_of_ble_eq_true rfl) (fun M17 _ => ?_)
  refine zm_putr 22 rfl dX7_init_19 ff_X7_15 rfl rfl ⟨(Nat.le_of_ble_eq_true rfl), (Nat.le_of_ble_eq_true rfl)⟩ (by decide) ?_
  refine zm_aload_n 23 rfl dX7_init_22 rfl 0 rfl ?_
  refine zm_sipush 26 rfl dX7_init_23 zs_402 ?_
  refine zm_newj (id := 6) (N := 402) 28 3 1206 rfl rfl rfl dX7_init_26 aklong rfl rfl rfl (by decide) (by decide) (Nat.le_of_ble_eq_true rfl) (Nat.le_of_ble_eq_true rfl) (Nat.le_of_ble_eq_true rfl) (fun M26 _ => ?_)
  refine zm_putr 31 rfl dX7_init_28 ff_X7_18 rfl rfl ⟨(Nat.le_of_ble_eq_true rfl), (Nat.le_of_ble_eq_true rfl)⟩ (by decide) ?_
  refine zm_aload_n 32 rfl dX7_init_31 rfl 0 rfl ?_
  refine zm_bipush 34 rfl dX7_init_32 zb_20 ?_
  refine zm_newj (id := 7) (N := 20) 36 4 1226 rfl rfl rfl dX7_init_34 aklong rfl rfl rfl (by decide) (by decide) (Nat.le_of_ble_eq_true rfl) (Nat.le_of_ble_eq_true rfl) (Nat.le_of_ble_eq_true rfl) (fun M34 _ => ?_)
  refine zm_putr 39 rfl dX7_init_36 ff_X7_22 rfl rfl ⟨(Nat.le_of_ble_eq_true rfl), (Nat.le_of_ble_eq_true rfl)⟩ (by decide) ?_
  refine zm_iconst 40 rfl dX7_init_39 zi_0 ?_
  refine zm_istore_n (lv' := [(1, .int 0), (0, .ref (E.2.1 + 3))]) 41 rfl dX7_init_40 rfl (by decide) rfl ?_
  refine zm_iconst 42 rfl dX7_init_41 zi_0 ?_
  refine zm_istore_n (lv' := [(2, .int 0), (1, .int 0), (0, .ref (E.2.1 + 3))]) 43 rfl dX7_init_42 rfl (by decide) rfl ?_
  have hx99_43 : ∀ (N99 : zm_Mem), zm_V X Y_X7_init_3 E (zm_Q X E Y_X7_init_3.2.2.2.1.cells Y_X7_init_3.2.2.2.1.slots (7, (zm_ur (zm_ur (zm_ur (zm_ur rf 3 0 4) 3 1 5) 3 2 6) 3 3 7)) zm_ev) 4 1226 true (7, (zm_ur (zm_ur (zm_ur (zm_ur rf 3 0 4) 3 1 5) 3 2 6) 3 3 7)) 99 [] [] N99 (some ((), N99)) some := by
    intro N99
    exact zm_vret dX7_init_99 rfl (Nat.le_of_ble_eq_true rfl) (Nat.le_of_ble_eq_true rfl) rfl
  refine zm_loc [2, 1, 0] rfl (zm_lpp (σ := (Int32 × Int32 × zm_Mem)) (ε := zm_Mem) (step := fun s => f_X7_init_3_l43 s.1 s.2.1 s.2.2) (fun s => [(0, .ref (E.2.1 + 3)), (1, .int s.1), (2, .int s.2.1)]) (fun s => s.2.2) (fun D43 f43 hf43a hf43b hD43 s => ?_) (0, 0, M34))
  obtain ⟨l43_1, l43_2, L43⟩ := s
  show zm_V X Y_X7_init_3 E (zm_Q X E Y_X7_init_3.2.2.2.1.cells Y_X7_init_3.2.2.2.1.slots (7, (zm_ur (zm_ur (zm_ur (zm_ur rf 3 0 4) 3 1 5) 3 2 6) 3 3 7)) zm_ev) 4 1226 true (7, (zm_ur (zm_ur (zm_ur (zm_ur rf 3 0 4) 3 1 5) 3 2 6) 3 3 7)) 43 [(0, .ref (E.2.1 + 3)), (1, .int l43_1), (2, .int l43_2)] [] L43 (f_X7_init_3_l43 l43_1 l43_2 L43) f43
  unfold f_X7_init_3_l43
  refine zm_iload_n 44 rfl dX7_init_43 rfl 2 rfl ?_
  refine zm_ldcS0 46 rfl dX7_init_44 rfl ?_
  refine zm_cT0ir 49 rfl dX7_init_46 ml_X7_27 (i := 0) (by decide) (Nat.le_of_ble_eq_true rfl) ⟨Nat.le_of_ble_eq_true rfl, Nat.le_of_ble_eq_true rfl⟩ rfl rfl ⟨Nat.le_of_ble_eq_true rfl, Nat.le_of_ble_eq_true rfl⟩ rfl (fun _ h => k_J0_length_8abf5_s0 E (7, (zm_ur (zm_ur (zm_ur (zm_ur rf 3 0 4) 3 1 5) 3 2 6) 3 3 7)) L43 h) (fun r46 => ?_)
  refine zm_icmp_ge 99 52 (by decide) rfl dX7_init_49 ?_ ?_
  · exact zm_loc [] rfl (zm_go (hf43b _) (zm_unb (hx99_43 L43)))
  · refine zm_iload_n 53 rfl dX7_init_52 rfl 1 rfl ?_
    refine zm_bipush 55 rfl dX7_init_53 zb_20 ?_
    refine zm_icmp_ge 99 58 (by decide) rfl dX7_init_55 ?_ ?_
    · exact zm_loc [] rfl (zm_go (hf43b _) (zm_unb (hx99_43 L43)))
    · refine zm_ldcS0 60 rfl dX7_init_58 rfl ?_
      refine zm_iload_n 61 rfl dX7_init_60 rfl 2 rfl ?_
      refine zm_cT1ir 64 rfl dX7_init_61 ml_X7_33 (i := 0) (by decide) (Nat.le_of_ble_eq_true rfl) ⟨Nat.le_of_ble_eq_true rfl, Nat.le_of_ble_eq_true rfl⟩ rfl rfl ⟨Nat.le_of_ble_eq_true rfl, Nat.le_of_ble_eq_true rfl⟩ rfl (fun _ h => k_J0_charAt_5068e_s0 E (7, (zm_ur (zm_ur (zm_ur (zm_ur rf 3 0 4) 3 1 5) 3 2 6) 3 3 7)) l43_2 L43 h) (fun r61 => ?_)
      refine zm_istore_n (lv' := [(3, .int r61), (0, .ref (E.2.1 + 3)), (1, .int l43_1), (2, .int l43_2)]) 65 rfl dX7_init_64 rfl (by decide) rfl ?_
      refine zm_iload_n 66 rfl dX7_init_65 rfl 0 rfl ?_
      refine zm_bipush 68 rfl dX7_init_66 zb_32 ?_
      have hb93_43 : ∀ (b93_1 : Int32) (M93 : zm_Mem), zm_V X Y_X7_init_3 E (zm_Q X E Y_X7_init_3.2.2.2.1.cells Y_X7_init_3.2.2.2.1.slots (7, (zm_ur (zm_ur (zm_ur (zm_ur rf 3 0 4) 3 1 5) 3 2 6) 3 3 7)) zm_ev) 4 1226 true (7, (zm_ur (zm_ur (zm_ur (zm_ur rf 3 0 4) 3 1 5) 3 2 6) 3 3 7)) 93 [(0, .ref (E.2.1 + 3)), (1, .int b93_1), (2, .int l43_2)] [] M93 (f_X7_init_3_b93_43 l43_2 b93_1 M93) f43 := by
        intro b93_1 M93
        unfold f_X7_init_3_b93_43
        refine zm_iinc (lv' := fun z => [(2, .int z), (0, .ref (E.2.1 + 3)), (1, .int b93_1)]) 96 rfl dX7_init_93 zi_1 2 rfl (by decide) (fun _ => rfl) (fun x93 _ => ?_)
        refine zm_goto 43 (by decide) dX7_init_96 ?_
        exact zm_loc [1, 2, 0] rfl (zm_go (hf43a _) (hD43 (b93_1, x93, M93)))
      refine zm_icmp_ne 77 71 (by decide) rfl dX7_init_68 ?_ ?_
      · refine zm_iinc (lv' := fun z => [(1, .int z), (3, .int r61), (0, .ref (E.2.1 + 3)), (2, .int l43_2)]) 74 rfl dX7_init_71 zi_1 2 rfl (by decide) (fun _ => rfl) (fun x71 _ => ?_)
        refine zm_goto 93 (by decide) dX7_init_74 ?_
        exact zm_loc [2, 0, 3] rfl (hb93_43 x71 L43)
      · refine zm_aload_n 78 rfl dX7_init_77 rfl 1 rfl ?_
        refine zm_getR (a := 7) 81 rfl dX7_init_78 fl_X7_22 rfl ⟨(Nat.le_of_ble_eq_true rfl), (Nat.le_of_ble_eq_true rfl)⟩ rfl (by decide) ?_
        refine zm_iload_n 82 rfl dX7_init_81 rfl 2 rfl ?_
        refine zm_aload_n 83 rfl dX7_init_82 rfl 1 rfl ?_
        refine zm_getR (a := 7) 86 rfl dX7_init_83 fl_X7_22 rfl ⟨(Nat.le_of_ble_eq_true rfl), (Nat.le_of_ble_eq_true rfl)⟩ rfl (by decide) ?_
        refine zm_iload_n 87 rfl dX7_init_86 rfl 2 rfl ?_
        refine zm_lald 88 rfl dX7_init_87 rfl ⟨(Nat.le_of_ble_eq_true rfl), (Nat.le_of_ble_eq_true rfl)⟩ ?_
        refine zm_iload_n 89 rfl dX7_init_88 rfl 0 rfl ?_
        refine zm_cS2lr 92 rfl dX7_init_89 ml_X7_37 (Nat.le_of_ble_eq_true rfl) ⟨Nat.le_of_ble_eq_true rfl, Nat.le_of_ble_eq_true rfl⟩ rfl rfl ⟨Nat.le_of_ble_eq_true rfl, Nat.le_of_ble_eq_true rfl⟩ rfl (fun _ h => k_X7_withLetter E (7, (zm_ur (zm_ur (zm_ur (zm_ur rf 3 0 4) 3 1 5) 3 2 6) 3 3 7)) (L43.2.1 7 l43_1.toNatClampNeg) r61 L43 h) (fun r89 => ?_)
        refine zm_last 93 rfl dX7_init_92 rfl ⟨(Nat.le_of_ble_eq_true rfl), (Nat.le_of_ble_eq_true rfl)⟩ (fun M92 _ => ?_)
        exact zm_loc [1, 2, 3] rfl (hb93_43 l43_1 M92)
abbrev Y_X2_init_8 : zm_Y := (cX2_init, 2, RX2, { frames := 1, cells := 2, slots := 11, locals := 40 }, none, true, "<init>")
noncomputable def f_X2_init_8  (M : zm_Mem) : Option (Unit × zm_Mem) :=
  zm_v (zm_zero M 9) <| fun M6 => zm_v (zm_zero M6 10) <| fun M14 => some ((), M14)
set_option maxRecDepth 20000 in
set_option maxHeartbeats 4000000 in
theorem k_X2_init_8 (E : zm_E) (rf : Nat → Nat → Nat) (hz : ∀ id j, 8 < id → rf id j = 0)  (M : zm_Mem) {r : Unit} {M' : zm_Mem} (h : f_X2_init_8 M = some (r, M')) : zm_Ct E (8, rf) (10, (zm_ur (zm_ur (zm_ur rf 8 1 9) 8 2 10) 8 0 3)) yX2_init Y_X2_init_8 [.ref (E.2.1 + 8), .ref (E.2.1 + 3)] M none M' := by
  refine zm_meth (emb := zm_ev) (d := f_X2_init_8 M) (by decide) rfl rfl (Nat.le_of_ble_eq_true rfl) h (fun X => ?_)
  show zm_V X Y_X2_init_8 E (zm_Q X E Y_X2_init_8.2.2.2.1.cells Y_X2_init_8.2.2.2.1.slots (10, (zm_ur (zm_ur (zm_ur rf 8 1 9) 8 2 10) 8 0 3)) zm_ev) 0 0 true (8, rf) 0 [(0, .ref (E.2.1 + 8)), (1, .ref (E.2.1 + 3))] [] M (f_X2_init_8 M) some
  unfold f_X2_init_8
  refine zm_aload_n 1 rfl dX2_init_0 rfl 0 rfl ?_
  refine zm_objI 4 rfl dX2_init_1 oi_X2_3 oi_inst oi_code (Nat.le_of_ble_eq_true rfl) (Nat.le_of_ble_eq_true rfl) ?_
  refine zm_aload_n 5 rfl dX2_init_4 rfl 0 rfl ?_
  refine zm_iconst 6 rfl dX2_init_5 zi_5 ?_
  refine zm_newj (id := 9) (N := 5) 8 1 5 rfl rfl rfl dX2_init_6 aklong rfl rfl rfl (by decide) (by decide) (Nat.le_of_ble_eq_true rfl) (Nat.le_of_ble_eq_true rfl) (Nat.le_of_ble_eq_true rfl) (fun M6 _ => ?_)
  refine zm_putr 11 rfl dX2_init_8 ff_X2_9 rfl rfl ⟨(Nat.le_of_ble_eq_true rfl), (Nat.le_of_ble_eq_true rfl)⟩ (by decide) ?_
  refine zm_aload_n 12 rfl dX2_init_11 rfl 0 rfl ?_
  refine zm_bipush 14 rfl dX2_init_12 zb_6 ?_
  refine zm_newj (id := 10) (N := 6) 16 2 11 rfl rfl rfl dX2_init_14 aklong rfl rfl rfl (by decide) (by decide) (Nat.le_of_ble_eq_true rfl) (Nat.le_of_ble_eq_true rfl) (Nat.le_of_ble_eq_true rfl) (fun M14 _ => ?_)
  refine zm_putr 19 rfl dX2_init_16 ff_X2_15 rfl rfl ⟨(Nat.le_of_ble_eq_true rfl), (Nat.le_of_ble_eq_true rfl)⟩ (by decide) ?_
  refine zm_aload_n 20 rfl dX2_init_19 rfl 0 rfl ?_
  refine zm_aload_n 21 rfl dX2_init_20 rfl 1 rfl ?_
  refine zm_putr 24 rfl dX2_init_21 ff_X2_18 rfl rfl ⟨(Nat.le_of_ble_eq_true rfl), (Nat.le_of_ble_eq_true rfl)⟩ (by decide) ?_
  exact zm_vret dX2_init_24 rfl (Nat.le_of_ble_eq_true rfl) (Nat.le_of_ble_eq_true rfl) rfl
abbrev Y_X4_init_11 : zm_Y := (cX4_init, 1, RX4, { frames := 1, cells := 1, slots := 47, locals := 40 }, none, true, "<init>")
noncomputable def f_X4_init_11  (M : zm_Mem) : Option (Unit × zm_Mem) :=
  zm_v (zm_zero M 12) <| fun M7 => some ((), M7)
set_option maxRecDepth 20000 in
set_option maxHeartbeats 4000000 in
theorem k_X4_init_11 (E : zm_E) (rf : Nat → Nat → Nat) (hz : ∀ id j, 11 < id → rf id j = 0)  (M : zm_Mem) {r : Unit} {M' : zm_Mem} (h : f_X4_init_11 M = some (r, M')) : zm_Ct E (11, rf) (12, (zm_ur rf 11 0 12)) yX4_init Y_X4_init_11 [.ref (E.2.1 + 11)] M none M' := by
  refine zm_meth (emb := zm_ev) (d := f_X4_init_11 M) (by decide) rfl rfl (Nat.le_of_ble_eq_true rfl) h (fun X => ?_)
  show zm_V X Y_X4_init_11 E (zm_Q X E Y_X4_init_11.2.2.2.1.cells Y_X4_init_11.2.2.2.1.slots (12, (zm_ur rf 11 0 12)) zm_ev) 0 0 true (11, rf) 0 [(0, .ref (E.2.1 + 11))] [] M (f_X4_init_11 M) some
  unfold f_X4_init_11
  refine zm_aload_n 1 rfl dX4_init_0 rfl 0 rfl ?_
  refine zm_objI 4 rfl dX4_init_1 oi_X4_5 oi_inst oi_code (Nat.le_of_ble_eq_true rfl) (Nat.le_of_ble_eq_true rfl) ?_
  refine zm_aload_n 5 rfl dX4_init_4 rfl 0 rfl ?_
  refine zm_bipush 7 rfl dX4_init_5 zb_47 ?_
  refine zm_newi (id := 12) (N := 47) (kd := 0) (ty := .int) 9 1 47 rfl rfl rfl dX4_init_7 akint rfl rfl rfl (Or.inl ⟨rfl, rfl⟩) (by decide) (by decide) (Nat.le_of_ble_eq_true rfl) (Nat.le_of_ble_eq_true rfl) (Nat.le_of_ble_eq_true rfl) (fun M7 _ => ?_)
  refine zm_putr 12 rfl dX4_init_9 ff_X4_11 rfl rfl ⟨(Nat.le_of_ble_eq_true rfl), (Nat.le_of_ble_eq_true rfl)⟩ (by decide) ?_
  exact zm_vret dX4_init_12 rfl (Nat.le_of_ble_eq_true rfl) (Nat.le_of_ble_eq_true rfl) rfl
abbrev Y_X1_init_13 : zm_Y := (cX1_init, 1, RX1, { frames := 1, cells := 1, slots := 1880, locals := 40 }, none, true, "<init>")
noncomputable def f_X1_init_13  (M : zm_Mem) : Option (Unit × zm_Mem) :=
  zm_v (zm_zero M 14) <| fun M8 => some ((), M8)
set_option maxRecDepth 20000 in
set_option maxHeartbeats 4000000 in
theorem k_X1_init_13 (E : zm_E) (rf : Nat → Nat → Nat) (hz : ∀ id j, 13 < id → rf id j = 0)  (M : zm_Mem) {r : Unit} {M' : zm_Mem} (h : f_X1_init_13 M = some (r, M')) : zm_Ct E (13, rf) (14, (zm_ur rf 13 0 14)) yX1_init Y_X1_init_13 [.ref (E.2.1 + 13)] M none M' := by
  refine zm_meth (emb := zm_ev) (d := f_X1_init_13 M) (by decide) rfl rfl (Nat.le_of_ble_eq_true rfl) h (fun X => ?_)
  show zm_V X Y_X1_init_13 E (zm_Q X E Y_X1_init_13.2.2.2.1.cells Y_X1_init_13.2.2.2.1.slots (14, (zm_ur rf 13 0 14)) zm_ev) 0 0 true (13, rf) 0 [(0, .ref (E.2.1 + 13))] [] M (f_X1_init_13 M) some
  unfold f_X1_init_13
  refine zm_aload_n 1 rfl dX1_init_0 rfl 0 rfl ?_
  refine zm_objI 4 rfl dX1_init_1 oi_X1_1 oi_inst oi_code (Nat.le_of_ble_eq_true rfl) (Nat.le_of_ble_eq_true rfl) ?_
  refine zm_aload_n 5 rfl dX1_init_4 rfl 0 rfl ?_
  refine zm_sipush 8 rfl dX1_init_5 zs_1880 ?_
  refine zm_newi (id := 14) (N := 1880) (kd := 0) (ty := .int) 10 1 1880 rfl rfl rfl dX1_init_8 akint rfl rfl rfl (Or.inl ⟨rfl, rfl⟩) (by decide) (by decide) (Nat.le_of_ble_eq_true rfl) (Nat.le_of_ble_eq_true rfl) (Nat.le_of_ble_eq_true rfl) (fun M8 _ => ?_)
  refine zm_putr 13 rfl dX1_init_10 ff_X1_11 rfl rfl ⟨(Nat.le_of_ble_eq_true rfl), (Nat.le_of_ble_eq_true rfl)⟩ (by decide) ?_
  exact zm_vret dX1_init_13 rfl (Nat.le_of_ble_eq_true rfl) (Nat.le_of_ble_eq_true rfl) rfl
abbrev Y_X0_init_16 : zm_Y := (cX0_init, 1, RX0, { frames := 1, cells := 7, slots := 129, locals := 40 }, none, true, "<init>")
noncomputable def f_X0_init_16  (M : zm_Mem) : Option (Unit × zm_Mem) :=
  zm_v (zm_zero M 17) <| fun M7 => zm_v (zm_zero M7 18) <| fun M15 => zm_v (zm_zero M15 19) <| fun M23 => zm_v (zm_zero M23 20) <| fun M31 => zm_v (zm_zero M31 21) <| fun M39 => zm_v (zm_zero M39 22) <| fun M47 => zm_v (zm_zero M47 23) <| fun M55 => some ((), M55)
set_option maxRecDepth 20000 in
set_option maxHeartbeats 4000000 in
theorem k_X0_init_16 (E : zm_E) (rf : Nat → Nat → Nat) (hz : ∀ id j, 16 < id → rf id j = 0)  (M : zm_Mem) {r : Unit} {M' : zm_Mem} (h : f_X0_init_16 M = some (r, M')) : zm_Ct E (16, rf) (23, (zm_ur (zm_ur (zm_ur (zm_ur (zm_ur (zm_ur (zm_ur rf 16 0 17) 16 1 18) 16 2 19) 16 3 20) 16 4 21) 16 5 22) 16 6 23)) yX0_init Y_X0_init_16 [.ref (E.2.1 + 16)] M none M' := by
  refine zm_meth (emb := zm_ev) (d := f_X0_init_16 M) (by decide) rfl rfl (Nat.le_of_ble_eq_true rfl) h (fun X => ?_)
  show zm_V X Y_X0_init_16 E (zm_Q X E Y_X0_init_16.2.2.2.1.cells Y_X0_init_16.2.2.2.1.slots (23, (zm_ur (zm_ur (zm_ur (zm_ur (zm_ur (zm_ur (zm_ur rf 16 0 17) 16 1 18) 16 2 19) 16 3 20) 16 4 21) 16 5 22) 16 6 23)) zm_ev) 0 0 true (16, rf) 0 [(0, .ref (E.2.1 + 16))] [] M (f_X0_init_16 M) some
  unfold f_X0_init_16
  refine zm_aload_n 1 rfl dX0_init_0 rfl 0 rfl ?_
  refine zm_objI 4 rfl dX0_init_1 oi_X0_3 oi_inst oi_code (Nat.le_of_ble_eq_true rfl) (Nat.le_of_ble_eq_true rfl) ?_
  refine zm_aload_n 5 rfl dX0_init_4 rfl 0 rfl ?_
  refine zm_bipush 7 rfl dX0_init_5 zb_20 ?_
  refine zm_newi (id := 17) (N := 20) (kd := 0) (ty := .int) 9 1 20 rfl rfl rfl dX0_init_7 akint rfl rfl rfl (Or.inl ⟨rfl, rfl⟩) (by decide) (by decide) (Nat.le_of_ble_eq_true rfl) (Nat.le_of_ble_eq_true rfl) (Nat.le_of_ble_eq_true rfl) (fun M7 _ => ?_)
  refine zm_putr 12 rfl dX0_init_9 ff_X0_11 rfl rfl ⟨(Nat.le_of_ble_eq_true rfl), (Nat.le_of_ble_eq_true rfl)⟩ (by decide) ?_
  refine zm_aload_n 13 rfl dX0_init_12 rfl 0 rfl ?_
  refine zm_bipush 15 rfl dX0_init_13 zb_20 ?_
  refine zm_newi (id := 18) (N := 20) (kd := 0) (ty := .int) 17 2 40 rfl rfl rfl dX0_init_15 akint rfl rfl rfl (Or.inl ⟨rfl, rfl⟩) (by decide) (by decide) (Nat.le_of_ble_eq_true rfl) (Nat.le_of_ble_eq_true rfl) (Nat.le_of_ble_eq_true rfl) (fun M15 _ => ?_)
  refine zm_putr 20 rfl dX0_init_17 ff_X0_15 rfl rfl ⟨(Nat.le_of_ble_eq_true rfl), (Nat.le_of_ble_eq_true rfl)⟩ (by decide) ?_
  refine zm_aload_n 21 rfl dX0_init_20 rfl 0 rfl ?_
  refine zm_bipush 23 rfl dX0_init_21 zb_20 ?_
  refine zm_newi (id := 19) (N := 20) (kd := 0) (ty := .int) 25 3 60 rfl rfl rfl dX0_init_23 akint rfl rfl rfl (Or.inl ⟨rfl, rfl⟩) (by decide) (by decide) (Nat.le_of_ble_eq_true rfl) (Nat.le_of_ble_eq_true rfl) (Nat.le_of_ble_eq_true rfl) (fun M23 _ => ?_)
  refine zm_putr 28 rfl dX0_init_25 ff_X0_18 rfl rfl ⟨(Nat.le_of_ble_eq_true rfl), (Nat.le_of_ble_eq_true rfl)⟩ (by decide) ?_
  refine zm_aload_n 29 rfl dX0_init_28 rfl 0 rfl ?_
  refine zm_bipush 31 rfl dX0_init_29 zb_36 ?_
  refine zm_newi (id := 20) (N := 36) (kd := 0) (ty := .int) 33 4 96 rfl rfl rfl dX0_init_31 akint rfl rfl rfl (Or.inl ⟨rfl, rfl⟩) (by decide) (by decide) (Nat.le_of_ble_eq_true rfl) (Nat.le_of_ble_eq_true rfl) (Nat.le_of_ble_eq_true rfl) (fun M31 _ => ?_)
  refine zm_putr 36 rfl dX0_init_33 ff_X0_21 rfl rfl ⟨(Nat.le_of_ble_eq_true rfl), (Nat.le_of_ble_eq_true rfl)⟩ (by decide) ?_
  refine zm_aload_n 37 rfl dX0_init_36 rfl 0 rfl ?_
  refine zm_bipush 39 rfl dX0_init_37 zb_21 ?_
  refine zm_newi (id := 21) (N := 21) (kd := 0) (ty := .int) 41 5 117 rfl rfl rfl dX0_init_39 akint rfl rfl rfl (Or.inl ⟨rfl, rfl⟩) (by decide) (by decide) (Nat.le_of_ble_eq_true rfl) (Nat.le_of_ble_eq_true rfl) (Nat.le_of_ble_eq_true rfl) (fun M39 _ => ?_)
  refine zm_putr 44 rfl dX0_init_41 ff_X0_24 rfl rfl ⟨(Nat.le_of_ble_eq_true rfl), (Nat.le_of_ble_eq_true rfl)⟩ (by decide) ?_
  refine zm_aload_n 45 rfl dX0_init_44 rfl 0 rfl ?_
  refine zm_bipush 47 rfl dX0_init_45 zb_6 ?_
  refine zm_newi (id := 22) (N := 6) (kd := 0) (ty := .int) 49 6 123 rfl rfl rfl dX0_init_47 akint rfl rfl rfl (Or.inl ⟨rfl, rfl⟩) (by decide) (by decide) (Nat.le_of_ble_eq_true rfl) (Nat.le_of_ble_eq_true rfl) (Nat.le_of_ble_eq_true rfl) (fun M47 _ => ?_)
  refine zm_putr 52 rfl dX0_init_49 ff_X0_27 rfl rfl ⟨(Nat.le_of_ble_eq_true rfl), (Nat.le_of_ble_eq_true rfl)⟩ (by decide) ?_
  refine zm_aload_n 53 rfl dX0_init_52 rfl 0 rfl ?_
  refine zm_bipush 55 rfl dX0_init_53 zb_6 ?_
  refine zm_newi (id := 23) (N := 6) (kd := 0) (ty := .int) 57 7 129 rfl rfl rfl dX0_init_55 akint rfl rfl rfl (Or.inl ⟨rfl, rfl⟩) (by decide) (by decide) (Nat.le_of_ble_eq_true rfl) (Nat.le_of_ble_eq_true rfl) (Nat.le_of_ble_eq_true rfl) (fun M55 _ => ?_)
  refine zm_putr 60 rfl dX0_init_57 ff_X0_30 rfl rfl ⟨(Nat.le_of_ble_eq_true rfl), (Nat.le_of_ble_eq_true rfl)⟩ (by decide) ?_
  exact zm_vret dX0_init_60 rfl (Nat.le_of_ble_eq_true rfl) (Nat.le_of_ble_eq_true rfl) rfl
abbrev Y_X8_init_25 : zm_Y := (cX8_init, 1, RX8, { frames := 2, cells := 10, slots := 460, locals := 42 }, none, true, "<init>")
noncomputable def f_X8_init_25  (M : zm_Mem) : Option (Unit × zm_Mem) :=
  zm_v (zm_zero M 26) <| fun M6 => zm_v (zm_zero M6 27) <| fun M13 => zm_v (zm_zero M13 28) <| fun M21 => zm_v (zm_zero M21 29) <| fun M29 => zm_v (zm_zero M29 30) <| fun M37 => zm_v (zm_zero M37 31) <| fun M45 => zm_v (zm_zero M45 32) <| fun M53 => zm_v (zm_zero M53 33) <| fun M61 => zm_v (zm_zero M61 34) <| fun M69 => zm_v (zm_zero M69 35) <| fun M78 => zm_b2 (f_X8_clear 25 M78) <| fun _ M84 => some ((), M84)
set_option maxRecDepth 20000 in
set_option maxHeartbeats 4000000 in
theorem k_X8_init_25 (E : zm_E) (rf : Nat → Nat → Nat) (hz : ∀ id j, 25 < id → rf id j = 0)  (M : zm_Mem) {r : Unit} {M' : zm_Mem} (h : f_X8_init_25 M = some (r, M')) : zm_Ct E (25, rf) (35, (zm_ur (zm_ur (zm_ur (zm_ur (zm_ur (zm_ur (zm_ur (zm_ur (zm_ur (zm_ur rf 25 0 26) 25 1 27) 25 2 28) 25 3 29) 25 4 30) 25 5 31) 25 6 32) 25 7 33) 25 8 34) 25 9 35)) yX8_init Y_X8_init_25 [.ref (E.2.1 + 25)] M none M' := by
  refine zm_meth (emb := zm_ev) (d := f_X8_init_25 M) (by decide) rfl rfl (Nat.le_of_ble_eq_true rfl) h (fun X => ?_)
  show zm_V X Y_X8_init_25 E (zm_Q X E Y_X8_init_25.2.2.2.1.cells Y_X8_init_25.2.2.2.1.slots (35, (zm_ur (zm_ur (zm_ur (zm_ur (zm_ur (zm_ur (zm_ur (zm_ur (zm_ur (zm_ur rf 25 0 26) 25 1 27) 25 2 28) 25 3 29) 25 4 30) 25 5 31) 25 6 32) 25 7 33) 25 8 34) 25 9 35)) zm_ev) 0 0 true (25, rf) 0 [(0, .ref (E.2.1 + 25))] [] M (f_X8_init_25 M) some
  unfold f_X8_init_25
  refine zm_aload_n 1 rfl dX8_init_0 rfl 0 rfl ?_
  refine zm_objI 4 rfl dX8_init_1 oi_X8_5 oi_inst oi_code (Nat.le_of_ble_eq_true rfl) (Nat.le_of_ble_eq_true rfl) ?_
  refine zm_aload_n 5 rfl dX8_init_4 rfl 0 rfl ?_
  refine zm_iconst 6 rfl dX8_init_5 zi_5 ?_
  refine zm_newi (id := 26) (N := 5) (kd := 0) (ty := .int) 8 1 5 rfl rfl rfl dX8_init_6 akint rfl rfl rfl (Or.inl ⟨rfl, rfl⟩) (by decide) (by decide) (Nat.le_of_ble_eq_true rfl) (Nat.le_of_ble_eq_true rfl) (Nat.le_of_ble_eq_true rfl) (fun M6 _ => ?_)
  refine zm_putr 11 rfl dX8_init_8 ff_X8_11 rfl rfl ⟨(Nat.le_of_ble_eq_true rfl), (Nat.le_of_ble_eq_true rfl)⟩ (by decide) ?_
  refine zm_aload_n 12 rfl dX8_init_11 rfl 0 rfl ?_
  refine zm_iconst 13 rfl dX8_init_12 zi_5 ?_
  refine zm_newi (id := 27) (N := 5) (kd := 0) (ty := .int) 15 2 10 rfl rfl rfl dX8_init_13 akint rfl rfl rfl (Or.inl ⟨rfl, rfl⟩) (by decide) (by decide) (Nat.le_of_ble_eq_true rfl) (Nat.le_of_ble_eq_true rfl) (Nat.le_of_ble_eq_true rfl) (fun M13 _ => ?_)
  refine zm_putr 18 rfl dX8_init_15 ff_X8_15 rfl rfl ⟨(Nat.le_of_ble_eq_true rfl), (Nat.le_of_ble_eq_true rfl)⟩ (by decide) ?_
  refine zm_aload_n 19 rfl dX8_init_18 rfl 0 rfl ?_
  refine zm_bipush 21 rfl dX8_init_19 zb_6 ?_
  refine zm_newi (id := 28) (N := 6) (kd := 0) (ty := .int) 23 3 16 rfl rfl rfl dX8_init_21 akint rfl rfl rfl (Or.inl ⟨rfl, rfl⟩) (by decide) (by decide) (Nat.le_of_ble_eq_true rfl) (Nat.le_of_ble_eq_true rfl) (Nat.le_of_ble_eq_true rfl) (fun M21 _ => ?_)
  refine zm_putr 26 rfl dX8_init_23 ff_X8_18 rfl rfl ⟨(Nat.le_of_ble_eq_true rfl), (Nat.le_of_ble_eq_true rfl)⟩ (by decide) ?_
  refine zm_aload_n 27 rfl dX8_init_26 rfl 0 rfl ?_
  refine zm_bipush 29 rfl dX8_init_27 zb_6 ?_
  refine zm_newi (id := 29) (N := 6) (kd := 0) (ty := .int) 31 4 22 rfl rfl rfl dX8_init_29 akint rfl rfl rfl (Or.inl ⟨rfl, rfl⟩) (by decide) (by decide) (Nat.le_of_ble_eq_true rfl) (Nat.le_of_ble_eq_true rfl) (Nat.le_of_ble_eq_true rfl) (fun M29 _ => ?_)
  refine zm_putr 34 rfl dX8_init_31 ff_X8_21 rfl rfl ⟨(Nat.le_of_ble_eq_true rfl), (Nat.le_of_ble_eq_true rfl)⟩ (by decide) ?_
  refine zm_aload_n 35 rfl dX8_init_34 rfl 0 rfl ?_
  refine zm_bipush 37 rfl dX8_init_35 zb_6 ?_
  refine zm_newi (id := 30) (N := 6) (kd := 0) (ty := .int) 39 5 28 rfl rfl rfl dX8_init_37 akint rfl rfl rfl (Or.inl ⟨rfl, rfl⟩) (by decide) (by decide) (Nat.le_of_ble_eq_true rfl) (Nat.le_of_ble_eq_true rfl) (Nat.le_of_ble_eq_true rfl) (fun M37 _ => ?_)
  refine zm_putr 42 rfl dX8_init_39 ff_X8_24 rfl rfl ⟨(Nat.le_of_ble_eq_true rfl), (Nat.le_of_ble_eq_true rfl)⟩ (by decide) ?_
  refine zm_aload_n 43 rfl dX8_init_42 rfl 0 rfl ?_
  refine zm_bipush 45 rfl dX8_init_43 zb_6 ?_
  refine zm_newi (id := 31) (N := 6) (kd := 0) (ty := .int) 47 6 34 rfl rfl rfl dX8_init_45 akint rfl rfl rfl (Or.inl ⟨rfl, rfl⟩) (by decide) (by decide) (Nat.le_of_ble_eq_true rfl) (Nat.le_of_ble_eq_true rfl) (Nat.le_of_ble_eq_true rfl) (fun M45 _ => ?_)
  refine zm_putr 50 rfl dX8_init_47 ff_X8_27 rfl rfl ⟨(Nat.le_of_ble_eq_true rfl), (Nat.le_of_ble_eq_true rfl)⟩ (by decide) ?_
  refine zm_aload_n 51 rfl dX8_init_50 rfl 0 rfl ?_
  refine zm_bipush 53 rfl dX8_init_51 zb_6 ?_
  refine zm_newi (id := 32) (N := 6) (kd := 0) (ty := .int) 55 7 40 rfl rfl rfl dX8_init_53 akint rfl rfl rfl (Or.inl ⟨rfl, rfl⟩) (by decide) (by decide) (Nat.le_of_ble_eq_true rfl) (Nat.le_of_ble_eq_true rfl) (Nat.le_of_ble_eq_true rfl) (fun M53 _ => ?_)
  refine zm_putr 58 rfl dX8_init_55 ff_X8_30 rfl rfl ⟨(Nat.le_of_ble_eq_true rfl), (Nat.le_of_ble_eq_true rfl)⟩ (by decide) ?_
  refine zm_aload_n 59 rfl dX8_init_58 rfl 0 rfl ?_
  refine zm_bipush 61 rfl dX8_init_59 zb_6 ?_
  refine zm_newi (id := 33) (N := 6) (kd := 0) (ty := .int) 63 8 46 rfl rfl rfl dX8_init_61 akint rfl rfl rfl (Or.inl ⟨rfl, rfl⟩) (by decide) (by decide) (Nat.le_of_ble_eq_true rfl) (Nat.le_of_ble_eq_true rfl) (Nat.le_of_ble_eq_true rfl) (fun M61 _ => ?_)
  refine zm_putr 66 rfl dX8_init_63 ff_X8_33 rfl rfl ⟨(Nat.le_of_ble_eq_true rfl), (Nat.le_of_ble_eq_true rfl)⟩ (by decide) ?_
  refine zm_aload_n 67 rfl dX8_init_66 rfl 0 rfl ?_
  refine zm_bipush 69 rfl dX8_init_67 zb_6 ?_
  refine zm_newi (id := 34) (N := 6) (kd := 0) (ty := .int) 71 9 52 rfl rfl rfl dX8_init_69 akint rfl rfl rfl (Or.inl ⟨rfl, rfl⟩) (by decide) (by decide) (Nat.le_of_ble_eq_true rfl) (Nat.le_of_ble_eq_true rfl) (Nat.le_of_ble_eq_true rfl) (fun M69 _ => ?_)
  refine zm_putr 74 rfl dX8_init_71 ff_X8_36 rfl rfl ⟨(Nat.le_of_ble_eq_true rfl), (Nat.le_of_ble_eq_true rfl)⟩ (by decide) ?_
  refine zm_aload_n 75 rfl dX8_init_74 rfl 0 rfl ?_
  refine zm_sipush 78 rfl dX8_init_75 zs_408 ?_
  refine zm_newi (id := 35) (N := 408) (kd := 0) (ty := .int) 80 10 460 rfl rfl rfl dX8_init_78 akint rfl rfl rfl (Or.inl ⟨rfl, rfl⟩) (by decide) (by decide) (Nat.le_of_ble_eq_true rfl) (Nat.le_of_ble_eq_true rfl) (Nat.le_of_ble_eq_true rfl) (fun M78 _ => ?_)
  refine zm_putr 83 rfl dX8_init_80 ff_X8_39 rfl rfl ⟨(Nat.le_of_ble_eq_true rfl), (Nat.le_of_ble_eq_true rfl)⟩ (by decide) ?_
  refine zm_aload_n 84 rfl dX8_init_83 rfl 0 rfl ?_
  refine zm_cV0v 87 rfl dX8_init_84 ml_X8_42 rfl ⟨(Nat.le_of_ble_eq_true rfl), (Nat.le_of_ble_eq_true rfl)⟩ rfl (Nat.le_of_ble_eq_true rfl) ⟨Nat.le_of_ble_eq_true rfl, Nat.le_of_ble_eq_true rfl⟩ rfl rfl ⟨Nat.le_of_ble_eq_true rfl, Nat.le_of_ble_eq_true rfl⟩ rfl (fun _ _ h => k_X8_clear E (35, (zm_ur (zm_ur (zm_ur (zm_ur (zm_ur (zm_ur (zm_ur (zm_ur (zm_ur (zm_ur rf 25 0 26) 25 1 27) 25 2 28) 25 3 29) 25 4 30) 25 5 31) 25 6 32) 25 7 33) 25 8 34) 25 9 35)) 25 rfl (Nat.le_of_ble_eq_true rfl) (fun j hj => match j, hj with | 0, _ => rfl | 1, _ => rfl | 2, _ => rfl | 3, _ => rfl | 4, _ => rfl | 5, _ => rfl | 6, _ => rfl | 7, _ => rfl | 8, _ => rfl | 9, _ => rfl | (n + 10), h => absurd h (by omega)) M78 h) (fun _ M84 => ?_)
  exact zm_vret dX8_init_87 rfl (Nat.le_of_ble_eq_true rfl) (Nat.le_of_ble_eq_true rfl) rfl
abbrev Y_X8_init_36 : zm_Y := (cX8_init, 1, RX8, { frames := 2, cells := 10, slots := 460, locals := 42 }, none, true, "<init>")
noncomputable def f_X8_init_36  (M : zm_Mem) : Option (Unit × zm_Mem) :=
  zm_v (zm_zero M 37) <| fun M6 => zm_v (zm_zero M6 38) <| fun M13 => zm_v (zm_zero M13 39) <| fun M21 => zm_v (zm_zero M21 40) <| fun M29 => zm_v (zm_zero M29 41) <| fun M37 => zm_v (zm_zero M37 42) <| fun M45 => zm_v (zm_zero M45 43) <| fun M53 => zm_v (zm_zero M53 44) <| fun M61 => zm_v (zm_zero M61 45) <| fun M69 => zm_v (zm_zero M69 46) <| fun M78 => zm_b2 (f_X8_clear 36 M78) <| fun _ M84 => some ((), M84)
set_option maxRecDepth 20000 in
set_option maxHeartbeats 4000000 in
theorem k_X8_init_36 (E : zm_E) (rf : Nat → Nat → Nat) (hz : ∀ id j, 36 < id → rf id j = 0)  (M : zm_Mem) {r : Unit} {M' : zm_Mem} (h : f_X8_init_36 M = some (r, M')) : zm_Ct E (36, rf) (46, (zm_ur (zm_ur (zm_ur (zm_ur (zm_ur (zm_ur (zm_ur (zm_ur (zm_ur (zm_ur rf 36 0 37) 36 1 38) 36 2 39) 36 3 40) 36 4 41) 36 5 42) 36 6 43) 36 7 44) 36 8 45) 36 9 46)) yX8_init Y_X8_init_36 [.ref (E.2.1 + 36)] M none M' := by
  refine zm_meth (emb := zm_ev) (d := f_X8_init_36 M) (by decide) rfl rfl (Nat.le_of_ble_eq_true rfl) h (fun X => ?_)
  show zm_V X Y_X8_init_36 E (zm_Q X E Y_X8_init_36.2.2.2.1.cells Y_X8_init_36.2.2.2.1.slots (46, (zm_ur (zm_ur (zm_ur (zm_ur (zm_ur (zm_ur (zm_ur (zm_ur (zm_ur (zm_ur rf 36 0 37) 36 1 38) 36 2 39) 36 3 40) 36 4 41) 36 5 42) 36 6 43) 36 7 44) 36 8 45) 36 9 46)) zm_ev) 0 0 true (36, rf) 0 [(0, .ref (E.2.1 + 36))] [] M (f_X8_init_36 M) some
  unfold f_X8_init_36
  refine zm_aload_n 1 rfl dX8_init_0 rfl 0 rfl ?_
  refine zm_objI 4 rfl dX8_init_1 oi_X8_5 oi_inst oi_code (Nat.le_of_ble_eq_true rfl) (Nat.le_of_ble_eq_true rfl) ?_
  refine zm_aload_n 5 rfl dX8_init_4 rfl 0 rfl ?_
  refine zm_iconst 6 rfl dX8_init_5 zi_5 ?_
  refine zm_newi (id := 37) (N := 5) (kd := 0) (ty := .int) 8 1 5 rfl rfl rfl dX8_init_6 akint rfl rfl rfl (Or.inl ⟨rfl, rfl⟩) (by decide) (by decide) (Nat.le_of_ble_eq_true rfl) (Nat.le_of_ble_eq_true rfl) (Nat.le_of_ble_eq_true rfl) (fun M6 _ => ?_)
  refine zm_putr 11 rfl dX8_init_8 ff_X8_11 rfl rfl ⟨(Nat.le_of_ble_eq_true rfl), (Nat.le_of_ble_eq_true rfl)⟩ (by decide) ?_
  refine zm_aload_n 12 rfl dX8_init_11 rfl 0 rfl ?_
  refine zm_iconst 13 rfl dX8_init_12 zi_5 ?_
  refine zm_newi (id := 38) (N := 5) (kd := 0) (ty := .int) 15 2 10 rfl rfl rfl dX8_init_13 akint rfl rfl rfl (Or.inl ⟨rfl, rfl⟩) (by decide) (by decide) (Nat.le_of_ble_eq_true rfl) (Nat.le_of_ble_eq_true rfl) (Nat.le_of_ble_eq_true rfl) (fun M13 _ => ?_)
  refine zm_putr 18 rfl dX8_init_15 ff_X8_15 rfl rfl ⟨(Nat.le_of_ble_eq_true rfl), (Nat.le_of_ble_eq_true rfl)⟩ (by decide) ?_
  refine zm_aload_n 19 rfl dX8_init_18 rfl 0 rfl ?_
  refine zm_bipush 21 rfl dX8_init_19 zb_6 ?_
  refine zm_newi (id := 39) (N := 6) (kd := 0) (ty := .int) 23 3 16 rfl rfl rfl dX8_init_21 akint rfl rfl rfl (Or.inl ⟨rfl, rfl⟩) (by decide) (by decide) (Nat.le_of_ble_eq_true rfl) (Nat.le_of_ble_eq_true rfl) (Nat.le_of_ble_eq_true rfl) (fun M21 _ => ?_)
  refine zm_putr 26 rfl dX8_init_23 ff_X8_18 rfl rfl ⟨(Nat.le_of_ble_eq_true rfl), (Nat.le_of_ble_eq_true rfl)⟩ (by decide) ?_
  refine zm_aload_n 27 rfl dX8_init_26 rfl 0 rfl ?_
  refine zm_bipush 29 rfl dX8_init_27 zb_6 ?_
  refine zm_newi (id := 40) (N := 6) (kd := 0) (ty := .int) 31 4 22 rfl rfl rfl dX8_init_29 akint rfl rfl rfl (Or.inl ⟨rfl, rfl⟩) (by decide) (by decide) (Nat.le_of_ble_eq_true rfl) (Nat.le_of_ble_eq_true rfl) (Nat.le_of_ble_eq_true rfl) (fun M29 _ => ?_)
  refine zm_putr 34 rfl dX8_init_31 ff_X8_21 rfl rfl ⟨(Nat.le_of_ble_eq_true rfl), (Nat.le_of_ble_eq_true rfl)⟩ (by decide) ?_
  refine zm_aload_n 35 rfl dX8_init_34 rfl 0 rfl ?_
  refine zm_bipush 37 rfl dX8_init_35 zb_6 ?_
  refine zm_newi (id := 41) (N := 6) (kd := 0) (ty := .int) 39 5 28 rfl rfl rfl dX8_init_37 akint rfl rfl rfl (Or.inl ⟨rfl, rfl⟩) (by decide) (by decide) (Nat.le_of_ble_eq_true rfl) (Nat.le_of_ble_eq_true rfl) (Nat.le_of_ble_eq_true rfl) (fun M37 _ => ?_)
  refine zm_putr 42 rfl dX8_init_39 ff_X8_24 rfl rfl ⟨(Nat.le_of_ble_eq_true rfl), (Nat.le_of_ble_eq_true rfl)⟩ (by decide) ?_
  refine zm_aload_n 43 rfl dX8_init_42 rfl 0 rfl ?_
  refine zm_bipush 45 rfl dX8_init_43 zb_6 ?_
  refine zm_newi (id := 42) (N := 6) (kd := 0) (ty := .int) 47 6 34 rfl rfl rfl dX8_init_45 akint rfl rfl rfl (Or.inl ⟨rfl, rfl⟩) (by decide) (by decide) (Nat.le_of_ble_eq_true rfl) (Nat.le_of_ble_eq_true rfl) (Nat.le_of_ble_eq_true rfl) (fun M45 _ => ?_)
  refine zm_putr 50 rfl dX8_init_47 ff_X8_27 rfl rfl ⟨(Nat.le_of_ble_eq_true rfl), (Nat.le_of_ble_eq_true rfl)⟩ (by decide) ?_
  refine zm_aload_n 51 rfl dX8_init_50 rfl 0 rfl ?_
  refine zm_bipush 53 rfl dX8_init_51 zb_6 ?_
  refine zm_newi (id := 43) (N := 6) (kd := 0) (ty := .int) 55 7 40 rfl rfl rfl dX8_init_53 akint rfl rfl rfl (Or.inl ⟨rfl, rfl⟩) (by decide) (by decide) (Nat.le_of_ble_eq_true rfl) (Nat.le_of_ble_eq_true rfl) (Nat.le_of_ble_eq_true rfl) (fun M53 _ => ?_)
  refine zm_putr 58 rfl dX8_init_55 ff_X8_30 rfl rfl ⟨(Nat.le_of_ble_eq_true rfl), (Nat.le_of_ble_eq_true rfl)⟩ (by decide) ?_
  refine zm_aload_n 59 rfl dX8_init_58 rfl 0 rfl ?_
  refine zm_bipush 61 rfl dX8_init_59 zb_6 ?_
  refine zm_newi (id := 44) (N := 6) (kd := 0) (ty := .int) 63 8 46 rfl rfl rfl dX8_init_61 akint rfl rfl rfl (Or.inl ⟨rfl, rfl⟩) (by decide) (by decide) (Nat.le_of_ble_eq_true rfl) (Nat.le_of_ble_eq_true rfl) (Nat.le_of_ble_eq_true rfl) (fun M61 _ => ?_)
  refine zm_putr 66 rfl dX8_init_63 ff_X8_33 rfl rfl ⟨(Nat.le_of_ble_eq_true rfl), (Nat.le_of_ble_eq_true rfl)⟩ (by decide) ?_
  refine zm_aload_n 67 rfl dX8_init_66 rfl 0 rfl ?_
  refine zm_bipush 69 rfl dX8_init_67 zb_6 ?_
  refine zm_newi (id := 45) (N := 6) (kd := 0) (ty := .int) 71 9 52 rfl rfl rfl dX8_init_69 akint rfl rfl rfl (Or.inl ⟨rfl, rfl⟩) (by decide) (by decide) (Nat.le_of_ble_eq_true rfl) (Nat.le_of_ble_eq_true rfl) (Nat.le_of_ble_eq_true rfl) (fun M69 _ => ?_)
  refine zm_putr 74 rfl dX8_init_71 ff_X8_36 rfl rfl ⟨(Nat.le_of_ble_eq_true rfl), (Nat.le_of_ble_eq_true rfl)⟩ (by decide) ?_
  refine zm_aload_n 75 rfl dX8_init_74 rfl 0 rfl ?_
  refine zm_sipush 78 rfl dX8_init_75 zs_408 ?_
  refine zm_newi (id := 46) (N := 408) (kd := 0) (ty := .int) 80 10 460 rfl rfl rfl dX8_init_78 akint rfl rfl rfl (Or.inl ⟨rfl, rfl⟩) (by decide) (by decide) (Nat.le_of_ble_eq_true rfl) (Nat.le_of_ble_eq_true rfl) (Nat.le_of_ble_eq_true rfl) (fun M78 _ => ?_)
  refine zm_putr 83 rfl dX8_init_80 ff_X8_39 rfl rfl ⟨(Nat.le_of_ble_eq_true rfl), (Nat.le_of_ble_eq_true rfl)⟩ (by decide) ?_
  refine zm_aload_n 84 rfl dX8_init_83 rfl 0 rfl ?_
  refine zm_cV0v 87 rfl dX8_init_84 ml_X8_42 rfl ⟨(Nat.le_of_ble_eq_true rfl), (Nat.le_of_ble_eq_true rfl)⟩ rfl (Nat.le_of_ble_eq_true rfl) ⟨Nat.le_of_ble_eq_true rfl, Nat.le_of_ble_eq_true rfl⟩ rfl rfl ⟨Nat.le_of_ble_eq_true rfl, Nat.le_of_ble_eq_true rfl⟩ rfl (fun _ _ h => k_X8_clear E (46, (zm_ur (zm_ur (zm_ur (zm_ur (zm_ur (zm_ur (zm_ur (zm_ur (zm_ur (zm_ur rf 36 0 37) 36 1 38) 36 2 39) 36 3 40) 36 4 41) 36 5 42) 36 6 43) 36 7 44) 36 8 45) 36 9 46)) 36 rfl (Nat.le_of_ble_eq_true rfl) (fun j hj => match j, hj with | 0, _ => rfl | 1, _ => rfl | 2, _ => rfl | 3, _ => rfl | 4, _ => rfl | 5, _ => rfl | 6, _ => rfl | 7, _ => rfl | 8, _ => rfl | 9, _ => rfl | (n + 10), h => absurd h (by omega)) M78 h) (fun _ M84 => ?_)
  exact zm_vret dX8_init_87 rfl (Nat.le_of_ble_eq_true rfl) (Nat.le_of_ble_eq_true rfl) rfl
abbrev Y_X5_init_48 : zm_Y := (cX5_init, 1, RX5, { frames := 1, cells := 2, slots := 33, locals := 40 }, none, true, "<init>")
noncomputable def f_X5_init_48  (M : zm_Mem) : Option (Unit × zm_Mem) :=
  zm_v (zm_zero M 49) <| fun M7 => zm_v (zm_zero M7 50) <| fun M15 => some ((), M15)
set_option maxRecDepth 20000 in
set_option maxHeartbeats 4000000 in
theorem k_X5_init_48 (E : zm_E) (rf : Nat → Nat → Nat) (hz : ∀ id j, 48 < id → rf id j = 0)  (M : zm_Mem) {r : Unit} {M' : zm_Mem} (h : f_X5_init_48 M = some (r, M')) : zm_Ct E (48, rf) (50, (zm_ur (zm_ur rf 48 0 49) 48 1 50)) yX5_init Y_X5_init_48 [.ref (E.2.1 + 48)] M none M' := by
  refine zm_meth (emb := zm_ev) (d := f_X5_init_48 M) (by decide) rfl rfl (Nat.le_of_ble_eq_true rfl) h (fun X => ?_)
  show zm_V X Y_X5_init_48 E (zm_Q X E Y_X5_init_48.2.2.2.1.cells Y_X5_init_48.2.2.2.1.slots (50, (zm_ur (zm_ur rf 48 0 49) 48 1 50)) zm_ev) 0 0 true (48, rf) 0 [(0, .ref (E.2.1 + 48))] [] M (f_X5_init_48 M) some
  unfold f_X5_init_48
  refine zm_aload_n 1 rfl dX5_init_0 rfl 0 rfl ?_
  refine zm_objI 4 rfl dX5_init_1 oi_X5_1 oi_inst oi_code (Nat.le_of_ble_eq_true rfl) (Nat.le_of_ble_eq_true rfl) ?_
  refine zm_aload_n 5 rfl dX5_init_4 rfl 0 rfl ?_
  refine zm_bipush 7 rfl dX5_init_5 zb_9 ?_
  refine zm_newi (id := 49) (N := 9) (kd := 0) (ty := .int) 9 1 9 rfl rfl rfl dX5_init_7 akint rfl rfl rfl (Or.inl ⟨rfl, rfl⟩) (by decide) (by decide) (Nat.le_of_ble_eq_true rfl) (Nat.le_of_ble_eq_true rfl) (Nat.le_of_ble_eq_true rfl) (fun M7 _ => ?_)
  refine zm_putr 12 rfl dX5_init_9 ff_X5_9 rfl rfl ⟨(Nat.le_of_ble_eq_true rfl), (Nat.le_of_ble_eq_true rfl)⟩ (by decide) ?_
  refine zm_aload_n 13 rfl dX5_init_12 rfl 0 rfl ?_
  refine zm_bipush 15 rfl dX5_init_13 zb_24 ?_
  refine zm_newi (id := 50) (N := 24) (kd := 0) (ty := .int) 17 2 33 rfl rfl rfl dX5_init_15 akint rfl rfl rfl (Or.inl ⟨rfl, rfl⟩) (by decide) (by decide) (Nat.le_of_ble_eq_true rfl) (Nat.le_of_ble_eq_true rfl) (Nat.le_of_ble_eq_true rfl) (fun M15 _ => ?_)
  refine zm_putr 20 rfl dX5_init_17 ff_X5_13 rfl rfl ⟨(Nat.le_of_ble_eq_true rfl), (Nat.le_of_ble_eq_true rfl)⟩ (by decide) ?_
  exact zm_vret dX5_init_20 rfl (Nat.le_of_ble_eq_true rfl) (Nat.le_of_ble_eq_true rfl) rfl
abbrev Y_X3_init_47 : zm_Y := (cX3_init, 2, RX3, { frames := 2, cells := 4, slots := 41, locals := 60 }, none, true, "<init>")
noncomputable def f_X3_init_47 (a1 : Nat) (M : zm_Mem) : Option (Unit × zm_Mem) :=
  zm_v (zm_zero M 48) <| fun M5 => zm_b2 (f_X5_init_48 M5) <| fun _ M9 => zm_v (zm_zero M9 51) <| fun M18 => zm_v (zm_sP M18 47 2 a1) <| fun M25 => some ((), M25)
set_option maxRecDepth 20000 in
set_option maxHeartbeats 4000000 in
theorem k_X3_init_47 (E : zm_E) (rf : Nat → Nat → Nat) (hz : ∀ id j, 47 < id → rf id j = 0) (a1 : Nat) (ha1 : zm_isT a1 = true) (M : zm_Mem) {r : Unit} {M' : zm_Mem} (h : f_X3_init_47 a1 M = some (r, M')) : zm_Ct E (47, rf) (51, (zm_ur (zm_ur (zm_ur (zm_ur rf 48 0 49) 48 1 50) 47 0 48) 47 1 51)) yX3_init Y_X3_init_47 [.ref (E.2.1 + 47), .ref (E.2.1 + a1)] M none M' := by
  refine zm_meth (emb := zm_ev) (d := f_X3_init_47 a1 M) (by decide) rfl rfl (Nat.le_of_ble_eq_true rfl) h (fun X => ?_)
  show zm_V X Y_X3_init_47 E (zm_Q X E Y_X3_init_47.2.2.2.1.cells Y_X3_init_47.2.2.2.1.slots (51, (zm_ur (zm_ur (zm_ur (zm_ur rf 48 0 49) 48 1 50) 47 0 48) 47 1 51)) zm_ev) 0 0 true (47, rf) 0 [(0, .ref (E.2.1 + 47)), (1, .ref (E.2.1 + a1))] [] M (f_X3_init_47 a1 M) some
  unfold f_X3_init_47
  refine zm_aload_n 1 rfl dX3_init_0 rfl 0 rfl ?_
  refine zm_objI 4 rfl dX3_init_1 oi_X3_3 oi_inst oi_code (Nat.le_of_ble_eq_true rfl) (Nat.le_of_ble_eq_true rfl) ?_
  refine zm_aload_n 5 rfl dX3_init_4 rfl 0 rfl ?_
  refine zm_newo (id := 48) (N := 2) 8 1 2 rfl rfl rfl dX3_init_5 rfl zm_itX5 tyX5 tyX5_ok cl_X3_9 is_X5 in_X5 rfl rfl rfl (fun j => (hz _ _ (Nat.le_of_ble_eq_true rfl))) dv_X5 (Nat.le_of_ble_eq_true rfl) (Nat.le_of_ble_eq_true rfl) (fun M5 _ => ?_)
  refine zm_dup 9 rfl dX3_init_8 rfl ?_
  refine zm_callN (w2 := (50, (zm_ur (zm_ur rf 48 0 49) 48 1 50))) 12 3 35 rfl rfl rfl dX3_init_9 [.ref (E.2.1 + 48), .ref (E.2.1 + 47)] rfl (fun _ hZ => hZ.2.2.2.2.2.2.2.1.2.2.2.2.1) iN_X5_init rfl rfl (Nat.le_of_ble_eq_true rfl) ⟨(Nat.le_of_ble_eq_true rfl), (Nat.le_of_ble_eq_true rfl)⟩ rfl rfl ⟨(Nat.le_of_ble_eq_true rfl), (Nat.le_of_ble_eq_true rfl)⟩ rfl (fun _ h => k_X5_init_48 E rf (fun id j hj => (hz id j (by omega))) M5 h) (fun M9 => ?_)
  refine zm_putr 15 rfl dX3_init_12 ff_X3_12 rfl rfl ⟨(Nat.le_of_ble_eq_true rfl), (Nat.le_of_ble_eq_true rfl)⟩ (by decide) ?_
  refine zm_aload_n 16 rfl dX3_init_15 rfl 0 rfl ?_
  refine zm_bipush 18 rfl dX3_init_16 zb_6 ?_
  refine zm_newi (id := 51) (N := 6) (kd := 0) (ty := .int) 20 4 41 rfl rfl rfl dX3_init_18 akint rfl rfl rfl (Or.inl ⟨rfl, rfl⟩) (by decide) (by decide) (Nat.le_of_ble_eq_true rfl) (Nat.le_of_ble_eq_true rfl) (Nat.le_of_ble_eq_true rfl) (fun M18 _ => ?_)
  refine zm_putr 23 rfl dX3_init_20 ff_X3_18 rfl rfl ⟨(Nat.le_of_ble_eq_true rfl), (Nat.le_of_ble_eq_true rfl)⟩ (by decide) ?_
  refine zm_aload_n 24 rfl dX3_init_23 rfl 0 rfl ?_
  refine zm_aload_n 25 rfl dX3_init_24 rfl 1 rfl ?_
  refine zm_putP 28 rfl dX3_init_25 fp_X3_22 rfl ⟨(Nat.le_of_ble_eq_true rfl), (Nat.le_of_ble_eq_true rfl)⟩ (zm_T_ne ha1) (fun M25 _ => ?_)
  exact zm_vret dX3_init_28 rfl (Nat.le_of_ble_eq_true rfl) (Nat.le_of_ble_eq_true rfl) rfl
abbrev Y_X10_init_1 : zm_Y := (cX10_init, 1, RX10, { frames := 6, cells := 50, slots := 6469, locals := 129 }, none, true, "<init>")
noncomputable def f_X10_init_1  (M : zm_Mem) : Option (Unit × zm_Mem) :=
  zm_v (zm_zero M 2) <| fun M8 => zm_v (zm_zero M8 3) <| fun M14 => zm_b2 (f_X7_init_3 M14) <| fun _ M18 => zm_v (zm_zero M18 8) <| fun M25 => zm_b2 (f_X2_init_8 M25) <| fun _ M33 => zm_v (zm_zero M33 11) <| fun M40 => zm_b2 (f_X4_init_11 M40) <| fun _ M44 => zm_v (zm_zero M44 13) <| fun M51 => zm_b2 (f_X1_init_13 M51) <| fun _ M55 => zm_v (zm_zero M55 15) <| fun M65 => zm_v (zm_zero M65 16) <| fun M71 => zm_b2 (f_X0_init_16 M71) <| fun _ M75 => zm_v (zm_zero M75 24) <| fun M84 => zm_v (zm_zero M84 25) <| fun M90 => zm_b2 (f_X8_init_25 M90) <| fun _ M94 => zm_v (zm_sP M94 1 9 25) <| fun M97 => zm_v (zm_zero M97 36) <| fun M101 => zm_b2 (f_X8_init_36 M101) <| fun _ M105 => zm_v (zm_sP M105 1 10 36) <| fun M108 => zm_v (zm_sI M108 1 16 (-1)) <| fun M113 => zm_v (zm_zero M113 47) <| fun M117 => zm_v (M117.2.2 1 9) <| fun t122 => zm_ck (zm_isT t122) <| zm_b2 (f_X3_init_47 t122 M117) <| fun _ M125 => some ((), M125)
set_option maxRecDepth 20000 in
set_option maxHeartbeats 4000000 in
theorem k_X10_init_1 (E : zm_E) (rf : Nat → Nat → Nat) (hz : ∀ id j, 1 < id → rf id j = 0)  (M : zm_Mem) {r : Unit} {M' : zm_Mem} (h : f_X10_init_1 M = some (r, M')) : zm_Ct E (1, rf) (51, (zm_ur (zm_ur (zm_ur (zm_ur (zm_ur (zm_ur (zm_ur (zm_ur (zm_ur (zm_ur (zm_ur (zm_ur (zm_ur (zm_ur (zm_ur (zm_ur (zm_ur (zm_ur (zm_ur (zm_ur (zm_ur (zm_ur (zm_ur (zm_ur (zm_ur (zm_ur (zm_ur (zm_ur (zm_ur (zm_ur (zm_ur (zm_ur (zm_ur (zm_ur (zm_ur (zm_ur (zm_ur (zm_ur (zm_ur (zm_ur (zm_ur (zm_ur (zm_ur (zm_ur (zm_ur (zm_ur (zm_ur (zm_ur (zm_ur rf 1 0 2) 3 0 4) 3 1 5) 3 2 6) 3 3 7) 1 1 3) 8 1 9) 8 2 10) 8 0 3) 1 2 8) 11 0 12) 1 3 11) 13 0 14) 1 4 13) 1 5 15) 16 0 17) 16 1 18) 16 2 19) 16 3 20) 16 4 21) 16 5 22) 16 6 23) 1 6 16) 1 8 24) 25 0 26) 25 1 27) 25 2 28) 25 3 29) 25 4 30) 25 5 31) 25 6 32) 25 7 33) 25 8 34) 25 9 35) 36 0 37) 36 1 38) 36 2 39) 36 3 40) 36 4 41) 36 5 42) 36 6 43) 36 7 44) 36 8 45) 36 9 46) 48 0 49) 48 1 50) 47 0 48) 47 1 51) 1 7 47)) yX10_init Y_X10_init_1 [.ref (E.2.1 + 1)] M none M' := by
  refine zm_meth (emb := zm_ev) (d := f_X10_init_1 M) (by decide) rfl rfl (Nat.le_of_ble_eq_true rfl) h (fun X => ?_)
  show zm_V X Y_X10_init_1 E (zm_Q X E Y_X10_init_1.2.2.2.1.cells Y_X10_init_1.2.2.2.1.slots (51, (zm_ur (zm_ur (zm_ur (zm_ur (zm_ur (zm_ur (zm_ur (zm_ur (zm_ur (zm_ur (zm_ur (zm_ur (zm_ur (zm_ur (zm_ur (zm_ur (zm_ur (zm_ur (zm_ur (zm_ur (zm_ur (zm_ur (zm_ur (zm_ur (zm_ur (zm_ur (zm_ur (zm_ur (zm_ur (zm_ur (zm_ur (zm_ur (zm_ur (zm_ur (zm_ur (zm_ur (zm_ur (zm_ur (zm_ur (zm_ur (zm_ur (zm_ur (zm_ur (zm_ur (zm_ur (zm_ur (zm_ur (zm_ur (zm_ur rf 1 0 2) 3 0 4) 3 1 5) 3 2 6) 3 3 7) 1 1 3) 8 1 9) 8 2 10) 8 0 3) 1 2 8) 11 0 12) 1 3 11) 13 0 14) 1 4 13) 1 5 15) 16 0 17) 16 1 18) 16 2 19) 16 3 20) 16 4 21) 16 5 22) 16 6 23) 1 6 16) 1 8 24) 25 0 26) 25 1 27) 25 2 28) 25 3 29) 25 4 30) 25 5 31) 25 6 32) 25 7 33) 25 8 34) 25 9 35) 36 0 37) 36 1 38) 36 2 39) 36 3 40) 36 4 41) 36 5 42) 36 6 43) 36 7 44) 36 8 45) 36 9 46) 48 0 49) 48 1 50) 47 0 48) 47 1 51) 1 7 47)) zm_ev) 0 0 true (1, rf) 0 [(0, .ref (E.2.1 + 1))] [] M (f_X10_init_1 M) some
  unfold f_X10_init_1
  refine zm_aload_n 1 rfl dX10_init_0 rfl 0 rfl ?_
  refine zm_objI 4 rfl dX10_init_1 oi_X10_1 oi_inst oi_code (Nat.le_of_ble_eq_true rfl) (Nat.le_of_ble_eq_true rfl) ?_
  refine zm_aload_n 5 rfl dX10_init_4 rfl 0 rfl ?_
  refine zm_sipush 8 rfl dX10_init_5 zs_2000 ?_
  refine zm_newi (id := 2) (N := 2000) (kd := 1) (ty := .byte) 10 1 2000 rfl rfl rfl dX10_init_8 akbyte rfl rfl rfl (Or.inr (Or.inl ⟨rfl, rfl⟩)) (by decide) (by decide) (Nat.le_of_ble_eq_true rfl) (Nat.le_of_ble_eq_true rfl) (Nat.le_of_ble_eq_true rfl) (fun M8 _ => ?_)
  refine zm_putr 13 rfl dX10_init_10 ff_X10_9 rfl rfl ⟨(Nat.le_of_ble_eq_true rfl), (Nat.le_of_ble_eq_true rfl)⟩ (by decide) ?_
  refine zm_aload_n 14 rfl dX10_init_13 rfl 0 rfl ?_
  refine zm_newo (id := 3) (N := 5) 17 2 2005 rfl rfl rfl dX10_init_14 rfl zm_itX7 tyX7 tyX7_ok cl_X10_13 is_X7 in_X7 rfl rfl rfl (fun j => ((zm_ur_ne (by decide)).trans (hz _ _ (Nat.le_of_ble_eq_true rfl)))) dv_X7 (Nat.le_of_ble_eq_true rfl) (Nat.le_of_ble_eq_true rfl) (fun M14 _ => ?_)
  refine zm_dup 18 rfl dX10_init_17 rfl ?_
  refine zm_callI (w2 := (7, (zm_ur (zm_ur (zm_ur (zm_ur (zm_ur rf 1 0 2) 3 0 4) 3 1 5) 3 2 6) 3 3 7))) 21 6 3231 rfl rfl rfl dX10_init_18 [] [.ref (E.2.1 + 3), .ref (E.2.1 + 1)] rfl il_X10_15 rfl rfl rfl (Nat.le_of_ble_eq_true rfl) ⟨(Nat.le_of_ble_eq_true rfl), (Nat.le_of_ble_eq_true rfl)⟩ rfl rfl ⟨(Nat.le_of_ble_eq_true rfl), (Nat.le_of_ble_eq_true rfl)⟩ rfl (fun _ h => k_X7_init_3 E (zm_ur rf 1 0 2) (fun id j hj => ((zm_ur_ne (by omega)).trans (hz id j (by omega)))) M14 h) (fun M18 => ?_)
  refine zm_putr 24 rfl dX10_init_21 ff_X10_16 rfl rfl ⟨(Nat.le_of_ble_eq_true rfl), (Nat.le_of_ble_eq_true rfl)⟩ (by decide) ?_
  refine zm_aload_n 25 rfl dX10_init_24 rfl 0 rfl ?_
  refine zm_newo (id := 8) (N := 9) 28 7 3240 rfl rfl rfl dX10_init_25 rfl zm_itX2 tyX2 tyX2_ok cl_X10_20 is_X2 in_X2 rfl rfl rfl (fun j => ((zm_ur_ne (by decide)).trans ((zm_ur_ne (by decide)).trans ((zm_ur_ne (by decide)).trans ((zm_ur_ne (by decide)).trans ((zm_ur_ne (by decide)).trans ((zm_ur_ne (by decide)).trans (hz _ _ (Nat.le_of_ble_eq_true rfl))))))))) dv_X2 (Nat.le_of_ble_eq_true rfl) (Nat.le_of_ble_eq_true rfl) (fun M25 _ => ?_)
  refine zm_dup 29 rfl dX10_init_28 rfl ?_
  refine zm_aload_n 30 rfl dX10_init_29 rfl 0 rfl ?_
  refine zm_getR (a := 3) 33 rfl dX10_init_30 fl_X10_16 rfl ⟨(Nat.le_of_ble_eq_true rfl), (Nat.le_of_ble_eq_true rfl)⟩ rfl (by decide) ?_
  refine zm_callI (w2 := (10, (zm_ur (zm_ur (zm_ur (zm_ur (zm_ur (zm_ur (zm_ur (zm_ur (zm_ur rf 1 0 2) 3 0 4) 3 1 5) 3 2 6) 3 3 7) 1 1 3) 8 1 9) 8 2 10) 8 0 3))) 36 9 3251 rfl rfl rfl dX10_init_33 [.ref (E.2.1 + 3)] [.ref (E.2.1 + 8), .ref (E.2.1 + 1)] rfl il_X10_22 rfl rfl rfl (Nat.le_of_ble_eq_true rfl) ⟨(Nat.le_of_ble_eq_true rfl), (Nat.le_of_ble_eq_true rfl)⟩ rfl rfl ⟨(Nat.le_of_ble_eq_true rfl), (Nat.le_of_ble_eq_true rfl)⟩ rfl (fun _ h => k_X2_init_8 E (zm_ur (zm_ur (zm_ur (zm_ur (zm_ur (zm_ur rf 1 0 2) 3 0 4) 3 1 5) 3 2 6) 3 3 7) 1 1 3) (fun id j hj => ((zm_ur_ne (by omega)).trans ((zm_ur_ne (by omega)).trans ((zm_ur_ne (by omega)).trans ((zm_ur_ne (by omega)).trans ((zm_ur_ne (by omega)).trans ((zm_ur_ne (by omega)).trans (hz id j (by omega))))))))) M25 h) (fun M33 => ?_)
  refine zm_putr 39 rfl dX10_init_36 ff_X10_25 rfl rfl ⟨(Nat.le_of_ble_eq_true rfl), (Nat.le_of_ble_eq_true rfl)⟩ (by decide) ?_
  refine zm_aload_n 40 rfl dX10_init_39 rfl 0 rfl ?_
  refine zm_newo (id := 11) (N := 1) 43 10 3252 rfl rfl rfl dX10_init_40 rfl zm_itX4 tyX4 tyX4_ok cl_X10_29 is_X4 in_X4 rfl rfl rfl (fun j => ((zm_ur_ne (by decide)).trans ((zm_ur_ne (by decide)).trans ((zm_ur_ne (by decide)).trans ((zm_ur_ne (by decide)).trans ((zm_ur_ne (by decide)).trans ((zm_ur_ne (by decide)).trans ((zm_ur_ne (by decide)).trans ((zm_ur_ne (by decide)).trans ((zm_ur_ne (by decide)).trans ((zm_ur_ne (by decide)).trans (hz _ _ (Nat.le_of_ble_eq_true rfl))))))))))))) dv_X4 (Nat.le_of_ble_eq_true rfl) (Nat.le_of_ble_eq_true rfl) (fun M40 _ => ?_)
  refine zm_dup 44 rfl dX10_init_43 rfl ?_
  refine zm_callN (w2 := (12, (zm_ur (zm_ur (zm_ur (zm_ur (zm_ur (zm_ur (zm_ur (zm_ur (zm_ur (zm_ur (zm_ur rf 1 0 2) 3 0 4) 3 1 5) 3 2 6) 3 3 7) 1 1 3) 8 1 9) 8 2 10) 8 0 3) 1 2 8) 11 0 12))) 47 11 3299 rfl rfl rfl dX10_init_44 [.ref (E.2.1 + 11), .ref (E.2.1 + 1)] rfl (fun _ hZ => hZ.2.2.2.2.2.2.2.1.2.1) iN_X4_init rfl rfl (Nat.le_of_ble_eq_true rfl) ⟨(Nat.le_of_ble_eq_true rfl), (Nat.le_of_ble_eq_true rfl)⟩ rfl rfl ⟨(Nat.le_of_ble_eq_true rfl), (Nat.le_of_ble_eq_true rfl)⟩ rfl (fun _ h => k_X4_init_11 E (zm_ur (zm_ur (zm_ur (zm_ur (zm_ur (zm_ur (zm_ur (zm_ur (zm_ur (zm_ur rf 1 0 2) 3 0 4) 3 1 5) 3 2 6) 3 3 7) 1 1 3) 8 1 9) 8 2 10) 8 0 3) 1 2 8) (fun id j hj => ((zm_ur_ne (by omega)).trans ((zm_ur_ne (by omega)).trans ((zm_ur_ne (by omega)).trans ((zm_ur_ne (by omega)).trans ((zm_ur_ne (by omega)).trans ((zm_ur_ne (by omega)).trans ((zm_ur_ne (by omega)).trans ((zm_ur_ne (by omega)).trans ((zm_ur_ne (by omega)).trans ((zm_ur_ne (by omega)).trans (hz id j (by omega))))))))))))) M40 h) (fun M44 => ?_)
  refine zm_putr 50 rfl dX10_init_47 ff_X10_32 rfl rfl ⟨(Nat.le_of_ble_eq_true rfl), (Nat.le_of_ble_eq_true rfl)⟩ (by decide) ?_
  refine zm_aload_n 51 rfl dX10_init_50 rfl 0 rfl ?_
  refine zm_newo (id := 13) (N := 3) 54 12 3302 rfl rfl rfl dX10_init_51 rfl zm_itX1 tyX1 tyX1_ok cl_X10_36 is_X1 in_X1 rfl rfl rfl (fun j => ((zm_ur_ne (by decide)).trans ((zm_ur_ne (by decide)).trans ((zm_ur_ne (by decide)).trans ((zm_ur_ne (by decide)).trans ((zm_ur_ne (by decide)).trans ((zm_ur_ne (by decide)).trans ((zm_ur_ne (by decide)).trans ((zm_ur_ne (by decide)).trans ((zm_ur_ne (by decide)).trans ((zm_ur_ne (by decide)).trans ((zm_ur_ne (by decide)).trans ((zm_ur_ne (by decide)).trans (hz _ _ (Nat.le_of_ble_eq_true rfl))))))))))))))) dv_X1 (Nat.le_of_ble_eq_true rfl) (Nat.le_of_ble_eq_true rfl) (fun M51 _ => ?_)
  refine zm_dup 55 rfl dX10_init_54 rfl ?_
  refine zm_callN (w2 := (14, (zm_ur (zm_ur (zm_ur (zm_ur (zm_ur (zm_ur (zm_ur (zm_ur (zm_ur (zm_ur (zm_ur (zm_ur (zm_ur rf 1 0 2) 3 0 4) 3 1 5) 3 2 6) 3 3 7) 1 1 3) 8 1 9) 8 2 10) 8 0 3) 1 2 8) 11 0 12) 1 3 11) 13 0 14))) 58 13 5182 rfl rfl rfl dX10_init_55 [.ref (E.2.1 + 13), .ref (E.2.1 + 1)] rfl (fun _ hZ => hZ.2.2.2.2.2.2.2.1.2.2.1) iN_X1_init rfl rfl (Nat.le_of_ble_eq_true rfl) ⟨(Nat.le_of_ble_eq_true rfl), (Nat.le_of_ble_eq_true rfl)⟩ rfl rfl ⟨(Nat.le_of_ble_eq_true rfl), (Nat.le_of_ble_eq_true rfl)⟩ rfl (fun _ h => k_X1_init_13 E (zm_ur (zm_ur (zm_ur (zm_ur (zm_ur (zm_ur (zm_ur (zm_ur (zm_ur (zm_ur (zm_ur (zm_ur rf 1 0 2) 3 0 4) 3 1 5) 3 2 6) 3 3 7) 1 1 3) 8 1 9) 8 2 10) 8 0 3) 1 2 8) 11 0 12) 1 3 11) (fun id j hj => ((zm_ur_ne (by omega)).trans ((zm_ur_ne (by omega)).trans ((zm_ur_ne (by omega)).trans ((zm_ur_ne (by omega)).trans ((zm_ur_ne (by omega)).trans ((zm_ur_ne (by omega)).trans ((zm_ur_ne (by omega)).trans ((zm_ur_ne (by omega)).trans ((zm_ur_ne (by omega)).trans ((zm_ur_ne (by omega)).trans ((zm_ur_ne (by omega)).trans ((zm_ur_ne (by omega)).trans (hz id j (by omega))))))))))))))) M51 h) (fun M55 => ?_)
  refine zm_putr 61 rfl dX10_init_58 ff_X10_39 rfl rfl ⟨(Nat.le_of_ble_eq_true rfl), (Nat.le_of_ble_eq_true rfl)⟩ (by decide) ?_
  refine zm_aload_n 62 rfl dX10_init_61 rfl 0 rfl ?_
  refine zm_sipush 65 rfl dX10_init_62 zs_141 ?_
  refine zm_newi (id := 15) (N := 141) (kd := 0) (ty := .int) 67 14 5323 rfl rfl rfl dX10_init_65 akint rfl rfl rfl (Or.inl ⟨rfl, rfl⟩) (by decide) (by decide) (Nat.le_of_ble_eq_true rfl) (Nat.le_of_ble_eq_true rfl) (Nat.le_of_ble_eq_true rfl) (fun M65 _ => ?_)
  refine zm_putr 70 rfl dX10_init_67 ff_X10_43 rfl rfl ⟨(Nat.le_of_ble_eq_true rfl), (Nat.le_of_ble_eq_true rfl)⟩ (by decide) ?_
  refine zm_aload_n 71 rfl dX10_init_70 rfl 0 rfl ?_
  refine zm_newo (id := 16) (N := 9) 74 15 5332 rfl rfl rfl dX10_init_71 rfl zm_itX0 tyX0 tyX0_ok cl_X10_47 is_X0 in_X0 rfl rfl rfl (fun j => ((zm_ur_ne (by decide)).trans ((zm_ur_ne (by decide)).trans ((zm_ur_ne (by decide)).trans ((zm_ur_ne (by decide)).trans ((zm_ur_ne (by decide)).trans ((zm_ur_ne (by decide)).trans ((zm_ur_ne (by decide)).trans ((zm_ur_ne (by decide)).trans ((zm_ur_ne (by decide)).trans ((zm_ur_ne (by decide)).trans ((zm_ur_ne (by decide)).trans ((zm_ur_ne (by decide)).trans ((zm_ur_ne (by decide)).trans ((zm_ur_ne (by decide)).trans ((zm_ur_ne (by decide)).trans (hz _ _ (Nat.le_of_ble_eq_true rfl)))))))))))))))))) dv_X0 (Nat.le_of_ble_eq_true rfl) (Nat.le_of_ble_eq_true rfl) (fun M71 _ => ?_)
  refine zm_dup 75 rfl dX10_init_74 rfl ?_
  refine zm_callN (w2 := (23, (zm_ur (zm_ur (zm_ur (zm_ur (zm_ur (zm_ur (zm_ur (zm_ur (zm_ur (zm_ur (zm_ur (zm_ur (zm_ur (zm_ur (zm_ur (zm_ur (zm_ur (zm_ur (zm_ur (zm_ur (zm_ur (zm_ur rf 1 0 2) 3 0 4) 3 1 5) 3 2 6) 3 3 7) 1 1 3) 8 1 9) 8 2 10) 8 0 3) 1 2 8) 11 0 12) 1 3 11) 13 0 14) 1 4 13) 1 5 15) 16 0 17) 16 1 18) 16 2 19) 16 3 20) 16 4 21) 16 5 22) 16 6 23))) 78 22 5461 rfl rfl rfl dX10_init_75 [.ref (E.2.1 + 16), .ref (E.2.1 + 1)] rfl (fun _ hZ => hZ.2.2.2.2.2.2.2.1.2.2.2.1) iN_X0_init rfl rfl (Nat.le_of_ble_eq_true rfl) ⟨(Nat.le_of_ble_eq_true rfl), (Nat.le_of_ble_eq_true rfl)⟩ rfl rfl ⟨(Nat.le_of_ble_eq_true rfl), (Nat.le_of_ble_eq_true rfl)⟩ rfl (fun _ h => k_X0_init_16 E (zm_ur (zm_ur (zm_ur (zm_ur (zm_ur (zm_ur (zm_ur (zm_ur (zm_ur (zm_ur (zm_ur (zm_ur (zm_ur (zm_ur (zm_ur rf 1 0 2) 3 0 4) 3 1 5) 3 2 6) 3 3 7) 1 1 3) 8 1 9) 8 2 10) 8 0 3) 1 2 8) 11 0 12) 1 3 11) 13 0 14) 1 4 13) 1 5 15) (fun id j hj => ((zm_ur_ne (by omega)).trans ((zm_ur_ne (by omega)).trans ((zm_ur_ne (by omega)).trans ((zm_ur_ne (by omega)).trans ((zm_ur_ne (by omega)).trans ((zm_ur_ne (by omega)).trans ((zm_ur_ne (by omega)).trans ((zm_ur_ne (by omega)).trans ((zm_ur_ne (by omega)).trans ((zm_ur_ne (by omega)).trans ((zm_ur_ne (by omega)).trans ((zm_ur_ne (by omega)).trans ((zm_ur_ne (by omega)).trans ((zm_ur_ne (by omega)).trans ((zm_ur_ne (by omega)).trans (hz id j (by omega)))))))))))))))))) M71 h) (fun M75 => ?_)
  refine zm_putr 81 rfl dX10_init_78 ff_X10_50 rfl rfl ⟨(Nat.le_of_ble_eq_true rfl), (Nat.le_of_ble_eq_true rfl)⟩ (by decide) ?_
  refine zm_aload_n 82 rfl dX10_init_81 rfl 0 rfl ?_
  refine zm_bipush 84 rfl dX10_init_82 zb_6 ?_
  refine zm_newi (id := 24) (N := 6) (kd := 0) (ty := .int) 86 23 5467 rfl rfl rfl dX10_init_84 akint rfl rfl rfl (Or.inl ⟨rfl, rfl⟩) (by decide) (by decide) (Nat.le_of_ble_eq_true rfl) (Nat.le_of_ble_eq_true rfl) (Nat.le_of_ble_eq_true rfl) (fun M84 _ => ?_)
  refine zm_putr 89 rfl dX10_init_86 ff_X10_54 rfl rfl ⟨(Nat.le_of_ble_eq_true rfl), (Nat.le_of_ble_eq_true rfl)⟩ (by decide) ?_
  refine zm_aload_n 90 rfl dX10_init_89 rfl 0 rfl ?_
  refine zm_newo (id := 25) (N := 19) 93 24 5486 rfl rfl rfl dX10_init_90 rfl zm_itX8 tyX8 tyX8_ok cl_X10_57 is_X8 in_X8 rfl rfl rfl (fun j => ((zm_ur_ne (by decide)).trans ((zm_ur_ne (by decide)).trans ((zm_ur_ne (by decide)).trans ((zm_ur_ne (by decide)).trans ((zm_ur_ne (by decide)).trans ((zm_ur_ne (by decide)).trans ((zm_ur_ne (by decide)).trans ((zm_ur_ne (by decide)).trans ((zm_ur_ne (by decide)).trans ((zm_ur_ne (by decide)).trans ((zm_ur_ne (by decide)).trans ((zm_ur_ne (by decide)).trans ((zm_ur_ne (by decide)).trans ((zm_ur_ne (by decide)).trans ((zm_ur_ne (by decide)).trans ((zm_ur_ne (by decide)).trans ((zm_ur_ne (by decide)).trans ((zm_ur_ne (by decide)).trans ((zm_ur_ne (by decide)).trans ((zm_ur_ne (by decide)).trans ((zm_ur_ne (by decide)).trans ((zm_ur_ne (by decide)).trans ((zm_ur_ne (by decide)).trans ((zm_ur_ne (by decide)).trans (hz _ _ (Nat.le_of_ble_eq_true rfl))))))))))))))))))))))))))) dv_X8 (Nat.le_of_ble_eq_true rfl) (Nat.le_of_ble_eq_true rfl) (fun M90 _ => ?_)
  refine zm_dup 94 rfl dX10_init_93 rfl ?_
  refine zm_callI (w2 := (35, (zm_ur (zm_ur (zm_ur (zm_ur (zm_ur (zm_ur (zm_ur (zm_ur (zm_ur (zm_ur (zm_ur (zm_ur (zm_ur (zm_ur (zm_ur (zm_ur (zm_ur (zm_ur (zm_ur (zm_ur (zm_ur (zm_ur (zm_ur (zm_ur (zm_ur (zm_ur (zm_ur (zm_ur (zm_ur (zm_ur (zm_ur (zm_ur (zm_ur (zm_ur rf 1 0 2) 3 0 4) 3 1 5) 3 2 6) 3 3 7) 1 1 3) 8 1 9) 8 2 10) 8 0 3) 1 2 8) 11 0 12) 1 3 11) 13 0 14) 1 4 13) 1 5 15) 16 0 17) 16 1 18) 16 2 19) 16 3 20) 16 4 21) 16 5 22) 16 6 23) 1 6 16) 1 8 24) 25 0 26) 25 1 27) 25 2 28) 25 3 29) 25 4 30) 25 5 31) 25 6 32) 25 7 33) 25 8 34) 25 9 35))) 97 34 5946 rfl rfl rfl dX10_init_94 [] [.ref (E.2.1 + 25), .ref (E.2.1 + 1)] rfl il_X10_59 rfl rfl rfl (Nat.le_of_ble_eq_true rfl) ⟨(Nat.le_of_ble_eq_true rfl), (Nat.le_of_ble_eq_true rfl)⟩ rfl rfl ⟨(Nat.le_of_ble_eq_true rfl), (Nat.le_of_ble_eq_true rfl)⟩ rfl (fun _ h => k_X8_init_25 E (zm_ur (zm_ur (zm_ur (zm_ur (zm_ur (zm_ur (zm_ur (zm_ur (zm_ur (zm_ur (zm_ur (zm_ur (zm_ur (zm_ur (zm_ur (zm_ur (zm_ur (zm_ur (zm_ur (zm_ur (zm_ur (zm_ur (zm_ur (zm_ur rf 1 0 2) 3 0 4) 3 1 5) 3 2 6) 3 3 7) 1 1 3) 8 1 9) 8 2 10) 8 0 3) 1 2 8) 11 0 12) 1 3 11) 13 0 14) 1 4 13) 1 5 15) 16 0 17) 16 1 18) 16 2 19) 16 3 20) 16 4 21) 16 5 22) 16 6 23) 1 6 16) 1 8 24) (fun id j hj => ((zm_ur_ne (by omega)).trans ((zm_ur_ne (by omega)).trans ((zm_ur_ne (by omega)).trans ((zm_ur_ne (by omega)).trans ((zm_ur_ne (by omega)).trans ((zm_ur_ne (by omega)).trans ((zm_ur_ne (by omega)).trans ((zm_ur_ne (by omega)).trans ((zm_ur_ne (by omega)).trans ((zm_ur_ne (by omega)).trans ((zm_ur_ne (by omega)).trans ((zm_ur_ne (by omega)).trans ((zm_ur_ne (by omega)).trans ((zm_ur_ne (by omega)).trans ((zm_ur_ne (by omega)).trans ((zm_ur_ne (by omega)).trans ((zm_ur_ne (by omega)).trans ((zm_ur_ne (by omega)).trans ((zm_ur_ne (by omega)).trans ((zm_ur_ne (by omega)).trans ((zm_ur_ne (by omega)).trans ((zm_ur_ne (by omega)).trans ((zm_ur_ne (by omega)).trans ((zm_ur_ne (by omega)).trans (hz id j (by omega))))))))))))))))))))))))))) M90 h) (fun M94 => ?_)
  refine zm_putP 100 rfl dX10_init_97 fp_X10_60 rfl ⟨(Nat.le_of_ble_eq_true rfl), (Nat.le_of_ble_eq_true rfl)⟩ (by decide) (fun M97 _ => ?_)
  refine zm_aload_n 101 rfl dX10_init_100 rfl 0 rfl ?_
  refine zm_newo (id := 36) (N := 19) 104 35 5965 rfl rfl rfl dX10_init_101 rfl zm_itX8 tyX8 tyX8_ok cl_X10_57 is_X8 in_X8 rfl rfl rfl (fun j => ((zm_ur_ne (by decide)).trans ((zm_ur_ne (by decide)).trans ((zm_ur_ne (by decide)).trans ((zm_ur_ne (by decide)).trans ((zm_ur_ne (by decide)).trans ((zm_ur_ne (by decide)).trans ((zm_ur_ne (by decide)).trans ((zm_ur_ne (by decide)).trans ((zm_ur_ne (by decide)).trans ((zm_ur_ne (by decide)).trans ((zm_ur_ne (by decide)).trans ((zm_ur_ne (by decide)).trans ((zm_ur_ne (by decide)).trans ((zm_ur_ne (by decide)).trans ((zm_ur_ne (by decide)).trans ((zm_ur_ne (by decide)).trans ((zm_ur_ne (by decide)).trans ((zm_ur_ne (by decide)).trans ((zm_ur_ne (by decide)).trans ((zm_ur_ne (by decide)).trans ((zm_ur_ne (by decide)).trans ((zm_ur_ne (by decide)).trans ((zm_ur_ne (by decide)).trans ((zm_ur_ne (by decide)).trans ((zm_ur_ne (by decide)).trans ((zm_ur_ne (by decide)).trans ((zm_ur_ne (by decide)).trans ((zm_ur_ne (by decide)).trans ((zm_ur_ne (by decide)).trans ((zm_ur_ne (by decide)).trans ((zm_ur_ne (by decide)).trans ((zm_ur_ne (by decide)).trans ((zm_ur_ne (by decide)).trans ((zm_ur_ne (by decide)).trans (hz _ _ (Nat.le_of_ble_eq_true rfl))))))))))))))))))))))))))))))))))))) dv_X8 (Nat.le_of_ble_eq_true rfl) (Nat.le_of_ble_eq_true rfl) (fun M101 _ => ?_)
  refine zm_dup 105 rfl dX10_init_104 rfl ?_
  refine zm_callI (w2 := (46, (zm_ur (zm_ur (zm_ur (zm_ur (zm_ur (zm_ur (zm_ur (zm_ur (zm_ur (zm_ur (zm_ur (zm_ur (zm_ur (zm_ur (zm_ur (zm_ur (zm_ur (zm_ur (zm_ur (zm_ur (zm_ur (zm_ur (zm_ur (zm_ur (zm_ur (zm_ur (zm_ur (zm_ur (zm_ur (zm_ur (zm_ur (zm_ur (zm_ur (zm_ur (zm_ur (zm_ur (zm_ur (zm_ur (zm_ur (zm_ur (zm_ur (zm_ur (zm_ur (zm_ur rf 1 0 2) 3 0 4) 3 1 5) 3 2 6) 3 3 7) 1 1 3) 8 1 9) 8 2 10) 8 0 3) 1 2 8) 11 0 12) 1 3 11) 13 0 14) 1 4 13) 1 5 15) 16 0 17) 16 1 18) 16 2 19) 16 3 20) 16 4 21) 16 5 22) 16 6 23) 1 6 16) 1 8 24) 25 0 26) 25 1 27) 25 2 28) 25 3 29) 25 4 30) 25 5 31) 25 6 32) 25 7 33) 25 8 34) 25 9 35) 36 0 37) 36 1 38) 36 2 39) 36 3 40) 36 4 41) 36 5 42) 36 6 43) 36 7 44) 36 8 45) 36 9 46))) 108 45 6425 rfl rfl rfl dX10_init_105 [] [.ref (E.2.1 + 36), .ref (E.2.1 + 1)] rfl il_X10_59 rfl rfl rfl (Nat.le_of_ble_eq_true rfl) ⟨(Nat.le_of_ble_eq_true rfl), (Nat.le_of_ble_eq_true rfl)⟩ rfl rfl ⟨(Nat.le_of_ble_eq_true rfl), (Nat.le_of_ble_eq_true rfl)⟩ rfl (fun _ h => k_X8_init_36 E (zm_ur (zm_ur (zm_ur (zm_ur (zm_ur (zm_ur (zm_ur (zm_ur (zm_ur (zm_ur (zm_ur (zm_ur (zm_ur (zm_ur (zm_ur (zm_ur (zm_ur (zm_ur (zm_ur (zm_ur (zm_ur (zm_ur (zm_ur (zm_ur (zm_ur (zm_ur (zm_ur (zm_ur (zm_ur (zm_ur (zm_ur (zm_ur (zm_ur (zm_ur rf 1 0 2) 3 0 4) 3 1 5) 3 2 6) 3 3 7) 1 1 3) 8 1 9) 8 2 10) 8 0 3) 1 2 8) 11 0 12) 1 3 11) 13 0 14) 1 4 13) 1 5 15) 16 0 17) 16 1 18) 16 2 19) 16 3 20) 16 4 21) 16 5 22) 16 6 23) 1 6 16) 1 8 24) 25 0 26) 25 1 27) 25 2 28) 25 3 29) 25 4 30) 25 5 31) 25 6 32) 25 7 33) 25 8 34) 25 9 35) (fun id j hj => ((zm_ur_ne (by omega)).trans ((zm_ur_ne (by omega)).trans ((zm_ur_ne (by omega)).trans ((zm_ur_ne (by omega)).trans ((zm_ur_ne (by omega)).trans ((zm_ur_ne (by omega)).trans ((zm_ur_ne (by omega)).trans ((zm_ur_ne (by omega)).trans ((zm_ur_ne (by omega)).trans ((zm_ur_ne (by omega)).trans ((zm_ur_ne (by omega)).trans ((zm_ur_ne (by omega)).trans ((zm_ur_ne (by omega)).trans ((zm_ur_ne (by omega)).trans ((zm_ur_ne (by omega)).trans ((zm_ur_ne (by omega)).trans ((zm_ur_ne (by omega)).trans ((zm_ur_ne (by omega)).trans ((zm_ur_ne (by omega)).trans ((zm_ur_ne (by omega)).trans ((zm_ur_ne (by omega)).trans ((zm_ur_ne (by omega)).trans ((zm_ur_ne (by omega)).trans ((zm_ur_ne (by omega)).trans ((zm_ur_ne (by omega)).trans ((zm_ur_ne (by omega)).trans ((zm_ur_ne (by omega)).trans ((zm_ur_ne (by omega)).trans ((zm_ur_ne (by omega)).trans ((zm_ur_ne (by omega)).trans ((zm_ur_ne (by omega)).trans ((zm_ur_ne (by omega)).trans ((zm_ur_ne (by omega)).trans ((zm_ur_ne (by omega)).trans (hz id j (by omega))))))))))))))))))))))))))))))))))))) M101 h) (fun M105 => ?_)
  refine zm_putP 111 rfl dX10_init_108 fp_X10_64 rfl ⟨(Nat.le_of_ble_eq_true rfl), (Nat.le_of_ble_eq_true rfl)⟩ (by decide) (fun M108 _ => ?_)
  refine zm_aload_n 112 rfl dX10_init_111 rfl 0 rfl ?_
  refine zm_iconst 113 rfl dX10_init_112 zi_m1 ?_
  refine zm_putI 116 rfl dX10_init_113 fp_X10_67 rfl ⟨(Nat.le_of_ble_eq_true rfl), (Nat.le_of_ble_eq_true rfl)⟩ rfl rfl (fun M113 _ => ?_)
  refine zm_aload_n 117 rfl dX10_init_116 rfl 0 rfl ?_
  refine zm_newo (id := 47) (N := 3) 120 46 6428 rfl rfl rfl dX10_init_117 rfl zm_itX3 tyX3 tyX3_ok cl_X10_71 is_X3 in_X3 rfl rfl rfl (fun j => ((zm_ur_ne (by decide)).trans ((zm_ur_ne (by decide)).trans ((zm_ur_ne (by decide)).trans ((zm_ur_ne (by decide)).trans ((zm_ur_ne (by decide)).trans ((zm_ur_ne (by decide)).trans ((zm_ur_ne (by decide)).trans ((zm_ur_ne (by decide)).trans ((zm_ur_ne (by decide)).trans ((zm_ur_ne (by decide)).trans ((zm_ur_ne (by decide)).trans ((zm_ur_ne (by decide)).trans ((zm_ur_ne (by decide)).trans ((zm_ur_ne (by decide)).trans ((zm_ur_ne (by decide)).trans ((zm_ur_ne (by decide)).trans ((zm_ur_ne (by decide)).trans ((zm_ur_ne (by decide)).trans ((zm_ur_ne (by decide)).trans ((zm_ur_ne (by decide)).trans ((zm_ur_ne (by decide)).trans ((zm_ur_ne (by decide)).trans ((zm_ur_ne (by decide)).trans ((zm_ur_ne (by decide)).trans ((zm_ur_ne (by decide)).trans ((zm_ur_ne (by decide)).trans ((zm_ur_ne (by decide)).trans ((zm_ur_ne (by decide)).trans ((zm_ur_ne (by decide)).trans ((zm_ur_ne (by decide)).trans ((zm_ur_ne (by decide)).trans ((zm_ur_ne (by decide)).trans ((zm_ur_ne (by decide)).trans ((zm_ur_ne (by decide)).trans ((zm_ur_ne (by decide)).trans ((zm_ur_ne (by decide)).trans ((zm_ur_ne (by decide)).trans ((zm_ur_ne (by decide)).trans ((zm_ur_ne (by decide)).trans ((zm_ur_ne (by decide)).trans ((zm_ur_ne (by decide)).trans ((zm_ur_ne (by decide)).trans ((zm_ur_ne (by decide)).trans ((zm_ur_ne (by decide)).trans (hz _ _ (Nat.le_of_ble_eq_true rfl))))))))))))))))))))))))))))))))))))))))))))))) dv_X3 (Nat.le_of_ble_eq_true rfl) (Nat.le_of_ble_eq_true rfl) (fun M117 _ => ?_)
  refine zm_dup 121 rfl dX10_init_120 rfl ?_
  refine zm_aload_n 122 rfl dX10_init_121 rfl 0 rfl ?_
  refine zm_getT 125 rfl dX10_init_122 fl_X10_60 rfl ⟨(Nat.le_of_ble_eq_true rfl), (Nat.le_of_ble_eq_true rfl)⟩ (fun t122 _ ht122 => ?_)
  refine zm_callI (w2 := (51, (zm_ur (zm_ur (zm_ur (zm_ur (zm_ur (zm_ur (zm_ur (zm_ur (zm_ur (zm_ur (zm_ur (zm_ur (zm_ur (zm_ur (zm_ur (zm_ur (zm_ur (zm_ur (zm_ur (zm_ur (zm_ur (zm_ur (zm_ur (zm_ur (zm_ur (zm_ur (zm_ur (zm_ur (zm_ur (zm_ur (zm_ur (zm_ur (zm_ur (zm_ur (zm_ur (zm_ur (zm_ur (zm_ur (zm_ur (zm_ur (zm_ur (zm_ur (zm_ur (zm_ur (zm_ur (zm_ur (zm_ur (zm_ur rf 1 0 2) 3 0 4) 3 1 5) 3 2 6) 3 3 7) 1 1 3) 8 1 9) 8 2 10) 8 0 3) 1 2 8) 11 0 12) 1 3 11) 13 0 14) 1 4 13) 1 5 15) 16 0 17) 16 1 18) 16 2 19) 16 3 20) 16 4 21) 16 5 22) 16 6 23) 1 6 16) 1 8 24) 25 0 26) 25 1 27) 25 2 28) 25 3 29) 25 4 30) 25 5 31) 25 6 32) 25 7 33) 25 8 34) 25 9 35) 36 0 37) 36 1 38) 36 2 39) 36 3 40) 36 4 41) 36 5 42) 36 6 43) 36 7 44) 36 8 45) 36 9 46) 48 0 49) 48 1 50) 47 0 48) 47 1 51))) 128 50 6469 rfl rfl rfl dX10_init_125 [.ref (E.2.1 + t122)] [.ref (E.2.1 + 47), .ref (E.2.1 + 1)] rfl il_X10_73 rfl rfl rfl (Nat.le_of_ble_eq_true rfl) ⟨(Nat.le_of_ble_eq_true rfl), (Nat.le_of_ble_eq_true rfl)⟩ rfl rfl ⟨(Nat.le_of_ble_eq_true rfl), (Nat.le_of_ble_eq_true rfl)⟩ rfl (fun _ h => k_X3_init_47 E (zm_ur (zm_ur (zm_ur (zm_ur (zm_ur (zm_ur (zm_ur (zm_ur (zm_ur (zm_ur (zm_ur (zm_ur (zm_ur (zm_ur (zm_ur (zm_ur (zm_ur (zm_ur (zm_ur (zm_ur (zm_ur (zm_ur (zm_ur (zm_ur (zm_ur (zm_ur (zm_ur (zm_ur (zm_ur (zm_ur (zm_ur (zm_ur (zm_ur (zm_ur (zm_ur (zm_ur (zm_ur (zm_ur (zm_ur (zm_ur (zm_ur (zm_ur (zm_ur (zm_ur rf 1 0 2) 3 0 4) 3 1 5) 3 2 6) 3 3 7) 1 1 3) 8 1 9) 8 2 10) 8 0 3) 1 2 8) 11 0 12) 1 3 11) 13 0 14) 1 4 13) 1 5 15) 16 0 17) 16 1 18) 16 2 19) 16 3 20) 16 4 21) 16 5 22) 16 6 23) 1 6 16) 1 8 24) 25 0 26) 25 1 27) 25 2 28) 25 3 29) 25 4 30) 25 5 31) 25 6 32) 25 7 33) 25 8 34) 25 9 35) 36 0 37) 36 1 38) 36 2 39) 36 3 40) 36 4 41) 36 5 42) 36 6 43) 36 7 44) 36 8 45) 36 9 46) (fun id j hj => ((zm_ur_ne (by omega)).trans ((zm_ur_ne (by omega)).trans ((zm_ur_ne (by omega)).trans ((zm_ur_ne (by omega)).trans ((zm_ur_ne (by omega)).trans ((zm_ur_ne (by omega)).trans ((zm_ur_ne (by omega)).trans ((zm_ur_ne (by omega)).trans ((zm_ur_ne (by omega)).trans ((zm_ur_ne (by omega)).trans ((zm_ur_ne (by omega)).trans ((zm_ur_ne (by omega)).trans ((zm_ur_ne (by omega)).trans ((zm_ur_ne (by omega)).trans ((zm_ur_ne (by omega)).trans ((zm_ur_ne (by omega)).trans ((zm_ur_ne (by omega)).trans ((zm_ur_ne (by omega)).trans ((zm_ur_ne (by omega)).trans ((zm_ur_ne (by omega)).trans ((zm_ur_ne (by omega)).trans ((zm_ur_ne (by omega)).trans ((zm_ur_ne (by omega)).trans ((zm_ur_ne (by omega)).trans ((zm_ur_ne (by omega)).trans ((zm_ur_ne (by omega)).trans ((zm_ur_ne (by omega)).trans ((zm_ur_ne (by omega)).trans ((zm_ur_ne (by omega)).trans ((zm_ur_ne (by omega)).trans ((zm_ur_ne (by omega)).trans ((zm_ur_ne (by omega)).trans ((zm_ur_ne (by omega)).trans ((zm_ur_ne (by omega)).trans ((zm_ur_ne (by omega)).trans ((zm_ur_ne (by omega)).trans ((zm_ur_ne (by omega)).trans ((zm_ur_ne (by omega)).trans ((zm_ur_ne (by omega)).trans ((zm_ur_ne (by omega)).trans ((zm_ur_ne (by omega)).trans ((zm_ur_ne (by omega)).trans ((zm_ur_ne (by omega)).trans ((zm_ur_ne (by omega)).trans (hz id j (by omega))))))))))))))))))))))))))))))))))))))))))))))) t122 ht122 M117 h) (fun M125 => ?_)
  refine zm_putr 131 rfl dX10_init_128 ff_X10_76 rfl rfl ⟨(Nat.le_of_ble_eq_true rfl), (Nat.le_of_ble_eq_true rfl)⟩ (by decide) ?_
  exact zm_vret dX10_init_131 rfl (Nat.le_of_ble_eq_true rfl) (Nat.le_of_ble_eq_true rfl) rfl
abbrev Y_X11_init_52 : zm_Y := (cX11_init, 1, RX11, { frames := 2, cells := 50, slots := 27872, locals := 48 }, none, true, "<init>")
noncomputable def f_X11_init_52  (M : zm_Mem) : Option (Unit × zm_Mem) :=
  zm_v (zm_zero M 53) <| fun M8 => zm_v (zm_zero M8 54) <| fun M17 => zm_v (zm_zero M17 55) <| fun M26 => zm_v (zm_zero M26 56) <| fun M35 => zm_v (zm_zero M35 57) <| fun M44 => zm_v (zm_zero M44 58) <| fun M53 => zm_v (zm_zero M53 59) <| fun M61 => zm_v (zm_sI M61 52 17 (-1)) <| fun M68 => zm_v (zm_zero M68 60) <| fun M74 => zm_v (zm_zero M74 61) <| fun M82 => zm_v (zm_zero M82 62) <| fun M90 => zm_v (zm_zero M90 63) <| fun M97 => zm_v (zm_zero M97 64) <| fun M105 => zm_v (zm_zero M105 65) <| fun M113 => zm_v (zm_zero M113 66) <| fun M120 => zm_v (zm_zero M120 67) <| fun M128 => zm_v (zm_zero M128 68) <| fun M136 => zm_v (zm_zero M136 69) <| fun M144 => zm_v (zm_zero M144 70) <| fun M152 => zm_v (zm_zero M152 71) <| fun M159 => zm_v (zm_zero M159 72) <| fun M167 => zm_v (zm_zero M167 73) <| fun M175 => zm_v (zm_zero M175 74) <| fun M183 => zm_v (zm_zero M183 75) <| fun M191 => zm_v (zm_zero M191 76) <| fun M198 => zm_v (zm_zero M198 77) <| fun M205 => zm_v (zm_zero M205 78) <| fun M212 => zm_v (zm_zero M212 79) <| fun M219 => zm_v (zm_zero M219 80) <| fun M226 => zm_v (zm_zero M226 81) <| fun M235 => zm_v (zm_zero M235 82) <| fun M244 => zm_v (zm_zero M244 83) <| fun M253 => zm_v (zm_zero M253 84) <| fun M262 => zm_v (zm_zero M262 85) <| fun M271 => zm_v (zm_zero M271 86) <| fun M280 => zm_v (zm_zero M280 87) <| fun M289 => zm_v (zm_zero M289 88) <| fun M297 => zm_v (zm_zero M297 89) <| fun M305 => zm_v (zm_zero M305 90) <| fun M314 => zm_v (zm_zero M314 91) <| fun M322 => zm_v (zm_zero M322 92) <| fun M330 => zm_v (zm_zero M330 93) <| fun M339 => zm_v (zm_zero M339 94) <| fun M347 => zm_v (zm_zero M347 95) <| fun M356 => zm_v (zm_zero M356 96) <| fun M365 => zm_v (zm_zero M365 97) <| fun M373 => zm_v (zm_zero M373 98) <| fun M381 => zm_v (zm_zero M381 99) <| fun M389 => zm_v (zm_zero M389 100) <| fun M397 => zm_v (zm_zero M397 101) <| fun M404 => zm_v (zm_zero M404 102) <| fun M413 => zm_b2 (f_X11_plain 0 M413) <| fun _ M420 => zm_b1 (f_X11_word 104 111 117 115 101 0 0 M420) <| fun r440 => zm_ck (zm_in 0 20) <| zm_v (zm_sL M420 59 (0 : Int32).toNatClampNeg r440) <| fun M443 => zm_b1 (f_X11_word 119 111 114 107 0 0 0 M443) <| fun r460 => zm_ck (zm_in 1 20) <| zm_v (zm_sL M443 59 (1 : Int32).toNatClampNeg r460) <| fun M463 => zm_b1 (f_X11_word 116 101 114 109 0 0 0 M463) <| fun r480 => zm_ck (zm_in 2 20) <| zm_v (zm_sL M463 59 (2 : Int32).toNatClampNeg r480) <| fun M483 => zm_b1 (f_X11_word 116 114 105 112 0 0 0 M483) <| fun r500 => zm_ck (zm_in 3 20) <| zm_v (zm_sL M483 59 (3 : Int32).toNatClampNeg r500) <| fun M503 => zm_b1 (f_X11_word 108 105 107 101 115 0 0 M503) <| fun r521 => zm_ck (zm_in 4 20) <| zm_v (zm_sL M503 59 (4 : Int32).toNatClampNeg r521) <| fun M524 => zm_b1 (f_X11_word 108 97 116 101 0 0 0 M524) <| fun r541 => zm_ck (zm_in 5 20) <| zm_v (zm_sL M524 59 (5 : Int32).toNatClampNeg r541) <| fun M544 => zm_b1 (f_X11_word 99 111 117 114 105 101 114 M544) <| fun r565 => zm_b1 (f_X11_appends r565 115 M544) <| fun r570 => zm_ck (zm_in 6 20) <| zm_v (zm_sL M544 59 (6 : Int32).toNatClampNeg r570) <| fun M573 => zm_b1 (f_X11_word 115 101 101 100 0 0 0 M573) <| fun r591 => zm_ck (zm_in 7 20) <| zm_v (zm_sL M573 59 (7 : Int32).toNatClampNeg r591) <| fun M594 => zm_b1 (f_X11_word 105 102 0 0 0 0 0 M594) <| fun r610 => zm_ck (zm_in 8 20) <| zm_v (zm_sL M594 59 (8 : Int32).toNatClampNeg r610) <| fun M613 => zm_b1 (f_X11_word 116 104 101 110 0 0 0 M613) <| fun r631 => zm_ck (zm_in 9 20) <| zm_v (zm_sL M613 59 (9 : Int32).toNatClampNeg r631) <| fun M634 => zm_b1 (f_X11_word 101 108 115 101 0 0 0 M634) <| fun r652 => zm_ck (zm_in 10 20) <| zm_v (zm_sL M634 59 (10 : Int32).toNatClampNeg r652) <| fun M655 => zm_b1 (f_X11_word 110 111 114 116 104 0 0 M655) <| fun r674 => zm_ck (zm_in 11 20) <| zm_v (zm_sL M655 59 (11 : Int32).toNatClampNeg r674) <| fun M677 => zm_b1 (f_X11_word 119 97 108 108 115 0 0 M677) <| fun r696 => zm_ck (zm_in 12 20) <| zm_v (zm_sL M677 59 (12 : Int32).toNatClampNeg r696) <| fun M699 => zm_b1 (f_X11_word 107 105 110 100 0 0 0 M699) <| fun r717 => zm_ck (zm_in 13 20) <| zm_v (zm_sL M699 59 (13 : Int32).toNatClampNeg r717) <| fun M720 => zm_b1 (f_X11_word 118 97 108 117 101 0 0 M720) <| fun r739 => zm_ck (zm_in 14 20) <| zm_v (zm_sL M720 59 (14 : Int32).toNatClampNeg r739) <| fun M742 => zm_b1 (f_X11_word 109 97 110 121 0 0 0 M742) <| fun r760 => zm_ck (zm_in 15 20) <| zm_v (zm_sL M742 59 (15 : Int32).toNatClampNeg r760) <| fun M763 => zm_b1 (f_X11_word 115 97 109 101 0 0 0 M763) <| fun r781 => zm_ck (zm_in 16 20) <| zm_v (zm_sL M763 59 (16 : Int32).toNatClampNeg r781) <| fun M784 => zm_b1 (f_X11_word 104 111 109 101 0 0 0 M784) <| fun r802 => zm_ck (zm_in 17 20) <| zm_v (zm_sL M784 59 (17 : Int32).toNatClampNeg r802) <| fun M805 => zm_b1 (f_X11_word 119 104 105 99 104 0 0 M805) <| fun r824 => zm_ck (zm_in 18 20) <| zm_v (zm_sL M805 59 (18 : Int32).toNatClampNeg r824) <| fun M827 => zm_b1 (f_X11_word 100 97 121 0 0 0 0 M827) <| fun r844 => zm_ck (zm_in 19 20) <| zm_v (zm_sL M827 59 (19 : Int32).toNatClampNeg r844) <| fun M847 => zm_b2 (f_X11_begins M847) <| fun _ M849 => zm_b2 (f_X11_keepsRow M849) <| fun _ M853 => some ((), M853)
set_option maxRecDepth 20000 in
set_option maxHeartbeats 4000000 in
theorem k_X11_init_52 (E : zm_E)  (M : zm_Mem) {r : Unit} {M' : zm_Mem} (h : f_X11_init_52 M = some (r, M')) : zm_Ct E (52, zm_rfA) (zm_w 0) yX11_init Y_X11_init_52 [.ref (E.2.1 + 52)] M none M' := by
  refine zm_meth (emb := zm_ev) (d := f_X11_init_52 M) (by decide) rfl rfl (Nat.le_of_ble_eq_true rfl) h (fun X => ?_)
  show zm_V X Y_X11_init_52 E (zm_Q X E Y_X11_init_52.2.2.2.1.cells Y_X11_init_52.2.2.2.1.slots (zm_w 0) zm_ev) 0 0 true (52, zm_rfA) 0 [(0, .ref (E.2.1 + 52))] [] M (f_X11_init_52 M) some
  unfold f_X11_init_52
  refine zm_aload_n 1 rfl dX11_init_0 rfl 0 rfl ?_
  refine zm_objI 4 rfl dX11_init_1 oi_X11_7 oi_inst oi_code (Nat.le_of_ble_eq_true rfl) (Nat.le_of_ble_eq_true rfl) ?_
  refine zm_aload_n 5 rfl dX11_init_4 rfl 0 rfl ?_
  refine zm_sipush 8 rfl dX11_init_5 zs_2000 ?_
  refine zm_newi (id := 53) (N := 2000) (kd := 1) (ty := .byte) 10 1 2000 rfl rfl rfl dX11_init_8 akbyte rfl rfl rfl (Or.inr (Or.inl ⟨rfl, rfl⟩)) (by decide) (by decide) (Nat.le_of_ble_eq_true rfl) (Nat.le_of_ble_eq_true rfl) (Nat.le_of_ble_eq_true rfl) (fun M8 _ => ?_)
  refine zm_putr 13 rfl dX11_init_10 ff_X11_13 rfl rfl ⟨(Nat.le_of_ble_eq_true rfl), (Nat.le_of_ble_eq_true rfl)⟩ (by decide) ?_
  refine zm_aload_n 14 rfl dX11_init_13 rfl 0 rfl ?_
  refine zm_sipush 17 rfl dX11_init_14 zs_2000 ?_
  refine zm_newi (id := 54) (N := 2000) (kd := 1) (ty := .byte) 19 2 4000 rfl rfl rfl dX11_init_17 akbyte rfl rfl rfl (Or.inr (Or.inl ⟨rfl, rfl⟩)) (by decide) (by decide) (Nat.le_of_ble_eq_true rfl) (Nat.le_of_ble_eq_true rfl) (Nat.le_of_ble_eq_true rfl) (fun M17 _ => ?_)
  refine zm_putr 22 rfl dX11_init_19 ff_X11_17 rfl rfl ⟨(Nat.le_of_ble_eq_true rfl), (Nat.le_of_ble_eq_true rfl)⟩ (by decide) ?_
  refine zm_aload_n 23 rfl dX11_init_22 rfl 0 rfl ?_
  refine zm_sipush 26 rfl dX11_init_23 zs_403 ?_
  refine zm_newi (id := 55) (N := 403) (kd := 0) (ty := .int) 28 3 4403 rfl rfl rfl dX11_init_26 akint rfl rfl rfl (Or.inl ⟨rfl, rfl⟩) (by decide) (by decide) (Nat.le_of_ble_eq_true rfl) (Nat.le_of_ble_eq_true rfl) (Nat.le_of_ble_eq_true rfl) (fun M26 _ => ?_)
  refine zm_putr 31 rfl dX11_init_28 ff_X11_20 rfl rfl ⟨(Nat.le_of_ble_eq_true rfl), (Nat.le_of_ble_eq_true rfl)⟩ (by decide) ?_
  refine zm_aload_n 32 rfl dX11_init_31 rfl 0 rfl ?_
  refine zm_sipush 35 rfl dX11_init_32 zs_403 ?_
  refine zm_newi (id := 56) (N := 403) (kd := 0) (ty := .int) 37 4 4806 rfl rfl rfl dX11_init_35 akint rfl rfl rfl (Or.inl ⟨rfl, rfl⟩) (by decide) (by decide) (Nat.le_of_ble_eq_true rfl) (Nat.le_of_ble_eq_true rfl) (Nat.le_of_ble_eq_true rfl) (fun M35 _ => ?_)
  refine zm_putr 40 rfl dX11_init_37 ff_X11_24 rfl rfl ⟨(Nat.le_of_ble_eq_true rfl), (Nat.le_of_ble_eq_true rfl)⟩ (by decide) ?_
  refine zm_aload_n 41 rfl dX11_init_40 rfl 0 rfl ?_
  refine zm_sipush 44 rfl dX11_init_41 zs_403 ?_
  refine zm_newi (id := 57) (N := 403) (kd := 0) (ty := .int) 46 5 5209 rfl rfl rfl dX11_init_44 akint rfl rfl rfl (Or.inl ⟨rfl, rfl⟩) (by decide) (by decide) (Nat.le_of_ble_eq_true rfl) (Nat.le_of_ble_eq_true rfl) (Nat.le_of_ble_eq_true rfl) (fun M44 _ => ?_)
  refine zm_putr 49 rfl dX11_init_46 ff_X11_27 rfl rfl ⟨(Nat.le_of_ble_eq_true rfl), (Nat.le_of_ble_eq_true rfl)⟩ (by decide) ?_
  refine zm_aload_n 50 rfl dX11_init_49 rfl 0 rfl ?_
  refine zm_sipush 53 rfl dX11_init_50 zs_403 ?_
  refine zm_newj (id := 58) (N := 403) 55 6 5612 rfl rfl rfl dX11_init_53 aklong rfl rfl rfl (by decide) (by decide) (Nat.le_of_ble_eq_true rfl) (Nat.le_of_ble_eq_true rfl) (Nat.le_of_ble_eq_true rfl) (fun M53 _ => ?_)
  refine zm_putr 58 rfl dX11_init_55 ff_X11_30 rfl rfl ⟨(Nat.le_of_ble_eq_true rfl), (Nat.le_of_ble_eq_true rfl)⟩ (by decide) ?_
  refine zm_aload_n 59 rfl dX11_init_58 rfl 0 rfl ?_
  refine zm_bipush 61 rfl dX11_init_59 zb_20 ?_
  refine zm_newj (id := 59) (N := 20) 63 7 5632 rfl rfl rfl dX11_init_61 aklong rfl rfl rfl (by decide) (by decide) (Nat.le_of_ble_eq_true rfl) (Nat.le_of_ble_eq_true rfl) (Nat.le_of_ble_eq_true rfl) (fun M61 _ => ?_)
  refine zm_putr 66 rfl dX11_init_63 ff_X11_34 rfl rfl ⟨(Nat.le_of_ble_eq_true rfl), (Nat.le_of_ble_eq_true rfl)⟩ (by decide) ?_
  refine zm_aload_n 67 rfl dX11_init_66 rfl 0 rfl ?_
  refine zm_iconst 68 rfl dX11_init_67 zi_m1 ?_
  refine zm_putI 71 rfl dX11_init_68 fp_X11_37 rfl ⟨(Nat.le_of_ble_eq_true rfl), (Nat.le_of_ble_eq_true rfl)⟩ rfl rfl (fun M68 _ => ?_)
  refine zm_aload_n 72 rfl dX11_init_71 rfl 0 rfl ?_
  refine zm_bipush 74 rfl dX11_init_72 zb_11 ?_
  refine zm_newj (id := 60) (N := 11) 76 8 5643 rfl rfl rfl dX11_init_74 aklong rfl rfl rfl (by decide) (by decide) (Nat.le_of_ble_eq_true rfl) (Nat.le_of_ble_eq_true rfl) (Nat.le_of_ble_eq_true rfl) (fun M74 _ => ?_)
  refine zm_putr 79 rfl dX11_init_76 ff_X11_40 rfl rfl ⟨(Nat.le_of_ble_eq_true rfl), (Nat.le_of_ble_eq_true rfl)⟩ (by decide) ?_
  refine zm_aload_n 80 rfl dX11_init_79 rfl 0 rfl ?_
  refine zm_bipush 82 rfl dX11_init_80 zb_11 ?_
  refine zm_newi (id := 61) (N := 11) (kd := 0) (ty := .int) 84 9 5654 rfl rfl rfl dX11_init_82 akint rfl rfl rfl (Or.inl ⟨rfl, rfl⟩) (by decide) (by decide) (Nat.le_of_ble_eq_true rfl) (Nat.le_of_ble_eq_true rfl) (Nat.le_of_ble_eq_true rfl) (fun M82 _ => ?_)
  refine zm_putr 87 rfl dX11_init_84 ff_X11_43 rfl rfl ⟨(Nat.le_of_ble_eq_true rfl), (Nat.le_of_ble_eq_true rfl)⟩ (by decide) ?_
  refine zm_aload_n 88 rfl dX11_init_87 rfl 0 rfl ?_
  refine zm_bipush 90 rfl dX11_init_88 zb_11 ?_
  refine zm_newi (id := 62) (N := 11) (kd := 0) (ty := .int) 92 10 5665 rfl rfl rfl dX11_init_90 akint rfl rfl rfl (Or.inl ⟨rfl, rfl⟩) (by decide) (by decide) (Nat.le_of_ble_eq_true rfl) (Nat.le_of_ble_eq_true rfl) (Nat.le_of_ble_eq_true rfl) (fun M90 _ => ?_)
  refine zm_putr 95 rfl dX11_init_92 ff_X11_46 rfl rfl ⟨(Nat.le_of_ble_eq_true rfl), (Nat.le_of_ble_eq_true rfl)⟩ (by decide) ?_
  refine zm_aload_n 96 rfl dX11_init_95 rfl 0 rfl ?_
  refine zm_iconst 97 rfl dX11_init_96 zi_2 ?_
  refine zm_newi (id := 63) (N := 2) (kd := 0) (ty := .int) 99 11 5667 rfl rfl rfl dX11_init_97 akint rfl rfl rfl (Or.inl ⟨rfl, rfl⟩) (by decide) (by decide) (Nat.le_of_ble_eq_true rfl) (Nat.le_of_ble_eq_true rfl) (Nat.le_of_ble_eq_true rfl) (fun M97 _ => ?_)
  refine zm_putr 102 rfl dX11_init_99 ff_X11_49 rfl rfl ⟨(Nat.le_of_ble_eq_true rfl), (Nat.le_of_ble_eq_true rfl)⟩ (by decide) ?_
  refine zm_aload_n 103 rfl dX11_init_102 rfl 0 rfl ?_
  refine zm_bipush 105 rfl dX11_init_103 zb_10 ?_
  refine zm_newi (id := 64) (N := 10) (kd := 0) (ty := .int) 107 12 5677 rfl rfl rfl dX11_init_105 akint rfl rfl rfl (Or.inl ⟨rfl, rfl⟩) (by decide) (by decide) (Nat.le_of_ble_eq_true rfl) (Nat.le_of_ble_eq_true rfl) (Nat.le_of_ble_eq_true rfl) (fun M105 _ => ?_)
  refine zm_putr 110 rfl dX11_init_107 ff_X11_52 rfl rfl ⟨(Nat.le_of_ble_eq_true rfl), (Nat.le_of_ble_eq_true rfl)⟩ (by decide) ?_
  refine zm_aload_n 111 rfl dX11_init_110 rfl 0 rfl ?_
  refine zm_bipush 113 rfl dX11_init_111 zb_10 ?_
  refine zm_newi (id := 65) (N := 10) (kd := 0) (ty := .int) 115 13 5687 rfl rfl rfl dX11_init_113 akint rfl rfl rfl (Or.inl ⟨rfl, rfl⟩) (by decide) (by decide) (Nat.le_of_ble_eq_true rfl) (Nat.le_of_ble_eq_true rfl) (Nat.le_of_ble_eq_true rfl) (fun M113 _ => ?_)
  refine zm_putr 118 rfl dX11_init_115 ff_X11_55 rfl rfl ⟨(Nat.le_of_ble_eq_true rfl), (Nat.le_of_ble_eq_true rfl)⟩ (by decide) ?_
  refine zm_aload_n 119 rfl dX11_init_118 rfl 0 rfl ?_
  refine zm_iconst 120 rfl dX11_init_119 zi_2 ?_
  refine zm_newi (id := 66) (N := 2) (kd := 0) (ty := .int) 122 14 5689 rfl rfl rfl dX11_init_120 akint rfl rfl rfl (Or.inl ⟨rfl, rfl⟩) (by decide) (by decide) (Nat.le_of_ble_eq_true rfl) (Nat.le_of_ble_eq_true rfl) (Nat.le_of_ble_eq_true rfl) (fun M120 _ => ?_)
  refine zm_putr 125 rfl dX11_init_122 ff_X11_58 rfl rfl ⟨(Nat.le_of_ble_eq_true rfl), (Nat.le_of_ble_eq_true rfl)⟩ (by decide) ?_
  refine zm_aload_n 126 rfl dX11_init_125 rfl 0 rfl ?_
  refine zm_bipush 128 rfl dX11_init_126 zb_12 ?_
  refine zm_newi (id := 67) (N := 12) (kd := 0) (ty := .int) 130 15 5701 rfl rfl rfl dX11_init_128 akint rfl rfl rfl (Or.inl ⟨rfl, rfl⟩) (by decide) (by decide) (Nat.le_of_ble_eq_true rfl) (Nat.le_of_ble_eq_true rfl) (Nat.le_of_ble_eq_true rfl) (fun M128 _ => ?_)
  refine zm_putr 133 rfl dX11_init_130 ff_X11_61 rfl rfl ⟨(Nat.le_of_ble_eq_true rfl), (Nat.le_of_ble_eq_true rfl)⟩ (by decide) ?_
  refine zm_aload_n 134 rfl dX11_init_133 rfl 0 rfl ?_
  refine zm_bipush 136 rfl dX11_init_134 zb_12 ?_
  refine zm_newi (id := 68) (N := 12) (kd := 0) (ty := .int) 138 16 5713 rfl rfl rfl dX11_init_136 akint rfl rfl rfl (Or.inl ⟨rfl, rfl⟩) (by decide) (by decide) (Nat.le_of_ble_eq_true rfl) (Nat.le_of_ble_eq_true rfl) (Nat.le_of_ble_eq_true rfl) (fun M136 _ => ?_)
  refine zm_putr 141 rfl dX11_init_138 ff_X11_64 rfl rfl ⟨(Nat.le_of_ble_eq_true rfl), (Nat.le_of_ble_eq_true rfl)⟩ (by decide) ?_
  refine zm_aload_n 142 rfl dX11_init_141 rfl 0 rfl ?_
  refine zm_bipush 144 rfl dX11_init_142 zb_12 ?_
  refine zm_newi (id := 69) (N := 12) (kd := 0) (ty := .int) 146 17 5725 rfl rfl rfl dX11_init_144 akint rfl rfl rfl (Or.inl ⟨rfl, rfl⟩) (by decide) (by decide) (Nat.le_of_ble_eq_true rfl) (Nat.le_of_ble_eq_true rfl) (Nat.le_of_ble_eq_true rfl) (fun M144 _ => ?_)
  refine zm_putr 149 rfl dX11_init_146 ff_X11_67 rfl rfl ⟨(Nat.le_of_ble_eq_true rfl), (Nat.le_of_ble_eq_true rfl)⟩ (by decide) ?_
  refine zm_aload_n 150 rfl dX11_init_149 rfl 0 rfl ?_
  refine zm_bipush 152 rfl dX11_init_150 zb_12 ?_
  refine zm_newi (id := 70) (N := 12) (kd := 0) (ty := .int) 154 18 5737 rfl rfl rfl dX11_init_152 akint rfl rfl rfl (Or.inl ⟨rfl, rfl⟩) (by decide) (by decide) (Nat.le_of_ble_eq_true rfl) (Nat.le_of_ble_eq_true rfl) (Nat.le_of_ble_eq_true rfl) (fun M152 _ => ?_)
  refine zm_putr 157 rfl dX11_init_154 ff_X11_70 rfl rfl ⟨(Nat.le_of_ble_eq_true rfl), (Nat.le_of_ble_eq_true rfl)⟩ (by decide) ?_
  refine zm_aload_n 158 rfl dX11_init_157 rfl 0 rfl ?_
  refine zm_iconst 159 rfl dX11_init_158 zi_2 ?_
  refine zm_newi (id := 71) (N := 2) (kd := 0) (ty := .int) 161 19 5739 rfl rfl rfl dX11_init_159 akint rfl rfl rfl (Or.inl ⟨rfl, rfl⟩) (by decide) (by decide) (Nat.le_of_ble_eq_true rfl) (Nat.le_of_ble_eq_true rfl) (Nat.le_of_ble_eq_true rfl) (fun M159 _ => ?_)
  refine zm_putr 164 rfl dX11_init_161 ff_X11_73 rfl rfl ⟨(Nat.le_of_ble_eq_true rfl), (Nat.le_of_ble_eq_true rfl)⟩ (by decide) ?_
  refine zm_aload_n 165 rfl dX11_init_164 rfl 0 rfl ?_
  refine zm_bipush 167 rfl dX11_init_165 zb_12 ?_
  refine zm_newi (id := 72) (N := 12) (kd := 0) (ty := .int) 169 20 5751 rfl rfl rfl dX11_init_167 akint rfl rfl rfl (Or.inl ⟨rfl, rfl⟩) (by decide) (by decide) (Nat.le_of_ble_eq_true rfl) (Nat.le_of_ble_eq_true rfl) (Nat.le_of_ble_eq_true rfl) (fun M167 _ => ?_)
  refine zm_putr 172 rfl dX11_init_169 ff_X11_76 rfl rfl ⟨(Nat.le_of_ble_eq_true rfl), (Nat.le_of_ble_eq_true rfl)⟩ (by decide) ?_
  refine zm_aload_n 173 rfl dX11_init_172 rfl 0 rfl ?_
  refine zm_bipush 175 rfl dX11_init_173 zb_12 ?_
  refine zm_newi (id := 73) (N := 12) (kd := 0) (ty := .int) 177 21 5763 rfl rfl rfl dX11_init_175 akint rfl rfl rfl (Or.inl ⟨rfl, rfl⟩) (by decide) (by decide) (Nat.le_of_ble_eq_true rfl) (Nat.le_of_ble_eq_true rfl) (Nat.le_of_ble_eq_true rfl) (fun M175 _ => ?_)
  refine zm_putr 180 rfl dX11_init_177 ff_X11_79 rfl rfl ⟨(Nat.le_of_ble_eq_true rfl), (Nat.le_of_ble_eq_true rfl)⟩ (by decide) ?_
  refine zm_aload_n 181 rfl dX11_init_180 rfl 0 rfl ?_
  refine zm_bipush 183 rfl dX11_init_181 zb_12 ?_
  refine zm_newi (id := 74) (N := 12) (kd := 0) (ty := .int) 185 22 5775 rfl rfl rfl dX11_init_183 akint rfl rfl rfl (Or.inl ⟨rfl, rfl⟩) (by decide) (by decide) (Nat.le_of_ble_eq_true rfl) (Nat.le_of_ble_eq_true rfl) (Nat.le_of_ble_eq_true rfl) (fun M183 _ => ?_)
  refine zm_putr 188 rfl dX11_init_185 ff_X11_82 rfl rfl ⟨(Nat.le_of_ble_eq_true rfl), (Nat.le_of_ble_eq_true rfl)⟩ (by decide) ?_
  refine zm_aload_n 189 rfl dX11_init_188 rfl 0 rfl ?_
  refine zm_bipush 191 rfl dX11_init_189 zb_12 ?_
  refine zm_newi (id := 75) (N := 12) (kd := 0) (ty := .int) 193 23 5787 rfl rfl rfl dX11_init_191 akint rfl rfl rfl (Or.inl ⟨rfl, rfl⟩) (by decide) (by decide) (Nat.le_of_ble_eq_true rfl) (Nat.le_of_ble_eq_true rfl) (Nat.le_of_ble_eq_true rfl) (fun M191 _ => ?_)
  refine zm_putr 196 rfl dX11_init_193 ff_X11_85 rfl rfl ⟨(Nat.le_of_ble_eq_true rfl), (Nat.le_of_ble_eq_true rfl)⟩ (by decide) ?_
  refine zm_aload_n 197 rfl dX11_init_196 rfl 0 rfl ?_
  refine zm_iconst 198 rfl dX11_init_197 zi_2 ?_
  refine zm_newi (id := 76) (N := 2) (kd := 0) (ty := .int) 200 24 5789 rfl rfl rfl dX11_init_198 akint rfl rfl rfl (Or.inl ⟨rfl, rfl⟩) (by decide) (by decide) (Nat.le_of_ble_eq_true rfl) (Nat.le_of_ble_eq_true rfl) (Nat.le_of_ble_eq_true rfl) (fun M198 _ => ?_)
  refine zm_putr 203 rfl dX11_init_200 ff_X11_88 rfl rfl ⟨(Nat.le_of_ble_eq_true rfl), (Nat.le_of_ble_eq_true rfl)⟩ (by decide) ?_
  refine zm_aload_n 204 rfl dX11_init_203 rfl 0 rfl ?_
  refine zm_iconst 205 rfl dX11_init_204 zi_2 ?_
  refine zm_newi (id := 77) (N := 2) (kd := 0) (ty := .int) 207 25 5791 rfl rfl rfl dX11_init_205 akint rfl rfl rfl (Or.inl ⟨rfl, rfl⟩) (by decide) (by decide) (Nat.le_of_ble_eq_true rfl) (Nat.le_of_ble_eq_true rfl) (Nat.le_of_ble_eq_true rfl) (fun M205 _ => ?_)
  refine zm_putr 210 rfl dX11_init_207 ff_X11_91 rfl rfl ⟨(Nat.le_of_ble_eq_true rfl), (Nat.le_of_ble_eq_true rfl)⟩ (by decide) ?_
  refine zm_aload_n 211 rfl dX11_init_210 rfl 0 rfl ?_
  refine zm_iconst 212 rfl dX11_init_211 zi_2 ?_
  refine zm_newi (id := 78) (N := 2) (kd := 0) (ty := .int) 214 26 5793 rfl rfl rfl dX11_init_212 akint rfl rfl rfl (Or.inl ⟨rfl, rfl⟩) (by decide) (by decide) (Nat.le_of_ble_eq_true rfl) (Nat.le_of_ble_eq_true rfl) (Nat.le_of_ble_eq_true rfl) (fun M212 _ => ?_)
  refine zm_putr 217 rfl dX11_init_214 ff_X11_94 rfl rfl ⟨(Nat.le_of_ble_eq_true rfl), (Nat.le_of_ble_eq_true rfl)⟩ (by decide) ?_
  refine zm_aload_n 218 rfl dX11_init_217 rfl 0 rfl ?_
  refine zm_iconst 219 rfl dX11_init_218 zi_4 ?_
  refine zm_newi (id := 79) (N := 4) (kd := 0) (ty := .int) 221 27 5797 rfl rfl rfl dX11_init_219 akint rfl rfl rfl (Or.inl ⟨rfl, rfl⟩) (by decide) (by decide) (Nat.le_of_ble_eq_true rfl) (Nat.le_of_ble_eq_true rfl) (Nat.le_of_ble_eq_true rfl) (fun M219 _ => ?_)
  refine zm_putr 224 rfl dX11_init_221 ff_X11_97 rfl rfl ⟨(Nat.le_of_ble_eq_true rfl), (Nat.le_of_ble_eq_true rfl)⟩ (by decide) ?_
  refine zm_aload_n 225 rfl dX11_init_224 rfl 0 rfl ?_
  refine zm_iconst 226 rfl dX11_init_225 zi_4 ?_
  refine zm_newi (id := 80) (N := 4) (kd := 0) (ty := .int) 228 28 5801 rfl rfl rfl dX11_init_226 akint rfl rfl rfl (Or.inl ⟨rfl, rfl⟩) (by decide) (by decide) (Nat.le_of_ble_eq_true rfl) (Nat.le_of_ble_eq_true rfl) (Nat.le_of_ble_eq_true rfl) (fun M226 _ => ?_)
  refine zm_putr 231 rfl dX11_init_228 ff_X11_100 rfl rfl ⟨(Nat.le_of_ble_eq_true rfl), (Nat.le_of_ble_eq_true rfl)⟩ (by decide) ?_
  refine zm_aload_n 232 rfl dX11_init_231 rfl 0 rfl ?_
  refine zm_sipush 235 rfl dX11_init_232 zs_260 ?_
  refine zm_newi (id := 81) (N := 260) (kd := 3) (ty := .boolean) 237 29 6061 rfl rfl rfl dX11_init_235 akboolean rfl rfl rfl (Or.inr (Or.inr ⟨rfl, rfl⟩)) (by decide) (by decide) (Nat.le_of_ble_eq_true rfl) (Nat.le_of_ble_eq_true rfl) (Nat.le_of_ble_eq_true rfl) (fun M235 _ => ?_)
  refine zm_putr 240 rfl dX11_init_237 ff_X11_103 rfl rfl ⟨(Nat.le_of_ble_eq_true rfl), (Nat.le_of_ble_eq_true rfl)⟩ (by decide) ?_
  refine zm_aload_n 241 rfl dX11_init_240 rfl 0 rfl ?_
  refine zm_sipush 244 rfl dX11_init_241 zs_260 ?_
  refine zm_newi (id := 82) (N := 260) (kd := 0) (ty := .int) 246 30 6321 rfl rfl rfl dX11_init_244 akint rfl rfl rfl (Or.inl ⟨rfl, rfl⟩) (by decide) (by decide) (Nat.le_of_ble_eq_true rfl) (Nat.le_of_ble_eq_true rfl) (Nat.le_of_ble_eq_true rfl) (fun M244 _ => ?_)
  refine zm_putr 249 rfl dX11_init_246 ff_X11_107 rfl rfl ⟨(Nat.le_of_ble_eq_true rfl), (Nat.le_of_ble_eq_true rfl)⟩ (by decide) ?_
  refine zm_aload_n 250 rfl dX11_init_249 rfl 0 rfl ?_
  refine zm_sipush 253 rfl dX11_init_250 zs_260 ?_
  refine zm_newi (id := 83) (N := 260) (kd := 0) (ty := .int) 255 31 6581 rfl rfl rfl dX11_init_253 akint rfl rfl rfl (Or.inl ⟨rfl, rfl⟩) (by decide) (by decide) (Nat.le_of_ble_eq_true rfl) (Nat.le_of_ble_eq_true rfl) (Nat.le_of_ble_eq_true rfl) (fun M253 _ => ?_)
  refine zm_putr 258 rfl dX11_init_255 ff_X11_110 rfl rfl ⟨(Nat.le_of_ble_eq_true rfl), (Nat.le_of_ble_eq_true rfl)⟩ (by decide) ?_
  refine zm_aload_n 259 rfl dX11_init_258 rfl 0 rfl ?_
  refine zm_sipush 262 rfl dX11_init_259 zs_260 ?_
  refine zm_newi (id := 84) (N := 260) (kd := 0) (ty := .int) 264 32 6841 rfl rfl rfl dX11_init_262 akint rfl rfl rfl (Or.inl ⟨rfl, rfl⟩) (by decide) (by decide) (Nat.le_of_ble_eq_true rfl) (Nat.le_of_ble_eq_true rfl) (Nat.le_of_ble_eq_true rfl) (fun M262 _ => ?_)
  refine zm_putr 267 rfl dX11_init_264 ff_X11_113 rfl rfl ⟨(Nat.le_of_ble_eq_true rfl), (Nat.le_of_ble_eq_true rfl)⟩ (by decide) ?_
  refine zm_aload_n 268 rfl dX11_init_267 rfl 0 rfl ?_
  refine zm_sipush 271 rfl dX11_init_268 zs_260 ?_
  refine zm_newi (id := 85) (N := 260) (kd := 0) (ty := .int) 273 33 7101 rfl rfl rfl dX11_init_271 akint rfl rfl rfl (Or.inl ⟨rfl, rfl⟩) (by decide) (by decide) (Nat.le_of_ble_eq_true rfl) (Nat.le_of_ble_eq_true rfl) (Nat.le_of_ble_eq_true rfl) (fun M271 _ => ?_)
  refine zm_putr 276 rfl dX11_init_273 ff_X11_116 rfl rfl ⟨(Nat.le_of_ble_eq_true rfl), (Nat.le_of_ble_eq_true rfl)⟩ (by decide) ?_
  refine zm_aload_n 277 rfl dX11_init_276 rfl 0 rfl ?_
  refine zm_sipush 280 rfl dX11_init_277 zs_840 ?_
  refine zm_newi (id := 86) (N := 840) (kd := 0) (ty := .int) 282 34 7941 rfl rfl rfl dX11_init_280 akint rfl rfl rfl (Or.inl ⟨rfl, rfl⟩) (by decide) (by decide) (Nat.le_of_ble_eq_true rfl) (Nat.le_of_ble_eq_true rfl) (Nat.le_of_ble_eq_true rfl) (fun M280 _ => ?_)
  refine zm_putr 285 rfl dX11_init_282 ff_X11_119 rfl rfl ⟨(Nat.le_of_ble_eq_true rfl), (Nat.le_of_ble_eq_true rfl)⟩ (by decide) ?_
  refine zm_aload_n 286 rfl dX11_init_285 rfl 0 rfl ?_
  refine zm_sipush 289 rfl dX11_init_286 zs_840 ?_
  refine zm_newi (id := 87) (N := 840) (kd := 0) (ty := .int) 291 35 8781 rfl rfl rfl dX11_init_289 akint rfl rfl rfl (Or.inl ⟨rfl, rfl⟩) (by decide) (by decide) (Nat.le_of_ble_eq_true rfl) (Nat.le_of_ble_eq_true rfl) (Nat.le_of_ble_eq_true rfl) (fun M289 _ => ?_)
  refine zm_putr 294 rfl dX11_init_291 ff_X11_122 rfl rfl ⟨(Nat.le_of_ble_eq_true rfl), (Nat.le_of_ble_eq_true rfl)⟩ (by decide) ?_
  refine zm_aload_n 295 rfl dX11_init_294 rfl 0 rfl ?_
  refine zm_bipush 297 rfl dX11_init_295 zb_64 ?_
  refine zm_newi (id := 88) (N := 64) (kd := 0) (ty := .int) 299 36 8845 rfl rfl rfl dX11_init_297 akint rfl rfl rfl (Or.inl ⟨rfl, rfl⟩) (by decide) (by decide) (Nat.le_of_ble_eq_true rfl) (Nat.le_of_ble_eq_true rfl) (Nat.le_of_ble_eq_true rfl) (fun M297 _ => ?_)
  refine zm_putr 302 rfl dX11_init_299 ff_X11_125 rfl rfl ⟨(Nat.le_of_ble_eq_true rfl), (Nat.le_of_ble_eq_true rfl)⟩ (by decide) ?_
  refine zm_aload_n 303 rfl dX11_init_302 rfl 0 rfl ?_
  refine zm_bipush 305 rfl dX11_init_303 zb_9 ?_
  refine zm_newi (id := 89) (N := 9) (kd := 0) (ty := .int) 307 37 8854 rfl rfl rfl dX11_init_305 akint rfl rfl rfl (Or.inl ⟨rfl, rfl⟩) (by decide) (by decide) (Nat.le_of_ble_eq_true rfl) (Nat.le_of_ble_eq_true rfl) (Nat.le_of_ble_eq_true rfl) (fun M305 _ => ?_)
  refine zm_putr 310 rfl dX11_init_307 ff_X11_128 rfl rfl ⟨(Nat.le_of_ble_eq_true rfl), (Nat.le_of_ble_eq_true rfl)⟩ (by decide) ?_
  refine zm_aload_n 311 rfl dX11_init_310 rfl 0 rfl ?_
  refine zm_sipush 314 rfl dX11_init_311 zs_400 ?_
  refine zm_newi (id := 90) (N := 400) (kd := 0) (ty := .int) 316 38 9254 rfl rfl rfl dX11_init_314 akint rfl rfl rfl (Or.inl ⟨rfl, rfl⟩) (by decide) (by decide) (Nat.le_of_ble_eq_true rfl) (Nat.le_of_ble_eq_true rfl) (Nat.le_of_ble_eq_true rfl) (fun M314 _ => ?_)
  refine zm_putr 319 rfl dX11_init_316 ff_X11_131 rfl rfl ⟨(Nat.le_of_ble_eq_true rfl), (Nat.le_of_ble_eq_true rfl)⟩ (by decide) ?_
  refine zm_aload_n 320 rfl dX11_init_319 rfl 0 rfl ?_
  refine zm_bipush 322 rfl dX11_init_320 zb_60 ?_
  refine zm_newi (id := 91) (N := 60) (kd := 0) (ty := .int) 324 39 9314 rfl rfl rfl dX11_init_322 akint rfl rfl rfl (Or.inl ⟨rfl, rfl⟩) (by decide) (by decide) (Nat.le_of_ble_eq_true rfl) (Nat.le_of_ble_eq_true rfl) (Nat.le_of_ble_eq_true rfl) (fun M322 _ => ?_)
  refine zm_putr 327 rfl dX11_init_324 ff_X11_134 rfl rfl ⟨(Nat.le_of_ble_eq_true rfl), (Nat.le_of_ble_eq_true rfl)⟩ (by decide) ?_
  refine zm_aload_n 328 rfl dX11_init_327 rfl 0 rfl ?_
  refine zm_bipush 330 rfl dX11_init_328 zb_60 ?_
  refine zm_newi (id := 92) (N := 60) (kd := 0) (ty := .int) 332 40 9374 rfl rfl rfl dX11_init_330 akint rfl rfl rfl (Or.inl ⟨rfl, rfl⟩) (by decide) (by decide) (Nat.le_of_ble_eq_true rfl) (Nat.le_of_ble_eq_true rfl) (Nat.le_of_ble_eq_true rfl) (fun M330 _ => ?_)
  refine zm_putr 335 rfl dX11_init_332 ff_X11_137 rfl rfl ⟨(Nat.le_of_ble_eq_true rfl), (Nat.le_of_ble_eq_true rfl)⟩ (by decide) ?_
  refine zm_aload_n 336 rfl dX11_init_335 rfl 0 rfl ?_
  refine zm_sipush 339 rfl dX11_init_336 zs_2400 ?_
  refine zm_newi (id := 93) (N := 2400) (kd := 0) (ty := .int) 341 41 11774 rfl rfl rfl dX11_init_339 akint rfl rfl rfl (Or.inl ⟨rfl, rfl⟩) (by decide) (by decide) (Nat.le_of_ble_eq_true rfl) (Nat.le_of_ble_eq_true rfl) (Nat.le_of_ble_eq_true rfl) (fun M339 _ => ?_)
  refine zm_putr 344 rfl dX11_init_341 ff_X11_140 rfl rfl ⟨(Nat.le_of_ble_eq_true rfl), (Nat.le_of_ble_eq_true rfl)⟩ (by decide) ?_
  refine zm_aload_n 345 rfl dX11_init_344 rfl 0 rfl ?_
  refine zm_bipush 347 rfl dX11_init_345 zb_64 ?_
  refine zm_newi (id := 94) (N := 64) (kd := 3) (ty := .boolean) 349 42 11838 rfl rfl rfl dX11_init_347 akboolean rfl rfl rfl (Or.inr (Or.inr ⟨rfl, rfl⟩)) (by decide) (by decide) (Nat.le_of_ble_eq_true rfl) (Nat.le_of_ble_eq_true rfl) (Nat.le_of_ble_eq_true rfl) (fun M347 _ => ?_)
  refine zm_putr 352 rfl dX11_init_349 ff_X11_143 rfl rfl ⟨(Nat.le_of_ble_eq_true rfl), (Nat.le_of_ble_eq_true rfl)⟩ (by decide) ?_
  refine zm_aload_n 353 rfl dX11_init_352 rfl 0 rfl ?_
  refine zm_sipush 356 rfl dX11_init_353 zs_15625 ?_
  refine zm_newi (id := 95) (N := 15625) (kd := 0) (ty := .int) 358 43 27463 rfl rfl rfl dX11_init_356 akint rfl rfl rfl (Or.inl ⟨rfl, rfl⟩) (by decide) (by decide) (Nat.le_of_ble_eq_true rfl) (Nat.le_of_ble_eq_true rfl) (Nat.le_of_ble_eq_true rfl) (fun M356 _ => ?_)
  refine zm_putr 361 rfl dX11_init_358 ff_X11_146 rfl rfl ⟨(Nat.le_of_ble_eq_true rfl), (Nat.le_of_ble_eq_true rfl)⟩ (by decide) ?_
  refine zm_aload_n 362 rfl dX11_init_361 rfl 0 rfl ?_
  refine zm_sipush 365 rfl dX11_init_362 zs_160 ?_
  refine zm_newi (id := 96) (N := 160) (kd := 0) (ty := .int) 367 44 27623 rfl rfl rfl dX11_init_365 akint rfl rfl rfl (Or.inl ⟨rfl, rfl⟩) (by decide) (by decide) (Nat.le_of_ble_eq_true rfl) (Nat.le_of_ble_eq_true rfl) (Nat.le_of_ble_eq_true rfl) (fun M365 _ => ?_)
  refine zm_putr 370 rfl dX11_init_367 ff_X11_149 rfl rfl ⟨(Nat.le_of_ble_eq_true rfl), (Nat.le_of_ble_eq_true rfl)⟩ (by decide) ?_
  refine zm_aload_n 371 rfl dX11_init_370 rfl 0 rfl ?_
  refine zm_bipush 373 rfl dX11_init_371 zb_6 ?_
  refine zm_newi (id := 97) (N := 6) (kd := 0) (ty := .int) 375 45 27629 rfl rfl rfl dX11_init_373 akint rfl rfl rfl (Or.inl ⟨rfl, rfl⟩) (by decide) (by decide) (Nat.le_of_ble_eq_true rfl) (Nat.le_of_ble_eq_true rfl) (Nat.le_of_ble_eq_true rfl) (fun M373 _ => ?_)
  refine zm_putr 378 rfl dX11_init_375 ff_X11_152 rfl rfl ⟨(Nat.le_of_ble_eq_true rfl), (Nat.le_of_ble_eq_true rfl)⟩ (by decide) ?_
  refine zm_aload_n 379 rfl dX11_init_378 rfl 0 rfl ?_
  refine zm_bipush 381 rfl dX11_init_379 zb_20 ?_
  refine zm_newi (id := 98) (N := 20) (kd := 0) (ty := .int) 383 46 27649 rfl rfl rfl dX11_init_381 akint rfl rfl rfl (Or.inl ⟨rfl, rfl⟩) (by decide) (by decide) (Nat.le_of_ble_eq_true rfl) (Nat.le_of_ble_eq_true rfl) (Nat.le_of_ble_eq_true rfl) (fun M381 _ => ?_)
  refine zm_putr 386 rfl dX11_init_383 ff_X11_155 rfl rfl ⟨(Nat.le_of_ble_eq_true rfl), (Nat.le_of_ble_eq_true rfl)⟩ (by decide) ?_
  refine zm_aload_n 387 rfl dX11_init_386 rfl 0 rfl ?_
  refine zm_bipush 389 rfl dX11_init_387 zb_20 ?_
  refine zm_newi (id := 99) (N := 20) (kd := 0) (ty := .int) 391 47 27669 rfl rfl rfl dX11_init_389 akint rfl rfl rfl (Or.inl ⟨rfl, rfl⟩) (by decide) (by decide) (Nat.le_of_ble_eq_true rfl) (Nat.le_of_ble_eq_true rfl) (Nat.le_of_ble_eq_true rfl) (fun M389 _ => ?_)
  refine zm_putr 394 rfl dX11_init_391 ff_X11_158 rfl rfl ⟨(Nat.le_of_ble_eq_true rfl), (Nat.le_of_ble_eq_true rfl)⟩ (by decide) ?_
  refine zm_aload_n 395 rfl dX11_init_394 rfl 0 rfl ?_
  refine zm_bipush 397 rfl dX11_init_395 zb_20 ?_
  refine zm_newi (id := 100) (N := 20) (kd := 0) (ty := .int) 399 48 27689 rfl rfl rfl dX11_init_397 akint rfl rfl rfl (Or.inl ⟨rfl, rfl⟩) (by decide) (by decide) (Nat.le_of_ble_eq_true rfl) (Nat.le_of_ble_eq_true rfl) (Nat.le_of_ble_eq_true rfl) (fun M397 _ => ?_)
  refine zm_putr 402 rfl dX11_init_399 ff_X11_161 rfl rfl ⟨(Nat.le_of_ble_eq_true rfl), (Nat.le_of_ble_eq_true rfl)⟩ (by decide) ?_
  refine zm_aload_n 403 rfl dX11_init_402 rfl 0 rfl ?_
  refine zm_iconst 404 rfl dX11_init_403 zi_3 ?_
  refine zm_newi (id := 101) (N := 3) (kd := 3) (ty := .boolean) 406 49 27692 rfl rfl rfl dX11_init_404 akboolean rfl rfl rfl (Or.inr (Or.inr ⟨rfl, rfl⟩)) (by decide) (by decide) (Nat.le_of_ble_eq_true rfl) (Nat.le_of_ble_eq_true rfl) (Nat.le_of_ble_eq_true rfl) (fun M404 _ => ?_)
  refine zm_putr 409 rfl dX11_init_406 ff_X11_164 rfl rfl ⟨(Nat.le_of_ble_eq_true rfl), (Nat.le_of_ble_eq_true rfl)⟩ (by decide) ?_
  refine zm_aload_n 410 rfl dX11_init_409 rfl 0 rfl ?_
  refine zm_sipush 413 rfl dX11_init_410 zs_180 ?_
  refine zm_newi (id := 102) (N := 180) (kd := 0) (ty := .int) 415 50 27872 rfl rfl rfl dX11_init_413 akint rfl rfl rfl (Or.inl ⟨rfl, rfl⟩) (by decide) (by decide) (Nat.le_of_ble_eq_true rfl) (Nat.le_of_ble_eq_true rfl) (Nat.le_of_ble_eq_true rfl) (fun M413 _ => ?_)
  refine zm_putr 418 rfl dX11_init_415 ff_X11_167 rfl rfl ⟨(Nat.le_of_ble_eq_true rfl), (Nat.le_of_ble_eq_true rfl)⟩ (by decide) ?_
  refine zm_aload_n 419 rfl dX11_init_418 rfl 0 rfl ?_
  refine zm_iconst 420 rfl dX11_init_419 zi_0 ?_
  refine zm_stage (w2 := zm_w 0) rfl (zm_chk_ok zm_chkA) zm_fk_le ?_
  refine zm_cV1v 423 rfl dX11_init_420 ml_X11_170 rfl ⟨(Nat.le_of_ble_eq_true rfl), (Nat.le_of_ble_eq_true rfl)⟩ rfl (Nat.le_of_ble_eq_true rfl) ⟨Nat.le_of_ble_eq_true rfl, Nat.le_of_ble_eq_true rfl⟩ rfl rfl ⟨Nat.le_of_ble_eq_true rfl, Nat.le_of_ble_eq_true rfl⟩ rfl (fun _ _ h => k_X11_plain E 0 0 M413 h) (fun _ M420 => ?_)
  refine zm_aload_n 424 rfl dX11_init_423 rfl 0 rfl ?_
  refine zm_getR (a := 59) 427 rfl dX11_init_424 fl_X11_34 rfl ⟨(Nat.le_of_ble_eq_true rfl), (Nat.le_of_ble_eq_true rfl)⟩ rfl (by decide) ?_
  refine zm_iconst 428 rfl dX11_init_427 zi_0 ?_
  refine zm_bipush 430 rfl dX11_init_428 zb_104 ?_
  refine zm_bipush 432 rfl dX11_init_430 zb_111 ?_
  refine zm_bipush 434 rfl dX11_init_432 zb_117 ?_
  refine zm_bipush 436 rfl dX11_init_434 zb_115 ?_
  refine zm_bipush 438 rfl dX11_init_436 zb_101 ?_
  refine zm_iconst 439 rfl dX11_init_438 zi_0 ?_
  refine zm_iconst 440 rfl dX11_init_439 zi_0 ?_
  refine zm_cS7lr 443 rfl dX11_init_440 ml_X11_174 (Nat.le_of_ble_eq_true rfl) ⟨Nat.le_of_ble_eq_true rfl, Nat.le_of_ble_eq_true rfl⟩ rfl rfl ⟨Nat.le_of_ble_eq_true rfl, Nat.le_of_ble_eq_true rfl⟩ rfl (fun _ h => k_X11_word E (zm_w 0) 104 111 117 115 101 0 0 M420 h) (fun r440 => ?_)
  refine zm_last 444 rfl dX11_init_443 rfl ⟨(Nat.le_of_ble_eq_true rfl), (Nat.le_of_ble_eq_true rfl)⟩ (fun M443 _ => ?_)
  refine zm_aload_n 445 rfl dX11_init_444 rfl 0 rfl ?_
  refine zm_getR (a := 59) 448 rfl dX11_init_445 fl_X11_34 rfl ⟨(Nat.le_of_ble_eq_true rfl), (Nat.le_of_ble_eq_true rfl)⟩ rfl (by decide) ?_
  refine zm_iconst 449 rfl dX11_init_448 zi_1 ?_
  refine zm_bipush 451 rfl dX11_init_449 zb_119 ?_
  refine zm_bipush 453 rfl dX11_init_451 zb_111 ?_
  refine zm_bipush 455 rfl dX11_init_453 zb_114 ?_
  refine zm_bipush 457 rfl dX11_init_455 zb_107 ?_
  refine zm_iconst 458 rfl dX11_init_457 zi_0 ?_
  refine zm_iconst 459 rfl dX11_init_458 zi_0 ?_
  refine zm_iconst 460 rfl dX11_init_459 zi_0 ?_
  refine zm_cS7lr 463 rfl dX11_init_460 ml_X11_174 (Nat.le_of_ble_eq_true rfl) ⟨Nat.le_of_ble_eq_true rfl, Nat.le_of_ble_eq_true rfl⟩ rfl rfl ⟨Nat.le_of_ble_eq_true rfl, Nat.le_of_ble_eq_true rfl⟩ rfl (fun _ h => k_X11_word E (zm_w 0) 119 111 114 107 0 0 0 M443 h) (fun r460 => ?_)
  refine zm_last 464 rfl dX11_init_463 rfl ⟨(Nat.le_of_ble_eq_true rfl), (Nat.le_of_ble_eq_true rfl)⟩ (fun M463 _ => ?_)
  refine zm_aload_n 465 rfl dX11_init_464 rfl 0 rfl ?_
  refine zm_getR (a := 59) 468 rfl dX11_init_465 fl_X11_34 rfl ⟨(Nat.le_of_ble_eq_true rfl), (Nat.le_of_ble_eq_true rfl)⟩ rfl (by decide) ?_
  refine zm_iconst 469 rfl dX11_init_468 zi_2 ?_
  refine zm_bipush 471 rfl dX11_init_469 zb_116 ?_
  refine zm_bipush 473 rfl dX11_init_471 zb_101 ?_
  refine zm_bipush 475 rfl dX11_init_473 zb_114 ?_
  refine zm_bipush 477 rfl dX11_init_475 zb_109 ?_
  refine zm_iconst 478 rfl dX11_init_477 zi_0 ?_
  refine zm_iconst 479 rfl dX11_init_478 zi_0 ?_
  refine zm_iconst 480 rfl dX11_init_479 zi_0 ?_
  refine zm_cS7lr 483 rfl dX11_init_480 ml_X11_174 (Nat.le_of_ble_eq_true rfl) ⟨Nat.le_of_ble_eq_true rfl, Nat.le_of_ble_eq_true rfl⟩ rfl rfl ⟨Nat.le_of_ble_eq_true rfl, Nat.le_of_ble_eq_true rfl⟩ rfl (fun _ h => k_X11_word E (zm_w 0) 116 101 114 109 0 0 0 M463 h) (fun r480 => ?_)
  refine zm_last 484 rfl dX11_init_483 rfl ⟨(Nat.le_of_ble_eq_true rfl), (Nat.le_of_ble_eq_true rfl)⟩ (fun M483 _ => ?_)
  refine zm_aload_n 485 rfl dX11_init_484 rfl 0 rfl ?_
  refine zm_getR (a := 59) 488 rfl dX11_init_485 fl_X11_34 rfl ⟨(Nat.le_of_ble_eq_true rfl), (Nat.le_of_ble_eq_true rfl)⟩ rfl (by decide) ?_
  refine zm_iconst 489 rfl dX11_init_488 zi_3 ?_
  refine zm_bipush 491 rfl dX11_init_489 zb_116 ?_
  refine zm_bipush 493 rfl dX11_init_491 zb_114 ?_
  refine zm_bipush 495 rfl dX11_init_493 zb_105 ?_
  refine zm_bipush 497 rfl dX11_init_495 zb_112 ?_
  refine zm_iconst 498 rfl dX11_init_497 zi_0 ?_
  refine zm_iconst 499 rfl dX11_init_498 zi_0 ?_
  refine zm_iconst 500 rfl dX11_init_499 zi_0 ?_
  refine zm_cS7lr 503 rfl dX11_init_500 ml_X11_174 (Nat.le_of_ble_eq_true rfl) ⟨Nat.le_of_ble_eq_true rfl, Nat.le_of_ble_eq_true rfl⟩ rfl rfl ⟨Nat.le_of_ble_eq_true rfl, Nat.le_of_ble_eq_true rfl⟩ rfl (fun _ h => k_X11_word E (zm_w 0) 116 114 105 112 0 0 0 M483 h) (fun r500 => ?_)
  refine zm_last 504 rfl dX11_init_503 rfl ⟨(Nat.le_of_ble_eq_true rfl), (Nat.le_of_ble_eq_true rfl)⟩ (fun M503 _ => ?_)
  refine zm_aload_n 505 rfl dX11_init_504 rfl 0 rfl ?_
  refine zm_getR (a := 59) 508 rfl dX11_init_505 fl_X11_34 rfl ⟨(Nat.le_of_ble_eq_true rfl), (Nat.le_of_ble_eq_true rfl)⟩ rfl (by decide) ?_
  refine zm_iconst 509 rfl dX11_init_508 zi_4 ?_
  refine zm_bipush 511 rfl dX11_init_509 zb_108 ?_
  refine zm_bipush 513 rfl dX11_init_511 zb_105 ?_
  refine zm_bipush 515 rfl dX11_init_513 zb_107 ?_
  refine zm_bipush 517 rfl dX11_init_515 zb_101 ?_
  refine zm_bipush 519 rfl dX11_init_517 zb_115 ?_
  refine zm_iconst 520 rfl dX11_init_519 zi_0 ?_
  refine zm_iconst 521 rfl dX11_init_520 zi_0 ?_
  refine zm_cS7lr 524 rfl dX11_init_521 ml_X11_174 (Nat.le_of_ble_eq_true rfl) ⟨Nat.le_of_ble_eq_true rfl, Nat.le_of_ble_eq_true rfl⟩ rfl rfl ⟨Nat.le_of_ble_eq_true rfl, Nat.le_of_ble_eq_true rfl⟩ rfl (fun _ h => k_X11_word E (zm_w 0) 108 105 107 101 115 0 0 M503 h) (fun r521 => ?_)
  refine zm_last 525 rfl dX11_init_524 rfl ⟨(Nat.le_of_ble_eq_true rfl), (Nat.le_of_ble_eq_true rfl)⟩ (fun M524 _ => ?_)
  refine zm_aload_n 526 rfl dX11_init_525 rfl 0 rfl ?_
  refine zm_getR (a := 59) 529 rfl dX11_init_526 fl_X11_34 rfl ⟨(Nat.le_of_ble_eq_true rfl), (Nat.le_of_ble_eq_true rfl)⟩ rfl (by decide) ?_
  refine zm_iconst 530 rfl dX11_init_529 zi_5 ?_
  refine zm_bipush 532 rfl dX11_init_530 zb_108 ?_
  refine zm_bipush 534 rfl dX11_init_532 zb_97 ?_
  refine zm_bipush 536 rfl dX11_init_534 zb_116 ?_
  refine zm_bipush 538 rfl dX11_init_536 zb_101 ?_
  refine zm_iconst 539 rfl dX11_init_538 zi_0 ?_
  refine zm_iconst 540 rfl dX11_init_539 zi_0 ?_
  refine zm_iconst 541 rfl dX11_init_540 zi_0 ?_
  refine zm_cS7lr 544 rfl dX11_init_541 ml_X11_174 (Nat.le_of_ble_eq_true rfl) ⟨Nat.le_of_ble_eq_true rfl, Nat.le_of_ble_eq_true rfl⟩ rfl rfl ⟨Nat.le_of_ble_eq_true rfl, Nat.le_of_ble_eq_true rfl⟩ rfl (fun _ h => k_X11_word E (zm_w 0) 108 97 116 101 0 0 0 M524 h) (fun r541 => ?_)
  refine zm_last 545 rfl dX11_init_544 rfl ⟨(Nat.le_of_ble_eq_true rfl), (Nat.le_of_ble_eq_true rfl)⟩ (fun M544 _ => ?_)
  refine zm_aload_n 546 rfl dX11_init_545 rfl 0 rfl ?_
  refine zm_getR (a := 59) 549 rfl dX11_init_546 fl_X11_34 rfl ⟨(Nat.le_of_ble_eq_true rfl), (Nat.le_of_ble_eq_true rfl)⟩ rfl (by decide) ?_
  refine zm_bipush 551 rfl dX11_init_549 zb_6 ?_
  refine zm_bipush 553 rfl dX11_init_551 zb_99 ?_
  refine zm_bipush 555 rfl dX11_init_553 zb_111 ?_
  refine zm_bipush 557 rfl dX11_init_555 zb_117 ?_
  refine zm_bipush 559 rfl dX11_init_557 zb_114 ?_
  refine zm_bipush 561 rfl dX11_init_559 zb_105 ?_
  refine zm_bipush 563 rfl dX11_init_561 zb_101 ?_
  refine zm_bipush 565 rfl dX11_init_563 zb_114 ?_
  refine zm_cS7lr 568 rfl dX11_init_565 ml_X11_174 (Nat.le_of_ble_eq_true rfl) ⟨Nat.le_of_ble_eq_true rfl, Nat.le_of_ble_eq_true rfl⟩ rfl rfl ⟨Nat.le_of_ble_eq_true rfl, Nat.le_of_ble_eq_true rfl⟩ rfl (fun _ h => k_X11_word E (zm_w 0) 99 111 117 114 105 101 114 M544 h) (fun r565 => ?_)
  refine zm_bipush 570 rfl dX11_init_568 zb_115 ?_
  refine zm_cS2lr 573 rfl dX11_init_570 ml_X11_178 (Nat.le_of_ble_eq_true rfl) ⟨Nat.le_of_ble_eq_true rfl, Nat.le_of_ble_eq_true rfl⟩ rfl rfl ⟨Nat.le_of_ble_eq_true rfl, Nat.le_of_ble_eq_true rfl⟩ rfl (fun _ h => k_X11_appends E (zm_w 0) r565 115 M544 h) (fun r570 => ?_)
  refine zm_last 574 rfl dX11_init_573 rfl ⟨(Nat.le_of_ble_eq_true rfl), (Nat.le_of_ble_eq_true rfl)⟩ (fun M573 _ => ?_)
  refine zm_aload_n 575 rfl dX11_init_574 rfl 0 rfl ?_
  refine zm_getR (a := 59) 578 rfl dX11_init_575 fl_X11_34 rfl ⟨(Nat.le_of_ble_eq_true rfl), (Nat.le_of_ble_eq_true rfl)⟩ rfl (by decide) ?_
  refine zm_bipush 580 rfl dX11_init_578 zb_7 ?_
  refine zm_bipush 582 rfl dX11_init_580 zb_115 ?_
  refine zm_bipush 584 rfl dX11_init_582 zb_101 ?_
  refine zm_bipush 586 rfl dX11_init_584 zb_101 ?_
  refine zm_bipush 588 rfl dX11_init_586 zb_100 ?_
  refine zm_iconst 589 rfl dX11_init_588 zi_0 ?_
  refine zm_iconst 590 rfl dX11_init_589 zi_0 ?_
  refine zm_iconst 591 rfl dX11_init_590 zi_0 ?_
  refine zm_cS7lr 594 rfl dX11_init_591 ml_X11_174 (Nat.le_of_ble_eq_true rfl) ⟨Nat.le_of_ble_eq_true rfl, Nat.le_of_ble_eq_true rfl⟩ rfl rfl ⟨Nat.le_of_ble_eq_true rfl, Nat.le_of_ble_eq_true rfl⟩ rfl (fun _ h => k_X11_word E (zm_w 0) 115 101 101 100 0 0 0 M573 h) (fun r591 => ?_)
  refine zm_last 595 rfl dX11_init_594 rfl ⟨(Nat.le_of_ble_eq_true rfl), (Nat.le_of_ble_eq_true rfl)⟩ (fun M594 _ => ?_)
  refine zm_aload_n 596 rfl dX11_init_595 rfl 0 rfl ?_
  refine zm_getR (a := 59) 599 rfl dX11_init_596 fl_X11_34 rfl ⟨(Nat.le_of_ble_eq_true rfl), (Nat.le_of_ble_eq_true rfl)⟩ rfl (by decide) ?_
  refine zm_bipush 601 rfl dX11_init_599 zb_8 ?_
  refine zm_bipush 603 rfl dX11_init_601 zb_105 ?_
  refine zm_bipush 605 rfl dX11_init_603 zb_102 ?_
  refine zm_iconst 606 rfl dX11_init_605 zi_0 ?_
  refine zm_iconst 607 rfl dX11_init_606 zi_0 ?_
  refine zm_iconst 608 rfl dX11_init_607 zi_0 ?_
  refine zm_iconst 609 rfl dX11_init_608 zi_0 ?_
  refine zm_iconst 610 rfl dX11_init_609 zi_0 ?_
  refine zm_cS7lr 613 rfl dX11_init_610 ml_X11_174 (Nat.le_of_ble_eq_true rfl) ⟨Nat.le_of_ble_eq_true rfl, Nat.le_of_ble_eq_true rfl⟩ rfl rfl ⟨Nat.le_of_ble_eq_true rfl, Nat.le_of_ble_eq_true rfl⟩ rfl (fun _ h => k_X11_word E (zm_w 0) 105 102 0 0 0 0 0 M594 h) (fun r610 => ?_)
  refine zm_last 614 rfl dX11_init_613 rfl ⟨(Nat.le_of_ble_eq_true rfl), (Nat.le_of_ble_eq_true rfl)⟩ (fun M613 _ => ?_)
  refine zm_aload_n 615 rfl dX11_init_614 rfl 0 rfl ?_
  refine zm_getR (a := 59) 618 rfl dX11_init_615 fl_X11_34 rfl ⟨(Nat.le_of_ble_eq_true rfl), (Nat.le_of_ble_eq_true rfl)⟩ rfl (by decide) ?_
  refine zm_bipush 620 rfl dX11_init_618 zb_9 ?_
  refine zm_bipush 622 rfl dX11_init_620 zb_116 ?_
  refine zm_bipush 624 rfl dX11_init_622 zb_104 ?_
  refine zm_bipush 626 rfl dX11_init_624 zb_101 ?_
  refine zm_bipush 628 rfl dX11_init_626 zb_110 ?_
  refine zm_iconst 629 rfl dX11_init_628 zi_0 ?_
  refine zm_iconst 630 rfl dX11_init_629 zi_0 ?_
  refine zm_iconst 631 rfl dX11_init_630 zi_0 ?_
  refine zm_cS7lr 634 rfl dX11_init_631 ml_X11_174 (Nat.le_of_ble_eq_true rfl) ⟨Nat.le_of_ble_eq_true rfl, Nat.le_of_ble_eq_true rfl⟩ rfl rfl ⟨Nat.le_of_ble_eq_true rfl, Nat.le_of_ble_eq_true rfl⟩ rfl (fun _ h => k_X11_word E (zm_w 0) 116 104 101 110 0 0 0 M613 h) (fun r631 => ?_)
  refine zm_last 635 rfl dX11_init_634 rfl ⟨(Nat.le_of_ble_eq_true rfl), (Nat.le_of_ble_eq_true rfl)⟩ (fun M634 _ => ?_)
  refine zm_aload_n 636 rfl dX11_init_635 rfl 0 rfl ?_
  refine zm_getR (a := 59) 639 rfl dX11_init_636 fl_X11_34 rfl ⟨(Nat.le_of_ble_eq_true rfl), (Nat.le_of_ble_eq_true rfl)⟩ rfl (by decide) ?_
  refine zm_bipush 641 rfl dX11_init_639 zb_10 ?_
  refine zm_bipush 643 rfl dX11_init_641 zb_101 ?_
  refine zm_bipush 645 rfl dX11_init_643 zb_108 ?_
  refine zm_bipush 647 rfl dX11_init_645 zb_115 ?_
  refine zm_bipush 649 rfl dX11_init_647 zb_101 ?_
  refine zm_iconst 650 rfl dX11_init_649 zi_0 ?_
  refine zm_iconst 651 rfl dX11_init_650 zi_0 ?_
  refine zm_iconst 652 rfl dX11_init_651 zi_0 ?_
  refine zm_cS7lr 655 rfl dX11_init_652 ml_X11_174 (Nat.le_of_ble_eq_true rfl) ⟨Nat.le_of_ble_eq_true rfl, Nat.le_of_ble_eq_true rfl⟩ rfl rfl ⟨Nat.le_of_ble_eq_true rfl, Nat.le_of_ble_eq_true rfl⟩ rfl (fun _ h => k_X11_word E (zm_w 0) 101 108 115 101 0 0 0 M634 h) (fun r652 => ?_)
  refine zm_last 656 rfl dX11_init_655 rfl ⟨(Nat.le_of_ble_eq_true rfl), (Nat.le_of_ble_eq_true rfl)⟩ (fun M655 _ => ?_)
  refine zm_aload_n 657 rfl dX11_init_656 rfl 0 rfl ?_
  refine zm_getR (a := 59) 660 rfl dX11_init_657 fl_X11_34 rfl ⟨(Nat.le_of_ble_eq_true rfl), (Nat.le_of_ble_eq_true rfl)⟩ rfl (by decide) ?_
  refine zm_bipush 662 rfl dX11_init_660 zb_11 ?_
  refine zm_bipush 664 rfl dX11_init_662 zb_110 ?_
  refine zm_bipush 666 rfl dX11_init_664 zb_111 ?_
  refine zm_bipush 668 rfl dX11_init_666 zb_114 ?_
  refine zm_bipush 670 rfl dX11_init_668 zb_116 ?_
  refine zm_bipush 672 rfl dX11_init_670 zb_104 ?_
  refine zm_iconst 673 rfl dX11_init_672 zi_0 ?_
  refine zm_iconst 674 rfl dX11_init_673 zi_0 ?_
  refine zm_cS7lr 677 rfl dX11_init_674 ml_X11_174 (Nat.le_of_ble_eq_true rfl) ⟨Nat.le_of_ble_eq_true rfl, Nat.le_of_ble_eq_true rfl⟩ rfl rfl ⟨Nat.le_of_ble_eq_true rfl, Nat.le_of_ble_eq_true rfl⟩ rfl (fun _ h => k_X11_word E (zm_w 0) 110 111 114 116 104 0 0 M655 h) (fun r674 => ?_)
  refine zm_last 678 rfl dX11_init_677 rfl ⟨(Nat.le_of_ble_eq_true rfl), (Nat.le_of_ble_eq_true rfl)⟩ (fun M677 _ => ?_)
  refine zm_aload_n 679 rfl dX11_init_678 rfl 0 rfl ?_
  refine zm_getR (a := 59) 682 rfl dX11_init_679 fl_X11_34 rfl ⟨(Nat.le_of_ble_eq_true rfl), (Nat.le_of_ble_eq_true rfl)⟩ rfl (by decide) ?_
  refine zm_bipush 684 rfl dX11_init_682 zb_12 ?_
  refine zm_bipush 686 rfl dX11_init_684 zb_119 ?_
  refine zm_bipush 688 rfl dX11_init_686 zb_97 ?_
  refine zm_bipush 690 rfl dX11_init_688 zb_108 ?_
  refine zm_bipush 692 rfl dX11_init_690 zb_108 ?_
  refine zm_bipush 694 rfl dX11_init_692 zb_115 ?_
  refine zm_iconst 695 rfl dX11_init_694 zi_0 ?_
  refine zm_iconst 696 rfl dX11_init_695 zi_0 ?_
  refine zm_cS7lr 699 rfl dX11_init_696 ml_X11_174 (Nat.le_of_ble_eq_true rfl) ⟨Nat.le_of_ble_eq_true rfl, Nat.le_of_ble_eq_true rfl⟩ rfl rfl ⟨Nat.le_of_ble_eq_true rfl, Nat.le_of_ble_eq_true rfl⟩ rfl (fun _ h => k_X11_word E (zm_w 0) 119 97 108 108 115 0 0 M677 h) (fun r696 => ?_)
  refine zm_last 700 rfl dX11_init_699 rfl ⟨(Nat.le_of_ble_eq_true rfl), (Nat.le_of_ble_eq_true rfl)⟩ (fun M699 _ => ?_)
  refine zm_aload_n 701 rfl dX11_init_700 rfl 0 rfl ?_
  refine zm_getR (a := 59) 704 rfl dX11_init_701 fl_X11_34 rfl ⟨(Nat.le_of_ble_eq_true rfl), (Nat.le_of_ble_eq_true rfl)⟩ rfl (by decide) ?_
  refine zm_bipush 706 rfl dX11_init_704 zb_13 ?_
  refine zm_bipush 708 rfl dX11_init_706 zb_107 ?_
  refine zm_bipush 710 rfl dX11_init_708 zb_105 ?_
  refine zm_bipush 712 rfl dX11_init_710 zb_110 ?_
  refine zm_bipush 714 rfl dX11_init_712 zb_100 ?_
  refine zm_iconst 715 rfl dX11_init_714 zi_0 ?_
  refine zm_iconst 716 rfl dX11_init_715 zi_0 ?_
  refine zm_iconst 717 rfl dX11_init_716 zi_0 ?_
  refine zm_cS7lr 720 rfl dX11_init_717 ml_X11_174 (Nat.le_of_ble_eq_true rfl) ⟨Nat.le_of_ble_eq_true rfl, Nat.le_of_ble_eq_true rfl⟩ rfl rfl ⟨Nat.le_of_ble_eq_true rfl, Nat.le_of_ble_eq_true rfl⟩ rfl (fun _ h => k_X11_word E (zm_w 0) 107 105 110 100 0 0 0 M699 h) (fun r717 => ?_)
  refine zm_last 721 rfl dX11_init_720 rfl ⟨(Nat.le_of_ble_eq_true rfl), (Nat.le_of_ble_eq_true rfl)⟩ (fun M720 _ => ?_)
  refine zm_aload_n 722 rfl dX11_init_721 rfl 0 rfl ?_
  refine zm_getR (a := 59) 725 rfl dX11_init_722 fl_X11_34 rfl ⟨(Nat.le_of_ble_eq_true rfl), (Nat.le_of_ble_eq_true rfl)⟩ rfl (by decide) ?_
  refine zm_bipush 727 rfl dX11_init_725 zb_14 ?_
  refine zm_bipush 729 rfl dX11_init_727 zb_118 ?_
  refine zm_bipush 731 rfl dX11_init_729 zb_97 ?_
  refine zm_bipush 733 rfl dX11_init_731 zb_108 ?_
  refine zm_bipush 735 rfl dX11_init_733 zb_117 ?_
  refine zm_bipush 737 rfl dX11_init_735 zb_101 ?_
  refine zm_iconst 738 rfl dX11_init_737 zi_0 ?_
  refine zm_iconst 739 rfl dX11_init_738 zi_0 ?_
  refine zm_cS7lr 742 rfl dX11_init_739 ml_X11_174 (Nat.le_of_ble_eq_true rfl) ⟨Nat.le_of_ble_eq_true rfl, Nat.le_of_ble_eq_true rfl⟩ rfl rfl ⟨Nat.le_of_ble_eq_true rfl, Nat.le_of_ble_eq_true rfl⟩ rfl (fun _ h => k_X11_word E (zm_w 0) 118 97 108 117 101 0 0 M720 h) (fun r739 => ?_)
  refine zm_last 743 rfl dX11_init_742 rfl ⟨(Nat.le_of_ble_eq_true rfl), (Nat.le_of_ble_eq_true rfl)⟩ (fun M742 _ => ?_)
  refine zm_aload_n 744 rfl dX11_init_743 rfl 0 rfl ?_
  refine zm_getR (a := 59) 747 rfl dX11_init_744 fl_X11_34 rfl ⟨(Nat.le_of_ble_eq_true rfl), (Nat.le_of_ble_eq_true rfl)⟩ rfl (by decide) ?_
  refine zm_bipush 749 rfl dX11_init_747 zb_15 ?_
  refine zm_bipush 751 rfl dX11_init_749 zb_109 ?_
  refine zm_bipush 753 rfl dX11_init_751 zb_97 ?_
  refine zm_bipush 755 rfl dX11_init_753 zb_110 ?_
  refine zm_bipush 757 rfl dX11_init_755 zb_121 ?_
  refine zm_iconst 758 rfl dX11_init_757 zi_0 ?_
  refine zm_iconst 759 rfl dX11_init_758 zi_0 ?_
  refine zm_iconst 760 rfl dX11_init_759 zi_0 ?_
  refine zm_cS7lr 763 rfl dX11_init_760 ml_X11_174 (Nat.le_of_ble_eq_true rfl) ⟨Nat.le_of_ble_eq_true rfl, Nat.le_of_ble_eq_true rfl⟩ rfl rfl ⟨Nat.le_of_ble_eq_true rfl, Nat.le_of_ble_eq_true rfl⟩ rfl (fun _ h => k_X11_word E (zm_w 0) 109 97 110 121 0 0 0 M742 h) (fun r760 => ?_)
  refine zm_last 764 rfl dX11_init_763 rfl ⟨(Nat.le_of_ble_eq_true rfl), (Nat.le_of_ble_eq_true rfl)⟩ (fun M763 _ => ?_)
  refine zm_aload_n 765 rfl dX11_init_764 rfl 0 rfl ?_
  refine zm_getR (a := 59) 768 rfl dX11_init_765 fl_X11_34 rfl ⟨(Nat.le_of_ble_eq_true rfl), (Nat.le_of_ble_eq_true rfl)⟩ rfl (by decide) ?_
  refine zm_bipush 770 rfl dX11_init_768 zb_16 ?_
  refine zm_bipush 772 rfl dX11_init_770 zb_115 ?_
  refine zm_bipush 774 rfl dX11_init_772 zb_97 ?_
  refine zm_bipush 776 rfl dX11_init_774 zb_109 ?_
  refine zm_bipush 778 rfl dX11_init_776 zb_101 ?_
  refine zm_iconst 779 rfl dX11_init_778 zi_0 ?_
  refine zm_iconst 780 rfl dX11_init_779 zi_0 ?_
  refine zm_iconst 781 rfl dX11_init_780 zi_0 ?_
  refine zm_cS7lr 784 rfl dX11_init_781 ml_X11_174 (Nat.le_of_ble_eq_true rfl) ⟨Nat.le_of_ble_eq_true rfl, Nat.le_of_ble_eq_true rfl⟩ rfl rfl ⟨Nat.le_of_ble_eq_true rfl, Nat.le_of_ble_eq_true rfl⟩ rfl (fun _ h => k_X11_word E (zm_w 0) 115 97 109 101 0 0 0 M763 h) (fun r781 => ?_)
  refine zm_last 785 rfl dX11_init_784 rfl ⟨(Nat.le_of_ble_eq_true rfl), (Nat.le_of_ble_eq_true rfl)⟩ (fun M784 _ => ?_)
  refine zm_aload_n 786 rfl dX11_init_785 rfl 0 rfl ?_
  refine zm_getR (a := 59) 789 rfl dX11_init_786 fl_X11_34 rfl ⟨(Nat.le_of_ble_eq_true rfl), (Nat.le_of_ble_eq_true rfl)⟩ rfl (by decide) ?_
  refine zm_bipush 791 rfl dX11_init_789 zb_17 ?_
  refine zm_bipush 793 rfl dX11_init_791 zb_104 ?_
  refine zm_bipush 795 rfl dX11_init_793 zb_111 ?_
  refine zm_bipush 797 rfl dX11_init_795 zb_109 ?_
  refine zm_bipush 799 rfl dX11_init_797 zb_101 ?_
  refine zm_iconst 800 rfl dX11_init_799 zi_0 ?_
  refine zm_iconst 801 rfl dX11_init_800 zi_0 ?_
  refine zm_iconst 802 rfl dX11_init_801 zi_0 ?_
  refine zm_cS7lr 805 rfl dX11_init_802 ml_X11_174 (Nat.le_of_ble_eq_true rfl) ⟨Nat.le_of_ble_eq_true rfl, Nat.le_of_ble_eq_true rfl⟩ rfl rfl ⟨Nat.le_of_ble_eq_true rfl, Nat.le_of_ble_eq_true rfl⟩ rfl (fun _ h => k_X11_word E (zm_w 0) 104 111 109 101 0 0 0 M784 h) (fun r802 => ?_)
  refine zm_last 806 rfl dX11_init_805 rfl ⟨(Nat.le_of_ble_eq_true rfl), (Nat.le_of_ble_eq_true rfl)⟩ (fun M805 _ => ?_)
  refine zm_aload_n 807 rfl dX11_init_806 rfl 0 rfl ?_
  refine zm_getR (a := 59) 810 rfl dX11_init_807 fl_X11_34 rfl ⟨(Nat.le_of_ble_eq_true rfl), (Nat.le_of_ble_eq_true rfl)⟩ rfl (by decide) ?_
  refine zm_bipush 812 rfl dX11_init_810 zb_18 ?_
  refine zm_bipush 814 rfl dX11_init_812 zb_119 ?_
  refine zm_bipush 816 rfl dX11_init_814 zb_104 ?_
  refine zm_bipush 818 rfl dX11_init_816 zb_105 ?_
  refine zm_bipush 820 rfl dX11_init_818 zb_99 ?_
  refine zm_bipush 822 rfl dX11_init_820 zb_104 ?_
  refine zm_iconst 823 rfl dX11_init_822 zi_0 ?_
  refine zm_iconst 824 rfl dX11_init_823 zi_0 ?_
  refine zm_cS7lr 827 rfl dX11_init_824 ml_X11_174 (Nat.le_of_ble_eq_true rfl) ⟨Nat.le_of_ble_eq_true rfl, Nat.le_of_ble_eq_true rfl⟩ rfl rfl ⟨Nat.le_of_ble_eq_true rfl, Nat.le_of_ble_eq_true rfl⟩ rfl (fun _ h => k_X11_word E (zm_w 0) 119 104 105 99 104 0 0 M805 h) (fun r824 => ?_)
  refine zm_last 828 rfl dX11_init_827 rfl ⟨(Nat.le_of_ble_eq_true rfl), (Nat.le_of_ble_eq_true rfl)⟩ (fun M827 _ => ?_)
  refine zm_aload_n 829 rfl dX11_init_828 rfl 0 rfl ?_
  refine zm_getR (a := 59) 832 rfl dX11_init_829 fl_X11_34 rfl ⟨(Nat.le_of_ble_eq_true rfl), (Nat.le_of_ble_eq_true rfl)⟩ rfl (by decide) ?_
  refine zm_bipush 834 rfl dX11_init_832 zb_19 ?_
  refine zm_bipush 836 rfl dX11_init_834 zb_100 ?_
  refine zm_bipush 838 rfl dX11_init_836 zb_97 ?_
  refine zm_bipush 840 rfl dX11_init_838 zb_121 ?_
  refine zm_iconst 841 rfl dX11_init_840 zi_0 ?_
  refine zm_iconst 842 rfl dX11_init_841 zi_0 ?_
  refine zm_iconst 843 rfl dX11_init_842 zi_0 ?_
  refine zm_iconst 844 rfl dX11_init_843 zi_0 ?_
  refine zm_cS7lr 847 rfl dX11_init_844 ml_X11_174 (Nat.le_of_ble_eq_true rfl) ⟨Nat.le_of_ble_eq_true rfl, Nat.le_of_ble_eq_true rfl⟩ rfl rfl ⟨Nat.le_of_ble_eq_true rfl, Nat.le_of_ble_eq_true rfl⟩ rfl (fun _ h => k_X11_word E (zm_w 0) 100 97 121 0 0 0 0 M827 h) (fun r844 => ?_)
  refine zm_last 848 rfl dX11_init_847 rfl ⟨(Nat.le_of_ble_eq_true rfl), (Nat.le_of_ble_eq_true rfl)⟩ (fun M847 _ => ?_)
  refine zm_aload_n 849 rfl dX11_init_848 rfl 0 rfl ?_
  refine zm_cV0v 852 rfl dX11_init_849 ml_X11_182 rfl ⟨(Nat.le_of_ble_eq_true rfl), (Nat.le_of_ble_eq_true rfl)⟩ rfl (Nat.le_of_ble_eq_true rfl) ⟨Nat.le_of_ble_eq_true rfl, Nat.le_of_ble_eq_true rfl⟩ rfl rfl ⟨Nat.le_of_ble_eq_true rfl, Nat.le_of_ble_eq_true rfl⟩ rfl (fun _ _ h => k_X11_begins E 0 M847 h) (fun _ M849 => ?_)
  refine zm_aload_n 853 rfl dX11_init_852 rfl 0 rfl ?_
  refine zm_cV0v 856 rfl dX11_init_853 ml_X11_185 rfl ⟨(Nat.le_of_ble_eq_true rfl), (Nat.le_of_ble_eq_true rfl)⟩ rfl (Nat.le_of_ble_eq_true rfl) ⟨Nat.le_of_ble_eq_true rfl, Nat.le_of_ble_eq_true rfl⟩ rfl rfl ⟨Nat.le_of_ble_eq_true rfl, Nat.le_of_ble_eq_true rfl⟩ rfl (fun _ _ h => k_X11_keepsRow E 0 M849 h) (fun _ M853 => ?_)
  exact zm_vret dX11_init_856 rfl (Nat.le_of_ble_eq_true rfl) (Nat.le_of_ble_eq_true rfl) rfl
abbrev Y_X6_init_103 : zm_Y := (cX6_init, 2, RX6, { frames := 1, cells := 8, slots := 2403, locals := 40 }, none, true, "<init>")
noncomputable def f_X6_init_103  (M : zm_Mem) : Option (Unit × zm_Mem) :=
  zm_v (zm_zero M 104) <| fun M8 => zm_v (zm_zero M8 105) <| fun M17 => zm_v (zm_zero M17 106) <| fun M26 => zm_v (zm_zero M26 107) <| fun M34 => zm_v (zm_zero M34 108) <| fun M42 => zm_v (zm_zero M42 109) <| fun M49 => zm_v (zm_zero M49 110) <| fun M57 => zm_v (zm_zero M57 111) <| fun M65 => zm_v (M65.2.2 47 2) <| fun t77 => zm_ck (zm_isT t77) <| zm_v (zm_sP M65 103 10 t77) <| fun M80 => some ((), M80)
set_option maxRecDepth 20000 in
set_option maxHeartbeats 4000000 in
theorem k_X6_init_103 (E : zm_E) (rf : Nat → Nat → Nat) (hz : ∀ id j, 103 < id → rf id j = 0)  (M : zm_Mem) {r : Unit} {M' : zm_Mem} (h : f_X6_init_103 M = some (r, M')) : zm_Ct E (103, rf) (111, (zm_ur (zm_ur (zm_ur (zm_ur (zm_ur (zm_ur (zm_ur (zm_ur (zm_ur rf 103 1 104) 103 2 105) 103 3 106) 103 4 107) 103 5 108) 103 6 109) 103 7 110) 103 8 111) 103 0 47)) yX6_init Y_X6_init_103 [.ref (E.2.1 + 103), .ref (E.2.1 + 47)] M none M' := by
  refine zm_meth (emb := zm_ev) (d := f_X6_init_103 M) (by decide) rfl rfl (Nat.le_of_ble_eq_true rfl) h (fun X => ?_)
  show zm_V X Y_X6_init_103 E (zm_Q X E Y_X6_init_103.2.2.2.1.cells Y_X6_init_103.2.2.2.1.slots (111, (zm_ur (zm_ur (zm_ur (zm_ur (zm_ur (zm_ur (zm_ur (zm_ur (zm_ur rf 103 1 104) 103 2 105) 103 3 106) 103 4 107) 103 5 108) 103 6 109) 103 7 110) 103 8 111) 103 0 47)) zm_ev) 0 0 true (103, rf) 0 [(0, .ref (E.2.1 + 103)), (1, .ref (E.2.1 + 47))] [] M (f_X6_init_103 M) some
  unfold f_X6_init_103
  refine zm_aload_n 1 rfl dX6_init_0 rfl 0 rfl ?_
  refine zm_objI 4 rfl dX6_init_1 oi_X6_3 oi_inst oi_code (Nat.le_of_ble_eq_true rfl) (Nat.le_of_ble_eq_true rfl) ?_
  refine zm_aload_n 5 rfl dX6_init_4 rfl 0 rfl ?_
  refine zm_sipush 8 rfl dX6_init_5 zs_625 ?_
  refine zm_newj (id := 104) (N := 625) 10 1 625 rfl rfl rfl dX6_init_8 aklong rfl rfl rfl (by decide) (by decide) (Nat.le_of_ble_eq_true rfl) (Nat.le_of_ble_eq_true rfl) (Nat.le_of_ble_eq_true rfl) (fun M8 _ => ?_)
  refine zm_putr 13 rfl dX6_init_10 ff_X6_11 rfl rfl ⟨(Nat.le_of_ble_eq_true rfl), (Nat.le_of_ble_eq_true rfl)⟩ (by decide) ?_
  refine zm_aload_n 14 rfl dX6_init_13 rfl 0 rfl ?_
  refine zm_sipush 17 rfl dX6_init_14 zs_625 ?_
  refine zm_newj (id := 105) (N := 625) 19 2 1250 rfl rfl rfl dX6_init_17 aklong rfl rfl rfl (by decide) (by decide) (Nat.le_of_ble_eq_true rfl) (Nat.le_of_ble_eq_true rfl) (Nat.le_of_ble_eq_true rfl) (fun M17 _ => ?_)
  refine zm_putr 22 rfl dX6_init_19 ff_X6_15 rfl rfl ⟨(Nat.le_of_ble_eq_true rfl), (Nat.le_of_ble_eq_true rfl)⟩ (by decide) ?_
  refine zm_aload_n 23 rfl dX6_init_22 rfl 0 rfl ?_
  refine zm_sipush 26 rfl dX6_init_23 zs_1080 ?_
  refine zm_newi (id := 106) (N := 1080) (kd := 0) (ty := .int) 28 3 2330 rfl rfl rfl dX6_init_26 akint rfl rfl rfl (Or.inl ⟨rfl, rfl⟩) (by decide) (by decide) (Nat.le_of_ble_eq_true rfl) (Nat.le_of_ble_eq_true rfl) (Nat.le_of_ble_eq_true rfl) (fun M26 _ => ?_)
  refine zm_putr 31 rfl dX6_init_28 ff_X6_18 rfl rfl ⟨(Nat.le_of_ble_eq_true rfl), (Nat.le_of_ble_eq_true rfl)⟩ (by decide) ?_
  refine zm_aload_n 32 rfl dX6_init_31 rfl 0 rfl ?_
  refine zm_bipush 34 rfl dX6_init_32 zb_6 ?_
  refine zm_newi (id := 107) (N := 6) (kd := 0) (ty := .int) 36 4 2336 rfl rfl rfl dX6_init_34 akint rfl rfl rfl (Or.inl ⟨rfl, rfl⟩) (by decide) (by decide) (Nat.le_of_ble_eq_true rfl) (Nat.le_of_ble_eq_true rfl) (Nat.le_of_ble_eq_true rfl) (fun M34 _ => ?_)
  refine zm_putr 39 rfl dX6_init_36 ff_X6_22 rfl rfl ⟨(Nat.le_of_ble_eq_true rfl), (Nat.le_of_ble_eq_true rfl)⟩ (by decide) ?_
  refine zm_aload_n 40 rfl dX6_init_39 rfl 0 rfl ?_
  refine zm_bipush 42 rfl dX6_init_40 zb_6 ?_
  refine zm_newi (id := 108) (N := 6) (kd := 0) (ty := .int) 44 5 2342 rfl rfl rfl dX6_init_42 akint rfl rfl rfl (Or.inl ⟨rfl, rfl⟩) (by decide) (by decide) (Nat.le_of_ble_eq_true rfl) (Nat.le_of_ble_eq_true rfl) (Nat.le_of_ble_eq_true rfl) (fun M42 _ => ?_)
  refine zm_putr 47 rfl dX6_init_44 ff_X6_25 rfl rfl ⟨(Nat.le_of_ble_eq_true rfl), (Nat.le_of_ble_eq_true rfl)⟩ (by decide) ?_
  refine zm_aload_n 48 rfl dX6_init_47 rfl 0 rfl ?_
  refine zm_iconst 49 rfl dX6_init_48 zi_5 ?_
  refine zm_newi (id := 109) (N := 5) (kd := 0) (ty := .int) 51 6 2347 rfl rfl rfl dX6_init_49 akint rfl rfl rfl (Or.inl ⟨rfl, rfl⟩) (by decide) (by decide) (Nat.le_of_ble_eq_true rfl) (Nat.le_of_ble_eq_true rfl) (Nat.le_of_ble_eq_true rfl) (fun M49 _ => ?_)
  refine zm_putr 54 rfl dX6_init_51 ff_X6_28 rfl rfl ⟨(Nat.le_of_ble_eq_true rfl), (Nat.le_of_ble_eq_true rfl)⟩ (by decide) ?_
  refine zm_aload_n 55 rfl dX6_init_54 rfl 0 rfl ?_
  refine zm_bipush 57 rfl dX6_init_55 zb_50 ?_
  refine zm_newi (id := 110) (N := 50) (kd := 0) (ty := .int) 59 7 2397 rfl rfl rfl dX6_init_57 akint rfl rfl rfl (Or.inl ⟨rfl, rfl⟩) (by decide) (by decide) (Nat.le_of_ble_eq_true rfl) (Nat.le_of_ble_eq_true rfl) (Nat.le_of_ble_eq_true rfl) (fun M57 _ => ?_)
  refine zm_putr 62 rfl dX6_init_59 ff_X6_31 rfl rfl ⟨(Nat.le_of_ble_eq_true rfl), (Nat.le_of_ble_eq_true rfl)⟩ (by decide) ?_
  refine zm_aload_n 63 rfl dX6_init_62 rfl 0 rfl ?_
  refine zm_bipush 65 rfl dX6_init_63 zb_6 ?_
  refine zm_newi (id := 111) (N := 6) (kd := 0) (ty := .int) 67 8 2403 rfl rfl rfl dX6_init_65 akint rfl rfl rfl (Or.inl ⟨rfl, rfl⟩) (by decide) (by decide) (Nat.le_of_ble_eq_true rfl) (Nat.le_of_ble_eq_true rfl) (Nat.le_of_ble_eq_true rfl) (fun M65 _ => ?_)
  refine zm_putr 70 rfl dX6_init_67 ff_X6_34 rfl rfl ⟨(Nat.le_of_ble_eq_true rfl), (Nat.le_of_ble_eq_true rfl)⟩ (by decide) ?_
  refine zm_aload_n 71 rfl dX6_init_70 rfl 0 rfl ?_
  refine zm_aload_n 72 rfl dX6_init_71 rfl 1 rfl ?_
  refine zm_putr 75 rfl dX6_init_72 ff_X6_37 rfl rfl ⟨(Nat.le_of_ble_eq_true rfl), (Nat.le_of_ble_eq_true rfl)⟩ (by decide) ?_
  refine zm_aload_n 76 rfl dX6_init_75 rfl 0 rfl ?_
  refine zm_aload_n 77 rfl dX6_init_76 rfl 1 rfl ?_
  refine zm_getN 80 rfl rfl dX6_init_77 zm_itX3 (Nat.le_of_ble_eq_true rfl) (fun t77 _ ht77 => ?_)
  refine zm_putP 83 rfl dX6_init_80 fp_X6_47 rfl ⟨(Nat.le_of_ble_eq_true rfl), (Nat.le_of_ble_eq_true rfl)⟩ (zm_T_ne ht77) (fun M80 _ => ?_)
  exact zm_vret dX6_init_83 rfl (Nat.le_of_ble_eq_true rfl) (Nat.le_of_ble_eq_true rfl) rfl
abbrev Y_X9_init_112 : zm_Y := (cX9_init, 1, RX9, { frames := 1, cells := 3, slots := 1875, locals := 40 }, none, true, "<init>")
noncomputable def f_X9_init_112  (M : zm_Mem) : Option (Unit × zm_Mem) :=
  zm_v (zm_zero M 113) <| fun M8 => zm_v (zm_zero M8 114) <| fun M17 => zm_v (zm_zero M17 115) <| fun M26 => some ((), M26)
set_option maxRecDepth 20000 in
set_option maxHeartbeats 4000000 in
theorem k_X9_init_112 (E : zm_E) (rf : Nat → Nat → Nat) (hz : ∀ id j, 112 < id → rf id j = 0)  (M : zm_Mem) {r : Unit} {M' : zm_Mem} (h : f_X9_init_112 M = some (r, M')) : zm_Ct E (112, rf) (115, (zm_ur (zm_ur (zm_ur rf 112 0 113) 112 1 114) 112 2 115)) yX9_init Y_X9_init_112 [.ref (E.2.1 + 112)] M none M' := by
  refine zm_meth (emb := zm_ev) (d := f_X9_init_112 M) (by decide) rfl rfl (Nat.le_of_ble_eq_true rfl) h (fun X => ?_)
  show zm_V X Y_X9_init_112 E (zm_Q X E Y_X9_init_112.2.2.2.1.cells Y_X9_init_112.2.2.2.1.slots (115, (zm_ur (zm_ur (zm_ur rf 112 0 113) 112 1 114) 112 2 115)) zm_ev) 0 0 true (112, rf) 0 [(0, .ref (E.2.1 + 112))] [] M (f_X9_init_112 M) some
  unfold f_X9_init_112
  refine zm_aload_n 1 rfl dX9_init_0 rfl 0 rfl ?_
  refine zm_objI 4 rfl dX9_init_1 oi_X9_3 oi_inst oi_code (Nat.le_of_ble_eq_true rfl) (Nat.le_of_ble_eq_true rfl) ?_
  refine zm_aload_n 5 rfl dX9_init_4 rfl 0 rfl ?_
  refine zm_sipush 8 rfl dX9_init_5 zs_625 ?_
  refine zm_newj (id := 113) (N := 625) 10 1 625 rfl rfl rfl dX9_init_8 aklong rfl rfl rfl (by decide) (by decide) (Nat.le_of_ble_eq_true rfl) (Nat.le_of_ble_eq_true rfl) (Nat.le_of_ble_eq_true rfl) (fun M8 _ => ?_)
  refine zm_putr 13 rfl dX9_init_10 ff_X9_11 rfl rfl ⟨(Nat.le_of_ble_eq_true rfl), (Nat.le_of_ble_eq_true rfl)⟩ (by decide) ?_
  refine zm_aload_n 14 rfl dX9_init_13 rfl 0 rfl ?_
  refine zm_sipush 17 rfl dX9_init_14 zs_625 ?_
  refine zm_newj (id := 114) (N := 625) 19 2 1250 rfl rfl rfl dX9_init_17 aklong rfl rfl rfl (by decide) (by decide) (Nat.le_of_ble_eq_true rfl) (Nat.le_of_ble_eq_true rfl) (Nat.le_of_ble_eq_true rfl) (fun M17 _ => ?_)
  refine zm_putr 22 rfl dX9_init_19 ff_X9_17 rfl rfl ⟨(Nat.le_of_ble_eq_true rfl), (Nat.le_of_ble_eq_true rfl)⟩ (by decide) ?_
  refine zm_aload_n 23 rfl dX9_init_22 rfl 0 rfl ?_
  refine zm_sipush 26 rfl dX9_init_23 zs_625 ?_
  refine zm_newj (id := 115) (N := 625) 28 3 1875 rfl rfl rfl dX9_init_26 aklong rfl rfl rfl (by decide) (by decide) (Nat.le_of_ble_eq_true rfl) (Nat.le_of_ble_eq_true rfl) (Nat.le_of_ble_eq_true rfl) (fun M26 _ => ?_)
  refine zm_putr 31 rfl dX9_init_28 ff_X9_20 rfl rfl ⟨(Nat.le_of_ble_eq_true rfl), (Nat.le_of_ble_eq_true rfl)⟩ (by decide) ?_
  exact zm_vret dX9_init_31 rfl (Nat.le_of_ble_eq_true rfl) (Nat.le_of_ble_eq_true rfl) rfl
