abbrev Y_J7_fill_53178 : zm_Y := (cJ7_fill_53178, 4, RJ7, { frames := 0, cells := 0, slots := 0, locals := 0 }, none, false, "fill")
noncomputable def f_J7_fill_53178_l5 (a0 : Nat) (a1 : Int32) (x4 : Int32) (l5_2 : Int32) (L5 : zm_Mem) : Option ((Int32 × zm_Mem) ⊕ zm_Mem) :=
 if x4 ≤ l5_2 then (some (.inr L5)) else (zm_ck (zm_in l5_2 (zm_sh a0).2) <| zm_v (zm_sI L5 a0 l5_2.toNatClampNeg a1) <| fun M13 => zm_v (l5_2 + 1) <| fun x14 => some (.inl (x14, M13)))
noncomputable def f_J7_fill_53178 (a0 : Nat) (a1 : Int32) (M : zm_Mem) : Option (Unit × zm_Mem) :=
  zm_v (Int32.ofNat (zm_sh a0).2) <| fun x4 => (zm_lp (fun s => f_J7_fill_53178_l5 a0 a1 x4 s.1 s.2) (0, M)).bind (fun e20 => some ((), e20))
set_option maxRecDepth 20000 in
set_option maxHeartbeats 4000000 in
theorem k_J7_fill_53178 (E : zm_E) (sv : Nat) (a0 : Nat) (a1 : Int32) (ha0 : zm_sh a0 = (0, (zm_sh a0).2) ∧ (0 < a0 ∧ a0 ≤ zm_n sv)) (M : zm_Mem) {r : Unit} {M' : zm_Mem} (h : f_J7_fill_53178 a0 a1 M = some (r, M')) : zm_Ct E (zm_w sv) (zm_w sv) yJ7_fill_53178 Y_J7_fill_53178 [.ref (E.2.1 + a0), .int a1] M none M' := by
  refine zm_meth (emb := zm_ev) (d := f_J7_fill_53178 a0 a1 M) (by decide) rfl rfl (Nat.le_of_ble_eq_true rfl) h (fun X => ?_)
  show zm_V X Y_J7_fill_53178 E (zm_Q X E Y_J7_fill_53178.2.2.2.1.cells Y_J7_fill_53178.2.2.2.1.slots (zm_w sv) zm_ev) 0 0 false (zm_w sv) 0 [(0, .ref (E.2.1 + a0)), (1, .int a1)] [] M (f_J7_fill_53178 a0 a1 M) some
  unfold f_J7_fill_53178
  refine zm_iconst 1 rfl dJ7_fill_53178_0 zi_0 ?_
  refine zm_istore_n (lv' := [(2, .int 0), (0, .ref (E.2.1 + a0)), (1, .int a1)]) 2 rfl dJ7_fill_53178_1 rfl (by decide) rfl ?_
  refine zm_aload_n 3 rfl dJ7_fill_53178_2 rfl 1 rfl ?_
  refine zm_alen 4 rfl dJ7_fill_53178_3 ha0.1 (by decide) ha0.2 rfl ?_
  refine zm_nmi (fun x4 _ => ?_)
  refine zm_istore_n (lv' := [(3, .int x4), (2, .int 0), (0, .ref (E.2.1 + a0)), (1, .int a1)]) 5 rfl dJ7_fill_53178_4 rfl (by decide) rfl ?_
  have hx20_5 : ∀ (N20 : zm_Mem), zm_V X Y_J7_fill_53178 E (zm_Q X E Y_J7_fill_53178.2.2.2.1.cells Y_J7_fill_53178.2.2.2.1.slots (zm_w sv) zm_ev) 0 0 false (zm_w sv) 20 [] [] N20 (some ((), N20)) some := by
    intro N20
    exact zm_vret dJ7_fill_53178_20 rfl (Nat.le_refl _) (Nat.le_refl _) rfl
  refine zm_loc [2, 3, 1, 0] rfl (zm_lpp (σ := (Int32 × zm_Mem)) (ε := zm_Mem) (step := fun s => f_J7_fill_53178_l5 a0 a1 x4 s.1 s.2) (fun s => [(0, .ref (E.2.1 + a0)), (1, .int a1), (2, .int s.1), (3, .int x4)]) (fun s => s.2) (fun D5 f5 hf5a hf5b hD5 s => ?_) (0, M))
  obtain ⟨l5_2, L5⟩ := s
  show zm_V X Y_J7_fill_53178 E (zm_Q X E Y_J7_fill_53178.2.2.2.1.cells Y_J7_fill_53178.2.2.2.1.slots (zm_w sv) zm_ev) 0 0 false (zm_w sv) 5 [(0, .ref (E.2.1 + a0)), (1, .int a1), (2, .int l5_2), (3, .int x4)] [] L5 (f_J7_fill_53178_l5 a0 a1 x4 l5_2 L5) f5
  unfold f_J7_fill_53178_l5
  refine zm_iload_n 6 rfl dJ7_fill_53178_5 rfl 2 rfl ?_
  refine zm_iload_n 7 rfl dJ7_fill_53178_6 rfl 3 rfl ?_
  refine zm_icmp_ge 20 10 (by decide) rfl dJ7_fill_53178_7 ?_ ?_
  · exact zm_loc [] rfl (zm_go (hf5b _) (zm_unb (hx20_5 L5)))
  · refine zm_aload_n 11 rfl dJ7_fill_53178_10 rfl 0 rfl ?_
    refine zm_iload_n 12 rfl dJ7_fill_53178_11 rfl 2 rfl ?_
    refine zm_iload_n 13 rfl dJ7_fill_53178_12 rfl 1 rfl ?_
    refine zm_iast 14 rfl dJ7_fill_53178_13 ha0.1 ha0.2 (fun M13 _ => ?_)
    refine zm_iinc (lv' := fun z => [(2, .int z), (0, .ref (E.2.1 + a0)), (1, .int a1), (3, .int x4)]) 17 rfl dJ7_fill_53178_14 zi_1 2 rfl (by decide) (fun _ => rfl) (fun x14 _ => ?_)
    refine zm_goto 5 (by decide) dJ7_fill_53178_17 ?_
    exact zm_loc [1, 2, 0, 3] rfl (zm_go (hf5a _) (hD5 (x14, M13)))
abbrev Y_J7_fill_d0a16 : zm_Y := (cJ7_fill_d0a16, 5, RJ7, { frames := 0, cells := 0, slots := 0, locals := 0 }, none, false, "fill")
noncomputable def f_J7_fill_d0a16_l6 (a0 : Nat) (a1 : Int64) (x4 : Int32) (l6_3 : Int32) (L6 : zm_Mem) : Option ((Int32 × zm_Mem) ⊕ zm_Mem) :=
 if x4 ≤ l6_3 then (some (.inr L6)) else (zm_ck (zm_in l6_3 (zm_sh a0).2) <| zm_v (zm_sL L6 a0 l6_3.toNatClampNeg a1) <| fun M15 => zm_v (l6_3 + 1) <| fun x16 => some (.inl (x16, M15)))
noncomputable def f_J7_fill_d0a16 (a0 : Nat) (a1 : Int64) (M : zm_Mem) : Option (Unit × zm_Mem) :=
  zm_v (Int32.ofNat (zm_sh a0).2) <| fun x4 => (zm_lp (fun s => f_J7_fill_d0a16_l6 a0 a1 x4 s.1 s.2) (0, M)).bind (fun e22 => some ((), e22))
set_option maxRecDepth 20000 in
set_option maxHeartbeats 4000000 in
theorem k_J7_fill_d0a16 (E : zm_E) (sv : Nat) (a0 : Nat) (a1 : Int64) (ha0 : zm_sh a0 = (2, (zm_sh a0).2) ∧ (0 < a0 ∧ a0 ≤ zm_n sv)) (M : zm_Mem) {r : Unit} {M' : zm_Mem} (h : f_J7_fill_d0a16 a0 a1 M = some (r, M')) : zm_Ct E (zm_w sv) (zm_w sv) yJ7_fill_d0a16 Y_J7_fill_d0a16 [.ref (E.2.1 + a0), .long a1] M none M' := by
  refine zm_meth (emb := zm_ev) (d := f_J7_fill_d0a16 a0 a1 M) (by decide) rfl rfl (Nat.le_of_ble_eq_true rfl) h (fun X => ?_)
  show zm_V X Y_J7_fill_d0a16 E (zm_Q X E Y_J7_fill_d0a16.2.2.2.1.cells Y_J7_fill_d0a16.2.2.2.1.slots (zm_w sv) zm_ev) 0 0 false (zm_w sv) 0 [(0, .ref (E.2.1 + a0)), (1, .long a1)] [] M (f_J7_fill_d0a16 a0 a1 M) some
  unfold f_J7_fill_d0a16
  refine zm_iconst 1 rfl dJ7_fill_d0a16_0 zi_0 ?_
  refine zm_istore_n (lv' := [(3, .int 0), (0, .ref (E.2.1 + a0)), (1, .long a1)]) 2 rfl dJ7_fill_d0a16_1 rfl (by decide) rfl ?_
  refine zm_aload_n 3 rfl dJ7_fill_d0a16_2 rfl 1 rfl ?_
  refine zm_alen 4 rfl dJ7_fill_d0a16_3 ha0.1 (by decide) ha0.2 rfl ?_
  refine zm_nmi (fun x4 _ => ?_)
  refine zm_istore (lv' := [(4, .int x4), (3, .int 0), (0, .ref (E.2.1 + a0)), (1, .long a1)]) 6 rfl dJ7_fill_d0a16_4 (by decide) rfl ?_
  have hx22_6 : ∀ (N22 : zm_Mem), zm_V X Y_J7_fill_d0a16 E (zm_Q X E Y_J7_fill_d0a16.2.2.2.1.cells Y_J7_fill_d0a16.2.2.2.1.slots (zm_w sv) zm_ev) 0 0 false (zm_w sv) 22 [] [] N22 (some ((), N22)) some := by
    intro N22
    exact zm_vret dJ7_fill_d0a16_22 rfl (Nat.le_refl _) (Nat.le_refl _) rfl
  refine zm_loc [2, 3, 1, 0] rfl (zm_lpp (σ := (Int32 × zm_Mem)) (ε := zm_Mem) (step := fun s => f_J7_fill_d0a16_l6 a0 a1 x4 s.1 s.2) (fun s => [(0, .ref (E.2.1 + a0)), (1, .long a1), (3, .int s.1), (4, .int x4)]) (fun s => s.2) (fun D6 f6 hf6a hf6b hD6 s => ?_) (0, M))
  obtain ⟨l6_3, L6⟩ := s
  show zm_V X Y_J7_fill_d0a16 E (zm_Q X E Y_J7_fill_d0a16.2.2.2.1.cells Y_J7_fill_d0a16.2.2.2.1.slots (zm_w sv) zm_ev) 0 0 false (zm_w sv) 6 [(0, .ref (E.2.1 + a0)), (1, .long a1), (3, .int l6_3), (4, .int x4)] [] L6 (f_J7_fill_d0a16_l6 a0 a1 x4 l6_3 L6) f6
  unfold f_J7_fill_d0a16_l6
  refine zm_iload_n 7 rfl dJ7_fill_d0a16_6 rfl 2 rfl ?_
  refine zm_iload 9 rfl dJ7_fill_d0a16_7 3 rfl ?_
  refine zm_icmp_ge 22 12 (by decide) rfl dJ7_fill_d0a16_9 ?_ ?_
  · exact zm_loc [] rfl (zm_go (hf6b _) (zm_unb (hx22_6 L6)))
  · refine zm_aload_n 13 rfl dJ7_fill_d0a16_12 rfl 0 rfl ?_
    refine zm_iload_n 14 rfl dJ7_fill_d0a16_13 rfl 2 rfl ?_
    refine zm_lload_n 15 rfl dJ7_fill_d0a16_14 rfl 1 rfl ?_
    refine zm_last 16 rfl dJ7_fill_d0a16_15 ha0.1 ha0.2 (fun M15 _ => ?_)
    refine zm_iinc (lv' := fun z => [(3, .int z), (0, .ref (E.2.1 + a0)), (1, .long a1), (4, .int x4)]) 19 rfl dJ7_fill_d0a16_16 zi_1 2 rfl (by decide) (fun _ => rfl) (fun x16 _ => ?_)
    refine zm_goto 6 (by decide) dJ7_fill_d0a16_19 ?_
    exact zm_loc [1, 2, 0, 3] rfl (zm_go (hf6a _) (hD6 (x16, M15)))
abbrev Y_J6_bitCount_0f7a4 : zm_Y := (cJ6_bitCount_0f7a4, 1, RJ6, { frames := 0, cells := 0, slots := 0, locals := 0 }, (some .int), false, "bitCount")
noncomputable def f_J6_bitCount_0f7a4 (a0 : Int32) (M : zm_Mem) : Option Int32 :=
  zm_v (a0 - (((a0.toUInt32 >>> ((1 : Int32).toUInt32 &&& Int32.toUInt32 31)).toInt32) &&& 1431655765)) <| fun x9 => zm_v ((x9 &&& 858993459) + (((x9.toUInt32 >>> ((2 : Int32).toUInt32 &&& Int32.toUInt32 31)).toInt32) &&& 858993459)) <| fun x23 => zm_v ((x23 + ((x23.toUInt32 >>> ((4 : Int32).toUInt32 &&& Int32.toUInt32 31)).toInt32)) &&& 252645135) <| fun x33 => zm_v (x33 + ((x33.toUInt32 >>> ((8 : Int32).toUInt32 &&& Int32.toUInt32 31)).toInt32)) <| fun x40 => zm_v (x40 + ((x40.toUInt32 >>> ((16 : Int32).toUInt32 &&& Int32.toUInt32 31)).toInt32)) <| fun x47 => some (x47 &&& 63)
set_option maxRecDepth 20000 in
set_option maxHeartbeats 4000000 in
theorem k_J6_bitCount_0f7a4 (E : zm_E) (w : zm_W) (a0 : Int32) (M : zm_Mem) {r : Int32} (h : f_J6_bitCount_0f7a4 a0 M = some r) : zm_Ct E w w yJ6_bitCount_0f7a4 Y_J6_bitCount_0f7a4 [.int a0] M (some (.int r)) M := by
  refine zm_methr (emb := zm_ei) (d := f_J6_bitCount_0f7a4 a0 M) (by decide) rfl rfl (Nat.le_of_ble_eq_true rfl) h (fun X => ?_)
  show zm_V X Y_J6_bitCount_0f7a4 E (zm_Q X E Y_J6_bitCount_0f7a4.2.2.2.1.cells Y_J6_bitCount_0f7a4.2.2.2.1.slots w zm_ei) 0 0 false w 0 [(0, .int a0)] [] M (f_J6_bitCount_0f7a4 a0 M) (fun r => some (r, M))
  unfold f_J6_bitCount_0f7a4
  refine zm_iload_n 1 rfl dJ6_bitCount_0f7a4_0 rfl 0 rfl ?_
  refine zm_iload_n 2 rfl dJ6_bitCount_0f7a4_1 rfl 0 rfl ?_
  refine zm_iconst 3 rfl dJ6_bitCount_0f7a4_2 zi_1 ?_
  refine zm_iushr 4 rfl dJ6_bitCount_0f7a4_3 ?_
  refine zm_ldcw 7 rfl dJ6_bitCount_0f7a4_4 kc_J6_265 ?_
  refine zm_iand 8 rfl dJ6_bitCount_0f7a4_7 ?_
  refine zm_isub 9 rfl dJ6_bitCount_0f7a4_8 ?_
  refine zm_nmi (fun x9 _ => ?_)
  refine zm_istore_n (lv' := [(0, .int x9)]) 10 rfl dJ6_bitCount_0f7a4_9 rfl (by decide) rfl ?_
  refine zm_iload_n 11 rfl dJ6_bitCount_0f7a4_10 rfl 0 rfl ?_
  refine zm_ldcw 14 rfl dJ6_bitCount_0f7a4_11 kc_J6_266 ?_
  refine zm_iand 15 rfl dJ6_bitCount_0f7a4_14 ?_
  refine zm_iload_n 16 rfl dJ6_bitCount_0f7a4_15 rfl 0 rfl ?_
  refine zm_iconst 17 rfl dJ6_bitCount_0f7a4_16 zi_2 ?_
  refine zm_iushr 18 rfl dJ6_bitCount_0f7a4_17 ?_
  refine zm_ldcw 21 rfl dJ6_bitCount_0f7a4_18 kc_J6_266 ?_
  refine zm_iand 22 rfl dJ6_bitCount_0f7a4_21 ?_
  refine zm_iadd 23 rfl dJ6_bitCount_0f7a4_22 ?_
  refine zm_nmi (fun x23 _ => ?_)
  refine zm_istore_n (lv' := [(0, .int x23)]) 24 rfl dJ6_bitCount_0f7a4_23 rfl (by decide) rfl ?_
  refine zm_iload_n 25 rfl dJ6_bitCount_0f7a4_24 rfl 0 rfl ?_
  refine zm_iload_n 26 rfl dJ6_bitCount_0f7a4_25 rfl 0 rfl ?_
  refine zm_iconst 27 rfl dJ6_bitCount_0f7a4_26 zi_4 ?_
  refine zm_iushr 28 rfl dJ6_bitCount_0f7a4_27 ?_
  refine zm_iadd 29 rfl dJ6_bitCount_0f7a4_28 ?_
  refine zm_ldcw 32 rfl dJ6_bitCount_0f7a4_29 kc_J6_267 ?_
  refine zm_iand 33 rfl dJ6_bitCount_0f7a4_32 ?_
  refine zm_nmi (fun x33 _ => ?_)
  refine zm_istore_n (lv' := [(0, .int x33)]) 34 rfl dJ6_bitCount_0f7a4_33 rfl (by decide) rfl ?_
  refine zm_iload_n 35 rfl dJ6_bitCount_0f7a4_34 rfl 0 rfl ?_
  refine zm_iload_n 36 rfl dJ6_bitCount_0f7a4_35 rfl 0 rfl ?_
  refine zm_bipush 38 rfl dJ6_bitCount_0f7a4_36 zb_8 ?_
  refine zm_iushr 39 rfl dJ6_bitCount_0f7a4_38 ?_
  refine zm_iadd 40 rfl dJ6_bitCount_0f7a4_39 ?_
  refine zm_nmi (fun x40 _ => ?_)
  refine zm_istore_n (lv' := [(0, .int x40)]) 41 rfl dJ6_bitCount_0f7a4_40 rfl (by decide) rfl ?_
  refine zm_iload_n 42 rfl dJ6_bitCount_0f7a4_41 rfl 0 rfl ?_
  refine zm_iload_n 43 rfl dJ6_bitCount_0f7a4_42 rfl 0 rfl ?_
  refine zm_bipush 45 rfl dJ6_bitCount_0f7a4_43 zb_16 ?_
  refine zm_iushr 46 rfl dJ6_bitCount_0f7a4_45 ?_
  refine zm_iadd 47 rfl dJ6_bitCount_0f7a4_46 ?_
  refine zm_nmi (fun x47 _ => ?_)
  refine zm_istore_n (lv' := [(0, .int x47)]) 48 rfl dJ6_bitCount_0f7a4_47 rfl (by decide) rfl ?_
  refine zm_iload_n 49 rfl dJ6_bitCount_0f7a4_48 rfl 0 rfl ?_
  refine zm_bipush 51 rfl dJ6_bitCount_0f7a4_49 zb_63 ?_
  refine zm_iand 52 rfl dJ6_bitCount_0f7a4_51 ?_
  exact zm_iret dJ6_bitCount_0f7a4_52 rfl (Nat.le_refl _) (Nat.le_refl _) rfl
abbrev Y_J0_coder_7d493_s0 : zm_Y := (cJ0_coder_7d493, 1, RJ0, { frames := 0, cells := 0, slots := 0, locals := 0 }, (some .byte), false, "coder")
noncomputable def f_J0_coder_7d493_s0  (M : zm_Mem) : Option Int32 :=
  if (1 : Int32) = 0 then (zm_ck (decide ((1 : Int32).toInt8.toInt32 = 1)) <| some 1) else (zm_ck (decide ((0 : Int32).toInt8.toInt32 = 0)) <| some 0)
set_option maxRecDepth 20000 in
set_option maxHeartbeats 4000000 in
theorem k_J0_coder_7d493_s0 (E : zm_E) (w : zm_W)  (M : zm_Mem) {r : Int32} (h : f_J0_coder_7d493_s0 M = some r) : zm_Ct E w w yJ0_coder_7d493 Y_J0_coder_7d493_s0 [.ref (E.2.2.2.2 1)] M (some (.int r)) M := by
  refine zm_methr (emb := zm_ei) (d := f_J0_coder_7d493_s0 M) (by decide) rfl rfl (Nat.le_of_ble_eq_true rfl) h (fun X => ?_)
  show zm_V X Y_J0_coder_7d493_s0 E (zm_Q X E Y_J0_coder_7d493_s0.2.2.2.1.cells Y_J0_coder_7d493_s0.2.2.2.1.slots w zm_ei) 0 0 false w 0 [(0, .ref (E.2.2.2.2 1))] [] M (f_J0_coder_7d493_s0 M) (fun r => some (r, M))
  unfold f_J0_coder_7d493_s0
  refine zm_gCS 3 rfl dJ0_coder_7d493_0 fs_J0_38 ?_
  refine zm_if_eq 13 6 (by decide) rfl dJ0_coder_7d493_3 ?_ ?_
  · refine zm_iconst 14 rfl dJ0_coder_7d493_13 zi_1 ?_
    refine zm_gd (fun hg14 => ?_)
    exact zm_bret dJ0_coder_7d493_14 rfl (of_decide_eq_true hg14) (Nat.le_refl _) (Nat.le_refl _) rfl
  · refine zm_aload_n 7 rfl dJ0_coder_7d493_6 rfl 0 rfl ?_
    refine zm_strC 10 rfl dJ0_coder_7d493_7 fs_J0_15 (i := 0) (by decide) ?_
    refine zm_goto 14 (by decide) dJ0_coder_7d493_10 ?_
    refine zm_gd (fun hg14 => ?_)
    exact zm_bret dJ0_coder_7d493_14 rfl (of_decide_eq_true hg14) (Nat.le_refl _) (Nat.le_refl _) rfl
abbrev Y_J0_coder_7d493_s1 : zm_Y := (cJ0_coder_7d493, 1, RJ0, { frames := 0, cells := 0, slots := 0, locals := 0 }, (some .byte), false, "coder")
noncomputable def f_J0_coder_7d493_s1  (M : zm_Mem) : Option Int32 :=
  if (1 : Int32) = 0 then (zm_ck (decide ((1 : Int32).toInt8.toInt32 = 1)) <| some 1) else (zm_ck (decide ((0 : Int32).toInt8.toInt32 = 0)) <| some 0)
set_option maxRecDepth 20000 in
set_option maxHeartbeats 4000000 in
theorem k_J0_coder_7d493_s1 (E : zm_E) (w : zm_W)  (M : zm_Mem) {r : Int32} (h : f_J0_coder_7d493_s1 M = some r) : zm_Ct E w w yJ0_coder_7d493 Y_J0_coder_7d493_s1 [.ref (E.2.2.2.2 3)] M (some (.int r)) M := by
  refine zm_methr (emb := zm_ei) (d := f_J0_coder_7d493_s1 M) (by decide) rfl rfl (Nat.le_of_ble_eq_true rfl) h (fun X => ?_)
  show zm_V X Y_J0_coder_7d493_s1 E (zm_Q X E Y_J0_coder_7d493_s1.2.2.2.1.cells Y_J0_coder_7d493_s1.2.2.2.1.slots w zm_ei) 0 0 false w 0 [(0, .ref (E.2.2.2.2 3))] [] M (f_J0_coder_7d493_s1 M) (fun r => some (r, M))
  unfold f_J0_coder_7d493_s1
  refine zm_gCS 3 rfl dJ0_coder_7d493_0 fs_J0_38 ?_
  refine zm_if_eq 13 6 (by decide) rfl dJ0_coder_7d493_3 ?_ ?_
  · refine zm_iconst 14 rfl dJ0_coder_7d493_13 zi_1 ?_
    refine zm_gd (fun hg14 => ?_)
    exact zm_bret dJ0_coder_7d493_14 rfl (of_decide_eq_true hg14) (Nat.le_refl _) (Nat.le_refl _) rfl
  · refine zm_aload_n 7 rfl dJ0_coder_7d493_6 rfl 0 rfl ?_
    refine zm_strC 10 rfl dJ0_coder_7d493_7 fs_J0_15 (i := 1) (by decide) ?_
    refine zm_goto 14 (by decide) dJ0_coder_7d493_10 ?_
    refine zm_gd (fun hg14 => ?_)
    exact zm_bret dJ0_coder_7d493_14 rfl (of_decide_eq_true hg14) (Nat.le_refl _) (Nat.le_refl _) rfl
abbrev Y_J0_length_8abf5_s0 : zm_Y := (cJ0_length_8abf5, 1, RJ0, { frames := 1, cells := 0, slots := 0, locals := 20 }, (some .int), false, "length")
noncomputable def f_J0_length_8abf5_s0  (M : zm_Mem) : Option Int32 :=
  zm_b1 (f_J0_coder_7d493_s0 M) <| fun r6 => some ((107 : Int32) >>> (r6 &&& 31))
set_option maxRecDepth 20000 in
set_option maxHeartbeats 4000000 in
theorem k_J0_length_8abf5_s0 (E : zm_E) (w : zm_W)  (M : zm_Mem) {r : Int32} (h : f_J0_length_8abf5_s0 M = some r) : zm_Ct E w w yJ0_length_8abf5 Y_J0_length_8abf5_s0 [.ref (E.2.2.2.2 1)] M (some (.int r)) M := by
  refine zm_methr (emb := zm_ei) (d := f_J0_length_8abf5_s0 M) (by decide) rfl rfl (Nat.le_of_ble_eq_true rfl) h (fun X => ?_)
  show zm_V X Y_J0_length_8abf5_s0 E (zm_Q X E Y_J0_length_8abf5_s0.2.2.2.1.cells Y_J0_length_8abf5_s0.2.2.2.1.slots w zm_ei) 0 0 false w 0 [(0, .ref (E.2.2.2.2 1))] [] M (f_J0_length_8abf5_s0 M) (fun r => some (r, M))
  unfold f_J0_length_8abf5_s0
  refine zm_aload_n 1 rfl dJ0_length_8abf5_0 rfl 0 rfl ?_
  refine zm_strV 4 rfl dJ0_length_8abf5_1 fs_J0_9 (i := 0) (by decide) ?_
  refine zm_sblen (v := 107) 5 rfl dJ0_length_8abf5_4 (i := 0) (by decide) rfl (by decide) ?_
  refine zm_aload_n 6 rfl dJ0_length_8abf5_5 rfl 0 rfl ?_
  refine zm_cT0ir 9 rfl dJ0_length_8abf5_6 ml_J0_335 (i := 0) (by decide) (Nat.le_of_ble_eq_true rfl) ⟨Nat.le_of_ble_eq_true rfl, Nat.le_of_ble_eq_true rfl⟩ rfl rfl ⟨Nat.le_refl _, Nat.le_refl _⟩ rfl (fun _ h => k_J0_coder_7d493_s0 E w M h) (fun r6 => ?_)
  refine zm_ishr 10 rfl dJ0_length_8abf5_9 ?_
  exact zm_iret dJ0_length_8abf5_10 rfl (Nat.le_refl _) (Nat.le_refl _) rfl
abbrev Y_J0_length_8abf5_s1 : zm_Y := (cJ0_length_8abf5, 1, RJ0, { frames := 1, cells := 0, slots := 0, locals := 20 }, (some .int), false, "length")
noncomputable def f_J0_length_8abf5_s1  (M : zm_Mem) : Option Int32 :=
  zm_b1 (f_J0_coder_7d493_s1 M) <| fun r6 => some ((9 : Int32) >>> (r6 &&& 31))
set_option maxRecDepth 20000 in
set_option maxHeartbeats 4000000 in
theorem k_J0_length_8abf5_s1 (E : zm_E) (w : zm_W)  (M : zm_Mem) {r : Int32} (h : f_J0_length_8abf5_s1 M = some r) : zm_Ct E w w yJ0_length_8abf5 Y_J0_length_8abf5_s1 [.ref (E.2.2.2.2 3)] M (some (.int r)) M := by
  refine zm_methr (emb := zm_ei) (d := f_J0_length_8abf5_s1 M) (by decide) rfl rfl (Nat.le_of_ble_eq_true rfl) h (fun X => ?_)
  show zm_V X Y_J0_length_8abf5_s1 E (zm_Q X E Y_J0_length_8abf5_s1.2.2.2.1.cells Y_J0_length_8abf5_s1.2.2.2.1.slots w zm_ei) 0 0 false w 0 [(0, .ref (E.2.2.2.2 3))] [] M (f_J0_length_8abf5_s1 M) (fun r => some (r, M))
  unfold f_J0_length_8abf5_s1
  refine zm_aload_n 1 rfl dJ0_length_8abf5_0 rfl 0 rfl ?_
  refine zm_strV 4 rfl dJ0_length_8abf5_1 fs_J0_9 (i := 1) (by decide) ?_
  refine zm_sblen (v := 9) 5 rfl dJ0_length_8abf5_4 (i := 1) (by decide) rfl (by decide) ?_
  refine zm_aload_n 6 rfl dJ0_length_8abf5_5 rfl 0 rfl ?_
  refine zm_cT0ir 9 rfl dJ0_length_8abf5_6 ml_J0_335 (i := 1) (by decide) (Nat.le_of_ble_eq_true rfl) ⟨Nat.le_of_ble_eq_true rfl, Nat.le_of_ble_eq_true rfl⟩ rfl rfl ⟨Nat.le_refl _, Nat.le_refl _⟩ rfl (fun _ h => k_J0_coder_7d493_s1 E w M h) (fun r6 => ?_)
  refine zm_ishr 10 rfl dJ0_length_8abf5_9 ?_
  exact zm_iret dJ0_length_8abf5_10 rfl (Nat.le_refl _) (Nat.le_refl _) rfl
abbrev Y_J0_isLatin1_aae02_s0 : zm_Y := (cJ0_isLatin1_aae02, 1, RJ0, { frames := 0, cells := 0, slots := 0, locals := 0 }, (some .boolean), false, "isLatin1")
noncomputable def f_J0_isLatin1_aae02_s0_b17  : Option Int32 :=
 some 0
noncomputable def f_J0_isLatin1_aae02_s0  (M : zm_Mem) : Option Int32 :=
  if (1 : Int32) = 0 then (f_J0_isLatin1_aae02_s0_b17) else (if (0 : Int32) = 0 then (some 1) else (f_J0_isLatin1_aae02_s0_b17))
set_option maxRecDepth 20000 in
set_option maxHeartbeats 4000000 in
theorem k_J0_isLatin1_aae02_s0 (E : zm_E) (w : zm_W)  (M : zm_Mem) {r : Int32} (h : f_J0_isLatin1_aae02_s0 M = some r) : zm_Ct E w w yJ0_isLatin1_aae02 Y_J0_isLatin1_aae02_s0 [.ref (E.2.2.2.2 1)] M (some (.int r)) M := by
  refine zm_methr (emb := zm_ei) (d := f_J0_isLatin1_aae02_s0 M) (by decide) rfl rfl (Nat.le_of_ble_eq_true rfl) h (fun X => ?_)
  show zm_V X Y_J0_isLatin1_aae02_s0 E (zm_Q X E Y_J0_isLatin1_aae02_s0.2.2.2.1.cells Y_J0_isLatin1_aae02_s0.2.2.2.1.slots w zm_ei) 0 0 false w 0 [(0, .ref (E.2.2.2.2 1))] [] M (f_J0_isLatin1_aae02_s0 M) (fun r => some (r, M))
  unfold f_J0_isLatin1_aae02_s0
  refine zm_gCS 3 rfl dJ0_isLatin1_aae02_0 fs_J0_38 ?_
  have hb17 : zm_V X Y_J0_isLatin1_aae02_s0 E (zm_Q X E Y_J0_isLatin1_aae02_s0.2.2.2.1.cells Y_J0_isLatin1_aae02_s0.2.2.2.1.slots w zm_ei) 0 0 false w 17 [] [] M (f_J0_isLatin1_aae02_s0_b17) (fun r => some (r, M)) := by
    unfold f_J0_isLatin1_aae02_s0_b17
    refine zm_iconst 18 rfl dJ0_isLatin1_aae02_17 zi_0 ?_
    exact zm_zret dJ0_isLatin1_aae02_18 rfl rfl (Nat.le_refl _) (Nat.le_refl _) rfl
  refine zm_if_eq 17 6 (by decide) rfl dJ0_isLatin1_aae02_3 ?_ ?_
  · exact zm_loc [] rfl (hb17)
  · refine zm_aload_n 7 rfl dJ0_isLatin1_aae02_6 rfl 0 rfl ?_
    refine zm_strC 10 rfl dJ0_isLatin1_aae02_7 fs_J0_15 (i := 0) (by decide) ?_
    refine zm_if_ne 17 13 (by decide) rfl dJ0_isLatin1_aae02_10 ?_ ?_
    · refine zm_iconst 14 rfl dJ0_isLatin1_aae02_13 zi_1 ?_
      refine zm_goto 18 (by decide) dJ0_isLatin1_aae02_14 ?_
      exact zm_zret dJ0_isLatin1_aae02_18 rfl rfl (Nat.le_refl _) (Nat.le_refl _) rfl
    · exact zm_loc [] rfl (hb17)
abbrev Y_J0_isLatin1_aae02_s1 : zm_Y := (cJ0_isLatin1_aae02, 1, RJ0, { frames := 0, cells := 0, slots := 0, locals := 0 }, (some .boolean), false, "isLatin1")
noncomputable def f_J0_isLatin1_aae02_s1_b17  : Option Int32 :=
 some 0
noncomputable def f_J0_isLatin1_aae02_s1  (M : zm_Mem) : Option Int32 :=
  if (1 : Int32) = 0 then (f_J0_isLatin1_aae02_s1_b17) else (if (0 : Int32) = 0 then (some 1) else (f_J0_isLatin1_aae02_s1_b17))
set_option maxRecDepth 20000 in
set_option maxHeartbeats 4000000 in
theorem k_J0_isLatin1_aae02_s1 (E : zm_E) (w : zm_W)  (M : zm_Mem) {r : Int32} (h : f_J0_isLatin1_aae02_s1 M = some r) : zm_Ct E w w yJ0_isLatin1_aae02 Y_J0_isLatin1_aae02_s1 [.ref (E.2.2.2.2 3)] M (some (.int r)) M := by
  refine zm_methr (emb := zm_ei) (d := f_J0_isLatin1_aae02_s1 M) (by decide) rfl rfl (Nat.le_of_ble_eq_true rfl) h (fun X => ?_)
  show zm_V X Y_J0_isLatin1_aae02_s1 E (zm_Q X E Y_J0_isLatin1_aae02_s1.2.2.2.1.cells Y_J0_isLatin1_aae02_s1.2.2.2.1.slots w zm_ei) 0 0 false w 0 [(0, .ref (E.2.2.2.2 3))] [] M (f_J0_isLatin1_aae02_s1 M) (fun r => some (r, M))
  unfold f_J0_isLatin1_aae02_s1
  refine zm_gCS 3 rfl dJ0_isLatin1_aae02_0 fs_J0_38 ?_
  have hb17 : zm_V X Y_J0_isLatin1_aae02_s1 E (zm_Q X E Y_J0_isLatin1_aae02_s1.2.2.2.1.cells Y_J0_isLatin1_aae02_s1.2.2.2.1.slots w zm_ei) 0 0 false w 17 [] [] M (f_J0_isLatin1_aae02_s1_b17) (fun r => some (r, M)) := by
    unfold f_J0_isLatin1_aae02_s1_b17
    refine zm_iconst 18 rfl dJ0_isLatin1_aae02_17 zi_0 ?_
    exact zm_zret dJ0_isLatin1_aae02_18 rfl rfl (Nat.le_refl _) (Nat.le_refl _) rfl
  refine zm_if_eq 17 6 (by decide) rfl dJ0_isLatin1_aae02_3 ?_ ?_
  · exact zm_loc [] rfl (hb17)
  · refine zm_aload_n 7 rfl dJ0_isLatin1_aae02_6 rfl 0 rfl ?_
    refine zm_strC 10 rfl dJ0_isLatin1_aae02_7 fs_J0_15 (i := 1) (by decide) ?_
    refine zm_if_ne 17 13 (by decide) rfl dJ0_isLatin1_aae02_10 ?_ ?_
    · refine zm_iconst 14 rfl dJ0_isLatin1_aae02_13 zi_1 ?_
      refine zm_goto 18 (by decide) dJ0_isLatin1_aae02_14 ?_
      exact zm_zret dJ0_isLatin1_aae02_18 rfl rfl (Nat.le_refl _) (Nat.le_refl _) rfl
    · exact zm_loc [] rfl (hb17)
abbrev Y_J3_checkIndex_8e157 : zm_Y := (cJ3_checkIndex_8e157, 3, RJ3, { frames := 0, cells := 0, slots := 0, locals := 0 }, (some .int), false, "checkIndex")
noncomputable def f_J3_checkIndex_8e157 (a0 : Int32) (a1 : Int32) (M : zm_Mem) : Option Int32 :=
  if a0 < 0 then none else (if a0 < a1 then (some a0) else none)
set_option maxRecDepth 20000 in
set_option maxHeartbeats 4000000 in
theorem k_J3_checkIndex_8e157 (E : zm_E) (w : zm_W) (a0 : Int32) (a1 : Int32) (a2 : Value) (ha2 : a2 = .null ∨ ∃ q, a2 = .ref q) (M : zm_Mem) {r : Int32} (h : f_J3_checkIndex_8e157 a0 a1 M = some r) : zm_Ct E w w yJ3_checkIndex_8e157 Y_J3_checkIndex_8e157 [.int a0, .int a1, a2] M (some (.int r)) M := by
  rcases ha2 with rfl | ⟨q, rfl⟩
  · refine zm_methr (emb := zm_ei) (d := f_J3_checkIndex_8e157 a0 a1 M) (by decide) rfl rfl (Nat.le_of_ble_eq_true rfl) h (fun X => ?_)
    show zm_V X Y_J3_checkIndex_8e157 E (zm_Q X E Y_J3_checkIndex_8e157.2.2.2.1.cells Y_J3_checkIndex_8e157.2.2.2.1.slots w zm_ei) 0 0 false w 0 [(0, .int a0), (1, .int a1), (2, .null)] [] M (f_J3_checkIndex_8e157 a0 a1 M) (fun r => some (r, M))
    unfold f_J3_checkIndex_8e157
    refine zm_iload_n 1 rfl dJ3_checkIndex_8e157_0 rfl 0 rfl ?_
    refine zm_if_lt 9 4 (by decide) rfl dJ3_checkIndex_8e157_1 ?_ ?_
    · exact zm_none
    · refine zm_iload_n 5 rfl dJ3_checkIndex_8e157_4 rfl 0 rfl ?_
      refine zm_iload_n 6 rfl dJ3_checkIndex_8e157_5 rfl 1 rfl ?_
      refine zm_icmp_lt 16 9 (by decide) rfl dJ3_checkIndex_8e157_6 ?_ ?_
      · refine zm_iload_n 17 rfl dJ3_checkIndex_8e157_16 rfl 0 rfl ?_
        exact zm_iret dJ3_checkIndex_8e157_17 rfl (Nat.le_refl _) (Nat.le_refl _) rfl
      · exact zm_none
  · refine zm_methr (emb := zm_ei) (d := f_J3_checkIndex_8e157 a0 a1 M) (by decide) rfl rfl (Nat.le_of_ble_eq_true rfl) h (fun X => ?_)
    show zm_V X Y_J3_checkIndex_8e157 E (zm_Q X E Y_J3_checkIndex_8e157.2.2.2.1.cells Y_J3_checkIndex_8e157.2.2.2.1.slots w zm_ei) 0 0 false w 0 [(0, .int a0), (1, .int a1), (2, .ref q)] [] M (f_J3_checkIndex_8e157 a0 a1 M) (fun r => some (r, M))
    unfold f_J3_checkIndex_8e157
    refine zm_iload_n 1 rfl dJ3_checkIndex_8e157_0 rfl 0 rfl ?_
    refine zm_if_lt 9 4 (by decide) rfl dJ3_checkIndex_8e157_1 ?_ ?_
    · exact zm_none
    · refine zm_iload_n 5 rfl dJ3_checkIndex_8e157_4 rfl 0 rfl ?_
      refine zm_iload_n 6 rfl dJ3_checkIndex_8e157_5 rfl 1 rfl ?_
      refine zm_icmp_lt 16 9 (by decide) rfl dJ3_checkIndex_8e157_6 ?_ ?_
      · refine zm_iload_n 17 rfl dJ3_checkIndex_8e157_16 rfl 0 rfl ?_
        exact zm_iret dJ3_checkIndex_8e157_17 rfl (Nat.le_refl _) (Nat.le_refl _) rfl
      · exact zm_none
abbrev Y_J0_checkIndex_df160 : zm_Y := (cJ0_checkIndex_df160, 2, RJ0, { frames := 1, cells := 0, slots := 0, locals := 22 }, none, false, "checkIndex")
noncomputable def f_J0_checkIndex_df160 (a0 : Int32) (a1 : Int32) (M : zm_Mem) : Option Unit :=
  zm_b1 (f_J3_checkIndex_8e157 a0 a1 M) <| fun r5 => some ()
set_option maxRecDepth 20000 in
set_option maxHeartbeats 4000000 in
theorem k_J0_checkIndex_df160 (E : zm_E) (w : zm_W) (a0 : Int32) (a1 : Int32) (M : zm_Mem) {r : Unit} (h : f_J0_checkIndex_df160 a0 a1 M = some r) : zm_Ct E w w yJ0_checkIndex_df160 Y_J0_checkIndex_df160 [.int a0, .int a1] M none M := by
  refine zm_methr (emb := zm_ev) (d := f_J0_checkIndex_df160 a0 a1 M) (by decide) rfl rfl (Nat.le_of_ble_eq_true rfl) h (fun X => ?_)
  show zm_V X Y_J0_checkIndex_df160 E (zm_Q X E Y_J0_checkIndex_df160.2.2.2.1.cells Y_J0_checkIndex_df160.2.2.2.1.slots w zm_ev) 0 0 false w 0 [(0, .int a0), (1, .int a1)] [] M (f_J0_checkIndex_df160 a0 a1 M) (fun r => some (r, M))
  unfold f_J0_checkIndex_df160
  refine zm_iload_n 1 rfl dJ0_checkIndex_df160_0 rfl 0 rfl ?_
  refine zm_iload_n 2 rfl dJ0_checkIndex_df160_1 rfl 1 rfl ?_
  refine zm_gSF 5 rfl dJ0_checkIndex_df160_2 fs_J0_1053 (fun v2 hv2 => ?_)
  refine zm_cS3ir 8 rfl dJ0_checkIndex_df160_5 ml_J0_1059 (Nat.le_of_ble_eq_true rfl) ⟨Nat.le_of_ble_eq_true rfl, Nat.le_of_ble_eq_true rfl⟩ rfl rfl ⟨Nat.le_refl _, Nat.le_refl _⟩ rfl (fun _ h => k_J3_checkIndex_8e157 E w a0 a1 v2 hv2 M h) (fun r5 => ?_)
  refine zm_pop 9 rfl dJ0_checkIndex_df160_8 rfl ?_
  exact zm_vret dJ0_checkIndex_df160_9 rfl (Nat.le_refl _) (Nat.le_refl _) rfl
abbrev Y_J1_charAt_3b067_s0 : zm_Y := (cJ1_charAt_3b067, 2, RJ1, { frames := 2, cells := 0, slots := 0, locals := 43 }, (some .char), false, "charAt")
noncomputable def f_J1_charAt_3b067_s0 (a1 : Int32) (M : zm_Mem) : Option Int32 :=
  zm_b1 (f_J0_checkIndex_df160 a1 107 M) <| fun r3 => zm_ck (zm_in a1 107) <| zm_ck (decide (((((zm_sch 0 a1.toNatClampNeg) &&& 255).toUInt32 % 65536).toInt32).toUInt32.toUInt16.toUInt32.toInt32 = ((((zm_sch 0 a1.toNatClampNeg) &&& 255).toUInt32 % 65536).toInt32))) <| some ((((zm_sch 0 a1.toNatClampNeg) &&& 255).toUInt32 % 65536).toInt32)
set_option maxRecDepth 20000 in
set_option maxHeartbeats 4000000 in
theorem k_J1_charAt_3b067_s0 (E : zm_E) (w : zm_W) (a1 : Int32) (M : zm_Mem) {r : Int32} (h : f_J1_charAt_3b067_s0 a1 M = some r) : zm_Ct E w w yJ1_charAt_3b067 Y_J1_charAt_3b067_s0 [.ref (E.2.2.2.2 2), .int a1] M (some (.int r)) M := by
  refine zm_methr (emb := zm_ei) (d := f_J1_charAt_3b067_s0 a1 M) (by decide) rfl rfl (Nat.le_of_ble_eq_true rfl) h (fun X => ?_)
  show zm_V X Y_J1_charAt_3b067_s0 E (zm_Q X E Y_J1_charAt_3b067_s0.2.2.2.1.cells Y_J1_charAt_3b067_s0.2.2.2.1.slots w zm_ei) 0 0 false w 0 [(0, .ref (E.2.2.2.2 2)), (1, .int a1)] [] M (f_J1_charAt_3b067_s0 a1 M) (fun r => some (r, M))
  unfold f_J1_charAt_3b067_s0
  refine zm_iload_n 1 rfl dJ1_charAt_3b067_0 rfl 1 rfl ?_
  refine zm_aload_n 2 rfl dJ1_charAt_3b067_1 rfl 0 rfl ?_
  refine zm_sblen (v := 107) 3 rfl dJ1_charAt_3b067_2 (i := 0) (by decide) rfl (by decide) ?_
  refine zm_cS2vr 6 rfl dJ1_charAt_3b067_3 ml_J1_9 (Nat.le_of_ble_eq_true rfl) ⟨Nat.le_of_ble_eq_true rfl, Nat.le_of_ble_eq_true rfl⟩ rfl rfl ⟨Nat.le_refl _, Nat.le_refl _⟩ rfl (fun _ h => k_J0_checkIndex_df160 E w a1 107 M h) (fun r3 => ?_)
  refine zm_aload_n 7 rfl dJ1_charAt_3b067_6 rfl 0 rfl ?_
  refine zm_iload_n 8 rfl dJ1_charAt_3b067_7 rfl 1 rfl ?_
  refine zm_sbald 9 rfl dJ1_charAt_3b067_8 (i := 0) (by decide) rfl ?_
  refine zm_sipush 12 rfl dJ1_charAt_3b067_9 zs_255 ?_
  refine zm_iand 13 rfl dJ1_charAt_3b067_12 ?_
  refine zm_i2c 14 rfl dJ1_charAt_3b067_13 ?_
  refine zm_gd (fun hg14 => ?_)
  exact zm_chret dJ1_charAt_3b067_14 rfl (of_decide_eq_true hg14) (Nat.le_refl _) (Nat.le_refl _) rfl
abbrev Y_J1_charAt_3b067_s1 : zm_Y := (cJ1_charAt_3b067, 2, RJ1, { frames := 2, cells := 0, slots := 0, locals := 43 }, (some .char), false, "charAt")
noncomputable def f_J1_charAt_3b067_s1 (a1 : Int32) (M : zm_Mem) : Option Int32 :=
  zm_b1 (f_J0_checkIndex_df160 a1 9 M) <| fun r3 => zm_ck (zm_in a1 9) <| zm_ck (decide (((((zm_sch 1 a1.toNatClampNeg) &&& 255).toUInt32 % 65536).toInt32).toUInt32.toUInt16.toUInt32.toInt32 = ((((zm_sch 1 a1.toNatClampNeg) &&& 255).toUInt32 % 65536).toInt32))) <| some ((((zm_sch 1 a1.toNatClampNeg) &&& 255).toUInt32 % 65536).toInt32)
set_option maxRecDepth 20000 in
set_option maxHeartbeats 4000000 in
theorem k_J1_charAt_3b067_s1 (E : zm_E) (w : zm_W) (a1 : Int32) (M : zm_Mem) {r : Int32} (h : f_J1_charAt_3b067_s1 a1 M = some r) : zm_Ct E w w yJ1_charAt_3b067 Y_J1_charAt_3b067_s1 [.ref (E.2.2.2.2 4), .int a1] M (some (.int r)) M := by
  refine zm_methr (emb := zm_ei) (d := f_J1_charAt_3b067_s1 a1 M) (by decide) rfl rfl (Nat.le_of_ble_eq_true rfl) h (fun X => ?_)
  show zm_V X Y_J1_charAt_3b067_s1 E (zm_Q X E Y_J1_charAt_3b067_s1.2.2.2.1.cells Y_J1_charAt_3b067_s1.2.2.2.1.slots w zm_ei) 0 0 false w 0 [(0, .ref (E.2.2.2.2 4)), (1, .int a1)] [] M (f_J1_charAt_3b067_s1 a1 M) (fun r => some (r, M))
  unfold f_J1_charAt_3b067_s1
  refine zm_iload_n 1 rfl dJ1_charAt_3b067_0 rfl 1 rfl ?_
  refine zm_aload_n 2 rfl dJ1_charAt_3b067_1 rfl 0 rfl ?_
  refine zm_sblen (v := 9) 3 rfl dJ1_charAt_3b067_2 (i := 1) (by decide) rfl (by decide) ?_
  refine zm_cS2vr 6 rfl dJ1_charAt_3b067_3 ml_J1_9 (Nat.le_of_ble_eq_true rfl) ⟨Nat.le_of_ble_eq_true rfl, Nat.le_of_ble_eq_true rfl⟩ rfl rfl ⟨Nat.le_refl _, Nat.le_refl _⟩ rfl (fun _ h => k_J0_checkIndex_df160 E w a1 9 M h) (fun r3 => ?_)
  refine zm_aload_n 7 rfl dJ1_charAt_3b067_6 rfl 0 rfl ?_
  refine zm_iload_n 8 rfl dJ1_charAt_3b067_7 rfl 1 rfl ?_
  refine zm_sbald 9 rfl dJ1_charAt_3b067_8 (i := 1) (by decide) rfl ?_
  refine zm_sipush 12 rfl dJ1_charAt_3b067_9 zs_255 ?_
  refine zm_iand 13 rfl dJ1_charAt_3b067_12 ?_
  refine zm_i2c 14 rfl dJ1_charAt_3b067_13 ?_
  refine zm_gd (fun hg14 => ?_)
  exact zm_chret dJ1_charAt_3b067_14 rfl (of_decide_eq_true hg14) (Nat.le_refl _) (Nat.le_refl _) rfl
abbrev Y_J0_charAt_5068e_s0 : zm_Y := (cJ0_charAt_5068e, 2, RJ0, { frames := 4, cells := 0, slots := 0, locals := 85 }, (some .char), false, "charAt")
noncomputable def f_J0_charAt_5068e_s0 (a1 : Int32) (M : zm_Mem) : Option Int32 :=
  zm_b1 (f_J0_isLatin1_aae02_s0 M) <| fun r1 => if r1 = 0 then (none) else (zm_b1 (f_J1_charAt_3b067_s0 a1 M) <| fun r12 => zm_ck (decide (r12.toUInt32.toUInt16.toUInt32.toInt32 = r12)) <| some r12)
set_option maxRecDepth 20000 in
set_option maxHeartbeats 4000000 in
theorem k_J0_charAt_5068e_s0 (E : zm_E) (w : zm_W) (a1 : Int32) (M : zm_Mem) {r : Int32} (h : f_J0_charAt_5068e_s0 a1 M = some r) : zm_Ct E w w yJ0_charAt_5068e Y_J0_charAt_5068e_s0 [.ref (E.2.2.2.2 1), .int a1] M (some (.int r)) M := by
  refine zm_methr (emb := zm_ei) (d := f_J0_charAt_5068e_s0 a1 M) (by decide) rfl rfl (Nat.le_of_ble_eq_true rfl) h (fun X => ?_)
  show zm_V X Y_J0_charAt_5068e_s0 E (zm_Q X E Y_J0_charAt_5068e_s0.2.2.2.1.cells Y_J0_charAt_5068e_s0.2.2.2.1.slots w zm_ei) 0 0 false w 0 [(0, .ref (E.2.2.2.2 1)), (1, .int a1)] [] M (f_J0_charAt_5068e_s0 a1 M) (fun r => some (r, M))
  unfold f_J0_charAt_5068e_s0
  refine zm_aload_n 1 rfl dJ0_charAt_5068e_0 rfl 0 rfl ?_
  refine zm_cT0ir 4 rfl dJ0_charAt_5068e_1 ml_J0_492 (i := 0) (by decide) (Nat.le_of_ble_eq_true rfl) ⟨Nat.le_of_ble_eq_true rfl, Nat.le_of_ble_eq_true rfl⟩ rfl rfl ⟨Nat.le_refl _, Nat.le_refl _⟩ rfl (fun _ h => k_J0_isLatin1_aae02_s0 E w M h) (fun r1 => ?_)
  refine zm_if_eq 16 7 (by decide) rfl dJ0_charAt_5068e_4 ?_ ?_
  · exact zm_none
  · refine zm_aload_n 8 rfl dJ0_charAt_5068e_7 rfl 0 rfl ?_
    refine zm_strV 11 rfl dJ0_charAt_5068e_8 fs_J0_9 (i := 0) (by decide) ?_
    refine zm_iload_n 12 rfl dJ0_charAt_5068e_11 rfl 1 rfl ?_
    refine zm_cS2ir 15 rfl dJ0_charAt_5068e_12 ml_J0_495 (Nat.le_of_ble_eq_true rfl) ⟨Nat.le_of_ble_eq_true rfl, Nat.le_of_ble_eq_true rfl⟩ rfl rfl ⟨Nat.le_refl _, Nat.le_refl _⟩ rfl (fun _ h => k_J1_charAt_3b067_s0 E w a1 M h) (fun r12 => ?_)
    refine zm_gd (fun hg15 => ?_)
    exact zm_chret dJ0_charAt_5068e_15 rfl (of_decide_eq_true hg15) (Nat.le_refl _) (Nat.le_refl _) rfl
abbrev Y_J0_charAt_5068e_s1 : zm_Y := (cJ0_charAt_5068e, 2, RJ0, { frames := 4, cells := 0, slots := 0, locals := 85 }, (some .char), false, "charAt")
noncomputable def f_J0_charAt_5068e_s1 (a1 : Int32) (M : zm_Mem) : Option Int32 :=
  zm_b1 (f_J0_isLatin1_aae02_s1 M) <| fun r1 => if r1 = 0 then (none) else (zm_b1 (f_J1_charAt_3b067_s1 a1 M) <| fun r12 => zm_ck (decide (r12.toUInt32.toUInt16.toUInt32.toInt32 = r12)) <| some r12)
set_option maxRecDepth 20000 in
set_option maxHeartbeats 4000000 in
theorem k_J0_charAt_5068e_s1 (E : zm_E) (w : zm_W) (a1 : Int32) (M : zm_Mem) {r : Int32} (h : f_J0_charAt_5068e_s1 a1 M = some r) : zm_Ct E w w yJ0_charAt_5068e Y_J0_charAt_5068e_s1 [.ref (E.2.2.2.2 3), .int a1] M (some (.int r)) M := by
  refine zm_methr (emb := zm_ei) (d := f_J0_charAt_5068e_s1 a1 M) (by decide) rfl rfl (Nat.le_of_ble_eq_true rfl) h (fun X => ?_)
  show zm_V X Y_J0_charAt_5068e_s1 E (zm_Q X E Y_J0_charAt_5068e_s1.2.2.2.1.cells Y_J0_charAt_5068e_s1.2.2.2.1.slots w zm_ei) 0 0 false w 0 [(0, .ref (E.2.2.2.2 3)), (1, .int a1)] [] M (f_J0_charAt_5068e_s1 a1 M) (fun r => some (r, M))
  unfold f_J0_charAt_5068e_s1
  refine zm_aload_n 1 rfl dJ0_charAt_5068e_0 rfl 0 rfl ?_
  refine zm_cT0ir 4 rfl dJ0_charAt_5068e_1 ml_J0_492 (i := 1) (by decide) (Nat.le_of_ble_eq_true rfl) ⟨Nat.le_of_ble_eq_true rfl, Nat.le_of_ble_eq_true rfl⟩ rfl rfl ⟨Nat.le_refl _, Nat.le_refl _⟩ rfl (fun _ h => k_J0_isLatin1_aae02_s1 E w M h) (fun r1 => ?_)
  refine zm_if_eq 16 7 (by decide) rfl dJ0_charAt_5068e_4 ?_ ?_
  · exact zm_none
  · refine zm_aload_n 8 rfl dJ0_charAt_5068e_7 rfl 0 rfl ?_
    refine zm_strV 11 rfl dJ0_charAt_5068e_8 fs_J0_9 (i := 1) (by decide) ?_
    refine zm_iload_n 12 rfl dJ0_charAt_5068e_11 rfl 1 rfl ?_
    refine zm_cS2ir 15 rfl dJ0_charAt_5068e_12 ml_J0_495 (Nat.le_of_ble_eq_true rfl) ⟨Nat.le_of_ble_eq_true rfl, Nat.le_of_ble_eq_true rfl⟩ rfl rfl ⟨Nat.le_refl _, Nat.le_refl _⟩ rfl (fun _ h => k_J1_charAt_3b067_s1 E w a1 M h) (fun r12 => ?_)
    refine zm_gd (fun hg15 => ?_)
    exact zm_chret dJ0_charAt_5068e_15 rfl (of_decide_eq_true hg15) (Nat.le_refl _) (Nat.le_refl _) rfl
abbrev Y_J1_canEncode_9a6ad : zm_Y := (cJ1_canEncode_9a6ad, 1, RJ1, { frames := 0, cells := 0, slots := 0, locals := 0 }, (some .boolean), false, "canEncode")
noncomputable def f_J1_canEncode_9a6ad_b15  : Option Int32 :=
 some 0
noncomputable def f_J1_canEncode_9a6ad (a0 : Int32) (M : zm_Mem) : Option Int32 :=
  if a0 < 0 then (f_J1_canEncode_9a6ad_b15) else (if (255 : Int32) < a0 then (f_J1_canEncode_9a6ad_b15) else (some 1))
set_option maxRecDepth 20000 in
set_option maxHeartbeats 4000000 in
theorem k_J1_canEncode_9a6ad (E : zm_E) (w : zm_W) (a0 : Int32) (M : zm_Mem) {r : Int32} (h : f_J1_canEncode_9a6ad a0 M = some r) : zm_Ct E w w yJ1_canEncode_9a6ad Y_J1_canEncode_9a6ad [.int a0] M (some (.int r)) M := by
  refine zm_methr (emb := zm_ei) (d := f_J1_canEncode_9a6ad a0 M) (by decide) rfl rfl (Nat.le_of_ble_eq_true rfl) h (fun X => ?_)
  show zm_V X Y_J1_canEncode_9a6ad E (zm_Q X E Y_J1_canEncode_9a6ad.2.2.2.1.cells Y_J1_canEncode_9a6ad.2.2.2.1.slots w zm_ei) 0 0 false w 0 [(0, .int a0)] [] M (f_J1_canEncode_9a6ad a0 M) (fun r => some (r, M))
  unfold f_J1_canEncode_9a6ad
  refine zm_iload_n 1 rfl dJ1_canEncode_9a6ad_0 rfl 0 rfl ?_
  have hb15 : zm_V X Y_J1_canEncode_9a6ad E (zm_Q X E Y_J1_canEncode_9a6ad.2.2.2.1.cells Y_J1_canEncode_9a6ad.2.2.2.1.slots w zm_ei) 0 0 false w 15 [] [] M (f_J1_canEncode_9a6ad_b15) (fun r => some (r, M)) := by
    unfold f_J1_canEncode_9a6ad_b15
    refine zm_iconst 16 rfl dJ1_canEncode_9a6ad_15 zi_0 ?_
    exact zm_zret dJ1_canEncode_9a6ad_16 rfl rfl (Nat.le_refl _) (Nat.le_refl _) rfl
  refine zm_if_lt 15 4 (by decide) rfl dJ1_canEncode_9a6ad_1 ?_ ?_
  · exact zm_loc [] rfl (hb15)
  · refine zm_iload_n 5 rfl dJ1_canEncode_9a6ad_4 rfl 0 rfl ?_
    refine zm_sipush 8 rfl dJ1_canEncode_9a6ad_5 zs_255 ?_
    refine zm_icmp_gt 15 11 (by decide) rfl dJ1_canEncode_9a6ad_8 ?_ ?_
    · exact zm_loc [] rfl (hb15)
    · refine zm_iconst 12 rfl dJ1_canEncode_9a6ad_11 zi_1 ?_
      refine zm_goto 16 (by decide) dJ1_canEncode_9a6ad_12 ?_
      exact zm_zret dJ1_canEncode_9a6ad_16 rfl rfl (Nat.le_refl _) (Nat.le_refl _) rfl
abbrev Y_J1_indexOfChar_4cfef_s0 : zm_Y := (cJ1_indexOfChar_4cfef, 6, RJ1, { frames := 0, cells := 0, slots := 0, locals := 0 }, (some .int), false, "indexOfChar")
noncomputable def f_J1_indexOfChar_4cfef_s0_l7 (a3 : Int32) (x2 : Int32) (l7_5 : Int32) : Option (Int32 ⊕ (Int32 ⊕ Unit)) :=
 if a3 ≤ l7_5 then (some (.inr (.inr ()))) else (zm_ck (zm_in l7_5 107) <| if (zm_sch 0 l7_5.toNatClampNeg) = x2 then (some (.inr (.inl l7_5))) else (zm_v (l7_5 + 1) <| fun x25 => some (.inl x25)))
noncomputable def f_J1_indexOfChar_4cfef_s0 (a1 : Int32) (a2 : Int32) (a3 : Int32) (M : zm_Mem) : Option Int32 :=
  zm_v (a1.toInt8.toInt32) <| fun x2 => (zm_lp (f_J1_indexOfChar_4cfef_s0_l7 a3 x2) a2).bind (Sum.elim (fun e22 => some e22) (fun _ => some (-1)))
set_option maxRecDepth 20000 in
set_option maxHeartbeats 4000000 in
theorem k_J1_indexOfChar_4cfef_s0 (E : zm_E) (w : zm_W) (a1 : Int32) (a2 : Int32) (a3 : Int32) (M : zm_Mem) {r : Int32} (h : f_J1_indexOfChar_4cfef_s0 a1 a2 a3 M = some r) : zm_Ct E w w yJ1_indexOfChar_4cfef Y_J1_indexOfChar_4cfef_s0 [.ref (E.2.2.2.2 2), .int a1, .int a2, .int a3] M (some (.int r)) M := by
  refine zm_methr (emb := zm_ei) (d := f_J1_indexOfChar_4cfef_s0 a1 a2 a3 M) (by decide) rfl rfl (Nat.le_of_ble_eq_true rfl) h (fun X => ?_)
  show zm_V X Y_J1_indexOfChar_4cfef_s0 E (zm_Q X E Y_J1_indexOfChar_4cfef_s0.2.2.2.1.cells Y_J1_indexOfChar_4cfef_s0.2.2.2.1.slots w zm_ei) 0 0 false w 0 [(0, .ref (E.2.2.2.2 2)), (1, .int a1), (2, .int a2), (3, .int a3)] [] M (f_J1_indexOfChar_4cfef_s0 a1 a2 a3 M) (fun r => some (r, M))
  unfold f_J1_indexOfChar_4cfef_s0
  refine zm_iload_n 1 rfl dJ1_indexOfChar_4cfef_0 rfl 1 rfl ?_
  refine zm_i2b 2 rfl dJ1_indexOfChar_4cfef_1 ?_
  refine zm_nmi (fun x2 _ => ?_)
  refine zm_istore (lv' := [(4, .int x2), (0, .ref (E.2.2.2.2 2)), (1, .int a1), (2, .int a2), (3, .int a3)]) 4 rfl dJ1_indexOfChar_4cfef_2 (by decide) rfl ?_
  refine zm_iload_n 5 rfl dJ1_indexOfChar_4cfef_4 rfl 3 rfl ?_
  refine zm_istore (lv' := [(5, .int a2), (4, .int x2), (0, .ref (E.2.2.2.2 2)), (1, .int a1), (2, .int a2), (3, .int a3)]) 7 rfl dJ1_indexOfChar_4cfef_5 (by decide) rfl ?_
  have hx22_7 : ∀ (e22_5 : Int32), zm_V X Y_J1_indexOfChar_4cfef_s0 E (zm_Q X E Y_J1_indexOfChar_4cfef_s0.2.2.2.1.cells Y_J1_indexOfChar_4cfef_s0.2.2.2.1.slots w zm_ei) 0 0 false w 22 [(5, .int e22_5)] [] M (some e22_5) (fun r => some (r, M)) := by
    intro e22_5
    refine zm_iload 24 rfl dJ1_indexOfChar_4cfef_22 0 rfl ?_
    exact zm_iret dJ1_indexOfChar_4cfef_24 rfl (Nat.le_refl _) (Nat.le_refl _) rfl
  have hx31_7 : zm_V X Y_J1_indexOfChar_4cfef_s0 E (zm_Q X E Y_J1_indexOfChar_4cfef_s0.2.2.2.1.cells Y_J1_indexOfChar_4cfef_s0.2.2.2.1.slots w zm_ei) 0 0 false w 31 [] [] M (some (-1)) (fun r => some (r, M)) := by
    refine zm_iconst 32 rfl dJ1_indexOfChar_4cfef_31 zi_m1 ?_
    exact zm_iret dJ1_indexOfChar_4cfef_32 rfl (Nat.le_refl _) (Nat.le_refl _) rfl
  refine zm_loc [2, 5, 1, 0] rfl (zm_lpp (σ := Int32) (ε := (Int32 ⊕ Unit)) (step := f_J1_indexOfChar_4cfef_s0_l7 a3 x2) (fun s => [(0, .ref (E.2.2.2.2 2)), (3, .int a3), (4, .int x2), (5, .int s)]) (fun _ => M) (fun D7 f7 hf7a hf7b hD7 s => ?_) a2)
  obtain ⟨l7_5, hq7⟩ : ∃ q, q = s := ⟨_, rfl⟩
  rw [← hq7]
  show zm_V X Y_J1_indexOfChar_4cfef_s0 E (zm_Q X E Y_J1_indexOfChar_4cfef_s0.2.2.2.1.cells Y_J1_indexOfChar_4cfef_s0.2.2.2.1.slots w zm_ei) 0 0 false w 7 [(0, .ref (E.2.2.2.2 2)), (3, .int a3), (4, .int x2), (5, .int l7_5)] [] M (f_J1_indexOfChar_4cfef_s0_l7 a3 x2 l7_5) f7
  unfold f_J1_indexOfChar_4cfef_s0_l7
  refine zm_iload 9 rfl dJ1_indexOfChar_4cfef_7 3 rfl ?_
  refine zm_iload_n 10 rfl dJ1_indexOfChar_4cfef_9 rfl 1 rfl ?_
  refine zm_icmp_ge 31 13 (by decide) rfl dJ1_indexOfChar_4cfef_10 ?_ ?_
  · exact zm_loc [] rfl (zm_go (hf7b _) (zm_unb (hx31_7)))
  · refine zm_aload_n 14 rfl dJ1_indexOfChar_4cfef_13 rfl 0 rfl ?_
    refine zm_iload 16 rfl dJ1_indexOfChar_4cfef_14 3 rfl ?_
    refine zm_sbald 17 rfl dJ1_indexOfChar_4cfef_16 (i := 0) (by decide) rfl ?_
    refine zm_iload 19 rfl dJ1_indexOfChar_4cfef_17 2 rfl ?_
    refine zm_icmp_ne 25 22 (by decide) rfl dJ1_indexOfChar_4cfef_19 ?_ ?_
    · exact zm_loc [3] rfl (zm_go (hf7b _) (zm_unb (hx22_7 l7_5)))
    · refine zm_iinc (lv' := fun z => [(5, .int z), (0, .ref (E.2.2.2.2 2)), (3, .int a3), (4, .int x2)]) 28 rfl dJ1_indexOfChar_4cfef_25 zi_1 3 rfl (by decide) (fun _ => rfl) (fun x25 _ => ?_)
      refine zm_goto 7 (by decide) dJ1_indexOfChar_4cfef_28 ?_
      exact zm_loc [1, 2, 3, 0] rfl (zm_go (hf7a _) (hD7 x25))
abbrev Y_J1_indexOfChar_4cfef_s1 : zm_Y := (cJ1_indexOfChar_4cfef, 6, RJ1, { frames := 0, cells := 0, slots := 0, locals := 0 }, (some .int), false, "indexOfChar")
noncomputable def f_J1_indexOfChar_4cfef_s1_l7 (a3 : Int32) (x2 : Int32) (l7_5 : Int32) : Option (Int32 ⊕ (Int32 ⊕ Unit)) :=
 if a3 ≤ l7_5 then (some (.inr (.inr ()))) else (zm_ck (zm_in l7_5 9) <| if (zm_sch 1 l7_5.toNatClampNeg) = x2 then (some (.inr (.inl l7_5))) else (zm_v (l7_5 + 1) <| fun x25 => some (.inl x25)))
noncomputable def f_J1_indexOfChar_4cfef_s1 (a1 : Int32) (a2 : Int32) (a3 : Int32) (M : zm_Mem) : Option Int32 :=
  zm_v (a1.toInt8.toInt32) <| fun x2 => (zm_lp (f_J1_indexOfChar_4cfef_s1_l7 a3 x2) a2).bind (Sum.elim (fun e22 => some e22) (fun _ => some (-1)))
set_option maxRecDepth 20000 in
set_option maxHeartbeats 4000000 in
theorem k_J1_indexOfChar_4cfef_s1 (E : zm_E) (w : zm_W) (a1 : Int32) (a2 : Int32) (a3 : Int32) (M : zm_Mem) {r : Int32} (h : f_J1_indexOfChar_4cfef_s1 a1 a2 a3 M = some r) : zm_Ct E w w yJ1_indexOfChar_4cfef Y_J1_indexOfChar_4cfef_s1 [.ref (E.2.2.2.2 4), .int a1, .int a2, .int a3] M (some (.int r)) M := by
  refine zm_methr (emb := zm_ei) (d := f_J1_indexOfChar_4cfef_s1 a1 a2 a3 M) (by decide) rfl rfl (Nat.le_of_ble_eq_true rfl) h (fun X => ?_)
  show zm_V X Y_J1_indexOfChar_4cfef_s1 E (zm_Q X E Y_J1_indexOfChar_4cfef_s1.2.2.2.1.cells Y_J1_indexOfChar_4cfef_s1.2.2.2.1.slots w zm_ei) 0 0 false w 0 [(0, .ref (E.2.2.2.2 4)), (1, .int a1), (2, .int a2), (3, .int a3)] [] M (f_J1_indexOfChar_4cfef_s1 a1 a2 a3 M) (fun r => some (r, M))
  unfold f_J1_indexOfChar_4cfef_s1
  refine zm_iload_n 1 rfl dJ1_indexOfChar_4cfef_0 rfl 1 rfl ?_
  refine zm_i2b 2 rfl dJ1_indexOfChar_4cfef_1 ?_
  refine zm_nmi (fun x2 _ => ?_)
  refine zm_istore (lv' := [(4, .int x2), (0, .ref (E.2.2.2.2 4)), (1, .int a1), (2, .int a2), (3, .int a3)]) 4 rfl dJ1_indexOfChar_4cfef_2 (by decide) rfl ?_
  refine zm_iload_n 5 rfl dJ1_indexOfChar_4cfef_4 rfl 3 rfl ?_
  refine zm_istore (lv' := [(5, .int a2), (4, .int x2), (0, .ref (E.2.2.2.2 4)), (1, .int a1), (2, .int a2), (3, .int a3)]) 7 rfl dJ1_indexOfChar_4cfef_5 (by decide) rfl ?_
  have hx22_7 : ∀ (e22_5 : Int32), zm_V X Y_J1_indexOfChar_4cfef_s1 E (zm_Q X E Y_J1_indexOfChar_4cfef_s1.2.2.2.1.cells Y_J1_indexOfChar_4cfef_s1.2.2.2.1.slots w zm_ei) 0 0 false w 22 [(5, .int e22_5)] [] M (some e22_5) (fun r => some (r, M)) := by
    intro e22_5
    refine zm_iload 24 rfl dJ1_indexOfChar_4cfef_22 0 rfl ?_
    exact zm_iret dJ1_indexOfChar_4cfef_24 rfl (Nat.le_refl _) (Nat.le_refl _) rfl
  have hx31_7 : zm_V X Y_J1_indexOfChar_4cfef_s1 E (zm_Q X E Y_J1_indexOfChar_4cfef_s1.2.2.2.1.cells Y_J1_indexOfChar_4cfef_s1.2.2.2.1.slots w zm_ei) 0 0 false w 31 [] [] M (some (-1)) (fun r => some (r, M)) := by
    refine zm_iconst 32 rfl dJ1_indexOfChar_4cfef_31 zi_m1 ?_
    exact zm_iret dJ1_indexOfChar_4cfef_32 rfl (Nat.le_refl _) (Nat.le_refl _) rfl
  refine zm_loc [2, 5, 1, 0] rfl (zm_lpp (σ := Int32) (ε := (Int32 ⊕ Unit)) (step := f_J1_indexOfChar_4cfef_s1_l7 a3 x2) (fun s => [(0, .ref (E.2.2.2.2 4)), (3, .int a3), (4, .int x2), (5, .int s)]) (fun _ => M) (fun D7 f7 hf7a hf7b hD7 s => ?_) a2)
  obtain ⟨l7_5, hq7⟩ : ∃ q, q = s := ⟨_, rfl⟩
  rw [← hq7]
  show zm_V X Y_J1_indexOfChar_4cfef_s1 E (zm_Q X E Y_J1_indexOfChar_4cfef_s1.2.2.2.1.cells Y_J1_indexOfChar_4cfef_s1.2.2.2.1.slots w zm_ei) 0 0 false w 7 [(0, .ref (E.2.2.2.2 4)), (3, .int a3), (4, .int x2), (5, .int l7_5)] [] M (f_J1_indexOfChar_4cfef_s1_l7 a3 x2 l7_5) f7
  unfold f_J1_indexOfChar_4cfef_s1_l7
  refine zm_iload 9 rfl dJ1_indexOfChar_4cfef_7 3 rfl ?_
  refine zm_iload_n 10 rfl dJ1_indexOfChar_4cfef_9 rfl 1 rfl ?_
  refine zm_icmp_ge 31 13 (by decide) rfl dJ1_indexOfChar_4cfef_10 ?_ ?_
  · exact zm_loc [] rfl (zm_go (hf7b _) (zm_unb (hx31_7)))
  · refine zm_aload_n 14 rfl dJ1_indexOfChar_4cfef_13 rfl 0 rfl ?_
    refine zm_iload 16 rfl dJ1_indexOfChar_4cfef_14 3 rfl ?_
    refine zm_sbald 17 rfl dJ1_indexOfChar_4cfef_16 (i := 1) (by decide) rfl ?_
    refine zm_iload 19 rfl dJ1_indexOfChar_4cfef_17 2 rfl ?_
    refine zm_icmp_ne 25 22 (by decide) rfl dJ1_indexOfChar_4cfef_19 ?_ ?_
    · exact zm_loc [3] rfl (zm_go (hf7b _) (zm_unb (hx22_7 l7_5)))
    · refine zm_iinc (lv' := fun z => [(5, .int z), (0, .ref (E.2.2.2.2 4)), (3, .int a3), (4, .int x2)]) 28 rfl dJ1_indexOfChar_4cfef_25 zi_1 3 rfl (by decide) (fun _ => rfl) (fun x25 _ => ?_)
      refine zm_goto 7 (by decide) dJ1_indexOfChar_4cfef_28 ?_
      exact zm_loc [1, 2, 3, 0] rfl (zm_go (hf7a _) (hD7 x25))
abbrev Y_J1_indexOf_4cfef_s0 : zm_Y := (cJ1_indexOf_4cfef, 4, RJ1, { frames := 1, cells := 0, slots := 0, locals := 25 }, (some .int), false, "indexOf")
noncomputable def f_J1_indexOf_4cfef_s0 (a1 : Int32) (a2 : Int32) (a3 : Int32) (M : zm_Mem) : Option Int32 :=
  zm_b1 (f_J1_canEncode_9a6ad a1 M) <| fun r1 => if r1 = 0 then (some (-1)) else (zm_v (zm_max a2 0) <| fun x14 => zm_v (zm_min a3 107) <| fun x21 => if x14 < x21 then (zm_b1 (f_J1_indexOfChar_4cfef_s0 a1 x14 x21 M) <| fun r33 => some r33) else (some (-1)))
set_option maxRecDepth 20000 in
set_option maxHeartbeats 4000000 in
theorem k_J1_indexOf_4cfef_s0 (E : zm_E) (w : zm_W) (a1 : Int32) (a2 : Int32) (a3 : Int32) (M : zm_Mem) {r : Int32} (h : f_J1_indexOf_4cfef_s0 a1 a2 a3 M = some r) : zm_Ct E w w yJ1_indexOf_4cfef Y_J1_indexOf_4cfef_s0 [.ref (E.2.2.2.2 2), .int a1, .int a2, .int a3] M (some (.int r)) M := by
  refine zm_methr (emb := zm_ei) (d := f_J1_indexOf_4cfef_s0 a1 a2 a3 M) (by decide) rfl rfl (Nat.le_of_ble_eq_true rfl) h (fun X => ?_)
  show zm_V X Y_J1_indexOf_4cfef_s0 E (zm_Q X E Y_J1_indexOf_4cfef_s0.2.2.2.1.cells Y_J1_indexOf_4cfef_s0.2.2.2.1.slots w zm_ei) 0 0 false w 0 [(0, .ref (E.2.2.2.2 2)), (1, .int a1), (2, .int a2), (3, .int a3)] [] M (f_J1_indexOf_4cfef_s0 a1 a2 a3 M) (fun r => some (r, M))
  unfold f_J1_indexOf_4cfef_s0
  refine zm_iload_n 1 rfl dJ1_indexOf_4cfef_0 rfl 1 rfl ?_
  refine zm_cS1ir 4 rfl dJ1_indexOf_4cfef_1 ml_J1_88 (Nat.le_of_ble_eq_true rfl) ⟨Nat.le_of_ble_eq_true rfl, Nat.le_of_ble_eq_true rfl⟩ rfl rfl ⟨Nat.le_refl _, Nat.le_refl _⟩ rfl (fun _ h => k_J1_canEncode_9a6ad E w a1 M h) (fun r1 => ?_)
  refine zm_if_ne 9 7 (by decide) rfl dJ1_indexOf_4cfef_4 ?_ ?_
  · refine zm_iconst 8 rfl dJ1_indexOf_4cfef_7 zi_m1 ?_
    exact zm_iret dJ1_indexOf_4cfef_8 rfl (Nat.le_refl _) (Nat.le_refl _) rfl
  · refine zm_iload_n 10 rfl dJ1_indexOf_4cfef_9 rfl 2 rfl ?_
    refine zm_iconst 11 rfl dJ1_indexOf_4cfef_10 zi_0 ?_
    refine zm_mmax 14 rfl dJ1_indexOf_4cfef_11 mm_J1_92 mm_st_max in_math mm_co_max (Nat.le_of_ble_eq_true rfl) (Nat.le_of_ble_eq_true rfl) ⟨Nat.le_refl _, Nat.le_refl _⟩ ?_
    refine zm_nmi (fun x14 _ => ?_)
    refine zm_istore_n (lv' := [(2, .int x14), (0, .ref (E.2.2.2.2 2)), (1, .int a1), (3, .int a3)]) 15 rfl dJ1_indexOf_4cfef_14 rfl (by decide) rfl ?_
    refine zm_iload_n 16 rfl dJ1_indexOf_4cfef_15 rfl 3 rfl ?_
    refine zm_aload_n 17 rfl dJ1_indexOf_4cfef_16 rfl 1 rfl ?_
    refine zm_sblen (v := 107) 18 rfl dJ1_indexOf_4cfef_17 (i := 0) (by decide) rfl (by decide) ?_
    refine zm_mmin 21 rfl dJ1_indexOf_4cfef_18 mm_J1_38 mm_st_min in_math mm_co_min (Nat.le_of_ble_eq_true rfl) (Nat.le_of_ble_eq_true rfl) ⟨Nat.le_refl _, Nat.le_refl _⟩ ?_
    refine zm_nmi (fun x21 _ => ?_)
    refine zm_istore_n (lv' := [(3, .int x21), (2, .int x14), (0, .ref (E.2.2.2.2 2)), (1, .int a1)]) 22 rfl dJ1_indexOf_4cfef_21 rfl (by decide) rfl ?_
    refine zm_iload_n 23 rfl dJ1_indexOf_4cfef_22 rfl 1 rfl ?_
    refine zm_iload_n 24 rfl dJ1_indexOf_4cfef_23 rfl 0 rfl ?_
    refine zm_icmp_lt 29 27 (by decide) rfl dJ1_indexOf_4cfef_24 ?_ ?_
    · refine zm_aload_n 30 rfl dJ1_indexOf_4cfef_29 rfl 2 rfl ?_
      refine zm_iload_n 31 rfl dJ1_indexOf_4cfef_30 rfl 3 rfl ?_
      refine zm_iload_n 32 rfl dJ1_indexOf_4cfef_31 rfl 1 rfl ?_
      refine zm_iload_n 33 rfl dJ1_indexOf_4cfef_32 rfl 0 rfl ?_
      refine zm_cS4ir 36 rfl dJ1_indexOf_4cfef_33 ml_J1_95 (Nat.le_of_ble_eq_true rfl) ⟨Nat.le_of_ble_eq_true rfl, Nat.le_of_ble_eq_true rfl⟩ rfl rfl ⟨Nat.le_refl _, Nat.le_refl _⟩ rfl (fun _ h => k_J1_indexOfChar_4cfef_s0 E w a1 x14 x21 M h) (fun r33 => ?_)
      exact zm_iret dJ1_indexOf_4cfef_36 rfl (Nat.le_refl _) (Nat.le_refl _) rfl
    · refine zm_iconst 28 rfl dJ1_indexOf_4cfef_27 zi_m1 ?_
      exact zm_iret dJ1_indexOf_4cfef_28 rfl (Nat.le_refl _) (Nat.le_refl _) rfl
abbrev Y_J1_indexOf_4cfef_s1 : zm_Y := (cJ1_indexOf_4cfef, 4, RJ1, { frames := 1, cells := 0, slots := 0, locals := 25 }, (some .int), false, "indexOf")
noncomputable def f_J1_indexOf_4cfef_s1 (a1 : Int32) (a2 : Int32) (a3 : Int32) (M : zm_Mem) : Option Int32 :=
  zm_b1 (f_J1_canEncode_9a6ad a1 M) <| fun r1 => if r1 = 0 then (some (-1)) else (zm_v (zm_max a2 0) <| fun x14 => zm_v (zm_min a3 9) <| fun x21 => if x14 < x21 then (zm_b1 (f_J1_indexOfChar_4cfef_s1 a1 x14 x21 M) <| fun r33 => some r33) else (some (-1)))
set_option maxRecDepth 20000 in
set_option maxHeartbeats 4000000 in
theorem k_J1_indexOf_4cfef_s1 (E : zm_E) (w : zm_W) (a1 : Int32) (a2 : Int32) (a3 : Int32) (M : zm_Mem) {r : Int32} (h : f_J1_indexOf_4cfef_s1 a1 a2 a3 M = some r) : zm_Ct E w w yJ1_indexOf_4cfef Y_J1_indexOf_4cfef_s1 [.ref (E.2.2.2.2 4), .int a1, .int a2, .int a3] M (some (.int r)) M := by
  refine zm_methr (emb := zm_ei) (d := f_J1_indexOf_4cfef_s1 a1 a2 a3 M) (by decide) rfl rfl (Nat.le_of_ble_eq_true rfl) h (fun X => ?_)
  show zm_V X Y_J1_indexOf_4cfef_s1 E (zm_Q X E Y_J1_indexOf_4cfef_s1.2.2.2.1.cells Y_J1_indexOf_4cfef_s1.2.2.2.1.slots w zm_ei) 0 0 false w 0 [(0, .ref (E.2.2.2.2 4)), (1, .int a1), (2, .int a2), (3, .int a3)] [] M (f_J1_indexOf_4cfef_s1 a1 a2 a3 M) (fun r => some (r, M))
  unfold f_J1_indexOf_4cfef_s1
  refine zm_iload_n 1 rfl dJ1_indexOf_4cfef_0 rfl 1 rfl ?_
  refine zm_cS1ir 4 rfl dJ1_indexOf_4cfef_1 ml_J1_88 (Nat.le_of_ble_eq_true rfl) ⟨Nat.le_of_ble_eq_true rfl, Nat.le_of_ble_eq_true rfl⟩ rfl rfl ⟨Nat.le_refl _, Nat.le_refl _⟩ rfl (fun _ h => k_J1_canEncode_9a6ad E w a1 M h) (fun r1 => ?_)
  refine zm_if_ne 9 7 (by decide) rfl dJ1_indexOf_4cfef_4 ?_ ?_
  · refine zm_iconst 8 rfl dJ1_indexOf_4cfef_7 zi_m1 ?_
    exact zm_iret dJ1_indexOf_4cfef_8 rfl (Nat.le_refl _) (Nat.le_refl _) rfl
  · refine zm_iload_n 10 rfl dJ1_indexOf_4cfef_9 rfl 2 rfl ?_
    refine zm_iconst 11 rfl dJ1_indexOf_4cfef_10 zi_0 ?_
    refine zm_mmax 14 rfl dJ1_indexOf_4cfef_11 mm_J1_92 mm_st_max in_math mm_co_max (Nat.le_of_ble_eq_true rfl) (Nat.le_of_ble_eq_true rfl) ⟨Nat.le_refl _, Nat.le_refl _⟩ ?_
    refine zm_nmi (fun x14 _ => ?_)
    refine zm_istore_n (lv' := [(2, .int x14), (0, .ref (E.2.2.2.2 4)), (1, .int a1), (3, .int a3)]) 15 rfl dJ1_indexOf_4cfef_14 rfl (by decide) rfl ?_
    refine zm_iload_n 16 rfl dJ1_indexOf_4cfef_15 rfl 3 rfl ?_
    refine zm_aload_n 17 rfl dJ1_indexOf_4cfef_16 rfl 1 rfl ?_
    refine zm_sblen (v := 9) 18 rfl dJ1_indexOf_4cfef_17 (i := 1) (by decide) rfl (by decide) ?_
    refine zm_mmin 21 rfl dJ1_indexOf_4cfef_18 mm_J1_38 mm_st_min in_math mm_co_min (Nat.le_of_ble_eq_true rfl) (Nat.le_of_ble_eq_true rfl) ⟨Nat.le_refl _, Nat.le_refl _⟩ ?_
    refine zm_nmi (fun x21 _ => ?_)
    refine zm_istore_n (lv' := [(3, .int x21), (2, .int x14), (0, .ref (E.2.2.2.2 4)), (1, .int a1)]) 22 rfl dJ1_indexOf_4cfef_21 rfl (by decide) rfl ?_
    refine zm_iload_n 23 rfl dJ1_indexOf_4cfef_22 rfl 1 rfl ?_
    refine zm_iload_n 24 rfl dJ1_indexOf_4cfef_23 rfl 0 rfl ?_
    refine zm_icmp_lt 29 27 (by decide) rfl dJ1_indexOf_4cfef_24 ?_ ?_
    · refine zm_aload_n 30 rfl dJ1_indexOf_4cfef_29 rfl 2 rfl ?_
      refine zm_iload_n 31 rfl dJ1_indexOf_4cfef_30 rfl 3 rfl ?_
      refine zm_iload_n 32 rfl dJ1_indexOf_4cfef_31 rfl 1 rfl ?_
      refine zm_iload_n 33 rfl dJ1_indexOf_4cfef_32 rfl 0 rfl ?_
      refine zm_cS4ir 36 rfl dJ1_indexOf_4cfef_33 ml_J1_95 (Nat.le_of_ble_eq_true rfl) ⟨Nat.le_of_ble_eq_true rfl, Nat.le_of_ble_eq_true rfl⟩ rfl rfl ⟨Nat.le_refl _, Nat.le_refl _⟩ rfl (fun _ h => k_J1_indexOfChar_4cfef_s1 E w a1 x14 x21 M h) (fun r33 => ?_)
      exact zm_iret dJ1_indexOf_4cfef_36 rfl (Nat.le_refl _) (Nat.le_refl _) rfl
    · refine zm_iconst 28 rfl dJ1_indexOf_4cfef_27 zi_m1 ?_
      exact zm_iret dJ1_indexOf_4cfef_28 rfl (Nat.le_refl _) (Nat.le_refl _) rfl
abbrev Y_J0_indexOf_7cf53_s0 : zm_Y := (cJ0_indexOf_7cf53, 3, RJ0, { frames := 5, cells := 0, slots := 0, locals := 116 }, (some .int), false, "indexOf")
noncomputable def f_J0_indexOf_7cf53_s0 (a1 : Int32) (a2 : Int32) (M : zm_Mem) : Option Int32 :=
  zm_b1 (f_J0_isLatin1_aae02_s0 M) <| fun r1 => if r1 = 0 then (none) else (zm_b1 (f_J0_length_8abf5_s0 M) <| fun r14 => zm_b1 (f_J1_indexOf_4cfef_s0 a1 a2 r14 M) <| fun r17 => some r17)
set_option maxRecDepth 20000 in
set_option maxHeartbeats 4000000 in
theorem k_J0_indexOf_7cf53_s0 (E : zm_E) (w : zm_W) (a1 : Int32) (a2 : Int32) (M : zm_Mem) {r : Int32} (h : f_J0_indexOf_7cf53_s0 a1 a2 M = some r) : zm_Ct E w w yJ0_indexOf_7cf53 Y_J0_indexOf_7cf53_s0 [.ref (E.2.2.2.2 1), .int a1, .int a2] M (some (.int r)) M := by
  refine zm_methr (emb := zm_ei) (d := f_J0_indexOf_7cf53_s0 a1 a2 M) (by decide) rfl rfl (Nat.le_of_ble_eq_true rfl) h (fun X => ?_)
  show zm_V X Y_J0_indexOf_7cf53_s0 E (zm_Q X E Y_J0_indexOf_7cf53_s0.2.2.2.1.cells Y_J0_indexOf_7cf53_s0.2.2.2.1.slots w zm_ei) 0 0 false w 0 [(0, .ref (E.2.2.2.2 1)), (1, .int a1), (2, .int a2)] [] M (f_J0_indexOf_7cf53_s0 a1 a2 M) (fun r => some (r, M))
  unfold f_J0_indexOf_7cf53_s0
  refine zm_aload_n 1 rfl dJ0_indexOf_7cf53_0 rfl 0 rfl ?_
  refine zm_cT0ir 4 rfl dJ0_indexOf_7cf53_1 ml_J0_492 (i := 0) (by decide) (Nat.le_of_ble_eq_true rfl) ⟨Nat.le_of_ble_eq_true rfl, Nat.le_of_ble_eq_true rfl⟩ rfl rfl ⟨Nat.le_refl _, Nat.le_refl _⟩ rfl (fun _ h => k_J0_isLatin1_aae02_s0 E w M h) (fun r1 => ?_)
  refine zm_if_eq 23 7 (by decide) rfl dJ0_indexOf_7cf53_4 ?_ ?_
  · exact zm_none
  · refine zm_aload_n 8 rfl dJ0_indexOf_7cf53_7 rfl 0 rfl ?_
    refine zm_strV 11 rfl dJ0_indexOf_7cf53_8 fs_J0_9 (i := 0) (by decide) ?_
    refine zm_iload_n 12 rfl dJ0_indexOf_7cf53_11 rfl 1 rfl ?_
    refine zm_iload_n 13 rfl dJ0_indexOf_7cf53_12 rfl 2 rfl ?_
    refine zm_aload_n 14 rfl dJ0_indexOf_7cf53_13 rfl 0 rfl ?_
    refine zm_cT0ir 17 rfl dJ0_indexOf_7cf53_14 ml_J0_505 (i := 0) (by decide) (Nat.le_of_ble_eq_true rfl) ⟨Nat.le_of_ble_eq_true rfl, Nat.le_of_ble_eq_true rfl⟩ rfl rfl ⟨Nat.le_refl _, Nat.le_refl _⟩ rfl (fun _ h => k_J0_length_8abf5_s0 E w M h) (fun r14 => ?_)
    refine zm_cS4ir 20 rfl dJ0_indexOf_7cf53_17 ml_J0_637 (Nat.le_of_ble_eq_true rfl) ⟨Nat.le_of_ble_eq_true rfl, Nat.le_of_ble_eq_true rfl⟩ rfl rfl ⟨Nat.le_refl _, Nat.le_refl _⟩ rfl (fun _ h => k_J1_indexOf_4cfef_s0 E w a1 a2 r14 M h) (fun r17 => ?_)
    refine zm_goto 36 (by decide) dJ0_indexOf_7cf53_20 ?_
    exact zm_iret dJ0_indexOf_7cf53_36 rfl (Nat.le_refl _) (Nat.le_refl _) rfl
abbrev Y_J0_indexOf_7cf53_s1 : zm_Y := (cJ0_indexOf_7cf53, 3, RJ0, { frames := 5, cells := 0, slots := 0, locals := 116 }, (some .int), false, "indexOf")
noncomputable def f_J0_indexOf_7cf53_s1 (a1 : Int32) (a2 : Int32) (M : zm_Mem) : Option Int32 :=
  zm_b1 (f_J0_isLatin1_aae02_s1 M) <| fun r1 => if r1 = 0 then (none) else (zm_b1 (f_J0_length_8abf5_s1 M) <| fun r14 => zm_b1 (f_J1_indexOf_4cfef_s1 a1 a2 r14 M) <| fun r17 => some r17)
set_option maxRecDepth 20000 in
set_option maxHeartbeats 4000000 in
theorem k_J0_indexOf_7cf53_s1 (E : zm_E) (w : zm_W) (a1 : Int32) (a2 : Int32) (M : zm_Mem) {r : Int32} (h : f_J0_indexOf_7cf53_s1 a1 a2 M = some r) : zm_Ct E w w yJ0_indexOf_7cf53 Y_J0_indexOf_7cf53_s1 [.ref (E.2.2.2.2 3), .int a1, .int a2] M (some (.int r)) M := by
  refine zm_methr (emb := zm_ei) (d := f_J0_indexOf_7cf53_s1 a1 a2 M) (by decide) rfl rfl (Nat.le_of_ble_eq_true rfl) h (fun X => ?_)
  show zm_V X Y_J0_indexOf_7cf53_s1 E (zm_Q X E Y_J0_indexOf_7cf53_s1.2.2.2.1.cells Y_J0_indexOf_7cf53_s1.2.2.2.1.slots w zm_ei) 0 0 false w 0 [(0, .ref (E.2.2.2.2 3)), (1, .int a1), (2, .int a2)] [] M (f_J0_indexOf_7cf53_s1 a1 a2 M) (fun r => some (r, M))
  unfold f_J0_indexOf_7cf53_s1
  refine zm_aload_n 1 rfl dJ0_indexOf_7cf53_0 rfl 0 rfl ?_
  refine zm_cT0ir 4 rfl dJ0_indexOf_7cf53_1 ml_J0_492 (i := 1) (by decide) (Nat.le_of_ble_eq_true rfl) ⟨Nat.le_of_ble_eq_true rfl, Nat.le_of_ble_eq_true rfl⟩ rfl rfl ⟨Nat.le_refl _, Nat.le_refl _⟩ rfl (fun _ h => k_J0_isLatin1_aae02_s1 E w M h) (fun r1 => ?_)
  refine zm_if_eq 23 7 (by decide) rfl dJ0_indexOf_7cf53_4 ?_ ?_
  · exact zm_none
  · refine zm_aload_n 8 rfl dJ0_indexOf_7cf53_7 rfl 0 rfl ?_
    refine zm_strV 11 rfl dJ0_indexOf_7cf53_8 fs_J0_9 (i := 1) (by decide) ?_
    refine zm_iload_n 12 rfl dJ0_indexOf_7cf53_11 rfl 1 rfl ?_
    refine zm_iload_n 13 rfl dJ0_indexOf_7cf53_12 rfl 2 rfl ?_
    refine zm_aload_n 14 rfl dJ0_indexOf_7cf53_13 rfl 0 rfl ?_
    refine zm_cT0ir 17 rfl dJ0_indexOf_7cf53_14 ml_J0_505 (i := 1) (by decide) (Nat.le_of_ble_eq_true rfl) ⟨Nat.le_of_ble_eq_true rfl, Nat.le_of_ble_eq_true rfl⟩ rfl rfl ⟨Nat.le_refl _, Nat.le_refl _⟩ rfl (fun _ h => k_J0_length_8abf5_s1 E w M h) (fun r14 => ?_)
    refine zm_cS4ir 20 rfl dJ0_indexOf_7cf53_17 ml_J0_637 (Nat.le_of_ble_eq_true rfl) ⟨Nat.le_of_ble_eq_true rfl, Nat.le_of_ble_eq_true rfl⟩ rfl rfl ⟨Nat.le_refl _, Nat.le_refl _⟩ rfl (fun _ h => k_J1_indexOf_4cfef_s1 E w a1 a2 r14 M h) (fun r17 => ?_)
    refine zm_goto 36 (by decide) dJ0_indexOf_7cf53_20 ?_
    exact zm_iret dJ0_indexOf_7cf53_36 rfl (Nat.le_refl _) (Nat.le_refl _) rfl
abbrev Y_J0_indexOf_0f7a4_s0 : zm_Y := (cJ0_indexOf_0f7a4, 2, RJ0, { frames := 6, cells := 0, slots := 0, locals := 138 }, (some .int), false, "indexOf")
noncomputable def f_J0_indexOf_0f7a4_s0 (a1 : Int32) (M : zm_Mem) : Option Int32 :=
  zm_b1 (f_J0_indexOf_7cf53_s0 a1 0 M) <| fun r3 => some r3
set_option maxRecDepth 20000 in
set_option maxHeartbeats 4000000 in
theorem k_J0_indexOf_0f7a4_s0 (E : zm_E) (w : zm_W) (a1 : Int32) (M : zm_Mem) {r : Int32} (h : f_J0_indexOf_0f7a4_s0 a1 M = some r) : zm_Ct E w w yJ0_indexOf_0f7a4 Y_J0_indexOf_0f7a4_s0 [.ref (E.2.2.2.2 1), .int a1] M (some (.int r)) M := by
  refine zm_methr (emb := zm_ei) (d := f_J0_indexOf_0f7a4_s0 a1 M) (by decide) rfl rfl (Nat.le_of_ble_eq_true rfl) h (fun X => ?_)
  show zm_V X Y_J0_indexOf_0f7a4_s0 E (zm_Q X E Y_J0_indexOf_0f7a4_s0.2.2.2.1.cells Y_J0_indexOf_0f7a4_s0.2.2.2.1.slots w zm_ei) 0 0 false w 0 [(0, .ref (E.2.2.2.2 1)), (1, .int a1)] [] M (f_J0_indexOf_0f7a4_s0 a1 M) (fun r => some (r, M))
  unfold f_J0_indexOf_0f7a4_s0
  refine zm_aload_n 1 rfl dJ0_indexOf_0f7a4_0 rfl 0 rfl ?_
  refine zm_iload_n 2 rfl dJ0_indexOf_0f7a4_1 rfl 1 rfl ?_
  refine zm_iconst 3 rfl dJ0_indexOf_0f7a4_2 zi_0 ?_
  refine zm_cT2ir 6 rfl dJ0_indexOf_0f7a4_3 ml_J0_633 (i := 0) (by decide) (Nat.le_of_ble_eq_true rfl) ⟨Nat.le_of_ble_eq_true rfl, Nat.le_of_ble_eq_true rfl⟩ rfl rfl ⟨Nat.le_refl _, Nat.le_refl _⟩ rfl (fun _ h => k_J0_indexOf_7cf53_s0 E w a1 0 M h) (fun r3 => ?_)
  exact zm_iret dJ0_indexOf_0f7a4_6 rfl (Nat.le_refl _) (Nat.le_refl _) rfl
abbrev Y_J0_indexOf_0f7a4_s1 : zm_Y := (cJ0_indexOf_0f7a4, 2, RJ0, { frames := 6, cells := 0, slots := 0, locals := 138 }, (some .int), false, "indexOf")
noncomputable def f_J0_indexOf_0f7a4_s1 (a1 : Int32) (M : zm_Mem) : Option Int32 :=
  zm_b1 (f_J0_indexOf_7cf53_s1 a1 0 M) <| fun r3 => some r3
set_option maxRecDepth 20000 in
set_option maxHeartbeats 4000000 in
theorem k_J0_indexOf_0f7a4_s1 (E : zm_E) (w : zm_W) (a1 : Int32) (M : zm_Mem) {r : Int32} (h : f_J0_indexOf_0f7a4_s1 a1 M = some r) : zm_Ct E w w yJ0_indexOf_0f7a4 Y_J0_indexOf_0f7a4_s1 [.ref (E.2.2.2.2 3), .int a1] M (some (.int r)) M := by
  refine zm_methr (emb := zm_ei) (d := f_J0_indexOf_0f7a4_s1 a1 M) (by decide) rfl rfl (Nat.le_of_ble_eq_true rfl) h (fun X => ?_)
  show zm_V X Y_J0_indexOf_0f7a4_s1 E (zm_Q X E Y_J0_indexOf_0f7a4_s1.2.2.2.1.cells Y_J0_indexOf_0f7a4_s1.2.2.2.1.slots w zm_ei) 0 0 false w 0 [(0, .ref (E.2.2.2.2 3)), (1, .int a1)] [] M (f_J0_indexOf_0f7a4_s1 a1 M) (fun r => some (r, M))
  unfold f_J0_indexOf_0f7a4_s1
  refine zm_aload_n 1 rfl dJ0_indexOf_0f7a4_0 rfl 0 rfl ?_
  refine zm_iload_n 2 rfl dJ0_indexOf_0f7a4_1 rfl 1 rfl ?_
  refine zm_iconst 3 rfl dJ0_indexOf_0f7a4_2 zi_0 ?_
  refine zm_cT2ir 6 rfl dJ0_indexOf_0f7a4_3 ml_J0_633 (i := 1) (by decide) (Nat.le_of_ble_eq_true rfl) ⟨Nat.le_of_ble_eq_true rfl, Nat.le_of_ble_eq_true rfl⟩ rfl rfl ⟨Nat.le_refl _, Nat.le_refl _⟩ rfl (fun _ h => k_J0_indexOf_7cf53_s1 E w a1 0 M h) (fun r3 => ?_)
  exact zm_iret dJ0_indexOf_0f7a4_6 rfl (Nat.le_refl _) (Nat.le_refl _) rfl
abbrev Y_J6_numberOfTrailingZeros_0f7a4 : zm_Y := (cJ6_numberOfTrailingZeros_0f7a4, 2, RJ6, { frames := 0, cells := 0, slots := 0, locals := 0 }, (some .int), false, "numberOfTrailingZeros")
noncomputable def f_J6_numberOfTrailingZeros_0f7a4_b74 (b74_0 : Int32) (b74_1 : Int32) : Option Int32 :=
 some (b74_1 + ((b74_0.toUInt32 >>> ((1 : Int32).toUInt32 &&& Int32.toUInt32 31)).toInt32))
noncomputable def f_J6_numberOfTrailingZeros_0f7a4_b62 (b62_0 : Int32) (b62_1 : Int32) : Option Int32 :=
 if b62_0 ≤ (4 : Int32) then (f_J6_numberOfTrailingZeros_0f7a4_b74 b62_0 b62_1) else (zm_v (b62_1 + 2) <| fun x67 => zm_v ((b62_0.toUInt32 >>> ((2 : Int32).toUInt32 &&& Int32.toUInt32 31)).toInt32) <| fun x73 => f_J6_numberOfTrailingZeros_0f7a4_b74 x73 x67)
noncomputable def f_J6_numberOfTrailingZeros_0f7a4_b49 (b49_0 : Int32) (b49_1 : Int32) : Option Int32 :=
 if b49_0 ≤ (16 : Int32) then (f_J6_numberOfTrailingZeros_0f7a4_b62 b49_0 b49_1) else (zm_v (b49_1 + 4) <| fun x55 => zm_v ((b49_0.toUInt32 >>> ((4 : Int32).toUInt32 &&& Int32.toUInt32 31)).toInt32) <| fun x61 => f_J6_numberOfTrailingZeros_0f7a4_b62 x61 x55)
noncomputable def f_J6_numberOfTrailingZeros_0f7a4_b34 (b34_0 : Int32) (b34_1 : Int32) : Option Int32 :=
 if b34_0 ≤ (256 : Int32) then (f_J6_numberOfTrailingZeros_0f7a4_b49 b34_0 b34_1) else (zm_v (b34_1 + 8) <| fun x41 => zm_v ((b34_0.toUInt32 >>> ((8 : Int32).toUInt32 &&& Int32.toUInt32 31)).toInt32) <| fun x48 => f_J6_numberOfTrailingZeros_0f7a4_b49 x48 x41)
noncomputable def f_J6_numberOfTrailingZeros_0f7a4 (a0 : Int32) (M : zm_Mem) : Option Int32 :=
  zm_v ((a0 ^^^ (-1)) &&& (a0 - 1)) <| fun x7 => if 0 < x7 then (if x7 ≤ (65536 : Int32) then (f_J6_numberOfTrailingZeros_0f7a4_b34 x7 1) else (zm_v (1 + 16) <| fun x26 => zm_v ((x7.toUInt32 >>> ((16 : Int32).toUInt32 &&& Int32.toUInt32 31)).toInt32) <| fun x33 => f_J6_numberOfTrailingZeros_0f7a4_b34 x33 x26)) else (some (x7 &&& 32))
set_option maxRecDepth 20000 in
set_option maxHeartbeats 4000000 in
theorem k_J6_numberOfTrailingZeros_0f7a4 (E : zm_E) (w : zm_W) (a0 : Int32) (M : zm_Mem) {r : Int32} (h : f_J6_numberOfTrailingZeros_0f7a4 a0 M = some r) : zm_Ct E w w yJ6_numberOfTrailingZeros_0f7a4 Y_J6_numberOfTrailingZeros_0f7a4 [.int a0] M (some (.int r)) M := by
  refine zm_methr (emb := zm_ei) (d := f_J6_numberOfTrailingZeros_0f7a4 a0 M) (by decide) rfl rfl (Nat.le_of_ble_eq_true rfl) h (fun X => ?_)
  show zm_V X Y_J6_numberOfTrailingZeros_0f7a4 E (zm_Q X E Y_J6_numberOfTrailingZeros_0f7a4.2.2.2.1.cells Y_J6_numberOfTrailingZeros_0f7a4.2.2.2.1.slots w zm_ei) 0 0 false w 0 [(0, .int a0)] [] M (f_J6_numberOfTrailingZeros_0f7a4 a0 M) (fun r => some (r, M))
  unfold f_J6_numberOfTrailingZeros_0f7a4
  refine zm_iload_n 1 rfl dJ6_numberOfTrailingZeros_0f7a4_0 rfl 0 rfl ?_
  refine zm_iconst 2 rfl dJ6_numberOfTrailingZeros_0f7a4_1 zi_m1 ?_
  refine zm_ixor 3 rfl dJ6_numberOfTrailingZeros_0f7a4_2 ?_
  refine zm_iload_n 4 rfl dJ6_numberOfTrailingZeros_0f7a4_3 rfl 0 rfl ?_
  refine zm_iconst 5 rfl dJ6_numberOfTrailingZeros_0f7a4_4 zi_1 ?_
  refine zm_isub 6 rfl dJ6_numberOfTrailingZeros_0f7a4_5 ?_
  refine zm_iand 7 rfl dJ6_numberOfTrailingZeros_0f7a4_6 ?_
  refine zm_nmi (fun x7 _ => ?_)
  refine zm_istore_n (lv' := [(0, .int x7)]) 8 rfl dJ6_numberOfTrailingZeros_0f7a4_7 rfl (by decide) rfl ?_
  refine zm_iload_n 9 rfl dJ6_numberOfTrailingZeros_0f7a4_8 rfl 0 rfl ?_
  refine zm_if_gt 17 12 (by decide) rfl dJ6_numberOfTrailingZeros_0f7a4_9 ?_ ?_
  · refine zm_iconst 18 rfl dJ6_numberOfTrailingZeros_0f7a4_17 zi_1 ?_
    refine zm_istore_n (lv' := [(1, .int 1), (0, .int x7)]) 19 rfl dJ6_numberOfTrailingZeros_0f7a4_18 rfl (by decide) rfl ?_
    refine zm_iload_n 20 rfl dJ6_numberOfTrailingZeros_0f7a4_19 rfl 1 rfl ?_
    refine zm_ldcw 23 rfl dJ6_numberOfTrailingZeros_0f7a4_20 kc_J6_264 ?_
    have hb34 : ∀ (b34_0 : Int32) (b34_1 : Int32), zm_V X Y_J6_numberOfTrailingZeros_0f7a4 E (zm_Q X E Y_J6_numberOfTrailingZeros_0f7a4.2.2.2.1.cells Y_J6_numberOfTrailingZeros_0f7a4.2.2.2.1.slots w zm_ei) 0 0 false w 34 [(0, .int b34_0), (1, .int b34_1)] [] M (f_J6_numberOfTrailingZeros_0f7a4_b34 b34_0 b34_1) (fun r => some (r, M)) := by
      intro b34_0 b34_1
      unfold f_J6_numberOfTrailingZeros_0f7a4_b34
      refine zm_iload_n 35 rfl dJ6_numberOfTrailingZeros_0f7a4_34 rfl 0 rfl ?_
      refine zm_sipush 38 rfl dJ6_numberOfTrailingZeros_0f7a4_35 zs_256 ?_
      have hb49 : ∀ (b49_0 : Int32) (b49_1 : Int32), zm_V X Y_J6_numberOfTrailingZeros_0f7a4 E (zm_Q X E Y_J6_numberOfTrailingZeros_0f7a4.2.2.2.1.cells Y_J6_numberOfTrailingZeros_0f7a4.2.2.2.1.slots w zm_ei) 0 0 false w 49 [(0, .int b49_0), (1, .int b49_1)] [] M (f_J6_numberOfTrailingZeros_0f7a4_b49 b49_0 b49_1) (fun r => some (r, M)) := by
        intro b49_0 b49_1
        unfold f_J6_numberOfTrailingZeros_0f7a4_b49
        refine zm_iload_n 50 rfl dJ6_numberOfTrailingZeros_0f7a4_49 rfl 0 rfl ?_
        refine zm_bipush 52 rfl dJ6_numberOfTrailingZeros_0f7a4_50 zb_16 ?_
        have hb62 : ∀ (b62_0 : Int32) (b62_1 : Int32), zm_V X Y_J6_numberOfTrailingZeros_0f7a4 E (zm_Q X E Y_J6_numberOfTrailingZeros_0f7a4.2.2.2.1.cells Y_J6_numberOfTrailingZeros_0f7a4.2.2.2.1.slots w zm_ei) 0 0 false w 62 [(0, .int b62_0), (1, .int b62_1)] [] M (f_J6_numberOfTrailingZeros_0f7a4_b62 b62_0 b62_1) (fun r => some (r, M)) := by
          intro b62_0 b62_1
          unfold f_J6_numberOfTrailingZeros_0f7a4_b62
          refine zm_iload_n 63 rfl dJ6_numberOfTrailingZeros_0f7a4_62 rfl 0 rfl ?_
          refine zm_iconst 64 rfl dJ6_numberOfTrailingZeros_0f7a4_63 zi_4 ?_
          have hb74 : ∀ (b74_0 : Int32) (b74_1 : Int32), zm_V X Y_J6_numberOfTrailingZeros_0f7a4 E (zm_Q X E Y_J6_numberOfTrailingZeros_0f7a4.2.2.2.1.cells Y_J6_numberOfTrailingZeros_0f7a4.2.2.2.1.slots w zm_ei) 0 0 false w 74 [(0, .int b74_0), (1, .int b74_1)] [] M (f_J6_numberOfTrailingZeros_0f7a4_b74 b74_0 b74_1) (fun r => some (r, M)) := by
            intro b74_0 b74_1
            unfold f_J6_numberOfTrailingZeros_0f7a4_b74
            refine zm_iload_n 75 rfl dJ6_numberOfTrailingZeros_0f7a4_74 rfl 1 rfl ?_
            refine zm_iload_n 76 rfl dJ6_numberOfTrailingZeros_0f7a4_75 rfl 0 rfl ?_
            refine zm_iconst 77 rfl dJ6_numberOfTrailingZeros_0f7a4_76 zi_1 ?_
            refine zm_iushr 78 rfl dJ6_numberOfTrailingZeros_0f7a4_77 ?_
            refine zm_iadd 79 rfl dJ6_numberOfTrailingZeros_0f7a4_78 ?_
            exact zm_iret dJ6_numberOfTrailingZeros_0f7a4_79 rfl (Nat.le_refl _) (Nat.le_refl _) rfl
          refine zm_icmp_le 74 67 (by decide) rfl dJ6_numberOfTrailingZeros_0f7a4_64 ?_ ?_
          · exact zm_loc [0, 1] rfl (hb74 b62_0 b62_1)
          · refine zm_iinc (lv' := fun z => [(1, .int z), (0, .int b62_0)]) 70 rfl dJ6_numberOfTrailingZeros_0f7a4_67 zi_2 1 rfl (by decide) (fun _ => rfl) (fun x67 _ => ?_)
            refine zm_iload_n 71 rfl dJ6_numberOfTrailingZeros_0f7a4_70 rfl 1 rfl ?_
            refine zm_iconst 72 rfl dJ6_numberOfTrailingZeros_0f7a4_71 zi_2 ?_
            refine zm_iushr 73 rfl dJ6_numberOfTrailingZeros_0f7a4_72 ?_
            refine zm_nmi (fun x73 _ => ?_)
            refine zm_istore_n (lv' := [(0, .int x73), (1, .int x67)]) 74 rfl dJ6_numberOfTrailingZeros_0f7a4_73 rfl (by decide) rfl ?_
            exact zm_loc [0, 1] rfl (hb74 x73 x67)
        refine zm_icmp_le 62 55 (by decide) rfl dJ6_numberOfTrailingZeros_0f7a4_52 ?_ ?_
        · exact zm_loc [0, 1] rfl (hb62 b49_0 b49_1)
        · refine zm_iinc (lv' := fun z => [(1, .int z), (0, .int b49_0)]) 58 rfl dJ6_numberOfTrailingZeros_0f7a4_55 zi_4 1 rfl (by decide) (fun _ => rfl) (fun x55 _ => ?_)
          refine zm_iload_n 59 rfl dJ6_numberOfTrailingZeros_0f7a4_58 rfl 1 rfl ?_
          refine zm_iconst 60 rfl dJ6_numberOfTrailingZeros_0f7a4_59 zi_4 ?_
          refine zm_iushr 61 rfl dJ6_numberOfTrailingZeros_0f7a4_60 ?_
          refine zm_nmi (fun x61 _ => ?_)
          refine zm_istore_n (lv' := [(0, .int x61), (1, .int x55)]) 62 rfl dJ6_numberOfTrailingZeros_0f7a4_61 rfl (by decide) rfl ?_
          exact zm_loc [0, 1] rfl (hb62 x61 x55)
      refine zm_icmp_le 49 41 (by decide) rfl dJ6_numberOfTrailingZeros_0f7a4_38 ?_ ?_
      · exact zm_loc [0, 1] rfl (hb49 b34_0 b34_1)
      · refine zm_iinc (lv' := fun z => [(1, .int z), (0, .int b34_0)]) 44 rfl dJ6_numberOfTrailingZeros_0f7a4_41 zi_8 1 rfl (by decide) (fun _ => rfl) (fun x41 _ => ?_)
        refine zm_iload_n 45 rfl dJ6_numberOfTrailingZeros_0f7a4_44 rfl 1 rfl ?_
        refine zm_bipush 47 rfl dJ6_numberOfTrailingZeros_0f7a4_45 zb_8 ?_
        refine zm_iushr 48 rfl dJ6_numberOfTrailingZeros_0f7a4_47 ?_
        refine zm_nmi (fun x48 _ => ?_)
        refine zm_istore_n (lv' := [(0, .int x48), (1, .int x41)]) 49 rfl dJ6_numberOfTrailingZeros_0f7a4_48 rfl (by decide) rfl ?_
        exact zm_loc [0, 1] rfl (hb49 x48 x41)
    refine zm_icmp_le 34 26 (by decide) rfl dJ6_numberOfTrailingZeros_0f7a4_23 ?_ ?_
    · exact zm_loc [1, 0] rfl (hb34 x7 1)
    · refine zm_iinc (lv' := fun z => [(1, .int z), (0, .int x7)]) 29 rfl dJ6_numberOfTrailingZeros_0f7a4_26 zi_16 0 rfl (by decide) (fun _ => rfl) (fun x26 _ => ?_)
      refine zm_iload_n 30 rfl dJ6_numberOfTrailingZeros_0f7a4_29 rfl 1 rfl ?_
      refine zm_bipush 32 rfl dJ6_numberOfTrailingZeros_0f7a4_30 zb_16 ?_
      refine zm_iushr 33 rfl dJ6_numberOfTrailingZeros_0f7a4_32 ?_
      refine zm_nmi (fun x33 _ => ?_)
      refine zm_istore_n (lv' := [(0, .int x33), (1, .int x26)]) 34 rfl dJ6_numberOfTrailingZeros_0f7a4_33 rfl (by decide) rfl ?_
      exact zm_loc [0, 1] rfl (hb34 x33 x26)
  · refine zm_iload_n 13 rfl dJ6_numberOfTrailingZeros_0f7a4_12 rfl 0 rfl ?_
    refine zm_bipush 15 rfl dJ6_numberOfTrailingZeros_0f7a4_13 zb_32 ?_
    refine zm_iand 16 rfl dJ6_numberOfTrailingZeros_0f7a4_15 ?_
    exact zm_iret dJ6_numberOfTrailingZeros_0f7a4_16 rfl (Nat.le_refl _) (Nat.le_refl _) rfl
