abbrev Y_X9_moveFirst : zm_Y := (cX9_moveFirst, 4, RX9, { frames := 0, cells := 0, slots := 0, locals := 0 }, (some .long), false, "moveFirst")
noncomputable def f_X9_moveFirst (a0 : Int64) (M : zm_Mem) : Option Int64 :=
  zm_v ((((a0 ||| ((a0.toUInt64 >>> ((1 : Int32).toInt64.toUInt64 &&& Int64.toUInt64 63)).toInt64)) ||| ((a0.toUInt64 >>> ((2 : Int32).toInt64.toUInt64 &&& Int64.toUInt64 63)).toInt64)) ||| ((a0.toUInt64 >>> ((3 : Int32).toInt64.toUInt64 &&& Int64.toUInt64 63)).toInt64)) ||| ((a0.toUInt64 >>> ((4 : Int32).toInt64.toUInt64 &&& Int64.toUInt64 63)).toInt64)) <| fun x17 => some ((x17 &&& 72340172838076673) * 31)
set_option maxRecDepth 20000 in
set_option maxHeartbeats 4000000 in
theorem k_X9_moveFirst (E : zm_E) (w : zm_W) (a0 : Int64) (M : zm_Mem) {r : Int64} (h : f_X9_moveFirst a0 M = some r) : zm_Ct E w w yX9_moveFirst Y_X9_moveFirst [.long a0] M (some (.long r)) M := by
  refine zm_methr (emb := zm_el) (d := f_X9_moveFirst a0 M) (by decide) rfl rfl (Nat.le_of_ble_eq_true rfl) h (fun X => ?_)
  show zm_V X Y_X9_moveFirst E (zm_Q X E Y_X9_moveFirst.2.2.2.1.cells Y_X9_moveFirst.2.2.2.1.slots w zm_el) 0 0 false w 0 [(0, .long a0)] [] M (f_X9_moveFirst a0 M) (fun r => some (r, M))
  unfold f_X9_moveFirst
  refine zm_lload_n 1 rfl dX9_moveFirst_0 rfl 0 rfl ?_
  refine zm_lload_n 2 rfl dX9_moveFirst_1 rfl 0 rfl ?_
  refine zm_iconst 3 rfl dX9_moveFirst_2 zi_1 ?_
  refine zm_lushr 4 rfl dX9_moveFirst_3 ?_
  refine zm_lor 5 rfl dX9_moveFirst_4 ?_
  refine zm_lload_n 6 rfl dX9_moveFirst_5 rfl 0 rfl ?_
  refine zm_iconst 7 rfl dX9_moveFirst_6 zi_2 ?_
  refine zm_lushr 8 rfl dX9_moveFirst_7 ?_
  refine zm_lor 9 rfl dX9_moveFirst_8 ?_
  refine zm_lload_n 10 rfl dX9_moveFirst_9 rfl 0 rfl ?_
  refine zm_iconst 11 rfl dX9_moveFirst_10 zi_3 ?_
  refine zm_lushr 12 rfl dX9_moveFirst_11 ?_
  refine zm_lor 13 rfl dX9_moveFirst_12 ?_
  refine zm_lload_n 14 rfl dX9_moveFirst_13 rfl 0 rfl ?_
  refine zm_iconst 15 rfl dX9_moveFirst_14 zi_4 ?_
  refine zm_lushr 16 rfl dX9_moveFirst_15 ?_
  refine zm_lor 17 rfl dX9_moveFirst_16 ?_
  refine zm_nml (fun x17 _ => ?_)
  refine zm_lstore_n (lv' := [(2, .long x17), (0, .long a0)]) 18 rfl dX9_moveFirst_17 rfl (by decide) rfl ?_
  refine zm_lload_n 19 rfl dX9_moveFirst_18 rfl 0 rfl ?_
  refine zm_ldc2 22 rfl dX9_moveFirst_19 kc_X9_47 ?_
  refine zm_land 23 rfl dX9_moveFirst_22 ?_
  refine zm_ldc2 26 rfl dX9_moveFirst_23 kc_X9_49 ?_
  refine zm_lmul 27 rfl dX9_moveFirst_26 ?_
  exact zm_lret dX9_moveFirst_27 rfl (Nat.le_refl _) (Nat.le_refl _) rfl
abbrev Y_X9_moveSecond : zm_Y := (cX9_moveSecond, 4, RX9, { frames := 0, cells := 0, slots := 0, locals := 0 }, (some .long), false, "moveSecond")
noncomputable def f_X9_moveSecond (a0 : Int64) (M : zm_Mem) : Option Int64 :=
  zm_v ((((a0 ||| ((a0.toUInt64 >>> ((8 : Int32).toInt64.toUInt64 &&& Int64.toUInt64 63)).toInt64)) ||| ((a0.toUInt64 >>> ((16 : Int32).toInt64.toUInt64 &&& Int64.toUInt64 63)).toInt64)) ||| ((a0.toUInt64 >>> ((24 : Int32).toInt64.toUInt64 &&& Int64.toUInt64 63)).toInt64)) ||| ((a0.toUInt64 >>> ((32 : Int32).toInt64.toUInt64 &&& Int64.toUInt64 63)).toInt64)) <| fun x21 => some ((x21 &&& 255) * 4311810305)
set_option maxRecDepth 20000 in
set_option maxHeartbeats 4000000 in
theorem k_X9_moveSecond (E : zm_E) (w : zm_W) (a0 : Int64) (M : zm_Mem) {r : Int64} (h : f_X9_moveSecond a0 M = some r) : zm_Ct E w w yX9_moveSecond Y_X9_moveSecond [.long a0] M (some (.long r)) M := by
  refine zm_methr (emb := zm_el) (d := f_X9_moveSecond a0 M) (by decide) rfl rfl (Nat.le_of_ble_eq_true rfl) h (fun X => ?_)
  show zm_V X Y_X9_moveSecond E (zm_Q X E Y_X9_moveSecond.2.2.2.1.cells Y_X9_moveSecond.2.2.2.1.slots w zm_el) 0 0 false w 0 [(0, .long a0)] [] M (f_X9_moveSecond a0 M) (fun r => some (r, M))
  unfold f_X9_moveSecond
  refine zm_lload_n 1 rfl dX9_moveSecond_0 rfl 0 rfl ?_
  refine zm_lload_n 2 rfl dX9_moveSecond_1 rfl 0 rfl ?_
  refine zm_bipush 4 rfl dX9_moveSecond_2 zb_8 ?_
  refine zm_lushr 5 rfl dX9_moveSecond_4 ?_
  refine zm_lor 6 rfl dX9_moveSecond_5 ?_
  refine zm_lload_n 7 rfl dX9_moveSecond_6 rfl 0 rfl ?_
  refine zm_bipush 9 rfl dX9_moveSecond_7 zb_16 ?_
  refine zm_lushr 10 rfl dX9_moveSecond_9 ?_
  refine zm_lor 11 rfl dX9_moveSecond_10 ?_
  refine zm_lload_n 12 rfl dX9_moveSecond_11 rfl 0 rfl ?_
  refine zm_bipush 14 rfl dX9_moveSecond_12 zb_24 ?_
  refine zm_lushr 15 rfl dX9_moveSecond_14 ?_
  refine zm_lor 16 rfl dX9_moveSecond_15 ?_
  refine zm_lload_n 17 rfl dX9_moveSecond_16 rfl 0 rfl ?_
  refine zm_bipush 19 rfl dX9_moveSecond_17 zb_32 ?_
  refine zm_lushr 20 rfl dX9_moveSecond_19 ?_
  refine zm_lor 21 rfl dX9_moveSecond_20 ?_
  refine zm_nml (fun x21 _ => ?_)
  refine zm_lstore_n (lv' := [(2, .long x21), (0, .long a0)]) 22 rfl dX9_moveSecond_21 rfl (by decide) rfl ?_
  refine zm_lload_n 23 rfl dX9_moveSecond_22 rfl 0 rfl ?_
  refine zm_ldc2 26 rfl dX9_moveSecond_23 kc_X9_51 ?_
  refine zm_land 27 rfl dX9_moveSecond_26 ?_
  refine zm_ldc2 30 rfl dX9_moveSecond_27 kc_X9_53 ?_
  refine zm_lmul 31 rfl dX9_moveSecond_30 ?_
  exact zm_lret dX9_moveSecond_31 rfl (Nat.le_refl _) (Nat.le_refl _) rfl
abbrev Y_X9_moveOther : zm_Y := (cX9_moveOther, 8, RX9, { frames := 0, cells := 0, slots := 0, locals := 0 }, none, false, "moveOther")
noncomputable def f_X9_moveOther_x102_14_2 (a1 : Int32) (l2_3 : Int32) (N102 : zm_Mem) : Option ((Int32 × zm_Mem) ⊕ zm_Mem) :=
 zm_v (l2_3 + (5 * a1)) <| fun x107 => some (.inl (x107, N102))
noncomputable def f_X9_moveOther_b96_14_2 (l14_4 : Int32) (M96 : zm_Mem) : Option ((Int32 × zm_Mem) ⊕ zm_Mem) :=
 zm_v (l14_4 + 1) <| fun x96 => some (.inl (x96, M96))
noncomputable def f_X9_moveOther_l60_14_2 (a1 : Int32) (l14_4 : Int32) (e57_5 : Int64) (l60_7 : Int32) (L60 : zm_Mem) : Option ((Int32 × zm_Mem) ⊕ zm_Mem) :=
 if (5 : Int32) ≤ l60_7 then (some (.inr L60)) else (if (lg_cmp e57_5 0) = 0 then (some (.inr L60)) else (zm_ck (zm_in (l14_4 + (l60_7 * a1)) 625) <| zm_ck (zm_in (l14_4 + (l60_7 * a1)) 625) <| zm_v (zm_sL L60 114 (l14_4 + (l60_7 * a1)).toNatClampNeg ((L60.2.1 114 (l14_4 + (l60_7 * a1)).toNatClampNeg) ||| e57_5)) <| fun M89 => zm_v (l60_7 + 1) <| fun x90 => some (.inl (x90, M89))))
noncomputable def f_X9_moveOther_x57_28_14_2 (a1 : Int32) (l14_4 : Int32) (L14 : zm_Mem) (e57_5 : Int64) : Option ((Int32 × zm_Mem) ⊕ zm_Mem) :=
 (zm_lp (fun s => f_X9_moveOther_l60_14_2 a1 l14_4 e57_5 s.1 s.2) (0, L14)).bind (fun e96 => f_X9_moveOther_b96_14_2 l14_4 e96)
noncomputable def f_X9_moveOther_l28_14_2 (a1 : Int32) (l14_4 : Int32) (L14 : zm_Mem) (l28_5 : Int64) (l28_7 : Int32) : Option ((Int64 × Int32) ⊕ Int64) :=
 if (5 : Int32) ≤ l28_7 then (some (.inr l28_5)) else (zm_ck (zm_in (l14_4 + (l28_7 * a1)) 625) <| zm_v (l28_5 ||| (L14.2.1 113 (l14_4 + (l28_7 * a1)).toNatClampNeg)) <| fun x49 => zm_v (l28_7 + 1) <| fun x51 => some (.inl (x49, x51)))
noncomputable def f_X9_moveOther_l14_2 (a1 : Int32) (l2_3 : Int32) (l14_4 : Int32) (L14 : zm_Mem) : Option ((Int32 × zm_Mem) ⊕ zm_Mem) :=
 if (l2_3 + a1) ≤ l14_4 then (some (.inr L14)) else ((zm_lp (fun s => f_X9_moveOther_l28_14_2 a1 l14_4 L14 s.1 s.2) (0, 0)).bind (fun e57 => f_X9_moveOther_x57_28_14_2 a1 l14_4 L14 e57))
noncomputable def f_X9_moveOther_l2 (a1 : Int32) (a2 : Int32) (l2_3 : Int32) (L2 : zm_Mem) : Option ((Int32 × zm_Mem) ⊕ zm_Mem) :=
 if a2 < (l2_3 + (5 * a1)) then (some (.inr L2)) else ((zm_lp (fun s => f_X9_moveOther_l14_2 a1 l2_3 s.1 s.2) (l2_3, L2)).bind (fun e102 => f_X9_moveOther_x102_14_2 a1 l2_3 e102))
noncomputable def f_X9_moveOther (a1 : Int32) (a2 : Int32) (M : zm_Mem) : Option (Unit × zm_Mem) :=
  (zm_lp (fun s => f_X9_moveOther_l2 a1 a2 s.1 s.2) (0, M)).bind (fun e111 => some ((), e111))
set_option maxRecDepth 20000 in
set_option maxHeartbeats 4000000 in
theorem k_X9_moveOther (E : zm_E) (a1 : Int32) (a2 : Int32) (M : zm_Mem) {r : Unit} {M' : zm_Mem} (h : f_X9_moveOther a1 a2 M = some (r, M')) : zm_Ct E (zm_w 1) (zm_w 1) yX9_moveOther Y_X9_moveOther [.ref (E.2.1 + 112), .int a1, .int a2] M none M' := by
  refine zm_meth (emb := zm_ev) (d := f_X9_moveOther a1 a2 M) (by decide) rfl rfl (Nat.le_of_ble_eq_true rfl) h (fun X => ?_)
  show zm_V X Y_X9_moveOther E (zm_Q X E Y_X9_moveOther.2.2.2.1.cells Y_X9_moveOther.2.2.2.1.slots (zm_w 1) zm_ev) 0 0 false (zm_w 1) 0 [(0, .ref (E.2.1 + 112)), (1, .int a1), (2, .int a2)] [] M (f_X9_moveOther a1 a2 M) some
  unfold f_X9_moveOther
  refine zm_iconst 1 rfl dX9_moveOther_0 zi_0 ?_
  refine zm_istore_n (lv' := [(3, .int 0), (0, .ref (E.2.1 + 112)), (1, .int a1), (2, .int a2)]) 2 rfl dX9_moveOther_1 rfl (by decide) rfl ?_
  have hx111_2 : ∀ (N111 : zm_Mem), zm_V X Y_X9_moveOther E (zm_Q X E Y_X9_moveOther.2.2.2.1.cells Y_X9_moveOther.2.2.2.1.slots (zm_w 1) zm_ev) 0 0 false (zm_w 1) 111 [] [] N111 (some ((), N111)) some := by
    intro N111
    exact zm_vret dX9_moveOther_111 rfl (Nat.le_refl _) (Nat.le_refl _) rfl
  refine zm_loc [1, 2, 3, 0] rfl (zm_lpp (σ := (Int32 × zm_Mem)) (ε := zm_Mem) (step := fun s => f_X9_moveOther_l2 a1 a2 s.1 s.2) (fun s => [(0, .ref (E.2.1 + 112)), (1, .int a1), (2, .int a2), (3, .int s.1)]) (fun s => s.2) (fun D2 f2 hf2a hf2b hD2 s => ?_) (0, M))
  obtain ⟨l2_3, L2⟩ := s
  show zm_V X Y_X9_moveOther E (zm_Q X E Y_X9_moveOther.2.2.2.1.cells Y_X9_moveOther.2.2.2.1.slots (zm_w 1) zm_ev) 0 0 false (zm_w 1) 2 [(0, .ref (E.2.1 + 112)), (1, .int a1), (2, .int a2), (3, .int l2_3)] [] L2 (f_X9_moveOther_l2 a1 a2 l2_3 L2) f2
  unfold f_X9_moveOther_l2
  refine zm_iload_n 3 rfl dX9_moveOther_2 rfl 3 rfl ?_
  refine zm_iconst 4 rfl dX9_moveOther_3 zi_5 ?_
  refine zm_iload_n 5 rfl dX9_moveOther_4 rfl 1 rfl ?_
  refine zm_imul 6 rfl dX9_moveOther_5 ?_
  refine zm_iadd 7 rfl dX9_moveOther_6 ?_
  refine zm_iload_n 8 rfl dX9_moveOther_7 rfl 2 rfl ?_
  refine zm_icmp_gt 111 11 (by decide) rfl dX9_moveOther_8 ?_ ?_
  · exact zm_loc [] rfl (zm_go (hf2b _) (zm_unb (hx111_2 L2)))
  · refine zm_iload_n 12 rfl dX9_moveOther_11 rfl 3 rfl ?_
    refine zm_istore (lv' := [(4, .int l2_3), (0, .ref (E.2.1 + 112)), (1, .int a1), (2, .int a2), (3, .int l2_3)]) 14 rfl dX9_moveOther_12 (by decide) rfl ?_
    have hx102_14_2 : ∀ (N102 : zm_Mem), zm_V X Y_X9_moveOther E (zm_Q X E Y_X9_moveOther.2.2.2.1.cells Y_X9_moveOther.2.2.2.1.slots (zm_w 1) zm_ev) 0 0 false (zm_w 1) 102 [(0, .ref (E.2.1 + 112)), (1, .int a1), (2, .int a2), (3, .int l2_3)] [] N102 (f_X9_moveOther_x102_14_2 a1 l2_3 N102) f2 := by
      intro N102
      unfold f_X9_moveOther_x102_14_2
      refine zm_iload_n 103 rfl dX9_moveOther_102 rfl 3 rfl ?_
      refine zm_iconst 104 rfl dX9_moveOther_103 zi_5 ?_
      refine zm_iload_n 105 rfl dX9_moveOther_104 rfl 1 rfl ?_
      refine zm_imul 106 rfl dX9_moveOther_105 ?_
      refine zm_iadd 107 rfl dX9_moveOther_106 ?_
      refine zm_nmi (fun x107 _ => ?_)
      refine zm_istore_n (lv' := [(3, .int x107), (0, .ref (E.2.1 + 112)), (1, .int a1), (2, .int a2)]) 108 rfl dX9_moveOther_107 rfl (by decide) rfl ?_
      refine zm_goto 2 (by decide) dX9_moveOther_108 ?_
      exact zm_loc [1, 2, 3, 0] rfl (zm_go (hf2a _) (hD2 (x107, N102)))
    refine zm_loc [1, 2, 3, 4, 0] rfl (zm_lpp (σ := (Int32 × zm_Mem)) (ε := zm_Mem) (step := fun s => f_X9_moveOther_l14_2 a1 l2_3 s.1 s.2) (fun s => [(0, .ref (E.2.1 + 112)), (1, .int a1), (2, .int a2), (3, .int l2_3), (4, .int s.1)]) (fun s => s.2) (fun D14_2 f14_2 hf14_2a hf14_2b hD14_2 s => ?_) (l2_3, L2))
    obtain ⟨l14_4, L14⟩ := s
    show zm_V X Y_X9_moveOther E (zm_Q X E Y_X9_moveOther.2.2.2.1.cells Y_X9_moveOther.2.2.2.1.slots (zm_w 1) zm_ev) 0 0 false (zm_w 1) 14 [(0, .ref (E.2.1 + 112)), (1, .int a1), (2, .int a2), (3, .int l2_3), (4, .int l14_4)] [] L14 (f_X9_moveOther_l14_2 a1 l2_3 l14_4 L14) f14_2
    unfold f_X9_moveOther_l14_2
    refine zm_iload 16 rfl dX9_moveOther_14 4 rfl ?_
    refine zm_iload_n 17 rfl dX9_moveOther_16 rfl 3 rfl ?_
    refine zm_iload_n 18 rfl dX9_moveOther_17 rfl 1 rfl ?_
    refine zm_iadd 19 rfl dX9_moveOther_18 ?_
    refine zm_icmp_ge 102 22 (by decide) rfl dX9_moveOther_19 ?_ ?_
    · exact zm_loc [0, 1, 2, 3] rfl (zm_go (hf14_2b _) (zm_unb (hx102_14_2 L14)))
    · refine zm_lconst 23 rfl dX9_moveOther_22 rfl ?_
      refine zm_lstore (lv' := [(5, .long 0), (0, .ref (E.2.1 + 112)), (1, .int a1), (2, .int a2), (3, .int l2_3), (4, .int l14_4)]) 25 rfl dX9_moveOther_23 (by decide) rfl ?_
      refine zm_iconst 26 rfl dX9_moveOther_25 zi_0 ?_
      refine zm_istore (lv' := [(7, .int 0), (5, .long 0), (0, .ref (E.2.1 + 112)), (1, .int a1), (2, .int a2), (3, .int l2_3), (4, .int l14_4)]) 28 rfl dX9_moveOther_26 (by decide) rfl ?_
      have hx57_28_14_2 : ∀ (e57_5 : Int64), zm_V X Y_X9_moveOther E (zm_Q X E Y_X9_moveOther.2.2.2.1.cells Y_X9_moveOther.2.2.2.1.slots (zm_w 1) zm_ev) 0 0 false (zm_w 1) 57 [(0, .ref (E.2.1 + 112)), (1, .int a1), (2, .int a2), (3, .int l2_3), (4, .int l14_4), (5, .long e57_5)] [] L14 (f_X9_moveOther_x57_28_14_2 a1 l14_4 L14 e57_5) f14_2 := by
        intro e57_5
        unfold f_X9_moveOther_x57_28_14_2
        refine zm_iconst 58 rfl dX9_moveOther_57 zi_0 ?_
        refine zm_istore (lv' := [(7, .int 0), (0, .ref (E.2.1 + 112)), (1, .int a1), (2, .int a2), (3, .int l2_3), (4, .int l14_4), (5, .long e57_5)]) 60 rfl dX9_moveOther_58 (by decide) rfl ?_
        have hb96_14_2 : ∀ (M96 : zm_Mem), zm_V X Y_X9_moveOther E (zm_Q X E Y_X9_moveOther.2.2.2.1.cells Y_X9_moveOther.2.2.2.1.slots (zm_w 1) zm_ev) 0 0 false (zm_w 1) 96 [(0, .ref (E.2.1 + 112)), (1, .int a1), (2, .int a2), (3, .int l2_3), (4, .int l14_4)] [] M96 (f_X9_moveOther_b96_14_2 l14_4 M96) f14_2 := by
          intro M96
          unfold f_X9_moveOther_b96_14_2
          refine zm_iinc (lv' := fun z => [(4, .int z), (0, .ref (E.2.1 + 112)), (1, .int a1), (2, .int a2), (3, .int l2_3)]) 99 rfl dX9_moveOther_96 zi_1 4 rfl (by decide) (fun _ => rfl) (fun x96 _ => ?_)
          refine zm_goto 14 (by decide) dX9_moveOther_99 ?_
          exact zm_loc [1, 2, 3, 4, 0] rfl (zm_go (hf14_2a _) (hD14_2 (x96, M96)))
        have hx96_60_14_2 : ∀ (N96 : zm_Mem), zm_V X Y_X9_moveOther E (zm_Q X E Y_X9_moveOther.2.2.2.1.cells Y_X9_moveOther.2.2.2.1.slots (zm_w 1) zm_ev) 0 0 false (zm_w 1) 96 [(0, .ref (E.2.1 + 112)), (1, .int a1), (2, .int a2), (3, .int l2_3), (4, .int l14_4)] [] N96 (f_X9_moveOther_b96_14_2 l14_4 N96) f14_2 := by
          intro N96
          exact zm_loc [0, 1, 2, 3, 4] rfl (hb96_14_2 N96)
        refine zm_loc [1, 2, 3, 4, 5, 6, 0] rfl (zm_lpp (σ := (Int32 × zm_Mem)) (ε := zm_Mem) (step := fun s => f_X9_moveOther_l60_14_2 a1 l14_4 e57_5 s.1 s.2) (fun s => [(0, .ref (E.2.1 + 112)), (1, .int a1), (2, .int a2), (3, .int l2_3), (4, .int l14_4), (5, .long e57_5), (7, .int s.1)]) (fun s => s.2) (fun D60_14_2 f60_14_2 hf60_14_2a hf60_14_2b hD60_14_2 s => ?_) (0, L14))
        obtain ⟨l60_7, L60⟩ := s
        show zm_V X Y_X9_moveOther E (zm_Q X E Y_X9_moveOther.2.2.2.1.cells Y_X9_moveOther.2.2.2.1.slots (zm_w 1) zm_ev) 0 0 false (zm_w 1) 60 [(0, .ref (E.2.1 + 112)), (1, .int a1), (2, .int a2), (3, .int l2_3), (4, .int l14_4), (5, .long e57_5), (7, .int l60_7)] [] L60 (f_X9_moveOther_l60_14_2 a1 l14_4 e57_5 l60_7 L60) f60_14_2
        unfold f_X9_moveOther_l60_14_2
        refine zm_iload 62 rfl dX9_moveOther_60 6 rfl ?_
        refine zm_iconst 63 rfl dX9_moveOther_62 zi_5 ?_
        refine zm_icmp_ge 96 66 (by decide) rfl dX9_moveOther_63 ?_ ?_
        · exact zm_loc [0, 1, 2, 3, 4] rfl (zm_go (hf60_14_2b _) (zm_unb (hx96_60_14_2 L60)))
        · refine zm_lload 68 rfl dX9_moveOther_66 5 rfl ?_
          refine zm_lconst 69 rfl dX9_moveOther_68 rfl ?_
          refine zm_lcmp 70 rfl dX9_moveOther_69 ?_
          refine zm_if_eq 96 73 (by decide) rfl dX9_moveOther_70 ?_ ?_
          · exact zm_loc [0, 1, 2, 3, 4] rfl (zm_go (hf60_14_2b _) (zm_unb (hx96_60_14_2 L60)))
          · refine zm_aload_n 74 rfl dX9_moveOther_73 rfl 0 rfl ?_
            refine zm_getR (a := 114) 77 rfl dX9_moveOther_74 fl_X9_17 rfl (zm_L1 rfl) rfl (by decide) ?_
            refine zm_iload 79 rfl dX9_moveOther_77 4 rfl ?_
            refine zm_iload 81 rfl dX9_moveOther_79 6 rfl ?_
            refine zm_iload_n 82 rfl dX9_moveOther_81 rfl 1 rfl ?_
            refine zm_imul 83 rfl dX9_moveOther_82 ?_
            refine zm_iadd 84 rfl dX9_moveOther_83 ?_
            refine zm_dup2 85 rfl dX9_moveOther_84 rfl rfl ?_
            refine zm_lald 86 rfl dX9_moveOther_85 rfl (zm_L1 rfl) ?_
            refine zm_lload 88 rfl dX9_moveOther_86 5 rfl ?_
            refine zm_lor 89 rfl dX9_moveOther_88 ?_
            refine zm_last 90 rfl dX9_moveOther_89 rfl (zm_L1 rfl) (fun M89 _ => ?_)
            refine zm_iinc (lv' := fun z => [(7, .int z), (0, .ref (E.2.1 + 112)), (1, .int a1), (2, .int a2), (3, .int l2_3), (4, .int l14_4), (5, .long e57_5)]) 93 rfl dX9_moveOther_90 zi_1 6 rfl (by decide) (fun _ => rfl) (fun x90 _ => ?_)
            refine zm_goto 60 (by decide) dX9_moveOther_93 ?_
            exact zm_loc [1, 2, 3, 4, 5, 6, 0] rfl (zm_go (hf60_14_2a _) (hD60_14_2 (x90, M89)))
      refine zm_loc [2, 3, 4, 5, 6, 1, 0] rfl (zm_lpp (σ := (Int64 × Int32)) (ε := Int64) (step := fun s => f_X9_moveOther_l28_14_2 a1 l14_4 L14 s.1 s.2) (fun s => [(0, .ref (E.2.1 + 112)), (1, .int a1), (2, .int a2), (3, .int l2_3), (4, .int l14_4), (5, .long s.1), (7, .int s.2)]) (fun _ => L14) (fun D28_14_2 f28_14_2 hf28_14_2a hf28_14_2b hD28_14_2 s => ?_) (0, 0))
      obtain ⟨l28_5, l28_7⟩ := s
      show zm_V X Y_X9_moveOther E (zm_Q X E Y_X9_moveOther.2.2.2.1.cells Y_X9_moveOther.2.2.2.1.slots (zm_w 1) zm_ev) 0 0 false (zm_w 1) 28 [(0, .ref (E.2.1 + 112)), (1, .int a1), (2, .int a2), (3, .int l2_3), (4, .int l14_4), (5, .long l28_5), (7, .int l28_7)] [] L14 (f_X9_moveOther_l28_14_2 a1 l14_4 L14 l28_5 l28_7) f28_14_2
      unfold f_X9_moveOther_l28_14_2
      refine zm_iload 30 rfl dX9_moveOther_28 6 rfl ?_
      refine zm_iconst 31 rfl dX9_moveOther_30 zi_5 ?_
      refine zm_icmp_ge 57 34 (by decide) rfl dX9_moveOther_31 ?_ ?_
      · exact zm_loc [0, 1, 2, 3, 4, 5] rfl (zm_go (hf28_14_2b _) (zm_unb (hx57_28_14_2 l28_5)))
      · refine zm_lload 36 rfl dX9_moveOther_34 5 rfl ?_
        refine zm_aload_n 37 rfl dX9_moveOther_36 rfl 0 rfl ?_
        refine zm_getR (a := 113) 40 rfl dX9_moveOther_37 fl_X9_11 rfl (zm_L1 rfl) rfl (by decide) ?_
        refine zm_iload 42 rfl dX9_moveOther_40 4 rfl ?_
        refine zm_iload 44 rfl dX9_moveOther_42 6 rfl ?_
        refine zm_iload_n 45 rfl dX9_moveOther_44 rfl 1 rfl ?_
        refine zm_imul 46 rfl dX9_moveOther_45 ?_
        refine zm_iadd 47 rfl dX9_moveOther_46 ?_
        refine zm_lald 48 rfl dX9_moveOther_47 rfl (zm_L1 rfl) ?_
        refine zm_lor 49 rfl dX9_moveOther_48 ?_
        refine zm_nml (fun x49 _ => ?_)
        refine zm_lstore (lv' := [(5, .long x49), (0, .ref (E.2.1 + 112)), (1, .int a1), (2, .int a2), (3, .int l2_3), (4, .int l14_4), (7, .int l28_7)]) 51 rfl dX9_moveOther_49 (by decide) rfl ?_
        refine zm_iinc (lv' := fun z => [(7, .int z), (5, .long x49), (0, .ref (E.2.1 + 112)), (1, .int a1), (2, .int a2), (3, .int l2_3), (4, .int l14_4)]) 54 rfl dX9_moveOther_51 zi_1 6 rfl (by decide) (fun _ => rfl) (fun x51 _ => ?_)
        refine zm_goto 28 (by decide) dX9_moveOther_54 ?_
        exact zm_loc [2, 3, 4, 5, 6, 1, 0] rfl (zm_go (hf28_14_2a _) (hD28_14_2 (x49, x51)))
abbrev Y_X9_goOneTrip : zm_Y := (cX9_goOneTrip, 8, RX9, { frames := 1, cells := 0, slots := 0, locals := 27 }, (some .boolean), false, "goOneTrip")
noncomputable def f_X9_goOneTrip_x142_78 (e142_3 : Int64) (N142 : zm_Mem) : Option (Int32 × zm_Mem) :=
 if (lg_cmp e142_3 0) = 0 then (some (0, N142)) else (some (1, N142))
noncomputable def f_X9_goOneTrip_l78 (a1 : Nat) (a2 : Int32) (l78_3 : Int64) (l78_5 : Int32) (L78 : zm_Mem) : Option ((Int64 × Int32 × zm_Mem) ⊕ (Int64 × zm_Mem)) :=
 if a2 ≤ l78_5 then (some (.inr (l78_3, L78))) else (zm_ck (zm_in l78_5 625) <| zm_ck (zm_in l78_5 (zm_sh a1).2) <| zm_ck (zm_in l78_5 625) <| zm_v (((L78.2.1 114 l78_5.toNatClampNeg) &&& (L78.2.1 a1 l78_5.toNatClampNeg)) &&& ((L78.2.1 115 l78_5.toNatClampNeg) ^^^ (-1))) <| fun x108 => zm_ck (zm_in l78_5 625) <| zm_v (zm_sL L78 113 l78_5.toNatClampNeg x108) <| fun M118 => zm_ck (zm_in l78_5 625) <| zm_ck (zm_in l78_5 625) <| zm_v (zm_sL M118 115 l78_5.toNatClampNeg ((M118.2.1 115 l78_5.toNatClampNeg) ||| x108)) <| fun M130 => zm_v (l78_3 ||| x108) <| fun x135 => zm_v (l78_5 + 1) <| fun x136 => some (.inl (x135, x136, M130)))
noncomputable def f_X9_goOneTrip_x73_55 (a1 : Nat) (a2 : Int32) (N73 : zm_Mem) : Option (Int32 × zm_Mem) :=
 (zm_lp (fun s => f_X9_goOneTrip_l78 a1 a2 s.1 s.2.1 s.2.2) (0, 0, N73)).bind (fun e142 => f_X9_goOneTrip_x142_78 e142.1 e142.2)
noncomputable def f_X9_goOneTrip_l55 (a2 : Int32) (l55_3 : Int32) (L55 : zm_Mem) : Option ((Int32 × zm_Mem) ⊕ zm_Mem) :=
 if a2 ≤ l55_3 then (some (.inr L55)) else (zm_b2 (f_X9_moveOther l55_3 a2 L55) <| fun _ M63 => zm_v (l55_3 * 5) <| fun x69 => some (.inl (x69, M63)))
noncomputable def f_X9_goOneTrip_x53_2 (a1 : Nat) (a2 : Int32) (N53 : zm_Mem) : Option (Int32 × zm_Mem) :=
 (zm_lp (fun s => f_X9_goOneTrip_l55 a2 s.1 s.2) (1, N53)).bind (fun e73 => f_X9_goOneTrip_x73_55 a1 a2 e73)
noncomputable def f_X9_goOneTrip_b46_2 (l2_3 : Int32) (L2 : zm_Mem) (b46_s1 : Int32) (b46_s2 : Int64) : Option ((Int32 × zm_Mem) ⊕ zm_Mem) :=
 zm_ck (zm_in b46_s1 625) <| zm_v (zm_sL L2 114 b46_s1.toNatClampNeg b46_s2) <| fun M46 => zm_v (l2_3 + 1) <| fun x47 => some (.inl (x47, M46))
noncomputable def f_X9_goOneTrip_l2 (a2 : Int32) (l2_3 : Int32) (L2 : zm_Mem) : Option ((Int32 × zm_Mem) ⊕ zm_Mem) :=
 if a2 ≤ l2_3 then (some (.inr L2)) else (zm_ck (zm_in l2_3 625) <| if (lg_cmp (L2.2.1 113 l2_3.toNatClampNeg) 0) = 0 then (f_X9_goOneTrip_b46_2 l2_3 L2 l2_3 0) else (zm_ck (zm_in l2_3 625) <| zm_b1 (f_X9_moveFirst (L2.2.1 113 l2_3.toNatClampNeg) L2) <| fun r33 => zm_ck (zm_in l2_3 625) <| zm_b1 (f_X9_moveSecond (L2.2.1 113 l2_3.toNatClampNeg) L2) <| fun r42 => f_X9_goOneTrip_b46_2 l2_3 L2 l2_3 (r33 ||| r42)))
noncomputable def f_X9_goOneTrip (a1 : Nat) (a2 : Int32) (M : zm_Mem) : Option (Int32 × zm_Mem) :=
  (zm_lp (fun s => f_X9_goOneTrip_l2 a2 s.1 s.2) (0, M)).bind (fun e53 => f_X9_goOneTrip_x53_2 a1 a2 e53)
set_option maxRecDepth 20000 in
set_option maxHeartbeats 4000000 in
theorem k_X9_goOneTrip (E : zm_E) (a1 : Nat) (a2 : Int32) (ha1 : zm_sh a1 = (2, (zm_sh a1).2) ∧ (0 < a1 ∧ a1 ≤ zm_n 1)) (M : zm_Mem) {r : Int32} {M' : zm_Mem} (h : f_X9_goOneTrip a1 a2 M = some (r, M')) : zm_Ct E (zm_w 1) (zm_w 1) yX9_goOneTrip Y_X9_goOneTrip [.ref (E.2.1 + 112), .ref (E.2.1 + a1), .int a2] M (some (.int r)) M' := by
  refine zm_meth (emb := zm_ei) (d := f_X9_goOneTrip a1 a2 M) (by decide) rfl rfl (Nat.le_of_ble_eq_true rfl) h (fun X => ?_)
  show zm_V X Y_X9_goOneTrip E (zm_Q X E Y_X9_goOneTrip.2.2.2.1.cells Y_X9_goOneTrip.2.2.2.1.slots (zm_w 1) zm_ei) 0 0 false (zm_w 1) 0 [(0, .ref (E.2.1 + 112)), (1, .ref (E.2.1 + a1)), (2, .int a2)] [] M (f_X9_goOneTrip a1 a2 M) some
  unfold f_X9_goOneTrip
  refine zm_iconst 1 rfl dX9_goOneTrip_0 zi_0 ?_
  refine zm_istore_n (lv' := [(3, .int 0), (0, .ref (E.2.1 + 112)), (1, .ref (E.2.1 + a1)), (2, .int a2)]) 2 rfl dX9_goOneTrip_1 rfl (by decide) rfl ?_
  have hx53_2 : ∀ (N53 : zm_Mem), zm_V X Y_X9_goOneTrip E (zm_Q X E Y_X9_goOneTrip.2.2.2.1.cells Y_X9_goOneTrip.2.2.2.1.slots (zm_w 1) zm_ei) 0 0 false (zm_w 1) 53 [(0, .ref (E.2.1 + 112)), (1, .ref (E.2.1 + a1)), (2, .int a2)] [] N53 (f_X9_goOneTrip_x53_2 a1 a2 N53) some := by
    intro N53
    unfold f_X9_goOneTrip_x53_2
    refine zm_iconst 54 rfl dX9_goOneTrip_53 zi_1 ?_
    refine zm_istore_n (lv' := [(3, .int 1), (0, .ref (E.2.1 + 112)), (1, .ref (E.2.1 + a1)), (2, .int a2)]) 55 rfl dX9_goOneTrip_54 rfl (by decide) rfl ?_
    have hx73_55 : ∀ (N73 : zm_Mem), zm_V X Y_X9_goOneTrip E (zm_Q X E Y_X9_goOneTrip.2.2.2.1.cells Y_X9_goOneTrip.2.2.2.1.slots (zm_w 1) zm_ei) 0 0 false (zm_w 1) 73 [(0, .ref (E.2.1 + 112)), (1, .ref (E.2.1 + a1)), (2, .int a2)] [] N73 (f_X9_goOneTrip_x73_55 a1 a2 N73) some := by
      intro N73
      unfold f_X9_goOneTrip_x73_55
      refine zm_lconst 74 rfl dX9_goOneTrip_73 rfl ?_
      refine zm_lstore_n (lv' := [(3, .long 0), (0, .ref (E.2.1 + 112)), (1, .ref (E.2.1 + a1)), (2, .int a2)]) 75 rfl dX9_goOneTrip_74 rfl (by decide) rfl ?_
      refine zm_iconst 76 rfl dX9_goOneTrip_75 zi_0 ?_
      refine zm_istore (lv' := [(5, .int 0), (3, .long 0), (0, .ref (E.2.1 + 112)), (1, .ref (E.2.1 + a1)), (2, .int a2)]) 78 rfl dX9_goOneTrip_76 (by decide) rfl ?_
      have hx142_78 : ∀ (e142_3 : Int64) (N142 : zm_Mem), zm_V X Y_X9_goOneTrip E (zm_Q X E Y_X9_goOneTrip.2.2.2.1.cells Y_X9_goOneTrip.2.2.2.1.slots (zm_w 1) zm_ei) 0 0 false (zm_w 1) 142 [(3, .long e142_3)] [] N142 (f_X9_goOneTrip_x142_78 e142_3 N142) some := by
        intro e142_3 N142
        unfold f_X9_goOneTrip_x142_78
        refine zm_lload_n 143 rfl dX9_goOneTrip_142 rfl 0 rfl ?_
        refine zm_lconst 144 rfl dX9_goOneTrip_143 rfl ?_
        refine zm_lcmp 145 rfl dX9_goOneTrip_144 ?_
        refine zm_if_eq 152 148 (by decide) rfl dX9_goOneTrip_145 ?_ ?_
        · refine zm_iconst 153 rfl dX9_goOneTrip_152 zi_0 ?_
          exact zm_zret dX9_goOneTrip_153 rfl rfl (Nat.le_refl _) (Nat.le_refl _) rfl
        · refine zm_iconst 149 rfl dX9_goOneTrip_148 zi_1 ?_
          refine zm_goto 153 (by decide) dX9_goOneTrip_149 ?_
          exact zm_zret dX9_goOneTrip_153 rfl rfl (Nat.le_refl _) (Nat.le_refl _) rfl
      refine zm_loc [2, 3, 4, 1, 0] rfl (zm_lpp (σ := (Int64 × Int32 × zm_Mem)) (ε := (Int64 × zm_Mem)) (step := fun s => f_X9_goOneTrip_l78 a1 a2 s.1 s.2.1 s.2.2) (fun s => [(0, .ref (E.2.1 + 112)), (1, .ref (E.2.1 + a1)), (2, .int a2), (3, .long s.1), (5, .int s.2.1)]) (fun s => s.2.2) (fun D78 f78 hf78a hf78b hD78 s => ?_) (0, 0, N73))
      obtain ⟨l78_3, l78_5, L78⟩ := s
      show zm_V X Y_X9_goOneTrip E (zm_Q X E Y_X9_goOneTrip.2.2.2.1.cells Y_X9_goOneTrip.2.2.2.1.slots (zm_w 1) zm_ei) 0 0 false (zm_w 1) 78 [(0, .ref (E.2.1 + 112)), (1, .ref (E.2.1 + a1)), (2, .int a2), (3, .long l78_3), (5, .int l78_5)] [] L78 (f_X9_goOneTrip_l78 a1 a2 l78_3 l78_5 L78) f78
      unfold f_X9_goOneTrip_l78
      refine zm_iload 80 rfl dX9_goOneTrip_78 4 rfl ?_
      refine zm_iload_n 81 rfl dX9_goOneTrip_80 rfl 2 rfl ?_
      refine zm_icmp_ge 142 84 (by decide) rfl dX9_goOneTrip_81 ?_ ?_
      · exact zm_loc [3] rfl (zm_go (hf78b _) (zm_unb (hx142_78 l78_3 L78)))
      · refine zm_aload_n 85 rfl dX9_goOneTrip_84 rfl 0 rfl ?_
        refine zm_getR (a := 114) 88 rfl dX9_goOneTrip_85 fl_X9_17 rfl (zm_L1 rfl) rfl (by decide) ?_
        refine zm_iload 90 rfl dX9_goOneTrip_88 4 rfl ?_
        refine zm_lald 91 rfl dX9_goOneTrip_90 rfl (zm_L1 rfl) ?_
        refine zm_aload_n 92 rfl dX9_goOneTrip_91 rfl 1 rfl ?_
        refine zm_iload 94 rfl dX9_goOneTrip_92 4 rfl ?_
        refine zm_lald 95 rfl dX9_goOneTrip_94 ha1.1 ha1.2 ?_
        refine zm_land 96 rfl dX9_goOneTrip_95 ?_
        refine zm_aload_n 97 rfl dX9_goOneTrip_96 rfl 0 rfl ?_
        refine zm_getR (a := 115) 100 rfl dX9_goOneTrip_97 fl_X9_20 rfl (zm_L1 rfl) rfl (by decide) ?_
        refine zm_iload 102 rfl dX9_goOneTrip_100 4 rfl ?_
        refine zm_lald 103 rfl dX9_goOneTrip_102 rfl (zm_L1 rfl) ?_
        refine zm_ldc2 106 rfl dX9_goOneTrip_103 kc_X9_45 ?_
        refine zm_lxor 107 rfl dX9_goOneTrip_106 ?_
        refine zm_land 108 rfl dX9_goOneTrip_107 ?_
        refine zm_nml (fun x108 _ => ?_)
        refine zm_lstore (lv' := [(6, .long x108), (0, .ref (E.2.1 + 112)), (1, .ref (E.2.1 + a1)), (2, .int a2), (3, .long l78_3), (5, .int l78_5)]) 110 rfl dX9_goOneTrip_108 (by decide) rfl ?_
        refine zm_aload_n 111 rfl dX9_goOneTrip_110 rfl 1 rfl ?_
        refine zm_getR (a := 113) 114 rfl dX9_goOneTrip_111 fl_X9_11 rfl (zm_L1 rfl) rfl (by decide) ?_
        refine zm_iload 116 rfl dX9_goOneTrip_114 5 rfl ?_
        refine zm_lload 118 rfl dX9_goOneTrip_116 0 rfl ?_
        refine zm_last 119 rfl dX9_goOneTrip_118 rfl (zm_L1 rfl) (fun M118 _ => ?_)
        refine zm_aload_n 120 rfl dX9_goOneTrip_119 rfl 1 rfl ?_
        refine zm_getR (a := 115) 123 rfl dX9_goOneTrip_120 fl_X9_20 rfl (zm_L1 rfl) rfl (by decide) ?_
        refine zm_iload 125 rfl dX9_goOneTrip_123 5 rfl ?_
        refine zm_dup2 126 rfl dX9_goOneTrip_125 rfl rfl ?_
        refine zm_lald 127 rfl dX9_goOneTrip_126 rfl (zm_L1 rfl) ?_
        refine zm_lload 129 rfl dX9_goOneTrip_127 0 rfl ?_
        refine zm_lor 130 rfl dX9_goOneTrip_129 ?_
        refine zm_last 131 rfl dX9_goOneTrip_130 rfl (zm_L1 rfl) (fun M130 _ => ?_)
        refine zm_lload_n 132 rfl dX9_goOneTrip_131 rfl 4 rfl ?_
        refine zm_lload 134 rfl dX9_goOneTrip_132 0 rfl ?_
        refine zm_lor 135 rfl dX9_goOneTrip_134 ?_
        refine zm_nml (fun x135 _ => ?_)
        refine zm_lstore_n (lv' := [(3, .long x135), (6, .long x108), (0, .ref (E.2.1 + 112)), (1, .ref (E.2.1 + a1)), (2, .int a2), (5, .int l78_5)]) 136 rfl dX9_goOneTrip_135 rfl (by decide) rfl ?_
        refine zm_iinc (lv' := fun z => [(5, .int z), (3, .long x135), (6, .long x108), (0, .ref (E.2.1 + 112)), (1, .ref (E.2.1 + a1)), (2, .int a2)]) 139 rfl dX9_goOneTrip_136 zi_1 5 rfl (by decide) (fun _ => rfl) (fun x136 _ => ?_)
        refine zm_goto 78 (by decide) dX9_goOneTrip_139 ?_
        exact zm_loc [3, 4, 5, 1, 0] rfl (zm_go (hf78a _) (hD78 (x135, x136, M130)))
    refine zm_loc [1, 2, 3, 0] rfl (zm_lpp (σ := (Int32 × zm_Mem)) (ε := zm_Mem) (step := fun s => f_X9_goOneTrip_l55 a2 s.1 s.2) (fun s => [(0, .ref (E.2.1 + 112)), (1, .ref (E.2.1 + a1)), (2, .int a2), (3, .int s.1)]) (fun s => s.2) (fun D55 f55 hf55a hf55b hD55 s => ?_) (1, N53))
    obtain ⟨l55_3, L55⟩ := s
    show zm_V X Y_X9_goOneTrip E (zm_Q X E Y_X9_goOneTrip.2.2.2.1.cells Y_X9_goOneTrip.2.2.2.1.slots (zm_w 1) zm_ei) 0 0 false (zm_w 1) 55 [(0, .ref (E.2.1 + 112)), (1, .ref (E.2.1 + a1)), (2, .int a2), (3, .int l55_3)] [] L55 (f_X9_goOneTrip_l55 a2 l55_3 L55) f55
    unfold f_X9_goOneTrip_l55
    refine zm_iload_n 56 rfl dX9_goOneTrip_55 rfl 3 rfl ?_
    refine zm_iload_n 57 rfl dX9_goOneTrip_56 rfl 2 rfl ?_
    refine zm_icmp_ge 73 60 (by decide) rfl dX9_goOneTrip_57 ?_ ?_
    · exact zm_loc [0, 1, 2] rfl (zm_go (hf55b _) (zm_unb (hx73_55 L55)))
    · refine zm_aload_n 61 rfl dX9_goOneTrip_60 rfl 0 rfl ?_
      refine zm_iload_n 62 rfl dX9_goOneTrip_61 rfl 3 rfl ?_
      refine zm_iload_n 63 rfl dX9_goOneTrip_62 rfl 2 rfl ?_
      refine zm_cV2v 66 rfl dX9_goOneTrip_63 ml_X9_41 rfl (zm_L1 rfl) rfl (Nat.le_of_ble_eq_true rfl) ⟨Nat.le_of_ble_eq_true rfl, Nat.le_of_ble_eq_true rfl⟩ rfl rfl ⟨Nat.le_refl _, Nat.le_refl _⟩ rfl (fun _ _ h => k_X9_moveOther E l55_3 a2 L55 h) (fun _ M63 => ?_)
      refine zm_iload_n 67 rfl dX9_goOneTrip_66 rfl 3 rfl ?_
      refine zm_iconst 68 rfl dX9_goOneTrip_67 zi_5 ?_
      refine zm_imul 69 rfl dX9_goOneTrip_68 ?_
      refine zm_nmi (fun x69 _ => ?_)
      refine zm_istore_n (lv' := [(3, .int x69), (0, .ref (E.2.1 + 112)), (1, .ref (E.2.1 + a1)), (2, .int a2)]) 70 rfl dX9_goOneTrip_69 rfl (by decide) rfl ?_
      refine zm_goto 55 (by decide) dX9_goOneTrip_70 ?_
      exact zm_loc [1, 2, 3, 0] rfl (zm_go (hf55a _) (hD55 (x69, M63)))
  refine zm_loc [1, 2, 3, 0] rfl (zm_lpp (σ := (Int32 × zm_Mem)) (ε := zm_Mem) (step := fun s => f_X9_goOneTrip_l2 a2 s.1 s.2) (fun s => [(0, .ref (E.2.1 + 112)), (1, .ref (E.2.1 + a1)), (2, .int a2), (3, .int s.1)]) (fun s => s.2) (fun D2 f2 hf2a hf2b hD2 s => ?_) (0, M))
  obtain ⟨l2_3, L2⟩ := s
  show zm_V X Y_X9_goOneTrip E (zm_Q X E Y_X9_goOneTrip.2.2.2.1.cells Y_X9_goOneTrip.2.2.2.1.slots (zm_w 1) zm_ei) 0 0 false (zm_w 1) 2 [(0, .ref (E.2.1 + 112)), (1, .ref (E.2.1 + a1)), (2, .int a2), (3, .int l2_3)] [] L2 (f_X9_goOneTrip_l2 a2 l2_3 L2) f2
  unfold f_X9_goOneTrip_l2
  refine zm_iload_n 3 rfl dX9_goOneTrip_2 rfl 3 rfl ?_
  refine zm_iload_n 4 rfl dX9_goOneTrip_3 rfl 2 rfl ?_
  refine zm_icmp_ge 53 7 (by decide) rfl dX9_goOneTrip_4 ?_ ?_
  · exact zm_loc [0, 1, 2] rfl (zm_go (hf2b _) (zm_unb (hx53_2 L2)))
  · refine zm_aload_n 8 rfl dX9_goOneTrip_7 rfl 0 rfl ?_
    refine zm_getR (a := 114) 11 rfl dX9_goOneTrip_8 fl_X9_17 rfl (zm_L1 rfl) rfl (by decide) ?_
    refine zm_iload_n 12 rfl dX9_goOneTrip_11 rfl 3 rfl ?_
    refine zm_aload_n 13 rfl dX9_goOneTrip_12 rfl 0 rfl ?_
    refine zm_getR (a := 113) 16 rfl dX9_goOneTrip_13 fl_X9_11 rfl (zm_L1 rfl) rfl (by decide) ?_
    refine zm_iload_n 17 rfl dX9_goOneTrip_16 rfl 3 rfl ?_
    refine zm_lald 18 rfl dX9_goOneTrip_17 rfl (zm_L1 rfl) ?_
    refine zm_lconst 19 rfl dX9_goOneTrip_18 rfl ?_
    refine zm_lcmp 20 rfl dX9_goOneTrip_19 ?_
    have hb46_2 : ∀ (b46_s1 : Int32) (b46_s2 : Int64), zm_V X Y_X9_goOneTrip E (zm_Q X E Y_X9_goOneTrip.2.2.2.1.cells Y_X9_goOneTrip.2.2.2.1.slots (zm_w 1) zm_ei) 0 0 false (zm_w 1) 46 [(0, .ref (E.2.1 + 112)), (1, .ref (E.2.1 + a1)), (2, .int a2), (3, .int l2_3)] [.long b46_s2, .int b46_s1, .ref (E.2.1 + 114)] L2 (f_X9_goOneTrip_b46_2 l2_3 L2 b46_s1 b46_s2) f2 := by
      intro b46_s1 b46_s2
      unfold f_X9_goOneTrip_b46_2
      refine zm_last 47 rfl dX9_goOneTrip_46 rfl (zm_L1 rfl) (fun M46 _ => ?_)
      refine zm_iinc (lv' := fun z => [(3, .int z), (0, .ref (E.2.1 + 112)), (1, .ref (E.2.1 + a1)), (2, .int a2)]) 50 rfl dX9_goOneTrip_47 zi_1 3 rfl (by decide) (fun _ => rfl) (fun x47 _ => ?_)
      refine zm_goto 2 (by decide) dX9_goOneTrip_50 ?_
      exact zm_loc [1, 2, 3, 0] rfl (zm_go (hf2a _) (hD2 (x47, M46)))
    refine zm_if_ne 27 23 (by decide) rfl dX9_goOneTrip_20 ?_ ?_
    · refine zm_lconst 24 rfl dX9_goOneTrip_23 rfl ?_
      refine zm_goto 46 (by decide) dX9_goOneTrip_24 ?_
      exact zm_loc [0, 1, 2, 3] rfl (hb46_2 l2_3 0)
    · refine zm_aload_n 28 rfl dX9_goOneTrip_27 rfl 0 rfl ?_
      refine zm_getR (a := 113) 31 rfl dX9_goOneTrip_28 fl_X9_11 rfl (zm_L1 rfl) rfl (by decide) ?_
      refine zm_iload_n 32 rfl dX9_goOneTrip_31 rfl 3 rfl ?_
      refine zm_lald 33 rfl dX9_goOneTrip_32 rfl (zm_L1 rfl) ?_
      refine zm_cS1lr 36 rfl dX9_goOneTrip_33 ml_X9_34 (Nat.le_of_ble_eq_true rfl) ⟨Nat.le_of_ble_eq_true rfl, Nat.le_of_ble_eq_true rfl⟩ rfl rfl ⟨Nat.le_refl _, Nat.le_refl _⟩ rfl (fun _ h => k_X9_moveFirst E (zm_w 1) (L2.2.1 113 l2_3.toNatClampNeg) L2 h) (fun r33 => ?_)
      refine zm_aload_n 37 rfl dX9_goOneTrip_36 rfl 0 rfl ?_
      refine zm_getR (a := 113) 40 rfl dX9_goOneTrip_37 fl_X9_11 rfl (zm_L1 rfl) rfl (by decide) ?_
      refine zm_iload_n 41 rfl dX9_goOneTrip_40 rfl 3 rfl ?_
      refine zm_lald 42 rfl dX9_goOneTrip_41 rfl (zm_L1 rfl) ?_
      refine zm_cS1lr 45 rfl dX9_goOneTrip_42 ml_X9_38 (Nat.le_of_ble_eq_true rfl) ⟨Nat.le_of_ble_eq_true rfl, Nat.le_of_ble_eq_true rfl⟩ rfl rfl ⟨Nat.le_refl _, Nat.le_refl _⟩ rfl (fun _ h => k_X9_moveSecond E (zm_w 1) (L2.2.1 113 l2_3.toNatClampNeg) L2 h) (fun r42 => ?_)
      refine zm_lor 46 rfl dX9_goOneTrip_45 ?_
      exact zm_loc [0, 1, 2, 3] rfl (hb46_2 l2_3 (r33 ||| r42))
abbrev Y_X9_fewestTrips : zm_Y := (cX9_fewestTrips, 10, RX9, { frames := 2, cells := 0, slots := 0, locals := 54 }, (some .int), false, "fewestTrips")
noncomputable def f_X9_fewestTrips_l154 (a1 : Nat) (a3 : Int32) (x17 : Int32) (b151_8 : Int32) (l154_9 : Int32) (L154 : zm_Mem) : Option ((Int32 × zm_Mem) ⊕ (zm_Mem ⊕ (Int32 × zm_Mem) ⊕ zm_Mem)) :=
 if (40000 : Int32) < l154_9 then (some (.inr (.inr (.inr L154)))) else (zm_b2 (f_X9_goOneTrip a1 b151_8 L154) <| fun r165 M165 => if r165 = 0 then (some (.inr (.inl M165))) else (zm_ck (zm_in x17 625) <| if (lg_cmp (((M165.2.1 113 x17.toNatClampNeg) >>> ((a3 &&& 63).toInt64 &&& 63)) &&& 1) 1) = 0 then (some (.inr (.inr (.inl (l154_9, M165))))) else (zm_v (l154_9 + 1) <| fun x196 => some (.inl (x196, M165)))))
noncomputable def f_X9_fewestTrips_b151 (a1 : Nat) (a3 : Int32) (x17 : Int32) (M118 : zm_Mem) (b151_8 : Int32) : Option (Int32 × zm_Mem) :=
 (zm_lp (fun s => f_X9_fewestTrips_l154 a1 a3 x17 b151_8 s.1 s.2) (1, M118)).bind (Sum.elim (fun e171 => some ((-2), e171)) (Sum.elim (fun e193 => some (e193.1, e193.2)) (fun e202 => some ((-2), e202))))
noncomputable def f_X9_fewestTrips_l125 (a4 : Int32) (l125_8 : Int32) (l125_9 : Int32) : Option ((Int32 × Int32) ⊕ Int32) :=
 if a4 ≤ l125_9 then (some (.inr l125_8)) else (if (6 : Int32) ≤ l125_9 then (some (.inr l125_8)) else (zm_v (l125_8 * 5) <| fun x143 => zm_v (l125_9 + 1) <| fun x145 => some (.inl (x143, x145))))
noncomputable def f_X9_fewestTrips_b50 (a1 : Nat) (a2 : Int32) (a3 : Int32) (a4 : Int32) (M : zm_Mem) (x11 : Int32) (x17 : Int32) (b50_s0 : Int32) : Option (Int32 × zm_Mem) :=
 if b50_s0 = 0 then (some ((-2), M)) else (zm_ck (zm_in x17 (zm_sh a1).2) <| if (lg_cmp (((M.2.1 a1 x17.toNatClampNeg) >>> ((a3 &&& 63).toInt64 &&& 63)) &&& 1) 0) = 0 then (some ((-2), M)) else (zm_b2 (f_J7_fill_d0a16 113 0 M) <| fun _ M81 => zm_b2 (f_J7_fill_d0a16 115 0 M81) <| fun _ M89 => zm_ck (zm_in x11 625) <| zm_v (zm_sL M89 113 x11.toNatClampNeg ((1 : Int64) <<< ((a2 &&& 63).toInt64 &&& 63))) <| fun M104 => zm_ck (zm_in x11 625) <| zm_ck (zm_in x11 625) <| zm_v (zm_sL M104 115 x11.toNatClampNeg (M104.2.1 113 x11.toNatClampNeg)) <| fun M118 => (zm_lp (fun s => f_X9_fewestTrips_l125 a4 s.1 s.2) (1, 2)).bind (fun e151 => f_X9_fewestTrips_b151 a1 a3 x17 M118 e151)))
noncomputable def f_X9_fewestTrips_b49 (a1 : Nat) (a2 : Int32) (a3 : Int32) (a4 : Int32) (M : zm_Mem) (x11 : Int32) (x17 : Int32) : Option (Int32 × zm_Mem) :=
 f_X9_fewestTrips_b50 a1 a2 a3 a4 M x11 x17 0
noncomputable def f_X9_fewestTrips (a1 : Nat) (a2 : Int32) (a3 : Int32) (a4 : Int32) (M : zm_Mem) : Option (Int32 × zm_Mem) :=
  if a2 = a3 then (some (0, M)) else (zm_v (a2 >>> ((6 : Int32) &&& 31)) <| fun x11 => zm_v (a3 >>> ((6 : Int32) &&& 31)) <| fun x17 => if x11 < 0 then (f_X9_fewestTrips_b49 a1 a2 a3 a4 M x11 x17) else (if (625 : Int32) ≤ x11 then (f_X9_fewestTrips_b49 a1 a2 a3 a4 M x11 x17) else (if x17 < 0 then (f_X9_fewestTrips_b49 a1 a2 a3 a4 M x11 x17) else (if (625 : Int32) ≤ x17 then (f_X9_fewestTrips_b49 a1 a2 a3 a4 M x11 x17) else (f_X9_fewestTrips_b50 a1 a2 a3 a4 M x11 x17 1)))))
set_option maxRecDepth 20000 in
set_option maxHeartbeats 4000000 in
theorem k_X9_fewestTrips (E : zm_E) (a1 : Nat) (a2 : Int32) (a3 : Int32) (a4 : Int32) (ha1 : zm_sh a1 = (2, (zm_sh a1).2) ∧ (0 < a1 ∧ a1 ≤ zm_n 1)) (M : zm_Mem) {r : Int32} {M' : zm_Mem} (h : f_X9_fewestTrips a1 a2 a3 a4 M = some (r, M')) : zm_Ct E (zm_w 1) (zm_w 1) yX9_fewestTrips Y_X9_fewestTrips [.ref (E.2.1 + 112), .ref (E.2.1 + a1), .int a2, .int a3, .int a4] M (some (.int r)) M' := by
  refine zm_meth (emb := zm_ei) (d := f_X9_fewestTrips a1 a2 a3 a4 M) (by decide) rfl rfl (Nat.le_of_ble_eq_true rfl) h (fun X => ?_)
  show zm_V X Y_X9_fewestTrips E (zm_Q X E Y_X9_fewestTrips.2.2.2.1.cells Y_X9_fewestTrips.2.2.2.1.slots (zm_w 1) zm_ei) 0 0 false (zm_w 1) 0 [(0, .ref (E.2.1 + 112)), (1, .ref (E.2.1 + a1)), (2, .int a2), (3, .int a3), (4, .int a4)] [] M (f_X9_fewestTrips a1 a2 a3 a4 M) some
  unfold f_X9_fewestTrips
  refine zm_iload_n 1 rfl dX9_fewestTrips_0 rfl 2 rfl ?_
  refine zm_iload_n 2 rfl dX9_fewestTrips_1 rfl 3 rfl ?_
  refine zm_icmp_ne 7 5 (by decide) rfl dX9_fewestTrips_2 ?_ ?_
  · refine zm_iconst 6 rfl dX9_fewestTrips_5 zi_0 ?_
    exact zm_iret dX9_fewestTrips_6 rfl (Nat.le_refl _) (Nat.le_refl _) rfl
  · refine zm_iload_n 8 rfl dX9_fewestTrips_7 rfl 2 rfl ?_
    refine zm_bipush 10 rfl dX9_fewestTrips_8 zb_6 ?_
    refine zm_ishr 11 rfl dX9_fewestTrips_10 ?_
    refine zm_nmi (fun x11 _ => ?_)
    refine zm_istore (lv' := [(5, .int x11), (0, .ref (E.2.1 + 112)), (1, .ref (E.2.1 + a1)), (2, .int a2), (3, .int a3), (4, .int a4)]) 13 rfl dX9_fewestTrips_11 (by decide) rfl ?_
    refine zm_iload_n 14 rfl dX9_fewestTrips_13 rfl 4 rfl ?_
    refine zm_bipush 16 rfl dX9_fewestTrips_14 zb_6 ?_
    refine zm_ishr 17 rfl dX9_fewestTrips_16 ?_
    refine zm_nmi (fun x17 _ => ?_)
    refine zm_istore (lv' := [(6, .int x17), (5, .int x11), (0, .ref (E.2.1 + 112)), (1, .ref (E.2.1 + a1)), (2, .int a2), (3, .int a3), (4, .int a4)]) 19 rfl dX9_fewestTrips_17 (by decide) rfl ?_
    refine zm_iload 21 rfl dX9_fewestTrips_19 1 rfl ?_
    have hb50 : ∀ (b50_s0 : Int32), zm_V X Y_X9_fewestTrips E (zm_Q X E Y_X9_fewestTrips.2.2.2.1.cells Y_X9_fewestTrips.2.2.2.1.slots (zm_w 1) zm_ei) 0 0 false (zm_w 1) 50 [(0, .ref (E.2.1 + 112)), (1, .ref (E.2.1 + a1)), (2, .int a2), (3, .int a3), (4, .int a4), (5, .int x11), (6, .int x17)] [.int b50_s0] M (f_X9_fewestTrips_b50 a1 a2 a3 a4 M x11 x17 b50_s0) some := by
      intro b50_s0
      unfold f_X9_fewestTrips_b50
      refine zm_istore (lv' := [(7, .int b50_s0), (0, .ref (E.2.1 + 112)), (1, .ref (E.2.1 + a1)), (2, .int a2), (3, .int a3), (4, .int a4), (5, .int x11), (6, .int x17)]) 52 rfl dX9_fewestTrips_50 (by decide) rfl ?_
      refine zm_iload 54 rfl dX9_fewestTrips_52 0 rfl ?_
      refine zm_if_eq 73 57 (by decide) rfl dX9_fewestTrips_54 ?_ ?_
      · refine zm_bipush 75 rfl dX9_fewestTrips_73 zb_m2 ?_
        exact zm_iret dX9_fewestTrips_75 rfl (Nat.le_refl _) (Nat.le_refl _) rfl
      · refine zm_aload_n 58 rfl dX9_fewestTrips_57 rfl 2 rfl ?_
        refine zm_iload 60 rfl dX9_fewestTrips_58 7 rfl ?_
        refine zm_lald 61 rfl dX9_fewestTrips_60 ha1.1 ha1.2 ?_
        refine zm_iload_n 62 rfl dX9_fewestTrips_61 rfl 4 rfl ?_
        refine zm_bipush 64 rfl dX9_fewestTrips_62 zb_63 ?_
        refine zm_iand 65 rfl dX9_fewestTrips_64 ?_
        refine zm_lshr 66 rfl dX9_fewestTrips_65 ?_
        refine zm_lconst 67 rfl dX9_fewestTrips_66 rfl ?_
        refine zm_land 68 rfl dX9_fewestTrips_67 ?_
        refine zm_lconst 69 rfl dX9_fewestTrips_68 rfl ?_
        refine zm_lcmp 70 rfl dX9_fewestTrips_69 ?_
        refine zm_if_ne 76 73 (by decide) rfl dX9_fewestTrips_70 ?_ ?_
        · refine zm_bipush 75 rfl dX9_fewestTrips_73 zb_m2 ?_
          exact zm_iret dX9_fewestTrips_75 rfl (Nat.le_refl _) (Nat.le_refl _) rfl
        · refine zm_aload_n 77 rfl dX9_fewestTrips_76 rfl 1 rfl ?_
          refine zm_getR (a := 113) 80 rfl dX9_fewestTrips_77 fl_X9_11 rfl (zm_L1 rfl) rfl (by decide) ?_
          refine zm_lconst 81 rfl dX9_fewestTrips_80 rfl ?_
          refine zm_cS2v 84 rfl dX9_fewestTrips_81 ml_X9_23 (Nat.le_of_ble_eq_true rfl) ⟨Nat.le_of_ble_eq_true rfl, Nat.le_of_ble_eq_true rfl⟩ rfl rfl ⟨Nat.le_refl _, Nat.le_refl _⟩ rfl (fun _ _ h => k_J7_fill_d0a16 E 1 113 0 ⟨rfl, (zm_L1 rfl)⟩ M h) (fun _ M81 => ?_)
          refine zm_aload_n 85 rfl dX9_fewestTrips_84 rfl 1 rfl ?_
          refine zm_getR (a := 115) 88 rfl dX9_fewestTrips_85 fl_X9_20 rfl (zm_L1 rfl) rfl (by decide) ?_
          refine zm_lconst 89 rfl dX9_fewestTrips_88 rfl ?_
          refine zm_cS2v 92 rfl dX9_fewestTrips_89 ml_X9_23 (Nat.le_of_ble_eq_true rfl) ⟨Nat.le_of_ble_eq_true rfl, Nat.le_of_ble_eq_true rfl⟩ rfl rfl ⟨Nat.le_refl _, Nat.le_refl _⟩ rfl (fun _ _ h => k_J7_fill_d0a16 E 1 115 0 ⟨rfl, (zm_L1 rfl)⟩ M81 h) (fun _ M89 => ?_)
          refine zm_aload_n 93 rfl dX9_fewestTrips_92 rfl 1 rfl ?_
          refine zm_getR (a := 113) 96 rfl dX9_fewestTrips_93 fl_X9_11 rfl (zm_L1 rfl) rfl (by decide) ?_
          refine zm_iload 98 rfl dX9_fewestTrips_96 6 rfl ?_
          refine zm_lconst 99 rfl dX9_fewestTrips_98 rfl ?_
          refine zm_iload_n 100 rfl dX9_fewestTrips_99 rfl 3 rfl ?_
          refine zm_bipush 102 rfl dX9_fewestTrips_100 zb_63 ?_
          refine zm_iand 103 rfl dX9_fewestTrips_102 ?_
          refine zm_lshl 104 rfl dX9_fewestTrips_103 ?_
          refine zm_last 105 rfl dX9_fewestTrips_104 rfl (zm_L1 rfl) (fun M104 _ => ?_)
          refine zm_aload_n 106 rfl dX9_fewestTrips_105 rfl 1 rfl ?_
          refine zm_getR (a := 115) 109 rfl dX9_fewestTrips_106 fl_X9_20 rfl (zm_L1 rfl) rfl (by decide) ?_
          refine zm_iload 111 rfl dX9_fewestTrips_109 6 rfl ?_
          refine zm_aload_n 112 rfl dX9_fewestTrips_111 rfl 1 rfl ?_
          refine zm_getR (a := 113) 115 rfl dX9_fewestTrips_112 fl_X9_11 rfl (zm_L1 rfl) rfl (by decide) ?_
          refine zm_iload 117 rfl dX9_fewestTrips_115 6 rfl ?_
          refine zm_lald 118 rfl dX9_fewestTrips_117 rfl (zm_L1 rfl) ?_
          refine zm_last 119 rfl dX9_fewestTrips_118 rfl (zm_L1 rfl) (fun M118 _ => ?_)
          refine zm_iconst 120 rfl dX9_fewestTrips_119 zi_1 ?_
          refine zm_istore (lv' := [(8, .int 1), (7, .int b50_s0), (0, .ref (E.2.1 + 112)), (1, .ref (E.2.1 + a1)), (2, .int a2), (3, .int a3), (4, .int a4), (5, .int x11), (6, .int x17)]) 122 rfl dX9_fewestTrips_120 (by decide) rfl ?_
          refine zm_iconst 123 rfl dX9_fewestTrips_122 zi_2 ?_
          refine zm_istore (lv' := [(9, .int 2), (8, .int 1), (7, .int b50_s0), (0, .ref (E.2.1 + 112)), (1, .ref (E.2.1 + a1)), (2, .int a2), (3, .int a3), (4, .int a4), (5, .int x11), (6, .int x17)]) 125 rfl dX9_fewestTrips_123 (by decide) rfl ?_
          have hb151 : ∀ (b151_8 : Int32), zm_V X Y_X9_fewestTrips E (zm_Q X E Y_X9_fewestTrips.2.2.2.1.cells Y_X9_fewestTrips.2.2.2.1.slots (zm_w 1) zm_ei) 0 0 false (zm_w 1) 151 [(0, .ref (E.2.1 + 112)), (1, .ref (E.2.1 + a1)), (3, .int a3), (6, .int x17), (8, .int b151_8)] [] M118 (f_X9_fewestTrips_b151 a1 a3 x17 M118 b151_8) some := by
            intro b151_8
            unfold f_X9_fewestTrips_b151
            refine zm_iconst 152 rfl dX9_fewestTrips_151 zi_1 ?_
            refine zm_istore (lv' := [(9, .int 1), (0, .ref (E.2.1 + 112)), (1, .ref (E.2.1 + a1)), (3, .int a3), (6, .int x17), (8, .int b151_8)]) 154 rfl dX9_fewestTrips_152 (by decide) rfl ?_
            have hx171_154 : ∀ (N171 : zm_Mem), zm_V X Y_X9_fewestTrips E (zm_Q X E Y_X9_fewestTrips.2.2.2.1.cells Y_X9_fewestTrips.2.2.2.1.slots (zm_w 1) zm_ei) 0 0 false (zm_w 1) 171 [] [] N171 (some ((-2), N171)) some := by
              intro N171
              refine zm_bipush 173 rfl dX9_fewestTrips_171 zb_m2 ?_
              exact zm_iret dX9_fewestTrips_173 rfl (Nat.le_refl _) (Nat.le_refl _) rfl
            have hx193_154 : ∀ (e193_9 : Int32) (N193 : zm_Mem), zm_V X Y_X9_fewestTrips E (zm_Q X E Y_X9_fewestTrips.2.2.2.1.cells Y_X9_fewestTrips.2.2.2.1.slots (zm_w 1) zm_ei) 0 0 false (zm_w 1) 193 [(9, .int e193_9)] [] N193 (some (e193_9, N193)) some := by
              intro e193_9 N193
              refine zm_iload 195 rfl dX9_fewestTrips_193 0 rfl ?_
              exact zm_iret dX9_fewestTrips_195 rfl (Nat.le_refl _) (Nat.le_refl _) rfl
            have hx202_154 : ∀ (N202 : zm_Mem), zm_V X Y_X9_fewestTrips E (zm_Q X E Y_X9_fewestTrips.2.2.2.1.cells Y_X9_fewestTrips.2.2.2.1.slots (zm_w 1) zm_ei) 0 0 false (zm_w 1) 202 [] [] N202 (some ((-2), N202)) some := by
              intro N202
              refine zm_bipush 204 rfl dX9_fewestTrips_202 zb_m2 ?_
              exact zm_iret dX9_fewestTrips_204 rfl (Nat.le_refl _) (Nat.le_refl _) rfl
            refine zm_loc [1, 2, 3, 4, 5, 0] rfl (zm_lpp (σ := (Int32 × zm_Mem)) (ε := (zm_Mem ⊕ (Int32 × zm_Mem) ⊕ zm_Mem)) (step := fun s => f_X9_fewestTrips_l154 a1 a3 x17 b151_8 s.1 s.2) (fun s => [(0, .ref (E.2.1 + 112)), (1, .ref (E.2.1 + a1)), (3, .int a3), (6, .int x17), (8, .int b151_8), (9, .int s.1)]) (fun s => s.2) (fun D154 f154 hf154a hf154b hD154 s => ?_) (1, M118))
            obtain ⟨l154_9, L154⟩ := s
            show zm_V X Y_X9_fewestTrips E (zm_Q X E Y_X9_fewestTrips.2.2.2.1.cells Y_X9_fewestTrips.2.2.2.1.slots (zm_w 1) zm_ei) 0 0 false (zm_w 1) 154 [(0, .ref (E.2.1 + 112)), (1, .ref (E.2.1 + a1)), (3, .int a3), (6, .int x17), (8, .int b151_8), (9, .int l154_9)] [] L154 (f_X9_fewestTrips_l154 a1 a3 x17 b151_8 l154_9 L154) f154
            unfold f_X9_fewestTrips_l154
            refine zm_iload 156 rfl dX9_fewestTrips_154 5 rfl ?_
            refine zm_ldc 158 rfl dX9_fewestTrips_156 kc_X9_29 ?_
            refine zm_icmp_gt 202 161 (by decide) rfl dX9_fewestTrips_158 ?_ ?_
            · exact zm_loc [] rfl (zm_go (hf154b _) (zm_unb (hx202_154 L154)))
            · refine zm_aload_n 162 rfl dX9_fewestTrips_161 rfl 0 rfl ?_
              refine zm_aload_n 163 rfl dX9_fewestTrips_162 rfl 1 rfl ?_
              refine zm_iload 165 rfl dX9_fewestTrips_163 4 rfl ?_
              refine zm_cV2i 168 rfl dX9_fewestTrips_165 ml_X9_30 rfl (zm_L1 rfl) rfl (Nat.le_of_ble_eq_true rfl) ⟨Nat.le_of_ble_eq_true rfl, Nat.le_of_ble_eq_true rfl⟩ rfl rfl ⟨Nat.le_refl _, Nat.le_refl _⟩ rfl (fun _ _ h => k_X9_goOneTrip E a1 b151_8 ⟨ha1.1, ha1.2⟩ L154 h) (fun r165 M165 => ?_)
              refine zm_if_ne 174 171 (by decide) rfl dX9_fewestTrips_168 ?_ ?_
              · exact zm_loc [] rfl (zm_go (hf154b _) (zm_unb (hx171_154 M165)))
              · refine zm_aload_n 175 rfl dX9_fewestTrips_174 rfl 0 rfl ?_
                refine zm_getR (a := 113) 178 rfl dX9_fewestTrips_175 fl_X9_11 rfl (zm_L1 rfl) rfl (by decide) ?_
                refine zm_iload 180 rfl dX9_fewestTrips_178 3 rfl ?_
                refine zm_lald 181 rfl dX9_fewestTrips_180 rfl (zm_L1 rfl) ?_
                refine zm_iload_n 182 rfl dX9_fewestTrips_181 rfl 2 rfl ?_
                refine zm_bipush 184 rfl dX9_fewestTrips_182 zb_63 ?_
                refine zm_iand 185 rfl dX9_fewestTrips_184 ?_
                refine zm_lshr 186 rfl dX9_fewestTrips_185 ?_
                refine zm_lconst 187 rfl dX9_fewestTrips_186 rfl ?_
                refine zm_land 188 rfl dX9_fewestTrips_187 ?_
                refine zm_lconst 189 rfl dX9_fewestTrips_188 rfl ?_
                refine zm_lcmp 190 rfl dX9_fewestTrips_189 ?_
                refine zm_if_ne 196 193 (by decide) rfl dX9_fewestTrips_190 ?_ ?_
                · exact zm_loc [5] rfl (zm_go (hf154b _) (zm_unb (hx193_154 l154_9 M165)))
                · refine zm_iinc (lv' := fun z => [(9, .int z), (0, .ref (E.2.1 + 112)), (1, .ref (E.2.1 + a1)), (3, .int a3), (6, .int x17), (8, .int b151_8)]) 199 rfl dX9_fewestTrips_196 zi_1 5 rfl (by decide) (fun _ => rfl) (fun x196 _ => ?_)
                  refine zm_goto 154 (by decide) dX9_fewestTrips_199 ?_
                  exact zm_loc [1, 2, 3, 4, 5, 0] rfl (zm_go (hf154a _) (hD154 (x196, M165)))
          have hx151_125 : ∀ (e151_8 : Int32), zm_V X Y_X9_fewestTrips E (zm_Q X E Y_X9_fewestTrips.2.2.2.1.cells Y_X9_fewestTrips.2.2.2.1.slots (zm_w 1) zm_ei) 0 0 false (zm_w 1) 151 [(0, .ref (E.2.1 + 112)), (1, .ref (E.2.1 + a1)), (3, .int a3), (6, .int x17), (8, .int e151_8)] [] M118 (f_X9_fewestTrips_b151 a1 a3 x17 M118 e151_8) some := by
            intro e151_8
            exact zm_loc [0, 1, 2, 3, 4] rfl (hb151 e151_8)
          refine zm_loc [3, 4, 6, 7, 9, 1, 0] rfl (zm_lpp (σ := (Int32 × Int32)) (ε := Int32) (step := fun s => f_X9_fewestTrips_l125 a4 s.1 s.2) (fun s => [(0, .ref (E.2.1 + 112)), (1, .ref (E.2.1 + a1)), (3, .int a3), (4, .int a4), (6, .int x17), (8, .int s.1), (9, .int s.2)]) (fun _ => M118) (fun D125 f125 hf125a hf125b hD125 s => ?_) (1, 2))
          obtain ⟨l125_8, l125_9⟩ := s
          show zm_V X Y_X9_fewestTrips E (zm_Q X E Y_X9_fewestTrips.2.2.2.1.cells Y_X9_fewestTrips.2.2.2.1.slots (zm_w 1) zm_ei) 0 0 false (zm_w 1) 125 [(0, .ref (E.2.1 + 112)), (1, .ref (E.2.1 + a1)), (3, .int a3), (4, .int a4), (6, .int x17), (8, .int l125_8), (9, .int l125_9)] [] M118 (f_X9_fewestTrips_l125 a4 l125_8 l125_9) f125
          unfold f_X9_fewestTrips_l125
          refine zm_iload 127 rfl dX9_fewestTrips_125 6 rfl ?_
          refine zm_iload 129 rfl dX9_fewestTrips_127 3 rfl ?_
          refine zm_icmp_ge 151 132 (by decide) rfl dX9_fewestTrips_129 ?_ ?_
          · exact zm_loc [0, 1, 2, 4, 5] rfl (zm_go (hf125b _) (zm_unb (hx151_125 l125_8)))
          · refine zm_iload 134 rfl dX9_fewestTrips_132 6 rfl ?_
            refine zm_bipush 136 rfl dX9_fewestTrips_134 zb_6 ?_
            refine zm_icmp_ge 151 139 (by decide) rfl dX9_fewestTrips_136 ?_ ?_
            · exact zm_loc [0, 1, 2, 4, 5] rfl (zm_go (hf125b _) (zm_unb (hx151_125 l125_8)))
            · refine zm_iload 141 rfl dX9_fewestTrips_139 5 rfl ?_
              refine zm_iconst 142 rfl dX9_fewestTrips_141 zi_5 ?_
              refine zm_imul 143 rfl dX9_fewestTrips_142 ?_
              refine zm_nmi (fun x143 _ => ?_)
              refine zm_istore (lv' := [(8, .int x143), (0, .ref (E.2.1 + 112)), (1, .ref (E.2.1 + a1)), (3, .int a3), (4, .int a4), (6, .int x17), (9, .int l125_9)]) 145 rfl dX9_fewestTrips_143 (by decide) rfl ?_
              refine zm_iinc (lv' := fun z => [(9, .int z), (8, .int x143), (0, .ref (E.2.1 + 112)), (1, .ref (E.2.1 + a1)), (3, .int a3), (4, .int a4), (6, .int x17)]) 148 rfl dX9_fewestTrips_145 zi_1 6 rfl (by decide) (fun _ => rfl) (fun x145 _ => ?_)
              refine zm_goto 125 (by decide) dX9_fewestTrips_148 ?_
              exact zm_loc [2, 3, 4, 5, 6, 1, 0] rfl (zm_go (hf125a _) (hD125 (x143, x145)))
    have hb49 : zm_V X Y_X9_fewestTrips E (zm_Q X E Y_X9_fewestTrips.2.2.2.1.cells Y_X9_fewestTrips.2.2.2.1.slots (zm_w 1) zm_ei) 0 0 false (zm_w 1) 49 [(0, .ref (E.2.1 + 112)), (1, .ref (E.2.1 + a1)), (2, .int a2), (3, .int a3), (4, .int a4), (5, .int x11), (6, .int x17)] [] M (f_X9_fewestTrips_b49 a1 a2 a3 a4 M x11 x17) some := by
      unfold f_X9_fewestTrips_b49
      refine zm_iconst 50 rfl dX9_fewestTrips_49 zi_0 ?_
      exact zm_loc [0, 1, 2, 3, 4, 5, 6] rfl (hb50 0)
    refine zm_if_lt 49 24 (by decide) rfl dX9_fewestTrips_21 ?_ ?_
    · exact zm_loc [2, 3, 4, 5, 6, 1, 0] rfl (hb49)
    · refine zm_iload 26 rfl dX9_fewestTrips_24 1 rfl ?_
      refine zm_sipush 29 rfl dX9_fewestTrips_26 zs_625 ?_
      refine zm_icmp_ge 49 32 (by decide) rfl dX9_fewestTrips_29 ?_ ?_
      · exact zm_loc [2, 3, 4, 5, 6, 1, 0] rfl (hb49)
      · refine zm_iload 34 rfl dX9_fewestTrips_32 0 rfl ?_
        refine zm_if_lt 49 37 (by decide) rfl dX9_fewestTrips_34 ?_ ?_
        · exact zm_loc [2, 3, 4, 5, 6, 1, 0] rfl (hb49)
        · refine zm_iload 39 rfl dX9_fewestTrips_37 0 rfl ?_
          refine zm_sipush 42 rfl dX9_fewestTrips_39 zs_625 ?_
          refine zm_icmp_ge 49 45 (by decide) rfl dX9_fewestTrips_42 ?_ ?_
          · exact zm_loc [2, 3, 4, 5, 6, 1, 0] rfl (hb49)
          · refine zm_iconst 46 rfl dX9_fewestTrips_45 zi_1 ?_
            refine zm_goto 50 (by decide) dX9_fewestTrips_46 ?_
            exact zm_loc [2, 3, 4, 5, 6, 1, 0] rfl (hb50 1)
