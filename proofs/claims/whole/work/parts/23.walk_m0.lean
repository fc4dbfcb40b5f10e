abbrev Y_X11_plain : zm_Y := (cX11_plain, 3, RX11, { frames := 0, cells := 0, slots := 0, locals := 0 }, none, false, "plain")
noncomputable def f_X11_plain_l44 (a1 : Int32) (l44_2 : Int32) (L44 : zm_Mem) : Option ((Int32 × zm_Mem) ⊕ zm_Mem) :=
 if (2 : Int32) ≤ l44_2 then (some (.inr L44)) else (zm_ck (zm_in ((2 * a1) + l44_2) 4) <| zm_v (zm_sI L44 79 ((2 * a1) + l44_2).toNatClampNeg 0) <| fun M59 => zm_ck (zm_in ((2 * a1) + l44_2) 4) <| zm_v (zm_sI M59 80 ((2 * a1) + l44_2).toNatClampNeg 0) <| fun M70 => zm_v (l44_2 + 1) <| fun x71 => some (.inl (x71, M70)))
noncomputable def f_X11_plain (a1 : Int32) (M : zm_Mem) : Option (Unit × zm_Mem) :=
  zm_ck (zm_in a1 2) <| zm_v (zm_sI M 63 a1.toNatClampNeg 0) <| fun M6 => zm_ck (zm_in a1 2) <| zm_v (zm_sI M6 66 a1.toNatClampNeg 0) <| fun M13 => zm_ck (zm_in a1 2) <| zm_v (zm_sI M13 71 a1.toNatClampNeg 0) <| fun M20 => zm_ck (zm_in a1 2) <| zm_v (zm_sI M20 76 a1.toNatClampNeg 0) <| fun M27 => zm_ck (zm_in a1 2) <| zm_v (zm_sI M27 77 a1.toNatClampNeg 1) <| fun M34 => zm_ck (zm_in a1 2) <| zm_v (zm_sI M34 78 a1.toNatClampNeg 0) <| fun M41 => (zm_lp (fun s => f_X11_plain_l44 a1 s.1 s.2) (0, M41)).bind (fun e77 => some ((), e77))
set_option maxRecDepth 20000 in
set_option maxHeartbeats 4000000 in
theorem k_X11_plain (E : zm_E) (sv : Nat) (a1 : Int32) (M : zm_Mem) {r : Unit} {M' : zm_Mem} (h : f_X11_plain a1 M = some (r, M')) : zm_Ct E (zm_w sv) (zm_w sv) yX11_plain Y_X11_plain [.ref (E.2.1 + 52), .int a1] M none M' := by
  refine zm_meth (emb := zm_ev) (d := f_X11_plain a1 M) (by decide) rfl rfl (Nat.le_of_ble_eq_true rfl) h (fun X => ?_)
  show zm_V X Y_X11_plain E (zm_Q X E Y_X11_plain.2.2.2.1.cells Y_X11_plain.2.2.2.1.slots (zm_w sv) zm_ev) 0 0 false (zm_w sv) 0 [(0, .ref (E.2.1 + 52)), (1, .int a1)] [] M (f_X11_plain a1 M) some
  unfold f_X11_plain
  refine zm_aload_n 1 rfl dX11_plain_0 rfl 0 rfl ?_
  refine zm_getR (a := 63) 4 rfl dX11_plain_1 fl_X11_49 rfl (zm_L (sv := sv) rfl) rfl (by decide) ?_
  refine zm_iload_n 5 rfl dX11_plain_4 rfl 1 rfl ?_
  refine zm_iconst 6 rfl dX11_plain_5 zi_0 ?_
  refine zm_iast 7 rfl dX11_plain_6 rfl (zm_L (sv := sv) rfl) (fun M6 _ => ?_)
  refine zm_aload_n 8 rfl dX11_plain_7 rfl 0 rfl ?_
  refine zm_getR (a := 66) 11 rfl dX11_plain_8 fl_X11_58 rfl (zm_L (sv := sv) rfl) rfl (by decide) ?_
  refine zm_iload_n 12 rfl dX11_plain_11 rfl 1 rfl ?_
  refine zm_iconst 13 rfl dX11_plain_12 zi_0 ?_
  refine zm_iast 14 rfl dX11_plain_13 rfl (zm_L (sv := sv) rfl) (fun M13 _ => ?_)
  refine zm_aload_n 15 rfl dX11_plain_14 rfl 0 rfl ?_
  refine zm_getR (a := 71) 18 rfl dX11_plain_15 fl_X11_73 rfl (zm_L (sv := sv) rfl) rfl (by decide) ?_
  refine zm_iload_n 19 rfl dX11_plain_18 rfl 1 rfl ?_
  refine zm_iconst 20 rfl dX11_plain_19 zi_0 ?_
  refine zm_iast 21 rfl dX11_plain_20 rfl (zm_L (sv := sv) rfl) (fun M20 _ => ?_)
  refine zm_aload_n 22 rfl dX11_plain_21 rfl 0 rfl ?_
  refine zm_getR (a := 76) 25 rfl dX11_plain_22 fl_X11_88 rfl (zm_L (sv := sv) rfl) rfl (by decide) ?_
  refine zm_iload_n 26 rfl dX11_plain_25 rfl 1 rfl ?_
  refine zm_iconst 27 rfl dX11_plain_26 zi_0 ?_
  refine zm_iast 28 rfl dX11_plain_27 rfl (zm_L (sv := sv) rfl) (fun M27 _ => ?_)
  refine zm_aload_n 29 rfl dX11_plain_28 rfl 0 rfl ?_
  refine zm_getR (a := 77) 32 rfl dX11_plain_29 fl_X11_91 rfl (zm_L (sv := sv) rfl) rfl (by decide) ?_
  refine zm_iload_n 33 rfl dX11_plain_32 rfl 1 rfl ?_
  refine zm_iconst 34 rfl dX11_plain_33 zi_1 ?_
  refine zm_iast 35 rfl dX11_plain_34 rfl (zm_L (sv := sv) rfl) (fun M34 _ => ?_)
  refine zm_aload_n 36 rfl dX11_plain_35 rfl 0 rfl ?_
  refine zm_getR (a := 78) 39 rfl dX11_plain_36 fl_X11_94 rfl (zm_L (sv := sv) rfl) rfl (by decide) ?_
  refine zm_iload_n 40 rfl dX11_plain_39 rfl 1 rfl ?_
  refine zm_iconst 41 rfl dX11_plain_40 zi_0 ?_
  refine zm_iast 42 rfl dX11_plain_41 rfl (zm_L (sv := sv) rfl) (fun M41 _ => ?_)
  refine zm_iconst 43 rfl dX11_plain_42 zi_0 ?_
  refine zm_istore_n (lv' := [(2, .int 0), (0, .ref (E.2.1 + 52)), (1, .int a1)]) 44 rfl dX11_plain_43 rfl (by decide) rfl ?_
  have hx77_44 : ∀ (N77 : zm_Mem), zm_V X Y_X11_plain E (zm_Q X E Y_X11_plain.2.2.2.1.cells Y_X11_plain.2.2.2.1.slots (zm_w sv) zm_ev) 0 0 false (zm_w sv) 77 [] [] N77 (some ((), N77)) some := by
    intro N77
    exact zm_vret dX11_plain_77 rfl (Nat.le_refl _) (Nat.le_refl _) rfl
  refine zm_loc [1, 2, 0] rfl (zm_lpp (σ := (Int32 × zm_Mem)) (ε := zm_Mem) (step := fun s => f_X11_plain_l44 a1 s.1 s.2) (fun s => [(0, .ref (E.2.1 + 52)), (1, .int a1), (2, .int s.1)]) (fun s => s.2) (fun D44 f44 hf44a hf44b hD44 s => ?_) (0, M41))
  obtain ⟨l44_2, L44⟩ := s
  show zm_V X Y_X11_plain E (zm_Q X E Y_X11_plain.2.2.2.1.cells Y_X11_plain.2.2.2.1.slots (zm_w sv) zm_ev) 0 0 false (zm_w sv) 44 [(0, .ref (E.2.1 + 52)), (1, .int a1), (2, .int l44_2)] [] L44 (f_X11_plain_l44 a1 l44_2 L44) f44
  unfold f_X11_plain_l44
  refine zm_iload_n 45 rfl dX11_plain_44 rfl 2 rfl ?_
  refine zm_iconst 46 rfl dX11_plain_45 zi_2 ?_
  refine zm_icmp_ge 77 49 (by decide) rfl dX11_plain_46 ?_ ?_
  · exact zm_loc [] rfl (zm_go (hf44b _) (zm_unb (hx77_44 L44)))
  · refine zm_aload_n 50 rfl dX11_plain_49 rfl 0 rfl ?_
    refine zm_getR (a := 79) 53 rfl dX11_plain_50 fl_X11_97 rfl (zm_L (sv := sv) rfl) rfl (by decide) ?_
    refine zm_iconst 54 rfl dX11_plain_53 zi_2 ?_
    refine zm_iload_n 55 rfl dX11_plain_54 rfl 1 rfl ?_
    refine zm_imul 56 rfl dX11_plain_55 ?_
    refine zm_iload_n 57 rfl dX11_plain_56 rfl 2 rfl ?_
    refine zm_iadd 58 rfl dX11_plain_57 ?_
    refine zm_iconst 59 rfl dX11_plain_58 zi_0 ?_
    refine zm_iast 60 rfl dX11_plain_59 rfl (zm_L (sv := sv) rfl) (fun M59 _ => ?_)
    refine zm_aload_n 61 rfl dX11_plain_60 rfl 0 rfl ?_
    refine zm_getR (a := 80) 64 rfl dX11_plain_61 fl_X11_100 rfl (zm_L (sv := sv) rfl) rfl (by decide) ?_
    refine zm_iconst 65 rfl dX11_plain_64 zi_2 ?_
    refine zm_iload_n 66 rfl dX11_plain_65 rfl 1 rfl ?_
    refine zm_imul 67 rfl dX11_plain_66 ?_
    refine zm_iload_n 68 rfl dX11_plain_67 rfl 2 rfl ?_
    refine zm_iadd 69 rfl dX11_plain_68 ?_
    refine zm_iconst 70 rfl dX11_plain_69 zi_0 ?_
    refine zm_iast 71 rfl dX11_plain_70 rfl (zm_L (sv := sv) rfl) (fun M70 _ => ?_)
    refine zm_iinc (lv' := fun z => [(2, .int z), (0, .ref (E.2.1 + 52)), (1, .int a1)]) 74 rfl dX11_plain_71 zi_1 2 rfl (by decide) (fun _ => rfl) (fun x71 _ => ?_)
    refine zm_goto 44 (by decide) dX11_plain_74 ?_
    exact zm_loc [1, 2, 0] rfl (zm_go (hf44a _) (hD44 (x71, M70)))
abbrev Y_X11_appends : zm_Y := (cX11_appends, 3, RX11, { frames := 0, cells := 0, slots := 0, locals := 0 }, (some .long), false, "appends")
noncomputable def f_X11_appends (a0 : Int64) (a2 : Int32) (M : zm_Mem) : Option Int64 :=
  if a2 = 0 then (some a0) else (some ((27 * a0) + (((a2 - 97) + 1).toInt64)))
set_option maxRecDepth 20000 in
set_option maxHeartbeats 4000000 in
theorem k_X11_appends (E : zm_E) (w : zm_W) (a0 : Int64) (a2 : Int32) (M : zm_Mem) {r : Int64} (h : f_X11_appends a0 a2 M = some r) : zm_Ct E w w yX11_appends Y_X11_appends [.long a0, .int a2] M (some (.long r)) M := by
  refine zm_methr (emb := zm_el) (d := f_X11_appends a0 a2 M) (by decide) rfl rfl (Nat.le_of_ble_eq_true rfl) h (fun X => ?_)
  show zm_V X Y_X11_appends E (zm_Q X E Y_X11_appends.2.2.2.1.cells Y_X11_appends.2.2.2.1.slots w zm_el) 0 0 false w 0 [(0, .long a0), (2, .int a2)] [] M (f_X11_appends a0 a2 M) (fun r => some (r, M))
  unfold f_X11_appends
  refine zm_iload_n 1 rfl dX11_appends_0 rfl 1 rfl ?_
  refine zm_if_ne 8 4 (by decide) rfl dX11_appends_1 ?_ ?_
  · refine zm_lload_n 5 rfl dX11_appends_4 rfl 0 rfl ?_
    refine zm_goto 21 (by decide) dX11_appends_5 ?_
    exact zm_lret dX11_appends_21 rfl (Nat.le_refl _) (Nat.le_refl _) rfl
  · refine zm_ldc2 11 rfl dX11_appends_8 kc_X11_197 ?_
    refine zm_lload_n 12 rfl dX11_appends_11 rfl 0 rfl ?_
    refine zm_lmul 13 rfl dX11_appends_12 ?_
    refine zm_iload_n 14 rfl dX11_appends_13 rfl 1 rfl ?_
    refine zm_bipush 16 rfl dX11_appends_14 zb_97 ?_
    refine zm_isub 17 rfl dX11_appends_16 ?_
    refine zm_iconst 18 rfl dX11_appends_17 zi_1 ?_
    refine zm_iadd 19 rfl dX11_appends_18 ?_
    refine zm_i2l 20 rfl dX11_appends_19 ?_
    refine zm_ladd 21 rfl dX11_appends_20 ?_
    exact zm_lret dX11_appends_21 rfl (Nat.le_refl _) (Nat.le_refl _) rfl
abbrev Y_X11_word : zm_Y := (cX11_word, 7, RX11, { frames := 1, cells := 0, slots := 0, locals := 22 }, (some .long), false, "word")
noncomputable def f_X11_word (a0 : Int32) (a1 : Int32) (a2 : Int32) (a3 : Int32) (a4 : Int32) (a5 : Int32) (a6 : Int32) (M : zm_Mem) : Option Int64 :=
  zm_b1 (f_X11_appends 0 a0 M) <| fun r2 => zm_b1 (f_X11_appends r2 a1 M) <| fun r6 => zm_b1 (f_X11_appends r6 a2 M) <| fun r10 => zm_b1 (f_X11_appends r10 a3 M) <| fun r14 => zm_b1 (f_X11_appends r14 a4 M) <| fun r19 => zm_b1 (f_X11_appends r19 a5 M) <| fun r24 => zm_b1 (f_X11_appends r24 a6 M) <| fun r29 => some r29
set_option maxRecDepth 20000 in
set_option maxHeartbeats 4000000 in
theorem k_X11_word (E : zm_E) (w : zm_W) (a0 : Int32) (a1 : Int32) (a2 : Int32) (a3 : Int32) (a4 : Int32) (a5 : Int32) (a6 : Int32) (M : zm_Mem) {r : Int64} (h : f_X11_word a0 a1 a2 a3 a4 a5 a6 M = some r) : zm_Ct E w w yX11_word Y_X11_word [.int a0, .int a1, .int a2, .int a3, .int a4, .int a5, .int a6] M (some (.long r)) M := by
  refine zm_methr (emb := zm_el) (d := f_X11_word a0 a1 a2 a3 a4 a5 a6 M) (by decide) rfl rfl (Nat.le_of_ble_eq_true rfl) h (fun X => ?_)
  show zm_V X Y_X11_word E (zm_Q X E Y_X11_word.2.2.2.1.cells Y_X11_word.2.2.2.1.slots w zm_el) 0 0 false w 0 [(0, .int a0), (1, .int a1), (2, .int a2), (3, .int a3), (4, .int a4), (5, .int a5), (6, .int a6)] [] M (f_X11_word a0 a1 a2 a3 a4 a5 a6 M) (fun r => some (r, M))
  unfold f_X11_word
  refine zm_lconst 1 rfl dX11_word_0 rfl ?_
  refine zm_iload_n 2 rfl dX11_word_1 rfl 0 rfl ?_
  refine zm_cS2lr 5 rfl dX11_word_2 ml_X11_178 (Nat.le_of_ble_eq_true rfl) ⟨Nat.le_of_ble_eq_true rfl, Nat.le_of_ble_eq_true rfl⟩ rfl rfl ⟨Nat.le_refl _, Nat.le_refl _⟩ rfl (fun _ h => k_X11_appends E w 0 a0 M h) (fun r2 => ?_)
  refine zm_iload_n 6 rfl dX11_word_5 rfl 1 rfl ?_
  refine zm_cS2lr 9 rfl dX11_word_6 ml_X11_178 (Nat.le_of_ble_eq_true rfl) ⟨Nat.le_of_ble_eq_true rfl, Nat.le_of_ble_eq_true rfl⟩ rfl rfl ⟨Nat.le_refl _, Nat.le_refl _⟩ rfl (fun _ h => k_X11_appends E w r2 a1 M h) (fun r6 => ?_)
  refine zm_iload_n 10 rfl dX11_word_9 rfl 2 rfl ?_
  refine zm_cS2lr 13 rfl dX11_word_10 ml_X11_178 (Nat.le_of_ble_eq_true rfl) ⟨Nat.le_of_ble_eq_true rfl, Nat.le_of_ble_eq_true rfl⟩ rfl rfl ⟨Nat.le_refl _, Nat.le_refl _⟩ rfl (fun _ h => k_X11_appends E w r6 a2 M h) (fun r10 => ?_)
  refine zm_iload_n 14 rfl dX11_word_13 rfl 3 rfl ?_
  refine zm_cS2lr 17 rfl dX11_word_14 ml_X11_178 (Nat.le_of_ble_eq_true rfl) ⟨Nat.le_of_ble_eq_true rfl, Nat.le_of_ble_eq_true rfl⟩ rfl rfl ⟨Nat.le_refl _, Nat.le_refl _⟩ rfl (fun _ h => k_X11_appends E w r10 a3 M h) (fun r14 => ?_)
  refine zm_iload 19 rfl dX11_word_17 4 rfl ?_
  refine zm_cS2lr 22 rfl dX11_word_19 ml_X11_178 (Nat.le_of_ble_eq_true rfl) ⟨Nat.le_of_ble_eq_true rfl, Nat.le_of_ble_eq_true rfl⟩ rfl rfl ⟨Nat.le_refl _, Nat.le_refl _⟩ rfl (fun _ h => k_X11_appends E w r14 a4 M h) (fun r19 => ?_)
  refine zm_iload 24 rfl dX11_word_22 5 rfl ?_
  refine zm_cS2lr 27 rfl dX11_word_24 ml_X11_178 (Nat.le_of_ble_eq_true rfl) ⟨Nat.le_of_ble_eq_true rfl, Nat.le_of_ble_eq_true rfl⟩ rfl rfl ⟨Nat.le_refl _, Nat.le_refl _⟩ rfl (fun _ h => k_X11_appends E w r19 a5 M h) (fun r24 => ?_)
  refine zm_iload 29 rfl dX11_word_27 6 rfl ?_
  refine zm_cS2lr 32 rfl dX11_word_29 ml_X11_178 (Nat.le_of_ble_eq_true rfl) ⟨Nat.le_of_ble_eq_true rfl, Nat.le_of_ble_eq_true rfl⟩ rfl rfl ⟨Nat.le_refl _, Nat.le_refl _⟩ rfl (fun _ h => k_X11_appends E w r24 a6 M h) (fun r29 => ?_)
  exact zm_lret dX11_word_32 rfl (Nat.le_refl _) (Nat.le_refl _) rfl
abbrev Y_X11_begins : zm_Y := (cX11_begins, 2, RX11, { frames := 0, cells := 0, slots := 0, locals := 0 }, none, false, "begins")
noncomputable def f_X11_begins_x95_23 (N95 : zm_Mem) : Option (Unit × zm_Mem) :=
 zm_ck (zm_in (N95.1 52 18) 2) <| zm_v (zm_sI N95 52 58 (N95.1 78 (N95.1 52 18).toNatClampNeg)) <| fun M105 => some ((), M105)
noncomputable def f_X11_begins_b66_23 (l23_1 : Int32) (L23 : zm_Mem) (b66_s1 : Int32) (b66_s2 : Int32) : Option ((Int32 × zm_Mem) ⊕ zm_Mem) :=
 zm_ck (zm_in b66_s1 60) <| zm_v (zm_sI L23 92 b66_s1.toNatClampNeg b66_s2) <| fun M66 => zm_ck (zm_in (6 + l23_1) 60) <| zm_v (zm_sI M66 92 (6 + l23_1).toNatClampNeg (-2)) <| fun M77 => zm_ck (zm_in (12 + l23_1) 60) <| zm_v (zm_sI M77 92 (12 + l23_1).toNatClampNeg (-2)) <| fun M88 => zm_v (l23_1 + 1) <| fun x89 => some (.inl (x89, M88))
noncomputable def f_X11_begins_l23 (l23_1 : Int32) (L23 : zm_Mem) : Option ((Int32 × zm_Mem) ⊕ zm_Mem) :=
 if (6 : Int32) ≤ l23_1 then (some (.inr L23)) else (zm_ck (zm_in (L23.1 52 18) 2) <| if (L23.1 66 (L23.1 52 18).toNatClampNeg) ≤ l23_1 then (f_X11_begins_b66_23 l23_1 L23 l23_1 (-2)) else (zm_ck (zm_in ((6 * (L23.1 52 18)) + l23_1) 12) <| f_X11_begins_b66_23 l23_1 L23 l23_1 (L23.1 68 ((6 * (L23.1 52 18)) + l23_1).toNatClampNeg)))
noncomputable def f_X11_begins_x21_2 (N21 : zm_Mem) : Option (Unit × zm_Mem) :=
 (zm_lp (fun s => f_X11_begins_l23 s.1 s.2) (0, N21)).bind (fun e95 => f_X11_begins_x95_23 e95)
noncomputable def f_X11_begins_l2 (l2_1 : Int32) (L2 : zm_Mem) : Option ((Int32 × zm_Mem) ⊕ zm_Mem) :=
 if (60 : Int32) ≤ l2_1 then (some (.inr L2)) else (zm_ck (zm_in l2_1 60) <| zm_v (zm_sI L2 92 l2_1.toNatClampNeg 0) <| fun M14 => zm_v (l2_1 + 1) <| fun x15 => some (.inl (x15, M14)))
noncomputable def f_X11_begins  (M : zm_Mem) : Option (Unit × zm_Mem) :=
  (zm_lp (fun s => f_X11_begins_l2 s.1 s.2) (0, M)).bind (fun e21 => f_X11_begins_x21_2 e21)
set_option maxRecDepth 20000 in
set_option maxHeartbeats 4000000 in
theorem k_X11_begins (E : zm_E) (sv : Nat)  (M : zm_Mem) {r : Unit} {M' : zm_Mem} (h : f_X11_begins M = some (r, M')) : zm_Ct E (zm_w sv) (zm_w sv) yX11_begins Y_X11_begins [.ref (E.2.1 + 52)] M none M' := by
  refine zm_meth (emb := zm_ev) (d := f_X11_begins M) (by decide) rfl rfl (Nat.le_of_ble_eq_true rfl) h (fun X => ?_)
  show zm_V X Y_X11_begins E (zm_Q X E Y_X11_begins.2.2.2.1.cells Y_X11_begins.2.2.2.1.slots (zm_w sv) zm_ev) 0 0 false (zm_w sv) 0 [(0, .ref (E.2.1 + 52))] [] M (f_X11_begins M) some
  unfold f_X11_begins
  refine zm_iconst 1 rfl dX11_begins_0 zi_0 ?_
  refine zm_istore_n (lv' := [(1, .int 0), (0, .ref (E.2.1 + 52))]) 2 rfl dX11_begins_1 rfl (by decide) rfl ?_
  have hx21_2 : ∀ (N21 : zm_Mem), zm_V X Y_X11_begins E (zm_Q X E Y_X11_begins.2.2.2.1.cells Y_X11_begins.2.2.2.1.slots (zm_w sv) zm_ev) 0 0 false (zm_w sv) 21 [(0, .ref (E.2.1 + 52))] [] N21 (f_X11_begins_x21_2 N21) some := by
    intro N21
    unfold f_X11_begins_x21_2
    refine zm_iconst 22 rfl dX11_begins_21 zi_0 ?_
    refine zm_istore_n (lv' := [(1, .int 0), (0, .ref (E.2.1 + 52))]) 23 rfl dX11_begins_22 rfl (by decide) rfl ?_
    have hx95_23 : ∀ (N95 : zm_Mem), zm_V X Y_X11_begins E (zm_Q X E Y_X11_begins.2.2.2.1.cells Y_X11_begins.2.2.2.1.slots (zm_w sv) zm_ev) 0 0 false (zm_w sv) 95 [(0, .ref (E.2.1 + 52))] [] N95 (f_X11_begins_x95_23 N95) some := by
      intro N95
      unfold f_X11_begins_x95_23
      refine zm_aload_n 96 rfl dX11_begins_95 rfl 0 rfl ?_
      refine zm_aload_n 97 rfl dX11_begins_96 rfl 0 rfl ?_
      refine zm_getR (a := 78) 100 rfl dX11_begins_97 fl_X11_94 rfl (zm_L (sv := sv) rfl) rfl (by decide) ?_
      refine zm_aload_n 101 rfl dX11_begins_100 rfl 0 rfl ?_
      refine zm_getI 104 rfl dX11_begins_101 fl_X11_251 rfl (zm_L (sv := sv) rfl) ?_
      refine zm_iald 105 rfl dX11_begins_104 rfl (zm_L (sv := sv) rfl) ?_
      refine zm_putI 108 rfl dX11_begins_105 fp_X11_339 rfl (zm_L (sv := sv) rfl) rfl rfl (fun M105 _ => ?_)
      exact zm_vret dX11_begins_108 rfl (Nat.le_refl _) (Nat.le_refl _) rfl
    refine zm_loc [1, 0] rfl (zm_lpp (σ := (Int32 × zm_Mem)) (ε := zm_Mem) (step := fun s => f_X11_begins_l23 s.1 s.2) (fun s => [(0, .ref (E.2.1 + 52)), (1, .int s.1)]) (fun s => s.2) (fun D23 f23 hf23a hf23b hD23 s => ?_) (0, N21))
    obtain ⟨l23_1, L23⟩ := s
    show zm_V X Y_X11_begins E (zm_Q X E Y_X11_begins.2.2.2.1.cells Y_X11_begins.2.2.2.1.slots (zm_w sv) zm_ev) 0 0 false (zm_w sv) 23 [(0, .ref (E.2.1 + 52)), (1, .int l23_1)] [] L23 (f_X11_begins_l23 l23_1 L23) f23
    unfold f_X11_begins_l23
    refine zm_iload_n 24 rfl dX11_begins_23 rfl 1 rfl ?_
    refine zm_bipush 26 rfl dX11_begins_24 zb_6 ?_
    refine zm_icmp_ge 95 29 (by decide) rfl dX11_begins_26 ?_ ?_
    · exact zm_loc [0] rfl (zm_go (hf23b _) (zm_unb (hx95_23 L23)))
    · refine zm_aload_n 30 rfl dX11_begins_29 rfl 0 rfl ?_
      refine zm_getR (a := 92) 33 rfl dX11_begins_30 fl_X11_137 rfl (zm_L (sv := sv) rfl) rfl (by decide) ?_
      refine zm_iload_n 34 rfl dX11_begins_33 rfl 1 rfl ?_
      refine zm_iload_n 35 rfl dX11_begins_34 rfl 1 rfl ?_
      refine zm_aload_n 36 rfl dX11_begins_35 rfl 0 rfl ?_
      refine zm_getR (a := 66) 39 rfl dX11_begins_36 fl_X11_58 rfl (zm_L (sv := sv) rfl) rfl (by decide) ?_
      refine zm_aload_n 40 rfl dX11_begins_39 rfl 0 rfl ?_
      refine zm_getI 43 rfl dX11_begins_40 fl_X11_251 rfl (zm_L (sv := sv) rfl) ?_
      refine zm_iald 44 rfl dX11_begins_43 rfl (zm_L (sv := sv) rfl) ?_
      have hb66_23 : ∀ (b66_s1 : Int32) (b66_s2 : Int32), zm_V X Y_X11_begins E (zm_Q X E Y_X11_begins.2.2.2.1.cells Y_X11_begins.2.2.2.1.slots (zm_w sv) zm_ev) 0 0 false (zm_w sv) 66 [(0, .ref (E.2.1 + 52)), (1, .int l23_1)] [.int b66_s2, .int b66_s1, .ref (E.2.1 + 92)] L23 (f_X11_begins_b66_23 l23_1 L23 b66_s1 b66_s2) f23 := by
        intro b66_s1 b66_s2
        unfold f_X11_begins_b66_23
        refine zm_iast 67 rfl dX11_begins_66 rfl (zm_L (sv := sv) rfl) (fun M66 _ => ?_)
        refine zm_aload_n 68 rfl dX11_begins_67 rfl 0 rfl ?_
        refine zm_getR (a := 92) 71 rfl dX11_begins_68 fl_X11_137 rfl (zm_L (sv := sv) rfl) rfl (by decide) ?_
        refine zm_bipush 73 rfl dX11_begins_71 zb_6 ?_
        refine zm_iload_n 74 rfl dX11_begins_73 rfl 1 rfl ?_
        refine zm_iadd 75 rfl dX11_begins_74 ?_
        refine zm_bipush 77 rfl dX11_begins_75 zb_m2 ?_
        refine zm_iast 78 rfl dX11_begins_77 rfl (zm_L (sv := sv) rfl) (fun M77 _ => ?_)
        refine zm_aload_n 79 rfl dX11_begins_78 rfl 0 rfl ?_
        refine zm_getR (a := 92) 82 rfl dX11_begins_79 fl_X11_137 rfl (zm_L (sv := sv) rfl) rfl (by decide) ?_
        refine zm_bipush 84 rfl dX11_begins_82 zb_12 ?_
        refine zm_iload_n 85 rfl dX11_begins_84 rfl 1 rfl ?_
        refine zm_iadd 86 rfl dX11_begins_85 ?_
        refine zm_bipush 88 rfl dX11_begins_86 zb_m2 ?_
        refine zm_iast 89 rfl dX11_begins_88 rfl (zm_L (sv := sv) rfl) (fun M88 _ => ?_)
        refine zm_iinc (lv' := fun z => [(1, .int z), (0, .ref (E.2.1 + 52))]) 92 rfl dX11_begins_89 zi_1 1 rfl (by decide) (fun _ => rfl) (fun x89 _ => ?_)
        refine zm_goto 23 (by decide) dX11_begins_92 ?_
        exact zm_loc [1, 0] rfl (zm_go (hf23a _) (hD23 (x89, M88)))
      refine zm_icmp_ge 64 47 (by decide) rfl dX11_begins_44 ?_ ?_
      · refine zm_bipush 66 rfl dX11_begins_64 zb_m2 ?_
        exact zm_loc [0, 1] rfl (hb66_23 l23_1 (-2))
      · refine zm_aload_n 48 rfl dX11_begins_47 rfl 0 rfl ?_
        refine zm_getR (a := 68) 51 rfl dX11_begins_48 fl_X11_64 rfl (zm_L (sv := sv) rfl) rfl (by decide) ?_
        refine zm_bipush 53 rfl dX11_begins_51 zb_6 ?_
        refine zm_aload_n 54 rfl dX11_begins_53 rfl 0 rfl ?_
        refine zm_getI 57 rfl dX11_begins_54 fl_X11_251 rfl (zm_L (sv := sv) rfl) ?_
        refine zm_imul 58 rfl dX11_begins_57 ?_
        refine zm_iload_n 59 rfl dX11_begins_58 rfl 1 rfl ?_
        refine zm_iadd 60 rfl dX11_begins_59 ?_
        refine zm_iald 61 rfl dX11_begins_60 rfl (zm_L (sv := sv) rfl) ?_
        refine zm_goto 66 (by decide) dX11_begins_61 ?_
        exact zm_loc [0, 1] rfl (hb66_23 l23_1 (L23.1 68 ((6 * (L23.1 52 18)) + l23_1).toNatClampNeg))
  refine zm_loc [1, 0] rfl (zm_lpp (σ := (Int32 × zm_Mem)) (ε := zm_Mem) (step := fun s => f_X11_begins_l2 s.1 s.2) (fun s => [(0, .ref (E.2.1 + 52)), (1, .int s.1)]) (fun s => s.2) (fun D2 f2 hf2a hf2b hD2 s => ?_) (0, M))
  obtain ⟨l2_1, L2⟩ := s
  show zm_V X Y_X11_begins E (zm_Q X E Y_X11_begins.2.2.2.1.cells Y_X11_begins.2.2.2.1.slots (zm_w sv) zm_ev) 0 0 false (zm_w sv) 2 [(0, .ref (E.2.1 + 52)), (1, .int l2_1)] [] L2 (f_X11_begins_l2 l2_1 L2) f2
  unfold f_X11_begins_l2
  refine zm_iload_n 3 rfl dX11_begins_2 rfl 1 rfl ?_
  refine zm_bipush 5 rfl dX11_begins_3 zb_60 ?_
  refine zm_icmp_ge 21 8 (by decide) rfl dX11_begins_5 ?_ ?_
  · exact zm_loc [0] rfl (zm_go (hf2b _) (zm_unb (hx21_2 L2)))
  · refine zm_aload_n 9 rfl dX11_begins_8 rfl 0 rfl ?_
    refine zm_getR (a := 92) 12 rfl dX11_begins_9 fl_X11_137 rfl (zm_L (sv := sv) rfl) rfl (by decide) ?_
    refine zm_iload_n 13 rfl dX11_begins_12 rfl 1 rfl ?_
    refine zm_iconst 14 rfl dX11_begins_13 zi_0 ?_
    refine zm_iast 15 rfl dX11_begins_14 rfl (zm_L (sv := sv) rfl) (fun M14 _ => ?_)
    refine zm_iinc (lv' := fun z => [(1, .int z), (0, .ref (E.2.1 + 52))]) 18 rfl dX11_begins_15 zi_1 1 rfl (by decide) (fun _ => rfl) (fun x15 _ => ?_)
    refine zm_goto 2 (by decide) dX11_begins_18 ?_
    exact zm_loc [1, 0] rfl (zm_go (hf2a _) (hD2 (x15, M14)))
abbrev Y_X11_keepsRow : zm_Y := (cX11_keepsRow, 2, RX11, { frames := 0, cells := 0, slots := 0, locals := 0 }, none, false, "keepsRow")
noncomputable def f_X11_keepsRow_l2 (l2_1 : Int32) (L2 : zm_Mem) : Option ((Int32 × zm_Mem) ⊕ zm_Mem) :=
 if (60 : Int32) ≤ l2_1 then (some (.inr L2)) else (zm_ck (zm_in l2_1 60) <| zm_ck (zm_in l2_1 60) <| zm_v (zm_sI L2 91 l2_1.toNatClampNeg (L2.1 92 l2_1.toNatClampNeg)) <| fun M19 => zm_v (l2_1 + 1) <| fun x20 => some (.inl (x20, M19)))
noncomputable def f_X11_keepsRow  (M : zm_Mem) : Option (Unit × zm_Mem) :=
  (zm_lp (fun s => f_X11_keepsRow_l2 s.1 s.2) (0, M)).bind (fun e26 => some ((), e26))
set_option maxRecDepth 20000 in
set_option maxHeartbeats 4000000 in
theorem k_X11_keepsRow (E : zm_E) (sv : Nat)  (M : zm_Mem) {r : Unit} {M' : zm_Mem} (h : f_X11_keepsRow M = some (r, M')) : zm_Ct E (zm_w sv) (zm_w sv) yX11_keepsRow Y_X11_keepsRow [.ref (E.2.1 + 52)] M none M' := by
  refine zm_meth (emb := zm_ev) (d := f_X11_keepsRow M) (by decide) rfl rfl (Nat.le_of_ble_eq_true rfl) h (fun X => ?_)
  show zm_V X Y_X11_keepsRow E (zm_Q X E Y_X11_keepsRow.2.2.2.1.cells Y_X11_keepsRow.2.2.2.1.slots (zm_w sv) zm_ev) 0 0 false (zm_w sv) 0 [(0, .ref (E.2.1 + 52))] [] M (f_X11_keepsRow M) some
  unfold f_X11_keepsRow
  refine zm_iconst 1 rfl dX11_keepsRow_0 zi_0 ?_
  refine zm_istore_n (lv' := [(1, .int 0), (0, .ref (E.2.1 + 52))]) 2 rfl dX11_keepsRow_1 rfl (by decide) rfl ?_
  have hx26_2 : ∀ (N26 : zm_Mem), zm_V X Y_X11_keepsRow E (zm_Q X E Y_X11_keepsRow.2.2.2.1.cells Y_X11_keepsRow.2.2.2.1.slots (zm_w sv) zm_ev) 0 0 false (zm_w sv) 26 [] [] N26 (some ((), N26)) some := by
    intro N26
    exact zm_vret dX11_keepsRow_26 rfl (Nat.le_refl _) (Nat.le_refl _) rfl
  refine zm_loc [1, 0] rfl (zm_lpp (σ := (Int32 × zm_Mem)) (ε := zm_Mem) (step := fun s => f_X11_keepsRow_l2 s.1 s.2) (fun s => [(0, .ref (E.2.1 + 52)), (1, .int s.1)]) (fun s => s.2) (fun D2 f2 hf2a hf2b hD2 s => ?_) (0, M))
  obtain ⟨l2_1, L2⟩ := s
  show zm_V X Y_X11_keepsRow E (zm_Q X E Y_X11_keepsRow.2.2.2.1.cells Y_X11_keepsRow.2.2.2.1.slots (zm_w sv) zm_ev) 0 0 false (zm_w sv) 2 [(0, .ref (E.2.1 + 52)), (1, .int l2_1)] [] L2 (f_X11_keepsRow_l2 l2_1 L2) f2
  unfold f_X11_keepsRow_l2
  refine zm_iload_n 3 rfl dX11_keepsRow_2 rfl 1 rfl ?_
  refine zm_bipush 5 rfl dX11_keepsRow_3 zb_60 ?_
  refine zm_icmp_ge 26 8 (by decide) rfl dX11_keepsRow_5 ?_ ?_
  · exact zm_loc [] rfl (zm_go (hf2b _) (zm_unb (hx26_2 L2)))
  · refine zm_aload_n 9 rfl dX11_keepsRow_8 rfl 0 rfl ?_
    refine zm_getR (a := 91) 12 rfl dX11_keepsRow_9 fl_X11_134 rfl (zm_L (sv := sv) rfl) rfl (by decide) ?_
    refine zm_iload_n 13 rfl dX11_keepsRow_12 rfl 1 rfl ?_
    refine zm_aload_n 14 rfl dX11_keepsRow_13 rfl 0 rfl ?_
    refine zm_getR (a := 92) 17 rfl dX11_keepsRow_14 fl_X11_137 rfl (zm_L (sv := sv) rfl) rfl (by decide) ?_
    refine zm_iload_n 18 rfl dX11_keepsRow_17 rfl 1 rfl ?_
    refine zm_iald 19 rfl dX11_keepsRow_18 rfl (zm_L (sv := sv) rfl) ?_
    refine zm_iast 20 rfl dX11_keepsRow_19 rfl (zm_L (sv := sv) rfl) (fun M19 _ => ?_)
    refine zm_iinc (lv' := fun z => [(1, .int z), (0, .ref (E.2.1 + 52))]) 23 rfl dX11_keepsRow_20 zi_1 1 rfl (by decide) (fun _ => rfl) (fun x20 _ => ?_)
    refine zm_goto 2 (by decide) dX11_keepsRow_23 ?_
    exact zm_loc [1, 0] rfl (zm_go (hf2a _) (hD2 (x20, M19)))
abbrev Y_X11_put : zm_Y := (cX11_put, 3, RX11, { frames := 0, cells := 0, slots := 0, locals := 0 }, none, false, "put")
noncomputable def f_X11_put_l3 (a1 : Int32) (l3_2 : Int32) (L3 : zm_Mem) : Option ((Int32 × zm_Mem) ⊕ zm_Mem) :=
 if l3_2 < 0 then (some (.inr L3)) else (zm_ck (zm_in (L3.1 52 2) 2000) <| zm_v (zm_sI L3 53 (L3.1 52 2).toNatClampNeg (vp_nar .byte ((a1 >>> (l3_2 &&& 31)).toInt8.toInt32))) <| fun M19 => zm_v (zm_sI M19 52 2 ((M19.1 52 2) + 1)) <| fun M27 => zm_v (l3_2 + (-8)) <| fun x30 => some (.inl (x30, M27)))
noncomputable def f_X11_put (a1 : Int32) (M : zm_Mem) : Option (Unit × zm_Mem) :=
  (zm_lp (fun s => f_X11_put_l3 a1 s.1 s.2) (24, M)).bind (fun e36 => some ((), e36))
set_option maxRecDepth 20000 in
set_option maxHeartbeats 4000000 in
theorem k_X11_put (E : zm_E) (sv : Nat) (a1 : Int32) (M : zm_Mem) {r : Unit} {M' : zm_Mem} (h : f_X11_put a1 M = some (r, M')) : zm_Ct E (zm_w sv) (zm_w sv) yX11_put Y_X11_put [.ref (E.2.1 + 52), .int a1] M none M' := by
  refine zm_meth (emb := zm_ev) (d := f_X11_put a1 M) (by decide) rfl rfl (Nat.le_of_ble_eq_true rfl) h (fun X => ?_)
  show zm_V X Y_X11_put E (zm_Q X E Y_X11_put.2.2.2.1.cells Y_X11_put.2.2.2.1.slots (zm_w sv) zm_ev) 0 0 false (zm_w sv) 0 [(0, .ref (E.2.1 + 52)), (1, .int a1)] [] M (f_X11_put a1 M) some
  unfold f_X11_put
  refine zm_bipush 2 rfl dX11_put_0 zb_24 ?_
  refine zm_istore_n (lv' := [(2, .int 24), (0, .ref (E.2.1 + 52)), (1, .int a1)]) 3 rfl dX11_put_2 rfl (by decide) rfl ?_
  have hx36_3 : ∀ (N36 : zm_Mem), zm_V X Y_X11_put E (zm_Q X E Y_X11_put.2.2.2.1.cells Y_X11_put.2.2.2.1.slots (zm_w sv) zm_ev) 0 0 false (zm_w sv) 36 [] [] N36 (some ((), N36)) some := by
    intro N36
    exact zm_vret dX11_put_36 rfl (Nat.le_refl _) (Nat.le_refl _) rfl
  refine zm_loc [1, 2, 0] rfl (zm_lpp (σ := (Int32 × zm_Mem)) (ε := zm_Mem) (step := fun s => f_X11_put_l3 a1 s.1 s.2) (fun s => [(0, .ref (E.2.1 + 52)), (1, .int a1), (2, .int s.1)]) (fun s => s.2) (fun D3 f3 hf3a hf3b hD3 s => ?_) (24, M))
  obtain ⟨l3_2, L3⟩ := s
  show zm_V X Y_X11_put E (zm_Q X E Y_X11_put.2.2.2.1.cells Y_X11_put.2.2.2.1.slots (zm_w sv) zm_ev) 0 0 false (zm_w sv) 3 [(0, .ref (E.2.1 + 52)), (1, .int a1), (2, .int l3_2)] [] L3 (f_X11_put_l3 a1 l3_2 L3) f3
  unfold f_X11_put_l3
  refine zm_iload_n 4 rfl dX11_put_3 rfl 2 rfl ?_
  refine zm_if_lt 36 7 (by decide) rfl dX11_put_4 ?_ ?_
  · exact zm_loc [] rfl (zm_go (hf3b _) (zm_unb (hx36_3 L3)))
  · refine zm_aload_n 8 rfl dX11_put_7 rfl 0 rfl ?_
    refine zm_getR (a := 53) 11 rfl dX11_put_8 fl_X11_13 rfl (zm_L (sv := sv) rfl) rfl (by decide) ?_
    refine zm_aload_n 12 rfl dX11_put_11 rfl 0 rfl ?_
    refine zm_getI 15 rfl dX11_put_12 fl_X11_188 rfl (zm_L (sv := sv) rfl) ?_
    refine zm_iload_n 16 rfl dX11_put_15 rfl 1 rfl ?_
    refine zm_iload_n 17 rfl dX11_put_16 rfl 2 rfl ?_
    refine zm_ishr 18 rfl dX11_put_17 ?_
    refine zm_i2b 19 rfl dX11_put_18 ?_
    refine zm_bast 20 rfl dX11_put_19 rfl (zm_L (sv := sv) rfl) (fun M19 _ => ?_)
    refine zm_aload_n 21 rfl dX11_put_20 rfl 0 rfl ?_
    refine zm_dup 22 rfl dX11_put_21 rfl ?_
    refine zm_getI 25 rfl dX11_put_22 fl_X11_188 rfl (zm_L (sv := sv) rfl) ?_
    refine zm_iconst 26 rfl dX11_put_25 zi_1 ?_
    refine zm_iadd 27 rfl dX11_put_26 ?_
    refine zm_putI 30 rfl dX11_put_27 fp_X11_188 rfl (zm_L (sv := sv) rfl) rfl rfl (fun M27 _ => ?_)
    refine zm_iinc (lv' := fun z => [(2, .int z), (0, .ref (E.2.1 + 52)), (1, .int a1)]) 33 rfl dX11_put_30 zi_m8 2 rfl (by decide) (fun _ => rfl) (fun x30 _ => ?_)
    refine zm_goto 3 (by decide) dX11_put_33 ?_
    exact zm_loc [1, 2, 0] rfl (zm_go (hf3a _) (hD3 (x30, M27)))
abbrev Y_X11_feed : zm_Y := (cX11_feed, 6, RX11, { frames := 1, cells := 0, slots := 0, locals := 22 }, (some .int), false, "feed")
noncomputable def f_X11_feed (a1 : Int32) (a2 : Int32) (a3 : Int32) (a4 : Int32) (a5 : Int32) (M : zm_Mem) : Option (Int32 × zm_Mem) :=
  if ((M.1 52 2) + 20) ≤ (2000 : Int32) then (zm_b2 (f_X11_put a1 M) <| fun _ M17 => zm_b2 (f_X11_put a2 M17) <| fun _ M22 => zm_b2 (f_X11_put a3 M22) <| fun _ M27 => zm_b2 (f_X11_put a4 M27) <| fun _ M33 => zm_b2 (f_X11_put a5 M33) <| fun _ M39 => some (M39.1 52 2, M39)) else (some ((-1), M))
set_option maxRecDepth 20000 in
set_option maxHeartbeats 4000000 in
theorem k_X11_feed (E : zm_E) (sv : Nat) (a1 : Int32) (a2 : Int32) (a3 : Int32) (a4 : Int32) (a5 : Int32) (M : zm_Mem) {r : Int32} {M' : zm_Mem} (h : f_X11_feed a1 a2 a3 a4 a5 M = some (r, M')) : zm_Ct E (zm_w sv) (zm_w sv) yX11_feed Y_X11_feed [.ref (E.2.1 + 52), .int a1, .int a2, .int a3, .int a4, .int a5] M (some (.int r)) M' := by
  refine zm_meth (emb := zm_ei) (d := f_X11_feed a1 a2 a3 a4 a5 M) (by decide) rfl rfl (Nat.le_of_ble_eq_true rfl) h (fun X => ?_)
  show zm_V X Y_X11_feed E (zm_Q X E Y_X11_feed.2.2.2.1.cells Y_X11_feed.2.2.2.1.slots (zm_w sv) zm_ei) 0 0 false (zm_w sv) 0 [(0, .ref (E.2.1 + 52)), (1, .int a1), (2, .int a2), (3, .int a3), (4, .int a4), (5, .int a5)] [] M (f_X11_feed a1 a2 a3 a4 a5 M) some
  unfold f_X11_feed
  refine zm_aload_n 1 rfl dX11_feed_0 rfl 0 rfl ?_
  refine zm_getI 4 rfl dX11_feed_1 fl_X11_188 rfl (zm_L (sv := sv) rfl) ?_
  refine zm_bipush 6 rfl dX11_feed_4 zb_20 ?_
  refine zm_iadd 7 rfl dX11_feed_6 ?_
  refine zm_sipush 10 rfl dX11_feed_7 zs_2000 ?_
  refine zm_icmp_le 15 13 (by decide) rfl dX11_feed_10 ?_ ?_
  · refine zm_aload_n 16 rfl dX11_feed_15 rfl 0 rfl ?_
    refine zm_iload_n 17 rfl dX11_feed_16 rfl 1 rfl ?_
    refine zm_cV1v 20 rfl dX11_feed_17 ml_X11_191 rfl (zm_L (sv := sv) rfl) rfl (Nat.le_of_ble_eq_true rfl) ⟨Nat.le_of_ble_eq_true rfl, Nat.le_of_ble_eq_true rfl⟩ rfl rfl ⟨Nat.le_refl _, Nat.le_refl _⟩ rfl (fun _ _ h => k_X11_put E sv a1 M h) (fun _ M17 => ?_)
    refine zm_aload_n 21 rfl dX11_feed_20 rfl 0 rfl ?_
    refine zm_iload_n 22 rfl dX11_feed_21 rfl 2 rfl ?_
    refine zm_cV1v 25 rfl dX11_feed_22 ml_X11_191 rfl (zm_L (sv := sv) rfl) rfl (Nat.le_of_ble_eq_true rfl) ⟨Nat.le_of_ble_eq_true rfl, Nat.le_of_ble_eq_true rfl⟩ rfl rfl ⟨Nat.le_refl _, Nat.le_refl _⟩ rfl (fun _ _ h => k_X11_put E sv a2 M17 h) (fun _ M22 => ?_)
    refine zm_aload_n 26 rfl dX11_feed_25 rfl 0 rfl ?_
    refine zm_iload_n 27 rfl dX11_feed_26 rfl 3 rfl ?_
    refine zm_cV1v 30 rfl dX11_feed_27 ml_X11_191 rfl (zm_L (sv := sv) rfl) rfl (Nat.le_of_ble_eq_true rfl) ⟨Nat.le_of_ble_eq_true rfl, Nat.le_of_ble_eq_true rfl⟩ rfl rfl ⟨Nat.le_refl _, Nat.le_refl _⟩ rfl (fun _ _ h => k_X11_put E sv a3 M22 h) (fun _ M27 => ?_)
    refine zm_aload_n 31 rfl dX11_feed_30 rfl 0 rfl ?_
    refine zm_iload 33 rfl dX11_feed_31 4 rfl ?_
    refine zm_cV1v 36 rfl dX11_feed_33 ml_X11_191 rfl (zm_L (sv := sv) rfl) rfl (Nat.le_of_ble_eq_true rfl) ⟨Nat.le_of_ble_eq_true rfl, Nat.le_of_ble_eq_true rfl⟩ rfl rfl ⟨Nat.le_refl _, Nat.le_refl _⟩ rfl (fun _ _ h => k_X11_put E sv a4 M27 h) (fun _ M33 => ?_)
    refine zm_aload_n 37 rfl dX11_feed_36 rfl 0 rfl ?_
    refine zm_iload 39 rfl dX11_feed_37 5 rfl ?_
    refine zm_cV1v 42 rfl dX11_feed_39 ml_X11_191 rfl (zm_L (sv := sv) rfl) rfl (Nat.le_of_ble_eq_true rfl) ⟨Nat.le_of_ble_eq_true rfl, Nat.le_of_ble_eq_true rfl⟩ rfl rfl ⟨Nat.le_refl _, Nat.le_refl _⟩ rfl (fun _ _ h => k_X11_put E sv a5 M33 h) (fun _ M39 => ?_)
    refine zm_aload_n 43 rfl dX11_feed_42 rfl 0 rfl ?_
    refine zm_getI 46 rfl dX11_feed_43 fl_X11_188 rfl (zm_L (sv := sv) rfl) ?_
    exact zm_iret dX11_feed_46 rfl (Nat.le_refl _) (Nat.le_refl _) rfl
  · refine zm_iconst 14 rfl dX11_feed_13 zi_m1 ?_
    exact zm_iret dX11_feed_14 rfl (Nat.le_refl _) (Nat.le_refl _) rfl
abbrev Y_X11_back : zm_Y := (cX11_back, 2, RX11, { frames := 0, cells := 0, slots := 0, locals := 0 }, (some .int), false, "back")
noncomputable def f_X11_back (a1 : Int32) (M : zm_Mem) : Option (Int32 × zm_Mem) :=
  if a1 < 0 then (some ((-1), M)) else (if a1 ≤ (M.1 52 2) then (zm_v (zm_sI M 52 2 ((M.1 52 2) - a1)) <| fun M21 => some (M21.1 52 2, M21)) else (some ((-1), M)))
set_option maxRecDepth 20000 in
set_option maxHeartbeats 4000000 in
theorem k_X11_back (E : zm_E) (sv : Nat) (a1 : Int32) (M : zm_Mem) {r : Int32} {M' : zm_Mem} (h : f_X11_back a1 M = some (r, M')) : zm_Ct E (zm_w sv) (zm_w sv) yX11_back Y_X11_back [.ref (E.2.1 + 52), .int a1] M (some (.int r)) M' := by
  refine zm_meth (emb := zm_ei) (d := f_X11_back a1 M) (by decide) rfl rfl (Nat.le_of_ble_eq_true rfl) h (fun X => ?_)
  show zm_V X Y_X11_back E (zm_Q X E Y_X11_back.2.2.2.1.cells Y_X11_back.2.2.2.1.slots (zm_w sv) zm_ei) 0 0 false (zm_w sv) 0 [(0, .ref (E.2.1 + 52)), (1, .int a1)] [] M (f_X11_back a1 M) some
  unfold f_X11_back
  refine zm_iload_n 1 rfl dX11_back_0 rfl 1 rfl ?_
  refine zm_if_lt 12 4 (by decide) rfl dX11_back_1 ?_ ?_
  · refine zm_iconst 13 rfl dX11_back_12 zi_m1 ?_
    exact zm_iret dX11_back_13 rfl (Nat.le_refl _) (Nat.le_refl _) rfl
  · refine zm_iload_n 5 rfl dX11_back_4 rfl 1 rfl ?_
    refine zm_aload_n 6 rfl dX11_back_5 rfl 0 rfl ?_
    refine zm_getI 9 rfl dX11_back_6 fl_X11_188 rfl (zm_L (sv := sv) rfl) ?_
    refine zm_icmp_le 14 12 (by decide) rfl dX11_back_9 ?_ ?_
    · refine zm_aload_n 15 rfl dX11_back_14 rfl 0 rfl ?_
      refine zm_dup 16 rfl dX11_back_15 rfl ?_
      refine zm_getI 19 rfl dX11_back_16 fl_X11_188 rfl (zm_L (sv := sv) rfl) ?_
      refine zm_iload_n 20 rfl dX11_back_19 rfl 1 rfl ?_
      refine zm_isub 21 rfl dX11_back_20 ?_
      refine zm_putI 24 rfl dX11_back_21 fp_X11_188 rfl (zm_L (sv := sv) rfl) rfl rfl (fun M21 _ => ?_)
      refine zm_aload_n 25 rfl dX11_back_24 rfl 0 rfl ?_
      refine zm_getI 28 rfl dX11_back_25 fl_X11_188 rfl (zm_L (sv := sv) rfl) ?_
      exact zm_iret dX11_back_28 rfl (Nat.le_refl _) (Nat.le_refl _) rfl
    · refine zm_iconst 13 rfl dX11_back_12 zi_m1 ?_
      exact zm_iret dX11_back_13 rfl (Nat.le_refl _) (Nat.le_refl _) rfl
abbrev Y_X11_byteAt : zm_Y := (cX11_byteAt, 2, RX11, { frames := 0, cells := 0, slots := 0, locals := 0 }, (some .int), false, "byteAt")
noncomputable def f_X11_byteAt (a1 : Int32) (M : zm_Mem) : Option Int32 :=
  if (M.1 52 4) ≤ a1 then (some 0) else (zm_ck (zm_in a1 2000) <| some ((M.1 54 a1.toNatClampNeg) &&& 255))
set_option maxRecDepth 20000 in
set_option maxHeartbeats 4000000 in
theorem k_X11_byteAt (E : zm_E) (sv : Nat) (a1 : Int32) (M : zm_Mem) {r : Int32} (h : f_X11_byteAt a1 M = some r) : zm_Ct E (zm_w sv) (zm_w sv) yX11_byteAt Y_X11_byteAt [.ref (E.2.1 + 52), .int a1] M (some (.int r)) M := by
  refine zm_methr (emb := zm_ei) (d := f_X11_byteAt a1 M) (by decide) rfl rfl (Nat.le_of_ble_eq_true rfl) h (fun X => ?_)
  show zm_V X Y_X11_byteAt E (zm_Q X E Y_X11_byteAt.2.2.2.1.cells Y_X11_byteAt.2.2.2.1.slots (zm_w sv) zm_ei) 0 0 false (zm_w sv) 0 [(0, .ref (E.2.1 + 52)), (1, .int a1)] [] M (f_X11_byteAt a1 M) (fun r => some (r, M))
  unfold f_X11_byteAt
  refine zm_iload_n 1 rfl dX11_byteAt_0 rfl 1 rfl ?_
  refine zm_aload_n 2 rfl dX11_byteAt_1 rfl 0 rfl ?_
  refine zm_getI 5 rfl dX11_byteAt_2 fl_X11_194 rfl (zm_L (sv := sv) rfl) ?_
  refine zm_icmp_ge 21 8 (by decide) rfl dX11_byteAt_5 ?_ ?_
  · refine zm_iconst 22 rfl dX11_byteAt_21 zi_0 ?_
    exact zm_iret dX11_byteAt_22 rfl (Nat.le_refl _) (Nat.le_refl _) rfl
  · refine zm_aload_n 9 rfl dX11_byteAt_8 rfl 0 rfl ?_
    refine zm_getR (a := 54) 12 rfl dX11_byteAt_9 fl_X11_17 rfl (zm_L (sv := sv) rfl) rfl (by decide) ?_
    refine zm_iload_n 13 rfl dX11_byteAt_12 rfl 1 rfl ?_
    refine zm_bald 14 rfl dX11_byteAt_13 rfl (zm_L (sv := sv) rfl) ?_
    refine zm_sipush 17 rfl dX11_byteAt_14 zs_255 ?_
    refine zm_iand 18 rfl dX11_byteAt_17 ?_
    refine zm_goto 22 (by decide) dX11_byteAt_18 ?_
    exact zm_iret dX11_byteAt_22 rfl (Nat.le_refl _) (Nat.le_refl _) rfl
abbrev Y_X11_isDigit : zm_Y := (cX11_isDigit, 1, RX11, { frames := 0, cells := 0, slots := 0, locals := 0 }, (some .boolean), false, "isDigit")
noncomputable def f_X11_isDigit_b16  : Option Int32 :=
 some 0
noncomputable def f_X11_isDigit (a0 : Int32) (M : zm_Mem) : Option Int32 :=
  if a0 < (48 : Int32) then (f_X11_isDigit_b16) else (if (57 : Int32) < a0 then (f_X11_isDigit_b16) else (some 1))
set_option maxRecDepth 20000 in
set_option maxHeartbeats 4000000 in
theorem k_X11_isDigit (E : zm_E) (w : zm_W) (a0 : Int32) (M : zm_Mem) {r : Int32} (h : f_X11_isDigit a0 M = some r) : zm_Ct E w w yX11_isDigit Y_X11_isDigit [.int a0] M (some (.int r)) M := by
  refine zm_methr (emb := zm_ei) (d := f_X11_isDigit a0 M) (by decide) rfl rfl (Nat.le_of_ble_eq_true rfl) h (fun X => ?_)
  show zm_V X Y_X11_isDigit E (zm_Q X E Y_X11_isDigit.2.2.2.1.cells Y_X11_isDigit.2.2.2.1.slots w zm_ei) 0 0 false w 0 [(0, .int a0)] [] M (f_X11_isDigit a0 M) (fun r => some (r, M))
  unfold f_X11_isDigit
  refine zm_iload_n 1 rfl dX11_isDigit_0 rfl 0 rfl ?_
  refine zm_bipush 3 rfl dX11_isDigit_1 zb_48 ?_
  have hb16 : zm_V X Y_X11_isDigit E (zm_Q X E Y_X11_isDigit.2.2.2.1.cells Y_X11_isDigit.2.2.2.1.slots w zm_ei) 0 0 false w 16 [] [] M (f_X11_isDigit_b16) (fun r => some (r, M)) := by
    unfold f_X11_isDigit_b16
    refine zm_iconst 17 rfl dX11_isDigit_16 zi_0 ?_
    exact zm_zret dX11_isDigit_17 rfl rfl (Nat.le_refl _) (Nat.le_refl _) rfl
  refine zm_icmp_lt 16 6 (by decide) rfl dX11_isDigit_3 ?_ ?_
  · exact zm_loc [] rfl (hb16)
  · refine zm_iload_n 7 rfl dX11_isDigit_6 rfl 0 rfl ?_
    refine zm_bipush 9 rfl dX11_isDigit_7 zb_57 ?_
    refine zm_icmp_gt 16 12 (by decide) rfl dX11_isDigit_9 ?_ ?_
    · exact zm_loc [] rfl (hb16)
    · refine zm_iconst 13 rfl dX11_isDigit_12 zi_1 ?_
      refine zm_goto 17 (by decide) dX11_isDigit_13 ?_
      exact zm_zret dX11_isDigit_17 rfl rfl (Nat.le_refl _) (Nat.le_refl _) rfl
abbrev Y_X11_isLetter : zm_Y := (cX11_isLetter, 1, RX11, { frames := 0, cells := 0, slots := 0, locals := 0 }, (some .boolean), false, "isLetter")
noncomputable def f_X11_isLetter_b16  : Option Int32 :=
 some 0
noncomputable def f_X11_isLetter (a0 : Int32) (M : zm_Mem) : Option Int32 :=
  if a0 < (97 : Int32) then (f_X11_isLetter_b16) else (if (122 : Int32) < a0 then (f_X11_isLetter_b16) else (some 1))
set_option maxRecDepth 20000 in
set_option maxHeartbeats 4000000 in
theorem k_X11_isLetter (E : zm_E) (w : zm_W) (a0 : Int32) (M : zm_Mem) {r : Int32} (h : f_X11_isLetter a0 M = some r) : zm_Ct E w w yX11_isLetter Y_X11_isLetter [.int a0] M (some (.int r)) M := by
  refine zm_methr (emb := zm_ei) (d := f_X11_isLetter a0 M) (by decide) rfl rfl (Nat.le_of_ble_eq_true rfl) h (fun X => ?_)
  show zm_V X Y_X11_isLetter E (zm_Q X E Y_X11_isLetter.2.2.2.1.cells Y_X11_isLetter.2.2.2.1.slots w zm_ei) 0 0 false w 0 [(0, .int a0)] [] M (f_X11_isLetter a0 M) (fun r => some (r, M))
  unfold f_X11_isLetter
  refine zm_iload_n 1 rfl dX11_isLetter_0 rfl 0 rfl ?_
  refine zm_bipush 3 rfl dX11_isLetter_1 zb_97 ?_
  have hb16 : zm_V X Y_X11_isLetter E (zm_Q X E Y_X11_isLetter.2.2.2.1.cells Y_X11_isLetter.2.2.2.1.slots w zm_ei) 0 0 false w 16 [] [] M (f_X11_isLetter_b16) (fun r => some (r, M)) := by
    unfold f_X11_isLetter_b16
    refine zm_iconst 17 rfl dX11_isLetter_16 zi_0 ?_
    exact zm_zret dX11_isLetter_17 rfl rfl (Nat.le_refl _) (Nat.le_refl _) rfl
  refine zm_icmp_lt 16 6 (by decide) rfl dX11_isLetter_3 ?_ ?_
  · exact zm_loc [] rfl (hb16)
  · refine zm_iload_n 7 rfl dX11_isLetter_6 rfl 0 rfl ?_
    refine zm_bipush 9 rfl dX11_isLetter_7 zb_122 ?_
    refine zm_icmp_gt 16 12 (by decide) rfl dX11_isLetter_9 ?_ ?_
    · exact zm_loc [] rfl (hb16)
    · refine zm_iconst 13 rfl dX11_isLetter_12 zi_1 ?_
      refine zm_goto 17 (by decide) dX11_isLetter_13 ?_
      exact zm_zret dX11_isLetter_17 rfl rfl (Nat.le_refl _) (Nat.le_refl _) rfl
abbrev Y_X11_token : zm_Y := (cX11_token, 6, RX11, { frames := 0, cells := 0, slots := 0, locals := 0 }, none, false, "token")
noncomputable def f_X11_token (a1 : Int32) (a2 : Int32) (a3 : Int32) (a4 : Int64) (M : zm_Mem) : Option (Unit × zm_Mem) :=
  zm_ck (zm_in (M.1 52 10) 403) <| zm_v (zm_sI M 55 (M.1 52 10).toNatClampNeg a1) <| fun M9 => zm_ck (zm_in (M9.1 52 10) 403) <| zm_v (zm_sI M9 56 (M9.1 52 10).toNatClampNeg a2) <| fun M19 => zm_ck (zm_in (M19.1 52 10) 403) <| zm_v (zm_sI M19 57 (M19.1 52 10).toNatClampNeg a3) <| fun M29 => zm_ck (zm_in (M29.1 52 10) 403) <| zm_v (zm_sL M29 58 (M29.1 52 10).toNatClampNeg a4) <| fun M40 => zm_v (zm_sI M40 52 10 ((M40.1 52 10) + 1)) <| fun M48 => some ((), M48)
set_option maxRecDepth 20000 in
set_option maxHeartbeats 4000000 in
theorem k_X11_token (E : zm_E) (sv : Nat) (a1 : Int32) (a2 : Int32) (a3 : Int32) (a4 : Int64) (M : zm_Mem) {r : Unit} {M' : zm_Mem} (h : f_X11_token a1 a2 a3 a4 M = some (r, M')) : zm_Ct E (zm_w sv) (zm_w sv) yX11_token Y_X11_token [.ref (E.2.1 + 52), .int a1, .int a2, .int a3, .long a4] M none M' := by
  refine zm_meth (emb := zm_ev) (d := f_X11_token a1 a2 a3 a4 M) (by decide) rfl rfl (Nat.le_of_ble_eq_true rfl) h (fun X => ?_)
  show zm_V X Y_X11_token E (zm_Q X E Y_X11_token.2.2.2.1.cells Y_X11_token.2.2.2.1.slots (zm_w sv) zm_ev) 0 0 false (zm_w sv) 0 [(0, .ref (E.2.1 + 52)), (1, .int a1), (2, .int a2), (3, .int a3), (4, .long a4)] [] M (f_X11_token a1 a2 a3 a4 M) some
  unfold f_X11_token
  refine zm_aload_n 1 rfl dX11_token_0 rfl 0 rfl ?_
  refine zm_getR (a := 55) 4 rfl dX11_token_1 fl_X11_20 rfl (zm_L (sv := sv) rfl) rfl (by decide) ?_
  refine zm_aload_n 5 rfl dX11_token_4 rfl 0 rfl ?_
  refine zm_getI 8 rfl dX11_token_5 fl_X11_199 rfl (zm_L (sv := sv) rfl) ?_
  refine zm_iload_n 9 rfl dX11_token_8 rfl 1 rfl ?_
  refine zm_iast 10 rfl dX11_token_9 rfl (zm_L (sv := sv) rfl) (fun M9 _ => ?_)
  refine zm_aload_n 11 rfl dX11_token_10 rfl 0 rfl ?_
  refine zm_getR (a := 56) 14 rfl dX11_token_11 fl_X11_24 rfl (zm_L (sv := sv) rfl) rfl (by decide) ?_
  refine zm_aload_n 15 rfl dX11_token_14 rfl 0 rfl ?_
  refine zm_getI 18 rfl dX11_token_15 fl_X11_199 rfl (zm_L (sv := sv) rfl) ?_
  refine zm_iload_n 19 rfl dX11_token_18 rfl 2 rfl ?_
  refine zm_iast 20 rfl dX11_token_19 rfl (zm_L (sv := sv) rfl) (fun M19 _ => ?_)
  refine zm_aload_n 21 rfl dX11_token_20 rfl 0 rfl ?_
  refine zm_getR (a := 57) 24 rfl dX11_token_21 fl_X11_27 rfl (zm_L (sv := sv) rfl) rfl (by decide) ?_
  refine zm_aload_n 25 rfl dX11_token_24 rfl 0 rfl ?_
  refine zm_getI 28 rfl dX11_token_25 fl_X11_199 rfl (zm_L (sv := sv) rfl) ?_
  refine zm_iload_n 29 rfl dX11_token_28 rfl 3 rfl ?_
  refine zm_iast 30 rfl dX11_token_29 rfl (zm_L (sv := sv) rfl) (fun M29 _ => ?_)
  refine zm_aload_n 31 rfl dX11_token_30 rfl 0 rfl ?_
  refine zm_getR (a := 58) 34 rfl dX11_token_31 fl_X11_30 rfl (zm_L (sv := sv) rfl) rfl (by decide) ?_
  refine zm_aload_n 35 rfl dX11_token_34 rfl 0 rfl ?_
  refine zm_getI 38 rfl dX11_token_35 fl_X11_199 rfl (zm_L (sv := sv) rfl) ?_
  refine zm_lload 40 rfl dX11_token_38 4 rfl ?_
  refine zm_last 41 rfl dX11_token_40 rfl (zm_L (sv := sv) rfl) (fun M40 _ => ?_)
  refine zm_aload_n 42 rfl dX11_token_41 rfl 0 rfl ?_
  refine zm_dup 43 rfl dX11_token_42 rfl ?_
  refine zm_getI 46 rfl dX11_token_43 fl_X11_199 rfl (zm_L (sv := sv) rfl) ?_
  refine zm_iconst 47 rfl dX11_token_46 zi_1 ?_
  refine zm_iadd 48 rfl dX11_token_47 ?_
  refine zm_putI 51 rfl dX11_token_48 fp_X11_199 rfl (zm_L (sv := sv) rfl) rfl rfl (fun M48 _ => ?_)
  exact zm_vret dX11_token_51 rfl (Nat.le_refl _) (Nat.le_refl _) rfl
abbrev Y_X11_sign : zm_Y := (cX11_sign, 5, RX11, { frames := 1, cells := 0, slots := 0, locals := 25 }, (some .int), false, "sign")
noncomputable def f_X11_sign_b95 (a1 : Int32) (M : zm_Mem) (b95_4 : Int32) : Option (Int32 × zm_Mem) :=
 zm_b2 (f_X11_token b95_4 a1 0 0 M) <| fun _ M101 => some (1, M101)
noncomputable def f_X11_sign_b85 (a1 : Int32) (a2 : Int32) (M : zm_Mem) (b85_4 : Int32) : Option (Int32 × zm_Mem) :=
 if a2 = (60 : Int32) then (f_X11_sign_b95 a1 M 13) else (f_X11_sign_b95 a1 M b85_4)
noncomputable def f_X11_sign_b75 (a1 : Int32) (a2 : Int32) (M : zm_Mem) (b75_4 : Int32) : Option (Int32 × zm_Mem) :=
 if a2 = (47 : Int32) then (f_X11_sign_b85 a1 a2 M 15) else (f_X11_sign_b85 a1 a2 M b75_4)
noncomputable def f_X11_sign_b65 (a1 : Int32) (a2 : Int32) (M : zm_Mem) (b65_4 : Int32) : Option (Int32 × zm_Mem) :=
 if a2 = (42 : Int32) then (f_X11_sign_b75 a1 a2 M 10) else (f_X11_sign_b75 a1 a2 M b65_4)
noncomputable def f_X11_sign_b55 (a1 : Int32) (a2 : Int32) (M : zm_Mem) (b55_4 : Int32) : Option (Int32 × zm_Mem) :=
 if a2 = (45 : Int32) then (f_X11_sign_b65 a1 a2 M 9) else (f_X11_sign_b65 a1 a2 M b55_4)
noncomputable def f_X11_sign_b43 (a1 : Int32) (a2 : Int32) (M : zm_Mem) (b43_s0 : Int32) : Option (Int32 × zm_Mem) :=
 if a2 = (43 : Int32) then (f_X11_sign_b55 a1 a2 M 8) else (f_X11_sign_b55 a1 a2 M b43_s0)
noncomputable def f_X11_sign (a1 : Int32) (a2 : Int32) (a3 : Int32) (M : zm_Mem) : Option (Int32 × zm_Mem) :=
  if a2 = (59 : Int32) then (f_X11_sign_b43 a1 a2 M 4) else (if a2 = (61 : Int32) then (f_X11_sign_b43 a1 a2 M 5) else (if a2 = (40 : Int32) then (f_X11_sign_b43 a1 a2 M 6) else (if a2 = (41 : Int32) then (f_X11_sign_b43 a1 a2 M 7) else (f_X11_sign_b43 a1 a2 M 3))))
set_option maxRecDepth 20000 in
set_option maxHeartbeats 4000000 in
theorem k_X11_sign (E : zm_E) (sv : Nat) (a1 : Int32) (a2 : Int32) (a3 : Int32) (M : zm_Mem) {r : Int32} {M' : zm_Mem} (h : f_X11_sign a1 a2 a3 M = some (r, M')) : zm_Ct E (zm_w sv) (zm_w sv) yX11_sign Y_X11_sign [.ref (E.2.1 + 52), .int a1, .int a2, .int a3] M (some (.int r)) M' := by
  refine zm_meth (emb := zm_ei) (d := f_X11_sign a1 a2 a3 M) (by decide) rfl rfl (Nat.le_of_ble_eq_true rfl) h (fun X => ?_)
  show zm_V X Y_X11_sign E (zm_Q X E Y_X11_sign.2.2.2.1.cells Y_X11_sign.2.2.2.1.slots (zm_w sv) zm_ei) 0 0 false (zm_w sv) 0 [(0, .ref (E.2.1 + 52)), (1, .int a1), (2, .int a2), (3, .int a3)] [] M (f_X11_sign a1 a2 a3 M) some
  unfold f_X11_sign
  refine zm_iload_n 1 rfl dX11_sign_0 rfl 2 rfl ?_
  refine zm_bipush 3 rfl dX11_sign_1 zb_59 ?_
  have hb43 : ∀ (b43_s0 : Int32), zm_V X Y_X11_sign E (zm_Q X E Y_X11_sign.2.2.2.1.cells Y_X11_sign.2.2.2.1.slots (zm_w sv) zm_ei) 0 0 false (zm_w sv) 43 [(0, .ref (E.2.1 + 52)), (1, .int a1), (2, .int a2)] [.int b43_s0] M (f_X11_sign_b43 a1 a2 M b43_s0) some := by
    intro b43_s0
    unfold f_X11_sign_b43
    refine zm_istore (lv' := [(4, .int b43_s0), (0, .ref (E.2.1 + 52)), (1, .int a1), (2, .int a2)]) 45 rfl dX11_sign_43 (by decide) rfl ?_
    refine zm_iload_n 46 rfl dX11_sign_45 rfl 3 rfl ?_
    refine zm_bipush 48 rfl dX11_sign_46 zb_43 ?_
    have hb55 : ∀ (b55_4 : Int32), zm_V X Y_X11_sign E (zm_Q X E Y_X11_sign.2.2.2.1.cells Y_X11_sign.2.2.2.1.slots (zm_w sv) zm_ei) 0 0 false (zm_w sv) 55 [(0, .ref (E.2.1 + 52)), (1, .int a1), (2, .int a2), (4, .int b55_4)] [] M (f_X11_sign_b55 a1 a2 M b55_4) some := by
      intro b55_4
      unfold f_X11_sign_b55
      refine zm_iload_n 56 rfl dX11_sign_55 rfl 2 rfl ?_
      refine zm_bipush 58 rfl dX11_sign_56 zb_45 ?_
      have hb65 : ∀ (b65_4 : Int32), zm_V X Y_X11_sign E (zm_Q X E Y_X11_sign.2.2.2.1.cells Y_X11_sign.2.2.2.1.slots (zm_w sv) zm_ei) 0 0 false (zm_w sv) 65 [(0, .ref (E.2.1 + 52)), (1, .int a1), (2, .int a2), (4, .int b65_4)] [] M (f_X11_sign_b65 a1 a2 M b65_4) some := by
        intro b65_4
        unfold f_X11_sign_b65
        refine zm_iload_n 66 rfl dX11_sign_65 rfl 2 rfl ?_
        refine zm_bipush 68 rfl dX11_sign_66 zb_42 ?_
        have hb75 : ∀ (b75_4 : Int32), zm_V X Y_X11_sign E (zm_Q X E Y_X11_sign.2.2.2.1.cells Y_X11_sign.2.2.2.1.slots (zm_w sv) zm_ei) 0 0 false (zm_w sv) 75 [(0, .ref (E.2.1 + 52)), (1, .int a1), (2, .int a2), (4, .int b75_4)] [] M (f_X11_sign_b75 a1 a2 M b75_4) some := by
          intro b75_4
          unfold f_X11_sign_b75
          refine zm_iload_n 76 rfl dX11_sign_75 rfl 2 rfl ?_
          refine zm_bipush 78 rfl dX11_sign_76 zb_47 ?_
          have hb85 : ∀ (b85_4 : Int32), zm_V X Y_X11_sign E (zm_Q X E Y_X11_sign.2.2.2.1.cells Y_X11_sign.2.2.2.1.slots (zm_w sv) zm_ei) 0 0 false (zm_w sv) 85 [(0, .ref (E.2.1 + 52)), (1, .int a1), (2, .int a2), (4, .int b85_4)] [] M (f_X11_sign_b85 a1 a2 M b85_4) some := by
            intro b85_4
            unfold f_X11_sign_b85
            refine zm_iload_n 86 rfl dX11_sign_85 rfl 2 rfl ?_
            refine zm_bipush 88 rfl dX11_sign_86 zb_60 ?_
            have hb95 : ∀ (b95_4 : Int32), zm_V X Y_X11_sign E (zm_Q X E Y_X11_sign.2.2.2.1.cells Y_X11_sign.2.2.2.1.slots (zm_w sv) zm_ei) 0 0 false (zm_w sv) 95 [(0, .ref (E.2.1 + 52)), (1, .int a1), (4, .int b95_4)] [] M (f_X11_sign_b95 a1 M b95_4) some := by
              intro b95_4
              unfold f_X11_sign_b95
              refine zm_aload_n 96 rfl dX11_sign_95 rfl 0 rfl ?_
              refine zm_iload 98 rfl dX11_sign_96 2 rfl ?_
              refine zm_iload_n 99 rfl dX11_sign_98 rfl 1 rfl ?_
              refine zm_iconst 100 rfl dX11_sign_99 zi_0 ?_
              refine zm_lconst 101 rfl dX11_sign_100 rfl ?_
              refine zm_cV4v 104 rfl dX11_sign_101 ml_X11_206 rfl (zm_L (sv := sv) rfl) rfl (Nat.le_of_ble_eq_true rfl) ⟨Nat.le_of_ble_eq_true rfl, Nat.le_of_ble_eq_true rfl⟩ rfl rfl ⟨Nat.le_refl _, Nat.le_refl _⟩ rfl (fun _ _ h => k_X11_token E sv b95_4 a1 0 0 M h) (fun _ M101 => ?_)
              refine zm_iconst 105 rfl dX11_sign_104 zi_1 ?_
              exact zm_iret dX11_sign_105 rfl (Nat.le_refl _) (Nat.le_refl _) rfl
            refine zm_icmp_ne 95 91 (by decide) rfl dX11_sign_88 ?_ ?_
            · refine zm_bipush 93 rfl dX11_sign_91 zb_13 ?_
              refine zm_istore (lv' := [(4, .int 13), (0, .ref (E.2.1 + 52)), (1, .int a1), (2, .int a2)]) 95 rfl dX11_sign_93 (by decide) rfl ?_
              exact zm_loc [1, 2, 0] rfl (hb95 13)
            · exact zm_loc [0, 1, 3] rfl (hb95 b85_4)
          refine zm_icmp_ne 85 81 (by decide) rfl dX11_sign_78 ?_ ?_
          · refine zm_bipush 83 rfl dX11_sign_81 zb_15 ?_
            refine zm_istore (lv' := [(4, .int 15), (0, .ref (E.2.1 + 52)), (1, .int a1), (2, .int a2)]) 85 rfl dX11_sign_83 (by decide) rfl ?_
            exact zm_loc [1, 2, 3, 0] rfl (hb85 15)
          · exact zm_loc [0, 1, 2, 3] rfl (hb85 b75_4)
        refine zm_icmp_ne 75 71 (by decide) rfl dX11_sign_68 ?_ ?_
        · refine zm_bipush 73 rfl dX11_sign_71 zb_10 ?_
          refine zm_istore (lv' := [(4, .int 10), (0, .ref (E.2.1 + 52)), (1, .int a1), (2, .int a2)]) 75 rfl dX11_sign_73 (by decide) rfl ?_
          exact zm_loc [1, 2, 3, 0] rfl (hb75 10)
        · exact zm_loc [0, 1, 2, 3] rfl (hb75 b65_4)
      refine zm_icmp_ne 65 61 (by decide) rfl dX11_sign_58 ?_ ?_
      · refine zm_bipush 63 rfl dX11_sign_61 zb_9 ?_
        refine zm_istore (lv' := [(4, .int 9), (0, .ref (E.2.1 + 52)), (1, .int a1), (2, .int a2)]) 65 rfl dX11_sign_63 (by decide) rfl ?_
        exact zm_loc [1, 2, 3, 0] rfl (hb65 9)
      · exact zm_loc [0, 1, 2, 3] rfl (hb65 b55_4)
    refine zm_icmp_ne 55 51 (by decide) rfl dX11_sign_48 ?_ ?_
    · refine zm_bipush 53 rfl dX11_sign_51 zb_8 ?_
      refine zm_istore (lv' := [(4, .int 8), (0, .ref (E.2.1 + 52)), (1, .int a1), (2, .int a2)]) 55 rfl dX11_sign_53 (by decide) rfl ?_
      exact zm_loc [1, 2, 3, 0] rfl (hb55 8)
    · exact zm_loc [1, 2, 3, 0] rfl (hb55 b43_s0)
  refine zm_icmp_ne 10 6 (by decide) rfl dX11_sign_3 ?_ ?_
  · refine zm_iconst 7 rfl dX11_sign_6 zi_4 ?_
    refine zm_goto 43 (by decide) dX11_sign_7 ?_
    exact zm_loc [0, 1, 2] rfl (hb43 4)
  · refine zm_iload_n 11 rfl dX11_sign_10 rfl 2 rfl ?_
    refine zm_bipush 13 rfl dX11_sign_11 zb_61 ?_
    refine zm_icmp_ne 20 16 (by decide) rfl dX11_sign_13 ?_ ?_
    · refine zm_iconst 17 rfl dX11_sign_16 zi_5 ?_
      refine zm_goto 43 (by decide) dX11_sign_17 ?_
      exact zm_loc [0, 1, 2] rfl (hb43 5)
    · refine zm_iload_n 21 rfl dX11_sign_20 rfl 2 rfl ?_
      refine zm_bipush 23 rfl dX11_sign_21 zb_40 ?_
      refine zm_icmp_ne 31 26 (by decide) rfl dX11_sign_23 ?_ ?_
      · refine zm_bipush 28 rfl dX11_sign_26 zb_6 ?_
        refine zm_goto 43 (by decide) dX11_sign_28 ?_
        exact zm_loc [0, 1, 2] rfl (hb43 6)
      · refine zm_iload_n 32 rfl dX11_sign_31 rfl 2 rfl ?_
        refine zm_bipush 34 rfl dX11_sign_32 zb_41 ?_
        refine zm_icmp_ne 42 37 (by decide) rfl dX11_sign_34 ?_ ?_
        · refine zm_bipush 39 rfl dX11_sign_37 zb_7 ?_
          refine zm_goto 43 (by decide) dX11_sign_39 ?_
          exact zm_loc [0, 1, 2] rfl (hb43 7)
        · refine zm_iconst 43 rfl dX11_sign_42 zi_3 ?_
          exact zm_loc [0, 1, 2] rfl (hb43 3)
abbrev Y_X11_cut : zm_Y := (cX11_cut, 8, RX11, { frames := 2, cells := 0, slots := 0, locals := 49 }, none, false, "cut")
noncomputable def f_X11_cut_x31_7 (N31 : zm_Mem) : Option (Unit × zm_Mem) :=
 zm_b2 (f_X11_token 0 (N31.1 52 4) 0 0 N31) <| fun _ M39 => some ((), M39)
noncomputable def f_X11_cut_b291_7 (b291_1 : Int32) (M291 : zm_Mem) : Option ((Int32 × zm_Mem) ⊕ (zm_Mem ⊕ zm_Mem)) :=
 some (.inl (b291_1, M291))
noncomputable def f_X11_cut_b67_7 (l7_1 : Int32) (L7 : zm_Mem) : Option ((Int32 × zm_Mem) ⊕ (zm_Mem ⊕ zm_Mem)) :=
 zm_v (l7_1 + 1) <| fun x67 => f_X11_cut_b291_7 x67 L7
noncomputable def f_X11_cut_b261_7 (l7_1 : Int32) (L7 : zm_Mem) (e250_3 : Int32) (e250_4 : Int32) (b261_s1 : Int32) : Option ((Int32 × zm_Mem) ⊕ (zm_Mem ⊕ zm_Mem)) :=
 zm_b2 (f_X11_token b261_s1 l7_1 e250_4 0 L7) <| fun _ M265 => zm_v (l7_1 + e250_3) <| fun x271 => f_X11_cut_b291_7 x271 M265
noncomputable def f_X11_cut_x250_208_7 (l7_1 : Int32) (L7 : zm_Mem) (e250_3 : Int32) (e250_4 : Int32) : Option ((Int32 × zm_Mem) ⊕ (zm_Mem ⊕ zm_Mem)) :=
 if e250_3 ≤ (4 : Int32) then (f_X11_cut_b261_7 l7_1 L7 e250_3 e250_4 2) else (f_X11_cut_b261_7 l7_1 L7 e250_3 e250_4 3)
noncomputable def f_X11_cut_b244_208_7 (l208_3 : Int32) (b244_4 : Int32) : Option ((Int32 × Int32) ⊕ (Int32 × Int32)) :=
 zm_v (l208_3 + 1) <| fun x244 => some (.inl (x244, b244_4))
noncomputable def f_X11_cut_l208_7 (l7_1 : Int32) (L7 : zm_Mem) (l208_3 : Int32) (l208_4 : Int32) : Option ((Int32 × Int32) ⊕ (Int32 × Int32)) :=
 zm_b1 (f_X11_byteAt (l7_1 + l208_3) L7) <| fun r212 => zm_b1 (f_X11_isDigit r212 L7) <| fun r215 => if r215 = 0 then (some (.inr (l208_3, l208_4))) else (if (4 : Int32) ≤ l208_3 then (f_X11_cut_b244_208_7 l208_3 l208_4) else (zm_b1 (f_X11_byteAt (l7_1 + l208_3) L7) <| fun r235 => zm_v (((10 * l208_4) + r235) - 48) <| fun x242 => f_X11_cut_b244_208_7 l208_3 x242))
noncomputable def f_X11_cut_b179_7 (l7_1 : Int32) (L7 : zm_Mem) (e124_3 : Int32) (e124_4 : Int64) (b179_6 : Int32) : Option ((Int32 × zm_Mem) ⊕ (zm_Mem ⊕ zm_Mem)) :=
 zm_b2 (f_X11_token b179_6 l7_1 0 e124_4 L7) <| fun _ M186 => zm_v (l7_1 + e124_3) <| fun x192 => f_X11_cut_b291_7 x192 M186
noncomputable def f_X11_cut_b173_146_7 (l146_7 : Int32) (b173_6 : Int32) : Option ((Int32 × Int32) ⊕ Int32) :=
 zm_v (l146_7 + 1) <| fun x173 => some (.inl (b173_6, x173))
noncomputable def f_X11_cut_l146_7 (L7 : zm_Mem) (e124_4 : Int64) (l146_6 : Int32) (l146_7 : Int32) : Option ((Int32 × Int32) ⊕ Int32) :=
 if (20 : Int32) ≤ l146_7 then (some (.inr l146_6)) else (zm_ck (zm_in l146_7 20) <| if (lg_cmp (L7.2.1 59 l146_7.toNatClampNeg) e124_4) = 0 then (zm_v (20 + l146_7) <| fun x171 => f_X11_cut_b173_146_7 l146_7 x171) else (f_X11_cut_b173_146_7 l146_7 l146_6))
noncomputable def f_X11_cut_b135_7 (l7_1 : Int32) (L7 : zm_Mem) (e124_3 : Int32) (e124_4 : Int64) (b135_s0 : Int32) : Option ((Int32 × zm_Mem) ⊕ (zm_Mem ⊕ zm_Mem)) :=
 if (8 : Int32) < e124_3 then (f_X11_cut_b179_7 l7_1 L7 e124_3 e124_4 b135_s0) else ((zm_lp (fun s => f_X11_cut_l146_7 L7 e124_4 s.1 s.2) (b135_s0, 0)).bind (fun e179 => f_X11_cut_b179_7 l7_1 L7 e124_3 e124_4 e179))
noncomputable def f_X11_cut_x124_85_7 (l7_1 : Int32) (L7 : zm_Mem) (e124_3 : Int32) (e124_4 : Int64) : Option ((Int32 × zm_Mem) ⊕ (zm_Mem ⊕ zm_Mem)) :=
 if e124_3 ≤ (8 : Int32) then (f_X11_cut_b135_7 l7_1 L7 e124_3 e124_4 1) else (f_X11_cut_b135_7 l7_1 L7 e124_3 e124_4 3)
noncomputable def f_X11_cut_b118_85_7 (l85_3 : Int32) (b118_4 : Int64) : Option ((Int32 × Int64) ⊕ (Int32 × Int64)) :=
 zm_v (l85_3 + 1) <| fun x118 => some (.inl (x118, b118_4))
noncomputable def f_X11_cut_l85_7 (l7_1 : Int32) (L7 : zm_Mem) (l85_3 : Int32) (l85_4 : Int64) : Option ((Int32 × Int64) ⊕ (Int32 × Int64)) :=
 zm_b1 (f_X11_byteAt (l7_1 + l85_3) L7) <| fun r89 => zm_b1 (f_X11_isLetter r89 L7) <| fun r92 => if r92 = 0 then (some (.inr (l85_3, l85_4))) else (if (8 : Int32) ≤ l85_3 then (f_X11_cut_b118_85_7 l85_3 l85_4) else (zm_b1 (f_X11_byteAt (l7_1 + l85_3) L7) <| fun r110 => zm_b1 (f_X11_appends l85_4 r110 L7) <| fun r113 => f_X11_cut_b118_85_7 l85_3 r113))
noncomputable def f_X11_cut_l7 (l7_1 : Int32) (L7 : zm_Mem) : Option ((Int32 × zm_Mem) ⊕ (zm_Mem ⊕ zm_Mem)) :=
 if (400 : Int32) < (L7.1 52 10) then (some (.inr (.inr L7))) else (zm_b1 (f_X11_byteAt l7_1 L7) <| fun r19 => if l7_1 < (L7.1 52 4) then (if r19 = (9 : Int32) then (f_X11_cut_b67_7 l7_1 L7) else (if r19 = (10 : Int32) then (f_X11_cut_b67_7 l7_1 L7) else (if r19 = (13 : Int32) then (f_X11_cut_b67_7 l7_1 L7) else (if r19 = (32 : Int32) then (f_X11_cut_b67_7 l7_1 L7) else (zm_b1 (f_X11_isLetter r19 L7) <| fun r74 => if r74 = 0 then (zm_b1 (f_X11_isDigit r19 L7) <| fun r197 => if r197 = 0 then (zm_b1 (f_X11_byteAt (l7_1 + 1) L7) <| fun r283 => zm_b2 (f_X11_sign l7_1 r19 r283 L7) <| fun r286 M286 => zm_v (l7_1 + r286) <| fun x290 => f_X11_cut_b291_7 x290 M286) else ((zm_lp (fun s => f_X11_cut_l208_7 l7_1 L7 s.1 s.2) (0, 0)).bind (fun e250 => f_X11_cut_x250_208_7 l7_1 L7 e250.1 e250.2))) else ((zm_lp (fun s => f_X11_cut_l85_7 l7_1 L7 s.1 s.2) (0, 0)).bind (fun e124 => f_X11_cut_x124_85_7 l7_1 L7 e124.1 e124.2))))))) else (some (.inr (.inl L7))))
noncomputable def f_X11_cut  (M : zm_Mem) : Option (Unit × zm_Mem) :=
  zm_v (zm_sI M 52 10 0) <| fun M2 => (zm_lp (fun s => f_X11_cut_l7 s.1 s.2) (0, M2)).bind (Sum.elim (fun e31 => f_X11_cut_x31_7 e31) (fun e294 => some ((), e294)))
set_option maxRecDepth 20000 in
set_option maxHeartbeats 4000000 in
theorem k_X11_cut (E : zm_E) (sv : Nat)  (M : zm_Mem) {r : Unit} {M' : zm_Mem} (h : f_X11_cut M = some (r, M')) : zm_Ct E (zm_w sv) (zm_w sv) yX11_cut Y_X11_cut [.ref (E.2.1 + 52)] M none M' := by
  refine zm_meth (emb := zm_ev) (d := f_X11_cut M) (by decide) rfl rfl (Nat.le_of_ble_eq_true rfl) h (fun X => ?_)
  show zm_V X Y_X11_cut E (zm_Q X E Y_X11_cut.2.2.2.1.cells Y_X11_cut.2.2.2.1.slots (zm_w sv) zm_ev) 0 0 false (zm_w sv) 0 [(0, .ref (E.2.1 + 52))] [] M (f_X11_cut M) some
  unfold f_X11_cut
  refine zm_aload_n 1 rfl dX11_cut_0 rfl 0 rfl ?_
  refine zm_iconst 2 rfl dX11_cut_1 zi_0 ?_
  refine zm_putI 5 rfl dX11_cut_2 fp_X11_199 rfl (zm_L (sv := sv) rfl) rfl rfl (fun M2 _ => ?_)
  refine zm_iconst 6 rfl dX11_cut_5 zi_0 ?_
  refine zm_istore_n (lv' := [(1, .int 0), (0, .ref (E.2.1 + 52))]) 7 rfl dX11_cut_6 rfl (by decide) rfl ?_
  have hx31_7 : ∀ (N31 : zm_Mem), zm_V X Y_X11_cut E (zm_Q X E Y_X11_cut.2.2.2.1.cells Y_X11_cut.2.2.2.1.slots (zm_w sv) zm_ev) 0 0 false (zm_w sv) 31 [(0, .ref (E.2.1 + 52))] [] N31 (f_X11_cut_x31_7 N31) some := by
    intro N31
    unfold f_X11_cut_x31_7
    refine zm_aload_n 32 rfl dX11_cut_31 rfl 0 rfl ?_
    refine zm_iconst 33 rfl dX11_cut_32 zi_0 ?_
    refine zm_aload_n 34 rfl dX11_cut_33 rfl 0 rfl ?_
    refine zm_getI 37 rfl dX11_cut_34 fl_X11_194 rfl (zm_L (sv := sv) rfl) ?_
    refine zm_iconst 38 rfl dX11_cut_37 zi_0 ?_
    refine zm_lconst 39 rfl dX11_cut_38 rfl ?_
    refine zm_cV4v 42 rfl dX11_cut_39 ml_X11_206 rfl (zm_L (sv := sv) rfl) rfl (Nat.le_of_ble_eq_true rfl) ⟨Nat.le_of_ble_eq_true rfl, Nat.le_of_ble_eq_true rfl⟩ rfl rfl ⟨Nat.le_refl _, Nat.le_refl _⟩ rfl (fun _ _ h => k_X11_token E sv 0 (N31.1 52 4) 0 0 N31 h) (fun _ M39 => ?_)
    exact zm_vret dX11_cut_42 rfl (Nat.le_refl _) (Nat.le_refl _) rfl
  have hx294_7 : ∀ (N294 : zm_Mem), zm_V X Y_X11_cut E (zm_Q X E Y_X11_cut.2.2.2.1.cells Y_X11_cut.2.2.2.1.slots (zm_w sv) zm_ev) 0 0 false (zm_w sv) 294 [] [] N294 (some ((), N294)) some := by
    intro N294
    exact zm_vret dX11_cut_294 rfl (Nat.le_refl _) (Nat.le_refl _) rfl
  refine zm_loc [1, 0] rfl (zm_lpp (σ := (Int32 × zm_Mem)) (ε := (zm_Mem ⊕ zm_Mem)) (step := fun s => f_X11_cut_l7 s.1 s.2) (fun s => [(0, .ref (E.2.1 + 52)), (1, .int s.1)]) (fun s => s.2) (fun D7 f7 hf7a hf7b hD7 s => ?_) (0, M2))
  obtain ⟨l7_1, L7⟩ := s
  show zm_V X Y_X11_cut E (zm_Q X E Y_X11_cut.2.2.2.1.cells Y_X11_cut.2.2.2.1.slots (zm_w sv) zm_ev) 0 0 false (zm_w sv) 7 [(0, .ref (E.2.1 + 52)), (1, .int l7_1)] [] L7 (f_X11_cut_l7 l7_1 L7) f7
  unfold f_X11_cut_l7
  refine zm_aload_n 8 rfl dX11_cut_7 rfl 0 rfl ?_
  refine zm_getI 11 rfl dX11_cut_8 fl_X11_199 rfl (zm_L (sv := sv) rfl) ?_
  refine zm_sipush 14 rfl dX11_cut_11 zs_400 ?_
  refine zm_icmp_gt 294 17 (by decide) rfl dX11_cut_14 ?_ ?_
  · exact zm_loc [] rfl (zm_go (hf7b _) (zm_unb (hx294_7 L7)))
  · refine zm_aload_n 18 rfl dX11_cut_17 rfl 0 rfl ?_
    refine zm_iload_n 19 rfl dX11_cut_18 rfl 1 rfl ?_
    refine zm_cV1ir 22 rfl dX11_cut_19 ml_X11_202 rfl (zm_L (sv := sv) rfl) rfl (Nat.le_of_ble_eq_true rfl) ⟨Nat.le_of_ble_eq_true rfl, Nat.le_of_ble_eq_true rfl⟩ rfl rfl ⟨Nat.le_refl _, Nat.le_refl _⟩ rfl (fun _ h => k_X11_byteAt E sv l7_1 L7 h) (fun r19 => ?_)
    refine zm_istore_n (lv' := [(2, .int r19), (0, .ref (E.2.1 + 52)), (1, .int l7_1)]) 23 rfl dX11_cut_22 rfl (by decide) rfl ?_
    refine zm_iload_n 24 rfl dX11_cut_23 rfl 2 rfl ?_
    refine zm_aload_n 25 rfl dX11_cut_24 rfl 1 rfl ?_
    refine zm_getI 28 rfl dX11_cut_25 fl_X11_194 rfl (zm_L (sv := sv) rfl) ?_
    refine zm_icmp_lt 43 31 (by decide) rfl dX11_cut_28 ?_ ?_
    · refine zm_iload_n 44 rfl dX11_cut_43 rfl 0 rfl ?_
      refine zm_bipush 46 rfl dX11_cut_44 zb_9 ?_
      have hb291_7 : ∀ (b291_1 : Int32) (M291 : zm_Mem), zm_V X Y_X11_cut E (zm_Q X E Y_X11_cut.2.2.2.1.cells Y_X11_cut.2.2.2.1.slots (zm_w sv) zm_ev) 0 0 false (zm_w sv) 291 [(0, .ref (E.2.1 + 52)), (1, .int b291_1)] [] M291 (f_X11_cut_b291_7 b291_1 M291) f7 := by
        intro b291_1 M291
        unfold f_X11_cut_b291_7
        refine zm_goto 7 (by decide) dX11_cut_291 ?_
        exact zm_loc [0, 1] rfl (zm_go (hf7a _) (hD7 (b291_1, M291)))
      have hb67_7 : zm_V X Y_X11_cut E (zm_Q X E Y_X11_cut.2.2.2.1.cells Y_X11_cut.2.2.2.1.slots (zm_w sv) zm_ev) 0 0 false (zm_w sv) 67 [(0, .ref (E.2.1 + 52)), (1, .int l7_1)] [] L7 (f_X11_cut_b67_7 l7_1 L7) f7 := by
        unfold f_X11_cut_b67_7
        refine zm_iinc (lv' := fun z => [(1, .int z), (0, .ref (E.2.1 + 52))]) 70 rfl dX11_cut_67 zi_1 1 rfl (by decide) (fun _ => rfl) (fun x67 _ => ?_)
        refine zm_goto 291 (by decide) dX11_cut_70 ?_
        exact zm_loc [1, 0] rfl (hb291_7 x67 L7)
      refine zm_icmp_eq 67 49 (by decide) rfl dX11_cut_46 ?_ ?_
      · exact zm_loc [1, 2] rfl (hb67_7)
      · refine zm_iload_n 50 rfl dX11_cut_49 rfl 0 rfl ?_
        refine zm_bipush 52 rfl dX11_cut_50 zb_10 ?_
        refine zm_icmp_eq 67 55 (by decide) rfl dX11_cut_52 ?_ ?_
        · exact zm_loc [1, 2] rfl (hb67_7)
        · refine zm_iload_n 56 rfl dX11_cut_55 rfl 0 rfl ?_
          refine zm_bipush 58 rfl dX11_cut_56 zb_13 ?_
          refine zm_icmp_eq 67 61 (by decide) rfl dX11_cut_58 ?_ ?_
          · exact zm_loc [1, 2] rfl (hb67_7)
          · refine zm_iload_n 62 rfl dX11_cut_61 rfl 0 rfl ?_
            refine zm_bipush 64 rfl dX11_cut_62 zb_32 ?_
            refine zm_icmp_ne 73 67 (by decide) rfl dX11_cut_64 ?_ ?_
            · exact zm_loc [1, 2] rfl (hb67_7)
            · refine zm_iload_n 74 rfl dX11_cut_73 rfl 0 rfl ?_
              refine zm_cS1ir 77 rfl dX11_cut_74 ml_X11_210 (Nat.le_of_ble_eq_true rfl) ⟨Nat.le_of_ble_eq_true rfl, Nat.le_of_ble_eq_true rfl⟩ rfl rfl ⟨Nat.le_refl _, Nat.le_refl _⟩ rfl (fun _ h => k_X11_isLetter E (zm_w sv) r19 L7 h) (fun r74 => ?_)
              refine zm_if_eq 196 80 (by decide) rfl dX11_cut_77 ?_ ?_
              · refine zm_iload_n 197 rfl dX11_cut_196 rfl 0 rfl ?_
                refine zm_cS1ir 200 rfl dX11_cut_197 ml_X11_214 (Nat.le_of_ble_eq_true rfl) ⟨Nat.le_of_ble_eq_true rfl, Nat.le_of_ble_eq_true rfl⟩ rfl rfl ⟨Nat.le_refl _, Nat.le_refl _⟩ rfl (fun _ h => k_X11_isDigit E (zm_w sv) r19 L7 h) (fun r197 => ?_)
                refine zm_if_eq 275 203 (by decide) rfl dX11_cut_200 ?_ ?_
                · refine zm_iload_n 276 rfl dX11_cut_275 rfl 2 rfl ?_
                  refine zm_aload_n 277 rfl dX11_cut_276 rfl 1 rfl ?_
                  refine zm_iload_n 278 rfl dX11_cut_277 rfl 2 rfl ?_
                  refine zm_iload_n 279 rfl dX11_cut_278 rfl 0 rfl ?_
                  refine zm_aload_n 280 rfl dX11_cut_279 rfl 1 rfl ?_
                  refine zm_iload_n 281 rfl dX11_cut_280 rfl 2 rfl ?_
                  refine zm_iconst 282 rfl dX11_cut_281 zi_1 ?_
                  refine zm_iadd 283 rfl dX11_cut_282 ?_
                  refine zm_cV1ir 286 rfl dX11_cut_283 ml_X11_202 rfl (zm_L (sv := sv) rfl) rfl (Nat.le_of_ble_eq_true rfl) ⟨Nat.le_of_ble_eq_true rfl, Nat.le_of_ble_eq_true rfl⟩ rfl rfl ⟨Nat.le_refl _, Nat.le_refl _⟩ rfl (fun _ h => k_X11_byteAt E sv (l7_1 + 1) L7 h) (fun r283 => ?_)
                  refine zm_cV3i 289 rfl dX11_cut_286 ml_X11_217 rfl (zm_L (sv := sv) rfl) rfl (Nat.le_of_ble_eq_true rfl) ⟨Nat.le_of_ble_eq_true rfl, Nat.le_of_ble_eq_true rfl⟩ rfl rfl ⟨Nat.le_refl _, Nat.le_refl _⟩ rfl (fun _ _ h => k_X11_sign E sv l7_1 r19 r283 L7 h) (fun r286 M286 => ?_)
                  refine zm_iadd 290 rfl dX11_cut_289 ?_
                  refine zm_nmi (fun x290 _ => ?_)
                  refine zm_istore_n (lv' := [(1, .int x290), (2, .int r19), (0, .ref (E.2.1 + 52))]) 291 rfl dX11_cut_290 rfl (by decide) rfl ?_
                  exact zm_loc [2, 0] rfl (hb291_7 x290 M286)
                · refine zm_iconst 204 rfl dX11_cut_203 zi_0 ?_
                  refine zm_istore_n (lv' := [(3, .int 0), (2, .int r19), (0, .ref (E.2.1 + 52)), (1, .int l7_1)]) 205 rfl dX11_cut_204 rfl (by decide) rfl ?_
                  refine zm_iconst 206 rfl dX11_cut_205 zi_0 ?_
                  refine zm_istore (lv' := [(4, .int 0), (3, .int 0), (2, .int r19), (0, .ref (E.2.1 + 52)), (1, .int l7_1)]) 208 rfl dX11_cut_206 (by decide) rfl ?_
                  have hx250_208_7 : ∀ (e250_3 : Int32) (e250_4 : Int32), zm_V X Y_X11_cut E (zm_Q X E Y_X11_cut.2.2.2.1.cells Y_X11_cut.2.2.2.1.slots (zm_w sv) zm_ev) 0 0 false (zm_w sv) 250 [(0, .ref (E.2.1 + 52)), (1, .int l7_1), (3, .int e250_3), (4, .int e250_4)] [] L7 (f_X11_cut_x250_208_7 l7_1 L7 e250_3 e250_4) f7 := by
                    intro e250_3 e250_4
                    unfold f_X11_cut_x250_208_7
                    refine zm_aload_n 251 rfl dX11_cut_250 rfl 0 rfl ?_
                    refine zm_iload_n 252 rfl dX11_cut_251 rfl 2 rfl ?_
                    refine zm_iconst 253 rfl dX11_cut_252 zi_4 ?_
                    have hb261_7 : ∀ (b261_s1 : Int32), zm_V X Y_X11_cut E (zm_Q X E Y_X11_cut.2.2.2.1.cells Y_X11_cut.2.2.2.1.slots (zm_w sv) zm_ev) 0 0 false (zm_w sv) 261 [(0, .ref (E.2.1 + 52)), (1, .int l7_1), (3, .int e250_3), (4, .int e250_4)] [.int b261_s1, .ref (E.2.1 + 52)] L7 (f_X11_cut_b261_7 l7_1 L7 e250_3 e250_4 b261_s1) f7 := by
                      intro b261_s1
                      unfold f_X11_cut_b261_7
                      refine zm_iload_n 262 rfl dX11_cut_261 rfl 1 rfl ?_
                      refine zm_iload 264 rfl dX11_cut_262 3 rfl ?_
                      refine zm_lconst 265 rfl dX11_cut_264 rfl ?_
                      refine zm_cV4v 268 rfl dX11_cut_265 ml_X11_206 rfl (zm_L (sv := sv) rfl) rfl (Nat.le_of_ble_eq_true rfl) ⟨Nat.le_of_ble_eq_true rfl, Nat.le_of_ble_eq_true rfl⟩ rfl rfl ⟨Nat.le_refl _, Nat.le_refl _⟩ rfl (fun _ _ h => k_X11_token E sv b261_s1 l7_1 e250_4 0 L7 h) (fun _ M265 => ?_)
                      refine zm_iload_n 269 rfl dX11_cut_268 rfl 1 rfl ?_
                      refine zm_iload_n 270 rfl dX11_cut_269 rfl 2 rfl ?_
                      refine zm_iadd 271 rfl dX11_cut_270 ?_
                      refine zm_nmi (fun x271 _ => ?_)
                      refine zm_istore_n (lv' := [(1, .int x271), (0, .ref (E.2.1 + 52)), (3, .int e250_3), (4, .int e250_4)]) 272 rfl dX11_cut_271 rfl (by decide) rfl ?_
                      refine zm_goto 291 (by decide) dX11_cut_272 ?_
                      exact zm_loc [1, 0] rfl (hb291_7 x271 M265)
                    refine zm_icmp_le 260 256 (by decide) rfl dX11_cut_253 ?_ ?_
                    · refine zm_iconst 261 rfl dX11_cut_260 zi_2 ?_
                      exact zm_loc [0, 1, 2, 3] rfl (hb261_7 2)
                    · refine zm_iconst 257 rfl dX11_cut_256 zi_3 ?_
                      refine zm_goto 261 (by decide) dX11_cut_257 ?_
                      exact zm_loc [0, 1, 2, 3] rfl (hb261_7 3)
                  refine zm_loc [3, 4, 1, 0] rfl (zm_lpp (σ := (Int32 × Int32)) (ε := (Int32 × Int32)) (step := fun s => f_X11_cut_l208_7 l7_1 L7 s.1 s.2) (fun s => [(0, .ref (E.2.1 + 52)), (1, .int l7_1), (3, .int s.1), (4, .int s.2)]) (fun _ => L7) (fun D208_7 f208_7 hf208_7a hf208_7b hD208_7 s => ?_) (0, 0))
                  obtain ⟨l208_3, l208_4⟩ := s
                  show zm_V X Y_X11_cut E (zm_Q X E Y_X11_cut.2.2.2.1.cells Y_X11_cut.2.2.2.1.slots (zm_w sv) zm_ev) 0 0 false (zm_w sv) 208 [(0, .ref (E.2.1 + 52)), (1, .int l7_1), (3, .int l208_3), (4, .int l208_4)] [] L7 (f_X11_cut_l208_7 l7_1 L7 l208_3 l208_4) f208_7
                  unfold f_X11_cut_l208_7
                  refine zm_aload_n 209 rfl dX11_cut_208 rfl 0 rfl ?_
                  refine zm_iload_n 210 rfl dX11_cut_209 rfl 1 rfl ?_
                  refine zm_iload_n 211 rfl dX11_cut_210 rfl 2 rfl ?_
                  refine zm_iadd 212 rfl dX11_cut_211 ?_
                  refine zm_cV1ir 215 rfl dX11_cut_212 ml_X11_202 rfl (zm_L (sv := sv) rfl) rfl (Nat.le_of_ble_eq_true rfl) ⟨Nat.le_of_ble_eq_true rfl, Nat.le_of_ble_eq_true rfl⟩ rfl rfl ⟨Nat.le_refl _, Nat.le_refl _⟩ rfl (fun _ h => k_X11_byteAt E sv (l7_1 + l208_3) L7 h) (fun r212 => ?_)
                  refine zm_cS1ir 218 rfl dX11_cut_215 ml_X11_214 (Nat.le_of_ble_eq_true rfl) ⟨Nat.le_of_ble_eq_true rfl, Nat.le_of_ble_eq_true rfl⟩ rfl rfl ⟨Nat.le_refl _, Nat.le_refl _⟩ rfl (fun _ h => k_X11_isDigit E (zm_w sv) r212 L7 h) (fun r215 => ?_)
                  refine zm_if_eq 250 221 (by decide) rfl dX11_cut_218 ?_ ?_
                  · exact zm_loc [0, 1, 2, 3] rfl (zm_go (hf208_7b _) (zm_unb (hx250_208_7 l208_3 l208_4)))
                  · refine zm_iload_n 222 rfl dX11_cut_221 rfl 2 rfl ?_
                    refine zm_iconst 223 rfl dX11_cut_222 zi_4 ?_
                    have hb244_208_7 : ∀ (b244_4 : Int32), zm_V X Y_X11_cut E (zm_Q X E Y_X11_cut.2.2.2.1.cells Y_X11_cut.2.2.2.1.slots (zm_w sv) zm_ev) 0 0 false (zm_w sv) 244 [(0, .ref (E.2.1 + 52)), (1, .int l7_1), (3, .int l208_3), (4, .int b244_4)] [] L7 (f_X11_cut_b244_208_7 l208_3 b244_4) f208_7 := by
                      intro b244_4
                      unfold f_X11_cut_b244_208_7
                      refine zm_iinc (lv' := fun z => [(3, .int z), (0, .ref (E.2.1 + 52)), (1, .int l7_1), (4, .int b244_4)]) 247 rfl dX11_cut_244 zi_1 2 rfl (by decide) (fun _ => rfl) (fun x244 _ => ?_)
                      refine zm_goto 208 (by decide) dX11_cut_247 ?_
                      exact zm_loc [1, 2, 0, 3] rfl (zm_go (hf208_7a _) (hD208_7 (x244, b244_4)))
                    refine zm_icmp_ge 244 226 (by decide) rfl dX11_cut_223 ?_ ?_
                    · exact zm_loc [0, 1, 2, 3] rfl (hb244_208_7 l208_4)
                    · refine zm_bipush 228 rfl dX11_cut_226 zb_10 ?_
                      refine zm_iload 230 rfl dX11_cut_228 3 rfl ?_
                      refine zm_imul 231 rfl dX11_cut_230 ?_
                      refine zm_aload_n 232 rfl dX11_cut_231 rfl 0 rfl ?_
                      refine zm_iload_n 233 rfl dX11_cut_232 rfl 1 rfl ?_
                      refine zm_iload_n 234 rfl dX11_cut_233 rfl 2 rfl ?_
                      refine zm_iadd 235 rfl dX11_cut_234 ?_
                      refine zm_cV1ir 238 rfl dX11_cut_235 ml_X11_202 rfl (zm_L (sv := sv) rfl) rfl (Nat.le_of_ble_eq_true rfl) ⟨Nat.le_of_ble_eq_true rfl, Nat.le_of_ble_eq_true rfl⟩ rfl rfl ⟨Nat.le_refl _, Nat.le_refl _⟩ rfl (fun _ h => k_X11_byteAt E sv (l7_1 + l208_3) L7 h) (fun r235 => ?_)
                      refine zm_iadd 239 rfl dX11_cut_238 ?_
                      refine zm_bipush 241 rfl dX11_cut_239 zb_48 ?_
                      refine zm_isub 242 rfl dX11_cut_241 ?_
                      refine zm_nmi (fun x242 _ => ?_)
                      refine zm_istore (lv' := [(4, .int x242), (0, .ref (E.2.1 + 52)), (1, .int l7_1), (3, .int l208_3)]) 244 rfl dX11_cut_242 (by decide) rfl ?_
                      exact zm_loc [1, 2, 3, 0] rfl (hb244_208_7 x242)
              · refine zm_iconst 81 rfl dX11_cut_80 zi_0 ?_
                refine zm_istore_n (lv' := [(3, .int 0), (2, .int r19), (0, .ref (E.2.1 + 52)), (1, .int l7_1)]) 82 rfl dX11_cut_81 rfl (by decide) rfl ?_
                refine zm_lconst 83 rfl dX11_cut_82 rfl ?_
                refine zm_lstore (lv' := [(4, .long 0), (3, .int 0), (2, .int r19), (0, .ref (E.2.1 + 52)), (1, .int l7_1)]) 85 rfl dX11_cut_83 (by decide) rfl ?_
                have hx124_85_7 : ∀ (e124_3 : Int32) (e124_4 : Int64), zm_V X Y_X11_cut E (zm_Q X E Y_X11_cut.2.2.2.1.cells Y_X11_cut.2.2.2.1.slots (zm_w sv) zm_ev) 0 0 false (zm_w sv) 124 [(0, .ref (E.2.1 + 52)), (1, .int l7_1), (3, .int e124_3), (4, .long e124_4)] [] L7 (f_X11_cut_x124_85_7 l7_1 L7 e124_3 e124_4) f7 := by
                  intro e124_3 e124_4
                  unfold f_X11_cut_x124_85_7
                  refine zm_iload_n 125 rfl dX11_cut_124 rfl 2 rfl ?_
                  refine zm_bipush 127 rfl dX11_cut_125 zb_8 ?_
                  have hb135_7 : ∀ (b135_s0 : Int32), zm_V X Y_X11_cut E (zm_Q X E Y_X11_cut.2.2.2.1.cells Y_X11_cut.2.2.2.1.slots (zm_w sv) zm_ev) 0 0 false (zm_w sv) 135 [(0, .ref (E.2.1 + 52)), (1, .int l7_1), (3, .int e124_3), (4, .long e124_4)] [.int b135_s0] L7 (f_X11_cut_b135_7 l7_1 L7 e124_3 e124_4 b135_s0) f7 := by
                    intro b135_s0
                    unfold f_X11_cut_b135_7
                    refine zm_istore (lv' := [(6, .int b135_s0), (0, .ref (E.2.1 + 52)), (1, .int l7_1), (3, .int e124_3), (4, .long e124_4)]) 137 rfl dX11_cut_135 (by decide) rfl ?_
                    refine zm_iload_n 138 rfl dX11_cut_137 rfl 3 rfl ?_
                    refine zm_bipush 140 rfl dX11_cut_138 zb_8 ?_
                    have hb179_7 : ∀ (b179_6 : Int32), zm_V X Y_X11_cut E (zm_Q X E Y_X11_cut.2.2.2.1.cells Y_X11_cut.2.2.2.1.slots (zm_w sv) zm_ev) 0 0 false (zm_w sv) 179 [(0, .ref (E.2.1 + 52)), (1, .int l7_1), (3, .int e124_3), (4, .long e124_4), (6, .int b179_6)] [] L7 (f_X11_cut_b179_7 l7_1 L7 e124_3 e124_4 b179_6) f7 := by
                      intro b179_6
                      unfold f_X11_cut_b179_7
                      refine zm_aload_n 180 rfl dX11_cut_179 rfl 0 rfl ?_
                      refine zm_iload 182 rfl dX11_cut_180 4 rfl ?_
                      refine zm_iload_n 183 rfl dX11_cut_182 rfl 1 rfl ?_
                      refine zm_iconst 184 rfl dX11_cut_183 zi_0 ?_
                      refine zm_lload 186 rfl dX11_cut_184 3 rfl ?_
                      refine zm_cV4v 189 rfl dX11_cut_186 ml_X11_206 rfl (zm_L (sv := sv) rfl) rfl (Nat.le_of_ble_eq_true rfl) ⟨Nat.le_of_ble_eq_true rfl, Nat.le_of_ble_eq_true rfl⟩ rfl rfl ⟨Nat.le_refl _, Nat.le_refl _⟩ rfl (fun _ _ h => k_X11_token E sv b179_6 l7_1 0 e124_4 L7 h) (fun _ M186 => ?_)
                      refine zm_iload_n 190 rfl dX11_cut_189 rfl 1 rfl ?_
                      refine zm_iload_n 191 rfl dX11_cut_190 rfl 2 rfl ?_
                      refine zm_iadd 192 rfl dX11_cut_191 ?_
                      refine zm_nmi (fun x192 _ => ?_)
                      refine zm_istore_n (lv' := [(1, .int x192), (0, .ref (E.2.1 + 52)), (3, .int e124_3), (4, .long e124_4), (6, .int b179_6)]) 193 rfl dX11_cut_192 rfl (by decide) rfl ?_
                      refine zm_goto 291 (by decide) dX11_cut_193 ?_
                      exact zm_loc [1, 0] rfl (hb291_7 x192 M186)
                    refine zm_icmp_gt 179 143 (by decide) rfl dX11_cut_140 ?_ ?_
                    · exact zm_loc [1, 2, 3, 4, 0] rfl (hb179_7 b135_s0)
                    · refine zm_iconst 144 rfl dX11_cut_143 zi_0 ?_
                      refine zm_istore (lv' := [(7, .int 0), (6, .int b135_s0), (0, .ref (E.2.1 + 52)), (1, .int l7_1), (3, .int e124_3), (4, .long e124_4)]) 146 rfl dX11_cut_144 (by decide) rfl ?_
                      have hx179_146_7 : ∀ (e179_6 : Int32), zm_V X Y_X11_cut E (zm_Q X E Y_X11_cut.2.2.2.1.cells Y_X11_cut.2.2.2.1.slots (zm_w sv) zm_ev) 0 0 false (zm_w sv) 179 [(0, .ref (E.2.1 + 52)), (1, .int l7_1), (3, .int e124_3), (4, .long e124_4), (6, .int e179_6)] [] L7 (f_X11_cut_b179_7 l7_1 L7 e124_3 e124_4 e179_6) f7 := by
                        intro e179_6
                        exact zm_loc [0, 1, 2, 3, 4] rfl (hb179_7 e179_6)
                      refine zm_loc [2, 3, 4, 5, 1, 0] rfl (zm_lpp (σ := (Int32 × Int32)) (ε := Int32) (step := fun s => f_X11_cut_l146_7 L7 e124_4 s.1 s.2) (fun s => [(0, .ref (E.2.1 + 52)), (1, .int l7_1), (3, .int e124_3), (4, .long e124_4), (6, .int s.1), (7, .int s.2)]) (fun _ => L7) (fun D146_7 f146_7 hf146_7a hf146_7b hD146_7 s => ?_) (b135_s0, 0))
                      obtain ⟨l146_6, l146_7⟩ := s
                      show zm_V X Y_X11_cut E (zm_Q X E Y_X11_cut.2.2.2.1.cells Y_X11_cut.2.2.2.1.slots (zm_w sv) zm_ev) 0 0 false (zm_w sv) 146 [(0, .ref (E.2.1 + 52)), (1, .int l7_1), (3, .int e124_3), (4, .long e124_4), (6, .int l146_6), (7, .int l146_7)] [] L7 (f_X11_cut_l146_7 L7 e124_4 l146_6 l146_7) f146_7
                      unfold f_X11_cut_l146_7
                      refine zm_iload 148 rfl dX11_cut_146 5 rfl ?_
                      refine zm_bipush 150 rfl dX11_cut_148 zb_20 ?_
                      refine zm_icmp_ge 179 153 (by decide) rfl dX11_cut_150 ?_ ?_
                      · exact zm_loc [0, 1, 2, 3, 4] rfl (zm_go (hf146_7b _) (zm_unb (hx179_146_7 l146_6)))
                      · refine zm_aload_n 154 rfl dX11_cut_153 rfl 0 rfl ?_
                        refine zm_getR (a := 59) 157 rfl dX11_cut_154 fl_X11_34 rfl (zm_L (sv := sv) rfl) rfl (by decide) ?_
                        refine zm_iload 159 rfl dX11_cut_157 5 rfl ?_
                        refine zm_lald 160 rfl dX11_cut_159 rfl (zm_L (sv := sv) rfl) ?_
                        refine zm_lload 162 rfl dX11_cut_160 3 rfl ?_
                        refine zm_lcmp 163 rfl dX11_cut_162 ?_
                        have hb173_146_7 : ∀ (b173_6 : Int32), zm_V X Y_X11_cut E (zm_Q X E Y_X11_cut.2.2.2.1.cells Y_X11_cut.2.2.2.1.slots (zm_w sv) zm_ev) 0 0 false (zm_w sv) 173 [(0, .ref (E.2.1 + 52)), (1, .int l7_1), (3, .int e124_3), (4, .long e124_4), (6, .int b173_6), (7, .int l146_7)] [] L7 (f_X11_cut_b173_146_7 l146_7 b173_6) f146_7 := by
                          intro b173_6
                          unfold f_X11_cut_b173_146_7
                          refine zm_iinc (lv' := fun z => [(7, .int z), (0, .ref (E.2.1 + 52)), (1, .int l7_1), (3, .int e124_3), (4, .long e124_4), (6, .int b173_6)]) 176 rfl dX11_cut_173 zi_1 5 rfl (by decide) (fun _ => rfl) (fun x173 _ => ?_)
                          refine zm_goto 146 (by decide) dX11_cut_176 ?_
                          exact zm_loc [1, 2, 3, 4, 5, 0] rfl (zm_go (hf146_7a _) (hD146_7 (b173_6, x173)))
                        refine zm_if_ne 173 166 (by decide) rfl dX11_cut_163 ?_ ?_
                        · refine zm_bipush 168 rfl dX11_cut_166 zb_20 ?_
                          refine zm_iload 170 rfl dX11_cut_168 5 rfl ?_
                          refine zm_iadd 171 rfl dX11_cut_170 ?_
                          refine zm_nmi (fun x171 _ => ?_)
                          refine zm_istore (lv' := [(6, .int x171), (0, .ref (E.2.1 + 52)), (1, .int l7_1), (3, .int e124_3), (4, .long e124_4), (7, .int l146_7)]) 173 rfl dX11_cut_171 (by decide) rfl ?_
                          exact zm_loc [1, 2, 3, 4, 0, 5] rfl (hb173_146_7 x171)
                        · exact zm_loc [0, 1, 2, 3, 4, 5] rfl (hb173_146_7 l146_6)
                  refine zm_icmp_le 134 130 (by decide) rfl dX11_cut_127 ?_ ?_
                  · refine zm_iconst 135 rfl dX11_cut_134 zi_1 ?_
                    exact zm_loc [0, 1, 2, 3] rfl (hb135_7 1)
                  · refine zm_iconst 131 rfl dX11_cut_130 zi_3 ?_
                    refine zm_goto 135 (by decide) dX11_cut_131 ?_
                    exact zm_loc [0, 1, 2, 3] rfl (hb135_7 3)
                refine zm_loc [3, 4, 1, 0] rfl (zm_lpp (σ := (Int32 × Int64)) (ε := (Int32 × Int64)) (step := fun s => f_X11_cut_l85_7 l7_1 L7 s.1 s.2) (fun s => [(0, .ref (E.2.1 + 52)), (1, .int l7_1), (3, .int s.1), (4, .long s.2)]) (fun _ => L7) (fun D85_7 f85_7 hf85_7a hf85_7b hD85_7 s => ?_) (0, 0))
                obtain ⟨l85_3, l85_4⟩ := s
                show zm_V X Y_X11_cut E (zm_Q X E Y_X11_cut.2.2.2.1.cells Y_X11_cut.2.2.2.1.slots (zm_w sv) zm_ev) 0 0 false (zm_w sv) 85 [(0, .ref (E.2.1 + 52)), (1, .int l7_1), (3, .int l85_3), (4, .long l85_4)] [] L7 (f_X11_cut_l85_7 l7_1 L7 l85_3 l85_4) f85_7
                unfold f_X11_cut_l85_7
                refine zm_aload_n 86 rfl dX11_cut_85 rfl 0 rfl ?_
                refine zm_iload_n 87 rfl dX11_cut_86 rfl 1 rfl ?_
                refine zm_iload_n 88 rfl dX11_cut_87 rfl 2 rfl ?_
                refine zm_iadd 89 rfl dX11_cut_88 ?_
                refine zm_cV1ir 92 rfl dX11_cut_89 ml_X11_202 rfl (zm_L (sv := sv) rfl) rfl (Nat.le_of_ble_eq_true rfl) ⟨Nat.le_of_ble_eq_true rfl, Nat.le_of_ble_eq_true rfl⟩ rfl rfl ⟨Nat.le_refl _, Nat.le_refl _⟩ rfl (fun _ h => k_X11_byteAt E sv (l7_1 + l85_3) L7 h) (fun r89 => ?_)
                refine zm_cS1ir 95 rfl dX11_cut_92 ml_X11_210 (Nat.le_of_ble_eq_true rfl) ⟨Nat.le_of_ble_eq_true rfl, Nat.le_of_ble_eq_true rfl⟩ rfl rfl ⟨Nat.le_refl _, Nat.le_refl _⟩ rfl (fun _ h => k_X11_isLetter E (zm_w sv) r89 L7 h) (fun r92 => ?_)
                refine zm_if_eq 124 98 (by decide) rfl dX11_cut_95 ?_ ?_
                · exact zm_loc [0, 1, 2, 3] rfl (zm_go (hf85_7b _) (zm_unb (hx124_85_7 l85_3 l85_4)))
                · refine zm_iload_n 99 rfl dX11_cut_98 rfl 2 rfl ?_
                  refine zm_bipush 101 rfl dX11_cut_99 zb_8 ?_
                  have hb118_85_7 : ∀ (b118_4 : Int64), zm_V X Y_X11_cut E (zm_Q X E Y_X11_cut.2.2.2.1.cells Y_X11_cut.2.2.2.1.slots (zm_w sv) zm_ev) 0 0 false (zm_w sv) 118 [(0, .ref (E.2.1 + 52)), (1, .int l7_1), (3, .int l85_3), (4, .long b118_4)] [] L7 (f_X11_cut_b118_85_7 l85_3 b118_4) f85_7 := by
                    intro b118_4
                    unfold f_X11_cut_b118_85_7
                    refine zm_iinc (lv' := fun z => [(3, .int z), (0, .ref (E.2.1 + 52)), (1, .int l7_1), (4, .long b118_4)]) 121 rfl dX11_cut_118 zi_1 2 rfl (by decide) (fun _ => rfl) (fun x118 _ => ?_)
                    refine zm_goto 85 (by decide) dX11_cut_121 ?_
                    exact zm_loc [1, 2, 0, 3] rfl (zm_go (hf85_7a _) (hD85_7 (x118, b118_4)))
                  refine zm_icmp_ge 118 104 (by decide) rfl dX11_cut_101 ?_ ?_
                  · exact zm_loc [0, 1, 2, 3] rfl (hb118_85_7 l85_4)
                  · refine zm_lload 106 rfl dX11_cut_104 3 rfl ?_
                    refine zm_aload_n 107 rfl dX11_cut_106 rfl 0 rfl ?_
                    refine zm_iload_n 108 rfl dX11_cut_107 rfl 1 rfl ?_
                    refine zm_iload_n 109 rfl dX11_cut_108 rfl 2 rfl ?_
                    refine zm_iadd 110 rfl dX11_cut_109 ?_
                    refine zm_cV1ir 113 rfl dX11_cut_110 ml_X11_202 rfl (zm_L (sv := sv) rfl) rfl (Nat.le_of_ble_eq_true rfl) ⟨Nat.le_of_ble_eq_true rfl, Nat.le_of_ble_eq_true rfl⟩ rfl rfl ⟨Nat.le_refl _, Nat.le_refl _⟩ rfl (fun _ h => k_X11_byteAt E sv (l7_1 + l85_3) L7 h) (fun r110 => ?_)
                    refine zm_cS2lr 116 rfl dX11_cut_113 ml_X11_178 (Nat.le_of_ble_eq_true rfl) ⟨Nat.le_of_ble_eq_true rfl, Nat.le_of_ble_eq_true rfl⟩ rfl rfl ⟨Nat.le_refl _, Nat.le_refl _⟩ rfl (fun _ h => k_X11_appends E (zm_w sv) l85_4 r110 L7 h) (fun r113 => ?_)
                    refine zm_lstore (lv' := [(4, .long r113), (0, .ref (E.2.1 + 52)), (1, .int l7_1), (3, .int l85_3)]) 118 rfl dX11_cut_116 (by decide) rfl ?_
                    exact zm_loc [1, 2, 3, 0] rfl (hb118_85_7 r113)
    · exact zm_loc [1] rfl (zm_go (hf7b _) (zm_unb (hx31_7 L7)))
abbrev Y_X11_is : zm_Y := (cX11_is, 2, RX11, { frames := 0, cells := 0, slots := 0, locals := 0 }, (some .boolean), false, "is")
noncomputable def f_X11_is_b24  : Option Int32 :=
 some 0
noncomputable def f_X11_is (a1 : Int32) (M : zm_Mem) : Option Int32 :=
  if (M.1 52 13) = 0 then (zm_ck (zm_in (M.1 52 11) 403) <| if (M.1 55 (M.1 52 11).toNatClampNeg) = a1 then (some 1) else (f_X11_is_b24)) else (f_X11_is_b24)
set_option maxRecDepth 20000 in
set_option maxHeartbeats 4000000 in
theorem k_X11_is (E : zm_E) (sv : Nat) (a1 : Int32) (M : zm_Mem) {r : Int32} (h : f_X11_is a1 M = some r) : zm_Ct E (zm_w sv) (zm_w sv) yX11_is Y_X11_is [.ref (E.2.1 + 52), .int a1] M (some (.int r)) M := by
  refine zm_methr (emb := zm_ei) (d := f_X11_is a1 M) (by decide) rfl rfl (Nat.le_of_ble_eq_true rfl) h (fun X => ?_)
  show zm_V X Y_X11_is E (zm_Q X E Y_X11_is.2.2.2.1.cells Y_X11_is.2.2.2.1.slots (zm_w sv) zm_ei) 0 0 false (zm_w sv) 0 [(0, .ref (E.2.1 + 52)), (1, .int a1)] [] M (f_X11_is a1 M) (fun r => some (r, M))
  unfold f_X11_is
  refine zm_aload_n 1 rfl dX11_is_0 rfl 0 rfl ?_
  refine zm_getI 4 rfl dX11_is_1 fl_X11_221 rfl (zm_L (sv := sv) rfl) ?_
  have hb24 : zm_V X Y_X11_is E (zm_Q X E Y_X11_is.2.2.2.1.cells Y_X11_is.2.2.2.1.slots (zm_w sv) zm_ei) 0 0 false (zm_w sv) 24 [] [] M (f_X11_is_b24) (fun r => some (r, M)) := by
    unfold f_X11_is_b24
    refine zm_iconst 25 rfl dX11_is_24 zi_0 ?_
    exact zm_zret dX11_is_25 rfl rfl (Nat.le_refl _) (Nat.le_refl _) rfl
  refine zm_if_ne 24 7 (by decide) rfl dX11_is_4 ?_ ?_
  · refine zm_aload_n 8 rfl dX11_is_7 rfl 0 rfl ?_
    refine zm_getR (a := 55) 11 rfl dX11_is_8 fl_X11_20 rfl (zm_L (sv := sv) rfl) rfl (by decide) ?_
    refine zm_aload_n 12 rfl dX11_is_11 rfl 0 rfl ?_
    refine zm_getI 15 rfl dX11_is_12 fl_X11_224 rfl (zm_L (sv := sv) rfl) ?_
    refine zm_iald 16 rfl dX11_is_15 rfl (zm_L (sv := sv) rfl) ?_
    refine zm_iload_n 17 rfl dX11_is_16 rfl 1 rfl ?_
    refine zm_icmp_ne 24 20 (by decide) rfl dX11_is_17 ?_ ?_
    · refine zm_iconst 21 rfl dX11_is_20 zi_1 ?_
      refine zm_goto 25 (by decide) dX11_is_21 ?_
      exact zm_zret dX11_is_25 rfl rfl (Nat.le_refl _) (Nat.le_refl _) rfl
    · exact zm_loc [] rfl (hb24)
  · exact zm_loc [] rfl (hb24)
abbrev Y_X11_fail : zm_Y := (cX11_fail, 2, RX11, { frames := 0, cells := 0, slots := 0, locals := 0 }, none, false, "fail")
noncomputable def f_X11_fail (a1 : Int32) (M : zm_Mem) : Option (Unit × zm_Mem) :=
  if (M.1 52 13) ≤ 0 then (zm_v (zm_sI M 52 13 a1) <| fun M10 => zm_ck (zm_in (M10.1 52 11) 403) <| zm_v (zm_sI M10 52 14 (M10.1 56 (M10.1 52 11).toNatClampNeg)) <| fun M23 => some ((), M23)) else (some ((), M))
set_option maxRecDepth 20000 in
set_option maxHeartbeats 4000000 in
theorem k_X11_fail (E : zm_E) (sv : Nat) (a1 : Int32) (M : zm_Mem) {r : Unit} {M' : zm_Mem} (h : f_X11_fail a1 M = some (r, M')) : zm_Ct E (zm_w sv) (zm_w sv) yX11_fail Y_X11_fail [.ref (E.2.1 + 52), .int a1] M none M' := by
  refine zm_meth (emb := zm_ev) (d := f_X11_fail a1 M) (by decide) rfl rfl (Nat.le_of_ble_eq_true rfl) h (fun X => ?_)
  show zm_V X Y_X11_fail E (zm_Q X E Y_X11_fail.2.2.2.1.cells Y_X11_fail.2.2.2.1.slots (zm_w sv) zm_ev) 0 0 false (zm_w sv) 0 [(0, .ref (E.2.1 + 52)), (1, .int a1)] [] M (f_X11_fail a1 M) some
  unfold f_X11_fail
  refine zm_aload_n 1 rfl dX11_fail_0 rfl 0 rfl ?_
  refine zm_getI 4 rfl dX11_fail_1 fl_X11_221 rfl (zm_L (sv := sv) rfl) ?_
  refine zm_if_le 8 7 (by decide) rfl dX11_fail_4 ?_ ?_
  · refine zm_aload_n 9 rfl dX11_fail_8 rfl 0 rfl ?_
    refine zm_iload_n 10 rfl dX11_fail_9 rfl 1 rfl ?_
    refine zm_putI 13 rfl dX11_fail_10 fp_X11_221 rfl (zm_L (sv := sv) rfl) rfl rfl (fun M10 _ => ?_)
    refine zm_aload_n 14 rfl dX11_fail_13 rfl 0 rfl ?_
    refine zm_aload_n 15 rfl dX11_fail_14 rfl 0 rfl ?_
    refine zm_getR (a := 56) 18 rfl dX11_fail_15 fl_X11_24 rfl (zm_L (sv := sv) rfl) rfl (by decide) ?_
    refine zm_aload_n 19 rfl dX11_fail_18 rfl 0 rfl ?_
    refine zm_getI 22 rfl dX11_fail_19 fl_X11_224 rfl (zm_L (sv := sv) rfl) ?_
    refine zm_iald 23 rfl dX11_fail_22 rfl (zm_L (sv := sv) rfl) ?_
    refine zm_putI 26 rfl dX11_fail_23 fp_X11_227 rfl (zm_L (sv := sv) rfl) rfl rfl (fun M23 _ => ?_)
    exact zm_vret dX11_fail_26 rfl (Nat.le_refl _) (Nat.le_refl _) rfl
  · exact zm_vret dX11_fail_7 rfl (Nat.le_refl _) (Nat.le_refl _) rfl
abbrev Y_X11_wrong : zm_Y := (cX11_wrong, 4, RX11, { frames := 0, cells := 0, slots := 0, locals := 0 }, none, false, "wrong")
noncomputable def f_X11_wrong_b46 (a1 : Int32) (M : zm_Mem) (x6 : Int32) : Option (Unit × zm_Mem) :=
 zm_v (zm_sI M 52 15 a1) <| fun M48 => zm_v (zm_sI M48 52 16 x6) <| fun M53 => some ((), M53)
noncomputable def f_X11_wrong (a1 : Int32) (a2 : Int32) (M : zm_Mem) : Option (Unit × zm_Mem) :=
  zm_ck (zm_in a2 403) <| zm_v (M.1 56 a2.toNatClampNeg) <| fun x6 => if 0 < (M.1 52 13) then (some ((), M)) else (if (M.1 52 15) = 0 then (f_X11_wrong_b46 a1 M x6) else (if (M.1 52 16) < x6 then (some ((), M)) else (if x6 = (M.1 52 16) then (if a1 < (M.1 52 15) then (f_X11_wrong_b46 a1 M x6) else (some ((), M))) else (f_X11_wrong_b46 a1 M x6))))
set_option maxRecDepth 20000 in
set_option maxHeartbeats 4000000 in
theorem k_X11_wrong (E : zm_E) (sv : Nat) (a1 : Int32) (a2 : Int32) (M : zm_Mem) {r : Unit} {M' : zm_Mem} (h : f_X11_wrong a1 a2 M = some (r, M')) : zm_Ct E (zm_w sv) (zm_w sv) yX11_wrong Y_X11_wrong [.ref (E.2.1 + 52), .int a1, .int a2] M none M' := by
  refine zm_meth (emb := zm_ev) (d := f_X11_wrong a1 a2 M) (by decide) rfl rfl (Nat.le_of_ble_eq_true rfl) h (fun X => ?_)
  show zm_V X Y_X11_wrong E (zm_Q X E Y_X11_wrong.2.2.2.1.cells Y_X11_wrong.2.2.2.1.slots (zm_w sv) zm_ev) 0 0 false (zm_w sv) 0 [(0, .ref (E.2.1 + 52)), (1, .int a1), (2, .int a2)] [] M (f_X11_wrong a1 a2 M) some
  unfold f_X11_wrong
  refine zm_aload_n 1 rfl dX11_wrong_0 rfl 0 rfl ?_
  refine zm_getR (a := 56) 4 rfl dX11_wrong_1 fl_X11_24 rfl (zm_L (sv := sv) rfl) rfl (by decide) ?_
  refine zm_iload_n 5 rfl dX11_wrong_4 rfl 2 rfl ?_
  refine zm_iald 6 rfl dX11_wrong_5 rfl (zm_L (sv := sv) rfl) ?_
  refine zm_nmi (fun x6 _ => ?_)
  refine zm_istore_n (lv' := [(3, .int x6), (0, .ref (E.2.1 + 52)), (1, .int a1), (2, .int a2)]) 7 rfl dX11_wrong_6 rfl (by decide) rfl ?_
  refine zm_aload_n 8 rfl dX11_wrong_7 rfl 1 rfl ?_
  refine zm_getI 11 rfl dX11_wrong_8 fl_X11_221 rfl (zm_L (sv := sv) rfl) ?_
  refine zm_if_gt 45 14 (by decide) rfl dX11_wrong_11 ?_ ?_
  · exact zm_vret dX11_wrong_45 rfl (Nat.le_refl _) (Nat.le_refl _) rfl
  · refine zm_aload_n 15 rfl dX11_wrong_14 rfl 1 rfl ?_
    refine zm_getI 18 rfl dX11_wrong_15 fl_X11_230 rfl (zm_L (sv := sv) rfl) ?_
    have hb46 : zm_V X Y_X11_wrong E (zm_Q X E Y_X11_wrong.2.2.2.1.cells Y_X11_wrong.2.2.2.1.slots (zm_w sv) zm_ev) 0 0 false (zm_w sv) 46 [(0, .ref (E.2.1 + 52)), (1, .int a1), (3, .int x6)] [] M (f_X11_wrong_b46 a1 M x6) some := by
      unfold f_X11_wrong_b46
      refine zm_aload_n 47 rfl dX11_wrong_46 rfl 0 rfl ?_
      refine zm_iload_n 48 rfl dX11_wrong_47 rfl 1 rfl ?_
      refine zm_putI 51 rfl dX11_wrong_48 fp_X11_230 rfl (zm_L (sv := sv) rfl) rfl rfl (fun M48 _ => ?_)
      refine zm_aload_n 52 rfl dX11_wrong_51 rfl 0 rfl ?_
      refine zm_iload_n 53 rfl dX11_wrong_52 rfl 2 rfl ?_
      refine zm_putI 56 rfl dX11_wrong_53 fp_X11_233 rfl (zm_L (sv := sv) rfl) rfl rfl (fun M53 _ => ?_)
      exact zm_vret dX11_wrong_56 rfl (Nat.le_refl _) (Nat.le_refl _) rfl
    refine zm_if_eq 46 21 (by decide) rfl dX11_wrong_18 ?_ ?_
    · exact zm_loc [1, 2, 0] rfl (hb46)
    · refine zm_iload_n 22 rfl dX11_wrong_21 rfl 0 rfl ?_
      refine zm_aload_n 23 rfl dX11_wrong_22 rfl 1 rfl ?_
      refine zm_getI 26 rfl dX11_wrong_23 fl_X11_233 rfl (zm_L (sv := sv) rfl) ?_
      refine zm_icmp_gt 45 29 (by decide) rfl dX11_wrong_26 ?_ ?_
      · exact zm_vret dX11_wrong_45 rfl (Nat.le_refl _) (Nat.le_refl _) rfl
      · refine zm_iload_n 30 rfl dX11_wrong_29 rfl 0 rfl ?_
        refine zm_aload_n 31 rfl dX11_wrong_30 rfl 1 rfl ?_
        refine zm_getI 34 rfl dX11_wrong_31 fl_X11_233 rfl (zm_L (sv := sv) rfl) ?_
        refine zm_icmp_ne 46 37 (by decide) rfl dX11_wrong_34 ?_ ?_
        · refine zm_iload_n 38 rfl dX11_wrong_37 rfl 2 rfl ?_
          refine zm_aload_n 39 rfl dX11_wrong_38 rfl 1 rfl ?_
          refine zm_getI 42 rfl dX11_wrong_39 fl_X11_230 rfl (zm_L (sv := sv) rfl) ?_
          refine zm_icmp_lt 46 45 (by decide) rfl dX11_wrong_42 ?_ ?_
          · exact zm_loc [1, 2, 0] rfl (hb46)
          · exact zm_vret dX11_wrong_45 rfl (Nat.le_refl _) (Nat.le_refl _) rfl
        · exact zm_loc [1, 2, 0] rfl (hb46)
abbrev Y_X11_goesOn : zm_Y := (cX11_goesOn, 1, RX11, { frames := 1, cells := 0, slots := 0, locals := 21 }, none, false, "goesOn")
noncomputable def f_X11_goesOn  (M : zm_Mem) : Option (Unit × zm_Mem) :=
  if (M.1 52 11) = (400 : Int32) then (zm_b2 (f_X11_fail 2 M) <| fun _ M12 => some ((), M12)) else (zm_v (zm_sI M 52 11 ((M.1 52 11) + 1)) <| fun M25 => some ((), M25))
set_option maxRecDepth 20000 in
set_option maxHeartbeats 4000000 in
theorem k_X11_goesOn (E : zm_E) (sv : Nat)  (M : zm_Mem) {r : Unit} {M' : zm_Mem} (h : f_X11_goesOn M = some (r, M')) : zm_Ct E (zm_w sv) (zm_w sv) yX11_goesOn Y_X11_goesOn [.ref (E.2.1 + 52)] M none M' := by
  refine zm_meth (emb := zm_ev) (d := f_X11_goesOn M) (by decide) rfl rfl (Nat.le_of_ble_eq_true rfl) h (fun X => ?_)
  show zm_V X Y_X11_goesOn E (zm_Q X E Y_X11_goesOn.2.2.2.1.cells Y_X11_goesOn.2.2.2.1.slots (zm_w sv) zm_ev) 0 0 false (zm_w sv) 0 [(0, .ref (E.2.1 + 52))] [] M (f_X11_goesOn M) some
  unfold f_X11_goesOn
  refine zm_aload_n 1 rfl dX11_goesOn_0 rfl 0 rfl ?_
  refine zm_getI 4 rfl dX11_goesOn_1 fl_X11_224 rfl (zm_L (sv := sv) rfl) ?_
  refine zm_sipush 7 rfl dX11_goesOn_4 zs_400 ?_
  refine zm_icmp_ne 18 10 (by decide) rfl dX11_goesOn_7 ?_ ?_
  · refine zm_aload_n 11 rfl dX11_goesOn_10 rfl 0 rfl ?_
    refine zm_iconst 12 rfl dX11_goesOn_11 zi_2 ?_
    refine zm_cV1v 15 rfl dX11_goesOn_12 ml_X11_236 rfl (zm_L (sv := sv) rfl) rfl (Nat.le_of_ble_eq_true rfl) ⟨Nat.le_of_ble_eq_true rfl, Nat.le_of_ble_eq_true rfl⟩ rfl rfl ⟨Nat.le_refl _, Nat.le_refl _⟩ rfl (fun _ _ h => k_X11_fail E sv 2 M h) (fun _ M12 => ?_)
    refine zm_goto 28 (by decide) dX11_goesOn_15 ?_
    exact zm_vret dX11_goesOn_28 rfl (Nat.le_refl _) (Nat.le_refl _) rfl
  · refine zm_aload_n 19 rfl dX11_goesOn_18 rfl 0 rfl ?_
    refine zm_dup 20 rfl dX11_goesOn_19 rfl ?_
    refine zm_getI 23 rfl dX11_goesOn_20 fl_X11_224 rfl (zm_L (sv := sv) rfl) ?_
    refine zm_iconst 24 rfl dX11_goesOn_23 zi_1 ?_
    refine zm_iadd 25 rfl dX11_goesOn_24 ?_
    refine zm_putI 28 rfl dX11_goesOn_25 fp_X11_224 rfl (zm_L (sv := sv) rfl) rfl rfl (fun M25 _ => ?_)
    exact zm_vret dX11_goesOn_28 rfl (Nat.le_refl _) (Nat.le_refl _) rfl
abbrev Y_X11_must : zm_Y := (cX11_must, 2, RX11, { frames := 2, cells := 0, slots := 0, locals := 41 }, none, false, "must")
noncomputable def f_X11_must (a1 : Int32) (M : zm_Mem) : Option (Unit × zm_Mem) :=
  zm_b1 (f_X11_is a1 M) <| fun r2 => if r2 = 0 then (zm_b2 (f_X11_fail 1 M) <| fun _ M17 => some ((), M17)) else (zm_b2 (f_X11_goesOn M) <| fun _ M9 => some ((), M9))
set_option maxRecDepth 20000 in
set_option maxHeartbeats 4000000 in
theorem k_X11_must (E : zm_E) (sv : Nat) (a1 : Int32) (M : zm_Mem) {r : Unit} {M' : zm_Mem} (h : f_X11_must a1 M = some (r, M')) : zm_Ct E (zm_w sv) (zm_w sv) yX11_must Y_X11_must [.ref (E.2.1 + 52), .int a1] M none M' := by
  refine zm_meth (emb := zm_ev) (d := f_X11_must a1 M) (by decide) rfl rfl (Nat.le_of_ble_eq_true rfl) h (fun X => ?_)
  show zm_V X Y_X11_must E (zm_Q X E Y_X11_must.2.2.2.1.cells Y_X11_must.2.2.2.1.slots (zm_w sv) zm_ev) 0 0 false (zm_w sv) 0 [(0, .ref (E.2.1 + 52)), (1, .int a1)] [] M (f_X11_must a1 M) some
  unfold f_X11_must
  refine zm_aload_n 1 rfl dX11_must_0 rfl 0 rfl ?_
  refine zm_iload_n 2 rfl dX11_must_1 rfl 1 rfl ?_
  refine zm_cV1ir 5 rfl dX11_must_2 ml_X11_239 rfl (zm_L (sv := sv) rfl) rfl (Nat.le_of_ble_eq_true rfl) ⟨Nat.le_of_ble_eq_true rfl, Nat.le_of_ble_eq_true rfl⟩ rfl rfl ⟨Nat.le_refl _, Nat.le_refl _⟩ rfl (fun _ h => k_X11_is E sv a1 M h) (fun r2 => ?_)
  refine zm_if_eq 15 8 (by decide) rfl dX11_must_5 ?_ ?_
  · refine zm_aload_n 16 rfl dX11_must_15 rfl 0 rfl ?_
    refine zm_iconst 17 rfl dX11_must_16 zi_1 ?_
    refine zm_cV1v 20 rfl dX11_must_17 ml_X11_236 rfl (zm_L (sv := sv) rfl) rfl (Nat.le_of_ble_eq_true rfl) ⟨Nat.le_of_ble_eq_true rfl, Nat.le_of_ble_eq_true rfl⟩ rfl rfl ⟨Nat.le_refl _, Nat.le_refl _⟩ rfl (fun _ _ h => k_X11_fail E sv 1 M h) (fun _ M17 => ?_)
    exact zm_vret dX11_must_20 rfl (Nat.le_refl _) (Nat.le_refl _) rfl
  · refine zm_aload_n 9 rfl dX11_must_8 rfl 0 rfl ?_
    refine zm_cV0v 12 rfl dX11_must_9 ml_X11_242 rfl (zm_L (sv := sv) rfl) rfl (Nat.le_of_ble_eq_true rfl) ⟨Nat.le_of_ble_eq_true rfl, Nat.le_of_ble_eq_true rfl⟩ rfl rfl ⟨Nat.le_refl _, Nat.le_refl _⟩ rfl (fun _ _ h => k_X11_goesOn E sv M h) (fun _ M9 => ?_)
    refine zm_goto 20 (by decide) dX11_must_12 ?_
    exact zm_vret dX11_must_20 rfl (Nat.le_refl _) (Nat.le_refl _) rfl
abbrev Y_X11_roomFor : zm_Y := (cX11_roomFor, 3, RX11, { frames := 2, cells := 0, slots := 0, locals := 41 }, none, false, "roomFor")
noncomputable def f_X11_roomFor_b10 (M10 : zm_Mem) : Option (Unit × zm_Mem) :=
 if (M10.1 52 13) = 0 then (zm_b2 (f_X11_goesOn M10) <| fun _ M18 => some ((), M18)) else (some ((), M10))
noncomputable def f_X11_roomFor (a1 : Int32) (a2 : Int32) (M : zm_Mem) : Option (Unit × zm_Mem) :=
  if a1 = a2 then (zm_b2 (f_X11_fail 2 M) <| fun _ M7 => f_X11_roomFor_b10 M7) else (f_X11_roomFor_b10 M)
set_option maxRecDepth 20000 in
set_option maxHeartbeats 4000000 in
theorem k_X11_roomFor (E : zm_E) (sv : Nat) (a1 : Int32) (a2 : Int32) (M : zm_Mem) {r : Unit} {M' : zm_Mem} (h : f_X11_roomFor a1 a2 M = some (r, M')) : zm_Ct E (zm_w sv) (zm_w sv) yX11_roomFor Y_X11_roomFor [.ref (E.2.1 + 52), .int a1, .int a2] M none M' := by
  refine zm_meth (emb := zm_ev) (d := f_X11_roomFor a1 a2 M) (by decide) rfl rfl (Nat.le_of_ble_eq_true rfl) h (fun X => ?_)
  show zm_V X Y_X11_roomFor E (zm_Q X E Y_X11_roomFor.2.2.2.1.cells Y_X11_roomFor.2.2.2.1.slots (zm_w sv) zm_ev) 0 0 false (zm_w sv) 0 [(0, .ref (E.2.1 + 52)), (1, .int a1), (2, .int a2)] [] M (f_X11_roomFor a1 a2 M) some
  unfold f_X11_roomFor
  refine zm_iload_n 1 rfl dX11_roomFor_0 rfl 1 rfl ?_
  refine zm_iload_n 2 rfl dX11_roomFor_1 rfl 2 rfl ?_
  have hb10 : ∀ (M10 : zm_Mem), zm_V X Y_X11_roomFor E (zm_Q X E Y_X11_roomFor.2.2.2.1.cells Y_X11_roomFor.2.2.2.1.slots (zm_w sv) zm_ev) 0 0 false (zm_w sv) 10 [(0, .ref (E.2.1 + 52))] [] M10 (f_X11_roomFor_b10 M10) some := by
    intro M10
    unfold f_X11_roomFor_b10
    refine zm_aload_n 11 rfl dX11_roomFor_10 rfl 0 rfl ?_
    refine zm_getI 14 rfl dX11_roomFor_11 fl_X11_221 rfl (zm_L (sv := sv) rfl) ?_
    refine zm_if_ne 21 17 (by decide) rfl dX11_roomFor_14 ?_ ?_
    · refine zm_aload_n 18 rfl dX11_roomFor_17 rfl 0 rfl ?_
      refine zm_cV0v 21 rfl dX11_roomFor_18 ml_X11_242 rfl (zm_L (sv := sv) rfl) rfl (Nat.le_of_ble_eq_true rfl) ⟨Nat.le_of_ble_eq_true rfl, Nat.le_of_ble_eq_true rfl⟩ rfl rfl ⟨Nat.le_refl _, Nat.le_refl _⟩ rfl (fun _ _ h => k_X11_goesOn E sv M10 h) (fun _ M18 => ?_)
      exact zm_vret dX11_roomFor_21 rfl (Nat.le_refl _) (Nat.le_refl _) rfl
    · exact zm_vret dX11_roomFor_21 rfl (Nat.le_refl _) (Nat.le_refl _) rfl
  refine zm_icmp_ne 10 5 (by decide) rfl dX11_roomFor_2 ?_ ?_
  · refine zm_aload_n 6 rfl dX11_roomFor_5 rfl 0 rfl ?_
    refine zm_iconst 7 rfl dX11_roomFor_6 zi_2 ?_
    refine zm_cV1v 10 rfl dX11_roomFor_7 ml_X11_236 rfl (zm_L (sv := sv) rfl) rfl (Nat.le_of_ble_eq_true rfl) ⟨Nat.le_of_ble_eq_true rfl, Nat.le_of_ble_eq_true rfl⟩ rfl rfl ⟨Nat.le_refl _, Nat.le_refl _⟩ rfl (fun _ _ h => k_X11_fail E sv 2 M h) (fun _ M7 => ?_)
    exact zm_loc [0] rfl (hb10 M7)
  · exact zm_loc [0] rfl (hb10 M)
abbrev Y_X11_named : zm_Y := (cX11_named, 3, RX11, { frames := 3, cells := 0, slots := 0, locals := 62 }, (some .int), false, "named")
noncomputable def f_X11_named_b49_12 (l12_2 : Int32) (M49 : zm_Mem) : Option ((Int32 × zm_Mem) ⊕ zm_Mem) :=
 zm_v (l12_2 + 1) <| fun x49 => some (.inl (x49, M49))
noncomputable def f_X11_named_l12 (x4 : Int32) (l12_2 : Int32) (L12 : zm_Mem) : Option ((Int32 × zm_Mem) ⊕ zm_Mem) :=
 if (L12.1 52 20) ≤ l12_2 then (some (.inr L12)) else (if (L12.1 52 13) = 0 then (zm_ck (zm_in l12_2 11) <| zm_ck (zm_in x4 403) <| if (lg_cmp (L12.2.1 60 l12_2.toNatClampNeg) (L12.2.1 58 x4.toNatClampNeg)) = 0 then (zm_b2 (f_X11_wrong 3 x4 L12) <| fun _ M46 => f_X11_named_b49_12 l12_2 M46) else (f_X11_named_b49_12 l12_2 L12)) else (some (.inr L12)))
noncomputable def f_X11_named  (M : zm_Mem) : Option (Int32 × zm_Mem) :=
  zm_v (M.1 52 11) <| fun x4 => zm_b2 (f_X11_must 1 M) <| fun _ M7 => (zm_lp (fun s => f_X11_named_l12 x4 s.1 s.2) (0, M7)).bind (fun e55 => some (x4, e55))
set_option maxRecDepth 20000 in
set_option maxHeartbeats 4000000 in
theorem k_X11_named (E : zm_E) (sv : Nat)  (M : zm_Mem) {r : Int32} {M' : zm_Mem} (h : f_X11_named M = some (r, M')) : zm_Ct E (zm_w sv) (zm_w sv) yX11_named Y_X11_named [.ref (E.2.1 + 52)] M (some (.int r)) M' := by
  refine zm_meth (emb := zm_ei) (d := f_X11_named M) (by decide) rfl rfl (Nat.le_of_ble_eq_true rfl) h (fun X => ?_)
  show zm_V X Y_X11_named E (zm_Q X E Y_X11_named.2.2.2.1.cells Y_X11_named.2.2.2.1.slots (zm_w sv) zm_ei) 0 0 false (zm_w sv) 0 [(0, .ref (E.2.1 + 52))] [] M (f_X11_named M) some
  unfold f_X11_named
  refine zm_aload_n 1 rfl dX11_named_0 rfl 0 rfl ?_
  refine zm_getI 4 rfl dX11_named_1 fl_X11_224 rfl (zm_L (sv := sv) rfl) ?_
  refine zm_nmi (fun x4 _ => ?_)
  refine zm_istore_n (lv' := [(1, .int x4), (0, .ref (E.2.1 + 52))]) 5 rfl dX11_named_4 rfl (by decide) rfl ?_
  refine zm_aload_n 6 rfl dX11_named_5 rfl 1 rfl ?_
  refine zm_iconst 7 rfl dX11_named_6 zi_1 ?_
  refine zm_cV1v 10 rfl dX11_named_7 ml_X11_292 rfl (zm_L (sv := sv) rfl) rfl (Nat.le_of_ble_eq_true rfl) ⟨Nat.le_of_ble_eq_true rfl, Nat.le_of_ble_eq_true rfl⟩ rfl rfl ⟨Nat.le_refl _, Nat.le_refl _⟩ rfl (fun _ _ h => k_X11_must E sv 1 M h) (fun _ M7 => ?_)
  refine zm_iconst 11 rfl dX11_named_10 zi_0 ?_
  refine zm_istore_n (lv' := [(2, .int 0), (1, .int x4), (0, .ref (E.2.1 + 52))]) 12 rfl dX11_named_11 rfl (by decide) rfl ?_
  have hx55_12 : ∀ (N55 : zm_Mem), zm_V X Y_X11_named E (zm_Q X E Y_X11_named.2.2.2.1.cells Y_X11_named.2.2.2.1.slots (zm_w sv) zm_ei) 0 0 false (zm_w sv) 55 [(1, .int x4)] [] N55 (some (x4, N55)) some := by
    intro N55
    refine zm_iload_n 56 rfl dX11_named_55 rfl 0 rfl ?_
    exact zm_iret dX11_named_56 rfl (Nat.le_refl _) (Nat.le_refl _) rfl
  refine zm_loc [2, 1, 0] rfl (zm_lpp (σ := (Int32 × zm_Mem)) (ε := zm_Mem) (step := fun s => f_X11_named_l12 x4 s.1 s.2) (fun s => [(0, .ref (E.2.1 + 52)), (1, .int x4), (2, .int s.1)]) (fun s => s.2) (fun D12 f12 hf12a hf12b hD12 s => ?_) (0, M7))
  obtain ⟨l12_2, L12⟩ := s
  show zm_V X Y_X11_named E (zm_Q X E Y_X11_named.2.2.2.1.cells Y_X11_named.2.2.2.1.slots (zm_w sv) zm_ei) 0 0 false (zm_w sv) 12 [(0, .ref (E.2.1 + 52)), (1, .int x4), (2, .int l12_2)] [] L12 (f_X11_named_l12 x4 l12_2 L12) f12
  unfold f_X11_named_l12
  refine zm_iload_n 13 rfl dX11_named_12 rfl 2 rfl ?_
  refine zm_aload_n 14 rfl dX11_named_13 rfl 0 rfl ?_
  refine zm_getI 17 rfl dX11_named_14 fl_X11_257 rfl (zm_L (sv := sv) rfl) ?_
  refine zm_icmp_ge 55 20 (by decide) rfl dX11_named_17 ?_ ?_
  · exact zm_loc [1] rfl (zm_go (hf12b _) (zm_unb (hx55_12 L12)))
  · refine zm_aload_n 21 rfl dX11_named_20 rfl 0 rfl ?_
    refine zm_getI 24 rfl dX11_named_21 fl_X11_221 rfl (zm_L (sv := sv) rfl) ?_
    refine zm_if_ne 55 27 (by decide) rfl dX11_named_24 ?_ ?_
    · refine zm_aload_n 28 rfl dX11_named_27 rfl 0 rfl ?_
      refine zm_getR (a := 60) 31 rfl dX11_named_28 fl_X11_40 rfl (zm_L (sv := sv) rfl) rfl (by decide) ?_
      refine zm_iload_n 32 rfl dX11_named_31 rfl 2 rfl ?_
      refine zm_lald 33 rfl dX11_named_32 rfl (zm_L (sv := sv) rfl) ?_
      refine zm_aload_n 34 rfl dX11_named_33 rfl 0 rfl ?_
      refine zm_getR (a := 58) 37 rfl dX11_named_34 fl_X11_30 rfl (zm_L (sv := sv) rfl) rfl (by decide) ?_
      refine zm_iload_n 38 rfl dX11_named_37 rfl 1 rfl ?_
      refine zm_lald 39 rfl dX11_named_38 rfl (zm_L (sv := sv) rfl) ?_
      refine zm_lcmp 40 rfl dX11_named_39 ?_
      have hb49_12 : ∀ (M49 : zm_Mem), zm_V X Y_X11_named E (zm_Q X E Y_X11_named.2.2.2.1.cells Y_X11_named.2.2.2.1.slots (zm_w sv) zm_ei) 0 0 false (zm_w sv) 49 [(0, .ref (E.2.1 + 52)), (1, .int x4), (2, .int l12_2)] [] M49 (f_X11_named_b49_12 l12_2 M49) f12 := by
        intro M49
        unfold f_X11_named_b49_12
        refine zm_iinc (lv' := fun z => [(2, .int z), (0, .ref (E.2.1 + 52)), (1, .int x4)]) 52 rfl dX11_named_49 zi_1 2 rfl (by decide) (fun _ => rfl) (fun x49 _ => ?_)
        refine zm_goto 12 (by decide) dX11_named_52 ?_
        exact zm_loc [1, 2, 0] rfl (zm_go (hf12a _) (hD12 (x49, M49)))
      refine zm_if_ne 49 43 (by decide) rfl dX11_named_40 ?_ ?_
      · refine zm_aload_n 44 rfl dX11_named_43 rfl 0 rfl ?_
        refine zm_iconst 45 rfl dX11_named_44 zi_3 ?_
        refine zm_iload_n 46 rfl dX11_named_45 rfl 1 rfl ?_
        refine zm_cV2v 49 rfl dX11_named_46 ml_X11_298 rfl (zm_L (sv := sv) rfl) rfl (Nat.le_of_ble_eq_true rfl) ⟨Nat.le_of_ble_eq_true rfl, Nat.le_of_ble_eq_true rfl⟩ rfl rfl ⟨Nat.le_refl _, Nat.le_refl _⟩ rfl (fun _ _ h => k_X11_wrong E sv 3 x4 L12 h) (fun _ M46 => ?_)
        exact zm_loc [0, 1, 2] rfl (hb49_12 M46)
      · exact zm_loc [0, 1, 2] rfl (hb49_12 L12)
    · exact zm_loc [1] rfl (zm_go (hf12b _) (zm_unb (hx55_12 L12)))
abbrev Y_X11_bounded : zm_Y := (cX11_bounded, 4, RX11, { frames := 2, cells := 0, slots := 0, locals := 41 }, (some .int), false, "bounded")
noncomputable def f_X11_bounded_b15 (a1 : Int32) (M : zm_Mem) : Option (Int32 × zm_Mem) :=
 zm_b2 (f_X11_fail 1 M) <| fun _ M17 => some (a1, M17)
noncomputable def f_X11_bounded_b51 (x31 : Int32) (M51 : zm_Mem) : Option (Int32 × zm_Mem) :=
 zm_b2 (f_X11_goesOn M51) <| fun _ M52 => some (x31, M52)
noncomputable def f_X11_bounded_b42 (M : zm_Mem) (x31 : Int32) : Option (Int32 × zm_Mem) :=
 zm_b2 (f_X11_wrong 5 (M.1 52 11) M) <| fun _ M48 => f_X11_bounded_b51 x31 M48
noncomputable def f_X11_bounded (a1 : Int32) (a2 : Int32) (M : zm_Mem) : Option (Int32 × zm_Mem) :=
  if 0 < (M.1 52 13) then (f_X11_bounded_b15 a1 M) else (zm_b1 (f_X11_is 2 M) <| fun r9 => if r9 = 0 then (f_X11_bounded_b15 a1 M) else (zm_ck (zm_in (M.1 52 11) 403) <| zm_v (M.1 57 (M.1 52 11).toNatClampNeg) <| fun x31 => if x31 < a1 then (f_X11_bounded_b42 M x31) else (if x31 ≤ a2 then (f_X11_bounded_b51 x31 M) else (f_X11_bounded_b42 M x31))))
set_option maxRecDepth 20000 in
set_option maxHeartbeats 4000000 in
theorem k_X11_bounded (E : zm_E) (sv : Nat) (a1 : Int32) (a2 : Int32) (M : zm_Mem) {r : Int32} {M' : zm_Mem} (h : f_X11_bounded a1 a2 M = some (r, M')) : zm_Ct E (zm_w sv) (zm_w sv) yX11_bounded Y_X11_bounded [.ref (E.2.1 + 52), .int a1, .int a2] M (some (.int r)) M' := by
  refine zm_meth (emb := zm_ei) (d := f_X11_bounded a1 a2 M) (by decide) rfl rfl (Nat.le_of_ble_eq_true rfl) h (fun X => ?_)
  show zm_V X Y_X11_bounded E (zm_Q X E Y_X11_bounded.2.2.2.1.cells Y_X11_bounded.2.2.2.1.slots (zm_w sv) zm_ei) 0 0 false (zm_w sv) 0 [(0, .ref (E.2.1 + 52)), (1, .int a1), (2, .int a2)] [] M (f_X11_bounded a1 a2 M) some
  unfold f_X11_bounded
  refine zm_aload_n 1 rfl dX11_bounded_0 rfl 0 rfl ?_
  refine zm_getI 4 rfl dX11_bounded_1 fl_X11_221 rfl (zm_L (sv := sv) rfl) ?_
  have hb15 : zm_V X Y_X11_bounded E (zm_Q X E Y_X11_bounded.2.2.2.1.cells Y_X11_bounded.2.2.2.1.slots (zm_w sv) zm_ei) 0 0 false (zm_w sv) 15 [(0, .ref (E.2.1 + 52)), (1, .int a1)] [] M (f_X11_bounded_b15 a1 M) some := by
    unfold f_X11_bounded_b15
    refine zm_aload_n 16 rfl dX11_bounded_15 rfl 0 rfl ?_
    refine zm_iconst 17 rfl dX11_bounded_16 zi_1 ?_
    refine zm_cV1v 20 rfl dX11_bounded_17 ml_X11_236 rfl (zm_L (sv := sv) rfl) rfl (Nat.le_of_ble_eq_true rfl) ⟨Nat.le_of_ble_eq_true rfl, Nat.le_of_ble_eq_true rfl⟩ rfl rfl ⟨Nat.le_refl _, Nat.le_refl _⟩ rfl (fun _ _ h => k_X11_fail E sv 1 M h) (fun _ M17 => ?_)
    refine zm_iload_n 21 rfl dX11_bounded_20 rfl 1 rfl ?_
    exact zm_iret dX11_bounded_21 rfl (Nat.le_refl _) (Nat.le_refl _) rfl
  refine zm_if_gt 15 7 (by decide) rfl dX11_bounded_4 ?_ ?_
  · exact zm_loc [0, 1] rfl (hb15)
  · refine zm_aload_n 8 rfl dX11_bounded_7 rfl 0 rfl ?_
    refine zm_iconst 9 rfl dX11_bounded_8 zi_2 ?_
    refine zm_cV1ir 12 rfl dX11_bounded_9 ml_X11_239 rfl (zm_L (sv := sv) rfl) rfl (Nat.le_of_ble_eq_true rfl) ⟨Nat.le_of_ble_eq_true rfl, Nat.le_of_ble_eq_true rfl⟩ rfl rfl ⟨Nat.le_refl _, Nat.le_refl _⟩ rfl (fun _ h => k_X11_is E sv 2 M h) (fun r9 => ?_)
    refine zm_if_ne 22 15 (by decide) rfl dX11_bounded_12 ?_ ?_
    · exact zm_loc [0, 1] rfl (hb15)
    · refine zm_aload_n 23 rfl dX11_bounded_22 rfl 0 rfl ?_
      refine zm_getR (a := 57) 26 rfl dX11_bounded_23 fl_X11_27 rfl (zm_L (sv := sv) rfl) rfl (by decide) ?_
      refine zm_aload_n 27 rfl dX11_bounded_26 rfl 0 rfl ?_
      refine zm_getI 30 rfl dX11_bounded_27 fl_X11_224 rfl (zm_L (sv := sv) rfl) ?_
      refine zm_iald 31 rfl dX11_bounded_30 rfl (zm_L (sv := sv) rfl) ?_
      refine zm_nmi (fun x31 _ => ?_)
      refine zm_istore_n (lv' := [(3, .int x31), (0, .ref (E.2.1 + 52)), (1, .int a1), (2, .int a2)]) 32 rfl dX11_bounded_31 rfl (by decide) rfl ?_
      refine zm_iload_n 33 rfl dX11_bounded_32 rfl 0 rfl ?_
      refine zm_iload_n 34 rfl dX11_bounded_33 rfl 2 rfl ?_
      have hb51 : ∀ (M51 : zm_Mem), zm_V X Y_X11_bounded E (zm_Q X E Y_X11_bounded.2.2.2.1.cells Y_X11_bounded.2.2.2.1.slots (zm_w sv) zm_ei) 0 0 false (zm_w sv) 51 [(0, .ref (E.2.1 + 52)), (3, .int x31)] [] M51 (f_X11_bounded_b51 x31 M51) some := by
        intro M51
        unfold f_X11_bounded_b51
        refine zm_aload_n 52 rfl dX11_bounded_51 rfl 0 rfl ?_
        refine zm_cV0v 55 rfl dX11_bounded_52 ml_X11_242 rfl (zm_L (sv := sv) rfl) rfl (Nat.le_of_ble_eq_true rfl) ⟨Nat.le_of_ble_eq_true rfl, Nat.le_of_ble_eq_true rfl⟩ rfl rfl ⟨Nat.le_refl _, Nat.le_refl _⟩ rfl (fun _ _ h => k_X11_goesOn E sv M51 h) (fun _ M52 => ?_)
        refine zm_iload_n 56 rfl dX11_bounded_55 rfl 1 rfl ?_
        exact zm_iret dX11_bounded_56 rfl (Nat.le_refl _) (Nat.le_refl _) rfl
      have hb42 : zm_V X Y_X11_bounded E (zm_Q X E Y_X11_bounded.2.2.2.1.cells Y_X11_bounded.2.2.2.1.slots (zm_w sv) zm_ei) 0 0 false (zm_w sv) 42 [(0, .ref (E.2.1 + 52)), (3, .int x31)] [] M (f_X11_bounded_b42 M x31) some := by
        unfold f_X11_bounded_b42
        refine zm_aload_n 43 rfl dX11_bounded_42 rfl 0 rfl ?_
        refine zm_iconst 44 rfl dX11_bounded_43 zi_5 ?_
        refine zm_aload_n 45 rfl dX11_bounded_44 rfl 0 rfl ?_
        refine zm_getI 48 rfl dX11_bounded_45 fl_X11_224 rfl (zm_L (sv := sv) rfl) ?_
        refine zm_cV2v 51 rfl dX11_bounded_48 ml_X11_298 rfl (zm_L (sv := sv) rfl) rfl (Nat.le_of_ble_eq_true rfl) ⟨Nat.le_of_ble_eq_true rfl, Nat.le_of_ble_eq_true rfl⟩ rfl rfl ⟨Nat.le_refl _, Nat.le_refl _⟩ rfl (fun _ _ h => k_X11_wrong E sv 5 (M.1 52 11) M h) (fun _ M48 => ?_)
        exact zm_loc [0, 1] rfl (hb51 M48)
      refine zm_icmp_lt 42 37 (by decide) rfl dX11_bounded_34 ?_ ?_
      · exact zm_loc [1, 0] rfl (hb42)
      · refine zm_iload_n 38 rfl dX11_bounded_37 rfl 0 rfl ?_
        refine zm_iload_n 39 rfl dX11_bounded_38 rfl 3 rfl ?_
        refine zm_icmp_le 51 42 (by decide) rfl dX11_bounded_39 ?_ ?_
        · exact zm_loc [1, 0] rfl (hb51 M)
        · exact zm_loc [1, 0] rfl (hb42)
abbrev Y_X11_ends : zm_Y := (cX11_ends, 4, RX11, { frames := 3, cells := 0, slots := 0, locals := 62 }, none, false, "ends")
noncomputable def f_X11_ends (a1 : Int32) (a2 : Int32) (a3 : Int32) (M : zm_Mem) : Option (Unit × zm_Mem) :=
  zm_b2 (f_X11_must 4 M) <| fun _ M2 => if (M2.1 52 13) ≤ 0 then (zm_ck (zm_in a1 403) <| zm_ck (zm_in (M2.1 52 20) 11) <| zm_v (zm_sL M2 60 (M2.1 52 20).toNatClampNeg (M2.2.1 58 a1.toNatClampNeg)) <| fun M27 => zm_ck (zm_in (M27.1 52 20) 11) <| zm_v (zm_sI M27 61 (M27.1 52 20).toNatClampNeg a2) <| fun M37 => zm_ck (zm_in (M37.1 52 20) 11) <| zm_v (zm_sI M37 62 (M37.1 52 20).toNatClampNeg a3) <| fun M47 => zm_v (zm_sI M47 52 20 ((M47.1 52 20) + 1)) <| fun M55 => some ((), M55)) else (some ((), M2))
set_option maxRecDepth 20000 in
set_option maxHeartbeats 4000000 in
theorem k_X11_ends (E : zm_E) (sv : Nat) (a1 : Int32) (a2 : Int32) (a3 : Int32) (M : zm_Mem) {r : Unit} {M' : zm_Mem} (h : f_X11_ends a1 a2 a3 M = some (r, M')) : zm_Ct E (zm_w sv) (zm_w sv) yX11_ends Y_X11_ends [.ref (E.2.1 + 52), .int a1, .int a2, .int a3] M none M' := by
  refine zm_meth (emb := zm_ev) (d := f_X11_ends a1 a2 a3 M) (by decide) rfl rfl (Nat.le_of_ble_eq_true rfl) h (fun X => ?_)
  show zm_V X Y_X11_ends E (zm_Q X E Y_X11_ends.2.2.2.1.cells Y_X11_ends.2.2.2.1.slots (zm_w sv) zm_ev) 0 0 false (zm_w sv) 0 [(0, .ref (E.2.1 + 52)), (1, .int a1), (2, .int a2), (3, .int a3)] [] M (f_X11_ends a1 a2 a3 M) some
  unfold f_X11_ends
  refine zm_aload_n 1 rfl dX11_ends_0 rfl 0 rfl ?_
  refine zm_iconst 2 rfl dX11_ends_1 zi_4 ?_
  refine zm_cV1v 5 rfl dX11_ends_2 ml_X11_292 rfl (zm_L (sv := sv) rfl) rfl (Nat.le_of_ble_eq_true rfl) ⟨Nat.le_of_ble_eq_true rfl, Nat.le_of_ble_eq_true rfl⟩ rfl rfl ⟨Nat.le_refl _, Nat.le_refl _⟩ rfl (fun _ _ h => k_X11_must E sv 4 M h) (fun _ M2 => ?_)
  refine zm_aload_n 6 rfl dX11_ends_5 rfl 0 rfl ?_
  refine zm_getI 9 rfl dX11_ends_6 fl_X11_221 rfl (zm_L (sv := sv) rfl) ?_
  refine zm_if_le 13 12 (by decide) rfl dX11_ends_9 ?_ ?_
  · refine zm_aload_n 14 rfl dX11_ends_13 rfl 0 rfl ?_
    refine zm_getR (a := 60) 17 rfl dX11_ends_14 fl_X11_40 rfl (zm_L (sv := sv) rfl) rfl (by decide) ?_
    refine zm_aload_n 18 rfl dX11_ends_17 rfl 0 rfl ?_
    refine zm_getI 21 rfl dX11_ends_18 fl_X11_257 rfl (zm_L (sv := sv) rfl) ?_
    refine zm_aload_n 22 rfl dX11_ends_21 rfl 0 rfl ?_
    refine zm_getR (a := 58) 25 rfl dX11_ends_22 fl_X11_30 rfl (zm_L (sv := sv) rfl) rfl (by decide) ?_
    refine zm_iload_n 26 rfl dX11_ends_25 rfl 1 rfl ?_
    refine zm_lald 27 rfl dX11_ends_26 rfl (zm_L (sv := sv) rfl) ?_
    refine zm_last 28 rfl dX11_ends_27 rfl (zm_L (sv := sv) rfl) (fun M27 _ => ?_)
    refine zm_aload_n 29 rfl dX11_ends_28 rfl 0 rfl ?_
    refine zm_getR (a := 61) 32 rfl dX11_ends_29 fl_X11_43 rfl (zm_L (sv := sv) rfl) rfl (by decide) ?_
    refine zm_aload_n 33 rfl dX11_ends_32 rfl 0 rfl ?_
    refine zm_getI 36 rfl dX11_ends_33 fl_X11_257 rfl (zm_L (sv := sv) rfl) ?_
    refine zm_iload_n 37 rfl dX11_ends_36 rfl 2 rfl ?_
    refine zm_iast 38 rfl dX11_ends_37 rfl (zm_L (sv := sv) rfl) (fun M37 _ => ?_)
    refine zm_aload_n 39 rfl dX11_ends_38 rfl 0 rfl ?_
    refine zm_getR (a := 62) 42 rfl dX11_ends_39 fl_X11_46 rfl (zm_L (sv := sv) rfl) rfl (by decide) ?_
    refine zm_aload_n 43 rfl dX11_ends_42 rfl 0 rfl ?_
    refine zm_getI 46 rfl dX11_ends_43 fl_X11_257 rfl (zm_L (sv := sv) rfl) ?_
    refine zm_iload_n 47 rfl dX11_ends_46 rfl 3 rfl ?_
    refine zm_iast 48 rfl dX11_ends_47 rfl (zm_L (sv := sv) rfl) (fun M47 _ => ?_)
    refine zm_aload_n 49 rfl dX11_ends_48 rfl 0 rfl ?_
    refine zm_dup 50 rfl dX11_ends_49 rfl ?_
    refine zm_getI 53 rfl dX11_ends_50 fl_X11_257 rfl (zm_L (sv := sv) rfl) ?_
    refine zm_iconst 54 rfl dX11_ends_53 zi_1 ?_
    refine zm_iadd 55 rfl dX11_ends_54 ?_
    refine zm_putI 58 rfl dX11_ends_55 fp_X11_257 rfl (zm_L (sv := sv) rfl) rfl rfl (fun M55 _ => ?_)
    exact zm_vret dX11_ends_58 rfl (Nat.le_refl _) (Nat.le_refl _) rfl
  · exact zm_vret dX11_ends_12 rfl (Nat.le_refl _) (Nat.le_refl _) rfl
abbrev Y_X11_tellHouse : zm_Y := (cX11_tellHouse, 3, RX11, { frames := 4, cells := 0, slots := 0, locals := 85 }, none, false, "tellHouse")
noncomputable def f_X11_tellHouse  (M : zm_Mem) : Option (Unit × zm_Mem) :=
  zm_ck (zm_in (M.1 52 19) 2) <| zm_v ((5 * (M.1 52 19)) + (M.1 63 (M.1 52 19).toNatClampNeg)) <| fun x16 => zm_b2 (f_X11_named M) <| fun r18 M18 => zm_b2 (f_X11_bounded 0 9 M18) <| fun r31 M31 => zm_ck (zm_in x16 10) <| zm_v (zm_sI M31 64 x16.toNatClampNeg r31) <| fun M34 => zm_b2 (f_X11_bounded 0 9 M34) <| fun r44 M44 => zm_ck (zm_in x16 10) <| zm_v (zm_sI M44 65 x16.toNatClampNeg r44) <| fun M47 => zm_ck (zm_in (M47.1 52 19) 2) <| zm_b2 (f_X11_ends r18 0 (M47.1 63 (M47.1 52 19).toNatClampNeg) M47) <| fun _ M60 => if (M60.1 52 13) = 0 then (zm_ck (zm_in (M60.1 52 19) 2) <| zm_ck (zm_in (M60.1 52 19) 2) <| zm_v (zm_sI M60 63 (M60.1 52 19).toNatClampNeg ((M60.1 63 (M60.1 52 19).toNatClampNeg) + 1)) <| fun M82 => some ((), M82)) else (some ((), M60))
set_option maxRecDepth 20000 in
set_option maxHeartbeats 4000000 in
theorem k_X11_tellHouse (E : zm_E) (sv : Nat)  (M : zm_Mem) {r : Unit} {M' : zm_Mem} (h : f_X11_tellHouse M = some (r, M')) : zm_Ct E (zm_w sv) (zm_w sv) yX11_tellHouse Y_X11_tellHouse [.ref (E.2.1 + 52)] M none M' := by
  refine zm_meth (emb := zm_ev) (d := f_X11_tellHouse M) (by decide) rfl rfl (Nat.le_of_ble_eq_true rfl) h (fun X => ?_)
  show zm_V X Y_X11_tellHouse E (zm_Q X E Y_X11_tellHouse.2.2.2.1.cells Y_X11_tellHouse.2.2.2.1.slots (zm_w sv) zm_ev) 0 0 false (zm_w sv) 0 [(0, .ref (E.2.1 + 52))] [] M (f_X11_tellHouse M) some
  unfold f_X11_tellHouse
  refine zm_iconst 1 rfl dX11_tellHouse_0 zi_5 ?_
  refine zm_aload_n 2 rfl dX11_tellHouse_1 rfl 0 rfl ?_
  refine zm_getI 5 rfl dX11_tellHouse_2 fl_X11_254 rfl (zm_L (sv := sv) rfl) ?_
  refine zm_imul 6 rfl dX11_tellHouse_5 ?_
  refine zm_aload_n 7 rfl dX11_tellHouse_6 rfl 0 rfl ?_
  refine zm_getR (a := 63) 10 rfl dX11_tellHouse_7 fl_X11_49 rfl (zm_L (sv := sv) rfl) rfl (by decide) ?_
  refine zm_aload_n 11 rfl dX11_tellHouse_10 rfl 0 rfl ?_
  refine zm_getI 14 rfl dX11_tellHouse_11 fl_X11_254 rfl (zm_L (sv := sv) rfl) ?_
  refine zm_iald 15 rfl dX11_tellHouse_14 rfl (zm_L (sv := sv) rfl) ?_
  refine zm_iadd 16 rfl dX11_tellHouse_15 ?_
  refine zm_nmi (fun x16 _ => ?_)
  refine zm_istore_n (lv' := [(1, .int x16), (0, .ref (E.2.1 + 52))]) 17 rfl dX11_tellHouse_16 rfl (by decide) rfl ?_
  refine zm_aload_n 18 rfl dX11_tellHouse_17 rfl 1 rfl ?_
  refine zm_cV0i 21 rfl dX11_tellHouse_18 ml_X11_301 rfl (zm_L (sv := sv) rfl) rfl (Nat.le_of_ble_eq_true rfl) ⟨Nat.le_of_ble_eq_true rfl, Nat.le_of_ble_eq_true rfl⟩ rfl rfl ⟨Nat.le_refl _, Nat.le_refl _⟩ rfl (fun _ _ h => k_X11_named E sv M h) (fun r18 M18 => ?_)
  refine zm_istore_n (lv' := [(2, .int r18), (1, .int x16), (0, .ref (E.2.1 + 52))]) 22 rfl dX11_tellHouse_21 rfl (by decide) rfl ?_
  refine zm_aload_n 23 rfl dX11_tellHouse_22 rfl 2 rfl ?_
  refine zm_getR (a := 64) 26 rfl dX11_tellHouse_23 fl_X11_52 rfl (zm_L (sv := sv) rfl) rfl (by decide) ?_
  refine zm_iload_n 27 rfl dX11_tellHouse_26 rfl 1 rfl ?_
  refine zm_aload_n 28 rfl dX11_tellHouse_27 rfl 2 rfl ?_
  refine zm_iconst 29 rfl dX11_tellHouse_28 zi_0 ?_
  refine zm_bipush 31 rfl dX11_tellHouse_29 zb_9 ?_
  refine zm_cV2i 34 rfl dX11_tellHouse_31 ml_X11_288 rfl (zm_L (sv := sv) rfl) rfl (Nat.le_of_ble_eq_true rfl) ⟨Nat.le_of_ble_eq_true rfl, Nat.le_of_ble_eq_true rfl⟩ rfl rfl ⟨Nat.le_refl _, Nat.le_refl _⟩ rfl (fun _ _ h => k_X11_bounded E sv 0 9 M18 h) (fun r31 M31 => ?_)
  refine zm_iast 35 rfl dX11_tellHouse_34 rfl (zm_L (sv := sv) rfl) (fun M34 _ => ?_)
  refine zm_aload_n 36 rfl dX11_tellHouse_35 rfl 2 rfl ?_
  refine zm_getR (a := 65) 39 rfl dX11_tellHouse_36 fl_X11_55 rfl (zm_L (sv := sv) rfl) rfl (by decide) ?_
  refine zm_iload_n 40 rfl dX11_tellHouse_39 rfl 1 rfl ?_
  refine zm_aload_n 41 rfl dX11_tellHouse_40 rfl 2 rfl ?_
  refine zm_iconst 42 rfl dX11_tellHouse_41 zi_0 ?_
  refine zm_bipush 44 rfl dX11_tellHouse_42 zb_9 ?_
  refine zm_cV2i 47 rfl dX11_tellHouse_44 ml_X11_288 rfl (zm_L (sv := sv) rfl) rfl (Nat.le_of_ble_eq_true rfl) ⟨Nat.le_of_ble_eq_true rfl, Nat.le_of_ble_eq_true rfl⟩ rfl rfl ⟨Nat.le_refl _, Nat.le_refl _⟩ rfl (fun _ _ h => k_X11_bounded E sv 0 9 M34 h) (fun r44 M44 => ?_)
  refine zm_iast 48 rfl dX11_tellHouse_47 rfl (zm_L (sv := sv) rfl) (fun M47 _ => ?_)
  refine zm_aload_n 49 rfl dX11_tellHouse_48 rfl 2 rfl ?_
  refine zm_iload_n 50 rfl dX11_tellHouse_49 rfl 0 rfl ?_
  refine zm_iconst 51 rfl dX11_tellHouse_50 zi_0 ?_
  refine zm_aload_n 52 rfl dX11_tellHouse_51 rfl 2 rfl ?_
  refine zm_getR (a := 63) 55 rfl dX11_tellHouse_52 fl_X11_49 rfl (zm_L (sv := sv) rfl) rfl (by decide) ?_
  refine zm_aload_n 56 rfl dX11_tellHouse_55 rfl 2 rfl ?_
  refine zm_getI 59 rfl dX11_tellHouse_56 fl_X11_254 rfl (zm_L (sv := sv) rfl) ?_
  refine zm_iald 60 rfl dX11_tellHouse_59 rfl (zm_L (sv := sv) rfl) ?_
  refine zm_cV3v 63 rfl dX11_tellHouse_60 ml_X11_305 rfl (zm_L (sv := sv) rfl) rfl (Nat.le_of_ble_eq_true rfl) ⟨Nat.le_of_ble_eq_true rfl, Nat.le_of_ble_eq_true rfl⟩ rfl rfl ⟨Nat.le_refl _, Nat.le_refl _⟩ rfl (fun _ _ h => k_X11_ends E sv r18 0 (M47.1 63 (M47.1 52 19).toNatClampNeg) M47 h) (fun _ M60 => ?_)
  refine zm_aload_n 64 rfl dX11_tellHouse_63 rfl 2 rfl ?_
  refine zm_getI 67 rfl dX11_tellHouse_64 fl_X11_221 rfl (zm_L (sv := sv) rfl) ?_
  refine zm_if_ne 83 70 (by decide) rfl dX11_tellHouse_67 ?_ ?_
  · refine zm_aload_n 71 rfl dX11_tellHouse_70 rfl 2 rfl ?_
    refine zm_getR (a := 63) 74 rfl dX11_tellHouse_71 fl_X11_49 rfl (zm_L (sv := sv) rfl) rfl (by decide) ?_
    refine zm_aload_n 75 rfl dX11_tellHouse_74 rfl 2 rfl ?_
    refine zm_getI 78 rfl dX11_tellHouse_75 fl_X11_254 rfl (zm_L (sv := sv) rfl) ?_
    refine zm_dup2 79 rfl dX11_tellHouse_78 rfl rfl ?_
    refine zm_iald 80 rfl dX11_tellHouse_79 rfl (zm_L (sv := sv) rfl) ?_
    refine zm_iconst 81 rfl dX11_tellHouse_80 zi_1 ?_
    refine zm_iadd 82 rfl dX11_tellHouse_81 ?_
    refine zm_iast 83 rfl dX11_tellHouse_82 rfl (zm_L (sv := sv) rfl) (fun M82 _ => ?_)
    exact zm_vret dX11_tellHouse_83 rfl (Nat.le_refl _) (Nat.le_refl _) rfl
  · exact zm_vret dX11_tellHouse_83 rfl (Nat.le_refl _) (Nat.le_refl _) rfl
abbrev Y_X11_known : zm_Y := (cX11_known, 4, RX11, { frames := 3, cells := 0, slots := 0, locals := 62 }, (some .int), false, "known")
noncomputable def f_X11_known_x55_21 (M7 : zm_Mem) (e55_3 : Int32) : Option (Int32 × zm_Mem) :=
 zm_ck (zm_in e55_3 11) <| some (M7.1 62 e55_3.toNatClampNeg, M7)
noncomputable def f_X11_known_b62_21 (l21_3 : Int32) : Option (Int32 ⊕ (Int32 ⊕ Unit)) :=
 zm_v (l21_3 + 1) <| fun x62 => some (.inl x62)
noncomputable def f_X11_known_l21 (a1 : Int32) (x4 : Int32) (M7 : zm_Mem) (l21_3 : Int32) : Option (Int32 ⊕ (Int32 ⊕ Unit)) :=
 if (M7.1 52 20) ≤ l21_3 then (some (.inr (.inr ()))) else (zm_ck (zm_in l21_3 11) <| zm_ck (zm_in x4 403) <| if (lg_cmp (M7.2.1 60 l21_3.toNatClampNeg) (M7.2.1 58 x4.toNatClampNeg)) = 0 then (zm_ck (zm_in l21_3 11) <| if (M7.1 61 l21_3.toNatClampNeg) = a1 then (some (.inr (.inl l21_3))) else (f_X11_known_b62_21 l21_3)) else (f_X11_known_b62_21 l21_3))
noncomputable def f_X11_known (a1 : Int32) (M : zm_Mem) : Option (Int32 × zm_Mem) :=
  zm_v (M.1 52 11) <| fun x4 => zm_b2 (f_X11_must 1 M) <| fun _ M7 => if (M7.1 52 13) ≤ 0 then ((zm_lp (f_X11_known_l21 a1 x4 M7) 0).bind (Sum.elim (fun e55 => f_X11_known_x55_21 M7 e55) (fun _ => zm_b2 (f_X11_wrong 4 x4 M7) <| fun _ M71 => some ((-1), M71)))) else (some ((-1), M7))
set_option maxRecDepth 20000 in
set_option maxHeartbeats 4000000 in
theorem k_X11_known (E : zm_E) (sv : Nat) (a1 : Int32) (M : zm_Mem) {r : Int32} {M' : zm_Mem} (h : f_X11_known a1 M = some (r, M')) : zm_Ct E (zm_w sv) (zm_w sv) yX11_known Y_X11_known [.ref (E.2.1 + 52), .int a1] M (some (.int r)) M' := by
  refine zm_meth (emb := zm_ei) (d := f_X11_known a1 M) (by decide) rfl rfl (Nat.le_of_ble_eq_true rfl) h (fun X => ?_)
  show zm_V X Y_X11_known E (zm_Q X E Y_X11_known.2.2.2.1.cells Y_X11_known.2.2.2.1.slots (zm_w sv) zm_ei) 0 0 false (zm_w sv) 0 [(0, .ref (E.2.1 + 52)), (1, .int a1)] [] M (f_X11_known a1 M) some
  unfold f_X11_known
  refine zm_aload_n 1 rfl dX11_known_0 rfl 0 rfl ?_
  refine zm_getI 4 rfl dX11_known_1 fl_X11_224 rfl (zm_L (sv := sv) rfl) ?_
  refine zm_nmi (fun x4 _ => ?_)
  refine zm_istore_n (lv' := [(2, .int x4), (0, .ref (E.2.1 + 52)), (1, .int a1)]) 5 rfl dX11_known_4 rfl (by decide) rfl ?_
  refine zm_aload_n 6 rfl dX11_known_5 rfl 1 rfl ?_
  refine zm_iconst 7 rfl dX11_known_6 zi_1 ?_
  refine zm_cV1v 10 rfl dX11_known_7 ml_X11_292 rfl (zm_L (sv := sv) rfl) rfl (Nat.le_of_ble_eq_true rfl) ⟨Nat.le_of_ble_eq_true rfl, Nat.le_of_ble_eq_true rfl⟩ rfl rfl ⟨Nat.le_refl _, Nat.le_refl _⟩ rfl (fun _ _ h => k_X11_must E sv 1 M h) (fun _ M7 => ?_)
  refine zm_aload_n 11 rfl dX11_known_10 rfl 1 rfl ?_
  refine zm_getI 14 rfl dX11_known_11 fl_X11_221 rfl (zm_L (sv := sv) rfl) ?_
  refine zm_if_le 19 17 (by decide) rfl dX11_known_14 ?_ ?_
  · refine zm_iconst 20 rfl dX11_known_19 zi_0 ?_
    refine zm_istore_n (lv' := [(3, .int 0), (2, .int x4), (0, .ref (E.2.1 + 52)), (1, .int a1)]) 21 rfl dX11_known_20 rfl (by decide) rfl ?_
    have hx55_21 : ∀ (e55_3 : Int32), zm_V X Y_X11_known E (zm_Q X E Y_X11_known.2.2.2.1.cells Y_X11_known.2.2.2.1.slots (zm_w sv) zm_ei) 0 0 false (zm_w sv) 55 [(0, .ref (E.2.1 + 52)), (3, .int e55_3)] [] M7 (f_X11_known_x55_21 M7 e55_3) some := by
      intro e55_3
      unfold f_X11_known_x55_21
      refine zm_aload_n 56 rfl dX11_known_55 rfl 0 rfl ?_
      refine zm_getR (a := 62) 59 rfl dX11_known_56 fl_X11_46 rfl (zm_L (sv := sv) rfl) rfl (by decide) ?_
      refine zm_iload_n 60 rfl dX11_known_59 rfl 1 rfl ?_
      refine zm_iald 61 rfl dX11_known_60 rfl (zm_L (sv := sv) rfl) ?_
      exact zm_iret dX11_known_61 rfl (Nat.le_refl _) (Nat.le_refl _) rfl
    have hx68_21 : zm_V X Y_X11_known E (zm_Q X E Y_X11_known.2.2.2.1.cells Y_X11_known.2.2.2.1.slots (zm_w sv) zm_ei) 0 0 false (zm_w sv) 68 [(0, .ref (E.2.1 + 52)), (2, .int x4)] [] M7 (zm_b2 (f_X11_wrong 4 x4 M7) <| fun _ M71 => some ((-1), M71)) some := by
      refine zm_aload_n 69 rfl dX11_known_68 rfl 0 rfl ?_
      refine zm_iconst 70 rfl dX11_known_69 zi_4 ?_
      refine zm_iload_n 71 rfl dX11_known_70 rfl 1 rfl ?_
      refine zm_cV2v 74 rfl dX11_known_71 ml_X11_298 rfl (zm_L (sv := sv) rfl) rfl (Nat.le_of_ble_eq_true rfl) ⟨Nat.le_of_ble_eq_true rfl, Nat.le_of_ble_eq_true rfl⟩ rfl rfl ⟨Nat.le_refl _, Nat.le_refl _⟩ rfl (fun _ _ h => k_X11_wrong E sv 4 x4 M7 h) (fun _ M71 => ?_)
      refine zm_iconst 75 rfl dX11_known_74 zi_m1 ?_
      exact zm_iret dX11_known_75 rfl (Nat.le_refl _) (Nat.le_refl _) rfl
    refine zm_loc [2, 3, 1, 0] rfl (zm_lpp (σ := Int32) (ε := (Int32 ⊕ Unit)) (step := f_X11_known_l21 a1 x4 M7) (fun s => [(0, .ref (E.2.1 + 52)), (1, .int a1), (2, .int x4), (3, .int s)]) (fun _ => M7) (fun D21 f21 hf21a hf21b hD21 s => ?_) 0)
    obtain ⟨l21_3, hq21⟩ : ∃ q, q = s := ⟨_, rfl⟩
    rw [← hq21]
    show zm_V X Y_X11_known E (zm_Q X E Y_X11_known.2.2.2.1.cells Y_X11_known.2.2.2.1.slots (zm_w sv) zm_ei) 0 0 false (zm_w sv) 21 [(0, .ref (E.2.1 + 52)), (1, .int a1), (2, .int x4), (3, .int l21_3)] [] M7 (f_X11_known_l21 a1 x4 M7 l21_3) f21
    unfold f_X11_known_l21
    refine zm_iload_n 22 rfl dX11_known_21 rfl 3 rfl ?_
    refine zm_aload_n 23 rfl dX11_known_22 rfl 0 rfl ?_
    refine zm_getI 26 rfl dX11_known_23 fl_X11_257 rfl (zm_L (sv := sv) rfl) ?_
    refine zm_icmp_ge 68 29 (by decide) rfl dX11_known_26 ?_ ?_
    · exact zm_loc [0, 2] rfl (zm_go (hf21b _) (zm_unb (hx68_21)))
    · refine zm_aload_n 30 rfl dX11_known_29 rfl 0 rfl ?_
      refine zm_getR (a := 60) 33 rfl dX11_known_30 fl_X11_40 rfl (zm_L (sv := sv) rfl) rfl (by decide) ?_
      refine zm_iload_n 34 rfl dX11_known_33 rfl 3 rfl ?_
      refine zm_lald 35 rfl dX11_known_34 rfl (zm_L (sv := sv) rfl) ?_
      refine zm_aload_n 36 rfl dX11_known_35 rfl 0 rfl ?_
      refine zm_getR (a := 58) 39 rfl dX11_known_36 fl_X11_30 rfl (zm_L (sv := sv) rfl) rfl (by decide) ?_
      refine zm_iload_n 40 rfl dX11_known_39 rfl 2 rfl ?_
      refine zm_lald 41 rfl dX11_known_40 rfl (zm_L (sv := sv) rfl) ?_
      refine zm_lcmp 42 rfl dX11_known_41 ?_
      have hb62_21 : zm_V X Y_X11_known E (zm_Q X E Y_X11_known.2.2.2.1.cells Y_X11_known.2.2.2.1.slots (zm_w sv) zm_ei) 0 0 false (zm_w sv) 62 [(0, .ref (E.2.1 + 52)), (1, .int a1), (2, .int x4), (3, .int l21_3)] [] M7 (f_X11_known_b62_21 l21_3) f21 := by
        unfold f_X11_known_b62_21
        refine zm_iinc (lv' := fun z => [(3, .int z), (0, .ref (E.2.1 + 52)), (1, .int a1), (2, .int x4)]) 65 rfl dX11_known_62 zi_1 3 rfl (by decide) (fun _ => rfl) (fun x62 _ => ?_)
        refine zm_goto 21 (by decide) dX11_known_65 ?_
        exact zm_loc [1, 2, 3, 0] rfl (zm_go (hf21a _) (hD21 x62))
      refine zm_if_ne 62 45 (by decide) rfl dX11_known_42 ?_ ?_
      · refine zm_aload_n 46 rfl dX11_known_45 rfl 0 rfl ?_
        refine zm_getR (a := 61) 49 rfl dX11_known_46 fl_X11_43 rfl (zm_L (sv := sv) rfl) rfl (by decide) ?_
        refine zm_iload_n 50 rfl dX11_known_49 rfl 3 rfl ?_
        refine zm_iald 51 rfl dX11_known_50 rfl (zm_L (sv := sv) rfl) ?_
        refine zm_iload_n 52 rfl dX11_known_51 rfl 1 rfl ?_
        refine zm_icmp_ne 62 55 (by decide) rfl dX11_known_52 ?_ ?_
        · exact zm_loc [0, 3] rfl (zm_go (hf21b _) (zm_unb (hx55_21 l21_3)))
        · exact zm_loc [0, 1, 2, 3] rfl (hb62_21)
      · exact zm_loc [0, 1, 2, 3] rfl (hb62_21)
  · refine zm_iconst 18 rfl dX11_known_17 zi_m1 ?_
    exact zm_iret dX11_known_18 rfl (Nat.le_refl _) (Nat.le_refl _) rfl
abbrev Y_X11_tellWork : zm_Y := (cX11_tellWork, 3, RX11, { frames := 4, cells := 0, slots := 0, locals := 85 }, none, false, "tellWork")
noncomputable def f_X11_tellWork  (M : zm_Mem) : Option (Unit × zm_Mem) :=
  zm_ck (zm_in (M.1 52 19) 2) <| zm_v ((6 * (M.1 52 19)) + (M.1 66 (M.1 52 19).toNatClampNeg)) <| fun x17 => zm_b2 (f_X11_named M) <| fun r19 M19 => zm_b2 (f_X11_known 0 M19) <| fun r30 M30 => zm_ck (zm_in x17 12) <| zm_v (zm_sI M30 67 x17.toNatClampNeg r30) <| fun M33 => zm_b2 (f_X11_known 0 M33) <| fun r41 M41 => zm_ck (zm_in x17 12) <| zm_v (zm_sI M41 68 x17.toNatClampNeg r41) <| fun M44 => zm_b2 (f_X11_bounded 0 9 M44) <| fun r54 M54 => zm_ck (zm_in x17 12) <| zm_v (zm_sI M54 69 x17.toNatClampNeg r54) <| fun M57 => zm_b2 (f_X11_bounded 0 99 M57) <| fun r67 M67 => zm_ck (zm_in x17 12) <| zm_v (zm_sI M67 70 x17.toNatClampNeg r67) <| fun M70 => zm_ck (zm_in (M70.1 52 19) 2) <| zm_b2 (f_X11_ends r19 1 (M70.1 66 (M70.1 52 19).toNatClampNeg) M70) <| fun _ M83 => if (M83.1 52 13) = 0 then (zm_ck (zm_in (M83.1 52 19) 2) <| zm_ck (zm_in (M83.1 52 19) 2) <| zm_v (zm_sI M83 66 (M83.1 52 19).toNatClampNeg ((M83.1 66 (M83.1 52 19).toNatClampNeg) + 1)) <| fun M105 => some ((), M105)) else (some ((), M83))
set_option maxRecDepth 20000 in
set_option maxHeartbeats 4000000 in
theorem k_X11_tellWork (E : zm_E) (sv : Nat)  (M : zm_Mem) {r : Unit} {M' : zm_Mem} (h : f_X11_tellWork M = some (r, M')) : zm_Ct E (zm_w sv) (zm_w sv) yX11_tellWork Y_X11_tellWork [.ref (E.2.1 + 52)] M none M' := by
  refine zm_meth (emb := zm_ev) (d := f_X11_tellWork M) (by decide) rfl rfl (Nat.le_of_ble_eq_true rfl) h (fun X => ?_)
  show zm_V X Y_X11_tellWork E (zm_Q X E Y_X11_tellWork.2.2.2.1.cells Y_X11_tellWork.2.2.2.1.slots (zm_w sv) zm_ev) 0 0 false (zm_w sv) 0 [(0, .ref (E.2.1 + 52))] [] M (f_X11_tellWork M) some
  unfold f_X11_tellWork
  refine zm_bipush 2 rfl dX11_tellWork_0 zb_6 ?_
  refine zm_aload_n 3 rfl dX11_tellWork_2 rfl 0 rfl ?_
  refine zm_getI 6 rfl dX11_tellWork_3 fl_X11_254 rfl (zm_L (sv := sv) rfl) ?_
  refine zm_imul 7 rfl dX11_tellWork_6 ?_
  refine zm_aload_n 8 rfl dX11_tellWork_7 rfl 0 rfl ?_
  refine zm_getR (a := 66) 11 rfl dX11_tellWork_8 fl_X11_58 rfl (zm_L (sv := sv) rfl) rfl (by decide) ?_
  refine zm_aload_n 12 rfl dX11_tellWork_11 rfl 0 rfl ?_
  refine zm_getI 15 rfl dX11_tellWork_12 fl_X11_254 rfl (zm_L (sv := sv) rfl) ?_
  refine zm_iald 16 rfl dX11_tellWork_15 rfl (zm_L (sv := sv) rfl) ?_
  refine zm_iadd 17 rfl dX11_tellWork_16 ?_
  refine zm_nmi (fun x17 _ => ?_)
  refine zm_istore_n (lv' := [(1, .int x17), (0, .ref (E.2.1 + 52))]) 18 rfl dX11_tellWork_17 rfl (by decide) rfl ?_
  refine zm_aload_n 19 rfl dX11_tellWork_18 rfl 1 rfl ?_
  refine zm_cV0i 22 rfl dX11_tellWork_19 ml_X11_301 rfl (zm_L (sv := sv) rfl) rfl (Nat.le_of_ble_eq_true rfl) ⟨Nat.le_of_ble_eq_true rfl, Nat.le_of_ble_eq_true rfl⟩ rfl rfl ⟨Nat.le_refl _, Nat.le_refl _⟩ rfl (fun _ _ h => k_X11_named E sv M h) (fun r19 M19 => ?_)
  refine zm_istore_n (lv' := [(2, .int r19), (1, .int x17), (0, .ref (E.2.1 + 52))]) 23 rfl dX11_tellWork_22 rfl (by decide) rfl ?_
  refine zm_aload_n 24 rfl dX11_tellWork_23 rfl 2 rfl ?_
  refine zm_getR (a := 67) 27 rfl dX11_tellWork_24 fl_X11_61 rfl (zm_L (sv := sv) rfl) rfl (by decide) ?_
  refine zm_iload_n 28 rfl dX11_tellWork_27 rfl 1 rfl ?_
  refine zm_aload_n 29 rfl dX11_tellWork_28 rfl 2 rfl ?_
  refine zm_iconst 30 rfl dX11_tellWork_29 zi_0 ?_
  refine zm_cV1i 33 rfl dX11_tellWork_30 ml_X11_309 rfl (zm_L (sv := sv) rfl) rfl (Nat.le_of_ble_eq_true rfl) ⟨Nat.le_of_ble_eq_true rfl, Nat.le_of_ble_eq_true rfl⟩ rfl rfl ⟨Nat.le_refl _, Nat.le_refl _⟩ rfl (fun _ _ h => k_X11_known E sv 0 M19 h) (fun r30 M30 => ?_)
  refine zm_iast 34 rfl dX11_tellWork_33 rfl (zm_L (sv := sv) rfl) (fun M33 _ => ?_)
  refine zm_aload_n 35 rfl dX11_tellWork_34 rfl 2 rfl ?_
  refine zm_getR (a := 68) 38 rfl dX11_tellWork_35 fl_X11_64 rfl (zm_L (sv := sv) rfl) rfl (by decide) ?_
  refine zm_iload_n 39 rfl dX11_tellWork_38 rfl 1 rfl ?_
  refine zm_aload_n 40 rfl dX11_tellWork_39 rfl 2 rfl ?_
  refine zm_iconst 41 rfl dX11_tellWork_40 zi_0 ?_
  refine zm_cV1i 44 rfl dX11_tellWork_41 ml_X11_309 rfl (zm_L (sv := sv) rfl) rfl (Nat.le_of_ble_eq_true rfl) ⟨Nat.le_of_ble_eq_true rfl, Nat.le_of_ble_eq_true rfl⟩ rfl rfl ⟨Nat.le_refl _, Nat.le_refl _⟩ rfl (fun _ _ h => k_X11_known E sv 0 M33 h) (fun r41 M41 => ?_)
  refine zm_iast 45 rfl dX11_tellWork_44 rfl (zm_L (sv := sv) rfl) (fun M44 _ => ?_)
  refine zm_aload_n 46 rfl dX11_tellWork_45 rfl 2 rfl ?_
  refine zm_getR (a := 69) 49 rfl dX11_tellWork_46 fl_X11_67 rfl (zm_L (sv := sv) rfl) rfl (by decide) ?_
  refine zm_iload_n 50 rfl dX11_tellWork_49 rfl 1 rfl ?_
  refine zm_aload_n 51 rfl dX11_tellWork_50 rfl 2 rfl ?_
  refine zm_iconst 52 rfl dX11_tellWork_51 zi_0 ?_
  refine zm_bipush 54 rfl dX11_tellWork_52 zb_9 ?_
  refine zm_cV2i 57 rfl dX11_tellWork_54 ml_X11_288 rfl (zm_L (sv := sv) rfl) rfl (Nat.le_of_ble_eq_true rfl) ⟨Nat.le_of_ble_eq_true rfl, Nat.le_of_ble_eq_true rfl⟩ rfl rfl ⟨Nat.le_refl _, Nat.le_refl _⟩ rfl (fun _ _ h => k_X11_bounded E sv 0 9 M44 h) (fun r54 M54 => ?_)
  refine zm_iast 58 rfl dX11_tellWork_57 rfl (zm_L (sv := sv) rfl) (fun M57 _ => ?_)
  refine zm_aload_n 59 rfl dX11_tellWork_58 rfl 2 rfl ?_
  refine zm_getR (a := 70) 62 rfl dX11_tellWork_59 fl_X11_70 rfl (zm_L (sv := sv) rfl) rfl (by decide) ?_
  refine zm_iload_n 63 rfl dX11_tellWork_62 rfl 1 rfl ?_
  refine zm_aload_n 64 rfl dX11_tellWork_63 rfl 2 rfl ?_
  refine zm_iconst 65 rfl dX11_tellWork_64 zi_0 ?_
  refine zm_bipush 67 rfl dX11_tellWork_65 zb_99 ?_
  refine zm_cV2i 70 rfl dX11_tellWork_67 ml_X11_288 rfl (zm_L (sv := sv) rfl) rfl (Nat.le_of_ble_eq_true rfl) ⟨Nat.le_of_ble_eq_true rfl, Nat.le_of_ble_eq_true rfl⟩ rfl rfl ⟨Nat.le_refl _, Nat.le_refl _⟩ rfl (fun _ _ h => k_X11_bounded E sv 0 99 M57 h) (fun r67 M67 => ?_)
  refine zm_iast 71 rfl dX11_tellWork_70 rfl (zm_L (sv := sv) rfl) (fun M70 _ => ?_)
  refine zm_aload_n 72 rfl dX11_tellWork_71 rfl 2 rfl ?_
  refine zm_iload_n 73 rfl dX11_tellWork_72 rfl 0 rfl ?_
  refine zm_iconst 74 rfl dX11_tellWork_73 zi_1 ?_
  refine zm_aload_n 75 rfl dX11_tellWork_74 rfl 2 rfl ?_
  refine zm_getR (a := 66) 78 rfl dX11_tellWork_75 fl_X11_58 rfl (zm_L (sv := sv) rfl) rfl (by decide) ?_
  refine zm_aload_n 79 rfl dX11_tellWork_78 rfl 2 rfl ?_
  refine zm_getI 82 rfl dX11_tellWork_79 fl_X11_254 rfl (zm_L (sv := sv) rfl) ?_
  refine zm_iald 83 rfl dX11_tellWork_82 rfl (zm_L (sv := sv) rfl) ?_
  refine zm_cV3v 86 rfl dX11_tellWork_83 ml_X11_305 rfl (zm_L (sv := sv) rfl) rfl (Nat.le_of_ble_eq_true rfl) ⟨Nat.le_of_ble_eq_true rfl, Nat.le_of_ble_eq_true rfl⟩ rfl rfl ⟨Nat.le_refl _, Nat.le_refl _⟩ rfl (fun _ _ h => k_X11_ends E sv r19 1 (M70.1 66 (M70.1 52 19).toNatClampNeg) M70 h) (fun _ M83 => ?_)
  refine zm_aload_n 87 rfl dX11_tellWork_86 rfl 2 rfl ?_
  refine zm_getI 90 rfl dX11_tellWork_87 fl_X11_221 rfl (zm_L (sv := sv) rfl) ?_
  refine zm_if_ne 106 93 (by decide) rfl dX11_tellWork_90 ?_ ?_
  · refine zm_aload_n 94 rfl dX11_tellWork_93 rfl 2 rfl ?_
    refine zm_getR (a := 66) 97 rfl dX11_tellWork_94 fl_X11_58 rfl (zm_L (sv := sv) rfl) rfl (by decide) ?_
    refine zm_aload_n 98 rfl dX11_tellWork_97 rfl 2 rfl ?_
    refine zm_getI 101 rfl dX11_tellWork_98 fl_X11_254 rfl (zm_L (sv := sv) rfl) ?_
    refine zm_dup2 102 rfl dX11_tellWork_101 rfl rfl ?_
    refine zm_iald 103 rfl dX11_tellWork_102 rfl (zm_L (sv := sv) rfl) ?_
    refine zm_iconst 104 rfl dX11_tellWork_103 zi_1 ?_
    refine zm_iadd 105 rfl dX11_tellWork_104 ?_
    refine zm_iast 106 rfl dX11_tellWork_105 rfl (zm_L (sv := sv) rfl) (fun M105 _ => ?_)
    exact zm_vret dX11_tellWork_106 rfl (Nat.le_refl _) (Nat.le_refl _) rfl
  · exact zm_vret dX11_tellWork_106 rfl (Nat.le_refl _) (Nat.le_refl _) rfl
abbrev Y_X11_emit : zm_Y := (cX11_emit, 3, RX11, { frames := 0, cells := 0, slots := 0, locals := 0 }, none, false, "emit")
noncomputable def f_X11_emit (a1 : Int32) (a2 : Int32) (M : zm_Mem) : Option (Unit × zm_Mem) :=
  zm_ck (zm_in (M.1 52 48) 840) <| zm_v (zm_sI M 86 (M.1 52 48).toNatClampNeg a1) <| fun M9 => zm_ck (zm_in (M9.1 52 48) 840) <| zm_v (zm_sI M9 87 (M9.1 52 48).toNatClampNeg a2) <| fun M19 => zm_v (zm_sI M19 52 48 ((M19.1 52 48) + 1)) <| fun M27 => some ((), M27)
set_option maxRecDepth 20000 in
set_option maxHeartbeats 4000000 in
theorem k_X11_emit (E : zm_E) (sv : Nat) (a1 : Int32) (a2 : Int32) (M : zm_Mem) {r : Unit} {M' : zm_Mem} (h : f_X11_emit a1 a2 M = some (r, M')) : zm_Ct E (zm_w sv) (zm_w sv) yX11_emit Y_X11_emit [.ref (E.2.1 + 52), .int a1, .int a2] M none M' := by
  refine zm_meth (emb := zm_ev) (d := f_X11_emit a1 a2 M) (by decide) rfl rfl (Nat.le_of_ble_eq_true rfl) h (fun X => ?_)
  show zm_V X Y_X11_emit E (zm_Q X E Y_X11_emit.2.2.2.1.cells Y_X11_emit.2.2.2.1.slots (zm_w sv) zm_ev) 0 0 false (zm_w sv) 0 [(0, .ref (E.2.1 + 52)), (1, .int a1), (2, .int a2)] [] M (f_X11_emit a1 a2 M) some
  unfold f_X11_emit
  refine zm_aload_n 1 rfl dX11_emit_0 rfl 0 rfl ?_
  refine zm_getR (a := 86) 4 rfl dX11_emit_1 fl_X11_119 rfl (zm_L (sv := sv) rfl) rfl (by decide) ?_
  refine zm_aload_n 5 rfl dX11_emit_4 rfl 0 rfl ?_
  refine zm_getI 8 rfl dX11_emit_5 fl_X11_263 rfl (zm_L (sv := sv) rfl) ?_
  refine zm_iload_n 9 rfl dX11_emit_8 rfl 1 rfl ?_
  refine zm_iast 10 rfl dX11_emit_9 rfl (zm_L (sv := sv) rfl) (fun M9 _ => ?_)
  refine zm_aload_n 11 rfl dX11_emit_10 rfl 0 rfl ?_
  refine zm_getR (a := 87) 14 rfl dX11_emit_11 fl_X11_122 rfl (zm_L (sv := sv) rfl) rfl (by decide) ?_
  refine zm_aload_n 15 rfl dX11_emit_14 rfl 0 rfl ?_
  refine zm_getI 18 rfl dX11_emit_15 fl_X11_263 rfl (zm_L (sv := sv) rfl) ?_
  refine zm_iload_n 19 rfl dX11_emit_18 rfl 2 rfl ?_
  refine zm_iast 20 rfl dX11_emit_19 rfl (zm_L (sv := sv) rfl) (fun M19 _ => ?_)
  refine zm_aload_n 21 rfl dX11_emit_20 rfl 0 rfl ?_
  refine zm_dup 22 rfl dX11_emit_21 rfl ?_
  refine zm_getI 25 rfl dX11_emit_22 fl_X11_263 rfl (zm_L (sv := sv) rfl) ?_
  refine zm_iconst 26 rfl dX11_emit_25 zi_1 ?_
  refine zm_iadd 27 rfl dX11_emit_26 ?_
  refine zm_putI 30 rfl dX11_emit_27 fp_X11_263 rfl (zm_L (sv := sv) rfl) rfl rfl (fun M27 _ => ?_)
  exact zm_vret dX11_emit_30 rfl (Nat.le_refl _) (Nat.le_refl _) rfl
abbrev Y_X11_unit : zm_Y := (cX11_unit, 1, RX11, { frames := 2, cells := 0, slots := 0, locals := 41 }, none, false, "unit")
noncomputable def f_X11_unit_b88 (M : zm_Mem) : Option (Unit × zm_Mem) :=
 zm_b2 (f_X11_fail 1 M) <| fun _ M90 => some ((), M90)
noncomputable def f_X11_unit  (M : zm_Mem) : Option (Unit × zm_Mem) :=
  zm_b1 (f_X11_is 2 M) <| fun r2 => if r2 = 0 then (if (M.1 52 13) = 0 then (zm_ck (zm_in (M.1 52 11) 403) <| if (M.1 55 (M.1 52 11).toNatClampNeg) < (31 : Int32) then (f_X11_unit_b88 M) else (zm_ck (zm_in (M.1 52 11) 403) <| if (39 : Int32) < (M.1 55 (M.1 52 11).toNatClampNeg) then (f_X11_unit_b88 M) else (zm_ck (zm_in (M.1 52 11) 403) <| zm_b2 (f_X11_emit 1 ((M.1 55 (M.1 52 11).toNatClampNeg) - 31) M) <| fun _ M78 => zm_b2 (f_X11_goesOn M78) <| fun _ M82 => some ((), M82)))) else (f_X11_unit_b88 M)) else (zm_ck (zm_in (M.1 52 11) 403) <| zm_b2 (f_X11_emit 0 (M.1 57 (M.1 52 11).toNatClampNeg) M) <| fun _ M19 => zm_b2 (f_X11_goesOn M19) <| fun _ M23 => some ((), M23))
set_option maxRecDepth 20000 in
set_option maxHeartbeats 4000000 in
theorem k_X11_unit (E : zm_E) (sv : Nat)  (M : zm_Mem) {r : Unit} {M' : zm_Mem} (h : f_X11_unit M = some (r, M')) : zm_Ct E (zm_w sv) (zm_w sv) yX11_unit Y_X11_unit [.ref (E.2.1 + 52)] M none M' := by
  refine zm_meth (emb := zm_ev) (d := f_X11_unit M) (by decide) rfl rfl (Nat.le_of_ble_eq_true rfl) h (fun X => ?_)
  show zm_V X Y_X11_unit E (zm_Q X E Y_X11_unit.2.2.2.1.cells Y_X11_unit.2.2.2.1.slots (zm_w sv) zm_ev) 0 0 false (zm_w sv) 0 [(0, .ref (E.2.1 + 52))] [] M (f_X11_unit M) some
  unfold f_X11_unit
  refine zm_aload_n 1 rfl dX11_unit_0 rfl 0 rfl ?_
  refine zm_iconst 2 rfl dX11_unit_1 zi_2 ?_
  refine zm_cV1ir 5 rfl dX11_unit_2 ml_X11_239 rfl (zm_L (sv := sv) rfl) rfl (Nat.le_of_ble_eq_true rfl) ⟨Nat.le_of_ble_eq_true rfl, Nat.le_of_ble_eq_true rfl⟩ rfl rfl ⟨Nat.le_refl _, Nat.le_refl _⟩ rfl (fun _ h => k_X11_is E sv 2 M h) (fun r2 => ?_)
  refine zm_if_eq 29 8 (by decide) rfl dX11_unit_5 ?_ ?_
  · refine zm_aload_n 30 rfl dX11_unit_29 rfl 0 rfl ?_
    refine zm_getI 33 rfl dX11_unit_30 fl_X11_221 rfl (zm_L (sv := sv) rfl) ?_
    have hb88 : zm_V X Y_X11_unit E (zm_Q X E Y_X11_unit.2.2.2.1.cells Y_X11_unit.2.2.2.1.slots (zm_w sv) zm_ev) 0 0 false (zm_w sv) 88 [(0, .ref (E.2.1 + 52))] [] M (f_X11_unit_b88 M) some := by
      unfold f_X11_unit_b88
      refine zm_aload_n 89 rfl dX11_unit_88 rfl 0 rfl ?_
      refine zm_iconst 90 rfl dX11_unit_89 zi_1 ?_
      refine zm_cV1v 93 rfl dX11_unit_90 ml_X11_236 rfl (zm_L (sv := sv) rfl) rfl (Nat.le_of_ble_eq_true rfl) ⟨Nat.le_of_ble_eq_true rfl, Nat.le_of_ble_eq_true rfl⟩ rfl rfl ⟨Nat.le_refl _, Nat.le_refl _⟩ rfl (fun _ _ h => k_X11_fail E sv 1 M h) (fun _ M90 => ?_)
      exact zm_vret dX11_unit_93 rfl (Nat.le_refl _) (Nat.le_refl _) rfl
    refine zm_if_ne 88 36 (by decide) rfl dX11_unit_33 ?_ ?_
    · refine zm_aload_n 37 rfl dX11_unit_36 rfl 0 rfl ?_
      refine zm_getR (a := 55) 40 rfl dX11_unit_37 fl_X11_20 rfl (zm_L (sv := sv) rfl) rfl (by decide) ?_
      refine zm_aload_n 41 rfl dX11_unit_40 rfl 0 rfl ?_
      refine zm_getI 44 rfl dX11_unit_41 fl_X11_224 rfl (zm_L (sv := sv) rfl) ?_
      refine zm_iald 45 rfl dX11_unit_44 rfl (zm_L (sv := sv) rfl) ?_
      refine zm_bipush 47 rfl dX11_unit_45 zb_31 ?_
      refine zm_icmp_lt 88 50 (by decide) rfl dX11_unit_47 ?_ ?_
      · exact zm_loc [0] rfl (hb88)
      · refine zm_aload_n 51 rfl dX11_unit_50 rfl 0 rfl ?_
        refine zm_getR (a := 55) 54 rfl dX11_unit_51 fl_X11_20 rfl (zm_L (sv := sv) rfl) rfl (by decide) ?_
        refine zm_aload_n 55 rfl dX11_unit_54 rfl 0 rfl ?_
        refine zm_getI 58 rfl dX11_unit_55 fl_X11_224 rfl (zm_L (sv := sv) rfl) ?_
        refine zm_iald 59 rfl dX11_unit_58 rfl (zm_L (sv := sv) rfl) ?_
        refine zm_bipush 61 rfl dX11_unit_59 zb_39 ?_
        refine zm_icmp_gt 88 64 (by decide) rfl dX11_unit_61 ?_ ?_
        · exact zm_loc [0] rfl (hb88)
        · refine zm_aload_n 65 rfl dX11_unit_64 rfl 0 rfl ?_
          refine zm_iconst 66 rfl dX11_unit_65 zi_1 ?_
          refine zm_aload_n 67 rfl dX11_unit_66 rfl 0 rfl ?_
          refine zm_getR (a := 55) 70 rfl dX11_unit_67 fl_X11_20 rfl (zm_L (sv := sv) rfl) rfl (by decide) ?_
          refine zm_aload_n 71 rfl dX11_unit_70 rfl 0 rfl ?_
          refine zm_getI 74 rfl dX11_unit_71 fl_X11_224 rfl (zm_L (sv := sv) rfl) ?_
          refine zm_iald 75 rfl dX11_unit_74 rfl (zm_L (sv := sv) rfl) ?_
          refine zm_bipush 77 rfl dX11_unit_75 zb_31 ?_
          refine zm_isub 78 rfl dX11_unit_77 ?_
          refine zm_cV2v 81 rfl dX11_unit_78 ml_X11_321 rfl (zm_L (sv := sv) rfl) rfl (Nat.le_of_ble_eq_true rfl) ⟨Nat.le_of_ble_eq_true rfl, Nat.le_of_ble_eq_true rfl⟩ rfl rfl ⟨Nat.le_refl _, Nat.le_refl _⟩ rfl (fun _ _ h => k_X11_emit E sv 1 ((M.1 55 (M.1 52 11).toNatClampNeg) - 31) M h) (fun _ M78 => ?_)
          refine zm_aload_n 82 rfl dX11_unit_81 rfl 0 rfl ?_
          refine zm_cV0v 85 rfl dX11_unit_82 ml_X11_242 rfl (zm_L (sv := sv) rfl) rfl (Nat.le_of_ble_eq_true rfl) ⟨Nat.le_of_ble_eq_true rfl, Nat.le_of_ble_eq_true rfl⟩ rfl rfl ⟨Nat.le_refl _, Nat.le_refl _⟩ rfl (fun _ _ h => k_X11_goesOn E sv M78 h) (fun _ M82 => ?_)
          refine zm_goto 93 (by decide) dX11_unit_85 ?_
          exact zm_vret dX11_unit_93 rfl (Nat.le_refl _) (Nat.le_refl _) rfl
    · exact zm_loc [0] rfl (hb88)
  · refine zm_aload_n 9 rfl dX11_unit_8 rfl 0 rfl ?_
    refine zm_iconst 10 rfl dX11_unit_9 zi_0 ?_
    refine zm_aload_n 11 rfl dX11_unit_10 rfl 0 rfl ?_
    refine zm_getR (a := 57) 14 rfl dX11_unit_11 fl_X11_27 rfl (zm_L (sv := sv) rfl) rfl (by decide) ?_
    refine zm_aload_n 15 rfl dX11_unit_14 rfl 0 rfl ?_
    refine zm_getI 18 rfl dX11_unit_15 fl_X11_224 rfl (zm_L (sv := sv) rfl) ?_
    refine zm_iald 19 rfl dX11_unit_18 rfl (zm_L (sv := sv) rfl) ?_
    refine zm_cV2v 22 rfl dX11_unit_19 ml_X11_321 rfl (zm_L (sv := sv) rfl) rfl (Nat.le_of_ble_eq_true rfl) ⟨Nat.le_of_ble_eq_true rfl, Nat.le_of_ble_eq_true rfl⟩ rfl rfl ⟨Nat.le_refl _, Nat.le_refl _⟩ rfl (fun _ _ h => k_X11_emit E sv 0 (M.1 57 (M.1 52 11).toNatClampNeg) M h) (fun _ M19 => ?_)
    refine zm_aload_n 23 rfl dX11_unit_22 rfl 0 rfl ?_
    refine zm_cV0v 26 rfl dX11_unit_23 ml_X11_242 rfl (zm_L (sv := sv) rfl) rfl (Nat.le_of_ble_eq_true rfl) ⟨Nat.le_of_ble_eq_true rfl, Nat.le_of_ble_eq_true rfl⟩ rfl rfl ⟨Nat.le_refl _, Nat.le_refl _⟩ rfl (fun _ _ h => k_X11_goesOn E sv M19 h) (fun _ M23 => ?_)
    refine zm_goto 93 (by decide) dX11_unit_26 ?_
    exact zm_vret dX11_unit_93 rfl (Nat.le_refl _) (Nat.le_refl _) rfl
abbrev Y_X11_comesOut : zm_Y := (cX11_comesOut, 3, RX11, { frames := 1, cells := 0, slots := 0, locals := 22 }, none, false, "comesOut")
noncomputable def f_X11_comesOut_b84_0 (M49 : zm_Mem) (b84_s1 : Int32) : Option (zm_Mem ⊕ (zm_Mem ⊕ zm_Mem)) :=
 zm_b2 (f_X11_emit b84_s1 0 M49) <| fun _ M85 => some (.inl M85)
noncomputable def f_X11_comesOut_b42_0 (L0 : zm_Mem) (x18 : Int32) : Option (zm_Mem ⊕ (zm_Mem ⊕ zm_Mem)) :=
 zm_v (zm_sI L0 52 52 ((L0.1 52 52) - 1)) <| fun M49 => if x18 = (8 : Int32) then (f_X11_comesOut_b84_0 M49 2) else (if x18 = (9 : Int32) then (f_X11_comesOut_b84_0 M49 3) else (if x18 = (10 : Int32) then (f_X11_comesOut_b84_0 M49 4) else (f_X11_comesOut_b84_0 M49 5)))
noncomputable def f_X11_comesOut_l0 (a1 : Int32) (L0 : zm_Mem) : Option (zm_Mem ⊕ (zm_Mem ⊕ zm_Mem)) :=
 if (L0.1 52 52) ≤ 0 then (some (.inr (.inr L0))) else (zm_ck (zm_in ((L0.1 52 52) - 1) 64) <| zm_v (L0.1 88 ((L0.1 52 52) - 1).toNatClampNeg) <| fun x18 => if x18 = (6 : Int32) then (some (.inr (.inl L0))) else (if a1 = 0 then (f_X11_comesOut_b42_0 L0 x18) else (if x18 = (8 : Int32) then (some (.inr (.inl L0))) else (if x18 = (9 : Int32) then (some (.inr (.inl L0))) else (f_X11_comesOut_b42_0 L0 x18)))))
noncomputable def f_X11_comesOut (a1 : Int32) (M : zm_Mem) : Option (Unit × zm_Mem) :=
  (zm_lp (f_X11_comesOut_l0 a1) M).bind (Sum.elim (fun e41 => some ((), e41)) (fun e91 => some ((), e91)))
set_option maxRecDepth 20000 in
set_option maxHeartbeats 4000000 in
theorem k_X11_comesOut (E : zm_E) (sv : Nat) (a1 : Int32) (M : zm_Mem) {r : Unit} {M' : zm_Mem} (h : f_X11_comesOut a1 M = some (r, M')) : zm_Ct E (zm_w sv) (zm_w sv) yX11_comesOut Y_X11_comesOut [.ref (E.2.1 + 52), .int a1] M none M' := by
  refine zm_meth (emb := zm_ev) (d := f_X11_comesOut a1 M) (by decide) rfl rfl (Nat.le_of_ble_eq_true rfl) h (fun X => ?_)
  show zm_V X Y_X11_comesOut E (zm_Q X E Y_X11_comesOut.2.2.2.1.cells Y_X11_comesOut.2.2.2.1.slots (zm_w sv) zm_ev) 0 0 false (zm_w sv) 0 [(0, .ref (E.2.1 + 52)), (1, .int a1)] [] M (f_X11_comesOut a1 M) some
  unfold f_X11_comesOut
  have hx41_0 : ∀ (N41 : zm_Mem), zm_V X Y_X11_comesOut E (zm_Q X E Y_X11_comesOut.2.2.2.1.cells Y_X11_comesOut.2.2.2.1.slots (zm_w sv) zm_ev) 0 0 false (zm_w sv) 41 [] [] N41 (some ((), N41)) some := by
    intro N41
    exact zm_vret dX11_comesOut_41 rfl (Nat.le_refl _) (Nat.le_refl _) rfl
  have hx91_0 : ∀ (N91 : zm_Mem), zm_V X Y_X11_comesOut E (zm_Q X E Y_X11_comesOut.2.2.2.1.cells Y_X11_comesOut.2.2.2.1.slots (zm_w sv) zm_ev) 0 0 false (zm_w sv) 91 [] [] N91 (some ((), N91)) some := by
    intro N91
    exact zm_vret dX11_comesOut_91 rfl (Nat.le_refl _) (Nat.le_refl _) rfl
  refine zm_loc [0, 1] rfl (zm_lpp (σ := zm_Mem) (ε := (zm_Mem ⊕ zm_Mem)) (step := f_X11_comesOut_l0 a1) (fun s => [(0, .ref (E.2.1 + 52)), (1, .int a1)]) (fun s => s) (fun D0 f0 hf0a hf0b hD0 s => ?_) M)
  obtain ⟨L0, hq0⟩ : ∃ q, q = s := ⟨_, rfl⟩
  rw [← hq0]
  show zm_V X Y_X11_comesOut E (zm_Q X E Y_X11_comesOut.2.2.2.1.cells Y_X11_comesOut.2.2.2.1.slots (zm_w sv) zm_ev) 0 0 false (zm_w sv) 0 [(0, .ref (E.2.1 + 52)), (1, .int a1)] [] L0 (f_X11_comesOut_l0 a1 L0) f0
  unfold f_X11_comesOut_l0
  refine zm_aload_n 1 rfl dX11_comesOut_0 rfl 0 rfl ?_
  refine zm_getI 4 rfl dX11_comesOut_1 fl_X11_318 rfl (zm_L (sv := sv) rfl) ?_
  refine zm_if_le 91 7 (by decide) rfl dX11_comesOut_4 ?_ ?_
  · exact zm_loc [] rfl (zm_go (hf0b _) (zm_unb (hx91_0 L0)))
  · refine zm_aload_n 8 rfl dX11_comesOut_7 rfl 0 rfl ?_
    refine zm_getR (a := 88) 11 rfl dX11_comesOut_8 fl_X11_125 rfl (zm_L (sv := sv) rfl) rfl (by decide) ?_
    refine zm_aload_n 12 rfl dX11_comesOut_11 rfl 0 rfl ?_
    refine zm_getI 15 rfl dX11_comesOut_12 fl_X11_318 rfl (zm_L (sv := sv) rfl) ?_
    refine zm_iconst 16 rfl dX11_comesOut_15 zi_1 ?_
    refine zm_isub 17 rfl dX11_comesOut_16 ?_
    refine zm_iald 18 rfl dX11_comesOut_17 rfl (zm_L (sv := sv) rfl) ?_
    refine zm_nmi (fun x18 _ => ?_)
    refine zm_istore_n (lv' := [(2, .int x18), (0, .ref (E.2.1 + 52)), (1, .int a1)]) 19 rfl dX11_comesOut_18 rfl (by decide) rfl ?_
    refine zm_iload_n 20 rfl dX11_comesOut_19 rfl 0 rfl ?_
    refine zm_bipush 22 rfl dX11_comesOut_20 zb_6 ?_
    refine zm_icmp_eq 41 25 (by decide) rfl dX11_comesOut_22 ?_ ?_
    · exact zm_loc [] rfl (zm_go (hf0b _) (zm_unb (hx41_0 L0)))
    · refine zm_iload_n 26 rfl dX11_comesOut_25 rfl 2 rfl ?_
      have hb42_0 : zm_V X Y_X11_comesOut E (zm_Q X E Y_X11_comesOut.2.2.2.1.cells Y_X11_comesOut.2.2.2.1.slots (zm_w sv) zm_ev) 0 0 false (zm_w sv) 42 [(0, .ref (E.2.1 + 52)), (1, .int a1), (2, .int x18)] [] L0 (f_X11_comesOut_b42_0 L0 x18) f0 := by
        unfold f_X11_comesOut_b42_0
        refine zm_aload_n 43 rfl dX11_comesOut_42 rfl 0 rfl ?_
        refine zm_dup 44 rfl dX11_comesOut_43 rfl ?_
        refine zm_getI 47 rfl dX11_comesOut_44 fl_X11_318 rfl (zm_L (sv := sv) rfl) ?_
        refine zm_iconst 48 rfl dX11_comesOut_47 zi_1 ?_
        refine zm_isub 49 rfl dX11_comesOut_48 ?_
        refine zm_putI 52 rfl dX11_comesOut_49 fp_X11_318 rfl (zm_L (sv := sv) rfl) rfl rfl (fun M49 _ => ?_)
        refine zm_aload_n 53 rfl dX11_comesOut_52 rfl 0 rfl ?_
        refine zm_iload_n 54 rfl dX11_comesOut_53 rfl 2 rfl ?_
        refine zm_bipush 56 rfl dX11_comesOut_54 zb_8 ?_
        have hb84_0 : ∀ (b84_s1 : Int32), zm_V X Y_X11_comesOut E (zm_Q X E Y_X11_comesOut.2.2.2.1.cells Y_X11_comesOut.2.2.2.1.slots (zm_w sv) zm_ev) 0 0 false (zm_w sv) 84 [(0, .ref (E.2.1 + 52)), (1, .int a1)] [.int b84_s1, .ref (E.2.1 + 52)] M49 (f_X11_comesOut_b84_0 M49 b84_s1) f0 := by
          intro b84_s1
          unfold f_X11_comesOut_b84_0
          refine zm_iconst 85 rfl dX11_comesOut_84 zi_0 ?_
          refine zm_cV2v 88 rfl dX11_comesOut_85 ml_X11_321 rfl (zm_L (sv := sv) rfl) rfl (Nat.le_of_ble_eq_true rfl) ⟨Nat.le_of_ble_eq_true rfl, Nat.le_of_ble_eq_true rfl⟩ rfl rfl ⟨Nat.le_refl _, Nat.le_refl _⟩ rfl (fun _ _ h => k_X11_emit E sv b84_s1 0 M49 h) (fun _ M85 => ?_)
          refine zm_goto 0 (by decide) dX11_comesOut_88 ?_
          exact zm_loc [0, 1] rfl (zm_go (hf0a _) (hD0 M85))
        refine zm_icmp_ne 63 59 (by decide) rfl dX11_comesOut_56 ?_ ?_
        · refine zm_iconst 60 rfl dX11_comesOut_59 zi_2 ?_
          refine zm_goto 84 (by decide) dX11_comesOut_60 ?_
          exact zm_loc [0, 1] rfl (hb84_0 2)
        · refine zm_iload_n 64 rfl dX11_comesOut_63 rfl 2 rfl ?_
          refine zm_bipush 66 rfl dX11_comesOut_64 zb_9 ?_
          refine zm_icmp_ne 73 69 (by decide) rfl dX11_comesOut_66 ?_ ?_
          · refine zm_iconst 70 rfl dX11_comesOut_69 zi_3 ?_
            refine zm_goto 84 (by decide) dX11_comesOut_70 ?_
            exact zm_loc [0, 1] rfl (hb84_0 3)
          · refine zm_iload_n 74 rfl dX11_comesOut_73 rfl 2 rfl ?_
            refine zm_bipush 76 rfl dX11_comesOut_74 zb_10 ?_
            refine zm_icmp_ne 83 79 (by decide) rfl dX11_comesOut_76 ?_ ?_
            · refine zm_iconst 80 rfl dX11_comesOut_79 zi_4 ?_
              refine zm_goto 84 (by decide) dX11_comesOut_80 ?_
              exact zm_loc [0, 1] rfl (hb84_0 4)
            · refine zm_iconst 84 rfl dX11_comesOut_83 zi_5 ?_
              exact zm_loc [0, 1] rfl (hb84_0 5)
      refine zm_if_eq 42 29 (by decide) rfl dX11_comesOut_26 ?_ ?_
      · exact zm_loc [1, 2, 0] rfl (hb42_0)
      · refine zm_iload_n 30 rfl dX11_comesOut_29 rfl 0 rfl ?_
        refine zm_bipush 32 rfl dX11_comesOut_30 zb_8 ?_
        refine zm_icmp_eq 41 35 (by decide) rfl dX11_comesOut_32 ?_ ?_
        · exact zm_loc [] rfl (zm_go (hf0b _) (zm_unb (hx41_0 L0)))
        · refine zm_iload_n 36 rfl dX11_comesOut_35 rfl 0 rfl ?_
          refine zm_bipush 38 rfl dX11_comesOut_36 zb_9 ?_
          refine zm_icmp_ne 42 41 (by decide) rfl dX11_comesOut_38 ?_ ?_
          · exact zm_loc [] rfl (zm_go (hf0b _) (zm_unb (hx41_0 L0)))
          · exact zm_loc [1, 2, 0] rfl (hb42_0)
abbrev Y_X11_expression : zm_Y := (cX11_expression, 3, RX11, { frames := 3, cells := 0, slots := 0, locals := 61 }, none, false, "expression")
noncomputable def f_X11_expression_b204 (M204 : zm_Mem) : Option (Unit × zm_Mem) :=
 zm_b2 (f_X11_comesOut 0 M204) <| fun _ M206 => some ((), M206)
noncomputable def f_X11_expression_x191_12 (x9 : Int32) (N191 : zm_Mem) : Option (Unit × zm_Mem) :=
 if (N191.1 52 12) ≤ x9 then (f_X11_expression_b204 N191) else (zm_b2 (f_X11_fail 1 N191) <| fun _ M201 => f_X11_expression_b204 M201)
noncomputable def f_X11_expression_b234_12 (M145 : zm_Mem) (b186_s0 : Int32) (b234_s1 : Int32) : Option ((Int32 × zm_Mem) ⊕ (zm_Mem ⊕ zm_Mem ⊕ zm_Mem)) :=
 zm_b2 (f_X11_comesOut b234_s1 M145) <| fun _ M234 => zm_ck (zm_in (M234.1 52 11) 403) <| zm_ck (zm_in (M234.1 52 52) 64) <| zm_v (zm_sI M234 88 (M234.1 52 52).toNatClampNeg (M234.1 55 (M234.1 52 11).toNatClampNeg)) <| fun M254 => zm_v (zm_sI M254 52 52 ((M254.1 52 52) + 1)) <| fun M262 => zm_b2 (f_X11_goesOn M262) <| fun _ M266 => some (.inl (b186_s0, M266))
noncomputable def f_X11_expression_b229_12 (M145 : zm_Mem) (b186_s0 : Int32) : Option ((Int32 × zm_Mem) ⊕ (zm_Mem ⊕ zm_Mem ⊕ zm_Mem)) :=
 f_X11_expression_b234_12 M145 b186_s0 1
noncomputable def f_X11_expression_b186_12 (M145 : zm_Mem) (b186_s0 : Int32) : Option ((Int32 × zm_Mem) ⊕ (zm_Mem ⊕ zm_Mem ⊕ zm_Mem)) :=
 if b186_s0 = 0 then (some (.inr (.inr (.inl M145)))) else (zm_b1 (f_X11_is 10 M145) <| fun r214 => if r214 = 0 then (zm_b1 (f_X11_is 15 M145) <| fun r223 => if r223 = 0 then (f_X11_expression_b234_12 M145 b186_s0 0) else (f_X11_expression_b229_12 M145 b186_s0)) else (f_X11_expression_b229_12 M145 b186_s0))
noncomputable def f_X11_expression_b181_12 (M145 : zm_Mem) : Option ((Int32 × zm_Mem) ⊕ (zm_Mem ⊕ zm_Mem ⊕ zm_Mem)) :=
 f_X11_expression_b186_12 M145 1
noncomputable def f_X11_expression_b145_12 (M145 : zm_Mem) : Option ((Int32 × zm_Mem) ⊕ (zm_Mem ⊕ zm_Mem ⊕ zm_Mem)) :=
 zm_b1 (f_X11_is 8 M145) <| fun r148 => if r148 = 0 then (zm_b1 (f_X11_is 9 M145) <| fun r157 => if r157 = 0 then (zm_b1 (f_X11_is 10 M145) <| fun r166 => if r166 = 0 then (zm_b1 (f_X11_is 15 M145) <| fun r175 => if r175 = 0 then (f_X11_expression_b186_12 M145 0) else (f_X11_expression_b181_12 M145)) else (f_X11_expression_b181_12 M145)) else (f_X11_expression_b181_12 M145)) else (f_X11_expression_b181_12 M145)
noncomputable def f_X11_expression_l96_12 (x9 : Int32) (L96 : zm_Mem) : Option (zm_Mem ⊕ zm_Mem) :=
 zm_b1 (f_X11_is 7 L96) <| fun r99 => if r99 = 0 then (some (.inr L96)) else (if (L96.1 52 12) ≤ x9 then (some (.inr L96)) else (zm_b2 (f_X11_comesOut 0 L96) <| fun _ M115 => zm_v (zm_sI M115 52 52 ((M115.1 52 52) - 1)) <| fun M125 => zm_v (zm_sI M125 52 12 ((M125.1 52 12) - 1)) <| fun M135 => zm_b2 (f_X11_goesOn M135) <| fun _ M139 => some (.inl M139)))
noncomputable def f_X11_expression_x84_23_12 (x9 : Int32) (N84 : zm_Mem) : Option ((Int32 × zm_Mem) ⊕ (zm_Mem ⊕ zm_Mem ⊕ zm_Mem)) :=
 zm_b2 (f_X11_unit N84) <| fun _ M85 => if (M85.1 52 13) ≤ 0 then ((zm_lp (f_X11_expression_l96_12 x9) M85).bind (fun e145 => f_X11_expression_b145_12 e145)) else (some (.inr (.inl M85)))
noncomputable def f_X11_expression_b46_23_12 (M46 : zm_Mem) : Option (zm_Mem ⊕ zm_Mem) :=
 zm_v (zm_sI M46 52 12 ((M46.1 52 12) + 1)) <| fun M53 => zm_b2 (f_X11_goesOn M53) <| fun _ M57 => zm_ck (zm_in (M57.1 52 52) 64) <| zm_v (zm_sI M57 88 (M57.1 52 52).toNatClampNeg 6) <| fun M70 => zm_v (zm_sI M70 52 52 ((M70.1 52 52) + 1)) <| fun M78 => some (.inl M78)
noncomputable def f_X11_expression_l23_12 (L23 : zm_Mem) : Option (zm_Mem ⊕ zm_Mem) :=
 zm_b1 (f_X11_is 6 L23) <| fun r26 => if r26 = 0 then (some (.inr L23)) else (if (L23.1 52 12) = (6 : Int32) then (zm_b2 (f_X11_fail 2 L23) <| fun _ M43 => f_X11_expression_b46_23_12 M43) else (f_X11_expression_b46_23_12 L23))
noncomputable def f_X11_expression_l12 (x9 : Int32) (l12_2 : Int32) (L12 : zm_Mem) : Option ((Int32 × zm_Mem) ⊕ (zm_Mem ⊕ zm_Mem ⊕ zm_Mem)) :=
 if l12_2 = 0 then (some (.inr (.inr (.inr L12)))) else (if (L12.1 52 13) = 0 then ((zm_lp (f_X11_expression_l23_12) L12).bind (fun e84 => f_X11_expression_x84_23_12 x9 e84)) else (some (.inr (.inr (.inr L12)))))
noncomputable def f_X11_expression  (M : zm_Mem) : Option (Unit × zm_Mem) :=
  zm_v (zm_sI M 52 52 0) <| fun M2 => zm_v (M2.1 52 12) <| fun x9 => (zm_lp (fun s => f_X11_expression_l12 x9 s.1 s.2) (1, M2)).bind (Sum.elim (fun e95 => some ((), e95)) (Sum.elim (fun e191 => f_X11_expression_x191_12 x9 e191) (fun e272 => some ((), e272))))
set_option maxRecDepth 20000 in
set_option maxHeartbeats 4000000 in
theorem k_X11_expression (E : zm_E) (sv : Nat)  (M : zm_Mem) {r : Unit} {M' : zm_Mem} (h : f_X11_expression M = some (r, M')) : zm_Ct E (zm_w sv) (zm_w sv) yX11_expression Y_X11_expression [.ref (E.2.1 + 52)] M none M' := by
  refine zm_meth (emb := zm_ev) (d := f_X11_expression M) (by decide) rfl rfl (Nat.le_of_ble_eq_true rfl) h (fun X => ?_)
  show zm_V X Y_X11_expression E (zm_Q X E Y_X11_expression.2.2.2.1.cells Y_X11_expression.2.2.2.1.slots (zm_w sv) zm_ev) 0 0 false (zm_w sv) 0 [(0, .ref (E.2.1 + 52))] [] M (f_X11_expression M) some
  unfold f_X11_expression
  refine zm_aload_n 1 rfl dX11_expression_0 rfl 0 rfl ?_
  refine zm_iconst 2 rfl dX11_expression_1 zi_0 ?_
  refine zm_putI 5 rfl dX11_expression_2 fp_X11_318 rfl (zm_L (sv := sv) rfl) rfl rfl (fun M2 _ => ?_)
  refine zm_aload_n 6 rfl dX11_expression_5 rfl 0 rfl ?_
  refine zm_getI 9 rfl dX11_expression_6 fl_X11_248 rfl (zm_L (sv := sv) rfl) ?_
  refine zm_nmi (fun x9 _ => ?_)
  refine zm_istore_n (lv' := [(1, .int x9), (0, .ref (E.2.1 + 52))]) 10 rfl dX11_expression_9 rfl (by decide) rfl ?_
  refine zm_iconst 11 rfl dX11_expression_10 zi_1 ?_
  refine zm_istore_n (lv' := [(2, .int 1), (1, .int x9), (0, .ref (E.2.1 + 52))]) 12 rfl dX11_expression_11 rfl (by decide) rfl ?_
  have hx95_12 : ∀ (N95 : zm_Mem), zm_V X Y_X11_expression E (zm_Q X E Y_X11_expression.2.2.2.1.cells Y_X11_expression.2.2.2.1.slots (zm_w sv) zm_ev) 0 0 false (zm_w sv) 95 [] [] N95 (some ((), N95)) some := by
    intro N95
    exact zm_vret dX11_expression_95 rfl (Nat.le_refl _) (Nat.le_refl _) rfl
  have hx191_12 : ∀ (N191 : zm_Mem), zm_V X Y_X11_expression E (zm_Q X E Y_X11_expression.2.2.2.1.cells Y_X11_expression.2.2.2.1.slots (zm_w sv) zm_ev) 0 0 false (zm_w sv) 191 [(0, .ref (E.2.1 + 52)), (1, .int x9)] [] N191 (f_X11_expression_x191_12 x9 N191) some := by
    intro N191
    unfold f_X11_expression_x191_12
    refine zm_aload_n 192 rfl dX11_expression_191 rfl 0 rfl ?_
    refine zm_getI 195 rfl dX11_expression_192 fl_X11_248 rfl (zm_L (sv := sv) rfl) ?_
    refine zm_iload_n 196 rfl dX11_expression_195 rfl 1 rfl ?_
    have hb204 : ∀ (M204 : zm_Mem), zm_V X Y_X11_expression E (zm_Q X E Y_X11_expression.2.2.2.1.cells Y_X11_expression.2.2.2.1.slots (zm_w sv) zm_ev) 0 0 false (zm_w sv) 204 [(0, .ref (E.2.1 + 52))] [] M204 (f_X11_expression_b204 M204) some := by
      intro M204
      unfold f_X11_expression_b204
      refine zm_aload_n 205 rfl dX11_expression_204 rfl 0 rfl ?_
      refine zm_iconst 206 rfl dX11_expression_205 zi_0 ?_
      refine zm_cV1v 209 rfl dX11_expression_206 ml_X11_327 rfl (zm_L (sv := sv) rfl) rfl (Nat.le_of_ble_eq_true rfl) ⟨Nat.le_of_ble_eq_true rfl, Nat.le_of_ble_eq_true rfl⟩ rfl rfl ⟨Nat.le_refl _, Nat.le_refl _⟩ rfl (fun _ _ h => k_X11_comesOut E sv 0 M204 h) (fun _ M206 => ?_)
      exact zm_vret dX11_expression_209 rfl (Nat.le_refl _) (Nat.le_refl _) rfl
    refine zm_icmp_le 204 199 (by decide) rfl dX11_expression_196 ?_ ?_
    · exact zm_loc [0] rfl (hb204 N191)
    · refine zm_aload_n 200 rfl dX11_expression_199 rfl 0 rfl ?_
      refine zm_iconst 201 rfl dX11_expression_200 zi_1 ?_
      refine zm_cV1v 204 rfl dX11_expression_201 ml_X11_236 rfl (zm_L (sv := sv) rfl) rfl (Nat.le_of_ble_eq_true rfl) ⟨Nat.le_of_ble_eq_true rfl, Nat.le_of_ble_eq_true rfl⟩ rfl rfl ⟨Nat.le_refl _, Nat.le_refl _⟩ rfl (fun _ _ h => k_X11_fail E sv 1 N191 h) (fun _ M201 => ?_)
      exact zm_loc [0] rfl (hb204 M201)
  have hx272_12 : ∀ (N272 : zm_Mem), zm_V X Y_X11_expression E (zm_Q X E Y_X11_expression.2.2.2.1.cells Y_X11_expression.2.2.2.1.slots (zm_w sv) zm_ev) 0 0 false (zm_w sv) 272 [] [] N272 (some ((), N272)) some := by
    intro N272
    exact zm_vret dX11_expression_272 rfl (Nat.le_refl _) (Nat.le_refl _) rfl
  refine zm_loc [2, 1, 0] rfl (zm_lpp (σ := (Int32 × zm_Mem)) (ε := (zm_Mem ⊕ zm_Mem ⊕ zm_Mem)) (step := fun s => f_X11_expression_l12 x9 s.1 s.2) (fun s => [(0, .ref (E.2.1 + 52)), (1, .int x9), (2, .int s.1)]) (fun s => s.2) (fun D12 f12 hf12a hf12b hD12 s => ?_) (1, M2))
  obtain ⟨l12_2, L12⟩ := s
  show zm_V X Y_X11_expression E (zm_Q X E Y_X11_expression.2.2.2.1.cells Y_X11_expression.2.2.2.1.slots (zm_w sv) zm_ev) 0 0 false (zm_w sv) 12 [(0, .ref (E.2.1 + 52)), (1, .int x9), (2, .int l12_2)] [] L12 (f_X11_expression_l12 x9 l12_2 L12) f12
  unfold f_X11_expression_l12
  refine zm_iload_n 13 rfl dX11_expression_12 rfl 2 rfl ?_
  refine zm_if_eq 272 16 (by decide) rfl dX11_expression_13 ?_ ?_
  · exact zm_loc [] rfl (zm_go (hf12b _) (zm_unb (hx272_12 L12)))
  · refine zm_aload_n 17 rfl dX11_expression_16 rfl 0 rfl ?_
    refine zm_getI 20 rfl dX11_expression_17 fl_X11_221 rfl (zm_L (sv := sv) rfl) ?_
    refine zm_if_ne 272 23 (by decide) rfl dX11_expression_20 ?_ ?_
    · have hx84_23_12 : ∀ (N84 : zm_Mem), zm_V X Y_X11_expression E (zm_Q X E Y_X11_expression.2.2.2.1.cells Y_X11_expression.2.2.2.1.slots (zm_w sv) zm_ev) 0 0 false (zm_w sv) 84 [(0, .ref (E.2.1 + 52)), (1, .int x9)] [] N84 (f_X11_expression_x84_23_12 x9 N84) f12 := by
        intro N84
        unfold f_X11_expression_x84_23_12
        refine zm_aload_n 85 rfl dX11_expression_84 rfl 0 rfl ?_
        refine zm_cV0v 88 rfl dX11_expression_85 ml_X11_324 rfl (zm_L (sv := sv) rfl) rfl (Nat.le_of_ble_eq_true rfl) ⟨Nat.le_of_ble_eq_true rfl, Nat.le_of_ble_eq_true rfl⟩ rfl rfl ⟨Nat.le_refl _, Nat.le_refl _⟩ rfl (fun _ _ h => k_X11_unit E sv N84 h) (fun _ M85 => ?_)
        refine zm_aload_n 89 rfl dX11_expression_88 rfl 0 rfl ?_
        refine zm_getI 92 rfl dX11_expression_89 fl_X11_221 rfl (zm_L (sv := sv) rfl) ?_
        refine zm_if_le 96 95 (by decide) rfl dX11_expression_92 ?_ ?_
        · have hb145_12 : ∀ (M145 : zm_Mem), zm_V X Y_X11_expression E (zm_Q X E Y_X11_expression.2.2.2.1.cells Y_X11_expression.2.2.2.1.slots (zm_w sv) zm_ev) 0 0 false (zm_w sv) 145 [(0, .ref (E.2.1 + 52)), (1, .int x9)] [] M145 (f_X11_expression_b145_12 M145) f12 := by
            intro M145
            unfold f_X11_expression_b145_12
            refine zm_aload_n 146 rfl dX11_expression_145 rfl 0 rfl ?_
            refine zm_bipush 148 rfl dX11_expression_146 zb_8 ?_
            refine zm_cV1ir 151 rfl dX11_expression_148 ml_X11_239 rfl (zm_L (sv := sv) rfl) rfl (Nat.le_of_ble_eq_true rfl) ⟨Nat.le_of_ble_eq_true rfl, Nat.le_of_ble_eq_true rfl⟩ rfl rfl ⟨Nat.le_refl _, Nat.le_refl _⟩ rfl (fun _ h => k_X11_is E sv 8 M145 h) (fun r148 => ?_)
            have hb186_12 : ∀ (b186_s0 : Int32), zm_V X Y_X11_expression E (zm_Q X E Y_X11_expression.2.2.2.1.cells Y_X11_expression.2.2.2.1.slots (zm_w sv) zm_ev) 0 0 false (zm_w sv) 186 [(0, .ref (E.2.1 + 52)), (1, .int x9)] [.int b186_s0] M145 (f_X11_expression_b186_12 M145 b186_s0) f12 := by
              intro b186_s0
              unfold f_X11_expression_b186_12
              refine zm_istore_n (lv' := [(2, .int b186_s0), (0, .ref (E.2.1 + 52)), (1, .int x9)]) 187 rfl dX11_expression_186 rfl (by decide) rfl ?_
              refine zm_iload_n 188 rfl dX11_expression_187 rfl 0 rfl ?_
              refine zm_if_ne 210 191 (by decide) rfl dX11_expression_188 ?_ ?_
              · exact zm_loc [1, 2] rfl (zm_go (hf12b _) (zm_unb (hx191_12 M145)))
              · refine zm_aload_n 211 rfl dX11_expression_210 rfl 1 rfl ?_
                refine zm_aload_n 212 rfl dX11_expression_211 rfl 1 rfl ?_
                refine zm_bipush 214 rfl dX11_expression_212 zb_10 ?_
                refine zm_cV1ir 217 rfl dX11_expression_214 ml_X11_239 rfl (zm_L (sv := sv) rfl) rfl (Nat.le_of_ble_eq_true rfl) ⟨Nat.le_of_ble_eq_true rfl, Nat.le_of_ble_eq_true rfl⟩ rfl rfl ⟨Nat.le_refl _, Nat.le_refl _⟩ rfl (fun _ h => k_X11_is E sv 10 M145 h) (fun r214 => ?_)
                have hb234_12 : ∀ (b234_s1 : Int32), zm_V X Y_X11_expression E (zm_Q X E Y_X11_expression.2.2.2.1.cells Y_X11_expression.2.2.2.1.slots (zm_w sv) zm_ev) 0 0 false (zm_w sv) 234 [(0, .ref (E.2.1 + 52)), (1, .int x9), (2, .int b186_s0)] [.int b234_s1, .ref (E.2.1 + 52)] M145 (f_X11_expression_b234_12 M145 b186_s0 b234_s1) f12 := by
                  intro b234_s1
                  unfold f_X11_expression_b234_12
                  refine zm_cV1v 237 rfl dX11_expression_234 ml_X11_327 rfl (zm_L (sv := sv) rfl) rfl (Nat.le_of_ble_eq_true rfl) ⟨Nat.le_of_ble_eq_true rfl, Nat.le_of_ble_eq_true rfl⟩ rfl rfl ⟨Nat.le_refl _, Nat.le_refl _⟩ rfl (fun _ _ h => k_X11_comesOut E sv b234_s1 M145 h) (fun _ M234 => ?_)
                  refine zm_aload_n 238 rfl dX11_expression_237 rfl 0 rfl ?_
                  refine zm_getR (a := 88) 241 rfl dX11_expression_238 fl_X11_125 rfl (zm_L (sv := sv) rfl) rfl (by decide) ?_
                  refine zm_aload_n 242 rfl dX11_expression_241 rfl 0 rfl ?_
                  refine zm_getI 245 rfl dX11_expression_242 fl_X11_318 rfl (zm_L (sv := sv) rfl) ?_
                  refine zm_aload_n 246 rfl dX11_expression_245 rfl 0 rfl ?_
                  refine zm_getR (a := 55) 249 rfl dX11_expression_246 fl_X11_20 rfl (zm_L (sv := sv) rfl) rfl (by decide) ?_
                  refine zm_aload_n 250 rfl dX11_expression_249 rfl 0 rfl ?_
                  refine zm_getI 253 rfl dX11_expression_250 fl_X11_224 rfl (zm_L (sv := sv) rfl) ?_
                  refine zm_iald 254 rfl dX11_expression_253 rfl (zm_L (sv := sv) rfl) ?_
                  refine zm_iast 255 rfl dX11_expression_254 rfl (zm_L (sv := sv) rfl) (fun M254 _ => ?_)
                  refine zm_aload_n 256 rfl dX11_expression_255 rfl 0 rfl ?_
                  refine zm_dup 257 rfl dX11_expression_256 rfl ?_
                  refine zm_getI 260 rfl dX11_expression_257 fl_X11_318 rfl (zm_L (sv := sv) rfl) ?_
                  refine zm_iconst 261 rfl dX11_expression_260 zi_1 ?_
                  refine zm_iadd 262 rfl dX11_expression_261 ?_
                  refine zm_putI 265 rfl dX11_expression_262 fp_X11_318 rfl (zm_L (sv := sv) rfl) rfl rfl (fun M262 _ => ?_)
                  refine zm_aload_n 266 rfl dX11_expression_265 rfl 0 rfl ?_
                  refine zm_cV0v 269 rfl dX11_expression_266 ml_X11_242 rfl (zm_L (sv := sv) rfl) rfl (Nat.le_of_ble_eq_true rfl) ⟨Nat.le_of_ble_eq_true rfl, Nat.le_of_ble_eq_true rfl⟩ rfl rfl ⟨Nat.le_refl _, Nat.le_refl _⟩ rfl (fun _ _ h => k_X11_goesOn E sv M262 h) (fun _ M266 => ?_)
                  refine zm_goto 12 (by decide) dX11_expression_269 ?_
                  exact zm_loc [0, 1, 2] rfl (zm_go (hf12a _) (hD12 (b186_s0, M266)))
                have hb229_12 : zm_V X Y_X11_expression E (zm_Q X E Y_X11_expression.2.2.2.1.cells Y_X11_expression.2.2.2.1.slots (zm_w sv) zm_ev) 0 0 false (zm_w sv) 229 [(0, .ref (E.2.1 + 52)), (1, .int x9), (2, .int b186_s0)] [.ref (E.2.1 + 52)] M145 (f_X11_expression_b229_12 M145 b186_s0) f12 := by
                  unfold f_X11_expression_b229_12
                  refine zm_iconst 230 rfl dX11_expression_229 zi_1 ?_
                  refine zm_goto 234 (by decide) dX11_expression_230 ?_
                  exact zm_loc [0, 1, 2] rfl (hb234_12 1)
                refine zm_if_ne 229 220 (by decide) rfl dX11_expression_217 ?_ ?_
                · refine zm_aload_n 221 rfl dX11_expression_220 rfl 1 rfl ?_
                  refine zm_bipush 223 rfl dX11_expression_221 zb_15 ?_
                  refine zm_cV1ir 226 rfl dX11_expression_223 ml_X11_239 rfl (zm_L (sv := sv) rfl) rfl (Nat.le_of_ble_eq_true rfl) ⟨Nat.le_of_ble_eq_true rfl, Nat.le_of_ble_eq_true rfl⟩ rfl rfl ⟨Nat.le_refl _, Nat.le_refl _⟩ rfl (fun _ h => k_X11_is E sv 15 M145 h) (fun r223 => ?_)
                  refine zm_if_eq 233 229 (by decide) rfl dX11_expression_226 ?_ ?_
                  · refine zm_iconst 234 rfl dX11_expression_233 zi_0 ?_
                    exact zm_loc [1, 2, 0] rfl (hb234_12 0)
                  · exact zm_loc [1, 2, 0] rfl (hb229_12)
                · exact zm_loc [1, 2, 0] rfl (hb229_12)
            have hb181_12 : zm_V X Y_X11_expression E (zm_Q X E Y_X11_expression.2.2.2.1.cells Y_X11_expression.2.2.2.1.slots (zm_w sv) zm_ev) 0 0 false (zm_w sv) 181 [(0, .ref (E.2.1 + 52)), (1, .int x9)] [] M145 (f_X11_expression_b181_12 M145) f12 := by
              unfold f_X11_expression_b181_12
              refine zm_iconst 182 rfl dX11_expression_181 zi_1 ?_
              refine zm_goto 186 (by decide) dX11_expression_182 ?_
              exact zm_loc [0, 1] rfl (hb186_12 1)
            refine zm_if_ne 181 154 (by decide) rfl dX11_expression_151 ?_ ?_
            · refine zm_aload_n 155 rfl dX11_expression_154 rfl 0 rfl ?_
              refine zm_bipush 157 rfl dX11_expression_155 zb_9 ?_
              refine zm_cV1ir 160 rfl dX11_expression_157 ml_X11_239 rfl (zm_L (sv := sv) rfl) rfl (Nat.le_of_ble_eq_true rfl) ⟨Nat.le_of_ble_eq_true rfl, Nat.le_of_ble_eq_true rfl⟩ rfl rfl ⟨Nat.le_refl _, Nat.le_refl _⟩ rfl (fun _ h => k_X11_is E sv 9 M145 h) (fun r157 => ?_)
              refine zm_if_ne 181 163 (by decide) rfl dX11_expression_160 ?_ ?_
              · refine zm_aload_n 164 rfl dX11_expression_163 rfl 0 rfl ?_
                refine zm_bipush 166 rfl dX11_expression_164 zb_10 ?_
                refine zm_cV1ir 169 rfl dX11_expression_166 ml_X11_239 rfl (zm_L (sv := sv) rfl) rfl (Nat.le_of_ble_eq_true rfl) ⟨Nat.le_of_ble_eq_true rfl, Nat.le_of_ble_eq_true rfl⟩ rfl rfl ⟨Nat.le_refl _, Nat.le_refl _⟩ rfl (fun _ h => k_X11_is E sv 10 M145 h) (fun r166 => ?_)
                refine zm_if_ne 181 172 (by decide) rfl dX11_expression_169 ?_ ?_
                · refine zm_aload_n 173 rfl dX11_expression_172 rfl 0 rfl ?_
                  refine zm_bipush 175 rfl dX11_expression_173 zb_15 ?_
                  refine zm_cV1ir 178 rfl dX11_expression_175 ml_X11_239 rfl (zm_L (sv := sv) rfl) rfl (Nat.le_of_ble_eq_true rfl) ⟨Nat.le_of_ble_eq_true rfl, Nat.le_of_ble_eq_true rfl⟩ rfl rfl ⟨Nat.le_refl _, Nat.le_refl _⟩ rfl (fun _ h => k_X11_is E sv 15 M145 h) (fun r175 => ?_)
                  refine zm_if_eq 185 181 (by decide) rfl dX11_expression_178 ?_ ?_
                  · refine zm_iconst 186 rfl dX11_expression_185 zi_0 ?_
                    exact zm_loc [0, 1] rfl (hb186_12 0)
                  · exact zm_loc [0, 1] rfl (hb181_12)
                · exact zm_loc [0, 1] rfl (hb181_12)
              · exact zm_loc [0, 1] rfl (hb181_12)
            · exact zm_loc [0, 1] rfl (hb181_12)
          have hx145_96_12 : ∀ (N145 : zm_Mem), zm_V X Y_X11_expression E (zm_Q X E Y_X11_expression.2.2.2.1.cells Y_X11_expression.2.2.2.1.slots (zm_w sv) zm_ev) 0 0 false (zm_w sv) 145 [(0, .ref (E.2.1 + 52)), (1, .int x9)] [] N145 (f_X11_expression_b145_12 N145) f12 := by
            intro N145
            exact zm_loc [0, 1] rfl (hb145_12 N145)
          refine zm_loc [0, 1] rfl (zm_lpp (σ := zm_Mem) (ε := zm_Mem) (step := f_X11_expression_l96_12 x9) (fun s => [(0, .ref (E.2.1 + 52)), (1, .int x9)]) (fun s => s) (fun D96_12 f96_12 hf96_12a hf96_12b hD96_12 s => ?_) M85)
          obtain ⟨L96, hq96_12⟩ : ∃ q, q = s := ⟨_, rfl⟩
          rw [← hq96_12]
          show zm_V X Y_X11_expression E (zm_Q X E Y_X11_expression.2.2.2.1.cells Y_X11_expression.2.2.2.1.slots (zm_w sv) zm_ev) 0 0 false (zm_w sv) 96 [(0, .ref (E.2.1 + 52)), (1, .int x9)] [] L96 (f_X11_expression_l96_12 x9 L96) f96_12
          unfold f_X11_expression_l96_12
          refine zm_aload_n 97 rfl dX11_expression_96 rfl 0 rfl ?_
          refine zm_bipush 99 rfl dX11_expression_97 zb_7 ?_
          refine zm_cV1ir 102 rfl dX11_expression_99 ml_X11_239 rfl (zm_L (sv := sv) rfl) rfl (Nat.le_of_ble_eq_true rfl) ⟨Nat.le_of_ble_eq_true rfl, Nat.le_of_ble_eq_true rfl⟩ rfl rfl ⟨Nat.le_refl _, Nat.le_refl _⟩ rfl (fun _ h => k_X11_is E sv 7 L96 h) (fun r99 => ?_)
          refine zm_if_eq 145 105 (by decide) rfl dX11_expression_102 ?_ ?_
          · exact zm_loc [0, 1] rfl (zm_go (hf96_12b _) (zm_unb (hx145_96_12 L96)))
          · refine zm_aload_n 106 rfl dX11_expression_105 rfl 0 rfl ?_
            refine zm_getI 109 rfl dX11_expression_106 fl_X11_248 rfl (zm_L (sv := sv) rfl) ?_
            refine zm_iload_n 110 rfl dX11_expression_109 rfl 1 rfl ?_
            refine zm_icmp_le 145 113 (by decide) rfl dX11_expression_110 ?_ ?_
            · exact zm_loc [0, 1] rfl (zm_go (hf96_12b _) (zm_unb (hx145_96_12 L96)))
            · refine zm_aload_n 114 rfl dX11_expression_113 rfl 0 rfl ?_
              refine zm_iconst 115 rfl dX11_expression_114 zi_0 ?_
              refine zm_cV1v 118 rfl dX11_expression_115 ml_X11_327 rfl (zm_L (sv := sv) rfl) rfl (Nat.le_of_ble_eq_true rfl) ⟨Nat.le_of_ble_eq_true rfl, Nat.le_of_ble_eq_true rfl⟩ rfl rfl ⟨Nat.le_refl _, Nat.le_refl _⟩ rfl (fun _ _ h => k_X11_comesOut E sv 0 L96 h) (fun _ M115 => ?_)
              refine zm_aload_n 119 rfl dX11_expression_118 rfl 0 rfl ?_
              refine zm_dup 120 rfl dX11_expression_119 rfl ?_
              refine zm_getI 123 rfl dX11_expression_120 fl_X11_318 rfl (zm_L (sv := sv) rfl) ?_
              refine zm_iconst 124 rfl dX11_expression_123 zi_1 ?_
              refine zm_isub 125 rfl dX11_expression_124 ?_
              refine zm_putI 128 rfl dX11_expression_125 fp_X11_318 rfl (zm_L (sv := sv) rfl) rfl rfl (fun M125 _ => ?_)
              refine zm_aload_n 129 rfl dX11_expression_128 rfl 0 rfl ?_
              refine zm_dup 130 rfl dX11_expression_129 rfl ?_
              refine zm_getI 133 rfl dX11_expression_130 fl_X11_248 rfl (zm_L (sv := sv) rfl) ?_
              refine zm_iconst 134 rfl dX11_expression_133 zi_1 ?_
              refine zm_isub 135 rfl dX11_expression_134 ?_
              refine zm_putI 138 rfl dX11_expression_135 fp_X11_248 rfl (zm_L (sv := sv) rfl) rfl rfl (fun M135 _ => ?_)
              refine zm_aload_n 139 rfl dX11_expression_138 rfl 0 rfl ?_
              refine zm_cV0v 142 rfl dX11_expression_139 ml_X11_242 rfl (zm_L (sv := sv) rfl) rfl (Nat.le_of_ble_eq_true rfl) ⟨Nat.le_of_ble_eq_true rfl, Nat.le_of_ble_eq_true rfl⟩ rfl rfl ⟨Nat.le_refl _, Nat.le_refl _⟩ rfl (fun _ _ h => k_X11_goesOn E sv M135 h) (fun _ M139 => ?_)
              refine zm_goto 96 (by decide) dX11_expression_142 ?_
              exact zm_loc [0, 1] rfl (zm_go (hf96_12a _) (hD96_12 M139))
        · exact zm_loc [] rfl (zm_go (hf12b _) (zm_unb (hx95_12 M85)))
      refine zm_loc [0, 1] rfl (zm_lpp (σ := zm_Mem) (ε := zm_Mem) (step := f_X11_expression_l23_12) (fun s => [(0, .ref (E.2.1 + 52)), (1, .int x9)]) (fun s => s) (fun D23_12 f23_12 hf23_12a hf23_12b hD23_12 s => ?_) L12)
      obtain ⟨L23, hq23_12⟩ : ∃ q, q = s := ⟨_, rfl⟩
      rw [← hq23_12]
      show zm_V X Y_X11_expression E (zm_Q X E Y_X11_expression.2.2.2.1.cells Y_X11_expression.2.2.2.1.slots (zm_w sv) zm_ev) 0 0 false (zm_w sv) 23 [(0, .ref (E.2.1 + 52)), (1, .int x9)] [] L23 (f_X11_expression_l23_12 L23) f23_12
      unfold f_X11_expression_l23_12
      refine zm_aload_n 24 rfl dX11_expression_23 rfl 0 rfl ?_
      refine zm_bipush 26 rfl dX11_expression_24 zb_6 ?_
      refine zm_cV1ir 29 rfl dX11_expression_26 ml_X11_239 rfl (zm_L (sv := sv) rfl) rfl (Nat.le_of_ble_eq_true rfl) ⟨Nat.le_of_ble_eq_true rfl, Nat.le_of_ble_eq_true rfl⟩ rfl rfl ⟨Nat.le_refl _, Nat.le_refl _⟩ rfl (fun _ h => k_X11_is E sv 6 L23 h) (fun r26 => ?_)
      refine zm_if_eq 84 32 (by decide) rfl dX11_expression_29 ?_ ?_
      · exact zm_loc [0, 1] rfl (zm_go (hf23_12b _) (zm_unb (hx84_23_12 L23)))
      · refine zm_aload_n 33 rfl dX11_expression_32 rfl 0 rfl ?_
        refine zm_getI 36 rfl dX11_expression_33 fl_X11_248 rfl (zm_L (sv := sv) rfl) ?_
        refine zm_bipush 38 rfl dX11_expression_36 zb_6 ?_
        have hb46_23_12 : ∀ (M46 : zm_Mem), zm_V X Y_X11_expression E (zm_Q X E Y_X11_expression.2.2.2.1.cells Y_X11_expression.2.2.2.1.slots (zm_w sv) zm_ev) 0 0 false (zm_w sv) 46 [(0, .ref (E.2.1 + 52)), (1, .int x9)] [] M46 (f_X11_expression_b46_23_12 M46) f23_12 := by
          intro M46
          unfold f_X11_expression_b46_23_12
          refine zm_aload_n 47 rfl dX11_expression_46 rfl 0 rfl ?_
          refine zm_dup 48 rfl dX11_expression_47 rfl ?_
          refine zm_getI 51 rfl dX11_expression_48 fl_X11_248 rfl (zm_L (sv := sv) rfl) ?_
          refine zm_iconst 52 rfl dX11_expression_51 zi_1 ?_
          refine zm_iadd 53 rfl dX11_expression_52 ?_
          refine zm_putI 56 rfl dX11_expression_53 fp_X11_248 rfl (zm_L (sv := sv) rfl) rfl rfl (fun M53 _ => ?_)
          refine zm_aload_n 57 rfl dX11_expression_56 rfl 0 rfl ?_
          refine zm_cV0v 60 rfl dX11_expression_57 ml_X11_242 rfl (zm_L (sv := sv) rfl) rfl (Nat.le_of_ble_eq_true rfl) ⟨Nat.le_of_ble_eq_true rfl, Nat.le_of_ble_eq_true rfl⟩ rfl rfl ⟨Nat.le_refl _, Nat.le_refl _⟩ rfl (fun _ _ h => k_X11_goesOn E sv M53 h) (fun _ M57 => ?_)
          refine zm_aload_n 61 rfl dX11_expression_60 rfl 0 rfl ?_
          refine zm_getR (a := 88) 64 rfl dX11_expression_61 fl_X11_125 rfl (zm_L (sv := sv) rfl) rfl (by decide) ?_
          refine zm_aload_n 65 rfl dX11_expression_64 rfl 0 rfl ?_
          refine zm_getI 68 rfl dX11_expression_65 fl_X11_318 rfl (zm_L (sv := sv) rfl) ?_
          refine zm_bipush 70 rfl dX11_expression_68 zb_6 ?_
          refine zm_iast 71 rfl dX11_expression_70 rfl (zm_L (sv := sv) rfl) (fun M70 _ => ?_)
          refine zm_aload_n 72 rfl dX11_expression_71 rfl 0 rfl ?_
          refine zm_dup 73 rfl dX11_expression_72 rfl ?_
          refine zm_getI 76 rfl dX11_expression_73 fl_X11_318 rfl (zm_L (sv := sv) rfl) ?_
          refine zm_iconst 77 rfl dX11_expression_76 zi_1 ?_
          refine zm_iadd 78 rfl dX11_expression_77 ?_
          refine zm_putI 81 rfl dX11_expression_78 fp_X11_318 rfl (zm_L (sv := sv) rfl) rfl rfl (fun M78 _ => ?_)
          refine zm_goto 23 (by decide) dX11_expression_81 ?_
          exact zm_loc [0, 1] rfl (zm_go (hf23_12a _) (hD23_12 M78))
        refine zm_icmp_ne 46 41 (by decide) rfl dX11_expression_38 ?_ ?_
        · refine zm_aload_n 42 rfl dX11_expression_41 rfl 0 rfl ?_
          refine zm_iconst 43 rfl dX11_expression_42 zi_2 ?_
          refine zm_cV1v 46 rfl dX11_expression_43 ml_X11_236 rfl (zm_L (sv := sv) rfl) rfl (Nat.le_of_ble_eq_true rfl) ⟨Nat.le_of_ble_eq_true rfl, Nat.le_of_ble_eq_true rfl⟩ rfl rfl ⟨Nat.le_refl _, Nat.le_refl _⟩ rfl (fun _ _ h => k_X11_fail E sv 2 L23 h) (fun _ M43 => ?_)
          exact zm_loc [0, 1] rfl (hb46_23_12 M43)
        · exact zm_loc [0, 1] rfl (hb46_23_12 L23)
    · exact zm_loc [] rfl (zm_go (hf12b _) (zm_unb (hx272_12 L12)))
abbrev Y_X11_tellTerm : zm_Y := (cX11_tellTerm, 2, RX11, { frames := 4, cells := 0, slots := 0, locals := 85 }, none, false, "tellTerm")
noncomputable def f_X11_tellTerm_b77 (x17 : Int32) (M77 : zm_Mem) : Option (Unit × zm_Mem) :=
 zm_ck (zm_in x17 12) <| zm_v (zm_sI M77 75 x17.toNatClampNeg (M77.1 52 48)) <| fun M86 => zm_b2 (f_X11_must 4 M86) <| fun _ M89 => if (M89.1 52 13) = 0 then (zm_ck (zm_in (M89.1 52 19) 2) <| zm_ck (zm_in (M89.1 52 19) 2) <| zm_v (zm_sI M89 71 (M89.1 52 19).toNatClampNeg ((M89.1 71 (M89.1 52 19).toNatClampNeg) + 1)) <| fun M111 => some ((), M111)) else (some ((), M89))
noncomputable def f_X11_tellTerm_b50 (x17 : Int32) (M50 : zm_Mem) : Option (Unit × zm_Mem) :=
 zm_b2 (f_X11_must 13 M50) <| fun _ M53 => zm_ck (zm_in x17 12) <| zm_v (zm_sI M53 74 x17.toNatClampNeg (M53.1 52 48)) <| fun M65 => if (M65.1 52 13) = 0 then (zm_b2 (f_X11_expression M65) <| fun _ M74 => f_X11_tellTerm_b77 x17 M74) else (f_X11_tellTerm_b77 x17 M65)
noncomputable def f_X11_tellTerm  (M : zm_Mem) : Option (Unit × zm_Mem) :=
  zm_ck (zm_in (M.1 52 19) 2) <| zm_v ((6 * (M.1 52 19)) + (M.1 71 (M.1 52 19).toNatClampNeg)) <| fun x17 => zm_b2 (f_X11_known 1 M) <| fun r25 M25 => zm_ck (zm_in x17 12) <| zm_v (zm_sI M25 72 x17.toNatClampNeg r25) <| fun M28 => zm_ck (zm_in x17 12) <| zm_v (zm_sI M28 73 x17.toNatClampNeg (M28.1 52 48)) <| fun M38 => if (M38.1 52 13) = 0 then (zm_b2 (f_X11_expression M38) <| fun _ M47 => f_X11_tellTerm_b50 x17 M47) else (f_X11_tellTerm_b50 x17 M38)
set_option maxRecDepth 20000 in
set_option maxHeartbeats 4000000 in
theorem k_X11_tellTerm (E : zm_E) (sv : Nat)  (M : zm_Mem) {r : Unit} {M' : zm_Mem} (h : f_X11_tellTerm M = some (r, M')) : zm_Ct E (zm_w sv) (zm_w sv) yX11_tellTerm Y_X11_tellTerm [.ref (E.2.1 + 52)] M none M' := by
  refine zm_meth (emb := zm_ev) (d := f_X11_tellTerm M) (by decide) rfl rfl (Nat.le_of_ble_eq_true rfl) h (fun X => ?_)
  show zm_V X Y_X11_tellTerm E (zm_Q X E Y_X11_tellTerm.2.2.2.1.cells Y_X11_tellTerm.2.2.2.1.slots (zm_w sv) zm_ev) 0 0 false (zm_w sv) 0 [(0, .ref (E.2.1 + 52))] [] M (f_X11_tellTerm M) some
  unfold f_X11_tellTerm
  refine zm_bipush 2 rfl dX11_tellTerm_0 zb_6 ?_
  refine zm_aload_n 3 rfl dX11_tellTerm_2 rfl 0 rfl ?_
  refine zm_getI 6 rfl dX11_tellTerm_3 fl_X11_254 rfl (zm_L (sv := sv) rfl) ?_
  refine zm_imul 7 rfl dX11_tellTerm_6 ?_
  refine zm_aload_n 8 rfl dX11_tellTerm_7 rfl 0 rfl ?_
  refine zm_getR (a := 71) 11 rfl dX11_tellTerm_8 fl_X11_73 rfl (zm_L (sv := sv) rfl) rfl (by decide) ?_
  refine zm_aload_n 12 rfl dX11_tellTerm_11 rfl 0 rfl ?_
  refine zm_getI 15 rfl dX11_tellTerm_12 fl_X11_254 rfl (zm_L (sv := sv) rfl) ?_
  refine zm_iald 16 rfl dX11_tellTerm_15 rfl (zm_L (sv := sv) rfl) ?_
  refine zm_iadd 17 rfl dX11_tellTerm_16 ?_
  refine zm_nmi (fun x17 _ => ?_)
  refine zm_istore_n (lv' := [(1, .int x17), (0, .ref (E.2.1 + 52))]) 18 rfl dX11_tellTerm_17 rfl (by decide) rfl ?_
  refine zm_aload_n 19 rfl dX11_tellTerm_18 rfl 1 rfl ?_
  refine zm_getR (a := 72) 22 rfl dX11_tellTerm_19 fl_X11_76 rfl (zm_L (sv := sv) rfl) rfl (by decide) ?_
  refine zm_iload_n 23 rfl dX11_tellTerm_22 rfl 0 rfl ?_
  refine zm_aload_n 24 rfl dX11_tellTerm_23 rfl 1 rfl ?_
  refine zm_iconst 25 rfl dX11_tellTerm_24 zi_1 ?_
  refine zm_cV1i 28 rfl dX11_tellTerm_25 ml_X11_309 rfl (zm_L (sv := sv) rfl) rfl (Nat.le_of_ble_eq_true rfl) ⟨Nat.le_of_ble_eq_true rfl, Nat.le_of_ble_eq_true rfl⟩ rfl rfl ⟨Nat.le_refl _, Nat.le_refl _⟩ rfl (fun _ _ h => k_X11_known E sv 1 M h) (fun r25 M25 => ?_)
  refine zm_iast 29 rfl dX11_tellTerm_28 rfl (zm_L (sv := sv) rfl) (fun M28 _ => ?_)
  refine zm_aload_n 30 rfl dX11_tellTerm_29 rfl 1 rfl ?_
  refine zm_getR (a := 73) 33 rfl dX11_tellTerm_30 fl_X11_79 rfl (zm_L (sv := sv) rfl) rfl (by decide) ?_
  refine zm_iload_n 34 rfl dX11_tellTerm_33 rfl 0 rfl ?_
  refine zm_aload_n 35 rfl dX11_tellTerm_34 rfl 1 rfl ?_
  refine zm_getI 38 rfl dX11_tellTerm_35 fl_X11_263 rfl (zm_L (sv := sv) rfl) ?_
  refine zm_iast 39 rfl dX11_tellTerm_38 rfl (zm_L (sv := sv) rfl) (fun M38 _ => ?_)
  refine zm_aload_n 40 rfl dX11_tellTerm_39 rfl 1 rfl ?_
  refine zm_getI 43 rfl dX11_tellTerm_40 fl_X11_221 rfl (zm_L (sv := sv) rfl) ?_
  have hb50 : ∀ (M50 : zm_Mem), zm_V X Y_X11_tellTerm E (zm_Q X E Y_X11_tellTerm.2.2.2.1.cells Y_X11_tellTerm.2.2.2.1.slots (zm_w sv) zm_ev) 0 0 false (zm_w sv) 50 [(0, .ref (E.2.1 + 52)), (1, .int x17)] [] M50 (f_X11_tellTerm_b50 x17 M50) some := by
    intro M50
    unfold f_X11_tellTerm_b50
    refine zm_aload_n 51 rfl dX11_tellTerm_50 rfl 0 rfl ?_
    refine zm_bipush 53 rfl dX11_tellTerm_51 zb_13 ?_
    refine zm_cV1v 56 rfl dX11_tellTerm_53 ml_X11_292 rfl (zm_L (sv := sv) rfl) rfl (Nat.le_of_ble_eq_true rfl) ⟨Nat.le_of_ble_eq_true rfl, Nat.le_of_ble_eq_true rfl⟩ rfl rfl ⟨Nat.le_refl _, Nat.le_refl _⟩ rfl (fun _ _ h => k_X11_must E sv 13 M50 h) (fun _ M53 => ?_)
    refine zm_aload_n 57 rfl dX11_tellTerm_56 rfl 0 rfl ?_
    refine zm_getR (a := 74) 60 rfl dX11_tellTerm_57 fl_X11_82 rfl (zm_L (sv := sv) rfl) rfl (by decide) ?_
    refine zm_iload_n 61 rfl dX11_tellTerm_60 rfl 1 rfl ?_
    refine zm_aload_n 62 rfl dX11_tellTerm_61 rfl 0 rfl ?_
    refine zm_getI 65 rfl dX11_tellTerm_62 fl_X11_263 rfl (zm_L (sv := sv) rfl) ?_
    refine zm_iast 66 rfl dX11_tellTerm_65 rfl (zm_L (sv := sv) rfl) (fun M65 _ => ?_)
    refine zm_aload_n 67 rfl dX11_tellTerm_66 rfl 0 rfl ?_
    refine zm_getI 70 rfl dX11_tellTerm_67 fl_X11_221 rfl (zm_L (sv := sv) rfl) ?_
    have hb77 : ∀ (M77 : zm_Mem), zm_V X Y_X11_tellTerm E (zm_Q X E Y_X11_tellTerm.2.2.2.1.cells Y_X11_tellTerm.2.2.2.1.slots (zm_w sv) zm_ev) 0 0 false (zm_w sv) 77 [(0, .ref (E.2.1 + 52)), (1, .int x17)] [] M77 (f_X11_tellTerm_b77 x17 M77) some := by
      intro M77
      unfold f_X11_tellTerm_b77
      refine zm_aload_n 78 rfl dX11_tellTerm_77 rfl 0 rfl ?_
      refine zm_getR (a := 75) 81 rfl dX11_tellTerm_78 fl_X11_85 rfl (zm_L (sv := sv) rfl) rfl (by decide) ?_
      refine zm_iload_n 82 rfl dX11_tellTerm_81 rfl 1 rfl ?_
      refine zm_aload_n 83 rfl dX11_tellTerm_82 rfl 0 rfl ?_
      refine zm_getI 86 rfl dX11_tellTerm_83 fl_X11_263 rfl (zm_L (sv := sv) rfl) ?_
      refine zm_iast 87 rfl dX11_tellTerm_86 rfl (zm_L (sv := sv) rfl) (fun M86 _ => ?_)
      refine zm_aload_n 88 rfl dX11_tellTerm_87 rfl 0 rfl ?_
      refine zm_iconst 89 rfl dX11_tellTerm_88 zi_4 ?_
      refine zm_cV1v 92 rfl dX11_tellTerm_89 ml_X11_292 rfl (zm_L (sv := sv) rfl) rfl (Nat.le_of_ble_eq_true rfl) ⟨Nat.le_of_ble_eq_true rfl, Nat.le_of_ble_eq_true rfl⟩ rfl rfl ⟨Nat.le_refl _, Nat.le_refl _⟩ rfl (fun _ _ h => k_X11_must E sv 4 M86 h) (fun _ M89 => ?_)
      refine zm_aload_n 93 rfl dX11_tellTerm_92 rfl 0 rfl ?_
      refine zm_getI 96 rfl dX11_tellTerm_93 fl_X11_221 rfl (zm_L (sv := sv) rfl) ?_
      refine zm_if_ne 112 99 (by decide) rfl dX11_tellTerm_96 ?_ ?_
      · refine zm_aload_n 100 rfl dX11_tellTerm_99 rfl 0 rfl ?_
        refine zm_getR (a := 71) 103 rfl dX11_tellTerm_100 fl_X11_73 rfl (zm_L (sv := sv) rfl) rfl (by decide) ?_
        refine zm_aload_n 104 rfl dX11_tellTerm_103 rfl 0 rfl ?_
        refine zm_getI 107 rfl dX11_tellTerm_104 fl_X11_254 rfl (zm_L (sv := sv) rfl) ?_
        refine zm_dup2 108 rfl dX11_tellTerm_107 rfl rfl ?_
        refine zm_iald 109 rfl dX11_tellTerm_108 rfl (zm_L (sv := sv) rfl) ?_
        refine zm_iconst 110 rfl dX11_tellTerm_109 zi_1 ?_
        refine zm_iadd 111 rfl dX11_tellTerm_110 ?_
        refine zm_iast 112 rfl dX11_tellTerm_111 rfl (zm_L (sv := sv) rfl) (fun M111 _ => ?_)
        exact zm_vret dX11_tellTerm_112 rfl (Nat.le_refl _) (Nat.le_refl _) rfl
      · exact zm_vret dX11_tellTerm_112 rfl (Nat.le_refl _) (Nat.le_refl _) rfl
    refine zm_if_ne 77 73 (by decide) rfl dX11_tellTerm_70 ?_ ?_
    · refine zm_aload_n 74 rfl dX11_tellTerm_73 rfl 0 rfl ?_
      refine zm_cV0v 77 rfl dX11_tellTerm_74 ml_X11_312 rfl (zm_L (sv := sv) rfl) rfl (Nat.le_of_ble_eq_true rfl) ⟨Nat.le_of_ble_eq_true rfl, Nat.le_of_ble_eq_true rfl⟩ rfl rfl ⟨Nat.le_refl _, Nat.le_refl _⟩ rfl (fun _ _ h => k_X11_expression E sv M65 h) (fun _ M74 => ?_)
      exact zm_loc [0, 1] rfl (hb77 M74)
    · exact zm_loc [0, 1] rfl (hb77 M65)
  refine zm_if_ne 50 46 (by decide) rfl dX11_tellTerm_43 ?_ ?_
  · refine zm_aload_n 47 rfl dX11_tellTerm_46 rfl 1 rfl ?_
    refine zm_cV0v 50 rfl dX11_tellTerm_47 ml_X11_312 rfl (zm_L (sv := sv) rfl) rfl (Nat.le_of_ble_eq_true rfl) ⟨Nat.le_of_ble_eq_true rfl, Nat.le_of_ble_eq_true rfl⟩ rfl rfl ⟨Nat.le_refl _, Nat.le_refl _⟩ rfl (fun _ _ h => k_X11_expression E sv M38 h) (fun _ M47 => ?_)
    exact zm_loc [1, 0] rfl (hb50 M47)
  · exact zm_loc [1, 0] rfl (hb50 M38)
