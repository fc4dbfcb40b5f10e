abbrev Y_X11_isResting : zm_Y := (cX11_isResting, 3, RX11, { frames := 0, cells := 0, slots := 0, locals := 0 }, (some .boolean), false, "isResting")
noncomputable def f_X11_isResting_l2 (a1 : Int32) (M : zm_Mem) (l2_2 : Int32) : Option (Int32 ⊕ (Unit ⊕ Unit)) :=
 zm_ck (zm_in (M.1 52 18) 2) <| if (M.1 63 (M.1 52 18).toNatClampNeg) ≤ l2_2 then (some (.inr (.inr ()))) else (zm_ck (zm_in ((5 * (a1 ^^^ ((1 : Int32) <<< (l2_2 &&& 31)))) + l2_2) 160) <| zm_ck (zm_in ((5 * a1) + l2_2) 160) <| if (M.1 96 ((5 * (a1 ^^^ ((1 : Int32) <<< (l2_2 &&& 31)))) + l2_2).toNatClampNeg) ≤ (M.1 96 ((5 * a1) + l2_2).toNatClampNeg) then (zm_v (l2_2 + 1) <| fun x44 => some (.inl x44)) else (some (.inr (.inl ()))))
noncomputable def f_X11_isResting (a1 : Int32) (M : zm_Mem) : Option Int32 :=
  (zm_lp (f_X11_isResting_l2 a1 M) 0).bind (Sum.elim (fun _ => some 0) (fun _ => some 1))
set_option maxRecDepth 20000 in
set_option maxHeartbeats 4000000 in
theorem k_X11_isResting (E : zm_E) (sv : Nat) (a1 : Int32) (M : zm_Mem) {r : Int32} (h : f_X11_isResting a1 M = some r) : zm_Ct E (zm_w sv) (zm_w sv) yX11_isResting Y_X11_isResting [.ref (E.2.1 + 52), .int a1] M (some (.int r)) M := by
  refine zm_methr (emb := zm_ei) (d := f_X11_isResting a1 M) (by decide) rfl rfl (Nat.le_of_ble_eq_true rfl) h (fun X => ?_)
  show zm_V X Y_X11_isResting E (zm_Q X E Y_X11_isResting.2.2.2.1.cells Y_X11_isResting.2.2.2.1.slots (zm_w sv) zm_ei) 0 0 false (zm_w sv) 0 [(0, .ref (E.2.1 + 52)), (1, .int a1)] [] M (f_X11_isResting a1 M) (fun r => some (r, M))
  unfold f_X11_isResting
  refine zm_iconst 1 rfl dX11_isResting_0 zi_0 ?_
  refine zm_istore_n (lv' := [(2, .int 0), (0, .ref (E.2.1 + 52)), (1, .int a1)]) 2 rfl dX11_isResting_1 rfl (by decide) rfl ?_
  have hx42_2 : zm_V X Y_X11_isResting E (zm_Q X E Y_X11_isResting.2.2.2.1.cells Y_X11_isResting.2.2.2.1.slots (zm_w sv) zm_ei) 0 0 false (zm_w sv) 42 [] [] M (some 0) (fun r => some (r, M)) := by
    refine zm_iconst 43 rfl dX11_isResting_42 zi_0 ?_
    exact zm_zret dX11_isResting_43 rfl rfl (Nat.le_refl _) (Nat.le_refl _) rfl
  have hx50_2 : zm_V X Y_X11_isResting E (zm_Q X E Y_X11_isResting.2.2.2.1.cells Y_X11_isResting.2.2.2.1.slots (zm_w sv) zm_ei) 0 0 false (zm_w sv) 50 [] [] M (some 1) (fun r => some (r, M)) := by
    refine zm_iconst 51 rfl dX11_isResting_50 zi_1 ?_
    exact zm_zret dX11_isResting_51 rfl rfl (Nat.le_refl _) (Nat.le_refl _) rfl
  refine zm_loc [1, 2, 0] rfl (zm_lpp (σ := Int32) (ε := (Unit ⊕ Unit)) (step := f_X11_isResting_l2 a1 M) (fun s => [(0, .ref (E.2.1 + 52)), (1, .int a1), (2, .int s)]) (fun _ => M) (fun D2 f2 hf2a hf2b hD2 s => ?_) 0)
  obtain ⟨l2_2, hq2⟩ : ∃ q, q = s := ⟨_, rfl⟩
  rw [← hq2]
  show zm_V X Y_X11_isResting E (zm_Q X E Y_X11_isResting.2.2.2.1.cells Y_X11_isResting.2.2.2.1.slots (zm_w sv) zm_ei) 0 0 false (zm_w sv) 2 [(0, .ref (E.2.1 + 52)), (1, .int a1), (2, .int l2_2)] [] M (f_X11_isResting_l2 a1 M l2_2) f2
  unfold f_X11_isResting_l2
  refine zm_iload_n 3 rfl dX11_isResting_2 rfl 2 rfl ?_
  refine zm_aload_n 4 rfl dX11_isResting_3 rfl 0 rfl ?_
  refine zm_getR (a := 63) 7 rfl dX11_isResting_4 fl_X11_49 rfl (zm_L (sv := sv) rfl) rfl (by decide) ?_
  refine zm_aload_n 8 rfl dX11_isResting_7 rfl 0 rfl ?_
  refine zm_getI 11 rfl dX11_isResting_8 fl_X11_251 rfl (zm_L (sv := sv) rfl) ?_
  refine zm_iald 12 rfl dX11_isResting_11 rfl (zm_L (sv := sv) rfl) ?_
  refine zm_icmp_ge 50 15 (by decide) rfl dX11_isResting_12 ?_ ?_
  · exact zm_loc [] rfl (zm_go (hf2b _) (zm_unb (hx50_2)))
  · refine zm_aload_n 16 rfl dX11_isResting_15 rfl 0 rfl ?_
    refine zm_getR (a := 96) 19 rfl dX11_isResting_16 fl_X11_149 rfl (zm_L (sv := sv) rfl) rfl (by decide) ?_
    refine zm_iconst 20 rfl dX11_isResting_19 zi_5 ?_
    refine zm_iload_n 21 rfl dX11_isResting_20 rfl 1 rfl ?_
    refine zm_iconst 22 rfl dX11_isResting_21 zi_1 ?_
    refine zm_iload_n 23 rfl dX11_isResting_22 rfl 2 rfl ?_
    refine zm_ishl 24 rfl dX11_isResting_23 ?_
    refine zm_ixor 25 rfl dX11_isResting_24 ?_
    refine zm_imul 26 rfl dX11_isResting_25 ?_
    refine zm_iload_n 27 rfl dX11_isResting_26 rfl 2 rfl ?_
    refine zm_iadd 28 rfl dX11_isResting_27 ?_
    refine zm_iald 29 rfl dX11_isResting_28 rfl (zm_L (sv := sv) rfl) ?_
    refine zm_aload_n 30 rfl dX11_isResting_29 rfl 0 rfl ?_
    refine zm_getR (a := 96) 33 rfl dX11_isResting_30 fl_X11_149 rfl (zm_L (sv := sv) rfl) rfl (by decide) ?_
    refine zm_iconst 34 rfl dX11_isResting_33 zi_5 ?_
    refine zm_iload_n 35 rfl dX11_isResting_34 rfl 1 rfl ?_
    refine zm_imul 36 rfl dX11_isResting_35 ?_
    refine zm_iload_n 37 rfl dX11_isResting_36 rfl 2 rfl ?_
    refine zm_iadd 38 rfl dX11_isResting_37 ?_
    refine zm_iald 39 rfl dX11_isResting_38 rfl (zm_L (sv := sv) rfl) ?_
    refine zm_icmp_le 44 42 (by decide) rfl dX11_isResting_39 ?_ ?_
    · refine zm_iinc (lv' := fun z => [(2, .int z), (0, .ref (E.2.1 + 52)), (1, .int a1)]) 47 rfl dX11_isResting_44 zi_1 2 rfl (by decide) (fun _ => rfl) (fun x44 _ => ?_)
      refine zm_goto 2 (by decide) dX11_isResting_47 ?_
      exact zm_loc [1, 2, 0] rfl (zm_go (hf2a _) (hD2 x44))
    · exact zm_loc [] rfl (zm_go (hf2b _) (zm_unb (hx42_2)))
abbrev Y_X11_backs : zm_Y := (cX11_backs, 4, RX11, { frames := 5, cells := 0, slots := 0, locals := 124 }, (some .int), false, "backs")
noncomputable def f_X11_backs_x81_39 (a1 : Int32) (N35 : zm_Mem) (e81_2 : Int32) : Option (Int32 × zm_Mem) :=
 if a1 = (-1 : Int32) then (some (e81_2, N35)) else (some ((-1), N35))
noncomputable def f_X11_backs_b75_39 (l39_3 : Int32) (b75_2 : Int32) : Option ((Int32 × Int32) ⊕ (Int32 ⊕ Int32)) :=
 zm_v (l39_3 + 1) <| fun x75 => some (.inl (b75_2, x75))
noncomputable def f_X11_backs_l39 (a1 : Int32) (N35 : zm_Mem) (l39_2 : Int32) (l39_3 : Int32) : Option ((Int32 × Int32) ⊕ (Int32 ⊕ Int32)) :=
 zm_ck (zm_in (N35.1 52 18) 2) <| if ((1 : Int32) <<< ((N35.1 63 (N35.1 52 18).toNatClampNeg) &&& 31)) ≤ l39_3 then (some (.inr (.inr l39_2))) else (zm_b1 (f_X11_isResting l39_3 N35) <| fun r56 => if r56 = 0 then (f_X11_backs_b75_39 l39_3 l39_2) else (if l39_2 = a1 then (some (.inr (.inl l39_3))) else (zm_v (l39_2 + 1) <| fun x72 => f_X11_backs_b75_39 l39_3 x72)))
noncomputable def f_X11_backs_x35_9 (a1 : Int32) (N35 : zm_Mem) : Option (Int32 × zm_Mem) :=
 (zm_lp (fun s => f_X11_backs_l39 a1 N35 s.1 s.2) (0, 0)).bind (Sum.elim (fun e70 => some (e70, N35)) (fun e81 => f_X11_backs_x81_39 a1 N35 e81))
noncomputable def f_X11_backs_l9 (l9_2 : Int32) (L9 : zm_Mem) : Option ((Int32 × zm_Mem) ⊕ zm_Mem) :=
 zm_ck (zm_in (L9.1 52 18) 2) <| if ((1 : Int32) <<< ((L9.1 63 (L9.1 52 18).toNatClampNeg) &&& 31)) ≤ l9_2 then (some (.inr L9)) else (zm_b2 (f_X11_fillsLikes l9_2 L9) <| fun _ M26 => zm_v (l9_2 + 1) <| fun x29 => some (.inl (x29, M26)))
noncomputable def f_X11_backs (a1 : Int32) (M : zm_Mem) : Option (Int32 × zm_Mem) :=
  if (-1 : Int32) ≤ a1 then ((zm_lp (fun s => f_X11_backs_l9 s.1 s.2) (0, M)).bind (fun e35 => f_X11_backs_x35_9 a1 e35)) else (some ((-1), M))
set_option maxRecDepth 20000 in
set_option maxHeartbeats 4000000 in
theorem k_X11_backs (E : zm_E) (sv : Nat) (a1 : Int32) (M : zm_Mem) {r : Int32} {M' : zm_Mem} (h : f_X11_backs a1 M = some (r, M')) : zm_Ct E (zm_w sv) (zm_w sv) yX11_backs Y_X11_backs [.ref (E.2.1 + 52), .int a1] M (some (.int r)) M' := by
  refine zm_meth (emb := zm_ei) (d := f_X11_backs a1 M) (by decide) rfl rfl (Nat.le_of_ble_eq_true rfl) h (fun X => ?_)
  show zm_V X Y_X11_backs E (zm_Q X E Y_X11_backs.2.2.2.1.cells Y_X11_backs.2.2.2.1.slots (zm_w sv) zm_ei) 0 0 false (zm_w sv) 0 [(0, .ref (E.2.1 + 52)), (1, .int a1)] [] M (f_X11_backs a1 M) some
  unfold f_X11_backs
  refine zm_iload_n 1 rfl dX11_backs_0 rfl 1 rfl ?_
  refine zm_iconst 2 rfl dX11_backs_1 zi_m1 ?_
  refine zm_icmp_ge 7 5 (by decide) rfl dX11_backs_2 ?_ ?_
  · refine zm_iconst 8 rfl dX11_backs_7 zi_0 ?_
    refine zm_istore_n (lv' := [(2, .int 0), (0, .ref (E.2.1 + 52)), (1, .int a1)]) 9 rfl dX11_backs_8 rfl (by decide) rfl ?_
    have hx35_9 : ∀ (N35 : zm_Mem), zm_V X Y_X11_backs E (zm_Q X E Y_X11_backs.2.2.2.1.cells Y_X11_backs.2.2.2.1.slots (zm_w sv) zm_ei) 0 0 false (zm_w sv) 35 [(0, .ref (E.2.1 + 52)), (1, .int a1)] [] N35 (f_X11_backs_x35_9 a1 N35) some := by
      intro N35
      unfold f_X11_backs_x35_9
      refine zm_iconst 36 rfl dX11_backs_35 zi_0 ?_
      refine zm_istore_n (lv' := [(2, .int 0), (0, .ref (E.2.1 + 52)), (1, .int a1)]) 37 rfl dX11_backs_36 rfl (by decide) rfl ?_
      refine zm_iconst 38 rfl dX11_backs_37 zi_0 ?_
      refine zm_istore_n (lv' := [(3, .int 0), (2, .int 0), (0, .ref (E.2.1 + 52)), (1, .int a1)]) 39 rfl dX11_backs_38 rfl (by decide) rfl ?_
      have hx70_39 : ∀ (e70_3 : Int32), zm_V X Y_X11_backs E (zm_Q X E Y_X11_backs.2.2.2.1.cells Y_X11_backs.2.2.2.1.slots (zm_w sv) zm_ei) 0 0 false (zm_w sv) 70 [(3, .int e70_3)] [] N35 (some (e70_3, N35)) some := by
        intro e70_3
        refine zm_iload_n 71 rfl dX11_backs_70 rfl 0 rfl ?_
        exact zm_iret dX11_backs_71 rfl (Nat.le_refl _) (Nat.le_refl _) rfl
      have hx81_39 : ∀ (e81_2 : Int32), zm_V X Y_X11_backs E (zm_Q X E Y_X11_backs.2.2.2.1.cells Y_X11_backs.2.2.2.1.slots (zm_w sv) zm_ei) 0 0 false (zm_w sv) 81 [(1, .int a1), (2, .int e81_2)] [] N35 (f_X11_backs_x81_39 a1 N35 e81_2) some := by
        intro e81_2
        unfold f_X11_backs_x81_39
        refine zm_iload_n 82 rfl dX11_backs_81 rfl 0 rfl ?_
        refine zm_iconst 83 rfl dX11_backs_82 zi_m1 ?_
        refine zm_icmp_ne 90 86 (by decide) rfl dX11_backs_83 ?_ ?_
        · refine zm_iload_n 87 rfl dX11_backs_86 rfl 1 rfl ?_
          refine zm_goto 91 (by decide) dX11_backs_87 ?_
          exact zm_iret dX11_backs_91 rfl (Nat.le_refl _) (Nat.le_refl _) rfl
        · refine zm_iconst 91 rfl dX11_backs_90 zi_m1 ?_
          exact zm_iret dX11_backs_91 rfl (Nat.le_refl _) (Nat.le_refl _) rfl
      refine zm_loc [2, 3, 1, 0] rfl (zm_lpp (σ := (Int32 × Int32)) (ε := (Int32 ⊕ Int32)) (step := fun s => f_X11_backs_l39 a1 N35 s.1 s.2) (fun s => [(0, .ref (E.2.1 + 52)), (1, .int a1), (2, .int s.1), (3, .int s.2)]) (fun _ => N35) (fun D39 f39 hf39a hf39b hD39 s => ?_) (0, 0))
      obtain ⟨l39_2, l39_3⟩ := s
      show zm_V X Y_X11_backs E (zm_Q X E Y_X11_backs.2.2.2.1.cells Y_X11_backs.2.2.2.1.slots (zm_w sv) zm_ei) 0 0 false (zm_w sv) 39 [(0, .ref (E.2.1 + 52)), (1, .int a1), (2, .int l39_2), (3, .int l39_3)] [] N35 (f_X11_backs_l39 a1 N35 l39_2 l39_3) f39
      unfold f_X11_backs_l39
      refine zm_iload_n 40 rfl dX11_backs_39 rfl 3 rfl ?_
      refine zm_iconst 41 rfl dX11_backs_40 zi_1 ?_
      refine zm_aload_n 42 rfl dX11_backs_41 rfl 0 rfl ?_
      refine zm_getR (a := 63) 45 rfl dX11_backs_42 fl_X11_49 rfl (zm_L (sv := sv) rfl) rfl (by decide) ?_
      refine zm_aload_n 46 rfl dX11_backs_45 rfl 0 rfl ?_
      refine zm_getI 49 rfl dX11_backs_46 fl_X11_251 rfl (zm_L (sv := sv) rfl) ?_
      refine zm_iald 50 rfl dX11_backs_49 rfl (zm_L (sv := sv) rfl) ?_
      refine zm_ishl 51 rfl dX11_backs_50 ?_
      refine zm_icmp_ge 81 54 (by decide) rfl dX11_backs_51 ?_ ?_
      · exact zm_loc [1, 2] rfl (zm_go (hf39b _) (zm_unb (hx81_39 l39_2)))
      · refine zm_aload_n 55 rfl dX11_backs_54 rfl 0 rfl ?_
        refine zm_iload_n 56 rfl dX11_backs_55 rfl 3 rfl ?_
        refine zm_cV1ir 59 rfl dX11_backs_56 ml_X11_459 rfl (zm_L (sv := sv) rfl) rfl (Nat.le_of_ble_eq_true rfl) ⟨Nat.le_of_ble_eq_true rfl, Nat.le_of_ble_eq_true rfl⟩ rfl rfl ⟨Nat.le_refl _, Nat.le_refl _⟩ rfl (fun _ h => k_X11_isResting E sv l39_3 N35 h) (fun r56 => ?_)
        have hb75_39 : ∀ (b75_2 : Int32), zm_V X Y_X11_backs E (zm_Q X E Y_X11_backs.2.2.2.1.cells Y_X11_backs.2.2.2.1.slots (zm_w sv) zm_ei) 0 0 false (zm_w sv) 75 [(0, .ref (E.2.1 + 52)), (1, .int a1), (2, .int b75_2), (3, .int l39_3)] [] N35 (f_X11_backs_b75_39 l39_3 b75_2) f39 := by
          intro b75_2
          unfold f_X11_backs_b75_39
          refine zm_iinc (lv' := fun z => [(3, .int z), (0, .ref (E.2.1 + 52)), (1, .int a1), (2, .int b75_2)]) 78 rfl dX11_backs_75 zi_1 3 rfl (by decide) (fun _ => rfl) (fun x75 _ => ?_)
          refine zm_goto 39 (by decide) dX11_backs_78 ?_
          exact zm_loc [1, 2, 3, 0] rfl (zm_go (hf39a _) (hD39 (b75_2, x75)))
        refine zm_if_ne 65 62 (by decide) rfl dX11_backs_59 ?_ ?_
        · refine zm_goto 75 (by decide) dX11_backs_62 ?_
          exact zm_loc [0, 1, 2, 3] rfl (hb75_39 l39_2)
        · refine zm_iload_n 66 rfl dX11_backs_65 rfl 2 rfl ?_
          refine zm_iload_n 67 rfl dX11_backs_66 rfl 1 rfl ?_
          refine zm_icmp_ne 72 70 (by decide) rfl dX11_backs_67 ?_ ?_
          · exact zm_loc [3] rfl (zm_go (hf39b _) (zm_unb (hx70_39 l39_3)))
          · refine zm_iinc (lv' := fun z => [(2, .int z), (0, .ref (E.2.1 + 52)), (1, .int a1), (3, .int l39_3)]) 75 rfl dX11_backs_72 zi_1 2 rfl (by decide) (fun _ => rfl) (fun x72 _ => ?_)
            exact zm_loc [1, 2, 0, 3] rfl (hb75_39 x72)
    refine zm_loc [1, 2, 0] rfl (zm_lpp (σ := (Int32 × zm_Mem)) (ε := zm_Mem) (step := fun s => f_X11_backs_l9 s.1 s.2) (fun s => [(0, .ref (E.2.1 + 52)), (1, .int a1), (2, .int s.1)]) (fun s => s.2) (fun D9 f9 hf9a hf9b hD9 s => ?_) (0, M))
    obtain ⟨l9_2, L9⟩ := s
    show zm_V X Y_X11_backs E (zm_Q X E Y_X11_backs.2.2.2.1.cells Y_X11_backs.2.2.2.1.slots (zm_w sv) zm_ei) 0 0 false (zm_w sv) 9 [(0, .ref (E.2.1 + 52)), (1, .int a1), (2, .int l9_2)] [] L9 (f_X11_backs_l9 l9_2 L9) f9
    unfold f_X11_backs_l9
    refine zm_iload_n 10 rfl dX11_backs_9 rfl 2 rfl ?_
    refine zm_iconst 11 rfl dX11_backs_10 zi_1 ?_
    refine zm_aload_n 12 rfl dX11_backs_11 rfl 0 rfl ?_
    refine zm_getR (a := 63) 15 rfl dX11_backs_12 fl_X11_49 rfl (zm_L (sv := sv) rfl) rfl (by decide) ?_
    refine zm_aload_n 16 rfl dX11_backs_15 rfl 0 rfl ?_
    refine zm_getI 19 rfl dX11_backs_16 fl_X11_251 rfl (zm_L (sv := sv) rfl) ?_
    refine zm_iald 20 rfl dX11_backs_19 rfl (zm_L (sv := sv) rfl) ?_
    refine zm_ishl 21 rfl dX11_backs_20 ?_
    refine zm_icmp_ge 35 24 (by decide) rfl dX11_backs_21 ?_ ?_
    · exact zm_loc [0, 1] rfl (zm_go (hf9b _) (zm_unb (hx35_9 L9)))
    · refine zm_aload_n 25 rfl dX11_backs_24 rfl 0 rfl ?_
      refine zm_iload_n 26 rfl dX11_backs_25 rfl 2 rfl ?_
      refine zm_cV1v 29 rfl dX11_backs_26 ml_X11_456 rfl (zm_L (sv := sv) rfl) rfl (Nat.le_of_ble_eq_true rfl) ⟨Nat.le_of_ble_eq_true rfl, Nat.le_of_ble_eq_true rfl⟩ rfl rfl ⟨Nat.le_refl _, Nat.le_refl _⟩ rfl (fun _ _ h => k_X11_fillsLikes E sv l9_2 L9 h) (fun _ M26 => ?_)
      refine zm_iinc (lv' := fun z => [(2, .int z), (0, .ref (E.2.1 + 52)), (1, .int a1)]) 32 rfl dX11_backs_29 zi_1 2 rfl (by decide) (fun _ => rfl) (fun x29 _ => ?_)
      refine zm_goto 9 (by decide) dX11_backs_32 ?_
      exact zm_loc [1, 2, 0] rfl (zm_go (hf9a _) (hD9 (x29, M26)))
  · refine zm_iconst 6 rfl dX11_backs_5 zi_m1 ?_
    exact zm_iret dX11_backs_6 rfl (Nat.le_refl _) (Nat.le_refl _) rfl
abbrev Y_X11_threes : zm_Y := (cX11_threes, 3, RX11, { frames := 0, cells := 0, slots := 0, locals := 0 }, (some .int), false, "threes")
noncomputable def f_X11_threes_l4 (a0 : Int32) (l4_1 : Int32) (l4_2 : Int32) : Option ((Int32 × Int32) ⊕ Int32) :=
 if a0 ≤ l4_2 then (some (.inr l4_1)) else (zm_v (l4_1 * 3) <| fun x12 => zm_v (l4_2 + 1) <| fun x13 => some (.inl (x12, x13)))
noncomputable def f_X11_threes (a0 : Int32) (M : zm_Mem) : Option Int32 :=
  (zm_lp (fun s => f_X11_threes_l4 a0 s.1 s.2) (1, 0)).bind (fun e19 => some e19)
set_option maxRecDepth 20000 in
set_option maxHeartbeats 4000000 in
theorem k_X11_threes (E : zm_E) (w : zm_W) (a0 : Int32) (M : zm_Mem) {r : Int32} (h : f_X11_threes a0 M = some r) : zm_Ct E w w yX11_threes Y_X11_threes [.int a0] M (some (.int r)) M := by
  refine zm_methr (emb := zm_ei) (d := f_X11_threes a0 M) (by decide) rfl rfl (Nat.le_of_ble_eq_true rfl) h (fun X => ?_)
  show zm_V X Y_X11_threes E (zm_Q X E Y_X11_threes.2.2.2.1.cells Y_X11_threes.2.2.2.1.slots w zm_ei) 0 0 false w 0 [(0, .int a0)] [] M (f_X11_threes a0 M) (fun r => some (r, M))
  unfold f_X11_threes
  refine zm_iconst 1 rfl dX11_threes_0 zi_1 ?_
  refine zm_istore_n (lv' := [(1, .int 1), (0, .int a0)]) 2 rfl dX11_threes_1 rfl (by decide) rfl ?_
  refine zm_iconst 3 rfl dX11_threes_2 zi_0 ?_
  refine zm_istore_n (lv' := [(2, .int 0), (1, .int 1), (0, .int a0)]) 4 rfl dX11_threes_3 rfl (by decide) rfl ?_
  have hx19_4 : ∀ (e19_1 : Int32), zm_V X Y_X11_threes E (zm_Q X E Y_X11_threes.2.2.2.1.cells Y_X11_threes.2.2.2.1.slots w zm_ei) 0 0 false w 19 [(1, .int e19_1)] [] M (some e19_1) (fun r => some (r, M)) := by
    intro e19_1
    refine zm_iload_n 20 rfl dX11_threes_19 rfl 0 rfl ?_
    exact zm_iret dX11_threes_20 rfl (Nat.le_refl _) (Nat.le_refl _) rfl
  refine zm_loc [2, 1, 0] rfl (zm_lpp (σ := (Int32 × Int32)) (ε := Int32) (step := fun s => f_X11_threes_l4 a0 s.1 s.2) (fun s => [(0, .int a0), (1, .int s.1), (2, .int s.2)]) (fun _ => M) (fun D4 f4 hf4a hf4b hD4 s => ?_) (1, 0))
  obtain ⟨l4_1, l4_2⟩ := s
  show zm_V X Y_X11_threes E (zm_Q X E Y_X11_threes.2.2.2.1.cells Y_X11_threes.2.2.2.1.slots w zm_ei) 0 0 false w 4 [(0, .int a0), (1, .int l4_1), (2, .int l4_2)] [] M (f_X11_threes_l4 a0 l4_1 l4_2) f4
  unfold f_X11_threes_l4
  refine zm_iload_n 5 rfl dX11_threes_4 rfl 2 rfl ?_
  refine zm_iload_n 6 rfl dX11_threes_5 rfl 0 rfl ?_
  refine zm_icmp_ge 19 9 (by decide) rfl dX11_threes_6 ?_ ?_
  · exact zm_loc [1] rfl (zm_go (hf4b _) (zm_unb (hx19_4 l4_1)))
  · refine zm_iload_n 10 rfl dX11_threes_9 rfl 1 rfl ?_
    refine zm_iconst 11 rfl dX11_threes_10 zi_3 ?_
    refine zm_imul 12 rfl dX11_threes_11 ?_
    refine zm_nmi (fun x12 _ => ?_)
    refine zm_istore_n (lv' := [(1, .int x12), (0, .int a0), (2, .int l4_2)]) 13 rfl dX11_threes_12 rfl (by decide) rfl ?_
    refine zm_iinc (lv' := fun z => [(2, .int z), (1, .int x12), (0, .int a0)]) 16 rfl dX11_threes_13 zi_1 2 rfl (by decide) (fun _ => rfl) (fun x13 _ => ?_)
    refine zm_goto 4 (by decide) dX11_threes_16 ?_
    exact zm_loc [2, 1, 0] rfl (zm_go (hf4a _) (hD4 (x12, x13)))
abbrev Y_X11_daysBy : zm_Y := (cX11_daysBy, 6, RX11, { frames := 1, cells := 0, slots := 0, locals := 22 }, (some .int), false, "daysBy")
noncomputable def f_X11_daysBy_b89_4 (l4_3 : Int32) (b89_2 : Int32) : Option ((Int32 × Int32) ⊕ (Unit ⊕ Int32)) :=
 zm_v (l4_3 + 1) <| fun x89 => some (.inl (b89_2, x89))
noncomputable def f_X11_daysBy_b80_4 (l4_2 : Int32) (l4_3 : Int32) (e60_4 : Int32) : Option ((Int32 × Int32) ⊕ (Unit ⊕ Int32)) :=
 if e60_4 ≤ l4_2 then (f_X11_daysBy_b89_4 l4_3 l4_2) else (f_X11_daysBy_b89_4 l4_3 e60_4)
noncomputable def f_X11_daysBy_x60_15_4 (M : zm_Mem) (l4_2 : Int32) (l4_3 : Int32) (e60_4 : Int32) : Option ((Int32 × Int32) ⊕ (Unit ⊕ Int32)) :=
 zm_ck (zm_in (M.1 52 18) 2) <| if l4_3 < (M.1 77 (M.1 52 18).toNatClampNeg) then (f_X11_daysBy_b80_4 l4_2 l4_3 e60_4) else (if e60_4 ≤ 0 then (f_X11_daysBy_b80_4 l4_2 l4_3 e60_4) else (some (.inr (.inl ()))))
noncomputable def f_X11_daysBy_b54_15_4 (l15_5 : Int32) (b54_4 : Int32) : Option ((Int32 × Int32) ⊕ Int32) :=
 zm_v (l15_5 + 1) <| fun x54 => some (.inl (b54_4, x54))
noncomputable def f_X11_daysBy_l15_4 (a1 : Int32) (M : zm_Mem) (l4_3 : Int32) (l15_4 : Int32) (l15_5 : Int32) : Option ((Int32 × Int32) ⊕ Int32) :=
 zm_ck (zm_in (M.1 52 18) 2) <| if (M.1 66 (M.1 52 18).toNatClampNeg) ≤ l15_5 then (some (.inr l15_4)) else (zm_b1 (f_X11_threes l15_5 M) <| fun r32 => zm_ck (!decide (r32 = 0)) <| zm_ck (!decide ((3 : Int32) = 0)) <| if ((a1 / r32) - (a1 / r32) / 3 * 3) = l4_3 then (zm_ck (zm_in l15_5 6) <| zm_v (l15_4 + (M.1 97 l15_5.toNatClampNeg)) <| fun x52 => f_X11_daysBy_b54_15_4 l15_5 x52) else (f_X11_daysBy_b54_15_4 l15_5 l15_4))
noncomputable def f_X11_daysBy_l4 (a1 : Int32) (M : zm_Mem) (l4_2 : Int32) (l4_3 : Int32) : Option ((Int32 × Int32) ⊕ (Unit ⊕ Int32)) :=
 if (3 : Int32) ≤ l4_3 then (some (.inr (.inr l4_2))) else ((zm_lp (fun s => f_X11_daysBy_l15_4 a1 M l4_3 s.1 s.2) (0, 0)).bind (fun e60 => f_X11_daysBy_x60_15_4 M l4_2 l4_3 e60))
noncomputable def f_X11_daysBy (a1 : Int32) (M : zm_Mem) : Option Int32 :=
  (zm_lp (fun s => f_X11_daysBy_l4 a1 M s.1 s.2) (0, 0)).bind (Sum.elim (fun _ => some (-1)) (fun e95 => some e95))
set_option maxRecDepth 20000 in
set_option maxHeartbeats 4000000 in
theorem k_X11_daysBy (E : zm_E) (sv : Nat) (a1 : Int32) (M : zm_Mem) {r : Int32} (h : f_X11_daysBy a1 M = some r) : zm_Ct E (zm_w sv) (zm_w sv) yX11_daysBy Y_X11_daysBy [.ref (E.2.1 + 52), .int a1] M (some (.int r)) M := by
  refine zm_methr (emb := zm_ei) (d := f_X11_daysBy a1 M) (by decide) rfl rfl (Nat.le_of_ble_eq_true rfl) h (fun X => ?_)
  show zm_V X Y_X11_daysBy E (zm_Q X E Y_X11_daysBy.2.2.2.1.cells Y_X11_daysBy.2.2.2.1.slots (zm_w sv) zm_ei) 0 0 false (zm_w sv) 0 [(0, .ref (E.2.1 + 52)), (1, .int a1)] [] M (f_X11_daysBy a1 M) (fun r => some (r, M))
  unfold f_X11_daysBy
  refine zm_iconst 1 rfl dX11_daysBy_0 zi_0 ?_
  refine zm_istore_n (lv' := [(2, .int 0), (0, .ref (E.2.1 + 52)), (1, .int a1)]) 2 rfl dX11_daysBy_1 rfl (by decide) rfl ?_
  refine zm_iconst 3 rfl dX11_daysBy_2 zi_0 ?_
  refine zm_istore_n (lv' := [(3, .int 0), (2, .int 0), (0, .ref (E.2.1 + 52)), (1, .int a1)]) 4 rfl dX11_daysBy_3 rfl (by decide) rfl ?_
  have hx78_4 : zm_V X Y_X11_daysBy E (zm_Q X E Y_X11_daysBy.2.2.2.1.cells Y_X11_daysBy.2.2.2.1.slots (zm_w sv) zm_ei) 0 0 false (zm_w sv) 78 [] [] M (some (-1)) (fun r => some (r, M)) := by
    refine zm_iconst 79 rfl dX11_daysBy_78 zi_m1 ?_
    exact zm_iret dX11_daysBy_79 rfl (Nat.le_refl _) (Nat.le_refl _) rfl
  have hx95_4 : ∀ (e95_2 : Int32), zm_V X Y_X11_daysBy E (zm_Q X E Y_X11_daysBy.2.2.2.1.cells Y_X11_daysBy.2.2.2.1.slots (zm_w sv) zm_ei) 0 0 false (zm_w sv) 95 [(2, .int e95_2)] [] M (some e95_2) (fun r => some (r, M)) := by
    intro e95_2
    refine zm_iload_n 96 rfl dX11_daysBy_95 rfl 0 rfl ?_
    exact zm_iret dX11_daysBy_96 rfl (Nat.le_refl _) (Nat.le_refl _) rfl
  refine zm_loc [2, 3, 1, 0] rfl (zm_lpp (σ := (Int32 × Int32)) (ε := (Unit ⊕ Int32)) (step := fun s => f_X11_daysBy_l4 a1 M s.1 s.2) (fun s => [(0, .ref (E.2.1 + 52)), (1, .int a1), (2, .int s.1), (3, .int s.2)]) (fun _ => M) (fun D4 f4 hf4a hf4b hD4 s => ?_) (0, 0))
  obtain ⟨l4_2, l4_3⟩ := s
  show zm_V X Y_X11_daysBy E (zm_Q X E Y_X11_daysBy.2.2.2.1.cells Y_X11_daysBy.2.2.2.1.slots (zm_w sv) zm_ei) 0 0 false (zm_w sv) 4 [(0, .ref (E.2.1 + 52)), (1, .int a1), (2, .int l4_2), (3, .int l4_3)] [] M (f_X11_daysBy_l4 a1 M l4_2 l4_3) f4
  unfold f_X11_daysBy_l4
  refine zm_iload_n 5 rfl dX11_daysBy_4 rfl 3 rfl ?_
  refine zm_iconst 6 rfl dX11_daysBy_5 zi_3 ?_
  refine zm_icmp_ge 95 9 (by decide) rfl dX11_daysBy_6 ?_ ?_
  · exact zm_loc [2] rfl (zm_go (hf4b _) (zm_unb (hx95_4 l4_2)))
  · refine zm_iconst 10 rfl dX11_daysBy_9 zi_0 ?_
    refine zm_istore (lv' := [(4, .int 0), (0, .ref (E.2.1 + 52)), (1, .int a1), (2, .int l4_2), (3, .int l4_3)]) 12 rfl dX11_daysBy_10 (by decide) rfl ?_
    refine zm_iconst 13 rfl dX11_daysBy_12 zi_0 ?_
    refine zm_istore (lv' := [(5, .int 0), (4, .int 0), (0, .ref (E.2.1 + 52)), (1, .int a1), (2, .int l4_2), (3, .int l4_3)]) 15 rfl dX11_daysBy_13 (by decide) rfl ?_
    have hx60_15_4 : ∀ (e60_4 : Int32), zm_V X Y_X11_daysBy E (zm_Q X E Y_X11_daysBy.2.2.2.1.cells Y_X11_daysBy.2.2.2.1.slots (zm_w sv) zm_ei) 0 0 false (zm_w sv) 60 [(0, .ref (E.2.1 + 52)), (1, .int a1), (2, .int l4_2), (3, .int l4_3), (4, .int e60_4)] [] M (f_X11_daysBy_x60_15_4 M l4_2 l4_3 e60_4) f4 := by
      intro e60_4
      unfold f_X11_daysBy_x60_15_4
      refine zm_iload_n 61 rfl dX11_daysBy_60 rfl 3 rfl ?_
      refine zm_aload_n 62 rfl dX11_daysBy_61 rfl 0 rfl ?_
      refine zm_getR (a := 77) 65 rfl dX11_daysBy_62 fl_X11_91 rfl (zm_L (sv := sv) rfl) rfl (by decide) ?_
      refine zm_aload_n 66 rfl dX11_daysBy_65 rfl 0 rfl ?_
      refine zm_getI 69 rfl dX11_daysBy_66 fl_X11_251 rfl (zm_L (sv := sv) rfl) ?_
      refine zm_iald 70 rfl dX11_daysBy_69 rfl (zm_L (sv := sv) rfl) ?_
      have hb80_4 : zm_V X Y_X11_daysBy E (zm_Q X E Y_X11_daysBy.2.2.2.1.cells Y_X11_daysBy.2.2.2.1.slots (zm_w sv) zm_ei) 0 0 false (zm_w sv) 80 [(0, .ref (E.2.1 + 52)), (1, .int a1), (2, .int l4_2), (3, .int l4_3), (4, .int e60_4)] [] M (f_X11_daysBy_b80_4 l4_2 l4_3 e60_4) f4 := by
        unfold f_X11_daysBy_b80_4
        refine zm_iload 82 rfl dX11_daysBy_80 4 rfl ?_
        refine zm_iload_n 83 rfl dX11_daysBy_82 rfl 2 rfl ?_
        have hb89_4 : ∀ (b89_2 : Int32), zm_V X Y_X11_daysBy E (zm_Q X E Y_X11_daysBy.2.2.2.1.cells Y_X11_daysBy.2.2.2.1.slots (zm_w sv) zm_ei) 0 0 false (zm_w sv) 89 [(0, .ref (E.2.1 + 52)), (1, .int a1), (2, .int b89_2), (3, .int l4_3)] [] M (f_X11_daysBy_b89_4 l4_3 b89_2) f4 := by
          intro b89_2
          unfold f_X11_daysBy_b89_4
          refine zm_iinc (lv' := fun z => [(3, .int z), (0, .ref (E.2.1 + 52)), (1, .int a1), (2, .int b89_2)]) 92 rfl dX11_daysBy_89 zi_1 3 rfl (by decide) (fun _ => rfl) (fun x89 _ => ?_)
          refine zm_goto 4 (by decide) dX11_daysBy_92 ?_
          exact zm_loc [1, 2, 3, 0] rfl (zm_go (hf4a _) (hD4 (b89_2, x89)))
        refine zm_icmp_le 89 86 (by decide) rfl dX11_daysBy_83 ?_ ?_
        · exact zm_loc [0, 1, 2, 3] rfl (hb89_4 l4_2)
        · refine zm_iload 88 rfl dX11_daysBy_86 4 rfl ?_
          refine zm_istore_n (lv' := [(2, .int e60_4), (0, .ref (E.2.1 + 52)), (1, .int a1), (3, .int l4_3), (4, .int e60_4)]) 89 rfl dX11_daysBy_88 rfl (by decide) rfl ?_
          exact zm_loc [1, 2, 0, 3] rfl (hb89_4 e60_4)
      refine zm_icmp_lt 80 73 (by decide) rfl dX11_daysBy_70 ?_ ?_
      · exact zm_loc [0, 1, 2, 3, 4] rfl (hb80_4)
      · refine zm_iload 75 rfl dX11_daysBy_73 4 rfl ?_
        refine zm_if_le 80 78 (by decide) rfl dX11_daysBy_75 ?_ ?_
        · exact zm_loc [0, 1, 2, 3, 4] rfl (hb80_4)
        · exact zm_loc [] rfl (zm_go (hf4b _) (zm_unb (hx78_4)))
    refine zm_loc [2, 3, 4, 5, 1, 0] rfl (zm_lpp (σ := (Int32 × Int32)) (ε := Int32) (step := fun s => f_X11_daysBy_l15_4 a1 M l4_3 s.1 s.2) (fun s => [(0, .ref (E.2.1 + 52)), (1, .int a1), (2, .int l4_2), (3, .int l4_3), (4, .int s.1), (5, .int s.2)]) (fun _ => M) (fun D15_4 f15_4 hf15_4a hf15_4b hD15_4 s => ?_) (0, 0))
    obtain ⟨l15_4, l15_5⟩ := s
    show zm_V X Y_X11_daysBy E (zm_Q X E Y_X11_daysBy.2.2.2.1.cells Y_X11_daysBy.2.2.2.1.slots (zm_w sv) zm_ei) 0 0 false (zm_w sv) 15 [(0, .ref (E.2.1 + 52)), (1, .int a1), (2, .int l4_2), (3, .int l4_3), (4, .int l15_4), (5, .int l15_5)] [] M (f_X11_daysBy_l15_4 a1 M l4_3 l15_4 l15_5) f15_4
    unfold f_X11_daysBy_l15_4
    refine zm_iload 17 rfl dX11_daysBy_15 5 rfl ?_
    refine zm_aload_n 18 rfl dX11_daysBy_17 rfl 0 rfl ?_
    refine zm_getR (a := 66) 21 rfl dX11_daysBy_18 fl_X11_58 rfl (zm_L (sv := sv) rfl) rfl (by decide) ?_
    refine zm_aload_n 22 rfl dX11_daysBy_21 rfl 0 rfl ?_
    refine zm_getI 25 rfl dX11_daysBy_22 fl_X11_251 rfl (zm_L (sv := sv) rfl) ?_
    refine zm_iald 26 rfl dX11_daysBy_25 rfl (zm_L (sv := sv) rfl) ?_
    refine zm_icmp_ge 60 29 (by decide) rfl dX11_daysBy_26 ?_ ?_
    · exact zm_loc [0, 1, 2, 3, 4] rfl (zm_go (hf15_4b _) (zm_unb (hx60_15_4 l15_4)))
    · refine zm_iload_n 30 rfl dX11_daysBy_29 rfl 1 rfl ?_
      refine zm_iload 32 rfl dX11_daysBy_30 5 rfl ?_
      refine zm_cS1ir 35 rfl dX11_daysBy_32 ml_X11_462 (Nat.le_of_ble_eq_true rfl) ⟨Nat.le_of_ble_eq_true rfl, Nat.le_of_ble_eq_true rfl⟩ rfl rfl ⟨Nat.le_refl _, Nat.le_refl _⟩ rfl (fun _ h => k_X11_threes E (zm_w sv) l15_5 M h) (fun r32 => ?_)
      refine zm_idiv 36 rfl dX11_daysBy_35 ?_
      refine zm_iconst 37 rfl dX11_daysBy_36 zi_3 ?_
      refine zm_irem 38 rfl dX11_daysBy_37 ?_
      refine zm_iload_n 39 rfl dX11_daysBy_38 rfl 3 rfl ?_
      have hb54_15_4 : ∀ (b54_4 : Int32), zm_V X Y_X11_daysBy E (zm_Q X E Y_X11_daysBy.2.2.2.1.cells Y_X11_daysBy.2.2.2.1.slots (zm_w sv) zm_ei) 0 0 false (zm_w sv) 54 [(0, .ref (E.2.1 + 52)), (1, .int a1), (2, .int l4_2), (3, .int l4_3), (4, .int b54_4), (5, .int l15_5)] [] M (f_X11_daysBy_b54_15_4 l15_5 b54_4) f15_4 := by
        intro b54_4
        unfold f_X11_daysBy_b54_15_4
        refine zm_iinc (lv' := fun z => [(5, .int z), (0, .ref (E.2.1 + 52)), (1, .int a1), (2, .int l4_2), (3, .int l4_3), (4, .int b54_4)]) 57 rfl dX11_daysBy_54 zi_1 5 rfl (by decide) (fun _ => rfl) (fun x54 _ => ?_)
        refine zm_goto 15 (by decide) dX11_daysBy_57 ?_
        exact zm_loc [1, 2, 3, 4, 5, 0] rfl (zm_go (hf15_4a _) (hD15_4 (b54_4, x54)))
      refine zm_icmp_ne 54 42 (by decide) rfl dX11_daysBy_39 ?_ ?_
      · refine zm_iload 44 rfl dX11_daysBy_42 4 rfl ?_
        refine zm_aload_n 45 rfl dX11_daysBy_44 rfl 0 rfl ?_
        refine zm_getR (a := 97) 48 rfl dX11_daysBy_45 fl_X11_152 rfl (zm_L (sv := sv) rfl) rfl (by decide) ?_
        refine zm_iload 50 rfl dX11_daysBy_48 5 rfl ?_
        refine zm_iald 51 rfl dX11_daysBy_50 rfl (zm_L (sv := sv) rfl) ?_
        refine zm_iadd 52 rfl dX11_daysBy_51 ?_
        refine zm_nmi (fun x52 _ => ?_)
        refine zm_istore (lv' := [(4, .int x52), (0, .ref (E.2.1 + 52)), (1, .int a1), (2, .int l4_2), (3, .int l4_3), (5, .int l15_5)]) 54 rfl dX11_daysBy_52 (by decide) rfl ?_
        exact zm_loc [1, 2, 3, 4, 0, 5] rfl (hb54_15_4 x52)
      · exact zm_loc [0, 1, 2, 3, 4, 5] rfl (hb54_15_4 l15_4)
abbrev Y_X11_soonest : zm_Y := (cX11_soonest, 4, RX11, { frames := 4, cells := 0, slots := 0, locals := 99 }, (some .int), false, "soonest")
noncomputable def f_X11_soonest_b123_86 (l86_2 : Int32) (b123_1 : Int32) : Option ((Int32 × Int32) ⊕ Int32) :=
 zm_v (l86_2 + 1) <| fun x123 => some (.inl (b123_1, x123))
noncomputable def f_X11_soonest_b121_86 (l86_2 : Int32) (r104 : Int32) : Option ((Int32 × Int32) ⊕ Int32) :=
 f_X11_soonest_b123_86 l86_2 r104
noncomputable def f_X11_soonest_l86 (N82 : zm_Mem) (l86_1 : Int32) (l86_2 : Int32) : Option ((Int32 × Int32) ⊕ Int32) :=
 zm_ck (zm_in (N82.1 52 18) 2) <| zm_b1 (f_X11_threes (N82.1 66 (N82.1 52 18).toNatClampNeg) N82) <| fun r96 => if r96 ≤ l86_2 then (some (.inr l86_1)) else (zm_b1 (f_X11_daysBy l86_2 N82) <| fun r104 => if r104 < 0 then (f_X11_soonest_b123_86 l86_2 l86_1) else (if l86_1 < 0 then (f_X11_soonest_b121_86 l86_2 r104) else (if l86_1 ≤ r104 then (f_X11_soonest_b123_86 l86_2 l86_1) else (f_X11_soonest_b121_86 l86_2 r104))))
noncomputable def f_X11_soonest_x82_6 (N82 : zm_Mem) : Option (Int32 × zm_Mem) :=
 (zm_lp (fun s => f_X11_soonest_l86 N82 s.1 s.2) ((-1), 0)).bind (fun e129 => some (e129, N82))
noncomputable def f_X11_soonest_b75_6 (l6_1 : Int32) (b75_s1 : Int32) (b75_s2 : Int32) (M75 : zm_Mem) : Option ((Int32 × zm_Mem) ⊕ zm_Mem) :=
 zm_ck (zm_in b75_s1 6) <| zm_v (zm_sI M75 97 b75_s1.toNatClampNeg b75_s2) <| fun M75_1 => zm_v (l6_1 + 1) <| fun x76 => some (.inl (x76, M75_1))
noncomputable def f_X11_soonest_b46_6 (l6_1 : Int32) (L6 : zm_Mem) (b46_s0 : Int32) : Option ((Int32 × zm_Mem) ⊕ zm_Mem) :=
 zm_b1 (f_X11_ownerNow l6_1 L6) <| fun r55 => if b46_s0 = r55 then (f_X11_soonest_b75_6 l6_1 l6_1 0 L6) else (zm_b1 (f_X11_ownerNow l6_1 L6) <| fun r69 => zm_b2 (f_X11_tripOf l6_1 r69 L6) <| fun r72 M72 => f_X11_soonest_b75_6 l6_1 l6_1 r72 M72)
noncomputable def f_X11_soonest_l6 (l6_1 : Int32) (L6 : zm_Mem) : Option ((Int32 × zm_Mem) ⊕ zm_Mem) :=
 zm_ck (zm_in (L6.1 52 18) 2) <| if (L6.1 66 (L6.1 52 18).toNatClampNeg) ≤ l6_1 then (some (.inr L6)) else (zm_ck (zm_in l6_1 60) <| if 0 ≤ (L6.1 92 l6_1.toNatClampNeg) then (zm_ck (zm_in l6_1 60) <| f_X11_soonest_b46_6 l6_1 L6 (L6.1 92 l6_1.toNatClampNeg)) else (zm_ck (zm_in (6 + l6_1) 60) <| f_X11_soonest_b46_6 l6_1 L6 (L6.1 92 (6 + l6_1).toNatClampNeg)))
noncomputable def f_X11_soonest  (M : zm_Mem) : Option (Int32 × zm_Mem) :=
  zm_b2 (f_X11_copies M) <| fun _ M1 => (zm_lp (fun s => f_X11_soonest_l6 s.1 s.2) (0, M1)).bind (fun e82 => f_X11_soonest_x82_6 e82)
set_option maxRecDepth 20000 in
set_option maxHeartbeats 4000000 in
theorem k_X11_soonest (E : zm_E) (sv : Nat)  (M : zm_Mem) {r : Int32} {M' : zm_Mem} (h : f_X11_soonest M = some (r, M')) : zm_Ct E (zm_w sv) (zm_w sv) yX11_soonest Y_X11_soonest [.ref (E.2.1 + 52)] M (some (.int r)) M' := by
  refine zm_meth (emb := zm_ei) (d := f_X11_soonest M) (by decide) rfl rfl (Nat.le_of_ble_eq_true rfl) h (fun X => ?_)
  show zm_V X Y_X11_soonest E (zm_Q X E Y_X11_soonest.2.2.2.1.cells Y_X11_soonest.2.2.2.1.slots (zm_w sv) zm_ei) 0 0 false (zm_w sv) 0 [(0, .ref (E.2.1 + 52))] [] M (f_X11_soonest M) some
  unfold f_X11_soonest
  refine zm_aload_n 1 rfl dX11_soonest_0 rfl 0 rfl ?_
  refine zm_cV0v 4 rfl dX11_soonest_1 ml_X11_388 rfl (zm_L (sv := sv) rfl) rfl (Nat.le_of_ble_eq_true rfl) ⟨Nat.le_of_ble_eq_true rfl, Nat.le_of_ble_eq_true rfl⟩ rfl rfl ⟨Nat.le_refl _, Nat.le_refl _⟩ rfl (fun _ _ h => k_X11_copies E sv M h) (fun _ M1 => ?_)
  refine zm_iconst 5 rfl dX11_soonest_4 zi_0 ?_
  refine zm_istore_n (lv' := [(1, .int 0), (0, .ref (E.2.1 + 52))]) 6 rfl dX11_soonest_5 rfl (by decide) rfl ?_
  have hx82_6 : ∀ (N82 : zm_Mem), zm_V X Y_X11_soonest E (zm_Q X E Y_X11_soonest.2.2.2.1.cells Y_X11_soonest.2.2.2.1.slots (zm_w sv) zm_ei) 0 0 false (zm_w sv) 82 [(0, .ref (E.2.1 + 52))] [] N82 (f_X11_soonest_x82_6 N82) some := by
    intro N82
    unfold f_X11_soonest_x82_6
    refine zm_iconst 83 rfl dX11_soonest_82 zi_m1 ?_
    refine zm_istore_n (lv' := [(1, .int (-1)), (0, .ref (E.2.1 + 52))]) 84 rfl dX11_soonest_83 rfl (by decide) rfl ?_
    refine zm_iconst 85 rfl dX11_soonest_84 zi_0 ?_
    refine zm_istore_n (lv' := [(2, .int 0), (1, .int (-1)), (0, .ref (E.2.1 + 52))]) 86 rfl dX11_soonest_85 rfl (by decide) rfl ?_
    have hx129_86 : ∀ (e129_1 : Int32), zm_V X Y_X11_soonest E (zm_Q X E Y_X11_soonest.2.2.2.1.cells Y_X11_soonest.2.2.2.1.slots (zm_w sv) zm_ei) 0 0 false (zm_w sv) 129 [(1, .int e129_1)] [] N82 (some (e129_1, N82)) some := by
      intro e129_1
      refine zm_iload_n 130 rfl dX11_soonest_129 rfl 0 rfl ?_
      exact zm_iret dX11_soonest_130 rfl (Nat.le_refl _) (Nat.le_refl _) rfl
    refine zm_loc [2, 1, 0] rfl (zm_lpp (σ := (Int32 × Int32)) (ε := Int32) (step := fun s => f_X11_soonest_l86 N82 s.1 s.2) (fun s => [(0, .ref (E.2.1 + 52)), (1, .int s.1), (2, .int s.2)]) (fun _ => N82) (fun D86 f86 hf86a hf86b hD86 s => ?_) ((-1), 0))
    obtain ⟨l86_1, l86_2⟩ := s
    show zm_V X Y_X11_soonest E (zm_Q X E Y_X11_soonest.2.2.2.1.cells Y_X11_soonest.2.2.2.1.slots (zm_w sv) zm_ei) 0 0 false (zm_w sv) 86 [(0, .ref (E.2.1 + 52)), (1, .int l86_1), (2, .int l86_2)] [] N82 (f_X11_soonest_l86 N82 l86_1 l86_2) f86
    unfold f_X11_soonest_l86
    refine zm_iload_n 87 rfl dX11_soonest_86 rfl 2 rfl ?_
    refine zm_aload_n 88 rfl dX11_soonest_87 rfl 0 rfl ?_
    refine zm_getR (a := 66) 91 rfl dX11_soonest_88 fl_X11_58 rfl (zm_L (sv := sv) rfl) rfl (by decide) ?_
    refine zm_aload_n 92 rfl dX11_soonest_91 rfl 0 rfl ?_
    refine zm_getI 95 rfl dX11_soonest_92 fl_X11_251 rfl (zm_L (sv := sv) rfl) ?_
    refine zm_iald 96 rfl dX11_soonest_95 rfl (zm_L (sv := sv) rfl) ?_
    refine zm_cS1ir 99 rfl dX11_soonest_96 ml_X11_462 (Nat.le_of_ble_eq_true rfl) ⟨Nat.le_of_ble_eq_true rfl, Nat.le_of_ble_eq_true rfl⟩ rfl rfl ⟨Nat.le_refl _, Nat.le_refl _⟩ rfl (fun _ h => k_X11_threes E (zm_w sv) (N82.1 66 (N82.1 52 18).toNatClampNeg) N82 h) (fun r96 => ?_)
    refine zm_icmp_ge 129 102 (by decide) rfl dX11_soonest_99 ?_ ?_
    · exact zm_loc [1] rfl (zm_go (hf86b _) (zm_unb (hx129_86 l86_1)))
    · refine zm_aload_n 103 rfl dX11_soonest_102 rfl 0 rfl ?_
      refine zm_iload_n 104 rfl dX11_soonest_103 rfl 2 rfl ?_
      refine zm_cV1ir 107 rfl dX11_soonest_104 ml_X11_465 rfl (zm_L (sv := sv) rfl) rfl (Nat.le_of_ble_eq_true rfl) ⟨Nat.le_of_ble_eq_true rfl, Nat.le_of_ble_eq_true rfl⟩ rfl rfl ⟨Nat.le_refl _, Nat.le_refl _⟩ rfl (fun _ h => k_X11_daysBy E sv l86_2 N82 h) (fun r104 => ?_)
      refine zm_istore_n (lv' := [(3, .int r104), (0, .ref (E.2.1 + 52)), (1, .int l86_1), (2, .int l86_2)]) 108 rfl dX11_soonest_107 rfl (by decide) rfl ?_
      refine zm_iload_n 109 rfl dX11_soonest_108 rfl 0 rfl ?_
      have hb123_86 : ∀ (b123_1 : Int32), zm_V X Y_X11_soonest E (zm_Q X E Y_X11_soonest.2.2.2.1.cells Y_X11_soonest.2.2.2.1.slots (zm_w sv) zm_ei) 0 0 false (zm_w sv) 123 [(0, .ref (E.2.1 + 52)), (1, .int b123_1), (2, .int l86_2)] [] N82 (f_X11_soonest_b123_86 l86_2 b123_1) f86 := by
        intro b123_1
        unfold f_X11_soonest_b123_86
        refine zm_iinc (lv' := fun z => [(2, .int z), (0, .ref (E.2.1 + 52)), (1, .int b123_1)]) 126 rfl dX11_soonest_123 zi_1 2 rfl (by decide) (fun _ => rfl) (fun x123 _ => ?_)
        refine zm_goto 86 (by decide) dX11_soonest_126 ?_
        exact zm_loc [1, 2, 0] rfl (zm_go (hf86a _) (hD86 (b123_1, x123)))
      refine zm_if_lt 123 112 (by decide) rfl dX11_soonest_109 ?_ ?_
      · exact zm_loc [1, 2, 3] rfl (hb123_86 l86_1)
      · refine zm_iload_n 113 rfl dX11_soonest_112 rfl 2 rfl ?_
        have hb121_86 : zm_V X Y_X11_soonest E (zm_Q X E Y_X11_soonest.2.2.2.1.cells Y_X11_soonest.2.2.2.1.slots (zm_w sv) zm_ei) 0 0 false (zm_w sv) 121 [(0, .ref (E.2.1 + 52)), (2, .int l86_2), (3, .int r104)] [] N82 (f_X11_soonest_b121_86 l86_2 r104) f86 := by
          unfold f_X11_soonest_b121_86
          refine zm_iload_n 122 rfl dX11_soonest_121 rfl 2 rfl ?_
          refine zm_istore_n (lv' := [(1, .int r104), (0, .ref (E.2.1 + 52)), (2, .int l86_2), (3, .int r104)]) 123 rfl dX11_soonest_122 rfl (by decide) rfl ?_
          exact zm_loc [1, 0, 2] rfl (hb123_86 r104)
        refine zm_if_lt 121 116 (by decide) rfl dX11_soonest_113 ?_ ?_
        · exact zm_loc [1, 3, 0] rfl (hb121_86)
        · refine zm_iload_n 117 rfl dX11_soonest_116 rfl 0 rfl ?_
          refine zm_iload_n 118 rfl dX11_soonest_117 rfl 2 rfl ?_
          refine zm_icmp_ge 123 121 (by decide) rfl dX11_soonest_118 ?_ ?_
          · exact zm_loc [1, 2, 3] rfl (hb123_86 l86_1)
          · exact zm_loc [1, 3, 0] rfl (hb121_86)
  refine zm_loc [1, 0] rfl (zm_lpp (σ := (Int32 × zm_Mem)) (ε := zm_Mem) (step := fun s => f_X11_soonest_l6 s.1 s.2) (fun s => [(0, .ref (E.2.1 + 52)), (1, .int s.1)]) (fun s => s.2) (fun D6 f6 hf6a hf6b hD6 s => ?_) (0, M1))
  obtain ⟨l6_1, L6⟩ := s
  show zm_V X Y_X11_soonest E (zm_Q X E Y_X11_soonest.2.2.2.1.cells Y_X11_soonest.2.2.2.1.slots (zm_w sv) zm_ei) 0 0 false (zm_w sv) 6 [(0, .ref (E.2.1 + 52)), (1, .int l6_1)] [] L6 (f_X11_soonest_l6 l6_1 L6) f6
  unfold f_X11_soonest_l6
  refine zm_iload_n 7 rfl dX11_soonest_6 rfl 1 rfl ?_
  refine zm_aload_n 8 rfl dX11_soonest_7 rfl 0 rfl ?_
  refine zm_getR (a := 66) 11 rfl dX11_soonest_8 fl_X11_58 rfl (zm_L (sv := sv) rfl) rfl (by decide) ?_
  refine zm_aload_n 12 rfl dX11_soonest_11 rfl 0 rfl ?_
  refine zm_getI 15 rfl dX11_soonest_12 fl_X11_251 rfl (zm_L (sv := sv) rfl) ?_
  refine zm_iald 16 rfl dX11_soonest_15 rfl (zm_L (sv := sv) rfl) ?_
  refine zm_icmp_ge 82 19 (by decide) rfl dX11_soonest_16 ?_ ?_
  · exact zm_loc [0] rfl (zm_go (hf6b _) (zm_unb (hx82_6 L6)))
  · refine zm_aload_n 20 rfl dX11_soonest_19 rfl 0 rfl ?_
    refine zm_getR (a := 92) 23 rfl dX11_soonest_20 fl_X11_137 rfl (zm_L (sv := sv) rfl) rfl (by decide) ?_
    refine zm_iload_n 24 rfl dX11_soonest_23 rfl 1 rfl ?_
    refine zm_iald 25 rfl dX11_soonest_24 rfl (zm_L (sv := sv) rfl) ?_
    have hb46_6 : ∀ (b46_s0 : Int32), zm_V X Y_X11_soonest E (zm_Q X E Y_X11_soonest.2.2.2.1.cells Y_X11_soonest.2.2.2.1.slots (zm_w sv) zm_ei) 0 0 false (zm_w sv) 46 [(0, .ref (E.2.1 + 52)), (1, .int l6_1)] [.int b46_s0] L6 (f_X11_soonest_b46_6 l6_1 L6 b46_s0) f6 := by
      intro b46_s0
      unfold f_X11_soonest_b46_6
      refine zm_istore_n (lv' := [(2, .int b46_s0), (0, .ref (E.2.1 + 52)), (1, .int l6_1)]) 47 rfl dX11_soonest_46 rfl (by decide) rfl ?_
      refine zm_aload_n 48 rfl dX11_soonest_47 rfl 1 rfl ?_
      refine zm_getR (a := 97) 51 rfl dX11_soonest_48 fl_X11_152 rfl (zm_L (sv := sv) rfl) rfl (by decide) ?_
      refine zm_iload_n 52 rfl dX11_soonest_51 rfl 2 rfl ?_
      refine zm_iload_n 53 rfl dX11_soonest_52 rfl 0 rfl ?_
      refine zm_aload_n 54 rfl dX11_soonest_53 rfl 1 rfl ?_
      refine zm_iload_n 55 rfl dX11_soonest_54 rfl 2 rfl ?_
      refine zm_cV1ir 58 rfl dX11_soonest_55 ml_X11_343 rfl (zm_L (sv := sv) rfl) rfl (Nat.le_of_ble_eq_true rfl) ⟨Nat.le_of_ble_eq_true rfl, Nat.le_of_ble_eq_true rfl⟩ rfl rfl ⟨Nat.le_refl _, Nat.le_refl _⟩ rfl (fun _ h => k_X11_ownerNow E sv l6_1 L6 h) (fun r55 => ?_)
      have hb75_6 : ∀ (b75_s1 : Int32) (b75_s2 : Int32) (M75 : zm_Mem), zm_V X Y_X11_soonest E (zm_Q X E Y_X11_soonest.2.2.2.1.cells Y_X11_soonest.2.2.2.1.slots (zm_w sv) zm_ei) 0 0 false (zm_w sv) 75 [(0, .ref (E.2.1 + 52)), (1, .int l6_1)] [.int b75_s2, .int b75_s1, .ref (E.2.1 + 97)] M75 (f_X11_soonest_b75_6 l6_1 b75_s1 b75_s2 M75) f6 := by
        intro b75_s1 b75_s2 M75
        unfold f_X11_soonest_b75_6
        refine zm_iast 76 rfl dX11_soonest_75 rfl (zm_L (sv := sv) rfl) (fun M75_1 _ => ?_)
        refine zm_iinc (lv' := fun z => [(1, .int z), (0, .ref (E.2.1 + 52))]) 79 rfl dX11_soonest_76 zi_1 1 rfl (by decide) (fun _ => rfl) (fun x76 _ => ?_)
        refine zm_goto 6 (by decide) dX11_soonest_79 ?_
        exact zm_loc [1, 0] rfl (zm_go (hf6a _) (hD6 (x76, M75_1)))
      refine zm_icmp_ne 65 61 (by decide) rfl dX11_soonest_58 ?_ ?_
      · refine zm_iconst 62 rfl dX11_soonest_61 zi_0 ?_
        refine zm_goto 75 (by decide) dX11_soonest_62 ?_
        exact zm_loc [1, 2] rfl (hb75_6 l6_1 0 L6)
      · refine zm_aload_n 66 rfl dX11_soonest_65 rfl 1 rfl ?_
        refine zm_iload_n 67 rfl dX11_soonest_66 rfl 2 rfl ?_
        refine zm_aload_n 68 rfl dX11_soonest_67 rfl 1 rfl ?_
        refine zm_iload_n 69 rfl dX11_soonest_68 rfl 2 rfl ?_
        refine zm_cV1ir 72 rfl dX11_soonest_69 ml_X11_343 rfl (zm_L (sv := sv) rfl) rfl (Nat.le_of_ble_eq_true rfl) ⟨Nat.le_of_ble_eq_true rfl, Nat.le_of_ble_eq_true rfl⟩ rfl rfl ⟨Nat.le_refl _, Nat.le_refl _⟩ rfl (fun _ h => k_X11_ownerNow E sv l6_1 L6 h) (fun r69 => ?_)
        refine zm_cV2i 75 rfl dX11_soonest_72 ml_X11_407 rfl (zm_L (sv := sv) rfl) rfl (Nat.le_of_ble_eq_true rfl) ⟨Nat.le_of_ble_eq_true rfl, Nat.le_of_ble_eq_true rfl⟩ rfl rfl ⟨Nat.le_refl _, Nat.le_refl _⟩ rfl (fun _ _ h => k_X11_tripOf E sv l6_1 r69 L6 h) (fun r72 M72 => ?_)
        exact zm_loc [1, 2] rfl (hb75_6 l6_1 r72 M72)
    refine zm_if_ge 40 28 (by decide) rfl dX11_soonest_25 ?_ ?_
    · refine zm_aload_n 41 rfl dX11_soonest_40 rfl 0 rfl ?_
      refine zm_getR (a := 92) 44 rfl dX11_soonest_41 fl_X11_137 rfl (zm_L (sv := sv) rfl) rfl (by decide) ?_
      refine zm_iload_n 45 rfl dX11_soonest_44 rfl 1 rfl ?_
      refine zm_iald 46 rfl dX11_soonest_45 rfl (zm_L (sv := sv) rfl) ?_
      exact zm_loc [0, 1] rfl (hb46_6 (L6.1 92 l6_1.toNatClampNeg))
    · refine zm_aload_n 29 rfl dX11_soonest_28 rfl 0 rfl ?_
      refine zm_getR (a := 92) 32 rfl dX11_soonest_29 fl_X11_137 rfl (zm_L (sv := sv) rfl) rfl (by decide) ?_
      refine zm_bipush 34 rfl dX11_soonest_32 zb_6 ?_
      refine zm_iload_n 35 rfl dX11_soonest_34 rfl 1 rfl ?_
      refine zm_iadd 36 rfl dX11_soonest_35 ?_
      refine zm_iald 37 rfl dX11_soonest_36 rfl (zm_L (sv := sv) rfl) ?_
      refine zm_goto 46 (by decide) dX11_soonest_37 ?_
      exact zm_loc [0, 1] rfl (hb46_6 (L6.1 92 (6 + l6_1).toNatClampNeg))
abbrev Y_X11_isLong : zm_Y := (cX11_isLong, 1, RX11, { frames := 1, cells := 0, slots := 0, locals := 22 }, (some .boolean), false, "isLong")
noncomputable def f_X11_isLong (a0 : Int32) (M : zm_Mem) : Option Int32 :=
  zm_b1 (f_X11_in a0 0 200 M) <| fun r5 => zm_ck (decide (r5 &&& 1 = r5) && fits .boolean (.int r5)) <| some r5
set_option maxRecDepth 20000 in
set_option maxHeartbeats 4000000 in
theorem k_X11_isLong (E : zm_E) (w : zm_W) (a0 : Int32) (M : zm_Mem) {r : Int32} (h : f_X11_isLong a0 M = some r) : zm_Ct E w w yX11_isLong Y_X11_isLong [.int a0] M (some (.int r)) M := by
  refine zm_methr (emb := zm_ei) (d := f_X11_isLong a0 M) (by decide) rfl rfl (Nat.le_of_ble_eq_true rfl) h (fun X => ?_)
  show zm_V X Y_X11_isLong E (zm_Q X E Y_X11_isLong.2.2.2.1.cells Y_X11_isLong.2.2.2.1.slots w zm_ei) 0 0 false w 0 [(0, .int a0)] [] M (f_X11_isLong a0 M) (fun r => some (r, M))
  unfold f_X11_isLong
  refine zm_iload_n 1 rfl dX11_isLong_0 rfl 0 rfl ?_
  refine zm_iconst 2 rfl dX11_isLong_1 zi_0 ?_
  refine zm_sipush 5 rfl dX11_isLong_2 zs_200 ?_
  refine zm_cS3ir 8 rfl dX11_isLong_5 ml_X11_335 (Nat.le_of_ble_eq_true rfl) ⟨Nat.le_of_ble_eq_true rfl, Nat.le_of_ble_eq_true rfl⟩ rfl rfl ⟨Nat.le_refl _, Nat.le_refl _⟩ rfl (fun _ h => k_X11_in E w a0 0 200 M h) (fun r5 => ?_)
  refine zm_gd (fun hg8 => ?_)
  exact zm_zret dX11_isLong_8 rfl (zm_bl1 hg8) (Nat.le_refl _) (Nat.le_refl _) rfl
abbrev Y_X11_then : zm_Y := (cX11_then, 3, RX11, { frames := 2, cells := 0, slots := 0, locals := 43 }, (some .int), false, "then")
noncomputable def f_X11_then (a1 : Int32) (a2 : Int32) (M : zm_Mem) : Option (Int32 × zm_Mem) :=
  zm_b1 (f_X11_isWork a1 M) <| fun r2 => if r2 = 0 then (some ((-1), M)) else (zm_b1 (f_X11_isLong a2 M) <| fun r9 => if r9 = 0 then (some ((-1), M)) else (zm_b2 (f_X11_copies M) <| fun _ M18 => zm_ck (zm_in 30 60) <| zm_ck (zm_in 30 60) <| zm_v (zm_sI M18 92 (30 : Int32).toNatClampNeg ((M18.1 92 (30 : Int32).toNatClampNeg) + a2)) <| fun M31 => zm_b2 (f_X11_arrives M31) <| fun _ M33 => zm_ck (zm_in a1 60) <| some (M33.1 92 a1.toNatClampNeg, M33)))
set_option maxRecDepth 20000 in
set_option maxHeartbeats 4000000 in
theorem k_X11_then (E : zm_E) (sv : Nat) (a1 : Int32) (a2 : Int32) (M : zm_Mem) {r : Int32} {M' : zm_Mem} (h : f_X11_then a1 a2 M = some (r, M')) : zm_Ct E (zm_w sv) (zm_w sv) yX11_then Y_X11_then [.ref (E.2.1 + 52), .int a1, .int a2] M (some (.int r)) M' := by
  refine zm_meth (emb := zm_ei) (d := f_X11_then a1 a2 M) (by decide) rfl rfl (Nat.le_of_ble_eq_true rfl) h (fun X => ?_)
  show zm_V X Y_X11_then E (zm_Q X E Y_X11_then.2.2.2.1.cells Y_X11_then.2.2.2.1.slots (zm_w sv) zm_ei) 0 0 false (zm_w sv) 0 [(0, .ref (E.2.1 + 52)), (1, .int a1), (2, .int a2)] [] M (f_X11_then a1 a2 M) some
  unfold f_X11_then
  refine zm_aload_n 1 rfl dX11_then_0 rfl 0 rfl ?_
  refine zm_iload_n 2 rfl dX11_then_1 rfl 1 rfl ?_
  refine zm_cV1ir 5 rfl dX11_then_2 ml_X11_398 rfl (zm_L (sv := sv) rfl) rfl (Nat.le_of_ble_eq_true rfl) ⟨Nat.le_of_ble_eq_true rfl, Nat.le_of_ble_eq_true rfl⟩ rfl rfl ⟨Nat.le_refl _, Nat.le_refl _⟩ rfl (fun _ h => k_X11_isWork E sv a1 M h) (fun r2 => ?_)
  refine zm_if_eq 15 8 (by decide) rfl dX11_then_5 ?_ ?_
  · refine zm_iconst 16 rfl dX11_then_15 zi_m1 ?_
    exact zm_iret dX11_then_16 rfl (Nat.le_refl _) (Nat.le_refl _) rfl
  · refine zm_iload_n 9 rfl dX11_then_8 rfl 2 rfl ?_
    refine zm_cS1ir 12 rfl dX11_then_9 ml_X11_468 (Nat.le_of_ble_eq_true rfl) ⟨Nat.le_of_ble_eq_true rfl, Nat.le_of_ble_eq_true rfl⟩ rfl rfl ⟨Nat.le_refl _, Nat.le_refl _⟩ rfl (fun _ h => k_X11_isLong E (zm_w sv) a2 M h) (fun r9 => ?_)
    refine zm_if_ne 17 15 (by decide) rfl dX11_then_12 ?_ ?_
    · refine zm_iconst 16 rfl dX11_then_15 zi_m1 ?_
      exact zm_iret dX11_then_16 rfl (Nat.le_refl _) (Nat.le_refl _) rfl
    · refine zm_aload_n 18 rfl dX11_then_17 rfl 0 rfl ?_
      refine zm_cV0v 21 rfl dX11_then_18 ml_X11_388 rfl (zm_L (sv := sv) rfl) rfl (Nat.le_of_ble_eq_true rfl) ⟨Nat.le_of_ble_eq_true rfl, Nat.le_of_ble_eq_true rfl⟩ rfl rfl ⟨Nat.le_refl _, Nat.le_refl _⟩ rfl (fun _ _ h => k_X11_copies E sv M h) (fun _ M18 => ?_)
      refine zm_aload_n 22 rfl dX11_then_21 rfl 0 rfl ?_
      refine zm_getR (a := 92) 25 rfl dX11_then_22 fl_X11_137 rfl (zm_L (sv := sv) rfl) rfl (by decide) ?_
      refine zm_bipush 27 rfl dX11_then_25 zb_30 ?_
      refine zm_dup2 28 rfl dX11_then_27 rfl rfl ?_
      refine zm_iald 29 rfl dX11_then_28 rfl (zm_L (sv := sv) rfl) ?_
      refine zm_iload_n 30 rfl dX11_then_29 rfl 2 rfl ?_
      refine zm_iadd 31 rfl dX11_then_30 ?_
      refine zm_iast 32 rfl dX11_then_31 rfl (zm_L (sv := sv) rfl) (fun M31 _ => ?_)
      refine zm_aload_n 33 rfl dX11_then_32 rfl 0 rfl ?_
      refine zm_cV0v 36 rfl dX11_then_33 ml_X11_417 rfl (zm_L (sv := sv) rfl) rfl (Nat.le_of_ble_eq_true rfl) ⟨Nat.le_of_ble_eq_true rfl, Nat.le_of_ble_eq_true rfl⟩ rfl rfl ⟨Nat.le_refl _, Nat.le_refl _⟩ rfl (fun _ _ h => k_X11_arrives E sv M31 h) (fun _ M33 => ?_)
      refine zm_aload_n 37 rfl dX11_then_36 rfl 0 rfl ?_
      refine zm_getR (a := 92) 40 rfl dX11_then_37 fl_X11_137 rfl (zm_L (sv := sv) rfl) rfl (by decide) ?_
      refine zm_iload_n 41 rfl dX11_then_40 rfl 1 rfl ?_
      refine zm_iald 42 rfl dX11_then_41 rfl (zm_L (sv := sv) rfl) ?_
      exact zm_iret dX11_then_42 rfl (Nat.le_refl _) (Nat.le_refl _) rfl
abbrev Y_X11_times : zm_Y := (cX11_times, 8, RX11, { frames := 4, cells := 0, slots := 0, locals := 99 }, (some .int), false, "times")
noncomputable def f_X11_times_b114_69 (l69_7 : Int32) (M89 : zm_Mem) (b114_6 : Int32) : Option ((Int32 × Int32 × zm_Mem) ⊕ (Int32 × zm_Mem)) :=
 zm_v (l69_7 + 1) <| fun x114 => some (.inl (b114_6, x114, M89))
noncomputable def f_X11_times_b106_69 (a3 : Int32) (l69_6 : Int32) (l69_7 : Int32) (M89 : zm_Mem) (b106_s0 : Int32) (b106_s1 : Int32) : Option ((Int32 × Int32 × zm_Mem) ⊕ (Int32 × zm_Mem)) :=
 if a3 < (b106_s0 + b106_s1) then (f_X11_times_b114_69 l69_7 M89 l69_6) else (zm_v (l69_6 + 1) <| fun x111 => f_X11_times_b114_69 l69_7 M89 x111)
noncomputable def f_X11_times_l69 (a3 : Int32) (a4 : Int32) (r58 : Int32) (l69_6 : Int32) (l69_7 : Int32) (L69 : zm_Mem) : Option ((Int32 × Int32 × zm_Mem) ⊕ (Int32 × zm_Mem)) :=
 if a4 ≤ l69_7 then (some (.inr (l69_6, L69))) else (zm_ck (zm_in (L69.1 52 18) 2) <| zm_v (zm_sI L69 52 58 ((L69.1 78 (L69.1 52 18).toNatClampNeg) + l69_7)) <| fun M89 => zm_b1 (f_X11_isLate M89) <| fun r95 => if r95 = 0 then (f_X11_times_b106_69 a3 l69_6 l69_7 M89 r58 0) else (f_X11_times_b106_69 a3 l69_6 l69_7 M89 r58 5))
noncomputable def f_X11_times (a1 : Int32) (a2 : Int32) (a3 : Int32) (a4 : Int32) (M : zm_Mem) : Option (Int32 × zm_Mem) :=
  zm_b1 (f_X11_isPair a1 a2 M) <| fun r3 => if r3 = 0 then (some ((-1), M)) else (zm_b1 (f_X11_isLong a3 M) <| fun r10 => if r10 = 0 then (some ((-1), M)) else (zm_b1 (f_X11_in a4 1 20 M) <| fun r21 => if r21 = 0 then (some ((-1), M)) else (zm_ck (zm_in a1 60) <| if (M.1 91 a1.toNatClampNeg) < 0 then (some ((-2), M)) else (zm_ck (zm_in a1 60) <| if (M.1 91 a1.toNatClampNeg) = a2 then (some ((-2), M)) else (zm_b2 (f_X11_copies M) <| fun _ M52 => zm_b2 (f_X11_tripOf a1 a2 M52) <| fun r58 M58 => (zm_lp (fun s => f_X11_times_l69 a3 a4 r58 s.1 s.2.1 s.2.2) (0, 0, M58)).bind (fun e120 => some (e120.1, e120.2)))))))
set_option maxRecDepth 20000 in
set_option maxHeartbeats 4000000 in
theorem k_X11_times (E : zm_E) (sv : Nat) (a1 : Int32) (a2 : Int32) (a3 : Int32) (a4 : Int32) (M : zm_Mem) {r : Int32} {M' : zm_Mem} (h : f_X11_times a1 a2 a3 a4 M = some (r, M')) : zm_Ct E (zm_w sv) (zm_w sv) yX11_times Y_X11_times [.ref (E.2.1 + 52), .int a1, .int a2, .int a3, .int a4] M (some (.int r)) M' := by
  refine zm_meth (emb := zm_ei) (d := f_X11_times a1 a2 a3 a4 M) (by decide) rfl rfl (Nat.le_of_ble_eq_true rfl) h (fun X => ?_)
  show zm_V X Y_X11_times E (zm_Q X E Y_X11_times.2.2.2.1.cells Y_X11_times.2.2.2.1.slots (zm_w sv) zm_ei) 0 0 false (zm_w sv) 0 [(0, .ref (E.2.1 + 52)), (1, .int a1), (2, .int a2), (3, .int a3), (4, .int a4)] [] M (f_X11_times a1 a2 a3 a4 M) some
  unfold f_X11_times
  refine zm_aload_n 1 rfl dX11_times_0 rfl 0 rfl ?_
  refine zm_iload_n 2 rfl dX11_times_1 rfl 1 rfl ?_
  refine zm_iload_n 3 rfl dX11_times_2 rfl 2 rfl ?_
  refine zm_cV2ir 6 rfl dX11_times_3 ml_X11_401 rfl (zm_L (sv := sv) rfl) rfl (Nat.le_of_ble_eq_true rfl) ⟨Nat.le_of_ble_eq_true rfl, Nat.le_of_ble_eq_true rfl⟩ rfl rfl ⟨Nat.le_refl _, Nat.le_refl _⟩ rfl (fun _ h => k_X11_isPair E sv a1 a2 M h) (fun r3 => ?_)
  refine zm_if_eq 27 9 (by decide) rfl dX11_times_6 ?_ ?_
  · refine zm_iconst 28 rfl dX11_times_27 zi_m1 ?_
    exact zm_iret dX11_times_28 rfl (Nat.le_refl _) (Nat.le_refl _) rfl
  · refine zm_iload_n 10 rfl dX11_times_9 rfl 3 rfl ?_
    refine zm_cS1ir 13 rfl dX11_times_10 ml_X11_468 (Nat.le_of_ble_eq_true rfl) ⟨Nat.le_of_ble_eq_true rfl, Nat.le_of_ble_eq_true rfl⟩ rfl rfl ⟨Nat.le_refl _, Nat.le_refl _⟩ rfl (fun _ h => k_X11_isLong E (zm_w sv) a3 M h) (fun r10 => ?_)
    refine zm_if_eq 27 16 (by decide) rfl dX11_times_13 ?_ ?_
    · refine zm_iconst 28 rfl dX11_times_27 zi_m1 ?_
      exact zm_iret dX11_times_28 rfl (Nat.le_refl _) (Nat.le_refl _) rfl
    · refine zm_iload 18 rfl dX11_times_16 4 rfl ?_
      refine zm_iconst 19 rfl dX11_times_18 zi_1 ?_
      refine zm_bipush 21 rfl dX11_times_19 zb_20 ?_
      refine zm_cS3ir 24 rfl dX11_times_21 ml_X11_335 (Nat.le_of_ble_eq_true rfl) ⟨Nat.le_of_ble_eq_true rfl, Nat.le_of_ble_eq_true rfl⟩ rfl rfl ⟨Nat.le_refl _, Nat.le_refl _⟩ rfl (fun _ h => k_X11_in E (zm_w sv) a4 1 20 M h) (fun r21 => ?_)
      refine zm_if_ne 29 27 (by decide) rfl dX11_times_24 ?_ ?_
      · refine zm_iconst 28 rfl dX11_times_27 zi_m1 ?_
        exact zm_iret dX11_times_28 rfl (Nat.le_refl _) (Nat.le_refl _) rfl
      · refine zm_aload_n 30 rfl dX11_times_29 rfl 0 rfl ?_
        refine zm_getR (a := 91) 33 rfl dX11_times_30 fl_X11_134 rfl (zm_L (sv := sv) rfl) rfl (by decide) ?_
        refine zm_iload_n 34 rfl dX11_times_33 rfl 1 rfl ?_
        refine zm_iald 35 rfl dX11_times_34 rfl (zm_L (sv := sv) rfl) ?_
        refine zm_if_lt 48 38 (by decide) rfl dX11_times_35 ?_ ?_
        · refine zm_bipush 50 rfl dX11_times_48 zb_m2 ?_
          exact zm_iret dX11_times_50 rfl (Nat.le_refl _) (Nat.le_refl _) rfl
        · refine zm_aload_n 39 rfl dX11_times_38 rfl 0 rfl ?_
          refine zm_getR (a := 91) 42 rfl dX11_times_39 fl_X11_134 rfl (zm_L (sv := sv) rfl) rfl (by decide) ?_
          refine zm_iload_n 43 rfl dX11_times_42 rfl 1 rfl ?_
          refine zm_iald 44 rfl dX11_times_43 rfl (zm_L (sv := sv) rfl) ?_
          refine zm_iload_n 45 rfl dX11_times_44 rfl 2 rfl ?_
          refine zm_icmp_ne 51 48 (by decide) rfl dX11_times_45 ?_ ?_
          · refine zm_bipush 50 rfl dX11_times_48 zb_m2 ?_
            exact zm_iret dX11_times_50 rfl (Nat.le_refl _) (Nat.le_refl _) rfl
          · refine zm_aload_n 52 rfl dX11_times_51 rfl 0 rfl ?_
            refine zm_cV0v 55 rfl dX11_times_52 ml_X11_388 rfl (zm_L (sv := sv) rfl) rfl (Nat.le_of_ble_eq_true rfl) ⟨Nat.le_of_ble_eq_true rfl, Nat.le_of_ble_eq_true rfl⟩ rfl rfl ⟨Nat.le_refl _, Nat.le_refl _⟩ rfl (fun _ _ h => k_X11_copies E sv M h) (fun _ M52 => ?_)
            refine zm_aload_n 56 rfl dX11_times_55 rfl 0 rfl ?_
            refine zm_iload_n 57 rfl dX11_times_56 rfl 1 rfl ?_
            refine zm_iload_n 58 rfl dX11_times_57 rfl 2 rfl ?_
            refine zm_cV2i 61 rfl dX11_times_58 ml_X11_407 rfl (zm_L (sv := sv) rfl) rfl (Nat.le_of_ble_eq_true rfl) ⟨Nat.le_of_ble_eq_true rfl, Nat.le_of_ble_eq_true rfl⟩ rfl rfl ⟨Nat.le_refl _, Nat.le_refl _⟩ rfl (fun _ _ h => k_X11_tripOf E sv a1 a2 M52 h) (fun r58 M58 => ?_)
            refine zm_istore (lv' := [(5, .int r58), (0, .ref (E.2.1 + 52)), (1, .int a1), (2, .int a2), (3, .int a3), (4, .int a4)]) 63 rfl dX11_times_61 (by decide) rfl ?_
            refine zm_iconst 64 rfl dX11_times_63 zi_0 ?_
            refine zm_istore (lv' := [(6, .int 0), (5, .int r58), (0, .ref (E.2.1 + 52)), (1, .int a1), (2, .int a2), (3, .int a3), (4, .int a4)]) 66 rfl dX11_times_64 (by decide) rfl ?_
            refine zm_iconst 67 rfl dX11_times_66 zi_0 ?_
            refine zm_istore (lv' := [(7, .int 0), (6, .int 0), (5, .int r58), (0, .ref (E.2.1 + 52)), (1, .int a1), (2, .int a2), (3, .int a3), (4, .int a4)]) 69 rfl dX11_times_67 (by decide) rfl ?_
            have hx120_69 : ∀ (e120_6 : Int32) (N120 : zm_Mem), zm_V X Y_X11_times E (zm_Q X E Y_X11_times.2.2.2.1.cells Y_X11_times.2.2.2.1.slots (zm_w sv) zm_ei) 0 0 false (zm_w sv) 120 [(6, .int e120_6)] [] N120 (some (e120_6, N120)) some := by
              intro e120_6 N120
              refine zm_iload 122 rfl dX11_times_120 0 rfl ?_
              exact zm_iret dX11_times_122 rfl (Nat.le_refl _) (Nat.le_refl _) rfl
            refine zm_loc [3, 6, 7, 2, 1, 0] rfl (zm_lpp (σ := (Int32 × Int32 × zm_Mem)) (ε := (Int32 × zm_Mem)) (step := fun s => f_X11_times_l69 a3 a4 r58 s.1 s.2.1 s.2.2) (fun s => [(0, .ref (E.2.1 + 52)), (3, .int a3), (4, .int a4), (5, .int r58), (6, .int s.1), (7, .int s.2.1)]) (fun s => s.2.2) (fun D69 f69 hf69a hf69b hD69 s => ?_) (0, 0, M58))
            obtain ⟨l69_6, l69_7, L69⟩ := s
            show zm_V X Y_X11_times E (zm_Q X E Y_X11_times.2.2.2.1.cells Y_X11_times.2.2.2.1.slots (zm_w sv) zm_ei) 0 0 false (zm_w sv) 69 [(0, .ref (E.2.1 + 52)), (3, .int a3), (4, .int a4), (5, .int r58), (6, .int l69_6), (7, .int l69_7)] [] L69 (f_X11_times_l69 a3 a4 r58 l69_6 l69_7 L69) f69
            unfold f_X11_times_l69
            refine zm_iload 71 rfl dX11_times_69 5 rfl ?_
            refine zm_iload 73 rfl dX11_times_71 2 rfl ?_
            refine zm_icmp_ge 120 76 (by decide) rfl dX11_times_73 ?_ ?_
            · exact zm_loc [4] rfl (zm_go (hf69b _) (zm_unb (hx120_69 l69_6 L69)))
            · refine zm_aload_n 77 rfl dX11_times_76 rfl 0 rfl ?_
              refine zm_aload_n 78 rfl dX11_times_77 rfl 0 rfl ?_
              refine zm_getR (a := 78) 81 rfl dX11_times_78 fl_X11_94 rfl (zm_L (sv := sv) rfl) rfl (by decide) ?_
              refine zm_aload_n 82 rfl dX11_times_81 rfl 0 rfl ?_
              refine zm_getI 85 rfl dX11_times_82 fl_X11_251 rfl (zm_L (sv := sv) rfl) ?_
              refine zm_iald 86 rfl dX11_times_85 rfl (zm_L (sv := sv) rfl) ?_
              refine zm_iload 88 rfl dX11_times_86 5 rfl ?_
              refine zm_iadd 89 rfl dX11_times_88 ?_
              refine zm_putI 92 rfl dX11_times_89 fp_X11_339 rfl (zm_L (sv := sv) rfl) rfl rfl (fun M89 _ => ?_)
              refine zm_iload 94 rfl dX11_times_92 3 rfl ?_
              refine zm_aload_n 95 rfl dX11_times_94 rfl 0 rfl ?_
              refine zm_cV0ir 98 rfl dX11_times_95 ml_X11_410 rfl (zm_L (sv := sv) rfl) rfl (Nat.le_of_ble_eq_true rfl) ⟨Nat.le_of_ble_eq_true rfl, Nat.le_of_ble_eq_true rfl⟩ rfl rfl ⟨Nat.le_refl _, Nat.le_refl _⟩ rfl (fun _ h => k_X11_isLate E sv M89 h) (fun r95 => ?_)
              have hb106_69 : ∀ (b106_s0 : Int32) (b106_s1 : Int32), zm_V X Y_X11_times E (zm_Q X E Y_X11_times.2.2.2.1.cells Y_X11_times.2.2.2.1.slots (zm_w sv) zm_ei) 0 0 false (zm_w sv) 106 [(0, .ref (E.2.1 + 52)), (3, .int a3), (4, .int a4), (5, .int r58), (6, .int l69_6), (7, .int l69_7)] [.int b106_s1, .int b106_s0] M89 (f_X11_times_b106_69 a3 l69_6 l69_7 M89 b106_s0 b106_s1) f69 := by
                intro b106_s0 b106_s1
                unfold f_X11_times_b106_69
                refine zm_iadd 107 rfl dX11_times_106 ?_
                refine zm_iload_n 108 rfl dX11_times_107 rfl 1 rfl ?_
                have hb114_69 : ∀ (b114_6 : Int32), zm_V X Y_X11_times E (zm_Q X E Y_X11_times.2.2.2.1.cells Y_X11_times.2.2.2.1.slots (zm_w sv) zm_ei) 0 0 false (zm_w sv) 114 [(0, .ref (E.2.1 + 52)), (3, .int a3), (4, .int a4), (5, .int r58), (6, .int b114_6), (7, .int l69_7)] [] M89 (f_X11_times_b114_69 l69_7 M89 b114_6) f69 := by
                  intro b114_6
                  unfold f_X11_times_b114_69
                  refine zm_iinc (lv' := fun z => [(7, .int z), (0, .ref (E.2.1 + 52)), (3, .int a3), (4, .int a4), (5, .int r58), (6, .int b114_6)]) 117 rfl dX11_times_114 zi_1 5 rfl (by decide) (fun _ => rfl) (fun x114 _ => ?_)
                  refine zm_goto 69 (by decide) dX11_times_117 ?_
                  exact zm_loc [1, 2, 3, 4, 5, 0] rfl (zm_go (hf69a _) (hD69 (b114_6, x114, M89)))
                refine zm_icmp_gt 114 111 (by decide) rfl dX11_times_108 ?_ ?_
                · exact zm_loc [0, 1, 2, 3, 4, 5] rfl (hb114_69 l69_6)
                · refine zm_iinc (lv' := fun z => [(6, .int z), (0, .ref (E.2.1 + 52)), (3, .int a3), (4, .int a4), (5, .int r58), (7, .int l69_7)]) 114 rfl dX11_times_111 zi_1 4 rfl (by decide) (fun _ => rfl) (fun x111 _ => ?_)
                  exact zm_loc [1, 2, 3, 4, 0, 5] rfl (hb114_69 x111)
              refine zm_if_eq 105 101 (by decide) rfl dX11_times_98 ?_ ?_
              · refine zm_iconst 106 rfl dX11_times_105 zi_0 ?_
                exact zm_loc [0, 1, 2, 3, 4, 5] rfl (hb106_69 r58 0)
              · refine zm_iconst 102 rfl dX11_times_101 zi_5 ?_
                refine zm_goto 106 (by decide) dX11_times_102 ?_
                exact zm_loc [0, 1, 2, 3, 4, 5] rfl (hb106_69 r58 5)
abbrev Y_X11_owes : zm_Y := (cX11_owes, 5, RX11, { frames := 2, cells := 0, slots := 0, locals := 43 }, (some .int), false, "owes")
noncomputable def f_X11_owes_b84_28 (l28_4 : Int32) (b84_3 : Int32) : Option ((Int32 × Int32) ⊕ Int32) :=
 zm_v (l28_4 + 1) <| fun x84 => some (.inl (b84_3, x84))
noncomputable def f_X11_owes_b77_28 (l28_3 : Int32) (l28_4 : Int32) : Option ((Int32 × Int32) ⊕ Int32) :=
 zm_v (l28_3 ||| ((1 : Int32) <<< (l28_4 &&& 31))) <| fun x83 => f_X11_owes_b84_28 l28_4 x83
noncomputable def f_X11_owes_l28 (a1 : Int32) (a2 : Int32) (M : zm_Mem) (l28_3 : Int32) (l28_4 : Int32) : Option ((Int32 × Int32) ⊕ Int32) :=
 zm_ck (zm_in (M.1 52 18) 2) <| if (M.1 66 (M.1 52 18).toNatClampNeg) ≤ l28_4 then (some (.inr l28_3)) else (zm_b1 (f_X11_ownerNow l28_4 M) <| fun r45 => if r45 = a2 then (zm_ck (zm_in l28_4 60) <| if (M.1 91 l28_4.toNatClampNeg) = a1 then (f_X11_owes_b77_28 l28_3 l28_4) else (zm_ck (zm_in (6 + l28_4) 60) <| if (M.1 91 (6 + l28_4).toNatClampNeg) = a1 then (f_X11_owes_b77_28 l28_3 l28_4) else (f_X11_owes_b84_28 l28_4 l28_3))) else (f_X11_owes_b84_28 l28_4 l28_3))
noncomputable def f_X11_owes (a1 : Int32) (a2 : Int32) (M : zm_Mem) : Option Int32 :=
  zm_b1 (f_X11_isHouse a1 M) <| fun r2 => if r2 = 0 then (some (-1)) else (zm_b1 (f_X11_isHouse a2 M) <| fun r10 => if r10 = 0 then (some (-1)) else (if a1 = a2 then (some (-1)) else ((zm_lp (fun s => f_X11_owes_l28 a1 a2 M s.1 s.2) (0, 0)).bind (fun e90 => some e90))))
set_option maxRecDepth 20000 in
set_option maxHeartbeats 4000000 in
theorem k_X11_owes (E : zm_E) (sv : Nat) (a1 : Int32) (a2 : Int32) (M : zm_Mem) {r : Int32} (h : f_X11_owes a1 a2 M = some r) : zm_Ct E (zm_w sv) (zm_w sv) yX11_owes Y_X11_owes [.ref (E.2.1 + 52), .int a1, .int a2] M (some (.int r)) M := by
  refine zm_methr (emb := zm_ei) (d := f_X11_owes a1 a2 M) (by decide) rfl rfl (Nat.le_of_ble_eq_true rfl) h (fun X => ?_)
  show zm_V X Y_X11_owes E (zm_Q X E Y_X11_owes.2.2.2.1.cells Y_X11_owes.2.2.2.1.slots (zm_w sv) zm_ei) 0 0 false (zm_w sv) 0 [(0, .ref (E.2.1 + 52)), (1, .int a1), (2, .int a2)] [] M (f_X11_owes a1 a2 M) (fun r => some (r, M))
  unfold f_X11_owes
  refine zm_aload_n 1 rfl dX11_owes_0 rfl 0 rfl ?_
  refine zm_iload_n 2 rfl dX11_owes_1 rfl 1 rfl ?_
  refine zm_cV1ir 5 rfl dX11_owes_2 ml_X11_385 rfl (zm_L (sv := sv) rfl) rfl (Nat.le_of_ble_eq_true rfl) ⟨Nat.le_of_ble_eq_true rfl, Nat.le_of_ble_eq_true rfl⟩ rfl rfl ⟨Nat.le_refl _, Nat.le_refl _⟩ rfl (fun _ h => k_X11_isHouse E sv a1 M h) (fun r2 => ?_)
  refine zm_if_eq 21 8 (by decide) rfl dX11_owes_5 ?_ ?_
  · refine zm_iconst 22 rfl dX11_owes_21 zi_m1 ?_
    exact zm_iret dX11_owes_22 rfl (Nat.le_refl _) (Nat.le_refl _) rfl
  · refine zm_aload_n 9 rfl dX11_owes_8 rfl 0 rfl ?_
    refine zm_iload_n 10 rfl dX11_owes_9 rfl 2 rfl ?_
    refine zm_cV1ir 13 rfl dX11_owes_10 ml_X11_385 rfl (zm_L (sv := sv) rfl) rfl (Nat.le_of_ble_eq_true rfl) ⟨Nat.le_of_ble_eq_true rfl, Nat.le_of_ble_eq_true rfl⟩ rfl rfl ⟨Nat.le_refl _, Nat.le_refl _⟩ rfl (fun _ h => k_X11_isHouse E sv a2 M h) (fun r10 => ?_)
    refine zm_if_eq 21 16 (by decide) rfl dX11_owes_13 ?_ ?_
    · refine zm_iconst 22 rfl dX11_owes_21 zi_m1 ?_
      exact zm_iret dX11_owes_22 rfl (Nat.le_refl _) (Nat.le_refl _) rfl
    · refine zm_iload_n 17 rfl dX11_owes_16 rfl 1 rfl ?_
      refine zm_iload_n 18 rfl dX11_owes_17 rfl 2 rfl ?_
      refine zm_icmp_ne 23 21 (by decide) rfl dX11_owes_18 ?_ ?_
      · refine zm_iconst 22 rfl dX11_owes_21 zi_m1 ?_
        exact zm_iret dX11_owes_22 rfl (Nat.le_refl _) (Nat.le_refl _) rfl
      · refine zm_iconst 24 rfl dX11_owes_23 zi_0 ?_
        refine zm_istore_n (lv' := [(3, .int 0), (0, .ref (E.2.1 + 52)), (1, .int a1), (2, .int a2)]) 25 rfl dX11_owes_24 rfl (by decide) rfl ?_
        refine zm_iconst 26 rfl dX11_owes_25 zi_0 ?_
        refine zm_istore (lv' := [(4, .int 0), (3, .int 0), (0, .ref (E.2.1 + 52)), (1, .int a1), (2, .int a2)]) 28 rfl dX11_owes_26 (by decide) rfl ?_
        have hx90_28 : ∀ (e90_3 : Int32), zm_V X Y_X11_owes E (zm_Q X E Y_X11_owes.2.2.2.1.cells Y_X11_owes.2.2.2.1.slots (zm_w sv) zm_ei) 0 0 false (zm_w sv) 90 [(3, .int e90_3)] [] M (some e90_3) (fun r => some (r, M)) := by
          intro e90_3
          refine zm_iload_n 91 rfl dX11_owes_90 rfl 0 rfl ?_
          exact zm_iret dX11_owes_91 rfl (Nat.le_refl _) (Nat.le_refl _) rfl
        refine zm_loc [2, 3, 4, 1, 0] rfl (zm_lpp (σ := (Int32 × Int32)) (ε := Int32) (step := fun s => f_X11_owes_l28 a1 a2 M s.1 s.2) (fun s => [(0, .ref (E.2.1 + 52)), (1, .int a1), (2, .int a2), (3, .int s.1), (4, .int s.2)]) (fun _ => M) (fun D28 f28 hf28a hf28b hD28 s => ?_) (0, 0))
        obtain ⟨l28_3, l28_4⟩ := s
        show zm_V X Y_X11_owes E (zm_Q X E Y_X11_owes.2.2.2.1.cells Y_X11_owes.2.2.2.1.slots (zm_w sv) zm_ei) 0 0 false (zm_w sv) 28 [(0, .ref (E.2.1 + 52)), (1, .int a1), (2, .int a2), (3, .int l28_3), (4, .int l28_4)] [] M (f_X11_owes_l28 a1 a2 M l28_3 l28_4) f28
        unfold f_X11_owes_l28
        refine zm_iload 30 rfl dX11_owes_28 4 rfl ?_
        refine zm_aload_n 31 rfl dX11_owes_30 rfl 0 rfl ?_
        refine zm_getR (a := 66) 34 rfl dX11_owes_31 fl_X11_58 rfl (zm_L (sv := sv) rfl) rfl (by decide) ?_
        refine zm_aload_n 35 rfl dX11_owes_34 rfl 0 rfl ?_
        refine zm_getI 38 rfl dX11_owes_35 fl_X11_251 rfl (zm_L (sv := sv) rfl) ?_
        refine zm_iald 39 rfl dX11_owes_38 rfl (zm_L (sv := sv) rfl) ?_
        refine zm_icmp_ge 90 42 (by decide) rfl dX11_owes_39 ?_ ?_
        · exact zm_loc [3] rfl (zm_go (hf28b _) (zm_unb (hx90_28 l28_3)))
        · refine zm_aload_n 43 rfl dX11_owes_42 rfl 0 rfl ?_
          refine zm_iload 45 rfl dX11_owes_43 4 rfl ?_
          refine zm_cV1ir 48 rfl dX11_owes_45 ml_X11_343 rfl (zm_L (sv := sv) rfl) rfl (Nat.le_of_ble_eq_true rfl) ⟨Nat.le_of_ble_eq_true rfl, Nat.le_of_ble_eq_true rfl⟩ rfl rfl ⟨Nat.le_refl _, Nat.le_refl _⟩ rfl (fun _ h => k_X11_ownerNow E sv l28_4 M h) (fun r45 => ?_)
          refine zm_iload_n 49 rfl dX11_owes_48 rfl 2 rfl ?_
          have hb84_28 : ∀ (b84_3 : Int32), zm_V X Y_X11_owes E (zm_Q X E Y_X11_owes.2.2.2.1.cells Y_X11_owes.2.2.2.1.slots (zm_w sv) zm_ei) 0 0 false (zm_w sv) 84 [(0, .ref (E.2.1 + 52)), (1, .int a1), (2, .int a2), (3, .int b84_3), (4, .int l28_4)] [] M (f_X11_owes_b84_28 l28_4 b84_3) f28 := by
            intro b84_3
            unfold f_X11_owes_b84_28
            refine zm_iinc (lv' := fun z => [(4, .int z), (0, .ref (E.2.1 + 52)), (1, .int a1), (2, .int a2), (3, .int b84_3)]) 87 rfl dX11_owes_84 zi_1 4 rfl (by decide) (fun _ => rfl) (fun x84 _ => ?_)
            refine zm_goto 28 (by decide) dX11_owes_87 ?_
            exact zm_loc [1, 2, 3, 4, 0] rfl (zm_go (hf28a _) (hD28 (b84_3, x84)))
          refine zm_icmp_ne 84 52 (by decide) rfl dX11_owes_49 ?_ ?_
          · refine zm_aload_n 53 rfl dX11_owes_52 rfl 0 rfl ?_
            refine zm_getR (a := 91) 56 rfl dX11_owes_53 fl_X11_134 rfl (zm_L (sv := sv) rfl) rfl (by decide) ?_
            refine zm_iload 58 rfl dX11_owes_56 4 rfl ?_
            refine zm_iald 59 rfl dX11_owes_58 rfl (zm_L (sv := sv) rfl) ?_
            refine zm_iload_n 60 rfl dX11_owes_59 rfl 1 rfl ?_
            have hb77_28 : zm_V X Y_X11_owes E (zm_Q X E Y_X11_owes.2.2.2.1.cells Y_X11_owes.2.2.2.1.slots (zm_w sv) zm_ei) 0 0 false (zm_w sv) 77 [(0, .ref (E.2.1 + 52)), (1, .int a1), (2, .int a2), (3, .int l28_3), (4, .int l28_4)] [] M (f_X11_owes_b77_28 l28_3 l28_4) f28 := by
              unfold f_X11_owes_b77_28
              refine zm_iload_n 78 rfl dX11_owes_77 rfl 3 rfl ?_
              refine zm_iconst 79 rfl dX11_owes_78 zi_1 ?_
              refine zm_iload 81 rfl dX11_owes_79 4 rfl ?_
              refine zm_ishl 82 rfl dX11_owes_81 ?_
              refine zm_ior 83 rfl dX11_owes_82 ?_
              refine zm_nmi (fun x83 _ => ?_)
              refine zm_istore_n (lv' := [(3, .int x83), (0, .ref (E.2.1 + 52)), (1, .int a1), (2, .int a2), (4, .int l28_4)]) 84 rfl dX11_owes_83 rfl (by decide) rfl ?_
              exact zm_loc [1, 2, 3, 0, 4] rfl (hb84_28 x83)
            refine zm_icmp_eq 77 63 (by decide) rfl dX11_owes_60 ?_ ?_
            · exact zm_loc [0, 1, 2, 3, 4] rfl (hb77_28)
            · refine zm_aload_n 64 rfl dX11_owes_63 rfl 0 rfl ?_
              refine zm_getR (a := 91) 67 rfl dX11_owes_64 fl_X11_134 rfl (zm_L (sv := sv) rfl) rfl (by decide) ?_
              refine zm_bipush 69 rfl dX11_owes_67 zb_6 ?_
              refine zm_iload 71 rfl dX11_owes_69 4 rfl ?_
              refine zm_iadd 72 rfl dX11_owes_71 ?_
              refine zm_iald 73 rfl dX11_owes_72 rfl (zm_L (sv := sv) rfl) ?_
              refine zm_iload_n 74 rfl dX11_owes_73 rfl 1 rfl ?_
              refine zm_icmp_ne 84 77 (by decide) rfl dX11_owes_74 ?_ ?_
              · exact zm_loc [0, 1, 2, 3, 4] rfl (hb77_28)
              · exact zm_loc [0, 1, 2, 3, 4] rfl (hb84_28 l28_3)
          · exact zm_loc [0, 1, 2, 3, 4] rfl (hb84_28 l28_3)
abbrev Y_X11_valueIn : zm_Y := (cX11_valueIn, 4, RX11, { frames := 0, cells := 0, slots := 0, locals := 0 }, (some .int), false, "valueIn")
noncomputable def f_X11_valueIn_b44_4 (l4_3 : Int32) (b44_2 : Int32) : Option ((Int32 × Int32) ⊕ Int32) :=
 zm_v (l4_3 + 1) <| fun x44 => some (.inl (b44_2, x44))
noncomputable def f_X11_valueIn_l4 (a1 : Int32) (M : zm_Mem) (l4_2 : Int32) (l4_3 : Int32) : Option ((Int32 × Int32) ⊕ Int32) :=
 zm_ck (zm_in (M.1 52 18) 2) <| if (M.1 66 (M.1 52 18).toNatClampNeg) ≤ l4_3 then (some (.inr l4_2)) else (zm_ck (zm_in l4_3 60) <| if (M.1 91 l4_3.toNatClampNeg) = a1 then (zm_ck (zm_in ((6 * (M.1 52 18)) + l4_3) 12) <| zm_v (l4_2 + (M.1 70 ((6 * (M.1 52 18)) + l4_3).toNatClampNeg)) <| fun x43 => f_X11_valueIn_b44_4 l4_3 x43) else (f_X11_valueIn_b44_4 l4_3 l4_2))
noncomputable def f_X11_valueIn (a1 : Int32) (M : zm_Mem) : Option Int32 :=
  (zm_lp (fun s => f_X11_valueIn_l4 a1 M s.1 s.2) (0, 0)).bind (fun e50 => some e50)
set_option maxRecDepth 20000 in
set_option maxHeartbeats 4000000 in
theorem k_X11_valueIn (E : zm_E) (sv : Nat) (a1 : Int32) (M : zm_Mem) {r : Int32} (h : f_X11_valueIn a1 M = some r) : zm_Ct E (zm_w sv) (zm_w sv) yX11_valueIn Y_X11_valueIn [.ref (E.2.1 + 52), .int a1] M (some (.int r)) M := by
  refine zm_methr (emb := zm_ei) (d := f_X11_valueIn a1 M) (by decide) rfl rfl (Nat.le_of_ble_eq_true rfl) h (fun X => ?_)
  show zm_V X Y_X11_valueIn E (zm_Q X E Y_X11_valueIn.2.2.2.1.cells Y_X11_valueIn.2.2.2.1.slots (zm_w sv) zm_ei) 0 0 false (zm_w sv) 0 [(0, .ref (E.2.1 + 52)), (1, .int a1)] [] M (f_X11_valueIn a1 M) (fun r => some (r, M))
  unfold f_X11_valueIn
  refine zm_iconst 1 rfl dX11_valueIn_0 zi_0 ?_
  refine zm_istore_n (lv' := [(2, .int 0), (0, .ref (E.2.1 + 52)), (1, .int a1)]) 2 rfl dX11_valueIn_1 rfl (by decide) rfl ?_
  refine zm_iconst 3 rfl dX11_valueIn_2 zi_0 ?_
  refine zm_istore_n (lv' := [(3, .int 0), (2, .int 0), (0, .ref (E.2.1 + 52)), (1, .int a1)]) 4 rfl dX11_valueIn_3 rfl (by decide) rfl ?_
  have hx50_4 : ∀ (e50_2 : Int32), zm_V X Y_X11_valueIn E (zm_Q X E Y_X11_valueIn.2.2.2.1.cells Y_X11_valueIn.2.2.2.1.slots (zm_w sv) zm_ei) 0 0 false (zm_w sv) 50 [(2, .int e50_2)] [] M (some e50_2) (fun r => some (r, M)) := by
    intro e50_2
    refine zm_iload_n 51 rfl dX11_valueIn_50 rfl 0 rfl ?_
    exact zm_iret dX11_valueIn_51 rfl (Nat.le_refl _) (Nat.le_refl _) rfl
  refine zm_loc [2, 3, 1, 0] rfl (zm_lpp (σ := (Int32 × Int32)) (ε := Int32) (step := fun s => f_X11_valueIn_l4 a1 M s.1 s.2) (fun s => [(0, .ref (E.2.1 + 52)), (1, .int a1), (2, .int s.1), (3, .int s.2)]) (fun _ => M) (fun D4 f4 hf4a hf4b hD4 s => ?_) (0, 0))
  obtain ⟨l4_2, l4_3⟩ := s
  show zm_V X Y_X11_valueIn E (zm_Q X E Y_X11_valueIn.2.2.2.1.cells Y_X11_valueIn.2.2.2.1.slots (zm_w sv) zm_ei) 0 0 false (zm_w sv) 4 [(0, .ref (E.2.1 + 52)), (1, .int a1), (2, .int l4_2), (3, .int l4_3)] [] M (f_X11_valueIn_l4 a1 M l4_2 l4_3) f4
  unfold f_X11_valueIn_l4
  refine zm_iload_n 5 rfl dX11_valueIn_4 rfl 3 rfl ?_
  refine zm_aload_n 6 rfl dX11_valueIn_5 rfl 0 rfl ?_
  refine zm_getR (a := 66) 9 rfl dX11_valueIn_6 fl_X11_58 rfl (zm_L (sv := sv) rfl) rfl (by decide) ?_
  refine zm_aload_n 10 rfl dX11_valueIn_9 rfl 0 rfl ?_
  refine zm_getI 13 rfl dX11_valueIn_10 fl_X11_251 rfl (zm_L (sv := sv) rfl) ?_
  refine zm_iald 14 rfl dX11_valueIn_13 rfl (zm_L (sv := sv) rfl) ?_
  refine zm_icmp_ge 50 17 (by decide) rfl dX11_valueIn_14 ?_ ?_
  · exact zm_loc [2] rfl (zm_go (hf4b _) (zm_unb (hx50_4 l4_2)))
  · refine zm_aload_n 18 rfl dX11_valueIn_17 rfl 0 rfl ?_
    refine zm_getR (a := 91) 21 rfl dX11_valueIn_18 fl_X11_134 rfl (zm_L (sv := sv) rfl) rfl (by decide) ?_
    refine zm_iload_n 22 rfl dX11_valueIn_21 rfl 3 rfl ?_
    refine zm_iald 23 rfl dX11_valueIn_22 rfl (zm_L (sv := sv) rfl) ?_
    refine zm_iload_n 24 rfl dX11_valueIn_23 rfl 1 rfl ?_
    have hb44_4 : ∀ (b44_2 : Int32), zm_V X Y_X11_valueIn E (zm_Q X E Y_X11_valueIn.2.2.2.1.cells Y_X11_valueIn.2.2.2.1.slots (zm_w sv) zm_ei) 0 0 false (zm_w sv) 44 [(0, .ref (E.2.1 + 52)), (1, .int a1), (2, .int b44_2), (3, .int l4_3)] [] M (f_X11_valueIn_b44_4 l4_3 b44_2) f4 := by
      intro b44_2
      unfold f_X11_valueIn_b44_4
      refine zm_iinc (lv' := fun z => [(3, .int z), (0, .ref (E.2.1 + 52)), (1, .int a1), (2, .int b44_2)]) 47 rfl dX11_valueIn_44 zi_1 3 rfl (by decide) (fun _ => rfl) (fun x44 _ => ?_)
      refine zm_goto 4 (by decide) dX11_valueIn_47 ?_
      exact zm_loc [1, 2, 3, 0] rfl (zm_go (hf4a _) (hD4 (b44_2, x44)))
    refine zm_icmp_ne 44 27 (by decide) rfl dX11_valueIn_24 ?_ ?_
    · refine zm_iload_n 28 rfl dX11_valueIn_27 rfl 2 rfl ?_
      refine zm_aload_n 29 rfl dX11_valueIn_28 rfl 0 rfl ?_
      refine zm_getR (a := 70) 32 rfl dX11_valueIn_29 fl_X11_70 rfl (zm_L (sv := sv) rfl) rfl (by decide) ?_
      refine zm_bipush 34 rfl dX11_valueIn_32 zb_6 ?_
      refine zm_aload_n 35 rfl dX11_valueIn_34 rfl 0 rfl ?_
      refine zm_getI 38 rfl dX11_valueIn_35 fl_X11_251 rfl (zm_L (sv := sv) rfl) ?_
      refine zm_imul 39 rfl dX11_valueIn_38 ?_
      refine zm_iload_n 40 rfl dX11_valueIn_39 rfl 3 rfl ?_
      refine zm_iadd 41 rfl dX11_valueIn_40 ?_
      refine zm_iald 42 rfl dX11_valueIn_41 rfl (zm_L (sv := sv) rfl) ?_
      refine zm_iadd 43 rfl dX11_valueIn_42 ?_
      refine zm_nmi (fun x43 _ => ?_)
      refine zm_istore_n (lv' := [(2, .int x43), (0, .ref (E.2.1 + 52)), (1, .int a1), (3, .int l4_3)]) 44 rfl dX11_valueIn_43 rfl (by decide) rfl ?_
      exact zm_loc [1, 2, 0, 3] rfl (hb44_4 x43)
    · exact zm_loc [0, 1, 2, 3] rfl (hb44_4 l4_2)
abbrev Y_X11_richest : zm_Y := (cX11_richest, 4, RX11, { frames := 1, cells := 0, slots := 0, locals := 23 }, (some .int), false, "richest")
noncomputable def f_X11_richest_x53_19 (a1 : Int32) (M : zm_Mem) (e53_2 : Int32) : Option Int32 :=
 if a1 = 0 then (some e53_2) else (zm_b1 (f_X11_valueIn e53_2 M) <| fun r59 => some r59)
noncomputable def f_X11_richest_b47_19 (l19_3 : Int32) (b47_2 : Int32) : Option ((Int32 × Int32) ⊕ Int32) :=
 zm_v (l19_3 + 1) <| fun x47 => some (.inl (b47_2, x47))
noncomputable def f_X11_richest_l19 (M : zm_Mem) (l19_2 : Int32) (l19_3 : Int32) : Option ((Int32 × Int32) ⊕ Int32) :=
 zm_ck (zm_in (M.1 52 18) 2) <| if (M.1 63 (M.1 52 18).toNatClampNeg) ≤ l19_3 then (some (.inr l19_2)) else (zm_b1 (f_X11_valueIn l19_3 M) <| fun r34 => zm_b1 (f_X11_valueIn l19_2 M) <| fun r39 => if r34 ≤ r39 then (f_X11_richest_b47_19 l19_3 l19_2) else (f_X11_richest_b47_19 l19_3 l19_3))
noncomputable def f_X11_richest (a1 : Int32) (M : zm_Mem) : Option Int32 :=
  zm_ck (zm_in (M.1 52 18) 2) <| if (M.1 63 (M.1 52 18).toNatClampNeg) = 0 then (some (-2)) else ((zm_lp (fun s => f_X11_richest_l19 M s.1 s.2) (0, 1)).bind (fun e53 => f_X11_richest_x53_19 a1 M e53))
set_option maxRecDepth 20000 in
set_option maxHeartbeats 4000000 in
theorem k_X11_richest (E : zm_E) (sv : Nat) (a1 : Int32) (M : zm_Mem) {r : Int32} (h : f_X11_richest a1 M = some r) : zm_Ct E (zm_w sv) (zm_w sv) yX11_richest Y_X11_richest [.ref (E.2.1 + 52), .int a1] M (some (.int r)) M := by
  refine zm_methr (emb := zm_ei) (d := f_X11_richest a1 M) (by decide) rfl rfl (Nat.le_of_ble_eq_true rfl) h (fun X => ?_)
  show zm_V X Y_X11_richest E (zm_Q X E Y_X11_richest.2.2.2.1.cells Y_X11_richest.2.2.2.1.slots (zm_w sv) zm_ei) 0 0 false (zm_w sv) 0 [(0, .ref (E.2.1 + 52)), (1, .int a1)] [] M (f_X11_richest a1 M) (fun r => some (r, M))
  unfold f_X11_richest
  refine zm_aload_n 1 rfl dX11_richest_0 rfl 0 rfl ?_
  refine zm_getR (a := 63) 4 rfl dX11_richest_1 fl_X11_49 rfl (zm_L (sv := sv) rfl) rfl (by decide) ?_
  refine zm_aload_n 5 rfl dX11_richest_4 rfl 0 rfl ?_
  refine zm_getI 8 rfl dX11_richest_5 fl_X11_251 rfl (zm_L (sv := sv) rfl) ?_
  refine zm_iald 9 rfl dX11_richest_8 rfl (zm_L (sv := sv) rfl) ?_
  refine zm_if_ne 15 12 (by decide) rfl dX11_richest_9 ?_ ?_
  · refine zm_bipush 14 rfl dX11_richest_12 zb_m2 ?_
    exact zm_iret dX11_richest_14 rfl (Nat.le_refl _) (Nat.le_refl _) rfl
  · refine zm_iconst 16 rfl dX11_richest_15 zi_0 ?_
    refine zm_istore_n (lv' := [(2, .int 0), (0, .ref (E.2.1 + 52)), (1, .int a1)]) 17 rfl dX11_richest_16 rfl (by decide) rfl ?_
    refine zm_iconst 18 rfl dX11_richest_17 zi_1 ?_
    refine zm_istore_n (lv' := [(3, .int 1), (2, .int 0), (0, .ref (E.2.1 + 52)), (1, .int a1)]) 19 rfl dX11_richest_18 rfl (by decide) rfl ?_
    have hx53_19 : ∀ (e53_2 : Int32), zm_V X Y_X11_richest E (zm_Q X E Y_X11_richest.2.2.2.1.cells Y_X11_richest.2.2.2.1.slots (zm_w sv) zm_ei) 0 0 false (zm_w sv) 53 [(0, .ref (E.2.1 + 52)), (1, .int a1), (2, .int e53_2)] [] M (f_X11_richest_x53_19 a1 M e53_2) (fun r => some (r, M)) := by
      intro e53_2
      unfold f_X11_richest_x53_19
      refine zm_iload_n 54 rfl dX11_richest_53 rfl 1 rfl ?_
      refine zm_if_eq 65 57 (by decide) rfl dX11_richest_54 ?_ ?_
      · refine zm_iload_n 66 rfl dX11_richest_65 rfl 2 rfl ?_
        exact zm_iret dX11_richest_66 rfl (Nat.le_refl _) (Nat.le_refl _) rfl
      · refine zm_aload_n 58 rfl dX11_richest_57 rfl 0 rfl ?_
        refine zm_iload_n 59 rfl dX11_richest_58 rfl 2 rfl ?_
        refine zm_cV1ir 62 rfl dX11_richest_59 ml_X11_471 rfl (zm_L (sv := sv) rfl) rfl (Nat.le_of_ble_eq_true rfl) ⟨Nat.le_of_ble_eq_true rfl, Nat.le_of_ble_eq_true rfl⟩ rfl rfl ⟨Nat.le_refl _, Nat.le_refl _⟩ rfl (fun _ h => k_X11_valueIn E sv e53_2 M h) (fun r59 => ?_)
        refine zm_goto 66 (by decide) dX11_richest_62 ?_
        exact zm_iret dX11_richest_66 rfl (Nat.le_refl _) (Nat.le_refl _) rfl
    refine zm_loc [2, 3, 1, 0] rfl (zm_lpp (σ := (Int32 × Int32)) (ε := Int32) (step := fun s => f_X11_richest_l19 M s.1 s.2) (fun s => [(0, .ref (E.2.1 + 52)), (1, .int a1), (2, .int s.1), (3, .int s.2)]) (fun _ => M) (fun D19 f19 hf19a hf19b hD19 s => ?_) (0, 1))
    obtain ⟨l19_2, l19_3⟩ := s
    show zm_V X Y_X11_richest E (zm_Q X E Y_X11_richest.2.2.2.1.cells Y_X11_richest.2.2.2.1.slots (zm_w sv) zm_ei) 0 0 false (zm_w sv) 19 [(0, .ref (E.2.1 + 52)), (1, .int a1), (2, .int l19_2), (3, .int l19_3)] [] M (f_X11_richest_l19 M l19_2 l19_3) f19
    unfold f_X11_richest_l19
    refine zm_iload_n 20 rfl dX11_richest_19 rfl 3 rfl ?_
    refine zm_aload_n 21 rfl dX11_richest_20 rfl 0 rfl ?_
    refine zm_getR (a := 63) 24 rfl dX11_richest_21 fl_X11_49 rfl (zm_L (sv := sv) rfl) rfl (by decide) ?_
    refine zm_aload_n 25 rfl dX11_richest_24 rfl 0 rfl ?_
    refine zm_getI 28 rfl dX11_richest_25 fl_X11_251 rfl (zm_L (sv := sv) rfl) ?_
    refine zm_iald 29 rfl dX11_richest_28 rfl (zm_L (sv := sv) rfl) ?_
    refine zm_icmp_ge 53 32 (by decide) rfl dX11_richest_29 ?_ ?_
    · exact zm_loc [0, 1, 2] rfl (zm_go (hf19b _) (zm_unb (hx53_19 l19_2)))
    · refine zm_aload_n 33 rfl dX11_richest_32 rfl 0 rfl ?_
      refine zm_iload_n 34 rfl dX11_richest_33 rfl 3 rfl ?_
      refine zm_cV1ir 37 rfl dX11_richest_34 ml_X11_471 rfl (zm_L (sv := sv) rfl) rfl (Nat.le_of_ble_eq_true rfl) ⟨Nat.le_of_ble_eq_true rfl, Nat.le_of_ble_eq_true rfl⟩ rfl rfl ⟨Nat.le_refl _, Nat.le_refl _⟩ rfl (fun _ h => k_X11_valueIn E sv l19_3 M h) (fun r34 => ?_)
      refine zm_aload_n 38 rfl dX11_richest_37 rfl 0 rfl ?_
      refine zm_iload_n 39 rfl dX11_richest_38 rfl 2 rfl ?_
      refine zm_cV1ir 42 rfl dX11_richest_39 ml_X11_471 rfl (zm_L (sv := sv) rfl) rfl (Nat.le_of_ble_eq_true rfl) ⟨Nat.le_of_ble_eq_true rfl, Nat.le_of_ble_eq_true rfl⟩ rfl rfl ⟨Nat.le_refl _, Nat.le_refl _⟩ rfl (fun _ h => k_X11_valueIn E sv l19_2 M h) (fun r39 => ?_)
      have hb47_19 : ∀ (b47_2 : Int32), zm_V X Y_X11_richest E (zm_Q X E Y_X11_richest.2.2.2.1.cells Y_X11_richest.2.2.2.1.slots (zm_w sv) zm_ei) 0 0 false (zm_w sv) 47 [(0, .ref (E.2.1 + 52)), (1, .int a1), (2, .int b47_2), (3, .int l19_3)] [] M (f_X11_richest_b47_19 l19_3 b47_2) f19 := by
        intro b47_2
        unfold f_X11_richest_b47_19
        refine zm_iinc (lv' := fun z => [(3, .int z), (0, .ref (E.2.1 + 52)), (1, .int a1), (2, .int b47_2)]) 50 rfl dX11_richest_47 zi_1 3 rfl (by decide) (fun _ => rfl) (fun x47 _ => ?_)
        refine zm_goto 19 (by decide) dX11_richest_50 ?_
        exact zm_loc [1, 2, 3, 0] rfl (zm_go (hf19a _) (hD19 (b47_2, x47)))
      refine zm_icmp_le 47 45 (by decide) rfl dX11_richest_42 ?_ ?_
      · exact zm_loc [0, 1, 2, 3] rfl (hb47_19 l19_2)
      · refine zm_iload_n 46 rfl dX11_richest_45 rfl 3 rfl ?_
        refine zm_istore_n (lv' := [(2, .int l19_3), (0, .ref (E.2.1 + 52)), (1, .int a1), (3, .int l19_3)]) 47 rfl dX11_richest_46 rfl (by decide) rfl ?_
        exact zm_loc [1, 2, 0, 3] rfl (hb47_19 l19_3)
abbrev Y_X11_lent : zm_Y := (cX11_lent, 3, RX11, { frames := 2, cells := 0, slots := 0, locals := 43 }, (some .int), false, "lent")
noncomputable def f_X11_lent_b37  : Option Int32 :=
 some (-1)
noncomputable def f_X11_lent (a1 : Int32) (a2 : Int32) (M : zm_Mem) : Option Int32 :=
  zm_b1 (f_X11_isHouse a1 M) <| fun r2 => if r2 = 0 then (f_X11_lent_b37) else (zm_b1 (f_X11_isHouse a2 M) <| fun r10 => if r10 = 0 then (f_X11_lent_b37) else (if a1 = a2 then (f_X11_lent_b37) else (zm_ck (zm_in ((33 + (5 * a1)) + a2) 60) <| some (M.1 91 ((33 + (5 * a1)) + a2).toNatClampNeg))))
set_option maxRecDepth 20000 in
set_option maxHeartbeats 4000000 in
theorem k_X11_lent (E : zm_E) (sv : Nat) (a1 : Int32) (a2 : Int32) (M : zm_Mem) {r : Int32} (h : f_X11_lent a1 a2 M = some r) : zm_Ct E (zm_w sv) (zm_w sv) yX11_lent Y_X11_lent [.ref (E.2.1 + 52), .int a1, .int a2] M (some (.int r)) M := by
  refine zm_methr (emb := zm_ei) (d := f_X11_lent a1 a2 M) (by decide) rfl rfl (Nat.le_of_ble_eq_true rfl) h (fun X => ?_)
  show zm_V X Y_X11_lent E (zm_Q X E Y_X11_lent.2.2.2.1.cells Y_X11_lent.2.2.2.1.slots (zm_w sv) zm_ei) 0 0 false (zm_w sv) 0 [(0, .ref (E.2.1 + 52)), (1, .int a1), (2, .int a2)] [] M (f_X11_lent a1 a2 M) (fun r => some (r, M))
  unfold f_X11_lent
  refine zm_aload_n 1 rfl dX11_lent_0 rfl 0 rfl ?_
  refine zm_iload_n 2 rfl dX11_lent_1 rfl 1 rfl ?_
  refine zm_cV1ir 5 rfl dX11_lent_2 ml_X11_385 rfl (zm_L (sv := sv) rfl) rfl (Nat.le_of_ble_eq_true rfl) ⟨Nat.le_of_ble_eq_true rfl, Nat.le_of_ble_eq_true rfl⟩ rfl rfl ⟨Nat.le_refl _, Nat.le_refl _⟩ rfl (fun _ h => k_X11_isHouse E sv a1 M h) (fun r2 => ?_)
  have hb37 : zm_V X Y_X11_lent E (zm_Q X E Y_X11_lent.2.2.2.1.cells Y_X11_lent.2.2.2.1.slots (zm_w sv) zm_ei) 0 0 false (zm_w sv) 37 [] [] M (f_X11_lent_b37) (fun r => some (r, M)) := by
    unfold f_X11_lent_b37
    refine zm_iconst 38 rfl dX11_lent_37 zi_m1 ?_
    exact zm_iret dX11_lent_38 rfl (Nat.le_refl _) (Nat.le_refl _) rfl
  refine zm_if_eq 37 8 (by decide) rfl dX11_lent_5 ?_ ?_
  · exact zm_loc [] rfl (hb37)
  · refine zm_aload_n 9 rfl dX11_lent_8 rfl 0 rfl ?_
    refine zm_iload_n 10 rfl dX11_lent_9 rfl 2 rfl ?_
    refine zm_cV1ir 13 rfl dX11_lent_10 ml_X11_385 rfl (zm_L (sv := sv) rfl) rfl (Nat.le_of_ble_eq_true rfl) ⟨Nat.le_of_ble_eq_true rfl, Nat.le_of_ble_eq_true rfl⟩ rfl rfl ⟨Nat.le_refl _, Nat.le_refl _⟩ rfl (fun _ h => k_X11_isHouse E sv a2 M h) (fun r10 => ?_)
    refine zm_if_eq 37 16 (by decide) rfl dX11_lent_13 ?_ ?_
    · exact zm_loc [] rfl (hb37)
    · refine zm_iload_n 17 rfl dX11_lent_16 rfl 1 rfl ?_
      refine zm_iload_n 18 rfl dX11_lent_17 rfl 2 rfl ?_
      refine zm_icmp_eq 37 21 (by decide) rfl dX11_lent_18 ?_ ?_
      · exact zm_loc [] rfl (hb37)
      · refine zm_aload_n 22 rfl dX11_lent_21 rfl 0 rfl ?_
        refine zm_getR (a := 91) 25 rfl dX11_lent_22 fl_X11_134 rfl (zm_L (sv := sv) rfl) rfl (by decide) ?_
        refine zm_bipush 27 rfl dX11_lent_25 zb_33 ?_
        refine zm_iconst 28 rfl dX11_lent_27 zi_5 ?_
        refine zm_iload_n 29 rfl dX11_lent_28 rfl 1 rfl ?_
        refine zm_imul 30 rfl dX11_lent_29 ?_
        refine zm_iadd 31 rfl dX11_lent_30 ?_
        refine zm_iload_n 32 rfl dX11_lent_31 rfl 2 rfl ?_
        refine zm_iadd 33 rfl dX11_lent_32 ?_
        refine zm_iald 34 rfl dX11_lent_33 rfl (zm_L (sv := sv) rfl) ?_
        refine zm_goto 38 (by decide) dX11_lent_34 ?_
        exact zm_iret dX11_lent_38 rfl (Nat.le_refl _) (Nat.le_refl _) rfl
abbrev Y_X11_list : zm_Y := (cX11_list, 4, RX11, { frames := 2, cells := 0, slots := 0, locals := 43 }, (some .int), false, "list")
noncomputable def f_X11_list_b65 (a1 : Int32) (a2 : Int32) (a3 : Int32) (M : zm_Mem) : Option (Int32 × zm_Mem) :=
 zm_ck (zm_in (M.1 52 65) 20) <| zm_v (zm_sI M 98 (M.1 52 65).toNatClampNeg a1) <| fun M74 => zm_ck (zm_in (M74.1 52 65) 20) <| zm_v (zm_sI M74 99 (M74.1 52 65).toNatClampNeg a2) <| fun M84 => zm_ck (zm_in (M84.1 52 65) 20) <| zm_v (zm_sI M84 100 (M84.1 52 65).toNatClampNeg a3) <| fun M94 => zm_v (zm_sI M94 52 65 ((M94.1 52 65) + 1)) <| fun M102 => some ((M102.1 52 65) - 1, M102)
noncomputable def f_X11_list_b57 (a1 : Int32) (a2 : Int32) (a3 : Int32) (M : zm_Mem) (b57_s0 : Int32) (b57_s1 : Int32) (b57_s2 : Int32) : Option (Int32 × zm_Mem) :=
 zm_b1 (f_X11_in b57_s0 b57_s1 b57_s2 M) <| fun r57 => if r57 = 0 then (some ((-1), M)) else (f_X11_list_b65 a1 a2 a3 M)
noncomputable def f_X11_list (a1 : Int32) (a2 : Int32) (a3 : Int32) (M : zm_Mem) : Option (Int32 × zm_Mem) :=
  if (M.1 52 65) = (20 : Int32) then (some ((-1), M)) else (zm_b1 (f_X11_isWork a1 M) <| fun r11 => if r11 = 0 then (some ((-1), M)) else (zm_b1 (f_X11_in a2 0 2 M) <| fun r20 => if r20 = 0 then (some ((-1), M)) else (if a2 = (2 : Int32) then (zm_b1 (f_X11_isHouse a3 M) <| fun r35 => if r35 = 0 then (some ((-1), M)) else (f_X11_list_b65 a1 a2 a3 M)) else (if a2 = 0 then (f_X11_list_b57 a1 a2 a3 M a3 0 9) else (f_X11_list_b57 a1 a2 a3 M a3 0 99)))))
set_option maxRecDepth 20000 in
set_option maxHeartbeats 4000000 in
theorem k_X11_list (E : zm_E) (sv : Nat) (a1 : Int32) (a2 : Int32) (a3 : Int32) (M : zm_Mem) {r : Int32} {M' : zm_Mem} (h : f_X11_list a1 a2 a3 M = some (r, M')) : zm_Ct E (zm_w sv) (zm_w sv) yX11_list Y_X11_list [.ref (E.2.1 + 52), .int a1, .int a2, .int a3] M (some (.int r)) M' := by
  refine zm_meth (emb := zm_ei) (d := f_X11_list a1 a2 a3 M) (by decide) rfl rfl (Nat.le_of_ble_eq_true rfl) h (fun X => ?_)
  show zm_V X Y_X11_list E (zm_Q X E Y_X11_list.2.2.2.1.cells Y_X11_list.2.2.2.1.slots (zm_w sv) zm_ei) 0 0 false (zm_w sv) 0 [(0, .ref (E.2.1 + 52)), (1, .int a1), (2, .int a2), (3, .int a3)] [] M (f_X11_list a1 a2 a3 M) some
  unfold f_X11_list
  refine zm_aload_n 1 rfl dX11_list_0 rfl 0 rfl ?_
  refine zm_getI 4 rfl dX11_list_1 fl_X11_272 rfl (zm_L (sv := sv) rfl) ?_
  refine zm_bipush 6 rfl dX11_list_4 zb_20 ?_
  refine zm_icmp_eq 26 9 (by decide) rfl dX11_list_6 ?_ ?_
  · refine zm_iconst 27 rfl dX11_list_26 zi_m1 ?_
    exact zm_iret dX11_list_27 rfl (Nat.le_refl _) (Nat.le_refl _) rfl
  · refine zm_aload_n 10 rfl dX11_list_9 rfl 0 rfl ?_
    refine zm_iload_n 11 rfl dX11_list_10 rfl 1 rfl ?_
    refine zm_cV1ir 14 rfl dX11_list_11 ml_X11_398 rfl (zm_L (sv := sv) rfl) rfl (Nat.le_of_ble_eq_true rfl) ⟨Nat.le_of_ble_eq_true rfl, Nat.le_of_ble_eq_true rfl⟩ rfl rfl ⟨Nat.le_refl _, Nat.le_refl _⟩ rfl (fun _ h => k_X11_isWork E sv a1 M h) (fun r11 => ?_)
    refine zm_if_eq 26 17 (by decide) rfl dX11_list_14 ?_ ?_
    · refine zm_iconst 27 rfl dX11_list_26 zi_m1 ?_
      exact zm_iret dX11_list_27 rfl (Nat.le_refl _) (Nat.le_refl _) rfl
    · refine zm_iload_n 18 rfl dX11_list_17 rfl 2 rfl ?_
      refine zm_iconst 19 rfl dX11_list_18 zi_0 ?_
      refine zm_iconst 20 rfl dX11_list_19 zi_2 ?_
      refine zm_cS3ir 23 rfl dX11_list_20 ml_X11_335 (Nat.le_of_ble_eq_true rfl) ⟨Nat.le_of_ble_eq_true rfl, Nat.le_of_ble_eq_true rfl⟩ rfl rfl ⟨Nat.le_refl _, Nat.le_refl _⟩ rfl (fun _ h => k_X11_in E (zm_w sv) a2 0 2 M h) (fun r20 => ?_)
      refine zm_if_ne 28 26 (by decide) rfl dX11_list_23 ?_ ?_
      · refine zm_iconst 27 rfl dX11_list_26 zi_m1 ?_
        exact zm_iret dX11_list_27 rfl (Nat.le_refl _) (Nat.le_refl _) rfl
      · refine zm_iload_n 29 rfl dX11_list_28 rfl 2 rfl ?_
        refine zm_iconst 30 rfl dX11_list_29 zi_2 ?_
        have hb65 : zm_V X Y_X11_list E (zm_Q X E Y_X11_list.2.2.2.1.cells Y_X11_list.2.2.2.1.slots (zm_w sv) zm_ei) 0 0 false (zm_w sv) 65 [(0, .ref (E.2.1 + 52)), (1, .int a1), (2, .int a2), (3, .int a3)] [] M (f_X11_list_b65 a1 a2 a3 M) some := by
          unfold f_X11_list_b65
          refine zm_aload_n 66 rfl dX11_list_65 rfl 0 rfl ?_
          refine zm_getR (a := 98) 69 rfl dX11_list_66 fl_X11_155 rfl (zm_L (sv := sv) rfl) rfl (by decide) ?_
          refine zm_aload_n 70 rfl dX11_list_69 rfl 0 rfl ?_
          refine zm_getI 73 rfl dX11_list_70 fl_X11_272 rfl (zm_L (sv := sv) rfl) ?_
          refine zm_iload_n 74 rfl dX11_list_73 rfl 1 rfl ?_
          refine zm_iast 75 rfl dX11_list_74 rfl (zm_L (sv := sv) rfl) (fun M74 _ => ?_)
          refine zm_aload_n 76 rfl dX11_list_75 rfl 0 rfl ?_
          refine zm_getR (a := 99) 79 rfl dX11_list_76 fl_X11_158 rfl (zm_L (sv := sv) rfl) rfl (by decide) ?_
          refine zm_aload_n 80 rfl dX11_list_79 rfl 0 rfl ?_
          refine zm_getI 83 rfl dX11_list_80 fl_X11_272 rfl (zm_L (sv := sv) rfl) ?_
          refine zm_iload_n 84 rfl dX11_list_83 rfl 2 rfl ?_
          refine zm_iast 85 rfl dX11_list_84 rfl (zm_L (sv := sv) rfl) (fun M84 _ => ?_)
          refine zm_aload_n 86 rfl dX11_list_85 rfl 0 rfl ?_
          refine zm_getR (a := 100) 89 rfl dX11_list_86 fl_X11_161 rfl (zm_L (sv := sv) rfl) rfl (by decide) ?_
          refine zm_aload_n 90 rfl dX11_list_89 rfl 0 rfl ?_
          refine zm_getI 93 rfl dX11_list_90 fl_X11_272 rfl (zm_L (sv := sv) rfl) ?_
          refine zm_iload_n 94 rfl dX11_list_93 rfl 3 rfl ?_
          refine zm_iast 95 rfl dX11_list_94 rfl (zm_L (sv := sv) rfl) (fun M94 _ => ?_)
          refine zm_aload_n 96 rfl dX11_list_95 rfl 0 rfl ?_
          refine zm_dup 97 rfl dX11_list_96 rfl ?_
          refine zm_getI 100 rfl dX11_list_97 fl_X11_272 rfl (zm_L (sv := sv) rfl) ?_
          refine zm_iconst 101 rfl dX11_list_100 zi_1 ?_
          refine zm_iadd 102 rfl dX11_list_101 ?_
          refine zm_putI 105 rfl dX11_list_102 fp_X11_272 rfl (zm_L (sv := sv) rfl) rfl rfl (fun M102 _ => ?_)
          refine zm_aload_n 106 rfl dX11_list_105 rfl 0 rfl ?_
          refine zm_getI 109 rfl dX11_list_106 fl_X11_272 rfl (zm_L (sv := sv) rfl) ?_
          refine zm_iconst 110 rfl dX11_list_109 zi_1 ?_
          refine zm_isub 111 rfl dX11_list_110 ?_
          exact zm_iret dX11_list_111 rfl (Nat.le_refl _) (Nat.le_refl _) rfl
        refine zm_icmp_ne 44 33 (by decide) rfl dX11_list_30 ?_ ?_
        · refine zm_aload_n 34 rfl dX11_list_33 rfl 0 rfl ?_
          refine zm_iload_n 35 rfl dX11_list_34 rfl 3 rfl ?_
          refine zm_cV1ir 38 rfl dX11_list_35 ml_X11_385 rfl (zm_L (sv := sv) rfl) rfl (Nat.le_of_ble_eq_true rfl) ⟨Nat.le_of_ble_eq_true rfl, Nat.le_of_ble_eq_true rfl⟩ rfl rfl ⟨Nat.le_refl _, Nat.le_refl _⟩ rfl (fun _ h => k_X11_isHouse E sv a3 M h) (fun r35 => ?_)
          refine zm_if_ne 65 41 (by decide) rfl dX11_list_38 ?_ ?_
          · refine zm_goto 63 (by decide) dX11_list_41 ?_
            refine zm_iconst 64 rfl dX11_list_63 zi_m1 ?_
            exact zm_iret dX11_list_64 rfl (Nat.le_refl _) (Nat.le_refl _) rfl
          · exact zm_loc [0, 1, 2, 3] rfl (hb65)
        · refine zm_iload_n 45 rfl dX11_list_44 rfl 3 rfl ?_
          refine zm_iconst 46 rfl dX11_list_45 zi_0 ?_
          refine zm_iload_n 47 rfl dX11_list_46 rfl 2 rfl ?_
          have hb57 : ∀ (b57_s0 : Int32) (b57_s1 : Int32) (b57_s2 : Int32), zm_V X Y_X11_list E (zm_Q X E Y_X11_list.2.2.2.1.cells Y_X11_list.2.2.2.1.slots (zm_w sv) zm_ei) 0 0 false (zm_w sv) 57 [(0, .ref (E.2.1 + 52)), (1, .int a1), (2, .int a2), (3, .int a3)] [.int b57_s2, .int b57_s1, .int b57_s0] M (f_X11_list_b57 a1 a2 a3 M b57_s0 b57_s1 b57_s2) some := by
            intro b57_s0 b57_s1 b57_s2
            unfold f_X11_list_b57
            refine zm_cS3ir 60 rfl dX11_list_57 ml_X11_335 (Nat.le_of_ble_eq_true rfl) ⟨Nat.le_of_ble_eq_true rfl, Nat.le_of_ble_eq_true rfl⟩ rfl rfl ⟨Nat.le_refl _, Nat.le_refl _⟩ rfl (fun _ h => k_X11_in E (zm_w sv) b57_s0 b57_s1 b57_s2 M h) (fun r57 => ?_)
            refine zm_if_ne 65 63 (by decide) rfl dX11_list_60 ?_ ?_
            · refine zm_iconst 64 rfl dX11_list_63 zi_m1 ?_
              exact zm_iret dX11_list_64 rfl (Nat.le_refl _) (Nat.le_refl _) rfl
            · exact zm_loc [0, 1, 2, 3] rfl (hb65)
          refine zm_if_ne 55 50 (by decide) rfl dX11_list_47 ?_ ?_
          · refine zm_bipush 52 rfl dX11_list_50 zb_9 ?_
            refine zm_goto 57 (by decide) dX11_list_52 ?_
            exact zm_loc [0, 1, 2, 3] rfl (hb57 a3 0 9)
          · refine zm_bipush 57 rfl dX11_list_55 zb_99 ?_
            exact zm_loc [0, 1, 2, 3] rfl (hb57 a3 0 99)
abbrev Y_X11_forget : zm_Y := (cX11_forget, 2, RX11, { frames := 0, cells := 0, slots := 0, locals := 0 }, (some .int), false, "forget")
noncomputable def f_X11_forget  (M : zm_Mem) : Option (Int32 × zm_Mem) :=
  zm_v (M.1 52 65) <| fun x4 => zm_v (zm_sI M 52 65 0) <| fun M7 => some (x4, M7)
set_option maxRecDepth 20000 in
set_option maxHeartbeats 4000000 in
theorem k_X11_forget (E : zm_E) (sv : Nat)  (M : zm_Mem) {r : Int32} {M' : zm_Mem} (h : f_X11_forget M = some (r, M')) : zm_Ct E (zm_w sv) (zm_w sv) yX11_forget Y_X11_forget [.ref (E.2.1 + 52)] M (some (.int r)) M' := by
  refine zm_meth (emb := zm_ei) (d := f_X11_forget M) (by decide) rfl rfl (Nat.le_of_ble_eq_true rfl) h (fun X => ?_)
  show zm_V X Y_X11_forget E (zm_Q X E Y_X11_forget.2.2.2.1.cells Y_X11_forget.2.2.2.1.slots (zm_w sv) zm_ei) 0 0 false (zm_w sv) 0 [(0, .ref (E.2.1 + 52))] [] M (f_X11_forget M) some
  unfold f_X11_forget
  refine zm_aload_n 1 rfl dX11_forget_0 rfl 0 rfl ?_
  refine zm_getI 4 rfl dX11_forget_1 fl_X11_272 rfl (zm_L (sv := sv) rfl) ?_
  refine zm_nmi (fun x4 _ => ?_)
  refine zm_istore_n (lv' := [(1, .int x4), (0, .ref (E.2.1 + 52))]) 5 rfl dX11_forget_4 rfl (by decide) rfl ?_
  refine zm_aload_n 6 rfl dX11_forget_5 rfl 1 rfl ?_
  refine zm_iconst 7 rfl dX11_forget_6 zi_0 ?_
  refine zm_putI 10 rfl dX11_forget_7 fp_X11_272 rfl (zm_L (sv := sv) rfl) rfl rfl (fun M7 _ => ?_)
  refine zm_iload_n 11 rfl dX11_forget_10 rfl 0 rfl ?_
  exact zm_iret dX11_forget_11 rfl (Nat.le_refl _) (Nat.le_refl _) rfl
abbrev Y_X11_sixes : zm_Y := (cX11_sixes, 3, RX11, { frames := 0, cells := 0, slots := 0, locals := 0 }, (some .int), false, "sixes")
noncomputable def f_X11_sixes_l4 (a0 : Int32) (l4_1 : Int32) (l4_2 : Int32) : Option ((Int32 × Int32) ⊕ Int32) :=
 if a0 ≤ l4_2 then (some (.inr l4_1)) else (zm_v (l4_1 * 6) <| fun x13 => zm_v (l4_2 + 1) <| fun x14 => some (.inl (x13, x14)))
noncomputable def f_X11_sixes (a0 : Int32) (M : zm_Mem) : Option Int32 :=
  (zm_lp (fun s => f_X11_sixes_l4 a0 s.1 s.2) (1, 0)).bind (fun e20 => some e20)
set_option maxRecDepth 20000 in
set_option maxHeartbeats 4000000 in
theorem k_X11_sixes (E : zm_E) (w : zm_W) (a0 : Int32) (M : zm_Mem) {r : Int32} (h : f_X11_sixes a0 M = some r) : zm_Ct E w w yX11_sixes Y_X11_sixes [.int a0] M (some (.int r)) M := by
  refine zm_methr (emb := zm_ei) (d := f_X11_sixes a0 M) (by decide) rfl rfl (Nat.le_of_ble_eq_true rfl) h (fun X => ?_)
  show zm_V X Y_X11_sixes E (zm_Q X E Y_X11_sixes.2.2.2.1.cells Y_X11_sixes.2.2.2.1.slots w zm_ei) 0 0 false w 0 [(0, .int a0)] [] M (f_X11_sixes a0 M) (fun r => some (r, M))
  unfold f_X11_sixes
  refine zm_iconst 1 rfl dX11_sixes_0 zi_1 ?_
  refine zm_istore_n (lv' := [(1, .int 1), (0, .int a0)]) 2 rfl dX11_sixes_1 rfl (by decide) rfl ?_
  refine zm_iconst 3 rfl dX11_sixes_2 zi_0 ?_
  refine zm_istore_n (lv' := [(2, .int 0), (1, .int 1), (0, .int a0)]) 4 rfl dX11_sixes_3 rfl (by decide) rfl ?_
  have hx20_4 : ∀ (e20_1 : Int32), zm_V X Y_X11_sixes E (zm_Q X E Y_X11_sixes.2.2.2.1.cells Y_X11_sixes.2.2.2.1.slots w zm_ei) 0 0 false w 20 [(1, .int e20_1)] [] M (some e20_1) (fun r => some (r, M)) := by
    intro e20_1
    refine zm_iload_n 21 rfl dX11_sixes_20 rfl 0 rfl ?_
    exact zm_iret dX11_sixes_21 rfl (Nat.le_refl _) (Nat.le_refl _) rfl
  refine zm_loc [2, 1, 0] rfl (zm_lpp (σ := (Int32 × Int32)) (ε := Int32) (step := fun s => f_X11_sixes_l4 a0 s.1 s.2) (fun s => [(0, .int a0), (1, .int s.1), (2, .int s.2)]) (fun _ => M) (fun D4 f4 hf4a hf4b hD4 s => ?_) (1, 0))
  obtain ⟨l4_1, l4_2⟩ := s
  show zm_V X Y_X11_sixes E (zm_Q X E Y_X11_sixes.2.2.2.1.cells Y_X11_sixes.2.2.2.1.slots w zm_ei) 0 0 false w 4 [(0, .int a0), (1, .int l4_1), (2, .int l4_2)] [] M (f_X11_sixes_l4 a0 l4_1 l4_2) f4
  unfold f_X11_sixes_l4
  refine zm_iload_n 5 rfl dX11_sixes_4 rfl 2 rfl ?_
  refine zm_iload_n 6 rfl dX11_sixes_5 rfl 0 rfl ?_
  refine zm_icmp_ge 20 9 (by decide) rfl dX11_sixes_6 ?_ ?_
  · exact zm_loc [1] rfl (zm_go (hf4b _) (zm_unb (hx20_4 l4_1)))
  · refine zm_iload_n 10 rfl dX11_sixes_9 rfl 1 rfl ?_
    refine zm_bipush 12 rfl dX11_sixes_10 zb_6 ?_
    refine zm_imul 13 rfl dX11_sixes_12 ?_
    refine zm_nmi (fun x13 _ => ?_)
    refine zm_istore_n (lv' := [(1, .int x13), (0, .int a0), (2, .int l4_2)]) 14 rfl dX11_sixes_13 rfl (by decide) rfl ?_
    refine zm_iinc (lv' := fun z => [(2, .int z), (1, .int x13), (0, .int a0)]) 17 rfl dX11_sixes_14 zi_1 2 rfl (by decide) (fun _ => rfl) (fun x14 _ => ?_)
    refine zm_goto 4 (by decide) dX11_sixes_17 ?_
    exact zm_loc [2, 1, 0] rfl (zm_go (hf4a _) (hD4 (x13, x14)))
abbrev Y_X11_workIn : zm_Y := (cX11_workIn, 3, RX11, { frames := 1, cells := 0, slots := 0, locals := 22 }, (some .int), false, "workIn")
noncomputable def f_X11_workIn (a1 : Int32) (a2 : Int32) (M : zm_Mem) : Option Int32 :=
  zm_ck (zm_in (M.1 52 18) 2) <| zm_b1 (f_X11_sixes (((M.1 66 (M.1 52 18).toNatClampNeg) - 1) - a2) M) <| fun r14 => zm_ck (!decide (r14 = 0)) <| zm_ck (!decide ((6 : Int32) = 0)) <| some ((a1 / r14) - (a1 / r14) / 6 * 6)
set_option maxRecDepth 20000 in
set_option maxHeartbeats 4000000 in
theorem k_X11_workIn (E : zm_E) (sv : Nat) (a1 : Int32) (a2 : Int32) (M : zm_Mem) {r : Int32} (h : f_X11_workIn a1 a2 M = some r) : zm_Ct E (zm_w sv) (zm_w sv) yX11_workIn Y_X11_workIn [.ref (E.2.1 + 52), .int a1, .int a2] M (some (.int r)) M := by
  refine zm_methr (emb := zm_ei) (d := f_X11_workIn a1 a2 M) (by decide) rfl rfl (Nat.le_of_ble_eq_true rfl) h (fun X => ?_)
  show zm_V X Y_X11_workIn E (zm_Q X E Y_X11_workIn.2.2.2.1.cells Y_X11_workIn.2.2.2.1.slots (zm_w sv) zm_ei) 0 0 false (zm_w sv) 0 [(0, .ref (E.2.1 + 52)), (1, .int a1), (2, .int a2)] [] M (f_X11_workIn a1 a2 M) (fun r => some (r, M))
  unfold f_X11_workIn
  refine zm_iload_n 1 rfl dX11_workIn_0 rfl 1 rfl ?_
  refine zm_aload_n 2 rfl dX11_workIn_1 rfl 0 rfl ?_
  refine zm_getR (a := 66) 5 rfl dX11_workIn_2 fl_X11_58 rfl (zm_L (sv := sv) rfl) rfl (by decide) ?_
  refine zm_aload_n 6 rfl dX11_workIn_5 rfl 0 rfl ?_
  refine zm_getI 9 rfl dX11_workIn_6 fl_X11_251 rfl (zm_L (sv := sv) rfl) ?_
  refine zm_iald 10 rfl dX11_workIn_9 rfl (zm_L (sv := sv) rfl) ?_
  refine zm_iconst 11 rfl dX11_workIn_10 zi_1 ?_
  refine zm_isub 12 rfl dX11_workIn_11 ?_
  refine zm_iload_n 13 rfl dX11_workIn_12 rfl 2 rfl ?_
  refine zm_isub 14 rfl dX11_workIn_13 ?_
  refine zm_cS1ir 17 rfl dX11_workIn_14 ml_X11_474 (Nat.le_of_ble_eq_true rfl) ⟨Nat.le_of_ble_eq_true rfl, Nat.le_of_ble_eq_true rfl⟩ rfl rfl ⟨Nat.le_refl _, Nat.le_refl _⟩ rfl (fun _ h => k_X11_sixes E (zm_w sv) (((M.1 66 (M.1 52 18).toNatClampNeg) - 1) - a2) M h) (fun r14 => ?_)
  refine zm_idiv 18 rfl dX11_workIn_17 ?_
  refine zm_bipush 20 rfl dX11_workIn_18 zb_6 ?_
  refine zm_irem 21 rfl dX11_workIn_20 ?_
  exact zm_iret dX11_workIn_21 rfl (Nat.le_refl _) (Nat.le_refl _) rfl
abbrev Y_X11_isPacking : zm_Y := (cX11_isPacking, 5, RX11, { frames := 2, cells := 0, slots := 0, locals := 44 }, (some .boolean), false, "isPacking")
noncomputable def f_X11_isPacking_l4 (a1 : Int32) (M : zm_Mem) (l4_2 : Int32) (l4_3 : Int32) : Option ((Int32 × Int32) ⊕ (Unit ⊕ Unit)) :=
 zm_ck (zm_in (M.1 52 18) 2) <| if (M.1 66 (M.1 52 18).toNatClampNeg) ≤ l4_3 then (some (.inr (.inr ()))) else (zm_b1 (f_X11_workIn a1 l4_3 M) <| fun r20 => zm_b1 (f_X11_isWork r20 M) <| fun r28 => if r28 = 0 then (some (.inr (.inl ()))) else (if ((l4_2 >>> (r20 &&& 31)) &&& 1) = (1 : Int32) then (some (.inr (.inl ()))) else (zm_v (l4_2 ||| ((1 : Int32) <<< (r20 &&& 31))) <| fun x52 => zm_v (l4_3 + 1) <| fun x53 => some (.inl (x52, x53)))))
noncomputable def f_X11_isPacking (a1 : Int32) (M : zm_Mem) : Option Int32 :=
  (zm_lp (fun s => f_X11_isPacking_l4 a1 M s.1 s.2) (0, 0)).bind (Sum.elim (fun _ => some 0) (fun _ => some 1))
set_option maxRecDepth 20000 in
set_option maxHeartbeats 4000000 in
theorem k_X11_isPacking (E : zm_E) (sv : Nat) (a1 : Int32) (M : zm_Mem) {r : Int32} (h : f_X11_isPacking a1 M = some r) : zm_Ct E (zm_w sv) (zm_w sv) yX11_isPacking Y_X11_isPacking [.ref (E.2.1 + 52), .int a1] M (some (.int r)) M := by
  refine zm_methr (emb := zm_ei) (d := f_X11_isPacking a1 M) (by decide) rfl rfl (Nat.le_of_ble_eq_true rfl) h (fun X => ?_)
  show zm_V X Y_X11_isPacking E (zm_Q X E Y_X11_isPacking.2.2.2.1.cells Y_X11_isPacking.2.2.2.1.slots (zm_w sv) zm_ei) 0 0 false (zm_w sv) 0 [(0, .ref (E.2.1 + 52)), (1, .int a1)] [] M (f_X11_isPacking a1 M) (fun r => some (r, M))
  unfold f_X11_isPacking
  refine zm_iconst 1 rfl dX11_isPacking_0 zi_0 ?_
  refine zm_istore_n (lv' := [(2, .int 0), (0, .ref (E.2.1 + 52)), (1, .int a1)]) 2 rfl dX11_isPacking_1 rfl (by decide) rfl ?_
  refine zm_iconst 3 rfl dX11_isPacking_2 zi_0 ?_
  refine zm_istore_n (lv' := [(3, .int 0), (2, .int 0), (0, .ref (E.2.1 + 52)), (1, .int a1)]) 4 rfl dX11_isPacking_3 rfl (by decide) rfl ?_
  have hx44_4 : zm_V X Y_X11_isPacking E (zm_Q X E Y_X11_isPacking.2.2.2.1.cells Y_X11_isPacking.2.2.2.1.slots (zm_w sv) zm_ei) 0 0 false (zm_w sv) 44 [] [] M (some 0) (fun r => some (r, M)) := by
    refine zm_iconst 45 rfl dX11_isPacking_44 zi_0 ?_
    exact zm_zret dX11_isPacking_45 rfl rfl (Nat.le_refl _) (Nat.le_refl _) rfl
  have hx59_4 : zm_V X Y_X11_isPacking E (zm_Q X E Y_X11_isPacking.2.2.2.1.cells Y_X11_isPacking.2.2.2.1.slots (zm_w sv) zm_ei) 0 0 false (zm_w sv) 59 [] [] M (some 1) (fun r => some (r, M)) := by
    refine zm_iconst 60 rfl dX11_isPacking_59 zi_1 ?_
    exact zm_zret dX11_isPacking_60 rfl rfl (Nat.le_refl _) (Nat.le_refl _) rfl
  refine zm_loc [2, 3, 1, 0] rfl (zm_lpp (σ := (Int32 × Int32)) (ε := (Unit ⊕ Unit)) (step := fun s => f_X11_isPacking_l4 a1 M s.1 s.2) (fun s => [(0, .ref (E.2.1 + 52)), (1, .int a1), (2, .int s.1), (3, .int s.2)]) (fun _ => M) (fun D4 f4 hf4a hf4b hD4 s => ?_) (0, 0))
  obtain ⟨l4_2, l4_3⟩ := s
  show zm_V X Y_X11_isPacking E (zm_Q X E Y_X11_isPacking.2.2.2.1.cells Y_X11_isPacking.2.2.2.1.slots (zm_w sv) zm_ei) 0 0 false (zm_w sv) 4 [(0, .ref (E.2.1 + 52)), (1, .int a1), (2, .int l4_2), (3, .int l4_3)] [] M (f_X11_isPacking_l4 a1 M l4_2 l4_3) f4
  unfold f_X11_isPacking_l4
  refine zm_iload_n 5 rfl dX11_isPacking_4 rfl 3 rfl ?_
  refine zm_aload_n 6 rfl dX11_isPacking_5 rfl 0 rfl ?_
  refine zm_getR (a := 66) 9 rfl dX11_isPacking_6 fl_X11_58 rfl (zm_L (sv := sv) rfl) rfl (by decide) ?_
  refine zm_aload_n 10 rfl dX11_isPacking_9 rfl 0 rfl ?_
  refine zm_getI 13 rfl dX11_isPacking_10 fl_X11_251 rfl (zm_L (sv := sv) rfl) ?_
  refine zm_iald 14 rfl dX11_isPacking_13 rfl (zm_L (sv := sv) rfl) ?_
  refine zm_icmp_ge 59 17 (by decide) rfl dX11_isPacking_14 ?_ ?_
  · exact zm_loc [] rfl (zm_go (hf4b _) (zm_unb (hx59_4)))
  · refine zm_aload_n 18 rfl dX11_isPacking_17 rfl 0 rfl ?_
    refine zm_iload_n 19 rfl dX11_isPacking_18 rfl 1 rfl ?_
    refine zm_iload_n 20 rfl dX11_isPacking_19 rfl 3 rfl ?_
    refine zm_cV2ir 23 rfl dX11_isPacking_20 ml_X11_477 rfl (zm_L (sv := sv) rfl) rfl (Nat.le_of_ble_eq_true rfl) ⟨Nat.le_of_ble_eq_true rfl, Nat.le_of_ble_eq_true rfl⟩ rfl rfl ⟨Nat.le_refl _, Nat.le_refl _⟩ rfl (fun _ h => k_X11_workIn E sv a1 l4_3 M h) (fun r20 => ?_)
    refine zm_istore (lv' := [(4, .int r20), (0, .ref (E.2.1 + 52)), (1, .int a1), (2, .int l4_2), (3, .int l4_3)]) 25 rfl dX11_isPacking_23 (by decide) rfl ?_
    refine zm_aload_n 26 rfl dX11_isPacking_25 rfl 1 rfl ?_
    refine zm_iload 28 rfl dX11_isPacking_26 0 rfl ?_
    refine zm_cV1ir 31 rfl dX11_isPacking_28 ml_X11_398 rfl (zm_L (sv := sv) rfl) rfl (Nat.le_of_ble_eq_true rfl) ⟨Nat.le_of_ble_eq_true rfl, Nat.le_of_ble_eq_true rfl⟩ rfl rfl ⟨Nat.le_refl _, Nat.le_refl _⟩ rfl (fun _ h => k_X11_isWork E sv r20 M h) (fun r28 => ?_)
    refine zm_if_eq 44 34 (by decide) rfl dX11_isPacking_31 ?_ ?_
    · exact zm_loc [] rfl (zm_go (hf4b _) (zm_unb (hx44_4)))
    · refine zm_iload_n 35 rfl dX11_isPacking_34 rfl 3 rfl ?_
      refine zm_iload 37 rfl dX11_isPacking_35 0 rfl ?_
      refine zm_ishr 38 rfl dX11_isPacking_37 ?_
      refine zm_iconst 39 rfl dX11_isPacking_38 zi_1 ?_
      refine zm_iand 40 rfl dX11_isPacking_39 ?_
      refine zm_iconst 41 rfl dX11_isPacking_40 zi_1 ?_
      refine zm_icmp_ne 46 44 (by decide) rfl dX11_isPacking_41 ?_ ?_
      · exact zm_loc [] rfl (zm_go (hf4b _) (zm_unb (hx44_4)))
      · refine zm_iload_n 47 rfl dX11_isPacking_46 rfl 3 rfl ?_
        refine zm_iconst 48 rfl dX11_isPacking_47 zi_1 ?_
        refine zm_iload 50 rfl dX11_isPacking_48 0 rfl ?_
        refine zm_ishl 51 rfl dX11_isPacking_50 ?_
        refine zm_ior 52 rfl dX11_isPacking_51 ?_
        refine zm_nmi (fun x52 _ => ?_)
        refine zm_istore_n (lv' := [(2, .int x52), (4, .int r20), (0, .ref (E.2.1 + 52)), (1, .int a1), (3, .int l4_3)]) 53 rfl dX11_isPacking_52 rfl (by decide) rfl ?_
        refine zm_iinc (lv' := fun z => [(3, .int z), (2, .int x52), (4, .int r20), (0, .ref (E.2.1 + 52)), (1, .int a1)]) 56 rfl dX11_isPacking_53 zi_1 4 rfl (by decide) (fun _ => rfl) (fun x53 _ => ?_)
        refine zm_goto 4 (by decide) dX11_isPacking_56 ?_
        exact zm_loc [3, 4, 1, 0] rfl (zm_go (hf4a _) (hD4 (x52, x53)))
abbrev Y_X11_wrongBy : zm_Y := (cX11_wrongBy, 7, RX11, { frames := 2, cells := 0, slots := 0, locals := 44 }, (some .int), false, "wrongBy")
noncomputable def f_X11_wrongBy_b105_5 (l5_4 : Int32) (b105_3 : Int32) : Option ((Int32 × Int32) ⊕ Int32) :=
 zm_v (l5_4 + 1) <| fun x105 => some (.inl (b105_3, x105))
noncomputable def f_X11_wrongBy_b88_5 (M : zm_Mem) (l5_3 : Int32) (l5_4 : Int32) (b88_s0 : Int32) : Option ((Int32 × Int32) ⊕ Int32) :=
 zm_ck (zm_in l5_4 20) <| if b88_s0 = (M.1 100 l5_4.toNatClampNeg) then (f_X11_wrongBy_b105_5 l5_4 l5_3) else (zm_v (l5_3 + 1) <| fun x102 => f_X11_wrongBy_b105_5 l5_4 x102)
noncomputable def f_X11_wrongBy_l5 (a1 : Int32) (a2 : Int32) (M : zm_Mem) (l5_3 : Int32) (l5_4 : Int32) : Option ((Int32 × Int32) ⊕ Int32) :=
 if a2 ≤ l5_4 then (some (.inr l5_3)) else (zm_ck (zm_in l5_4 20) <| zm_b1 (f_X11_workIn a1 (M.1 98 l5_4.toNatClampNeg) M) <| fun r20 => zm_ck (zm_in l5_4 20) <| if (M.1 99 l5_4.toNatClampNeg) = 0 then (zm_ck (zm_in ((6 * (M.1 52 18)) + r20) 12) <| f_X11_wrongBy_b88_5 M l5_3 l5_4 (M.1 69 ((6 * (M.1 52 18)) + r20).toNatClampNeg)) else (zm_ck (zm_in l5_4 20) <| if (M.1 99 l5_4.toNatClampNeg) = (1 : Int32) then (zm_ck (zm_in ((6 * (M.1 52 18)) + r20) 12) <| f_X11_wrongBy_b88_5 M l5_3 l5_4 (M.1 70 ((6 * (M.1 52 18)) + r20).toNatClampNeg)) else (zm_b1 (f_X11_ownerNow r20 M) <| fun r85 => f_X11_wrongBy_b88_5 M l5_3 l5_4 r85)))
noncomputable def f_X11_wrongBy (a1 : Int32) (a2 : Int32) (M : zm_Mem) : Option Int32 :=
  (zm_lp (fun s => f_X11_wrongBy_l5 a1 a2 M s.1 s.2) (0, 0)).bind (fun e111 => some e111)
set_option maxRecDepth 20000 in
set_option maxHeartbeats 4000000 in
theorem k_X11_wrongBy (E : zm_E) (sv : Nat) (a1 : Int32) (a2 : Int32) (M : zm_Mem) {r : Int32} (h : f_X11_wrongBy a1 a2 M = some r) : zm_Ct E (zm_w sv) (zm_w sv) yX11_wrongBy Y_X11_wrongBy [.ref (E.2.1 + 52), .int a1, .int a2] M (some (.int r)) M := by
  refine zm_methr (emb := zm_ei) (d := f_X11_wrongBy a1 a2 M) (by decide) rfl rfl (Nat.le_of_ble_eq_true rfl) h (fun X => ?_)
  show zm_V X Y_X11_wrongBy E (zm_Q X E Y_X11_wrongBy.2.2.2.1.cells Y_X11_wrongBy.2.2.2.1.slots (zm_w sv) zm_ei) 0 0 false (zm_w sv) 0 [(0, .ref (E.2.1 + 52)), (1, .int a1), (2, .int a2)] [] M (f_X11_wrongBy a1 a2 M) (fun r => some (r, M))
  unfold f_X11_wrongBy
  refine zm_iconst 1 rfl dX11_wrongBy_0 zi_0 ?_
  refine zm_istore_n (lv' := [(3, .int 0), (0, .ref (E.2.1 + 52)), (1, .int a1), (2, .int a2)]) 2 rfl dX11_wrongBy_1 rfl (by decide) rfl ?_
  refine zm_iconst 3 rfl dX11_wrongBy_2 zi_0 ?_
  refine zm_istore (lv' := [(4, .int 0), (3, .int 0), (0, .ref (E.2.1 + 52)), (1, .int a1), (2, .int a2)]) 5 rfl dX11_wrongBy_3 (by decide) rfl ?_
  have hx111_5 : ∀ (e111_3 : Int32), zm_V X Y_X11_wrongBy E (zm_Q X E Y_X11_wrongBy.2.2.2.1.cells Y_X11_wrongBy.2.2.2.1.slots (zm_w sv) zm_ei) 0 0 false (zm_w sv) 111 [(3, .int e111_3)] [] M (some e111_3) (fun r => some (r, M)) := by
    intro e111_3
    refine zm_iload_n 112 rfl dX11_wrongBy_111 rfl 0 rfl ?_
    exact zm_iret dX11_wrongBy_112 rfl (Nat.le_refl _) (Nat.le_refl _) rfl
  refine zm_loc [2, 3, 4, 1, 0] rfl (zm_lpp (σ := (Int32 × Int32)) (ε := Int32) (step := fun s => f_X11_wrongBy_l5 a1 a2 M s.1 s.2) (fun s => [(0, .ref (E.2.1 + 52)), (1, .int a1), (2, .int a2), (3, .int s.1), (4, .int s.2)]) (fun _ => M) (fun D5 f5 hf5a hf5b hD5 s => ?_) (0, 0))
  obtain ⟨l5_3, l5_4⟩ := s
  show zm_V X Y_X11_wrongBy E (zm_Q X E Y_X11_wrongBy.2.2.2.1.cells Y_X11_wrongBy.2.2.2.1.slots (zm_w sv) zm_ei) 0 0 false (zm_w sv) 5 [(0, .ref (E.2.1 + 52)), (1, .int a1), (2, .int a2), (3, .int l5_3), (4, .int l5_4)] [] M (f_X11_wrongBy_l5 a1 a2 M l5_3 l5_4) f5
  unfold f_X11_wrongBy_l5
  refine zm_iload 7 rfl dX11_wrongBy_5 4 rfl ?_
  refine zm_iload_n 8 rfl dX11_wrongBy_7 rfl 2 rfl ?_
  refine zm_icmp_ge 111 11 (by decide) rfl dX11_wrongBy_8 ?_ ?_
  · exact zm_loc [3] rfl (zm_go (hf5b _) (zm_unb (hx111_5 l5_3)))
  · refine zm_aload_n 12 rfl dX11_wrongBy_11 rfl 0 rfl ?_
    refine zm_iload_n 13 rfl dX11_wrongBy_12 rfl 1 rfl ?_
    refine zm_aload_n 14 rfl dX11_wrongBy_13 rfl 0 rfl ?_
    refine zm_getR (a := 98) 17 rfl dX11_wrongBy_14 fl_X11_155 rfl (zm_L (sv := sv) rfl) rfl (by decide) ?_
    refine zm_iload 19 rfl dX11_wrongBy_17 4 rfl ?_
    refine zm_iald 20 rfl dX11_wrongBy_19 rfl (zm_L (sv := sv) rfl) ?_
    refine zm_cV2ir 23 rfl dX11_wrongBy_20 ml_X11_477 rfl (zm_L (sv := sv) rfl) rfl (Nat.le_of_ble_eq_true rfl) ⟨Nat.le_of_ble_eq_true rfl, Nat.le_of_ble_eq_true rfl⟩ rfl rfl ⟨Nat.le_refl _, Nat.le_refl _⟩ rfl (fun _ h => k_X11_workIn E sv a1 (M.1 98 l5_4.toNatClampNeg) M h) (fun r20 => ?_)
    refine zm_istore (lv' := [(5, .int r20), (0, .ref (E.2.1 + 52)), (1, .int a1), (2, .int a2), (3, .int l5_3), (4, .int l5_4)]) 25 rfl dX11_wrongBy_23 (by decide) rfl ?_
    refine zm_aload_n 26 rfl dX11_wrongBy_25 rfl 1 rfl ?_
    refine zm_getR (a := 99) 29 rfl dX11_wrongBy_26 fl_X11_158 rfl (zm_L (sv := sv) rfl) rfl (by decide) ?_
    refine zm_iload 31 rfl dX11_wrongBy_29 5 rfl ?_
    refine zm_iald 32 rfl dX11_wrongBy_31 rfl (zm_L (sv := sv) rfl) ?_
    have hb88_5 : ∀ (b88_s0 : Int32), zm_V X Y_X11_wrongBy E (zm_Q X E Y_X11_wrongBy.2.2.2.1.cells Y_X11_wrongBy.2.2.2.1.slots (zm_w sv) zm_ei) 0 0 false (zm_w sv) 88 [(0, .ref (E.2.1 + 52)), (1, .int a1), (2, .int a2), (3, .int l5_3), (4, .int l5_4)] [.int b88_s0] M (f_X11_wrongBy_b88_5 M l5_3 l5_4 b88_s0) f5 := by
      intro b88_s0
      unfold f_X11_wrongBy_b88_5
      refine zm_istore (lv' := [(6, .int b88_s0), (0, .ref (E.2.1 + 52)), (1, .int a1), (2, .int a2), (3, .int l5_3), (4, .int l5_4)]) 90 rfl dX11_wrongBy_88 (by decide) rfl ?_
      refine zm_iload 92 rfl dX11_wrongBy_90 0 rfl ?_
      refine zm_aload_n 93 rfl dX11_wrongBy_92 rfl 1 rfl ?_
      refine zm_getR (a := 100) 96 rfl dX11_wrongBy_93 fl_X11_161 rfl (zm_L (sv := sv) rfl) rfl (by decide) ?_
      refine zm_iload 98 rfl dX11_wrongBy_96 5 rfl ?_
      refine zm_iald 99 rfl dX11_wrongBy_98 rfl (zm_L (sv := sv) rfl) ?_
      have hb105_5 : ∀ (b105_3 : Int32), zm_V X Y_X11_wrongBy E (zm_Q X E Y_X11_wrongBy.2.2.2.1.cells Y_X11_wrongBy.2.2.2.1.slots (zm_w sv) zm_ei) 0 0 false (zm_w sv) 105 [(0, .ref (E.2.1 + 52)), (1, .int a1), (2, .int a2), (3, .int b105_3), (4, .int l5_4)] [] M (f_X11_wrongBy_b105_5 l5_4 b105_3) f5 := by
        intro b105_3
        unfold f_X11_wrongBy_b105_5
        refine zm_iinc (lv' := fun z => [(4, .int z), (0, .ref (E.2.1 + 52)), (1, .int a1), (2, .int a2), (3, .int b105_3)]) 108 rfl dX11_wrongBy_105 zi_1 4 rfl (by decide) (fun _ => rfl) (fun x105 _ => ?_)
        refine zm_goto 5 (by decide) dX11_wrongBy_108 ?_
        exact zm_loc [1, 2, 3, 4, 0] rfl (zm_go (hf5a _) (hD5 (b105_3, x105)))
      refine zm_icmp_eq 105 102 (by decide) rfl dX11_wrongBy_99 ?_ ?_
      · exact zm_loc [1, 2, 3, 4, 5] rfl (hb105_5 l5_3)
      · refine zm_iinc (lv' := fun z => [(3, .int z), (6, .int b88_s0), (0, .ref (E.2.1 + 52)), (1, .int a1), (2, .int a2), (4, .int l5_4)]) 105 rfl dX11_wrongBy_102 zi_1 4 rfl (by decide) (fun _ => rfl) (fun x102 _ => ?_)
        exact zm_loc [2, 3, 4, 0, 5] rfl (hb105_5 x102)
    refine zm_if_ne 53 35 (by decide) rfl dX11_wrongBy_32 ?_ ?_
    · refine zm_aload_n 36 rfl dX11_wrongBy_35 rfl 1 rfl ?_
      refine zm_getR (a := 69) 39 rfl dX11_wrongBy_36 fl_X11_67 rfl (zm_L (sv := sv) rfl) rfl (by decide) ?_
      refine zm_bipush 41 rfl dX11_wrongBy_39 zb_6 ?_
      refine zm_aload_n 42 rfl dX11_wrongBy_41 rfl 1 rfl ?_
      refine zm_getI 45 rfl dX11_wrongBy_42 fl_X11_251 rfl (zm_L (sv := sv) rfl) ?_
      refine zm_imul 46 rfl dX11_wrongBy_45 ?_
      refine zm_iload 48 rfl dX11_wrongBy_46 0 rfl ?_
      refine zm_iadd 49 rfl dX11_wrongBy_48 ?_
      refine zm_iald 50 rfl dX11_wrongBy_49 rfl (zm_L (sv := sv) rfl) ?_
      refine zm_goto 88 (by decide) dX11_wrongBy_50 ?_
      exact zm_loc [1, 2, 3, 4, 5] rfl (hb88_5 (M.1 69 ((6 * (M.1 52 18)) + r20).toNatClampNeg))
    · refine zm_aload_n 54 rfl dX11_wrongBy_53 rfl 1 rfl ?_
      refine zm_getR (a := 99) 57 rfl dX11_wrongBy_54 fl_X11_158 rfl (zm_L (sv := sv) rfl) rfl (by decide) ?_
      refine zm_iload 59 rfl dX11_wrongBy_57 5 rfl ?_
      refine zm_iald 60 rfl dX11_wrongBy_59 rfl (zm_L (sv := sv) rfl) ?_
      refine zm_iconst 61 rfl dX11_wrongBy_60 zi_1 ?_
      refine zm_icmp_ne 82 64 (by decide) rfl dX11_wrongBy_61 ?_ ?_
      · refine zm_aload_n 65 rfl dX11_wrongBy_64 rfl 1 rfl ?_
        refine zm_getR (a := 70) 68 rfl dX11_wrongBy_65 fl_X11_70 rfl (zm_L (sv := sv) rfl) rfl (by decide) ?_
        refine zm_bipush 70 rfl dX11_wrongBy_68 zb_6 ?_
        refine zm_aload_n 71 rfl dX11_wrongBy_70 rfl 1 rfl ?_
        refine zm_getI 74 rfl dX11_wrongBy_71 fl_X11_251 rfl (zm_L (sv := sv) rfl) ?_
        refine zm_imul 75 rfl dX11_wrongBy_74 ?_
        refine zm_iload 77 rfl dX11_wrongBy_75 0 rfl ?_
        refine zm_iadd 78 rfl dX11_wrongBy_77 ?_
        refine zm_iald 79 rfl dX11_wrongBy_78 rfl (zm_L (sv := sv) rfl) ?_
        refine zm_goto 88 (by decide) dX11_wrongBy_79 ?_
        exact zm_loc [1, 2, 3, 4, 5] rfl (hb88_5 (M.1 70 ((6 * (M.1 52 18)) + r20).toNatClampNeg))
      · refine zm_aload_n 83 rfl dX11_wrongBy_82 rfl 1 rfl ?_
        refine zm_iload 85 rfl dX11_wrongBy_83 0 rfl ?_
        refine zm_cV1ir 88 rfl dX11_wrongBy_85 ml_X11_343 rfl (zm_L (sv := sv) rfl) rfl (Nat.le_of_ble_eq_true rfl) ⟨Nat.le_of_ble_eq_true rfl, Nat.le_of_ble_eq_true rfl⟩ rfl rfl ⟨Nat.le_refl _, Nat.le_refl _⟩ rfl (fun _ h => k_X11_ownerNow E sv r20 M h) (fun r85 => ?_)
        exact zm_loc [1, 2, 3, 4, 5] rfl (hb88_5 r85)
abbrev Y_X11_waysWith : zm_Y := (cX11_waysWith, 5, RX11, { frames := 3, cells := 0, slots := 0, locals := 70 }, (some .int), false, "waysWith")
noncomputable def f_X11_waysWith_b45_5 (l5_4 : Int32) (b45_3 : Int32) : Option ((Int32 × Int32) ⊕ Int32) :=
 zm_v (l5_4 + 1) <| fun x45 => some (.inl (b45_3, x45))
noncomputable def f_X11_waysWith_l5 (a1 : Int32) (a2 : Int32) (M : zm_Mem) (l5_3 : Int32) (l5_4 : Int32) : Option ((Int32 × Int32) ⊕ Int32) :=
 zm_ck (zm_in (M.1 52 18) 2) <| zm_b1 (f_X11_sixes (M.1 66 (M.1 52 18).toNatClampNeg) M) <| fun r16 => if r16 ≤ l5_4 then (some (.inr l5_3)) else (zm_b1 (f_X11_isPacking l5_4 M) <| fun r25 => if r25 = 0 then (f_X11_waysWith_b45_5 l5_4 l5_3) else (zm_b1 (f_X11_wrongBy l5_4 a1 M) <| fun r35 => if r35 = a2 then (zm_v (l5_3 + 1) <| fun x42 => f_X11_waysWith_b45_5 l5_4 x42) else (f_X11_waysWith_b45_5 l5_4 l5_3)))
noncomputable def f_X11_waysWith (a1 : Int32) (a2 : Int32) (M : zm_Mem) : Option Int32 :=
  (zm_lp (fun s => f_X11_waysWith_l5 a1 a2 M s.1 s.2) (0, 0)).bind (fun e51 => some e51)
set_option maxRecDepth 20000 in
set_option maxHeartbeats 4000000 in
theorem k_X11_waysWith (E : zm_E) (sv : Nat) (a1 : Int32) (a2 : Int32) (M : zm_Mem) {r : Int32} (h : f_X11_waysWith a1 a2 M = some r) : zm_Ct E (zm_w sv) (zm_w sv) yX11_waysWith Y_X11_waysWith [.ref (E.2.1 + 52), .int a1, .int a2] M (some (.int r)) M := by
  refine zm_methr (emb := zm_ei) (d := f_X11_waysWith a1 a2 M) (by decide) rfl rfl (Nat.le_of_ble_eq_true rfl) h (fun X => ?_)
  show zm_V X Y_X11_waysWith E (zm_Q X E Y_X11_waysWith.2.2.2.1.cells Y_X11_waysWith.2.2.2.1.slots (zm_w sv) zm_ei) 0 0 false (zm_w sv) 0 [(0, .ref (E.2.1 + 52)), (1, .int a1), (2, .int a2)] [] M (f_X11_waysWith a1 a2 M) (fun r => some (r, M))
  unfold f_X11_waysWith
  refine zm_iconst 1 rfl dX11_waysWith_0 zi_0 ?_
  refine zm_istore_n (lv' := [(3, .int 0), (0, .ref (E.2.1 + 52)), (1, .int a1), (2, .int a2)]) 2 rfl dX11_waysWith_1 rfl (by decide) rfl ?_
  refine zm_iconst 3 rfl dX11_waysWith_2 zi_0 ?_
  refine zm_istore (lv' := [(4, .int 0), (3, .int 0), (0, .ref (E.2.1 + 52)), (1, .int a1), (2, .int a2)]) 5 rfl dX11_waysWith_3 (by decide) rfl ?_
  have hx51_5 : ∀ (e51_3 : Int32), zm_V X Y_X11_waysWith E (zm_Q X E Y_X11_waysWith.2.2.2.1.cells Y_X11_waysWith.2.2.2.1.slots (zm_w sv) zm_ei) 0 0 false (zm_w sv) 51 [(3, .int e51_3)] [] M (some e51_3) (fun r => some (r, M)) := by
    intro e51_3
    refine zm_iload_n 52 rfl dX11_waysWith_51 rfl 0 rfl ?_
    exact zm_iret dX11_waysWith_52 rfl (Nat.le_refl _) (Nat.le_refl _) rfl
  refine zm_loc [2, 3, 4, 1, 0] rfl (zm_lpp (σ := (Int32 × Int32)) (ε := Int32) (step := fun s => f_X11_waysWith_l5 a1 a2 M s.1 s.2) (fun s => [(0, .ref (E.2.1 + 52)), (1, .int a1), (2, .int a2), (3, .int s.1), (4, .int s.2)]) (fun _ => M) (fun D5 f5 hf5a hf5b hD5 s => ?_) (0, 0))
  obtain ⟨l5_3, l5_4⟩ := s
  show zm_V X Y_X11_waysWith E (zm_Q X E Y_X11_waysWith.2.2.2.1.cells Y_X11_waysWith.2.2.2.1.slots (zm_w sv) zm_ei) 0 0 false (zm_w sv) 5 [(0, .ref (E.2.1 + 52)), (1, .int a1), (2, .int a2), (3, .int l5_3), (4, .int l5_4)] [] M (f_X11_waysWith_l5 a1 a2 M l5_3 l5_4) f5
  unfold f_X11_waysWith_l5
  refine zm_iload 7 rfl dX11_waysWith_5 4 rfl ?_
  refine zm_aload_n 8 rfl dX11_waysWith_7 rfl 0 rfl ?_
  refine zm_getR (a := 66) 11 rfl dX11_waysWith_8 fl_X11_58 rfl (zm_L (sv := sv) rfl) rfl (by decide) ?_
  refine zm_aload_n 12 rfl dX11_waysWith_11 rfl 0 rfl ?_
  refine zm_getI 15 rfl dX11_waysWith_12 fl_X11_251 rfl (zm_L (sv := sv) rfl) ?_
  refine zm_iald 16 rfl dX11_waysWith_15 rfl (zm_L (sv := sv) rfl) ?_
  refine zm_cS1ir 19 rfl dX11_waysWith_16 ml_X11_474 (Nat.le_of_ble_eq_true rfl) ⟨Nat.le_of_ble_eq_true rfl, Nat.le_of_ble_eq_true rfl⟩ rfl rfl ⟨Nat.le_refl _, Nat.le_refl _⟩ rfl (fun _ h => k_X11_sixes E (zm_w sv) (M.1 66 (M.1 52 18).toNatClampNeg) M h) (fun r16 => ?_)
  refine zm_icmp_ge 51 22 (by decide) rfl dX11_waysWith_19 ?_ ?_
  · exact zm_loc [3] rfl (zm_go (hf5b _) (zm_unb (hx51_5 l5_3)))
  · refine zm_aload_n 23 rfl dX11_waysWith_22 rfl 0 rfl ?_
    refine zm_iload 25 rfl dX11_waysWith_23 4 rfl ?_
    refine zm_cV1ir 28 rfl dX11_waysWith_25 ml_X11_480 rfl (zm_L (sv := sv) rfl) rfl (Nat.le_of_ble_eq_true rfl) ⟨Nat.le_of_ble_eq_true rfl, Nat.le_of_ble_eq_true rfl⟩ rfl rfl ⟨Nat.le_refl _, Nat.le_refl _⟩ rfl (fun _ h => k_X11_isPacking E sv l5_4 M h) (fun r25 => ?_)
    have hb45_5 : ∀ (b45_3 : Int32), zm_V X Y_X11_waysWith E (zm_Q X E Y_X11_waysWith.2.2.2.1.cells Y_X11_waysWith.2.2.2.1.slots (zm_w sv) zm_ei) 0 0 false (zm_w sv) 45 [(0, .ref (E.2.1 + 52)), (1, .int a1), (2, .int a2), (3, .int b45_3), (4, .int l5_4)] [] M (f_X11_waysWith_b45_5 l5_4 b45_3) f5 := by
      intro b45_3
      unfold f_X11_waysWith_b45_5
      refine zm_iinc (lv' := fun z => [(4, .int z), (0, .ref (E.2.1 + 52)), (1, .int a1), (2, .int a2), (3, .int b45_3)]) 48 rfl dX11_waysWith_45 zi_1 4 rfl (by decide) (fun _ => rfl) (fun x45 _ => ?_)
      refine zm_goto 5 (by decide) dX11_waysWith_48 ?_
      exact zm_loc [1, 2, 3, 4, 0] rfl (zm_go (hf5a _) (hD5 (b45_3, x45)))
    refine zm_if_eq 45 31 (by decide) rfl dX11_waysWith_28 ?_ ?_
    · exact zm_loc [0, 1, 2, 3, 4] rfl (hb45_5 l5_3)
    · refine zm_aload_n 32 rfl dX11_waysWith_31 rfl 0 rfl ?_
      refine zm_iload 34 rfl dX11_waysWith_32 4 rfl ?_
      refine zm_iload_n 35 rfl dX11_waysWith_34 rfl 1 rfl ?_
      refine zm_cV2ir 38 rfl dX11_waysWith_35 ml_X11_483 rfl (zm_L (sv := sv) rfl) rfl (Nat.le_of_ble_eq_true rfl) ⟨Nat.le_of_ble_eq_true rfl, Nat.le_of_ble_eq_true rfl⟩ rfl rfl ⟨Nat.le_refl _, Nat.le_refl _⟩ rfl (fun _ h => k_X11_wrongBy E sv l5_4 a1 M h) (fun r35 => ?_)
      refine zm_iload_n 39 rfl dX11_waysWith_38 rfl 2 rfl ?_
      refine zm_icmp_ne 45 42 (by decide) rfl dX11_waysWith_39 ?_ ?_
      · refine zm_iinc (lv' := fun z => [(3, .int z), (0, .ref (E.2.1 + 52)), (1, .int a1), (2, .int a2), (4, .int l5_4)]) 45 rfl dX11_waysWith_42 zi_1 3 rfl (by decide) (fun _ => rfl) (fun x42 _ => ?_)
        exact zm_loc [1, 2, 3, 0, 4] rfl (hb45_5 x42)
      · exact zm_loc [0, 1, 2, 3, 4] rfl (hb45_5 l5_3)
abbrev Y_X11_leastOf : zm_Y := (cX11_leastOf, 4, RX11, { frames := 3, cells := 0, slots := 0, locals := 70 }, (some .int), false, "leastOf")
noncomputable def f_X11_leastOf_b49_4 (l4_3 : Int32) (b49_2 : Int32) : Option ((Int32 × Int32) ⊕ Int32) :=
 zm_v (l4_3 + 1) <| fun x49 => some (.inl (b49_2, x49))
noncomputable def f_X11_leastOf_b42_4 (a1 : Int32) (M : zm_Mem) (l4_3 : Int32) : Option ((Int32 × Int32) ⊕ Int32) :=
 zm_b1 (f_X11_wrongBy l4_3 a1 M) <| fun r45 => f_X11_leastOf_b49_4 l4_3 r45
noncomputable def f_X11_leastOf_l4 (a1 : Int32) (M : zm_Mem) (l4_2 : Int32) (l4_3 : Int32) : Option ((Int32 × Int32) ⊕ Int32) :=
 zm_ck (zm_in (M.1 52 18) 2) <| zm_b1 (f_X11_sixes (M.1 66 (M.1 52 18).toNatClampNeg) M) <| fun r14 => if r14 ≤ l4_3 then (some (.inr l4_2)) else (zm_b1 (f_X11_isPacking l4_3 M) <| fun r22 => if r22 = 0 then (f_X11_leastOf_b49_4 l4_3 l4_2) else (if l4_2 < 0 then (f_X11_leastOf_b42_4 a1 M l4_3) else (zm_b1 (f_X11_wrongBy l4_3 a1 M) <| fun r35 => if l4_2 ≤ r35 then (f_X11_leastOf_b49_4 l4_3 l4_2) else (f_X11_leastOf_b42_4 a1 M l4_3))))
noncomputable def f_X11_leastOf (a1 : Int32) (M : zm_Mem) : Option Int32 :=
  (zm_lp (fun s => f_X11_leastOf_l4 a1 M s.1 s.2) ((-1), 0)).bind (fun e55 => some e55)
set_option maxRecDepth 20000 in
set_option maxHeartbeats 4000000 in
theorem k_X11_leastOf (E : zm_E) (sv : Nat) (a1 : Int32) (M : zm_Mem) {r : Int32} (h : f_X11_leastOf a1 M = some r) : zm_Ct E (zm_w sv) (zm_w sv) yX11_leastOf Y_X11_leastOf [.ref (E.2.1 + 52), .int a1] M (some (.int r)) M := by
  refine zm_methr (emb := zm_ei) (d := f_X11_leastOf a1 M) (by decide) rfl rfl (Nat.le_of_ble_eq_true rfl) h (fun X => ?_)
  show zm_V X Y_X11_leastOf E (zm_Q X E Y_X11_leastOf.2.2.2.1.cells Y_X11_leastOf.2.2.2.1.slots (zm_w sv) zm_ei) 0 0 false (zm_w sv) 0 [(0, .ref (E.2.1 + 52)), (1, .int a1)] [] M (f_X11_leastOf a1 M) (fun r => some (r, M))
  unfold f_X11_leastOf
  refine zm_iconst 1 rfl dX11_leastOf_0 zi_m1 ?_
  refine zm_istore_n (lv' := [(2, .int (-1)), (0, .ref (E.2.1 + 52)), (1, .int a1)]) 2 rfl dX11_leastOf_1 rfl (by decide) rfl ?_
  refine zm_iconst 3 rfl dX11_leastOf_2 zi_0 ?_
  refine zm_istore_n (lv' := [(3, .int 0), (2, .int (-1)), (0, .ref (E.2.1 + 52)), (1, .int a1)]) 4 rfl dX11_leastOf_3 rfl (by decide) rfl ?_
  have hx55_4 : ∀ (e55_2 : Int32), zm_V X Y_X11_leastOf E (zm_Q X E Y_X11_leastOf.2.2.2.1.cells Y_X11_leastOf.2.2.2.1.slots (zm_w sv) zm_ei) 0 0 false (zm_w sv) 55 [(2, .int e55_2)] [] M (some e55_2) (fun r => some (r, M)) := by
    intro e55_2
    refine zm_iload_n 56 rfl dX11_leastOf_55 rfl 0 rfl ?_
    exact zm_iret dX11_leastOf_56 rfl (Nat.le_refl _) (Nat.le_refl _) rfl
  refine zm_loc [2, 3, 1, 0] rfl (zm_lpp (σ := (Int32 × Int32)) (ε := Int32) (step := fun s => f_X11_leastOf_l4 a1 M s.1 s.2) (fun s => [(0, .ref (E.2.1 + 52)), (1, .int a1), (2, .int s.1), (3, .int s.2)]) (fun _ => M) (fun D4 f4 hf4a hf4b hD4 s => ?_) ((-1), 0))
  obtain ⟨l4_2, l4_3⟩ := s
  show zm_V X Y_X11_leastOf E (zm_Q X E Y_X11_leastOf.2.2.2.1.cells Y_X11_leastOf.2.2.2.1.slots (zm_w sv) zm_ei) 0 0 false (zm_w sv) 4 [(0, .ref (E.2.1 + 52)), (1, .int a1), (2, .int l4_2), (3, .int l4_3)] [] M (f_X11_leastOf_l4 a1 M l4_2 l4_3) f4
  unfold f_X11_leastOf_l4
  refine zm_iload_n 5 rfl dX11_leastOf_4 rfl 3 rfl ?_
  refine zm_aload_n 6 rfl dX11_leastOf_5 rfl 0 rfl ?_
  refine zm_getR (a := 66) 9 rfl dX11_leastOf_6 fl_X11_58 rfl (zm_L (sv := sv) rfl) rfl (by decide) ?_
  refine zm_aload_n 10 rfl dX11_leastOf_9 rfl 0 rfl ?_
  refine zm_getI 13 rfl dX11_leastOf_10 fl_X11_251 rfl (zm_L (sv := sv) rfl) ?_
  refine zm_iald 14 rfl dX11_leastOf_13 rfl (zm_L (sv := sv) rfl) ?_
  refine zm_cS1ir 17 rfl dX11_leastOf_14 ml_X11_474 (Nat.le_of_ble_eq_true rfl) ⟨Nat.le_of_ble_eq_true rfl, Nat.le_of_ble_eq_true rfl⟩ rfl rfl ⟨Nat.le_refl _, Nat.le_refl _⟩ rfl (fun _ h => k_X11_sixes E (zm_w sv) (M.1 66 (M.1 52 18).toNatClampNeg) M h) (fun r14 => ?_)
  refine zm_icmp_ge 55 20 (by decide) rfl dX11_leastOf_17 ?_ ?_
  · exact zm_loc [2] rfl (zm_go (hf4b _) (zm_unb (hx55_4 l4_2)))
  · refine zm_aload_n 21 rfl dX11_leastOf_20 rfl 0 rfl ?_
    refine zm_iload_n 22 rfl dX11_leastOf_21 rfl 3 rfl ?_
    refine zm_cV1ir 25 rfl dX11_leastOf_22 ml_X11_480 rfl (zm_L (sv := sv) rfl) rfl (Nat.le_of_ble_eq_true rfl) ⟨Nat.le_of_ble_eq_true rfl, Nat.le_of_ble_eq_true rfl⟩ rfl rfl ⟨Nat.le_refl _, Nat.le_refl _⟩ rfl (fun _ h => k_X11_isPacking E sv l4_3 M h) (fun r22 => ?_)
    have hb49_4 : ∀ (b49_2 : Int32), zm_V X Y_X11_leastOf E (zm_Q X E Y_X11_leastOf.2.2.2.1.cells Y_X11_leastOf.2.2.2.1.slots (zm_w sv) zm_ei) 0 0 false (zm_w sv) 49 [(0, .ref (E.2.1 + 52)), (1, .int a1), (2, .int b49_2), (3, .int l4_3)] [] M (f_X11_leastOf_b49_4 l4_3 b49_2) f4 := by
      intro b49_2
      unfold f_X11_leastOf_b49_4
      refine zm_iinc (lv' := fun z => [(3, .int z), (0, .ref (E.2.1 + 52)), (1, .int a1), (2, .int b49_2)]) 52 rfl dX11_leastOf_49 zi_1 3 rfl (by decide) (fun _ => rfl) (fun x49 _ => ?_)
      refine zm_goto 4 (by decide) dX11_leastOf_52 ?_
      exact zm_loc [1, 2, 3, 0] rfl (zm_go (hf4a _) (hD4 (b49_2, x49)))
    refine zm_if_eq 49 28 (by decide) rfl dX11_leastOf_25 ?_ ?_
    · exact zm_loc [0, 1, 2, 3] rfl (hb49_4 l4_2)
    · refine zm_iload_n 29 rfl dX11_leastOf_28 rfl 2 rfl ?_
      have hb42_4 : zm_V X Y_X11_leastOf E (zm_Q X E Y_X11_leastOf.2.2.2.1.cells Y_X11_leastOf.2.2.2.1.slots (zm_w sv) zm_ei) 0 0 false (zm_w sv) 42 [(0, .ref (E.2.1 + 52)), (1, .int a1), (3, .int l4_3)] [] M (f_X11_leastOf_b42_4 a1 M l4_3) f4 := by
        unfold f_X11_leastOf_b42_4
        refine zm_aload_n 43 rfl dX11_leastOf_42 rfl 0 rfl ?_
        refine zm_iload_n 44 rfl dX11_leastOf_43 rfl 2 rfl ?_
        refine zm_iload_n 45 rfl dX11_leastOf_44 rfl 1 rfl ?_
        refine zm_cV2ir 48 rfl dX11_leastOf_45 ml_X11_483 rfl (zm_L (sv := sv) rfl) rfl (Nat.le_of_ble_eq_true rfl) ⟨Nat.le_of_ble_eq_true rfl, Nat.le_of_ble_eq_true rfl⟩ rfl rfl ⟨Nat.le_refl _, Nat.le_refl _⟩ rfl (fun _ h => k_X11_wrongBy E sv l4_3 a1 M h) (fun r45 => ?_)
        refine zm_istore_n (lv' := [(2, .int r45), (0, .ref (E.2.1 + 52)), (1, .int a1), (3, .int l4_3)]) 49 rfl dX11_leastOf_48 rfl (by decide) rfl ?_
        exact zm_loc [1, 2, 0, 3] rfl (hb49_4 r45)
      refine zm_if_lt 42 32 (by decide) rfl dX11_leastOf_29 ?_ ?_
      · exact zm_loc [0, 1, 3] rfl (hb42_4)
      · refine zm_aload_n 33 rfl dX11_leastOf_32 rfl 0 rfl ?_
        refine zm_iload_n 34 rfl dX11_leastOf_33 rfl 3 rfl ?_
        refine zm_iload_n 35 rfl dX11_leastOf_34 rfl 1 rfl ?_
        refine zm_cV2ir 38 rfl dX11_leastOf_35 ml_X11_483 rfl (zm_L (sv := sv) rfl) rfl (Nat.le_of_ble_eq_true rfl) ⟨Nat.le_of_ble_eq_true rfl, Nat.le_of_ble_eq_true rfl⟩ rfl rfl ⟨Nat.le_refl _, Nat.le_refl _⟩ rfl (fun _ h => k_X11_wrongBy E sv l4_3 a1 M h) (fun r35 => ?_)
        refine zm_iload_n 39 rfl dX11_leastOf_38 rfl 2 rfl ?_
        refine zm_icmp_ge 49 42 (by decide) rfl dX11_leastOf_39 ?_ ?_
        · exact zm_loc [0, 1, 2, 3] rfl (hb49_4 l4_2)
        · exact zm_loc [0, 1, 3] rfl (hb42_4)
abbrev Y_X11_fits : zm_Y := (cX11_fits, 3, RX11, { frames := 4, cells := 0, slots := 0, locals := 94 }, (some .int), false, "fits")
noncomputable def f_X11_fits_b31  : Option Int32 :=
 some (-1)
noncomputable def f_X11_fits (a1 : Int32) (a2 : Int32) (M : zm_Mem) : Option Int32 :=
  zm_b1 (f_X11_in a1 0 (M.1 52 65) M) <| fun r6 => if r6 = 0 then (f_X11_fits_b31) else (zm_b1 (f_X11_in a2 0 20 M) <| fun r16 => if r16 = 0 then (f_X11_fits_b31) else (zm_b1 (f_X11_waysWith a1 a2 M) <| fun r25 => some r25))
set_option maxRecDepth 20000 in
set_option maxHeartbeats 4000000 in
theorem k_X11_fits (E : zm_E) (sv : Nat) (a1 : Int32) (a2 : Int32) (M : zm_Mem) {r : Int32} (h : f_X11_fits a1 a2 M = some r) : zm_Ct E (zm_w sv) (zm_w sv) yX11_fits Y_X11_fits [.ref (E.2.1 + 52), .int a1, .int a2] M (some (.int r)) M := by
  refine zm_methr (emb := zm_ei) (d := f_X11_fits a1 a2 M) (by decide) rfl rfl (Nat.le_of_ble_eq_true rfl) h (fun X => ?_)
  show zm_V X Y_X11_fits E (zm_Q X E Y_X11_fits.2.2.2.1.cells Y_X11_fits.2.2.2.1.slots (zm_w sv) zm_ei) 0 0 false (zm_w sv) 0 [(0, .ref (E.2.1 + 52)), (1, .int a1), (2, .int a2)] [] M (f_X11_fits a1 a2 M) (fun r => some (r, M))
  unfold f_X11_fits
  refine zm_iload_n 1 rfl dX11_fits_0 rfl 1 rfl ?_
  refine zm_iconst 2 rfl dX11_fits_1 zi_0 ?_
  refine zm_aload_n 3 rfl dX11_fits_2 rfl 0 rfl ?_
  refine zm_getI 6 rfl dX11_fits_3 fl_X11_272 rfl (zm_L (sv := sv) rfl) ?_
  refine zm_cS3ir 9 rfl dX11_fits_6 ml_X11_335 (Nat.le_of_ble_eq_true rfl) ⟨Nat.le_of_ble_eq_true rfl, Nat.le_of_ble_eq_true rfl⟩ rfl rfl ⟨Nat.le_refl _, Nat.le_refl _⟩ rfl (fun _ h => k_X11_in E (zm_w sv) a1 0 (M.1 52 65) M h) (fun r6 => ?_)
  have hb31 : zm_V X Y_X11_fits E (zm_Q X E Y_X11_fits.2.2.2.1.cells Y_X11_fits.2.2.2.1.slots (zm_w sv) zm_ei) 0 0 false (zm_w sv) 31 [] [] M (f_X11_fits_b31) (fun r => some (r, M)) := by
    unfold f_X11_fits_b31
    refine zm_iconst 32 rfl dX11_fits_31 zi_m1 ?_
    exact zm_iret dX11_fits_32 rfl (Nat.le_refl _) (Nat.le_refl _) rfl
  refine zm_if_eq 31 12 (by decide) rfl dX11_fits_9 ?_ ?_
  · exact zm_loc [] rfl (hb31)
  · refine zm_iload_n 13 rfl dX11_fits_12 rfl 2 rfl ?_
    refine zm_iconst 14 rfl dX11_fits_13 zi_0 ?_
    refine zm_bipush 16 rfl dX11_fits_14 zb_20 ?_
    refine zm_cS3ir 19 rfl dX11_fits_16 ml_X11_335 (Nat.le_of_ble_eq_true rfl) ⟨Nat.le_of_ble_eq_true rfl, Nat.le_of_ble_eq_true rfl⟩ rfl rfl ⟨Nat.le_refl _, Nat.le_refl _⟩ rfl (fun _ h => k_X11_in E (zm_w sv) a2 0 20 M h) (fun r16 => ?_)
    refine zm_if_eq 31 22 (by decide) rfl dX11_fits_19 ?_ ?_
    · exact zm_loc [] rfl (hb31)
    · refine zm_aload_n 23 rfl dX11_fits_22 rfl 0 rfl ?_
      refine zm_iload_n 24 rfl dX11_fits_23 rfl 1 rfl ?_
      refine zm_iload_n 25 rfl dX11_fits_24 rfl 2 rfl ?_
      refine zm_cV2ir 28 rfl dX11_fits_25 ml_X11_486 rfl (zm_L (sv := sv) rfl) rfl (Nat.le_of_ble_eq_true rfl) ⟨Nat.le_of_ble_eq_true rfl, Nat.le_of_ble_eq_true rfl⟩ rfl rfl ⟨Nat.le_refl _, Nat.le_refl _⟩ rfl (fun _ h => k_X11_waysWith E sv a1 a2 M h) (fun r25 => ?_)
      refine zm_goto 32 (by decide) dX11_fits_28 ?_
      exact zm_iret dX11_fits_32 rfl (Nat.le_refl _) (Nat.le_refl _) rfl
abbrev Y_X11_least : zm_Y := (cX11_least, 2, RX11, { frames := 4, cells := 0, slots := 0, locals := 93 }, (some .int), false, "least")
noncomputable def f_X11_least (a1 : Int32) (M : zm_Mem) : Option Int32 :=
  zm_b1 (f_X11_in a1 0 (M.1 52 65) M) <| fun r6 => if r6 = 0 then (some (-1)) else (zm_b1 (f_X11_leastOf a1 M) <| fun r14 => some r14)
set_option maxRecDepth 20000 in
set_option maxHeartbeats 4000000 in
theorem k_X11_least (E : zm_E) (sv : Nat) (a1 : Int32) (M : zm_Mem) {r : Int32} (h : f_X11_least a1 M = some r) : zm_Ct E (zm_w sv) (zm_w sv) yX11_least Y_X11_least [.ref (E.2.1 + 52), .int a1] M (some (.int r)) M := by
  refine zm_methr (emb := zm_ei) (d := f_X11_least a1 M) (by decide) rfl rfl (Nat.le_of_ble_eq_true rfl) h (fun X => ?_)
  show zm_V X Y_X11_least E (zm_Q X E Y_X11_least.2.2.2.1.cells Y_X11_least.2.2.2.1.slots (zm_w sv) zm_ei) 0 0 false (zm_w sv) 0 [(0, .ref (E.2.1 + 52)), (1, .int a1)] [] M (f_X11_least a1 M) (fun r => some (r, M))
  unfold f_X11_least
  refine zm_iload_n 1 rfl dX11_least_0 rfl 1 rfl ?_
  refine zm_iconst 2 rfl dX11_least_1 zi_0 ?_
  refine zm_aload_n 3 rfl dX11_least_2 rfl 0 rfl ?_
  refine zm_getI 6 rfl dX11_least_3 fl_X11_272 rfl (zm_L (sv := sv) rfl) ?_
  refine zm_cS3ir 9 rfl dX11_least_6 ml_X11_335 (Nat.le_of_ble_eq_true rfl) ⟨Nat.le_of_ble_eq_true rfl, Nat.le_of_ble_eq_true rfl⟩ rfl rfl ⟨Nat.le_refl _, Nat.le_refl _⟩ rfl (fun _ h => k_X11_in E (zm_w sv) a1 0 (M.1 52 65) M h) (fun r6 => ?_)
  refine zm_if_eq 20 12 (by decide) rfl dX11_least_9 ?_ ?_
  · refine zm_iconst 21 rfl dX11_least_20 zi_m1 ?_
    exact zm_iret dX11_least_21 rfl (Nat.le_refl _) (Nat.le_refl _) rfl
  · refine zm_aload_n 13 rfl dX11_least_12 rfl 0 rfl ?_
    refine zm_iload_n 14 rfl dX11_least_13 rfl 1 rfl ?_
    refine zm_cV1ir 17 rfl dX11_least_14 ml_X11_489 rfl (zm_L (sv := sv) rfl) rfl (Nat.le_of_ble_eq_true rfl) ⟨Nat.le_of_ble_eq_true rfl, Nat.le_of_ble_eq_true rfl⟩ rfl rfl ⟨Nat.le_refl _, Nat.le_refl _⟩ rfl (fun _ h => k_X11_leastOf E sv a1 M h) (fun r14 => ?_)
    refine zm_goto 21 (by decide) dX11_least_17 ?_
    exact zm_iret dX11_least_21 rfl (Nat.le_refl _) (Nat.le_refl _) rfl
abbrev Y_X11_sure : zm_Y := (cX11_sure, 7, RX11, { frames := 4, cells := 0, slots := 0, locals := 93 }, (some .int), false, "sure")
noncomputable def f_X11_sure_b102_34 (l34_5 : Int32) (b102_4 : Int32) : Option ((Int32 × Int32) ⊕ (Unit ⊕ Int32)) :=
 zm_v (l34_5 + 1) <| fun x102 => some (.inl (b102_4, x102))
noncomputable def f_X11_sure_b98_34 (l34_5 : Int32) (r78 : Int32) : Option ((Int32 × Int32) ⊕ (Unit ⊕ Int32)) :=
 f_X11_sure_b102_34 l34_5 r78
noncomputable def f_X11_sure_l34 (a1 : Int32) (a2 : Int32) (M : zm_Mem) (r24 : Int32) (l34_4 : Int32) (l34_5 : Int32) : Option ((Int32 × Int32) ⊕ (Unit ⊕ Int32)) :=
 zm_ck (zm_in (M.1 52 18) 2) <| zm_b1 (f_X11_sixes (M.1 66 (M.1 52 18).toNatClampNeg) M) <| fun r45 => if r45 ≤ l34_5 then (some (.inr (.inr l34_4))) else (zm_b1 (f_X11_isPacking l34_5 M) <| fun r54 => if r54 = 0 then (f_X11_sure_b102_34 l34_5 l34_4) else (zm_b1 (f_X11_wrongBy l34_5 a1 M) <| fun r64 => if r64 = r24 then (zm_b1 (f_X11_workIn l34_5 a2 M) <| fun r78 => if l34_4 < 0 then (f_X11_sure_b98_34 l34_5 r78) else (if l34_4 = r78 then (f_X11_sure_b98_34 l34_5 r78) else (some (.inr (.inl ()))))) else (f_X11_sure_b102_34 l34_5 l34_4)))
noncomputable def f_X11_sure (a1 : Int32) (a2 : Int32) (M : zm_Mem) : Option Int32 :=
  zm_b1 (f_X11_in a1 0 (M.1 52 65) M) <| fun r6 => if r6 = 0 then (some (-1)) else (zm_b1 (f_X11_isWork a2 M) <| fun r14 => if r14 = 0 then (some (-1)) else (zm_b1 (f_X11_leastOf a1 M) <| fun r24 => (zm_lp (fun s => f_X11_sure_l34 a1 a2 M r24 s.1 s.2) ((-1), 0)).bind (Sum.elim (fun _ => some (-2)) (fun e108 => some e108))))
set_option maxRecDepth 20000 in
set_option maxHeartbeats 4000000 in
theorem k_X11_sure (E : zm_E) (sv : Nat) (a1 : Int32) (a2 : Int32) (M : zm_Mem) {r : Int32} (h : f_X11_sure a1 a2 M = some r) : zm_Ct E (zm_w sv) (zm_w sv) yX11_sure Y_X11_sure [.ref (E.2.1 + 52), .int a1, .int a2] M (some (.int r)) M := by
  refine zm_methr (emb := zm_ei) (d := f_X11_sure a1 a2 M) (by decide) rfl rfl (Nat.le_of_ble_eq_true rfl) h (fun X => ?_)
  show zm_V X Y_X11_sure E (zm_Q X E Y_X11_sure.2.2.2.1.cells Y_X11_sure.2.2.2.1.slots (zm_w sv) zm_ei) 0 0 false (zm_w sv) 0 [(0, .ref (E.2.1 + 52)), (1, .int a1), (2, .int a2)] [] M (f_X11_sure a1 a2 M) (fun r => some (r, M))
  unfold f_X11_sure
  refine zm_iload_n 1 rfl dX11_sure_0 rfl 1 rfl ?_
  refine zm_iconst 2 rfl dX11_sure_1 zi_0 ?_
  refine zm_aload_n 3 rfl dX11_sure_2 rfl 0 rfl ?_
  refine zm_getI 6 rfl dX11_sure_3 fl_X11_272 rfl (zm_L (sv := sv) rfl) ?_
  refine zm_cS3ir 9 rfl dX11_sure_6 ml_X11_335 (Nat.le_of_ble_eq_true rfl) ⟨Nat.le_of_ble_eq_true rfl, Nat.le_of_ble_eq_true rfl⟩ rfl rfl ⟨Nat.le_refl _, Nat.le_refl _⟩ rfl (fun _ h => k_X11_in E (zm_w sv) a1 0 (M.1 52 65) M h) (fun r6 => ?_)
  refine zm_if_eq 20 12 (by decide) rfl dX11_sure_9 ?_ ?_
  · refine zm_iconst 21 rfl dX11_sure_20 zi_m1 ?_
    exact zm_iret dX11_sure_21 rfl (Nat.le_refl _) (Nat.le_refl _) rfl
  · refine zm_aload_n 13 rfl dX11_sure_12 rfl 0 rfl ?_
    refine zm_iload_n 14 rfl dX11_sure_13 rfl 2 rfl ?_
    refine zm_cV1ir 17 rfl dX11_sure_14 ml_X11_398 rfl (zm_L (sv := sv) rfl) rfl (Nat.le_of_ble_eq_true rfl) ⟨Nat.le_of_ble_eq_true rfl, Nat.le_of_ble_eq_true rfl⟩ rfl rfl ⟨Nat.le_refl _, Nat.le_refl _⟩ rfl (fun _ h => k_X11_isWork E sv a2 M h) (fun r14 => ?_)
    refine zm_if_ne 22 20 (by decide) rfl dX11_sure_17 ?_ ?_
    · refine zm_iconst 21 rfl dX11_sure_20 zi_m1 ?_
      exact zm_iret dX11_sure_21 rfl (Nat.le_refl _) (Nat.le_refl _) rfl
    · refine zm_aload_n 23 rfl dX11_sure_22 rfl 0 rfl ?_
      refine zm_iload_n 24 rfl dX11_sure_23 rfl 1 rfl ?_
      refine zm_cV1ir 27 rfl dX11_sure_24 ml_X11_489 rfl (zm_L (sv := sv) rfl) rfl (Nat.le_of_ble_eq_true rfl) ⟨Nat.le_of_ble_eq_true rfl, Nat.le_of_ble_eq_true rfl⟩ rfl rfl ⟨Nat.le_refl _, Nat.le_refl _⟩ rfl (fun _ h => k_X11_leastOf E sv a1 M h) (fun r24 => ?_)
      refine zm_istore_n (lv' := [(3, .int r24), (0, .ref (E.2.1 + 52)), (1, .int a1), (2, .int a2)]) 28 rfl dX11_sure_27 rfl (by decide) rfl ?_
      refine zm_iconst 29 rfl dX11_sure_28 zi_m1 ?_
      refine zm_istore (lv' := [(4, .int (-1)), (3, .int r24), (0, .ref (E.2.1 + 52)), (1, .int a1), (2, .int a2)]) 31 rfl dX11_sure_29 (by decide) rfl ?_
      refine zm_iconst 32 rfl dX11_sure_31 zi_0 ?_
      refine zm_istore (lv' := [(5, .int 0), (4, .int (-1)), (3, .int r24), (0, .ref (E.2.1 + 52)), (1, .int a1), (2, .int a2)]) 34 rfl dX11_sure_32 (by decide) rfl ?_
      have hx95_34 : zm_V X Y_X11_sure E (zm_Q X E Y_X11_sure.2.2.2.1.cells Y_X11_sure.2.2.2.1.slots (zm_w sv) zm_ei) 0 0 false (zm_w sv) 95 [] [] M (some (-2)) (fun r => some (r, M)) := by
        refine zm_bipush 97 rfl dX11_sure_95 zb_m2 ?_
        exact zm_iret dX11_sure_97 rfl (Nat.le_refl _) (Nat.le_refl _) rfl
      have hx108_34 : ∀ (e108_4 : Int32), zm_V X Y_X11_sure E (zm_Q X E Y_X11_sure.2.2.2.1.cells Y_X11_sure.2.2.2.1.slots (zm_w sv) zm_ei) 0 0 false (zm_w sv) 108 [(4, .int e108_4)] [] M (some e108_4) (fun r => some (r, M)) := by
        intro e108_4
        refine zm_iload 110 rfl dX11_sure_108 0 rfl ?_
        exact zm_iret dX11_sure_110 rfl (Nat.le_refl _) (Nat.le_refl _) rfl
      refine zm_loc [3, 4, 5, 2, 1, 0] rfl (zm_lpp (σ := (Int32 × Int32)) (ε := (Unit ⊕ Int32)) (step := fun s => f_X11_sure_l34 a1 a2 M r24 s.1 s.2) (fun s => [(0, .ref (E.2.1 + 52)), (1, .int a1), (2, .int a2), (3, .int r24), (4, .int s.1), (5, .int s.2)]) (fun _ => M) (fun D34 f34 hf34a hf34b hD34 s => ?_) ((-1), 0))
      obtain ⟨l34_4, l34_5⟩ := s
      show zm_V X Y_X11_sure E (zm_Q X E Y_X11_sure.2.2.2.1.cells Y_X11_sure.2.2.2.1.slots (zm_w sv) zm_ei) 0 0 false (zm_w sv) 34 [(0, .ref (E.2.1 + 52)), (1, .int a1), (2, .int a2), (3, .int r24), (4, .int l34_4), (5, .int l34_5)] [] M (f_X11_sure_l34 a1 a2 M r24 l34_4 l34_5) f34
      unfold f_X11_sure_l34
      refine zm_iload 36 rfl dX11_sure_34 5 rfl ?_
      refine zm_aload_n 37 rfl dX11_sure_36 rfl 0 rfl ?_
      refine zm_getR (a := 66) 40 rfl dX11_sure_37 fl_X11_58 rfl (zm_L (sv := sv) rfl) rfl (by decide) ?_
      refine zm_aload_n 41 rfl dX11_sure_40 rfl 0 rfl ?_
      refine zm_getI 44 rfl dX11_sure_41 fl_X11_251 rfl (zm_L (sv := sv) rfl) ?_
      refine zm_iald 45 rfl dX11_sure_44 rfl (zm_L (sv := sv) rfl) ?_
      refine zm_cS1ir 48 rfl dX11_sure_45 ml_X11_474 (Nat.le_of_ble_eq_true rfl) ⟨Nat.le_of_ble_eq_true rfl, Nat.le_of_ble_eq_true rfl⟩ rfl rfl ⟨Nat.le_refl _, Nat.le_refl _⟩ rfl (fun _ h => k_X11_sixes E (zm_w sv) (M.1 66 (M.1 52 18).toNatClampNeg) M h) (fun r45 => ?_)
      refine zm_icmp_ge 108 51 (by decide) rfl dX11_sure_48 ?_ ?_
      · exact zm_loc [4] rfl (zm_go (hf34b _) (zm_unb (hx108_34 l34_4)))
      · refine zm_aload_n 52 rfl dX11_sure_51 rfl 0 rfl ?_
        refine zm_iload 54 rfl dX11_sure_52 5 rfl ?_
        refine zm_cV1ir 57 rfl dX11_sure_54 ml_X11_480 rfl (zm_L (sv := sv) rfl) rfl (Nat.le_of_ble_eq_true rfl) ⟨Nat.le_of_ble_eq_true rfl, Nat.le_of_ble_eq_true rfl⟩ rfl rfl ⟨Nat.le_refl _, Nat.le_refl _⟩ rfl (fun _ h => k_X11_isPacking E sv l34_5 M h) (fun r54 => ?_)
        have hb102_34 : ∀ (b102_4 : Int32), zm_V X Y_X11_sure E (zm_Q X E Y_X11_sure.2.2.2.1.cells Y_X11_sure.2.2.2.1.slots (zm_w sv) zm_ei) 0 0 false (zm_w sv) 102 [(0, .ref (E.2.1 + 52)), (1, .int a1), (2, .int a2), (3, .int r24), (4, .int b102_4), (5, .int l34_5)] [] M (f_X11_sure_b102_34 l34_5 b102_4) f34 := by
          intro b102_4
          unfold f_X11_sure_b102_34
          refine zm_iinc (lv' := fun z => [(5, .int z), (0, .ref (E.2.1 + 52)), (1, .int a1), (2, .int a2), (3, .int r24), (4, .int b102_4)]) 105 rfl dX11_sure_102 zi_1 5 rfl (by decide) (fun _ => rfl) (fun x102 _ => ?_)
          refine zm_goto 34 (by decide) dX11_sure_105 ?_
          exact zm_loc [1, 2, 3, 4, 5, 0] rfl (zm_go (hf34a _) (hD34 (b102_4, x102)))
        refine zm_if_eq 102 60 (by decide) rfl dX11_sure_57 ?_ ?_
        · exact zm_loc [0, 1, 2, 3, 4, 5] rfl (hb102_34 l34_4)
        · refine zm_aload_n 61 rfl dX11_sure_60 rfl 0 rfl ?_
          refine zm_iload 63 rfl dX11_sure_61 5 rfl ?_
          refine zm_iload_n 64 rfl dX11_sure_63 rfl 1 rfl ?_
          refine zm_cV2ir 67 rfl dX11_sure_64 ml_X11_483 rfl (zm_L (sv := sv) rfl) rfl (Nat.le_of_ble_eq_true rfl) ⟨Nat.le_of_ble_eq_true rfl, Nat.le_of_ble_eq_true rfl⟩ rfl rfl ⟨Nat.le_refl _, Nat.le_refl _⟩ rfl (fun _ h => k_X11_wrongBy E sv l34_5 a1 M h) (fun r64 => ?_)
          refine zm_iload_n 68 rfl dX11_sure_67 rfl 3 rfl ?_
          refine zm_icmp_eq 74 71 (by decide) rfl dX11_sure_68 ?_ ?_
          · refine zm_aload_n 75 rfl dX11_sure_74 rfl 0 rfl ?_
            refine zm_iload 77 rfl dX11_sure_75 5 rfl ?_
            refine zm_iload_n 78 rfl dX11_sure_77 rfl 2 rfl ?_
            refine zm_cV2ir 81 rfl dX11_sure_78 ml_X11_477 rfl (zm_L (sv := sv) rfl) rfl (Nat.le_of_ble_eq_true rfl) ⟨Nat.le_of_ble_eq_true rfl, Nat.le_of_ble_eq_true rfl⟩ rfl rfl ⟨Nat.le_refl _, Nat.le_refl _⟩ rfl (fun _ h => k_X11_workIn E sv l34_5 a2 M h) (fun r78 => ?_)
            refine zm_istore (lv' := [(6, .int r78), (0, .ref (E.2.1 + 52)), (1, .int a1), (2, .int a2), (3, .int r24), (4, .int l34_4), (5, .int l34_5)]) 83 rfl dX11_sure_81 (by decide) rfl ?_
            refine zm_iload 85 rfl dX11_sure_83 5 rfl ?_
            have hb98_34 : zm_V X Y_X11_sure E (zm_Q X E Y_X11_sure.2.2.2.1.cells Y_X11_sure.2.2.2.1.slots (zm_w sv) zm_ei) 0 0 false (zm_w sv) 98 [(0, .ref (E.2.1 + 52)), (1, .int a1), (2, .int a2), (3, .int r24), (5, .int l34_5), (6, .int r78)] [] M (f_X11_sure_b98_34 l34_5 r78) f34 := by
              unfold f_X11_sure_b98_34
              refine zm_iload 100 rfl dX11_sure_98 5 rfl ?_
              refine zm_istore (lv' := [(4, .int r78), (0, .ref (E.2.1 + 52)), (1, .int a1), (2, .int a2), (3, .int r24), (5, .int l34_5), (6, .int r78)]) 102 rfl dX11_sure_100 (by decide) rfl ?_
              exact zm_loc [1, 2, 3, 4, 0, 5] rfl (hb102_34 r78)
            refine zm_if_lt 98 88 (by decide) rfl dX11_sure_85 ?_ ?_
            · exact zm_loc [1, 2, 3, 4, 6, 0] rfl (hb98_34)
            · refine zm_iload 90 rfl dX11_sure_88 5 rfl ?_
              refine zm_iload 92 rfl dX11_sure_90 0 rfl ?_
              refine zm_icmp_eq 98 95 (by decide) rfl dX11_sure_92 ?_ ?_
              · exact zm_loc [1, 2, 3, 4, 6, 0] rfl (hb98_34)
              · exact zm_loc [] rfl (zm_go (hf34b _) (zm_unb (hx95_34)))
          · refine zm_goto 102 (by decide) dX11_sure_71 ?_
            exact zm_loc [0, 1, 2, 3, 4, 5] rfl (hb102_34 l34_4)
abbrev Y_X11_hold : zm_Y := (cX11_hold, 3, RX11, { frames := 1, cells := 0, slots := 0, locals := 22 }, (some .boolean), false, "hold")
noncomputable def f_X11_hold_l20 (a1 : Int32) (l20_2 : Int32) (L20 : zm_Mem) : Option ((Int32 × zm_Mem) ⊕ zm_Mem) :=
 if (60 : Int32) ≤ l20_2 then (some (.inr L20)) else (zm_ck (zm_in l20_2 60) <| zm_ck (zm_in ((60 * a1) + l20_2) 180) <| zm_v (zm_sI L20 102 ((60 * a1) + l20_2).toNatClampNeg (L20.1 91 l20_2.toNatClampNeg)) <| fun M42 => zm_v (l20_2 + 1) <| fun x43 => some (.inl (x43, M42)))
noncomputable def f_X11_hold (a1 : Int32) (M : zm_Mem) : Option (Int32 × zm_Mem) :=
  zm_b1 (f_X11_in a1 0 2 M) <| fun r3 => if r3 = 0 then (some (0, M)) else (zm_ck (zm_in a1 3) <| zm_v (zm_sI M 101 a1.toNatClampNeg (vp_nar .boolean 1)) <| fun M17 => (zm_lp (fun s => f_X11_hold_l20 a1 s.1 s.2) (0, M17)).bind (fun e49 => some (1, e49)))
set_option maxRecDepth 20000 in
set_option maxHeartbeats 4000000 in
theorem k_X11_hold (E : zm_E) (sv : Nat) (a1 : Int32) (M : zm_Mem) {r : Int32} {M' : zm_Mem} (h : f_X11_hold a1 M = some (r, M')) : zm_Ct E (zm_w sv) (zm_w sv) yX11_hold Y_X11_hold [.ref (E.2.1 + 52), .int a1] M (some (.int r)) M' := by
  refine zm_meth (emb := zm_ei) (d := f_X11_hold a1 M) (by decide) rfl rfl (Nat.le_of_ble_eq_true rfl) h (fun X => ?_)
  show zm_V X Y_X11_hold E (zm_Q X E Y_X11_hold.2.2.2.1.cells Y_X11_hold.2.2.2.1.slots (zm_w sv) zm_ei) 0 0 false (zm_w sv) 0 [(0, .ref (E.2.1 + 52)), (1, .int a1)] [] M (f_X11_hold a1 M) some
  unfold f_X11_hold
  refine zm_iload_n 1 rfl dX11_hold_0 rfl 1 rfl ?_
  refine zm_iconst 2 rfl dX11_hold_1 zi_0 ?_
  refine zm_iconst 3 rfl dX11_hold_2 zi_2 ?_
  refine zm_cS3ir 6 rfl dX11_hold_3 ml_X11_335 (Nat.le_of_ble_eq_true rfl) ⟨Nat.le_of_ble_eq_true rfl, Nat.le_of_ble_eq_true rfl⟩ rfl rfl ⟨Nat.le_refl _, Nat.le_refl _⟩ rfl (fun _ h => k_X11_in E (zm_w sv) a1 0 2 M h) (fun r3 => ?_)
  refine zm_if_ne 11 9 (by decide) rfl dX11_hold_6 ?_ ?_
  · refine zm_iconst 10 rfl dX11_hold_9 zi_0 ?_
    exact zm_zret dX11_hold_10 rfl rfl (Nat.le_refl _) (Nat.le_refl _) rfl
  · refine zm_aload_n 12 rfl dX11_hold_11 rfl 0 rfl ?_
    refine zm_getR (a := 101) 15 rfl dX11_hold_12 fl_X11_164 rfl (zm_L (sv := sv) rfl) rfl (by decide) ?_
    refine zm_iload_n 16 rfl dX11_hold_15 rfl 1 rfl ?_
    refine zm_iconst 17 rfl dX11_hold_16 zi_1 ?_
    refine zm_zast 18 rfl dX11_hold_17 rfl (zm_L (sv := sv) rfl) (fun M17 _ => ?_)
    refine zm_iconst 19 rfl dX11_hold_18 zi_0 ?_
    refine zm_istore_n (lv' := [(2, .int 0), (0, .ref (E.2.1 + 52)), (1, .int a1)]) 20 rfl dX11_hold_19 rfl (by decide) rfl ?_
    have hx49_20 : ∀ (N49 : zm_Mem), zm_V X Y_X11_hold E (zm_Q X E Y_X11_hold.2.2.2.1.cells Y_X11_hold.2.2.2.1.slots (zm_w sv) zm_ei) 0 0 false (zm_w sv) 49 [] [] N49 (some (1, N49)) some := by
      intro N49
      refine zm_iconst 50 rfl dX11_hold_49 zi_1 ?_
      exact zm_zret dX11_hold_50 rfl rfl (Nat.le_refl _) (Nat.le_refl _) rfl
    refine zm_loc [1, 2, 0] rfl (zm_lpp (σ := (Int32 × zm_Mem)) (ε := zm_Mem) (step := fun s => f_X11_hold_l20 a1 s.1 s.2) (fun s => [(0, .ref (E.2.1 + 52)), (1, .int a1), (2, .int s.1)]) (fun s => s.2) (fun D20 f20 hf20a hf20b hD20 s => ?_) (0, M17))
    obtain ⟨l20_2, L20⟩ := s
    show zm_V X Y_X11_hold E (zm_Q X E Y_X11_hold.2.2.2.1.cells Y_X11_hold.2.2.2.1.slots (zm_w sv) zm_ei) 0 0 false (zm_w sv) 20 [(0, .ref (E.2.1 + 52)), (1, .int a1), (2, .int l20_2)] [] L20 (f_X11_hold_l20 a1 l20_2 L20) f20
    unfold f_X11_hold_l20
    refine zm_iload_n 21 rfl dX11_hold_20 rfl 2 rfl ?_
    refine zm_bipush 23 rfl dX11_hold_21 zb_60 ?_
    refine zm_icmp_ge 49 26 (by decide) rfl dX11_hold_23 ?_ ?_
    · exact zm_loc [] rfl (zm_go (hf20b _) (zm_unb (hx49_20 L20)))
    · refine zm_aload_n 27 rfl dX11_hold_26 rfl 0 rfl ?_
      refine zm_getR (a := 102) 30 rfl dX11_hold_27 fl_X11_167 rfl (zm_L (sv := sv) rfl) rfl (by decide) ?_
      refine zm_bipush 32 rfl dX11_hold_30 zb_60 ?_
      refine zm_iload_n 33 rfl dX11_hold_32 rfl 1 rfl ?_
      refine zm_imul 34 rfl dX11_hold_33 ?_
      refine zm_iload_n 35 rfl dX11_hold_34 rfl 2 rfl ?_
      refine zm_iadd 36 rfl dX11_hold_35 ?_
      refine zm_aload_n 37 rfl dX11_hold_36 rfl 0 rfl ?_
      refine zm_getR (a := 91) 40 rfl dX11_hold_37 fl_X11_134 rfl (zm_L (sv := sv) rfl) rfl (by decide) ?_
      refine zm_iload_n 41 rfl dX11_hold_40 rfl 2 rfl ?_
      refine zm_iald 42 rfl dX11_hold_41 rfl (zm_L (sv := sv) rfl) ?_
      refine zm_iast 43 rfl dX11_hold_42 rfl (zm_L (sv := sv) rfl) (fun M42 _ => ?_)
      refine zm_iinc (lv' := fun z => [(2, .int z), (0, .ref (E.2.1 + 52)), (1, .int a1)]) 46 rfl dX11_hold_43 zi_1 2 rfl (by decide) (fun _ => rfl) (fun x43 _ => ?_)
      refine zm_goto 20 (by decide) dX11_hold_46 ?_
      exact zm_loc [1, 2, 0] rfl (zm_go (hf20a _) (hD20 (x43, M42)))
abbrev Y_X11_restore : zm_Y := (cX11_restore, 3, RX11, { frames := 1, cells := 0, slots := 0, locals := 22 }, (some .boolean), false, "restore")
noncomputable def f_X11_restore_l22 (a1 : Int32) (l22_2 : Int32) (L22 : zm_Mem) : Option ((Int32 × zm_Mem) ⊕ zm_Mem) :=
 if (60 : Int32) ≤ l22_2 then (some (.inr L22)) else (zm_ck (zm_in ((60 * a1) + l22_2) 180) <| zm_ck (zm_in l22_2 60) <| zm_v (zm_sI L22 91 l22_2.toNatClampNeg (L22.1 102 ((60 * a1) + l22_2).toNatClampNeg)) <| fun M44 => zm_v (l22_2 + 1) <| fun x45 => some (.inl (x45, M44)))
noncomputable def f_X11_restore (a1 : Int32) (M : zm_Mem) : Option (Int32 × zm_Mem) :=
  zm_b1 (f_X11_in a1 0 2 M) <| fun r3 => if r3 = 0 then (some (0, M)) else (zm_ck (zm_in a1 3) <| if (M.1 101 a1.toNatClampNeg) = 0 then (some (0, M)) else ((zm_lp (fun s => f_X11_restore_l22 a1 s.1 s.2) (0, M)).bind (fun e51 => zm_v (zm_sI e51 52 59 0) <| fun M53 => some (1, M53))))
set_option maxRecDepth 20000 in
set_option maxHeartbeats 4000000 in
theorem k_X11_restore (E : zm_E) (sv : Nat) (a1 : Int32) (M : zm_Mem) {r : Int32} {M' : zm_Mem} (h : f_X11_restore a1 M = some (r, M')) : zm_Ct E (zm_w sv) (zm_w sv) yX11_restore Y_X11_restore [.ref (E.2.1 + 52), .int a1] M (some (.int r)) M' := by
  refine zm_meth (emb := zm_ei) (d := f_X11_restore a1 M) (by decide) rfl rfl (Nat.le_of_ble_eq_true rfl) h (fun X => ?_)
  show zm_V X Y_X11_restore E (zm_Q X E Y_X11_restore.2.2.2.1.cells Y_X11_restore.2.2.2.1.slots (zm_w sv) zm_ei) 0 0 false (zm_w sv) 0 [(0, .ref (E.2.1 + 52)), (1, .int a1)] [] M (f_X11_restore a1 M) some
  unfold f_X11_restore
  refine zm_iload_n 1 rfl dX11_restore_0 rfl 1 rfl ?_
  refine zm_iconst 2 rfl dX11_restore_1 zi_0 ?_
  refine zm_iconst 3 rfl dX11_restore_2 zi_2 ?_
  refine zm_cS3ir 6 rfl dX11_restore_3 ml_X11_335 (Nat.le_of_ble_eq_true rfl) ⟨Nat.le_of_ble_eq_true rfl, Nat.le_of_ble_eq_true rfl⟩ rfl rfl ⟨Nat.le_refl _, Nat.le_refl _⟩ rfl (fun _ h => k_X11_in E (zm_w sv) a1 0 2 M h) (fun r3 => ?_)
  refine zm_if_eq 18 9 (by decide) rfl dX11_restore_6 ?_ ?_
  · refine zm_iconst 19 rfl dX11_restore_18 zi_0 ?_
    exact zm_zret dX11_restore_19 rfl rfl (Nat.le_refl _) (Nat.le_refl _) rfl
  · refine zm_aload_n 10 rfl dX11_restore_9 rfl 0 rfl ?_
    refine zm_getR (a := 101) 13 rfl dX11_restore_10 fl_X11_164 rfl (zm_L (sv := sv) rfl) rfl (by decide) ?_
    refine zm_iload_n 14 rfl dX11_restore_13 rfl 1 rfl ?_
    refine zm_zald 15 rfl dX11_restore_14 rfl (zm_L (sv := sv) rfl) ?_
    refine zm_if_ne 20 18 (by decide) rfl dX11_restore_15 ?_ ?_
    · refine zm_iconst 19 rfl dX11_restore_18 zi_0 ?_
      exact zm_zret dX11_restore_19 rfl rfl (Nat.le_refl _) (Nat.le_refl _) rfl
    · refine zm_iconst 21 rfl dX11_restore_20 zi_0 ?_
      refine zm_istore_n (lv' := [(2, .int 0), (0, .ref (E.2.1 + 52)), (1, .int a1)]) 22 rfl dX11_restore_21 rfl (by decide) rfl ?_
      have hx51_22 : ∀ (N51 : zm_Mem), zm_V X Y_X11_restore E (zm_Q X E Y_X11_restore.2.2.2.1.cells Y_X11_restore.2.2.2.1.slots (zm_w sv) zm_ei) 0 0 false (zm_w sv) 51 [(0, .ref (E.2.1 + 52))] [] N51 (zm_v (zm_sI N51 52 59 0) <| fun M53 => some (1, M53)) some := by
        intro N51
        refine zm_aload_n 52 rfl dX11_restore_51 rfl 0 rfl ?_
        refine zm_iconst 53 rfl dX11_restore_52 zi_0 ?_
        refine zm_putI 56 rfl dX11_restore_53 fp_X11_269 rfl (zm_L (sv := sv) rfl) rfl rfl (fun M53 _ => ?_)
        refine zm_iconst 57 rfl dX11_restore_56 zi_1 ?_
        exact zm_zret dX11_restore_57 rfl rfl (Nat.le_refl _) (Nat.le_refl _) rfl
      refine zm_loc [1, 2, 0] rfl (zm_lpp (σ := (Int32 × zm_Mem)) (ε := zm_Mem) (step := fun s => f_X11_restore_l22 a1 s.1 s.2) (fun s => [(0, .ref (E.2.1 + 52)), (1, .int a1), (2, .int s.1)]) (fun s => s.2) (fun D22 f22 hf22a hf22b hD22 s => ?_) (0, M))
      obtain ⟨l22_2, L22⟩ := s
      show zm_V X Y_X11_restore E (zm_Q X E Y_X11_restore.2.2.2.1.cells Y_X11_restore.2.2.2.1.slots (zm_w sv) zm_ei) 0 0 false (zm_w sv) 22 [(0, .ref (E.2.1 + 52)), (1, .int a1), (2, .int l22_2)] [] L22 (f_X11_restore_l22 a1 l22_2 L22) f22
      unfold f_X11_restore_l22
      refine zm_iload_n 23 rfl dX11_restore_22 rfl 2 rfl ?_
      refine zm_bipush 25 rfl dX11_restore_23 zb_60 ?_
      refine zm_icmp_ge 51 28 (by decide) rfl dX11_restore_25 ?_ ?_
      · exact zm_loc [0] rfl (zm_go (hf22b _) (zm_unb (hx51_22 L22)))
      · refine zm_aload_n 29 rfl dX11_restore_28 rfl 0 rfl ?_
        refine zm_getR (a := 91) 32 rfl dX11_restore_29 fl_X11_134 rfl (zm_L (sv := sv) rfl) rfl (by decide) ?_
        refine zm_iload_n 33 rfl dX11_restore_32 rfl 2 rfl ?_
        refine zm_aload_n 34 rfl dX11_restore_33 rfl 0 rfl ?_
        refine zm_getR (a := 102) 37 rfl dX11_restore_34 fl_X11_167 rfl (zm_L (sv := sv) rfl) rfl (by decide) ?_
        refine zm_bipush 39 rfl dX11_restore_37 zb_60 ?_
        refine zm_iload_n 40 rfl dX11_restore_39 rfl 1 rfl ?_
        refine zm_imul 41 rfl dX11_restore_40 ?_
        refine zm_iload_n 42 rfl dX11_restore_41 rfl 2 rfl ?_
        refine zm_iadd 43 rfl dX11_restore_42 ?_
        refine zm_iald 44 rfl dX11_restore_43 rfl (zm_L (sv := sv) rfl) ?_
        refine zm_iast 45 rfl dX11_restore_44 rfl (zm_L (sv := sv) rfl) (fun M44 _ => ?_)
        refine zm_iinc (lv' := fun z => [(2, .int z), (0, .ref (E.2.1 + 52)), (1, .int a1)]) 48 rfl dX11_restore_45 zi_1 2 rfl (by decide) (fun _ => rfl) (fun x45 _ => ?_)
        refine zm_goto 22 (by decide) dX11_restore_48 ?_
        exact zm_loc [1, 2, 0] rfl (zm_go (hf22a _) (hD22 (x45, M44)))
abbrev Y_X11_count : zm_Y := (cX11_count, 4, RX11, { frames := 1, cells := 0, slots := 0, locals := 22 }, (some .int), false, "count")
noncomputable def f_X11_count_b102 (a1 : Int32) (M1 : zm_Mem) : Option (Int32 × zm_Mem) :=
 zm_ck (zm_in (27 + a1) 60) <| some (M1.1 92 (27 + a1).toNatClampNeg, M1)
noncomputable def f_X11_count_b142_114 (l114_3 : Int32) (b142_2 : Int32) : Option ((Int32 × Int32) ⊕ Int32) :=
 zm_v (l114_3 + 1) <| fun x142 => some (.inl (b142_2, x142))
noncomputable def f_X11_count_l114 (M1 : zm_Mem) (l114_2 : Int32) (l114_3 : Int32) : Option ((Int32 × Int32) ⊕ Int32) :=
 zm_ck (zm_in (M1.1 52 18) 2) <| if (M1.1 66 (M1.1 52 18).toNatClampNeg) ≤ l114_3 then (some (.inr l114_2)) else (zm_ck (zm_in l114_3 60) <| if 0 ≤ (M1.1 92 l114_3.toNatClampNeg) then (f_X11_count_b142_114 l114_3 l114_2) else (zm_v (l114_2 ||| ((1 : Int32) <<< (l114_3 &&& 31))) <| fun x141 => f_X11_count_b142_114 l114_3 x141))
noncomputable def f_X11_count_b185_152 (l152_3 : Int32) (b185_2 : Int32) : Option ((Int32 × Int32) ⊕ Int32) :=
 zm_v (l152_3 + 1) <| fun x185 => some (.inl (b185_2, x185))
noncomputable def f_X11_count_l152 (M1 : zm_Mem) (l152_2 : Int32) (l152_3 : Int32) : Option ((Int32 × Int32) ⊕ Int32) :=
 zm_ck (zm_in (M1.1 52 18) 2) <| if (M1.1 66 (M1.1 52 18).toNatClampNeg) ≤ l152_3 then (some (.inr l152_2)) else (zm_ck (zm_in l152_3 60) <| zm_b1 (f_X11_ownerNow l152_3 M1) <| fun r173 => if (M1.1 92 l152_3.toNatClampNeg) = r173 then (zm_v (l152_2 ||| ((1 : Int32) <<< (l152_3 &&& 31))) <| fun x184 => f_X11_count_b185_152 l152_3 x184) else (f_X11_count_b185_152 l152_3 l152_2))
noncomputable def f_X11_count_b241 (M1 : zm_Mem) (b241_s0 : Int32) (b241_s1 : Int32) : Option (Int32 × zm_Mem) :=
 zm_ck (zm_in 2 3) <| if (M1.1 101 (2 : Int32).toNatClampNeg) = 0 then (some ((b241_s0 + b241_s1) + 0, M1)) else (some ((b241_s0 + b241_s1) + 1, M1))
noncomputable def f_X11_count_b227 (M1 : zm_Mem) (b227_s0 : Int32) : Option (Int32 × zm_Mem) :=
 zm_ck (zm_in 1 3) <| if (M1.1 101 (1 : Int32).toNatClampNeg) = 0 then (f_X11_count_b241 M1 b227_s0 0) else (f_X11_count_b241 M1 b227_s0 1)
noncomputable def f_X11_count (a1 : Int32) (M : zm_Mem) : Option (Int32 × zm_Mem) :=
  zm_b2 (f_X11_copies M) <| fun _ M1 => if a1 = 0 then (zm_ck (zm_in (M1.1 52 18) 2) <| some (M1.1 63 (M1.1 52 18).toNatClampNeg, M1)) else if a1 = 1 then (zm_ck (zm_in (M1.1 52 18) 2) <| some (M1.1 66 (M1.1 52 18).toNatClampNeg, M1)) else if a1 = 2 then (zm_ck (zm_in (M1.1 52 18) 2) <| some (M1.1 71 (M1.1 52 18).toNatClampNeg, M1)) else if a1 = 3 then (f_X11_count_b102 a1 M1) else if a1 = 4 then (f_X11_count_b102 a1 M1) else if a1 = 5 then ((zm_lp (fun s => f_X11_count_l114 M1 s.1 s.2) (0, 0)).bind (fun e148 => some (e148, M1))) else if a1 = 6 then ((zm_lp (fun s => f_X11_count_l152 M1 s.1 s.2) (0, 0)).bind (fun e191 => some (e191, M1))) else if a1 = 7 then (zm_b1 (f_X11_standing M1) <| fun r194 => some (r194, M1)) else if a1 = 8 then (some (M1.1 52 2, M1)) else if a1 = 9 then (some (M1.1 52 59, M1)) else if a1 = 10 then (some (M1.1 52 65, M1)) else if a1 = 11 then (zm_ck (zm_in 0 3) <| if (M1.1 101 (0 : Int32).toNatClampNeg) = 0 then (f_X11_count_b227 M1 0) else (f_X11_count_b227 M1 1)) else if a1 = 12 then (zm_ck (zm_in 32 60) <| some (M1.1 92 (32 : Int32).toNatClampNeg, M1)) else (some ((-1), M1))
set_option maxRecDepth 20000 in
set_option maxHeartbeats 4000000 in
theorem k_X11_count (E : zm_E) (sv : Nat) (a1 : Int32) (M : zm_Mem) {r : Int32} {M' : zm_Mem} (h : f_X11_count a1 M = some (r, M')) : zm_Ct E (zm_w sv) (zm_w sv) yX11_count Y_X11_count [.ref (E.2.1 + 52), .int a1] M (some (.int r)) M' := by
  refine zm_meth (emb := zm_ei) (d := f_X11_count a1 M) (by decide) rfl rfl (Nat.le_of_ble_eq_true rfl) h (fun X => ?_)
  show zm_V X Y_X11_count E (zm_Q X E Y_X11_count.2.2.2.1.cells Y_X11_count.2.2.2.1.slots (zm_w sv) zm_ei) 0 0 false (zm_w sv) 0 [(0, .ref (E.2.1 + 52)), (1, .int a1)] [] M (f_X11_count a1 M) some
  unfold f_X11_count
  refine zm_aload_n 1 rfl dX11_count_0 rfl 0 rfl ?_
  refine zm_cV0v 4 rfl dX11_count_1 ml_X11_388 rfl (zm_L (sv := sv) rfl) rfl (Nat.le_of_ble_eq_true rfl) ⟨Nat.le_of_ble_eq_true rfl, Nat.le_of_ble_eq_true rfl⟩ rfl rfl ⟨Nat.le_refl _, Nat.le_refl _⟩ rfl (fun _ _ h => k_X11_copies E sv M h) (fun _ M1 => ?_)
  refine zm_iconst 5 rfl dX11_count_4 zi_0 ?_
  refine zm_istore_n (lv' := [(2, .int 0), (0, .ref (E.2.1 + 52)), (1, .int a1)]) 6 rfl dX11_count_5 rfl (by decide) rfl ?_
  refine zm_iload_n 7 rfl dX11_count_6 rfl 2 rfl ?_
  have hb102 : zm_V X Y_X11_count E (zm_Q X E Y_X11_count.2.2.2.1.cells Y_X11_count.2.2.2.1.slots (zm_w sv) zm_ei) 0 0 false (zm_w sv) 102 [(0, .ref (E.2.1 + 52)), (1, .int a1)] [] M1 (f_X11_count_b102 a1 M1) some := by
    unfold f_X11_count_b102
    refine zm_aload_n 103 rfl dX11_count_102 rfl 0 rfl ?_
    refine zm_getR (a := 92) 106 rfl dX11_count_103 fl_X11_137 rfl (zm_L (sv := sv) rfl) rfl (by decide) ?_
    refine zm_bipush 108 rfl dX11_count_106 zb_27 ?_
    refine zm_iload_n 109 rfl dX11_count_108 rfl 1 rfl ?_
    refine zm_iadd 110 rfl dX11_count_109 ?_
    refine zm_iald 111 rfl dX11_count_110 rfl (zm_L (sv := sv) rfl) ?_
    exact zm_iret dX11_count_111 rfl (Nat.le_refl _) (Nat.le_refl _) rfl
  refine zm_case (fun hc => ?_) (fun hc0_7 => ?_)
  · refine zm_tsIn (off := 65) 72 hc dX11_count_7 (by decide) (by decide) (by decide) (by decide) ?_
    refine zm_aload_n 73 rfl dX11_count_72 rfl 1 rfl ?_
    refine zm_getR (a := 63) 76 rfl dX11_count_73 fl_X11_49 rfl (zm_L (sv := sv) rfl) rfl (by decide) ?_
    refine zm_aload_n 77 rfl dX11_count_76 rfl 1 rfl ?_
    refine zm_getI 80 rfl dX11_count_77 fl_X11_251 rfl (zm_L (sv := sv) rfl) ?_
    refine zm_iald 81 rfl dX11_count_80 rfl (zm_L (sv := sv) rfl) ?_
    exact zm_iret dX11_count_81 rfl (Nat.le_refl _) (Nat.le_refl _) rfl
  refine zm_case (fun hc => ?_) (fun hc1_7 => ?_)
  · refine zm_tsIn (off := 75) 82 hc dX11_count_7 (by decide) (by decide) (by decide) (by decide) ?_
    refine zm_aload_n 83 rfl dX11_count_82 rfl 1 rfl ?_
    refine zm_getR (a := 66) 86 rfl dX11_count_83 fl_X11_58 rfl (zm_L (sv := sv) rfl) rfl (by decide) ?_
    refine zm_aload_n 87 rfl dX11_count_86 rfl 1 rfl ?_
    refine zm_getI 90 rfl dX11_count_87 fl_X11_251 rfl (zm_L (sv := sv) rfl) ?_
    refine zm_iald 91 rfl dX11_count_90 rfl (zm_L (sv := sv) rfl) ?_
    exact zm_iret dX11_count_91 rfl (Nat.le_refl _) (Nat.le_refl _) rfl
  refine zm_case (fun hc => ?_) (fun hc2_7 => ?_)
  · refine zm_tsIn (off := 85) 92 hc dX11_count_7 (by decide) (by decide) (by decide) (by decide) ?_
    refine zm_aload_n 93 rfl dX11_count_92 rfl 1 rfl ?_
    refine zm_getR (a := 71) 96 rfl dX11_count_93 fl_X11_73 rfl (zm_L (sv := sv) rfl) rfl (by decide) ?_
    refine zm_aload_n 97 rfl dX11_count_96 rfl 1 rfl ?_
    refine zm_getI 100 rfl dX11_count_97 fl_X11_251 rfl (zm_L (sv := sv) rfl) ?_
    refine zm_iald 101 rfl dX11_count_100 rfl (zm_L (sv := sv) rfl) ?_
    exact zm_iret dX11_count_101 rfl (Nat.le_refl _) (Nat.le_refl _) rfl
  refine zm_case (fun hc => ?_) (fun hc3_7 => ?_)
  · refine zm_tsIn (off := 95) 102 hc dX11_count_7 (by decide) (by decide) (by decide) (by decide) ?_
    exact zm_loc [1, 2] rfl (hb102)
  refine zm_case (fun hc => ?_) (fun hc4_7 => ?_)
  · refine zm_tsIn (off := 95) 102 hc dX11_count_7 (by decide) (by decide) (by decide) (by decide) ?_
    exact zm_loc [1, 2] rfl (hb102)
  refine zm_case (fun hc => ?_) (fun hc5_7 => ?_)
  · refine zm_tsIn (off := 105) 112 hc dX11_count_7 (by decide) (by decide) (by decide) (by decide) ?_
    refine zm_iconst 113 rfl dX11_count_112 zi_0 ?_
    refine zm_istore_n (lv' := [(3, .int 0), (2, .int 0), (0, .ref (E.2.1 + 52)), (1, .int a1)]) 114 rfl dX11_count_113 rfl (by decide) rfl ?_
    have hx148_114 : ∀ (e148_2 : Int32), zm_V X Y_X11_count E (zm_Q X E Y_X11_count.2.2.2.1.cells Y_X11_count.2.2.2.1.slots (zm_w sv) zm_ei) 0 0 false (zm_w sv) 148 [(2, .int e148_2)] [] M1 (some (e148_2, M1)) some := by
      intro e148_2
      refine zm_iload_n 149 rfl dX11_count_148 rfl 0 rfl ?_
      exact zm_iret dX11_count_149 rfl (Nat.le_refl _) (Nat.le_refl _) rfl
    refine zm_loc [2, 1, 0] rfl (zm_lpp (σ := (Int32 × Int32)) (ε := Int32) (step := fun s => f_X11_count_l114 M1 s.1 s.2) (fun s => [(0, .ref (E.2.1 + 52)), (2, .int s.1), (3, .int s.2)]) (fun _ => M1) (fun D114 f114 hf114a hf114b hD114 s => ?_) (0, 0))
    obtain ⟨l114_2, l114_3⟩ := s
    show zm_V X Y_X11_count E (zm_Q X E Y_X11_count.2.2.2.1.cells Y_X11_count.2.2.2.1.slots (zm_w sv) zm_ei) 0 0 false (zm_w sv) 114 [(0, .ref (E.2.1 + 52)), (2, .int l114_2), (3, .int l114_3)] [] M1 (f_X11_count_l114 M1 l114_2 l114_3) f114
    unfold f_X11_count_l114
    refine zm_iload_n 115 rfl dX11_count_114 rfl 2 rfl ?_
    refine zm_aload_n 116 rfl dX11_count_115 rfl 0 rfl ?_
    refine zm_getR (a := 66) 119 rfl dX11_count_116 fl_X11_58 rfl (zm_L (sv := sv) rfl) rfl (by decide) ?_
    refine zm_aload_n 120 rfl dX11_count_119 rfl 0 rfl ?_
    refine zm_getI 123 rfl dX11_count_120 fl_X11_251 rfl (zm_L (sv := sv) rfl) ?_
    refine zm_iald 124 rfl dX11_count_123 rfl (zm_L (sv := sv) rfl) ?_
    refine zm_icmp_ge 148 127 (by decide) rfl dX11_count_124 ?_ ?_
    · exact zm_loc [1] rfl (zm_go (hf114b _) (zm_unb (hx148_114 l114_2)))
    · refine zm_aload_n 128 rfl dX11_count_127 rfl 0 rfl ?_
      refine zm_getR (a := 92) 131 rfl dX11_count_128 fl_X11_137 rfl (zm_L (sv := sv) rfl) rfl (by decide) ?_
      refine zm_iload_n 132 rfl dX11_count_131 rfl 2 rfl ?_
      refine zm_iald 133 rfl dX11_count_132 rfl (zm_L (sv := sv) rfl) ?_
      have hb142_114 : ∀ (b142_2 : Int32), zm_V X Y_X11_count E (zm_Q X E Y_X11_count.2.2.2.1.cells Y_X11_count.2.2.2.1.slots (zm_w sv) zm_ei) 0 0 false (zm_w sv) 142 [(0, .ref (E.2.1 + 52)), (2, .int b142_2), (3, .int l114_3)] [] M1 (f_X11_count_b142_114 l114_3 b142_2) f114 := by
        intro b142_2
        unfold f_X11_count_b142_114
        refine zm_iinc (lv' := fun z => [(3, .int z), (0, .ref (E.2.1 + 52)), (2, .int b142_2)]) 145 rfl dX11_count_142 zi_1 2 rfl (by decide) (fun _ => rfl) (fun x142 _ => ?_)
        refine zm_goto 114 (by decide) dX11_count_145 ?_
        exact zm_loc [1, 2, 0] rfl (zm_go (hf114a _) (hD114 (b142_2, x142)))
      refine zm_if_ge 142 136 (by decide) rfl dX11_count_133 ?_ ?_
      · exact zm_loc [0, 1, 2] rfl (hb142_114 l114_2)
      · refine zm_iload_n 137 rfl dX11_count_136 rfl 1 rfl ?_
        refine zm_iconst 138 rfl dX11_count_137 zi_1 ?_
        refine zm_iload_n 139 rfl dX11_count_138 rfl 2 rfl ?_
        refine zm_ishl 140 rfl dX11_count_139 ?_
        refine zm_ior 141 rfl dX11_count_140 ?_
        refine zm_nmi (fun x141 _ => ?_)
        refine zm_istore_n (lv' := [(2, .int x141), (0, .ref (E.2.1 + 52)), (3, .int l114_3)]) 142 rfl dX11_count_141 rfl (by decide) rfl ?_
        exact zm_loc [1, 0, 2] rfl (hb142_114 x141)
  refine zm_case (fun hc => ?_) (fun hc6_7 => ?_)
  · refine zm_tsIn (off := 143) 150 hc dX11_count_7 (by decide) (by decide) (by decide) (by decide) ?_
    refine zm_iconst 151 rfl dX11_count_150 zi_0 ?_
    refine zm_istore_n (lv' := [(3, .int 0), (2, .int 0), (0, .ref (E.2.1 + 52)), (1, .int a1)]) 152 rfl dX11_count_151 rfl (by decide) rfl ?_
    have hx191_152 : ∀ (e191_2 : Int32), zm_V X Y_X11_count E (zm_Q X E Y_X11_count.2.2.2.1.cells Y_X11_count.2.2.2.1.slots (zm_w sv) zm_ei) 0 0 false (zm_w sv) 191 [(2, .int e191_2)] [] M1 (some (e191_2, M1)) some := by
      intro e191_2
      refine zm_iload_n 192 rfl dX11_count_191 rfl 0 rfl ?_
      exact zm_iret dX11_count_192 rfl (Nat.le_refl _) (Nat.le_refl _) rfl
    refine zm_loc [2, 1, 0] rfl (zm_lpp (σ := (Int32 × Int32)) (ε := Int32) (step := fun s => f_X11_count_l152 M1 s.1 s.2) (fun s => [(0, .ref (E.2.1 + 52)), (2, .int s.1), (3, .int s.2)]) (fun _ => M1) (fun D152 f152 hf152a hf152b hD152 s => ?_) (0, 0))
    obtain ⟨l152_2, l152_3⟩ := s
    show zm_V X Y_X11_count E (zm_Q X E Y_X11_count.2.2.2.1.cells Y_X11_count.2.2.2.1.slots (zm_w sv) zm_ei) 0 0 false (zm_w sv) 152 [(0, .ref (E.2.1 + 52)), (2, .int l152_2), (3, .int l152_3)] [] M1 (f_X11_count_l152 M1 l152_2 l152_3) f152
    unfold f_X11_count_l152
    refine zm_iload_n 153 rfl dX11_count_152 rfl 2 rfl ?_
    refine zm_aload_n 154 rfl dX11_count_153 rfl 0 rfl ?_
    refine zm_getR (a := 66) 157 rfl dX11_count_154 fl_X11_58 rfl (zm_L (sv := sv) rfl) rfl (by decide) ?_
    refine zm_aload_n 158 rfl dX11_count_157 rfl 0 rfl ?_
    refine zm_getI 161 rfl dX11_count_158 fl_X11_251 rfl (zm_L (sv := sv) rfl) ?_
    refine zm_iald 162 rfl dX11_count_161 rfl (zm_L (sv := sv) rfl) ?_
    refine zm_icmp_ge 191 165 (by decide) rfl dX11_count_162 ?_ ?_
    · exact zm_loc [1] rfl (zm_go (hf152b _) (zm_unb (hx191_152 l152_2)))
    · refine zm_aload_n 166 rfl dX11_count_165 rfl 0 rfl ?_
      refine zm_getR (a := 92) 169 rfl dX11_count_166 fl_X11_137 rfl (zm_L (sv := sv) rfl) rfl (by decide) ?_
      refine zm_iload_n 170 rfl dX11_count_169 rfl 2 rfl ?_
      refine zm_iald 171 rfl dX11_count_170 rfl (zm_L (sv := sv) rfl) ?_
      refine zm_aload_n 172 rfl dX11_count_171 rfl 0 rfl ?_
      refine zm_iload_n 173 rfl dX11_count_172 rfl 2 rfl ?_
      refine zm_cV1ir 176 rfl dX11_count_173 ml_X11_343 rfl (zm_L (sv := sv) rfl) rfl (Nat.le_of_ble_eq_true rfl) ⟨Nat.le_of_ble_eq_true rfl, Nat.le_of_ble_eq_true rfl⟩ rfl rfl ⟨Nat.le_refl _, Nat.le_refl _⟩ rfl (fun _ h => k_X11_ownerNow E sv l152_3 M1 h) (fun r173 => ?_)
      have hb185_152 : ∀ (b185_2 : Int32), zm_V X Y_X11_count E (zm_Q X E Y_X11_count.2.2.2.1.cells Y_X11_count.2.2.2.1.slots (zm_w sv) zm_ei) 0 0 false (zm_w sv) 185 [(0, .ref (E.2.1 + 52)), (2, .int b185_2), (3, .int l152_3)] [] M1 (f_X11_count_b185_152 l152_3 b185_2) f152 := by
        intro b185_2
        unfold f_X11_count_b185_152
        refine zm_iinc (lv' := fun z => [(3, .int z), (0, .ref (E.2.1 + 52)), (2, .int b185_2)]) 188 rfl dX11_count_185 zi_1 2 rfl (by decide) (fun _ => rfl) (fun x185 _ => ?_)
        refine zm_goto 152 (by decide) dX11_count_188 ?_
        exact zm_loc [1, 2, 0] rfl (zm_go (hf152a _) (hD152 (b185_2, x185)))
      refine zm_icmp_ne 185 179 (by decide) rfl dX11_count_176 ?_ ?_
      · refine zm_iload_n 180 rfl dX11_count_179 rfl 1 rfl ?_
        refine zm_iconst 181 rfl dX11_count_180 zi_1 ?_
        refine zm_iload_n 182 rfl dX11_count_181 rfl 2 rfl ?_
        refine zm_ishl 183 rfl dX11_count_182 ?_
        refine zm_ior 184 rfl dX11_count_183 ?_
        refine zm_nmi (fun x184 _ => ?_)
        refine zm_istore_n (lv' := [(2, .int x184), (0, .ref (E.2.1 + 52)), (3, .int l152_3)]) 185 rfl dX11_count_184 rfl (by decide) rfl ?_
        exact zm_loc [1, 0, 2] rfl (hb185_152 x184)
      · exact zm_loc [0, 1, 2] rfl (hb185_152 l152_2)
  refine zm_case (fun hc => ?_) (fun hc7_7 => ?_)
  · refine zm_tsIn (off := 186) 193 hc dX11_count_7 (by decide) (by decide) (by decide) (by decide) ?_
    refine zm_aload_n 194 rfl dX11_count_193 rfl 1 rfl ?_
    refine zm_cV0ir 197 rfl dX11_count_194 ml_X11_372 rfl (zm_L (sv := sv) rfl) rfl (Nat.le_of_ble_eq_true rfl) ⟨Nat.le_of_ble_eq_true rfl, Nat.le_of_ble_eq_true rfl⟩ rfl rfl ⟨Nat.le_refl _, Nat.le_refl _⟩ rfl (fun _ h => k_X11_standing E sv M1 h) (fun r194 => ?_)
    exact zm_iret dX11_count_197 rfl (Nat.le_refl _) (Nat.le_refl _) rfl
  refine zm_case (fun hc => ?_) (fun hc8_7 => ?_)
  · refine zm_tsIn (off := 191) 198 hc dX11_count_7 (by decide) (by decide) (by decide) (by decide) ?_
    refine zm_aload_n 199 rfl dX11_count_198 rfl 1 rfl ?_
    refine zm_getI 202 rfl dX11_count_199 fl_X11_188 rfl (zm_L (sv := sv) rfl) ?_
    exact zm_iret dX11_count_202 rfl (Nat.le_refl _) (Nat.le_refl _) rfl
  refine zm_case (fun hc => ?_) (fun hc9_7 => ?_)
  · refine zm_tsIn (off := 196) 203 hc dX11_count_7 (by decide) (by decide) (by decide) (by decide) ?_
    refine zm_aload_n 204 rfl dX11_count_203 rfl 1 rfl ?_
    refine zm_getI 207 rfl dX11_count_204 fl_X11_269 rfl (zm_L (sv := sv) rfl) ?_
    exact zm_iret dX11_count_207 rfl (Nat.le_refl _) (Nat.le_refl _) rfl
  refine zm_case (fun hc => ?_) (fun hc10_7 => ?_)
  · refine zm_tsIn (off := 201) 208 hc dX11_count_7 (by decide) (by decide) (by decide) (by decide) ?_
    refine zm_aload_n 209 rfl dX11_count_208 rfl 1 rfl ?_
    refine zm_getI 212 rfl dX11_count_209 fl_X11_272 rfl (zm_L (sv := sv) rfl) ?_
    exact zm_iret dX11_count_212 rfl (Nat.le_refl _) (Nat.le_refl _) rfl
  refine zm_case (fun hc => ?_) (fun hc11_7 => ?_)
  · refine zm_tsIn (off := 206) 213 hc dX11_count_7 (by decide) (by decide) (by decide) (by decide) ?_
    refine zm_aload_n 214 rfl dX11_count_213 rfl 1 rfl ?_
    refine zm_getR (a := 101) 217 rfl dX11_count_214 fl_X11_164 rfl (zm_L (sv := sv) rfl) rfl (by decide) ?_
    refine zm_iconst 218 rfl dX11_count_217 zi_0 ?_
    refine zm_zald 219 rfl dX11_count_218 rfl (zm_L (sv := sv) rfl) ?_
    have hb227 : ∀ (b227_s0 : Int32), zm_V X Y_X11_count E (zm_Q X E Y_X11_count.2.2.2.1.cells Y_X11_count.2.2.2.1.slots (zm_w sv) zm_ei) 0 0 false (zm_w sv) 227 [(0, .ref (E.2.1 + 52))] [.int b227_s0] M1 (f_X11_count_b227 M1 b227_s0) some := by
      intro b227_s0
      unfold f_X11_count_b227
      refine zm_aload_n 228 rfl dX11_count_227 rfl 0 rfl ?_
      refine zm_getR (a := 101) 231 rfl dX11_count_228 fl_X11_164 rfl (zm_L (sv := sv) rfl) rfl (by decide) ?_
      refine zm_iconst 232 rfl dX11_count_231 zi_1 ?_
      refine zm_zald 233 rfl dX11_count_232 rfl (zm_L (sv := sv) rfl) ?_
      have hb241 : ∀ (b241_s0 : Int32) (b241_s1 : Int32), zm_V X Y_X11_count E (zm_Q X E Y_X11_count.2.2.2.1.cells Y_X11_count.2.2.2.1.slots (zm_w sv) zm_ei) 0 0 false (zm_w sv) 241 [(0, .ref (E.2.1 + 52))] [.int b241_s1, .int b241_s0] M1 (f_X11_count_b241 M1 b241_s0 b241_s1) some := by
        intro b241_s0 b241_s1
        unfold f_X11_count_b241
        refine zm_iadd 242 rfl dX11_count_241 ?_
        refine zm_aload_n 243 rfl dX11_count_242 rfl 0 rfl ?_
        refine zm_getR (a := 101) 246 rfl dX11_count_243 fl_X11_164 rfl (zm_L (sv := sv) rfl) rfl (by decide) ?_
        refine zm_iconst 247 rfl dX11_count_246 zi_2 ?_
        refine zm_zald 248 rfl dX11_count_247 rfl (zm_L (sv := sv) rfl) ?_
        refine zm_if_eq 255 251 (by decide) rfl dX11_count_248 ?_ ?_
        · refine zm_iconst 256 rfl dX11_count_255 zi_0 ?_
          refine zm_iadd 257 rfl dX11_count_256 ?_
          exact zm_iret dX11_count_257 rfl (Nat.le_refl _) (Nat.le_refl _) rfl
        · refine zm_iconst 252 rfl dX11_count_251 zi_1 ?_
          refine zm_goto 256 (by decide) dX11_count_252 ?_
          refine zm_iadd 257 rfl dX11_count_256 ?_
          exact zm_iret dX11_count_257 rfl (Nat.le_refl _) (Nat.le_refl _) rfl
      refine zm_if_eq 240 236 (by decide) rfl dX11_count_233 ?_ ?_
      · refine zm_iconst 241 rfl dX11_count_240 zi_0 ?_
        exact zm_loc [0] rfl (hb241 b227_s0 0)
      · refine zm_iconst 237 rfl dX11_count_236 zi_1 ?_
        refine zm_goto 241 (by decide) dX11_count_237 ?_
        exact zm_loc [0] rfl (hb241 b227_s0 1)
    refine zm_if_eq 226 222 (by decide) rfl dX11_count_219 ?_ ?_
    · refine zm_iconst 227 rfl dX11_count_226 zi_0 ?_
      exact zm_loc [1] rfl (hb227 0)
    · refine zm_iconst 223 rfl dX11_count_222 zi_1 ?_
      refine zm_goto 227 (by decide) dX11_count_223 ?_
      exact zm_loc [1] rfl (hb227 1)
  refine zm_case (fun hc => ?_) (fun hc12_7 => ?_)
  · refine zm_tsIn (off := 251) 258 hc dX11_count_7 (by decide) (by decide) (by decide) (by decide) ?_
    refine zm_aload_n 259 rfl dX11_count_258 rfl 1 rfl ?_
    refine zm_getR (a := 92) 262 rfl dX11_count_259 fl_X11_137 rfl (zm_L (sv := sv) rfl) rfl (by decide) ?_
    refine zm_bipush 264 rfl dX11_count_262 zb_32 ?_
    refine zm_iald 265 rfl dX11_count_264 rfl (zm_L (sv := sv) rfl) ?_
    exact zm_iret dX11_count_265 rfl (Nat.le_refl _) (Nat.le_refl _) rfl
  refine zm_tsOut 266 dX11_count_7 (by have hn0 := zm_ne hc0_7 (w := 0) (by decide); have hn1 := zm_ne hc1_7 (w := 1) (by decide); have hn2 := zm_ne hc2_7 (w := 2) (by decide); have hn3 := zm_ne hc3_7 (w := 3) (by decide); have hn4 := zm_ne hc4_7 (w := 4) (by decide); have hn5 := zm_ne hc5_7 (w := 5) (by decide); have hn6 := zm_ne hc6_7 (w := 6) (by decide); have hn7 := zm_ne hc7_7 (w := 7) (by decide); have hn8 := zm_ne hc8_7 (w := 8) (by decide); have hn9 := zm_ne hc9_7 (w := 9) (by decide); have hn10 := zm_ne hc10_7 (w := 10) (by decide); have hn11 := zm_ne hc11_7 (w := 11) (by decide); have hn12 := zm_ne hc12_7 (w := 12) (by decide); omega) (by decide) ?_
  refine zm_iconst 267 rfl dX11_count_266 zi_m1 ?_
  exact zm_iret dX11_count_267 rfl (Nat.le_refl _) (Nat.le_refl _) rfl
