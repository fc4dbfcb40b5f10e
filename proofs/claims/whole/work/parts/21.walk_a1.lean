abbrev Y_X3_enter : zm_Y := (cX3_enter, 7, RX3, { frames := 1, cells := 0, slots := 0, locals := 25 }, none, false, "enter")
noncomputable def f_X3_enter_x78_9 (a1 : Int32) (a2 : Int32) (M : zm_Mem) (e78_4 : Int32) (e78_5 : Int32) : Option (Unit × zm_Mem) :=
 zm_b2 (f_X3_enterAmong a1 a2 e78_4 e78_5 M) <| fun _ M85 => some ((), M85)
noncomputable def f_X3_enter_b72_9 (l9_6 : Int32) (b72_4 : Int32) (b72_5 : Int32) : Option ((Int32 × Int32 × Int32) ⊕ (Int32 × Int32)) :=
 zm_v (l9_6 + 1) <| fun x72 => some (.inl (b72_4, b72_5, x72))
noncomputable def f_X3_enter_l9 (a1 : Int32) (a2 : Int32) (a3 : Int32) (M : zm_Mem) (l9_4 : Int32) (l9_5 : Int32) (l9_6 : Int32) : Option ((Int32 × Int32 × Int32) ⊕ (Int32 × Int32)) :=
 zm_v (M.2.2 47 2) <| fun t12 => zm_ck (zm_isT t12) <| if (M.1 t12 12) ≤ l9_6 then (some (.inr (l9_4, l9_5))) else (zm_ck (zm_in l9_6 6) <| if (M.1 51 l9_6.toNatClampNeg) = a2 then (if l9_6 = a1 then (f_X3_enter_b72_9 l9_6 l9_4 l9_5) else (if l9_6 = a3 then (f_X3_enter_b72_9 l9_6 l9_4 l9_5) else (zm_v (l9_4 + 1) <| fun x44 => zm_v (M.2.2 47 2) <| fun t48 => zm_ck (zm_isT t48) <| zm_ck (zm_in l9_6 6) <| zm_v (M.2.2 47 2) <| fun t58 => zm_ck (zm_isT t58) <| zm_ck (zm_in a1 6) <| if (M.1 (t48 + 5) l9_6.toNatClampNeg) = (M.1 (t58 + 5) a1.toNatClampNeg) then (zm_v (l9_5 + 1) <| fun x69 => f_X3_enter_b72_9 l9_6 x44 x69) else (f_X3_enter_b72_9 l9_6 x44 l9_5)))) else (f_X3_enter_b72_9 l9_6 l9_4 l9_5))
noncomputable def f_X3_enter (a1 : Int32) (a2 : Int32) (a3 : Int32) (M : zm_Mem) : Option (Unit × zm_Mem) :=
  (zm_lp (fun s => f_X3_enter_l9 a1 a2 a3 M s.1 s.2.1 s.2.2) (0, 0, 0)).bind (fun e78 => f_X3_enter_x78_9 a1 a2 M e78.1 e78.2)
set_option maxRecDepth 20000 in
set_option maxHeartbeats 4000000 in
theorem k_X3_enter (E : zm_E) (sv : Nat) (a1 : Int32) (a2 : Int32) (a3 : Int32) (M : zm_Mem) {r : Unit} {M' : zm_Mem} (h : f_X3_enter a1 a2 a3 M = some (r, M')) : zm_Ct E (zm_w sv) (zm_w sv) yX3_enter Y_X3_enter [.ref (E.2.1 + 47), .int a1, .int a2, .int a3] M none M' := by
  refine zm_meth (emb := zm_ev) (d := f_X3_enter a1 a2 a3 M) (by decide) rfl rfl (Nat.le_of_ble_eq_true rfl) h (fun X => ?_)
  show zm_V X Y_X3_enter E (zm_Q X E Y_X3_enter.2.2.2.1.cells Y_X3_enter.2.2.2.1.slots (zm_w sv) zm_ev) 0 0 false (zm_w sv) 0 [(0, .ref (E.2.1 + 47)), (1, .int a1), (2, .int a2), (3, .int a3)] [] M (f_X3_enter a1 a2 a3 M) some
  unfold f_X3_enter
  refine zm_iconst 1 rfl dX3_enter_0 zi_0 ?_
  refine zm_istore (lv' := [(4, .int 0), (0, .ref (E.2.1 + 47)), (1, .int a1), (2, .int a2), (3, .int a3)]) 3 rfl dX3_enter_1 (by decide) rfl ?_
  refine zm_iconst 4 rfl dX3_enter_3 zi_0 ?_
  refine zm_istore (lv' := [(5, .int 0), (4, .int 0), (0, .ref (E.2.1 + 47)), (1, .int a1), (2, .int a2), (3, .int a3)]) 6 rfl dX3_enter_4 (by decide) rfl ?_
  refine zm_iconst 7 rfl dX3_enter_6 zi_0 ?_
  refine zm_istore (lv' := [(6, .int 0), (5, .int 0), (4, .int 0), (0, .ref (E.2.1 + 47)), (1, .int a1), (2, .int a2), (3, .int a3)]) 9 rfl dX3_enter_7 (by decide) rfl ?_
  have hx78_9 : ∀ (e78_4 : Int32) (e78_5 : Int32), zm_V X Y_X3_enter E (zm_Q X E Y_X3_enter.2.2.2.1.cells Y_X3_enter.2.2.2.1.slots (zm_w sv) zm_ev) 0 0 false (zm_w sv) 78 [(0, .ref (E.2.1 + 47)), (1, .int a1), (2, .int a2), (4, .int e78_4), (5, .int e78_5)] [] M (f_X3_enter_x78_9 a1 a2 M e78_4 e78_5) some := by
    intro e78_4 e78_5
    unfold f_X3_enter_x78_9
    refine zm_aload_n 79 rfl dX3_enter_78 rfl 0 rfl ?_
    refine zm_iload_n 80 rfl dX3_enter_79 rfl 1 rfl ?_
    refine zm_iload_n 81 rfl dX3_enter_80 rfl 2 rfl ?_
    refine zm_iload 83 rfl dX3_enter_81 3 rfl ?_
    refine zm_iload 85 rfl dX3_enter_83 4 rfl ?_
    refine zm_cV4v 88 rfl dX3_enter_85 ml_X3_47 rfl (zm_L (sv := sv) rfl) rfl (Nat.le_of_ble_eq_true rfl) ⟨Nat.le_of_ble_eq_true rfl, Nat.le_of_ble_eq_true rfl⟩ rfl rfl ⟨Nat.le_refl _, Nat.le_refl _⟩ rfl (fun _ _ h => k_X3_enterAmong E sv a1 a2 e78_4 e78_5 M h) (fun _ M85 => ?_)
    exact zm_vret dX3_enter_88 rfl (Nat.le_refl _) (Nat.le_refl _) rfl
  refine zm_loc [3, 4, 5, 6, 2, 1, 0] rfl (zm_lpp (σ := (Int32 × Int32 × Int32)) (ε := (Int32 × Int32)) (step := fun s => f_X3_enter_l9 a1 a2 a3 M s.1 s.2.1 s.2.2) (fun s => [(0, .ref (E.2.1 + 47)), (1, .int a1), (2, .int a2), (3, .int a3), (4, .int s.1), (5, .int s.2.1), (6, .int s.2.2)]) (fun _ => M) (fun D9 f9 hf9a hf9b hD9 s => ?_) (0, 0, 0))
  obtain ⟨l9_4, l9_5, l9_6⟩ := s
  show zm_V X Y_X3_enter E (zm_Q X E Y_X3_enter.2.2.2.1.cells Y_X3_enter.2.2.2.1.slots (zm_w sv) zm_ev) 0 0 false (zm_w sv) 9 [(0, .ref (E.2.1 + 47)), (1, .int a1), (2, .int a2), (3, .int a3), (4, .int l9_4), (5, .int l9_5), (6, .int l9_6)] [] M (f_X3_enter_l9 a1 a2 a3 M l9_4 l9_5 l9_6) f9
  unfold f_X3_enter_l9
  refine zm_iload 11 rfl dX3_enter_9 6 rfl ?_
  refine zm_aload_n 12 rfl dX3_enter_11 rfl 0 rfl ?_
  refine zm_getT 15 rfl dX3_enter_12 fl_X3_22 rfl (zm_L (sv := sv) rfl) (fun t12 _ ht12 => ?_)
  refine zm_getI 18 rfl dX3_enter_15 fl_X3_29 (zm_T_o ht12) (zm_T_l0 (sv := sv) ht12) ?_
  refine zm_icmp_ge 78 21 (by decide) rfl dX3_enter_18 ?_ ?_
  · exact zm_loc [0, 1, 2, 4, 5] rfl (zm_go (hf9b _) (zm_unb (hx78_9 l9_4 l9_5)))
  · refine zm_aload_n 22 rfl dX3_enter_21 rfl 0 rfl ?_
    refine zm_getR (a := 51) 25 rfl dX3_enter_22 fl_X3_18 rfl (zm_L (sv := sv) rfl) rfl (by decide) ?_
    refine zm_iload 27 rfl dX3_enter_25 6 rfl ?_
    refine zm_iald 28 rfl dX3_enter_27 rfl (zm_L (sv := sv) rfl) ?_
    refine zm_iload_n 29 rfl dX3_enter_28 rfl 2 rfl ?_
    have hb72_9 : ∀ (b72_4 : Int32) (b72_5 : Int32), zm_V X Y_X3_enter E (zm_Q X E Y_X3_enter.2.2.2.1.cells Y_X3_enter.2.2.2.1.slots (zm_w sv) zm_ev) 0 0 false (zm_w sv) 72 [(0, .ref (E.2.1 + 47)), (1, .int a1), (2, .int a2), (3, .int a3), (4, .int b72_4), (5, .int b72_5), (6, .int l9_6)] [] M (f_X3_enter_b72_9 l9_6 b72_4 b72_5) f9 := by
      intro b72_4 b72_5
      unfold f_X3_enter_b72_9
      refine zm_iinc (lv' := fun z => [(6, .int z), (0, .ref (E.2.1 + 47)), (1, .int a1), (2, .int a2), (3, .int a3), (4, .int b72_4), (5, .int b72_5)]) 75 rfl dX3_enter_72 zi_1 6 rfl (by decide) (fun _ => rfl) (fun x72 _ => ?_)
      refine zm_goto 9 (by decide) dX3_enter_75 ?_
      exact zm_loc [1, 2, 3, 4, 5, 6, 0] rfl (zm_go (hf9a _) (hD9 (b72_4, b72_5, x72)))
    refine zm_icmp_ne 72 32 (by decide) rfl dX3_enter_29 ?_ ?_
    · refine zm_iload 34 rfl dX3_enter_32 6 rfl ?_
      refine zm_iload_n 35 rfl dX3_enter_34 rfl 1 rfl ?_
      refine zm_icmp_eq 72 38 (by decide) rfl dX3_enter_35 ?_ ?_
      · exact zm_loc [0, 1, 2, 3, 4, 5, 6] rfl (hb72_9 l9_4 l9_5)
      · refine zm_iload 40 rfl dX3_enter_38 6 rfl ?_
        refine zm_iload_n 41 rfl dX3_enter_40 rfl 3 rfl ?_
        refine zm_icmp_eq 72 44 (by decide) rfl dX3_enter_41 ?_ ?_
        · exact zm_loc [0, 1, 2, 3, 4, 5, 6] rfl (hb72_9 l9_4 l9_5)
        · refine zm_iinc (lv' := fun z => [(4, .int z), (0, .ref (E.2.1 + 47)), (1, .int a1), (2, .int a2), (3, .int a3), (5, .int l9_5), (6, .int l9_6)]) 47 rfl dX3_enter_44 zi_1 4 rfl (by decide) (fun _ => rfl) (fun x44 _ => ?_)
          refine zm_aload_n 48 rfl dX3_enter_47 rfl 1 rfl ?_
          refine zm_getT 51 rfl dX3_enter_48 fl_X3_22 rfl (zm_L (sv := sv) rfl) (fun t48 _ ht48 => ?_)
          refine zm_getR (a := t48 + 5) 54 rfl dX3_enter_51 fl_X3_44 (zm_T_o ht48) (zm_T_l0 (sv := sv) ht48) (zm_T_r ht48 4 (by decide)) (Nat.succ_ne_zero _) ?_
          refine zm_iload 56 rfl dX3_enter_54 6 rfl ?_
          refine zm_iald 57 rfl dX3_enter_56 (zm_T_a ht48 5 (by decide)) (zm_T_l (sv := sv) ht48 5 (by decide)) ?_
          refine zm_aload_n 58 rfl dX3_enter_57 rfl 1 rfl ?_
          refine zm_getT 61 rfl dX3_enter_58 fl_X3_22 rfl (zm_L (sv := sv) rfl) (fun t58 _ ht58 => ?_)
          refine zm_getR (a := t58 + 5) 64 rfl dX3_enter_61 fl_X3_44 (zm_T_o ht58) (zm_T_l0 (sv := sv) ht58) (zm_T_r ht58 4 (by decide)) (Nat.succ_ne_zero _) ?_
          refine zm_iload_n 65 rfl dX3_enter_64 rfl 2 rfl ?_
          refine zm_iald 66 rfl dX3_enter_65 (zm_T_a ht58 5 (by decide)) (zm_T_l (sv := sv) ht58 5 (by decide)) ?_
          refine zm_icmp_ne 72 69 (by decide) rfl dX3_enter_66 ?_ ?_
          · refine zm_iinc (lv' := fun z => [(5, .int z), (4, .int x44), (0, .ref (E.2.1 + 47)), (1, .int a1), (2, .int a2), (3, .int a3), (6, .int l9_6)]) 72 rfl dX3_enter_69 zi_1 5 rfl (by decide) (fun _ => rfl) (fun x69 _ => ?_)
            exact zm_loc [2, 3, 4, 5, 1, 0, 6] rfl (hb72_9 x44 x69)
          · exact zm_loc [1, 2, 3, 4, 0, 5, 6] rfl (hb72_9 x44 l9_5)
    · exact zm_loc [0, 1, 2, 3, 4, 5, 6] rfl (hb72_9 l9_4 l9_5)
abbrev Y_X5_goThrough : zm_Y := (cX5_goThrough, 10, RX5, { frames := 0, cells := 0, slots := 0, locals := 0 }, (some .int), false, "goThrough")
noncomputable def f_X5_goThrough_x61_8 (e61_4 : Int32) (N61 : zm_Mem) : Option (Int32 × zm_Mem) :=
 if e61_4 ≤ 0 then (some (0, N61)) else (zm_ck (zm_in (e61_4 - 1) 24) <| some (N61.1 50 (e61_4 - 1).toNatClampNeg, N61))
noncomputable def f_X5_goThrough_b294_8 (l8_5 : Int32) (b294_3 : Int32) (b294_4 : Int32) (M294 : zm_Mem) : Option ((Int32 × Int32 × Int32 × zm_Mem) ⊕ ((Int32 × zm_Mem) ⊕ zm_Mem ⊕ zm_Mem ⊕ zm_Mem ⊕ zm_Mem)) :=
 zm_v (l8_5 + 1) <| fun x294 => some (.inl (b294_3, b294_4, x294, M294))
noncomputable def f_X5_goThrough_b136_8 (l8_4 : Int32) (l8_5 : Int32) (L8 : zm_Mem) (x51 : Int32) (b136_s1 : Int32) (b136_s2 : Int32) : Option ((Int32 × Int32 × Int32 × zm_Mem) ⊕ ((Int32 × zm_Mem) ⊕ zm_Mem ⊕ zm_Mem ⊕ zm_Mem ⊕ zm_Mem)) :=
 zm_ck (zm_in b136_s1 24) <| zm_v (zm_sI L8 50 b136_s1.toNatClampNeg b136_s2) <| fun M136 => zm_v (l8_4 + 1) <| fun x137 => f_X5_goThrough_b294_8 l8_5 x51 x137 M136
noncomputable def f_X5_goThrough_b113_8 (l8_4 : Int32) (l8_5 : Int32) (L8 : zm_Mem) (x37 : Int32) (x49 : Int32) (x51 : Int32) : Option ((Int32 × Int32 × Int32 × zm_Mem) ⊕ ((Int32 × zm_Mem) ⊕ zm_Mem ⊕ zm_Mem ⊕ zm_Mem ⊕ zm_Mem)) :=
 if x37 = 0 then (f_X5_goThrough_b136_8 l8_4 l8_5 L8 x51 l8_4 x49) else (zm_ck (zm_in x49 9) <| f_X5_goThrough_b136_8 l8_4 l8_5 L8 x51 l8_4 (L8.1 49 x49.toNatClampNeg))
noncomputable def f_X5_goThrough_b91_8 (l8_4 : Int32) (l8_5 : Int32) (L8 : zm_Mem) (x37 : Int32) (x49 : Int32) (x51 : Int32) : Option ((Int32 × Int32 × Int32 × zm_Mem) ⊕ ((Int32 × zm_Mem) ⊕ zm_Mem ⊕ zm_Mem ⊕ zm_Mem ⊕ zm_Mem)) :=
 if (24 : Int32) ≤ l8_4 then (some (.inr (.inr (.inl L8)))) else (if x37 = (1 : Int32) then (if x49 < (9 : Int32) then (f_X5_goThrough_b113_8 l8_4 l8_5 L8 x37 x49 x51) else (some (.inr (.inr (.inl L8))))) else (f_X5_goThrough_b113_8 l8_4 l8_5 L8 x37 x49 x51))
noncomputable def f_X5_goThrough_b266_8 (l8_5 : Int32) (L8 : zm_Mem) (x250 : Int32) (b266_s0 : Int32) : Option ((Int32 × Int32 × Int32 × zm_Mem) ⊕ ((Int32 × zm_Mem) ⊕ zm_Mem ⊕ zm_Mem ⊕ zm_Mem ⊕ zm_Mem)) :=
 f_X5_goThrough_b294_8 l8_5 b266_s0 x250 L8
noncomputable def f_X5_goThrough_l8 (a1 : Nat) (l8_3 : Int32) (l8_4 : Int32) (l8_5 : Int32) (L8 : zm_Mem) : Option ((Int32 × Int32 × Int32 × zm_Mem) ⊕ ((Int32 × zm_Mem) ⊕ zm_Mem ⊕ zm_Mem ⊕ zm_Mem ⊕ zm_Mem)) :=
 if (408 : Int32) ≤ l8_5 then (some (.inr (.inr (.inr (.inr (.inr L8)))))) else (if l8_3 < 0 then (some (.inr (.inr (.inr (.inr (.inr L8)))))) else (if (L8.1 a1 10) ≤ l8_3 then (some (.inr (.inr (.inr (.inr (.inr L8)))))) else (zm_ck (zm_in l8_3 408) <| zm_v ((L8.1 (a1 + 10) l8_3.toNatClampNeg) >>> ((14 : Int32) &&& 31)) <| fun x37 => zm_ck (zm_in l8_3 408) <| zm_v ((L8.1 (a1 + 10) l8_3.toNatClampNeg) &&& 16383) <| fun x49 => zm_v (l8_3 + 1) <| fun x51 => if x37 = (7 : Int32) then (some (.inr (.inl (l8_4, L8)))) else (if x37 = 0 then (f_X5_goThrough_b91_8 l8_4 l8_5 L8 x37 x49 x51) else (if x37 = (1 : Int32) then (f_X5_goThrough_b91_8 l8_4 l8_5 L8 x37 x49 x51) else (if (2 : Int32) ≤ l8_4 then (zm_v (l8_4 + (-1)) <| fun x151 => zm_ck (zm_in (x151 - 1) 24) <| zm_v (L8.1 50 (x151 - 1).toNatClampNeg) <| fun x163 => zm_ck (zm_in x151 24) <| zm_v (L8.1 50 x151.toNatClampNeg) <| fun x172 => if x37 = (2 : Int32) then (zm_ck (zm_in (x151 - 1) 24) <| zm_v (zm_sI L8 50 (x151 - 1).toNatClampNeg (x163 + x172)) <| fun M193 => f_X5_goThrough_b294_8 l8_5 x51 x151 M193) else (if x37 = (3 : Int32) then (zm_ck (zm_in (x151 - 1) 24) <| zm_v (zm_sI L8 50 (x151 - 1).toNatClampNeg (x163 - x172)) <| fun M216 => f_X5_goThrough_b294_8 l8_5 x51 x151 M216) else (if x37 = (4 : Int32) then (zm_ck (zm_in (x151 - 1) 24) <| zm_v (zm_sI L8 50 (x151 - 1).toNatClampNeg (x163 * x172)) <| fun M239 => f_X5_goThrough_b294_8 l8_5 x51 x151 M239) else (if x37 = (6 : Int32) then (zm_v (x151 + (-1)) <| fun x250 => if x172 ≤ x163 then (f_X5_goThrough_b266_8 l8_5 L8 x250 x49) else (f_X5_goThrough_b266_8 l8_5 L8 x250 x51)) else (if x172 = 0 then (some (.inr (.inr (.inr (.inr (.inl L8)))))) else (zm_ck (!decide (x172 = 0)) <| zm_ck (zm_in (x151 - 1) 24) <| zm_v (zm_sI L8 50 (x151 - 1).toNatClampNeg (x163 / x172)) <| fun M288 => f_X5_goThrough_b294_8 l8_5 x51 x151 M288)))))) else (some (.inr (.inr (.inr (.inl L8)))))))))))
noncomputable def f_X5_goThrough (a1 : Nat) (a2 : Int32) (M : zm_Mem) : Option (Int32 × zm_Mem) :=
  (zm_lp (fun s => f_X5_goThrough_l8 a1 s.1 s.2.1 s.2.2.1 s.2.2.2) (a2, 0, 0, M)).bind (Sum.elim (fun e61 => f_X5_goThrough_x61_8 e61.1 e61.2) (Sum.elim (fun e111 => some (0, e111)) (Sum.elim (fun e149 => some (0, e149)) (Sum.elim (fun e292 => some (0, e292)) (fun e300 => some (0, e300))))))
set_option maxRecDepth 20000 in
set_option maxHeartbeats 4000000 in
theorem k_X5_goThrough (E : zm_E) (sv : Nat) (a1 : Nat) (a2 : Int32) (ha1 : zm_isT a1 = true) (M : zm_Mem) {r : Int32} {M' : zm_Mem} (h : f_X5_goThrough a1 a2 M = some (r, M')) : zm_Ct E (zm_w sv) (zm_w sv) yX5_goThrough Y_X5_goThrough [.ref (E.2.1 + 48), .ref (E.2.1 + a1), .int a2] M (some (.int r)) M' := by
  refine zm_meth (emb := zm_ei) (d := f_X5_goThrough a1 a2 M) (by decide) rfl rfl (Nat.le_of_ble_eq_true rfl) h (fun X => ?_)
  show zm_V X Y_X5_goThrough E (zm_Q X E Y_X5_goThrough.2.2.2.1.cells Y_X5_goThrough.2.2.2.1.slots (zm_w sv) zm_ei) 0 0 false (zm_w sv) 0 [(0, .ref (E.2.1 + 48)), (1, .ref (E.2.1 + a1)), (2, .int a2)] [] M (f_X5_goThrough a1 a2 M) some
  unfold f_X5_goThrough
  refine zm_iload_n 1 rfl dX5_goThrough_0 rfl 2 rfl ?_
  refine zm_istore_n (lv' := [(3, .int a2), (0, .ref (E.2.1 + 48)), (1, .ref (E.2.1 + a1)), (2, .int a2)]) 2 rfl dX5_goThrough_1 rfl (by decide) rfl ?_
  refine zm_iconst 3 rfl dX5_goThrough_2 zi_0 ?_
  refine zm_istore (lv' := [(4, .int 0), (3, .int a2), (0, .ref (E.2.1 + 48)), (1, .ref (E.2.1 + a1)), (2, .int a2)]) 5 rfl dX5_goThrough_3 (by decide) rfl ?_
  refine zm_iconst 6 rfl dX5_goThrough_5 zi_0 ?_
  refine zm_istore (lv' := [(5, .int 0), (4, .int 0), (3, .int a2), (0, .ref (E.2.1 + 48)), (1, .ref (E.2.1 + a1)), (2, .int a2)]) 8 rfl dX5_goThrough_6 (by decide) rfl ?_
  have hx61_8 : ∀ (e61_4 : Int32) (N61 : zm_Mem), zm_V X Y_X5_goThrough E (zm_Q X E Y_X5_goThrough.2.2.2.1.cells Y_X5_goThrough.2.2.2.1.slots (zm_w sv) zm_ei) 0 0 false (zm_w sv) 61 [(0, .ref (E.2.1 + 48)), (4, .int e61_4)] [] N61 (f_X5_goThrough_x61_8 e61_4 N61) some := by
    intro e61_4 N61
    unfold f_X5_goThrough_x61_8
    refine zm_iload 63 rfl dX5_goThrough_61 1 rfl ?_
    refine zm_if_le 78 66 (by decide) rfl dX5_goThrough_63 ?_ ?_
    · refine zm_iconst 79 rfl dX5_goThrough_78 zi_0 ?_
      exact zm_iret dX5_goThrough_79 rfl (Nat.le_refl _) (Nat.le_refl _) rfl
    · refine zm_aload_n 67 rfl dX5_goThrough_66 rfl 0 rfl ?_
      refine zm_getR (a := 50) 70 rfl dX5_goThrough_67 fl_X5_13 rfl (zm_L (sv := sv) rfl) rfl (by decide) ?_
      refine zm_iload 72 rfl dX5_goThrough_70 1 rfl ?_
      refine zm_iconst 73 rfl dX5_goThrough_72 zi_1 ?_
      refine zm_isub 74 rfl dX5_goThrough_73 ?_
      refine zm_iald 75 rfl dX5_goThrough_74 rfl (zm_L (sv := sv) rfl) ?_
      refine zm_goto 79 (by decide) dX5_goThrough_75 ?_
      exact zm_iret dX5_goThrough_79 rfl (Nat.le_refl _) (Nat.le_refl _) rfl
  have hx111_8 : ∀ (N111 : zm_Mem), zm_V X Y_X5_goThrough E (zm_Q X E Y_X5_goThrough.2.2.2.1.cells Y_X5_goThrough.2.2.2.1.slots (zm_w sv) zm_ei) 0 0 false (zm_w sv) 111 [] [] N111 (some (0, N111)) some := by
    intro N111
    refine zm_iconst 112 rfl dX5_goThrough_111 zi_0 ?_
    exact zm_iret dX5_goThrough_112 rfl (Nat.le_refl _) (Nat.le_refl _) rfl
  have hx149_8 : ∀ (N149 : zm_Mem), zm_V X Y_X5_goThrough E (zm_Q X E Y_X5_goThrough.2.2.2.1.cells Y_X5_goThrough.2.2.2.1.slots (zm_w sv) zm_ei) 0 0 false (zm_w sv) 149 [] [] N149 (some (0, N149)) some := by
    intro N149
    refine zm_iconst 150 rfl dX5_goThrough_149 zi_0 ?_
    exact zm_iret dX5_goThrough_150 rfl (Nat.le_refl _) (Nat.le_refl _) rfl
  have hx292_8 : ∀ (N292 : zm_Mem), zm_V X Y_X5_goThrough E (zm_Q X E Y_X5_goThrough.2.2.2.1.cells Y_X5_goThrough.2.2.2.1.slots (zm_w sv) zm_ei) 0 0 false (zm_w sv) 292 [] [] N292 (some (0, N292)) some := by
    intro N292
    refine zm_iconst 293 rfl dX5_goThrough_292 zi_0 ?_
    exact zm_iret dX5_goThrough_293 rfl (Nat.le_refl _) (Nat.le_refl _) rfl
  have hx300_8 : ∀ (N300 : zm_Mem), zm_V X Y_X5_goThrough E (zm_Q X E Y_X5_goThrough.2.2.2.1.cells Y_X5_goThrough.2.2.2.1.slots (zm_w sv) zm_ei) 0 0 false (zm_w sv) 300 [] [] N300 (some (0, N300)) some := by
    intro N300
    refine zm_iconst 301 rfl dX5_goThrough_300 zi_0 ?_
    exact zm_iret dX5_goThrough_301 rfl (Nat.le_refl _) (Nat.le_refl _) rfl
  refine zm_loc [3, 4, 2, 1, 0] rfl (zm_lpp (σ := (Int32 × Int32 × Int32 × zm_Mem)) (ε := ((Int32 × zm_Mem) ⊕ zm_Mem ⊕ zm_Mem ⊕ zm_Mem ⊕ zm_Mem)) (step := fun s => f_X5_goThrough_l8 a1 s.1 s.2.1 s.2.2.1 s.2.2.2) (fun s => [(0, .ref (E.2.1 + 48)), (1, .ref (E.2.1 + a1)), (3, .int s.1), (4, .int s.2.1), (5, .int s.2.2.1)]) (fun s => s.2.2.2) (fun D8 f8 hf8a hf8b hD8 s => ?_) (a2, 0, 0, M))
  obtain ⟨l8_3, l8_4, l8_5, L8⟩ := s
  show zm_V X Y_X5_goThrough E (zm_Q X E Y_X5_goThrough.2.2.2.1.cells Y_X5_goThrough.2.2.2.1.slots (zm_w sv) zm_ei) 0 0 false (zm_w sv) 8 [(0, .ref (E.2.1 + 48)), (1, .ref (E.2.1 + a1)), (3, .int l8_3), (4, .int l8_4), (5, .int l8_5)] [] L8 (f_X5_goThrough_l8 a1 l8_3 l8_4 l8_5 L8) f8
  unfold f_X5_goThrough_l8
  refine zm_iload 10 rfl dX5_goThrough_8 4 rfl ?_
  refine zm_sipush 13 rfl dX5_goThrough_10 zs_408 ?_
  refine zm_icmp_ge 300 16 (by decide) rfl dX5_goThrough_13 ?_ ?_
  · exact zm_loc [] rfl (zm_go (hf8b _) (zm_unb (hx300_8 L8)))
  · refine zm_iload_n 17 rfl dX5_goThrough_16 rfl 2 rfl ?_
    refine zm_if_lt 300 20 (by decide) rfl dX5_goThrough_17 ?_ ?_
    · exact zm_loc [] rfl (zm_go (hf8b _) (zm_unb (hx300_8 L8)))
    · refine zm_iload_n 21 rfl dX5_goThrough_20 rfl 2 rfl ?_
      refine zm_aload_n 22 rfl dX5_goThrough_21 rfl 1 rfl ?_
      refine zm_getI 25 rfl dX5_goThrough_22 fl_X5_18 (zm_T_o ha1) (zm_T_l0 (sv := sv) ha1) ?_
      refine zm_icmp_ge 300 28 (by decide) rfl dX5_goThrough_25 ?_ ?_
      · exact zm_loc [] rfl (zm_go (hf8b _) (zm_unb (hx300_8 L8)))
      · refine zm_aload_n 29 rfl dX5_goThrough_28 rfl 1 rfl ?_
        refine zm_getR (a := a1 + 10) 32 rfl dX5_goThrough_29 fl_X5_22 (zm_T_o ha1) (zm_T_l0 (sv := sv) ha1) (zm_T_r ha1 9 (by decide)) (Nat.succ_ne_zero _) ?_
        refine zm_iload_n 33 rfl dX5_goThrough_32 rfl 2 rfl ?_
        refine zm_iald 34 rfl dX5_goThrough_33 (zm_T_a ha1 10 (by decide)) (zm_T_l (sv := sv) ha1 10 (by decide)) ?_
        refine zm_bipush 36 rfl dX5_goThrough_34 zb_14 ?_
        refine zm_ishr 37 rfl dX5_goThrough_36 ?_
        refine zm_nmi (fun x37 _ => ?_)
        refine zm_istore (lv' := [(6, .int x37), (0, .ref (E.2.1 + 48)), (1, .ref (E.2.1 + a1)), (3, .int l8_3), (4, .int l8_4), (5, .int l8_5)]) 39 rfl dX5_goThrough_37 (by decide) rfl ?_
        refine zm_aload_n 40 rfl dX5_goThrough_39 rfl 2 rfl ?_
        refine zm_getR (a := a1 + 10) 43 rfl dX5_goThrough_40 fl_X5_22 (zm_T_o ha1) (zm_T_l0 (sv := sv) ha1) (zm_T_r ha1 9 (by decide)) (Nat.succ_ne_zero _) ?_
        refine zm_iload_n 44 rfl dX5_goThrough_43 rfl 3 rfl ?_
        refine zm_iald 45 rfl dX5_goThrough_44 (zm_T_a ha1 10 (by decide)) (zm_T_l (sv := sv) ha1 10 (by decide)) ?_
        refine zm_sipush 48 rfl dX5_goThrough_45 zs_16383 ?_
        refine zm_iand 49 rfl dX5_goThrough_48 ?_
        refine zm_nmi (fun x49 _ => ?_)
        refine zm_istore (lv' := [(7, .int x49), (6, .int x37), (0, .ref (E.2.1 + 48)), (1, .ref (E.2.1 + a1)), (3, .int l8_3), (4, .int l8_4), (5, .int l8_5)]) 51 rfl dX5_goThrough_49 (by decide) rfl ?_
        refine zm_iinc (lv' := fun z => [(3, .int z), (7, .int x49), (6, .int x37), (0, .ref (E.2.1 + 48)), (1, .ref (E.2.1 + a1)), (4, .int l8_4), (5, .int l8_5)]) 54 rfl dX5_goThrough_51 zi_1 4 rfl (by decide) (fun _ => rfl) (fun x51 _ => ?_)
        refine zm_iload 56 rfl dX5_goThrough_54 2 rfl ?_
        refine zm_bipush 58 rfl dX5_goThrough_56 zb_7 ?_
        refine zm_icmp_ne 80 61 (by decide) rfl dX5_goThrough_58 ?_ ?_
        · exact zm_loc [3, 5] rfl (zm_go (hf8b _) (zm_unb (hx61_8 l8_4 L8)))
        · refine zm_iload 82 rfl dX5_goThrough_80 2 rfl ?_
          have hb294_8 : ∀ (b294_3 : Int32) (b294_4 : Int32) (M294 : zm_Mem), zm_V X Y_X5_goThrough E (zm_Q X E Y_X5_goThrough.2.2.2.1.cells Y_X5_goThrough.2.2.2.1.slots (zm_w sv) zm_ei) 0 0 false (zm_w sv) 294 [(0, .ref (E.2.1 + 48)), (1, .ref (E.2.1 + a1)), (3, .int b294_3), (4, .int b294_4), (5, .int l8_5)] [] M294 (f_X5_goThrough_b294_8 l8_5 b294_3 b294_4 M294) f8 := by
            intro b294_3 b294_4 M294
            unfold f_X5_goThrough_b294_8
            refine zm_iinc (lv' := fun z => [(5, .int z), (0, .ref (E.2.1 + 48)), (1, .ref (E.2.1 + a1)), (3, .int b294_3), (4, .int b294_4)]) 297 rfl dX5_goThrough_294 zi_1 4 rfl (by decide) (fun _ => rfl) (fun x294 _ => ?_)
            refine zm_goto 8 (by decide) dX5_goThrough_297 ?_
            exact zm_loc [1, 2, 3, 4, 0] rfl (zm_go (hf8a _) (hD8 (b294_3, b294_4, x294, M294)))
          have hb91_8 : zm_V X Y_X5_goThrough E (zm_Q X E Y_X5_goThrough.2.2.2.1.cells Y_X5_goThrough.2.2.2.1.slots (zm_w sv) zm_ei) 0 0 false (zm_w sv) 91 [(0, .ref (E.2.1 + 48)), (1, .ref (E.2.1 + a1)), (3, .int x51), (4, .int l8_4), (5, .int l8_5), (6, .int x37), (7, .int x49)] [] L8 (f_X5_goThrough_b91_8 l8_4 l8_5 L8 x37 x49 x51) f8 := by
            unfold f_X5_goThrough_b91_8
            refine zm_iload 93 rfl dX5_goThrough_91 3 rfl ?_
            refine zm_bipush 95 rfl dX5_goThrough_93 zb_24 ?_
            refine zm_icmp_ge 111 98 (by decide) rfl dX5_goThrough_95 ?_ ?_
            · exact zm_loc [] rfl (zm_go (hf8b _) (zm_unb (hx111_8 L8)))
            · refine zm_iload 100 rfl dX5_goThrough_98 5 rfl ?_
              refine zm_iconst 101 rfl dX5_goThrough_100 zi_1 ?_
              have hb113_8 : zm_V X Y_X5_goThrough E (zm_Q X E Y_X5_goThrough.2.2.2.1.cells Y_X5_goThrough.2.2.2.1.slots (zm_w sv) zm_ei) 0 0 false (zm_w sv) 113 [(0, .ref (E.2.1 + 48)), (1, .ref (E.2.1 + a1)), (3, .int x51), (4, .int l8_4), (5, .int l8_5), (6, .int x37), (7, .int x49)] [] L8 (f_X5_goThrough_b113_8 l8_4 l8_5 L8 x37 x49 x51) f8 := by
                unfold f_X5_goThrough_b113_8
                refine zm_aload_n 114 rfl dX5_goThrough_113 rfl 0 rfl ?_
                refine zm_getR (a := 50) 117 rfl dX5_goThrough_114 fl_X5_13 rfl (zm_L (sv := sv) rfl) rfl (by decide) ?_
                refine zm_iload 119 rfl dX5_goThrough_117 3 rfl ?_
                refine zm_iload 121 rfl dX5_goThrough_119 5 rfl ?_
                have hb136_8 : ∀ (b136_s1 : Int32) (b136_s2 : Int32), zm_V X Y_X5_goThrough E (zm_Q X E Y_X5_goThrough.2.2.2.1.cells Y_X5_goThrough.2.2.2.1.slots (zm_w sv) zm_ei) 0 0 false (zm_w sv) 136 [(0, .ref (E.2.1 + 48)), (1, .ref (E.2.1 + a1)), (3, .int x51), (4, .int l8_4), (5, .int l8_5)] [.int b136_s2, .int b136_s1, .ref (E.2.1 + 50)] L8 (f_X5_goThrough_b136_8 l8_4 l8_5 L8 x51 b136_s1 b136_s2) f8 := by
                  intro b136_s1 b136_s2
                  unfold f_X5_goThrough_b136_8
                  refine zm_iast 137 rfl dX5_goThrough_136 rfl (zm_L (sv := sv) rfl) (fun M136 _ => ?_)
                  refine zm_iinc (lv' := fun z => [(4, .int z), (0, .ref (E.2.1 + 48)), (1, .ref (E.2.1 + a1)), (3, .int x51), (5, .int l8_5)]) 140 rfl dX5_goThrough_137 zi_1 3 rfl (by decide) (fun _ => rfl) (fun x137 _ => ?_)
                  refine zm_goto 294 (by decide) dX5_goThrough_140 ?_
                  exact zm_loc [1, 2, 3, 0, 4] rfl (hb294_8 x51 x137 M136)
                refine zm_if_ne 129 124 (by decide) rfl dX5_goThrough_121 ?_ ?_
                · refine zm_iload 126 rfl dX5_goThrough_124 6 rfl ?_
                  refine zm_goto 136 (by decide) dX5_goThrough_126 ?_
                  exact zm_loc [0, 1, 2, 3, 4] rfl (hb136_8 l8_4 x49)
                · refine zm_aload_n 130 rfl dX5_goThrough_129 rfl 0 rfl ?_
                  refine zm_getR (a := 49) 133 rfl dX5_goThrough_130 fl_X5_9 rfl (zm_L (sv := sv) rfl) rfl (by decide) ?_
                  refine zm_iload 135 rfl dX5_goThrough_133 6 rfl ?_
                  refine zm_iald 136 rfl dX5_goThrough_135 rfl (zm_L (sv := sv) rfl) ?_
                  exact zm_loc [0, 1, 2, 3, 4] rfl (hb136_8 l8_4 (L8.1 49 x49.toNatClampNeg))
              refine zm_icmp_ne 113 104 (by decide) rfl dX5_goThrough_101 ?_ ?_
              · refine zm_iload 106 rfl dX5_goThrough_104 6 rfl ?_
                refine zm_bipush 108 rfl dX5_goThrough_106 zb_9 ?_
                refine zm_icmp_lt 113 111 (by decide) rfl dX5_goThrough_108 ?_ ?_
                · exact zm_loc [0, 1, 2, 3, 4, 5, 6] rfl (hb113_8)
                · exact zm_loc [] rfl (zm_go (hf8b _) (zm_unb (hx111_8 L8)))
              · exact zm_loc [0, 1, 2, 3, 4, 5, 6] rfl (hb113_8)
          refine zm_if_eq 91 85 (by decide) rfl dX5_goThrough_82 ?_ ?_
          · exact zm_loc [3, 4, 0, 5, 6, 2, 1] rfl (hb91_8)
          · refine zm_iload 87 rfl dX5_goThrough_85 2 rfl ?_
            refine zm_iconst 88 rfl dX5_goThrough_87 zi_1 ?_
            refine zm_icmp_ne 143 91 (by decide) rfl dX5_goThrough_88 ?_ ?_
            · exact zm_loc [3, 4, 0, 5, 6, 2, 1] rfl (hb91_8)
            · refine zm_iload 145 rfl dX5_goThrough_143 5 rfl ?_
              refine zm_iconst 146 rfl dX5_goThrough_145 zi_2 ?_
              refine zm_icmp_ge 151 149 (by decide) rfl dX5_goThrough_146 ?_ ?_
              · refine zm_iinc (lv' := fun z => [(4, .int z), (3, .int x51), (7, .int x49), (6, .int x37), (0, .ref (E.2.1 + 48)), (1, .ref (E.2.1 + a1)), (5, .int l8_5)]) 154 rfl dX5_goThrough_151 zi_m1 5 rfl (by decide) (fun _ => rfl) (fun x151 _ => ?_)
                refine zm_aload_n 155 rfl dX5_goThrough_154 rfl 4 rfl ?_
                refine zm_getR (a := 50) 158 rfl dX5_goThrough_155 fl_X5_13 rfl (zm_L (sv := sv) rfl) rfl (by decide) ?_
                refine zm_iload 160 rfl dX5_goThrough_158 0 rfl ?_
                refine zm_iconst 161 rfl dX5_goThrough_160 zi_1 ?_
                refine zm_isub 162 rfl dX5_goThrough_161 ?_
                refine zm_iald 163 rfl dX5_goThrough_162 rfl (zm_L (sv := sv) rfl) ?_
                refine zm_nmi (fun x163 _ => ?_)
                refine zm_istore (lv' := [(8, .int x163), (4, .int x151), (3, .int x51), (7, .int x49), (6, .int x37), (0, .ref (E.2.1 + 48)), (1, .ref (E.2.1 + a1)), (5, .int l8_5)]) 165 rfl dX5_goThrough_163 (by decide) rfl ?_
                refine zm_aload_n 166 rfl dX5_goThrough_165 rfl 5 rfl ?_
                refine zm_getR (a := 50) 169 rfl dX5_goThrough_166 fl_X5_13 rfl (zm_L (sv := sv) rfl) rfl (by decide) ?_
                refine zm_iload 171 rfl dX5_goThrough_169 1 rfl ?_
                refine zm_iald 172 rfl dX5_goThrough_171 rfl (zm_L (sv := sv) rfl) ?_
                refine zm_nmi (fun x172 _ => ?_)
                refine zm_istore (lv' := [(9, .int x172), (8, .int x163), (4, .int x151), (3, .int x51), (7, .int x49), (6, .int x37), (0, .ref (E.2.1 + 48)), (1, .ref (E.2.1 + a1)), (5, .int l8_5)]) 174 rfl dX5_goThrough_172 (by decide) rfl ?_
                refine zm_iload 176 rfl dX5_goThrough_174 5 rfl ?_
                refine zm_iconst 177 rfl dX5_goThrough_176 zi_2 ?_
                refine zm_icmp_ne 197 180 (by decide) rfl dX5_goThrough_177 ?_ ?_
                · refine zm_aload_n 181 rfl dX5_goThrough_180 rfl 6 rfl ?_
                  refine zm_getR (a := 50) 184 rfl dX5_goThrough_181 fl_X5_13 rfl (zm_L (sv := sv) rfl) rfl (by decide) ?_
                  refine zm_iload 186 rfl dX5_goThrough_184 2 rfl ?_
                  refine zm_iconst 187 rfl dX5_goThrough_186 zi_1 ?_
                  refine zm_isub 188 rfl dX5_goThrough_187 ?_
                  refine zm_iload 190 rfl dX5_goThrough_188 1 rfl ?_
                  refine zm_iload 192 rfl dX5_goThrough_190 0 rfl ?_
                  refine zm_iadd 193 rfl dX5_goThrough_192 ?_
                  refine zm_iast 194 rfl dX5_goThrough_193 rfl (zm_L (sv := sv) rfl) (fun M193 _ => ?_)
                  refine zm_goto 294 (by decide) dX5_goThrough_194 ?_
                  exact zm_loc [6, 7, 3, 2, 8] rfl (hb294_8 x51 x151 M193)
                · refine zm_iload 199 rfl dX5_goThrough_197 5 rfl ?_
                  refine zm_iconst 200 rfl dX5_goThrough_199 zi_3 ?_
                  refine zm_icmp_ne 220 203 (by decide) rfl dX5_goThrough_200 ?_ ?_
                  · refine zm_aload_n 204 rfl dX5_goThrough_203 rfl 6 rfl ?_
                    refine zm_getR (a := 50) 207 rfl dX5_goThrough_204 fl_X5_13 rfl (zm_L (sv := sv) rfl) rfl (by decide) ?_
                    refine zm_iload 209 rfl dX5_goThrough_207 2 rfl ?_
                    refine zm_iconst 210 rfl dX5_goThrough_209 zi_1 ?_
                    refine zm_isub 211 rfl dX5_goThrough_210 ?_
                    refine zm_iload 213 rfl dX5_goThrough_211 1 rfl ?_
                    refine zm_iload 215 rfl dX5_goThrough_213 0 rfl ?_
                    refine zm_isub 216 rfl dX5_goThrough_215 ?_
                    refine zm_iast 217 rfl dX5_goThrough_216 rfl (zm_L (sv := sv) rfl) (fun M216 _ => ?_)
                    refine zm_goto 294 (by decide) dX5_goThrough_217 ?_
                    exact zm_loc [6, 7, 3, 2, 8] rfl (hb294_8 x51 x151 M216)
                  · refine zm_iload 222 rfl dX5_goThrough_220 5 rfl ?_
                    refine zm_iconst 223 rfl dX5_goThrough_222 zi_4 ?_
                    refine zm_icmp_ne 243 226 (by decide) rfl dX5_goThrough_223 ?_ ?_
                    · refine zm_aload_n 227 rfl dX5_goThrough_226 rfl 6 rfl ?_
                      refine zm_getR (a := 50) 230 rfl dX5_goThrough_227 fl_X5_13 rfl (zm_L (sv := sv) rfl) rfl (by decide) ?_
                      refine zm_iload 232 rfl dX5_goThrough_230 2 rfl ?_
                      refine zm_iconst 233 rfl dX5_goThrough_232 zi_1 ?_
                      refine zm_isub 234 rfl dX5_goThrough_233 ?_
                      refine zm_iload 236 rfl dX5_goThrough_234 1 rfl ?_
                      refine zm_iload 238 rfl dX5_goThrough_236 0 rfl ?_
                      refine zm_imul 239 rfl dX5_goThrough_238 ?_
                      refine zm_iast 240 rfl dX5_goThrough_239 rfl (zm_L (sv := sv) rfl) (fun M239 _ => ?_)
                      refine zm_goto 294 (by decide) dX5_goThrough_240 ?_
                      exact zm_loc [6, 7, 3, 2, 8] rfl (hb294_8 x51 x151 M239)
                    · refine zm_iload 245 rfl dX5_goThrough_243 5 rfl ?_
                      refine zm_bipush 247 rfl dX5_goThrough_245 zb_6 ?_
                      refine zm_icmp_ne 270 250 (by decide) rfl dX5_goThrough_247 ?_ ?_
                      · refine zm_iinc (lv' := fun z => [(4, .int z), (9, .int x172), (8, .int x163), (3, .int x51), (7, .int x49), (6, .int x37), (0, .ref (E.2.1 + 48)), (1, .ref (E.2.1 + a1)), (5, .int l8_5)]) 253 rfl dX5_goThrough_250 zi_m1 2 rfl (by decide) (fun _ => rfl) (fun x250 _ => ?_)
                        refine zm_iload 255 rfl dX5_goThrough_253 2 rfl ?_
                        refine zm_iload 257 rfl dX5_goThrough_255 1 rfl ?_
                        have hb266_8 : ∀ (b266_s0 : Int32), zm_V X Y_X5_goThrough E (zm_Q X E Y_X5_goThrough.2.2.2.1.cells Y_X5_goThrough.2.2.2.1.slots (zm_w sv) zm_ei) 0 0 false (zm_w sv) 266 [(0, .ref (E.2.1 + 48)), (1, .ref (E.2.1 + a1)), (4, .int x250), (5, .int l8_5)] [.int b266_s0] L8 (f_X5_goThrough_b266_8 l8_5 L8 x250 b266_s0) f8 := by
                          intro b266_s0
                          unfold f_X5_goThrough_b266_8
                          refine zm_istore_n (lv' := [(3, .int b266_s0), (0, .ref (E.2.1 + 48)), (1, .ref (E.2.1 + a1)), (4, .int x250), (5, .int l8_5)]) 267 rfl dX5_goThrough_266 rfl (by decide) rfl ?_
                          refine zm_goto 294 (by decide) dX5_goThrough_267 ?_
                          exact zm_loc [1, 2, 0, 3, 4] rfl (hb294_8 b266_s0 x250 L8)
                        refine zm_icmp_ge 264 260 (by decide) rfl dX5_goThrough_257 ?_ ?_
                        · refine zm_iload 266 rfl dX5_goThrough_264 4 rfl ?_
                          exact zm_loc [6, 7, 0, 8] rfl (hb266_8 x49)
                        · refine zm_iload_n 261 rfl dX5_goThrough_260 rfl 3 rfl ?_
                          refine zm_goto 266 (by decide) dX5_goThrough_261 ?_
                          exact zm_loc [6, 7, 0, 8] rfl (hb266_8 x51)
                      · refine zm_iload 272 rfl dX5_goThrough_270 0 rfl ?_
                        refine zm_if_eq 292 275 (by decide) rfl dX5_goThrough_272 ?_ ?_
                        · exact zm_loc [] rfl (zm_go (hf8b _) (zm_unb (hx292_8 L8)))
                        · refine zm_aload_n 276 rfl dX5_goThrough_275 rfl 6 rfl ?_
                          refine zm_getR (a := 50) 279 rfl dX5_goThrough_276 fl_X5_13 rfl (zm_L (sv := sv) rfl) rfl (by decide) ?_
                          refine zm_iload 281 rfl dX5_goThrough_279 2 rfl ?_
                          refine zm_iconst 282 rfl dX5_goThrough_281 zi_1 ?_
                          refine zm_isub 283 rfl dX5_goThrough_282 ?_
                          refine zm_iload 285 rfl dX5_goThrough_283 1 rfl ?_
                          refine zm_iload 287 rfl dX5_goThrough_285 0 rfl ?_
                          refine zm_idiv 288 rfl dX5_goThrough_287 ?_
                          refine zm_iast 289 rfl dX5_goThrough_288 rfl (zm_L (sv := sv) rfl) (fun M288 _ => ?_)
                          refine zm_goto 294 (by decide) dX5_goThrough_289 ?_
                          exact zm_loc [6, 7, 3, 2, 8] rfl (hb294_8 x51 x151 M288)
              · exact zm_loc [] rfl (zm_go (hf8b _) (zm_unb (hx149_8 L8)))
abbrev Y_X3_keptAsEntered : zm_Y := (cX3_keptAsEntered, 2, RX3, { frames := 1, cells := 0, slots := 0, locals := 29 }, (some .boolean), false, "keptAsEntered")
noncomputable def f_X3_keptAsEntered (a1 : Int32) (M : zm_Mem) : Option (Int32 × zm_Mem) :=
  zm_v (M.2.2 47 2) <| fun t5 => zm_ck (zm_isT t5) <| zm_v (M.2.2 47 2) <| fun t9 => zm_ck (zm_isT t9) <| zm_ck (zm_in a1 6) <| zm_b2 (f_X5_goThrough t5 (M.1 (t9 + 8) a1.toNatClampNeg) M) <| fun r17 M17 => zm_v (M17.2.2 47 2) <| fun t25 => zm_ck (zm_isT t25) <| zm_v (M17.2.2 47 2) <| fun t29 => zm_ck (zm_isT t29) <| zm_ck (zm_in a1 6) <| zm_b2 (f_X5_goThrough t25 (M17.1 (t29 + 9) a1.toNatClampNeg) M17) <| fun r37 M37 => if r37 ≤ r17 then (some (0, M37)) else (some (1, M37))
set_option maxRecDepth 20000 in
set_option maxHeartbeats 4000000 in
theorem k_X3_keptAsEntered (E : zm_E) (sv : Nat) (a1 : Int32) (M : zm_Mem) {r : Int32} {M' : zm_Mem} (h : f_X3_keptAsEntered a1 M = some (r, M')) : zm_Ct E (zm_w sv) (zm_w sv) yX3_keptAsEntered Y_X3_keptAsEntered [.ref (E.2.1 + 47), .int a1] M (some (.int r)) M' := by
  refine zm_meth (emb := zm_ei) (d := f_X3_keptAsEntered a1 M) (by decide) rfl rfl (Nat.le_of_ble_eq_true rfl) h (fun X => ?_)
  show zm_V X Y_X3_keptAsEntered E (zm_Q X E Y_X3_keptAsEntered.2.2.2.1.cells Y_X3_keptAsEntered.2.2.2.1.slots (zm_w sv) zm_ei) 0 0 false (zm_w sv) 0 [(0, .ref (E.2.1 + 47)), (1, .int a1)] [] M (f_X3_keptAsEntered a1 M) some
  unfold f_X3_keptAsEntered
  refine zm_aload_n 1 rfl dX3_keptAsEntered_0 rfl 0 rfl ?_
  refine zm_getR (a := 48) 4 rfl dX3_keptAsEntered_1 fl_X3_12 rfl (zm_L (sv := sv) rfl) rfl (by decide) ?_
  refine zm_aload_n 5 rfl dX3_keptAsEntered_4 rfl 0 rfl ?_
  refine zm_getT 8 rfl dX3_keptAsEntered_5 fl_X3_22 rfl (zm_L (sv := sv) rfl) (fun t5 _ ht5 => ?_)
  refine zm_aload_n 9 rfl dX3_keptAsEntered_8 rfl 0 rfl ?_
  refine zm_getT 12 rfl dX3_keptAsEntered_9 fl_X3_22 rfl (zm_L (sv := sv) rfl) (fun t9 _ ht9 => ?_)
  refine zm_getR (a := t9 + 8) 15 rfl dX3_keptAsEntered_12 fl_X3_63 (zm_T_o ht9) (zm_T_l0 (sv := sv) ht9) (zm_T_r ht9 7 (by decide)) (Nat.succ_ne_zero _) ?_
  refine zm_iload_n 16 rfl dX3_keptAsEntered_15 rfl 1 rfl ?_
  refine zm_iald 17 rfl dX3_keptAsEntered_16 (zm_T_a ht9 8 (by decide)) (zm_T_l (sv := sv) ht9 8 (by decide)) ?_
  refine zm_cV2i 20 rfl dX3_keptAsEntered_17 ml_X3_66 rfl (zm_L (sv := sv) rfl) rfl (Nat.le_of_ble_eq_true rfl) ⟨Nat.le_of_ble_eq_true rfl, Nat.le_of_ble_eq_true rfl⟩ rfl rfl ⟨Nat.le_refl _, Nat.le_refl _⟩ rfl (fun _ _ h => k_X5_goThrough E sv t5 (M.1 (t9 + 8) a1.toNatClampNeg) ht5 M h) (fun r17 M17 => ?_)
  refine zm_aload_n 21 rfl dX3_keptAsEntered_20 rfl 0 rfl ?_
  refine zm_getR (a := 48) 24 rfl dX3_keptAsEntered_21 fl_X3_12 rfl (zm_L (sv := sv) rfl) rfl (by decide) ?_
  refine zm_aload_n 25 rfl dX3_keptAsEntered_24 rfl 0 rfl ?_
  refine zm_getT 28 rfl dX3_keptAsEntered_25 fl_X3_22 rfl (zm_L (sv := sv) rfl) (fun t25 _ ht25 => ?_)
  refine zm_aload_n 29 rfl dX3_keptAsEntered_28 rfl 0 rfl ?_
  refine zm_getT 32 rfl dX3_keptAsEntered_29 fl_X3_22 rfl (zm_L (sv := sv) rfl) (fun t29 _ ht29 => ?_)
  refine zm_getR (a := t29 + 9) 35 rfl dX3_keptAsEntered_32 fl_X3_70 (zm_T_o ht29) (zm_T_l0 (sv := sv) ht29) (zm_T_r ht29 8 (by decide)) (Nat.succ_ne_zero _) ?_
  refine zm_iload_n 36 rfl dX3_keptAsEntered_35 rfl 1 rfl ?_
  refine zm_iald 37 rfl dX3_keptAsEntered_36 (zm_T_a ht29 9 (by decide)) (zm_T_l (sv := sv) ht29 9 (by decide)) ?_
  refine zm_cV2i 40 rfl dX3_keptAsEntered_37 ml_X3_66 rfl (zm_L (sv := sv) rfl) rfl (Nat.le_of_ble_eq_true rfl) ⟨Nat.le_of_ble_eq_true rfl, Nat.le_of_ble_eq_true rfl⟩ rfl rfl ⟨Nat.le_refl _, Nat.le_refl _⟩ rfl (fun _ _ h => k_X5_goThrough E sv t25 (M17.1 (t29 + 9) a1.toNatClampNeg) ht25 M17 h) (fun r37 M37 => ?_)
  refine zm_icmp_ge 47 43 (by decide) rfl dX3_keptAsEntered_40 ?_ ?_
  · refine zm_iconst 48 rfl dX3_keptAsEntered_47 zi_0 ?_
    exact zm_zret dX3_keptAsEntered_48 rfl rfl (Nat.le_refl _) (Nat.le_refl _) rfl
  · refine zm_iconst 44 rfl dX3_keptAsEntered_43 zi_1 ?_
    refine zm_goto 48 (by decide) dX3_keptAsEntered_44 ?_
    exact zm_zret dX3_keptAsEntered_48 rfl rfl (Nat.le_refl _) (Nat.le_refl _) rfl
abbrev Y_X3_brokenAsEntered : zm_Y := (cX3_brokenAsEntered, 4, RX3, { frames := 2, cells := 0, slots := 0, locals := 50 }, (some .int), false, "brokenAsEntered")
noncomputable def f_X3_brokenAsEntered_b38_4 (l4_3 : Int32) (b38_2 : Int32) (M38 : zm_Mem) : Option ((Int32 × Int32 × zm_Mem) ⊕ (Int32 × zm_Mem)) :=
 zm_v (l4_3 + 1) <| fun x38 => some (.inl (b38_2, x38, M38))
noncomputable def f_X3_brokenAsEntered_l4 (a1 : Int32) (l4_2 : Int32) (l4_3 : Int32) (L4 : zm_Mem) : Option ((Int32 × Int32 × zm_Mem) ⊕ (Int32 × zm_Mem)) :=
 zm_v (L4.2.2 47 2) <| fun t6 => zm_ck (zm_isT t6) <| if (L4.1 t6 13) ≤ l4_3 then (some (.inr (l4_2, L4))) else (if ((a1 >>> (l4_3 &&& 31)) &&& 1) = (1 : Int32) then (zm_b2 (f_X3_keptAsEntered l4_3 L4) <| fun r26 M26 => if r26 = 0 then (zm_v (l4_2 ||| ((1 : Int32) <<< (l4_3 &&& 31))) <| fun x37 => f_X3_brokenAsEntered_b38_4 l4_3 x37 M26) else (f_X3_brokenAsEntered_b38_4 l4_3 l4_2 M26)) else (f_X3_brokenAsEntered_b38_4 l4_3 l4_2 L4))
noncomputable def f_X3_brokenAsEntered (a1 : Int32) (M : zm_Mem) : Option (Int32 × zm_Mem) :=
  (zm_lp (fun s => f_X3_brokenAsEntered_l4 a1 s.1 s.2.1 s.2.2) (0, 0, M)).bind (fun e44 => some (e44.1, e44.2))
set_option maxRecDepth 20000 in
set_option maxHeartbeats 4000000 in
theorem k_X3_brokenAsEntered (E : zm_E) (sv : Nat) (a1 : Int32) (M : zm_Mem) {r : Int32} {M' : zm_Mem} (h : f_X3_brokenAsEntered a1 M = some (r, M')) : zm_Ct E (zm_w sv) (zm_w sv) yX3_brokenAsEntered Y_X3_brokenAsEntered [.ref (E.2.1 + 47), .int a1] M (some (.int r)) M' := by
  refine zm_meth (emb := zm_ei) (d := f_X3_brokenAsEntered a1 M) (by decide) rfl rfl (Nat.le_of_ble_eq_true rfl) h (fun X => ?_)
  show zm_V X Y_X3_brokenAsEntered E (zm_Q X E Y_X3_brokenAsEntered.2.2.2.1.cells Y_X3_brokenAsEntered.2.2.2.1.slots (zm_w sv) zm_ei) 0 0 false (zm_w sv) 0 [(0, .ref (E.2.1 + 47)), (1, .int a1)] [] M (f_X3_brokenAsEntered a1 M) some
  unfold f_X3_brokenAsEntered
  refine zm_iconst 1 rfl dX3_brokenAsEntered_0 zi_0 ?_
  refine zm_istore_n (lv' := [(2, .int 0), (0, .ref (E.2.1 + 47)), (1, .int a1)]) 2 rfl dX3_brokenAsEntered_1 rfl (by decide) rfl ?_
  refine zm_iconst 3 rfl dX3_brokenAsEntered_2 zi_0 ?_
  refine zm_istore_n (lv' := [(3, .int 0), (2, .int 0), (0, .ref (E.2.1 + 47)), (1, .int a1)]) 4 rfl dX3_brokenAsEntered_3 rfl (by decide) rfl ?_
  have hx44_4 : ∀ (e44_2 : Int32) (N44 : zm_Mem), zm_V X Y_X3_brokenAsEntered E (zm_Q X E Y_X3_brokenAsEntered.2.2.2.1.cells Y_X3_brokenAsEntered.2.2.2.1.slots (zm_w sv) zm_ei) 0 0 false (zm_w sv) 44 [(2, .int e44_2)] [] N44 (some (e44_2, N44)) some := by
    intro e44_2 N44
    refine zm_iload_n 45 rfl dX3_brokenAsEntered_44 rfl 0 rfl ?_
    exact zm_iret dX3_brokenAsEntered_45 rfl (Nat.le_refl _) (Nat.le_refl _) rfl
  refine zm_loc [2, 3, 1, 0] rfl (zm_lpp (σ := (Int32 × Int32 × zm_Mem)) (ε := (Int32 × zm_Mem)) (step := fun s => f_X3_brokenAsEntered_l4 a1 s.1 s.2.1 s.2.2) (fun s => [(0, .ref (E.2.1 + 47)), (1, .int a1), (2, .int s.1), (3, .int s.2.1)]) (fun s => s.2.2) (fun D4 f4 hf4a hf4b hD4 s => ?_) (0, 0, M))
  obtain ⟨l4_2, l4_3, L4⟩ := s
  show zm_V X Y_X3_brokenAsEntered E (zm_Q X E Y_X3_brokenAsEntered.2.2.2.1.cells Y_X3_brokenAsEntered.2.2.2.1.slots (zm_w sv) zm_ei) 0 0 false (zm_w sv) 4 [(0, .ref (E.2.1 + 47)), (1, .int a1), (2, .int l4_2), (3, .int l4_3)] [] L4 (f_X3_brokenAsEntered_l4 a1 l4_2 l4_3 L4) f4
  unfold f_X3_brokenAsEntered_l4
  refine zm_iload_n 5 rfl dX3_brokenAsEntered_4 rfl 3 rfl ?_
  refine zm_aload_n 6 rfl dX3_brokenAsEntered_5 rfl 0 rfl ?_
  refine zm_getT 9 rfl dX3_brokenAsEntered_6 fl_X3_22 rfl (zm_L (sv := sv) rfl) (fun t6 _ ht6 => ?_)
  refine zm_getI 12 rfl dX3_brokenAsEntered_9 fl_X3_73 (zm_T_o ht6) (zm_T_l0 (sv := sv) ht6) ?_
  refine zm_icmp_ge 44 15 (by decide) rfl dX3_brokenAsEntered_12 ?_ ?_
  · exact zm_loc [2] rfl (zm_go (hf4b _) (zm_unb (hx44_4 l4_2 L4)))
  · refine zm_iload_n 16 rfl dX3_brokenAsEntered_15 rfl 1 rfl ?_
    refine zm_iload_n 17 rfl dX3_brokenAsEntered_16 rfl 3 rfl ?_
    refine zm_ishr 18 rfl dX3_brokenAsEntered_17 ?_
    refine zm_iconst 19 rfl dX3_brokenAsEntered_18 zi_1 ?_
    refine zm_iand 20 rfl dX3_brokenAsEntered_19 ?_
    refine zm_iconst 21 rfl dX3_brokenAsEntered_20 zi_1 ?_
    have hb38_4 : ∀ (b38_2 : Int32) (M38 : zm_Mem), zm_V X Y_X3_brokenAsEntered E (zm_Q X E Y_X3_brokenAsEntered.2.2.2.1.cells Y_X3_brokenAsEntered.2.2.2.1.slots (zm_w sv) zm_ei) 0 0 false (zm_w sv) 38 [(0, .ref (E.2.1 + 47)), (1, .int a1), (2, .int b38_2), (3, .int l4_3)] [] M38 (f_X3_brokenAsEntered_b38_4 l4_3 b38_2 M38) f4 := by
      intro b38_2 M38
      unfold f_X3_brokenAsEntered_b38_4
      refine zm_iinc (lv' := fun z => [(3, .int z), (0, .ref (E.2.1 + 47)), (1, .int a1), (2, .int b38_2)]) 41 rfl dX3_brokenAsEntered_38 zi_1 3 rfl (by decide) (fun _ => rfl) (fun x38 _ => ?_)
      refine zm_goto 4 (by decide) dX3_brokenAsEntered_41 ?_
      exact zm_loc [1, 2, 3, 0] rfl (zm_go (hf4a _) (hD4 (b38_2, x38, M38)))
    refine zm_icmp_ne 38 24 (by decide) rfl dX3_brokenAsEntered_21 ?_ ?_
    · refine zm_aload_n 25 rfl dX3_brokenAsEntered_24 rfl 0 rfl ?_
      refine zm_iload_n 26 rfl dX3_brokenAsEntered_25 rfl 3 rfl ?_
      refine zm_cV1i 29 rfl dX3_brokenAsEntered_26 ml_X3_76 rfl (zm_L (sv := sv) rfl) rfl (Nat.le_of_ble_eq_true rfl) ⟨Nat.le_of_ble_eq_true rfl, Nat.le_of_ble_eq_true rfl⟩ rfl rfl ⟨Nat.le_refl _, Nat.le_refl _⟩ rfl (fun _ _ h => k_X3_keptAsEntered E sv l4_3 L4 h) (fun r26 M26 => ?_)
      refine zm_if_ne 38 32 (by decide) rfl dX3_brokenAsEntered_29 ?_ ?_
      · refine zm_iload_n 33 rfl dX3_brokenAsEntered_32 rfl 2 rfl ?_
        refine zm_iconst 34 rfl dX3_brokenAsEntered_33 zi_1 ?_
        refine zm_iload_n 35 rfl dX3_brokenAsEntered_34 rfl 3 rfl ?_
        refine zm_ishl 36 rfl dX3_brokenAsEntered_35 ?_
        refine zm_ior 37 rfl dX3_brokenAsEntered_36 ?_
        refine zm_nmi (fun x37 _ => ?_)
        refine zm_istore_n (lv' := [(2, .int x37), (0, .ref (E.2.1 + 47)), (1, .int a1), (3, .int l4_3)]) 38 rfl dX3_brokenAsEntered_37 rfl (by decide) rfl ?_
        exact zm_loc [1, 2, 0, 3] rfl (hb38_4 x37 M26)
      · exact zm_loc [0, 1, 2, 3] rfl (hb38_4 l4_2 M26)
    · exact zm_loc [0, 1, 2, 3] rfl (hb38_4 l4_2 L4)
abbrev Y_X3_termKept : zm_Y := (cX3_termKept, 3, RX3, { frames := 2, cells := 0, slots := 0, locals := 51 }, (some .boolean), false, "termKept")
noncomputable def f_X3_termKept (a1 : Int32) (a2 : Int32) (M : zm_Mem) : Option (Int32 × zm_Mem) :=
  zm_v (M.2.2 47 2) <| fun t2 => zm_ck (zm_isT t2) <| zm_ck (zm_in a1 6) <| zm_b2 (f_X3_enter (M.1 (t2 + 7) a1.toNatClampNeg) a2 (-1) M) <| fun _ M12 => zm_b2 (f_X3_keptAsEntered a1 M12) <| fun r17 M17 => zm_ck (decide (r17 &&& 1 = r17) && fits .boolean (.int r17)) <| some (r17, M17)
set_option maxRecDepth 20000 in
set_option maxHeartbeats 4000000 in
theorem k_X3_termKept (E : zm_E) (sv : Nat) (a1 : Int32) (a2 : Int32) (M : zm_Mem) {r : Int32} {M' : zm_Mem} (h : f_X3_termKept a1 a2 M = some (r, M')) : zm_Ct E (zm_w sv) (zm_w sv) yX3_termKept Y_X3_termKept [.ref (E.2.1 + 47), .int a1, .int a2] M (some (.int r)) M' := by
  refine zm_meth (emb := zm_ei) (d := f_X3_termKept a1 a2 M) (by decide) rfl rfl (Nat.le_of_ble_eq_true rfl) h (fun X => ?_)
  show zm_V X Y_X3_termKept E (zm_Q X E Y_X3_termKept.2.2.2.1.cells Y_X3_termKept.2.2.2.1.slots (zm_w sv) zm_ei) 0 0 false (zm_w sv) 0 [(0, .ref (E.2.1 + 47)), (1, .int a1), (2, .int a2)] [] M (f_X3_termKept a1 a2 M) some
  unfold f_X3_termKept
  refine zm_aload_n 1 rfl dX3_termKept_0 rfl 0 rfl ?_
  refine zm_aload_n 2 rfl dX3_termKept_1 rfl 0 rfl ?_
  refine zm_getT 5 rfl dX3_termKept_2 fl_X3_22 rfl (zm_L (sv := sv) rfl) (fun t2 _ ht2 => ?_)
  refine zm_getR (a := t2 + 7) 8 rfl dX3_termKept_5 fl_X3_80 (zm_T_o ht2) (zm_T_l0 (sv := sv) ht2) (zm_T_r ht2 6 (by decide)) (Nat.succ_ne_zero _) ?_
  refine zm_iload_n 9 rfl dX3_termKept_8 rfl 1 rfl ?_
  refine zm_iald 10 rfl dX3_termKept_9 (zm_T_a ht2 7 (by decide)) (zm_T_l (sv := sv) ht2 7 (by decide)) ?_
  refine zm_iload_n 11 rfl dX3_termKept_10 rfl 2 rfl ?_
  refine zm_iconst 12 rfl dX3_termKept_11 zi_m1 ?_
  refine zm_cV3v 15 rfl dX3_termKept_12 ml_X3_83 rfl (zm_L (sv := sv) rfl) rfl (Nat.le_of_ble_eq_true rfl) ⟨Nat.le_of_ble_eq_true rfl, Nat.le_of_ble_eq_true rfl⟩ rfl rfl ⟨Nat.le_refl _, Nat.le_refl _⟩ rfl (fun _ _ h => k_X3_enter E sv (M.1 (t2 + 7) a1.toNatClampNeg) a2 (-1) M h) (fun _ M12 => ?_)
  refine zm_aload_n 16 rfl dX3_termKept_15 rfl 0 rfl ?_
  refine zm_iload_n 17 rfl dX3_termKept_16 rfl 1 rfl ?_
  refine zm_cV1i 20 rfl dX3_termKept_17 ml_X3_76 rfl (zm_L (sv := sv) rfl) rfl (Nat.le_of_ble_eq_true rfl) ⟨Nat.le_of_ble_eq_true rfl, Nat.le_of_ble_eq_true rfl⟩ rfl rfl ⟨Nat.le_refl _, Nat.le_refl _⟩ rfl (fun _ _ h => k_X3_keptAsEntered E sv a1 M12 h) (fun r17 M17 => ?_)
  refine zm_gd (fun hg20 => ?_)
  exact zm_zret dX3_termKept_20 rfl (zm_bl1 hg20) (Nat.le_refl _) (Nat.le_refl _) rfl
abbrev Y_X8_termsOf : zm_Y := (cX8_termsOf, 4, RX8, { frames := 0, cells := 0, slots := 0, locals := 0 }, (some .int), false, "termsOf")
noncomputable def f_X8_termsOf_b28_4 (l4_3 : Int32) (b28_2 : Int32) : Option ((Int32 × Int32) ⊕ Int32) :=
 zm_v (l4_3 + 1) <| fun x28 => some (.inl (b28_2, x28))
noncomputable def f_X8_termsOf_l4 (t : Nat) (a1 : Int32) (M : zm_Mem) (l4_2 : Int32) (l4_3 : Int32) : Option ((Int32 × Int32) ⊕ Int32) :=
 if (M.1 t 13) ≤ l4_3 then (some (.inr l4_2)) else (zm_ck (zm_in l4_3 6) <| if (M.1 (t + 7) l4_3.toNatClampNeg) = a1 then (zm_v (l4_2 ||| ((1 : Int32) <<< (l4_3 &&& 31))) <| fun x27 => f_X8_termsOf_b28_4 l4_3 x27) else (f_X8_termsOf_b28_4 l4_3 l4_2))
noncomputable def f_X8_termsOf (t : Nat) (a1 : Int32) (M : zm_Mem) : Option Int32 :=
  (zm_lp (fun s => f_X8_termsOf_l4 t a1 M s.1 s.2) (0, 0)).bind (fun e34 => some e34)
set_option maxRecDepth 20000 in
set_option maxHeartbeats 4000000 in
theorem k_X8_termsOf (E : zm_E) (w : zm_W) (t : Nat) (a1 : Int32) (ht : zm_isT t = true) (hwl : t + 10 ≤ w.1) (hwr : ∀ j, j < 10 → w.2 t j = t + (j + 1)) (M : zm_Mem) {r : Int32} (h : f_X8_termsOf t a1 M = some r) : zm_Ct E w w yX8_termsOf Y_X8_termsOf [.ref (E.2.1 + t), .int a1] M (some (.int r)) M := by
  refine zm_methr (emb := zm_ei) (d := f_X8_termsOf t a1 M) (by decide) rfl rfl (Nat.le_of_ble_eq_true rfl) h (fun X => ?_)
  show zm_V X Y_X8_termsOf E (zm_Q X E Y_X8_termsOf.2.2.2.1.cells Y_X8_termsOf.2.2.2.1.slots w zm_ei) 0 0 false w 0 [(0, .ref (E.2.1 + t)), (1, .int a1)] [] M (f_X8_termsOf t a1 M) (fun r => some (r, M))
  unfold f_X8_termsOf
  refine zm_iconst 1 rfl dX8_termsOf_0 zi_0 ?_
  refine zm_istore_n (lv' := [(2, .int 0), (0, .ref (E.2.1 + t)), (1, .int a1)]) 2 rfl dX8_termsOf_1 rfl (by decide) rfl ?_
  refine zm_iconst 3 rfl dX8_termsOf_2 zi_0 ?_
  refine zm_istore_n (lv' := [(3, .int 0), (2, .int 0), (0, .ref (E.2.1 + t)), (1, .int a1)]) 4 rfl dX8_termsOf_3 rfl (by decide) rfl ?_
  have hx34_4 : ∀ (e34_2 : Int32), zm_V X Y_X8_termsOf E (zm_Q X E Y_X8_termsOf.2.2.2.1.cells Y_X8_termsOf.2.2.2.1.slots w zm_ei) 0 0 false w 34 [(2, .int e34_2)] [] M (some e34_2) (fun r => some (r, M)) := by
    intro e34_2
    refine zm_iload_n 35 rfl dX8_termsOf_34 rfl 0 rfl ?_
    exact zm_iret dX8_termsOf_35 rfl (Nat.le_refl _) (Nat.le_refl _) rfl
  refine zm_loc [2, 3, 1, 0] rfl (zm_lpp (σ := (Int32 × Int32)) (ε := Int32) (step := fun s => f_X8_termsOf_l4 t a1 M s.1 s.2) (fun s => [(0, .ref (E.2.1 + t)), (1, .int a1), (2, .int s.1), (3, .int s.2)]) (fun _ => M) (fun D4 f4 hf4a hf4b hD4 s => ?_) (0, 0))
  obtain ⟨l4_2, l4_3⟩ := s
  show zm_V X Y_X8_termsOf E (zm_Q X E Y_X8_termsOf.2.2.2.1.cells Y_X8_termsOf.2.2.2.1.slots w zm_ei) 0 0 false w 4 [(0, .ref (E.2.1 + t)), (1, .int a1), (2, .int l4_2), (3, .int l4_3)] [] M (f_X8_termsOf_l4 t a1 M l4_2 l4_3) f4
  unfold f_X8_termsOf_l4
  refine zm_iload_n 5 rfl dX8_termsOf_4 rfl 3 rfl ?_
  refine zm_aload_n 6 rfl dX8_termsOf_5 rfl 0 rfl ?_
  refine zm_getI 9 rfl dX8_termsOf_6 fl_X8_52 (zm_T_o ht) (zm_T_lw ht hwl 0 (by decide)) ?_
  refine zm_icmp_ge 34 12 (by decide) rfl dX8_termsOf_9 ?_ ?_
  · exact zm_loc [2] rfl (zm_go (hf4b _) (zm_unb (hx34_4 l4_2)))
  · refine zm_aload_n 13 rfl dX8_termsOf_12 rfl 0 rfl ?_
    refine zm_getR (a := t + 7) 16 rfl dX8_termsOf_13 fl_X8_30 (zm_T_o ht) (zm_T_lw ht hwl 0 (by decide)) (hwr 6 (by decide)) (Nat.succ_ne_zero _) ?_
    refine zm_iload_n 17 rfl dX8_termsOf_16 rfl 3 rfl ?_
    refine zm_iald 18 rfl dX8_termsOf_17 (zm_T_a ht 7 (by decide)) (zm_T_lw ht hwl 7 (by decide)) ?_
    refine zm_iload_n 19 rfl dX8_termsOf_18 rfl 1 rfl ?_
    have hb28_4 : ∀ (b28_2 : Int32), zm_V X Y_X8_termsOf E (zm_Q X E Y_X8_termsOf.2.2.2.1.cells Y_X8_termsOf.2.2.2.1.slots w zm_ei) 0 0 false w 28 [(0, .ref (E.2.1 + t)), (1, .int a1), (2, .int b28_2), (3, .int l4_3)] [] M (f_X8_termsOf_b28_4 l4_3 b28_2) f4 := by
      intro b28_2
      unfold f_X8_termsOf_b28_4
      refine zm_iinc (lv' := fun z => [(3, .int z), (0, .ref (E.2.1 + t)), (1, .int a1), (2, .int b28_2)]) 31 rfl dX8_termsOf_28 zi_1 3 rfl (by decide) (fun _ => rfl) (fun x28 _ => ?_)
      refine zm_goto 4 (by decide) dX8_termsOf_31 ?_
      exact zm_loc [1, 2, 3, 0] rfl (zm_go (hf4a _) (hD4 (b28_2, x28)))
    refine zm_icmp_ne 28 22 (by decide) rfl dX8_termsOf_19 ?_ ?_
    · refine zm_iload_n 23 rfl dX8_termsOf_22 rfl 2 rfl ?_
      refine zm_iconst 24 rfl dX8_termsOf_23 zi_1 ?_
      refine zm_iload_n 25 rfl dX8_termsOf_24 rfl 3 rfl ?_
      refine zm_ishl 26 rfl dX8_termsOf_25 ?_
      refine zm_ior 27 rfl dX8_termsOf_26 ?_
      refine zm_nmi (fun x27 _ => ?_)
      refine zm_istore_n (lv' := [(2, .int x27), (0, .ref (E.2.1 + t)), (1, .int a1), (3, .int l4_3)]) 28 rfl dX8_termsOf_27 rfl (by decide) rfl ?_
      exact zm_loc [1, 2, 0, 3] rfl (hb28_4 x27)
    · exact zm_loc [0, 1, 2, 3] rfl (hb28_4 l4_2)
abbrev Y_X3_canHang : zm_Y := (cX3_canHang, 4, RX3, { frames := 3, cells := 0, slots := 0, locals := 73 }, (some .boolean), false, "canHang")
noncomputable def f_X3_canHang_b49 (M49 : zm_Mem) : Option (Int32 × zm_Mem) :=
 some (0, M49)
noncomputable def f_X3_canHang (a1 : Int32) (a2 : Int32) (a3 : Int32) (M : zm_Mem) : Option (Int32 × zm_Mem) :=
  zm_b2 (f_X3_enter a1 a2 (-1) M) <| fun _ M4 => zm_ck (zm_in 4 9) <| zm_v (M4.2.2 47 2) <| fun t17 => zm_ck (zm_isT t17) <| zm_ck (zm_in a2 5) <| if (M4.1 (t17 + 2) a2.toNatClampNeg) ≤ (M4.1 49 (4 : Int32).toNatClampNeg) then (f_X3_canHang_b49 M4) else (zm_v (M4.2.2 47 2) <| fun t30 => zm_ck (zm_isT t30) <| zm_b1 (f_X8_termsOf t30 a1 M4) <| fun r34 => zm_b2 (f_X3_brokenAsEntered (r34 &&& a3) M4) <| fun r39 M39 => if r39 = 0 then (some (1, M39)) else (f_X3_canHang_b49 M39))
set_option maxRecDepth 20000 in
set_option maxHeartbeats 4000000 in
theorem k_X3_canHang (E : zm_E) (sv : Nat) (a1 : Int32) (a2 : Int32) (a3 : Int32) (M : zm_Mem) {r : Int32} {M' : zm_Mem} (h : f_X3_canHang a1 a2 a3 M = some (r, M')) : zm_Ct E (zm_w sv) (zm_w sv) yX3_canHang Y_X3_canHang [.ref (E.2.1 + 47), .int a1, .int a2, .int a3] M (some (.int r)) M' := by
  refine zm_meth (emb := zm_ei) (d := f_X3_canHang a1 a2 a3 M) (by decide) rfl rfl (Nat.le_of_ble_eq_true rfl) h (fun X => ?_)
  show zm_V X Y_X3_canHang E (zm_Q X E Y_X3_canHang.2.2.2.1.cells Y_X3_canHang.2.2.2.1.slots (zm_w sv) zm_ei) 0 0 false (zm_w sv) 0 [(0, .ref (E.2.1 + 47)), (1, .int a1), (2, .int a2), (3, .int a3)] [] M (f_X3_canHang a1 a2 a3 M) some
  unfold f_X3_canHang
  refine zm_aload_n 1 rfl dX3_canHang_0 rfl 0 rfl ?_
  refine zm_iload_n 2 rfl dX3_canHang_1 rfl 1 rfl ?_
  refine zm_iload_n 3 rfl dX3_canHang_2 rfl 2 rfl ?_
  refine zm_iconst 4 rfl dX3_canHang_3 zi_m1 ?_
  refine zm_cV3v 7 rfl dX3_canHang_4 ml_X3_83 rfl (zm_L (sv := sv) rfl) rfl (Nat.le_of_ble_eq_true rfl) ⟨Nat.le_of_ble_eq_true rfl, Nat.le_of_ble_eq_true rfl⟩ rfl rfl ⟨Nat.le_refl _, Nat.le_refl _⟩ rfl (fun _ _ h => k_X3_enter E sv a1 a2 (-1) M h) (fun _ M4 => ?_)
  refine zm_aload_n 8 rfl dX3_canHang_7 rfl 0 rfl ?_
  refine zm_getR (a := 48) 11 rfl dX3_canHang_8 fl_X3_12 rfl (zm_L (sv := sv) rfl) rfl (by decide) ?_
  refine zm_getR (a := 49) 14 rfl dX3_canHang_11 fl_X3_26 rfl (zm_L (sv := sv) rfl) rfl (by decide) ?_
  refine zm_iconst 15 rfl dX3_canHang_14 zi_4 ?_
  refine zm_iald 16 rfl dX3_canHang_15 rfl (zm_L (sv := sv) rfl) ?_
  refine zm_aload_n 17 rfl dX3_canHang_16 rfl 0 rfl ?_
  refine zm_getT 20 rfl dX3_canHang_17 fl_X3_22 rfl (zm_L (sv := sv) rfl) (fun t17 _ ht17 => ?_)
  refine zm_getR (a := t17 + 2) 23 rfl dX3_canHang_20 fl_X3_54 (zm_T_o ht17) (zm_T_l0 (sv := sv) ht17) (zm_T_r ht17 1 (by decide)) (Nat.succ_ne_zero _) ?_
  refine zm_iload_n 24 rfl dX3_canHang_23 rfl 2 rfl ?_
  refine zm_iald 25 rfl dX3_canHang_24 (zm_T_a ht17 2 (by decide)) (zm_T_l (sv := sv) ht17 2 (by decide)) ?_
  have hb49 : ∀ (M49 : zm_Mem), zm_V X Y_X3_canHang E (zm_Q X E Y_X3_canHang.2.2.2.1.cells Y_X3_canHang.2.2.2.1.slots (zm_w sv) zm_ei) 0 0 false (zm_w sv) 49 [] [] M49 (f_X3_canHang_b49 M49) some := by
    intro M49
    unfold f_X3_canHang_b49
    refine zm_iconst 50 rfl dX3_canHang_49 zi_0 ?_
    exact zm_zret dX3_canHang_50 rfl rfl (Nat.le_refl _) (Nat.le_refl _) rfl
  refine zm_icmp_ge 49 28 (by decide) rfl dX3_canHang_25 ?_ ?_
  · exact zm_loc [] rfl (hb49 M4)
  · refine zm_aload_n 29 rfl dX3_canHang_28 rfl 0 rfl ?_
    refine zm_aload_n 30 rfl dX3_canHang_29 rfl 0 rfl ?_
    refine zm_getT 33 rfl dX3_canHang_30 fl_X3_22 rfl (zm_L (sv := sv) rfl) (fun t30 _ ht30 => ?_)
    refine zm_iload_n 34 rfl dX3_canHang_33 rfl 1 rfl ?_
    refine zm_cV1ir 37 rfl dX3_canHang_34 ml_X3_87 (zm_T_o ht30) (zm_T_l0 (sv := sv) ht30) rfl (Nat.le_of_ble_eq_true rfl) ⟨Nat.le_of_ble_eq_true rfl, Nat.le_of_ble_eq_true rfl⟩ rfl rfl ⟨Nat.le_refl _, Nat.le_refl _⟩ rfl (fun _ h => k_X8_termsOf E (zm_w sv) t30 a1 ht30 (zm_T_l (sv := sv) ht30 10 (Nat.le_refl _)).2 (fun j hj => zm_T_r ht30 j hj) M4 h) (fun r34 => ?_)
    refine zm_iload_n 38 rfl dX3_canHang_37 rfl 3 rfl ?_
    refine zm_iand 39 rfl dX3_canHang_38 ?_
    refine zm_cV1i 42 rfl dX3_canHang_39 ml_X3_90 rfl (zm_L (sv := sv) rfl) rfl (Nat.le_of_ble_eq_true rfl) ⟨Nat.le_of_ble_eq_true rfl, Nat.le_of_ble_eq_true rfl⟩ rfl rfl ⟨Nat.le_refl _, Nat.le_refl _⟩ rfl (fun _ _ h => k_X3_brokenAsEntered E sv (r34 &&& a3) M4 h) (fun r39 M39 => ?_)
    refine zm_if_ne 49 45 (by decide) rfl dX3_canHang_42 ?_ ?_
    · refine zm_iconst 46 rfl dX3_canHang_45 zi_1 ?_
      refine zm_goto 50 (by decide) dX3_canHang_46 ?_
      exact zm_zret dX3_canHang_50 rfl rfl (Nat.le_refl _) (Nat.le_refl _) rfl
    · exact zm_loc [] rfl (hb49 M39)
abbrev Y_X3_allWell : zm_Y := (cX3_allWell, 3, RX3, { frames := 4, cells := 0, slots := 0, locals := 96 }, (some .boolean), false, "allWell")
noncomputable def f_X3_allWell_b40_2 (l2_2 : Int32) (M40 : zm_Mem) : Option ((Int32 × zm_Mem) ⊕ (zm_Mem ⊕ zm_Mem)) :=
 zm_v (l2_2 + 1) <| fun x40 => some (.inl (x40, M40))
noncomputable def f_X3_allWell_l2 (a1 : Int32) (l2_2 : Int32) (L2 : zm_Mem) : Option ((Int32 × zm_Mem) ⊕ (zm_Mem ⊕ zm_Mem)) :=
 zm_v (L2.2.2 47 2) <| fun t4 => zm_ck (zm_isT t4) <| if (L2.1 t4 12) ≤ l2_2 then (some (.inr (.inr L2))) else (zm_ck (zm_in l2_2 6) <| if (L2.1 51 l2_2.toNatClampNeg) = (-1 : Int32) then (f_X3_allWell_b40_2 l2_2 L2) else (zm_ck (zm_in l2_2 6) <| zm_b2 (f_X3_canHang l2_2 (L2.1 51 l2_2.toNatClampNeg) a1 L2) <| fun r32 M32 => if r32 = 0 then (some (.inr (.inl M32))) else (f_X3_allWell_b40_2 l2_2 M32)))
noncomputable def f_X3_allWell (a1 : Int32) (M : zm_Mem) : Option (Int32 × zm_Mem) :=
  (zm_lp (fun s => f_X3_allWell_l2 a1 s.1 s.2) (0, M)).bind (Sum.elim (fun e38 => some (0, e38)) (fun e46 => some (1, e46)))
set_option maxRecDepth 20000 in
set_option maxHeartbeats 4000000 in
theorem k_X3_allWell (E : zm_E) (sv : Nat) (a1 : Int32) (M : zm_Mem) {r : Int32} {M' : zm_Mem} (h : f_X3_allWell a1 M = some (r, M')) : zm_Ct E (zm_w sv) (zm_w sv) yX3_allWell Y_X3_allWell [.ref (E.2.1 + 47), .int a1] M (some (.int r)) M' := by
  refine zm_meth (emb := zm_ei) (d := f_X3_allWell a1 M) (by decide) rfl rfl (Nat.le_of_ble_eq_true rfl) h (fun X => ?_)
  show zm_V X Y_X3_allWell E (zm_Q X E Y_X3_allWell.2.2.2.1.cells Y_X3_allWell.2.2.2.1.slots (zm_w sv) zm_ei) 0 0 false (zm_w sv) 0 [(0, .ref (E.2.1 + 47)), (1, .int a1)] [] M (f_X3_allWell a1 M) some
  unfold f_X3_allWell
  refine zm_iconst 1 rfl dX3_allWell_0 zi_0 ?_
  refine zm_istore_n (lv' := [(2, .int 0), (0, .ref (E.2.1 + 47)), (1, .int a1)]) 2 rfl dX3_allWell_1 rfl (by decide) rfl ?_
  have hx38_2 : ∀ (N38 : zm_Mem), zm_V X Y_X3_allWell E (zm_Q X E Y_X3_allWell.2.2.2.1.cells Y_X3_allWell.2.2.2.1.slots (zm_w sv) zm_ei) 0 0 false (zm_w sv) 38 [] [] N38 (some (0, N38)) some := by
    intro N38
    refine zm_iconst 39 rfl dX3_allWell_38 zi_0 ?_
    exact zm_zret dX3_allWell_39 rfl rfl (Nat.le_refl _) (Nat.le_refl _) rfl
  have hx46_2 : ∀ (N46 : zm_Mem), zm_V X Y_X3_allWell E (zm_Q X E Y_X3_allWell.2.2.2.1.cells Y_X3_allWell.2.2.2.1.slots (zm_w sv) zm_ei) 0 0 false (zm_w sv) 46 [] [] N46 (some (1, N46)) some := by
    intro N46
    refine zm_iconst 47 rfl dX3_allWell_46 zi_1 ?_
    exact zm_zret dX3_allWell_47 rfl rfl (Nat.le_refl _) (Nat.le_refl _) rfl
  refine zm_loc [1, 2, 0] rfl (zm_lpp (σ := (Int32 × zm_Mem)) (ε := (zm_Mem ⊕ zm_Mem)) (step := fun s => f_X3_allWell_l2 a1 s.1 s.2) (fun s => [(0, .ref (E.2.1 + 47)), (1, .int a1), (2, .int s.1)]) (fun s => s.2) (fun D2 f2 hf2a hf2b hD2 s => ?_) (0, M))
  obtain ⟨l2_2, L2⟩ := s
  show zm_V X Y_X3_allWell E (zm_Q X E Y_X3_allWell.2.2.2.1.cells Y_X3_allWell.2.2.2.1.slots (zm_w sv) zm_ei) 0 0 false (zm_w sv) 2 [(0, .ref (E.2.1 + 47)), (1, .int a1), (2, .int l2_2)] [] L2 (f_X3_allWell_l2 a1 l2_2 L2) f2
  unfold f_X3_allWell_l2
  refine zm_iload_n 3 rfl dX3_allWell_2 rfl 2 rfl ?_
  refine zm_aload_n 4 rfl dX3_allWell_3 rfl 0 rfl ?_
  refine zm_getT 7 rfl dX3_allWell_4 fl_X3_22 rfl (zm_L (sv := sv) rfl) (fun t4 _ ht4 => ?_)
  refine zm_getI 10 rfl dX3_allWell_7 fl_X3_29 (zm_T_o ht4) (zm_T_l0 (sv := sv) ht4) ?_
  refine zm_icmp_ge 46 13 (by decide) rfl dX3_allWell_10 ?_ ?_
  · exact zm_loc [] rfl (zm_go (hf2b _) (zm_unb (hx46_2 L2)))
  · refine zm_aload_n 14 rfl dX3_allWell_13 rfl 0 rfl ?_
    refine zm_getR (a := 51) 17 rfl dX3_allWell_14 fl_X3_18 rfl (zm_L (sv := sv) rfl) rfl (by decide) ?_
    refine zm_iload_n 18 rfl dX3_allWell_17 rfl 2 rfl ?_
    refine zm_iald 19 rfl dX3_allWell_18 rfl (zm_L (sv := sv) rfl) ?_
    refine zm_iconst 20 rfl dX3_allWell_19 zi_m1 ?_
    have hb40_2 : ∀ (M40 : zm_Mem), zm_V X Y_X3_allWell E (zm_Q X E Y_X3_allWell.2.2.2.1.cells Y_X3_allWell.2.2.2.1.slots (zm_w sv) zm_ei) 0 0 false (zm_w sv) 40 [(0, .ref (E.2.1 + 47)), (1, .int a1), (2, .int l2_2)] [] M40 (f_X3_allWell_b40_2 l2_2 M40) f2 := by
      intro M40
      unfold f_X3_allWell_b40_2
      refine zm_iinc (lv' := fun z => [(2, .int z), (0, .ref (E.2.1 + 47)), (1, .int a1)]) 43 rfl dX3_allWell_40 zi_1 2 rfl (by decide) (fun _ => rfl) (fun x40 _ => ?_)
      refine zm_goto 2 (by decide) dX3_allWell_43 ?_
      exact zm_loc [1, 2, 0] rfl (zm_go (hf2a _) (hD2 (x40, M40)))
    refine zm_icmp_eq 40 23 (by decide) rfl dX3_allWell_20 ?_ ?_
    · exact zm_loc [0, 1, 2] rfl (hb40_2 L2)
    · refine zm_aload_n 24 rfl dX3_allWell_23 rfl 0 rfl ?_
      refine zm_iload_n 25 rfl dX3_allWell_24 rfl 2 rfl ?_
      refine zm_aload_n 26 rfl dX3_allWell_25 rfl 0 rfl ?_
      refine zm_getR (a := 51) 29 rfl dX3_allWell_26 fl_X3_18 rfl (zm_L (sv := sv) rfl) rfl (by decide) ?_
      refine zm_iload_n 30 rfl dX3_allWell_29 rfl 2 rfl ?_
      refine zm_iald 31 rfl dX3_allWell_30 rfl (zm_L (sv := sv) rfl) ?_
      refine zm_iload_n 32 rfl dX3_allWell_31 rfl 1 rfl ?_
      refine zm_cV3i 35 rfl dX3_allWell_32 ml_X3_93 rfl (zm_L (sv := sv) rfl) rfl (Nat.le_of_ble_eq_true rfl) ⟨Nat.le_of_ble_eq_true rfl, Nat.le_of_ble_eq_true rfl⟩ rfl rfl ⟨Nat.le_refl _, Nat.le_refl _⟩ rfl (fun _ _ h => k_X3_canHang E sv l2_2 (L2.1 51 l2_2.toNatClampNeg) a1 L2 h) (fun r32 M32 => ?_)
      refine zm_if_ne 40 38 (by decide) rfl dX3_allWell_35 ?_ ?_
      · exact zm_loc [] rfl (zm_go (hf2b _) (zm_unb (hx38_2 M32)))
      · exact zm_loc [0, 1, 2] rfl (hb40_2 M32)
abbrev Y_X3_likingAsEntered : zm_Y := (cX3_likingAsEntered, 1, RX3, { frames := 1, cells := 0, slots := 0, locals := 29 }, (some .int), false, "likingAsEntered")
noncomputable def f_X3_likingAsEntered  (M : zm_Mem) : Option (Int32 × zm_Mem) :=
  zm_v (M.2.2 47 2) <| fun t8 => zm_ck (zm_isT t8) <| zm_v (M.2.2 47 2) <| fun t12 => zm_ck (zm_isT t12) <| zm_b2 (f_X5_goThrough t8 (M.1 t12 15) M) <| fun r18 M18 => some (zm_max 0 (zm_min 99 r18), M18)
set_option maxRecDepth 20000 in
set_option maxHeartbeats 4000000 in
theorem k_X3_likingAsEntered (E : zm_E) (sv : Nat)  (M : zm_Mem) {r : Int32} {M' : zm_Mem} (h : f_X3_likingAsEntered M = some (r, M')) : zm_Ct E (zm_w sv) (zm_w sv) yX3_likingAsEntered Y_X3_likingAsEntered [.ref (E.2.1 + 47)] M (some (.int r)) M' := by
  refine zm_meth (emb := zm_ei) (d := f_X3_likingAsEntered M) (by decide) rfl rfl (Nat.le_of_ble_eq_true rfl) h (fun X => ?_)
  show zm_V X Y_X3_likingAsEntered E (zm_Q X E Y_X3_likingAsEntered.2.2.2.1.cells Y_X3_likingAsEntered.2.2.2.1.slots (zm_w sv) zm_ei) 0 0 false (zm_w sv) 0 [(0, .ref (E.2.1 + 47))] [] M (f_X3_likingAsEntered M) some
  unfold f_X3_likingAsEntered
  refine zm_iconst 1 rfl dX3_likingAsEntered_0 zi_0 ?_
  refine zm_bipush 3 rfl dX3_likingAsEntered_1 zb_99 ?_
  refine zm_aload_n 4 rfl dX3_likingAsEntered_3 rfl 0 rfl ?_
  refine zm_getR (a := 48) 7 rfl dX3_likingAsEntered_4 fl_X3_12 rfl (zm_L (sv := sv) rfl) rfl (by decide) ?_
  refine zm_aload_n 8 rfl dX3_likingAsEntered_7 rfl 0 rfl ?_
  refine zm_getT 11 rfl dX3_likingAsEntered_8 fl_X3_22 rfl (zm_L (sv := sv) rfl) (fun t8 _ ht8 => ?_)
  refine zm_aload_n 12 rfl dX3_likingAsEntered_11 rfl 0 rfl ?_
  refine zm_getT 15 rfl dX3_likingAsEntered_12 fl_X3_22 rfl (zm_L (sv := sv) rfl) (fun t12 _ ht12 => ?_)
  refine zm_getI 18 rfl dX3_likingAsEntered_15 fl_X3_101 (zm_T_o ht12) (zm_T_l0 (sv := sv) ht12) ?_
  refine zm_cV2i 21 rfl dX3_likingAsEntered_18 ml_X3_66 rfl (zm_L (sv := sv) rfl) rfl (Nat.le_of_ble_eq_true rfl) ⟨Nat.le_of_ble_eq_true rfl, Nat.le_of_ble_eq_true rfl⟩ rfl rfl ⟨Nat.le_refl _, Nat.le_refl _⟩ rfl (fun _ _ h => k_X5_goThrough E sv t8 (M.1 t12 15) ht8 M h) (fun r18 M18 => ?_)
  refine zm_mmin 24 rfl dX3_likingAsEntered_21 mm_X3_104 mm_st_min in_math mm_co_min (Nat.le_of_ble_eq_true rfl) (Nat.le_of_ble_eq_true rfl) ⟨Nat.le_refl _, Nat.le_refl _⟩ ?_
  refine zm_mmax 27 rfl dX3_likingAsEntered_24 mm_X3_110 mm_st_max in_math mm_co_max (Nat.le_of_ble_eq_true rfl) (Nat.le_of_ble_eq_true rfl) ⟨Nat.le_refl _, Nat.le_refl _⟩ ?_
  exact zm_iret dX3_likingAsEntered_27 rfl (Nat.le_refl _) (Nat.le_refl _) rfl
abbrev Y_X3_liking : zm_Y := (cX3_liking, 4, RX3, { frames := 2, cells := 0, slots := 0, locals := 51 }, (some .int), false, "liking")
noncomputable def f_X3_liking (a1 : Int32) (a2 : Int32) (a3 : Int32) (M : zm_Mem) : Option (Int32 × zm_Mem) :=
  zm_b2 (f_X3_enter a2 a1 a3 M) <| fun _ M4 => zm_b2 (f_X3_likingAsEntered M4) <| fun r8 M8 => some (r8, M8)
set_option maxRecDepth 20000 in
set_option maxHeartbeats 4000000 in
theorem k_X3_liking (E : zm_E) (sv : Nat) (a1 : Int32) (a2 : Int32) (a3 : Int32) (M : zm_Mem) {r : Int32} {M' : zm_Mem} (h : f_X3_liking a1 a2 a3 M = some (r, M')) : zm_Ct E (zm_w sv) (zm_w sv) yX3_liking Y_X3_liking [.ref (E.2.1 + 47), .int a1, .int a2, .int a3] M (some (.int r)) M' := by
  refine zm_meth (emb := zm_ei) (d := f_X3_liking a1 a2 a3 M) (by decide) rfl rfl (Nat.le_of_ble_eq_true rfl) h (fun X => ?_)
  show zm_V X Y_X3_liking E (zm_Q X E Y_X3_liking.2.2.2.1.cells Y_X3_liking.2.2.2.1.slots (zm_w sv) zm_ei) 0 0 false (zm_w sv) 0 [(0, .ref (E.2.1 + 47)), (1, .int a1), (2, .int a2), (3, .int a3)] [] M (f_X3_liking a1 a2 a3 M) some
  unfold f_X3_liking
  refine zm_aload_n 1 rfl dX3_liking_0 rfl 0 rfl ?_
  refine zm_iload_n 2 rfl dX3_liking_1 rfl 2 rfl ?_
  refine zm_iload_n 3 rfl dX3_liking_2 rfl 1 rfl ?_
  refine zm_iload_n 4 rfl dX3_liking_3 rfl 3 rfl ?_
  refine zm_cV3v 7 rfl dX3_liking_4 ml_X3_83 rfl (zm_L (sv := sv) rfl) rfl (Nat.le_of_ble_eq_true rfl) ⟨Nat.le_of_ble_eq_true rfl, Nat.le_of_ble_eq_true rfl⟩ rfl rfl ⟨Nat.le_refl _, Nat.le_refl _⟩ rfl (fun _ _ h => k_X3_enter E sv a2 a1 a3 M h) (fun _ M4 => ?_)
  refine zm_aload_n 8 rfl dX3_liking_7 rfl 0 rfl ?_
  refine zm_cV0i 11 rfl dX3_liking_8 ml_X3_97 rfl (zm_L (sv := sv) rfl) rfl (Nat.le_of_ble_eq_true rfl) ⟨Nat.le_of_ble_eq_true rfl, Nat.le_of_ble_eq_true rfl⟩ rfl rfl ⟨Nat.le_refl _, Nat.le_refl _⟩ rfl (fun _ _ h => k_X3_likingAsEntered E sv M4 h) (fun r8 M8 => ?_)
  exact zm_iret dX3_liking_11 rfl (Nat.le_refl _) (Nat.le_refl _) rfl
abbrev Y_X3_likingAlone : zm_Y := (cX3_likingAlone, 3, RX3, { frames := 2, cells := 0, slots := 0, locals := 49 }, (some .int), false, "likingAlone")
noncomputable def f_X3_likingAlone (a1 : Int32) (a2 : Int32) (M : zm_Mem) : Option (Int32 × zm_Mem) :=
  zm_b2 (f_X3_enterAmong a2 a1 0 0 M) <| fun _ M5 => zm_b2 (f_X3_likingAsEntered M5) <| fun r9 M9 => some (r9, M9)
set_option maxRecDepth 20000 in
set_option maxHeartbeats 4000000 in
theorem k_X3_likingAlone (E : zm_E) (sv : Nat) (a1 : Int32) (a2 : Int32) (M : zm_Mem) {r : Int32} {M' : zm_Mem} (h : f_X3_likingAlone a1 a2 M = some (r, M')) : zm_Ct E (zm_w sv) (zm_w sv) yX3_likingAlone Y_X3_likingAlone [.ref (E.2.1 + 47), .int a1, .int a2] M (some (.int r)) M' := by
  refine zm_meth (emb := zm_ei) (d := f_X3_likingAlone a1 a2 M) (by decide) rfl rfl (Nat.le_of_ble_eq_true rfl) h (fun X => ?_)
  show zm_V X Y_X3_likingAlone E (zm_Q X E Y_X3_likingAlone.2.2.2.1.cells Y_X3_likingAlone.2.2.2.1.slots (zm_w sv) zm_ei) 0 0 false (zm_w sv) 0 [(0, .ref (E.2.1 + 47)), (1, .int a1), (2, .int a2)] [] M (f_X3_likingAlone a1 a2 M) some
  unfold f_X3_likingAlone
  refine zm_aload_n 1 rfl dX3_likingAlone_0 rfl 0 rfl ?_
  refine zm_iload_n 2 rfl dX3_likingAlone_1 rfl 2 rfl ?_
  refine zm_iload_n 3 rfl dX3_likingAlone_2 rfl 1 rfl ?_
  refine zm_iconst 4 rfl dX3_likingAlone_3 zi_0 ?_
  refine zm_iconst 5 rfl dX3_likingAlone_4 zi_0 ?_
  refine zm_cV4v 8 rfl dX3_likingAlone_5 ml_X3_47 rfl (zm_L (sv := sv) rfl) rfl (Nat.le_of_ble_eq_true rfl) ⟨Nat.le_of_ble_eq_true rfl, Nat.le_of_ble_eq_true rfl⟩ rfl rfl ⟨Nat.le_refl _, Nat.le_refl _⟩ rfl (fun _ _ h => k_X3_enterAmong E sv a2 a1 0 0 M h) (fun _ M5 => ?_)
  refine zm_aload_n 9 rfl dX3_likingAlone_8 rfl 0 rfl ?_
  refine zm_cV0i 12 rfl dX3_likingAlone_9 ml_X3_97 rfl (zm_L (sv := sv) rfl) rfl (Nat.le_of_ble_eq_true rfl) ⟨Nat.le_of_ble_eq_true rfl, Nat.le_of_ble_eq_true rfl⟩ rfl rfl ⟨Nat.le_refl _, Nat.le_refl _⟩ rfl (fun _ _ h => k_X3_likingAsEntered E sv M5 h) (fun r9 M9 => ?_)
  exact zm_iret dX3_likingAlone_12 rfl (Nat.le_refl _) (Nat.le_refl _) rfl
abbrev Y_X3_journey : zm_Y := (cX3_journey, 3, RX3, { frames := 1, cells := 0, slots := 0, locals := 29 }, (some .int), false, "journey")
noncomputable def f_X3_journey (a1 : Int32) (a2 : Int32) (M : zm_Mem) : Option (Int32 × zm_Mem) :=
  zm_b2 (f_X3_enterAmong a1 a2 0 0 M) <| fun _ M5 => zm_v (M5.2.2 47 2) <| fun t16 => zm_ck (zm_isT t16) <| zm_v (M5.2.2 47 2) <| fun t20 => zm_ck (zm_isT t20) <| zm_b2 (f_X5_goThrough t16 (M5.1 t20 14) M5) <| fun r26 M26 => some (zm_max 1 (zm_min 99 r26), M26)
set_option maxRecDepth 20000 in
set_option maxHeartbeats 4000000 in
theorem k_X3_journey (E : zm_E) (sv : Nat) (a1 : Int32) (a2 : Int32) (M : zm_Mem) {r : Int32} {M' : zm_Mem} (h : f_X3_journey a1 a2 M = some (r, M')) : zm_Ct E (zm_w sv) (zm_w sv) yX3_journey Y_X3_journey [.ref (E.2.1 + 47), .int a1, .int a2] M (some (.int r)) M' := by
  refine zm_meth (emb := zm_ei) (d := f_X3_journey a1 a2 M) (by decide) rfl rfl (Nat.le_of_ble_eq_true rfl) h (fun X => ?_)
  show zm_V X Y_X3_journey E (zm_Q X E Y_X3_journey.2.2.2.1.cells Y_X3_journey.2.2.2.1.slots (zm_w sv) zm_ei) 0 0 false (zm_w sv) 0 [(0, .ref (E.2.1 + 47)), (1, .int a1), (2, .int a2)] [] M (f_X3_journey a1 a2 M) some
  unfold f_X3_journey
  refine zm_aload_n 1 rfl dX3_journey_0 rfl 0 rfl ?_
  refine zm_iload_n 2 rfl dX3_journey_1 rfl 1 rfl ?_
  refine zm_iload_n 3 rfl dX3_journey_2 rfl 2 rfl ?_
  refine zm_iconst 4 rfl dX3_journey_3 zi_0 ?_
  refine zm_iconst 5 rfl dX3_journey_4 zi_0 ?_
  refine zm_cV4v 8 rfl dX3_journey_5 ml_X3_47 rfl (zm_L (sv := sv) rfl) rfl (Nat.le_of_ble_eq_true rfl) ⟨Nat.le_of_ble_eq_true rfl, Nat.le_of_ble_eq_true rfl⟩ rfl rfl ⟨Nat.le_refl _, Nat.le_refl _⟩ rfl (fun _ _ h => k_X3_enterAmong E sv a1 a2 0 0 M h) (fun _ M5 => ?_)
  refine zm_iconst 9 rfl dX3_journey_8 zi_1 ?_
  refine zm_bipush 11 rfl dX3_journey_9 zb_99 ?_
  refine zm_aload_n 12 rfl dX3_journey_11 rfl 0 rfl ?_
  refine zm_getR (a := 48) 15 rfl dX3_journey_12 fl_X3_12 rfl (zm_L (sv := sv) rfl) rfl (by decide) ?_
  refine zm_aload_n 16 rfl dX3_journey_15 rfl 0 rfl ?_
  refine zm_getT 19 rfl dX3_journey_16 fl_X3_22 rfl (zm_L (sv := sv) rfl) (fun t16 _ ht16 => ?_)
  refine zm_aload_n 20 rfl dX3_journey_19 rfl 0 rfl ?_
  refine zm_getT 23 rfl dX3_journey_20 fl_X3_22 rfl (zm_L (sv := sv) rfl) (fun t20 _ ht20 => ?_)
  refine zm_getI 26 rfl dX3_journey_23 fl_X3_113 (zm_T_o ht20) (zm_T_l0 (sv := sv) ht20) ?_
  refine zm_cV2i 29 rfl dX3_journey_26 ml_X3_66 rfl (zm_L (sv := sv) rfl) rfl (Nat.le_of_ble_eq_true rfl) ⟨Nat.le_of_ble_eq_true rfl, Nat.le_of_ble_eq_true rfl⟩ rfl rfl ⟨Nat.le_refl _, Nat.le_refl _⟩ rfl (fun _ _ h => k_X5_goThrough E sv t16 (M5.1 t20 14) ht16 M5 h) (fun r26 M26 => ?_)
  refine zm_mmin 32 rfl dX3_journey_29 mm_X3_104 mm_st_min in_math mm_co_min (Nat.le_of_ble_eq_true rfl) (Nat.le_of_ble_eq_true rfl) ⟨Nat.le_refl _, Nat.le_refl _⟩ ?_
  refine zm_mmax 35 rfl dX3_journey_32 mm_X3_110 mm_st_max in_math mm_co_max (Nat.le_of_ble_eq_true rfl) (Nat.le_of_ble_eq_true rfl) ⟨Nat.le_refl _, Nat.le_refl _⟩ ?_
  exact zm_iret dX3_journey_35 rfl (Nat.le_refl _) (Nat.le_refl _) rfl
abbrev Y_X4_begin : zm_Y := (cX4_begin, 3, RX4, { frames := 1, cells := 0, slots := 0, locals := 23 }, none, false, "begin")
noncomputable def f_X4_begin_l10 (a1 : Nat) (l10_2 : Int32) (L10 : zm_Mem) : Option ((Int32 × zm_Mem) ⊕ zm_Mem) :=
 if (L10.1 a1 12) ≤ l10_2 then (some (.inr L10)) else (zm_ck (zm_in l10_2 6) <| zm_ck (zm_in (4 + l10_2) 47) <| zm_v (zm_sI L10 12 (4 + l10_2).toNatClampNeg (L10.1 (a1 + 4) l10_2.toNatClampNeg)) <| fun M31 => zm_v (l10_2 + 1) <| fun x32 => some (.inl (x32, M31)))
noncomputable def f_X4_begin (a1 : Nat) (M : zm_Mem) : Option (Unit × zm_Mem) :=
  zm_b2 (f_J7_fill_53178 12 0 M) <| fun _ M5 => (zm_lp (fun s => f_X4_begin_l10 a1 s.1 s.2) (0, M5)).bind (fun e38 => some ((), e38))
set_option maxRecDepth 20000 in
set_option maxHeartbeats 4000000 in
theorem k_X4_begin (E : zm_E) (sv : Nat) (a1 : Nat) (ha1 : zm_isT a1 = true) (M : zm_Mem) {r : Unit} {M' : zm_Mem} (h : f_X4_begin a1 M = some (r, M')) : zm_Ct E (zm_w sv) (zm_w sv) yX4_begin Y_X4_begin [.ref (E.2.1 + 11), .ref (E.2.1 + a1)] M none M' := by
  refine zm_meth (emb := zm_ev) (d := f_X4_begin a1 M) (by decide) rfl rfl (Nat.le_of_ble_eq_true rfl) h (fun X => ?_)
  show zm_V X Y_X4_begin E (zm_Q X E Y_X4_begin.2.2.2.1.cells Y_X4_begin.2.2.2.1.slots (zm_w sv) zm_ev) 0 0 false (zm_w sv) 0 [(0, .ref (E.2.1 + 11)), (1, .ref (E.2.1 + a1))] [] M (f_X4_begin a1 M) some
  unfold f_X4_begin
  refine zm_aload_n 1 rfl dX4_begin_0 rfl 0 rfl ?_
  refine zm_getR (a := 12) 4 rfl dX4_begin_1 fl_X4_11 rfl (zm_L (sv := sv) rfl) rfl (by decide) ?_
  refine zm_iconst 5 rfl dX4_begin_4 zi_0 ?_
  refine zm_cS2v 8 rfl dX4_begin_5 ml_X4_15 (Nat.le_of_ble_eq_true rfl) ⟨Nat.le_of_ble_eq_true rfl, Nat.le_of_ble_eq_true rfl⟩ rfl rfl ⟨Nat.le_refl _, Nat.le_refl _⟩ rfl (fun _ _ h => k_J7_fill_53178 E sv 12 0 ⟨rfl, (zm_L (sv := sv) rfl)⟩ M h) (fun _ M5 => ?_)
  refine zm_iconst 9 rfl dX4_begin_8 zi_0 ?_
  refine zm_istore_n (lv' := [(2, .int 0), (0, .ref (E.2.1 + 11)), (1, .ref (E.2.1 + a1))]) 10 rfl dX4_begin_9 rfl (by decide) rfl ?_
  have hx38_10 : ∀ (N38 : zm_Mem), zm_V X Y_X4_begin E (zm_Q X E Y_X4_begin.2.2.2.1.cells Y_X4_begin.2.2.2.1.slots (zm_w sv) zm_ev) 0 0 false (zm_w sv) 38 [] [] N38 (some ((), N38)) some := by
    intro N38
    exact zm_vret dX4_begin_38 rfl (Nat.le_refl _) (Nat.le_refl _) rfl
  refine zm_loc [1, 2, 0] rfl (zm_lpp (σ := (Int32 × zm_Mem)) (ε := zm_Mem) (step := fun s => f_X4_begin_l10 a1 s.1 s.2) (fun s => [(0, .ref (E.2.1 + 11)), (1, .ref (E.2.1 + a1)), (2, .int s.1)]) (fun s => s.2) (fun D10 f10 hf10a hf10b hD10 s => ?_) (0, M5))
  obtain ⟨l10_2, L10⟩ := s
  show zm_V X Y_X4_begin E (zm_Q X E Y_X4_begin.2.2.2.1.cells Y_X4_begin.2.2.2.1.slots (zm_w sv) zm_ev) 0 0 false (zm_w sv) 10 [(0, .ref (E.2.1 + 11)), (1, .ref (E.2.1 + a1)), (2, .int l10_2)] [] L10 (f_X4_begin_l10 a1 l10_2 L10) f10
  unfold f_X4_begin_l10
  refine zm_iload_n 11 rfl dX4_begin_10 rfl 2 rfl ?_
  refine zm_aload_n 12 rfl dX4_begin_11 rfl 1 rfl ?_
  refine zm_getI 15 rfl dX4_begin_12 fl_X4_21 (zm_T_o ha1) (zm_T_l0 (sv := sv) ha1) ?_
  refine zm_icmp_ge 38 18 (by decide) rfl dX4_begin_15 ?_ ?_
  · exact zm_loc [] rfl (zm_go (hf10b _) (zm_unb (hx38_10 L10)))
  · refine zm_aload_n 19 rfl dX4_begin_18 rfl 0 rfl ?_
    refine zm_getR (a := 12) 22 rfl dX4_begin_19 fl_X4_11 rfl (zm_L (sv := sv) rfl) rfl (by decide) ?_
    refine zm_iconst 23 rfl dX4_begin_22 zi_4 ?_
    refine zm_iload_n 24 rfl dX4_begin_23 rfl 2 rfl ?_
    refine zm_iadd 25 rfl dX4_begin_24 ?_
    refine zm_aload_n 26 rfl dX4_begin_25 rfl 1 rfl ?_
    refine zm_getR (a := a1 + 4) 29 rfl dX4_begin_26 fl_X4_27 (zm_T_o ha1) (zm_T_l0 (sv := sv) ha1) (zm_T_r ha1 3 (by decide)) (Nat.succ_ne_zero _) ?_
    refine zm_iload_n 30 rfl dX4_begin_29 rfl 2 rfl ?_
    refine zm_iald 31 rfl dX4_begin_30 (zm_T_a ha1 4 (by decide)) (zm_T_l (sv := sv) ha1 4 (by decide)) ?_
    refine zm_iast 32 rfl dX4_begin_31 rfl (zm_L (sv := sv) rfl) (fun M31 _ => ?_)
    refine zm_iinc (lv' := fun z => [(2, .int z), (0, .ref (E.2.1 + 11)), (1, .ref (E.2.1 + a1))]) 35 rfl dX4_begin_32 zi_1 2 rfl (by decide) (fun _ => rfl) (fun x32 _ => ?_)
    refine zm_goto 10 (by decide) dX4_begin_35 ?_
    exact zm_loc [1, 2, 0] rfl (zm_go (hf10a _) (hD10 (x32, M31)))
abbrev Y_X4_today : zm_Y := (cX4_today, 1, RX4, { frames := 0, cells := 0, slots := 0, locals := 0 }, (some .int), false, "today")
noncomputable def f_X4_today  (M : zm_Mem) : Option Int32 :=
  zm_ck (zm_in 0 47) <| some (M.1 12 (0 : Int32).toNatClampNeg)
set_option maxRecDepth 20000 in
set_option maxHeartbeats 4000000 in
theorem k_X4_today (E : zm_E) (sv : Nat)  (M : zm_Mem) {r : Int32} (h : f_X4_today M = some r) : zm_Ct E (zm_w sv) (zm_w sv) yX4_today Y_X4_today [.ref (E.2.1 + 11)] M (some (.int r)) M := by
  refine zm_methr (emb := zm_ei) (d := f_X4_today M) (by decide) rfl rfl (Nat.le_of_ble_eq_true rfl) h (fun X => ?_)
  show zm_V X Y_X4_today E (zm_Q X E Y_X4_today.2.2.2.1.cells Y_X4_today.2.2.2.1.slots (zm_w sv) zm_ei) 0 0 false (zm_w sv) 0 [(0, .ref (E.2.1 + 11))] [] M (f_X4_today M) (fun r => some (r, M))
  unfold f_X4_today
  refine zm_aload_n 1 rfl dX4_today_0 rfl 0 rfl ?_
  refine zm_getR (a := 12) 4 rfl dX4_today_1 fl_X4_11 rfl (zm_L (sv := sv) rfl) rfl (by decide) ?_
  refine zm_iconst 5 rfl dX4_today_4 zi_0 ?_
  refine zm_iald 6 rfl dX4_today_5 rfl (zm_L (sv := sv) rfl) ?_
  exact zm_iret dX4_today_6 rfl (Nat.le_refl _) (Nat.le_refl _) rfl
abbrev Y_X4_tripsSoFar : zm_Y := (cX4_tripsSoFar, 1, RX4, { frames := 0, cells := 0, slots := 0, locals := 0 }, (some .int), false, "tripsSoFar")
noncomputable def f_X4_tripsSoFar  (M : zm_Mem) : Option Int32 :=
  zm_ck (zm_in 1 47) <| some (M.1 12 (1 : Int32).toNatClampNeg)
set_option maxRecDepth 20000 in
set_option maxHeartbeats 4000000 in
theorem k_X4_tripsSoFar (E : zm_E) (sv : Nat)  (M : zm_Mem) {r : Int32} (h : f_X4_tripsSoFar M = some r) : zm_Ct E (zm_w sv) (zm_w sv) yX4_tripsSoFar Y_X4_tripsSoFar [.ref (E.2.1 + 11)] M (some (.int r)) M := by
  refine zm_methr (emb := zm_ei) (d := f_X4_tripsSoFar M) (by decide) rfl rfl (Nat.le_of_ble_eq_true rfl) h (fun X => ?_)
  show zm_V X Y_X4_tripsSoFar E (zm_Q X E Y_X4_tripsSoFar.2.2.2.1.cells Y_X4_tripsSoFar.2.2.2.1.slots (zm_w sv) zm_ei) 0 0 false (zm_w sv) 0 [(0, .ref (E.2.1 + 11))] [] M (f_X4_tripsSoFar M) (fun r => some (r, M))
  unfold f_X4_tripsSoFar
  refine zm_aload_n 1 rfl dX4_tripsSoFar_0 rfl 0 rfl ?_
  refine zm_getR (a := 12) 4 rfl dX4_tripsSoFar_1 fl_X4_11 rfl (zm_L (sv := sv) rfl) rfl (by decide) ?_
  refine zm_iconst 5 rfl dX4_tripsSoFar_4 zi_1 ?_
  refine zm_iald 6 rfl dX4_tripsSoFar_5 rfl (zm_L (sv := sv) rfl) ?_
  exact zm_iret dX4_tripsSoFar_6 rfl (Nat.le_refl _) (Nat.le_refl _) rfl
abbrev Y_X4_underWay : zm_Y := (cX4_underWay, 2, RX4, { frames := 1, cells := 0, slots := 0, locals := 21 }, (some .boolean), false, "underWay")
noncomputable def f_X4_underWay (a1 : Int32) (M : zm_Mem) : Option Int32 :=
  zm_b1 (f_X4_arrival a1 M) <| fun r2 => zm_b1 (f_X4_today M) <| fun r6 => if r2 ≤ r6 then (some 0) else (some 1)
set_option maxRecDepth 20000 in
set_option maxHeartbeats 4000000 in
theorem k_X4_underWay (E : zm_E) (sv : Nat) (a1 : Int32) (M : zm_Mem) {r : Int32} (h : f_X4_underWay a1 M = some r) : zm_Ct E (zm_w sv) (zm_w sv) yX4_underWay Y_X4_underWay [.ref (E.2.1 + 11), .int a1] M (some (.int r)) M := by
  refine zm_methr (emb := zm_ei) (d := f_X4_underWay a1 M) (by decide) rfl rfl (Nat.le_of_ble_eq_true rfl) h (fun X => ?_)
  show zm_V X Y_X4_underWay E (zm_Q X E Y_X4_underWay.2.2.2.1.cells Y_X4_underWay.2.2.2.1.slots (zm_w sv) zm_ei) 0 0 false (zm_w sv) 0 [(0, .ref (E.2.1 + 11)), (1, .int a1)] [] M (f_X4_underWay a1 M) (fun r => some (r, M))
  unfold f_X4_underWay
  refine zm_aload_n 1 rfl dX4_underWay_0 rfl 0 rfl ?_
  refine zm_iload_n 2 rfl dX4_underWay_1 rfl 1 rfl ?_
  refine zm_cV1ir 5 rfl dX4_underWay_2 ml_X4_30 rfl (zm_L (sv := sv) rfl) rfl (Nat.le_of_ble_eq_true rfl) ⟨Nat.le_of_ble_eq_true rfl, Nat.le_of_ble_eq_true rfl⟩ rfl rfl ⟨Nat.le_refl _, Nat.le_refl _⟩ rfl (fun _ h => k_X4_arrival E sv a1 M h) (fun r2 => ?_)
  refine zm_aload_n 6 rfl dX4_underWay_5 rfl 0 rfl ?_
  refine zm_cV0ir 9 rfl dX4_underWay_6 ml_X4_34 rfl (zm_L (sv := sv) rfl) rfl (Nat.le_of_ble_eq_true rfl) ⟨Nat.le_of_ble_eq_true rfl, Nat.le_of_ble_eq_true rfl⟩ rfl rfl ⟨Nat.le_refl _, Nat.le_refl _⟩ rfl (fun _ h => k_X4_today E sv M h) (fun r6 => ?_)
  refine zm_icmp_le 16 12 (by decide) rfl dX4_underWay_9 ?_ ?_
  · refine zm_iconst 17 rfl dX4_underWay_16 zi_0 ?_
    exact zm_zret dX4_underWay_17 rfl rfl (Nat.le_refl _) (Nat.le_refl _) rfl
  · refine zm_iconst 13 rfl dX4_underWay_12 zi_1 ?_
    refine zm_goto 17 (by decide) dX4_underWay_13 ?_
    exact zm_zret dX4_underWay_17 rfl rfl (Nat.le_refl _) (Nat.le_refl _) rfl
abbrev Y_X4_isIn : zm_Y := (cX4_isIn, 3, RX4, { frames := 2, cells := 0, slots := 0, locals := 42 }, (some .boolean), false, "isIn")
noncomputable def f_X4_isIn_b21  : Option Int32 :=
 some 0
noncomputable def f_X4_isIn (a1 : Int32) (a2 : Int32) (M : zm_Mem) : Option Int32 :=
  zm_b1 (f_X4_goal a1 M) <| fun r2 => if r2 = a2 then (zm_b1 (f_X4_underWay a1 M) <| fun r11 => if r11 = 0 then (some 1) else (f_X4_isIn_b21)) else (f_X4_isIn_b21)
set_option maxRecDepth 20000 in
set_option maxHeartbeats 4000000 in
theorem k_X4_isIn (E : zm_E) (sv : Nat) (a1 : Int32) (a2 : Int32) (M : zm_Mem) {r : Int32} (h : f_X4_isIn a1 a2 M = some r) : zm_Ct E (zm_w sv) (zm_w sv) yX4_isIn Y_X4_isIn [.ref (E.2.1 + 11), .int a1, .int a2] M (some (.int r)) M := by
  refine zm_methr (emb := zm_ei) (d := f_X4_isIn a1 a2 M) (by decide) rfl rfl (Nat.le_of_ble_eq_true rfl) h (fun X => ?_)
  show zm_V X Y_X4_isIn E (zm_Q X E Y_X4_isIn.2.2.2.1.cells Y_X4_isIn.2.2.2.1.slots (zm_w sv) zm_ei) 0 0 false (zm_w sv) 0 [(0, .ref (E.2.1 + 11)), (1, .int a1), (2, .int a2)] [] M (f_X4_isIn a1 a2 M) (fun r => some (r, M))
  unfold f_X4_isIn
  refine zm_aload_n 1 rfl dX4_isIn_0 rfl 0 rfl ?_
  refine zm_iload_n 2 rfl dX4_isIn_1 rfl 1 rfl ?_
  refine zm_cV1ir 5 rfl dX4_isIn_2 ml_X4_38 rfl (zm_L (sv := sv) rfl) rfl (Nat.le_of_ble_eq_true rfl) ⟨Nat.le_of_ble_eq_true rfl, Nat.le_of_ble_eq_true rfl⟩ rfl rfl ⟨Nat.le_refl _, Nat.le_refl _⟩ rfl (fun _ h => k_X4_goal E sv a1 M h) (fun r2 => ?_)
  refine zm_iload_n 6 rfl dX4_isIn_5 rfl 2 rfl ?_
  have hb21 : zm_V X Y_X4_isIn E (zm_Q X E Y_X4_isIn.2.2.2.1.cells Y_X4_isIn.2.2.2.1.slots (zm_w sv) zm_ei) 0 0 false (zm_w sv) 21 [] [] M (f_X4_isIn_b21) (fun r => some (r, M)) := by
    unfold f_X4_isIn_b21
    refine zm_iconst 22 rfl dX4_isIn_21 zi_0 ?_
    exact zm_zret dX4_isIn_22 rfl rfl (Nat.le_refl _) (Nat.le_refl _) rfl
  refine zm_icmp_ne 21 9 (by decide) rfl dX4_isIn_6 ?_ ?_
  · refine zm_aload_n 10 rfl dX4_isIn_9 rfl 0 rfl ?_
    refine zm_iload_n 11 rfl dX4_isIn_10 rfl 1 rfl ?_
    refine zm_cV1ir 14 rfl dX4_isIn_11 ml_X4_41 rfl (zm_L (sv := sv) rfl) rfl (Nat.le_of_ble_eq_true rfl) ⟨Nat.le_of_ble_eq_true rfl, Nat.le_of_ble_eq_true rfl⟩ rfl rfl ⟨Nat.le_refl _, Nat.le_refl _⟩ rfl (fun _ h => k_X4_underWay E sv a1 M h) (fun r11 => ?_)
    refine zm_if_ne 21 17 (by decide) rfl dX4_isIn_14 ?_ ?_
    · refine zm_iconst 18 rfl dX4_isIn_17 zi_1 ?_
      refine zm_goto 22 (by decide) dX4_isIn_18 ?_
      exact zm_zret dX4_isIn_22 rfl rfl (Nat.le_refl _) (Nat.le_refl _) rfl
    · exact zm_loc [] rfl (hb21)
  · exact zm_loc [] rfl (hb21)
abbrev Y_X4_depart : zm_Y := (cX4_depart, 5, RX4, { frames := 1, cells := 0, slots := 0, locals := 21 }, none, false, "depart")
noncomputable def f_X4_depart (a1 : Int32) (a2 : Int32) (a3 : Int32) (a4 : Int32) (M : zm_Mem) : Option (Unit × zm_Mem) :=
  zm_b1 (f_X4_goal a1 M) <| fun r8 => zm_ck (zm_in ((22 + (r8 * 5)) + a2) 47) <| zm_ck (zm_in ((22 + (r8 * 5)) + a2) 47) <| zm_v (zm_sI M 12 ((22 + (r8 * 5)) + a2).toNatClampNeg ((M.1 12 ((22 + (r8 * 5)) + a2).toNatClampNeg) + 1)) <| fun M20 => zm_ck (zm_in (4 + a1) 47) <| zm_v (zm_sI M20 12 (4 + a1).toNatClampNeg a2) <| fun M29 => zm_b1 (f_X4_today M29) <| fun r39 => zm_ck (zm_in (10 + a1) 47) <| zm_v (zm_sI M29 12 (10 + a1).toNatClampNeg (r39 + a3)) <| fun M44 => zm_ck (zm_in (16 + a1) 47) <| zm_ck (zm_in (16 + a1) 47) <| zm_v (zm_sI M44 12 (16 + a1).toNatClampNeg ((M44.1 12 (16 + a1).toNatClampNeg) + 1)) <| fun M57 => zm_ck (zm_in 1 47) <| zm_ck (zm_in 1 47) <| zm_v (zm_sI M57 12 (1 : Int32).toNatClampNeg ((M57.1 12 (1 : Int32).toNatClampNeg) + 1)) <| fun M67 => if a4 = 0 then (some ((), M67)) else (zm_ck (zm_in 2 47) <| zm_ck (zm_in 2 47) <| zm_v (zm_sI M67 12 (2 : Int32).toNatClampNeg ((M67.1 12 (2 : Int32).toNatClampNeg) + 1)) <| fun M82 => some ((), M82))
set_option maxRecDepth 20000 in
set_option maxHeartbeats 4000000 in
theorem k_X4_depart (E : zm_E) (sv : Nat) (a1 : Int32) (a2 : Int32) (a3 : Int32) (a4 : Int32) (M : zm_Mem) {r : Unit} {M' : zm_Mem} (h : f_X4_depart a1 a2 a3 a4 M = some (r, M')) : zm_Ct E (zm_w sv) (zm_w sv) yX4_depart Y_X4_depart [.ref (E.2.1 + 11), .int a1, .int a2, .int a3, .int a4] M none M' := by
  refine zm_meth (emb := zm_ev) (d := f_X4_depart a1 a2 a3 a4 M) (by decide) rfl rfl (Nat.le_of_ble_eq_true rfl) h (fun X => ?_)
  show zm_V X Y_X4_depart E (zm_Q X E Y_X4_depart.2.2.2.1.cells Y_X4_depart.2.2.2.1.slots (zm_w sv) zm_ev) 0 0 false (zm_w sv) 0 [(0, .ref (E.2.1 + 11)), (1, .int a1), (2, .int a2), (3, .int a3), (4, .int a4)] [] M (f_X4_depart a1 a2 a3 a4 M) some
  unfold f_X4_depart
  refine zm_aload_n 1 rfl dX4_depart_0 rfl 0 rfl ?_
  refine zm_getR (a := 12) 4 rfl dX4_depart_1 fl_X4_11 rfl (zm_L (sv := sv) rfl) rfl (by decide) ?_
  refine zm_bipush 6 rfl dX4_depart_4 zb_22 ?_
  refine zm_aload_n 7 rfl dX4_depart_6 rfl 0 rfl ?_
  refine zm_iload_n 8 rfl dX4_depart_7 rfl 1 rfl ?_
  refine zm_cV1ir 11 rfl dX4_depart_8 ml_X4_38 rfl (zm_L (sv := sv) rfl) rfl (Nat.le_of_ble_eq_true rfl) ⟨Nat.le_of_ble_eq_true rfl, Nat.le_of_ble_eq_true rfl⟩ rfl rfl ⟨Nat.le_refl _, Nat.le_refl _⟩ rfl (fun _ h => k_X4_goal E sv a1 M h) (fun r8 => ?_)
  refine zm_iconst 12 rfl dX4_depart_11 zi_5 ?_
  refine zm_imul 13 rfl dX4_depart_12 ?_
  refine zm_iadd 14 rfl dX4_depart_13 ?_
  refine zm_iload_n 15 rfl dX4_depart_14 rfl 2 rfl ?_
  refine zm_iadd 16 rfl dX4_depart_15 ?_
  refine zm_dup2 17 rfl dX4_depart_16 rfl rfl ?_
  refine zm_iald 18 rfl dX4_depart_17 rfl (zm_L (sv := sv) rfl) ?_
  refine zm_iconst 19 rfl dX4_depart_18 zi_1 ?_
  refine zm_iadd 20 rfl dX4_depart_19 ?_
  refine zm_iast 21 rfl dX4_depart_20 rfl (zm_L (sv := sv) rfl) (fun M20 _ => ?_)
  refine zm_aload_n 22 rfl dX4_depart_21 rfl 0 rfl ?_
  refine zm_getR (a := 12) 25 rfl dX4_depart_22 fl_X4_11 rfl (zm_L (sv := sv) rfl) rfl (by decide) ?_
  refine zm_iconst 26 rfl dX4_depart_25 zi_4 ?_
  refine zm_iload_n 27 rfl dX4_depart_26 rfl 1 rfl ?_
  refine zm_iadd 28 rfl dX4_depart_27 ?_
  refine zm_iload_n 29 rfl dX4_depart_28 rfl 2 rfl ?_
  refine zm_iast 30 rfl dX4_depart_29 rfl (zm_L (sv := sv) rfl) (fun M29 _ => ?_)
  refine zm_aload_n 31 rfl dX4_depart_30 rfl 0 rfl ?_
  refine zm_getR (a := 12) 34 rfl dX4_depart_31 fl_X4_11 rfl (zm_L (sv := sv) rfl) rfl (by decide) ?_
  refine zm_bipush 36 rfl dX4_depart_34 zb_10 ?_
  refine zm_iload_n 37 rfl dX4_depart_36 rfl 1 rfl ?_
  refine zm_iadd 38 rfl dX4_depart_37 ?_
  refine zm_aload_n 39 rfl dX4_depart_38 rfl 0 rfl ?_
  refine zm_cV0ir 42 rfl dX4_depart_39 ml_X4_34 rfl (zm_L (sv := sv) rfl) rfl (Nat.le_of_ble_eq_true rfl) ⟨Nat.le_of_ble_eq_true rfl, Nat.le_of_ble_eq_true rfl⟩ rfl rfl ⟨Nat.le_refl _, Nat.le_refl _⟩ rfl (fun _ h => k_X4_today E sv M29 h) (fun r39 => ?_)
  refine zm_iload_n 43 rfl dX4_depart_42 rfl 3 rfl ?_
  refine zm_iadd 44 rfl dX4_depart_43 ?_
  refine zm_iast 45 rfl dX4_depart_44 rfl (zm_L (sv := sv) rfl) (fun M44 _ => ?_)
  refine zm_aload_n 46 rfl dX4_depart_45 rfl 0 rfl ?_
  refine zm_getR (a := 12) 49 rfl dX4_depart_46 fl_X4_11 rfl (zm_L (sv := sv) rfl) rfl (by decide) ?_
  refine zm_bipush 51 rfl dX4_depart_49 zb_16 ?_
  refine zm_iload_n 52 rfl dX4_depart_51 rfl 1 rfl ?_
  refine zm_iadd 53 rfl dX4_depart_52 ?_
  refine zm_dup2 54 rfl dX4_depart_53 rfl rfl ?_
  refine zm_iald 55 rfl dX4_depart_54 rfl (zm_L (sv := sv) rfl) ?_
  refine zm_iconst 56 rfl dX4_depart_55 zi_1 ?_
  refine zm_iadd 57 rfl dX4_depart_56 ?_
  refine zm_iast 58 rfl dX4_depart_57 rfl (zm_L (sv := sv) rfl) (fun M57 _ => ?_)
  refine zm_aload_n 59 rfl dX4_depart_58 rfl 0 rfl ?_
  refine zm_getR (a := 12) 62 rfl dX4_depart_59 fl_X4_11 rfl (zm_L (sv := sv) rfl) rfl (by decide) ?_
  refine zm_iconst 63 rfl dX4_depart_62 zi_1 ?_
  refine zm_dup2 64 rfl dX4_depart_63 rfl rfl ?_
  refine zm_iald 65 rfl dX4_depart_64 rfl (zm_L (sv := sv) rfl) ?_
  refine zm_iconst 66 rfl dX4_depart_65 zi_1 ?_
  refine zm_iadd 67 rfl dX4_depart_66 ?_
  refine zm_iast 68 rfl dX4_depart_67 rfl (zm_L (sv := sv) rfl) (fun M67 _ => ?_)
  refine zm_iload 70 rfl dX4_depart_68 4 rfl ?_
  refine zm_if_eq 83 73 (by decide) rfl dX4_depart_70 ?_ ?_
  · exact zm_vret dX4_depart_83 rfl (Nat.le_refl _) (Nat.le_refl _) rfl
  · refine zm_aload_n 74 rfl dX4_depart_73 rfl 0 rfl ?_
    refine zm_getR (a := 12) 77 rfl dX4_depart_74 fl_X4_11 rfl (zm_L (sv := sv) rfl) rfl (by decide) ?_
    refine zm_iconst 78 rfl dX4_depart_77 zi_2 ?_
    refine zm_dup2 79 rfl dX4_depart_78 rfl rfl ?_
    refine zm_iald 80 rfl dX4_depart_79 rfl (zm_L (sv := sv) rfl) ?_
    refine zm_iconst 81 rfl dX4_depart_80 zi_1 ?_
    refine zm_iadd 82 rfl dX4_depart_81 ?_
    refine zm_iast 83 rfl dX4_depart_82 rfl (zm_L (sv := sv) rfl) (fun M82 _ => ?_)
    exact zm_vret dX4_depart_83 rfl (Nat.le_refl _) (Nat.le_refl _) rfl
abbrev Y_X6_step : zm_Y := (cX6_step, 2, RX6, { frames := 0, cells := 0, slots := 0, locals := 0 }, (some .int), false, "step")
noncomputable def f_X6_step_b20  : Option Int32 :=
 some 0
noncomputable def f_X6_step (a0 : Int32) (a1 : Int32) (M : zm_Mem) : Option Int32 :=
  if a0 < 0 then (f_X6_step_b20) else (if (6 : Int32) ≤ a0 then (f_X6_step_b20) else (zm_ck (zm_in a0 6) <| some ((zm_steps a0.toNatClampNeg) * a1)))
set_option maxRecDepth 20000 in
set_option maxHeartbeats 4000000 in
theorem k_X6_step (E : zm_E) (a0 : Int32) (a1 : Int32) (M : zm_Mem) {r : Int32} (h : f_X6_step a0 a1 M = some r) : zm_Ct E (zm_w 1) (zm_w 1) yX6_step Y_X6_step [.int a0, .int a1] M (some (.int r)) M := by
  refine zm_methr (emb := zm_ei) (d := f_X6_step a0 a1 M) (by decide) rfl rfl (Nat.le_of_ble_eq_true rfl) h (fun X => ?_)
  show zm_V X Y_X6_step E (zm_Q X E Y_X6_step.2.2.2.1.cells Y_X6_step.2.2.2.1.slots (zm_w 1) zm_ei) 0 0 false (zm_w 1) 0 [(0, .int a0), (1, .int a1)] [] M (f_X6_step a0 a1 M) (fun r => some (r, M))
  unfold f_X6_step
  refine zm_iload_n 1 rfl dX6_step_0 rfl 0 rfl ?_
  have hb20 : zm_V X Y_X6_step E (zm_Q X E Y_X6_step.2.2.2.1.cells Y_X6_step.2.2.2.1.slots (zm_w 1) zm_ei) 0 0 false (zm_w 1) 20 [] [] M (f_X6_step_b20) (fun r => some (r, M)) := by
    unfold f_X6_step_b20
    refine zm_iconst 21 rfl dX6_step_20 zi_0 ?_
    exact zm_iret dX6_step_21 rfl (Nat.le_refl _) (Nat.le_refl _) rfl
  refine zm_if_lt 20 4 (by decide) rfl dX6_step_1 ?_ ?_
  · exact zm_loc [] rfl (hb20)
  · refine zm_iload_n 5 rfl dX6_step_4 rfl 0 rfl ?_
    refine zm_bipush 7 rfl dX6_step_5 zb_6 ?_
    refine zm_icmp_ge 20 10 (by decide) rfl dX6_step_7 ?_ ?_
    · exact zm_loc [] rfl (hb20)
    · refine zm_steps_get 13 rfl dX6_step_10 fs_X6_48 ?_
      refine zm_iload_n 14 rfl dX6_step_13 rfl 0 rfl ?_
      refine zm_steps_ld 15 rfl dX6_step_14 ?_
      refine zm_iload_n 16 rfl dX6_step_15 rfl 1 rfl ?_
      refine zm_imul 17 rfl dX6_step_16 ?_
      refine zm_goto 21 (by decide) dX6_step_17 ?_
      exact zm_iret dX6_step_21 rfl (Nat.le_refl _) (Nat.le_refl _) rfl
abbrev Y_X6_roomyRows : zm_Y := (cX6_roomyRows, 1, RX6, { frames := 0, cells := 0, slots := 0, locals := 0 }, (some (.array .long)), false, "roomyRows")
noncomputable def f_X6_roomyRows  (M : zm_Mem) : Option Nat :=
  some 104
set_option maxRecDepth 20000 in
set_option maxHeartbeats 4000000 in
theorem k_X6_roomyRows (E : zm_E)  (M : zm_Mem) {r : Nat} (h : f_X6_roomyRows M = some r) : zm_Ct E (zm_w 1) (zm_w 1) yX6_roomyRows Y_X6_roomyRows [.ref (E.2.1 + 103)] M (some (.ref (E.2.1 + r))) M := by
  refine zm_methr (emb := (zm_er E.2.1)) (d := f_X6_roomyRows M) (by decide) rfl rfl (Nat.le_of_ble_eq_true rfl) h (fun X => ?_)
  show zm_V X Y_X6_roomyRows E (zm_Q X E Y_X6_roomyRows.2.2.2.1.cells Y_X6_roomyRows.2.2.2.1.slots (zm_w 1) (zm_er E.2.1)) 0 0 false (zm_w 1) 0 [(0, .ref (E.2.1 + 103))] [] M (f_X6_roomyRows M) (fun r => some (r, M))
  unfold f_X6_roomyRows
  refine zm_aload_n 1 rfl dX6_roomyRows_0 rfl 0 rfl ?_
  refine zm_getR (a := 104) 4 rfl dX6_roomyRows_1 fl_X6_11 rfl (zm_L1 rfl) rfl (by decide) ?_
  exact zm_aret dX6_roomyRows_4 rfl (Nat.le_refl _) (Nat.le_refl _) rfl
abbrev Y_X6_keptRows : zm_Y := (cX6_keptRows, 1, RX6, { frames := 0, cells := 0, slots := 0, locals := 0 }, (some (.array .long)), false, "keptRows")
noncomputable def f_X6_keptRows  (M : zm_Mem) : Option Nat :=
  some 105
set_option maxRecDepth 20000 in
set_option maxHeartbeats 4000000 in
theorem k_X6_keptRows (E : zm_E)  (M : zm_Mem) {r : Nat} (h : f_X6_keptRows M = some r) : zm_Ct E (zm_w 1) (zm_w 1) yX6_keptRows Y_X6_keptRows [.ref (E.2.1 + 103)] M (some (.ref (E.2.1 + r))) M := by
  refine zm_methr (emb := (zm_er E.2.1)) (d := f_X6_keptRows M) (by decide) rfl rfl (Nat.le_of_ble_eq_true rfl) h (fun X => ?_)
  show zm_V X Y_X6_keptRows E (zm_Q X E Y_X6_keptRows.2.2.2.1.cells Y_X6_keptRows.2.2.2.1.slots (zm_w 1) (zm_er E.2.1)) 0 0 false (zm_w 1) 0 [(0, .ref (E.2.1 + 103))] [] M (f_X6_keptRows M) (fun r => some (r, M))
  unfold f_X6_keptRows
  refine zm_aload_n 1 rfl dX6_keptRows_0 rfl 0 rfl ?_
  refine zm_getR (a := 105) 4 rfl dX6_keptRows_1 fl_X6_15 rfl (zm_L1 rfl) rfl (by decide) ?_
  exact zm_aret dX6_keptRows_4 rfl (Nat.le_refl _) (Nat.le_refl _) rfl
abbrev Y_X6_rowsKept : zm_Y := (cX6_rowsKept, 1, RX6, { frames := 0, cells := 0, slots := 0, locals := 0 }, (some .int), false, "rowsKept")
noncomputable def f_X6_rowsKept  (M : zm_Mem) : Option Int32 :=
  some (M.1 103 13)
set_option maxRecDepth 20000 in
set_option maxHeartbeats 4000000 in
theorem k_X6_rowsKept (E : zm_E)  (M : zm_Mem) {r : Int32} (h : f_X6_rowsKept M = some r) : zm_Ct E (zm_w 1) (zm_w 1) yX6_rowsKept Y_X6_rowsKept [.ref (E.2.1 + 103)] M (some (.int r)) M := by
  refine zm_methr (emb := zm_ei) (d := f_X6_rowsKept M) (by decide) rfl rfl (Nat.le_of_ble_eq_true rfl) h (fun X => ?_)
  show zm_V X Y_X6_rowsKept E (zm_Q X E Y_X6_rowsKept.2.2.2.1.cells Y_X6_rowsKept.2.2.2.1.slots (zm_w 1) zm_ei) 0 0 false (zm_w 1) 0 [(0, .ref (E.2.1 + 103))] [] M (f_X6_rowsKept M) (fun r => some (r, M))
  unfold f_X6_rowsKept
  refine zm_aload_n 1 rfl dX6_rowsKept_0 rfl 0 rfl ?_
  refine zm_getI 4 rfl dX6_rowsKept_1 fl_X6_51 rfl (zm_L1 rfl) ?_
  exact zm_iret dX6_rowsKept_4 rfl (Nat.le_refl _) (Nat.le_refl _) rfl
abbrev Y_X6_fewestElsewhere : zm_Y := (cX6_fewestElsewhere, 1, RX6, { frames := 0, cells := 0, slots := 0, locals := 0 }, (some .int), false, "fewestElsewhere")
noncomputable def f_X6_fewestElsewhere  (M : zm_Mem) : Option Int32 :=
  some (M.1 103 14)
set_option maxRecDepth 20000 in
set_option maxHeartbeats 4000000 in
theorem k_X6_fewestElsewhere (E : zm_E)  (M : zm_Mem) {r : Int32} (h : f_X6_fewestElsewhere M = some r) : zm_Ct E (zm_w 1) (zm_w 1) yX6_fewestElsewhere Y_X6_fewestElsewhere [.ref (E.2.1 + 103)] M (some (.int r)) M := by
  refine zm_methr (emb := zm_ei) (d := f_X6_fewestElsewhere M) (by decide) rfl rfl (Nat.le_of_ble_eq_true rfl) h (fun X => ?_)
  show zm_V X Y_X6_fewestElsewhere E (zm_Q X E Y_X6_fewestElsewhere.2.2.2.1.cells Y_X6_fewestElsewhere.2.2.2.1.slots (zm_w 1) zm_ei) 0 0 false (zm_w 1) 0 [(0, .ref (E.2.1 + 103))] [] M (f_X6_fewestElsewhere M) (fun r => some (r, M))
  unfold f_X6_fewestElsewhere
  refine zm_aload_n 1 rfl dX6_fewestElsewhere_0 rfl 0 rfl ?_
  refine zm_getI 4 rfl dX6_fewestElsewhere_1 fl_X6_55 rfl (zm_L1 rfl) ?_
  exact zm_iret dX6_fewestElsewhere_4 rfl (Nat.le_refl _) (Nat.le_refl _) rfl
abbrev Y_X6_nearHouse : zm_Y := (cX6_nearHouse, 2, RX6, { frames := 0, cells := 0, slots := 0, locals := 0 }, (some .int), false, "nearHouse")
noncomputable def f_X6_nearHouse (a1 : Int32) (M : zm_Mem) : Option Int32 :=
  zm_ck (zm_in a1 6) <| some (M.1 108 a1.toNatClampNeg)
set_option maxRecDepth 20000 in
set_option maxHeartbeats 4000000 in
theorem k_X6_nearHouse (E : zm_E) (a1 : Int32) (M : zm_Mem) {r : Int32} (h : f_X6_nearHouse a1 M = some r) : zm_Ct E (zm_w 1) (zm_w 1) yX6_nearHouse Y_X6_nearHouse [.ref (E.2.1 + 103), .int a1] M (some (.int r)) M := by
  refine zm_methr (emb := zm_ei) (d := f_X6_nearHouse a1 M) (by decide) rfl rfl (Nat.le_of_ble_eq_true rfl) h (fun X => ?_)
  show zm_V X Y_X6_nearHouse E (zm_Q X E Y_X6_nearHouse.2.2.2.1.cells Y_X6_nearHouse.2.2.2.1.slots (zm_w 1) zm_ei) 0 0 false (zm_w 1) 0 [(0, .ref (E.2.1 + 103)), (1, .int a1)] [] M (f_X6_nearHouse a1 M) (fun r => some (r, M))
  unfold f_X6_nearHouse
  refine zm_aload_n 1 rfl dX6_nearHouse_0 rfl 0 rfl ?_
  refine zm_getR (a := 108) 4 rfl dX6_nearHouse_1 fl_X6_25 rfl (zm_L1 rfl) rfl (by decide) ?_
  refine zm_iload_n 5 rfl dX6_nearHouse_4 rfl 1 rfl ?_
  refine zm_iald 6 rfl dX6_nearHouse_5 rfl (zm_L1 rfl) ?_
  exact zm_iret dX6_nearHouse_6 rfl (Nat.le_refl _) (Nat.le_refl _) rfl
abbrev Y_X6_brokenAt : zm_Y := (cX6_brokenAt, 4, RX6, { frames := 0, cells := 0, slots := 0, locals := 0 }, (some .int), false, "brokenAt")
noncomputable def f_X6_brokenAt (a0 : Int32) (a1 : Int32) (a2 : Int32) (a3 : Int32) (M : zm_Mem) : Option Int32 :=
  some ((((((a0 * 5) + a1) * 6) + a2) * 6) + a3)
set_option maxRecDepth 20000 in
set_option maxHeartbeats 4000000 in
theorem k_X6_brokenAt (E : zm_E) (w : zm_W) (a0 : Int32) (a1 : Int32) (a2 : Int32) (a3 : Int32) (M : zm_Mem) {r : Int32} (h : f_X6_brokenAt a0 a1 a2 a3 M = some r) : zm_Ct E w w yX6_brokenAt Y_X6_brokenAt [.int a0, .int a1, .int a2, .int a3] M (some (.int r)) M := by
  refine zm_methr (emb := zm_ei) (d := f_X6_brokenAt a0 a1 a2 a3 M) (by decide) rfl rfl (Nat.le_of_ble_eq_true rfl) h (fun X => ?_)
  show zm_V X Y_X6_brokenAt E (zm_Q X E Y_X6_brokenAt.2.2.2.1.cells Y_X6_brokenAt.2.2.2.1.slots w zm_ei) 0 0 false w 0 [(0, .int a0), (1, .int a1), (2, .int a2), (3, .int a3)] [] M (f_X6_brokenAt a0 a1 a2 a3 M) (fun r => some (r, M))
  unfold f_X6_brokenAt
  refine zm_iload_n 1 rfl dX6_brokenAt_0 rfl 0 rfl ?_
  refine zm_iconst 2 rfl dX6_brokenAt_1 zi_5 ?_
  refine zm_imul 3 rfl dX6_brokenAt_2 ?_
  refine zm_iload_n 4 rfl dX6_brokenAt_3 rfl 1 rfl ?_
  refine zm_iadd 5 rfl dX6_brokenAt_4 ?_
  refine zm_bipush 7 rfl dX6_brokenAt_5 zb_6 ?_
  refine zm_imul 8 rfl dX6_brokenAt_7 ?_
  refine zm_iload_n 9 rfl dX6_brokenAt_8 rfl 2 rfl ?_
  refine zm_iadd 10 rfl dX6_brokenAt_9 ?_
  refine zm_bipush 12 rfl dX6_brokenAt_10 zb_6 ?_
  refine zm_imul 13 rfl dX6_brokenAt_12 ?_
  refine zm_iload_n 14 rfl dX6_brokenAt_13 rfl 3 rfl ?_
  refine zm_iadd 15 rfl dX6_brokenAt_14 ?_
  exact zm_iret dX6_brokenAt_15 rfl (Nat.le_refl _) (Nat.le_refl _) rfl
abbrev Y_X6_fillBroken : zm_Y := (cX6_fillBroken, 8, RX6, { frames := 3, cells := 0, slots := 0, locals := 73 }, none, false, "fillBroken")
noncomputable def f_X6_fillBroken_l104_94_57 (a1 : Int32) (a2 : Int32) (e54_3 : Int32) (l57_4 : Int32) (l94_6 : Int32) (l104_7 : Int32) (L104 : zm_Mem) : Option ((Int32 × zm_Mem) ⊕ zm_Mem) :=
 if (zm_min e54_3 l94_6) < l104_7 then (some (.inr L104)) else (zm_b2 (f_X3_enterAmong a1 l57_4 l94_6 l104_7 L104) <| fun _ M126 => zm_b1 (f_X6_brokenAt a1 l57_4 l94_6 l104_7 M126) <| fun r140 => zm_b2 (f_X3_brokenAsEntered a2 M126) <| fun r148 M148 => zm_ck (zm_in r140 1080) <| zm_v (zm_sI M148 106 r140.toNatClampNeg r148) <| fun M151 => zm_v (l104_7 + 1) <| fun x152 => some (.inl (x152, M151)))
noncomputable def f_X6_fillBroken_l94_57 (a1 : Int32) (a2 : Int32) (e54_3 : Int32) (l57_4 : Int32) (x89 : Int32) (l94_6 : Int32) (L94 : zm_Mem) : Option ((Int32 × zm_Mem) ⊕ zm_Mem) :=
 if x89 ≤ l94_6 then (some (.inr L94)) else ((zm_lp (fun s => f_X6_fillBroken_l104_94_57 a1 a2 e54_3 l57_4 l94_6 s.1 s.2) (0, L94)).bind (fun e158 => zm_v (l94_6 + 1) <| fun x158 => some (.inl (x158, e158))))
noncomputable def f_X6_fillBroken_l57 (a1 : Int32) (a2 : Int32) (e54_3 : Int32) (l57_4 : Int32) (L57 : zm_Mem) : Option ((Int32 × zm_Mem) ⊕ zm_Mem) :=
 zm_v (L57.2.2 103 10) <| fun t60 => zm_ck (zm_isT t60) <| if (L57.1 t60 11) ≤ l57_4 then (some (.inr L57)) else (zm_v (L57.2.2 103 10) <| fun t70 => zm_ck (zm_isT t70) <| zm_v (L57.2.2 103 10) <| fun t77 => zm_ck (zm_isT t77) <| zm_ck (zm_in l57_4 5) <| zm_v (zm_min (L57.1 t70 12) (L57.1 (t77 + 2) l57_4.toNatClampNeg)) <| fun x89 => (zm_lp (fun s => f_X6_fillBroken_l94_57 a1 a2 e54_3 l57_4 x89 s.1 s.2) (0, L57)).bind (fun e164 => zm_v (l57_4 + 1) <| fun x164 => some (.inl (x164, e164))))
noncomputable def f_X6_fillBroken_x54_5 (a1 : Int32) (a2 : Int32) (M : zm_Mem) (e54_3 : Int32) : Option (Unit × zm_Mem) :=
 (zm_lp (fun s => f_X6_fillBroken_l57 a1 a2 e54_3 s.1 s.2) (0, M)).bind (fun e170 => some ((), e170))
noncomputable def f_X6_fillBroken_b48_5 (l5_4 : Int32) (b48_3 : Int32) : Option ((Int32 × Int32) ⊕ Int32) :=
 zm_v (l5_4 + 1) <| fun x48 => some (.inl (b48_3, x48))
noncomputable def f_X6_fillBroken_l5 (a1 : Int32) (M : zm_Mem) (l5_3 : Int32) (l5_4 : Int32) : Option ((Int32 × Int32) ⊕ Int32) :=
 zm_v (M.2.2 103 10) <| fun t8 => zm_ck (zm_isT t8) <| if (M.1 t8 12) ≤ l5_4 then (some (.inr l5_3)) else (if l5_4 = a1 then (f_X6_fillBroken_b48_5 l5_4 l5_3) else (zm_v (M.2.2 103 10) <| fun t24 => zm_ck (zm_isT t24) <| zm_ck (zm_in l5_4 6) <| zm_v (M.2.2 103 10) <| fun t34 => zm_ck (zm_isT t34) <| zm_ck (zm_in a1 6) <| if (M.1 (t24 + 5) l5_4.toNatClampNeg) = (M.1 (t34 + 5) a1.toNatClampNeg) then (zm_v (l5_3 + 1) <| fun x45 => f_X6_fillBroken_b48_5 l5_4 x45) else (f_X6_fillBroken_b48_5 l5_4 l5_3)))
noncomputable def f_X6_fillBroken (a1 : Int32) (a2 : Int32) (M : zm_Mem) : Option (Unit × zm_Mem) :=
  (zm_lp (fun s => f_X6_fillBroken_l5 a1 M s.1 s.2) (0, 0)).bind (fun e54 => f_X6_fillBroken_x54_5 a1 a2 M e54)
set_option maxRecDepth 20000 in
set_option maxHeartbeats 4000000 in
theorem k_X6_fillBroken (E : zm_E) (a1 : Int32) (a2 : Int32) (M : zm_Mem) {r : Unit} {M' : zm_Mem} (h : f_X6_fillBroken a1 a2 M = some (r, M')) : zm_Ct E (zm_w 1) (zm_w 1) yX6_fillBroken Y_X6_fillBroken [.ref (E.2.1 + 103), .int a1, .int a2] M none M' := by
  refine zm_meth (emb := zm_ev) (d := f_X6_fillBroken a1 a2 M) (by decide) rfl rfl (Nat.le_of_ble_eq_true rfl) h (fun X => ?_)
  show zm_V X Y_X6_fillBroken E (zm_Q X E Y_X6_fillBroken.2.2.2.1.cells Y_X6_fillBroken.2.2.2.1.slots (zm_w 1) zm_ev) 0 0 false (zm_w 1) 0 [(0, .ref (E.2.1 + 103)), (1, .int a1), (2, .int a2)] [] M (f_X6_fillBroken a1 a2 M) some
  unfold f_X6_fillBroken
  refine zm_iconst 1 rfl dX6_fillBroken_0 zi_0 ?_
  refine zm_istore_n (lv' := [(3, .int 0), (0, .ref (E.2.1 + 103)), (1, .int a1), (2, .int a2)]) 2 rfl dX6_fillBroken_1 rfl (by decide) rfl ?_
  refine zm_iconst 3 rfl dX6_fillBroken_2 zi_0 ?_
  refine zm_istore (lv' := [(4, .int 0), (3, .int 0), (0, .ref (E.2.1 + 103)), (1, .int a1), (2, .int a2)]) 5 rfl dX6_fillBroken_3 (by decide) rfl ?_
  have hx54_5 : ∀ (e54_3 : Int32), zm_V X Y_X6_fillBroken E (zm_Q X E Y_X6_fillBroken.2.2.2.1.cells Y_X6_fillBroken.2.2.2.1.slots (zm_w 1) zm_ev) 0 0 false (zm_w 1) 54 [(0, .ref (E.2.1 + 103)), (1, .int a1), (2, .int a2), (3, .int e54_3)] [] M (f_X6_fillBroken_x54_5 a1 a2 M e54_3) some := by
    intro e54_3
    unfold f_X6_fillBroken_x54_5
    refine zm_iconst 55 rfl dX6_fillBroken_54 zi_0 ?_
    refine zm_istore (lv' := [(4, .int 0), (0, .ref (E.2.1 + 103)), (1, .int a1), (2, .int a2), (3, .int e54_3)]) 57 rfl dX6_fillBroken_55 (by decide) rfl ?_
    have hx170_57 : ∀ (N170 : zm_Mem), zm_V X Y_X6_fillBroken E (zm_Q X E Y_X6_fillBroken.2.2.2.1.cells Y_X6_fillBroken.2.2.2.1.slots (zm_w 1) zm_ev) 0 0 false (zm_w 1) 170 [] [] N170 (some ((), N170)) some := by
      intro N170
      exact zm_vret dX6_fillBroken_170 rfl (Nat.le_refl _) (Nat.le_refl _) rfl
    refine zm_loc [1, 2, 3, 4, 0] rfl (zm_lpp (σ := (Int32 × zm_Mem)) (ε := zm_Mem) (step := fun s => f_X6_fillBroken_l57 a1 a2 e54_3 s.1 s.2) (fun s => [(0, .ref (E.2.1 + 103)), (1, .int a1), (2, .int a2), (3, .int e54_3), (4, .int s.1)]) (fun s => s.2) (fun D57 f57 hf57a hf57b hD57 s => ?_) (0, M))
    obtain ⟨l57_4, L57⟩ := s
    show zm_V X Y_X6_fillBroken E (zm_Q X E Y_X6_fillBroken.2.2.2.1.cells Y_X6_fillBroken.2.2.2.1.slots (zm_w 1) zm_ev) 0 0 false (zm_w 1) 57 [(0, .ref (E.2.1 + 103)), (1, .int a1), (2, .int a2), (3, .int e54_3), (4, .int l57_4)] [] L57 (f_X6_fillBroken_l57 a1 a2 e54_3 l57_4 L57) f57
    unfold f_X6_fillBroken_l57
    refine zm_iload 59 rfl dX6_fillBroken_57 4 rfl ?_
    refine zm_aload_n 60 rfl dX6_fillBroken_59 rfl 0 rfl ?_
    refine zm_getT 63 rfl dX6_fillBroken_60 fl_X6_47 rfl (zm_L1 rfl) (fun t60 _ ht60 => ?_)
    refine zm_getI 66 rfl dX6_fillBroken_63 fl_X6_94 (zm_T_o ht60) (zm_T_l0 (sv := 1) ht60) ?_
    refine zm_icmp_ge 170 69 (by decide) rfl dX6_fillBroken_66 ?_ ?_
    · exact zm_loc [] rfl (zm_go (hf57b _) (zm_unb (hx170_57 L57)))
    · refine zm_aload_n 70 rfl dX6_fillBroken_69 rfl 0 rfl ?_
      refine zm_getT 73 rfl dX6_fillBroken_70 fl_X6_47 rfl (zm_L1 rfl) (fun t70 _ ht70 => ?_)
      refine zm_getI 76 rfl dX6_fillBroken_73 fl_X6_74 (zm_T_o ht70) (zm_T_l0 (sv := 1) ht70) ?_
      refine zm_aload_n 77 rfl dX6_fillBroken_76 rfl 0 rfl ?_
      refine zm_getT 80 rfl dX6_fillBroken_77 fl_X6_47 rfl (zm_L1 rfl) (fun t77 _ ht77 => ?_)
      refine zm_getR (a := t77 + 2) 83 rfl dX6_fillBroken_80 fl_X6_97 (zm_T_o ht77) (zm_T_l0 (sv := 1) ht77) (zm_T_r ht77 1 (by decide)) (Nat.succ_ne_zero _) ?_
      refine zm_iload 85 rfl dX6_fillBroken_83 4 rfl ?_
      refine zm_iald 86 rfl dX6_fillBroken_85 (zm_T_a ht77 2 (by decide)) (zm_T_l (sv := 1) ht77 2 (by decide)) ?_
      refine zm_mmin 89 rfl dX6_fillBroken_86 mm_X6_100 mm_st_min in_math mm_co_min (Nat.le_of_ble_eq_true rfl) (Nat.le_of_ble_eq_true rfl) ⟨Nat.le_refl _, Nat.le_refl _⟩ ?_
      refine zm_nmi (fun x89 _ => ?_)
      refine zm_istore (lv' := [(5, .int x89), (0, .ref (E.2.1 + 103)), (1, .int a1), (2, .int a2), (3, .int e54_3), (4, .int l57_4)]) 91 rfl dX6_fillBroken_89 (by decide) rfl ?_
      refine zm_iconst 92 rfl dX6_fillBroken_91 zi_0 ?_
      refine zm_istore (lv' := [(6, .int 0), (5, .int x89), (0, .ref (E.2.1 + 103)), (1, .int a1), (2, .int a2), (3, .int e54_3), (4, .int l57_4)]) 94 rfl dX6_fillBroken_92 (by decide) rfl ?_
      have hx164_94_57 : ∀ (N164 : zm_Mem), zm_V X Y_X6_fillBroken E (zm_Q X E Y_X6_fillBroken.2.2.2.1.cells Y_X6_fillBroken.2.2.2.1.slots (zm_w 1) zm_ev) 0 0 false (zm_w 1) 164 [(0, .ref (E.2.1 + 103)), (1, .int a1), (2, .int a2), (3, .int e54_3), (4, .int l57_4)] [] N164 (zm_v (l57_4 + 1) <| fun x164 => some (.inl (x164, N164))) f57 := by
        intro N164
        refine zm_iinc (lv' := fun z => [(4, .int z), (0, .ref (E.2.1 + 103)), (1, .int a1), (2, .int a2), (3, .int e54_3)]) 167 rfl dX6_fillBroken_164 zi_1 4 rfl (by decide) (fun _ => rfl) (fun x164 _ => ?_)
        refine zm_goto 57 (by decide) dX6_fillBroken_167 ?_
        exact zm_loc [1, 2, 3, 4, 0] rfl (zm_go (hf57a _) (hD57 (x164, N164)))
      refine zm_loc [2, 3, 4, 5, 6, 1, 0] rfl (zm_lpp (σ := (Int32 × zm_Mem)) (ε := zm_Mem) (step := fun s => f_X6_fillBroken_l94_57 a1 a2 e54_3 l57_4 x89 s.1 s.2) (fun s => [(0, .ref (E.2.1 + 103)), (1, .int a1), (2, .int a2), (3, .int e54_3), (4, .int l57_4), (5, .int x89), (6, .int s.1)]) (fun s => s.2) (fun D94_57 f94_57 hf94_57a hf94_57b hD94_57 s => ?_) (0, L57))
      obtain ⟨l94_6, L94⟩ := s
      show zm_V X Y_X6_fillBroken E (zm_Q X E Y_X6_fillBroken.2.2.2.1.cells Y_X6_fillBroken.2.2.2.1.slots (zm_w 1) zm_ev) 0 0 false (zm_w 1) 94 [(0, .ref (E.2.1 + 103)), (1, .int a1), (2, .int a2), (3, .int e54_3), (4, .int l57_4), (5, .int x89), (6, .int l94_6)] [] L94 (f_X6_fillBroken_l94_57 a1 a2 e54_3 l57_4 x89 l94_6 L94) f94_57
      unfold f_X6_fillBroken_l94_57
      refine zm_iload 96 rfl dX6_fillBroken_94 6 rfl ?_
      refine zm_iload 98 rfl dX6_fillBroken_96 5 rfl ?_
      refine zm_icmp_ge 164 101 (by decide) rfl dX6_fillBroken_98 ?_ ?_
      · exact zm_loc [0, 1, 2, 3, 4] rfl (zm_go (hf94_57b _) (zm_unb (hx164_94_57 L94)))
      · refine zm_iconst 102 rfl dX6_fillBroken_101 zi_0 ?_
        refine zm_istore (lv' := [(7, .int 0), (0, .ref (E.2.1 + 103)), (1, .int a1), (2, .int a2), (3, .int e54_3), (4, .int l57_4), (5, .int x89), (6, .int l94_6)]) 104 rfl dX6_fillBroken_102 (by decide) rfl ?_
        have hx158_104_94_57 : ∀ (N158 : zm_Mem), zm_V X Y_X6_fillBroken E (zm_Q X E Y_X6_fillBroken.2.2.2.1.cells Y_X6_fillBroken.2.2.2.1.slots (zm_w 1) zm_ev) 0 0 false (zm_w 1) 158 [(0, .ref (E.2.1 + 103)), (1, .int a1), (2, .int a2), (3, .int e54_3), (4, .int l57_4), (5, .int x89), (6, .int l94_6)] [] N158 (zm_v (l94_6 + 1) <| fun x158 => some (.inl (x158, N158))) f94_57 := by
          intro N158
          refine zm_iinc (lv' := fun z => [(6, .int z), (0, .ref (E.2.1 + 103)), (1, .int a1), (2, .int a2), (3, .int e54_3), (4, .int l57_4), (5, .int x89)]) 161 rfl dX6_fillBroken_158 zi_1 6 rfl (by decide) (fun _ => rfl) (fun x158 _ => ?_)
          refine zm_goto 94 (by decide) dX6_fillBroken_161 ?_
          exact zm_loc [1, 2, 3, 4, 5, 6, 0] rfl (zm_go (hf94_57a _) (hD94_57 (x158, N158)))
        refine zm_loc [1, 2, 3, 4, 5, 6, 7, 0] rfl (zm_lpp (σ := (Int32 × zm_Mem)) (ε := zm_Mem) (step := fun s => f_X6_fillBroken_l104_94_57 a1 a2 e54_3 l57_4 l94_6 s.1 s.2) (fun s => [(0, .ref (E.2.1 + 103)), (1, .int a1), (2, .int a2), (3, .int e54_3), (4, .int l57_4), (5, .int x89), (6, .int l94_6), (7, .int s.1)]) (fun s => s.2) (fun D104_94_57 f104_94_57 hf104_94_57a hf104_94_57b hD104_94_57 s => ?_) (0, L94))
        obtain ⟨l104_7, L104⟩ := s
        show zm_V X Y_X6_fillBroken E (zm_Q X E Y_X6_fillBroken.2.2.2.1.cells Y_X6_fillBroken.2.2.2.1.slots (zm_w 1) zm_ev) 0 0 false (zm_w 1) 104 [(0, .ref (E.2.1 + 103)), (1, .int a1), (2, .int a2), (3, .int e54_3), (4, .int l57_4), (5, .int x89), (6, .int l94_6), (7, .int l104_7)] [] L104 (f_X6_fillBroken_l104_94_57 a1 a2 e54_3 l57_4 l94_6 l104_7 L104) f104_94_57
        unfold f_X6_fillBroken_l104_94_57
        refine zm_iload 106 rfl dX6_fillBroken_104 7 rfl ?_
        refine zm_iload_n 107 rfl dX6_fillBroken_106 rfl 3 rfl ?_
        refine zm_iload 109 rfl dX6_fillBroken_107 6 rfl ?_
        refine zm_mmin 112 rfl dX6_fillBroken_109 mm_X6_100 mm_st_min in_math mm_co_min (Nat.le_of_ble_eq_true rfl) (Nat.le_of_ble_eq_true rfl) ⟨Nat.le_refl _, Nat.le_refl _⟩ ?_
        refine zm_icmp_gt 158 115 (by decide) rfl dX6_fillBroken_112 ?_ ?_
        · exact zm_loc [0, 1, 2, 3, 4, 5, 6] rfl (zm_go (hf104_94_57b _) (zm_unb (hx158_104_94_57 L104)))
        · refine zm_aload_n 116 rfl dX6_fillBroken_115 rfl 0 rfl ?_
          refine zm_getR (a := 47) 119 rfl dX6_fillBroken_116 fl_X6_37 rfl (zm_L1 rfl) rfl (by decide) ?_
          refine zm_iload_n 120 rfl dX6_fillBroken_119 rfl 1 rfl ?_
          refine zm_iload 122 rfl dX6_fillBroken_120 4 rfl ?_
          refine zm_iload 124 rfl dX6_fillBroken_122 6 rfl ?_
          refine zm_iload 126 rfl dX6_fillBroken_124 7 rfl ?_
          refine zm_cV4v 129 rfl dX6_fillBroken_126 ml_X6_106 rfl (zm_L (sv := 1) rfl) rfl (Nat.le_of_ble_eq_true rfl) ⟨Nat.le_of_ble_eq_true rfl, Nat.le_of_ble_eq_true rfl⟩ rfl rfl ⟨Nat.le_refl _, Nat.le_refl _⟩ rfl (fun _ _ h => k_X3_enterAmong E 1 a1 l57_4 l94_6 l104_7 L104 h) (fun _ M126 => ?_)
          refine zm_aload_n 130 rfl dX6_fillBroken_129 rfl 0 rfl ?_
          refine zm_getR (a := 106) 133 rfl dX6_fillBroken_130 fl_X6_18 rfl (zm_L1 rfl) rfl (by decide) ?_
          refine zm_iload_n 134 rfl dX6_fillBroken_133 rfl 1 rfl ?_
          refine zm_iload 136 rfl dX6_fillBroken_134 4 rfl ?_
          refine zm_iload 138 rfl dX6_fillBroken_136 6 rfl ?_
          refine zm_iload 140 rfl dX6_fillBroken_138 7 rfl ?_
          refine zm_cS4ir 143 rfl dX6_fillBroken_140 ml_X6_110 (Nat.le_of_ble_eq_true rfl) ⟨Nat.le_of_ble_eq_true rfl, Nat.le_of_ble_eq_true rfl⟩ rfl rfl ⟨Nat.le_refl _, Nat.le_refl _⟩ rfl (fun _ h => k_X6_brokenAt E (zm_w 1) a1 l57_4 l94_6 l104_7 M126 h) (fun r140 => ?_)
          refine zm_aload_n 144 rfl dX6_fillBroken_143 rfl 0 rfl ?_
          refine zm_getR (a := 47) 147 rfl dX6_fillBroken_144 fl_X6_37 rfl (zm_L1 rfl) rfl (by decide) ?_
          refine zm_iload_n 148 rfl dX6_fillBroken_147 rfl 2 rfl ?_
          refine zm_cV1i 151 rfl dX6_fillBroken_148 ml_X6_114 rfl (zm_L (sv := 1) rfl) rfl (Nat.le_of_ble_eq_true rfl) ⟨Nat.le_of_ble_eq_true rfl, Nat.le_of_ble_eq_true rfl⟩ rfl rfl ⟨Nat.le_refl _, Nat.le_refl _⟩ rfl (fun _ _ h => k_X3_brokenAsEntered E 1 a2 M126 h) (fun r148 M148 => ?_)
          refine zm_iast 152 rfl dX6_fillBroken_151 rfl (zm_L1 rfl) (fun M151 _ => ?_)
          refine zm_iinc (lv' := fun z => [(7, .int z), (0, .ref (E.2.1 + 103)), (1, .int a1), (2, .int a2), (3, .int e54_3), (4, .int l57_4), (5, .int x89), (6, .int l94_6)]) 155 rfl dX6_fillBroken_152 zi_1 7 rfl (by decide) (fun _ => rfl) (fun x152 _ => ?_)
          refine zm_goto 104 (by decide) dX6_fillBroken_155 ?_
          exact zm_loc [1, 2, 3, 4, 5, 6, 7, 0] rfl (zm_go (hf104_94_57a _) (hD104_94_57 (x152, M151)))
  refine zm_loc [2, 3, 4, 1, 0] rfl (zm_lpp (σ := (Int32 × Int32)) (ε := Int32) (step := fun s => f_X6_fillBroken_l5 a1 M s.1 s.2) (fun s => [(0, .ref (E.2.1 + 103)), (1, .int a1), (2, .int a2), (3, .int s.1), (4, .int s.2)]) (fun _ => M) (fun D5 f5 hf5a hf5b hD5 s => ?_) (0, 0))
  obtain ⟨l5_3, l5_4⟩ := s
  show zm_V X Y_X6_fillBroken E (zm_Q X E Y_X6_fillBroken.2.2.2.1.cells Y_X6_fillBroken.2.2.2.1.slots (zm_w 1) zm_ev) 0 0 false (zm_w 1) 5 [(0, .ref (E.2.1 + 103)), (1, .int a1), (2, .int a2), (3, .int l5_3), (4, .int l5_4)] [] M (f_X6_fillBroken_l5 a1 M l5_3 l5_4) f5
  unfold f_X6_fillBroken_l5
  refine zm_iload 7 rfl dX6_fillBroken_5 4 rfl ?_
  refine zm_aload_n 8 rfl dX6_fillBroken_7 rfl 0 rfl ?_
  refine zm_getT 11 rfl dX6_fillBroken_8 fl_X6_47 rfl (zm_L1 rfl) (fun t8 _ ht8 => ?_)
  refine zm_getI 14 rfl dX6_fillBroken_11 fl_X6_74 (zm_T_o ht8) (zm_T_l0 (sv := 1) ht8) ?_
  refine zm_icmp_ge 54 17 (by decide) rfl dX6_fillBroken_14 ?_ ?_
  · exact zm_loc [0, 1, 2, 3] rfl (zm_go (hf5b _) (zm_unb (hx54_5 l5_3)))
  · refine zm_iload 19 rfl dX6_fillBroken_17 4 rfl ?_
    refine zm_iload_n 20 rfl dX6_fillBroken_19 rfl 1 rfl ?_
    have hb48_5 : ∀ (b48_3 : Int32), zm_V X Y_X6_fillBroken E (zm_Q X E Y_X6_fillBroken.2.2.2.1.cells Y_X6_fillBroken.2.2.2.1.slots (zm_w 1) zm_ev) 0 0 false (zm_w 1) 48 [(0, .ref (E.2.1 + 103)), (1, .int a1), (2, .int a2), (3, .int b48_3), (4, .int l5_4)] [] M (f_X6_fillBroken_b48_5 l5_4 b48_3) f5 := by
      intro b48_3
      unfold f_X6_fillBroken_b48_5
      refine zm_iinc (lv' := fun z => [(4, .int z), (0, .ref (E.2.1 + 103)), (1, .int a1), (2, .int a2), (3, .int b48_3)]) 51 rfl dX6_fillBroken_48 zi_1 4 rfl (by decide) (fun _ => rfl) (fun x48 _ => ?_)
      refine zm_goto 5 (by decide) dX6_fillBroken_51 ?_
      exact zm_loc [1, 2, 3, 4, 0] rfl (zm_go (hf5a _) (hD5 (b48_3, x48)))
    refine zm_icmp_eq 48 23 (by decide) rfl dX6_fillBroken_20 ?_ ?_
    · exact zm_loc [0, 1, 2, 3, 4] rfl (hb48_5 l5_3)
    · refine zm_aload_n 24 rfl dX6_fillBroken_23 rfl 0 rfl ?_
      refine zm_getT 27 rfl dX6_fillBroken_24 fl_X6_47 rfl (zm_L1 rfl) (fun t24 _ ht24 => ?_)
      refine zm_getR (a := t24 + 5) 30 rfl dX6_fillBroken_27 fl_X6_91 (zm_T_o ht24) (zm_T_l0 (sv := 1) ht24) (zm_T_r ht24 4 (by decide)) (Nat.succ_ne_zero _) ?_
      refine zm_iload 32 rfl dX6_fillBroken_30 4 rfl ?_
      refine zm_iald 33 rfl dX6_fillBroken_32 (zm_T_a ht24 5 (by decide)) (zm_T_l (sv := 1) ht24 5 (by decide)) ?_
      refine zm_aload_n 34 rfl dX6_fillBroken_33 rfl 0 rfl ?_
      refine zm_getT 37 rfl dX6_fillBroken_34 fl_X6_47 rfl (zm_L1 rfl) (fun t34 _ ht34 => ?_)
      refine zm_getR (a := t34 + 5) 40 rfl dX6_fillBroken_37 fl_X6_91 (zm_T_o ht34) (zm_T_l0 (sv := 1) ht34) (zm_T_r ht34 4 (by decide)) (Nat.succ_ne_zero _) ?_
      refine zm_iload_n 41 rfl dX6_fillBroken_40 rfl 1 rfl ?_
      refine zm_iald 42 rfl dX6_fillBroken_41 (zm_T_a ht34 5 (by decide)) (zm_T_l (sv := 1) ht34 5 (by decide)) ?_
      refine zm_icmp_ne 48 45 (by decide) rfl dX6_fillBroken_42 ?_ ?_
      · refine zm_iinc (lv' := fun z => [(3, .int z), (0, .ref (E.2.1 + 103)), (1, .int a1), (2, .int a2), (4, .int l5_4)]) 48 rfl dX6_fillBroken_45 zi_1 3 rfl (by decide) (fun _ => rfl) (fun x45 _ => ?_)
        exact zm_loc [1, 2, 3, 0, 4] rfl (hb48_5 x45)
      · exact zm_loc [0, 1, 2, 3, 4] rfl (hb48_5 l5_3)
abbrev Y_X6_brokenInRow : zm_Y := (cX6_brokenInRow, 6, RX6, { frames := 1, cells := 0, slots := 0, locals := 23 }, (some .int), false, "brokenInRow")
noncomputable def f_X6_brokenInRow_l4 (M : zm_Mem) (l4_1 : Int32) (l4_2 : Int32) : Option ((Int32 × Int32) ⊕ Int32) :=
 if (M.1 103 9) ≤ l4_2 then (some (.inr l4_1)) else (zm_ck (zm_in l4_2 6) <| zm_v (M.1 111 l4_2.toNatClampNeg) <| fun x18 => zm_ck (zm_in x18 6) <| zm_v (M.1 107 x18.toNatClampNeg) <| fun x25 => zm_v (M.2.2 103 10) <| fun t37 => zm_ck (zm_isT t37) <| zm_ck (zm_in x18 6) <| zm_ck (zm_in ((x25 * 10) + (M.1 (t37 + 5) x18.toNatClampNeg)) 50) <| zm_v ((M.1 110 ((x25 * 10) + (M.1 (t37 + 5) x18.toNatClampNeg)).toNatClampNeg) - 1) <| fun x49 => zm_ck (zm_in x25 5) <| zm_b1 (f_X6_brokenAt x18 x25 ((M.1 109 x25.toNatClampNeg) - 1) x49 M) <| fun r70 => zm_ck (zm_in r70 1080) <| zm_v (l4_1 ||| (M.1 106 r70.toNatClampNeg)) <| fun x75 => zm_v (l4_2 + 1) <| fun x76 => some (.inl (x75, x76)))
noncomputable def f_X6_brokenInRow  (M : zm_Mem) : Option Int32 :=
  (zm_lp (fun s => f_X6_brokenInRow_l4 M s.1 s.2) (0, 0)).bind (fun e82 => some e82)
set_option maxRecDepth 20000 in
set_option maxHeartbeats 4000000 in
theorem k_X6_brokenInRow (E : zm_E)  (M : zm_Mem) {r : Int32} (h : f_X6_brokenInRow M = some r) : zm_Ct E (zm_w 1) (zm_w 1) yX6_brokenInRow Y_X6_brokenInRow [.ref (E.2.1 + 103)] M (some (.int r)) M := by
  refine zm_methr (emb := zm_ei) (d := f_X6_brokenInRow M) (by decide) rfl rfl (Nat.le_of_ble_eq_true rfl) h (fun X => ?_)
  show zm_V X Y_X6_brokenInRow E (zm_Q X E Y_X6_brokenInRow.2.2.2.1.cells Y_X6_brokenInRow.2.2.2.1.slots (zm_w 1) zm_ei) 0 0 false (zm_w 1) 0 [(0, .ref (E.2.1 + 103))] [] M (f_X6_brokenInRow M) (fun r => some (r, M))
  unfold f_X6_brokenInRow
  refine zm_iconst 1 rfl dX6_brokenInRow_0 zi_0 ?_
  refine zm_istore_n (lv' := [(1, .int 0), (0, .ref (E.2.1 + 103))]) 2 rfl dX6_brokenInRow_1 rfl (by decide) rfl ?_
  refine zm_iconst 3 rfl dX6_brokenInRow_2 zi_0 ?_
  refine zm_istore_n (lv' := [(2, .int 0), (1, .int 0), (0, .ref (E.2.1 + 103))]) 4 rfl dX6_brokenInRow_3 rfl (by decide) rfl ?_
  have hx82_4 : ∀ (e82_1 : Int32), zm_V X Y_X6_brokenInRow E (zm_Q X E Y_X6_brokenInRow.2.2.2.1.cells Y_X6_brokenInRow.2.2.2.1.slots (zm_w 1) zm_ei) 0 0 false (zm_w 1) 82 [(1, .int e82_1)] [] M (some e82_1) (fun r => some (r, M)) := by
    intro e82_1
    refine zm_iload_n 83 rfl dX6_brokenInRow_82 rfl 0 rfl ?_
    exact zm_iret dX6_brokenInRow_83 rfl (Nat.le_refl _) (Nat.le_refl _) rfl
  refine zm_loc [2, 1, 0] rfl (zm_lpp (σ := (Int32 × Int32)) (ε := Int32) (step := fun s => f_X6_brokenInRow_l4 M s.1 s.2) (fun s => [(0, .ref (E.2.1 + 103)), (1, .int s.1), (2, .int s.2)]) (fun _ => M) (fun D4 f4 hf4a hf4b hD4 s => ?_) (0, 0))
  obtain ⟨l4_1, l4_2⟩ := s
  show zm_V X Y_X6_brokenInRow E (zm_Q X E Y_X6_brokenInRow.2.2.2.1.cells Y_X6_brokenInRow.2.2.2.1.slots (zm_w 1) zm_ei) 0 0 false (zm_w 1) 4 [(0, .ref (E.2.1 + 103)), (1, .int l4_1), (2, .int l4_2)] [] M (f_X6_brokenInRow_l4 M l4_1 l4_2) f4
  unfold f_X6_brokenInRow_l4
  refine zm_iload_n 5 rfl dX6_brokenInRow_4 rfl 2 rfl ?_
  refine zm_aload_n 6 rfl dX6_brokenInRow_5 rfl 0 rfl ?_
  refine zm_getI 9 rfl dX6_brokenInRow_6 fl_X6_71 rfl (zm_L1 rfl) ?_
  refine zm_icmp_ge 82 12 (by decide) rfl dX6_brokenInRow_9 ?_ ?_
  · exact zm_loc [1] rfl (zm_go (hf4b _) (zm_unb (hx82_4 l4_1)))
  · refine zm_aload_n 13 rfl dX6_brokenInRow_12 rfl 0 rfl ?_
    refine zm_getR (a := 111) 16 rfl dX6_brokenInRow_13 fl_X6_34 rfl (zm_L1 rfl) rfl (by decide) ?_
    refine zm_iload_n 17 rfl dX6_brokenInRow_16 rfl 2 rfl ?_
    refine zm_iald 18 rfl dX6_brokenInRow_17 rfl (zm_L1 rfl) ?_
    refine zm_nmi (fun x18 _ => ?_)
    refine zm_istore_n (lv' := [(3, .int x18), (0, .ref (E.2.1 + 103)), (1, .int l4_1), (2, .int l4_2)]) 19 rfl dX6_brokenInRow_18 rfl (by decide) rfl ?_
    refine zm_aload_n 20 rfl dX6_brokenInRow_19 rfl 1 rfl ?_
    refine zm_getR (a := 107) 23 rfl dX6_brokenInRow_20 fl_X6_22 rfl (zm_L1 rfl) rfl (by decide) ?_
    refine zm_iload_n 24 rfl dX6_brokenInRow_23 rfl 0 rfl ?_
    refine zm_iald 25 rfl dX6_brokenInRow_24 rfl (zm_L1 rfl) ?_
    refine zm_nmi (fun x25 _ => ?_)
    refine zm_istore (lv' := [(4, .int x25), (3, .int x18), (0, .ref (E.2.1 + 103)), (1, .int l4_1), (2, .int l4_2)]) 27 rfl dX6_brokenInRow_25 (by decide) rfl ?_
    refine zm_aload_n 28 rfl dX6_brokenInRow_27 rfl 2 rfl ?_
    refine zm_getR (a := 110) 31 rfl dX6_brokenInRow_28 fl_X6_31 rfl (zm_L1 rfl) rfl (by decide) ?_
    refine zm_iload 33 rfl dX6_brokenInRow_31 0 rfl ?_
    refine zm_bipush 35 rfl dX6_brokenInRow_33 zb_10 ?_
    refine zm_imul 36 rfl dX6_brokenInRow_35 ?_
    refine zm_aload_n 37 rfl dX6_brokenInRow_36 rfl 2 rfl ?_
    refine zm_getT 40 rfl dX6_brokenInRow_37 fl_X6_47 rfl (zm_L1 rfl) (fun t37 _ ht37 => ?_)
    refine zm_getR (a := t37 + 5) 43 rfl dX6_brokenInRow_40 fl_X6_91 (zm_T_o ht37) (zm_T_l0 (sv := 1) ht37) (zm_T_r ht37 4 (by decide)) (Nat.succ_ne_zero _) ?_
    refine zm_iload_n 44 rfl dX6_brokenInRow_43 rfl 1 rfl ?_
    refine zm_iald 45 rfl dX6_brokenInRow_44 (zm_T_a ht37 5 (by decide)) (zm_T_l (sv := 1) ht37 5 (by decide)) ?_
    refine zm_iadd 46 rfl dX6_brokenInRow_45 ?_
    refine zm_iald 47 rfl dX6_brokenInRow_46 rfl (zm_L1 rfl) ?_
    refine zm_iconst 48 rfl dX6_brokenInRow_47 zi_1 ?_
    refine zm_isub 49 rfl dX6_brokenInRow_48 ?_
    refine zm_nmi (fun x49 _ => ?_)
    refine zm_istore (lv' := [(5, .int x49), (4, .int x25), (3, .int x18), (0, .ref (E.2.1 + 103)), (1, .int l4_1), (2, .int l4_2)]) 51 rfl dX6_brokenInRow_49 (by decide) rfl ?_
    refine zm_iload_n 52 rfl dX6_brokenInRow_51 rfl 4 rfl ?_
    refine zm_aload_n 53 rfl dX6_brokenInRow_52 rfl 3 rfl ?_
    refine zm_getR (a := 106) 56 rfl dX6_brokenInRow_53 fl_X6_18 rfl (zm_L1 rfl) rfl (by decide) ?_
    refine zm_iload_n 57 rfl dX6_brokenInRow_56 rfl 2 rfl ?_
    refine zm_iload 59 rfl dX6_brokenInRow_57 1 rfl ?_
    refine zm_aload_n 60 rfl dX6_brokenInRow_59 rfl 3 rfl ?_
    refine zm_getR (a := 109) 63 rfl dX6_brokenInRow_60 fl_X6_28 rfl (zm_L1 rfl) rfl (by decide) ?_
    refine zm_iload 65 rfl dX6_brokenInRow_63 1 rfl ?_
    refine zm_iald 66 rfl dX6_brokenInRow_65 rfl (zm_L1 rfl) ?_
    refine zm_iconst 67 rfl dX6_brokenInRow_66 zi_1 ?_
    refine zm_isub 68 rfl dX6_brokenInRow_67 ?_
    refine zm_iload 70 rfl dX6_brokenInRow_68 0 rfl ?_
    refine zm_cS4ir 73 rfl dX6_brokenInRow_70 ml_X6_110 (Nat.le_of_ble_eq_true rfl) ⟨Nat.le_of_ble_eq_true rfl, Nat.le_of_ble_eq_true rfl⟩ rfl rfl ⟨Nat.le_refl _, Nat.le_refl _⟩ rfl (fun _ h => k_X6_brokenAt E (zm_w 1) x18 x25 ((M.1 109 x25.toNatClampNeg) - 1) x49 M h) (fun r70 => ?_)
    refine zm_iald 74 rfl dX6_brokenInRow_73 rfl (zm_L1 rfl) ?_
    refine zm_ior 75 rfl dX6_brokenInRow_74 ?_
    refine zm_nmi (fun x75 _ => ?_)
    refine zm_istore_n (lv' := [(1, .int x75), (5, .int x49), (4, .int x25), (3, .int x18), (0, .ref (E.2.1 + 103)), (2, .int l4_2)]) 76 rfl dX6_brokenInRow_75 rfl (by decide) rfl ?_
    refine zm_iinc (lv' := fun z => [(2, .int z), (1, .int x75), (5, .int x49), (4, .int x25), (3, .int x18), (0, .ref (E.2.1 + 103))]) 79 rfl dX6_brokenInRow_76 zi_1 5 rfl (by decide) (fun _ => rfl) (fun x76 _ => ?_)
    refine zm_goto 4 (by decide) dX6_brokenInRow_79 ?_
    exact zm_loc [5, 1, 0] rfl (zm_go (hf4a _) (hD4 (x75, x76)))
abbrev Y_X6_keepRow : zm_Y := (cX6_keepRow, 7, RX6, { frames := 2, cells := 0, slots := 0, locals := 100 }, none, false, "keepRow")
noncomputable def f_X6_keepRow (a1 : Int32) (a2 : Int32) (M : zm_Mem) : Option (Unit × zm_Mem) :=
  zm_b1 (f_X6_brokenInRow M) <| fun r1 => zm_v (zm_sL M 103 12 ((M.2.1 103 12) ||| ((1 : Int64) <<< (r1.toInt64 &&& 63)))) <| fun M14 => zm_v (a1 >>> ((6 : Int32) &&& 31)) <| fun x21 => if x21 < 0 then (some ((), M14)) else (if x21 < (625 : Int32) then (zm_v ((1 : Int64) <<< ((a1 &&& 63).toInt64 &&& 63)) <| fun x43 => zm_ck (zm_in x21 625) <| zm_ck (zm_in x21 625) <| zm_v (zm_sL M14 104 x21.toNatClampNeg ((M14.2.1 104 x21.toNatClampNeg) ||| x43)) <| fun M56 => if r1 = 0 then (zm_ck (zm_in x21 625) <| zm_ck (zm_in x21 625) <| zm_v (zm_sL M56 105 x21.toNatClampNeg ((M56.2.1 105 x21.toNatClampNeg) ||| x43)) <| fun M73 => zm_v (zm_sI M73 103 13 ((M73.1 103 13) + 1)) <| fun M81 => if (M81.1 103 14) ≤ a2 then (some ((), M81)) else (zm_v (zm_sI M81 103 14 a2) <| fun M94 => zm_ck (decide ((0 : Int32) ≤ 0) && (decide ((0 : Int32) ≤ 0) && (decide (0 ≤ 6) && (decide ((0 : Int32).toNatClampNeg + (6 : Int32).toNatClampNeg ≤ 6) && decide ((0 : Int32).toNatClampNeg + (6 : Int32).toNatClampNeg ≤ 6))))) <| zm_v (zm_cp M94 107 (0 : Int32).toNatClampNeg 108 (0 : Int32).toNatClampNeg (6 : Int32).toNatClampNeg) <| fun M109 => some ((), M109))) else (some ((), M56))) else (some ((), M14)))
set_option maxRecDepth 20000 in
set_option maxHeartbeats 4000000 in
theorem k_X6_keepRow (E : zm_E) (a1 : Int32) (a2 : Int32) (M : zm_Mem) {r : Unit} {M' : zm_Mem} (h : f_X6_keepRow a1 a2 M = some (r, M')) : zm_Ct E (zm_w 1) (zm_w 1) yX6_keepRow Y_X6_keepRow [.ref (E.2.1 + 103), .int a1, .int a2] M none M' := by
  refine zm_meth (emb := zm_ev) (d := f_X6_keepRow a1 a2 M) (by decide) rfl rfl (Nat.le_of_ble_eq_true rfl) h (fun X => ?_)
  show zm_V X Y_X6_keepRow E (zm_Q X E Y_X6_keepRow.2.2.2.1.cells Y_X6_keepRow.2.2.2.1.slots (zm_w 1) zm_ev) 0 0 false (zm_w 1) 0 [(0, .ref (E.2.1 + 103)), (1, .int a1), (2, .int a2)] [] M (f_X6_keepRow a1 a2 M) some
  unfold f_X6_keepRow
  refine zm_aload_n 1 rfl dX6_keepRow_0 rfl 0 rfl ?_
  refine zm_cV0ir 4 rfl dX6_keepRow_1 ml_X6_123 rfl (zm_L1 rfl) rfl (Nat.le_of_ble_eq_true rfl) ⟨Nat.le_of_ble_eq_true rfl, Nat.le_of_ble_eq_true rfl⟩ rfl rfl ⟨Nat.le_refl _, Nat.le_refl _⟩ rfl (fun _ h => k_X6_brokenInRow E M h) (fun r1 => ?_)
  refine zm_istore_n (lv' := [(3, .int r1), (0, .ref (E.2.1 + 103)), (1, .int a1), (2, .int a2)]) 5 rfl dX6_keepRow_4 rfl (by decide) rfl ?_
  refine zm_aload_n 6 rfl dX6_keepRow_5 rfl 1 rfl ?_
  refine zm_dup 7 rfl dX6_keepRow_6 rfl ?_
  refine zm_getL 10 rfl dX6_keepRow_7 fl_X6_67 rfl (zm_L1 rfl) ?_
  refine zm_lconst 11 rfl dX6_keepRow_10 rfl ?_
  refine zm_iload_n 12 rfl dX6_keepRow_11 rfl 0 rfl ?_
  refine zm_lshl 13 rfl dX6_keepRow_12 ?_
  refine zm_lor 14 rfl dX6_keepRow_13 ?_
  refine zm_putL 17 rfl dX6_keepRow_14 fp_X6_67 rfl (zm_L1 rfl) (fun M14 _ => ?_)
  refine zm_iload_n 18 rfl dX6_keepRow_17 rfl 2 rfl ?_
  refine zm_bipush 20 rfl dX6_keepRow_18 zb_6 ?_
  refine zm_ishr 21 rfl dX6_keepRow_20 ?_
  refine zm_nmi (fun x21 _ => ?_)
  refine zm_istore (lv' := [(4, .int x21), (3, .int r1), (0, .ref (E.2.1 + 103)), (1, .int a1), (2, .int a2)]) 23 rfl dX6_keepRow_21 (by decide) rfl ?_
  refine zm_iload 25 rfl dX6_keepRow_23 0 rfl ?_
  refine zm_if_lt 36 28 (by decide) rfl dX6_keepRow_25 ?_ ?_
  · exact zm_vret dX6_keepRow_36 rfl (Nat.le_refl _) (Nat.le_refl _) rfl
  · refine zm_iload 30 rfl dX6_keepRow_28 0 rfl ?_
    refine zm_sipush 33 rfl dX6_keepRow_30 zs_625 ?_
    refine zm_icmp_lt 37 36 (by decide) rfl dX6_keepRow_33 ?_ ?_
    · refine zm_lconst 38 rfl dX6_keepRow_37 rfl ?_
      refine zm_iload_n 39 rfl dX6_keepRow_38 rfl 3 rfl ?_
      refine zm_bipush 41 rfl dX6_keepRow_39 zb_63 ?_
      refine zm_iand 42 rfl dX6_keepRow_41 ?_
      refine zm_lshl 43 rfl dX6_keepRow_42 ?_
      refine zm_nml (fun x43 _ => ?_)
      refine zm_lstore (lv' := [(5, .long x43), (4, .int x21), (3, .int r1), (0, .ref (E.2.1 + 103)), (1, .int a1), (2, .int a2)]) 45 rfl dX6_keepRow_43 (by decide) rfl ?_
      refine zm_aload_n 46 rfl dX6_keepRow_45 rfl 3 rfl ?_
      refine zm_getR (a := 104) 49 rfl dX6_keepRow_46 fl_X6_11 rfl (zm_L1 rfl) rfl (by decide) ?_
      refine zm_iload 51 rfl dX6_keepRow_49 1 rfl ?_
      refine zm_dup2 52 rfl dX6_keepRow_51 rfl rfl ?_
      refine zm_lald 53 rfl dX6_keepRow_52 rfl (zm_L1 rfl) ?_
      refine zm_lload 55 rfl dX6_keepRow_53 0 rfl ?_
      refine zm_lor 56 rfl dX6_keepRow_55 ?_
      refine zm_last 57 rfl dX6_keepRow_56 rfl (zm_L1 rfl) (fun M56 _ => ?_)
      refine zm_iload_n 58 rfl dX6_keepRow_57 rfl 2 rfl ?_
      refine zm_if_eq 62 61 (by decide) rfl dX6_keepRow_58 ?_ ?_
      · refine zm_aload_n 63 rfl dX6_keepRow_62 rfl 3 rfl ?_
        refine zm_getR (a := 105) 66 rfl dX6_keepRow_63 fl_X6_15 rfl (zm_L1 rfl) rfl (by decide) ?_
        refine zm_iload 68 rfl dX6_keepRow_66 1 rfl ?_
        refine zm_dup2 69 rfl dX6_keepRow_68 rfl rfl ?_
        refine zm_lald 70 rfl dX6_keepRow_69 rfl (zm_L1 rfl) ?_
        refine zm_lload 72 rfl dX6_keepRow_70 0 rfl ?_
        refine zm_lor 73 rfl dX6_keepRow_72 ?_
        refine zm_last 74 rfl dX6_keepRow_73 rfl (zm_L1 rfl) (fun M73 _ => ?_)
        refine zm_aload_n 75 rfl dX6_keepRow_74 rfl 3 rfl ?_
        refine zm_dup 76 rfl dX6_keepRow_75 rfl ?_
        refine zm_getI 79 rfl dX6_keepRow_76 fl_X6_51 rfl (zm_L1 rfl) ?_
        refine zm_iconst 80 rfl dX6_keepRow_79 zi_1 ?_
        refine zm_iadd 81 rfl dX6_keepRow_80 ?_
        refine zm_putI 84 rfl dX6_keepRow_81 fp_X6_51 rfl (zm_L1 rfl) rfl rfl (fun M81 _ => ?_)
        refine zm_iload_n 85 rfl dX6_keepRow_84 rfl 5 rfl ?_
        refine zm_aload_n 86 rfl dX6_keepRow_85 rfl 3 rfl ?_
        refine zm_getI 89 rfl dX6_keepRow_86 fl_X6_55 rfl (zm_L1 rfl) ?_
        refine zm_icmp_ge 112 92 (by decide) rfl dX6_keepRow_89 ?_ ?_
        · exact zm_vret dX6_keepRow_112 rfl (Nat.le_refl _) (Nat.le_refl _) rfl
        · refine zm_aload_n 93 rfl dX6_keepRow_92 rfl 3 rfl ?_
          refine zm_iload_n 94 rfl dX6_keepRow_93 rfl 5 rfl ?_
          refine zm_putI 97 rfl dX6_keepRow_94 fp_X6_55 rfl (zm_L1 rfl) rfl rfl (fun M94 _ => ?_)
          refine zm_aload_n 98 rfl dX6_keepRow_97 rfl 3 rfl ?_
          refine zm_getR (a := 107) 101 rfl dX6_keepRow_98 fl_X6_22 rfl (zm_L1 rfl) rfl (by decide) ?_
          refine zm_iconst 102 rfl dX6_keepRow_101 zi_0 ?_
          refine zm_aload_n 103 rfl dX6_keepRow_102 rfl 3 rfl ?_
          refine zm_getR (a := 108) 106 rfl dX6_keepRow_103 fl_X6_25 rfl (zm_L1 rfl) rfl (by decide) ?_
          refine zm_iconst 107 rfl dX6_keepRow_106 zi_0 ?_
          refine zm_bipush 109 rfl dX6_keepRow_107 zb_6 ?_
          refine zm_copy 112 rfl dX6_keepRow_109 ac_X6_127 ac_nat ac_st in_sys rfl rfl (zm_L1 rfl) (zm_L1 rfl) (Nat.le_of_ble_eq_true rfl) (Nat.le_of_ble_eq_true rfl) (fun M109 _ => ?_)
          exact zm_vret dX6_keepRow_112 rfl (Nat.le_refl _) (Nat.le_refl _) rfl
      · exact zm_vret dX6_keepRow_61 rfl (Nat.le_refl _) (Nat.le_refl _) rfl
    · exact zm_vret dX6_keepRow_36 rfl (Nat.le_refl _) (Nat.le_refl _) rfl
abbrev Y_X6_hang (dp : Nat) : zm_Y := (cX6_hang, 6, RX6, { frames := 3 + dp, cells := 0, slots := 0, locals := 126 + 40 * dp }, none, false, "hang")
noncomputable def f_X6_hang_b17 (a2 : Int32) (a3 : Int32) (M : zm_Mem) : Option (Unit × zm_Mem) :=
 zm_b2 (f_X6_keepRow a2 a3 M) <| fun _ M20 => some ((), M20)
noncomputable def f_X6_hang_b171_38 (l38_5 : Int32) (M171 : zm_Mem) : Option ((Int32 × zm_Mem) ⊕ zm_Mem) :=
 zm_v (l38_5 + 1) <| fun x171 => some (.inl (x171, M171))
noncomputable def f_X6_hang_b140_38 (rec : (Nat → Int32 → Int32 → Int32 → zm_Mem → Option (Unit × zm_Mem))) (x33 : Int32) (l38_5 : Int32) (M105 : zm_Mem) (b140_s1 : Int32) (b140_s2 : Int32) (b140_s3 : Int32) : Option ((Int32 × zm_Mem) ⊕ zm_Mem) :=
 zm_b2 (rec 0 b140_s1 b140_s2 b140_s3 M105) <| fun _ M140 => zm_ck (zm_in l38_5 5) <| zm_ck (zm_in l38_5 5) <| zm_v (zm_sI M140 109 l38_5.toNatClampNeg ((M140.1 109 l38_5.toNatClampNeg) - 1)) <| fun M153 => zm_ck (zm_in ((l38_5 * 10) + x33) 50) <| zm_ck (zm_in ((l38_5 * 10) + x33) 50) <| zm_v (zm_sI M153 110 ((l38_5 * 10) + x33).toNatClampNeg ((M153.1 110 ((l38_5 * 10) + x33).toNatClampNeg) - 1)) <| fun M170 => f_X6_hang_b171_38 l38_5 M170
noncomputable def f_X6_hang_l38 (rec : (Nat → Int32 → Int32 → Int32 → zm_Mem → Option (Unit × zm_Mem))) (a1 : Int32) (a2 : Int32) (a3 : Int32) (x33 : Int32) (l38_5 : Int32) (L38 : zm_Mem) : Option ((Int32 × zm_Mem) ⊕ zm_Mem) :=
 zm_v (L38.2.2 103 10) <| fun t41 => zm_ck (zm_isT t41) <| if (L38.1 t41 11) ≤ l38_5 then (some (.inr L38)) else (zm_ck (zm_in l38_5 5) <| zm_v (L38.2.2 103 10) <| fun t58 => zm_ck (zm_isT t58) <| zm_ck (zm_in l38_5 5) <| if (L38.1 (t58 + 2) l38_5.toNatClampNeg) ≤ (L38.1 109 l38_5.toNatClampNeg) then (f_X6_hang_b171_38 l38_5 L38) else (zm_ck (zm_in a1 6) <| zm_v (zm_sI L38 107 a1.toNatClampNeg l38_5) <| fun M77 => zm_ck (zm_in l38_5 5) <| zm_ck (zm_in l38_5 5) <| zm_v (zm_sI M77 109 l38_5.toNatClampNeg ((M77.1 109 l38_5.toNatClampNeg) + 1)) <| fun M88 => zm_ck (zm_in ((l38_5 * 10) + x33) 50) <| zm_ck (zm_in ((l38_5 * 10) + x33) 50) <| zm_v (zm_sI M88 110 ((l38_5 * 10) + x33).toNatClampNeg ((M88.1 110 ((l38_5 * 10) + x33).toNatClampNeg) + 1)) <| fun M105 => zm_ck (zm_in a1 6) <| zm_b1 (f_X3_spot a1 M105) <| fun r125 => if r125 = l38_5 then (f_X6_hang_b140_38 rec x33 l38_5 M105 (a1 + 1) (a2 + ((zm_steps a1.toNatClampNeg) * l38_5)) a3) else (f_X6_hang_b140_38 rec x33 l38_5 M105 (a1 + 1) (a2 + ((zm_steps a1.toNatClampNeg) * l38_5)) (a3 + 1))))
noncomputable def f_X6_hang (rec : (Nat → Int32 → Int32 → Int32 → zm_Mem → Option (Unit × zm_Mem))) (a1 : Int32) (a2 : Int32) (a3 : Int32) (M : zm_Mem) : Option (Unit × zm_Mem) :=
  zm_v (M.2.2 103 10) <| fun t2 => zm_ck (zm_isT t2) <| if (M.1 t2 12) ≤ a1 then (f_X6_hang_b17 a2 a3 M) else (if a1 < (6 : Int32) then (zm_v (M.2.2 103 10) <| fun t25 => zm_ck (zm_isT t25) <| zm_ck (zm_in a1 6) <| zm_v (M.1 (t25 + 5) a1.toNatClampNeg) <| fun x33 => (zm_lp (fun s => f_X6_hang_l38 rec a1 a2 a3 x33 s.1 s.2) (0, M)).bind (fun e177 => some ((), e177))) else (f_X6_hang_b17 a2 a3 M))
set_option maxRecDepth 20000 in
set_option maxHeartbeats 4000000 in
theorem kb_X6_hang (E : zm_E) (dp : Nat) (rec : (Nat → Int32 → Int32 → Int32 → zm_Mem → Option (Unit × zm_Mem))) (hr0 : ∀ (a1 : Int32) (a2 : Int32) (a3 : Int32) (M : zm_Mem) (r : Unit) (M' : zm_Mem), rec 0 a1 a2 a3 M = some (r, M') → zm_Ct E (zm_w 1) (zm_w 1) yX6_hang (Y_X6_hang dp) [.ref (E.2.1 + 103), .int a1, .int a2, .int a3] M none M') (a1 : Int32) (a2 : Int32) (a3 : Int32) (M : zm_Mem) (r : Unit) (M' : zm_Mem) (h : f_X6_hang rec a1 a2 a3 M = some (r, M')) : zm_Ct E (zm_w 1) (zm_w 1) yX6_hang (Y_X6_hang (dp + 1)) [.ref (E.2.1 + 103), .int a1, .int a2, .int a3] M none M' := by
  have hr0 : ∀ (a1 : Int32) (a2 : Int32) (a3 : Int32) (M : zm_Mem) {r : Unit} {M' : zm_Mem}, rec 0 a1 a2 a3 M = some (r, M') → zm_Ct E (zm_w 1) (zm_w 1) yX6_hang (Y_X6_hang dp) [.ref (E.2.1 + 103), .int a1, .int a2, .int a3] M none M' := fun _ _ _ _ {_} {_} h => hr0 _ _ _ _ _ _ h
  refine zm_meth (emb := zm_ev) (d := f_X6_hang rec a1 a2 a3 M) (by decide) rfl rfl (Nat.le_of_ble_eq_true rfl) h (fun X => ?_)
  show zm_V X (Y_X6_hang (dp + 1)) E (zm_Q X E (Y_X6_hang (dp + 1)).2.2.2.1.cells (Y_X6_hang (dp + 1)).2.2.2.1.slots (zm_w 1) zm_ev) 0 0 false (zm_w 1) 0 [(0, .ref (E.2.1 + 103)), (1, .int a1), (2, .int a2), (3, .int a3)] [] M (f_X6_hang rec a1 a2 a3 M) some
  unfold f_X6_hang
  refine zm_iload_n 1 rfl dX6_hang_0 rfl 1 rfl ?_
  refine zm_aload_n 2 rfl dX6_hang_1 rfl 0 rfl ?_
  refine zm_getT 5 rfl dX6_hang_2 fl_X6_47 rfl (zm_L1 rfl) (fun t2 _ ht2 => ?_)
  refine zm_getI 8 rfl dX6_hang_5 fl_X6_74 (zm_T_o ht2) (zm_T_l0 (sv := 1) ht2) ?_
  have hb17 : zm_V X (Y_X6_hang (dp + 1)) E (zm_Q X E (Y_X6_hang (dp + 1)).2.2.2.1.cells (Y_X6_hang (dp + 1)).2.2.2.1.slots (zm_w 1) zm_ev) 0 0 false (zm_w 1) 17 [(0, .ref (E.2.1 + 103)), (2, .int a2), (3, .int a3)] [] M (f_X6_hang_b17 a2 a3 M) some := by
    unfold f_X6_hang_b17
    refine zm_aload_n 18 rfl dX6_hang_17 rfl 0 rfl ?_
    refine zm_iload_n 19 rfl dX6_hang_18 rfl 1 rfl ?_
    refine zm_iload_n 20 rfl dX6_hang_19 rfl 2 rfl ?_
    refine zm_cV2v 23 rfl dX6_hang_20 ml_X6_117 rfl (zm_L1 rfl) rfl (Nat.le_of_ble_eq_true rfl) ⟨by show 2 + 1 ≤ 3 + (dp + 1); omega, by show 8 + (7 + 11) + 100 ≤ 126 + 40 * (dp + 1); omega⟩ rfl rfl ⟨Nat.le_refl _, Nat.le_refl _⟩ rfl (fun _ _ h => k_X6_keepRow E a2 a3 M h) (fun _ M20 => ?_)
    exact zm_vret dX6_hang_23 rfl (Nat.le_refl _) (Nat.le_refl _) rfl
  refine zm_icmp_ge 17 11 (by decide) rfl dX6_hang_8 ?_ ?_
  · exact zm_loc [0, 2, 3] rfl (hb17)
  · refine zm_iload_n 12 rfl dX6_hang_11 rfl 1 rfl ?_
    refine zm_bipush 14 rfl dX6_hang_12 zb_6 ?_
    refine zm_icmp_lt 24 17 (by decide) rfl dX6_hang_14 ?_ ?_
    · refine zm_aload_n 25 rfl dX6_hang_24 rfl 0 rfl ?_
      refine zm_getT 28 rfl dX6_hang_25 fl_X6_47 rfl (zm_L1 rfl) (fun t25 _ ht25 => ?_)
      refine zm_getR (a := t25 + 5) 31 rfl dX6_hang_28 fl_X6_91 (zm_T_o ht25) (zm_T_l0 (sv := 1) ht25) (zm_T_r ht25 4 (by decide)) (Nat.succ_ne_zero _) ?_
      refine zm_iload_n 32 rfl dX6_hang_31 rfl 1 rfl ?_
      refine zm_iald 33 rfl dX6_hang_32 (zm_T_a ht25 5 (by decide)) (zm_T_l (sv := 1) ht25 5 (by decide)) ?_
      refine zm_nmi (fun x33 _ => ?_)
      refine zm_istore (lv' := [(4, .int x33), (0, .ref (E.2.1 + 103)), (1, .int a1), (2, .int a2), (3, .int a3)]) 35 rfl dX6_hang_33 (Nat.le_of_ble_eq_true rfl) rfl ?_
      refine zm_iconst 36 rfl dX6_hang_35 zi_0 ?_
      refine zm_istore (lv' := [(5, .int 0), (4, .int x33), (0, .ref (E.2.1 + 103)), (1, .int a1), (2, .int a2), (3, .int a3)]) 38 rfl dX6_hang_36 (Nat.le_of_ble_eq_true rfl) rfl ?_
      have hx177_38 : ∀ (N177 : zm_Mem), zm_V X (Y_X6_hang (dp + 1)) E (zm_Q X E (Y_X6_hang (dp + 1)).2.2.2.1.cells (Y_X6_hang (dp + 1)).2.2.2.1.slots (zm_w 1) zm_ev) 0 0 false (zm_w 1) 177 [] [] N177 (some ((), N177)) some := by
        intro N177
        exact zm_vret dX6_hang_177 rfl (Nat.le_refl _) (Nat.le_refl _) rfl
      refine zm_loc [2, 3, 4, 5, 1, 0] rfl (zm_lpp (σ := (Int32 × zm_Mem)) (ε := zm_Mem) (step := fun s => f_X6_hang_l38 rec a1 a2 a3 x33 s.1 s.2) (fun s => [(0, .ref (E.2.1 + 103)), (1, .int a1), (2, .int a2), (3, .int a3), (4, .int x33), (5, .int s.1)]) (fun s => s.2) (fun D38 f38 hf38a hf38b hD38 s => ?_) (0, M))
      obtain ⟨l38_5, L38⟩ := s
      show zm_V X (Y_X6_hang (dp + 1)) E (zm_Q X E (Y_X6_hang (dp + 1)).2.2.2.1.cells (Y_X6_hang (dp + 1)).2.2.2.1.slots (zm_w 1) zm_ev) 0 0 false (zm_w 1) 38 [(0, .ref (E.2.1 + 103)), (1, .int a1), (2, .int a2), (3, .int a3), (4, .int x33), (5, .int l38_5)] [] L38 (f_X6_hang_l38 rec a1 a2 a3 x33 l38_5 L38) f38
      unfold f_X6_hang_l38
      refine zm_iload 40 rfl dX6_hang_38 5 rfl ?_
      refine zm_aload_n 41 rfl dX6_hang_40 rfl 0 rfl ?_
      refine zm_getT 44 rfl dX6_hang_41 fl_X6_47 rfl (zm_L1 rfl) (fun t41 _ ht41 => ?_)
      refine zm_getI 47 rfl dX6_hang_44 fl_X6_94 (zm_T_o ht41) (zm_T_l0 (sv := 1) ht41) ?_
      refine zm_icmp_ge 177 50 (by decide) rfl dX6_hang_47 ?_ ?_
      · exact zm_loc [] rfl (zm_go (hf38b _) (zm_unb (hx177_38 L38)))
      · refine zm_aload_n 51 rfl dX6_hang_50 rfl 0 rfl ?_
        refine zm_getR (a := 109) 54 rfl dX6_hang_51 fl_X6_28 rfl (zm_L1 rfl) rfl (by decide) ?_
        refine zm_iload 56 rfl dX6_hang_54 5 rfl ?_
        refine zm_iald 57 rfl dX6_hang_56 rfl (zm_L1 rfl) ?_
        refine zm_aload_n 58 rfl dX6_hang_57 rfl 0 rfl ?_
        refine zm_getT 61 rfl dX6_hang_58 fl_X6_47 rfl (zm_L1 rfl) (fun t58 _ ht58 => ?_)
        refine zm_getR (a := t58 + 2) 64 rfl dX6_hang_61 fl_X6_97 (zm_T_o ht58) (zm_T_l0 (sv := 1) ht58) (zm_T_r ht58 1 (by decide)) (Nat.succ_ne_zero _) ?_
        refine zm_iload 66 rfl dX6_hang_64 5 rfl ?_
        refine zm_iald 67 rfl dX6_hang_66 (zm_T_a ht58 2 (by decide)) (zm_T_l (sv := 1) ht58 2 (by decide)) ?_
        have hb171_38 : ∀ (M171 : zm_Mem), zm_V X (Y_X6_hang (dp + 1)) E (zm_Q X E (Y_X6_hang (dp + 1)).2.2.2.1.cells (Y_X6_hang (dp + 1)).2.2.2.1.slots (zm_w 1) zm_ev) 0 0 false (zm_w 1) 171 [(0, .ref (E.2.1 + 103)), (1, .int a1), (2, .int a2), (3, .int a3), (4, .int x33), (5, .int l38_5)] [] M171 (f_X6_hang_b171_38 l38_5 M171) f38 := by
          intro M171
          unfold f_X6_hang_b171_38
          refine zm_iinc (lv' := fun z => [(5, .int z), (0, .ref (E.2.1 + 103)), (1, .int a1), (2, .int a2), (3, .int a3), (4, .int x33)]) 174 rfl dX6_hang_171 zi_1 5 rfl (Nat.le_of_ble_eq_true rfl) (fun _ => rfl) (fun x171 _ => ?_)
          refine zm_goto 38 (by decide) dX6_hang_174 ?_
          exact zm_loc [1, 2, 3, 4, 5, 0] rfl (zm_go (hf38a _) (hD38 (x171, M171)))
        refine zm_icmp_ge 171 70 (by decide) rfl dX6_hang_67 ?_ ?_
        · exact zm_loc [0, 1, 2, 3, 4, 5] rfl (hb171_38 L38)
        · refine zm_aload_n 71 rfl dX6_hang_70 rfl 0 rfl ?_
          refine zm_getR (a := 107) 74 rfl dX6_hang_71 fl_X6_22 rfl (zm_L1 rfl) rfl (by decide) ?_
          refine zm_iload_n 75 rfl dX6_hang_74 rfl 1 rfl ?_
          refine zm_iload 77 rfl dX6_hang_75 5 rfl ?_
          refine zm_iast 78 rfl dX6_hang_77 rfl (zm_L1 rfl) (fun M77 _ => ?_)
          refine zm_aload_n 79 rfl dX6_hang_78 rfl 0 rfl ?_
          refine zm_getR (a := 109) 82 rfl dX6_hang_79 fl_X6_28 rfl (zm_L1 rfl) rfl (by decide) ?_
          refine zm_iload 84 rfl dX6_hang_82 5 rfl ?_
          refine zm_dup2 85 rfl dX6_hang_84 rfl rfl ?_
          refine zm_iald 86 rfl dX6_hang_85 rfl (zm_L1 rfl) ?_
          refine zm_iconst 87 rfl dX6_hang_86 zi_1 ?_
          refine zm_iadd 88 rfl dX6_hang_87 ?_
          refine zm_iast 89 rfl dX6_hang_88 rfl (zm_L1 rfl) (fun M88 _ => ?_)
          refine zm_aload_n 90 rfl dX6_hang_89 rfl 0 rfl ?_
          refine zm_getR (a := 110) 93 rfl dX6_hang_90 fl_X6_31 rfl (zm_L1 rfl) rfl (by decide) ?_
          refine zm_iload 95 rfl dX6_hang_93 5 rfl ?_
          refine zm_bipush 97 rfl dX6_hang_95 zb_10 ?_
          refine zm_imul 98 rfl dX6_hang_97 ?_
          refine zm_iload 100 rfl dX6_hang_98 4 rfl ?_
          refine zm_iadd 101 rfl dX6_hang_100 ?_
          refine zm_dup2 102 rfl dX6_hang_101 rfl rfl ?_
          refine zm_iald 103 rfl dX6_hang_102 rfl (zm_L1 rfl) ?_
          refine zm_iconst 104 rfl dX6_hang_103 zi_1 ?_
          refine zm_iadd 105 rfl dX6_hang_104 ?_
          refine zm_iast 106 rfl dX6_hang_105 rfl (zm_L1 rfl) (fun M105 _ => ?_)
          refine zm_aload_n 107 rfl dX6_hang_106 rfl 0 rfl ?_
          refine zm_iload_n 108 rfl dX6_hang_107 rfl 1 rfl ?_
          refine zm_iconst 109 rfl dX6_hang_108 zi_1 ?_
          refine zm_iadd 110 rfl dX6_hang_109 ?_
          refine zm_iload_n 111 rfl dX6_hang_110 rfl 2 rfl ?_
          refine zm_steps_get 114 rfl dX6_hang_111 fs_X6_48 ?_
          refine zm_iload_n 115 rfl dX6_hang_114 rfl 1 rfl ?_
          refine zm_steps_ld 116 rfl dX6_hang_115 ?_
          refine zm_iload 118 rfl dX6_hang_116 5 rfl ?_
          refine zm_imul 119 rfl dX6_hang_118 ?_
          refine zm_iadd 120 rfl dX6_hang_119 ?_
          refine zm_aload_n 121 rfl dX6_hang_120 rfl 0 rfl ?_
          refine zm_getR (a := 47) 124 rfl dX6_hang_121 fl_X6_37 rfl (zm_L1 rfl) rfl (by decide) ?_
          refine zm_iload_n 125 rfl dX6_hang_124 rfl 1 rfl ?_
          refine zm_cV1ir 128 rfl dX6_hang_125 ml_X6_120 rfl (zm_L (sv := 1) rfl) rfl (Nat.le_of_ble_eq_true rfl) ⟨by show 0 + 1 ≤ 3 + (dp + 1); omega, by show 8 + (2 + 11) + 0 ≤ 126 + 40 * (dp + 1); omega⟩ rfl rfl ⟨Nat.le_refl _, Nat.le_refl _⟩ rfl (fun _ h => k_X3_spot E 1 a1 M105 h) (fun r125 => ?_)
          refine zm_iload 130 rfl dX6_hang_128 5 rfl ?_
          have hb140_38 : ∀ (b140_s1 : Int32) (b140_s2 : Int32) (b140_s3 : Int32), zm_V X (Y_X6_hang (dp + 1)) E (zm_Q X E (Y_X6_hang (dp + 1)).2.2.2.1.cells (Y_X6_hang (dp + 1)).2.2.2.1.slots (zm_w 1) zm_ev) 0 0 false (zm_w 1) 140 [(0, .ref (E.2.1 + 103)), (1, .int a1), (2, .int a2), (3, .int a3), (4, .int x33), (5, .int l38_5)] [.int b140_s3, .int b140_s2, .int b140_s1, .ref (E.2.1 + 103)] M105 (f_X6_hang_b140_38 rec x33 l38_5 M105 b140_s1 b140_s2 b140_s3) f38 := by
            intro b140_s1 b140_s2 b140_s3
            unfold f_X6_hang_b140_38
            refine zm_cV3v 143 rfl dX6_hang_140 ml_X6_87 rfl (zm_L1 rfl) rfl (Nat.le_of_ble_eq_true rfl) ⟨by show 3 + dp + 1 ≤ 3 + (dp + 1); omega, by show 8 + (6 + 11) + (126 + 40 * dp) ≤ 126 + 40 * (dp + 1); omega⟩ rfl rfl ⟨Nat.le_refl _, Nat.le_refl _⟩ rfl (fun _ _ h => hr0 b140_s1 b140_s2 b140_s3 M105 h) (fun _ M140 => ?_)
            refine zm_aload_n 144 rfl dX6_hang_143 rfl 0 rfl ?_
            refine zm_getR (a := 109) 147 rfl dX6_hang_144 fl_X6_28 rfl (zm_L1 rfl) rfl (by decide) ?_
            refine zm_iload 149 rfl dX6_hang_147 5 rfl ?_
            refine zm_dup2 150 rfl dX6_hang_149 rfl rfl ?_
            refine zm_iald 151 rfl dX6_hang_150 rfl (zm_L1 rfl) ?_
            refine zm_iconst 152 rfl dX6_hang_151 zi_1 ?_
            refine zm_isub 153 rfl dX6_hang_152 ?_
            refine zm_iast 154 rfl dX6_hang_153 rfl (zm_L1 rfl) (fun M153 _ => ?_)
            refine zm_aload_n 155 rfl dX6_hang_154 rfl 0 rfl ?_
            refine zm_getR (a := 110) 158 rfl dX6_hang_155 fl_X6_31 rfl (zm_L1 rfl) rfl (by decide) ?_
            refine zm_iload 160 rfl dX6_hang_158 5 rfl ?_
            refine zm_bipush 162 rfl dX6_hang_160 zb_10 ?_
            refine zm_imul 163 rfl dX6_hang_162 ?_
            refine zm_iload 165 rfl dX6_hang_163 4 rfl ?_
            refine zm_iadd 166 rfl dX6_hang_165 ?_
            refine zm_dup2 167 rfl dX6_hang_166 rfl rfl ?_
            refine zm_iald 168 rfl dX6_hang_167 rfl (zm_L1 rfl) ?_
            refine zm_iconst 169 rfl dX6_hang_168 zi_1 ?_
            refine zm_isub 170 rfl dX6_hang_169 ?_
            refine zm_iast 171 rfl dX6_hang_170 rfl (zm_L1 rfl) (fun M170 _ => ?_)
            exact zm_loc [0, 1, 2, 3, 4, 5] rfl (hb171_38 M170)
          refine zm_icmp_ne 137 133 (by decide) rfl dX6_hang_130 ?_ ?_
          · refine zm_iload_n 134 rfl dX6_hang_133 rfl 3 rfl ?_
            refine zm_goto 140 (by decide) dX6_hang_134 ?_
            exact zm_loc [0, 1, 2, 3, 4, 5] rfl (hb140_38 (a1 + 1) (a2 + ((zm_steps a1.toNatClampNeg) * l38_5)) a3)
          · refine zm_iload_n 138 rfl dX6_hang_137 rfl 3 rfl ?_
            refine zm_iconst 139 rfl dX6_hang_138 zi_1 ?_
            refine zm_iadd 140 rfl dX6_hang_139 ?_
            exact zm_loc [0, 1, 2, 3, 4, 5] rfl (hb140_38 (a1 + 1) (a2 + ((zm_steps a1.toNatClampNeg) * l38_5)) (a3 + 1))
    · exact zm_loc [0, 2, 3] rfl (hb17)
noncomputable def fr_X6_hang : Nat → (Nat → Int32 → Int32 → Int32 → zm_Mem → Option (Unit × zm_Mem))
  | 0, _, _, _, _, _ => none
  | dp + 1, _, a1, a2, a3, M => f_X6_hang (fr_X6_hang dp) a1 a2 a3 M
theorem kr_X6_hang (E : zm_E) : ∀ dp : Nat, (∀ (a1 : Int32) (a2 : Int32) (a3 : Int32) (M : zm_Mem) (r : Unit) (M' : zm_Mem), fr_X6_hang dp 0 a1 a2 a3 M = some (r, M') → zm_Ct E (zm_w 1) (zm_w 1) yX6_hang (Y_X6_hang dp) [.ref (E.2.1 + 103), .int a1, .int a2, .int a3] M none M') := by
  intro dp
  induction dp with
  | zero => exact (fun _ _ _ _ _ _ h => by cases h)
  | succ dp ih =>
    exact (fun a1 a2 a3 M r M' h => kb_X6_hang E dp (fr_X6_hang dp) ih a1 a2 a3 M r M' h)
noncomputable def f_X6_hangR (dp : Nat) (a1 : Int32) (a2 : Int32) (a3 : Int32) (M : zm_Mem) := fr_X6_hang dp 0 a1 a2 a3 M
theorem k_X6_hang (E : zm_E) (dp : Nat) (a1 : Int32) (a2 : Int32) (a3 : Int32) (M : zm_Mem) {r : Unit} {M' : zm_Mem} (h : f_X6_hangR dp a1 a2 a3 M = some (r, M')) : zm_Ct E (zm_w 1) (zm_w 1) yX6_hang (Y_X6_hang dp) [.ref (E.2.1 + 103), .int a1, .int a2, .int a3] M none M' := (kr_X6_hang E dp) a1 a2 a3 M r M' h
abbrev Y_X6_make : zm_Y := (cX6_make, 5, RX6, { frames := 12, cells := 0, slots := 0, locals := 471 }, none, false, "make")
noncomputable def f_X6_make_x113_49 (N113 : zm_Mem) : Option (Unit × zm_Mem) :=
 zm_b2 (f_X6_hangR 8 0 0 0 N113) <| fun _ M117 => some ((), M117)
noncomputable def f_X6_make_b107_49 (l49_3 : Int32) (M107 : zm_Mem) : Option ((Int32 × zm_Mem) ⊕ zm_Mem) :=
 zm_v (l49_3 + 1) <| fun x107 => some (.inl (x107, M107))
noncomputable def f_X6_make_l49 (l49_3 : Int32) (L49 : zm_Mem) : Option ((Int32 × zm_Mem) ⊕ zm_Mem) :=
 zm_v (L49.2.2 103 10) <| fun t51 => zm_ck (zm_isT t51) <| if (L49.1 t51 12) ≤ l49_3 then (some (.inr L49)) else (zm_v (L49.2.2 103 10) <| fun t61 => zm_ck (zm_isT t61) <| zm_b1 (f_X8_termsOf t61 l49_3 L49) <| fun r65 => zm_v (r65 &&& (L49.1 103 11)) <| fun x73 => if x73 = 0 then (f_X6_make_b107_49 l49_3 L49) else (zm_ck (zm_in (L49.1 103 9) 6) <| zm_v (zm_sI L49 111 (L49.1 103 9).toNatClampNeg l49_3) <| fun M89 => zm_v (zm_sI M89 103 9 ((M89.1 103 9) + 1)) <| fun M97 => zm_b2 (f_X6_fillBroken l49_3 x73 M97) <| fun _ M104 => f_X6_make_b107_49 l49_3 M104))
noncomputable def f_X6_make (a1 : Nat) (a2 : Int32) (M : zm_Mem) : Option (Unit × zm_Mem) :=
  zm_v (zm_sP M 103 10 a1) <| fun M2 => zm_v (zm_sI M2 103 11 a2) <| fun M7 => zm_b2 (f_J7_fill_d0a16 104 0 M7) <| fun _ M15 => zm_b2 (f_J7_fill_d0a16 105 0 M15) <| fun _ M23 => zm_v (zm_sL M23 103 12 0) <| fun M28 => zm_v (zm_sI M28 103 13 0) <| fun M33 => zm_v (zm_sI M33 103 14 7) <| fun M39 => zm_v (zm_sI M39 103 9 0) <| fun M44 => (zm_lp (fun s => f_X6_make_l49 s.1 s.2) (0, M44)).bind (fun e113 => f_X6_make_x113_49 e113)
set_option maxRecDepth 20000 in
set_option maxHeartbeats 4000000 in
theorem k_X6_make (E : zm_E) (a1 : Nat) (a2 : Int32) (ha1 : zm_isT a1 = true) (M : zm_Mem) {r : Unit} {M' : zm_Mem} (h : f_X6_make a1 a2 M = some (r, M')) : zm_Ct E (zm_w 1) (zm_w 1) yX6_make Y_X6_make [.ref (E.2.1 + 103), .ref (E.2.1 + a1), .int a2] M none M' := by
  refine zm_meth (emb := zm_ev) (d := f_X6_make a1 a2 M) (by decide) rfl rfl (Nat.le_of_ble_eq_true rfl) h (fun X => ?_)
  show zm_V X Y_X6_make E (zm_Q X E Y_X6_make.2.2.2.1.cells Y_X6_make.2.2.2.1.slots (zm_w 1) zm_ev) 0 0 false (zm_w 1) 0 [(0, .ref (E.2.1 + 103)), (1, .ref (E.2.1 + a1)), (2, .int a2)] [] M (f_X6_make a1 a2 M) some
  unfold f_X6_make
  refine zm_aload_n 1 rfl dX6_make_0 rfl 0 rfl ?_
  refine zm_aload_n 2 rfl dX6_make_1 rfl 1 rfl ?_
  refine zm_putP 5 rfl dX6_make_2 fp_X6_47 rfl (zm_L1 rfl) (zm_T_ne ha1) (fun M2 _ => ?_)
  refine zm_aload_n 6 rfl dX6_make_5 rfl 0 rfl ?_
  refine zm_iload_n 7 rfl dX6_make_6 rfl 2 rfl ?_
  refine zm_putI 10 rfl dX6_make_7 fp_X6_58 rfl (zm_L1 rfl) rfl rfl (fun M7 _ => ?_)
  refine zm_aload_n 11 rfl dX6_make_10 rfl 0 rfl ?_
  refine zm_getR (a := 104) 14 rfl dX6_make_11 fl_X6_11 rfl (zm_L1 rfl) rfl (by decide) ?_
  refine zm_lconst 15 rfl dX6_make_14 rfl ?_
  refine zm_cS2v 18 rfl dX6_make_15 ml_X6_61 (Nat.le_of_ble_eq_true rfl) ⟨Nat.le_of_ble_eq_true rfl, Nat.le_of_ble_eq_true rfl⟩ rfl rfl ⟨Nat.le_refl _, Nat.le_refl _⟩ rfl (fun _ _ h => k_J7_fill_d0a16 E 1 104 0 ⟨rfl, (zm_L1 rfl)⟩ M7 h) (fun _ M15 => ?_)
  refine zm_aload_n 19 rfl dX6_make_18 rfl 0 rfl ?_
  refine zm_getR (a := 105) 22 rfl dX6_make_19 fl_X6_15 rfl (zm_L1 rfl) rfl (by decide) ?_
  refine zm_lconst 23 rfl dX6_make_22 rfl ?_
  refine zm_cS2v 26 rfl dX6_make_23 ml_X6_61 (Nat.le_of_ble_eq_true rfl) ⟨Nat.le_of_ble_eq_true rfl, Nat.le_of_ble_eq_true rfl⟩ rfl rfl ⟨Nat.le_refl _, Nat.le_refl _⟩ rfl (fun _ _ h => k_J7_fill_d0a16 E 1 105 0 ⟨rfl, (zm_L1 rfl)⟩ M15 h) (fun _ M23 => ?_)
  refine zm_aload_n 27 rfl dX6_make_26 rfl 0 rfl ?_
  refine zm_lconst 28 rfl dX6_make_27 rfl ?_
  refine zm_putL 31 rfl dX6_make_28 fp_X6_67 rfl (zm_L1 rfl) (fun M28 _ => ?_)
  refine zm_aload_n 32 rfl dX6_make_31 rfl 0 rfl ?_
  refine zm_iconst 33 rfl dX6_make_32 zi_0 ?_
  refine zm_putI 36 rfl dX6_make_33 fp_X6_51 rfl (zm_L1 rfl) rfl rfl (fun M33 _ => ?_)
  refine zm_aload_n 37 rfl dX6_make_36 rfl 0 rfl ?_
  refine zm_bipush 39 rfl dX6_make_37 zb_7 ?_
  refine zm_putI 42 rfl dX6_make_39 fp_X6_55 rfl (zm_L1 rfl) rfl rfl (fun M39 _ => ?_)
  refine zm_aload_n 43 rfl dX6_make_42 rfl 0 rfl ?_
  refine zm_iconst 44 rfl dX6_make_43 zi_0 ?_
  refine zm_putI 47 rfl dX6_make_44 fp_X6_71 rfl (zm_L1 rfl) rfl rfl (fun M44 _ => ?_)
  refine zm_iconst 48 rfl dX6_make_47 zi_0 ?_
  refine zm_istore_n (lv' := [(3, .int 0), (0, .ref (E.2.1 + 103)), (1, .ref (E.2.1 + a1)), (2, .int a2)]) 49 rfl dX6_make_48 rfl (by decide) rfl ?_
  have hx113_49 : ∀ (N113 : zm_Mem), zm_V X Y_X6_make E (zm_Q X E Y_X6_make.2.2.2.1.cells Y_X6_make.2.2.2.1.slots (zm_w 1) zm_ev) 0 0 false (zm_w 1) 113 [(0, .ref (E.2.1 + 103))] [] N113 (f_X6_make_x113_49 N113) some := by
    intro N113
    unfold f_X6_make_x113_49
    refine zm_aload_n 114 rfl dX6_make_113 rfl 0 rfl ?_
    refine zm_iconst 115 rfl dX6_make_114 zi_0 ?_
    refine zm_iconst 116 rfl dX6_make_115 zi_0 ?_
    refine zm_iconst 117 rfl dX6_make_116 zi_0 ?_
    refine zm_cV3v 120 rfl dX6_make_117 ml_X6_87 rfl (zm_L1 rfl) rfl (Nat.le_of_ble_eq_true rfl) ⟨Nat.le_of_ble_eq_true rfl, Nat.le_of_ble_eq_true rfl⟩ rfl rfl ⟨Nat.le_refl _, Nat.le_refl _⟩ rfl (fun _ _ h => k_X6_hang E 8 0 0 0 N113 h) (fun _ M117 => ?_)
    exact zm_vret dX6_make_120 rfl (Nat.le_refl _) (Nat.le_refl _) rfl
  refine zm_loc [1, 0] rfl (zm_lpp (σ := (Int32 × zm_Mem)) (ε := zm_Mem) (step := fun s => f_X6_make_l49 s.1 s.2) (fun s => [(0, .ref (E.2.1 + 103)), (3, .int s.1)]) (fun s => s.2) (fun D49 f49 hf49a hf49b hD49 s => ?_) (0, M44))
  obtain ⟨l49_3, L49⟩ := s
  show zm_V X Y_X6_make E (zm_Q X E Y_X6_make.2.2.2.1.cells Y_X6_make.2.2.2.1.slots (zm_w 1) zm_ev) 0 0 false (zm_w 1) 49 [(0, .ref (E.2.1 + 103)), (3, .int l49_3)] [] L49 (f_X6_make_l49 l49_3 L49) f49
  unfold f_X6_make_l49
  refine zm_iload_n 50 rfl dX6_make_49 rfl 1 rfl ?_
  refine zm_aload_n 51 rfl dX6_make_50 rfl 0 rfl ?_
  refine zm_getT 54 rfl dX6_make_51 fl_X6_47 rfl (zm_L1 rfl) (fun t51 _ ht51 => ?_)
  refine zm_getI 57 rfl dX6_make_54 fl_X6_74 (zm_T_o ht51) (zm_T_l0 (sv := 1) ht51) ?_
  refine zm_icmp_ge 113 60 (by decide) rfl dX6_make_57 ?_ ?_
  · exact zm_loc [0] rfl (zm_go (hf49b _) (zm_unb (hx113_49 L49)))
  · refine zm_aload_n 61 rfl dX6_make_60 rfl 0 rfl ?_
    refine zm_getT 64 rfl dX6_make_61 fl_X6_47 rfl (zm_L1 rfl) (fun t61 _ ht61 => ?_)
    refine zm_iload_n 65 rfl dX6_make_64 rfl 1 rfl ?_
    refine zm_cV1ir 68 rfl dX6_make_65 ml_X6_79 (zm_T_o ht61) (zm_T_l0 (sv := 1) ht61) rfl (Nat.le_of_ble_eq_true rfl) ⟨Nat.le_of_ble_eq_true rfl, Nat.le_of_ble_eq_true rfl⟩ rfl rfl ⟨Nat.le_refl _, Nat.le_refl _⟩ rfl (fun _ h => k_X8_termsOf E (zm_w 1) t61 l49_3 ht61 (zm_T_l (sv := 1) ht61 10 (Nat.le_refl _)).2 (fun j hj => zm_T_r ht61 j hj) L49 h) (fun r65 => ?_)
    refine zm_aload_n 69 rfl dX6_make_68 rfl 0 rfl ?_
    refine zm_getI 72 rfl dX6_make_69 fl_X6_58 rfl (zm_L1 rfl) ?_
    refine zm_iand 73 rfl dX6_make_72 ?_
    refine zm_nmi (fun x73 _ => ?_)
    refine zm_istore (lv' := [(4, .int x73), (0, .ref (E.2.1 + 103)), (3, .int l49_3)]) 75 rfl dX6_make_73 (by decide) rfl ?_
    refine zm_iload 77 rfl dX6_make_75 0 rfl ?_
    have hb107_49 : ∀ (M107 : zm_Mem), zm_V X Y_X6_make E (zm_Q X E Y_X6_make.2.2.2.1.cells Y_X6_make.2.2.2.1.slots (zm_w 1) zm_ev) 0 0 false (zm_w 1) 107 [(0, .ref (E.2.1 + 103)), (3, .int l49_3)] [] M107 (f_X6_make_b107_49 l49_3 M107) f49 := by
      intro M107
      unfold f_X6_make_b107_49
      refine zm_iinc (lv' := fun z => [(3, .int z), (0, .ref (E.2.1 + 103))]) 110 rfl dX6_make_107 zi_1 1 rfl (by decide) (fun _ => rfl) (fun x107 _ => ?_)
      refine zm_goto 49 (by decide) dX6_make_110 ?_
      exact zm_loc [1, 0] rfl (zm_go (hf49a _) (hD49 (x107, M107)))
    refine zm_if_eq 107 80 (by decide) rfl dX6_make_77 ?_ ?_
    · exact zm_loc [1, 2] rfl (hb107_49 L49)
    · refine zm_aload_n 81 rfl dX6_make_80 rfl 1 rfl ?_
      refine zm_getR (a := 111) 84 rfl dX6_make_81 fl_X6_34 rfl (zm_L1 rfl) rfl (by decide) ?_
      refine zm_aload_n 85 rfl dX6_make_84 rfl 1 rfl ?_
      refine zm_getI 88 rfl dX6_make_85 fl_X6_71 rfl (zm_L1 rfl) ?_
      refine zm_iload_n 89 rfl dX6_make_88 rfl 2 rfl ?_
      refine zm_iast 90 rfl dX6_make_89 rfl (zm_L1 rfl) (fun M89 _ => ?_)
      refine zm_aload_n 91 rfl dX6_make_90 rfl 1 rfl ?_
      refine zm_dup 92 rfl dX6_make_91 rfl ?_
      refine zm_getI 95 rfl dX6_make_92 fl_X6_71 rfl (zm_L1 rfl) ?_
      refine zm_iconst 96 rfl dX6_make_95 zi_1 ?_
      refine zm_iadd 97 rfl dX6_make_96 ?_
      refine zm_putI 100 rfl dX6_make_97 fp_X6_71 rfl (zm_L1 rfl) rfl rfl (fun M97 _ => ?_)
      refine zm_aload_n 101 rfl dX6_make_100 rfl 1 rfl ?_
      refine zm_iload_n 102 rfl dX6_make_101 rfl 2 rfl ?_
      refine zm_iload 104 rfl dX6_make_102 0 rfl ?_
      refine zm_cV2v 107 rfl dX6_make_104 ml_X6_83 rfl (zm_L1 rfl) rfl (Nat.le_of_ble_eq_true rfl) ⟨Nat.le_of_ble_eq_true rfl, Nat.le_of_ble_eq_true rfl⟩ rfl rfl ⟨Nat.le_refl _, Nat.le_refl _⟩ rfl (fun _ _ h => k_X6_fillBroken E l49_3 x73 M97 h) (fun _ M104 => ?_)
      exact zm_loc [1, 2] rfl (hb107_49 M104)
abbrev Y_X6_canKeep : zm_Y := (cX6_canKeep, 3, RX6, { frames := 0, cells := 0, slots := 0, locals := 0 }, (some .boolean), false, "canKeep")
noncomputable def f_X6_canKeep_b29_2 (l2_2 : Int32) : Option (Int32 ⊕ (Unit ⊕ Unit)) :=
 zm_v (l2_2 + 1) <| fun x29 => some (.inl x29)
noncomputable def f_X6_canKeep_l2 (a1 : Int32) (M : zm_Mem) (l2_2 : Int32) : Option (Int32 ⊕ (Unit ⊕ Unit)) :=
 if (64 : Int32) ≤ l2_2 then (some (.inr (.inr ()))) else (if (lg_cmp (((M.2.1 103 12) >>> (l2_2.toInt64 &&& 63)) &&& 1) 1) = 0 then (if (l2_2 &&& a1) = 0 then (some (.inr (.inl ()))) else (f_X6_canKeep_b29_2 l2_2)) else (f_X6_canKeep_b29_2 l2_2))
noncomputable def f_X6_canKeep (a1 : Int32) (M : zm_Mem) : Option Int32 :=
  (zm_lp (f_X6_canKeep_l2 a1 M) 0).bind (Sum.elim (fun _ => some 1) (fun _ => some 0))
set_option maxRecDepth 20000 in
set_option maxHeartbeats 4000000 in
theorem k_X6_canKeep (E : zm_E) (a1 : Int32) (M : zm_Mem) {r : Int32} (h : f_X6_canKeep a1 M = some r) : zm_Ct E (zm_w 1) (zm_w 1) yX6_canKeep Y_X6_canKeep [.ref (E.2.1 + 103), .int a1] M (some (.int r)) M := by
  refine zm_methr (emb := zm_ei) (d := f_X6_canKeep a1 M) (by decide) rfl rfl (Nat.le_of_ble_eq_true rfl) h (fun X => ?_)
  show zm_V X Y_X6_canKeep E (zm_Q X E Y_X6_canKeep.2.2.2.1.cells Y_X6_canKeep.2.2.2.1.slots (zm_w 1) zm_ei) 0 0 false (zm_w 1) 0 [(0, .ref (E.2.1 + 103)), (1, .int a1)] [] M (f_X6_canKeep a1 M) (fun r => some (r, M))
  unfold f_X6_canKeep
  refine zm_iconst 1 rfl dX6_canKeep_0 zi_0 ?_
  refine zm_istore_n (lv' := [(2, .int 0), (0, .ref (E.2.1 + 103)), (1, .int a1)]) 2 rfl dX6_canKeep_1 rfl (by decide) rfl ?_
  have hx27_2 : zm_V X Y_X6_canKeep E (zm_Q X E Y_X6_canKeep.2.2.2.1.cells Y_X6_canKeep.2.2.2.1.slots (zm_w 1) zm_ei) 0 0 false (zm_w 1) 27 [] [] M (some 1) (fun r => some (r, M)) := by
    refine zm_iconst 28 rfl dX6_canKeep_27 zi_1 ?_
    exact zm_zret dX6_canKeep_28 rfl rfl (Nat.le_refl _) (Nat.le_refl _) rfl
  have hx35_2 : zm_V X Y_X6_canKeep E (zm_Q X E Y_X6_canKeep.2.2.2.1.cells Y_X6_canKeep.2.2.2.1.slots (zm_w 1) zm_ei) 0 0 false (zm_w 1) 35 [] [] M (some 0) (fun r => some (r, M)) := by
    refine zm_iconst 36 rfl dX6_canKeep_35 zi_0 ?_
    exact zm_zret dX6_canKeep_36 rfl rfl (Nat.le_refl _) (Nat.le_refl _) rfl
  refine zm_loc [1, 2, 0] rfl (zm_lpp (σ := Int32) (ε := (Unit ⊕ Unit)) (step := f_X6_canKeep_l2 a1 M) (fun s => [(0, .ref (E.2.1 + 103)), (1, .int a1), (2, .int s)]) (fun _ => M) (fun D2 f2 hf2a hf2b hD2 s => ?_) 0)
  obtain ⟨l2_2, hq2⟩ : ∃ q, q = s := ⟨_, rfl⟩
  rw [← hq2]
  show zm_V X Y_X6_canKeep E (zm_Q X E Y_X6_canKeep.2.2.2.1.cells Y_X6_canKeep.2.2.2.1.slots (zm_w 1) zm_ei) 0 0 false (zm_w 1) 2 [(0, .ref (E.2.1 + 103)), (1, .int a1), (2, .int l2_2)] [] M (f_X6_canKeep_l2 a1 M l2_2) f2
  unfold f_X6_canKeep_l2
  refine zm_iload_n 3 rfl dX6_canKeep_2 rfl 2 rfl ?_
  refine zm_bipush 5 rfl dX6_canKeep_3 zb_64 ?_
  refine zm_icmp_ge 35 8 (by decide) rfl dX6_canKeep_5 ?_ ?_
  · exact zm_loc [] rfl (zm_go (hf2b _) (zm_unb (hx35_2)))
  · refine zm_aload_n 9 rfl dX6_canKeep_8 rfl 0 rfl ?_
    refine zm_getL 12 rfl dX6_canKeep_9 fl_X6_67 rfl (zm_L1 rfl) ?_
    refine zm_iload_n 13 rfl dX6_canKeep_12 rfl 2 rfl ?_
    refine zm_lshr 14 rfl dX6_canKeep_13 ?_
    refine zm_lconst 15 rfl dX6_canKeep_14 rfl ?_
    refine zm_land 16 rfl dX6_canKeep_15 ?_
    refine zm_lconst 17 rfl dX6_canKeep_16 rfl ?_
    refine zm_lcmp 18 rfl dX6_canKeep_17 ?_
    have hb29_2 : zm_V X Y_X6_canKeep E (zm_Q X E Y_X6_canKeep.2.2.2.1.cells Y_X6_canKeep.2.2.2.1.slots (zm_w 1) zm_ei) 0 0 false (zm_w 1) 29 [(0, .ref (E.2.1 + 103)), (1, .int a1), (2, .int l2_2)] [] M (f_X6_canKeep_b29_2 l2_2) f2 := by
      unfold f_X6_canKeep_b29_2
      refine zm_iinc (lv' := fun z => [(2, .int z), (0, .ref (E.2.1 + 103)), (1, .int a1)]) 32 rfl dX6_canKeep_29 zi_1 2 rfl (by decide) (fun _ => rfl) (fun x29 _ => ?_)
      refine zm_goto 2 (by decide) dX6_canKeep_32 ?_
      exact zm_loc [1, 2, 0] rfl (zm_go (hf2a _) (hD2 x29))
    refine zm_if_ne 29 21 (by decide) rfl dX6_canKeep_18 ?_ ?_
    · refine zm_iload_n 22 rfl dX6_canKeep_21 rfl 2 rfl ?_
      refine zm_iload_n 23 rfl dX6_canKeep_22 rfl 1 rfl ?_
      refine zm_iand 24 rfl dX6_canKeep_23 ?_
      refine zm_if_ne 29 27 (by decide) rfl dX6_canKeep_24 ?_ ?_
      · exact zm_loc [] rfl (zm_go (hf2b _) (zm_unb (hx27_2)))
      · exact zm_loc [0, 1, 2] rfl (hb29_2)
    · exact zm_loc [0, 1, 2] rfl (hb29_2)
abbrev Y_X6_smallestQuarrel : zm_Y := (cX6_smallestQuarrel, 4, RX6, { frames := 1, cells := 0, slots := 0, locals := 22 }, (some .int), false, "smallestQuarrel")
noncomputable def f_X6_smallestQuarrel_b54_8 (l8_2 : Int32) (b54_1 : Int32) : Option ((Int32 × Int32) ⊕ Int32) :=
 zm_v (l8_2 + (-1)) <| fun x54 => some (.inl (b54_1, x54))
noncomputable def f_X6_smallestQuarrel_b28_8 (M : zm_Mem) (l8_1 : Int32) (l8_2 : Int32) (b28_s0 : Int32) : Option ((Int32 × Int32) ⊕ Int32) :=
 if (l8_2 &&& ((M.1 103 11) ^^^ (-1))) = 0 then (if b28_s0 = 0 then (f_X6_smallestQuarrel_b54_8 l8_2 l8_1) else (zm_b1 (f_X6_canKeep l8_2 M) <| fun r46 => if r46 = 0 then (f_X6_smallestQuarrel_b54_8 l8_2 l8_2) else (f_X6_smallestQuarrel_b54_8 l8_2 l8_1))) else (f_X6_smallestQuarrel_b54_8 l8_2 l8_1)
noncomputable def f_X6_smallestQuarrel_l8 (M : zm_Mem) (l8_1 : Int32) (l8_2 : Int32) : Option ((Int32 × Int32) ⊕ Int32) :=
 if l8_2 < 0 then (some (.inr l8_1)) else (zm_b1 (f_J6_bitCount_0f7a4 l8_2 M) <| fun r13 => zm_b1 (f_J6_bitCount_0f7a4 l8_1 M) <| fun r17 => if r17 < r13 then (f_X6_smallestQuarrel_b28_8 M l8_1 l8_2 0) else (f_X6_smallestQuarrel_b28_8 M l8_1 l8_2 1))
noncomputable def f_X6_smallestQuarrel  (M : zm_Mem) : Option Int32 :=
  zm_v (M.1 103 11) <| fun x4 => (zm_lp (fun s => f_X6_smallestQuarrel_l8 M s.1 s.2) (x4, 63)).bind (fun e60 => some e60)
set_option maxRecDepth 20000 in
set_option maxHeartbeats 4000000 in
theorem k_X6_smallestQuarrel (E : zm_E)  (M : zm_Mem) {r : Int32} (h : f_X6_smallestQuarrel M = some r) : zm_Ct E (zm_w 1) (zm_w 1) yX6_smallestQuarrel Y_X6_smallestQuarrel [.ref (E.2.1 + 103)] M (some (.int r)) M := by
  refine zm_methr (emb := zm_ei) (d := f_X6_smallestQuarrel M) (by decide) rfl rfl (Nat.le_of_ble_eq_true rfl) h (fun X => ?_)
  show zm_V X Y_X6_smallestQuarrel E (zm_Q X E Y_X6_smallestQuarrel.2.2.2.1.cells Y_X6_smallestQuarrel.2.2.2.1.slots (zm_w 1) zm_ei) 0 0 false (zm_w 1) 0 [(0, .ref (E.2.1 + 103))] [] M (f_X6_smallestQuarrel M) (fun r => some (r, M))
  unfold f_X6_smallestQuarrel
  refine zm_aload_n 1 rfl dX6_smallestQuarrel_0 rfl 0 rfl ?_
  refine zm_getI 4 rfl dX6_smallestQuarrel_1 fl_X6_58 rfl (zm_L1 rfl) ?_
  refine zm_nmi (fun x4 _ => ?_)
  refine zm_istore_n (lv' := [(1, .int x4), (0, .ref (E.2.1 + 103))]) 5 rfl dX6_smallestQuarrel_4 rfl (by decide) rfl ?_
  refine zm_bipush 7 rfl dX6_smallestQuarrel_5 zb_63 ?_
  refine zm_istore_n (lv' := [(2, .int 63), (1, .int x4), (0, .ref (E.2.1 + 103))]) 8 rfl dX6_smallestQuarrel_7 rfl (by decide) rfl ?_
  have hx60_8 : ∀ (e60_1 : Int32), zm_V X Y_X6_smallestQuarrel E (zm_Q X E Y_X6_smallestQuarrel.2.2.2.1.cells Y_X6_smallestQuarrel.2.2.2.1.slots (zm_w 1) zm_ei) 0 0 false (zm_w 1) 60 [(1, .int e60_1)] [] M (some e60_1) (fun r => some (r, M)) := by
    intro e60_1
    refine zm_iload_n 61 rfl dX6_smallestQuarrel_60 rfl 0 rfl ?_
    exact zm_iret dX6_smallestQuarrel_61 rfl (Nat.le_refl _) (Nat.le_refl _) rfl
  refine zm_loc [2, 1, 0] rfl (zm_lpp (σ := (Int32 × Int32)) (ε := Int32) (step := fun s => f_X6_smallestQuarrel_l8 M s.1 s.2) (fun s => [(0, .ref (E.2.1 + 103)), (1, .int s.1), (2, .int s.2)]) (fun _ => M) (fun D8 f8 hf8a hf8b hD8 s => ?_) (x4, 63))
  obtain ⟨l8_1, l8_2⟩ := s
  show zm_V X Y_X6_smallestQuarrel E (zm_Q X E Y_X6_smallestQuarrel.2.2.2.1.cells Y_X6_smallestQuarrel.2.2.2.1.slots (zm_w 1) zm_ei) 0 0 false (zm_w 1) 8 [(0, .ref (E.2.1 + 103)), (1, .int l8_1), (2, .int l8_2)] [] M (f_X6_smallestQuarrel_l8 M l8_1 l8_2) f8
  unfold f_X6_smallestQuarrel_l8
  refine zm_iload_n 9 rfl dX6_smallestQuarrel_8 rfl 2 rfl ?_
  refine zm_if_lt 60 12 (by decide) rfl dX6_smallestQuarrel_9 ?_ ?_
  · exact zm_loc [1] rfl (zm_go (hf8b _) (zm_unb (hx60_8 l8_1)))
  · refine zm_iload_n 13 rfl dX6_smallestQuarrel_12 rfl 2 rfl ?_
    refine zm_cS1ir 16 rfl dX6_smallestQuarrel_13 ml_X6_133 (Nat.le_of_ble_eq_true rfl) ⟨Nat.le_of_ble_eq_true rfl, Nat.le_of_ble_eq_true rfl⟩ rfl rfl ⟨Nat.le_refl _, Nat.le_refl _⟩ rfl (fun _ h => k_J6_bitCount_0f7a4 E (zm_w 1) l8_2 M h) (fun r13 => ?_)
    refine zm_iload_n 17 rfl dX6_smallestQuarrel_16 rfl 1 rfl ?_
    refine zm_cS1ir 20 rfl dX6_smallestQuarrel_17 ml_X6_133 (Nat.le_of_ble_eq_true rfl) ⟨Nat.le_of_ble_eq_true rfl, Nat.le_of_ble_eq_true rfl⟩ rfl rfl ⟨Nat.le_refl _, Nat.le_refl _⟩ rfl (fun _ h => k_J6_bitCount_0f7a4 E (zm_w 1) l8_1 M h) (fun r17 => ?_)
    have hb28_8 : ∀ (b28_s0 : Int32), zm_V X Y_X6_smallestQuarrel E (zm_Q X E Y_X6_smallestQuarrel.2.2.2.1.cells Y_X6_smallestQuarrel.2.2.2.1.slots (zm_w 1) zm_ei) 0 0 false (zm_w 1) 28 [(0, .ref (E.2.1 + 103)), (1, .int l8_1), (2, .int l8_2)] [.int b28_s0] M (f_X6_smallestQuarrel_b28_8 M l8_1 l8_2 b28_s0) f8 := by
      intro b28_s0
      unfold f_X6_smallestQuarrel_b28_8
      refine zm_istore_n (lv' := [(3, .int b28_s0), (0, .ref (E.2.1 + 103)), (1, .int l8_1), (2, .int l8_2)]) 29 rfl dX6_smallestQuarrel_28 rfl (by decide) rfl ?_
      refine zm_iload_n 30 rfl dX6_smallestQuarrel_29 rfl 3 rfl ?_
      refine zm_aload_n 31 rfl dX6_smallestQuarrel_30 rfl 1 rfl ?_
      refine zm_getI 34 rfl dX6_smallestQuarrel_31 fl_X6_58 rfl (zm_L1 rfl) ?_
      refine zm_iconst 35 rfl dX6_smallestQuarrel_34 zi_m1 ?_
      refine zm_ixor 36 rfl dX6_smallestQuarrel_35 ?_
      refine zm_iand 37 rfl dX6_smallestQuarrel_36 ?_
      have hb54_8 : ∀ (b54_1 : Int32), zm_V X Y_X6_smallestQuarrel E (zm_Q X E Y_X6_smallestQuarrel.2.2.2.1.cells Y_X6_smallestQuarrel.2.2.2.1.slots (zm_w 1) zm_ei) 0 0 false (zm_w 1) 54 [(0, .ref (E.2.1 + 103)), (1, .int b54_1), (2, .int l8_2)] [] M (f_X6_smallestQuarrel_b54_8 l8_2 b54_1) f8 := by
        intro b54_1
        unfold f_X6_smallestQuarrel_b54_8
        refine zm_iinc (lv' := fun z => [(2, .int z), (0, .ref (E.2.1 + 103)), (1, .int b54_1)]) 57 rfl dX6_smallestQuarrel_54 zi_m1 2 rfl (by decide) (fun _ => rfl) (fun x54 _ => ?_)
        refine zm_goto 8 (by decide) dX6_smallestQuarrel_57 ?_
        exact zm_loc [1, 2, 0] rfl (zm_go (hf8a _) (hD8 (b54_1, x54)))
      refine zm_if_ne 54 40 (by decide) rfl dX6_smallestQuarrel_37 ?_ ?_
      · refine zm_iload_n 41 rfl dX6_smallestQuarrel_40 rfl 0 rfl ?_
        refine zm_if_eq 54 44 (by decide) rfl dX6_smallestQuarrel_41 ?_ ?_
        · exact zm_loc [1, 2, 3] rfl (hb54_8 l8_1)
        · refine zm_aload_n 45 rfl dX6_smallestQuarrel_44 rfl 1 rfl ?_
          refine zm_iload_n 46 rfl dX6_smallestQuarrel_45 rfl 3 rfl ?_
          refine zm_cV1ir 49 rfl dX6_smallestQuarrel_46 ml_X6_138 rfl (zm_L1 rfl) rfl (Nat.le_of_ble_eq_true rfl) ⟨Nat.le_of_ble_eq_true rfl, Nat.le_of_ble_eq_true rfl⟩ rfl rfl ⟨Nat.le_refl _, Nat.le_refl _⟩ rfl (fun _ h => k_X6_canKeep E l8_2 M h) (fun r46 => ?_)
          refine zm_if_ne 54 52 (by decide) rfl dX6_smallestQuarrel_49 ?_ ?_
          · refine zm_iload_n 53 rfl dX6_smallestQuarrel_52 rfl 3 rfl ?_
            refine zm_istore_n (lv' := [(1, .int l8_2), (3, .int b28_s0), (0, .ref (E.2.1 + 103)), (2, .int l8_2)]) 54 rfl dX6_smallestQuarrel_53 rfl (by decide) rfl ?_
            exact zm_loc [2, 0, 3] rfl (hb54_8 l8_2)
          · exact zm_loc [1, 2, 3] rfl (hb54_8 l8_1)
      · exact zm_loc [1, 2, 3] rfl (hb54_8 l8_1)
    refine zm_icmp_gt 27 23 (by decide) rfl dX6_smallestQuarrel_20 ?_ ?_
    · refine zm_iconst 28 rfl dX6_smallestQuarrel_27 zi_0 ?_
      exact zm_loc [0, 1, 2] rfl (hb28_8 0)
    · refine zm_iconst 24 rfl dX6_smallestQuarrel_23 zi_1 ?_
      refine zm_goto 28 (by decide) dX6_smallestQuarrel_24 ?_
      exact zm_loc [0, 1, 2] rfl (hb28_8 1)
abbrev Y_X7_withLetter : zm_Y := (cX7_withLetter, 3, RX7, { frames := 0, cells := 0, slots := 0, locals := 0 }, (some .long), false, "withLetter")
noncomputable def f_X7_withLetter (a0 : Int64) (a2 : Int32) (M : zm_Mem) : Option Int64 :=
  some ((a0 * 32) + (((a2 - 97) + 1).toInt64))
set_option maxRecDepth 20000 in
set_option maxHeartbeats 4000000 in
theorem k_X7_withLetter (E : zm_E) (w : zm_W) (a0 : Int64) (a2 : Int32) (M : zm_Mem) {r : Int64} (h : f_X7_withLetter a0 a2 M = some r) : zm_Ct E w w yX7_withLetter Y_X7_withLetter [.long a0, .int a2] M (some (.long r)) M := by
  refine zm_methr (emb := zm_el) (d := f_X7_withLetter a0 a2 M) (by decide) rfl rfl (Nat.le_of_ble_eq_true rfl) h (fun X => ?_)
  show zm_V X Y_X7_withLetter E (zm_Q X E Y_X7_withLetter.2.2.2.1.cells Y_X7_withLetter.2.2.2.1.slots w zm_el) 0 0 false w 0 [(0, .long a0), (2, .int a2)] [] M (f_X7_withLetter a0 a2 M) (fun r => some (r, M))
  unfold f_X7_withLetter
  refine zm_lload_n 1 rfl dX7_withLetter_0 rfl 0 rfl ?_
  refine zm_ldc2 4 rfl dX7_withLetter_1 kc_X7_76 ?_
  refine zm_lmul 5 rfl dX7_withLetter_4 ?_
  refine zm_iload_n 6 rfl dX7_withLetter_5 rfl 1 rfl ?_
  refine zm_bipush 8 rfl dX7_withLetter_6 zb_97 ?_
  refine zm_isub 9 rfl dX7_withLetter_8 ?_
  refine zm_iconst 10 rfl dX7_withLetter_9 zi_1 ?_
  refine zm_iadd 11 rfl dX7_withLetter_10 ?_
  refine zm_i2l 12 rfl dX7_withLetter_11 ?_
  refine zm_ladd 13 rfl dX7_withLetter_12 ?_
  exact zm_lret dX7_withLetter_13 rfl (Nat.le_refl _) (Nat.le_refl _) rfl
abbrev Y_X7_isBlank : zm_Y := (cX7_isBlank, 1, RX7, { frames := 0, cells := 0, slots := 0, locals := 0 }, (some .boolean), false, "isBlank")
noncomputable def f_X7_isBlank_b24  : Option Int32 :=
 some 1
noncomputable def f_X7_isBlank (a0 : Int32) (M : zm_Mem) : Option Int32 :=
  if a0 = (9 : Int32) then (f_X7_isBlank_b24) else (if a0 = (10 : Int32) then (f_X7_isBlank_b24) else (if a0 = (13 : Int32) then (f_X7_isBlank_b24) else (if a0 = (32 : Int32) then (f_X7_isBlank_b24) else (some 0))))
set_option maxRecDepth 20000 in
set_option maxHeartbeats 4000000 in
theorem k_X7_isBlank (E : zm_E) (w : zm_W) (a0 : Int32) (M : zm_Mem) {r : Int32} (h : f_X7_isBlank a0 M = some r) : zm_Ct E w w yX7_isBlank Y_X7_isBlank [.int a0] M (some (.int r)) M := by
  refine zm_methr (emb := zm_ei) (d := f_X7_isBlank a0 M) (by decide) rfl rfl (Nat.le_of_ble_eq_true rfl) h (fun X => ?_)
  show zm_V X Y_X7_isBlank E (zm_Q X E Y_X7_isBlank.2.2.2.1.cells Y_X7_isBlank.2.2.2.1.slots w zm_ei) 0 0 false w 0 [(0, .int a0)] [] M (f_X7_isBlank a0 M) (fun r => some (r, M))
  unfold f_X7_isBlank
  refine zm_iload_n 1 rfl dX7_isBlank_0 rfl 0 rfl ?_
  refine zm_bipush 3 rfl dX7_isBlank_1 zb_9 ?_
  have hb24 : zm_V X Y_X7_isBlank E (zm_Q X E Y_X7_isBlank.2.2.2.1.cells Y_X7_isBlank.2.2.2.1.slots w zm_ei) 0 0 false w 24 [] [] M (f_X7_isBlank_b24) (fun r => some (r, M)) := by
    unfold f_X7_isBlank_b24
    refine zm_iconst 25 rfl dX7_isBlank_24 zi_1 ?_
    refine zm_goto 29 (by decide) dX7_isBlank_25 ?_
    exact zm_zret dX7_isBlank_29 rfl rfl (Nat.le_refl _) (Nat.le_refl _) rfl
  refine zm_icmp_eq 24 6 (by decide) rfl dX7_isBlank_3 ?_ ?_
  · exact zm_loc [] rfl (hb24)
  · refine zm_iload_n 7 rfl dX7_isBlank_6 rfl 0 rfl ?_
    refine zm_bipush 9 rfl dX7_isBlank_7 zb_10 ?_
    refine zm_icmp_eq 24 12 (by decide) rfl dX7_isBlank_9 ?_ ?_
    · exact zm_loc [] rfl (hb24)
    · refine zm_iload_n 13 rfl dX7_isBlank_12 rfl 0 rfl ?_
      refine zm_bipush 15 rfl dX7_isBlank_13 zb_13 ?_
      refine zm_icmp_eq 24 18 (by decide) rfl dX7_isBlank_15 ?_ ?_
      · exact zm_loc [] rfl (hb24)
      · refine zm_iload_n 19 rfl dX7_isBlank_18 rfl 0 rfl ?_
        refine zm_bipush 21 rfl dX7_isBlank_19 zb_32 ?_
        refine zm_icmp_ne 28 24 (by decide) rfl dX7_isBlank_21 ?_ ?_
        · exact zm_loc [] rfl (hb24)
        · refine zm_iconst 29 rfl dX7_isBlank_28 zi_0 ?_
          exact zm_zret dX7_isBlank_29 rfl rfl (Nat.le_refl _) (Nat.le_refl _) rfl
abbrev Y_X7_isLetter : zm_Y := (cX7_isLetter, 1, RX7, { frames := 0, cells := 0, slots := 0, locals := 0 }, (some .boolean), false, "isLetter")
noncomputable def f_X7_isLetter_b16  : Option Int32 :=
 some 0
noncomputable def f_X7_isLetter (a0 : Int32) (M : zm_Mem) : Option Int32 :=
  if a0 < (97 : Int32) then (f_X7_isLetter_b16) else (if (122 : Int32) < a0 then (f_X7_isLetter_b16) else (some 1))
set_option maxRecDepth 20000 in
set_option maxHeartbeats 4000000 in
theorem k_X7_isLetter (E : zm_E) (w : zm_W) (a0 : Int32) (M : zm_Mem) {r : Int32} (h : f_X7_isLetter a0 M = some r) : zm_Ct E w w yX7_isLetter Y_X7_isLetter [.int a0] M (some (.int r)) M := by
  refine zm_methr (emb := zm_ei) (d := f_X7_isLetter a0 M) (by decide) rfl rfl (Nat.le_of_ble_eq_true rfl) h (fun X => ?_)
  show zm_V X Y_X7_isLetter E (zm_Q X E Y_X7_isLetter.2.2.2.1.cells Y_X7_isLetter.2.2.2.1.slots w zm_ei) 0 0 false w 0 [(0, .int a0)] [] M (f_X7_isLetter a0 M) (fun r => some (r, M))
  unfold f_X7_isLetter
  refine zm_iload_n 1 rfl dX7_isLetter_0 rfl 0 rfl ?_
  refine zm_bipush 3 rfl dX7_isLetter_1 zb_97 ?_
  have hb16 : zm_V X Y_X7_isLetter E (zm_Q X E Y_X7_isLetter.2.2.2.1.cells Y_X7_isLetter.2.2.2.1.slots w zm_ei) 0 0 false w 16 [] [] M (f_X7_isLetter_b16) (fun r => some (r, M)) := by
    unfold f_X7_isLetter_b16
    refine zm_iconst 17 rfl dX7_isLetter_16 zi_0 ?_
    exact zm_zret dX7_isLetter_17 rfl rfl (Nat.le_refl _) (Nat.le_refl _) rfl
  refine zm_icmp_lt 16 6 (by decide) rfl dX7_isLetter_3 ?_ ?_
  · exact zm_loc [] rfl (hb16)
  · refine zm_iload_n 7 rfl dX7_isLetter_6 rfl 0 rfl ?_
    refine zm_bipush 9 rfl dX7_isLetter_7 zb_122 ?_
    refine zm_icmp_gt 16 12 (by decide) rfl dX7_isLetter_9 ?_ ?_
    · exact zm_loc [] rfl (hb16)
    · refine zm_iconst 13 rfl dX7_isLetter_12 zi_1 ?_
      refine zm_goto 17 (by decide) dX7_isLetter_13 ?_
      exact zm_zret dX7_isLetter_17 rfl rfl (Nat.le_refl _) (Nat.le_refl _) rfl
abbrev Y_X7_sortOf : zm_Y := (cX7_sortOf, 4, RX7, { frames := 0, cells := 0, slots := 0, locals := 0 }, (some .int), false, "sortOf")
noncomputable def f_X7_sortOf_l2 (a1 : Int64) (M : zm_Mem) (l2_3 : Int32) : Option (Int32 ⊕ (Int32 ⊕ Unit)) :=
 if (20 : Int32) ≤ l2_3 then (some (.inr (.inr ()))) else (zm_ck (zm_in l2_3 20) <| if (lg_cmp (M.2.1 7 l2_3.toNatClampNeg) a1) = 0 then (some (.inr (.inl l2_3))) else (zm_v (l2_3 + 1) <| fun x25 => some (.inl x25)))
noncomputable def f_X7_sortOf (a1 : Int64) (M : zm_Mem) : Option Int32 :=
  (zm_lp (f_X7_sortOf_l2 a1 M) 0).bind (Sum.elim (fun e19 => some (256 + e19)) (fun _ => some 2))
set_option maxRecDepth 20000 in
set_option maxHeartbeats 4000000 in
theorem k_X7_sortOf (E : zm_E) (sv : Nat) (a1 : Int64) (M : zm_Mem) {r : Int32} (h : f_X7_sortOf a1 M = some r) : zm_Ct E (zm_w sv) (zm_w sv) yX7_sortOf Y_X7_sortOf [.ref (E.2.1 + 3), .long a1] M (some (.int r)) M := by
  refine zm_methr (emb := zm_ei) (d := f_X7_sortOf a1 M) (by decide) rfl rfl (Nat.le_of_ble_eq_true rfl) h (fun X => ?_)
  show zm_V X Y_X7_sortOf E (zm_Q X E Y_X7_sortOf.2.2.2.1.cells Y_X7_sortOf.2.2.2.1.slots (zm_w sv) zm_ei) 0 0 false (zm_w sv) 0 [(0, .ref (E.2.1 + 3)), (1, .long a1)] [] M (f_X7_sortOf a1 M) (fun r => some (r, M))
  unfold f_X7_sortOf
  refine zm_iconst 1 rfl dX7_sortOf_0 zi_0 ?_
  refine zm_istore_n (lv' := [(3, .int 0), (0, .ref (E.2.1 + 3)), (1, .long a1)]) 2 rfl dX7_sortOf_1 rfl (by decide) rfl ?_
  have hx19_2 : ∀ (e19_3 : Int32), zm_V X Y_X7_sortOf E (zm_Q X E Y_X7_sortOf.2.2.2.1.cells Y_X7_sortOf.2.2.2.1.slots (zm_w sv) zm_ei) 0 0 false (zm_w sv) 19 [(3, .int e19_3)] [] M (some (256 + e19_3)) (fun r => some (r, M)) := by
    intro e19_3
    refine zm_sipush 22 rfl dX7_sortOf_19 zs_256 ?_
    refine zm_iload_n 23 rfl dX7_sortOf_22 rfl 0 rfl ?_
    refine zm_iadd 24 rfl dX7_sortOf_23 ?_
    exact zm_iret dX7_sortOf_24 rfl (Nat.le_refl _) (Nat.le_refl _) rfl
  have hx31_2 : zm_V X Y_X7_sortOf E (zm_Q X E Y_X7_sortOf.2.2.2.1.cells Y_X7_sortOf.2.2.2.1.slots (zm_w sv) zm_ei) 0 0 false (zm_w sv) 31 [] [] M (some 2) (fun r => some (r, M)) := by
    refine zm_iconst 32 rfl dX7_sortOf_31 zi_2 ?_
    exact zm_iret dX7_sortOf_32 rfl (Nat.le_refl _) (Nat.le_refl _) rfl
  refine zm_loc [1, 2, 0] rfl (zm_lpp (σ := Int32) (ε := (Int32 ⊕ Unit)) (step := f_X7_sortOf_l2 a1 M) (fun s => [(0, .ref (E.2.1 + 3)), (1, .long a1), (3, .int s)]) (fun _ => M) (fun D2 f2 hf2a hf2b hD2 s => ?_) 0)
  obtain ⟨l2_3, hq2⟩ : ∃ q, q = s := ⟨_, rfl⟩
  rw [← hq2]
  show zm_V X Y_X7_sortOf E (zm_Q X E Y_X7_sortOf.2.2.2.1.cells Y_X7_sortOf.2.2.2.1.slots (zm_w sv) zm_ei) 0 0 false (zm_w sv) 2 [(0, .ref (E.2.1 + 3)), (1, .long a1), (3, .int l2_3)] [] M (f_X7_sortOf_l2 a1 M l2_3) f2
  unfold f_X7_sortOf_l2
  refine zm_iload_n 3 rfl dX7_sortOf_2 rfl 2 rfl ?_
  refine zm_bipush 5 rfl dX7_sortOf_3 zb_20 ?_
  refine zm_icmp_ge 31 8 (by decide) rfl dX7_sortOf_5 ?_ ?_
  · exact zm_loc [] rfl (zm_go (hf2b _) (zm_unb (hx31_2)))
  · refine zm_aload_n 9 rfl dX7_sortOf_8 rfl 0 rfl ?_
    refine zm_getR (a := 7) 12 rfl dX7_sortOf_9 fl_X7_22 rfl (zm_L (sv := sv) rfl) rfl (by decide) ?_
    refine zm_iload_n 13 rfl dX7_sortOf_12 rfl 2 rfl ?_
    refine zm_lald 14 rfl dX7_sortOf_13 rfl (zm_L (sv := sv) rfl) ?_
    refine zm_lload_n 15 rfl dX7_sortOf_14 rfl 1 rfl ?_
    refine zm_lcmp 16 rfl dX7_sortOf_15 ?_
    refine zm_if_ne 25 19 (by decide) rfl dX7_sortOf_16 ?_ ?_
    · exact zm_loc [2] rfl (zm_go (hf2b _) (zm_unb (hx19_2 l2_3)))
    · refine zm_iinc (lv' := fun z => [(3, .int z), (0, .ref (E.2.1 + 3)), (1, .long a1)]) 28 rfl dX7_sortOf_25 zi_1 2 rfl (by decide) (fun _ => rfl) (fun x25 _ => ?_)
      refine zm_goto 2 (by decide) dX7_sortOf_28 ?_
      exact zm_loc [1, 2, 0] rfl (zm_go (hf2a _) (hD2 x25))
abbrev Y_X7_add : zm_Y := (cX7_add, 5, RX7, { frames := 0, cells := 0, slots := 0, locals := 0 }, none, false, "add")
noncomputable def f_X7_add (a1 : Int32) (a2 : Int32) (a3 : Int64) (M : zm_Mem) : Option (Unit × zm_Mem) :=
  if (401 : Int32) < (M.1 3 4) then (some ((), M)) else (zm_ck (zm_in (M.1 3 4) 402) <| zm_v (zm_sI M 4 (M.1 3 4).toNatClampNeg a1) <| fun M19 => zm_ck (zm_in (M19.1 3 4) 402) <| zm_v (zm_sI M19 5 (M19.1 3 4).toNatClampNeg a2) <| fun M29 => zm_ck (zm_in (M29.1 3 4) 402) <| zm_v (zm_sL M29 6 (M29.1 3 4).toNatClampNeg a3) <| fun M39 => zm_v (zm_sI M39 3 4 ((M39.1 3 4) + 1)) <| fun M47 => some ((), M47))
set_option maxRecDepth 20000 in
set_option maxHeartbeats 4000000 in
theorem k_X7_add (E : zm_E) (sv : Nat) (a1 : Int32) (a2 : Int32) (a3 : Int64) (M : zm_Mem) {r : Unit} {M' : zm_Mem} (h : f_X7_add a1 a2 a3 M = some (r, M')) : zm_Ct E (zm_w sv) (zm_w sv) yX7_add Y_X7_add [.ref (E.2.1 + 3), .int a1, .int a2, .long a3] M none M' := by
  refine zm_meth (emb := zm_ev) (d := f_X7_add a1 a2 a3 M) (by decide) rfl rfl (Nat.le_of_ble_eq_true rfl) h (fun X => ?_)
  show zm_V X Y_X7_add E (zm_Q X E Y_X7_add.2.2.2.1.cells Y_X7_add.2.2.2.1.slots (zm_w sv) zm_ev) 0 0 false (zm_w sv) 0 [(0, .ref (E.2.1 + 3)), (1, .int a1), (2, .int a2), (3, .long a3)] [] M (f_X7_add a1 a2 a3 M) some
  unfold f_X7_add
  refine zm_aload_n 1 rfl dX7_add_0 rfl 0 rfl ?_
  refine zm_getI 4 rfl dX7_add_1 fl_X7_41 rfl (zm_L (sv := sv) rfl) ?_
  refine zm_sipush 7 rfl dX7_add_4 zs_401 ?_
  refine zm_icmp_gt 50 10 (by decide) rfl dX7_add_7 ?_ ?_
  · exact zm_vret dX7_add_50 rfl (Nat.le_refl _) (Nat.le_refl _) rfl
  · refine zm_aload_n 11 rfl dX7_add_10 rfl 0 rfl ?_
    refine zm_getR (a := 4) 14 rfl dX7_add_11 fl_X7_11 rfl (zm_L (sv := sv) rfl) rfl (by decide) ?_
    refine zm_aload_n 15 rfl dX7_add_14 rfl 0 rfl ?_
    refine zm_getI 18 rfl dX7_add_15 fl_X7_41 rfl (zm_L (sv := sv) rfl) ?_
    refine zm_iload_n 19 rfl dX7_add_18 rfl 1 rfl ?_
    refine zm_iast 20 rfl dX7_add_19 rfl (zm_L (sv := sv) rfl) (fun M19 _ => ?_)
    refine zm_aload_n 21 rfl dX7_add_20 rfl 0 rfl ?_
    refine zm_getR (a := 5) 24 rfl dX7_add_21 fl_X7_15 rfl (zm_L (sv := sv) rfl) rfl (by decide) ?_
    refine zm_aload_n 25 rfl dX7_add_24 rfl 0 rfl ?_
    refine zm_getI 28 rfl dX7_add_25 fl_X7_41 rfl (zm_L (sv := sv) rfl) ?_
    refine zm_iload_n 29 rfl dX7_add_28 rfl 2 rfl ?_
    refine zm_iast 30 rfl dX7_add_29 rfl (zm_L (sv := sv) rfl) (fun M29 _ => ?_)
    refine zm_aload_n 31 rfl dX7_add_30 rfl 0 rfl ?_
    refine zm_getR (a := 6) 34 rfl dX7_add_31 fl_X7_18 rfl (zm_L (sv := sv) rfl) rfl (by decide) ?_
    refine zm_aload_n 35 rfl dX7_add_34 rfl 0 rfl ?_
    refine zm_getI 38 rfl dX7_add_35 fl_X7_41 rfl (zm_L (sv := sv) rfl) ?_
    refine zm_lload_n 39 rfl dX7_add_38 rfl 3 rfl ?_
    refine zm_last 40 rfl dX7_add_39 rfl (zm_L (sv := sv) rfl) (fun M39 _ => ?_)
    refine zm_aload_n 41 rfl dX7_add_40 rfl 0 rfl ?_
    refine zm_dup 42 rfl dX7_add_41 rfl ?_
    refine zm_getI 45 rfl dX7_add_42 fl_X7_41 rfl (zm_L (sv := sv) rfl) ?_
    refine zm_iconst 46 rfl dX7_add_45 zi_1 ?_
    refine zm_iadd 47 rfl dX7_add_46 ?_
    refine zm_putI 50 rfl dX7_add_47 fp_X7_41 rfl (zm_L (sv := sv) rfl) rfl rfl (fun M47 _ => ?_)
    exact zm_vret dX7_add_50 rfl (Nat.le_refl _) (Nat.le_refl _) rfl
abbrev Y_X7_cutWord : zm_Y := (cX7_cutWord, 7, RX7, { frames := 1, cells := 0, slots := 0, locals := 24 }, (some .int), false, "cutWord")
noncomputable def f_X7_cutWord_b77 (a3 : Int32) (M : zm_Mem) (b57_4 : Int64) (b57_6 : Int32) (b77_s1 : Int32) : Option (Int32 × zm_Mem) :=
 zm_b2 (f_X7_add b77_s1 a3 b57_4 M) <| fun _ M80 => some (b57_6, M80)
noncomputable def f_X7_cutWord_b57 (a3 : Int32) (M : zm_Mem) (b57_4 : Int64) (b57_6 : Int32) : Option (Int32 × zm_Mem) :=
 if (b57_6 - a3) ≤ (8 : Int32) then (zm_b1 (f_X7_sortOf b57_4 M) <| fun r74 => f_X7_cutWord_b77 a3 M b57_4 b57_6 r74) else (f_X7_cutWord_b77 a3 M b57_4 b57_6 1)
noncomputable def f_X7_cutWord_b51_6 (l6_6 : Int32) (b51_4 : Int64) : Option ((Int64 × Int32) ⊕ (Int64 × Int32)) :=
 zm_v (l6_6 + 1) <| fun x51 => some (.inl (b51_4, x51))
noncomputable def f_X7_cutWord_l6 (a1 : Nat) (a2 : Int32) (a3 : Int32) (M : zm_Mem) (l6_4 : Int64) (l6_6 : Int32) : Option ((Int64 × Int32) ⊕ (Int64 × Int32)) :=
 if a2 ≤ l6_6 then (some (.inr (l6_4, l6_6))) else (zm_ck (zm_in l6_6 (zm_sh a1).2) <| zm_b1 (f_X7_isLetter ((M.1 a1 l6_6.toNatClampNeg) &&& 255) M) <| fun r20 => if r20 = 0 then (some (.inr (l6_4, l6_6))) else (if (8 : Int32) ≤ (l6_6 - a3) then (f_X7_cutWord_b51_6 l6_6 l6_4) else (zm_ck (zm_in l6_6 (zm_sh a1).2) <| zm_b1 (f_X7_withLetter l6_4 ((((M.1 a1 l6_6.toNatClampNeg) &&& 255).toUInt32 % 65536).toInt32) M) <| fun r46 => f_X7_cutWord_b51_6 l6_6 r46)))
noncomputable def f_X7_cutWord (a1 : Nat) (a2 : Int32) (a3 : Int32) (M : zm_Mem) : Option (Int32 × zm_Mem) :=
  (zm_lp (fun s => f_X7_cutWord_l6 a1 a2 a3 M s.1 s.2) (0, a3)).bind (fun e57 => f_X7_cutWord_b57 a3 M e57.1 e57.2)
set_option maxRecDepth 20000 in
set_option maxHeartbeats 4000000 in
theorem k_X7_cutWord (E : zm_E) (sv : Nat) (a1 : Nat) (a2 : Int32) (a3 : Int32) (ha1 : zm_sh a1 = (1, (zm_sh a1).2) ∧ (0 < a1 ∧ a1 ≤ zm_n sv)) (M : zm_Mem) {r : Int32} {M' : zm_Mem} (h : f_X7_cutWord a1 a2 a3 M = some (r, M')) : zm_Ct E (zm_w sv) (zm_w sv) yX7_cutWord Y_X7_cutWord [.ref (E.2.1 + 3), .ref (E.2.1 + a1), .int a2, .int a3] M (some (.int r)) M' := by
  refine zm_meth (emb := zm_ei) (d := f_X7_cutWord a1 a2 a3 M) (by decide) rfl rfl (Nat.le_of_ble_eq_true rfl) h (fun X => ?_)
  show zm_V X Y_X7_cutWord E (zm_Q X E Y_X7_cutWord.2.2.2.1.cells Y_X7_cutWord.2.2.2.1.slots (zm_w sv) zm_ei) 0 0 false (zm_w sv) 0 [(0, .ref (E.2.1 + 3)), (1, .ref (E.2.1 + a1)), (2, .int a2), (3, .int a3)] [] M (f_X7_cutWord a1 a2 a3 M) some
  unfold f_X7_cutWord
  refine zm_lconst 1 rfl dX7_cutWord_0 rfl ?_
  refine zm_lstore (lv' := [(4, .long 0), (0, .ref (E.2.1 + 3)), (1, .ref (E.2.1 + a1)), (2, .int a2), (3, .int a3)]) 3 rfl dX7_cutWord_1 (by decide) rfl ?_
  refine zm_iload_n 4 rfl dX7_cutWord_3 rfl 4 rfl ?_
  refine zm_istore (lv' := [(6, .int a3), (4, .long 0), (0, .ref (E.2.1 + 3)), (1, .ref (E.2.1 + a1)), (2, .int a2), (3, .int a3)]) 6 rfl dX7_cutWord_4 (by decide) rfl ?_
  have hb57 : ∀ (b57_4 : Int64) (b57_6 : Int32), zm_V X Y_X7_cutWord E (zm_Q X E Y_X7_cutWord.2.2.2.1.cells Y_X7_cutWord.2.2.2.1.slots (zm_w sv) zm_ei) 0 0 false (zm_w sv) 57 [(0, .ref (E.2.1 + 3)), (3, .int a3), (4, .long b57_4), (6, .int b57_6)] [] M (f_X7_cutWord_b57 a3 M b57_4 b57_6) some := by
    intro b57_4 b57_6
    unfold f_X7_cutWord_b57
    refine zm_aload_n 58 rfl dX7_cutWord_57 rfl 0 rfl ?_
    refine zm_iload 60 rfl dX7_cutWord_58 3 rfl ?_
    refine zm_iload_n 61 rfl dX7_cutWord_60 rfl 1 rfl ?_
    refine zm_isub 62 rfl dX7_cutWord_61 ?_
    refine zm_bipush 64 rfl dX7_cutWord_62 zb_8 ?_
    have hb77 : ∀ (b77_s1 : Int32), zm_V X Y_X7_cutWord E (zm_Q X E Y_X7_cutWord.2.2.2.1.cells Y_X7_cutWord.2.2.2.1.slots (zm_w sv) zm_ei) 0 0 false (zm_w sv) 77 [(3, .int a3), (4, .long b57_4), (6, .int b57_6)] [.int b77_s1, .ref (E.2.1 + 3)] M (f_X7_cutWord_b77 a3 M b57_4 b57_6 b77_s1) some := by
      intro b77_s1
      unfold f_X7_cutWord_b77
      refine zm_iload_n 78 rfl dX7_cutWord_77 rfl 0 rfl ?_
      refine zm_lload 80 rfl dX7_cutWord_78 1 rfl ?_
      refine zm_cV3v 83 rfl dX7_cutWord_80 ml_X7_68 rfl (zm_L (sv := sv) rfl) rfl (Nat.le_of_ble_eq_true rfl) ⟨Nat.le_of_ble_eq_true rfl, Nat.le_of_ble_eq_true rfl⟩ rfl rfl ⟨Nat.le_refl _, Nat.le_refl _⟩ rfl (fun _ _ h => k_X7_add E sv b77_s1 a3 b57_4 M h) (fun _ M80 => ?_)
      refine zm_iload 85 rfl dX7_cutWord_83 2 rfl ?_
      exact zm_iret dX7_cutWord_85 rfl (Nat.le_refl _) (Nat.le_refl _) rfl
    refine zm_icmp_le 71 67 (by decide) rfl dX7_cutWord_64 ?_ ?_
    · refine zm_aload_n 72 rfl dX7_cutWord_71 rfl 0 rfl ?_
      refine zm_lload 74 rfl dX7_cutWord_72 2 rfl ?_
      refine zm_cV1ir 77 rfl dX7_cutWord_74 ml_X7_72 rfl (zm_L (sv := sv) rfl) rfl (Nat.le_of_ble_eq_true rfl) ⟨Nat.le_of_ble_eq_true rfl, Nat.le_of_ble_eq_true rfl⟩ rfl rfl ⟨Nat.le_refl _, Nat.le_refl _⟩ rfl (fun _ h => k_X7_sortOf E sv b57_4 M h) (fun r74 => ?_)
      exact zm_loc [1, 2, 3] rfl (hb77 r74)
    · refine zm_iconst 68 rfl dX7_cutWord_67 zi_1 ?_
      refine zm_goto 77 (by decide) dX7_cutWord_68 ?_
      exact zm_loc [1, 2, 3] rfl (hb77 1)
  have hx57_6 : ∀ (e57_4 : Int64) (e57_6 : Int32), zm_V X Y_X7_cutWord E (zm_Q X E Y_X7_cutWord.2.2.2.1.cells Y_X7_cutWord.2.2.2.1.slots (zm_w sv) zm_ei) 0 0 false (zm_w sv) 57 [(0, .ref (E.2.1 + 3)), (3, .int a3), (4, .long e57_4), (6, .int e57_6)] [] M (f_X7_cutWord_b57 a3 M e57_4 e57_6) some := by
    intro e57_4 e57_6
    exact zm_loc [0, 1, 2, 3] rfl (hb57 e57_4 e57_6)
  refine zm_loc [2, 3, 4, 5, 1, 0] rfl (zm_lpp (σ := (Int64 × Int32)) (ε := (Int64 × Int32)) (step := fun s => f_X7_cutWord_l6 a1 a2 a3 M s.1 s.2) (fun s => [(0, .ref (E.2.1 + 3)), (1, .ref (E.2.1 + a1)), (2, .int a2), (3, .int a3), (4, .long s.1), (6, .int s.2)]) (fun _ => M) (fun D6 f6 hf6a hf6b hD6 s => ?_) (0, a3))
  obtain ⟨l6_4, l6_6⟩ := s
  show zm_V X Y_X7_cutWord E (zm_Q X E Y_X7_cutWord.2.2.2.1.cells Y_X7_cutWord.2.2.2.1.slots (zm_w sv) zm_ei) 0 0 false (zm_w sv) 6 [(0, .ref (E.2.1 + 3)), (1, .ref (E.2.1 + a1)), (2, .int a2), (3, .int a3), (4, .long l6_4), (6, .int l6_6)] [] M (f_X7_cutWord_l6 a1 a2 a3 M l6_4 l6_6) f6
  unfold f_X7_cutWord_l6
  refine zm_iload 8 rfl dX7_cutWord_6 5 rfl ?_
  refine zm_iload_n 9 rfl dX7_cutWord_8 rfl 2 rfl ?_
  refine zm_icmp_ge 57 12 (by decide) rfl dX7_cutWord_9 ?_ ?_
  · exact zm_loc [0, 3, 4, 5] rfl (zm_go (hf6b _) (zm_unb (hx57_6 l6_4 l6_6)))
  · refine zm_aload_n 13 rfl dX7_cutWord_12 rfl 1 rfl ?_
    refine zm_iload 15 rfl dX7_cutWord_13 5 rfl ?_
    refine zm_bald 16 rfl dX7_cutWord_15 ha1.1 ha1.2 ?_
    refine zm_sipush 19 rfl dX7_cutWord_16 zs_255 ?_
    refine zm_iand 20 rfl dX7_cutWord_19 ?_
    refine zm_cS1ir 23 rfl dX7_cutWord_20 ml_X7_49 (Nat.le_of_ble_eq_true rfl) ⟨Nat.le_of_ble_eq_true rfl, Nat.le_of_ble_eq_true rfl⟩ rfl rfl ⟨Nat.le_refl _, Nat.le_refl _⟩ rfl (fun _ h => k_X7_isLetter E (zm_w sv) ((M.1 a1 l6_6.toNatClampNeg) &&& 255) M h) (fun r20 => ?_)
    refine zm_if_eq 57 26 (by decide) rfl dX7_cutWord_23 ?_ ?_
    · exact zm_loc [0, 3, 4, 5] rfl (zm_go (hf6b _) (zm_unb (hx57_6 l6_4 l6_6)))
    · refine zm_iload 28 rfl dX7_cutWord_26 5 rfl ?_
      refine zm_iload_n 29 rfl dX7_cutWord_28 rfl 3 rfl ?_
      refine zm_isub 30 rfl dX7_cutWord_29 ?_
      refine zm_bipush 32 rfl dX7_cutWord_30 zb_8 ?_
      have hb51_6 : ∀ (b51_4 : Int64), zm_V X Y_X7_cutWord E (zm_Q X E Y_X7_cutWord.2.2.2.1.cells Y_X7_cutWord.2.2.2.1.slots (zm_w sv) zm_ei) 0 0 false (zm_w sv) 51 [(0, .ref (E.2.1 + 3)), (1, .ref (E.2.1 + a1)), (2, .int a2), (3, .int a3), (4, .long b51_4), (6, .int l6_6)] [] M (f_X7_cutWord_b51_6 l6_6 b51_4) f6 := by
        intro b51_4
        unfold f_X7_cutWord_b51_6
        refine zm_iinc (lv' := fun z => [(6, .int z), (0, .ref (E.2.1 + 3)), (1, .ref (E.2.1 + a1)), (2, .int a2), (3, .int a3), (4, .long b51_4)]) 54 rfl dX7_cutWord_51 zi_1 5 rfl (by decide) (fun _ => rfl) (fun x51 _ => ?_)
        refine zm_goto 6 (by decide) dX7_cutWord_54 ?_
        exact zm_loc [1, 2, 3, 4, 5, 0] rfl (zm_go (hf6a _) (hD6 (b51_4, x51)))
      refine zm_icmp_ge 51 35 (by decide) rfl dX7_cutWord_32 ?_ ?_
      · exact zm_loc [0, 1, 2, 3, 4, 5] rfl (hb51_6 l6_4)
      · refine zm_lload 37 rfl dX7_cutWord_35 4 rfl ?_
        refine zm_aload_n 38 rfl dX7_cutWord_37 rfl 1 rfl ?_
        refine zm_iload 40 rfl dX7_cutWord_38 5 rfl ?_
        refine zm_bald 41 rfl dX7_cutWord_40 ha1.1 ha1.2 ?_
        refine zm_sipush 44 rfl dX7_cutWord_41 zs_255 ?_
        refine zm_iand 45 rfl dX7_cutWord_44 ?_
        refine zm_i2c 46 rfl dX7_cutWord_45 ?_
        refine zm_cS2lr 49 rfl dX7_cutWord_46 ml_X7_37 (Nat.le_of_ble_eq_true rfl) ⟨Nat.le_of_ble_eq_true rfl, Nat.le_of_ble_eq_true rfl⟩ rfl rfl ⟨Nat.le_refl _, Nat.le_refl _⟩ rfl (fun _ h => k_X7_withLetter E (zm_w sv) l6_4 ((((M.1 a1 l6_6.toNatClampNeg) &&& 255).toUInt32 % 65536).toInt32) M h) (fun r46 => ?_)
        refine zm_lstore (lv' := [(4, .long r46), (0, .ref (E.2.1 + 3)), (1, .ref (E.2.1 + a1)), (2, .int a2), (3, .int a3), (6, .int l6_6)]) 51 rfl dX7_cutWord_49 (by decide) rfl ?_
        exact zm_loc [1, 2, 3, 4, 0, 5] rfl (hb51_6 r46)
abbrev Y_X7_isDigit : zm_Y := (cX7_isDigit, 1, RX7, { frames := 0, cells := 0, slots := 0, locals := 0 }, (some .boolean), false, "isDigit")
noncomputable def f_X7_isDigit_b16  : Option Int32 :=
 some 0
noncomputable def f_X7_isDigit (a0 : Int32) (M : zm_Mem) : Option Int32 :=
  if a0 < (48 : Int32) then (f_X7_isDigit_b16) else (if (57 : Int32) < a0 then (f_X7_isDigit_b16) else (some 1))
set_option maxRecDepth 20000 in
set_option maxHeartbeats 4000000 in
theorem k_X7_isDigit (E : zm_E) (w : zm_W) (a0 : Int32) (M : zm_Mem) {r : Int32} (h : f_X7_isDigit a0 M = some r) : zm_Ct E w w yX7_isDigit Y_X7_isDigit [.int a0] M (some (.int r)) M := by
  refine zm_methr (emb := zm_ei) (d := f_X7_isDigit a0 M) (by decide) rfl rfl (Nat.le_of_ble_eq_true rfl) h (fun X => ?_)
  show zm_V X Y_X7_isDigit E (zm_Q X E Y_X7_isDigit.2.2.2.1.cells Y_X7_isDigit.2.2.2.1.slots w zm_ei) 0 0 false w 0 [(0, .int a0)] [] M (f_X7_isDigit a0 M) (fun r => some (r, M))
  unfold f_X7_isDigit
  refine zm_iload_n 1 rfl dX7_isDigit_0 rfl 0 rfl ?_
  refine zm_bipush 3 rfl dX7_isDigit_1 zb_48 ?_
  have hb16 : zm_V X Y_X7_isDigit E (zm_Q X E Y_X7_isDigit.2.2.2.1.cells Y_X7_isDigit.2.2.2.1.slots w zm_ei) 0 0 false w 16 [] [] M (f_X7_isDigit_b16) (fun r => some (r, M)) := by
    unfold f_X7_isDigit_b16
    refine zm_iconst 17 rfl dX7_isDigit_16 zi_0 ?_
    exact zm_zret dX7_isDigit_17 rfl rfl (Nat.le_refl _) (Nat.le_refl _) rfl
  refine zm_icmp_lt 16 6 (by decide) rfl dX7_isDigit_3 ?_ ?_
  · exact zm_loc [] rfl (hb16)
  · refine zm_iload_n 7 rfl dX7_isDigit_6 rfl 0 rfl ?_
    refine zm_bipush 9 rfl dX7_isDigit_7 zb_57 ?_
    refine zm_icmp_gt 16 12 (by decide) rfl dX7_isDigit_9 ?_ ?_
    · exact zm_loc [] rfl (hb16)
    · refine zm_iconst 13 rfl dX7_isDigit_12 zi_1 ?_
      refine zm_goto 17 (by decide) dX7_isDigit_13 ?_
      exact zm_zret dX7_isDigit_17 rfl rfl (Nat.le_refl _) (Nat.le_refl _) rfl
abbrev Y_X7_cutNumber : zm_Y := (cX7_cutNumber, 6, RX7, { frames := 1, cells := 0, slots := 0, locals := 24 }, (some .int), false, "cutNumber")
noncomputable def f_X7_cutNumber_b69 (a3 : Int32) (M : zm_Mem) (b55_4 : Int32) (b55_5 : Int32) (b69_s1 : Int32) : Option (Int32 × zm_Mem) :=
 zm_b2 (f_X7_add b69_s1 a3 (b55_4.toInt64) M) <| fun _ M73 => some (b55_5, M73)
noncomputable def f_X7_cutNumber_b55 (a3 : Int32) (M : zm_Mem) (b55_4 : Int32) (b55_5 : Int32) : Option (Int32 × zm_Mem) :=
 if (b55_5 - a3) ≤ (4 : Int32) then (f_X7_cutNumber_b69 a3 M b55_4 b55_5 3) else (f_X7_cutNumber_b69 a3 M b55_4 b55_5 1)
noncomputable def f_X7_cutNumber_b49_6 (l6_5 : Int32) (b49_4 : Int32) : Option ((Int32 × Int32) ⊕ (Int32 × Int32)) :=
 zm_v (l6_5 + 1) <| fun x49 => some (.inl (b49_4, x49))
noncomputable def f_X7_cutNumber_l6 (a1 : Nat) (a2 : Int32) (a3 : Int32) (M : zm_Mem) (l6_4 : Int32) (l6_5 : Int32) : Option ((Int32 × Int32) ⊕ (Int32 × Int32)) :=
 if a2 ≤ l6_5 then (some (.inr (l6_4, l6_5))) else (zm_ck (zm_in l6_5 (zm_sh a1).2) <| zm_b1 (f_X7_isDigit ((M.1 a1 l6_5.toNatClampNeg) &&& 255) M) <| fun r20 => if r20 = 0 then (some (.inr (l6_4, l6_5))) else (if (4 : Int32) ≤ (l6_5 - a3) then (f_X7_cutNumber_b49_6 l6_5 l6_4) else (zm_ck (zm_in l6_5 (zm_sh a1).2) <| zm_v ((l6_4 * 10) + ((M.1 a1 l6_5.toNatClampNeg) - 48)) <| fun x47 => f_X7_cutNumber_b49_6 l6_5 x47)))
noncomputable def f_X7_cutNumber (a1 : Nat) (a2 : Int32) (a3 : Int32) (M : zm_Mem) : Option (Int32 × zm_Mem) :=
  (zm_lp (fun s => f_X7_cutNumber_l6 a1 a2 a3 M s.1 s.2) (0, a3)).bind (fun e55 => f_X7_cutNumber_b55 a3 M e55.1 e55.2)
set_option maxRecDepth 20000 in
set_option maxHeartbeats 4000000 in
theorem k_X7_cutNumber (E : zm_E) (sv : Nat) (a1 : Nat) (a2 : Int32) (a3 : Int32) (ha1 : zm_sh a1 = (1, (zm_sh a1).2) ∧ (0 < a1 ∧ a1 ≤ zm_n sv)) (M : zm_Mem) {r : Int32} {M' : zm_Mem} (h : f_X7_cutNumber a1 a2 a3 M = some (r, M')) : zm_Ct E (zm_w sv) (zm_w sv) yX7_cutNumber Y_X7_cutNumber [.ref (E.2.1 + 3), .ref (E.2.1 + a1), .int a2, .int a3] M (some (.int r)) M' := by
  refine zm_meth (emb := zm_ei) (d := f_X7_cutNumber a1 a2 a3 M) (by decide) rfl rfl (Nat.le_of_ble_eq_true rfl) h (fun X => ?_)
  show zm_V X Y_X7_cutNumber E (zm_Q X E Y_X7_cutNumber.2.2.2.1.cells Y_X7_cutNumber.2.2.2.1.slots (zm_w sv) zm_ei) 0 0 false (zm_w sv) 0 [(0, .ref (E.2.1 + 3)), (1, .ref (E.2.1 + a1)), (2, .int a2), (3, .int a3)] [] M (f_X7_cutNumber a1 a2 a3 M) some
  unfold f_X7_cutNumber
  refine zm_iconst 1 rfl dX7_cutNumber_0 zi_0 ?_
  refine zm_istore (lv' := [(4, .int 0), (0, .ref (E.2.1 + 3)), (1, .ref (E.2.1 + a1)), (2, .int a2), (3, .int a3)]) 3 rfl dX7_cutNumber_1 (by decide) rfl ?_
  refine zm_iload_n 4 rfl dX7_cutNumber_3 rfl 4 rfl ?_
  refine zm_istore (lv' := [(5, .int a3), (4, .int 0), (0, .ref (E.2.1 + 3)), (1, .ref (E.2.1 + a1)), (2, .int a2), (3, .int a3)]) 6 rfl dX7_cutNumber_4 (by decide) rfl ?_
  have hb55 : ∀ (b55_4 : Int32) (b55_5 : Int32), zm_V X Y_X7_cutNumber E (zm_Q X E Y_X7_cutNumber.2.2.2.1.cells Y_X7_cutNumber.2.2.2.1.slots (zm_w sv) zm_ei) 0 0 false (zm_w sv) 55 [(0, .ref (E.2.1 + 3)), (3, .int a3), (4, .int b55_4), (5, .int b55_5)] [] M (f_X7_cutNumber_b55 a3 M b55_4 b55_5) some := by
    intro b55_4 b55_5
    unfold f_X7_cutNumber_b55
    refine zm_aload_n 56 rfl dX7_cutNumber_55 rfl 0 rfl ?_
    refine zm_iload 58 rfl dX7_cutNumber_56 3 rfl ?_
    refine zm_iload_n 59 rfl dX7_cutNumber_58 rfl 1 rfl ?_
    refine zm_isub 60 rfl dX7_cutNumber_59 ?_
    refine zm_iconst 61 rfl dX7_cutNumber_60 zi_4 ?_
    have hb69 : ∀ (b69_s1 : Int32), zm_V X Y_X7_cutNumber E (zm_Q X E Y_X7_cutNumber.2.2.2.1.cells Y_X7_cutNumber.2.2.2.1.slots (zm_w sv) zm_ei) 0 0 false (zm_w sv) 69 [(3, .int a3), (4, .int b55_4), (5, .int b55_5)] [.int b69_s1, .ref (E.2.1 + 3)] M (f_X7_cutNumber_b69 a3 M b55_4 b55_5 b69_s1) some := by
      intro b69_s1
      unfold f_X7_cutNumber_b69
      refine zm_iload_n 70 rfl dX7_cutNumber_69 rfl 0 rfl ?_
      refine zm_iload 72 rfl dX7_cutNumber_70 1 rfl ?_
      refine zm_i2l 73 rfl dX7_cutNumber_72 ?_
      refine zm_cV3v 76 rfl dX7_cutNumber_73 ml_X7_68 rfl (zm_L (sv := sv) rfl) rfl (Nat.le_of_ble_eq_true rfl) ⟨Nat.le_of_ble_eq_true rfl, Nat.le_of_ble_eq_true rfl⟩ rfl rfl ⟨Nat.le_refl _, Nat.le_refl _⟩ rfl (fun _ _ h => k_X7_add E sv b69_s1 a3 (b55_4.toInt64) M h) (fun _ M73 => ?_)
      refine zm_iload 78 rfl dX7_cutNumber_76 2 rfl ?_
      exact zm_iret dX7_cutNumber_78 rfl (Nat.le_refl _) (Nat.le_refl _) rfl
    refine zm_icmp_le 68 64 (by decide) rfl dX7_cutNumber_61 ?_ ?_
    · refine zm_iconst 69 rfl dX7_cutNumber_68 zi_3 ?_
      exact zm_loc [1, 2, 3] rfl (hb69 3)
    · refine zm_iconst 65 rfl dX7_cutNumber_64 zi_1 ?_
      refine zm_goto 69 (by decide) dX7_cutNumber_65 ?_
      exact zm_loc [1, 2, 3] rfl (hb69 1)
  have hx55_6 : ∀ (e55_4 : Int32) (e55_5 : Int32), zm_V X Y_X7_cutNumber E (zm_Q X E Y_X7_cutNumber.2.2.2.1.cells Y_X7_cutNumber.2.2.2.1.slots (zm_w sv) zm_ei) 0 0 false (zm_w sv) 55 [(0, .ref (E.2.1 + 3)), (3, .int a3), (4, .int e55_4), (5, .int e55_5)] [] M (f_X7_cutNumber_b55 a3 M e55_4 e55_5) some := by
    intro e55_4 e55_5
    exact zm_loc [0, 1, 2, 3] rfl (hb55 e55_4 e55_5)
  refine zm_loc [2, 3, 4, 5, 1, 0] rfl (zm_lpp (σ := (Int32 × Int32)) (ε := (Int32 × Int32)) (step := fun s => f_X7_cutNumber_l6 a1 a2 a3 M s.1 s.2) (fun s => [(0, .ref (E.2.1 + 3)), (1, .ref (E.2.1 + a1)), (2, .int a2), (3, .int a3), (4, .int s.1), (5, .int s.2)]) (fun _ => M) (fun D6 f6 hf6a hf6b hD6 s => ?_) (0, a3))
  obtain ⟨l6_4, l6_5⟩ := s
  show zm_V X Y_X7_cutNumber E (zm_Q X E Y_X7_cutNumber.2.2.2.1.cells Y_X7_cutNumber.2.2.2.1.slots (zm_w sv) zm_ei) 0 0 false (zm_w sv) 6 [(0, .ref (E.2.1 + 3)), (1, .ref (E.2.1 + a1)), (2, .int a2), (3, .int a3), (4, .int l6_4), (5, .int l6_5)] [] M (f_X7_cutNumber_l6 a1 a2 a3 M l6_4 l6_5) f6
  unfold f_X7_cutNumber_l6
  refine zm_iload 8 rfl dX7_cutNumber_6 5 rfl ?_
  refine zm_iload_n 9 rfl dX7_cutNumber_8 rfl 2 rfl ?_
  refine zm_icmp_ge 55 12 (by decide) rfl dX7_cutNumber_9 ?_ ?_
  · exact zm_loc [0, 3, 4, 5] rfl (zm_go (hf6b _) (zm_unb (hx55_6 l6_4 l6_5)))
  · refine zm_aload_n 13 rfl dX7_cutNumber_12 rfl 1 rfl ?_
    refine zm_iload 15 rfl dX7_cutNumber_13 5 rfl ?_
    refine zm_bald 16 rfl dX7_cutNumber_15 ha1.1 ha1.2 ?_
    refine zm_sipush 19 rfl dX7_cutNumber_16 zs_255 ?_
    refine zm_iand 20 rfl dX7_cutNumber_19 ?_
    refine zm_cS1ir 23 rfl dX7_cutNumber_20 ml_X7_56 (Nat.le_of_ble_eq_true rfl) ⟨Nat.le_of_ble_eq_true rfl, Nat.le_of_ble_eq_true rfl⟩ rfl rfl ⟨Nat.le_refl _, Nat.le_refl _⟩ rfl (fun _ h => k_X7_isDigit E (zm_w sv) ((M.1 a1 l6_5.toNatClampNeg) &&& 255) M h) (fun r20 => ?_)
    refine zm_if_eq 55 26 (by decide) rfl dX7_cutNumber_23 ?_ ?_
    · exact zm_loc [0, 3, 4, 5] rfl (zm_go (hf6b _) (zm_unb (hx55_6 l6_4 l6_5)))
    · refine zm_iload 28 rfl dX7_cutNumber_26 5 rfl ?_
      refine zm_iload_n 29 rfl dX7_cutNumber_28 rfl 3 rfl ?_
      refine zm_isub 30 rfl dX7_cutNumber_29 ?_
      refine zm_iconst 31 rfl dX7_cutNumber_30 zi_4 ?_
      have hb49_6 : ∀ (b49_4 : Int32), zm_V X Y_X7_cutNumber E (zm_Q X E Y_X7_cutNumber.2.2.2.1.cells Y_X7_cutNumber.2.2.2.1.slots (zm_w sv) zm_ei) 0 0 false (zm_w sv) 49 [(0, .ref (E.2.1 + 3)), (1, .ref (E.2.1 + a1)), (2, .int a2), (3, .int a3), (4, .int b49_4), (5, .int l6_5)] [] M (f_X7_cutNumber_b49_6 l6_5 b49_4) f6 := by
        intro b49_4
        unfold f_X7_cutNumber_b49_6
        refine zm_iinc (lv' := fun z => [(5, .int z), (0, .ref (E.2.1 + 3)), (1, .ref (E.2.1 + a1)), (2, .int a2), (3, .int a3), (4, .int b49_4)]) 52 rfl dX7_cutNumber_49 zi_1 5 rfl (by decide) (fun _ => rfl) (fun x49 _ => ?_)
        refine zm_goto 6 (by decide) dX7_cutNumber_52 ?_
        exact zm_loc [1, 2, 3, 4, 5, 0] rfl (zm_go (hf6a _) (hD6 (b49_4, x49)))
      refine zm_icmp_ge 49 34 (by decide) rfl dX7_cutNumber_31 ?_ ?_
      · exact zm_loc [0, 1, 2, 3, 4, 5] rfl (hb49_6 l6_4)
      · refine zm_iload 36 rfl dX7_cutNumber_34 4 rfl ?_
        refine zm_bipush 38 rfl dX7_cutNumber_36 zb_10 ?_
        refine zm_imul 39 rfl dX7_cutNumber_38 ?_
        refine zm_aload_n 40 rfl dX7_cutNumber_39 rfl 1 rfl ?_
        refine zm_iload 42 rfl dX7_cutNumber_40 5 rfl ?_
        refine zm_bald 43 rfl dX7_cutNumber_42 ha1.1 ha1.2 ?_
        refine zm_bipush 45 rfl dX7_cutNumber_43 zb_48 ?_
        refine zm_isub 46 rfl dX7_cutNumber_45 ?_
        refine zm_iadd 47 rfl dX7_cutNumber_46 ?_
        refine zm_nmi (fun x47 _ => ?_)
        refine zm_istore (lv' := [(4, .int x47), (0, .ref (E.2.1 + 3)), (1, .ref (E.2.1 + a1)), (2, .int a2), (3, .int a3), (5, .int l6_5)]) 49 rfl dX7_cutNumber_47 (by decide) rfl ?_
        exact zm_loc [1, 2, 3, 4, 0, 5] rfl (hb49_6 x47)
abbrev Y_X7_cut : zm_Y := (cX7_cut, 6, RX7, { frames := 7, cells := 0, slots := 0, locals := 159 }, none, false, "cut")
noncomputable def f_X7_cut_b124 (a2 : Int32) (M124 : zm_Mem) : Option (Unit × zm_Mem) :=
 zm_b2 (f_X7_add 0 a2 0 M124) <| fun _ M128 => some ((), M128)
noncomputable def f_X7_cut_b118_10 (l10_4 : Int32) (b118_3 : Int32) (M118 : zm_Mem) : Option ((Int32 × Int32 × zm_Mem) ⊕ zm_Mem) :=
 zm_v (l10_4 + 1) <| fun x118 => some (.inl (b118_3, x118, M118))
noncomputable def f_X7_cut_b110_10 (l10_3 : Int32) (l10_4 : Int32) (L10 : zm_Mem) (b110_s1 : Int32) : Option ((Int32 × Int32 × zm_Mem) ⊕ zm_Mem) :=
 zm_b2 (f_X7_add b110_s1 l10_3 0 L10) <| fun _ M112 => zm_v (l10_3 + 1) <| fun x115 => f_X7_cut_b118_10 l10_4 x115 M112
noncomputable def f_X7_cut_l10 (a1 : Nat) (a2 : Int32) (l10_3 : Int32) (l10_4 : Int32) (L10 : zm_Mem) : Option ((Int32 × Int32 × zm_Mem) ⊕ zm_Mem) :=
 if a2 ≤ l10_4 then (some (.inr L10)) else (if a2 ≤ l10_3 then (some (.inr L10)) else (if (401 : Int32) ≤ (L10.1 3 4) then (some (.inr L10)) else (zm_ck (zm_in l10_3 (zm_sh a1).2) <| zm_v ((L10.1 a1 l10_3.toNatClampNeg) &&& 255) <| fun x38 => zm_b1 (f_X7_isBlank x38 L10) <| fun r42 => if r42 = 0 then (zm_b1 (f_X7_isLetter x38 L10) <| fun r56 => if r56 = 0 then (zm_b1 (f_X7_isDigit x38 L10) <| fun r75 => if r75 = 0 then (zm_b1 (f_J0_indexOf_0f7a4_s1 ((x38.toUInt32 % 65536).toInt32) L10) <| fun r98 => if r98 < 0 then (f_X7_cut_b110_10 l10_3 l10_4 L10 1) else (f_X7_cut_b110_10 l10_3 l10_4 L10 x38)) else (zm_b2 (f_X7_cutNumber a1 a2 l10_3 L10) <| fun r85 M85 => f_X7_cut_b118_10 l10_4 r85 M85)) else (zm_b2 (f_X7_cutWord a1 a2 l10_3 L10) <| fun r66 M66 => f_X7_cut_b118_10 l10_4 r66 M66)) else (zm_v (l10_3 + 1) <| fun x48 => f_X7_cut_b118_10 l10_4 x48 L10))))
noncomputable def f_X7_cut (a1 : Nat) (a2 : Int32) (M : zm_Mem) : Option (Unit × zm_Mem) :=
  zm_v (zm_sI M 3 4 0) <| fun M2 => (zm_lp (fun s => f_X7_cut_l10 a1 a2 s.1 s.2.1 s.2.2) (0, 0, M2)).bind (fun e124 => f_X7_cut_b124 a2 e124)
set_option maxRecDepth 20000 in
set_option maxHeartbeats 4000000 in
theorem k_X7_cut (E : zm_E) (sv : Nat) (a1 : Nat) (a2 : Int32) (ha1 : zm_sh a1 = (1, (zm_sh a1).2) ∧ (0 < a1 ∧ a1 ≤ zm_n sv)) (M : zm_Mem) {r : Unit} {M' : zm_Mem} (h : f_X7_cut a1 a2 M = some (r, M')) : zm_Ct E (zm_w sv) (zm_w sv) yX7_cut Y_X7_cut [.ref (E.2.1 + 3), .ref (E.2.1 + a1), .int a2] M none M' := by
  refine zm_meth (emb := zm_ev) (d := f_X7_cut a1 a2 M) (by decide) rfl rfl (Nat.le_of_ble_eq_true rfl) h (fun X => ?_)
  show zm_V X Y_X7_cut E (zm_Q X E Y_X7_cut.2.2.2.1.cells Y_X7_cut.2.2.2.1.slots (zm_w sv) zm_ev) 0 0 false (zm_w sv) 0 [(0, .ref (E.2.1 + 3)), (1, .ref (E.2.1 + a1)), (2, .int a2)] [] M (f_X7_cut a1 a2 M) some
  unfold f_X7_cut
  refine zm_aload_n 1 rfl dX7_cut_0 rfl 0 rfl ?_
  refine zm_iconst 2 rfl dX7_cut_1 zi_0 ?_
  refine zm_putI 5 rfl dX7_cut_2 fp_X7_41 rfl (zm_L (sv := sv) rfl) rfl rfl (fun M2 _ => ?_)
  refine zm_iconst 6 rfl dX7_cut_5 zi_0 ?_
  refine zm_istore_n (lv' := [(3, .int 0), (0, .ref (E.2.1 + 3)), (1, .ref (E.2.1 + a1)), (2, .int a2)]) 7 rfl dX7_cut_6 rfl (by decide) rfl ?_
  refine zm_iconst 8 rfl dX7_cut_7 zi_0 ?_
  refine zm_istore (lv' := [(4, .int 0), (3, .int 0), (0, .ref (E.2.1 + 3)), (1, .ref (E.2.1 + a1)), (2, .int a2)]) 10 rfl dX7_cut_8 (by decide) rfl ?_
  have hb124 : ∀ (M124 : zm_Mem), zm_V X Y_X7_cut E (zm_Q X E Y_X7_cut.2.2.2.1.cells Y_X7_cut.2.2.2.1.slots (zm_w sv) zm_ev) 0 0 false (zm_w sv) 124 [(0, .ref (E.2.1 + 3)), (2, .int a2)] [] M124 (f_X7_cut_b124 a2 M124) some := by
    intro M124
    unfold f_X7_cut_b124
    refine zm_aload_n 125 rfl dX7_cut_124 rfl 0 rfl ?_
    refine zm_iconst 126 rfl dX7_cut_125 zi_0 ?_
    refine zm_iload_n 127 rfl dX7_cut_126 rfl 1 rfl ?_
    refine zm_lconst 128 rfl dX7_cut_127 rfl ?_
    refine zm_cV3v 131 rfl dX7_cut_128 ml_X7_68 rfl (zm_L (sv := sv) rfl) rfl (Nat.le_of_ble_eq_true rfl) ⟨Nat.le_of_ble_eq_true rfl, Nat.le_of_ble_eq_true rfl⟩ rfl rfl ⟨Nat.le_refl _, Nat.le_refl _⟩ rfl (fun _ _ h => k_X7_add E sv 0 a2 0 M124 h) (fun _ M128 => ?_)
    exact zm_vret dX7_cut_131 rfl (Nat.le_refl _) (Nat.le_refl _) rfl
  have hx124_10 : ∀ (N124 : zm_Mem), zm_V X Y_X7_cut E (zm_Q X E Y_X7_cut.2.2.2.1.cells Y_X7_cut.2.2.2.1.slots (zm_w sv) zm_ev) 0 0 false (zm_w sv) 124 [(0, .ref (E.2.1 + 3)), (2, .int a2)] [] N124 (f_X7_cut_b124 a2 N124) some := by
    intro N124
    exact zm_loc [0, 1] rfl (hb124 N124)
  refine zm_loc [2, 3, 4, 1, 0] rfl (zm_lpp (σ := (Int32 × Int32 × zm_Mem)) (ε := zm_Mem) (step := fun s => f_X7_cut_l10 a1 a2 s.1 s.2.1 s.2.2) (fun s => [(0, .ref (E.2.1 + 3)), (1, .ref (E.2.1 + a1)), (2, .int a2), (3, .int s.1), (4, .int s.2.1)]) (fun s => s.2.2) (fun D10 f10 hf10a hf10b hD10 s => ?_) (0, 0, M2))
  obtain ⟨l10_3, l10_4, L10⟩ := s
  show zm_V X Y_X7_cut E (zm_Q X E Y_X7_cut.2.2.2.1.cells Y_X7_cut.2.2.2.1.slots (zm_w sv) zm_ev) 0 0 false (zm_w sv) 10 [(0, .ref (E.2.1 + 3)), (1, .ref (E.2.1 + a1)), (2, .int a2), (3, .int l10_3), (4, .int l10_4)] [] L10 (f_X7_cut_l10 a1 a2 l10_3 l10_4 L10) f10
  unfold f_X7_cut_l10
  refine zm_iload 12 rfl dX7_cut_10 4 rfl ?_
  refine zm_iload_n 13 rfl dX7_cut_12 rfl 2 rfl ?_
  refine zm_icmp_ge 124 16 (by decide) rfl dX7_cut_13 ?_ ?_
  · exact zm_loc [0, 2] rfl (zm_go (hf10b _) (zm_unb (hx124_10 L10)))
  · refine zm_iload_n 17 rfl dX7_cut_16 rfl 3 rfl ?_
    refine zm_iload_n 18 rfl dX7_cut_17 rfl 2 rfl ?_
    refine zm_icmp_ge 124 21 (by decide) rfl dX7_cut_18 ?_ ?_
    · exact zm_loc [0, 2] rfl (zm_go (hf10b _) (zm_unb (hx124_10 L10)))
    · refine zm_aload_n 22 rfl dX7_cut_21 rfl 0 rfl ?_
      refine zm_getI 25 rfl dX7_cut_22 fl_X7_41 rfl (zm_L (sv := sv) rfl) ?_
      refine zm_sipush 28 rfl dX7_cut_25 zs_401 ?_
      refine zm_icmp_ge 124 31 (by decide) rfl dX7_cut_28 ?_ ?_
      · exact zm_loc [0, 2] rfl (zm_go (hf10b _) (zm_unb (hx124_10 L10)))
      · refine zm_aload_n 32 rfl dX7_cut_31 rfl 1 rfl ?_
        refine zm_iload_n 33 rfl dX7_cut_32 rfl 3 rfl ?_
        refine zm_bald 34 rfl dX7_cut_33 ha1.1 ha1.2 ?_
        refine zm_sipush 37 rfl dX7_cut_34 zs_255 ?_
        refine zm_iand 38 rfl dX7_cut_37 ?_
        refine zm_nmi (fun x38 _ => ?_)
        refine zm_istore (lv' := [(5, .int x38), (0, .ref (E.2.1 + 3)), (1, .ref (E.2.1 + a1)), (2, .int a2), (3, .int l10_3), (4, .int l10_4)]) 40 rfl dX7_cut_38 (by decide) rfl ?_
        refine zm_iload 42 rfl dX7_cut_40 0 rfl ?_
        refine zm_cS1ir 45 rfl dX7_cut_42 ml_X7_45 (Nat.le_of_ble_eq_true rfl) ⟨Nat.le_of_ble_eq_true rfl, Nat.le_of_ble_eq_true rfl⟩ rfl rfl ⟨Nat.le_refl _, Nat.le_refl _⟩ rfl (fun _ h => k_X7_isBlank E (zm_w sv) x38 L10 h) (fun r42 => ?_)
        have hb118_10 : ∀ (b118_3 : Int32) (M118 : zm_Mem), zm_V X Y_X7_cut E (zm_Q X E Y_X7_cut.2.2.2.1.cells Y_X7_cut.2.2.2.1.slots (zm_w sv) zm_ev) 0 0 false (zm_w sv) 118 [(0, .ref (E.2.1 + 3)), (1, .ref (E.2.1 + a1)), (2, .int a2), (3, .int b118_3), (4, .int l10_4)] [] M118 (f_X7_cut_b118_10 l10_4 b118_3 M118) f10 := by
          intro b118_3 M118
          unfold f_X7_cut_b118_10
          refine zm_iinc (lv' := fun z => [(4, .int z), (0, .ref (E.2.1 + 3)), (1, .ref (E.2.1 + a1)), (2, .int a2), (3, .int b118_3)]) 121 rfl dX7_cut_118 zi_1 4 rfl (by decide) (fun _ => rfl) (fun x118 _ => ?_)
          refine zm_goto 10 (by decide) dX7_cut_121 ?_
          exact zm_loc [1, 2, 3, 4, 0] rfl (zm_go (hf10a _) (hD10 (b118_3, x118, M118)))
        refine zm_if_eq 54 48 (by decide) rfl dX7_cut_45 ?_ ?_
        · refine zm_iload 56 rfl dX7_cut_54 0 rfl ?_
          refine zm_cS1ir 59 rfl dX7_cut_56 ml_X7_49 (Nat.le_of_ble_eq_true rfl) ⟨Nat.le_of_ble_eq_true rfl, Nat.le_of_ble_eq_true rfl⟩ rfl rfl ⟨Nat.le_refl _, Nat.le_refl _⟩ rfl (fun _ h => k_X7_isLetter E (zm_w sv) x38 L10 h) (fun r56 => ?_)
          refine zm_if_eq 73 62 (by decide) rfl dX7_cut_59 ?_ ?_
          · refine zm_iload 75 rfl dX7_cut_73 0 rfl ?_
            refine zm_cS1ir 78 rfl dX7_cut_75 ml_X7_56 (Nat.le_of_ble_eq_true rfl) ⟨Nat.le_of_ble_eq_true rfl, Nat.le_of_ble_eq_true rfl⟩ rfl rfl ⟨Nat.le_refl _, Nat.le_refl _⟩ rfl (fun _ h => k_X7_isDigit E (zm_w sv) x38 L10 h) (fun r75 => ?_)
            refine zm_if_eq 92 81 (by decide) rfl dX7_cut_78 ?_ ?_
            · refine zm_aload_n 93 rfl dX7_cut_92 rfl 1 rfl ?_
              refine zm_ldcS1 95 rfl dX7_cut_93 rfl ?_
              refine zm_iload 97 rfl dX7_cut_95 0 rfl ?_
              refine zm_i2c 98 rfl dX7_cut_97 ?_
              refine zm_cT1ir 101 rfl dX7_cut_98 ml_X7_64 (i := 1) (by decide) (Nat.le_of_ble_eq_true rfl) ⟨Nat.le_of_ble_eq_true rfl, Nat.le_of_ble_eq_true rfl⟩ rfl rfl ⟨Nat.le_refl _, Nat.le_refl _⟩ rfl (fun _ h => k_J0_indexOf_0f7a4_s1 E (zm_w sv) ((x38.toUInt32 % 65536).toInt32) L10 h) (fun r98 => ?_)
              have hb110_10 : ∀ (b110_s1 : Int32), zm_V X Y_X7_cut E (zm_Q X E Y_X7_cut.2.2.2.1.cells Y_X7_cut.2.2.2.1.slots (zm_w sv) zm_ev) 0 0 false (zm_w sv) 110 [(0, .ref (E.2.1 + 3)), (1, .ref (E.2.1 + a1)), (2, .int a2), (3, .int l10_3), (4, .int l10_4)] [.int b110_s1, .ref (E.2.1 + 3)] L10 (f_X7_cut_b110_10 l10_3 l10_4 L10 b110_s1) f10 := by
                intro b110_s1
                unfold f_X7_cut_b110_10
                refine zm_iload_n 111 rfl dX7_cut_110 rfl 3 rfl ?_
                refine zm_lconst 112 rfl dX7_cut_111 rfl ?_
                refine zm_cV3v 115 rfl dX7_cut_112 ml_X7_68 rfl (zm_L (sv := sv) rfl) rfl (Nat.le_of_ble_eq_true rfl) ⟨Nat.le_of_ble_eq_true rfl, Nat.le_of_ble_eq_true rfl⟩ rfl rfl ⟨Nat.le_refl _, Nat.le_refl _⟩ rfl (fun _ _ h => k_X7_add E sv b110_s1 l10_3 0 L10 h) (fun _ M112 => ?_)
                refine zm_iinc (lv' := fun z => [(3, .int z), (0, .ref (E.2.1 + 3)), (1, .ref (E.2.1 + a1)), (2, .int a2), (4, .int l10_4)]) 118 rfl dX7_cut_115 zi_1 3 rfl (by decide) (fun _ => rfl) (fun x115 _ => ?_)
                exact zm_loc [1, 2, 3, 0, 4] rfl (hb118_10 x115 M112)
              refine zm_if_lt 109 104 (by decide) rfl dX7_cut_101 ?_ ?_
              · refine zm_iconst 110 rfl dX7_cut_109 zi_1 ?_
                exact zm_loc [1, 2, 3, 4, 5] rfl (hb110_10 1)
              · refine zm_iload 106 rfl dX7_cut_104 0 rfl ?_
                refine zm_goto 110 (by decide) dX7_cut_106 ?_
                exact zm_loc [1, 2, 3, 4, 5] rfl (hb110_10 x38)
            · refine zm_aload_n 82 rfl dX7_cut_81 rfl 1 rfl ?_
              refine zm_aload_n 83 rfl dX7_cut_82 rfl 2 rfl ?_
              refine zm_iload_n 84 rfl dX7_cut_83 rfl 3 rfl ?_
              refine zm_iload_n 85 rfl dX7_cut_84 rfl 4 rfl ?_
              refine zm_cV3i 88 rfl dX7_cut_85 ml_X7_59 rfl (zm_L (sv := sv) rfl) rfl (Nat.le_of_ble_eq_true rfl) ⟨Nat.le_of_ble_eq_true rfl, Nat.le_of_ble_eq_true rfl⟩ rfl rfl ⟨Nat.le_refl _, Nat.le_refl _⟩ rfl (fun _ _ h => k_X7_cutNumber E sv a1 a2 l10_3 ⟨ha1.1, ha1.2⟩ L10 h) (fun r85 M85 => ?_)
              refine zm_istore_n (lv' := [(3, .int r85), (5, .int x38), (0, .ref (E.2.1 + 3)), (1, .ref (E.2.1 + a1)), (2, .int a2), (4, .int l10_4)]) 89 rfl dX7_cut_88 rfl (by decide) rfl ?_
              refine zm_goto 118 (by decide) dX7_cut_89 ?_
              exact zm_loc [2, 3, 4, 0, 5] rfl (hb118_10 r85 M85)
          · refine zm_aload_n 63 rfl dX7_cut_62 rfl 1 rfl ?_
            refine zm_aload_n 64 rfl dX7_cut_63 rfl 2 rfl ?_
            refine zm_iload_n 65 rfl dX7_cut_64 rfl 3 rfl ?_
            refine zm_iload_n 66 rfl dX7_cut_65 rfl 4 rfl ?_
            refine zm_cV3i 69 rfl dX7_cut_66 ml_X7_52 rfl (zm_L (sv := sv) rfl) rfl (Nat.le_of_ble_eq_true rfl) ⟨Nat.le_of_ble_eq_true rfl, Nat.le_of_ble_eq_true rfl⟩ rfl rfl ⟨Nat.le_refl _, Nat.le_refl _⟩ rfl (fun _ _ h => k_X7_cutWord E sv a1 a2 l10_3 ⟨ha1.1, ha1.2⟩ L10 h) (fun r66 M66 => ?_)
            refine zm_istore_n (lv' := [(3, .int r66), (5, .int x38), (0, .ref (E.2.1 + 3)), (1, .ref (E.2.1 + a1)), (2, .int a2), (4, .int l10_4)]) 70 rfl dX7_cut_69 rfl (by decide) rfl ?_
            refine zm_goto 118 (by decide) dX7_cut_70 ?_
            exact zm_loc [2, 3, 4, 0, 5] rfl (hb118_10 r66 M66)
        · refine zm_iinc (lv' := fun z => [(3, .int z), (5, .int x38), (0, .ref (E.2.1 + 3)), (1, .ref (E.2.1 + a1)), (2, .int a2), (4, .int l10_4)]) 51 rfl dX7_cut_48 zi_1 4 rfl (by decide) (fun _ => rfl) (fun x48 _ => ?_)
          refine zm_goto 118 (by decide) dX7_cut_51 ?_
          exact zm_loc [2, 3, 4, 0, 5] rfl (hb118_10 x48 L10)
