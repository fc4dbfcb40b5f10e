abbrev Y_X11_term : zm_Y := (cX11_term, 1, RX11, { frames := 4, cells := 0, slots := 0, locals := 83 }, none, false, "term")
noncomputable def f_X11_term_b24 (M24 : zm_Mem) : Option (Unit × zm_Mem) :=
 zm_ck (zm_in (M24.1 52 42) 260) <| zm_v (zm_sI M24 85 (M24.1 52 42).toNatClampNeg (M24.1 52 48)) <| fun M36 => zm_v (zm_sI M36 52 42 ((M36.1 52 42) + 1)) <| fun M44 => some ((), M44)
noncomputable def f_X11_term  (M : zm_Mem) : Option (Unit × zm_Mem) :=
  zm_ck (zm_in (M.1 52 42) 260) <| zm_v (zm_sI M 84 (M.1 52 42).toNatClampNeg (M.1 52 48)) <| fun M12 => if (M12.1 52 13) = 0 then (zm_b2 (f_X11_expression M12) <| fun _ M21 => f_X11_term_b24 M21) else (f_X11_term_b24 M12)
set_option maxRecDepth 20000 in
set_option maxHeartbeats 4000000 in
theorem k_X11_term (E : zm_E) (sv : Nat)  (M : zm_Mem) {r : Unit} {M' : zm_Mem} (h : f_X11_term M = some (r, M')) : zm_Ct E (zm_w sv) (zm_w sv) yX11_term Y_X11_term [.ref (E.2.1 + 52)] M none M' := by
  refine zm_meth (emb := zm_ev) (d := f_X11_term M) (by decide) rfl rfl (Nat.le_of_ble_eq_true rfl) h (fun X => ?_)
  show zm_V X Y_X11_term E (zm_Q X E Y_X11_term.2.2.2.1.cells Y_X11_term.2.2.2.1.slots (zm_w sv) zm_ev) 0 0 false (zm_w sv) 0 [(0, .ref (E.2.1 + 52))] [] M (f_X11_term M) some
  unfold f_X11_term
  refine zm_aload_n 1 rfl dX11_term_0 rfl 0 rfl ?_
  refine zm_getR (a := 84) 4 rfl dX11_term_1 fl_X11_113 rfl (zm_L (sv := sv) rfl) rfl (by decide) ?_
  refine zm_aload_n 5 rfl dX11_term_4 rfl 0 rfl ?_
  refine zm_getI 8 rfl dX11_term_5 fl_X11_260 rfl (zm_L (sv := sv) rfl) ?_
  refine zm_aload_n 9 rfl dX11_term_8 rfl 0 rfl ?_
  refine zm_getI 12 rfl dX11_term_9 fl_X11_263 rfl (zm_L (sv := sv) rfl) ?_
  refine zm_iast 13 rfl dX11_term_12 rfl (zm_L (sv := sv) rfl) (fun M12 _ => ?_)
  refine zm_aload_n 14 rfl dX11_term_13 rfl 0 rfl ?_
  refine zm_getI 17 rfl dX11_term_14 fl_X11_221 rfl (zm_L (sv := sv) rfl) ?_
  have hb24 : ∀ (M24 : zm_Mem), zm_V X Y_X11_term E (zm_Q X E Y_X11_term.2.2.2.1.cells Y_X11_term.2.2.2.1.slots (zm_w sv) zm_ev) 0 0 false (zm_w sv) 24 [(0, .ref (E.2.1 + 52))] [] M24 (f_X11_term_b24 M24) some := by
    intro M24
    unfold f_X11_term_b24
    refine zm_aload_n 25 rfl dX11_term_24 rfl 0 rfl ?_
    refine zm_getR (a := 85) 28 rfl dX11_term_25 fl_X11_116 rfl (zm_L (sv := sv) rfl) rfl (by decide) ?_
    refine zm_aload_n 29 rfl dX11_term_28 rfl 0 rfl ?_
    refine zm_getI 32 rfl dX11_term_29 fl_X11_260 rfl (zm_L (sv := sv) rfl) ?_
    refine zm_aload_n 33 rfl dX11_term_32 rfl 0 rfl ?_
    refine zm_getI 36 rfl dX11_term_33 fl_X11_263 rfl (zm_L (sv := sv) rfl) ?_
    refine zm_iast 37 rfl dX11_term_36 rfl (zm_L (sv := sv) rfl) (fun M36 _ => ?_)
    refine zm_aload_n 38 rfl dX11_term_37 rfl 0 rfl ?_
    refine zm_dup 39 rfl dX11_term_38 rfl ?_
    refine zm_getI 42 rfl dX11_term_39 fl_X11_260 rfl (zm_L (sv := sv) rfl) ?_
    refine zm_iconst 43 rfl dX11_term_42 zi_1 ?_
    refine zm_iadd 44 rfl dX11_term_43 ?_
    refine zm_putI 47 rfl dX11_term_44 fp_X11_260 rfl (zm_L (sv := sv) rfl) rfl rfl (fun M44 _ => ?_)
    exact zm_vret dX11_term_47 rfl (Nat.le_refl _) (Nat.le_refl _) rfl
  refine zm_if_ne 24 20 (by decide) rfl dX11_term_17 ?_ ?_
  · refine zm_aload_n 21 rfl dX11_term_20 rfl 0 rfl ?_
    refine zm_cV0v 24 rfl dX11_term_21 ml_X11_312 rfl (zm_L (sv := sv) rfl) rfl (Nat.le_of_ble_eq_true rfl) ⟨Nat.le_of_ble_eq_true rfl, Nat.le_of_ble_eq_true rfl⟩ rfl rfl ⟨Nat.le_refl _, Nat.le_refl _⟩ rfl (fun _ _ h => k_X11_expression E sv M12 h) (fun _ M21 => ?_)
    exact zm_loc [0] rfl (hb24 M21)
  · exact zm_loc [0] rfl (hb24 M12)
abbrev Y_X11_tellLaw : zm_Y := (cX11_tellLaw, 4, RX11, { frames := 5, cells := 0, slots := 0, locals := 103 }, none, false, "tellLaw")
noncomputable def f_X11_tellLaw_b129 (a1 : Int32) (x9 : Int32) (M129 : zm_Mem) : Option (Unit × zm_Mem) :=
 zm_ck (zm_in (M129.1 52 42) 260) <| zm_v (zm_sI M129 81 (M129.1 52 42).toNatClampNeg (vp_nar .boolean 0)) <| fun M138 => zm_b2 (f_X11_term M138) <| fun _ M140 => zm_b2 (f_X11_must 4 M140) <| fun _ M145 => if (M145.1 52 13) ≤ 0 then (zm_ck (zm_in ((2 * (M145.1 52 19)) + a1) 4) <| zm_v (zm_sI M145 79 ((2 * (M145.1 52 19)) + a1).toNatClampNeg x9) <| fun M169 => zm_ck (zm_in ((2 * (M169.1 52 19)) + a1) 4) <| zm_v (zm_sI M169 80 ((2 * (M169.1 52 19)) + a1).toNatClampNeg (M169.1 52 42)) <| fun M186 => some ((), M186)) else (some ((), M145))
noncomputable def f_X11_tellLaw_b110_12 (x46 : Int32) (M110 : zm_Mem) : Option ((Int32 × zm_Mem) ⊕ (zm_Mem ⊕ zm_Mem)) :=
 zm_b2 (f_X11_must 29 M110) <| fun _ M113 => zm_b2 (f_X11_term M113) <| fun _ M117 => zm_b2 (f_X11_must 30 M117) <| fun _ M123 => some (.inl (x46, M123))
noncomputable def f_X11_tellLaw_b38_12 (l12_3 : Int32) (M38 : zm_Mem) : Option ((Int32 × zm_Mem) ⊕ (zm_Mem ⊕ zm_Mem)) :=
 if (M38.1 52 13) ≤ 0 then (zm_v (l12_3 + 1) <| fun x46 => zm_b2 (f_X11_goesOn M38) <| fun _ M50 => zm_ck (zm_in (M50.1 52 42) 260) <| zm_v (zm_sI M50 81 (M50.1 52 42).toNatClampNeg (vp_nar .boolean 1)) <| fun M62 => zm_ck (zm_in (M62.1 52 42) 260) <| zm_v (zm_sI M62 82 (M62.1 52 42).toNatClampNeg (M62.1 52 48)) <| fun M75 => zm_b2 (f_X11_expression M75) <| fun _ M77 => zm_b2 (f_X11_must 13 M77) <| fun _ M83 => zm_ck (zm_in (M83.1 52 42) 260) <| zm_v (zm_sI M83 83 (M83.1 52 42).toNatClampNeg (M83.1 52 48)) <| fun M98 => if (M98.1 52 13) = 0 then (zm_b2 (f_X11_expression M98) <| fun _ M107 => f_X11_tellLaw_b110_12 x46 M107) else (f_X11_tellLaw_b110_12 x46 M98)) else (some (.inr (.inl M38)))
noncomputable def f_X11_tellLaw_l12 (l12_3 : Int32) (L12 : zm_Mem) : Option ((Int32 × zm_Mem) ⊕ (zm_Mem ⊕ zm_Mem)) :=
 if (L12.1 52 13) = 0 then (zm_b1 (f_X11_is 28 L12) <| fun r22 => if r22 = 0 then (some (.inr (.inr L12))) else (if l12_3 = (4 : Int32) then (zm_b2 (f_X11_fail 2 L12) <| fun _ M35 => f_X11_tellLaw_b38_12 l12_3 M35) else (f_X11_tellLaw_b38_12 l12_3 L12))) else (some (.inr (.inr L12)))
noncomputable def f_X11_tellLaw (a1 : Int32) (M : zm_Mem) : Option (Unit × zm_Mem) :=
  zm_b2 (f_X11_must 5 M) <| fun _ M2 => zm_v (M2.1 52 42) <| fun x9 => (zm_lp (fun s => f_X11_tellLaw_l12 s.1 s.2) (0, M2)).bind (Sum.elim (fun e45 => some ((), e45)) (fun e129 => f_X11_tellLaw_b129 a1 x9 e129))
set_option maxRecDepth 20000 in
set_option maxHeartbeats 4000000 in
theorem k_X11_tellLaw (E : zm_E) (sv : Nat) (a1 : Int32) (M : zm_Mem) {r : Unit} {M' : zm_Mem} (h : f_X11_tellLaw a1 M = some (r, M')) : zm_Ct E (zm_w sv) (zm_w sv) yX11_tellLaw Y_X11_tellLaw [.ref (E.2.1 + 52), .int a1] M none M' := by
  refine zm_meth (emb := zm_ev) (d := f_X11_tellLaw a1 M) (by decide) rfl rfl (Nat.le_of_ble_eq_true rfl) h (fun X => ?_)
  show zm_V X Y_X11_tellLaw E (zm_Q X E Y_X11_tellLaw.2.2.2.1.cells Y_X11_tellLaw.2.2.2.1.slots (zm_w sv) zm_ev) 0 0 false (zm_w sv) 0 [(0, .ref (E.2.1 + 52)), (1, .int a1)] [] M (f_X11_tellLaw a1 M) some
  unfold f_X11_tellLaw
  refine zm_aload_n 1 rfl dX11_tellLaw_0 rfl 0 rfl ?_
  refine zm_iconst 2 rfl dX11_tellLaw_1 zi_5 ?_
  refine zm_cV1v 5 rfl dX11_tellLaw_2 ml_X11_292 rfl (zm_L (sv := sv) rfl) rfl (Nat.le_of_ble_eq_true rfl) ⟨Nat.le_of_ble_eq_true rfl, Nat.le_of_ble_eq_true rfl⟩ rfl rfl ⟨Nat.le_refl _, Nat.le_refl _⟩ rfl (fun _ _ h => k_X11_must E sv 5 M h) (fun _ M2 => ?_)
  refine zm_aload_n 6 rfl dX11_tellLaw_5 rfl 0 rfl ?_
  refine zm_getI 9 rfl dX11_tellLaw_6 fl_X11_260 rfl (zm_L (sv := sv) rfl) ?_
  refine zm_nmi (fun x9 _ => ?_)
  refine zm_istore_n (lv' := [(2, .int x9), (0, .ref (E.2.1 + 52)), (1, .int a1)]) 10 rfl dX11_tellLaw_9 rfl (by decide) rfl ?_
  refine zm_iconst 11 rfl dX11_tellLaw_10 zi_0 ?_
  refine zm_istore_n (lv' := [(3, .int 0), (2, .int x9), (0, .ref (E.2.1 + 52)), (1, .int a1)]) 12 rfl dX11_tellLaw_11 rfl (by decide) rfl ?_
  have hb129 : ∀ (M129 : zm_Mem), zm_V X Y_X11_tellLaw E (zm_Q X E Y_X11_tellLaw.2.2.2.1.cells Y_X11_tellLaw.2.2.2.1.slots (zm_w sv) zm_ev) 0 0 false (zm_w sv) 129 [(0, .ref (E.2.1 + 52)), (1, .int a1), (2, .int x9)] [] M129 (f_X11_tellLaw_b129 a1 x9 M129) some := by
    intro M129
    unfold f_X11_tellLaw_b129
    refine zm_aload_n 130 rfl dX11_tellLaw_129 rfl 0 rfl ?_
    refine zm_getR (a := 81) 133 rfl dX11_tellLaw_130 fl_X11_103 rfl (zm_L (sv := sv) rfl) rfl (by decide) ?_
    refine zm_aload_n 134 rfl dX11_tellLaw_133 rfl 0 rfl ?_
    refine zm_getI 137 rfl dX11_tellLaw_134 fl_X11_260 rfl (zm_L (sv := sv) rfl) ?_
    refine zm_iconst 138 rfl dX11_tellLaw_137 zi_0 ?_
    refine zm_zast 139 rfl dX11_tellLaw_138 rfl (zm_L (sv := sv) rfl) (fun M138 _ => ?_)
    refine zm_aload_n 140 rfl dX11_tellLaw_139 rfl 0 rfl ?_
    refine zm_cV0v 143 rfl dX11_tellLaw_140 ml_X11_315 rfl (zm_L (sv := sv) rfl) rfl (Nat.le_of_ble_eq_true rfl) ⟨Nat.le_of_ble_eq_true rfl, Nat.le_of_ble_eq_true rfl⟩ rfl rfl ⟨Nat.le_refl _, Nat.le_refl _⟩ rfl (fun _ _ h => k_X11_term E sv M138 h) (fun _ M140 => ?_)
    refine zm_aload_n 144 rfl dX11_tellLaw_143 rfl 0 rfl ?_
    refine zm_iconst 145 rfl dX11_tellLaw_144 zi_4 ?_
    refine zm_cV1v 148 rfl dX11_tellLaw_145 ml_X11_292 rfl (zm_L (sv := sv) rfl) rfl (Nat.le_of_ble_eq_true rfl) ⟨Nat.le_of_ble_eq_true rfl, Nat.le_of_ble_eq_true rfl⟩ rfl rfl ⟨Nat.le_refl _, Nat.le_refl _⟩ rfl (fun _ _ h => k_X11_must E sv 4 M140 h) (fun _ M145 => ?_)
    refine zm_aload_n 149 rfl dX11_tellLaw_148 rfl 0 rfl ?_
    refine zm_getI 152 rfl dX11_tellLaw_149 fl_X11_221 rfl (zm_L (sv := sv) rfl) ?_
    refine zm_if_le 156 155 (by decide) rfl dX11_tellLaw_152 ?_ ?_
    · refine zm_aload_n 157 rfl dX11_tellLaw_156 rfl 0 rfl ?_
      refine zm_getR (a := 79) 160 rfl dX11_tellLaw_157 fl_X11_97 rfl (zm_L (sv := sv) rfl) rfl (by decide) ?_
      refine zm_iconst 161 rfl dX11_tellLaw_160 zi_2 ?_
      refine zm_aload_n 162 rfl dX11_tellLaw_161 rfl 0 rfl ?_
      refine zm_getI 165 rfl dX11_tellLaw_162 fl_X11_254 rfl (zm_L (sv := sv) rfl) ?_
      refine zm_imul 166 rfl dX11_tellLaw_165 ?_
      refine zm_iload_n 167 rfl dX11_tellLaw_166 rfl 1 rfl ?_
      refine zm_iadd 168 rfl dX11_tellLaw_167 ?_
      refine zm_iload_n 169 rfl dX11_tellLaw_168 rfl 2 rfl ?_
      refine zm_iast 170 rfl dX11_tellLaw_169 rfl (zm_L (sv := sv) rfl) (fun M169 _ => ?_)
      refine zm_aload_n 171 rfl dX11_tellLaw_170 rfl 0 rfl ?_
      refine zm_getR (a := 80) 174 rfl dX11_tellLaw_171 fl_X11_100 rfl (zm_L (sv := sv) rfl) rfl (by decide) ?_
      refine zm_iconst 175 rfl dX11_tellLaw_174 zi_2 ?_
      refine zm_aload_n 176 rfl dX11_tellLaw_175 rfl 0 rfl ?_
      refine zm_getI 179 rfl dX11_tellLaw_176 fl_X11_254 rfl (zm_L (sv := sv) rfl) ?_
      refine zm_imul 180 rfl dX11_tellLaw_179 ?_
      refine zm_iload_n 181 rfl dX11_tellLaw_180 rfl 1 rfl ?_
      refine zm_iadd 182 rfl dX11_tellLaw_181 ?_
      refine zm_aload_n 183 rfl dX11_tellLaw_182 rfl 0 rfl ?_
      refine zm_getI 186 rfl dX11_tellLaw_183 fl_X11_260 rfl (zm_L (sv := sv) rfl) ?_
      refine zm_iast 187 rfl dX11_tellLaw_186 rfl (zm_L (sv := sv) rfl) (fun M186 _ => ?_)
      exact zm_vret dX11_tellLaw_187 rfl (Nat.le_refl _) (Nat.le_refl _) rfl
    · exact zm_vret dX11_tellLaw_155 rfl (Nat.le_refl _) (Nat.le_refl _) rfl
  have hx45_12 : ∀ (N45 : zm_Mem), zm_V X Y_X11_tellLaw E (zm_Q X E Y_X11_tellLaw.2.2.2.1.cells Y_X11_tellLaw.2.2.2.1.slots (zm_w sv) zm_ev) 0 0 false (zm_w sv) 45 [] [] N45 (some ((), N45)) some := by
    intro N45
    exact zm_vret dX11_tellLaw_45 rfl (Nat.le_refl _) (Nat.le_refl _) rfl
  have hx129_12 : ∀ (N129 : zm_Mem), zm_V X Y_X11_tellLaw E (zm_Q X E Y_X11_tellLaw.2.2.2.1.cells Y_X11_tellLaw.2.2.2.1.slots (zm_w sv) zm_ev) 0 0 false (zm_w sv) 129 [(0, .ref (E.2.1 + 52)), (1, .int a1), (2, .int x9)] [] N129 (f_X11_tellLaw_b129 a1 x9 N129) some := by
    intro N129
    exact zm_loc [0, 1, 2] rfl (hb129 N129)
  refine zm_loc [2, 3, 1, 0] rfl (zm_lpp (σ := (Int32 × zm_Mem)) (ε := (zm_Mem ⊕ zm_Mem)) (step := fun s => f_X11_tellLaw_l12 s.1 s.2) (fun s => [(0, .ref (E.2.1 + 52)), (1, .int a1), (2, .int x9), (3, .int s.1)]) (fun s => s.2) (fun D12 f12 hf12a hf12b hD12 s => ?_) (0, M2))
  obtain ⟨l12_3, L12⟩ := s
  show zm_V X Y_X11_tellLaw E (zm_Q X E Y_X11_tellLaw.2.2.2.1.cells Y_X11_tellLaw.2.2.2.1.slots (zm_w sv) zm_ev) 0 0 false (zm_w sv) 12 [(0, .ref (E.2.1 + 52)), (1, .int a1), (2, .int x9), (3, .int l12_3)] [] L12 (f_X11_tellLaw_l12 l12_3 L12) f12
  unfold f_X11_tellLaw_l12
  refine zm_aload_n 13 rfl dX11_tellLaw_12 rfl 0 rfl ?_
  refine zm_getI 16 rfl dX11_tellLaw_13 fl_X11_221 rfl (zm_L (sv := sv) rfl) ?_
  refine zm_if_ne 129 19 (by decide) rfl dX11_tellLaw_16 ?_ ?_
  · refine zm_aload_n 20 rfl dX11_tellLaw_19 rfl 0 rfl ?_
    refine zm_bipush 22 rfl dX11_tellLaw_20 zb_28 ?_
    refine zm_cV1ir 25 rfl dX11_tellLaw_22 ml_X11_239 rfl (zm_L (sv := sv) rfl) rfl (Nat.le_of_ble_eq_true rfl) ⟨Nat.le_of_ble_eq_true rfl, Nat.le_of_ble_eq_true rfl⟩ rfl rfl ⟨Nat.le_refl _, Nat.le_refl _⟩ rfl (fun _ h => k_X11_is E sv 28 L12 h) (fun r22 => ?_)
    refine zm_if_eq 129 28 (by decide) rfl dX11_tellLaw_25 ?_ ?_
    · exact zm_loc [0, 1, 2] rfl (zm_go (hf12b _) (zm_unb (hx129_12 L12)))
    · refine zm_iload_n 29 rfl dX11_tellLaw_28 rfl 3 rfl ?_
      refine zm_iconst 30 rfl dX11_tellLaw_29 zi_4 ?_
      have hb38_12 : ∀ (M38 : zm_Mem), zm_V X Y_X11_tellLaw E (zm_Q X E Y_X11_tellLaw.2.2.2.1.cells Y_X11_tellLaw.2.2.2.1.slots (zm_w sv) zm_ev) 0 0 false (zm_w sv) 38 [(0, .ref (E.2.1 + 52)), (1, .int a1), (2, .int x9), (3, .int l12_3)] [] M38 (f_X11_tellLaw_b38_12 l12_3 M38) f12 := by
        intro M38
        unfold f_X11_tellLaw_b38_12
        refine zm_aload_n 39 rfl dX11_tellLaw_38 rfl 0 rfl ?_
        refine zm_getI 42 rfl dX11_tellLaw_39 fl_X11_221 rfl (zm_L (sv := sv) rfl) ?_
        refine zm_if_le 46 45 (by decide) rfl dX11_tellLaw_42 ?_ ?_
        · refine zm_iinc (lv' := fun z => [(3, .int z), (0, .ref (E.2.1 + 52)), (1, .int a1), (2, .int x9)]) 49 rfl dX11_tellLaw_46 zi_1 3 rfl (by decide) (fun _ => rfl) (fun x46 _ => ?_)
          refine zm_aload_n 50 rfl dX11_tellLaw_49 rfl 1 rfl ?_
          refine zm_cV0v 53 rfl dX11_tellLaw_50 ml_X11_242 rfl (zm_L (sv := sv) rfl) rfl (Nat.le_of_ble_eq_true rfl) ⟨Nat.le_of_ble_eq_true rfl, Nat.le_of_ble_eq_true rfl⟩ rfl rfl ⟨Nat.le_refl _, Nat.le_refl _⟩ rfl (fun _ _ h => k_X11_goesOn E sv M38 h) (fun _ M50 => ?_)
          refine zm_aload_n 54 rfl dX11_tellLaw_53 rfl 1 rfl ?_
          refine zm_getR (a := 81) 57 rfl dX11_tellLaw_54 fl_X11_103 rfl (zm_L (sv := sv) rfl) rfl (by decide) ?_
          refine zm_aload_n 58 rfl dX11_tellLaw_57 rfl 1 rfl ?_
          refine zm_getI 61 rfl dX11_tellLaw_58 fl_X11_260 rfl (zm_L (sv := sv) rfl) ?_
          refine zm_iconst 62 rfl dX11_tellLaw_61 zi_1 ?_
          refine zm_zast 63 rfl dX11_tellLaw_62 rfl (zm_L (sv := sv) rfl) (fun M62 _ => ?_)
          refine zm_aload_n 64 rfl dX11_tellLaw_63 rfl 1 rfl ?_
          refine zm_getR (a := 82) 67 rfl dX11_tellLaw_64 fl_X11_107 rfl (zm_L (sv := sv) rfl) rfl (by decide) ?_
          refine zm_aload_n 68 rfl dX11_tellLaw_67 rfl 1 rfl ?_
          refine zm_getI 71 rfl dX11_tellLaw_68 fl_X11_260 rfl (zm_L (sv := sv) rfl) ?_
          refine zm_aload_n 72 rfl dX11_tellLaw_71 rfl 1 rfl ?_
          refine zm_getI 75 rfl dX11_tellLaw_72 fl_X11_263 rfl (zm_L (sv := sv) rfl) ?_
          refine zm_iast 76 rfl dX11_tellLaw_75 rfl (zm_L (sv := sv) rfl) (fun M75 _ => ?_)
          refine zm_aload_n 77 rfl dX11_tellLaw_76 rfl 1 rfl ?_
          refine zm_cV0v 80 rfl dX11_tellLaw_77 ml_X11_312 rfl (zm_L (sv := sv) rfl) rfl (Nat.le_of_ble_eq_true rfl) ⟨Nat.le_of_ble_eq_true rfl, Nat.le_of_ble_eq_true rfl⟩ rfl rfl ⟨Nat.le_refl _, Nat.le_refl _⟩ rfl (fun _ _ h => k_X11_expression E sv M75 h) (fun _ M77 => ?_)
          refine zm_aload_n 81 rfl dX11_tellLaw_80 rfl 1 rfl ?_
          refine zm_bipush 83 rfl dX11_tellLaw_81 zb_13 ?_
          refine zm_cV1v 86 rfl dX11_tellLaw_83 ml_X11_292 rfl (zm_L (sv := sv) rfl) rfl (Nat.le_of_ble_eq_true rfl) ⟨Nat.le_of_ble_eq_true rfl, Nat.le_of_ble_eq_true rfl⟩ rfl rfl ⟨Nat.le_refl _, Nat.le_refl _⟩ rfl (fun _ _ h => k_X11_must E sv 13 M77 h) (fun _ M83 => ?_)
          refine zm_aload_n 87 rfl dX11_tellLaw_86 rfl 1 rfl ?_
          refine zm_getR (a := 83) 90 rfl dX11_tellLaw_87 fl_X11_110 rfl (zm_L (sv := sv) rfl) rfl (by decide) ?_
          refine zm_aload_n 91 rfl dX11_tellLaw_90 rfl 1 rfl ?_
          refine zm_getI 94 rfl dX11_tellLaw_91 fl_X11_260 rfl (zm_L (sv := sv) rfl) ?_
          refine zm_aload_n 95 rfl dX11_tellLaw_94 rfl 1 rfl ?_
          refine zm_getI 98 rfl dX11_tellLaw_95 fl_X11_263 rfl (zm_L (sv := sv) rfl) ?_
          refine zm_iast 99 rfl dX11_tellLaw_98 rfl (zm_L (sv := sv) rfl) (fun M98 _ => ?_)
          refine zm_aload_n 100 rfl dX11_tellLaw_99 rfl 1 rfl ?_
          refine zm_getI 103 rfl dX11_tellLaw_100 fl_X11_221 rfl (zm_L (sv := sv) rfl) ?_
          have hb110_12 : ∀ (M110 : zm_Mem), zm_V X Y_X11_tellLaw E (zm_Q X E Y_X11_tellLaw.2.2.2.1.cells Y_X11_tellLaw.2.2.2.1.slots (zm_w sv) zm_ev) 0 0 false (zm_w sv) 110 [(0, .ref (E.2.1 + 52)), (1, .int a1), (2, .int x9), (3, .int x46)] [] M110 (f_X11_tellLaw_b110_12 x46 M110) f12 := by
            intro M110
            unfold f_X11_tellLaw_b110_12
            refine zm_aload_n 111 rfl dX11_tellLaw_110 rfl 0 rfl ?_
            refine zm_bipush 113 rfl dX11_tellLaw_111 zb_29 ?_
            refine zm_cV1v 116 rfl dX11_tellLaw_113 ml_X11_292 rfl (zm_L (sv := sv) rfl) rfl (Nat.le_of_ble_eq_true rfl) ⟨Nat.le_of_ble_eq_true rfl, Nat.le_of_ble_eq_true rfl⟩ rfl rfl ⟨Nat.le_refl _, Nat.le_refl _⟩ rfl (fun _ _ h => k_X11_must E sv 29 M110 h) (fun _ M113 => ?_)
            refine zm_aload_n 117 rfl dX11_tellLaw_116 rfl 0 rfl ?_
            refine zm_cV0v 120 rfl dX11_tellLaw_117 ml_X11_315 rfl (zm_L (sv := sv) rfl) rfl (Nat.le_of_ble_eq_true rfl) ⟨Nat.le_of_ble_eq_true rfl, Nat.le_of_ble_eq_true rfl⟩ rfl rfl ⟨Nat.le_refl _, Nat.le_refl _⟩ rfl (fun _ _ h => k_X11_term E sv M113 h) (fun _ M117 => ?_)
            refine zm_aload_n 121 rfl dX11_tellLaw_120 rfl 0 rfl ?_
            refine zm_bipush 123 rfl dX11_tellLaw_121 zb_30 ?_
            refine zm_cV1v 126 rfl dX11_tellLaw_123 ml_X11_292 rfl (zm_L (sv := sv) rfl) rfl (Nat.le_of_ble_eq_true rfl) ⟨Nat.le_of_ble_eq_true rfl, Nat.le_of_ble_eq_true rfl⟩ rfl rfl ⟨Nat.le_refl _, Nat.le_refl _⟩ rfl (fun _ _ h => k_X11_must E sv 30 M117 h) (fun _ M123 => ?_)
            refine zm_goto 12 (by decide) dX11_tellLaw_126 ?_
            exact zm_loc [0, 1, 2, 3] rfl (zm_go (hf12a _) (hD12 (x46, M123)))
          refine zm_if_ne 110 106 (by decide) rfl dX11_tellLaw_103 ?_ ?_
          · refine zm_aload_n 107 rfl dX11_tellLaw_106 rfl 1 rfl ?_
            refine zm_cV0v 110 rfl dX11_tellLaw_107 ml_X11_312 rfl (zm_L (sv := sv) rfl) rfl (Nat.le_of_ble_eq_true rfl) ⟨Nat.le_of_ble_eq_true rfl, Nat.le_of_ble_eq_true rfl⟩ rfl rfl ⟨Nat.le_refl _, Nat.le_refl _⟩ rfl (fun _ _ h => k_X11_expression E sv M98 h) (fun _ M107 => ?_)
            exact zm_loc [1, 2, 3, 0] rfl (hb110_12 M107)
          · exact zm_loc [1, 2, 3, 0] rfl (hb110_12 M98)
        · exact zm_loc [] rfl (zm_go (hf12b _) (zm_unb (hx45_12 M38)))
      refine zm_icmp_ne 38 33 (by decide) rfl dX11_tellLaw_30 ?_ ?_
      · refine zm_aload_n 34 rfl dX11_tellLaw_33 rfl 0 rfl ?_
        refine zm_iconst 35 rfl dX11_tellLaw_34 zi_2 ?_
        refine zm_cV1v 38 rfl dX11_tellLaw_35 ml_X11_236 rfl (zm_L (sv := sv) rfl) rfl (Nat.le_of_ble_eq_true rfl) ⟨Nat.le_of_ble_eq_true rfl, Nat.le_of_ble_eq_true rfl⟩ rfl rfl ⟨Nat.le_refl _, Nat.le_refl _⟩ rfl (fun _ _ h => k_X11_fail E sv 2 L12 h) (fun _ M35 => ?_)
        exact zm_loc [0, 1, 2, 3] rfl (hb38_12 M35)
      · exact zm_loc [0, 1, 2, 3] rfl (hb38_12 L12)
  · exact zm_loc [0, 1, 2] rfl (zm_go (hf12b _) (zm_unb (hx129_12 L12)))
abbrev Y_X11_tellOne : zm_Y := (cX11_tellOne, 2, RX11, { frames := 6, cells := 0, slots := 0, locals := 126 }, none, false, "tellOne")
noncomputable def f_X11_tellOne_b262 (x238 : Int32) (M262 : zm_Mem) : Option (Unit × zm_Mem) :=
 if (M262.1 52 13) ≤ 0 then (zm_b2 (f_X11_goesOn M262) <| fun _ M271 => zm_b2 (f_X11_tellLaw x238 M271) <| fun _ M276 => some ((), M276)) else (some ((), M262))
noncomputable def f_X11_tellOne_b257 (M : zm_Mem) (x238 : Int32) : Option (Unit × zm_Mem) :=
 zm_b2 (f_X11_fail 1 M) <| fun _ M259 => f_X11_tellOne_b262 x238 M259
noncomputable def f_X11_tellOne_b226 (M : zm_Mem) : Option (Unit × zm_Mem) :=
 zm_ck (zm_in (M.1 52 11) 403) <| zm_v ((M.1 55 (M.1 52 11).toNatClampNeg) - 23) <| fun x238 => if x238 < 0 then (f_X11_tellOne_b257 M x238) else (zm_ck (zm_in (M.1 52 11) 403) <| if (M.1 55 (M.1 52 11).toNatClampNeg) ≤ (24 : Int32) then (f_X11_tellOne_b262 x238 M) else (f_X11_tellOne_b257 M x238))
noncomputable def f_X11_tellOne  (M : zm_Mem) : Option (Unit × zm_Mem) :=
  zm_ck (zm_in (M.1 52 11) 403) <| zm_v (M.1 55 (M.1 52 11).toNatClampNeg) <| fun x9 => if x9 = 20 then (zm_ck (zm_in (M.1 52 19) 2) <| zm_b2 (f_X11_roomFor (M.1 63 (M.1 52 19).toNatClampNeg) 5 M) <| fun _ M67 => if (M67.1 52 13) = 0 then (zm_b2 (f_X11_tellHouse M67) <| fun _ M78 => some ((), M78)) else (some ((), M67))) else if x9 = 21 then (zm_ck (zm_in (M.1 52 19) 2) <| zm_b2 (f_X11_roomFor (M.1 66 (M.1 52 19).toNatClampNeg) 6 M) <| fun _ M96 => if (M96.1 52 13) = 0 then (zm_b2 (f_X11_tellWork M96) <| fun _ M107 => some ((), M107)) else (some ((), M96))) else if x9 = 22 then (zm_ck (zm_in (M.1 52 19) 2) <| zm_b2 (f_X11_roomFor (M.1 71 (M.1 52 19).toNatClampNeg) 6 M) <| fun _ M125 => if (M125.1 52 13) = 0 then (zm_b2 (f_X11_tellTerm M125) <| fun _ M136 => some ((), M136)) else (some ((), M125))) else if x9 = 23 then (f_X11_tellOne_b226 M) else if x9 = 24 then (f_X11_tellOne_b226 M) else if x9 = 25 then (zm_b2 (f_X11_goesOn M) <| fun _ M143 => zm_b2 (f_X11_bounded 0 100 M143) <| fun r158 M158 => zm_ck (zm_in (M143.1 52 19) 2) <| zm_v (zm_sI M158 76 (M143.1 52 19).toNatClampNeg r158) <| fun M161 => zm_b2 (f_X11_must 4 M161) <| fun _ M164 => some ((), M164)) else if x9 = 26 then (zm_b2 (f_X11_goesOn M) <| fun _ M171 => zm_b2 (f_X11_bounded 1 3 M171) <| fun r185 M185 => zm_ck (zm_in (M171.1 52 19) 2) <| zm_v (zm_sI M185 77 (M171.1 52 19).toNatClampNeg r185) <| fun M188 => zm_b2 (f_X11_must 4 M188) <| fun _ M191 => some ((), M191)) else if x9 = 27 then (zm_b2 (f_X11_goesOn M) <| fun _ M198 => zm_b2 (f_X11_bounded 0 9999 M198) <| fun r214 M214 => zm_ck (zm_in (M198.1 52 19) 2) <| zm_v (zm_sI M214 78 (M198.1 52 19).toNatClampNeg r214) <| fun M217 => zm_b2 (f_X11_must 4 M217) <| fun _ M220 => some ((), M220)) else (f_X11_tellOne_b226 M)
set_option maxRecDepth 20000 in
set_option maxHeartbeats 4000000 in
theorem k_X11_tellOne (E : zm_E) (sv : Nat)  (M : zm_Mem) {r : Unit} {M' : zm_Mem} (h : f_X11_tellOne M = some (r, M')) : zm_Ct E (zm_w sv) (zm_w sv) yX11_tellOne Y_X11_tellOne [.ref (E.2.1 + 52)] M none M' := by
  refine zm_meth (emb := zm_ev) (d := f_X11_tellOne M) (by decide) rfl rfl (Nat.le_of_ble_eq_true rfl) h (fun X => ?_)
  show zm_V X Y_X11_tellOne E (zm_Q X E Y_X11_tellOne.2.2.2.1.cells Y_X11_tellOne.2.2.2.1.slots (zm_w sv) zm_ev) 0 0 false (zm_w sv) 0 [(0, .ref (E.2.1 + 52))] [] M (f_X11_tellOne M) some
  unfold f_X11_tellOne
  refine zm_aload_n 1 rfl dX11_tellOne_0 rfl 0 rfl ?_
  refine zm_getR (a := 55) 4 rfl dX11_tellOne_1 fl_X11_20 rfl (zm_L (sv := sv) rfl) rfl (by decide) ?_
  refine zm_aload_n 5 rfl dX11_tellOne_4 rfl 0 rfl ?_
  refine zm_getI 8 rfl dX11_tellOne_5 fl_X11_224 rfl (zm_L (sv := sv) rfl) ?_
  refine zm_iald 9 rfl dX11_tellOne_8 rfl (zm_L (sv := sv) rfl) ?_
  refine zm_nmi (fun x9 _ => ?_)
  have hb226 : zm_V X Y_X11_tellOne E (zm_Q X E Y_X11_tellOne.2.2.2.1.cells Y_X11_tellOne.2.2.2.1.slots (zm_w sv) zm_ev) 0 0 false (zm_w sv) 226 [(0, .ref (E.2.1 + 52))] [] M (f_X11_tellOne_b226 M) some := by
    unfold f_X11_tellOne_b226
    refine zm_aload_n 227 rfl dX11_tellOne_226 rfl 0 rfl ?_
    refine zm_getR (a := 55) 230 rfl dX11_tellOne_227 fl_X11_20 rfl (zm_L (sv := sv) rfl) rfl (by decide) ?_
    refine zm_aload_n 231 rfl dX11_tellOne_230 rfl 0 rfl ?_
    refine zm_getI 234 rfl dX11_tellOne_231 fl_X11_224 rfl (zm_L (sv := sv) rfl) ?_
    refine zm_iald 235 rfl dX11_tellOne_234 rfl (zm_L (sv := sv) rfl) ?_
    refine zm_bipush 237 rfl dX11_tellOne_235 zb_23 ?_
    refine zm_isub 238 rfl dX11_tellOne_237 ?_
    refine zm_nmi (fun x238 _ => ?_)
    refine zm_istore_n (lv' := [(1, .int x238), (0, .ref (E.2.1 + 52))]) 239 rfl dX11_tellOne_238 rfl (by decide) rfl ?_
    refine zm_iload_n 240 rfl dX11_tellOne_239 rfl 0 rfl ?_
    have hb262 : ∀ (M262 : zm_Mem), zm_V X Y_X11_tellOne E (zm_Q X E Y_X11_tellOne.2.2.2.1.cells Y_X11_tellOne.2.2.2.1.slots (zm_w sv) zm_ev) 0 0 false (zm_w sv) 262 [(0, .ref (E.2.1 + 52)), (1, .int x238)] [] M262 (f_X11_tellOne_b262 x238 M262) some := by
      intro M262
      unfold f_X11_tellOne_b262
      refine zm_aload_n 263 rfl dX11_tellOne_262 rfl 0 rfl ?_
      refine zm_getI 266 rfl dX11_tellOne_263 fl_X11_221 rfl (zm_L (sv := sv) rfl) ?_
      refine zm_if_le 270 269 (by decide) rfl dX11_tellOne_266 ?_ ?_
      · refine zm_aload_n 271 rfl dX11_tellOne_270 rfl 0 rfl ?_
        refine zm_cV0v 274 rfl dX11_tellOne_271 ml_X11_242 rfl (zm_L (sv := sv) rfl) rfl (Nat.le_of_ble_eq_true rfl) ⟨Nat.le_of_ble_eq_true rfl, Nat.le_of_ble_eq_true rfl⟩ rfl rfl ⟨Nat.le_refl _, Nat.le_refl _⟩ rfl (fun _ _ h => k_X11_goesOn E sv M262 h) (fun _ M271 => ?_)
        refine zm_aload_n 275 rfl dX11_tellOne_274 rfl 0 rfl ?_
        refine zm_iload_n 276 rfl dX11_tellOne_275 rfl 1 rfl ?_
        refine zm_cV1v 279 rfl dX11_tellOne_276 ml_X11_295 rfl (zm_L (sv := sv) rfl) rfl (Nat.le_of_ble_eq_true rfl) ⟨Nat.le_of_ble_eq_true rfl, Nat.le_of_ble_eq_true rfl⟩ rfl rfl ⟨Nat.le_refl _, Nat.le_refl _⟩ rfl (fun _ _ h => k_X11_tellLaw E sv x238 M271 h) (fun _ M276 => ?_)
        exact zm_vret dX11_tellOne_279 rfl (Nat.le_refl _) (Nat.le_refl _) rfl
      · exact zm_vret dX11_tellOne_269 rfl (Nat.le_refl _) (Nat.le_refl _) rfl
    have hb257 : zm_V X Y_X11_tellOne E (zm_Q X E Y_X11_tellOne.2.2.2.1.cells Y_X11_tellOne.2.2.2.1.slots (zm_w sv) zm_ev) 0 0 false (zm_w sv) 257 [(0, .ref (E.2.1 + 52)), (1, .int x238)] [] M (f_X11_tellOne_b257 M x238) some := by
      unfold f_X11_tellOne_b257
      refine zm_aload_n 258 rfl dX11_tellOne_257 rfl 0 rfl ?_
      refine zm_iconst 259 rfl dX11_tellOne_258 zi_1 ?_
      refine zm_cV1v 262 rfl dX11_tellOne_259 ml_X11_236 rfl (zm_L (sv := sv) rfl) rfl (Nat.le_of_ble_eq_true rfl) ⟨Nat.le_of_ble_eq_true rfl, Nat.le_of_ble_eq_true rfl⟩ rfl rfl ⟨Nat.le_refl _, Nat.le_refl _⟩ rfl (fun _ _ h => k_X11_fail E sv 1 M h) (fun _ M259 => ?_)
      exact zm_loc [0, 1] rfl (hb262 M259)
    refine zm_if_lt 257 243 (by decide) rfl dX11_tellOne_240 ?_ ?_
    · exact zm_loc [1, 0] rfl (hb257)
    · refine zm_aload_n 244 rfl dX11_tellOne_243 rfl 1 rfl ?_
      refine zm_getR (a := 55) 247 rfl dX11_tellOne_244 fl_X11_20 rfl (zm_L (sv := sv) rfl) rfl (by decide) ?_
      refine zm_aload_n 248 rfl dX11_tellOne_247 rfl 1 rfl ?_
      refine zm_getI 251 rfl dX11_tellOne_248 fl_X11_224 rfl (zm_L (sv := sv) rfl) ?_
      refine zm_iald 252 rfl dX11_tellOne_251 rfl (zm_L (sv := sv) rfl) ?_
      refine zm_bipush 254 rfl dX11_tellOne_252 zb_24 ?_
      refine zm_icmp_le 262 257 (by decide) rfl dX11_tellOne_254 ?_ ?_
      · exact zm_loc [1, 0] rfl (hb262 M)
      · exact zm_loc [1, 0] rfl (hb257)
  refine zm_case (fun hc => ?_) (fun hc0_9 => ?_)
  · refine zm_tsIn (off := 47) 56 hc dX11_tellOne_9 (by decide) (by decide) (by decide) (by decide) ?_
    refine zm_aload_n 57 rfl dX11_tellOne_56 rfl 0 rfl ?_
    refine zm_aload_n 58 rfl dX11_tellOne_57 rfl 0 rfl ?_
    refine zm_getR (a := 63) 61 rfl dX11_tellOne_58 fl_X11_49 rfl (zm_L (sv := sv) rfl) rfl (by decide) ?_
    refine zm_aload_n 62 rfl dX11_tellOne_61 rfl 0 rfl ?_
    refine zm_getI 65 rfl dX11_tellOne_62 fl_X11_254 rfl (zm_L (sv := sv) rfl) ?_
    refine zm_iald 66 rfl dX11_tellOne_65 rfl (zm_L (sv := sv) rfl) ?_
    refine zm_iconst 67 rfl dX11_tellOne_66 zi_5 ?_
    refine zm_cV2v 70 rfl dX11_tellOne_67 ml_X11_275 rfl (zm_L (sv := sv) rfl) rfl (Nat.le_of_ble_eq_true rfl) ⟨Nat.le_of_ble_eq_true rfl, Nat.le_of_ble_eq_true rfl⟩ rfl rfl ⟨Nat.le_refl _, Nat.le_refl _⟩ rfl (fun _ _ h => k_X11_roomFor E sv (M.1 63 (M.1 52 19).toNatClampNeg) 5 M h) (fun _ M67 => ?_)
    refine zm_aload_n 71 rfl dX11_tellOne_70 rfl 0 rfl ?_
    refine zm_getI 74 rfl dX11_tellOne_71 fl_X11_221 rfl (zm_L (sv := sv) rfl) ?_
    refine zm_if_ne 279 77 (by decide) rfl dX11_tellOne_74 ?_ ?_
    · refine zm_aload_n 78 rfl dX11_tellOne_77 rfl 0 rfl ?_
      refine zm_cV0v 81 rfl dX11_tellOne_78 ml_X11_279 rfl (zm_L (sv := sv) rfl) rfl (Nat.le_of_ble_eq_true rfl) ⟨Nat.le_of_ble_eq_true rfl, Nat.le_of_ble_eq_true rfl⟩ rfl rfl ⟨Nat.le_refl _, Nat.le_refl _⟩ rfl (fun _ _ h => k_X11_tellHouse E sv M67 h) (fun _ M78 => ?_)
      refine zm_goto 279 (by decide) dX11_tellOne_81 ?_
      exact zm_vret dX11_tellOne_279 rfl (Nat.le_refl _) (Nat.le_refl _) rfl
    · exact zm_vret dX11_tellOne_279 rfl (Nat.le_refl _) (Nat.le_refl _) rfl
  refine zm_case (fun hc => ?_) (fun hc1_9 => ?_)
  · refine zm_tsIn (off := 75) 84 hc dX11_tellOne_9 (by decide) (by decide) (by decide) (by decide) ?_
    refine zm_aload_n 85 rfl dX11_tellOne_84 rfl 0 rfl ?_
    refine zm_aload_n 86 rfl dX11_tellOne_85 rfl 0 rfl ?_
    refine zm_getR (a := 66) 89 rfl dX11_tellOne_86 fl_X11_58 rfl (zm_L (sv := sv) rfl) rfl (by decide) ?_
    refine zm_aload_n 90 rfl dX11_tellOne_89 rfl 0 rfl ?_
    refine zm_getI 93 rfl dX11_tellOne_90 fl_X11_254 rfl (zm_L (sv := sv) rfl) ?_
    refine zm_iald 94 rfl dX11_tellOne_93 rfl (zm_L (sv := sv) rfl) ?_
    refine zm_bipush 96 rfl dX11_tellOne_94 zb_6 ?_
    refine zm_cV2v 99 rfl dX11_tellOne_96 ml_X11_275 rfl (zm_L (sv := sv) rfl) rfl (Nat.le_of_ble_eq_true rfl) ⟨Nat.le_of_ble_eq_true rfl, Nat.le_of_ble_eq_true rfl⟩ rfl rfl ⟨Nat.le_refl _, Nat.le_refl _⟩ rfl (fun _ _ h => k_X11_roomFor E sv (M.1 66 (M.1 52 19).toNatClampNeg) 6 M h) (fun _ M96 => ?_)
    refine zm_aload_n 100 rfl dX11_tellOne_99 rfl 0 rfl ?_
    refine zm_getI 103 rfl dX11_tellOne_100 fl_X11_221 rfl (zm_L (sv := sv) rfl) ?_
    refine zm_if_ne 279 106 (by decide) rfl dX11_tellOne_103 ?_ ?_
    · refine zm_aload_n 107 rfl dX11_tellOne_106 rfl 0 rfl ?_
      refine zm_cV0v 110 rfl dX11_tellOne_107 ml_X11_282 rfl (zm_L (sv := sv) rfl) rfl (Nat.le_of_ble_eq_true rfl) ⟨Nat.le_of_ble_eq_true rfl, Nat.le_of_ble_eq_true rfl⟩ rfl rfl ⟨Nat.le_refl _, Nat.le_refl _⟩ rfl (fun _ _ h => k_X11_tellWork E sv M96 h) (fun _ M107 => ?_)
      refine zm_goto 279 (by decide) dX11_tellOne_110 ?_
      exact zm_vret dX11_tellOne_279 rfl (Nat.le_refl _) (Nat.le_refl _) rfl
    · exact zm_vret dX11_tellOne_279 rfl (Nat.le_refl _) (Nat.le_refl _) rfl
  refine zm_case (fun hc => ?_) (fun hc2_9 => ?_)
  · refine zm_tsIn (off := 104) 113 hc dX11_tellOne_9 (by decide) (by decide) (by decide) (by decide) ?_
    refine zm_aload_n 114 rfl dX11_tellOne_113 rfl 0 rfl ?_
    refine zm_aload_n 115 rfl dX11_tellOne_114 rfl 0 rfl ?_
    refine zm_getR (a := 71) 118 rfl dX11_tellOne_115 fl_X11_73 rfl (zm_L (sv := sv) rfl) rfl (by decide) ?_
    refine zm_aload_n 119 rfl dX11_tellOne_118 rfl 0 rfl ?_
    refine zm_getI 122 rfl dX11_tellOne_119 fl_X11_254 rfl (zm_L (sv := sv) rfl) ?_
    refine zm_iald 123 rfl dX11_tellOne_122 rfl (zm_L (sv := sv) rfl) ?_
    refine zm_bipush 125 rfl dX11_tellOne_123 zb_6 ?_
    refine zm_cV2v 128 rfl dX11_tellOne_125 ml_X11_275 rfl (zm_L (sv := sv) rfl) rfl (Nat.le_of_ble_eq_true rfl) ⟨Nat.le_of_ble_eq_true rfl, Nat.le_of_ble_eq_true rfl⟩ rfl rfl ⟨Nat.le_refl _, Nat.le_refl _⟩ rfl (fun _ _ h => k_X11_roomFor E sv (M.1 71 (M.1 52 19).toNatClampNeg) 6 M h) (fun _ M125 => ?_)
    refine zm_aload_n 129 rfl dX11_tellOne_128 rfl 0 rfl ?_
    refine zm_getI 132 rfl dX11_tellOne_129 fl_X11_221 rfl (zm_L (sv := sv) rfl) ?_
    refine zm_if_ne 279 135 (by decide) rfl dX11_tellOne_132 ?_ ?_
    · refine zm_aload_n 136 rfl dX11_tellOne_135 rfl 0 rfl ?_
      refine zm_cV0v 139 rfl dX11_tellOne_136 ml_X11_285 rfl (zm_L (sv := sv) rfl) rfl (Nat.le_of_ble_eq_true rfl) ⟨Nat.le_of_ble_eq_true rfl, Nat.le_of_ble_eq_true rfl⟩ rfl rfl ⟨Nat.le_refl _, Nat.le_refl _⟩ rfl (fun _ _ h => k_X11_tellTerm E sv M125 h) (fun _ M136 => ?_)
      refine zm_goto 279 (by decide) dX11_tellOne_139 ?_
      exact zm_vret dX11_tellOne_279 rfl (Nat.le_refl _) (Nat.le_refl _) rfl
    · exact zm_vret dX11_tellOne_279 rfl (Nat.le_refl _) (Nat.le_refl _) rfl
  refine zm_case (fun hc => ?_) (fun hc3_9 => ?_)
  · refine zm_tsIn (off := 217) 226 hc dX11_tellOne_9 (by decide) (by decide) (by decide) (by decide) ?_
    exact zm_loc [0] rfl (hb226)
  refine zm_case (fun hc => ?_) (fun hc4_9 => ?_)
  · refine zm_tsIn (off := 217) 226 hc dX11_tellOne_9 (by decide) (by decide) (by decide) (by decide) ?_
    exact zm_loc [0] rfl (hb226)
  refine zm_case (fun hc => ?_) (fun hc5_9 => ?_)
  · refine zm_tsIn (off := 133) 142 hc dX11_tellOne_9 (by decide) (by decide) (by decide) (by decide) ?_
    refine zm_aload_n 143 rfl dX11_tellOne_142 rfl 0 rfl ?_
    refine zm_cV0v 146 rfl dX11_tellOne_143 ml_X11_242 rfl (zm_L (sv := sv) rfl) rfl (Nat.le_of_ble_eq_true rfl) ⟨Nat.le_of_ble_eq_true rfl, Nat.le_of_ble_eq_true rfl⟩ rfl rfl ⟨Nat.le_refl _, Nat.le_refl _⟩ rfl (fun _ _ h => k_X11_goesOn E sv M h) (fun _ M143 => ?_)
    refine zm_aload_n 147 rfl dX11_tellOne_146 rfl 0 rfl ?_
    refine zm_getR (a := 76) 150 rfl dX11_tellOne_147 fl_X11_88 rfl (zm_L (sv := sv) rfl) rfl (by decide) ?_
    refine zm_aload_n 151 rfl dX11_tellOne_150 rfl 0 rfl ?_
    refine zm_getI 154 rfl dX11_tellOne_151 fl_X11_254 rfl (zm_L (sv := sv) rfl) ?_
    refine zm_aload_n 155 rfl dX11_tellOne_154 rfl 0 rfl ?_
    refine zm_iconst 156 rfl dX11_tellOne_155 zi_0 ?_
    refine zm_bipush 158 rfl dX11_tellOne_156 zb_100 ?_
    refine zm_cV2i 161 rfl dX11_tellOne_158 ml_X11_288 rfl (zm_L (sv := sv) rfl) rfl (Nat.le_of_ble_eq_true rfl) ⟨Nat.le_of_ble_eq_true rfl, Nat.le_of_ble_eq_true rfl⟩ rfl rfl ⟨Nat.le_refl _, Nat.le_refl _⟩ rfl (fun _ _ h => k_X11_bounded E sv 0 100 M143 h) (fun r158 M158 => ?_)
    refine zm_iast 162 rfl dX11_tellOne_161 rfl (zm_L (sv := sv) rfl) (fun M161 _ => ?_)
    refine zm_aload_n 163 rfl dX11_tellOne_162 rfl 0 rfl ?_
    refine zm_iconst 164 rfl dX11_tellOne_163 zi_4 ?_
    refine zm_cV1v 167 rfl dX11_tellOne_164 ml_X11_292 rfl (zm_L (sv := sv) rfl) rfl (Nat.le_of_ble_eq_true rfl) ⟨Nat.le_of_ble_eq_true rfl, Nat.le_of_ble_eq_true rfl⟩ rfl rfl ⟨Nat.le_refl _, Nat.le_refl _⟩ rfl (fun _ _ h => k_X11_must E sv 4 M161 h) (fun _ M164 => ?_)
    refine zm_goto 279 (by decide) dX11_tellOne_167 ?_
    exact zm_vret dX11_tellOne_279 rfl (Nat.le_refl _) (Nat.le_refl _) rfl
  refine zm_case (fun hc => ?_) (fun hc6_9 => ?_)
  · refine zm_tsIn (off := 161) 170 hc dX11_tellOne_9 (by decide) (by decide) (by decide) (by decide) ?_
    refine zm_aload_n 171 rfl dX11_tellOne_170 rfl 0 rfl ?_
    refine zm_cV0v 174 rfl dX11_tellOne_171 ml_X11_242 rfl (zm_L (sv := sv) rfl) rfl (Nat.le_of_ble_eq_true rfl) ⟨Nat.le_of_ble_eq_true rfl, Nat.le_of_ble_eq_true rfl⟩ rfl rfl ⟨Nat.le_refl _, Nat.le_refl _⟩ rfl (fun _ _ h => k_X11_goesOn E sv M h) (fun _ M171 => ?_)
    refine zm_aload_n 175 rfl dX11_tellOne_174 rfl 0 rfl ?_
    refine zm_getR (a := 77) 178 rfl dX11_tellOne_175 fl_X11_91 rfl (zm_L (sv := sv) rfl) rfl (by decide) ?_
    refine zm_aload_n 179 rfl dX11_tellOne_178 rfl 0 rfl ?_
    refine zm_getI 182 rfl dX11_tellOne_179 fl_X11_254 rfl (zm_L (sv := sv) rfl) ?_
    refine zm_aload_n 183 rfl dX11_tellOne_182 rfl 0 rfl ?_
    refine zm_iconst 184 rfl dX11_tellOne_183 zi_1 ?_
    refine zm_iconst 185 rfl dX11_tellOne_184 zi_3 ?_
    refine zm_cV2i 188 rfl dX11_tellOne_185 ml_X11_288 rfl (zm_L (sv := sv) rfl) rfl (Nat.le_of_ble_eq_true rfl) ⟨Nat.le_of_ble_eq_true rfl, Nat.le_of_ble_eq_true rfl⟩ rfl rfl ⟨Nat.le_refl _, Nat.le_refl _⟩ rfl (fun _ _ h => k_X11_bounded E sv 1 3 M171 h) (fun r185 M185 => ?_)
    refine zm_iast 189 rfl dX11_tellOne_188 rfl (zm_L (sv := sv) rfl) (fun M188 _ => ?_)
    refine zm_aload_n 190 rfl dX11_tellOne_189 rfl 0 rfl ?_
    refine zm_iconst 191 rfl dX11_tellOne_190 zi_4 ?_
    refine zm_cV1v 194 rfl dX11_tellOne_191 ml_X11_292 rfl (zm_L (sv := sv) rfl) rfl (Nat.le_of_ble_eq_true rfl) ⟨Nat.le_of_ble_eq_true rfl, Nat.le_of_ble_eq_true rfl⟩ rfl rfl ⟨Nat.le_refl _, Nat.le_refl _⟩ rfl (fun _ _ h => k_X11_must E sv 4 M188 h) (fun _ M191 => ?_)
    refine zm_goto 279 (by decide) dX11_tellOne_194 ?_
    exact zm_vret dX11_tellOne_279 rfl (Nat.le_refl _) (Nat.le_refl _) rfl
  refine zm_case (fun hc => ?_) (fun hc7_9 => ?_)
  · refine zm_tsIn (off := 188) 197 hc dX11_tellOne_9 (by decide) (by decide) (by decide) (by decide) ?_
    refine zm_aload_n 198 rfl dX11_tellOne_197 rfl 0 rfl ?_
    refine zm_cV0v 201 rfl dX11_tellOne_198 ml_X11_242 rfl (zm_L (sv := sv) rfl) rfl (Nat.le_of_ble_eq_true rfl) ⟨Nat.le_of_ble_eq_true rfl, Nat.le_of_ble_eq_true rfl⟩ rfl rfl ⟨Nat.le_refl _, Nat.le_refl _⟩ rfl (fun _ _ h => k_X11_goesOn E sv M h) (fun _ M198 => ?_)
    refine zm_aload_n 202 rfl dX11_tellOne_201 rfl 0 rfl ?_
    refine zm_getR (a := 78) 205 rfl dX11_tellOne_202 fl_X11_94 rfl (zm_L (sv := sv) rfl) rfl (by decide) ?_
    refine zm_aload_n 206 rfl dX11_tellOne_205 rfl 0 rfl ?_
    refine zm_getI 209 rfl dX11_tellOne_206 fl_X11_254 rfl (zm_L (sv := sv) rfl) ?_
    refine zm_aload_n 210 rfl dX11_tellOne_209 rfl 0 rfl ?_
    refine zm_iconst 211 rfl dX11_tellOne_210 zi_0 ?_
    refine zm_sipush 214 rfl dX11_tellOne_211 zs_9999 ?_
    refine zm_cV2i 217 rfl dX11_tellOne_214 ml_X11_288 rfl (zm_L (sv := sv) rfl) rfl (Nat.le_of_ble_eq_true rfl) ⟨Nat.le_of_ble_eq_true rfl, Nat.le_of_ble_eq_true rfl⟩ rfl rfl ⟨Nat.le_refl _, Nat.le_refl _⟩ rfl (fun _ _ h => k_X11_bounded E sv 0 9999 M198 h) (fun r214 M214 => ?_)
    refine zm_iast 218 rfl dX11_tellOne_217 rfl (zm_L (sv := sv) rfl) (fun M217 _ => ?_)
    refine zm_aload_n 219 rfl dX11_tellOne_218 rfl 0 rfl ?_
    refine zm_iconst 220 rfl dX11_tellOne_219 zi_4 ?_
    refine zm_cV1v 223 rfl dX11_tellOne_220 ml_X11_292 rfl (zm_L (sv := sv) rfl) rfl (Nat.le_of_ble_eq_true rfl) ⟨Nat.le_of_ble_eq_true rfl, Nat.le_of_ble_eq_true rfl⟩ rfl rfl ⟨Nat.le_refl _, Nat.le_refl _⟩ rfl (fun _ _ h => k_X11_must E sv 4 M217 h) (fun _ M220 => ?_)
    refine zm_goto 279 (by decide) dX11_tellOne_223 ?_
    exact zm_vret dX11_tellOne_279 rfl (Nat.le_refl _) (Nat.le_refl _) rfl
  refine zm_tsOut 226 dX11_tellOne_9 (by have hn0 := zm_ne hc0_9 (w := 20) (by decide); have hn1 := zm_ne hc1_9 (w := 21) (by decide); have hn2 := zm_ne hc2_9 (w := 22) (by decide); have hn3 := zm_ne hc3_9 (w := 23) (by decide); have hn4 := zm_ne hc4_9 (w := 24) (by decide); have hn5 := zm_ne hc5_9 (w := 25) (by decide); have hn6 := zm_ne hc6_9 (w := 26) (by decide); have hn7 := zm_ne hc7_9 (w := 27) (by decide); omega) (by decide) ?_
  exact zm_loc [0] rfl (hb226)
abbrev Y_X11_read : zm_Y := (cX11_read, 2, RX11, { frames := 7, cells := 0, slots := 0, locals := 147 }, (some .int), false, "read")
noncomputable def f_X11_read_l219 (l219_1 : Int32) (L219 : zm_Mem) : Option ((Int32 × zm_Mem) ⊕ zm_Mem) :=
 if (3 : Int32) ≤ l219_1 then (some (.inr L219)) else (zm_ck (zm_in l219_1 3) <| zm_v (zm_sI L219 101 l219_1.toNatClampNeg (vp_nar .boolean 0)) <| fun M230 => zm_v (l219_1 + 1) <| fun x231 => some (.inl (x231, M230)))
noncomputable def f_X11_read_b164 (M134 : zm_Mem) (b164_s1 : Int32) : Option (Int32 × zm_Mem) :=
 zm_v (zm_sI M134 52 17 b164_s1) <| fun M164 => if (M164.1 52 13) ≤ 0 then (if (M164.1 52 15) ≤ 0 then (zm_v (zm_sI M164 52 18 (M164.1 52 19)) <| fun M196 => zm_b2 (f_X11_begins M196) <| fun _ M200 => zm_b2 (f_X11_keepsRow M200) <| fun _ M204 => zm_v (zm_sI M204 52 59 0) <| fun M209 => zm_v (zm_sI M209 52 65 0) <| fun M214 => (zm_lp (fun s => f_X11_read_l219 s.1 s.2) (0, M214)).bind (fun e237 => some (0, e237))) else (some (M164.1 52 15, M164))) else (some (M164.1 52 13, M164))
noncomputable def f_X11_read_b134 (M134 : zm_Mem) : Option (Int32 × zm_Mem) :=
 if (M134.1 52 13) ≤ 0 then (if (M134.1 52 15) ≤ 0 then (f_X11_read_b164 M134 (-1)) else (f_X11_read_b164 M134 (M134.1 52 16))) else (f_X11_read_b164 M134 (M134.1 52 14))
noncomputable def f_X11_read_l112 (L112 : zm_Mem) : Option (zm_Mem ⊕ zm_Mem) :=
 if (L112.1 52 13) = 0 then (zm_b1 (f_X11_is 0 L112) <| fun r121 => if r121 = 0 then (zm_b2 (f_X11_tellOne L112) <| fun _ M128 => some (.inl M128)) else (some (.inr L112))) else (some (.inr L112))
noncomputable def f_X11_read_x36_10 (N36 : zm_Mem) : Option (Int32 × zm_Mem) :=
 zm_v (zm_sI N36 52 2 0) <| fun M38 => zm_b2 (f_X11_cut M38) <| fun _ M42 => zm_v (zm_sI M42 52 11 0) <| fun M47 => zm_v (zm_sI M47 52 12 0) <| fun M52 => zm_v (zm_sI M52 52 13 0) <| fun M57 => zm_v (zm_sI M57 52 15 0) <| fun M62 => zm_v (zm_sI M62 52 19 (1 - (M62.1 52 18))) <| fun M72 => zm_v (zm_sI M72 52 20 0) <| fun M77 => zm_b2 (f_X11_plain (M77.1 52 19) M77) <| fun _ M85 => zm_v (zm_sI M85 52 42 (130 * (M85.1 52 19))) <| fun M97 => zm_v (zm_sI M97 52 48 (420 * (M97.1 52 19))) <| fun M109 => (zm_lp (f_X11_read_l112) M109).bind (fun e134 => f_X11_read_b134 e134)
noncomputable def f_X11_read_l10 (l10_1 : Int32) (L10 : zm_Mem) : Option ((Int32 × zm_Mem) ⊕ zm_Mem) :=
 if (L10.1 52 4) ≤ l10_1 then (some (.inr L10)) else (zm_ck (zm_in l10_1 2000) <| zm_ck (zm_in l10_1 2000) <| zm_v (zm_sI L10 54 l10_1.toNatClampNeg (vp_nar .byte (L10.1 53 l10_1.toNatClampNeg))) <| fun M29 => zm_v (l10_1 + 1) <| fun x30 => some (.inl (x30, M29)))
noncomputable def f_X11_read  (M : zm_Mem) : Option (Int32 × zm_Mem) :=
  zm_v (zm_sI M 52 4 (M.1 52 2)) <| fun M5 => (zm_lp (fun s => f_X11_read_l10 s.1 s.2) (0, M5)).bind (fun e36 => f_X11_read_x36_10 e36)
set_option maxRecDepth 20000 in
set_option maxHeartbeats 4000000 in
theorem k_X11_read (E : zm_E) (sv : Nat)  (M : zm_Mem) {r : Int32} {M' : zm_Mem} (h : f_X11_read M = some (r, M')) : zm_Ct E (zm_w sv) (zm_w sv) yX11_read Y_X11_read [.ref (E.2.1 + 52)] M (some (.int r)) M' := by
  refine zm_meth (emb := zm_ei) (d := f_X11_read M) (by decide) rfl rfl (Nat.le_of_ble_eq_true rfl) h (fun X => ?_)
  show zm_V X Y_X11_read E (zm_Q X E Y_X11_read.2.2.2.1.cells Y_X11_read.2.2.2.1.slots (zm_w sv) zm_ei) 0 0 false (zm_w sv) 0 [(0, .ref (E.2.1 + 52))] [] M (f_X11_read M) some
  unfold f_X11_read
  refine zm_aload_n 1 rfl dX11_read_0 rfl 0 rfl ?_
  refine zm_aload_n 2 rfl dX11_read_1 rfl 0 rfl ?_
  refine zm_getI 5 rfl dX11_read_2 fl_X11_188 rfl (zm_L (sv := sv) rfl) ?_
  refine zm_putI 8 rfl dX11_read_5 fp_X11_194 rfl (zm_L (sv := sv) rfl) rfl rfl (fun M5 _ => ?_)
  refine zm_iconst 9 rfl dX11_read_8 zi_0 ?_
  refine zm_istore_n (lv' := [(1, .int 0), (0, .ref (E.2.1 + 52))]) 10 rfl dX11_read_9 rfl (by decide) rfl ?_
  have hx36_10 : ∀ (N36 : zm_Mem), zm_V X Y_X11_read E (zm_Q X E Y_X11_read.2.2.2.1.cells Y_X11_read.2.2.2.1.slots (zm_w sv) zm_ei) 0 0 false (zm_w sv) 36 [(0, .ref (E.2.1 + 52))] [] N36 (f_X11_read_x36_10 N36) some := by
    intro N36
    unfold f_X11_read_x36_10
    refine zm_aload_n 37 rfl dX11_read_36 rfl 0 rfl ?_
    refine zm_iconst 38 rfl dX11_read_37 zi_0 ?_
    refine zm_putI 41 rfl dX11_read_38 fp_X11_188 rfl (zm_L (sv := sv) rfl) rfl rfl (fun M38 _ => ?_)
    refine zm_aload_n 42 rfl dX11_read_41 rfl 0 rfl ?_
    refine zm_cV0v 45 rfl dX11_read_42 ml_X11_245 rfl (zm_L (sv := sv) rfl) rfl (Nat.le_of_ble_eq_true rfl) ⟨Nat.le_of_ble_eq_true rfl, Nat.le_of_ble_eq_true rfl⟩ rfl rfl ⟨Nat.le_refl _, Nat.le_refl _⟩ rfl (fun _ _ h => k_X11_cut E sv M38 h) (fun _ M42 => ?_)
    refine zm_aload_n 46 rfl dX11_read_45 rfl 0 rfl ?_
    refine zm_iconst 47 rfl dX11_read_46 zi_0 ?_
    refine zm_putI 50 rfl dX11_read_47 fp_X11_224 rfl (zm_L (sv := sv) rfl) rfl rfl (fun M47 _ => ?_)
    refine zm_aload_n 51 rfl dX11_read_50 rfl 0 rfl ?_
    refine zm_iconst 52 rfl dX11_read_51 zi_0 ?_
    refine zm_putI 55 rfl dX11_read_52 fp_X11_248 rfl (zm_L (sv := sv) rfl) rfl rfl (fun M52 _ => ?_)
    refine zm_aload_n 56 rfl dX11_read_55 rfl 0 rfl ?_
    refine zm_iconst 57 rfl dX11_read_56 zi_0 ?_
    refine zm_putI 60 rfl dX11_read_57 fp_X11_221 rfl (zm_L (sv := sv) rfl) rfl rfl (fun M57 _ => ?_)
    refine zm_aload_n 61 rfl dX11_read_60 rfl 0 rfl ?_
    refine zm_iconst 62 rfl dX11_read_61 zi_0 ?_
    refine zm_putI 65 rfl dX11_read_62 fp_X11_230 rfl (zm_L (sv := sv) rfl) rfl rfl (fun M62 _ => ?_)
    refine zm_aload_n 66 rfl dX11_read_65 rfl 0 rfl ?_
    refine zm_iconst 67 rfl dX11_read_66 zi_1 ?_
    refine zm_aload_n 68 rfl dX11_read_67 rfl 0 rfl ?_
    refine zm_getI 71 rfl dX11_read_68 fl_X11_251 rfl (zm_L (sv := sv) rfl) ?_
    refine zm_isub 72 rfl dX11_read_71 ?_
    refine zm_putI 75 rfl dX11_read_72 fp_X11_254 rfl (zm_L (sv := sv) rfl) rfl rfl (fun M72 _ => ?_)
    refine zm_aload_n 76 rfl dX11_read_75 rfl 0 rfl ?_
    refine zm_iconst 77 rfl dX11_read_76 zi_0 ?_
    refine zm_putI 80 rfl dX11_read_77 fp_X11_257 rfl (zm_L (sv := sv) rfl) rfl rfl (fun M77 _ => ?_)
    refine zm_aload_n 81 rfl dX11_read_80 rfl 0 rfl ?_
    refine zm_aload_n 82 rfl dX11_read_81 rfl 0 rfl ?_
    refine zm_getI 85 rfl dX11_read_82 fl_X11_254 rfl (zm_L (sv := sv) rfl) ?_
    refine zm_cV1v 88 rfl dX11_read_85 ml_X11_170 rfl (zm_L (sv := sv) rfl) rfl (Nat.le_of_ble_eq_true rfl) ⟨Nat.le_of_ble_eq_true rfl, Nat.le_of_ble_eq_true rfl⟩ rfl rfl ⟨Nat.le_refl _, Nat.le_refl _⟩ rfl (fun _ _ h => k_X11_plain E sv (M77.1 52 19) M77 h) (fun _ M85 => ?_)
    refine zm_aload_n 89 rfl dX11_read_88 rfl 0 rfl ?_
    refine zm_sipush 92 rfl dX11_read_89 zs_130 ?_
    refine zm_aload_n 93 rfl dX11_read_92 rfl 0 rfl ?_
    refine zm_getI 96 rfl dX11_read_93 fl_X11_254 rfl (zm_L (sv := sv) rfl) ?_
    refine zm_imul 97 rfl dX11_read_96 ?_
    refine zm_putI 100 rfl dX11_read_97 fp_X11_260 rfl (zm_L (sv := sv) rfl) rfl rfl (fun M97 _ => ?_)
    refine zm_aload_n 101 rfl dX11_read_100 rfl 0 rfl ?_
    refine zm_sipush 104 rfl dX11_read_101 zs_420 ?_
    refine zm_aload_n 105 rfl dX11_read_104 rfl 0 rfl ?_
    refine zm_getI 108 rfl dX11_read_105 fl_X11_254 rfl (zm_L (sv := sv) rfl) ?_
    refine zm_imul 109 rfl dX11_read_108 ?_
    refine zm_putI 112 rfl dX11_read_109 fp_X11_263 rfl (zm_L (sv := sv) rfl) rfl rfl (fun M109 _ => ?_)
    have hb134 : ∀ (M134 : zm_Mem), zm_V X Y_X11_read E (zm_Q X E Y_X11_read.2.2.2.1.cells Y_X11_read.2.2.2.1.slots (zm_w sv) zm_ei) 0 0 false (zm_w sv) 134 [(0, .ref (E.2.1 + 52))] [] M134 (f_X11_read_b134 M134) some := by
      intro M134
      unfold f_X11_read_b134
      refine zm_aload_n 135 rfl dX11_read_134 rfl 0 rfl ?_
      refine zm_aload_n 136 rfl dX11_read_135 rfl 0 rfl ?_
      refine zm_getI 139 rfl dX11_read_136 fl_X11_221 rfl (zm_L (sv := sv) rfl) ?_
      have hb164 : ∀ (b164_s1 : Int32), zm_V X Y_X11_read E (zm_Q X E Y_X11_read.2.2.2.1.cells Y_X11_read.2.2.2.1.slots (zm_w sv) zm_ei) 0 0 false (zm_w sv) 164 [(0, .ref (E.2.1 + 52))] [.int b164_s1, .ref (E.2.1 + 52)] M134 (f_X11_read_b164 M134 b164_s1) some := by
        intro b164_s1
        unfold f_X11_read_b164
        refine zm_putI 167 rfl dX11_read_164 fp_X11_37 rfl (zm_L (sv := sv) rfl) rfl rfl (fun M164 _ => ?_)
        refine zm_aload_n 168 rfl dX11_read_167 rfl 0 rfl ?_
        refine zm_getI 171 rfl dX11_read_168 fl_X11_221 rfl (zm_L (sv := sv) rfl) ?_
        refine zm_if_le 179 174 (by decide) rfl dX11_read_171 ?_ ?_
        · refine zm_aload_n 180 rfl dX11_read_179 rfl 0 rfl ?_
          refine zm_getI 183 rfl dX11_read_180 fl_X11_230 rfl (zm_L (sv := sv) rfl) ?_
          refine zm_if_le 191 186 (by decide) rfl dX11_read_183 ?_ ?_
          · refine zm_aload_n 192 rfl dX11_read_191 rfl 0 rfl ?_
            refine zm_aload_n 193 rfl dX11_read_192 rfl 0 rfl ?_
            refine zm_getI 196 rfl dX11_read_193 fl_X11_254 rfl (zm_L (sv := sv) rfl) ?_
            refine zm_putI 199 rfl dX11_read_196 fp_X11_251 rfl (zm_L (sv := sv) rfl) rfl rfl (fun M196 _ => ?_)
            refine zm_aload_n 200 rfl dX11_read_199 rfl 0 rfl ?_
            refine zm_cV0v 203 rfl dX11_read_200 ml_X11_182 rfl (zm_L (sv := sv) rfl) rfl (Nat.le_of_ble_eq_true rfl) ⟨Nat.le_of_ble_eq_true rfl, Nat.le_of_ble_eq_true rfl⟩ rfl rfl ⟨Nat.le_refl _, Nat.le_refl _⟩ rfl (fun _ _ h => k_X11_begins E sv M196 h) (fun _ M200 => ?_)
            refine zm_aload_n 204 rfl dX11_read_203 rfl 0 rfl ?_
            refine zm_cV0v 207 rfl dX11_read_204 ml_X11_185 rfl (zm_L (sv := sv) rfl) rfl (Nat.le_of_ble_eq_true rfl) ⟨Nat.le_of_ble_eq_true rfl, Nat.le_of_ble_eq_true rfl⟩ rfl rfl ⟨Nat.le_refl _, Nat.le_refl _⟩ rfl (fun _ _ h => k_X11_keepsRow E sv M200 h) (fun _ M204 => ?_)
            refine zm_aload_n 208 rfl dX11_read_207 rfl 0 rfl ?_
            refine zm_iconst 209 rfl dX11_read_208 zi_0 ?_
            refine zm_putI 212 rfl dX11_read_209 fp_X11_269 rfl (zm_L (sv := sv) rfl) rfl rfl (fun M209 _ => ?_)
            refine zm_aload_n 213 rfl dX11_read_212 rfl 0 rfl ?_
            refine zm_iconst 214 rfl dX11_read_213 zi_0 ?_
            refine zm_putI 217 rfl dX11_read_214 fp_X11_272 rfl (zm_L (sv := sv) rfl) rfl rfl (fun M214 _ => ?_)
            refine zm_iconst 218 rfl dX11_read_217 zi_0 ?_
            refine zm_istore_n (lv' := [(1, .int 0), (0, .ref (E.2.1 + 52))]) 219 rfl dX11_read_218 rfl (by decide) rfl ?_
            have hx237_219 : ∀ (N237 : zm_Mem), zm_V X Y_X11_read E (zm_Q X E Y_X11_read.2.2.2.1.cells Y_X11_read.2.2.2.1.slots (zm_w sv) zm_ei) 0 0 false (zm_w sv) 237 [] [] N237 (some (0, N237)) some := by
              intro N237
              refine zm_iconst 238 rfl dX11_read_237 zi_0 ?_
              exact zm_iret dX11_read_238 rfl (Nat.le_refl _) (Nat.le_refl _) rfl
            refine zm_loc [1, 0] rfl (zm_lpp (σ := (Int32 × zm_Mem)) (ε := zm_Mem) (step := fun s => f_X11_read_l219 s.1 s.2) (fun s => [(0, .ref (E.2.1 + 52)), (1, .int s.1)]) (fun s => s.2) (fun D219 f219 hf219a hf219b hD219 s => ?_) (0, M214))
            obtain ⟨l219_1, L219⟩ := s
            show zm_V X Y_X11_read E (zm_Q X E Y_X11_read.2.2.2.1.cells Y_X11_read.2.2.2.1.slots (zm_w sv) zm_ei) 0 0 false (zm_w sv) 219 [(0, .ref (E.2.1 + 52)), (1, .int l219_1)] [] L219 (f_X11_read_l219 l219_1 L219) f219
            unfold f_X11_read_l219
            refine zm_iload_n 220 rfl dX11_read_219 rfl 1 rfl ?_
            refine zm_iconst 221 rfl dX11_read_220 zi_3 ?_
            refine zm_icmp_ge 237 224 (by decide) rfl dX11_read_221 ?_ ?_
            · exact zm_loc [] rfl (zm_go (hf219b _) (zm_unb (hx237_219 L219)))
            · refine zm_aload_n 225 rfl dX11_read_224 rfl 0 rfl ?_
              refine zm_getR (a := 101) 228 rfl dX11_read_225 fl_X11_164 rfl (zm_L (sv := sv) rfl) rfl (by decide) ?_
              refine zm_iload_n 229 rfl dX11_read_228 rfl 1 rfl ?_
              refine zm_iconst 230 rfl dX11_read_229 zi_0 ?_
              refine zm_zast 231 rfl dX11_read_230 rfl (zm_L (sv := sv) rfl) (fun M230 _ => ?_)
              refine zm_iinc (lv' := fun z => [(1, .int z), (0, .ref (E.2.1 + 52))]) 234 rfl dX11_read_231 zi_1 1 rfl (by decide) (fun _ => rfl) (fun x231 _ => ?_)
              refine zm_goto 219 (by decide) dX11_read_234 ?_
              exact zm_loc [1, 0] rfl (zm_go (hf219a _) (hD219 (x231, M230)))
          · refine zm_aload_n 187 rfl dX11_read_186 rfl 0 rfl ?_
            refine zm_getI 190 rfl dX11_read_187 fl_X11_230 rfl (zm_L (sv := sv) rfl) ?_
            exact zm_iret dX11_read_190 rfl (Nat.le_refl _) (Nat.le_refl _) rfl
        · refine zm_aload_n 175 rfl dX11_read_174 rfl 0 rfl ?_
          refine zm_getI 178 rfl dX11_read_175 fl_X11_221 rfl (zm_L (sv := sv) rfl) ?_
          exact zm_iret dX11_read_178 rfl (Nat.le_refl _) (Nat.le_refl _) rfl
      refine zm_if_le 149 142 (by decide) rfl dX11_read_139 ?_ ?_
      · refine zm_aload_n 150 rfl dX11_read_149 rfl 0 rfl ?_
        refine zm_getI 153 rfl dX11_read_150 fl_X11_230 rfl (zm_L (sv := sv) rfl) ?_
        refine zm_if_le 163 156 (by decide) rfl dX11_read_153 ?_ ?_
        · refine zm_iconst 164 rfl dX11_read_163 zi_m1 ?_
          exact zm_loc [0] rfl (hb164 (-1))
        · refine zm_aload_n 157 rfl dX11_read_156 rfl 0 rfl ?_
          refine zm_getI 160 rfl dX11_read_157 fl_X11_233 rfl (zm_L (sv := sv) rfl) ?_
          refine zm_goto 164 (by decide) dX11_read_160 ?_
          exact zm_loc [0] rfl (hb164 (M134.1 52 16))
      · refine zm_aload_n 143 rfl dX11_read_142 rfl 0 rfl ?_
        refine zm_getI 146 rfl dX11_read_143 fl_X11_227 rfl (zm_L (sv := sv) rfl) ?_
        refine zm_goto 164 (by decide) dX11_read_146 ?_
        exact zm_loc [0] rfl (hb164 (M134.1 52 14))
    have hx134_112 : ∀ (N134 : zm_Mem), zm_V X Y_X11_read E (zm_Q X E Y_X11_read.2.2.2.1.cells Y_X11_read.2.2.2.1.slots (zm_w sv) zm_ei) 0 0 false (zm_w sv) 134 [(0, .ref (E.2.1 + 52))] [] N134 (f_X11_read_b134 N134) some := by
      intro N134
      exact zm_loc [0] rfl (hb134 N134)
    refine zm_loc [0] rfl (zm_lpp (σ := zm_Mem) (ε := zm_Mem) (step := f_X11_read_l112) (fun s => [(0, .ref (E.2.1 + 52))]) (fun s => s) (fun D112 f112 hf112a hf112b hD112 s => ?_) M109)
    obtain ⟨L112, hq112⟩ : ∃ q, q = s := ⟨_, rfl⟩
    rw [← hq112]
    show zm_V X Y_X11_read E (zm_Q X E Y_X11_read.2.2.2.1.cells Y_X11_read.2.2.2.1.slots (zm_w sv) zm_ei) 0 0 false (zm_w sv) 112 [(0, .ref (E.2.1 + 52))] [] L112 (f_X11_read_l112 L112) f112
    unfold f_X11_read_l112
    refine zm_aload_n 113 rfl dX11_read_112 rfl 0 rfl ?_
    refine zm_getI 116 rfl dX11_read_113 fl_X11_221 rfl (zm_L (sv := sv) rfl) ?_
    refine zm_if_ne 134 119 (by decide) rfl dX11_read_116 ?_ ?_
    · refine zm_aload_n 120 rfl dX11_read_119 rfl 0 rfl ?_
      refine zm_iconst 121 rfl dX11_read_120 zi_0 ?_
      refine zm_cV1ir 124 rfl dX11_read_121 ml_X11_239 rfl (zm_L (sv := sv) rfl) rfl (Nat.le_of_ble_eq_true rfl) ⟨Nat.le_of_ble_eq_true rfl, Nat.le_of_ble_eq_true rfl⟩ rfl rfl ⟨Nat.le_refl _, Nat.le_refl _⟩ rfl (fun _ h => k_X11_is E sv 0 L112 h) (fun r121 => ?_)
      refine zm_if_ne 134 127 (by decide) rfl dX11_read_124 ?_ ?_
      · refine zm_aload_n 128 rfl dX11_read_127 rfl 0 rfl ?_
        refine zm_cV0v 131 rfl dX11_read_128 ml_X11_266 rfl (zm_L (sv := sv) rfl) rfl (Nat.le_of_ble_eq_true rfl) ⟨Nat.le_of_ble_eq_true rfl, Nat.le_of_ble_eq_true rfl⟩ rfl rfl ⟨Nat.le_refl _, Nat.le_refl _⟩ rfl (fun _ _ h => k_X11_tellOne E sv L112 h) (fun _ M128 => ?_)
        refine zm_goto 112 (by decide) dX11_read_131 ?_
        exact zm_loc [0] rfl (zm_go (hf112a _) (hD112 M128))
      · exact zm_loc [0] rfl (zm_go (hf112b _) (zm_unb (hx134_112 L112)))
    · exact zm_loc [0] rfl (zm_go (hf112b _) (zm_unb (hx134_112 L112)))
  refine zm_loc [1, 0] rfl (zm_lpp (σ := (Int32 × zm_Mem)) (ε := zm_Mem) (step := fun s => f_X11_read_l10 s.1 s.2) (fun s => [(0, .ref (E.2.1 + 52)), (1, .int s.1)]) (fun s => s.2) (fun D10 f10 hf10a hf10b hD10 s => ?_) (0, M5))
  obtain ⟨l10_1, L10⟩ := s
  show zm_V X Y_X11_read E (zm_Q X E Y_X11_read.2.2.2.1.cells Y_X11_read.2.2.2.1.slots (zm_w sv) zm_ei) 0 0 false (zm_w sv) 10 [(0, .ref (E.2.1 + 52)), (1, .int l10_1)] [] L10 (f_X11_read_l10 l10_1 L10) f10
  unfold f_X11_read_l10
  refine zm_iload_n 11 rfl dX11_read_10 rfl 1 rfl ?_
  refine zm_aload_n 12 rfl dX11_read_11 rfl 0 rfl ?_
  refine zm_getI 15 rfl dX11_read_12 fl_X11_194 rfl (zm_L (sv := sv) rfl) ?_
  refine zm_icmp_ge 36 18 (by decide) rfl dX11_read_15 ?_ ?_
  · exact zm_loc [0] rfl (zm_go (hf10b _) (zm_unb (hx36_10 L10)))
  · refine zm_aload_n 19 rfl dX11_read_18 rfl 0 rfl ?_
    refine zm_getR (a := 54) 22 rfl dX11_read_19 fl_X11_17 rfl (zm_L (sv := sv) rfl) rfl (by decide) ?_
    refine zm_iload_n 23 rfl dX11_read_22 rfl 1 rfl ?_
    refine zm_aload_n 24 rfl dX11_read_23 rfl 0 rfl ?_
    refine zm_getR (a := 53) 27 rfl dX11_read_24 fl_X11_13 rfl (zm_L (sv := sv) rfl) rfl (by decide) ?_
    refine zm_iload_n 28 rfl dX11_read_27 rfl 1 rfl ?_
    refine zm_bald 29 rfl dX11_read_28 rfl (zm_L (sv := sv) rfl) ?_
    refine zm_bast 30 rfl dX11_read_29 rfl (zm_L (sv := sv) rfl) (fun M29 _ => ?_)
    refine zm_iinc (lv' := fun z => [(1, .int z), (0, .ref (E.2.1 + 52))]) 33 rfl dX11_read_30 zi_1 1 rfl (by decide) (fun _ => rfl) (fun x30 _ => ?_)
    refine zm_goto 10 (by decide) dX11_read_33 ?_
    exact zm_loc [1, 0] rfl (zm_go (hf10a _) (hD10 (x30, M29)))
abbrev Y_X11_place : zm_Y := (cX11_place, 1, RX11, { frames := 0, cells := 0, slots := 0, locals := 0 }, (some .int), false, "place")
noncomputable def f_X11_place  (M : zm_Mem) : Option Int32 :=
  some (M.1 52 17)
set_option maxRecDepth 20000 in
set_option maxHeartbeats 4000000 in
theorem k_X11_place (E : zm_E) (sv : Nat)  (M : zm_Mem) {r : Int32} (h : f_X11_place M = some r) : zm_Ct E (zm_w sv) (zm_w sv) yX11_place Y_X11_place [.ref (E.2.1 + 52)] M (some (.int r)) M := by
  refine zm_methr (emb := zm_ei) (d := f_X11_place M) (by decide) rfl rfl (Nat.le_of_ble_eq_true rfl) h (fun X => ?_)
  show zm_V X Y_X11_place E (zm_Q X E Y_X11_place.2.2.2.1.cells Y_X11_place.2.2.2.1.slots (zm_w sv) zm_ei) 0 0 false (zm_w sv) 0 [(0, .ref (E.2.1 + 52))] [] M (f_X11_place M) (fun r => some (r, M))
  unfold f_X11_place
  refine zm_aload_n 1 rfl dX11_place_0 rfl 0 rfl ?_
  refine zm_getI 4 rfl dX11_place_1 fl_X11_37 rfl (zm_L (sv := sv) rfl) ?_
  exact zm_iret dX11_place_4 rfl (Nat.le_refl _) (Nat.le_refl _) rfl
abbrev Y_X11_termOf : zm_Y := (cX11_termOf, 8, RX11, { frames := 0, cells := 0, slots := 0, locals := 0 }, (some .int), false, "termOf")
noncomputable def f_X11_termOf_x165_5 (N165 : zm_Mem) : Option (Int32 × zm_Mem) :=
 zm_ck (zm_in 0 400) <| some (N165.1 90 (0 : Int32).toNatClampNeg, N165)
noncomputable def f_X11_termOf_b159_5 (l5_4 : Int32) (b159_3 : Int32) (M159 : zm_Mem) : Option ((Int32 × Int32 × zm_Mem) ⊕ (zm_Mem ⊕ zm_Mem)) :=
 zm_v (l5_4 + 1) <| fun x159 => some (.inl (b159_3, x159, M159))
noncomputable def f_X11_termOf_b158_5 (l5_4 : Int32) (L5 : zm_Mem) (x65 : Int32) (b158_s1 : Int32) (b158_s2 : Int32) : Option ((Int32 × Int32 × zm_Mem) ⊕ (zm_Mem ⊕ zm_Mem)) :=
 zm_ck (zm_in b158_s1 400) <| zm_v (zm_sI L5 90 b158_s1.toNatClampNeg b158_s2) <| fun M158 => f_X11_termOf_b159_5 l5_4 x65 M158
noncomputable def f_X11_termOf_b104_5 (l5_4 : Int32) (L5 : zm_Mem) (x18 : Int32) (x65 : Int32) (x76 : Int32) (x84 : Int32) : Option ((Int32 × Int32 × zm_Mem) ⊕ (zm_Mem ⊕ zm_Mem)) :=
 if x18 = (2 : Int32) then (f_X11_termOf_b158_5 l5_4 L5 x65 (x65 - 1) (x76 + x84)) else (if x18 = (3 : Int32) then (f_X11_termOf_b158_5 l5_4 L5 x65 (x65 - 1) (x76 - x84)) else (if x18 = (4 : Int32) then (f_X11_termOf_b158_5 l5_4 L5 x65 (x65 - 1) (x76 * x84)) else (zm_ck (!decide (x84 = 0)) <| f_X11_termOf_b158_5 l5_4 L5 x65 (x65 - 1) (x76 / x84))))
noncomputable def f_X11_termOf_b58_5 (l5_3 : Int32) (l5_4 : Int32) (L5 : zm_Mem) (b58_s1 : Int32) (b58_s2 : Int32) : Option ((Int32 × Int32 × zm_Mem) ⊕ (zm_Mem ⊕ zm_Mem)) :=
 zm_ck (zm_in b58_s1 400) <| zm_v (zm_sI L5 90 b58_s1.toNatClampNeg b58_s2) <| fun M58 => zm_v (l5_3 + 1) <| fun x59 => f_X11_termOf_b159_5 l5_4 x59 M58
noncomputable def f_X11_termOf_l5 (a2 : Int32) (l5_3 : Int32) (l5_4 : Int32) (L5 : zm_Mem) : Option ((Int32 × Int32 × zm_Mem) ⊕ (zm_Mem ⊕ zm_Mem)) :=
 if a2 ≤ l5_4 then (some (.inr (.inr L5))) else (zm_ck (zm_in l5_4 840) <| zm_v (L5.1 86 l5_4.toNatClampNeg) <| fun x18 => if (2 : Int32) ≤ x18 then (zm_v (l5_3 + (-1)) <| fun x65 => zm_ck (zm_in (x65 - 1) 400) <| zm_v (L5.1 90 (x65 - 1).toNatClampNeg) <| fun x76 => zm_ck (zm_in x65 400) <| zm_v (L5.1 90 x65.toNatClampNeg) <| fun x84 => if x18 = (5 : Int32) then (if x84 = 0 then (some (.inr (.inl L5))) else (f_X11_termOf_b104_5 l5_4 L5 x18 x65 x76 x84)) else (f_X11_termOf_b104_5 l5_4 L5 x18 x65 x76 x84)) else (if x18 = 0 then (zm_ck (zm_in l5_4 840) <| f_X11_termOf_b58_5 l5_3 l5_4 L5 l5_3 (L5.1 87 l5_4.toNatClampNeg)) else (zm_ck (zm_in l5_4 840) <| zm_ck (zm_in (L5.1 87 l5_4.toNatClampNeg) 9) <| f_X11_termOf_b58_5 l5_3 l5_4 L5 l5_3 (L5.1 89 (L5.1 87 l5_4.toNatClampNeg).toNatClampNeg))))
noncomputable def f_X11_termOf (a1 : Int32) (a2 : Int32) (M : zm_Mem) : Option (Int32 × zm_Mem) :=
  (zm_lp (fun s => f_X11_termOf_l5 a2 s.1 s.2.1 s.2.2) (0, a1, M)).bind (Sum.elim (fun e97 => zm_v (zm_sI e97 52 55 1) <| fun M99 => some (0, M99)) (fun e165 => f_X11_termOf_x165_5 e165))
set_option maxRecDepth 20000 in
set_option maxHeartbeats 4000000 in
theorem k_X11_termOf (E : zm_E) (sv : Nat) (a1 : Int32) (a2 : Int32) (M : zm_Mem) {r : Int32} {M' : zm_Mem} (h : f_X11_termOf a1 a2 M = some (r, M')) : zm_Ct E (zm_w sv) (zm_w sv) yX11_termOf Y_X11_termOf [.ref (E.2.1 + 52), .int a1, .int a2] M (some (.int r)) M' := by
  refine zm_meth (emb := zm_ei) (d := f_X11_termOf a1 a2 M) (by decide) rfl rfl (Nat.le_of_ble_eq_true rfl) h (fun X => ?_)
  show zm_V X Y_X11_termOf E (zm_Q X E Y_X11_termOf.2.2.2.1.cells Y_X11_termOf.2.2.2.1.slots (zm_w sv) zm_ei) 0 0 false (zm_w sv) 0 [(0, .ref (E.2.1 + 52)), (1, .int a1), (2, .int a2)] [] M (f_X11_termOf a1 a2 M) some
  unfold f_X11_termOf
  refine zm_iconst 1 rfl dX11_termOf_0 zi_0 ?_
  refine zm_istore_n (lv' := [(3, .int 0), (0, .ref (E.2.1 + 52)), (1, .int a1), (2, .int a2)]) 2 rfl dX11_termOf_1 rfl (by decide) rfl ?_
  refine zm_iload_n 3 rfl dX11_termOf_2 rfl 2 rfl ?_
  refine zm_istore (lv' := [(4, .int a1), (3, .int 0), (0, .ref (E.2.1 + 52)), (1, .int a1), (2, .int a2)]) 5 rfl dX11_termOf_3 (by decide) rfl ?_
  have hx97_5 : ∀ (N97 : zm_Mem), zm_V X Y_X11_termOf E (zm_Q X E Y_X11_termOf.2.2.2.1.cells Y_X11_termOf.2.2.2.1.slots (zm_w sv) zm_ei) 0 0 false (zm_w sv) 97 [(0, .ref (E.2.1 + 52))] [] N97 (zm_v (zm_sI N97 52 55 1) <| fun M99 => some (0, M99)) some := by
    intro N97
    refine zm_aload_n 98 rfl dX11_termOf_97 rfl 0 rfl ?_
    refine zm_iconst 99 rfl dX11_termOf_98 zi_1 ?_
    refine zm_putI 102 rfl dX11_termOf_99 fp_X11_331 rfl (zm_L (sv := sv) rfl) rfl rfl (fun M99 _ => ?_)
    refine zm_iconst 103 rfl dX11_termOf_102 zi_0 ?_
    exact zm_iret dX11_termOf_103 rfl (Nat.le_refl _) (Nat.le_refl _) rfl
  have hx165_5 : ∀ (N165 : zm_Mem), zm_V X Y_X11_termOf E (zm_Q X E Y_X11_termOf.2.2.2.1.cells Y_X11_termOf.2.2.2.1.slots (zm_w sv) zm_ei) 0 0 false (zm_w sv) 165 [(0, .ref (E.2.1 + 52))] [] N165 (f_X11_termOf_x165_5 N165) some := by
    intro N165
    unfold f_X11_termOf_x165_5
    refine zm_aload_n 166 rfl dX11_termOf_165 rfl 0 rfl ?_
    refine zm_getR (a := 90) 169 rfl dX11_termOf_166 fl_X11_131 rfl (zm_L (sv := sv) rfl) rfl (by decide) ?_
    refine zm_iconst 170 rfl dX11_termOf_169 zi_0 ?_
    refine zm_iald 171 rfl dX11_termOf_170 rfl (zm_L (sv := sv) rfl) ?_
    exact zm_iret dX11_termOf_171 rfl (Nat.le_refl _) (Nat.le_refl _) rfl
  refine zm_loc [2, 4, 1, 0] rfl (zm_lpp (σ := (Int32 × Int32 × zm_Mem)) (ε := (zm_Mem ⊕ zm_Mem)) (step := fun s => f_X11_termOf_l5 a2 s.1 s.2.1 s.2.2) (fun s => [(0, .ref (E.2.1 + 52)), (2, .int a2), (3, .int s.1), (4, .int s.2.1)]) (fun s => s.2.2) (fun D5 f5 hf5a hf5b hD5 s => ?_) (0, a1, M))
  obtain ⟨l5_3, l5_4, L5⟩ := s
  show zm_V X Y_X11_termOf E (zm_Q X E Y_X11_termOf.2.2.2.1.cells Y_X11_termOf.2.2.2.1.slots (zm_w sv) zm_ei) 0 0 false (zm_w sv) 5 [(0, .ref (E.2.1 + 52)), (2, .int a2), (3, .int l5_3), (4, .int l5_4)] [] L5 (f_X11_termOf_l5 a2 l5_3 l5_4 L5) f5
  unfold f_X11_termOf_l5
  refine zm_iload 7 rfl dX11_termOf_5 3 rfl ?_
  refine zm_iload_n 8 rfl dX11_termOf_7 rfl 1 rfl ?_
  refine zm_icmp_ge 165 11 (by decide) rfl dX11_termOf_8 ?_ ?_
  · exact zm_loc [0] rfl (zm_go (hf5b _) (zm_unb (hx165_5 L5)))
  · refine zm_aload_n 12 rfl dX11_termOf_11 rfl 0 rfl ?_
    refine zm_getR (a := 86) 15 rfl dX11_termOf_12 fl_X11_119 rfl (zm_L (sv := sv) rfl) rfl (by decide) ?_
    refine zm_iload 17 rfl dX11_termOf_15 3 rfl ?_
    refine zm_iald 18 rfl dX11_termOf_17 rfl (zm_L (sv := sv) rfl) ?_
    refine zm_nmi (fun x18 _ => ?_)
    refine zm_istore (lv' := [(5, .int x18), (0, .ref (E.2.1 + 52)), (2, .int a2), (3, .int l5_3), (4, .int l5_4)]) 20 rfl dX11_termOf_18 (by decide) rfl ?_
    refine zm_iload 22 rfl dX11_termOf_20 0 rfl ?_
    refine zm_iconst 23 rfl dX11_termOf_22 zi_2 ?_
    have hb159_5 : ∀ (b159_3 : Int32) (M159 : zm_Mem), zm_V X Y_X11_termOf E (zm_Q X E Y_X11_termOf.2.2.2.1.cells Y_X11_termOf.2.2.2.1.slots (zm_w sv) zm_ei) 0 0 false (zm_w sv) 159 [(0, .ref (E.2.1 + 52)), (2, .int a2), (3, .int b159_3), (4, .int l5_4)] [] M159 (f_X11_termOf_b159_5 l5_4 b159_3 M159) f5 := by
      intro b159_3 M159
      unfold f_X11_termOf_b159_5
      refine zm_iinc (lv' := fun z => [(4, .int z), (0, .ref (E.2.1 + 52)), (2, .int a2), (3, .int b159_3)]) 162 rfl dX11_termOf_159 zi_1 3 rfl (by decide) (fun _ => rfl) (fun x159 _ => ?_)
      refine zm_goto 5 (by decide) dX11_termOf_162 ?_
      exact zm_loc [1, 2, 3, 0] rfl (zm_go (hf5a _) (hD5 (b159_3, x159, M159)))
    refine zm_icmp_ge 65 26 (by decide) rfl dX11_termOf_23 ?_ ?_
    · refine zm_iinc (lv' := fun z => [(3, .int z), (5, .int x18), (0, .ref (E.2.1 + 52)), (2, .int a2), (4, .int l5_4)]) 68 rfl dX11_termOf_65 zi_m1 3 rfl (by decide) (fun _ => rfl) (fun x65 _ => ?_)
      refine zm_aload_n 69 rfl dX11_termOf_68 rfl 2 rfl ?_
      refine zm_getR (a := 90) 72 rfl dX11_termOf_69 fl_X11_131 rfl (zm_L (sv := sv) rfl) rfl (by decide) ?_
      refine zm_iload_n 73 rfl dX11_termOf_72 rfl 0 rfl ?_
      refine zm_iconst 74 rfl dX11_termOf_73 zi_1 ?_
      refine zm_isub 75 rfl dX11_termOf_74 ?_
      refine zm_iald 76 rfl dX11_termOf_75 rfl (zm_L (sv := sv) rfl) ?_
      refine zm_nmi (fun x76 _ => ?_)
      refine zm_istore (lv' := [(6, .int x76), (3, .int x65), (5, .int x18), (0, .ref (E.2.1 + 52)), (2, .int a2), (4, .int l5_4)]) 78 rfl dX11_termOf_76 (by decide) rfl ?_
      refine zm_aload_n 79 rfl dX11_termOf_78 rfl 3 rfl ?_
      refine zm_getR (a := 90) 82 rfl dX11_termOf_79 fl_X11_131 rfl (zm_L (sv := sv) rfl) rfl (by decide) ?_
      refine zm_iload_n 83 rfl dX11_termOf_82 rfl 1 rfl ?_
      refine zm_iald 84 rfl dX11_termOf_83 rfl (zm_L (sv := sv) rfl) ?_
      refine zm_nmi (fun x84 _ => ?_)
      refine zm_istore (lv' := [(7, .int x84), (6, .int x76), (3, .int x65), (5, .int x18), (0, .ref (E.2.1 + 52)), (2, .int a2), (4, .int l5_4)]) 86 rfl dX11_termOf_84 (by decide) rfl ?_
      refine zm_iload 88 rfl dX11_termOf_86 3 rfl ?_
      refine zm_iconst 89 rfl dX11_termOf_88 zi_5 ?_
      have hb104_5 : zm_V X Y_X11_termOf E (zm_Q X E Y_X11_termOf.2.2.2.1.cells Y_X11_termOf.2.2.2.1.slots (zm_w sv) zm_ei) 0 0 false (zm_w sv) 104 [(0, .ref (E.2.1 + 52)), (2, .int a2), (3, .int x65), (4, .int l5_4), (5, .int x18), (6, .int x76), (7, .int x84)] [] L5 (f_X11_termOf_b104_5 l5_4 L5 x18 x65 x76 x84) f5 := by
        unfold f_X11_termOf_b104_5
        refine zm_aload_n 105 rfl dX11_termOf_104 rfl 0 rfl ?_
        refine zm_getR (a := 90) 108 rfl dX11_termOf_105 fl_X11_131 rfl (zm_L (sv := sv) rfl) rfl (by decide) ?_
        refine zm_iload_n 109 rfl dX11_termOf_108 rfl 2 rfl ?_
        refine zm_iconst 110 rfl dX11_termOf_109 zi_1 ?_
        refine zm_isub 111 rfl dX11_termOf_110 ?_
        refine zm_iload 113 rfl dX11_termOf_111 4 rfl ?_
        refine zm_iconst 114 rfl dX11_termOf_113 zi_2 ?_
        have hb158_5 : ∀ (b158_s1 : Int32) (b158_s2 : Int32), zm_V X Y_X11_termOf E (zm_Q X E Y_X11_termOf.2.2.2.1.cells Y_X11_termOf.2.2.2.1.slots (zm_w sv) zm_ei) 0 0 false (zm_w sv) 158 [(0, .ref (E.2.1 + 52)), (2, .int a2), (3, .int x65), (4, .int l5_4)] [.int b158_s2, .int b158_s1, .ref (E.2.1 + 90)] L5 (f_X11_termOf_b158_5 l5_4 L5 x65 b158_s1 b158_s2) f5 := by
          intro b158_s1 b158_s2
          unfold f_X11_termOf_b158_5
          refine zm_iast 159 rfl dX11_termOf_158 rfl (zm_L (sv := sv) rfl) (fun M158 _ => ?_)
          exact zm_loc [0, 1, 2, 3] rfl (hb159_5 x65 M158)
        refine zm_icmp_ne 125 117 (by decide) rfl dX11_termOf_114 ?_ ?_
        · refine zm_iload 119 rfl dX11_termOf_117 5 rfl ?_
          refine zm_iload 121 rfl dX11_termOf_119 6 rfl ?_
          refine zm_iadd 122 rfl dX11_termOf_121 ?_
          refine zm_goto 158 (by decide) dX11_termOf_122 ?_
          exact zm_loc [0, 1, 2, 3] rfl (hb158_5 (x65 - 1) (x76 + x84))
        · refine zm_iload 127 rfl dX11_termOf_125 4 rfl ?_
          refine zm_iconst 128 rfl dX11_termOf_127 zi_3 ?_
          refine zm_icmp_ne 139 131 (by decide) rfl dX11_termOf_128 ?_ ?_
          · refine zm_iload 133 rfl dX11_termOf_131 5 rfl ?_
            refine zm_iload 135 rfl dX11_termOf_133 6 rfl ?_
            refine zm_isub 136 rfl dX11_termOf_135 ?_
            refine zm_goto 158 (by decide) dX11_termOf_136 ?_
            exact zm_loc [0, 1, 2, 3] rfl (hb158_5 (x65 - 1) (x76 - x84))
          · refine zm_iload 141 rfl dX11_termOf_139 4 rfl ?_
            refine zm_iconst 142 rfl dX11_termOf_141 zi_4 ?_
            refine zm_icmp_ne 153 145 (by decide) rfl dX11_termOf_142 ?_ ?_
            · refine zm_iload 147 rfl dX11_termOf_145 5 rfl ?_
              refine zm_iload 149 rfl dX11_termOf_147 6 rfl ?_
              refine zm_imul 150 rfl dX11_termOf_149 ?_
              refine zm_goto 158 (by decide) dX11_termOf_150 ?_
              exact zm_loc [0, 1, 2, 3] rfl (hb158_5 (x65 - 1) (x76 * x84))
            · refine zm_iload 155 rfl dX11_termOf_153 5 rfl ?_
              refine zm_iload 157 rfl dX11_termOf_155 6 rfl ?_
              refine zm_idiv 158 rfl dX11_termOf_157 ?_
              exact zm_loc [0, 1, 2, 3] rfl (hb158_5 (x65 - 1) (x76 / x84))
      refine zm_icmp_ne 104 92 (by decide) rfl dX11_termOf_89 ?_ ?_
      · refine zm_iload 94 rfl dX11_termOf_92 0 rfl ?_
        refine zm_if_ne 104 97 (by decide) rfl dX11_termOf_94 ?_ ?_
        · exact zm_loc [4] rfl (zm_go (hf5b _) (zm_unb (hx97_5 L5)))
        · exact zm_loc [4, 5, 2, 6, 3, 1, 0] rfl (hb104_5)
      · exact zm_loc [4, 5, 2, 6, 3, 1, 0] rfl (hb104_5)
    · refine zm_aload_n 27 rfl dX11_termOf_26 rfl 1 rfl ?_
      refine zm_getR (a := 90) 30 rfl dX11_termOf_27 fl_X11_131 rfl (zm_L (sv := sv) rfl) rfl (by decide) ?_
      refine zm_iload_n 31 rfl dX11_termOf_30 rfl 3 rfl ?_
      refine zm_iload 33 rfl dX11_termOf_31 0 rfl ?_
      have hb58_5 : ∀ (b58_s1 : Int32) (b58_s2 : Int32), zm_V X Y_X11_termOf E (zm_Q X E Y_X11_termOf.2.2.2.1.cells Y_X11_termOf.2.2.2.1.slots (zm_w sv) zm_ei) 0 0 false (zm_w sv) 58 [(0, .ref (E.2.1 + 52)), (2, .int a2), (3, .int l5_3), (4, .int l5_4)] [.int b58_s2, .int b58_s1, .ref (E.2.1 + 90)] L5 (f_X11_termOf_b58_5 l5_3 l5_4 L5 b58_s1 b58_s2) f5 := by
        intro b58_s1 b58_s2
        unfold f_X11_termOf_b58_5
        refine zm_iast 59 rfl dX11_termOf_58 rfl (zm_L (sv := sv) rfl) (fun M58 _ => ?_)
        refine zm_iinc (lv' := fun z => [(3, .int z), (0, .ref (E.2.1 + 52)), (2, .int a2), (4, .int l5_4)]) 62 rfl dX11_termOf_59 zi_1 2 rfl (by decide) (fun _ => rfl) (fun x59 _ => ?_)
        refine zm_goto 159 (by decide) dX11_termOf_62 ?_
        exact zm_loc [1, 2, 0, 3] rfl (hb159_5 x59 M58)
      refine zm_if_ne 46 36 (by decide) rfl dX11_termOf_33 ?_ ?_
      · refine zm_aload_n 37 rfl dX11_termOf_36 rfl 1 rfl ?_
        refine zm_getR (a := 87) 40 rfl dX11_termOf_37 fl_X11_122 rfl (zm_L (sv := sv) rfl) rfl (by decide) ?_
        refine zm_iload 42 rfl dX11_termOf_40 4 rfl ?_
        refine zm_iald 43 rfl dX11_termOf_42 rfl (zm_L (sv := sv) rfl) ?_
        refine zm_goto 58 (by decide) dX11_termOf_43 ?_
        exact zm_loc [1, 2, 3, 4] rfl (hb58_5 l5_3 (L5.1 87 l5_4.toNatClampNeg))
      · refine zm_aload_n 47 rfl dX11_termOf_46 rfl 1 rfl ?_
        refine zm_getR (a := 89) 50 rfl dX11_termOf_47 fl_X11_128 rfl (zm_L (sv := sv) rfl) rfl (by decide) ?_
        refine zm_aload_n 51 rfl dX11_termOf_50 rfl 1 rfl ?_
        refine zm_getR (a := 87) 54 rfl dX11_termOf_51 fl_X11_122 rfl (zm_L (sv := sv) rfl) rfl (by decide) ?_
        refine zm_iload 56 rfl dX11_termOf_54 4 rfl ?_
        refine zm_iald 57 rfl dX11_termOf_56 rfl (zm_L (sv := sv) rfl) ?_
        refine zm_iald 58 rfl dX11_termOf_57 rfl (zm_L (sv := sv) rfl) ?_
        exact zm_loc [1, 2, 3, 4] rfl (hb58_5 l5_3 (L5.1 89 (L5.1 87 l5_4.toNatClampNeg).toNatClampNeg))
abbrev Y_X11_in : zm_Y := (cX11_in, 3, RX11, { frames := 0, cells := 0, slots := 0, locals := 0 }, (some .boolean), false, "in")
noncomputable def f_X11_in_b14  : Option Int32 :=
 some 0
noncomputable def f_X11_in (a0 : Int32) (a1 : Int32) (a2 : Int32) (M : zm_Mem) : Option Int32 :=
  if a0 < a1 then (f_X11_in_b14) else (if a2 < a0 then (f_X11_in_b14) else (some 1))
set_option maxRecDepth 20000 in
set_option maxHeartbeats 4000000 in
theorem k_X11_in (E : zm_E) (w : zm_W) (a0 : Int32) (a1 : Int32) (a2 : Int32) (M : zm_Mem) {r : Int32} (h : f_X11_in a0 a1 a2 M = some r) : zm_Ct E w w yX11_in Y_X11_in [.int a0, .int a1, .int a2] M (some (.int r)) M := by
  refine zm_methr (emb := zm_ei) (d := f_X11_in a0 a1 a2 M) (by decide) rfl rfl (Nat.le_of_ble_eq_true rfl) h (fun X => ?_)
  show zm_V X Y_X11_in E (zm_Q X E Y_X11_in.2.2.2.1.cells Y_X11_in.2.2.2.1.slots w zm_ei) 0 0 false w 0 [(0, .int a0), (1, .int a1), (2, .int a2)] [] M (f_X11_in a0 a1 a2 M) (fun r => some (r, M))
  unfold f_X11_in
  refine zm_iload_n 1 rfl dX11_in_0 rfl 0 rfl ?_
  refine zm_iload_n 2 rfl dX11_in_1 rfl 1 rfl ?_
  have hb14 : zm_V X Y_X11_in E (zm_Q X E Y_X11_in.2.2.2.1.cells Y_X11_in.2.2.2.1.slots w zm_ei) 0 0 false w 14 [] [] M (f_X11_in_b14) (fun r => some (r, M)) := by
    unfold f_X11_in_b14
    refine zm_iconst 15 rfl dX11_in_14 zi_0 ?_
    exact zm_zret dX11_in_15 rfl rfl (Nat.le_refl _) (Nat.le_refl _) rfl
  refine zm_icmp_lt 14 5 (by decide) rfl dX11_in_2 ?_ ?_
  · exact zm_loc [] rfl (hb14)
  · refine zm_iload_n 6 rfl dX11_in_5 rfl 0 rfl ?_
    refine zm_iload_n 7 rfl dX11_in_6 rfl 2 rfl ?_
    refine zm_icmp_gt 14 10 (by decide) rfl dX11_in_7 ?_ ?_
    · exact zm_loc [] rfl (hb14)
    · refine zm_iconst 11 rfl dX11_in_10 zi_1 ?_
      refine zm_goto 15 (by decide) dX11_in_11 ?_
      exact zm_zret dX11_in_15 rfl rfl (Nat.le_refl _) (Nat.le_refl _) rfl
abbrev Y_X11_bits : zm_Y := (cX11_bits, 3, RX11, { frames := 0, cells := 0, slots := 0, locals := 0 }, (some .int), false, "bits")
noncomputable def f_X11_bits_l4 (a0 : Int32) (l4_1 : Int32) (l4_2 : Int32) : Option ((Int32 × Int32) ⊕ Int32) :=
 if (6 : Int32) ≤ l4_2 then (some (.inr l4_1)) else (zm_v (l4_1 + ((a0 >>> (l4_2 &&& 31)) &&& 1)) <| fun x17 => zm_v (l4_2 + 1) <| fun x18 => some (.inl (x17, x18)))
noncomputable def f_X11_bits (a0 : Int32) (M : zm_Mem) : Option Int32 :=
  (zm_lp (fun s => f_X11_bits_l4 a0 s.1 s.2) (0, 0)).bind (fun e24 => some e24)
set_option maxRecDepth 20000 in
set_option maxHeartbeats 4000000 in
theorem k_X11_bits (E : zm_E) (w : zm_W) (a0 : Int32) (M : zm_Mem) {r : Int32} (h : f_X11_bits a0 M = some r) : zm_Ct E w w yX11_bits Y_X11_bits [.int a0] M (some (.int r)) M := by
  refine zm_methr (emb := zm_ei) (d := f_X11_bits a0 M) (by decide) rfl rfl (Nat.le_of_ble_eq_true rfl) h (fun X => ?_)
  show zm_V X Y_X11_bits E (zm_Q X E Y_X11_bits.2.2.2.1.cells Y_X11_bits.2.2.2.1.slots w zm_ei) 0 0 false w 0 [(0, .int a0)] [] M (f_X11_bits a0 M) (fun r => some (r, M))
  unfold f_X11_bits
  refine zm_iconst 1 rfl dX11_bits_0 zi_0 ?_
  refine zm_istore_n (lv' := [(1, .int 0), (0, .int a0)]) 2 rfl dX11_bits_1 rfl (by decide) rfl ?_
  refine zm_iconst 3 rfl dX11_bits_2 zi_0 ?_
  refine zm_istore_n (lv' := [(2, .int 0), (1, .int 0), (0, .int a0)]) 4 rfl dX11_bits_3 rfl (by decide) rfl ?_
  have hx24_4 : ∀ (e24_1 : Int32), zm_V X Y_X11_bits E (zm_Q X E Y_X11_bits.2.2.2.1.cells Y_X11_bits.2.2.2.1.slots w zm_ei) 0 0 false w 24 [(1, .int e24_1)] [] M (some e24_1) (fun r => some (r, M)) := by
    intro e24_1
    refine zm_iload_n 25 rfl dX11_bits_24 rfl 0 rfl ?_
    exact zm_iret dX11_bits_25 rfl (Nat.le_refl _) (Nat.le_refl _) rfl
  refine zm_loc [2, 1, 0] rfl (zm_lpp (σ := (Int32 × Int32)) (ε := Int32) (step := fun s => f_X11_bits_l4 a0 s.1 s.2) (fun s => [(0, .int a0), (1, .int s.1), (2, .int s.2)]) (fun _ => M) (fun D4 f4 hf4a hf4b hD4 s => ?_) (0, 0))
  obtain ⟨l4_1, l4_2⟩ := s
  show zm_V X Y_X11_bits E (zm_Q X E Y_X11_bits.2.2.2.1.cells Y_X11_bits.2.2.2.1.slots w zm_ei) 0 0 false w 4 [(0, .int a0), (1, .int l4_1), (2, .int l4_2)] [] M (f_X11_bits_l4 a0 l4_1 l4_2) f4
  unfold f_X11_bits_l4
  refine zm_iload_n 5 rfl dX11_bits_4 rfl 2 rfl ?_
  refine zm_bipush 7 rfl dX11_bits_5 zb_6 ?_
  refine zm_icmp_ge 24 10 (by decide) rfl dX11_bits_7 ?_ ?_
  · exact zm_loc [1] rfl (zm_go (hf4b _) (zm_unb (hx24_4 l4_1)))
  · refine zm_iload_n 11 rfl dX11_bits_10 rfl 1 rfl ?_
    refine zm_iload_n 12 rfl dX11_bits_11 rfl 0 rfl ?_
    refine zm_iload_n 13 rfl dX11_bits_12 rfl 2 rfl ?_
    refine zm_ishr 14 rfl dX11_bits_13 ?_
    refine zm_iconst 15 rfl dX11_bits_14 zi_1 ?_
    refine zm_iand 16 rfl dX11_bits_15 ?_
    refine zm_iadd 17 rfl dX11_bits_16 ?_
    refine zm_nmi (fun x17 _ => ?_)
    refine zm_istore_n (lv' := [(1, .int x17), (0, .int a0), (2, .int l4_2)]) 18 rfl dX11_bits_17 rfl (by decide) rfl ?_
    refine zm_iinc (lv' := fun z => [(2, .int z), (1, .int x17), (0, .int a0)]) 21 rfl dX11_bits_18 zi_1 2 rfl (by decide) (fun _ => rfl) (fun x18 _ => ?_)
    refine zm_goto 4 (by decide) dX11_bits_21 ?_
    exact zm_loc [2, 1, 0] rfl (zm_go (hf4a _) (hD4 (x17, x18)))
abbrev Y_X11_isHouse : zm_Y := (cX11_isHouse, 2, RX11, { frames := 1, cells := 0, slots := 0, locals := 22 }, (some .boolean), false, "isHouse")
noncomputable def f_X11_isHouse (a1 : Int32) (M : zm_Mem) : Option Int32 :=
  zm_ck (zm_in (M.1 52 18) 2) <| zm_b1 (f_X11_in a1 0 ((M.1 63 (M.1 52 18).toNatClampNeg) - 1) M) <| fun r13 => zm_ck (decide (r13 &&& 1 = r13) && fits .boolean (.int r13)) <| some r13
set_option maxRecDepth 20000 in
set_option maxHeartbeats 4000000 in
theorem k_X11_isHouse (E : zm_E) (sv : Nat) (a1 : Int32) (M : zm_Mem) {r : Int32} (h : f_X11_isHouse a1 M = some r) : zm_Ct E (zm_w sv) (zm_w sv) yX11_isHouse Y_X11_isHouse [.ref (E.2.1 + 52), .int a1] M (some (.int r)) M := by
  refine zm_methr (emb := zm_ei) (d := f_X11_isHouse a1 M) (by decide) rfl rfl (Nat.le_of_ble_eq_true rfl) h (fun X => ?_)
  show zm_V X Y_X11_isHouse E (zm_Q X E Y_X11_isHouse.2.2.2.1.cells Y_X11_isHouse.2.2.2.1.slots (zm_w sv) zm_ei) 0 0 false (zm_w sv) 0 [(0, .ref (E.2.1 + 52)), (1, .int a1)] [] M (f_X11_isHouse a1 M) (fun r => some (r, M))
  unfold f_X11_isHouse
  refine zm_iload_n 1 rfl dX11_isHouse_0 rfl 1 rfl ?_
  refine zm_iconst 2 rfl dX11_isHouse_1 zi_0 ?_
  refine zm_aload_n 3 rfl dX11_isHouse_2 rfl 0 rfl ?_
  refine zm_getR (a := 63) 6 rfl dX11_isHouse_3 fl_X11_49 rfl (zm_L (sv := sv) rfl) rfl (by decide) ?_
  refine zm_aload_n 7 rfl dX11_isHouse_6 rfl 0 rfl ?_
  refine zm_getI 10 rfl dX11_isHouse_7 fl_X11_251 rfl (zm_L (sv := sv) rfl) ?_
  refine zm_iald 11 rfl dX11_isHouse_10 rfl (zm_L (sv := sv) rfl) ?_
  refine zm_iconst 12 rfl dX11_isHouse_11 zi_1 ?_
  refine zm_isub 13 rfl dX11_isHouse_12 ?_
  refine zm_cS3ir 16 rfl dX11_isHouse_13 ml_X11_335 (Nat.le_of_ble_eq_true rfl) ⟨Nat.le_of_ble_eq_true rfl, Nat.le_of_ble_eq_true rfl⟩ rfl rfl ⟨Nat.le_refl _, Nat.le_refl _⟩ rfl (fun _ h => k_X11_in E (zm_w sv) a1 0 ((M.1 63 (M.1 52 18).toNatClampNeg) - 1) M h) (fun r13 => ?_)
  refine zm_gd (fun hg16 => ?_)
  exact zm_zret dX11_isHouse_16 rfl (zm_bl1 hg16) (Nat.le_refl _) (Nat.le_refl _) rfl
abbrev Y_X11_isWork : zm_Y := (cX11_isWork, 2, RX11, { frames := 1, cells := 0, slots := 0, locals := 22 }, (some .boolean), false, "isWork")
noncomputable def f_X11_isWork (a1 : Int32) (M : zm_Mem) : Option Int32 :=
  zm_ck (zm_in (M.1 52 18) 2) <| zm_b1 (f_X11_in a1 0 ((M.1 66 (M.1 52 18).toNatClampNeg) - 1) M) <| fun r13 => zm_ck (decide (r13 &&& 1 = r13) && fits .boolean (.int r13)) <| some r13
set_option maxRecDepth 20000 in
set_option maxHeartbeats 4000000 in
theorem k_X11_isWork (E : zm_E) (sv : Nat) (a1 : Int32) (M : zm_Mem) {r : Int32} (h : f_X11_isWork a1 M = some r) : zm_Ct E (zm_w sv) (zm_w sv) yX11_isWork Y_X11_isWork [.ref (E.2.1 + 52), .int a1] M (some (.int r)) M := by
  refine zm_methr (emb := zm_ei) (d := f_X11_isWork a1 M) (by decide) rfl rfl (Nat.le_of_ble_eq_true rfl) h (fun X => ?_)
  show zm_V X Y_X11_isWork E (zm_Q X E Y_X11_isWork.2.2.2.1.cells Y_X11_isWork.2.2.2.1.slots (zm_w sv) zm_ei) 0 0 false (zm_w sv) 0 [(0, .ref (E.2.1 + 52)), (1, .int a1)] [] M (f_X11_isWork a1 M) (fun r => some (r, M))
  unfold f_X11_isWork
  refine zm_iload_n 1 rfl dX11_isWork_0 rfl 1 rfl ?_
  refine zm_iconst 2 rfl dX11_isWork_1 zi_0 ?_
  refine zm_aload_n 3 rfl dX11_isWork_2 rfl 0 rfl ?_
  refine zm_getR (a := 66) 6 rfl dX11_isWork_3 fl_X11_58 rfl (zm_L (sv := sv) rfl) rfl (by decide) ?_
  refine zm_aload_n 7 rfl dX11_isWork_6 rfl 0 rfl ?_
  refine zm_getI 10 rfl dX11_isWork_7 fl_X11_251 rfl (zm_L (sv := sv) rfl) ?_
  refine zm_iald 11 rfl dX11_isWork_10 rfl (zm_L (sv := sv) rfl) ?_
  refine zm_iconst 12 rfl dX11_isWork_11 zi_1 ?_
  refine zm_isub 13 rfl dX11_isWork_12 ?_
  refine zm_cS3ir 16 rfl dX11_isWork_13 ml_X11_335 (Nat.le_of_ble_eq_true rfl) ⟨Nat.le_of_ble_eq_true rfl, Nat.le_of_ble_eq_true rfl⟩ rfl rfl ⟨Nat.le_refl _, Nat.le_refl _⟩ rfl (fun _ h => k_X11_in E (zm_w sv) a1 0 ((M.1 66 (M.1 52 18).toNatClampNeg) - 1) M h) (fun r13 => ?_)
  refine zm_gd (fun hg16 => ?_)
  exact zm_zret dX11_isWork_16 rfl (zm_bl1 hg16) (Nat.le_refl _) (Nat.le_refl _) rfl
abbrev Y_X11_isTerm : zm_Y := (cX11_isTerm, 2, RX11, { frames := 1, cells := 0, slots := 0, locals := 22 }, (some .boolean), false, "isTerm")
noncomputable def f_X11_isTerm (a1 : Int32) (M : zm_Mem) : Option Int32 :=
  zm_ck (zm_in (M.1 52 18) 2) <| zm_b1 (f_X11_in a1 0 ((M.1 71 (M.1 52 18).toNatClampNeg) - 1) M) <| fun r13 => zm_ck (decide (r13 &&& 1 = r13) && fits .boolean (.int r13)) <| some r13
set_option maxRecDepth 20000 in
set_option maxHeartbeats 4000000 in
theorem k_X11_isTerm (E : zm_E) (sv : Nat) (a1 : Int32) (M : zm_Mem) {r : Int32} (h : f_X11_isTerm a1 M = some r) : zm_Ct E (zm_w sv) (zm_w sv) yX11_isTerm Y_X11_isTerm [.ref (E.2.1 + 52), .int a1] M (some (.int r)) M := by
  refine zm_methr (emb := zm_ei) (d := f_X11_isTerm a1 M) (by decide) rfl rfl (Nat.le_of_ble_eq_true rfl) h (fun X => ?_)
  show zm_V X Y_X11_isTerm E (zm_Q X E Y_X11_isTerm.2.2.2.1.cells Y_X11_isTerm.2.2.2.1.slots (zm_w sv) zm_ei) 0 0 false (zm_w sv) 0 [(0, .ref (E.2.1 + 52)), (1, .int a1)] [] M (f_X11_isTerm a1 M) (fun r => some (r, M))
  unfold f_X11_isTerm
  refine zm_iload_n 1 rfl dX11_isTerm_0 rfl 1 rfl ?_
  refine zm_iconst 2 rfl dX11_isTerm_1 zi_0 ?_
  refine zm_aload_n 3 rfl dX11_isTerm_2 rfl 0 rfl ?_
  refine zm_getR (a := 71) 6 rfl dX11_isTerm_3 fl_X11_73 rfl (zm_L (sv := sv) rfl) rfl (by decide) ?_
  refine zm_aload_n 7 rfl dX11_isTerm_6 rfl 0 rfl ?_
  refine zm_getI 10 rfl dX11_isTerm_7 fl_X11_251 rfl (zm_L (sv := sv) rfl) ?_
  refine zm_iald 11 rfl dX11_isTerm_10 rfl (zm_L (sv := sv) rfl) ?_
  refine zm_iconst 12 rfl dX11_isTerm_11 zi_1 ?_
  refine zm_isub 13 rfl dX11_isTerm_12 ?_
  refine zm_cS3ir 16 rfl dX11_isTerm_13 ml_X11_335 (Nat.le_of_ble_eq_true rfl) ⟨Nat.le_of_ble_eq_true rfl, Nat.le_of_ble_eq_true rfl⟩ rfl rfl ⟨Nat.le_refl _, Nat.le_refl _⟩ rfl (fun _ h => k_X11_in E (zm_w sv) a1 0 ((M.1 71 (M.1 52 18).toNatClampNeg) - 1) M h) (fun r13 => ?_)
  refine zm_gd (fun hg16 => ?_)
  exact zm_zret dX11_isTerm_16 rfl (zm_bl1 hg16) (Nat.le_refl _) (Nat.le_refl _) rfl
abbrev Y_X11_ownerNow : zm_Y := (cX11_ownerNow, 2, RX11, { frames := 0, cells := 0, slots := 0, locals := 0 }, (some .int), false, "ownerNow")
noncomputable def f_X11_ownerNow (a1 : Int32) (M : zm_Mem) : Option Int32 :=
  zm_ck (zm_in ((6 * (M.1 52 18)) + a1) 12) <| some (M.1 67 ((6 * (M.1 52 18)) + a1).toNatClampNeg)
set_option maxRecDepth 20000 in
set_option maxHeartbeats 4000000 in
theorem k_X11_ownerNow (E : zm_E) (sv : Nat) (a1 : Int32) (M : zm_Mem) {r : Int32} (h : f_X11_ownerNow a1 M = some r) : zm_Ct E (zm_w sv) (zm_w sv) yX11_ownerNow Y_X11_ownerNow [.ref (E.2.1 + 52), .int a1] M (some (.int r)) M := by
  refine zm_methr (emb := zm_ei) (d := f_X11_ownerNow a1 M) (by decide) rfl rfl (Nat.le_of_ble_eq_true rfl) h (fun X => ?_)
  show zm_V X Y_X11_ownerNow E (zm_Q X E Y_X11_ownerNow.2.2.2.1.cells Y_X11_ownerNow.2.2.2.1.slots (zm_w sv) zm_ei) 0 0 false (zm_w sv) 0 [(0, .ref (E.2.1 + 52)), (1, .int a1)] [] M (f_X11_ownerNow a1 M) (fun r => some (r, M))
  unfold f_X11_ownerNow
  refine zm_aload_n 1 rfl dX11_ownerNow_0 rfl 0 rfl ?_
  refine zm_getR (a := 67) 4 rfl dX11_ownerNow_1 fl_X11_61 rfl (zm_L (sv := sv) rfl) rfl (by decide) ?_
  refine zm_bipush 6 rfl dX11_ownerNow_4 zb_6 ?_
  refine zm_aload_n 7 rfl dX11_ownerNow_6 rfl 0 rfl ?_
  refine zm_getI 10 rfl dX11_ownerNow_7 fl_X11_251 rfl (zm_L (sv := sv) rfl) ?_
  refine zm_imul 11 rfl dX11_ownerNow_10 ?_
  refine zm_iload_n 12 rfl dX11_ownerNow_11 rfl 1 rfl ?_
  refine zm_iadd 13 rfl dX11_ownerNow_12 ?_
  refine zm_iald 14 rfl dX11_ownerNow_13 rfl (zm_L (sv := sv) rfl) ?_
  exact zm_iret dX11_ownerNow_14 rfl (Nat.le_refl _) (Nat.le_refl _) rfl
abbrev Y_X11_copies : zm_Y := (cX11_copies, 2, RX11, { frames := 0, cells := 0, slots := 0, locals := 0 }, none, false, "copies")
noncomputable def f_X11_copies_x26_2 (N26 : zm_Mem) : Option (Unit × zm_Mem) :=
 zm_ck (zm_in (N26.1 52 18) 2) <| zm_v (zm_sI N26 52 58 (N26.1 78 (N26.1 52 18).toNatClampNeg)) <| fun M36 => some ((), M36)
noncomputable def f_X11_copies_l2 (l2_1 : Int32) (L2 : zm_Mem) : Option ((Int32 × zm_Mem) ⊕ zm_Mem) :=
 if (60 : Int32) ≤ l2_1 then (some (.inr L2)) else (zm_ck (zm_in l2_1 60) <| zm_ck (zm_in l2_1 60) <| zm_v (zm_sI L2 92 l2_1.toNatClampNeg (L2.1 91 l2_1.toNatClampNeg)) <| fun M19 => zm_v (l2_1 + 1) <| fun x20 => some (.inl (x20, M19)))
noncomputable def f_X11_copies  (M : zm_Mem) : Option (Unit × zm_Mem) :=
  (zm_lp (fun s => f_X11_copies_l2 s.1 s.2) (0, M)).bind (fun e26 => f_X11_copies_x26_2 e26)
set_option maxRecDepth 20000 in
set_option maxHeartbeats 4000000 in
theorem k_X11_copies (E : zm_E) (sv : Nat)  (M : zm_Mem) {r : Unit} {M' : zm_Mem} (h : f_X11_copies M = some (r, M')) : zm_Ct E (zm_w sv) (zm_w sv) yX11_copies Y_X11_copies [.ref (E.2.1 + 52)] M none M' := by
  refine zm_meth (emb := zm_ev) (d := f_X11_copies M) (by decide) rfl rfl (Nat.le_of_ble_eq_true rfl) h (fun X => ?_)
  show zm_V X Y_X11_copies E (zm_Q X E Y_X11_copies.2.2.2.1.cells Y_X11_copies.2.2.2.1.slots (zm_w sv) zm_ev) 0 0 false (zm_w sv) 0 [(0, .ref (E.2.1 + 52))] [] M (f_X11_copies M) some
  unfold f_X11_copies
  refine zm_iconst 1 rfl dX11_copies_0 zi_0 ?_
  refine zm_istore_n (lv' := [(1, .int 0), (0, .ref (E.2.1 + 52))]) 2 rfl dX11_copies_1 rfl (by decide) rfl ?_
  have hx26_2 : ∀ (N26 : zm_Mem), zm_V X Y_X11_copies E (zm_Q X E Y_X11_copies.2.2.2.1.cells Y_X11_copies.2.2.2.1.slots (zm_w sv) zm_ev) 0 0 false (zm_w sv) 26 [(0, .ref (E.2.1 + 52))] [] N26 (f_X11_copies_x26_2 N26) some := by
    intro N26
    unfold f_X11_copies_x26_2
    refine zm_aload_n 27 rfl dX11_copies_26 rfl 0 rfl ?_
    refine zm_aload_n 28 rfl dX11_copies_27 rfl 0 rfl ?_
    refine zm_getR (a := 78) 31 rfl dX11_copies_28 fl_X11_94 rfl (zm_L (sv := sv) rfl) rfl (by decide) ?_
    refine zm_aload_n 32 rfl dX11_copies_31 rfl 0 rfl ?_
    refine zm_getI 35 rfl dX11_copies_32 fl_X11_251 rfl (zm_L (sv := sv) rfl) ?_
    refine zm_iald 36 rfl dX11_copies_35 rfl (zm_L (sv := sv) rfl) ?_
    refine zm_putI 39 rfl dX11_copies_36 fp_X11_339 rfl (zm_L (sv := sv) rfl) rfl rfl (fun M36 _ => ?_)
    exact zm_vret dX11_copies_39 rfl (Nat.le_refl _) (Nat.le_refl _) rfl
  refine zm_loc [1, 0] rfl (zm_lpp (σ := (Int32 × zm_Mem)) (ε := zm_Mem) (step := fun s => f_X11_copies_l2 s.1 s.2) (fun s => [(0, .ref (E.2.1 + 52)), (1, .int s.1)]) (fun s => s.2) (fun D2 f2 hf2a hf2b hD2 s => ?_) (0, M))
  obtain ⟨l2_1, L2⟩ := s
  show zm_V X Y_X11_copies E (zm_Q X E Y_X11_copies.2.2.2.1.cells Y_X11_copies.2.2.2.1.slots (zm_w sv) zm_ev) 0 0 false (zm_w sv) 2 [(0, .ref (E.2.1 + 52)), (1, .int l2_1)] [] L2 (f_X11_copies_l2 l2_1 L2) f2
  unfold f_X11_copies_l2
  refine zm_iload_n 3 rfl dX11_copies_2 rfl 1 rfl ?_
  refine zm_bipush 5 rfl dX11_copies_3 zb_60 ?_
  refine zm_icmp_ge 26 8 (by decide) rfl dX11_copies_5 ?_ ?_
  · exact zm_loc [0] rfl (zm_go (hf2b _) (zm_unb (hx26_2 L2)))
  · refine zm_aload_n 9 rfl dX11_copies_8 rfl 0 rfl ?_
    refine zm_getR (a := 92) 12 rfl dX11_copies_9 fl_X11_137 rfl (zm_L (sv := sv) rfl) rfl (by decide) ?_
    refine zm_iload_n 13 rfl dX11_copies_12 rfl 1 rfl ?_
    refine zm_aload_n 14 rfl dX11_copies_13 rfl 0 rfl ?_
    refine zm_getR (a := 91) 17 rfl dX11_copies_14 fl_X11_134 rfl (zm_L (sv := sv) rfl) rfl (by decide) ?_
    refine zm_iload_n 18 rfl dX11_copies_17 rfl 1 rfl ?_
    refine zm_iald 19 rfl dX11_copies_18 rfl (zm_L (sv := sv) rfl) ?_
    refine zm_iast 20 rfl dX11_copies_19 rfl (zm_L (sv := sv) rfl) (fun M19 _ => ?_)
    refine zm_iinc (lv' := fun z => [(1, .int z), (0, .ref (E.2.1 + 52))]) 23 rfl dX11_copies_20 zi_1 1 rfl (by decide) (fun _ => rfl) (fun x20 _ => ?_)
    refine zm_goto 2 (by decide) dX11_copies_23 ?_
    exact zm_loc [1, 0] rfl (zm_go (hf2a _) (hD2 (x20, M19)))
abbrev Y_X11_mixed : zm_Y := (cX11_mixed, 3, RX11, { frames := 0, cells := 0, slots := 0, locals := 0 }, (some .int), false, "mixed")
noncomputable def f_X11_mixed (a0 : Int32) (a1 : Int32) (M : zm_Mem) : Option Int32 :=
  zm_v (((a0 ^^^ a1) * 1103515245) + 12345) <| fun x11 => some (x11 ^^^ ((x11.toUInt32 >>> ((15 : Int32).toUInt32 &&& Int32.toUInt32 31)).toInt32))
set_option maxRecDepth 20000 in
set_option maxHeartbeats 4000000 in
theorem k_X11_mixed (E : zm_E) (w : zm_W) (a0 : Int32) (a1 : Int32) (M : zm_Mem) {r : Int32} (h : f_X11_mixed a0 a1 M = some r) : zm_Ct E w w yX11_mixed Y_X11_mixed [.int a0, .int a1] M (some (.int r)) M := by
  refine zm_methr (emb := zm_ei) (d := f_X11_mixed a0 a1 M) (by decide) rfl rfl (Nat.le_of_ble_eq_true rfl) h (fun X => ?_)
  show zm_V X Y_X11_mixed E (zm_Q X E Y_X11_mixed.2.2.2.1.cells Y_X11_mixed.2.2.2.1.slots w zm_ei) 0 0 false w 0 [(0, .int a0), (1, .int a1)] [] M (f_X11_mixed a0 a1 M) (fun r => some (r, M))
  unfold f_X11_mixed
  refine zm_iload_n 1 rfl dX11_mixed_0 rfl 0 rfl ?_
  refine zm_iload_n 2 rfl dX11_mixed_1 rfl 1 rfl ?_
  refine zm_ixor 3 rfl dX11_mixed_2 ?_
  refine zm_ldcw 6 rfl dX11_mixed_3 kc_X11_342 ?_
  refine zm_imul 7 rfl dX11_mixed_6 ?_
  refine zm_sipush 10 rfl dX11_mixed_7 zs_12345 ?_
  refine zm_iadd 11 rfl dX11_mixed_10 ?_
  refine zm_nmi (fun x11 _ => ?_)
  refine zm_istore_n (lv' := [(2, .int x11), (0, .int a0), (1, .int a1)]) 12 rfl dX11_mixed_11 rfl (by decide) rfl ?_
  refine zm_iload_n 13 rfl dX11_mixed_12 rfl 0 rfl ?_
  refine zm_iload_n 14 rfl dX11_mixed_13 rfl 0 rfl ?_
  refine zm_bipush 16 rfl dX11_mixed_14 zb_15 ?_
  refine zm_iushr 17 rfl dX11_mixed_16 ?_
  refine zm_ixor 18 rfl dX11_mixed_17 ?_
  exact zm_iret dX11_mixed_18 rfl (Nat.le_refl _) (Nat.le_refl _) rfl
abbrev Y_X11_looks : zm_Y := (cX11_looks, 8, RX11, { frames := 1, cells := 0, slots := 0, locals := 21 }, none, false, "looks")
noncomputable def f_X11_looks_b212 (a2 : Int32) (M191 : zm_Mem) (b212_s1 : Int32) (b212_s2 : Int32) : Option (Unit × zm_Mem) :=
 zm_ck (zm_in b212_s1 9) <| zm_v (zm_sI M191 89 b212_s1.toNatClampNeg b212_s2) <| fun M212 => zm_ck (zm_in 7 9) <| zm_v (zm_sI M212 89 (7 : Int32).toNatClampNeg a2) <| fun M220 => zm_ck (zm_in 30 60) <| zm_ck (zm_in 8 9) <| zm_v (zm_sI M220 89 (8 : Int32).toNatClampNeg (M220.1 92 (30 : Int32).toNatClampNeg)) <| fun M234 => some ((), M234)
noncomputable def f_X11_looks_b98 (a1 : Int32) (a2 : Int32) (M : zm_Mem) (b98_5 : Int32) (b98_6 : Int32) : Option (Unit × zm_Mem) :=
 zm_ck (zm_in ((5 * (M.1 52 18)) + a2) 10) <| zm_ck (zm_in 0 9) <| zm_v (zm_sI M 89 (0 : Int32).toNatClampNeg (M.1 64 ((5 * (M.1 52 18)) + a2).toNatClampNeg)) <| fun M116 => zm_ck (zm_in ((5 * (M116.1 52 18)) + a2) 10) <| zm_ck (zm_in 1 9) <| zm_v (zm_sI M116 89 (1 : Int32).toNatClampNeg (M116.1 65 ((5 * (M116.1 52 18)) + a2).toNatClampNeg)) <| fun M135 => zm_ck (zm_in ((6 * (M135.1 52 18)) + a1) 12) <| zm_ck (zm_in 2 9) <| zm_v (zm_sI M135 89 (2 : Int32).toNatClampNeg (M135.1 69 ((6 * (M135.1 52 18)) + a1).toNatClampNeg)) <| fun M155 => zm_ck (zm_in ((6 * (M155.1 52 18)) + a1) 12) <| zm_ck (zm_in 3 9) <| zm_v (zm_sI M155 89 (3 : Int32).toNatClampNeg (M155.1 70 ((6 * (M155.1 52 18)) + a1).toNatClampNeg)) <| fun M175 => zm_ck (zm_in 4 9) <| zm_v (zm_sI M175 89 (4 : Int32).toNatClampNeg b98_5) <| fun M183 => zm_ck (zm_in 5 9) <| zm_v (zm_sI M183 89 (5 : Int32).toNatClampNeg b98_6) <| fun M191 => zm_b1 (f_X11_ownerNow a1 M191) <| fun r200 => if r200 = a2 then (f_X11_looks_b212 a2 M191 6 1) else (f_X11_looks_b212 a2 M191 6 0)
noncomputable def f_X11_looks_b92_9 (l9_7 : Int32) (b92_5 : Int32) (b92_6 : Int32) : Option ((Int32 × Int32 × Int32) ⊕ (Int32 × Int32)) :=
 zm_v (l9_7 + 1) <| fun x92 => some (.inl (b92_5, b92_6, x92))
noncomputable def f_X11_looks_l9 (a1 : Int32) (a2 : Int32) (a3 : Int32) (a4 : Int32) (M : zm_Mem) (l9_5 : Int32) (l9_6 : Int32) (l9_7 : Int32) : Option ((Int32 × Int32 × Int32) ⊕ (Int32 × Int32)) :=
 zm_ck (zm_in (M.1 52 18) 2) <| if (M.1 66 (M.1 52 18).toNatClampNeg) ≤ l9_7 then (some (.inr (l9_5, l9_6))) else (if a3 = 0 then (if l9_7 = a1 then (f_X11_looks_b92_9 l9_7 l9_5 l9_6) else (if l9_7 = a4 then (f_X11_looks_b92_9 l9_7 l9_5 l9_6) else (zm_ck (zm_in l9_7 60) <| if (M.1 92 l9_7.toNatClampNeg) = a2 then (zm_v (l9_5 + 1) <| fun x54 => zm_ck (zm_in ((6 * (M.1 52 18)) + l9_7) 12) <| zm_ck (zm_in ((6 * (M.1 52 18)) + a1) 12) <| if (M.1 69 ((6 * (M.1 52 18)) + l9_7).toNatClampNeg) = (M.1 69 ((6 * (M.1 52 18)) + a1).toNatClampNeg) then (zm_v (l9_6 + 1) <| fun x89 => f_X11_looks_b92_9 l9_7 x54 x89) else (f_X11_looks_b92_9 l9_7 x54 l9_6)) else (f_X11_looks_b92_9 l9_7 l9_5 l9_6)))) else (some (.inr (l9_5, l9_6))))
noncomputable def f_X11_looks (a1 : Int32) (a2 : Int32) (a3 : Int32) (a4 : Int32) (M : zm_Mem) : Option (Unit × zm_Mem) :=
  (zm_lp (fun s => f_X11_looks_l9 a1 a2 a3 a4 M s.1 s.2.1 s.2.2) (0, 0, 0)).bind (fun e98 => f_X11_looks_b98 a1 a2 M e98.1 e98.2)
set_option maxRecDepth 20000 in
set_option maxHeartbeats 4000000 in
theorem k_X11_looks (E : zm_E) (sv : Nat) (a1 : Int32) (a2 : Int32) (a3 : Int32) (a4 : Int32) (M : zm_Mem) {r : Unit} {M' : zm_Mem} (h : f_X11_looks a1 a2 a3 a4 M = some (r, M')) : zm_Ct E (zm_w sv) (zm_w sv) yX11_looks Y_X11_looks [.ref (E.2.1 + 52), .int a1, .int a2, .int a3, .int a4] M none M' := by
  refine zm_meth (emb := zm_ev) (d := f_X11_looks a1 a2 a3 a4 M) (by decide) rfl rfl (Nat.le_of_ble_eq_true rfl) h (fun X => ?_)
  show zm_V X Y_X11_looks E (zm_Q X E Y_X11_looks.2.2.2.1.cells Y_X11_looks.2.2.2.1.slots (zm_w sv) zm_ev) 0 0 false (zm_w sv) 0 [(0, .ref (E.2.1 + 52)), (1, .int a1), (2, .int a2), (3, .int a3), (4, .int a4)] [] M (f_X11_looks a1 a2 a3 a4 M) some
  unfold f_X11_looks
  refine zm_iconst 1 rfl dX11_looks_0 zi_0 ?_
  refine zm_istore (lv' := [(5, .int 0), (0, .ref (E.2.1 + 52)), (1, .int a1), (2, .int a2), (3, .int a3), (4, .int a4)]) 3 rfl dX11_looks_1 (by decide) rfl ?_
  refine zm_iconst 4 rfl dX11_looks_3 zi_0 ?_
  refine zm_istore (lv' := [(6, .int 0), (5, .int 0), (0, .ref (E.2.1 + 52)), (1, .int a1), (2, .int a2), (3, .int a3), (4, .int a4)]) 6 rfl dX11_looks_4 (by decide) rfl ?_
  refine zm_iconst 7 rfl dX11_looks_6 zi_0 ?_
  refine zm_istore (lv' := [(7, .int 0), (6, .int 0), (5, .int 0), (0, .ref (E.2.1 + 52)), (1, .int a1), (2, .int a2), (3, .int a3), (4, .int a4)]) 9 rfl dX11_looks_7 (by decide) rfl ?_
  have hb98 : ∀ (b98_5 : Int32) (b98_6 : Int32), zm_V X Y_X11_looks E (zm_Q X E Y_X11_looks.2.2.2.1.cells Y_X11_looks.2.2.2.1.slots (zm_w sv) zm_ev) 0 0 false (zm_w sv) 98 [(0, .ref (E.2.1 + 52)), (1, .int a1), (2, .int a2), (5, .int b98_5), (6, .int b98_6)] [] M (f_X11_looks_b98 a1 a2 M b98_5 b98_6) some := by
    intro b98_5 b98_6
    unfold f_X11_looks_b98
    refine zm_aload_n 99 rfl dX11_looks_98 rfl 0 rfl ?_
    refine zm_getR (a := 89) 102 rfl dX11_looks_99 fl_X11_128 rfl (zm_L (sv := sv) rfl) rfl (by decide) ?_
    refine zm_iconst 103 rfl dX11_looks_102 zi_0 ?_
    refine zm_aload_n 104 rfl dX11_looks_103 rfl 0 rfl ?_
    refine zm_getR (a := 64) 107 rfl dX11_looks_104 fl_X11_52 rfl (zm_L (sv := sv) rfl) rfl (by decide) ?_
    refine zm_iconst 108 rfl dX11_looks_107 zi_5 ?_
    refine zm_aload_n 109 rfl dX11_looks_108 rfl 0 rfl ?_
    refine zm_getI 112 rfl dX11_looks_109 fl_X11_251 rfl (zm_L (sv := sv) rfl) ?_
    refine zm_imul 113 rfl dX11_looks_112 ?_
    refine zm_iload_n 114 rfl dX11_looks_113 rfl 2 rfl ?_
    refine zm_iadd 115 rfl dX11_looks_114 ?_
    refine zm_iald 116 rfl dX11_looks_115 rfl (zm_L (sv := sv) rfl) ?_
    refine zm_iast 117 rfl dX11_looks_116 rfl (zm_L (sv := sv) rfl) (fun M116 _ => ?_)
    refine zm_aload_n 118 rfl dX11_looks_117 rfl 0 rfl ?_
    refine zm_getR (a := 89) 121 rfl dX11_looks_118 fl_X11_128 rfl (zm_L (sv := sv) rfl) rfl (by decide) ?_
    refine zm_iconst 122 rfl dX11_looks_121 zi_1 ?_
    refine zm_aload_n 123 rfl dX11_looks_122 rfl 0 rfl ?_
    refine zm_getR (a := 65) 126 rfl dX11_looks_123 fl_X11_55 rfl (zm_L (sv := sv) rfl) rfl (by decide) ?_
    refine zm_iconst 127 rfl dX11_looks_126 zi_5 ?_
    refine zm_aload_n 128 rfl dX11_looks_127 rfl 0 rfl ?_
    refine zm_getI 131 rfl dX11_looks_128 fl_X11_251 rfl (zm_L (sv := sv) rfl) ?_
    refine zm_imul 132 rfl dX11_looks_131 ?_
    refine zm_iload_n 133 rfl dX11_looks_132 rfl 2 rfl ?_
    refine zm_iadd 134 rfl dX11_looks_133 ?_
    refine zm_iald 135 rfl dX11_looks_134 rfl (zm_L (sv := sv) rfl) ?_
    refine zm_iast 136 rfl dX11_looks_135 rfl (zm_L (sv := sv) rfl) (fun M135 _ => ?_)
    refine zm_aload_n 137 rfl dX11_looks_136 rfl 0 rfl ?_
    refine zm_getR (a := 89) 140 rfl dX11_looks_137 fl_X11_128 rfl (zm_L (sv := sv) rfl) rfl (by decide) ?_
    refine zm_iconst 141 rfl dX11_looks_140 zi_2 ?_
    refine zm_aload_n 142 rfl dX11_looks_141 rfl 0 rfl ?_
    refine zm_getR (a := 69) 145 rfl dX11_looks_142 fl_X11_67 rfl (zm_L (sv := sv) rfl) rfl (by decide) ?_
    refine zm_bipush 147 rfl dX11_looks_145 zb_6 ?_
    refine zm_aload_n 148 rfl dX11_looks_147 rfl 0 rfl ?_
    refine zm_getI 151 rfl dX11_looks_148 fl_X11_251 rfl (zm_L (sv := sv) rfl) ?_
    refine zm_imul 152 rfl dX11_looks_151 ?_
    refine zm_iload_n 153 rfl dX11_looks_152 rfl 1 rfl ?_
    refine zm_iadd 154 rfl dX11_looks_153 ?_
    refine zm_iald 155 rfl dX11_looks_154 rfl (zm_L (sv := sv) rfl) ?_
    refine zm_iast 156 rfl dX11_looks_155 rfl (zm_L (sv := sv) rfl) (fun M155 _ => ?_)
    refine zm_aload_n 157 rfl dX11_looks_156 rfl 0 rfl ?_
    refine zm_getR (a := 89) 160 rfl dX11_looks_157 fl_X11_128 rfl (zm_L (sv := sv) rfl) rfl (by decide) ?_
    refine zm_iconst 161 rfl dX11_looks_160 zi_3 ?_
    refine zm_aload_n 162 rfl dX11_looks_161 rfl 0 rfl ?_
    refine zm_getR (a := 70) 165 rfl dX11_looks_162 fl_X11_70 rfl (zm_L (sv := sv) rfl) rfl (by decide) ?_
    refine zm_bipush 167 rfl dX11_looks_165 zb_6 ?_
    refine zm_aload_n 168 rfl dX11_looks_167 rfl 0 rfl ?_
    refine zm_getI 171 rfl dX11_looks_168 fl_X11_251 rfl (zm_L (sv := sv) rfl) ?_
    refine zm_imul 172 rfl dX11_looks_171 ?_
    refine zm_iload_n 173 rfl dX11_looks_172 rfl 1 rfl ?_
    refine zm_iadd 174 rfl dX11_looks_173 ?_
    refine zm_iald 175 rfl dX11_looks_174 rfl (zm_L (sv := sv) rfl) ?_
    refine zm_iast 176 rfl dX11_looks_175 rfl (zm_L (sv := sv) rfl) (fun M175 _ => ?_)
    refine zm_aload_n 177 rfl dX11_looks_176 rfl 0 rfl ?_
    refine zm_getR (a := 89) 180 rfl dX11_looks_177 fl_X11_128 rfl (zm_L (sv := sv) rfl) rfl (by decide) ?_
    refine zm_iconst 181 rfl dX11_looks_180 zi_4 ?_
    refine zm_iload 183 rfl dX11_looks_181 3 rfl ?_
    refine zm_iast 184 rfl dX11_looks_183 rfl (zm_L (sv := sv) rfl) (fun M183 _ => ?_)
    refine zm_aload_n 185 rfl dX11_looks_184 rfl 0 rfl ?_
    refine zm_getR (a := 89) 188 rfl dX11_looks_185 fl_X11_128 rfl (zm_L (sv := sv) rfl) rfl (by decide) ?_
    refine zm_iconst 189 rfl dX11_looks_188 zi_5 ?_
    refine zm_iload 191 rfl dX11_looks_189 4 rfl ?_
    refine zm_iast 192 rfl dX11_looks_191 rfl (zm_L (sv := sv) rfl) (fun M191 _ => ?_)
    refine zm_aload_n 193 rfl dX11_looks_192 rfl 0 rfl ?_
    refine zm_getR (a := 89) 196 rfl dX11_looks_193 fl_X11_128 rfl (zm_L (sv := sv) rfl) rfl (by decide) ?_
    refine zm_bipush 198 rfl dX11_looks_196 zb_6 ?_
    refine zm_aload_n 199 rfl dX11_looks_198 rfl 0 rfl ?_
    refine zm_iload_n 200 rfl dX11_looks_199 rfl 1 rfl ?_
    refine zm_cV1ir 203 rfl dX11_looks_200 ml_X11_343 rfl (zm_L (sv := sv) rfl) rfl (Nat.le_of_ble_eq_true rfl) ⟨Nat.le_of_ble_eq_true rfl, Nat.le_of_ble_eq_true rfl⟩ rfl rfl ⟨Nat.le_refl _, Nat.le_refl _⟩ rfl (fun _ h => k_X11_ownerNow E sv a1 M191 h) (fun r200 => ?_)
    refine zm_iload_n 204 rfl dX11_looks_203 rfl 2 rfl ?_
    have hb212 : ∀ (b212_s1 : Int32) (b212_s2 : Int32), zm_V X Y_X11_looks E (zm_Q X E Y_X11_looks.2.2.2.1.cells Y_X11_looks.2.2.2.1.slots (zm_w sv) zm_ev) 0 0 false (zm_w sv) 212 [(0, .ref (E.2.1 + 52)), (2, .int a2)] [.int b212_s2, .int b212_s1, .ref (E.2.1 + 89)] M191 (f_X11_looks_b212 a2 M191 b212_s1 b212_s2) some := by
      intro b212_s1 b212_s2
      unfold f_X11_looks_b212
      refine zm_iast 213 rfl dX11_looks_212 rfl (zm_L (sv := sv) rfl) (fun M212 _ => ?_)
      refine zm_aload_n 214 rfl dX11_looks_213 rfl 0 rfl ?_
      refine zm_getR (a := 89) 217 rfl dX11_looks_214 fl_X11_128 rfl (zm_L (sv := sv) rfl) rfl (by decide) ?_
      refine zm_bipush 219 rfl dX11_looks_217 zb_7 ?_
      refine zm_iload_n 220 rfl dX11_looks_219 rfl 1 rfl ?_
      refine zm_iast 221 rfl dX11_looks_220 rfl (zm_L (sv := sv) rfl) (fun M220 _ => ?_)
      refine zm_aload_n 222 rfl dX11_looks_221 rfl 0 rfl ?_
      refine zm_getR (a := 89) 225 rfl dX11_looks_222 fl_X11_128 rfl (zm_L (sv := sv) rfl) rfl (by decide) ?_
      refine zm_bipush 227 rfl dX11_looks_225 zb_8 ?_
      refine zm_aload_n 228 rfl dX11_looks_227 rfl 0 rfl ?_
      refine zm_getR (a := 92) 231 rfl dX11_looks_228 fl_X11_137 rfl (zm_L (sv := sv) rfl) rfl (by decide) ?_
      refine zm_bipush 233 rfl dX11_looks_231 zb_30 ?_
      refine zm_iald 234 rfl dX11_looks_233 rfl (zm_L (sv := sv) rfl) ?_
      refine zm_iast 235 rfl dX11_looks_234 rfl (zm_L (sv := sv) rfl) (fun M234 _ => ?_)
      exact zm_vret dX11_looks_235 rfl (Nat.le_refl _) (Nat.le_refl _) rfl
    refine zm_icmp_ne 211 207 (by decide) rfl dX11_looks_204 ?_ ?_
    · refine zm_iconst 208 rfl dX11_looks_207 zi_1 ?_
      refine zm_goto 212 (by decide) dX11_looks_208 ?_
      exact zm_loc [0, 2] rfl (hb212 6 1)
    · refine zm_iconst 212 rfl dX11_looks_211 zi_0 ?_
      exact zm_loc [0, 2] rfl (hb212 6 0)
  have hx98_9 : ∀ (e98_5 : Int32) (e98_6 : Int32), zm_V X Y_X11_looks E (zm_Q X E Y_X11_looks.2.2.2.1.cells Y_X11_looks.2.2.2.1.slots (zm_w sv) zm_ev) 0 0 false (zm_w sv) 98 [(0, .ref (E.2.1 + 52)), (1, .int a1), (2, .int a2), (5, .int e98_5), (6, .int e98_6)] [] M (f_X11_looks_b98 a1 a2 M e98_5 e98_6) some := by
    intro e98_5 e98_6
    exact zm_loc [0, 1, 2, 3, 4] rfl (hb98 e98_5 e98_6)
  refine zm_loc [3, 4, 5, 6, 7, 2, 1, 0] rfl (zm_lpp (σ := (Int32 × Int32 × Int32)) (ε := (Int32 × Int32)) (step := fun s => f_X11_looks_l9 a1 a2 a3 a4 M s.1 s.2.1 s.2.2) (fun s => [(0, .ref (E.2.1 + 52)), (1, .int a1), (2, .int a2), (3, .int a3), (4, .int a4), (5, .int s.1), (6, .int s.2.1), (7, .int s.2.2)]) (fun _ => M) (fun D9 f9 hf9a hf9b hD9 s => ?_) (0, 0, 0))
  obtain ⟨l9_5, l9_6, l9_7⟩ := s
  show zm_V X Y_X11_looks E (zm_Q X E Y_X11_looks.2.2.2.1.cells Y_X11_looks.2.2.2.1.slots (zm_w sv) zm_ev) 0 0 false (zm_w sv) 9 [(0, .ref (E.2.1 + 52)), (1, .int a1), (2, .int a2), (3, .int a3), (4, .int a4), (5, .int l9_5), (6, .int l9_6), (7, .int l9_7)] [] M (f_X11_looks_l9 a1 a2 a3 a4 M l9_5 l9_6 l9_7) f9
  unfold f_X11_looks_l9
  refine zm_iload 11 rfl dX11_looks_9 7 rfl ?_
  refine zm_aload_n 12 rfl dX11_looks_11 rfl 0 rfl ?_
  refine zm_getR (a := 66) 15 rfl dX11_looks_12 fl_X11_58 rfl (zm_L (sv := sv) rfl) rfl (by decide) ?_
  refine zm_aload_n 16 rfl dX11_looks_15 rfl 0 rfl ?_
  refine zm_getI 19 rfl dX11_looks_16 fl_X11_251 rfl (zm_L (sv := sv) rfl) ?_
  refine zm_iald 20 rfl dX11_looks_19 rfl (zm_L (sv := sv) rfl) ?_
  refine zm_icmp_ge 98 23 (by decide) rfl dX11_looks_20 ?_ ?_
  · exact zm_loc [0, 1, 2, 5, 6] rfl (zm_go (hf9b _) (zm_unb (hx98_9 l9_5 l9_6)))
  · refine zm_iload_n 24 rfl dX11_looks_23 rfl 3 rfl ?_
    refine zm_if_ne 98 27 (by decide) rfl dX11_looks_24 ?_ ?_
    · refine zm_iload 29 rfl dX11_looks_27 7 rfl ?_
      refine zm_iload_n 30 rfl dX11_looks_29 rfl 1 rfl ?_
      have hb92_9 : ∀ (b92_5 : Int32) (b92_6 : Int32), zm_V X Y_X11_looks E (zm_Q X E Y_X11_looks.2.2.2.1.cells Y_X11_looks.2.2.2.1.slots (zm_w sv) zm_ev) 0 0 false (zm_w sv) 92 [(0, .ref (E.2.1 + 52)), (1, .int a1), (2, .int a2), (3, .int a3), (4, .int a4), (5, .int b92_5), (6, .int b92_6), (7, .int l9_7)] [] M (f_X11_looks_b92_9 l9_7 b92_5 b92_6) f9 := by
        intro b92_5 b92_6
        unfold f_X11_looks_b92_9
        refine zm_iinc (lv' := fun z => [(7, .int z), (0, .ref (E.2.1 + 52)), (1, .int a1), (2, .int a2), (3, .int a3), (4, .int a4), (5, .int b92_5), (6, .int b92_6)]) 95 rfl dX11_looks_92 zi_1 7 rfl (by decide) (fun _ => rfl) (fun x92 _ => ?_)
        refine zm_goto 9 (by decide) dX11_looks_95 ?_
        exact zm_loc [1, 2, 3, 4, 5, 6, 7, 0] rfl (zm_go (hf9a _) (hD9 (b92_5, b92_6, x92)))
      refine zm_icmp_eq 92 33 (by decide) rfl dX11_looks_30 ?_ ?_
      · exact zm_loc [0, 1, 2, 3, 4, 5, 6, 7] rfl (hb92_9 l9_5 l9_6)
      · refine zm_iload 35 rfl dX11_looks_33 7 rfl ?_
        refine zm_iload 37 rfl dX11_looks_35 4 rfl ?_
        refine zm_icmp_eq 92 40 (by decide) rfl dX11_looks_37 ?_ ?_
        · exact zm_loc [0, 1, 2, 3, 4, 5, 6, 7] rfl (hb92_9 l9_5 l9_6)
        · refine zm_aload_n 41 rfl dX11_looks_40 rfl 0 rfl ?_
          refine zm_getR (a := 92) 44 rfl dX11_looks_41 fl_X11_137 rfl (zm_L (sv := sv) rfl) rfl (by decide) ?_
          refine zm_iload 46 rfl dX11_looks_44 7 rfl ?_
          refine zm_iald 47 rfl dX11_looks_46 rfl (zm_L (sv := sv) rfl) ?_
          refine zm_iload_n 48 rfl dX11_looks_47 rfl 2 rfl ?_
          refine zm_icmp_eq 54 51 (by decide) rfl dX11_looks_48 ?_ ?_
          · refine zm_iinc (lv' := fun z => [(5, .int z), (0, .ref (E.2.1 + 52)), (1, .int a1), (2, .int a2), (3, .int a3), (4, .int a4), (6, .int l9_6), (7, .int l9_7)]) 57 rfl dX11_looks_54 zi_1 5 rfl (by decide) (fun _ => rfl) (fun x54 _ => ?_)
            refine zm_aload_n 58 rfl dX11_looks_57 rfl 1 rfl ?_
            refine zm_getR (a := 69) 61 rfl dX11_looks_58 fl_X11_67 rfl (zm_L (sv := sv) rfl) rfl (by decide) ?_
            refine zm_bipush 63 rfl dX11_looks_61 zb_6 ?_
            refine zm_aload_n 64 rfl dX11_looks_63 rfl 1 rfl ?_
            refine zm_getI 67 rfl dX11_looks_64 fl_X11_251 rfl (zm_L (sv := sv) rfl) ?_
            refine zm_imul 68 rfl dX11_looks_67 ?_
            refine zm_iload 70 rfl dX11_looks_68 7 rfl ?_
            refine zm_iadd 71 rfl dX11_looks_70 ?_
            refine zm_iald 72 rfl dX11_looks_71 rfl (zm_L (sv := sv) rfl) ?_
            refine zm_aload_n 73 rfl dX11_looks_72 rfl 1 rfl ?_
            refine zm_getR (a := 69) 76 rfl dX11_looks_73 fl_X11_67 rfl (zm_L (sv := sv) rfl) rfl (by decide) ?_
            refine zm_bipush 78 rfl dX11_looks_76 zb_6 ?_
            refine zm_aload_n 79 rfl dX11_looks_78 rfl 1 rfl ?_
            refine zm_getI 82 rfl dX11_looks_79 fl_X11_251 rfl (zm_L (sv := sv) rfl) ?_
            refine zm_imul 83 rfl dX11_looks_82 ?_
            refine zm_iload_n 84 rfl dX11_looks_83 rfl 2 rfl ?_
            refine zm_iadd 85 rfl dX11_looks_84 ?_
            refine zm_iald 86 rfl dX11_looks_85 rfl (zm_L (sv := sv) rfl) ?_
            refine zm_icmp_ne 92 89 (by decide) rfl dX11_looks_86 ?_ ?_
            · refine zm_iinc (lv' := fun z => [(6, .int z), (5, .int x54), (0, .ref (E.2.1 + 52)), (1, .int a1), (2, .int a2), (3, .int a3), (4, .int a4), (7, .int l9_7)]) 92 rfl dX11_looks_89 zi_1 6 rfl (by decide) (fun _ => rfl) (fun x89 _ => ?_)
              exact zm_loc [2, 3, 4, 5, 6, 1, 0, 7] rfl (hb92_9 x54 x89)
            · exact zm_loc [1, 2, 3, 4, 5, 0, 6, 7] rfl (hb92_9 x54 l9_6)
          · refine zm_goto 92 (by decide) dX11_looks_51 ?_
            exact zm_loc [0, 1, 2, 3, 4, 5, 6, 7] rfl (hb92_9 l9_5 l9_6)
    · exact zm_loc [0, 1, 2, 5, 6] rfl (zm_go (hf9b _) (zm_unb (hx98_9 l9_5 l9_6)))
abbrev Y_X11_lawTells : zm_Y := (cX11_lawTells, 5, RX11, { frames := 1, cells := 0, slots := 0, locals := 27 }, (some .int), false, "lawTells")
noncomputable def f_X11_lawTells_b84 (b84_2 : Int32) (M84 : zm_Mem) : Option (Int32 × zm_Mem) :=
 zm_ck (zm_in b84_2 260) <| zm_ck (zm_in b84_2 260) <| zm_b2 (f_X11_termOf (M84.1 84 b84_2.toNatClampNeg) (M84.1 85 b84_2.toNatClampNeg) M84) <| fun r97 M97 => if (M97.1 52 55) = 0 then (some (r97, M97)) else (some (0, M97))
noncomputable def f_X11_lawTells_l12 (a1 : Int32) (l12_2 : Int32) (L12 : zm_Mem) : Option ((Int32 × zm_Mem) ⊕ (zm_Mem ⊕ (Int32 × zm_Mem) ⊕ zm_Mem)) :=
 zm_ck (zm_in a1 4) <| if (L12.1 80 a1.toNatClampNeg) ≤ l12_2 then (some (.inr (.inr (.inr L12)))) else (zm_ck (zm_in l12_2 260) <| if (L12.1 81 l12_2.toNatClampNeg) = 0 then (some (.inr (.inr (.inl (l12_2, L12))))) else (zm_ck (zm_in l12_2 260) <| zm_ck (zm_in l12_2 260) <| zm_b2 (f_X11_termOf (L12.1 82 l12_2.toNatClampNeg) (L12.1 83 l12_2.toNatClampNeg) L12) <| fun r44 M44 => zm_ck (zm_in l12_2 260) <| zm_ck (zm_in l12_2 260) <| zm_b2 (f_X11_termOf (M44.1 83 l12_2.toNatClampNeg) (M44.1 84 l12_2.toNatClampNeg) M44) <| fun r61 M61 => if (M61.1 52 55) = 0 then (if r44 < r61 then (some (.inr (.inr (.inl (l12_2, M61))))) else (zm_v (l12_2 + 1) <| fun x114 => some (.inl (x114, M61)))) else (some (.inr (.inl M61)))))
noncomputable def f_X11_lawTells (a1 : Int32) (M : zm_Mem) : Option (Int32 × zm_Mem) :=
  zm_v (zm_sI M 52 55 0) <| fun M2 => zm_ck (zm_in a1 4) <| zm_v (M2.1 79 a1.toNatClampNeg) <| fun x11 => (zm_lp (fun s => f_X11_lawTells_l12 a1 s.1 s.2) (x11, M2)).bind (Sum.elim (fun e73 => some (0, e73)) (Sum.elim (fun e84 => f_X11_lawTells_b84 e84.1 e84.2) (fun e120 => some (0, e120))))
set_option maxRecDepth 20000 in
set_option maxHeartbeats 4000000 in
theorem k_X11_lawTells (E : zm_E) (sv : Nat) (a1 : Int32) (M : zm_Mem) {r : Int32} {M' : zm_Mem} (h : f_X11_lawTells a1 M = some (r, M')) : zm_Ct E (zm_w sv) (zm_w sv) yX11_lawTells Y_X11_lawTells [.ref (E.2.1 + 52), .int a1] M (some (.int r)) M' := by
  refine zm_meth (emb := zm_ei) (d := f_X11_lawTells a1 M) (by decide) rfl rfl (Nat.le_of_ble_eq_true rfl) h (fun X => ?_)
  show zm_V X Y_X11_lawTells E (zm_Q X E Y_X11_lawTells.2.2.2.1.cells Y_X11_lawTells.2.2.2.1.slots (zm_w sv) zm_ei) 0 0 false (zm_w sv) 0 [(0, .ref (E.2.1 + 52)), (1, .int a1)] [] M (f_X11_lawTells a1 M) some
  unfold f_X11_lawTells
  refine zm_aload_n 1 rfl dX11_lawTells_0 rfl 0 rfl ?_
  refine zm_iconst 2 rfl dX11_lawTells_1 zi_0 ?_
  refine zm_putI 5 rfl dX11_lawTells_2 fp_X11_331 rfl (zm_L (sv := sv) rfl) rfl rfl (fun M2 _ => ?_)
  refine zm_aload_n 6 rfl dX11_lawTells_5 rfl 0 rfl ?_
  refine zm_getR (a := 79) 9 rfl dX11_lawTells_6 fl_X11_97 rfl (zm_L (sv := sv) rfl) rfl (by decide) ?_
  refine zm_iload_n 10 rfl dX11_lawTells_9 rfl 1 rfl ?_
  refine zm_iald 11 rfl dX11_lawTells_10 rfl (zm_L (sv := sv) rfl) ?_
  refine zm_nmi (fun x11 _ => ?_)
  refine zm_istore_n (lv' := [(2, .int x11), (0, .ref (E.2.1 + 52)), (1, .int a1)]) 12 rfl dX11_lawTells_11 rfl (by decide) rfl ?_
  have hb84 : ∀ (b84_2 : Int32) (M84 : zm_Mem), zm_V X Y_X11_lawTells E (zm_Q X E Y_X11_lawTells.2.2.2.1.cells Y_X11_lawTells.2.2.2.1.slots (zm_w sv) zm_ei) 0 0 false (zm_w sv) 84 [(0, .ref (E.2.1 + 52)), (2, .int b84_2)] [] M84 (f_X11_lawTells_b84 b84_2 M84) some := by
    intro b84_2 M84
    unfold f_X11_lawTells_b84
    refine zm_aload_n 85 rfl dX11_lawTells_84 rfl 0 rfl ?_
    refine zm_aload_n 86 rfl dX11_lawTells_85 rfl 0 rfl ?_
    refine zm_getR (a := 84) 89 rfl dX11_lawTells_86 fl_X11_113 rfl (zm_L (sv := sv) rfl) rfl (by decide) ?_
    refine zm_iload_n 90 rfl dX11_lawTells_89 rfl 1 rfl ?_
    refine zm_iald 91 rfl dX11_lawTells_90 rfl (zm_L (sv := sv) rfl) ?_
    refine zm_aload_n 92 rfl dX11_lawTells_91 rfl 0 rfl ?_
    refine zm_getR (a := 85) 95 rfl dX11_lawTells_92 fl_X11_116 rfl (zm_L (sv := sv) rfl) rfl (by decide) ?_
    refine zm_iload_n 96 rfl dX11_lawTells_95 rfl 1 rfl ?_
    refine zm_iald 97 rfl dX11_lawTells_96 rfl (zm_L (sv := sv) rfl) ?_
    refine zm_cV2i 100 rfl dX11_lawTells_97 ml_X11_349 rfl (zm_L (sv := sv) rfl) rfl (Nat.le_of_ble_eq_true rfl) ⟨Nat.le_of_ble_eq_true rfl, Nat.le_of_ble_eq_true rfl⟩ rfl rfl ⟨Nat.le_refl _, Nat.le_refl _⟩ rfl (fun _ _ h => k_X11_termOf E sv (M84.1 84 b84_2.toNatClampNeg) (M84.1 85 b84_2.toNatClampNeg) M84 h) (fun r97 M97 => ?_)
    refine zm_istore_n (lv' := [(3, .int r97), (0, .ref (E.2.1 + 52)), (2, .int b84_2)]) 101 rfl dX11_lawTells_100 rfl (by decide) rfl ?_
    refine zm_aload_n 102 rfl dX11_lawTells_101 rfl 1 rfl ?_
    refine zm_getI 105 rfl dX11_lawTells_102 fl_X11_331 rfl (zm_L (sv := sv) rfl) ?_
    refine zm_if_eq 112 108 (by decide) rfl dX11_lawTells_105 ?_ ?_
    · refine zm_iload_n 113 rfl dX11_lawTells_112 rfl 0 rfl ?_
      exact zm_iret dX11_lawTells_113 rfl (Nat.le_refl _) (Nat.le_refl _) rfl
    · refine zm_iconst 109 rfl dX11_lawTells_108 zi_0 ?_
      refine zm_goto 113 (by decide) dX11_lawTells_109 ?_
      exact zm_iret dX11_lawTells_113 rfl (Nat.le_refl _) (Nat.le_refl _) rfl
  have hx73_12 : ∀ (N73 : zm_Mem), zm_V X Y_X11_lawTells E (zm_Q X E Y_X11_lawTells.2.2.2.1.cells Y_X11_lawTells.2.2.2.1.slots (zm_w sv) zm_ei) 0 0 false (zm_w sv) 73 [] [] N73 (some (0, N73)) some := by
    intro N73
    refine zm_iconst 74 rfl dX11_lawTells_73 zi_0 ?_
    exact zm_iret dX11_lawTells_74 rfl (Nat.le_refl _) (Nat.le_refl _) rfl
  have hx84_12 : ∀ (e84_2 : Int32) (N84 : zm_Mem), zm_V X Y_X11_lawTells E (zm_Q X E Y_X11_lawTells.2.2.2.1.cells Y_X11_lawTells.2.2.2.1.slots (zm_w sv) zm_ei) 0 0 false (zm_w sv) 84 [(0, .ref (E.2.1 + 52)), (2, .int e84_2)] [] N84 (f_X11_lawTells_b84 e84_2 N84) some := by
    intro e84_2 N84
    exact zm_loc [0, 1] rfl (hb84 e84_2 N84)
  have hx120_12 : ∀ (N120 : zm_Mem), zm_V X Y_X11_lawTells E (zm_Q X E Y_X11_lawTells.2.2.2.1.cells Y_X11_lawTells.2.2.2.1.slots (zm_w sv) zm_ei) 0 0 false (zm_w sv) 120 [] [] N120 (some (0, N120)) some := by
    intro N120
    refine zm_iconst 121 rfl dX11_lawTells_120 zi_0 ?_
    exact zm_iret dX11_lawTells_121 rfl (Nat.le_refl _) (Nat.le_refl _) rfl
  refine zm_loc [1, 2, 0] rfl (zm_lpp (σ := (Int32 × zm_Mem)) (ε := (zm_Mem ⊕ (Int32 × zm_Mem) ⊕ zm_Mem)) (step := fun s => f_X11_lawTells_l12 a1 s.1 s.2) (fun s => [(0, .ref (E.2.1 + 52)), (1, .int a1), (2, .int s.1)]) (fun s => s.2) (fun D12 f12 hf12a hf12b hD12 s => ?_) (x11, M2))
  obtain ⟨l12_2, L12⟩ := s
  show zm_V X Y_X11_lawTells E (zm_Q X E Y_X11_lawTells.2.2.2.1.cells Y_X11_lawTells.2.2.2.1.slots (zm_w sv) zm_ei) 0 0 false (zm_w sv) 12 [(0, .ref (E.2.1 + 52)), (1, .int a1), (2, .int l12_2)] [] L12 (f_X11_lawTells_l12 a1 l12_2 L12) f12
  unfold f_X11_lawTells_l12
  refine zm_iload_n 13 rfl dX11_lawTells_12 rfl 2 rfl ?_
  refine zm_aload_n 14 rfl dX11_lawTells_13 rfl 0 rfl ?_
  refine zm_getR (a := 80) 17 rfl dX11_lawTells_14 fl_X11_100 rfl (zm_L (sv := sv) rfl) rfl (by decide) ?_
  refine zm_iload_n 18 rfl dX11_lawTells_17 rfl 1 rfl ?_
  refine zm_iald 19 rfl dX11_lawTells_18 rfl (zm_L (sv := sv) rfl) ?_
  refine zm_icmp_ge 120 22 (by decide) rfl dX11_lawTells_19 ?_ ?_
  · exact zm_loc [] rfl (zm_go (hf12b _) (zm_unb (hx120_12 L12)))
  · refine zm_aload_n 23 rfl dX11_lawTells_22 rfl 0 rfl ?_
    refine zm_getR (a := 81) 26 rfl dX11_lawTells_23 fl_X11_103 rfl (zm_L (sv := sv) rfl) rfl (by decide) ?_
    refine zm_iload_n 27 rfl dX11_lawTells_26 rfl 2 rfl ?_
    refine zm_zald 28 rfl dX11_lawTells_27 rfl (zm_L (sv := sv) rfl) ?_
    refine zm_if_eq 84 31 (by decide) rfl dX11_lawTells_28 ?_ ?_
    · exact zm_loc [0, 2] rfl (zm_go (hf12b _) (zm_unb (hx84_12 l12_2 L12)))
    · refine zm_aload_n 32 rfl dX11_lawTells_31 rfl 0 rfl ?_
      refine zm_aload_n 33 rfl dX11_lawTells_32 rfl 0 rfl ?_
      refine zm_getR (a := 82) 36 rfl dX11_lawTells_33 fl_X11_107 rfl (zm_L (sv := sv) rfl) rfl (by decide) ?_
      refine zm_iload_n 37 rfl dX11_lawTells_36 rfl 2 rfl ?_
      refine zm_iald 38 rfl dX11_lawTells_37 rfl (zm_L (sv := sv) rfl) ?_
      refine zm_aload_n 39 rfl dX11_lawTells_38 rfl 0 rfl ?_
      refine zm_getR (a := 83) 42 rfl dX11_lawTells_39 fl_X11_110 rfl (zm_L (sv := sv) rfl) rfl (by decide) ?_
      refine zm_iload_n 43 rfl dX11_lawTells_42 rfl 2 rfl ?_
      refine zm_iald 44 rfl dX11_lawTells_43 rfl (zm_L (sv := sv) rfl) ?_
      refine zm_cV2i 47 rfl dX11_lawTells_44 ml_X11_349 rfl (zm_L (sv := sv) rfl) rfl (Nat.le_of_ble_eq_true rfl) ⟨Nat.le_of_ble_eq_true rfl, Nat.le_of_ble_eq_true rfl⟩ rfl rfl ⟨Nat.le_refl _, Nat.le_refl _⟩ rfl (fun _ _ h => k_X11_termOf E sv (L12.1 82 l12_2.toNatClampNeg) (L12.1 83 l12_2.toNatClampNeg) L12 h) (fun r44 M44 => ?_)
      refine zm_istore_n (lv' := [(3, .int r44), (0, .ref (E.2.1 + 52)), (1, .int a1), (2, .int l12_2)]) 48 rfl dX11_lawTells_47 rfl (by decide) rfl ?_
      refine zm_aload_n 49 rfl dX11_lawTells_48 rfl 1 rfl ?_
      refine zm_aload_n 50 rfl dX11_lawTells_49 rfl 1 rfl ?_
      refine zm_getR (a := 83) 53 rfl dX11_lawTells_50 fl_X11_110 rfl (zm_L (sv := sv) rfl) rfl (by decide) ?_
      refine zm_iload_n 54 rfl dX11_lawTells_53 rfl 3 rfl ?_
      refine zm_iald 55 rfl dX11_lawTells_54 rfl (zm_L (sv := sv) rfl) ?_
      refine zm_aload_n 56 rfl dX11_lawTells_55 rfl 1 rfl ?_
      refine zm_getR (a := 84) 59 rfl dX11_lawTells_56 fl_X11_113 rfl (zm_L (sv := sv) rfl) rfl (by decide) ?_
      refine zm_iload_n 60 rfl dX11_lawTells_59 rfl 3 rfl ?_
      refine zm_iald 61 rfl dX11_lawTells_60 rfl (zm_L (sv := sv) rfl) ?_
      refine zm_cV2i 64 rfl dX11_lawTells_61 ml_X11_349 rfl (zm_L (sv := sv) rfl) rfl (Nat.le_of_ble_eq_true rfl) ⟨Nat.le_of_ble_eq_true rfl, Nat.le_of_ble_eq_true rfl⟩ rfl rfl ⟨Nat.le_refl _, Nat.le_refl _⟩ rfl (fun _ _ h => k_X11_termOf E sv (M44.1 83 l12_2.toNatClampNeg) (M44.1 84 l12_2.toNatClampNeg) M44 h) (fun r61 M61 => ?_)
      refine zm_istore (lv' := [(4, .int r61), (3, .int r44), (0, .ref (E.2.1 + 52)), (1, .int a1), (2, .int l12_2)]) 66 rfl dX11_lawTells_64 (by decide) rfl ?_
      refine zm_aload_n 67 rfl dX11_lawTells_66 rfl 2 rfl ?_
      refine zm_getI 70 rfl dX11_lawTells_67 fl_X11_331 rfl (zm_L (sv := sv) rfl) ?_
      refine zm_if_eq 75 73 (by decide) rfl dX11_lawTells_70 ?_ ?_
      · refine zm_iload_n 76 rfl dX11_lawTells_75 rfl 1 rfl ?_
        refine zm_iload 78 rfl dX11_lawTells_76 0 rfl ?_
        refine zm_icmp_lt 84 81 (by decide) rfl dX11_lawTells_78 ?_ ?_
        · exact zm_loc [2, 4] rfl (zm_go (hf12b _) (zm_unb (hx84_12 l12_2 M61)))
        · refine zm_goto 114 (by decide) dX11_lawTells_81 ?_
          refine zm_iinc (lv' := fun z => [(2, .int z), (4, .int r61), (3, .int r44), (0, .ref (E.2.1 + 52)), (1, .int a1)]) 117 rfl dX11_lawTells_114 zi_1 4 rfl (by decide) (fun _ => rfl) (fun x114 _ => ?_)
          refine zm_goto 12 (by decide) dX11_lawTells_117 ?_
          exact zm_loc [3, 4, 0] rfl (zm_go (hf12a _) (hD12 (x114, M61)))
      · exact zm_loc [] rfl (zm_go (hf12b _) (zm_unb (hx73_12 M61)))
abbrev Y_X11_asks : zm_Y := (cX11_asks, 7, RX11, { frames := 2, cells := 0, slots := 0, locals := 51 }, (some .int), false, "asks")
noncomputable def f_X11_asks_b38 (a3 : Int32) (a4 : Int32) (b38_6 : Int32) (M38 : zm_Mem) : Option (Int32 × zm_Mem) :=
 if a3 ≤ b38_6 then (if b38_6 ≤ a4 then (some (b38_6, M38)) else (some (a4, M38))) else (some (a3, M38))
noncomputable def f_X11_asks (a1 : Int32) (a2 : Int32) (a3 : Int32) (a4 : Int32) (M : zm_Mem) : Option (Int32 × zm_Mem) :=
  zm_v ((2 * (M.1 52 18)) + a1) <| fun x8 => zm_ck (zm_in x8 4) <| zm_ck (zm_in x8 4) <| if (M.1 80 x8.toNatClampNeg) ≤ (M.1 79 x8.toNatClampNeg) then (f_X11_asks_b38 a3 a4 a2 M) else (zm_b2 (f_X11_lawTells x8 M) <| fun r33 M33 => f_X11_asks_b38 a3 a4 r33 M33)
set_option maxRecDepth 20000 in
set_option maxHeartbeats 4000000 in
theorem k_X11_asks (E : zm_E) (sv : Nat) (a1 : Int32) (a2 : Int32) (a3 : Int32) (a4 : Int32) (M : zm_Mem) {r : Int32} {M' : zm_Mem} (h : f_X11_asks a1 a2 a3 a4 M = some (r, M')) : zm_Ct E (zm_w sv) (zm_w sv) yX11_asks Y_X11_asks [.ref (E.2.1 + 52), .int a1, .int a2, .int a3, .int a4] M (some (.int r)) M' := by
  refine zm_meth (emb := zm_ei) (d := f_X11_asks a1 a2 a3 a4 M) (by decide) rfl rfl (Nat.le_of_ble_eq_true rfl) h (fun X => ?_)
  show zm_V X Y_X11_asks E (zm_Q X E Y_X11_asks.2.2.2.1.cells Y_X11_asks.2.2.2.1.slots (zm_w sv) zm_ei) 0 0 false (zm_w sv) 0 [(0, .ref (E.2.1 + 52)), (1, .int a1), (2, .int a2), (3, .int a3), (4, .int a4)] [] M (f_X11_asks a1 a2 a3 a4 M) some
  unfold f_X11_asks
  refine zm_iconst 1 rfl dX11_asks_0 zi_2 ?_
  refine zm_aload_n 2 rfl dX11_asks_1 rfl 0 rfl ?_
  refine zm_getI 5 rfl dX11_asks_2 fl_X11_251 rfl (zm_L (sv := sv) rfl) ?_
  refine zm_imul 6 rfl dX11_asks_5 ?_
  refine zm_iload_n 7 rfl dX11_asks_6 rfl 1 rfl ?_
  refine zm_iadd 8 rfl dX11_asks_7 ?_
  refine zm_nmi (fun x8 _ => ?_)
  refine zm_istore (lv' := [(5, .int x8), (0, .ref (E.2.1 + 52)), (1, .int a1), (2, .int a2), (3, .int a3), (4, .int a4)]) 10 rfl dX11_asks_8 (by decide) rfl ?_
  refine zm_iload_n 11 rfl dX11_asks_10 rfl 3 rfl ?_
  refine zm_istore (lv' := [(6, .int a2), (5, .int x8), (0, .ref (E.2.1 + 52)), (1, .int a1), (2, .int a2), (3, .int a3), (4, .int a4)]) 13 rfl dX11_asks_11 (by decide) rfl ?_
  refine zm_aload_n 14 rfl dX11_asks_13 rfl 2 rfl ?_
  refine zm_getR (a := 79) 17 rfl dX11_asks_14 fl_X11_97 rfl (zm_L (sv := sv) rfl) rfl (by decide) ?_
  refine zm_iload 19 rfl dX11_asks_17 1 rfl ?_
  refine zm_iald 20 rfl dX11_asks_19 rfl (zm_L (sv := sv) rfl) ?_
  refine zm_aload_n 21 rfl dX11_asks_20 rfl 2 rfl ?_
  refine zm_getR (a := 80) 24 rfl dX11_asks_21 fl_X11_100 rfl (zm_L (sv := sv) rfl) rfl (by decide) ?_
  refine zm_iload 26 rfl dX11_asks_24 1 rfl ?_
  refine zm_iald 27 rfl dX11_asks_26 rfl (zm_L (sv := sv) rfl) ?_
  have hb38 : ∀ (b38_6 : Int32) (M38 : zm_Mem), zm_V X Y_X11_asks E (zm_Q X E Y_X11_asks.2.2.2.1.cells Y_X11_asks.2.2.2.1.slots (zm_w sv) zm_ei) 0 0 false (zm_w sv) 38 [(3, .int a3), (4, .int a4), (6, .int b38_6)] [] M38 (f_X11_asks_b38 a3 a4 b38_6 M38) some := by
    intro b38_6 M38
    unfold f_X11_asks_b38
    refine zm_iload 40 rfl dX11_asks_38 2 rfl ?_
    refine zm_iload_n 41 rfl dX11_asks_40 rfl 0 rfl ?_
    refine zm_icmp_ge 48 44 (by decide) rfl dX11_asks_41 ?_ ?_
    · refine zm_iload 50 rfl dX11_asks_48 2 rfl ?_
      refine zm_iload 52 rfl dX11_asks_50 1 rfl ?_
      refine zm_icmp_le 60 55 (by decide) rfl dX11_asks_52 ?_ ?_
      · refine zm_iload 62 rfl dX11_asks_60 2 rfl ?_
        exact zm_iret dX11_asks_62 rfl (Nat.le_refl _) (Nat.le_refl _) rfl
      · refine zm_iload 57 rfl dX11_asks_55 1 rfl ?_
        refine zm_goto 62 (by decide) dX11_asks_57 ?_
        exact zm_iret dX11_asks_62 rfl (Nat.le_refl _) (Nat.le_refl _) rfl
    · refine zm_iload_n 45 rfl dX11_asks_44 rfl 0 rfl ?_
      refine zm_goto 62 (by decide) dX11_asks_45 ?_
      exact zm_iret dX11_asks_62 rfl (Nat.le_refl _) (Nat.le_refl _) rfl
  refine zm_icmp_ge 38 30 (by decide) rfl dX11_asks_27 ?_ ?_
  · exact zm_loc [5, 6, 0] rfl (hb38 a2 M)
  · refine zm_aload_n 31 rfl dX11_asks_30 rfl 2 rfl ?_
    refine zm_iload 33 rfl dX11_asks_31 1 rfl ?_
    refine zm_cV1i 36 rfl dX11_asks_33 ml_X11_346 rfl (zm_L (sv := sv) rfl) rfl (Nat.le_of_ble_eq_true rfl) ⟨Nat.le_of_ble_eq_true rfl, Nat.le_of_ble_eq_true rfl⟩ rfl rfl ⟨Nat.le_refl _, Nat.le_refl _⟩ rfl (fun _ _ h => k_X11_lawTells E sv x8 M h) (fun r33 M33 => ?_)
    refine zm_istore (lv' := [(6, .int r33), (5, .int x8), (0, .ref (E.2.1 + 52)), (1, .int a1), (2, .int a2), (3, .int a3), (4, .int a4)]) 38 rfl dX11_asks_36 (by decide) rfl ?_
    exact zm_loc [5, 6, 0] rfl (hb38 r33 M33)
abbrev Y_X11_sideOf : zm_Y := (cX11_sideOf, 4, RX11, { frames := 1, cells := 0, slots := 0, locals := 27 }, (some .int), false, "sideOf")
noncomputable def f_X11_sideOf (a1 : Int32) (a2 : Int32) (M : zm_Mem) : Option (Int32 × zm_Mem) :=
  zm_v (zm_sI M 52 55 0) <| fun M2 => zm_b2 (f_X11_termOf a1 a2 M2) <| fun r8 M8 => if (M8.1 52 55) = 0 then (some (r8, M8)) else (some (0, M8))
set_option maxRecDepth 20000 in
set_option maxHeartbeats 4000000 in
theorem k_X11_sideOf (E : zm_E) (sv : Nat) (a1 : Int32) (a2 : Int32) (M : zm_Mem) {r : Int32} {M' : zm_Mem} (h : f_X11_sideOf a1 a2 M = some (r, M')) : zm_Ct E (zm_w sv) (zm_w sv) yX11_sideOf Y_X11_sideOf [.ref (E.2.1 + 52), .int a1, .int a2] M (some (.int r)) M' := by
  refine zm_meth (emb := zm_ei) (d := f_X11_sideOf a1 a2 M) (by decide) rfl rfl (Nat.le_of_ble_eq_true rfl) h (fun X => ?_)
  show zm_V X Y_X11_sideOf E (zm_Q X E Y_X11_sideOf.2.2.2.1.cells Y_X11_sideOf.2.2.2.1.slots (zm_w sv) zm_ei) 0 0 false (zm_w sv) 0 [(0, .ref (E.2.1 + 52)), (1, .int a1), (2, .int a2)] [] M (f_X11_sideOf a1 a2 M) some
  unfold f_X11_sideOf
  refine zm_aload_n 1 rfl dX11_sideOf_0 rfl 0 rfl ?_
  refine zm_iconst 2 rfl dX11_sideOf_1 zi_0 ?_
  refine zm_putI 5 rfl dX11_sideOf_2 fp_X11_331 rfl (zm_L (sv := sv) rfl) rfl rfl (fun M2 _ => ?_)
  refine zm_aload_n 6 rfl dX11_sideOf_5 rfl 0 rfl ?_
  refine zm_iload_n 7 rfl dX11_sideOf_6 rfl 1 rfl ?_
  refine zm_iload_n 8 rfl dX11_sideOf_7 rfl 2 rfl ?_
  refine zm_cV2i 11 rfl dX11_sideOf_8 ml_X11_349 rfl (zm_L (sv := sv) rfl) rfl (Nat.le_of_ble_eq_true rfl) ⟨Nat.le_of_ble_eq_true rfl, Nat.le_of_ble_eq_true rfl⟩ rfl rfl ⟨Nat.le_refl _, Nat.le_refl _⟩ rfl (fun _ _ h => k_X11_termOf E sv a1 a2 M2 h) (fun r8 M8 => ?_)
  refine zm_istore_n (lv' := [(3, .int r8), (0, .ref (E.2.1 + 52)), (1, .int a1), (2, .int a2)]) 12 rfl dX11_sideOf_11 rfl (by decide) rfl ?_
  refine zm_aload_n 13 rfl dX11_sideOf_12 rfl 1 rfl ?_
  refine zm_getI 16 rfl dX11_sideOf_13 fl_X11_331 rfl (zm_L (sv := sv) rfl) ?_
  refine zm_if_eq 23 19 (by decide) rfl dX11_sideOf_16 ?_ ?_
  · refine zm_iload_n 24 rfl dX11_sideOf_23 rfl 0 rfl ?_
    exact zm_iret dX11_sideOf_24 rfl (Nat.le_refl _) (Nat.le_refl _) rfl
  · refine zm_iconst 20 rfl dX11_sideOf_19 zi_0 ?_
    refine zm_goto 24 (by decide) dX11_sideOf_20 ?_
    exact zm_iret dX11_sideOf_24 rfl (Nat.le_refl _) (Nat.le_refl _) rfl
abbrev Y_X11_isKept : zm_Y := (cX11_isKept, 3, RX11, { frames := 2, cells := 0, slots := 0, locals := 50 }, (some .boolean), false, "isKept")
noncomputable def f_X11_isKept (a1 : Int32) (M : zm_Mem) : Option (Int32 × zm_Mem) :=
  zm_v ((6 * (M.1 52 18)) + a1) <| fun x9 => zm_ck (zm_in x9 12) <| zm_ck (zm_in x9 12) <| zm_b2 (f_X11_sideOf (M.1 73 x9.toNatClampNeg) (M.1 74 x9.toNatClampNeg) M) <| fun r23 M23 => zm_ck (zm_in x9 12) <| zm_ck (zm_in x9 12) <| zm_b2 (f_X11_sideOf (M23.1 74 x9.toNatClampNeg) (M23.1 75 x9.toNatClampNeg) M23) <| fun r39 M39 => if r39 ≤ r23 then (some (0, M39)) else (some (1, M39))
set_option maxRecDepth 20000 in
set_option maxHeartbeats 4000000 in
theorem k_X11_isKept (E : zm_E) (sv : Nat) (a1 : Int32) (M : zm_Mem) {r : Int32} {M' : zm_Mem} (h : f_X11_isKept a1 M = some (r, M')) : zm_Ct E (zm_w sv) (zm_w sv) yX11_isKept Y_X11_isKept [.ref (E.2.1 + 52), .int a1] M (some (.int r)) M' := by
  refine zm_meth (emb := zm_ei) (d := f_X11_isKept a1 M) (by decide) rfl rfl (Nat.le_of_ble_eq_true rfl) h (fun X => ?_)
  show zm_V X Y_X11_isKept E (zm_Q X E Y_X11_isKept.2.2.2.1.cells Y_X11_isKept.2.2.2.1.slots (zm_w sv) zm_ei) 0 0 false (zm_w sv) 0 [(0, .ref (E.2.1 + 52)), (1, .int a1)] [] M (f_X11_isKept a1 M) some
  unfold f_X11_isKept
  refine zm_bipush 2 rfl dX11_isKept_0 zb_6 ?_
  refine zm_aload_n 3 rfl dX11_isKept_2 rfl 0 rfl ?_
  refine zm_getI 6 rfl dX11_isKept_3 fl_X11_251 rfl (zm_L (sv := sv) rfl) ?_
  refine zm_imul 7 rfl dX11_isKept_6 ?_
  refine zm_iload_n 8 rfl dX11_isKept_7 rfl 1 rfl ?_
  refine zm_iadd 9 rfl dX11_isKept_8 ?_
  refine zm_nmi (fun x9 _ => ?_)
  refine zm_istore_n (lv' := [(2, .int x9), (0, .ref (E.2.1 + 52)), (1, .int a1)]) 10 rfl dX11_isKept_9 rfl (by decide) rfl ?_
  refine zm_aload_n 11 rfl dX11_isKept_10 rfl 1 rfl ?_
  refine zm_aload_n 12 rfl dX11_isKept_11 rfl 1 rfl ?_
  refine zm_getR (a := 73) 15 rfl dX11_isKept_12 fl_X11_79 rfl (zm_L (sv := sv) rfl) rfl (by decide) ?_
  refine zm_iload_n 16 rfl dX11_isKept_15 rfl 0 rfl ?_
  refine zm_iald 17 rfl dX11_isKept_16 rfl (zm_L (sv := sv) rfl) ?_
  refine zm_aload_n 18 rfl dX11_isKept_17 rfl 1 rfl ?_
  refine zm_getR (a := 74) 21 rfl dX11_isKept_18 fl_X11_82 rfl (zm_L (sv := sv) rfl) rfl (by decide) ?_
  refine zm_iload_n 22 rfl dX11_isKept_21 rfl 0 rfl ?_
  refine zm_iald 23 rfl dX11_isKept_22 rfl (zm_L (sv := sv) rfl) ?_
  refine zm_cV2i 26 rfl dX11_isKept_23 ml_X11_352 rfl (zm_L (sv := sv) rfl) rfl (Nat.le_of_ble_eq_true rfl) ⟨Nat.le_of_ble_eq_true rfl, Nat.le_of_ble_eq_true rfl⟩ rfl rfl ⟨Nat.le_refl _, Nat.le_refl _⟩ rfl (fun _ _ h => k_X11_sideOf E sv (M.1 73 x9.toNatClampNeg) (M.1 74 x9.toNatClampNeg) M h) (fun r23 M23 => ?_)
  refine zm_aload_n 27 rfl dX11_isKept_26 rfl 1 rfl ?_
  refine zm_aload_n 28 rfl dX11_isKept_27 rfl 1 rfl ?_
  refine zm_getR (a := 74) 31 rfl dX11_isKept_28 fl_X11_82 rfl (zm_L (sv := sv) rfl) rfl (by decide) ?_
  refine zm_iload_n 32 rfl dX11_isKept_31 rfl 0 rfl ?_
  refine zm_iald 33 rfl dX11_isKept_32 rfl (zm_L (sv := sv) rfl) ?_
  refine zm_aload_n 34 rfl dX11_isKept_33 rfl 1 rfl ?_
  refine zm_getR (a := 75) 37 rfl dX11_isKept_34 fl_X11_85 rfl (zm_L (sv := sv) rfl) rfl (by decide) ?_
  refine zm_iload_n 38 rfl dX11_isKept_37 rfl 0 rfl ?_
  refine zm_iald 39 rfl dX11_isKept_38 rfl (zm_L (sv := sv) rfl) ?_
  refine zm_cV2i 42 rfl dX11_isKept_39 ml_X11_352 rfl (zm_L (sv := sv) rfl) rfl (Nat.le_of_ble_eq_true rfl) ⟨Nat.le_of_ble_eq_true rfl, Nat.le_of_ble_eq_true rfl⟩ rfl rfl ⟨Nat.le_refl _, Nat.le_refl _⟩ rfl (fun _ _ h => k_X11_sideOf E sv (M23.1 74 x9.toNatClampNeg) (M23.1 75 x9.toNatClampNeg) M23 h) (fun r39 M39 => ?_)
  refine zm_icmp_ge 49 45 (by decide) rfl dX11_isKept_42 ?_ ?_
  · refine zm_iconst 50 rfl dX11_isKept_49 zi_0 ?_
    exact zm_zret dX11_isKept_50 rfl rfl (Nat.le_refl _) (Nat.le_refl _) rfl
  · refine zm_iconst 46 rfl dX11_isKept_45 zi_1 ?_
    refine zm_goto 50 (by decide) dX11_isKept_46 ?_
    exact zm_zret dX11_isKept_50 rfl rfl (Nat.le_refl _) (Nat.le_refl _) rfl
abbrev Y_X11_brokenIn : zm_Y := (cX11_brokenIn, 5, RX11, { frames := 3, cells := 0, slots := 0, locals := 72 }, (some .int), false, "brokenIn")
noncomputable def f_X11_brokenIn_b62_13 (l13_4 : Int32) (b62_3 : Int32) (M62 : zm_Mem) : Option ((Int32 × Int32 × zm_Mem) ⊕ (Int32 × zm_Mem)) :=
 zm_v (l13_4 + 1) <| fun x62 => some (.inl (b62_3, x62, M62))
noncomputable def f_X11_brokenIn_l13 (a1 : Int32) (l13_3 : Int32) (l13_4 : Int32) (L13 : zm_Mem) : Option ((Int32 × Int32 × zm_Mem) ⊕ (Int32 × zm_Mem)) :=
 zm_ck (zm_in (L13.1 52 18) 2) <| if (L13.1 71 (L13.1 52 18).toNatClampNeg) ≤ l13_4 then (some (.inr (l13_3, L13))) else (zm_ck (zm_in ((6 * (L13.1 52 18)) + l13_4) 12) <| if (L13.1 72 ((6 * (L13.1 52 18)) + l13_4).toNatClampNeg) = a1 then (zm_b2 (f_X11_isKept l13_4 L13) <| fun r49 M49 => if r49 = 0 then (zm_v (l13_3 ||| ((1 : Int32) <<< (l13_4 &&& 31))) <| fun x61 => f_X11_brokenIn_b62_13 l13_4 x61 M49) else (f_X11_brokenIn_b62_13 l13_4 l13_3 M49)) else (f_X11_brokenIn_b62_13 l13_4 l13_3 L13))
noncomputable def f_X11_brokenIn (a1 : Int32) (a2 : Int32) (M : zm_Mem) : Option (Int32 × zm_Mem) :=
  zm_b2 (f_X11_looks a1 a2 0 (-1) M) <| fun _ M5 => (zm_lp (fun s => f_X11_brokenIn_l13 a1 s.1 s.2.1 s.2.2) (0, 0, M5)).bind (fun e68 => some (e68.1, e68.2))
set_option maxRecDepth 20000 in
set_option maxHeartbeats 4000000 in
theorem k_X11_brokenIn (E : zm_E) (sv : Nat) (a1 : Int32) (a2 : Int32) (M : zm_Mem) {r : Int32} {M' : zm_Mem} (h : f_X11_brokenIn a1 a2 M = some (r, M')) : zm_Ct E (zm_w sv) (zm_w sv) yX11_brokenIn Y_X11_brokenIn [.ref (E.2.1 + 52), .int a1, .int a2] M (some (.int r)) M' := by
  refine zm_meth (emb := zm_ei) (d := f_X11_brokenIn a1 a2 M) (by decide) rfl rfl (Nat.le_of_ble_eq_true rfl) h (fun X => ?_)
  show zm_V X Y_X11_brokenIn E (zm_Q X E Y_X11_brokenIn.2.2.2.1.cells Y_X11_brokenIn.2.2.2.1.slots (zm_w sv) zm_ei) 0 0 false (zm_w sv) 0 [(0, .ref (E.2.1 + 52)), (1, .int a1), (2, .int a2)] [] M (f_X11_brokenIn a1 a2 M) some
  unfold f_X11_brokenIn
  refine zm_aload_n 1 rfl dX11_brokenIn_0 rfl 0 rfl ?_
  refine zm_iload_n 2 rfl dX11_brokenIn_1 rfl 1 rfl ?_
  refine zm_iload_n 3 rfl dX11_brokenIn_2 rfl 2 rfl ?_
  refine zm_iconst 4 rfl dX11_brokenIn_3 zi_0 ?_
  refine zm_iconst 5 rfl dX11_brokenIn_4 zi_m1 ?_
  refine zm_cV4v 8 rfl dX11_brokenIn_5 ml_X11_355 rfl (zm_L (sv := sv) rfl) rfl (Nat.le_of_ble_eq_true rfl) ⟨Nat.le_of_ble_eq_true rfl, Nat.le_of_ble_eq_true rfl⟩ rfl rfl ⟨Nat.le_refl _, Nat.le_refl _⟩ rfl (fun _ _ h => k_X11_looks E sv a1 a2 0 (-1) M h) (fun _ M5 => ?_)
  refine zm_iconst 9 rfl dX11_brokenIn_8 zi_0 ?_
  refine zm_istore_n (lv' := [(3, .int 0), (0, .ref (E.2.1 + 52)), (1, .int a1), (2, .int a2)]) 10 rfl dX11_brokenIn_9 rfl (by decide) rfl ?_
  refine zm_iconst 11 rfl dX11_brokenIn_10 zi_0 ?_
  refine zm_istore (lv' := [(4, .int 0), (3, .int 0), (0, .ref (E.2.1 + 52)), (1, .int a1), (2, .int a2)]) 13 rfl dX11_brokenIn_11 (by decide) rfl ?_
  have hx68_13 : ∀ (e68_3 : Int32) (N68 : zm_Mem), zm_V X Y_X11_brokenIn E (zm_Q X E Y_X11_brokenIn.2.2.2.1.cells Y_X11_brokenIn.2.2.2.1.slots (zm_w sv) zm_ei) 0 0 false (zm_w sv) 68 [(3, .int e68_3)] [] N68 (some (e68_3, N68)) some := by
    intro e68_3 N68
    refine zm_iload_n 69 rfl dX11_brokenIn_68 rfl 0 rfl ?_
    exact zm_iret dX11_brokenIn_69 rfl (Nat.le_refl _) (Nat.le_refl _) rfl
  refine zm_loc [2, 3, 1, 0] rfl (zm_lpp (σ := (Int32 × Int32 × zm_Mem)) (ε := (Int32 × zm_Mem)) (step := fun s => f_X11_brokenIn_l13 a1 s.1 s.2.1 s.2.2) (fun s => [(0, .ref (E.2.1 + 52)), (1, .int a1), (3, .int s.1), (4, .int s.2.1)]) (fun s => s.2.2) (fun D13 f13 hf13a hf13b hD13 s => ?_) (0, 0, M5))
  obtain ⟨l13_3, l13_4, L13⟩ := s
  show zm_V X Y_X11_brokenIn E (zm_Q X E Y_X11_brokenIn.2.2.2.1.cells Y_X11_brokenIn.2.2.2.1.slots (zm_w sv) zm_ei) 0 0 false (zm_w sv) 13 [(0, .ref (E.2.1 + 52)), (1, .int a1), (3, .int l13_3), (4, .int l13_4)] [] L13 (f_X11_brokenIn_l13 a1 l13_3 l13_4 L13) f13
  unfold f_X11_brokenIn_l13
  refine zm_iload 15 rfl dX11_brokenIn_13 3 rfl ?_
  refine zm_aload_n 16 rfl dX11_brokenIn_15 rfl 0 rfl ?_
  refine zm_getR (a := 71) 19 rfl dX11_brokenIn_16 fl_X11_73 rfl (zm_L (sv := sv) rfl) rfl (by decide) ?_
  refine zm_aload_n 20 rfl dX11_brokenIn_19 rfl 0 rfl ?_
  refine zm_getI 23 rfl dX11_brokenIn_20 fl_X11_251 rfl (zm_L (sv := sv) rfl) ?_
  refine zm_iald 24 rfl dX11_brokenIn_23 rfl (zm_L (sv := sv) rfl) ?_
  refine zm_icmp_ge 68 27 (by decide) rfl dX11_brokenIn_24 ?_ ?_
  · exact zm_loc [2] rfl (zm_go (hf13b _) (zm_unb (hx68_13 l13_3 L13)))
  · refine zm_aload_n 28 rfl dX11_brokenIn_27 rfl 0 rfl ?_
    refine zm_getR (a := 72) 31 rfl dX11_brokenIn_28 fl_X11_76 rfl (zm_L (sv := sv) rfl) rfl (by decide) ?_
    refine zm_bipush 33 rfl dX11_brokenIn_31 zb_6 ?_
    refine zm_aload_n 34 rfl dX11_brokenIn_33 rfl 0 rfl ?_
    refine zm_getI 37 rfl dX11_brokenIn_34 fl_X11_251 rfl (zm_L (sv := sv) rfl) ?_
    refine zm_imul 38 rfl dX11_brokenIn_37 ?_
    refine zm_iload 40 rfl dX11_brokenIn_38 3 rfl ?_
    refine zm_iadd 41 rfl dX11_brokenIn_40 ?_
    refine zm_iald 42 rfl dX11_brokenIn_41 rfl (zm_L (sv := sv) rfl) ?_
    refine zm_iload_n 43 rfl dX11_brokenIn_42 rfl 1 rfl ?_
    have hb62_13 : ∀ (b62_3 : Int32) (M62 : zm_Mem), zm_V X Y_X11_brokenIn E (zm_Q X E Y_X11_brokenIn.2.2.2.1.cells Y_X11_brokenIn.2.2.2.1.slots (zm_w sv) zm_ei) 0 0 false (zm_w sv) 62 [(0, .ref (E.2.1 + 52)), (1, .int a1), (3, .int b62_3), (4, .int l13_4)] [] M62 (f_X11_brokenIn_b62_13 l13_4 b62_3 M62) f13 := by
      intro b62_3 M62
      unfold f_X11_brokenIn_b62_13
      refine zm_iinc (lv' := fun z => [(4, .int z), (0, .ref (E.2.1 + 52)), (1, .int a1), (3, .int b62_3)]) 65 rfl dX11_brokenIn_62 zi_1 3 rfl (by decide) (fun _ => rfl) (fun x62 _ => ?_)
      refine zm_goto 13 (by decide) dX11_brokenIn_65 ?_
      exact zm_loc [1, 2, 3, 0] rfl (zm_go (hf13a _) (hD13 (b62_3, x62, M62)))
    refine zm_icmp_ne 62 46 (by decide) rfl dX11_brokenIn_43 ?_ ?_
    · refine zm_aload_n 47 rfl dX11_brokenIn_46 rfl 0 rfl ?_
      refine zm_iload 49 rfl dX11_brokenIn_47 3 rfl ?_
      refine zm_cV1i 52 rfl dX11_brokenIn_49 ml_X11_359 rfl (zm_L (sv := sv) rfl) rfl (Nat.le_of_ble_eq_true rfl) ⟨Nat.le_of_ble_eq_true rfl, Nat.le_of_ble_eq_true rfl⟩ rfl rfl ⟨Nat.le_refl _, Nat.le_refl _⟩ rfl (fun _ _ h => k_X11_isKept E sv l13_4 L13 h) (fun r49 M49 => ?_)
      refine zm_if_ne 62 55 (by decide) rfl dX11_brokenIn_52 ?_ ?_
      · refine zm_iload_n 56 rfl dX11_brokenIn_55 rfl 2 rfl ?_
        refine zm_iconst 57 rfl dX11_brokenIn_56 zi_1 ?_
        refine zm_iload 59 rfl dX11_brokenIn_57 3 rfl ?_
        refine zm_ishl 60 rfl dX11_brokenIn_59 ?_
        refine zm_ior 61 rfl dX11_brokenIn_60 ?_
        refine zm_nmi (fun x61 _ => ?_)
        refine zm_istore_n (lv' := [(3, .int x61), (0, .ref (E.2.1 + 52)), (1, .int a1), (4, .int l13_4)]) 62 rfl dX11_brokenIn_61 rfl (by decide) rfl ?_
        exact zm_loc [1, 2, 0, 3] rfl (hb62_13 x61 M49)
      · exact zm_loc [0, 1, 2, 3] rfl (hb62_13 l13_3 M49)
    · exact zm_loc [0, 1, 2, 3] rfl (hb62_13 l13_3 L13)
abbrev Y_X11_standing : zm_Y := (cX11_standing, 3, RX11, { frames := 0, cells := 0, slots := 0, locals := 0 }, (some .int), false, "standing")
noncomputable def f_X11_standing_b35_4 (l4_2 : Int32) (b35_1 : Int32) : Option ((Int32 × Int32) ⊕ Int32) :=
 zm_v (l4_2 + 1) <| fun x35 => some (.inl (b35_1, x35))
noncomputable def f_X11_standing_l4 (M : zm_Mem) (l4_1 : Int32) (l4_2 : Int32) : Option ((Int32 × Int32) ⊕ Int32) :=
 zm_ck (zm_in (M.1 52 18) 2) <| if (M.1 71 (M.1 52 18).toNatClampNeg) ≤ l4_2 then (some (.inr l4_1)) else (zm_ck (zm_in (24 + l4_2) 60) <| if (M.1 92 (24 + l4_2).toNatClampNeg) = 0 then (zm_v (l4_1 ||| ((1 : Int32) <<< (l4_2 &&& 31))) <| fun x34 => f_X11_standing_b35_4 l4_2 x34) else (f_X11_standing_b35_4 l4_2 l4_1))
noncomputable def f_X11_standing  (M : zm_Mem) : Option Int32 :=
  (zm_lp (fun s => f_X11_standing_l4 M s.1 s.2) (0, 0)).bind (fun e41 => some e41)
set_option maxRecDepth 20000 in
set_option maxHeartbeats 4000000 in
theorem k_X11_standing (E : zm_E) (sv : Nat)  (M : zm_Mem) {r : Int32} (h : f_X11_standing M = some r) : zm_Ct E (zm_w sv) (zm_w sv) yX11_standing Y_X11_standing [.ref (E.2.1 + 52)] M (some (.int r)) M := by
  refine zm_methr (emb := zm_ei) (d := f_X11_standing M) (by decide) rfl rfl (Nat.le_of_ble_eq_true rfl) h (fun X => ?_)
  show zm_V X Y_X11_standing E (zm_Q X E Y_X11_standing.2.2.2.1.cells Y_X11_standing.2.2.2.1.slots (zm_w sv) zm_ei) 0 0 false (zm_w sv) 0 [(0, .ref (E.2.1 + 52))] [] M (f_X11_standing M) (fun r => some (r, M))
  unfold f_X11_standing
  refine zm_iconst 1 rfl dX11_standing_0 zi_0 ?_
  refine zm_istore_n (lv' := [(1, .int 0), (0, .ref (E.2.1 + 52))]) 2 rfl dX11_standing_1 rfl (by decide) rfl ?_
  refine zm_iconst 3 rfl dX11_standing_2 zi_0 ?_
  refine zm_istore_n (lv' := [(2, .int 0), (1, .int 0), (0, .ref (E.2.1 + 52))]) 4 rfl dX11_standing_3 rfl (by decide) rfl ?_
  have hx41_4 : ∀ (e41_1 : Int32), zm_V X Y_X11_standing E (zm_Q X E Y_X11_standing.2.2.2.1.cells Y_X11_standing.2.2.2.1.slots (zm_w sv) zm_ei) 0 0 false (zm_w sv) 41 [(1, .int e41_1)] [] M (some e41_1) (fun r => some (r, M)) := by
    intro e41_1
    refine zm_iload_n 42 rfl dX11_standing_41 rfl 0 rfl ?_
    exact zm_iret dX11_standing_42 rfl (Nat.le_refl _) (Nat.le_refl _) rfl
  refine zm_loc [2, 1, 0] rfl (zm_lpp (σ := (Int32 × Int32)) (ε := Int32) (step := fun s => f_X11_standing_l4 M s.1 s.2) (fun s => [(0, .ref (E.2.1 + 52)), (1, .int s.1), (2, .int s.2)]) (fun _ => M) (fun D4 f4 hf4a hf4b hD4 s => ?_) (0, 0))
  obtain ⟨l4_1, l4_2⟩ := s
  show zm_V X Y_X11_standing E (zm_Q X E Y_X11_standing.2.2.2.1.cells Y_X11_standing.2.2.2.1.slots (zm_w sv) zm_ei) 0 0 false (zm_w sv) 4 [(0, .ref (E.2.1 + 52)), (1, .int l4_1), (2, .int l4_2)] [] M (f_X11_standing_l4 M l4_1 l4_2) f4
  unfold f_X11_standing_l4
  refine zm_iload_n 5 rfl dX11_standing_4 rfl 2 rfl ?_
  refine zm_aload_n 6 rfl dX11_standing_5 rfl 0 rfl ?_
  refine zm_getR (a := 71) 9 rfl dX11_standing_6 fl_X11_73 rfl (zm_L (sv := sv) rfl) rfl (by decide) ?_
  refine zm_aload_n 10 rfl dX11_standing_9 rfl 0 rfl ?_
  refine zm_getI 13 rfl dX11_standing_10 fl_X11_251 rfl (zm_L (sv := sv) rfl) ?_
  refine zm_iald 14 rfl dX11_standing_13 rfl (zm_L (sv := sv) rfl) ?_
  refine zm_icmp_ge 41 17 (by decide) rfl dX11_standing_14 ?_ ?_
  · exact zm_loc [1] rfl (zm_go (hf4b _) (zm_unb (hx41_4 l4_1)))
  · refine zm_aload_n 18 rfl dX11_standing_17 rfl 0 rfl ?_
    refine zm_getR (a := 92) 21 rfl dX11_standing_18 fl_X11_137 rfl (zm_L (sv := sv) rfl) rfl (by decide) ?_
    refine zm_bipush 23 rfl dX11_standing_21 zb_24 ?_
    refine zm_iload_n 24 rfl dX11_standing_23 rfl 2 rfl ?_
    refine zm_iadd 25 rfl dX11_standing_24 ?_
    refine zm_iald 26 rfl dX11_standing_25 rfl (zm_L (sv := sv) rfl) ?_
    have hb35_4 : ∀ (b35_1 : Int32), zm_V X Y_X11_standing E (zm_Q X E Y_X11_standing.2.2.2.1.cells Y_X11_standing.2.2.2.1.slots (zm_w sv) zm_ei) 0 0 false (zm_w sv) 35 [(0, .ref (E.2.1 + 52)), (1, .int b35_1), (2, .int l4_2)] [] M (f_X11_standing_b35_4 l4_2 b35_1) f4 := by
      intro b35_1
      unfold f_X11_standing_b35_4
      refine zm_iinc (lv' := fun z => [(2, .int z), (0, .ref (E.2.1 + 52)), (1, .int b35_1)]) 38 rfl dX11_standing_35 zi_1 2 rfl (by decide) (fun _ => rfl) (fun x35 _ => ?_)
      refine zm_goto 4 (by decide) dX11_standing_38 ?_
      exact zm_loc [1, 2, 0] rfl (zm_go (hf4a _) (hD4 (b35_1, x35)))
    refine zm_if_ne 35 29 (by decide) rfl dX11_standing_26 ?_ ?_
    · refine zm_iload_n 30 rfl dX11_standing_29 rfl 1 rfl ?_
      refine zm_iconst 31 rfl dX11_standing_30 zi_1 ?_
      refine zm_iload_n 32 rfl dX11_standing_31 rfl 2 rfl ?_
      refine zm_ishl 33 rfl dX11_standing_32 ?_
      refine zm_ior 34 rfl dX11_standing_33 ?_
      refine zm_nmi (fun x34 _ => ?_)
      refine zm_istore_n (lv' := [(1, .int x34), (0, .ref (E.2.1 + 52)), (2, .int l4_2)]) 35 rfl dX11_standing_34 rfl (by decide) rfl ?_
      exact zm_loc [1, 0, 2] rfl (hb35_4 x34)
    · exact zm_loc [0, 1, 2] rfl (hb35_4 l4_1)
abbrev Y_X11_othersIn : zm_Y := (cX11_othersIn, 5, RX11, { frames := 0, cells := 0, slots := 0, locals := 0 }, (some .int), false, "othersIn")
noncomputable def f_X11_othersIn_b39_5 (l5_4 : Int32) (b39_3 : Int32) : Option ((Int32 × Int32) ⊕ Int32) :=
 zm_v (l5_4 + 1) <| fun x39 => some (.inl (b39_3, x39))
noncomputable def f_X11_othersIn_l5 (a1 : Int32) (a2 : Int32) (M : zm_Mem) (l5_3 : Int32) (l5_4 : Int32) : Option ((Int32 × Int32) ⊕ Int32) :=
 zm_ck (zm_in (M.1 52 18) 2) <| if (M.1 66 (M.1 52 18).toNatClampNeg) ≤ l5_4 then (some (.inr l5_3)) else (if l5_4 = a1 then (f_X11_othersIn_b39_5 l5_4 l5_3) else (zm_ck (zm_in l5_4 60) <| if (M.1 92 l5_4.toNatClampNeg) = a2 then (zm_v (l5_3 + 1) <| fun x36 => f_X11_othersIn_b39_5 l5_4 x36) else (f_X11_othersIn_b39_5 l5_4 l5_3)))
noncomputable def f_X11_othersIn (a1 : Int32) (a2 : Int32) (M : zm_Mem) : Option Int32 :=
  (zm_lp (fun s => f_X11_othersIn_l5 a1 a2 M s.1 s.2) (0, 0)).bind (fun e45 => some e45)
set_option maxRecDepth 20000 in
set_option maxHeartbeats 4000000 in
theorem k_X11_othersIn (E : zm_E) (sv : Nat) (a1 : Int32) (a2 : Int32) (M : zm_Mem) {r : Int32} (h : f_X11_othersIn a1 a2 M = some r) : zm_Ct E (zm_w sv) (zm_w sv) yX11_othersIn Y_X11_othersIn [.ref (E.2.1 + 52), .int a1, .int a2] M (some (.int r)) M := by
  refine zm_methr (emb := zm_ei) (d := f_X11_othersIn a1 a2 M) (by decide) rfl rfl (Nat.le_of_ble_eq_true rfl) h (fun X => ?_)
  show zm_V X Y_X11_othersIn E (zm_Q X E Y_X11_othersIn.2.2.2.1.cells Y_X11_othersIn.2.2.2.1.slots (zm_w sv) zm_ei) 0 0 false (zm_w sv) 0 [(0, .ref (E.2.1 + 52)), (1, .int a1), (2, .int a2)] [] M (f_X11_othersIn a1 a2 M) (fun r => some (r, M))
  unfold f_X11_othersIn
  refine zm_iconst 1 rfl dX11_othersIn_0 zi_0 ?_
  refine zm_istore_n (lv' := [(3, .int 0), (0, .ref (E.2.1 + 52)), (1, .int a1), (2, .int a2)]) 2 rfl dX11_othersIn_1 rfl (by decide) rfl ?_
  refine zm_iconst 3 rfl dX11_othersIn_2 zi_0 ?_
  refine zm_istore (lv' := [(4, .int 0), (3, .int 0), (0, .ref (E.2.1 + 52)), (1, .int a1), (2, .int a2)]) 5 rfl dX11_othersIn_3 (by decide) rfl ?_
  have hx45_5 : ∀ (e45_3 : Int32), zm_V X Y_X11_othersIn E (zm_Q X E Y_X11_othersIn.2.2.2.1.cells Y_X11_othersIn.2.2.2.1.slots (zm_w sv) zm_ei) 0 0 false (zm_w sv) 45 [(3, .int e45_3)] [] M (some e45_3) (fun r => some (r, M)) := by
    intro e45_3
    refine zm_iload_n 46 rfl dX11_othersIn_45 rfl 0 rfl ?_
    exact zm_iret dX11_othersIn_46 rfl (Nat.le_refl _) (Nat.le_refl _) rfl
  refine zm_loc [2, 3, 4, 1, 0] rfl (zm_lpp (σ := (Int32 × Int32)) (ε := Int32) (step := fun s => f_X11_othersIn_l5 a1 a2 M s.1 s.2) (fun s => [(0, .ref (E.2.1 + 52)), (1, .int a1), (2, .int a2), (3, .int s.1), (4, .int s.2)]) (fun _ => M) (fun D5 f5 hf5a hf5b hD5 s => ?_) (0, 0))
  obtain ⟨l5_3, l5_4⟩ := s
  show zm_V X Y_X11_othersIn E (zm_Q X E Y_X11_othersIn.2.2.2.1.cells Y_X11_othersIn.2.2.2.1.slots (zm_w sv) zm_ei) 0 0 false (zm_w sv) 5 [(0, .ref (E.2.1 + 52)), (1, .int a1), (2, .int a2), (3, .int l5_3), (4, .int l5_4)] [] M (f_X11_othersIn_l5 a1 a2 M l5_3 l5_4) f5
  unfold f_X11_othersIn_l5
  refine zm_iload 7 rfl dX11_othersIn_5 4 rfl ?_
  refine zm_aload_n 8 rfl dX11_othersIn_7 rfl 0 rfl ?_
  refine zm_getR (a := 66) 11 rfl dX11_othersIn_8 fl_X11_58 rfl (zm_L (sv := sv) rfl) rfl (by decide) ?_
  refine zm_aload_n 12 rfl dX11_othersIn_11 rfl 0 rfl ?_
  refine zm_getI 15 rfl dX11_othersIn_12 fl_X11_251 rfl (zm_L (sv := sv) rfl) ?_
  refine zm_iald 16 rfl dX11_othersIn_15 rfl (zm_L (sv := sv) rfl) ?_
  refine zm_icmp_ge 45 19 (by decide) rfl dX11_othersIn_16 ?_ ?_
  · exact zm_loc [3] rfl (zm_go (hf5b _) (zm_unb (hx45_5 l5_3)))
  · refine zm_iload 21 rfl dX11_othersIn_19 4 rfl ?_
    refine zm_iload_n 22 rfl dX11_othersIn_21 rfl 1 rfl ?_
    have hb39_5 : ∀ (b39_3 : Int32), zm_V X Y_X11_othersIn E (zm_Q X E Y_X11_othersIn.2.2.2.1.cells Y_X11_othersIn.2.2.2.1.slots (zm_w sv) zm_ei) 0 0 false (zm_w sv) 39 [(0, .ref (E.2.1 + 52)), (1, .int a1), (2, .int a2), (3, .int b39_3), (4, .int l5_4)] [] M (f_X11_othersIn_b39_5 l5_4 b39_3) f5 := by
      intro b39_3
      unfold f_X11_othersIn_b39_5
      refine zm_iinc (lv' := fun z => [(4, .int z), (0, .ref (E.2.1 + 52)), (1, .int a1), (2, .int a2), (3, .int b39_3)]) 42 rfl dX11_othersIn_39 zi_1 4 rfl (by decide) (fun _ => rfl) (fun x39 _ => ?_)
      refine zm_goto 5 (by decide) dX11_othersIn_42 ?_
      exact zm_loc [1, 2, 3, 4, 0] rfl (zm_go (hf5a _) (hD5 (b39_3, x39)))
    refine zm_icmp_eq 39 25 (by decide) rfl dX11_othersIn_22 ?_ ?_
    · exact zm_loc [0, 1, 2, 3, 4] rfl (hb39_5 l5_3)
    · refine zm_aload_n 26 rfl dX11_othersIn_25 rfl 0 rfl ?_
      refine zm_getR (a := 92) 29 rfl dX11_othersIn_26 fl_X11_137 rfl (zm_L (sv := sv) rfl) rfl (by decide) ?_
      refine zm_iload 31 rfl dX11_othersIn_29 4 rfl ?_
      refine zm_iald 32 rfl dX11_othersIn_31 rfl (zm_L (sv := sv) rfl) ?_
      refine zm_iload_n 33 rfl dX11_othersIn_32 rfl 2 rfl ?_
      refine zm_icmp_ne 39 36 (by decide) rfl dX11_othersIn_33 ?_ ?_
      · refine zm_iinc (lv' := fun z => [(3, .int z), (0, .ref (E.2.1 + 52)), (1, .int a1), (2, .int a2), (4, .int l5_4)]) 39 rfl dX11_othersIn_36 zi_1 3 rfl (by decide) (fun _ => rfl) (fun x36 _ => ?_)
        exact zm_loc [1, 2, 3, 0, 4] rfl (hb39_5 x36)
      · exact zm_loc [0, 1, 2, 3, 4] rfl (hb39_5 l5_3)
abbrev Y_X11_hasRoom : zm_Y := (cX11_hasRoom, 3, RX11, { frames := 1, cells := 0, slots := 0, locals := 24 }, (some .boolean), false, "hasRoom")
noncomputable def f_X11_hasRoom (a1 : Int32) (a2 : Int32) (M : zm_Mem) : Option Int32 :=
  zm_b1 (f_X11_othersIn a1 a2 M) <| fun r3 => zm_ck (zm_in ((5 * (M.1 52 18)) + a2) 10) <| if (M.1 65 ((5 * (M.1 52 18)) + a2).toNatClampNeg) ≤ r3 then (some 0) else (some 1)
set_option maxRecDepth 20000 in
set_option maxHeartbeats 4000000 in
theorem k_X11_hasRoom (E : zm_E) (sv : Nat) (a1 : Int32) (a2 : Int32) (M : zm_Mem) {r : Int32} (h : f_X11_hasRoom a1 a2 M = some r) : zm_Ct E (zm_w sv) (zm_w sv) yX11_hasRoom Y_X11_hasRoom [.ref (E.2.1 + 52), .int a1, .int a2] M (some (.int r)) M := by
  refine zm_methr (emb := zm_ei) (d := f_X11_hasRoom a1 a2 M) (by decide) rfl rfl (Nat.le_of_ble_eq_true rfl) h (fun X => ?_)
  show zm_V X Y_X11_hasRoom E (zm_Q X E Y_X11_hasRoom.2.2.2.1.cells Y_X11_hasRoom.2.2.2.1.slots (zm_w sv) zm_ei) 0 0 false (zm_w sv) 0 [(0, .ref (E.2.1 + 52)), (1, .int a1), (2, .int a2)] [] M (f_X11_hasRoom a1 a2 M) (fun r => some (r, M))
  unfold f_X11_hasRoom
  refine zm_aload_n 1 rfl dX11_hasRoom_0 rfl 0 rfl ?_
  refine zm_iload_n 2 rfl dX11_hasRoom_1 rfl 1 rfl ?_
  refine zm_iload_n 3 rfl dX11_hasRoom_2 rfl 2 rfl ?_
  refine zm_cV2ir 6 rfl dX11_hasRoom_3 ml_X11_362 rfl (zm_L (sv := sv) rfl) rfl (Nat.le_of_ble_eq_true rfl) ⟨Nat.le_of_ble_eq_true rfl, Nat.le_of_ble_eq_true rfl⟩ rfl rfl ⟨Nat.le_refl _, Nat.le_refl _⟩ rfl (fun _ h => k_X11_othersIn E sv a1 a2 M h) (fun r3 => ?_)
  refine zm_aload_n 7 rfl dX11_hasRoom_6 rfl 0 rfl ?_
  refine zm_getR (a := 65) 10 rfl dX11_hasRoom_7 fl_X11_55 rfl (zm_L (sv := sv) rfl) rfl (by decide) ?_
  refine zm_iconst 11 rfl dX11_hasRoom_10 zi_5 ?_
  refine zm_aload_n 12 rfl dX11_hasRoom_11 rfl 0 rfl ?_
  refine zm_getI 15 rfl dX11_hasRoom_12 fl_X11_251 rfl (zm_L (sv := sv) rfl) ?_
  refine zm_imul 16 rfl dX11_hasRoom_15 ?_
  refine zm_iload_n 17 rfl dX11_hasRoom_16 rfl 2 rfl ?_
  refine zm_iadd 18 rfl dX11_hasRoom_17 ?_
  refine zm_iald 19 rfl dX11_hasRoom_18 rfl (zm_L (sv := sv) rfl) ?_
  refine zm_icmp_ge 26 22 (by decide) rfl dX11_hasRoom_19 ?_ ?_
  · refine zm_iconst 27 rfl dX11_hasRoom_26 zi_0 ?_
    exact zm_zret dX11_hasRoom_27 rfl rfl (Nat.le_refl _) (Nat.le_refl _) rfl
  · refine zm_iconst 23 rfl dX11_hasRoom_22 zi_1 ?_
    refine zm_goto 27 (by decide) dX11_hasRoom_23 ?_
    exact zm_zret dX11_hasRoom_27 rfl rfl (Nat.le_refl _) (Nat.le_refl _) rfl
abbrev Y_X11_mayHang : zm_Y := (cX11_mayHang, 3, RX11, { frames := 4, cells := 0, slots := 0, locals := 96 }, (some .boolean), false, "mayHang")
noncomputable def f_X11_mayHang_b27 (M27 : zm_Mem) : Option (Int32 × zm_Mem) :=
 some (0, M27)
noncomputable def f_X11_mayHang (a1 : Int32) (a2 : Int32) (M : zm_Mem) : Option (Int32 × zm_Mem) :=
  zm_b1 (f_X11_hasRoom a1 a2 M) <| fun r3 => if r3 = 0 then (f_X11_mayHang_b27 M) else (zm_b2 (f_X11_brokenIn a1 a2 M) <| fun r12 M12 => zm_b1 (f_X11_standing M12) <| fun r16 => if (r12 &&& r16) = 0 then (some (1, M12)) else (f_X11_mayHang_b27 M12))
set_option maxRecDepth 20000 in
set_option maxHeartbeats 4000000 in
theorem k_X11_mayHang (E : zm_E) (sv : Nat) (a1 : Int32) (a2 : Int32) (M : zm_Mem) {r : Int32} {M' : zm_Mem} (h : f_X11_mayHang a1 a2 M = some (r, M')) : zm_Ct E (zm_w sv) (zm_w sv) yX11_mayHang Y_X11_mayHang [.ref (E.2.1 + 52), .int a1, .int a2] M (some (.int r)) M' := by
  refine zm_meth (emb := zm_ei) (d := f_X11_mayHang a1 a2 M) (by decide) rfl rfl (Nat.le_of_ble_eq_true rfl) h (fun X => ?_)
  show zm_V X Y_X11_mayHang E (zm_Q X E Y_X11_mayHang.2.2.2.1.cells Y_X11_mayHang.2.2.2.1.slots (zm_w sv) zm_ei) 0 0 false (zm_w sv) 0 [(0, .ref (E.2.1 + 52)), (1, .int a1), (2, .int a2)] [] M (f_X11_mayHang a1 a2 M) some
  unfold f_X11_mayHang
  refine zm_aload_n 1 rfl dX11_mayHang_0 rfl 0 rfl ?_
  refine zm_iload_n 2 rfl dX11_mayHang_1 rfl 1 rfl ?_
  refine zm_iload_n 3 rfl dX11_mayHang_2 rfl 2 rfl ?_
  refine zm_cV2ir 6 rfl dX11_mayHang_3 ml_X11_365 rfl (zm_L (sv := sv) rfl) rfl (Nat.le_of_ble_eq_true rfl) ⟨Nat.le_of_ble_eq_true rfl, Nat.le_of_ble_eq_true rfl⟩ rfl rfl ⟨Nat.le_refl _, Nat.le_refl _⟩ rfl (fun _ h => k_X11_hasRoom E sv a1 a2 M h) (fun r3 => ?_)
  have hb27 : ∀ (M27 : zm_Mem), zm_V X Y_X11_mayHang E (zm_Q X E Y_X11_mayHang.2.2.2.1.cells Y_X11_mayHang.2.2.2.1.slots (zm_w sv) zm_ei) 0 0 false (zm_w sv) 27 [] [] M27 (f_X11_mayHang_b27 M27) some := by
    intro M27
    unfold f_X11_mayHang_b27
    refine zm_iconst 28 rfl dX11_mayHang_27 zi_0 ?_
    exact zm_zret dX11_mayHang_28 rfl rfl (Nat.le_refl _) (Nat.le_refl _) rfl
  refine zm_if_eq 27 9 (by decide) rfl dX11_mayHang_6 ?_ ?_
  · exact zm_loc [] rfl (hb27 M)
  · refine zm_aload_n 10 rfl dX11_mayHang_9 rfl 0 rfl ?_
    refine zm_iload_n 11 rfl dX11_mayHang_10 rfl 1 rfl ?_
    refine zm_iload_n 12 rfl dX11_mayHang_11 rfl 2 rfl ?_
    refine zm_cV2i 15 rfl dX11_mayHang_12 ml_X11_369 rfl (zm_L (sv := sv) rfl) rfl (Nat.le_of_ble_eq_true rfl) ⟨Nat.le_of_ble_eq_true rfl, Nat.le_of_ble_eq_true rfl⟩ rfl rfl ⟨Nat.le_refl _, Nat.le_refl _⟩ rfl (fun _ _ h => k_X11_brokenIn E sv a1 a2 M h) (fun r12 M12 => ?_)
    refine zm_aload_n 16 rfl dX11_mayHang_15 rfl 0 rfl ?_
    refine zm_cV0ir 19 rfl dX11_mayHang_16 ml_X11_372 rfl (zm_L (sv := sv) rfl) rfl (Nat.le_of_ble_eq_true rfl) ⟨Nat.le_of_ble_eq_true rfl, Nat.le_of_ble_eq_true rfl⟩ rfl rfl ⟨Nat.le_refl _, Nat.le_refl _⟩ rfl (fun _ h => k_X11_standing E sv M12 h) (fun r16 => ?_)
    refine zm_iand 20 rfl dX11_mayHang_19 ?_
    refine zm_if_ne 27 23 (by decide) rfl dX11_mayHang_20 ?_ ?_
    · refine zm_iconst 24 rfl dX11_mayHang_23 zi_1 ?_
      refine zm_goto 28 (by decide) dX11_mayHang_24 ?_
      exact zm_zret dX11_mayHang_28 rfl rfl (Nat.le_refl _) (Nat.le_refl _) rfl
    · exact zm_loc [] rfl (hb27 M12)
abbrev Y_X11_isWell : zm_Y := (cX11_isWell, 2, RX11, { frames := 5, cells := 0, slots := 0, locals := 118 }, (some .boolean), false, "isWell")
noncomputable def f_X11_isWell_b40_2 (l2_1 : Int32) (M40 : zm_Mem) : Option ((Int32 × zm_Mem) ⊕ (zm_Mem ⊕ zm_Mem)) :=
 zm_v (l2_1 + 1) <| fun x40 => some (.inl (x40, M40))
noncomputable def f_X11_isWell_l2 (l2_1 : Int32) (L2 : zm_Mem) : Option ((Int32 × zm_Mem) ⊕ (zm_Mem ⊕ zm_Mem)) :=
 zm_ck (zm_in (L2.1 52 18) 2) <| if (L2.1 66 (L2.1 52 18).toNatClampNeg) ≤ l2_1 then (some (.inr (.inr L2))) else (zm_ck (zm_in l2_1 60) <| if (L2.1 92 l2_1.toNatClampNeg) < 0 then (f_X11_isWell_b40_2 l2_1 L2) else (zm_ck (zm_in l2_1 60) <| zm_b2 (f_X11_mayHang l2_1 (L2.1 92 l2_1.toNatClampNeg) L2) <| fun r32 M32 => if r32 = 0 then (some (.inr (.inl M32))) else (f_X11_isWell_b40_2 l2_1 M32)))
noncomputable def f_X11_isWell  (M : zm_Mem) : Option (Int32 × zm_Mem) :=
  (zm_lp (fun s => f_X11_isWell_l2 s.1 s.2) (0, M)).bind (Sum.elim (fun e38 => some (0, e38)) (fun e46 => some (1, e46)))
set_option maxRecDepth 20000 in
set_option maxHeartbeats 4000000 in
theorem k_X11_isWell (E : zm_E) (sv : Nat)  (M : zm_Mem) {r : Int32} {M' : zm_Mem} (h : f_X11_isWell M = some (r, M')) : zm_Ct E (zm_w sv) (zm_w sv) yX11_isWell Y_X11_isWell [.ref (E.2.1 + 52)] M (some (.int r)) M' := by
  refine zm_meth (emb := zm_ei) (d := f_X11_isWell M) (by decide) rfl rfl (Nat.le_of_ble_eq_true rfl) h (fun X => ?_)
  show zm_V X Y_X11_isWell E (zm_Q X E Y_X11_isWell.2.2.2.1.cells Y_X11_isWell.2.2.2.1.slots (zm_w sv) zm_ei) 0 0 false (zm_w sv) 0 [(0, .ref (E.2.1 + 52))] [] M (f_X11_isWell M) some
  unfold f_X11_isWell
  refine zm_iconst 1 rfl dX11_isWell_0 zi_0 ?_
  refine zm_istore_n (lv' := [(1, .int 0), (0, .ref (E.2.1 + 52))]) 2 rfl dX11_isWell_1 rfl (by decide) rfl ?_
  have hx38_2 : ∀ (N38 : zm_Mem), zm_V X Y_X11_isWell E (zm_Q X E Y_X11_isWell.2.2.2.1.cells Y_X11_isWell.2.2.2.1.slots (zm_w sv) zm_ei) 0 0 false (zm_w sv) 38 [] [] N38 (some (0, N38)) some := by
    intro N38
    refine zm_iconst 39 rfl dX11_isWell_38 zi_0 ?_
    exact zm_zret dX11_isWell_39 rfl rfl (Nat.le_refl _) (Nat.le_refl _) rfl
  have hx46_2 : ∀ (N46 : zm_Mem), zm_V X Y_X11_isWell E (zm_Q X E Y_X11_isWell.2.2.2.1.cells Y_X11_isWell.2.2.2.1.slots (zm_w sv) zm_ei) 0 0 false (zm_w sv) 46 [] [] N46 (some (1, N46)) some := by
    intro N46
    refine zm_iconst 47 rfl dX11_isWell_46 zi_1 ?_
    exact zm_zret dX11_isWell_47 rfl rfl (Nat.le_refl _) (Nat.le_refl _) rfl
  refine zm_loc [1, 0] rfl (zm_lpp (σ := (Int32 × zm_Mem)) (ε := (zm_Mem ⊕ zm_Mem)) (step := fun s => f_X11_isWell_l2 s.1 s.2) (fun s => [(0, .ref (E.2.1 + 52)), (1, .int s.1)]) (fun s => s.2) (fun D2 f2 hf2a hf2b hD2 s => ?_) (0, M))
  obtain ⟨l2_1, L2⟩ := s
  show zm_V X Y_X11_isWell E (zm_Q X E Y_X11_isWell.2.2.2.1.cells Y_X11_isWell.2.2.2.1.slots (zm_w sv) zm_ei) 0 0 false (zm_w sv) 2 [(0, .ref (E.2.1 + 52)), (1, .int l2_1)] [] L2 (f_X11_isWell_l2 l2_1 L2) f2
  unfold f_X11_isWell_l2
  refine zm_iload_n 3 rfl dX11_isWell_2 rfl 1 rfl ?_
  refine zm_aload_n 4 rfl dX11_isWell_3 rfl 0 rfl ?_
  refine zm_getR (a := 66) 7 rfl dX11_isWell_4 fl_X11_58 rfl (zm_L (sv := sv) rfl) rfl (by decide) ?_
  refine zm_aload_n 8 rfl dX11_isWell_7 rfl 0 rfl ?_
  refine zm_getI 11 rfl dX11_isWell_8 fl_X11_251 rfl (zm_L (sv := sv) rfl) ?_
  refine zm_iald 12 rfl dX11_isWell_11 rfl (zm_L (sv := sv) rfl) ?_
  refine zm_icmp_ge 46 15 (by decide) rfl dX11_isWell_12 ?_ ?_
  · exact zm_loc [] rfl (zm_go (hf2b _) (zm_unb (hx46_2 L2)))
  · refine zm_aload_n 16 rfl dX11_isWell_15 rfl 0 rfl ?_
    refine zm_getR (a := 92) 19 rfl dX11_isWell_16 fl_X11_137 rfl (zm_L (sv := sv) rfl) rfl (by decide) ?_
    refine zm_iload_n 20 rfl dX11_isWell_19 rfl 1 rfl ?_
    refine zm_iald 21 rfl dX11_isWell_20 rfl (zm_L (sv := sv) rfl) ?_
    have hb40_2 : ∀ (M40 : zm_Mem), zm_V X Y_X11_isWell E (zm_Q X E Y_X11_isWell.2.2.2.1.cells Y_X11_isWell.2.2.2.1.slots (zm_w sv) zm_ei) 0 0 false (zm_w sv) 40 [(0, .ref (E.2.1 + 52)), (1, .int l2_1)] [] M40 (f_X11_isWell_b40_2 l2_1 M40) f2 := by
      intro M40
      unfold f_X11_isWell_b40_2
      refine zm_iinc (lv' := fun z => [(1, .int z), (0, .ref (E.2.1 + 52))]) 43 rfl dX11_isWell_40 zi_1 1 rfl (by decide) (fun _ => rfl) (fun x40 _ => ?_)
      refine zm_goto 2 (by decide) dX11_isWell_43 ?_
      exact zm_loc [1, 0] rfl (zm_go (hf2a _) (hD2 (x40, M40)))
    refine zm_if_lt 40 24 (by decide) rfl dX11_isWell_21 ?_ ?_
    · exact zm_loc [0, 1] rfl (hb40_2 L2)
    · refine zm_aload_n 25 rfl dX11_isWell_24 rfl 0 rfl ?_
      refine zm_iload_n 26 rfl dX11_isWell_25 rfl 1 rfl ?_
      refine zm_aload_n 27 rfl dX11_isWell_26 rfl 0 rfl ?_
      refine zm_getR (a := 92) 30 rfl dX11_isWell_27 fl_X11_137 rfl (zm_L (sv := sv) rfl) rfl (by decide) ?_
      refine zm_iload_n 31 rfl dX11_isWell_30 rfl 1 rfl ?_
      refine zm_iald 32 rfl dX11_isWell_31 rfl (zm_L (sv := sv) rfl) ?_
      refine zm_cV2i 35 rfl dX11_isWell_32 ml_X11_375 rfl (zm_L (sv := sv) rfl) rfl (Nat.le_of_ble_eq_true rfl) ⟨Nat.le_of_ble_eq_true rfl, Nat.le_of_ble_eq_true rfl⟩ rfl rfl ⟨Nat.le_refl _, Nat.le_refl _⟩ rfl (fun _ _ h => k_X11_mayHang E sv l2_1 (L2.1 92 l2_1.toNatClampNeg) L2 h) (fun r32 M32 => ?_)
      refine zm_if_ne 40 38 (by decide) rfl dX11_isWell_35 ?_ ?_
      · exact zm_loc [] rfl (zm_go (hf2b _) (zm_unb (hx38_2 M32)))
      · exact zm_loc [0, 1] rfl (hb40_2 M32)
abbrev Y_X11_likesOf : zm_Y := (cX11_likesOf, 5, RX11, { frames := 3, cells := 0, slots := 0, locals := 77 }, (some .int), false, "likesOf")
noncomputable def f_X11_likesOf (a1 : Int32) (a2 : Int32) (a3 : Int32) (a4 : Int32) (M : zm_Mem) : Option (Int32 × zm_Mem) :=
  zm_b2 (f_X11_looks a2 a1 a3 a4 M) <| fun _ M6 => zm_ck (zm_in ((6 * (M6.1 52 18)) + a2) 12) <| zm_b2 (f_X11_asks 1 (M6.1 70 ((6 * (M6.1 52 18)) + a2).toNatClampNeg) 0 99 M6) <| fun r28 M28 => some (r28, M28)
set_option maxRecDepth 20000 in
set_option maxHeartbeats 4000000 in
theorem k_X11_likesOf (E : zm_E) (sv : Nat) (a1 : Int32) (a2 : Int32) (a3 : Int32) (a4 : Int32) (M : zm_Mem) {r : Int32} {M' : zm_Mem} (h : f_X11_likesOf a1 a2 a3 a4 M = some (r, M')) : zm_Ct E (zm_w sv) (zm_w sv) yX11_likesOf Y_X11_likesOf [.ref (E.2.1 + 52), .int a1, .int a2, .int a3, .int a4] M (some (.int r)) M' := by
  refine zm_meth (emb := zm_ei) (d := f_X11_likesOf a1 a2 a3 a4 M) (by decide) rfl rfl (Nat.le_of_ble_eq_true rfl) h (fun X => ?_)
  show zm_V X Y_X11_likesOf E (zm_Q X E Y_X11_likesOf.2.2.2.1.cells Y_X11_likesOf.2.2.2.1.slots (zm_w sv) zm_ei) 0 0 false (zm_w sv) 0 [(0, .ref (E.2.1 + 52)), (1, .int a1), (2, .int a2), (3, .int a3), (4, .int a4)] [] M (f_X11_likesOf a1 a2 a3 a4 M) some
  unfold f_X11_likesOf
  refine zm_aload_n 1 rfl dX11_likesOf_0 rfl 0 rfl ?_
  refine zm_iload_n 2 rfl dX11_likesOf_1 rfl 2 rfl ?_
  refine zm_iload_n 3 rfl dX11_likesOf_2 rfl 1 rfl ?_
  refine zm_iload_n 4 rfl dX11_likesOf_3 rfl 3 rfl ?_
  refine zm_iload 6 rfl dX11_likesOf_4 4 rfl ?_
  refine zm_cV4v 9 rfl dX11_likesOf_6 ml_X11_355 rfl (zm_L (sv := sv) rfl) rfl (Nat.le_of_ble_eq_true rfl) ⟨Nat.le_of_ble_eq_true rfl, Nat.le_of_ble_eq_true rfl⟩ rfl rfl ⟨Nat.le_refl _, Nat.le_refl _⟩ rfl (fun _ _ h => k_X11_looks E sv a2 a1 a3 a4 M h) (fun _ M6 => ?_)
  refine zm_aload_n 10 rfl dX11_likesOf_9 rfl 0 rfl ?_
  refine zm_iconst 11 rfl dX11_likesOf_10 zi_1 ?_
  refine zm_aload_n 12 rfl dX11_likesOf_11 rfl 0 rfl ?_
  refine zm_getR (a := 70) 15 rfl dX11_likesOf_12 fl_X11_70 rfl (zm_L (sv := sv) rfl) rfl (by decide) ?_
  refine zm_bipush 17 rfl dX11_likesOf_15 zb_6 ?_
  refine zm_aload_n 18 rfl dX11_likesOf_17 rfl 0 rfl ?_
  refine zm_getI 21 rfl dX11_likesOf_18 fl_X11_251 rfl (zm_L (sv := sv) rfl) ?_
  refine zm_imul 22 rfl dX11_likesOf_21 ?_
  refine zm_iload_n 23 rfl dX11_likesOf_22 rfl 2 rfl ?_
  refine zm_iadd 24 rfl dX11_likesOf_23 ?_
  refine zm_iald 25 rfl dX11_likesOf_24 rfl (zm_L (sv := sv) rfl) ?_
  refine zm_iconst 26 rfl dX11_likesOf_25 zi_0 ?_
  refine zm_bipush 28 rfl dX11_likesOf_26 zb_99 ?_
  refine zm_cV4i 31 rfl dX11_likesOf_28 ml_X11_378 rfl (zm_L (sv := sv) rfl) rfl (Nat.le_of_ble_eq_true rfl) ⟨Nat.le_of_ble_eq_true rfl, Nat.le_of_ble_eq_true rfl⟩ rfl rfl ⟨Nat.le_refl _, Nat.le_refl _⟩ rfl (fun _ _ h => k_X11_asks E sv 1 (M6.1 70 ((6 * (M6.1 52 18)) + a2).toNatClampNeg) 0 99 M6 h) (fun r28 M28 => ?_)
  exact zm_iret dX11_likesOf_31 rfl (Nat.le_refl _) (Nat.le_refl _) rfl
abbrev Y_X11_tripOf : zm_Y := (cX11_tripOf, 3, RX11, { frames := 3, cells := 0, slots := 0, locals := 77 }, (some .int), false, "tripOf")
noncomputable def f_X11_tripOf (a1 : Int32) (a2 : Int32) (M : zm_Mem) : Option (Int32 × zm_Mem) :=
  zm_b2 (f_X11_looks a1 a2 1 (-1) M) <| fun _ M5 => zm_b2 (f_X11_asks 0 3 1 99 M5) <| fun r14 M14 => some (r14, M14)
set_option maxRecDepth 20000 in
set_option maxHeartbeats 4000000 in
theorem k_X11_tripOf (E : zm_E) (sv : Nat) (a1 : Int32) (a2 : Int32) (M : zm_Mem) {r : Int32} {M' : zm_Mem} (h : f_X11_tripOf a1 a2 M = some (r, M')) : zm_Ct E (zm_w sv) (zm_w sv) yX11_tripOf Y_X11_tripOf [.ref (E.2.1 + 52), .int a1, .int a2] M (some (.int r)) M' := by
  refine zm_meth (emb := zm_ei) (d := f_X11_tripOf a1 a2 M) (by decide) rfl rfl (Nat.le_of_ble_eq_true rfl) h (fun X => ?_)
  show zm_V X Y_X11_tripOf E (zm_Q X E Y_X11_tripOf.2.2.2.1.cells Y_X11_tripOf.2.2.2.1.slots (zm_w sv) zm_ei) 0 0 false (zm_w sv) 0 [(0, .ref (E.2.1 + 52)), (1, .int a1), (2, .int a2)] [] M (f_X11_tripOf a1 a2 M) some
  unfold f_X11_tripOf
  refine zm_aload_n 1 rfl dX11_tripOf_0 rfl 0 rfl ?_
  refine zm_iload_n 2 rfl dX11_tripOf_1 rfl 1 rfl ?_
  refine zm_iload_n 3 rfl dX11_tripOf_2 rfl 2 rfl ?_
  refine zm_iconst 4 rfl dX11_tripOf_3 zi_1 ?_
  refine zm_iconst 5 rfl dX11_tripOf_4 zi_m1 ?_
  refine zm_cV4v 8 rfl dX11_tripOf_5 ml_X11_355 rfl (zm_L (sv := sv) rfl) rfl (Nat.le_of_ble_eq_true rfl) ⟨Nat.le_of_ble_eq_true rfl, Nat.le_of_ble_eq_true rfl⟩ rfl rfl ⟨Nat.le_refl _, Nat.le_refl _⟩ rfl (fun _ _ h => k_X11_looks E sv a1 a2 1 (-1) M h) (fun _ M5 => ?_)
  refine zm_aload_n 9 rfl dX11_tripOf_8 rfl 0 rfl ?_
  refine zm_iconst 10 rfl dX11_tripOf_9 zi_0 ?_
  refine zm_iconst 11 rfl dX11_tripOf_10 zi_3 ?_
  refine zm_iconst 12 rfl dX11_tripOf_11 zi_1 ?_
  refine zm_bipush 14 rfl dX11_tripOf_12 zb_99 ?_
  refine zm_cV4i 17 rfl dX11_tripOf_14 ml_X11_378 rfl (zm_L (sv := sv) rfl) rfl (Nat.le_of_ble_eq_true rfl) ⟨Nat.le_of_ble_eq_true rfl, Nat.le_of_ble_eq_true rfl⟩ rfl rfl ⟨Nat.le_refl _, Nat.le_refl _⟩ rfl (fun _ _ h => k_X11_asks E sv 0 3 1 99 M5 h) (fun r14 M14 => ?_)
  exact zm_iret dX11_tripOf_17 rfl (Nat.le_refl _) (Nat.le_refl _) rfl
abbrev Y_X11_isLate : zm_Y := (cX11_isLate, 1, RX11, { frames := 1, cells := 0, slots := 0, locals := 22 }, (some .boolean), false, "isLate")
noncomputable def f_X11_isLate  (M : zm_Mem) : Option Int32 :=
  zm_b1 (f_X11_mixed (M.1 52 58) 83 M) <| fun r6 => zm_ck (zm_in 31 60) <| zm_b1 (f_X11_mixed r6 (8 * (M.1 92 (31 : Int32).toNatClampNeg)) M) <| fun r19 => zm_ck (!decide ((100 : Int32) = 0)) <| zm_ck (zm_in (M.1 52 18) 2) <| if (M.1 76 (M.1 52 18).toNatClampNeg) ≤ (((r19.toUInt32 >>> ((1 : Int32).toUInt32 &&& Int32.toUInt32 31)).toInt32) - ((r19.toUInt32 >>> ((1 : Int32).toUInt32 &&& Int32.toUInt32 31)).toInt32) / 100 * 100) then (some 0) else (some 1)
set_option maxRecDepth 20000 in
set_option maxHeartbeats 4000000 in
theorem k_X11_isLate (E : zm_E) (sv : Nat)  (M : zm_Mem) {r : Int32} (h : f_X11_isLate M = some r) : zm_Ct E (zm_w sv) (zm_w sv) yX11_isLate Y_X11_isLate [.ref (E.2.1 + 52)] M (some (.int r)) M := by
  refine zm_methr (emb := zm_ei) (d := f_X11_isLate M) (by decide) rfl rfl (Nat.le_of_ble_eq_true rfl) h (fun X => ?_)
  show zm_V X Y_X11_isLate E (zm_Q X E Y_X11_isLate.2.2.2.1.cells Y_X11_isLate.2.2.2.1.slots (zm_w sv) zm_ei) 0 0 false (zm_w sv) 0 [(0, .ref (E.2.1 + 52))] [] M (f_X11_isLate M) (fun r => some (r, M))
  unfold f_X11_isLate
  refine zm_aload_n 1 rfl dX11_isLate_0 rfl 0 rfl ?_
  refine zm_getI 4 rfl dX11_isLate_1 fl_X11_339 rfl (zm_L (sv := sv) rfl) ?_
  refine zm_bipush 6 rfl dX11_isLate_4 zb_83 ?_
  refine zm_cS2ir 9 rfl dX11_isLate_6 ml_X11_382 (Nat.le_of_ble_eq_true rfl) ⟨Nat.le_of_ble_eq_true rfl, Nat.le_of_ble_eq_true rfl⟩ rfl rfl ⟨Nat.le_refl _, Nat.le_refl _⟩ rfl (fun _ h => k_X11_mixed E (zm_w sv) (M.1 52 58) 83 M h) (fun r6 => ?_)
  refine zm_bipush 11 rfl dX11_isLate_9 zb_8 ?_
  refine zm_aload_n 12 rfl dX11_isLate_11 rfl 0 rfl ?_
  refine zm_getR (a := 92) 15 rfl dX11_isLate_12 fl_X11_137 rfl (zm_L (sv := sv) rfl) rfl (by decide) ?_
  refine zm_bipush 17 rfl dX11_isLate_15 zb_31 ?_
  refine zm_iald 18 rfl dX11_isLate_17 rfl (zm_L (sv := sv) rfl) ?_
  refine zm_imul 19 rfl dX11_isLate_18 ?_
  refine zm_cS2ir 22 rfl dX11_isLate_19 ml_X11_382 (Nat.le_of_ble_eq_true rfl) ⟨Nat.le_of_ble_eq_true rfl, Nat.le_of_ble_eq_true rfl⟩ rfl rfl ⟨Nat.le_refl _, Nat.le_refl _⟩ rfl (fun _ h => k_X11_mixed E (zm_w sv) r6 (8 * (M.1 92 (31 : Int32).toNatClampNeg)) M h) (fun r19 => ?_)
  refine zm_iconst 23 rfl dX11_isLate_22 zi_1 ?_
  refine zm_iushr 24 rfl dX11_isLate_23 ?_
  refine zm_bipush 26 rfl dX11_isLate_24 zb_100 ?_
  refine zm_irem 27 rfl dX11_isLate_26 ?_
  refine zm_aload_n 28 rfl dX11_isLate_27 rfl 0 rfl ?_
  refine zm_getR (a := 76) 31 rfl dX11_isLate_28 fl_X11_88 rfl (zm_L (sv := sv) rfl) rfl (by decide) ?_
  refine zm_aload_n 32 rfl dX11_isLate_31 rfl 0 rfl ?_
  refine zm_getI 35 rfl dX11_isLate_32 fl_X11_251 rfl (zm_L (sv := sv) rfl) ?_
  refine zm_iald 36 rfl dX11_isLate_35 rfl (zm_L (sv := sv) rfl) ?_
  refine zm_icmp_ge 43 39 (by decide) rfl dX11_isLate_36 ?_ ?_
  · refine zm_iconst 44 rfl dX11_isLate_43 zi_0 ?_
    exact zm_zret dX11_isLate_44 rfl rfl (Nat.le_refl _) (Nat.le_refl _) rfl
  · refine zm_iconst 40 rfl dX11_isLate_39 zi_1 ?_
    refine zm_goto 44 (by decide) dX11_isLate_40 ?_
    exact zm_zret dX11_isLate_44 rfl rfl (Nat.le_refl _) (Nat.le_refl _) rfl
abbrev Y_X11_arrives : zm_Y := (cX11_arrives, 2, RX11, { frames := 0, cells := 0, slots := 0, locals := 0 }, none, false, "arrives")
noncomputable def f_X11_arrives_b83_2 (l2_1 : Int32) (M83 : zm_Mem) : Option ((Int32 × zm_Mem) ⊕ zm_Mem) :=
 zm_v (l2_1 + 1) <| fun x83 => some (.inl (x83, M83))
noncomputable def f_X11_arrives_l2 (l2_1 : Int32) (L2 : zm_Mem) : Option ((Int32 × zm_Mem) ⊕ zm_Mem) :=
 zm_ck (zm_in (L2.1 52 18) 2) <| if (L2.1 66 (L2.1 52 18).toNatClampNeg) ≤ l2_1 then (some (.inr L2)) else (zm_ck (zm_in l2_1 60) <| if 0 ≤ (L2.1 92 l2_1.toNatClampNeg) then (f_X11_arrives_b83_2 l2_1 L2) else (zm_ck (zm_in (12 + l2_1) 60) <| zm_ck (zm_in 30 60) <| if (L2.1 92 (12 + l2_1).toNatClampNeg) ≤ (L2.1 92 (30 : Int32).toNatClampNeg) then (zm_ck (zm_in (6 + l2_1) 60) <| zm_ck (zm_in l2_1 60) <| zm_v (zm_sI L2 92 l2_1.toNatClampNeg (L2.1 92 (6 + l2_1).toNatClampNeg)) <| fun M60 => zm_ck (zm_in (6 + l2_1) 60) <| zm_v (zm_sI M60 92 (6 + l2_1).toNatClampNeg (-2)) <| fun M71 => zm_ck (zm_in (12 + l2_1) 60) <| zm_v (zm_sI M71 92 (12 + l2_1).toNatClampNeg (-2)) <| fun M82 => f_X11_arrives_b83_2 l2_1 M82) else (f_X11_arrives_b83_2 l2_1 L2)))
noncomputable def f_X11_arrives  (M : zm_Mem) : Option (Unit × zm_Mem) :=
  (zm_lp (fun s => f_X11_arrives_l2 s.1 s.2) (0, M)).bind (fun e89 => some ((), e89))
set_option maxRecDepth 20000 in
set_option maxHeartbeats 4000000 in
theorem k_X11_arrives (E : zm_E) (sv : Nat)  (M : zm_Mem) {r : Unit} {M' : zm_Mem} (h : f_X11_arrives M = some (r, M')) : zm_Ct E (zm_w sv) (zm_w sv) yX11_arrives Y_X11_arrives [.ref (E.2.1 + 52)] M none M' := by
  refine zm_meth (emb := zm_ev) (d := f_X11_arrives M) (by decide) rfl rfl (Nat.le_of_ble_eq_true rfl) h (fun X => ?_)
  show zm_V X Y_X11_arrives E (zm_Q X E Y_X11_arrives.2.2.2.1.cells Y_X11_arrives.2.2.2.1.slots (zm_w sv) zm_ev) 0 0 false (zm_w sv) 0 [(0, .ref (E.2.1 + 52))] [] M (f_X11_arrives M) some
  unfold f_X11_arrives
  refine zm_iconst 1 rfl dX11_arrives_0 zi_0 ?_
  refine zm_istore_n (lv' := [(1, .int 0), (0, .ref (E.2.1 + 52))]) 2 rfl dX11_arrives_1 rfl (by decide) rfl ?_
  have hx89_2 : ∀ (N89 : zm_Mem), zm_V X Y_X11_arrives E (zm_Q X E Y_X11_arrives.2.2.2.1.cells Y_X11_arrives.2.2.2.1.slots (zm_w sv) zm_ev) 0 0 false (zm_w sv) 89 [] [] N89 (some ((), N89)) some := by
    intro N89
    exact zm_vret dX11_arrives_89 rfl (Nat.le_refl _) (Nat.le_refl _) rfl
  refine zm_loc [1, 0] rfl (zm_lpp (σ := (Int32 × zm_Mem)) (ε := zm_Mem) (step := fun s => f_X11_arrives_l2 s.1 s.2) (fun s => [(0, .ref (E.2.1 + 52)), (1, .int s.1)]) (fun s => s.2) (fun D2 f2 hf2a hf2b hD2 s => ?_) (0, M))
  obtain ⟨l2_1, L2⟩ := s
  show zm_V X Y_X11_arrives E (zm_Q X E Y_X11_arrives.2.2.2.1.cells Y_X11_arrives.2.2.2.1.slots (zm_w sv) zm_ev) 0 0 false (zm_w sv) 2 [(0, .ref (E.2.1 + 52)), (1, .int l2_1)] [] L2 (f_X11_arrives_l2 l2_1 L2) f2
  unfold f_X11_arrives_l2
  refine zm_iload_n 3 rfl dX11_arrives_2 rfl 1 rfl ?_
  refine zm_aload_n 4 rfl dX11_arrives_3 rfl 0 rfl ?_
  refine zm_getR (a := 66) 7 rfl dX11_arrives_4 fl_X11_58 rfl (zm_L (sv := sv) rfl) rfl (by decide) ?_
  refine zm_aload_n 8 rfl dX11_arrives_7 rfl 0 rfl ?_
  refine zm_getI 11 rfl dX11_arrives_8 fl_X11_251 rfl (zm_L (sv := sv) rfl) ?_
  refine zm_iald 12 rfl dX11_arrives_11 rfl (zm_L (sv := sv) rfl) ?_
  refine zm_icmp_ge 89 15 (by decide) rfl dX11_arrives_12 ?_ ?_
  · exact zm_loc [] rfl (zm_go (hf2b _) (zm_unb (hx89_2 L2)))
  · refine zm_aload_n 16 rfl dX11_arrives_15 rfl 0 rfl ?_
    refine zm_getR (a := 92) 19 rfl dX11_arrives_16 fl_X11_137 rfl (zm_L (sv := sv) rfl) rfl (by decide) ?_
    refine zm_iload_n 20 rfl dX11_arrives_19 rfl 1 rfl ?_
    refine zm_iald 21 rfl dX11_arrives_20 rfl (zm_L (sv := sv) rfl) ?_
    have hb83_2 : ∀ (M83 : zm_Mem), zm_V X Y_X11_arrives E (zm_Q X E Y_X11_arrives.2.2.2.1.cells Y_X11_arrives.2.2.2.1.slots (zm_w sv) zm_ev) 0 0 false (zm_w sv) 83 [(0, .ref (E.2.1 + 52)), (1, .int l2_1)] [] M83 (f_X11_arrives_b83_2 l2_1 M83) f2 := by
      intro M83
      unfold f_X11_arrives_b83_2
      refine zm_iinc (lv' := fun z => [(1, .int z), (0, .ref (E.2.1 + 52))]) 86 rfl dX11_arrives_83 zi_1 1 rfl (by decide) (fun _ => rfl) (fun x83 _ => ?_)
      refine zm_goto 2 (by decide) dX11_arrives_86 ?_
      exact zm_loc [1, 0] rfl (zm_go (hf2a _) (hD2 (x83, M83)))
    refine zm_if_ge 83 24 (by decide) rfl dX11_arrives_21 ?_ ?_
    · exact zm_loc [0, 1] rfl (hb83_2 L2)
    · refine zm_aload_n 25 rfl dX11_arrives_24 rfl 0 rfl ?_
      refine zm_getR (a := 92) 28 rfl dX11_arrives_25 fl_X11_137 rfl (zm_L (sv := sv) rfl) rfl (by decide) ?_
      refine zm_bipush 30 rfl dX11_arrives_28 zb_12 ?_
      refine zm_iload_n 31 rfl dX11_arrives_30 rfl 1 rfl ?_
      refine zm_iadd 32 rfl dX11_arrives_31 ?_
      refine zm_iald 33 rfl dX11_arrives_32 rfl (zm_L (sv := sv) rfl) ?_
      refine zm_aload_n 34 rfl dX11_arrives_33 rfl 0 rfl ?_
      refine zm_getR (a := 92) 37 rfl dX11_arrives_34 fl_X11_137 rfl (zm_L (sv := sv) rfl) rfl (by decide) ?_
      refine zm_bipush 39 rfl dX11_arrives_37 zb_30 ?_
      refine zm_iald 40 rfl dX11_arrives_39 rfl (zm_L (sv := sv) rfl) ?_
      refine zm_icmp_le 46 43 (by decide) rfl dX11_arrives_40 ?_ ?_
      · refine zm_aload_n 47 rfl dX11_arrives_46 rfl 0 rfl ?_
        refine zm_getR (a := 92) 50 rfl dX11_arrives_47 fl_X11_137 rfl (zm_L (sv := sv) rfl) rfl (by decide) ?_
        refine zm_iload_n 51 rfl dX11_arrives_50 rfl 1 rfl ?_
        refine zm_aload_n 52 rfl dX11_arrives_51 rfl 0 rfl ?_
        refine zm_getR (a := 92) 55 rfl dX11_arrives_52 fl_X11_137 rfl (zm_L (sv := sv) rfl) rfl (by decide) ?_
        refine zm_bipush 57 rfl dX11_arrives_55 zb_6 ?_
        refine zm_iload_n 58 rfl dX11_arrives_57 rfl 1 rfl ?_
        refine zm_iadd 59 rfl dX11_arrives_58 ?_
        refine zm_iald 60 rfl dX11_arrives_59 rfl (zm_L (sv := sv) rfl) ?_
        refine zm_iast 61 rfl dX11_arrives_60 rfl (zm_L (sv := sv) rfl) (fun M60 _ => ?_)
        refine zm_aload_n 62 rfl dX11_arrives_61 rfl 0 rfl ?_
        refine zm_getR (a := 92) 65 rfl dX11_arrives_62 fl_X11_137 rfl (zm_L (sv := sv) rfl) rfl (by decide) ?_
        refine zm_bipush 67 rfl dX11_arrives_65 zb_6 ?_
        refine zm_iload_n 68 rfl dX11_arrives_67 rfl 1 rfl ?_
        refine zm_iadd 69 rfl dX11_arrives_68 ?_
        refine zm_bipush 71 rfl dX11_arrives_69 zb_m2 ?_
        refine zm_iast 72 rfl dX11_arrives_71 rfl (zm_L (sv := sv) rfl) (fun M71 _ => ?_)
        refine zm_aload_n 73 rfl dX11_arrives_72 rfl 0 rfl ?_
        refine zm_getR (a := 92) 76 rfl dX11_arrives_73 fl_X11_137 rfl (zm_L (sv := sv) rfl) rfl (by decide) ?_
        refine zm_bipush 78 rfl dX11_arrives_76 zb_12 ?_
        refine zm_iload_n 79 rfl dX11_arrives_78 rfl 1 rfl ?_
        refine zm_iadd 80 rfl dX11_arrives_79 ?_
        refine zm_bipush 82 rfl dX11_arrives_80 zb_m2 ?_
        refine zm_iast 83 rfl dX11_arrives_82 rfl (zm_L (sv := sv) rfl) (fun M82 _ => ?_)
        exact zm_loc [0, 1] rfl (hb83_2 M82)
      · refine zm_goto 83 (by decide) dX11_arrives_43 ?_
        exact zm_loc [0, 1] rfl (hb83_2 L2)
abbrev Y_X11_worksIn : zm_Y := (cX11_worksIn, 4, RX11, { frames := 0, cells := 0, slots := 0, locals := 0 }, (some .int), false, "worksIn")
noncomputable def f_X11_worksIn_b33_4 (l4_3 : Int32) (b33_2 : Int32) : Option ((Int32 × Int32) ⊕ Int32) :=
 zm_v (l4_3 + 1) <| fun x33 => some (.inl (b33_2, x33))
noncomputable def f_X11_worksIn_l4 (a1 : Int32) (M : zm_Mem) (l4_2 : Int32) (l4_3 : Int32) : Option ((Int32 × Int32) ⊕ Int32) :=
 zm_ck (zm_in (M.1 52 18) 2) <| if (M.1 66 (M.1 52 18).toNatClampNeg) ≤ l4_3 then (some (.inr l4_2)) else (zm_ck (zm_in l4_3 60) <| if (M.1 92 l4_3.toNatClampNeg) = a1 then (zm_v (l4_2 ||| ((1 : Int32) <<< (l4_3 &&& 31))) <| fun x32 => f_X11_worksIn_b33_4 l4_3 x32) else (f_X11_worksIn_b33_4 l4_3 l4_2))
noncomputable def f_X11_worksIn (a1 : Int32) (M : zm_Mem) : Option Int32 :=
  (zm_lp (fun s => f_X11_worksIn_l4 a1 M s.1 s.2) (0, 0)).bind (fun e39 => some e39)
set_option maxRecDepth 20000 in
set_option maxHeartbeats 4000000 in
theorem k_X11_worksIn (E : zm_E) (sv : Nat) (a1 : Int32) (M : zm_Mem) {r : Int32} (h : f_X11_worksIn a1 M = some r) : zm_Ct E (zm_w sv) (zm_w sv) yX11_worksIn Y_X11_worksIn [.ref (E.2.1 + 52), .int a1] M (some (.int r)) M := by
  refine zm_methr (emb := zm_ei) (d := f_X11_worksIn a1 M) (by decide) rfl rfl (Nat.le_of_ble_eq_true rfl) h (fun X => ?_)
  show zm_V X Y_X11_worksIn E (zm_Q X E Y_X11_worksIn.2.2.2.1.cells Y_X11_worksIn.2.2.2.1.slots (zm_w sv) zm_ei) 0 0 false (zm_w sv) 0 [(0, .ref (E.2.1 + 52)), (1, .int a1)] [] M (f_X11_worksIn a1 M) (fun r => some (r, M))
  unfold f_X11_worksIn
  refine zm_iconst 1 rfl dX11_worksIn_0 zi_0 ?_
  refine zm_istore_n (lv' := [(2, .int 0), (0, .ref (E.2.1 + 52)), (1, .int a1)]) 2 rfl dX11_worksIn_1 rfl (by decide) rfl ?_
  refine zm_iconst 3 rfl dX11_worksIn_2 zi_0 ?_
  refine zm_istore_n (lv' := [(3, .int 0), (2, .int 0), (0, .ref (E.2.1 + 52)), (1, .int a1)]) 4 rfl dX11_worksIn_3 rfl (by decide) rfl ?_
  have hx39_4 : ∀ (e39_2 : Int32), zm_V X Y_X11_worksIn E (zm_Q X E Y_X11_worksIn.2.2.2.1.cells Y_X11_worksIn.2.2.2.1.slots (zm_w sv) zm_ei) 0 0 false (zm_w sv) 39 [(2, .int e39_2)] [] M (some e39_2) (fun r => some (r, M)) := by
    intro e39_2
    refine zm_iload_n 40 rfl dX11_worksIn_39 rfl 0 rfl ?_
    exact zm_iret dX11_worksIn_40 rfl (Nat.le_refl _) (Nat.le_refl _) rfl
  refine zm_loc [2, 3, 1, 0] rfl (zm_lpp (σ := (Int32 × Int32)) (ε := Int32) (step := fun s => f_X11_worksIn_l4 a1 M s.1 s.2) (fun s => [(0, .ref (E.2.1 + 52)), (1, .int a1), (2, .int s.1), (3, .int s.2)]) (fun _ => M) (fun D4 f4 hf4a hf4b hD4 s => ?_) (0, 0))
  obtain ⟨l4_2, l4_3⟩ := s
  show zm_V X Y_X11_worksIn E (zm_Q X E Y_X11_worksIn.2.2.2.1.cells Y_X11_worksIn.2.2.2.1.slots (zm_w sv) zm_ei) 0 0 false (zm_w sv) 4 [(0, .ref (E.2.1 + 52)), (1, .int a1), (2, .int l4_2), (3, .int l4_3)] [] M (f_X11_worksIn_l4 a1 M l4_2 l4_3) f4
  unfold f_X11_worksIn_l4
  refine zm_iload_n 5 rfl dX11_worksIn_4 rfl 3 rfl ?_
  refine zm_aload_n 6 rfl dX11_worksIn_5 rfl 0 rfl ?_
  refine zm_getR (a := 66) 9 rfl dX11_worksIn_6 fl_X11_58 rfl (zm_L (sv := sv) rfl) rfl (by decide) ?_
  refine zm_aload_n 10 rfl dX11_worksIn_9 rfl 0 rfl ?_
  refine zm_getI 13 rfl dX11_worksIn_10 fl_X11_251 rfl (zm_L (sv := sv) rfl) ?_
  refine zm_iald 14 rfl dX11_worksIn_13 rfl (zm_L (sv := sv) rfl) ?_
  refine zm_icmp_ge 39 17 (by decide) rfl dX11_worksIn_14 ?_ ?_
  · exact zm_loc [2] rfl (zm_go (hf4b _) (zm_unb (hx39_4 l4_2)))
  · refine zm_aload_n 18 rfl dX11_worksIn_17 rfl 0 rfl ?_
    refine zm_getR (a := 92) 21 rfl dX11_worksIn_18 fl_X11_137 rfl (zm_L (sv := sv) rfl) rfl (by decide) ?_
    refine zm_iload_n 22 rfl dX11_worksIn_21 rfl 3 rfl ?_
    refine zm_iald 23 rfl dX11_worksIn_22 rfl (zm_L (sv := sv) rfl) ?_
    refine zm_iload_n 24 rfl dX11_worksIn_23 rfl 1 rfl ?_
    have hb33_4 : ∀ (b33_2 : Int32), zm_V X Y_X11_worksIn E (zm_Q X E Y_X11_worksIn.2.2.2.1.cells Y_X11_worksIn.2.2.2.1.slots (zm_w sv) zm_ei) 0 0 false (zm_w sv) 33 [(0, .ref (E.2.1 + 52)), (1, .int a1), (2, .int b33_2), (3, .int l4_3)] [] M (f_X11_worksIn_b33_4 l4_3 b33_2) f4 := by
      intro b33_2
      unfold f_X11_worksIn_b33_4
      refine zm_iinc (lv' := fun z => [(3, .int z), (0, .ref (E.2.1 + 52)), (1, .int a1), (2, .int b33_2)]) 36 rfl dX11_worksIn_33 zi_1 3 rfl (by decide) (fun _ => rfl) (fun x33 _ => ?_)
      refine zm_goto 4 (by decide) dX11_worksIn_36 ?_
      exact zm_loc [1, 2, 3, 0] rfl (zm_go (hf4a _) (hD4 (b33_2, x33)))
    refine zm_icmp_ne 33 27 (by decide) rfl dX11_worksIn_24 ?_ ?_
    · refine zm_iload_n 28 rfl dX11_worksIn_27 rfl 2 rfl ?_
      refine zm_iconst 29 rfl dX11_worksIn_28 zi_1 ?_
      refine zm_iload_n 30 rfl dX11_worksIn_29 rfl 3 rfl ?_
      refine zm_ishl 31 rfl dX11_worksIn_30 ?_
      refine zm_ior 32 rfl dX11_worksIn_31 ?_
      refine zm_nmi (fun x32 _ => ?_)
      refine zm_istore_n (lv' := [(2, .int x32), (0, .ref (E.2.1 + 52)), (1, .int a1), (3, .int l4_3)]) 33 rfl dX11_worksIn_32 rfl (by decide) rfl ?_
      exact zm_loc [1, 2, 0, 3] rfl (hb33_4 x32)
    · exact zm_loc [0, 1, 2, 3] rfl (hb33_4 l4_2)
abbrev Y_X11_house : zm_Y := (cX11_house, 5, RX11, { frames := 4, cells := 0, slots := 0, locals := 101 }, (some .int), false, "house")
noncomputable def f_X11_house_b118_87 (l87_4 : Int32) (b118_3 : Int32) : Option ((Int32 × Int32) ⊕ Int32) :=
 zm_v (l87_4 + 1) <| fun x118 => some (.inl (b118_3, x118))
noncomputable def f_X11_house_l87 (a1 : Int32) (M11 : zm_Mem) (l87_3 : Int32) (l87_4 : Int32) : Option ((Int32 × Int32) ⊕ Int32) :=
 zm_ck (zm_in (M11.1 52 18) 2) <| if (M11.1 66 (M11.1 52 18).toNatClampNeg) ≤ l87_4 then (some (.inr l87_3)) else (zm_b1 (f_X11_ownerNow l87_4 M11) <| fun r104 => if r104 = a1 then (zm_v (l87_3 ||| ((1 : Int32) <<< (l87_4 &&& 31))) <| fun x117 => f_X11_house_b118_87 l87_4 x117) else (f_X11_house_b118_87 l87_4 l87_3))
noncomputable def f_X11_house_b168_131 (l131_4 : Int32) (b168_3 : Int32) (M168 : zm_Mem) : Option ((Int32 × Int32 × zm_Mem) ⊕ (Int32 × zm_Mem)) :=
 zm_v (l131_4 + 1) <| fun x168 => some (.inl (b168_3, x168, M168))
noncomputable def f_X11_house_l131 (a1 : Int32) (l131_3 : Int32) (l131_4 : Int32) (L131 : zm_Mem) : Option ((Int32 × Int32 × zm_Mem) ⊕ (Int32 × zm_Mem)) :=
 zm_ck (zm_in (L131.1 52 18) 2) <| if (L131.1 66 (L131.1 52 18).toNatClampNeg) ≤ l131_4 then (some (.inr (l131_3, L131))) else (zm_ck (zm_in l131_4 60) <| if (L131.1 92 l131_4.toNatClampNeg) = a1 then (zm_b2 (f_X11_likesOf a1 l131_4 0 (-1) L131) <| fun r163 M163 => zm_v (l131_3 + r163) <| fun x167 => f_X11_house_b168_131 l131_4 x167 M163) else (f_X11_house_b168_131 l131_4 l131_3 L131))
noncomputable def f_X11_house (a1 : Int32) (a2 : Int32) (M : zm_Mem) : Option (Int32 × zm_Mem) :=
  zm_b1 (f_X11_isHouse a1 M) <| fun r2 => if r2 = 0 then (some ((-1), M)) else (zm_b2 (f_X11_copies M) <| fun _ M11 => if a2 = 0 then (zm_ck (zm_in ((5 * (M11.1 52 18)) + a1) 10) <| some (M11.1 64 ((5 * (M11.1 52 18)) + a1).toNatClampNeg, M11)) else if a2 = 1 then (zm_ck (zm_in ((5 * (M11.1 52 18)) + a1) 10) <| some (M11.1 65 ((5 * (M11.1 52 18)) + a1).toNatClampNeg, M11)) else if a2 = 2 then (zm_b1 (f_X11_worksIn a1 M11) <| fun r78 => some (r78, M11)) else if a2 = 3 then ((zm_lp (fun s => f_X11_house_l87 a1 M11 s.1 s.2) (0, 0)).bind (fun e124 => some (e124, M11))) else if a2 = 4 then ((zm_lp (fun s => f_X11_house_l131 a1 s.1 s.2.1 s.2.2) (0, 0, M11)).bind (fun e174 => some (e174.1, e174.2))) else (some ((-1), M11)))
set_option maxRecDepth 20000 in
set_option maxHeartbeats 4000000 in
theorem k_X11_house (E : zm_E) (sv : Nat) (a1 : Int32) (a2 : Int32) (M : zm_Mem) {r : Int32} {M' : zm_Mem} (h : f_X11_house a1 a2 M = some (r, M')) : zm_Ct E (zm_w sv) (zm_w sv) yX11_house Y_X11_house [.ref (E.2.1 + 52), .int a1, .int a2] M (some (.int r)) M' := by
  refine zm_meth (emb := zm_ei) (d := f_X11_house a1 a2 M) (by decide) rfl rfl (Nat.le_of_ble_eq_true rfl) h (fun X => ?_)
  show zm_V X Y_X11_house E (zm_Q X E Y_X11_house.2.2.2.1.cells Y_X11_house.2.2.2.1.slots (zm_w sv) zm_ei) 0 0 false (zm_w sv) 0 [(0, .ref (E.2.1 + 52)), (1, .int a1), (2, .int a2)] [] M (f_X11_house a1 a2 M) some
  unfold f_X11_house
  refine zm_aload_n 1 rfl dX11_house_0 rfl 0 rfl ?_
  refine zm_iload_n 2 rfl dX11_house_1 rfl 1 rfl ?_
  refine zm_cV1ir 5 rfl dX11_house_2 ml_X11_385 rfl (zm_L (sv := sv) rfl) rfl (Nat.le_of_ble_eq_true rfl) ⟨Nat.le_of_ble_eq_true rfl, Nat.le_of_ble_eq_true rfl⟩ rfl rfl ⟨Nat.le_refl _, Nat.le_refl _⟩ rfl (fun _ h => k_X11_isHouse E sv a1 M h) (fun r2 => ?_)
  refine zm_if_ne 10 8 (by decide) rfl dX11_house_5 ?_ ?_
  · refine zm_iconst 9 rfl dX11_house_8 zi_m1 ?_
    exact zm_iret dX11_house_9 rfl (Nat.le_refl _) (Nat.le_refl _) rfl
  · refine zm_aload_n 11 rfl dX11_house_10 rfl 0 rfl ?_
    refine zm_cV0v 14 rfl dX11_house_11 ml_X11_388 rfl (zm_L (sv := sv) rfl) rfl (Nat.le_of_ble_eq_true rfl) ⟨Nat.le_of_ble_eq_true rfl, Nat.le_of_ble_eq_true rfl⟩ rfl rfl ⟨Nat.le_refl _, Nat.le_refl _⟩ rfl (fun _ _ h => k_X11_copies E sv M h) (fun _ M11 => ?_)
    refine zm_iload_n 15 rfl dX11_house_14 rfl 2 rfl ?_
    refine zm_case (fun hc => ?_) (fun hc0_15 => ?_)
    · refine zm_tsIn (off := 33) 48 hc dX11_house_15 (by decide) (by decide) (by decide) (by decide) ?_
      refine zm_aload_n 49 rfl dX11_house_48 rfl 0 rfl ?_
      refine zm_getR (a := 64) 52 rfl dX11_house_49 fl_X11_52 rfl (zm_L (sv := sv) rfl) rfl (by decide) ?_
      refine zm_iconst 53 rfl dX11_house_52 zi_5 ?_
      refine zm_aload_n 54 rfl dX11_house_53 rfl 0 rfl ?_
      refine zm_getI 57 rfl dX11_house_54 fl_X11_251 rfl (zm_L (sv := sv) rfl) ?_
      refine zm_imul 58 rfl dX11_house_57 ?_
      refine zm_iload_n 59 rfl dX11_house_58 rfl 1 rfl ?_
      refine zm_iadd 60 rfl dX11_house_59 ?_
      refine zm_iald 61 rfl dX11_house_60 rfl (zm_L (sv := sv) rfl) ?_
      exact zm_iret dX11_house_61 rfl (Nat.le_refl _) (Nat.le_refl _) rfl
    refine zm_case (fun hc => ?_) (fun hc1_15 => ?_)
    · refine zm_tsIn (off := 47) 62 hc dX11_house_15 (by decide) (by decide) (by decide) (by decide) ?_
      refine zm_aload_n 63 rfl dX11_house_62 rfl 0 rfl ?_
      refine zm_getR (a := 65) 66 rfl dX11_house_63 fl_X11_55 rfl (zm_L (sv := sv) rfl) rfl (by decide) ?_
      refine zm_iconst 67 rfl dX11_house_66 zi_5 ?_
      refine zm_aload_n 68 rfl dX11_house_67 rfl 0 rfl ?_
      refine zm_getI 71 rfl dX11_house_68 fl_X11_251 rfl (zm_L (sv := sv) rfl) ?_
      refine zm_imul 72 rfl dX11_house_71 ?_
      refine zm_iload_n 73 rfl dX11_house_72 rfl 1 rfl ?_
      refine zm_iadd 74 rfl dX11_house_73 ?_
      refine zm_iald 75 rfl dX11_house_74 rfl (zm_L (sv := sv) rfl) ?_
      exact zm_iret dX11_house_75 rfl (Nat.le_refl _) (Nat.le_refl _) rfl
    refine zm_case (fun hc => ?_) (fun hc2_15 => ?_)
    · refine zm_tsIn (off := 61) 76 hc dX11_house_15 (by decide) (by decide) (by decide) (by decide) ?_
      refine zm_aload_n 77 rfl dX11_house_76 rfl 0 rfl ?_
      refine zm_iload_n 78 rfl dX11_house_77 rfl 1 rfl ?_
      refine zm_cV1ir 81 rfl dX11_house_78 ml_X11_391 rfl (zm_L (sv := sv) rfl) rfl (Nat.le_of_ble_eq_true rfl) ⟨Nat.le_of_ble_eq_true rfl, Nat.le_of_ble_eq_true rfl⟩ rfl rfl ⟨Nat.le_refl _, Nat.le_refl _⟩ rfl (fun _ h => k_X11_worksIn E sv a1 M11 h) (fun r78 => ?_)
      exact zm_iret dX11_house_81 rfl (Nat.le_refl _) (Nat.le_refl _) rfl
    refine zm_case (fun hc => ?_) (fun hc3_15 => ?_)
    · refine zm_tsIn (off := 67) 82 hc dX11_house_15 (by decide) (by decide) (by decide) (by decide) ?_
      refine zm_iconst 83 rfl dX11_house_82 zi_0 ?_
      refine zm_istore_n (lv' := [(3, .int 0), (0, .ref (E.2.1 + 52)), (1, .int a1), (2, .int a2)]) 84 rfl dX11_house_83 rfl (by decide) rfl ?_
      refine zm_iconst 85 rfl dX11_house_84 zi_0 ?_
      refine zm_istore (lv' := [(4, .int 0), (3, .int 0), (0, .ref (E.2.1 + 52)), (1, .int a1), (2, .int a2)]) 87 rfl dX11_house_85 (by decide) rfl ?_
      have hx124_87 : ∀ (e124_3 : Int32), zm_V X Y_X11_house E (zm_Q X E Y_X11_house.2.2.2.1.cells Y_X11_house.2.2.2.1.slots (zm_w sv) zm_ei) 0 0 false (zm_w sv) 124 [(3, .int e124_3)] [] M11 (some (e124_3, M11)) some := by
        intro e124_3
        refine zm_iload_n 125 rfl dX11_house_124 rfl 0 rfl ?_
        exact zm_iret dX11_house_125 rfl (Nat.le_refl _) (Nat.le_refl _) rfl
      refine zm_loc [2, 3, 1, 0] rfl (zm_lpp (σ := (Int32 × Int32)) (ε := Int32) (step := fun s => f_X11_house_l87 a1 M11 s.1 s.2) (fun s => [(0, .ref (E.2.1 + 52)), (1, .int a1), (3, .int s.1), (4, .int s.2)]) (fun _ => M11) (fun D87 f87 hf87a hf87b hD87 s => ?_) (0, 0))
      obtain ⟨l87_3, l87_4⟩ := s
      show zm_V X Y_X11_house E (zm_Q X E Y_X11_house.2.2.2.1.cells Y_X11_house.2.2.2.1.slots (zm_w sv) zm_ei) 0 0 false (zm_w sv) 87 [(0, .ref (E.2.1 + 52)), (1, .int a1), (3, .int l87_3), (4, .int l87_4)] [] M11 (f_X11_house_l87 a1 M11 l87_3 l87_4) f87
      unfold f_X11_house_l87
      refine zm_iload 89 rfl dX11_house_87 3 rfl ?_
      refine zm_aload_n 90 rfl dX11_house_89 rfl 0 rfl ?_
      refine zm_getR (a := 66) 93 rfl dX11_house_90 fl_X11_58 rfl (zm_L (sv := sv) rfl) rfl (by decide) ?_
      refine zm_aload_n 94 rfl dX11_house_93 rfl 0 rfl ?_
      refine zm_getI 97 rfl dX11_house_94 fl_X11_251 rfl (zm_L (sv := sv) rfl) ?_
      refine zm_iald 98 rfl dX11_house_97 rfl (zm_L (sv := sv) rfl) ?_
      refine zm_icmp_ge 124 101 (by decide) rfl dX11_house_98 ?_ ?_
      · exact zm_loc [2] rfl (zm_go (hf87b _) (zm_unb (hx124_87 l87_3)))
      · refine zm_aload_n 102 rfl dX11_house_101 rfl 0 rfl ?_
        refine zm_iload 104 rfl dX11_house_102 3 rfl ?_
        refine zm_cV1ir 107 rfl dX11_house_104 ml_X11_343 rfl (zm_L (sv := sv) rfl) rfl (Nat.le_of_ble_eq_true rfl) ⟨Nat.le_of_ble_eq_true rfl, Nat.le_of_ble_eq_true rfl⟩ rfl rfl ⟨Nat.le_refl _, Nat.le_refl _⟩ rfl (fun _ h => k_X11_ownerNow E sv l87_4 M11 h) (fun r104 => ?_)
        refine zm_iload_n 108 rfl dX11_house_107 rfl 1 rfl ?_
        have hb118_87 : ∀ (b118_3 : Int32), zm_V X Y_X11_house E (zm_Q X E Y_X11_house.2.2.2.1.cells Y_X11_house.2.2.2.1.slots (zm_w sv) zm_ei) 0 0 false (zm_w sv) 118 [(0, .ref (E.2.1 + 52)), (1, .int a1), (3, .int b118_3), (4, .int l87_4)] [] M11 (f_X11_house_b118_87 l87_4 b118_3) f87 := by
          intro b118_3
          unfold f_X11_house_b118_87
          refine zm_iinc (lv' := fun z => [(4, .int z), (0, .ref (E.2.1 + 52)), (1, .int a1), (3, .int b118_3)]) 121 rfl dX11_house_118 zi_1 3 rfl (by decide) (fun _ => rfl) (fun x118 _ => ?_)
          refine zm_goto 87 (by decide) dX11_house_121 ?_
          exact zm_loc [1, 2, 3, 0] rfl (zm_go (hf87a _) (hD87 (b118_3, x118)))
        refine zm_icmp_ne 118 111 (by decide) rfl dX11_house_108 ?_ ?_
        · refine zm_iload_n 112 rfl dX11_house_111 rfl 2 rfl ?_
          refine zm_iconst 113 rfl dX11_house_112 zi_1 ?_
          refine zm_iload 115 rfl dX11_house_113 3 rfl ?_
          refine zm_ishl 116 rfl dX11_house_115 ?_
          refine zm_ior 117 rfl dX11_house_116 ?_
          refine zm_nmi (fun x117 _ => ?_)
          refine zm_istore_n (lv' := [(3, .int x117), (0, .ref (E.2.1 + 52)), (1, .int a1), (4, .int l87_4)]) 118 rfl dX11_house_117 rfl (by decide) rfl ?_
          exact zm_loc [1, 2, 0, 3] rfl (hb118_87 x117)
        · exact zm_loc [0, 1, 2, 3] rfl (hb118_87 l87_3)
    refine zm_case (fun hc => ?_) (fun hc4_15 => ?_)
    · refine zm_tsIn (off := 111) 126 hc dX11_house_15 (by decide) (by decide) (by decide) (by decide) ?_
      refine zm_iconst 127 rfl dX11_house_126 zi_0 ?_
      refine zm_istore_n (lv' := [(3, .int 0), (0, .ref (E.2.1 + 52)), (1, .int a1), (2, .int a2)]) 128 rfl dX11_house_127 rfl (by decide) rfl ?_
      refine zm_iconst 129 rfl dX11_house_128 zi_0 ?_
      refine zm_istore (lv' := [(4, .int 0), (3, .int 0), (0, .ref (E.2.1 + 52)), (1, .int a1), (2, .int a2)]) 131 rfl dX11_house_129 (by decide) rfl ?_
      have hx174_131 : ∀ (e174_3 : Int32) (N174 : zm_Mem), zm_V X Y_X11_house E (zm_Q X E Y_X11_house.2.2.2.1.cells Y_X11_house.2.2.2.1.slots (zm_w sv) zm_ei) 0 0 false (zm_w sv) 174 [(3, .int e174_3)] [] N174 (some (e174_3, N174)) some := by
        intro e174_3 N174
        refine zm_iload_n 175 rfl dX11_house_174 rfl 0 rfl ?_
        exact zm_iret dX11_house_175 rfl (Nat.le_refl _) (Nat.le_refl _) rfl
      refine zm_loc [2, 3, 1, 0] rfl (zm_lpp (σ := (Int32 × Int32 × zm_Mem)) (ε := (Int32 × zm_Mem)) (step := fun s => f_X11_house_l131 a1 s.1 s.2.1 s.2.2) (fun s => [(0, .ref (E.2.1 + 52)), (1, .int a1), (3, .int s.1), (4, .int s.2.1)]) (fun s => s.2.2) (fun D131 f131 hf131a hf131b hD131 s => ?_) (0, 0, M11))
      obtain ⟨l131_3, l131_4, L131⟩ := s
      show zm_V X Y_X11_house E (zm_Q X E Y_X11_house.2.2.2.1.cells Y_X11_house.2.2.2.1.slots (zm_w sv) zm_ei) 0 0 false (zm_w sv) 131 [(0, .ref (E.2.1 + 52)), (1, .int a1), (3, .int l131_3), (4, .int l131_4)] [] L131 (f_X11_house_l131 a1 l131_3 l131_4 L131) f131
      unfold f_X11_house_l131
      refine zm_iload 133 rfl dX11_house_131 3 rfl ?_
      refine zm_aload_n 134 rfl dX11_house_133 rfl 0 rfl ?_
      refine zm_getR (a := 66) 137 rfl dX11_house_134 fl_X11_58 rfl (zm_L (sv := sv) rfl) rfl (by decide) ?_
      refine zm_aload_n 138 rfl dX11_house_137 rfl 0 rfl ?_
      refine zm_getI 141 rfl dX11_house_138 fl_X11_251 rfl (zm_L (sv := sv) rfl) ?_
      refine zm_iald 142 rfl dX11_house_141 rfl (zm_L (sv := sv) rfl) ?_
      refine zm_icmp_ge 174 145 (by decide) rfl dX11_house_142 ?_ ?_
      · exact zm_loc [2] rfl (zm_go (hf131b _) (zm_unb (hx174_131 l131_3 L131)))
      · refine zm_aload_n 146 rfl dX11_house_145 rfl 0 rfl ?_
        refine zm_getR (a := 92) 149 rfl dX11_house_146 fl_X11_137 rfl (zm_L (sv := sv) rfl) rfl (by decide) ?_
        refine zm_iload 151 rfl dX11_house_149 3 rfl ?_
        refine zm_iald 152 rfl dX11_house_151 rfl (zm_L (sv := sv) rfl) ?_
        refine zm_iload_n 153 rfl dX11_house_152 rfl 1 rfl ?_
        have hb168_131 : ∀ (b168_3 : Int32) (M168 : zm_Mem), zm_V X Y_X11_house E (zm_Q X E Y_X11_house.2.2.2.1.cells Y_X11_house.2.2.2.1.slots (zm_w sv) zm_ei) 0 0 false (zm_w sv) 168 [(0, .ref (E.2.1 + 52)), (1, .int a1), (3, .int b168_3), (4, .int l131_4)] [] M168 (f_X11_house_b168_131 l131_4 b168_3 M168) f131 := by
          intro b168_3 M168
          unfold f_X11_house_b168_131
          refine zm_iinc (lv' := fun z => [(4, .int z), (0, .ref (E.2.1 + 52)), (1, .int a1), (3, .int b168_3)]) 171 rfl dX11_house_168 zi_1 3 rfl (by decide) (fun _ => rfl) (fun x168 _ => ?_)
          refine zm_goto 131 (by decide) dX11_house_171 ?_
          exact zm_loc [1, 2, 3, 0] rfl (zm_go (hf131a _) (hD131 (b168_3, x168, M168)))
        refine zm_icmp_ne 168 156 (by decide) rfl dX11_house_153 ?_ ?_
        · refine zm_iload_n 157 rfl dX11_house_156 rfl 2 rfl ?_
          refine zm_aload_n 158 rfl dX11_house_157 rfl 0 rfl ?_
          refine zm_iload_n 159 rfl dX11_house_158 rfl 1 rfl ?_
          refine zm_iload 161 rfl dX11_house_159 3 rfl ?_
          refine zm_iconst 162 rfl dX11_house_161 zi_0 ?_
          refine zm_iconst 163 rfl dX11_house_162 zi_m1 ?_
          refine zm_cV4i 166 rfl dX11_house_163 ml_X11_394 rfl (zm_L (sv := sv) rfl) rfl (Nat.le_of_ble_eq_true rfl) ⟨Nat.le_of_ble_eq_true rfl, Nat.le_of_ble_eq_true rfl⟩ rfl rfl ⟨Nat.le_refl _, Nat.le_refl _⟩ rfl (fun _ _ h => k_X11_likesOf E sv a1 l131_4 0 (-1) L131 h) (fun r163 M163 => ?_)
          refine zm_iadd 167 rfl dX11_house_166 ?_
          refine zm_nmi (fun x167 _ => ?_)
          refine zm_istore_n (lv' := [(3, .int x167), (0, .ref (E.2.1 + 52)), (1, .int a1), (4, .int l131_4)]) 168 rfl dX11_house_167 rfl (by decide) rfl ?_
          exact zm_loc [1, 2, 0, 3] rfl (hb168_131 x167 M163)
        · exact zm_loc [0, 1, 2, 3] rfl (hb168_131 l131_3 L131)
    refine zm_tsOut 176 dX11_house_15 (by have hn0 := zm_ne hc0_15 (w := 0) (by decide); have hn1 := zm_ne hc1_15 (w := 1) (by decide); have hn2 := zm_ne hc2_15 (w := 2) (by decide); have hn3 := zm_ne hc3_15 (w := 3) (by decide); have hn4 := zm_ne hc4_15 (w := 4) (by decide); omega) (by decide) ?_
    refine zm_iconst 177 rfl dX11_house_176 zi_m1 ?_
    exact zm_iret dX11_house_177 rfl (Nat.le_refl _) (Nat.le_refl _) rfl
