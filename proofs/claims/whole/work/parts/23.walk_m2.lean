abbrev Y_X11_work : zm_Y := (cX11_work, 5, RX11, { frames := 2, cells := 0, slots := 0, locals := 43 }, (some .int), false, "work")
noncomputable def f_X11_work_b103 (a1 : Int32) (a2 : Int32) (M11 : zm_Mem) : Option (Int32 × zm_Mem) :=
 zm_ck (zm_in ((6 * (a2 - 3)) + a1) 60) <| some (M11.1 92 ((6 * (a2 - 3)) + a1).toNatClampNeg, M11)
noncomputable def f_X11_work_x168_122 (M11 : zm_Mem) (e168_3 : Int32) : Option (Int32 × zm_Mem) :=
 zm_b1 (f_X11_standing M11) <| fun r170 => some (e168_3 &&& r170, M11)
noncomputable def f_X11_work_b162_122 (l122_4 : Int32) (b162_3 : Int32) : Option ((Int32 × Int32) ⊕ Int32) :=
 zm_v (l122_4 + 1) <| fun x162 => some (.inl (b162_3, x162))
noncomputable def f_X11_work_l122 (a1 : Int32) (M11 : zm_Mem) (l122_3 : Int32) (l122_4 : Int32) : Option ((Int32 × Int32) ⊕ Int32) :=
 zm_ck (zm_in (M11.1 52 18) 2) <| if (M11.1 71 (M11.1 52 18).toNatClampNeg) ≤ l122_4 then (some (.inr l122_3)) else (zm_ck (zm_in ((6 * (M11.1 52 18)) + l122_4) 12) <| if (M11.1 72 ((6 * (M11.1 52 18)) + l122_4).toNatClampNeg) = a1 then (zm_v (l122_3 ||| ((1 : Int32) <<< (l122_4 &&& 31))) <| fun x161 => f_X11_work_b162_122 l122_4 x161) else (f_X11_work_b162_122 l122_4 l122_3))
noncomputable def f_X11_work (a1 : Int32) (a2 : Int32) (M : zm_Mem) : Option (Int32 × zm_Mem) :=
  zm_b1 (f_X11_isWork a1 M) <| fun r2 => if r2 = 0 then (some ((-1), M)) else (zm_b2 (f_X11_copies M) <| fun _ M11 => if a2 = 0 then (zm_b1 (f_X11_ownerNow a1 M11) <| fun r62 => some (r62, M11)) else if a2 = 1 then (zm_ck (zm_in a1 60) <| some (M11.1 92 a1.toNatClampNeg, M11)) else if a2 = 2 then (zm_ck (zm_in ((6 * (M11.1 52 18)) + a1) 12) <| some (M11.1 69 ((6 * (M11.1 52 18)) + a1).toNatClampNeg, M11)) else if a2 = 3 then (zm_ck (zm_in ((6 * (M11.1 52 18)) + a1) 12) <| some (M11.1 70 ((6 * (M11.1 52 18)) + a1).toNatClampNeg, M11)) else if a2 = 4 then (f_X11_work_b103 a1 a2 M11) else if a2 = 5 then (f_X11_work_b103 a1 a2 M11) else if a2 = 6 then (f_X11_work_b103 a1 a2 M11) else if a2 = 7 then ((zm_lp (fun s => f_X11_work_l122 a1 M11 s.1 s.2) (0, 0)).bind (fun e168 => f_X11_work_x168_122 M11 e168)) else (some ((-1), M11)))
set_option maxRecDepth 20000 in
set_option maxHeartbeats 4000000 in
theorem k_X11_work (E : zm_E) (sv : Nat) (a1 : Int32) (a2 : Int32) (M : zm_Mem) {r : Int32} {M' : zm_Mem} (h : f_X11_work a1 a2 M = some (r, M')) : zm_Ct E (zm_w sv) (zm_w sv) yX11_work Y_X11_work [.ref (E.2.1 + 52), .int a1, .int a2] M (some (.int r)) M' := by
  refine zm_meth (emb := zm_ei) (d := f_X11_work a1 a2 M) (by decide) rfl rfl (Nat.le_of_ble_eq_true rfl) h (fun X => ?_)
  show zm_V X Y_X11_work E (zm_Q X E Y_X11_work.2.2.2.1.cells Y_X11_work.2.2.2.1.slots (zm_w sv) zm_ei) 0 0 false (zm_w sv) 0 [(0, .ref (E.2.1 + 52)), (1, .int a1), (2, .int a2)] [] M (f_X11_work a1 a2 M) some
  unfold f_X11_work
  refine zm_aload_n 1 rfl dX11_work_0 rfl 0 rfl ?_
  refine zm_iload_n 2 rfl dX11_work_1 rfl 1 rfl ?_
  refine zm_cV1ir 5 rfl dX11_work_2 ml_X11_398 rfl (zm_L (sv := sv) rfl) rfl (Nat.le_of_ble_eq_true rfl) ⟨Nat.le_of_ble_eq_true rfl, Nat.le_of_ble_eq_true rfl⟩ rfl rfl ⟨Nat.le_refl _, Nat.le_refl _⟩ rfl (fun _ h => k_X11_isWork E sv a1 M h) (fun r2 => ?_)
  refine zm_if_ne 10 8 (by decide) rfl dX11_work_5 ?_ ?_
  · refine zm_iconst 9 rfl dX11_work_8 zi_m1 ?_
    exact zm_iret dX11_work_9 rfl (Nat.le_refl _) (Nat.le_refl _) rfl
  · refine zm_aload_n 11 rfl dX11_work_10 rfl 0 rfl ?_
    refine zm_cV0v 14 rfl dX11_work_11 ml_X11_388 rfl (zm_L (sv := sv) rfl) rfl (Nat.le_of_ble_eq_true rfl) ⟨Nat.le_of_ble_eq_true rfl, Nat.le_of_ble_eq_true rfl⟩ rfl rfl ⟨Nat.le_refl _, Nat.le_refl _⟩ rfl (fun _ _ h => k_X11_copies E sv M h) (fun _ M11 => ?_)
    refine zm_iload_n 15 rfl dX11_work_14 rfl 2 rfl ?_
    have hb103 : zm_V X Y_X11_work E (zm_Q X E Y_X11_work.2.2.2.1.cells Y_X11_work.2.2.2.1.slots (zm_w sv) zm_ei) 0 0 false (zm_w sv) 103 [(0, .ref (E.2.1 + 52)), (1, .int a1), (2, .int a2)] [] M11 (f_X11_work_b103 a1 a2 M11) some := by
      unfold f_X11_work_b103
      refine zm_aload_n 104 rfl dX11_work_103 rfl 0 rfl ?_
      refine zm_getR (a := 92) 107 rfl dX11_work_104 fl_X11_137 rfl (zm_L (sv := sv) rfl) rfl (by decide) ?_
      refine zm_bipush 109 rfl dX11_work_107 zb_6 ?_
      refine zm_iload_n 110 rfl dX11_work_109 rfl 2 rfl ?_
      refine zm_iconst 111 rfl dX11_work_110 zi_3 ?_
      refine zm_isub 112 rfl dX11_work_111 ?_
      refine zm_imul 113 rfl dX11_work_112 ?_
      refine zm_iload_n 114 rfl dX11_work_113 rfl 1 rfl ?_
      refine zm_iadd 115 rfl dX11_work_114 ?_
      refine zm_iald 116 rfl dX11_work_115 rfl (zm_L (sv := sv) rfl) ?_
      exact zm_iret dX11_work_116 rfl (Nat.le_refl _) (Nat.le_refl _) rfl
    refine zm_case (fun hc => ?_) (fun hc0_15 => ?_)
    · refine zm_tsIn (off := 45) 60 hc dX11_work_15 (by decide) (by decide) (by decide) (by decide) ?_
      refine zm_aload_n 61 rfl dX11_work_60 rfl 0 rfl ?_
      refine zm_iload_n 62 rfl dX11_work_61 rfl 1 rfl ?_
      refine zm_cV1ir 65 rfl dX11_work_62 ml_X11_343 rfl (zm_L (sv := sv) rfl) rfl (Nat.le_of_ble_eq_true rfl) ⟨Nat.le_of_ble_eq_true rfl, Nat.le_of_ble_eq_true rfl⟩ rfl rfl ⟨Nat.le_refl _, Nat.le_refl _⟩ rfl (fun _ h => k_X11_ownerNow E sv a1 M11 h) (fun r62 => ?_)
      exact zm_iret dX11_work_65 rfl (Nat.le_refl _) (Nat.le_refl _) rfl
    refine zm_case (fun hc => ?_) (fun hc1_15 => ?_)
    · refine zm_tsIn (off := 51) 66 hc dX11_work_15 (by decide) (by decide) (by decide) (by decide) ?_
      refine zm_aload_n 67 rfl dX11_work_66 rfl 0 rfl ?_
      refine zm_getR (a := 92) 70 rfl dX11_work_67 fl_X11_137 rfl (zm_L (sv := sv) rfl) rfl (by decide) ?_
      refine zm_iload_n 71 rfl dX11_work_70 rfl 1 rfl ?_
      refine zm_iald 72 rfl dX11_work_71 rfl (zm_L (sv := sv) rfl) ?_
      exact zm_iret dX11_work_72 rfl (Nat.le_refl _) (Nat.le_refl _) rfl
    refine zm_case (fun hc => ?_) (fun hc2_15 => ?_)
    · refine zm_tsIn (off := 58) 73 hc dX11_work_15 (by decide) (by decide) (by decide) (by decide) ?_
      refine zm_aload_n 74 rfl dX11_work_73 rfl 0 rfl ?_
      refine zm_getR (a := 69) 77 rfl dX11_work_74 fl_X11_67 rfl (zm_L (sv := sv) rfl) rfl (by decide) ?_
      refine zm_bipush 79 rfl dX11_work_77 zb_6 ?_
      refine zm_aload_n 80 rfl dX11_work_79 rfl 0 rfl ?_
      refine zm_getI 83 rfl dX11_work_80 fl_X11_251 rfl (zm_L (sv := sv) rfl) ?_
      refine zm_imul 84 rfl dX11_work_83 ?_
      refine zm_iload_n 85 rfl dX11_work_84 rfl 1 rfl ?_
      refine zm_iadd 86 rfl dX11_work_85 ?_
      refine zm_iald 87 rfl dX11_work_86 rfl (zm_L (sv := sv) rfl) ?_
      exact zm_iret dX11_work_87 rfl (Nat.le_refl _) (Nat.le_refl _) rfl
    refine zm_case (fun hc => ?_) (fun hc3_15 => ?_)
    · refine zm_tsIn (off := 73) 88 hc dX11_work_15 (by decide) (by decide) (by decide) (by decide) ?_
      refine zm_aload_n 89 rfl dX11_work_88 rfl 0 rfl ?_
      refine zm_getR (a := 70) 92 rfl dX11_work_89 fl_X11_70 rfl (zm_L (sv := sv) rfl) rfl (by decide) ?_
      refine zm_bipush 94 rfl dX11_work_92 zb_6 ?_
      refine zm_aload_n 95 rfl dX11_work_94 rfl 0 rfl ?_
      refine zm_getI 98 rfl dX11_work_95 fl_X11_251 rfl (zm_L (sv := sv) rfl) ?_
      refine zm_imul 99 rfl dX11_work_98 ?_
      refine zm_iload_n 100 rfl dX11_work_99 rfl 1 rfl ?_
      refine zm_iadd 101 rfl dX11_work_100 ?_
      refine zm_iald 102 rfl dX11_work_101 rfl (zm_L (sv := sv) rfl) ?_
      exact zm_iret dX11_work_102 rfl (Nat.le_refl _) (Nat.le_refl _) rfl
    refine zm_case (fun hc => ?_) (fun hc4_15 => ?_)
    · refine zm_tsIn (off := 88) 103 hc dX11_work_15 (by decide) (by decide) (by decide) (by decide) ?_
      exact zm_loc [0, 1, 2] rfl (hb103)
    refine zm_case (fun hc => ?_) (fun hc5_15 => ?_)
    · refine zm_tsIn (off := 88) 103 hc dX11_work_15 (by decide) (by decide) (by decide) (by decide) ?_
      exact zm_loc [0, 1, 2] rfl (hb103)
    refine zm_case (fun hc => ?_) (fun hc6_15 => ?_)
    · refine zm_tsIn (off := 88) 103 hc dX11_work_15 (by decide) (by decide) (by decide) (by decide) ?_
      exact zm_loc [0, 1, 2] rfl (hb103)
    refine zm_case (fun hc => ?_) (fun hc7_15 => ?_)
    · refine zm_tsIn (off := 102) 117 hc dX11_work_15 (by decide) (by decide) (by decide) (by decide) ?_
      refine zm_iconst 118 rfl dX11_work_117 zi_0 ?_
      refine zm_istore_n (lv' := [(3, .int 0), (0, .ref (E.2.1 + 52)), (1, .int a1), (2, .int a2)]) 119 rfl dX11_work_118 rfl (by decide) rfl ?_
      refine zm_iconst 120 rfl dX11_work_119 zi_0 ?_
      refine zm_istore (lv' := [(4, .int 0), (3, .int 0), (0, .ref (E.2.1 + 52)), (1, .int a1), (2, .int a2)]) 122 rfl dX11_work_120 (by decide) rfl ?_
      have hx168_122 : ∀ (e168_3 : Int32), zm_V X Y_X11_work E (zm_Q X E Y_X11_work.2.2.2.1.cells Y_X11_work.2.2.2.1.slots (zm_w sv) zm_ei) 0 0 false (zm_w sv) 168 [(0, .ref (E.2.1 + 52)), (3, .int e168_3)] [] M11 (f_X11_work_x168_122 M11 e168_3) some := by
        intro e168_3
        unfold f_X11_work_x168_122
        refine zm_iload_n 169 rfl dX11_work_168 rfl 1 rfl ?_
        refine zm_aload_n 170 rfl dX11_work_169 rfl 0 rfl ?_
        refine zm_cV0ir 173 rfl dX11_work_170 ml_X11_372 rfl (zm_L (sv := sv) rfl) rfl (Nat.le_of_ble_eq_true rfl) ⟨Nat.le_of_ble_eq_true rfl, Nat.le_of_ble_eq_true rfl⟩ rfl rfl ⟨Nat.le_refl _, Nat.le_refl _⟩ rfl (fun _ h => k_X11_standing E sv M11 h) (fun r170 => ?_)
        refine zm_iand 174 rfl dX11_work_173 ?_
        exact zm_iret dX11_work_174 rfl (Nat.le_refl _) (Nat.le_refl _) rfl
      refine zm_loc [2, 3, 1, 0] rfl (zm_lpp (σ := (Int32 × Int32)) (ε := Int32) (step := fun s => f_X11_work_l122 a1 M11 s.1 s.2) (fun s => [(0, .ref (E.2.1 + 52)), (1, .int a1), (3, .int s.1), (4, .int s.2)]) (fun _ => M11) (fun D122 f122 hf122a hf122b hD122 s => ?_) (0, 0))
      obtain ⟨l122_3, l122_4⟩ := s
      show zm_V X Y_X11_work E (zm_Q X E Y_X11_work.2.2.2.1.cells Y_X11_work.2.2.2.1.slots (zm_w sv) zm_ei) 0 0 false (zm_w sv) 122 [(0, .ref (E.2.1 + 52)), (1, .int a1), (3, .int l122_3), (4, .int l122_4)] [] M11 (f_X11_work_l122 a1 M11 l122_3 l122_4) f122
      unfold f_X11_work_l122
      refine zm_iload 124 rfl dX11_work_122 3 rfl ?_
      refine zm_aload_n 125 rfl dX11_work_124 rfl 0 rfl ?_
      refine zm_getR (a := 71) 128 rfl dX11_work_125 fl_X11_73 rfl (zm_L (sv := sv) rfl) rfl (by decide) ?_
      refine zm_aload_n 129 rfl dX11_work_128 rfl 0 rfl ?_
      refine zm_getI 132 rfl dX11_work_129 fl_X11_251 rfl (zm_L (sv := sv) rfl) ?_
      refine zm_iald 133 rfl dX11_work_132 rfl (zm_L (sv := sv) rfl) ?_
      refine zm_icmp_ge 168 136 (by decide) rfl dX11_work_133 ?_ ?_
      · exact zm_loc [0, 2] rfl (zm_go (hf122b _) (zm_unb (hx168_122 l122_3)))
      · refine zm_aload_n 137 rfl dX11_work_136 rfl 0 rfl ?_
        refine zm_getR (a := 72) 140 rfl dX11_work_137 fl_X11_76 rfl (zm_L (sv := sv) rfl) rfl (by decide) ?_
        refine zm_bipush 142 rfl dX11_work_140 zb_6 ?_
        refine zm_aload_n 143 rfl dX11_work_142 rfl 0 rfl ?_
        refine zm_getI 146 rfl dX11_work_143 fl_X11_251 rfl (zm_L (sv := sv) rfl) ?_
        refine zm_imul 147 rfl dX11_work_146 ?_
        refine zm_iload 149 rfl dX11_work_147 3 rfl ?_
        refine zm_iadd 150 rfl dX11_work_149 ?_
        refine zm_iald 151 rfl dX11_work_150 rfl (zm_L (sv := sv) rfl) ?_
        refine zm_iload_n 152 rfl dX11_work_151 rfl 1 rfl ?_
        have hb162_122 : ∀ (b162_3 : Int32), zm_V X Y_X11_work E (zm_Q X E Y_X11_work.2.2.2.1.cells Y_X11_work.2.2.2.1.slots (zm_w sv) zm_ei) 0 0 false (zm_w sv) 162 [(0, .ref (E.2.1 + 52)), (1, .int a1), (3, .int b162_3), (4, .int l122_4)] [] M11 (f_X11_work_b162_122 l122_4 b162_3) f122 := by
          intro b162_3
          unfold f_X11_work_b162_122
          refine zm_iinc (lv' := fun z => [(4, .int z), (0, .ref (E.2.1 + 52)), (1, .int a1), (3, .int b162_3)]) 165 rfl dX11_work_162 zi_1 3 rfl (by decide) (fun _ => rfl) (fun x162 _ => ?_)
          refine zm_goto 122 (by decide) dX11_work_165 ?_
          exact zm_loc [1, 2, 3, 0] rfl (zm_go (hf122a _) (hD122 (b162_3, x162)))
        refine zm_icmp_ne 162 155 (by decide) rfl dX11_work_152 ?_ ?_
        · refine zm_iload_n 156 rfl dX11_work_155 rfl 2 rfl ?_
          refine zm_iconst 157 rfl dX11_work_156 zi_1 ?_
          refine zm_iload 159 rfl dX11_work_157 3 rfl ?_
          refine zm_ishl 160 rfl dX11_work_159 ?_
          refine zm_ior 161 rfl dX11_work_160 ?_
          refine zm_nmi (fun x161 _ => ?_)
          refine zm_istore_n (lv' := [(3, .int x161), (0, .ref (E.2.1 + 52)), (1, .int a1), (4, .int l122_4)]) 162 rfl dX11_work_161 rfl (by decide) rfl ?_
          exact zm_loc [1, 2, 0, 3] rfl (hb162_122 x161)
        · exact zm_loc [0, 1, 2, 3] rfl (hb162_122 l122_3)
    refine zm_tsOut 175 dX11_work_15 (by have hn0 := zm_ne hc0_15 (w := 0) (by decide); have hn1 := zm_ne hc1_15 (w := 1) (by decide); have hn2 := zm_ne hc2_15 (w := 2) (by decide); have hn3 := zm_ne hc3_15 (w := 3) (by decide); have hn4 := zm_ne hc4_15 (w := 4) (by decide); have hn5 := zm_ne hc5_15 (w := 5) (by decide); have hn6 := zm_ne hc6_15 (w := 6) (by decide); have hn7 := zm_ne hc7_15 (w := 7) (by decide); omega) (by decide) ?_
    refine zm_iconst 176 rfl dX11_work_175 zi_m1 ?_
    exact zm_iret dX11_work_176 rfl (Nat.le_refl _) (Nat.le_refl _) rfl
abbrev Y_X11_isPair : zm_Y := (cX11_isPair, 3, RX11, { frames := 2, cells := 0, slots := 0, locals := 43 }, (some .boolean), false, "isPair")
noncomputable def f_X11_isPair_b20  : Option Int32 :=
 some 0
noncomputable def f_X11_isPair (a1 : Int32) (a2 : Int32) (M : zm_Mem) : Option Int32 :=
  zm_b1 (f_X11_isWork a1 M) <| fun r2 => if r2 = 0 then (f_X11_isPair_b20) else (zm_b1 (f_X11_isHouse a2 M) <| fun r10 => if r10 = 0 then (f_X11_isPair_b20) else (some 1))
set_option maxRecDepth 20000 in
set_option maxHeartbeats 4000000 in
theorem k_X11_isPair (E : zm_E) (sv : Nat) (a1 : Int32) (a2 : Int32) (M : zm_Mem) {r : Int32} (h : f_X11_isPair a1 a2 M = some r) : zm_Ct E (zm_w sv) (zm_w sv) yX11_isPair Y_X11_isPair [.ref (E.2.1 + 52), .int a1, .int a2] M (some (.int r)) M := by
  refine zm_methr (emb := zm_ei) (d := f_X11_isPair a1 a2 M) (by decide) rfl rfl (Nat.le_of_ble_eq_true rfl) h (fun X => ?_)
  show zm_V X Y_X11_isPair E (zm_Q X E Y_X11_isPair.2.2.2.1.cells Y_X11_isPair.2.2.2.1.slots (zm_w sv) zm_ei) 0 0 false (zm_w sv) 0 [(0, .ref (E.2.1 + 52)), (1, .int a1), (2, .int a2)] [] M (f_X11_isPair a1 a2 M) (fun r => some (r, M))
  unfold f_X11_isPair
  refine zm_aload_n 1 rfl dX11_isPair_0 rfl 0 rfl ?_
  refine zm_iload_n 2 rfl dX11_isPair_1 rfl 1 rfl ?_
  refine zm_cV1ir 5 rfl dX11_isPair_2 ml_X11_398 rfl (zm_L (sv := sv) rfl) rfl (Nat.le_of_ble_eq_true rfl) ⟨Nat.le_of_ble_eq_true rfl, Nat.le_of_ble_eq_true rfl⟩ rfl rfl ⟨Nat.le_refl _, Nat.le_refl _⟩ rfl (fun _ h => k_X11_isWork E sv a1 M h) (fun r2 => ?_)
  have hb20 : zm_V X Y_X11_isPair E (zm_Q X E Y_X11_isPair.2.2.2.1.cells Y_X11_isPair.2.2.2.1.slots (zm_w sv) zm_ei) 0 0 false (zm_w sv) 20 [] [] M (f_X11_isPair_b20) (fun r => some (r, M)) := by
    unfold f_X11_isPair_b20
    refine zm_iconst 21 rfl dX11_isPair_20 zi_0 ?_
    exact zm_zret dX11_isPair_21 rfl rfl (Nat.le_refl _) (Nat.le_refl _) rfl
  refine zm_if_eq 20 8 (by decide) rfl dX11_isPair_5 ?_ ?_
  · exact zm_loc [] rfl (hb20)
  · refine zm_aload_n 9 rfl dX11_isPair_8 rfl 0 rfl ?_
    refine zm_iload_n 10 rfl dX11_isPair_9 rfl 2 rfl ?_
    refine zm_cV1ir 13 rfl dX11_isPair_10 ml_X11_385 rfl (zm_L (sv := sv) rfl) rfl (Nat.le_of_ble_eq_true rfl) ⟨Nat.le_of_ble_eq_true rfl, Nat.le_of_ble_eq_true rfl⟩ rfl rfl ⟨Nat.le_refl _, Nat.le_refl _⟩ rfl (fun _ h => k_X11_isHouse E sv a2 M h) (fun r10 => ?_)
    refine zm_if_eq 20 16 (by decide) rfl dX11_isPair_13 ?_ ?_
    · exact zm_loc [] rfl (hb20)
    · refine zm_iconst 17 rfl dX11_isPair_16 zi_1 ?_
      refine zm_goto 21 (by decide) dX11_isPair_17 ?_
      exact zm_zret dX11_isPair_21 rfl rfl (Nat.le_refl _) (Nat.le_refl _) rfl
abbrev Y_X11_may : zm_Y := (cX11_may, 3, RX11, { frames := 5, cells := 0, slots := 0, locals := 118 }, (some .int), false, "may")
noncomputable def f_X11_may (a1 : Int32) (a2 : Int32) (M : zm_Mem) : Option (Int32 × zm_Mem) :=
  zm_b1 (f_X11_isPair a1 a2 M) <| fun r3 => if r3 = 0 then (some ((-1), M)) else (zm_b2 (f_X11_copies M) <| fun _ M12 => zm_b2 (f_X11_mayHang a1 a2 M12) <| fun r18 M18 => if r18 = 0 then (some (0, M18)) else (some (1, M18)))
set_option maxRecDepth 20000 in
set_option maxHeartbeats 4000000 in
theorem k_X11_may (E : zm_E) (sv : Nat) (a1 : Int32) (a2 : Int32) (M : zm_Mem) {r : Int32} {M' : zm_Mem} (h : f_X11_may a1 a2 M = some (r, M')) : zm_Ct E (zm_w sv) (zm_w sv) yX11_may Y_X11_may [.ref (E.2.1 + 52), .int a1, .int a2] M (some (.int r)) M' := by
  refine zm_meth (emb := zm_ei) (d := f_X11_may a1 a2 M) (by decide) rfl rfl (Nat.le_of_ble_eq_true rfl) h (fun X => ?_)
  show zm_V X Y_X11_may E (zm_Q X E Y_X11_may.2.2.2.1.cells Y_X11_may.2.2.2.1.slots (zm_w sv) zm_ei) 0 0 false (zm_w sv) 0 [(0, .ref (E.2.1 + 52)), (1, .int a1), (2, .int a2)] [] M (f_X11_may a1 a2 M) some
  unfold f_X11_may
  refine zm_aload_n 1 rfl dX11_may_0 rfl 0 rfl ?_
  refine zm_iload_n 2 rfl dX11_may_1 rfl 1 rfl ?_
  refine zm_iload_n 3 rfl dX11_may_2 rfl 2 rfl ?_
  refine zm_cV2ir 6 rfl dX11_may_3 ml_X11_401 rfl (zm_L (sv := sv) rfl) rfl (Nat.le_of_ble_eq_true rfl) ⟨Nat.le_of_ble_eq_true rfl, Nat.le_of_ble_eq_true rfl⟩ rfl rfl ⟨Nat.le_refl _, Nat.le_refl _⟩ rfl (fun _ h => k_X11_isPair E sv a1 a2 M h) (fun r3 => ?_)
  refine zm_if_ne 11 9 (by decide) rfl dX11_may_6 ?_ ?_
  · refine zm_iconst 10 rfl dX11_may_9 zi_m1 ?_
    exact zm_iret dX11_may_10 rfl (Nat.le_refl _) (Nat.le_refl _) rfl
  · refine zm_aload_n 12 rfl dX11_may_11 rfl 0 rfl ?_
    refine zm_cV0v 15 rfl dX11_may_12 ml_X11_388 rfl (zm_L (sv := sv) rfl) rfl (Nat.le_of_ble_eq_true rfl) ⟨Nat.le_of_ble_eq_true rfl, Nat.le_of_ble_eq_true rfl⟩ rfl rfl ⟨Nat.le_refl _, Nat.le_refl _⟩ rfl (fun _ _ h => k_X11_copies E sv M h) (fun _ M12 => ?_)
    refine zm_aload_n 16 rfl dX11_may_15 rfl 0 rfl ?_
    refine zm_iload_n 17 rfl dX11_may_16 rfl 1 rfl ?_
    refine zm_iload_n 18 rfl dX11_may_17 rfl 2 rfl ?_
    refine zm_cV2i 21 rfl dX11_may_18 ml_X11_375 rfl (zm_L (sv := sv) rfl) rfl (Nat.le_of_ble_eq_true rfl) ⟨Nat.le_of_ble_eq_true rfl, Nat.le_of_ble_eq_true rfl⟩ rfl rfl ⟨Nat.le_refl _, Nat.le_refl _⟩ rfl (fun _ _ h => k_X11_mayHang E sv a1 a2 M12 h) (fun r18 M18 => ?_)
    refine zm_if_eq 28 24 (by decide) rfl dX11_may_21 ?_ ?_
    · refine zm_iconst 29 rfl dX11_may_28 zi_0 ?_
      exact zm_iret dX11_may_29 rfl (Nat.le_refl _) (Nat.le_refl _) rfl
    · refine zm_iconst 25 rfl dX11_may_24 zi_1 ?_
      refine zm_goto 29 (by decide) dX11_may_25 ?_
      exact zm_iret dX11_may_29 rfl (Nat.le_refl _) (Nat.le_refl _) rfl
abbrev Y_X11_holds : zm_Y := (cX11_holds, 3, RX11, { frames := 4, cells := 0, slots := 0, locals := 96 }, (some .int), false, "holds")
noncomputable def f_X11_holds (a1 : Int32) (a2 : Int32) (M : zm_Mem) : Option (Int32 × zm_Mem) :=
  zm_b1 (f_X11_isTerm a1 M) <| fun r2 => if r2 = 0 then (some ((-1), M)) else (zm_b1 (f_X11_isHouse a2 M) <| fun r10 => if r10 = 0 then (some ((-1), M)) else (zm_b2 (f_X11_copies M) <| fun _ M19 => zm_ck (zm_in ((6 * (M19.1 52 18)) + a1) 12) <| zm_b2 (f_X11_brokenIn (M19.1 72 ((6 * (M19.1 52 18)) + a1).toNatClampNeg) a2 M19) <| fun r38 M38 => if ((r38 >>> (a1 &&& 31)) &&& 1) = (1 : Int32) then (some (0, M38)) else (some (1, M38))))
set_option maxRecDepth 20000 in
set_option maxHeartbeats 4000000 in
theorem k_X11_holds (E : zm_E) (sv : Nat) (a1 : Int32) (a2 : Int32) (M : zm_Mem) {r : Int32} {M' : zm_Mem} (h : f_X11_holds a1 a2 M = some (r, M')) : zm_Ct E (zm_w sv) (zm_w sv) yX11_holds Y_X11_holds [.ref (E.2.1 + 52), .int a1, .int a2] M (some (.int r)) M' := by
  refine zm_meth (emb := zm_ei) (d := f_X11_holds a1 a2 M) (by decide) rfl rfl (Nat.le_of_ble_eq_true rfl) h (fun X => ?_)
  show zm_V X Y_X11_holds E (zm_Q X E Y_X11_holds.2.2.2.1.cells Y_X11_holds.2.2.2.1.slots (zm_w sv) zm_ei) 0 0 false (zm_w sv) 0 [(0, .ref (E.2.1 + 52)), (1, .int a1), (2, .int a2)] [] M (f_X11_holds a1 a2 M) some
  unfold f_X11_holds
  refine zm_aload_n 1 rfl dX11_holds_0 rfl 0 rfl ?_
  refine zm_iload_n 2 rfl dX11_holds_1 rfl 1 rfl ?_
  refine zm_cV1ir 5 rfl dX11_holds_2 ml_X11_404 rfl (zm_L (sv := sv) rfl) rfl (Nat.le_of_ble_eq_true rfl) ⟨Nat.le_of_ble_eq_true rfl, Nat.le_of_ble_eq_true rfl⟩ rfl rfl ⟨Nat.le_refl _, Nat.le_refl _⟩ rfl (fun _ h => k_X11_isTerm E sv a1 M h) (fun r2 => ?_)
  refine zm_if_eq 16 8 (by decide) rfl dX11_holds_5 ?_ ?_
  · refine zm_iconst 17 rfl dX11_holds_16 zi_m1 ?_
    exact zm_iret dX11_holds_17 rfl (Nat.le_refl _) (Nat.le_refl _) rfl
  · refine zm_aload_n 9 rfl dX11_holds_8 rfl 0 rfl ?_
    refine zm_iload_n 10 rfl dX11_holds_9 rfl 2 rfl ?_
    refine zm_cV1ir 13 rfl dX11_holds_10 ml_X11_385 rfl (zm_L (sv := sv) rfl) rfl (Nat.le_of_ble_eq_true rfl) ⟨Nat.le_of_ble_eq_true rfl, Nat.le_of_ble_eq_true rfl⟩ rfl rfl ⟨Nat.le_refl _, Nat.le_refl _⟩ rfl (fun _ h => k_X11_isHouse E sv a2 M h) (fun r10 => ?_)
    refine zm_if_ne 18 16 (by decide) rfl dX11_holds_13 ?_ ?_
    · refine zm_iconst 17 rfl dX11_holds_16 zi_m1 ?_
      exact zm_iret dX11_holds_17 rfl (Nat.le_refl _) (Nat.le_refl _) rfl
    · refine zm_aload_n 19 rfl dX11_holds_18 rfl 0 rfl ?_
      refine zm_cV0v 22 rfl dX11_holds_19 ml_X11_388 rfl (zm_L (sv := sv) rfl) rfl (Nat.le_of_ble_eq_true rfl) ⟨Nat.le_of_ble_eq_true rfl, Nat.le_of_ble_eq_true rfl⟩ rfl rfl ⟨Nat.le_refl _, Nat.le_refl _⟩ rfl (fun _ _ h => k_X11_copies E sv M h) (fun _ M19 => ?_)
      refine zm_aload_n 23 rfl dX11_holds_22 rfl 0 rfl ?_
      refine zm_aload_n 24 rfl dX11_holds_23 rfl 0 rfl ?_
      refine zm_getR (a := 72) 27 rfl dX11_holds_24 fl_X11_76 rfl (zm_L (sv := sv) rfl) rfl (by decide) ?_
      refine zm_bipush 29 rfl dX11_holds_27 zb_6 ?_
      refine zm_aload_n 30 rfl dX11_holds_29 rfl 0 rfl ?_
      refine zm_getI 33 rfl dX11_holds_30 fl_X11_251 rfl (zm_L (sv := sv) rfl) ?_
      refine zm_imul 34 rfl dX11_holds_33 ?_
      refine zm_iload_n 35 rfl dX11_holds_34 rfl 1 rfl ?_
      refine zm_iadd 36 rfl dX11_holds_35 ?_
      refine zm_iald 37 rfl dX11_holds_36 rfl (zm_L (sv := sv) rfl) ?_
      refine zm_iload_n 38 rfl dX11_holds_37 rfl 2 rfl ?_
      refine zm_cV2i 41 rfl dX11_holds_38 ml_X11_369 rfl (zm_L (sv := sv) rfl) rfl (Nat.le_of_ble_eq_true rfl) ⟨Nat.le_of_ble_eq_true rfl, Nat.le_of_ble_eq_true rfl⟩ rfl rfl ⟨Nat.le_refl _, Nat.le_refl _⟩ rfl (fun _ _ h => k_X11_brokenIn E sv (M19.1 72 ((6 * (M19.1 52 18)) + a1).toNatClampNeg) a2 M19 h) (fun r38 M38 => ?_)
      refine zm_iload_n 42 rfl dX11_holds_41 rfl 1 rfl ?_
      refine zm_ishr 43 rfl dX11_holds_42 ?_
      refine zm_iconst 44 rfl dX11_holds_43 zi_1 ?_
      refine zm_iand 45 rfl dX11_holds_44 ?_
      refine zm_iconst 46 rfl dX11_holds_45 zi_1 ?_
      refine zm_icmp_ne 53 49 (by decide) rfl dX11_holds_46 ?_ ?_
      · refine zm_iconst 50 rfl dX11_holds_49 zi_0 ?_
        refine zm_goto 54 (by decide) dX11_holds_50 ?_
        exact zm_iret dX11_holds_54 rfl (Nat.le_refl _) (Nat.le_refl _) rfl
      · refine zm_iconst 54 rfl dX11_holds_53 zi_1 ?_
        exact zm_iret dX11_holds_54 rfl (Nat.le_refl _) (Nat.le_refl _) rfl
abbrev Y_X11_likes : zm_Y := (cX11_likes, 3, RX11, { frames := 4, cells := 0, slots := 0, locals := 101 }, (some .int), false, "likes")
noncomputable def f_X11_likes (a1 : Int32) (a2 : Int32) (M : zm_Mem) : Option (Int32 × zm_Mem) :=
  zm_b1 (f_X11_isPair a2 a1 M) <| fun r3 => if r3 = 0 then (some ((-1), M)) else (zm_b2 (f_X11_copies M) <| fun _ M12 => zm_b2 (f_X11_likesOf a1 a2 0 (-1) M12) <| fun r20 M20 => some (r20, M20))
set_option maxRecDepth 20000 in
set_option maxHeartbeats 4000000 in
theorem k_X11_likes (E : zm_E) (sv : Nat) (a1 : Int32) (a2 : Int32) (M : zm_Mem) {r : Int32} {M' : zm_Mem} (h : f_X11_likes a1 a2 M = some (r, M')) : zm_Ct E (zm_w sv) (zm_w sv) yX11_likes Y_X11_likes [.ref (E.2.1 + 52), .int a1, .int a2] M (some (.int r)) M' := by
  refine zm_meth (emb := zm_ei) (d := f_X11_likes a1 a2 M) (by decide) rfl rfl (Nat.le_of_ble_eq_true rfl) h (fun X => ?_)
  show zm_V X Y_X11_likes E (zm_Q X E Y_X11_likes.2.2.2.1.cells Y_X11_likes.2.2.2.1.slots (zm_w sv) zm_ei) 0 0 false (zm_w sv) 0 [(0, .ref (E.2.1 + 52)), (1, .int a1), (2, .int a2)] [] M (f_X11_likes a1 a2 M) some
  unfold f_X11_likes
  refine zm_aload_n 1 rfl dX11_likes_0 rfl 0 rfl ?_
  refine zm_iload_n 2 rfl dX11_likes_1 rfl 2 rfl ?_
  refine zm_iload_n 3 rfl dX11_likes_2 rfl 1 rfl ?_
  refine zm_cV2ir 6 rfl dX11_likes_3 ml_X11_401 rfl (zm_L (sv := sv) rfl) rfl (Nat.le_of_ble_eq_true rfl) ⟨Nat.le_of_ble_eq_true rfl, Nat.le_of_ble_eq_true rfl⟩ rfl rfl ⟨Nat.le_refl _, Nat.le_refl _⟩ rfl (fun _ h => k_X11_isPair E sv a2 a1 M h) (fun r3 => ?_)
  refine zm_if_ne 11 9 (by decide) rfl dX11_likes_6 ?_ ?_
  · refine zm_iconst 10 rfl dX11_likes_9 zi_m1 ?_
    exact zm_iret dX11_likes_10 rfl (Nat.le_refl _) (Nat.le_refl _) rfl
  · refine zm_aload_n 12 rfl dX11_likes_11 rfl 0 rfl ?_
    refine zm_cV0v 15 rfl dX11_likes_12 ml_X11_388 rfl (zm_L (sv := sv) rfl) rfl (Nat.le_of_ble_eq_true rfl) ⟨Nat.le_of_ble_eq_true rfl, Nat.le_of_ble_eq_true rfl⟩ rfl rfl ⟨Nat.le_refl _, Nat.le_refl _⟩ rfl (fun _ _ h => k_X11_copies E sv M h) (fun _ M12 => ?_)
    refine zm_aload_n 16 rfl dX11_likes_15 rfl 0 rfl ?_
    refine zm_iload_n 17 rfl dX11_likes_16 rfl 1 rfl ?_
    refine zm_iload_n 18 rfl dX11_likes_17 rfl 2 rfl ?_
    refine zm_iconst 19 rfl dX11_likes_18 zi_0 ?_
    refine zm_iconst 20 rfl dX11_likes_19 zi_m1 ?_
    refine zm_cV4i 23 rfl dX11_likes_20 ml_X11_394 rfl (zm_L (sv := sv) rfl) rfl (Nat.le_of_ble_eq_true rfl) ⟨Nat.le_of_ble_eq_true rfl, Nat.le_of_ble_eq_true rfl⟩ rfl rfl ⟨Nat.le_refl _, Nat.le_refl _⟩ rfl (fun _ _ h => k_X11_likesOf E sv a1 a2 0 (-1) M12 h) (fun r20 M20 => ?_)
    exact zm_iret dX11_likes_23 rfl (Nat.le_refl _) (Nat.le_refl _) rfl
abbrev Y_X11_trip : zm_Y := (cX11_trip, 3, RX11, { frames := 4, cells := 0, slots := 0, locals := 99 }, (some .int), false, "trip")
noncomputable def f_X11_trip (a1 : Int32) (a2 : Int32) (M : zm_Mem) : Option (Int32 × zm_Mem) :=
  zm_b1 (f_X11_isPair a1 a2 M) <| fun r3 => if r3 = 0 then (some ((-1), M)) else (zm_b2 (f_X11_copies M) <| fun _ M12 => zm_b2 (f_X11_tripOf a1 a2 M12) <| fun r18 M18 => some (r18, M18))
set_option maxRecDepth 20000 in
set_option maxHeartbeats 4000000 in
theorem k_X11_trip (E : zm_E) (sv : Nat) (a1 : Int32) (a2 : Int32) (M : zm_Mem) {r : Int32} {M' : zm_Mem} (h : f_X11_trip a1 a2 M = some (r, M')) : zm_Ct E (zm_w sv) (zm_w sv) yX11_trip Y_X11_trip [.ref (E.2.1 + 52), .int a1, .int a2] M (some (.int r)) M' := by
  refine zm_meth (emb := zm_ei) (d := f_X11_trip a1 a2 M) (by decide) rfl rfl (Nat.le_of_ble_eq_true rfl) h (fun X => ?_)
  show zm_V X Y_X11_trip E (zm_Q X E Y_X11_trip.2.2.2.1.cells Y_X11_trip.2.2.2.1.slots (zm_w sv) zm_ei) 0 0 false (zm_w sv) 0 [(0, .ref (E.2.1 + 52)), (1, .int a1), (2, .int a2)] [] M (f_X11_trip a1 a2 M) some
  unfold f_X11_trip
  refine zm_aload_n 1 rfl dX11_trip_0 rfl 0 rfl ?_
  refine zm_iload_n 2 rfl dX11_trip_1 rfl 1 rfl ?_
  refine zm_iload_n 3 rfl dX11_trip_2 rfl 2 rfl ?_
  refine zm_cV2ir 6 rfl dX11_trip_3 ml_X11_401 rfl (zm_L (sv := sv) rfl) rfl (Nat.le_of_ble_eq_true rfl) ⟨Nat.le_of_ble_eq_true rfl, Nat.le_of_ble_eq_true rfl⟩ rfl rfl ⟨Nat.le_refl _, Nat.le_refl _⟩ rfl (fun _ h => k_X11_isPair E sv a1 a2 M h) (fun r3 => ?_)
  refine zm_if_ne 11 9 (by decide) rfl dX11_trip_6 ?_ ?_
  · refine zm_iconst 10 rfl dX11_trip_9 zi_m1 ?_
    exact zm_iret dX11_trip_10 rfl (Nat.le_refl _) (Nat.le_refl _) rfl
  · refine zm_aload_n 12 rfl dX11_trip_11 rfl 0 rfl ?_
    refine zm_cV0v 15 rfl dX11_trip_12 ml_X11_388 rfl (zm_L (sv := sv) rfl) rfl (Nat.le_of_ble_eq_true rfl) ⟨Nat.le_of_ble_eq_true rfl, Nat.le_of_ble_eq_true rfl⟩ rfl rfl ⟨Nat.le_refl _, Nat.le_refl _⟩ rfl (fun _ _ h => k_X11_copies E sv M h) (fun _ M12 => ?_)
    refine zm_aload_n 16 rfl dX11_trip_15 rfl 0 rfl ?_
    refine zm_iload_n 17 rfl dX11_trip_16 rfl 1 rfl ?_
    refine zm_iload_n 18 rfl dX11_trip_17 rfl 2 rfl ?_
    refine zm_cV2i 21 rfl dX11_trip_18 ml_X11_407 rfl (zm_L (sv := sv) rfl) rfl (Nat.le_of_ble_eq_true rfl) ⟨Nat.le_of_ble_eq_true rfl, Nat.le_of_ble_eq_true rfl⟩ rfl rfl ⟨Nat.le_refl _, Nat.le_refl _⟩ rfl (fun _ _ h => k_X11_tripOf E sv a1 a2 M12 h) (fun r18 M18 => ?_)
    exact zm_iret dX11_trip_21 rfl (Nat.le_refl _) (Nat.le_refl _) rfl
abbrev Y_X11_keeps : zm_Y := (cX11_keeps, 2, RX11, { frames := 1, cells := 0, slots := 0, locals := 21 }, none, false, "keeps")
noncomputable def f_X11_keeps_x83_51 (N83 : zm_Mem) : Option (Unit × zm_Mem) :=
 zm_v (zm_sI N83 52 59 ((N83.1 52 59) + 1)) <| fun M90 => zm_b2 (f_X11_keepsRow M90) <| fun _ M94 => some ((), M94)
noncomputable def f_X11_keeps_l51 (l51_1 : Int32) (L51 : zm_Mem) : Option ((Int32 × zm_Mem) ⊕ zm_Mem) :=
 if (60 : Int32) ≤ l51_1 then (some (.inr L51)) else (zm_ck (zm_in l51_1 60) <| zm_ck (zm_in ((60 * (L51.1 52 59)) + l51_1) 2400) <| zm_v (zm_sI L51 93 ((60 * (L51.1 52 59)) + l51_1).toNatClampNeg (L51.1 91 l51_1.toNatClampNeg)) <| fun M76 => zm_v (l51_1 + 1) <| fun x77 => some (.inl (x77, M76)))
noncomputable def f_X11_keeps_b49 (M49 : zm_Mem) : Option (Unit × zm_Mem) :=
 (zm_lp (fun s => f_X11_keeps_l51 s.1 s.2) (0, M49)).bind (fun e83 => f_X11_keeps_x83_51 e83)
noncomputable def f_X11_keeps_x39_11 (N39 : zm_Mem) : Option (Unit × zm_Mem) :=
 zm_v (zm_sI N39 52 59 ((N39.1 52 59) - 1)) <| fun M46 => f_X11_keeps_b49 M46
noncomputable def f_X11_keeps_l11 (l11_1 : Int32) (L11 : zm_Mem) : Option ((Int32 × zm_Mem) ⊕ zm_Mem) :=
 if (2340 : Int32) ≤ l11_1 then (some (.inr L11)) else (zm_ck (zm_in (l11_1 + 60) 2400) <| zm_ck (zm_in l11_1 2400) <| zm_v (zm_sI L11 93 l11_1.toNatClampNeg (L11.1 93 (l11_1 + 60).toNatClampNeg)) <| fun M32 => zm_v (l11_1 + 1) <| fun x33 => some (.inl (x33, M32)))
noncomputable def f_X11_keeps  (M : zm_Mem) : Option (Unit × zm_Mem) :=
  if (M.1 52 59) = (40 : Int32) then ((zm_lp (fun s => f_X11_keeps_l11 s.1 s.2) (0, M)).bind (fun e39 => f_X11_keeps_x39_11 e39)) else (f_X11_keeps_b49 M)
set_option maxRecDepth 20000 in
set_option maxHeartbeats 4000000 in
theorem k_X11_keeps (E : zm_E) (sv : Nat)  (M : zm_Mem) {r : Unit} {M' : zm_Mem} (h : f_X11_keeps M = some (r, M')) : zm_Ct E (zm_w sv) (zm_w sv) yX11_keeps Y_X11_keeps [.ref (E.2.1 + 52)] M none M' := by
  refine zm_meth (emb := zm_ev) (d := f_X11_keeps M) (by decide) rfl rfl (Nat.le_of_ble_eq_true rfl) h (fun X => ?_)
  show zm_V X Y_X11_keeps E (zm_Q X E Y_X11_keeps.2.2.2.1.cells Y_X11_keeps.2.2.2.1.slots (zm_w sv) zm_ev) 0 0 false (zm_w sv) 0 [(0, .ref (E.2.1 + 52))] [] M (f_X11_keeps M) some
  unfold f_X11_keeps
  refine zm_aload_n 1 rfl dX11_keeps_0 rfl 0 rfl ?_
  refine zm_getI 4 rfl dX11_keeps_1 fl_X11_269 rfl (zm_L (sv := sv) rfl) ?_
  refine zm_bipush 6 rfl dX11_keeps_4 zb_40 ?_
  have hb49 : ∀ (M49 : zm_Mem), zm_V X Y_X11_keeps E (zm_Q X E Y_X11_keeps.2.2.2.1.cells Y_X11_keeps.2.2.2.1.slots (zm_w sv) zm_ev) 0 0 false (zm_w sv) 49 [(0, .ref (E.2.1 + 52))] [] M49 (f_X11_keeps_b49 M49) some := by
    intro M49
    unfold f_X11_keeps_b49
    refine zm_iconst 50 rfl dX11_keeps_49 zi_0 ?_
    refine zm_istore_n (lv' := [(1, .int 0), (0, .ref (E.2.1 + 52))]) 51 rfl dX11_keeps_50 rfl (by decide) rfl ?_
    have hx83_51 : ∀ (N83 : zm_Mem), zm_V X Y_X11_keeps E (zm_Q X E Y_X11_keeps.2.2.2.1.cells Y_X11_keeps.2.2.2.1.slots (zm_w sv) zm_ev) 0 0 false (zm_w sv) 83 [(0, .ref (E.2.1 + 52))] [] N83 (f_X11_keeps_x83_51 N83) some := by
      intro N83
      unfold f_X11_keeps_x83_51
      refine zm_aload_n 84 rfl dX11_keeps_83 rfl 0 rfl ?_
      refine zm_dup 85 rfl dX11_keeps_84 rfl ?_
      refine zm_getI 88 rfl dX11_keeps_85 fl_X11_269 rfl (zm_L (sv := sv) rfl) ?_
      refine zm_iconst 89 rfl dX11_keeps_88 zi_1 ?_
      refine zm_iadd 90 rfl dX11_keeps_89 ?_
      refine zm_putI 93 rfl dX11_keeps_90 fp_X11_269 rfl (zm_L (sv := sv) rfl) rfl rfl (fun M90 _ => ?_)
      refine zm_aload_n 94 rfl dX11_keeps_93 rfl 0 rfl ?_
      refine zm_cV0v 97 rfl dX11_keeps_94 ml_X11_185 rfl (zm_L (sv := sv) rfl) rfl (Nat.le_of_ble_eq_true rfl) ⟨Nat.le_of_ble_eq_true rfl, Nat.le_of_ble_eq_true rfl⟩ rfl rfl ⟨Nat.le_refl _, Nat.le_refl _⟩ rfl (fun _ _ h => k_X11_keepsRow E sv M90 h) (fun _ M94 => ?_)
      exact zm_vret dX11_keeps_97 rfl (Nat.le_refl _) (Nat.le_refl _) rfl
    refine zm_loc [1, 0] rfl (zm_lpp (σ := (Int32 × zm_Mem)) (ε := zm_Mem) (step := fun s => f_X11_keeps_l51 s.1 s.2) (fun s => [(0, .ref (E.2.1 + 52)), (1, .int s.1)]) (fun s => s.2) (fun D51 f51 hf51a hf51b hD51 s => ?_) (0, M49))
    obtain ⟨l51_1, L51⟩ := s
    show zm_V X Y_X11_keeps E (zm_Q X E Y_X11_keeps.2.2.2.1.cells Y_X11_keeps.2.2.2.1.slots (zm_w sv) zm_ev) 0 0 false (zm_w sv) 51 [(0, .ref (E.2.1 + 52)), (1, .int l51_1)] [] L51 (f_X11_keeps_l51 l51_1 L51) f51
    unfold f_X11_keeps_l51
    refine zm_iload_n 52 rfl dX11_keeps_51 rfl 1 rfl ?_
    refine zm_bipush 54 rfl dX11_keeps_52 zb_60 ?_
    refine zm_icmp_ge 83 57 (by decide) rfl dX11_keeps_54 ?_ ?_
    · exact zm_loc [0] rfl (zm_go (hf51b _) (zm_unb (hx83_51 L51)))
    · refine zm_aload_n 58 rfl dX11_keeps_57 rfl 0 rfl ?_
      refine zm_getR (a := 93) 61 rfl dX11_keeps_58 fl_X11_140 rfl (zm_L (sv := sv) rfl) rfl (by decide) ?_
      refine zm_bipush 63 rfl dX11_keeps_61 zb_60 ?_
      refine zm_aload_n 64 rfl dX11_keeps_63 rfl 0 rfl ?_
      refine zm_getI 67 rfl dX11_keeps_64 fl_X11_269 rfl (zm_L (sv := sv) rfl) ?_
      refine zm_imul 68 rfl dX11_keeps_67 ?_
      refine zm_iload_n 69 rfl dX11_keeps_68 rfl 1 rfl ?_
      refine zm_iadd 70 rfl dX11_keeps_69 ?_
      refine zm_aload_n 71 rfl dX11_keeps_70 rfl 0 rfl ?_
      refine zm_getR (a := 91) 74 rfl dX11_keeps_71 fl_X11_134 rfl (zm_L (sv := sv) rfl) rfl (by decide) ?_
      refine zm_iload_n 75 rfl dX11_keeps_74 rfl 1 rfl ?_
      refine zm_iald 76 rfl dX11_keeps_75 rfl (zm_L (sv := sv) rfl) ?_
      refine zm_iast 77 rfl dX11_keeps_76 rfl (zm_L (sv := sv) rfl) (fun M76 _ => ?_)
      refine zm_iinc (lv' := fun z => [(1, .int z), (0, .ref (E.2.1 + 52))]) 80 rfl dX11_keeps_77 zi_1 1 rfl (by decide) (fun _ => rfl) (fun x77 _ => ?_)
      refine zm_goto 51 (by decide) dX11_keeps_80 ?_
      exact zm_loc [1, 0] rfl (zm_go (hf51a _) (hD51 (x77, M76)))
  refine zm_icmp_ne 49 9 (by decide) rfl dX11_keeps_6 ?_ ?_
  · refine zm_iconst 10 rfl dX11_keeps_9 zi_0 ?_
    refine zm_istore_n (lv' := [(1, .int 0), (0, .ref (E.2.1 + 52))]) 11 rfl dX11_keeps_10 rfl (by decide) rfl ?_
    have hx39_11 : ∀ (N39 : zm_Mem), zm_V X Y_X11_keeps E (zm_Q X E Y_X11_keeps.2.2.2.1.cells Y_X11_keeps.2.2.2.1.slots (zm_w sv) zm_ev) 0 0 false (zm_w sv) 39 [(0, .ref (E.2.1 + 52))] [] N39 (f_X11_keeps_x39_11 N39) some := by
      intro N39
      unfold f_X11_keeps_x39_11
      refine zm_aload_n 40 rfl dX11_keeps_39 rfl 0 rfl ?_
      refine zm_dup 41 rfl dX11_keeps_40 rfl ?_
      refine zm_getI 44 rfl dX11_keeps_41 fl_X11_269 rfl (zm_L (sv := sv) rfl) ?_
      refine zm_iconst 45 rfl dX11_keeps_44 zi_1 ?_
      refine zm_isub 46 rfl dX11_keeps_45 ?_
      refine zm_putI 49 rfl dX11_keeps_46 fp_X11_269 rfl (zm_L (sv := sv) rfl) rfl rfl (fun M46 _ => ?_)
      exact zm_loc [0] rfl (hb49 M46)
    refine zm_loc [1, 0] rfl (zm_lpp (σ := (Int32 × zm_Mem)) (ε := zm_Mem) (step := fun s => f_X11_keeps_l11 s.1 s.2) (fun s => [(0, .ref (E.2.1 + 52)), (1, .int s.1)]) (fun s => s.2) (fun D11 f11 hf11a hf11b hD11 s => ?_) (0, M))
    obtain ⟨l11_1, L11⟩ := s
    show zm_V X Y_X11_keeps E (zm_Q X E Y_X11_keeps.2.2.2.1.cells Y_X11_keeps.2.2.2.1.slots (zm_w sv) zm_ev) 0 0 false (zm_w sv) 11 [(0, .ref (E.2.1 + 52)), (1, .int l11_1)] [] L11 (f_X11_keeps_l11 l11_1 L11) f11
    unfold f_X11_keeps_l11
    refine zm_iload_n 12 rfl dX11_keeps_11 rfl 1 rfl ?_
    refine zm_sipush 15 rfl dX11_keeps_12 zs_2340 ?_
    refine zm_icmp_ge 39 18 (by decide) rfl dX11_keeps_15 ?_ ?_
    · exact zm_loc [0] rfl (zm_go (hf11b _) (zm_unb (hx39_11 L11)))
    · refine zm_aload_n 19 rfl dX11_keeps_18 rfl 0 rfl ?_
      refine zm_getR (a := 93) 22 rfl dX11_keeps_19 fl_X11_140 rfl (zm_L (sv := sv) rfl) rfl (by decide) ?_
      refine zm_iload_n 23 rfl dX11_keeps_22 rfl 1 rfl ?_
      refine zm_aload_n 24 rfl dX11_keeps_23 rfl 0 rfl ?_
      refine zm_getR (a := 93) 27 rfl dX11_keeps_24 fl_X11_140 rfl (zm_L (sv := sv) rfl) rfl (by decide) ?_
      refine zm_iload_n 28 rfl dX11_keeps_27 rfl 1 rfl ?_
      refine zm_bipush 30 rfl dX11_keeps_28 zb_60 ?_
      refine zm_iadd 31 rfl dX11_keeps_30 ?_
      refine zm_iald 32 rfl dX11_keeps_31 rfl (zm_L (sv := sv) rfl) ?_
      refine zm_iast 33 rfl dX11_keeps_32 rfl (zm_L (sv := sv) rfl) (fun M32 _ => ?_)
      refine zm_iinc (lv' := fun z => [(1, .int z), (0, .ref (E.2.1 + 52))]) 36 rfl dX11_keeps_33 zi_1 1 rfl (by decide) (fun _ => rfl) (fun x33 _ => ?_)
      refine zm_goto 11 (by decide) dX11_keeps_36 ?_
      exact zm_loc [1, 0] rfl (zm_go (hf11a _) (hD11 (x33, M32)))
  · exact zm_loc [0] rfl (hb49 M)
abbrev Y_X11_send : zm_Y := (cX11_send, 4, RX11, { frames := 4, cells := 0, slots := 0, locals := 99 }, (some .int), false, "send")
noncomputable def f_X11_send_b154 (a1 : Int32) (M154 : zm_Mem) : Option (Int32 × zm_Mem) :=
 zm_b2 (f_X11_keeps M154) <| fun _ M155 => zm_ck (zm_in (12 + a1) 60) <| some (M155.1 91 (12 + a1).toNatClampNeg, M155)
noncomputable def f_X11_send_b95 (a1 : Int32) (a2 : Int32) (r38 : Int32) (M82 : zm_Mem) (b95_s1 : Int32) (b95_s2 : Int32) (b95_s3 : Int32) : Option (Int32 × zm_Mem) :=
 zm_ck (zm_in b95_s1 60) <| zm_v (zm_sI M82 92 b95_s1.toNatClampNeg (b95_s2 + b95_s3)) <| fun M96 => zm_ck (zm_in (6 + a1) 60) <| zm_v (zm_sI M96 92 (6 + a1).toNatClampNeg a2) <| fun M106 => zm_ck (zm_in a1 60) <| zm_v (zm_sI M106 92 a1.toNatClampNeg (-2)) <| fun M114 => zm_ck (zm_in (18 + a1) 60) <| zm_ck (zm_in (18 + a1) 60) <| zm_v (zm_sI M114 92 (18 + a1).toNatClampNeg ((M114.1 92 (18 + a1).toNatClampNeg) + 1)) <| fun M127 => zm_ck (zm_in 31 60) <| zm_ck (zm_in 31 60) <| zm_v (zm_sI M127 92 (31 : Int32).toNatClampNeg ((M127.1 92 (31 : Int32).toNatClampNeg) + 1)) <| fun M138 => if r38 = 0 then (f_X11_send_b154 a1 M138) else (zm_ck (zm_in 32 60) <| zm_ck (zm_in 32 60) <| zm_v (zm_sI M138 92 (32 : Int32).toNatClampNeg ((M138.1 92 (32 : Int32).toNatClampNeg) + 1)) <| fun M153 => f_X11_send_b154 a1 M153)
noncomputable def f_X11_send (a1 : Int32) (a2 : Int32) (M : zm_Mem) : Option (Int32 × zm_Mem) :=
  zm_b1 (f_X11_isPair a1 a2 M) <| fun r3 => if r3 = 0 then (some ((-1), M)) else (zm_ck (zm_in a1 60) <| if (M.1 91 a1.toNatClampNeg) < 0 then (some ((-2), M)) else (zm_ck (zm_in a1 60) <| if (M.1 91 a1.toNatClampNeg) = a2 then (some ((-2), M)) else (zm_b2 (f_X11_copies M) <| fun _ M34 => zm_b1 (f_X11_isLate M34) <| fun r38 => zm_ck (zm_in a1 60) <| zm_ck (zm_in ((33 + (5 * (M34.1 92 a1.toNatClampNeg))) + a2) 60) <| zm_ck (zm_in ((33 + (5 * (M34.1 92 a1.toNatClampNeg))) + a2) 60) <| zm_v (zm_sI M34 92 ((33 + (5 * (M34.1 92 a1.toNatClampNeg))) + a2).toNatClampNeg ((M34.1 92 ((33 + (5 * (M34.1 92 a1.toNatClampNeg))) + a2).toNatClampNeg) + 1)) <| fun M63 => zm_ck (zm_in 30 60) <| zm_b2 (f_X11_tripOf a1 a2 M63) <| fun r82 M82 => if r38 = 0 then (f_X11_send_b95 a1 a2 r38 M82 (12 + a1) ((M63.1 92 (30 : Int32).toNatClampNeg) + r82) 0) else (f_X11_send_b95 a1 a2 r38 M82 (12 + a1) ((M63.1 92 (30 : Int32).toNatClampNeg) + r82) 5))))
set_option maxRecDepth 20000 in
set_option maxHeartbeats 4000000 in
theorem k_X11_send (E : zm_E) (sv : Nat) (a1 : Int32) (a2 : Int32) (M : zm_Mem) {r : Int32} {M' : zm_Mem} (h : f_X11_send a1 a2 M = some (r, M')) : zm_Ct E (zm_w sv) (zm_w sv) yX11_send Y_X11_send [.ref (E.2.1 + 52), .int a1, .int a2] M (some (.int r)) M' := by
  refine zm_meth (emb := zm_ei) (d := f_X11_send a1 a2 M) (by decide) rfl rfl (Nat.le_of_ble_eq_true rfl) h (fun X => ?_)
  show zm_V X Y_X11_send E (zm_Q X E Y_X11_send.2.2.2.1.cells Y_X11_send.2.2.2.1.slots (zm_w sv) zm_ei) 0 0 false (zm_w sv) 0 [(0, .ref (E.2.1 + 52)), (1, .int a1), (2, .int a2)] [] M (f_X11_send a1 a2 M) some
  unfold f_X11_send
  refine zm_aload_n 1 rfl dX11_send_0 rfl 0 rfl ?_
  refine zm_iload_n 2 rfl dX11_send_1 rfl 1 rfl ?_
  refine zm_iload_n 3 rfl dX11_send_2 rfl 2 rfl ?_
  refine zm_cV2ir 6 rfl dX11_send_3 ml_X11_401 rfl (zm_L (sv := sv) rfl) rfl (Nat.le_of_ble_eq_true rfl) ⟨Nat.le_of_ble_eq_true rfl, Nat.le_of_ble_eq_true rfl⟩ rfl rfl ⟨Nat.le_refl _, Nat.le_refl _⟩ rfl (fun _ h => k_X11_isPair E sv a1 a2 M h) (fun r3 => ?_)
  refine zm_if_ne 11 9 (by decide) rfl dX11_send_6 ?_ ?_
  · refine zm_iconst 10 rfl dX11_send_9 zi_m1 ?_
    exact zm_iret dX11_send_10 rfl (Nat.le_refl _) (Nat.le_refl _) rfl
  · refine zm_aload_n 12 rfl dX11_send_11 rfl 0 rfl ?_
    refine zm_getR (a := 91) 15 rfl dX11_send_12 fl_X11_134 rfl (zm_L (sv := sv) rfl) rfl (by decide) ?_
    refine zm_iload_n 16 rfl dX11_send_15 rfl 1 rfl ?_
    refine zm_iald 17 rfl dX11_send_16 rfl (zm_L (sv := sv) rfl) ?_
    refine zm_if_lt 30 20 (by decide) rfl dX11_send_17 ?_ ?_
    · refine zm_bipush 32 rfl dX11_send_30 zb_m2 ?_
      exact zm_iret dX11_send_32 rfl (Nat.le_refl _) (Nat.le_refl _) rfl
    · refine zm_aload_n 21 rfl dX11_send_20 rfl 0 rfl ?_
      refine zm_getR (a := 91) 24 rfl dX11_send_21 fl_X11_134 rfl (zm_L (sv := sv) rfl) rfl (by decide) ?_
      refine zm_iload_n 25 rfl dX11_send_24 rfl 1 rfl ?_
      refine zm_iald 26 rfl dX11_send_25 rfl (zm_L (sv := sv) rfl) ?_
      refine zm_iload_n 27 rfl dX11_send_26 rfl 2 rfl ?_
      refine zm_icmp_ne 33 30 (by decide) rfl dX11_send_27 ?_ ?_
      · refine zm_bipush 32 rfl dX11_send_30 zb_m2 ?_
        exact zm_iret dX11_send_32 rfl (Nat.le_refl _) (Nat.le_refl _) rfl
      · refine zm_aload_n 34 rfl dX11_send_33 rfl 0 rfl ?_
        refine zm_cV0v 37 rfl dX11_send_34 ml_X11_388 rfl (zm_L (sv := sv) rfl) rfl (Nat.le_of_ble_eq_true rfl) ⟨Nat.le_of_ble_eq_true rfl, Nat.le_of_ble_eq_true rfl⟩ rfl rfl ⟨Nat.le_refl _, Nat.le_refl _⟩ rfl (fun _ _ h => k_X11_copies E sv M h) (fun _ M34 => ?_)
        refine zm_aload_n 38 rfl dX11_send_37 rfl 0 rfl ?_
        refine zm_cV0ir 41 rfl dX11_send_38 ml_X11_410 rfl (zm_L (sv := sv) rfl) rfl (Nat.le_of_ble_eq_true rfl) ⟨Nat.le_of_ble_eq_true rfl, Nat.le_of_ble_eq_true rfl⟩ rfl rfl ⟨Nat.le_refl _, Nat.le_refl _⟩ rfl (fun _ h => k_X11_isLate E sv M34 h) (fun r38 => ?_)
        refine zm_istore_n (lv' := [(3, .int r38), (0, .ref (E.2.1 + 52)), (1, .int a1), (2, .int a2)]) 42 rfl dX11_send_41 rfl (by decide) rfl ?_
        refine zm_aload_n 43 rfl dX11_send_42 rfl 1 rfl ?_
        refine zm_getR (a := 92) 46 rfl dX11_send_43 fl_X11_137 rfl (zm_L (sv := sv) rfl) rfl (by decide) ?_
        refine zm_bipush 48 rfl dX11_send_46 zb_33 ?_
        refine zm_iconst 49 rfl dX11_send_48 zi_5 ?_
        refine zm_aload_n 50 rfl dX11_send_49 rfl 1 rfl ?_
        refine zm_getR (a := 92) 53 rfl dX11_send_50 fl_X11_137 rfl (zm_L (sv := sv) rfl) rfl (by decide) ?_
        refine zm_iload_n 54 rfl dX11_send_53 rfl 2 rfl ?_
        refine zm_iald 55 rfl dX11_send_54 rfl (zm_L (sv := sv) rfl) ?_
        refine zm_imul 56 rfl dX11_send_55 ?_
        refine zm_iadd 57 rfl dX11_send_56 ?_
        refine zm_iload_n 58 rfl dX11_send_57 rfl 3 rfl ?_
        refine zm_iadd 59 rfl dX11_send_58 ?_
        refine zm_dup2 60 rfl dX11_send_59 rfl rfl ?_
        refine zm_iald 61 rfl dX11_send_60 rfl (zm_L (sv := sv) rfl) ?_
        refine zm_iconst 62 rfl dX11_send_61 zi_1 ?_
        refine zm_iadd 63 rfl dX11_send_62 ?_
        refine zm_iast 64 rfl dX11_send_63 rfl (zm_L (sv := sv) rfl) (fun M63 _ => ?_)
        refine zm_aload_n 65 rfl dX11_send_64 rfl 1 rfl ?_
        refine zm_getR (a := 92) 68 rfl dX11_send_65 fl_X11_137 rfl (zm_L (sv := sv) rfl) rfl (by decide) ?_
        refine zm_bipush 70 rfl dX11_send_68 zb_12 ?_
        refine zm_iload_n 71 rfl dX11_send_70 rfl 2 rfl ?_
        refine zm_iadd 72 rfl dX11_send_71 ?_
        refine zm_aload_n 73 rfl dX11_send_72 rfl 1 rfl ?_
        refine zm_getR (a := 92) 76 rfl dX11_send_73 fl_X11_137 rfl (zm_L (sv := sv) rfl) rfl (by decide) ?_
        refine zm_bipush 78 rfl dX11_send_76 zb_30 ?_
        refine zm_iald 79 rfl dX11_send_78 rfl (zm_L (sv := sv) rfl) ?_
        refine zm_aload_n 80 rfl dX11_send_79 rfl 1 rfl ?_
        refine zm_iload_n 81 rfl dX11_send_80 rfl 2 rfl ?_
        refine zm_iload_n 82 rfl dX11_send_81 rfl 3 rfl ?_
        refine zm_cV2i 85 rfl dX11_send_82 ml_X11_407 rfl (zm_L (sv := sv) rfl) rfl (Nat.le_of_ble_eq_true rfl) ⟨Nat.le_of_ble_eq_true rfl, Nat.le_of_ble_eq_true rfl⟩ rfl rfl ⟨Nat.le_refl _, Nat.le_refl _⟩ rfl (fun _ _ h => k_X11_tripOf E sv a1 a2 M63 h) (fun r82 M82 => ?_)
        refine zm_iadd 86 rfl dX11_send_85 ?_
        refine zm_iload_n 87 rfl dX11_send_86 rfl 0 rfl ?_
        have hb95 : ∀ (b95_s1 : Int32) (b95_s2 : Int32) (b95_s3 : Int32), zm_V X Y_X11_send E (zm_Q X E Y_X11_send.2.2.2.1.cells Y_X11_send.2.2.2.1.slots (zm_w sv) zm_ei) 0 0 false (zm_w sv) 95 [(0, .ref (E.2.1 + 52)), (1, .int a1), (2, .int a2), (3, .int r38)] [.int b95_s3, .int b95_s2, .int b95_s1, .ref (E.2.1 + 92)] M82 (f_X11_send_b95 a1 a2 r38 M82 b95_s1 b95_s2 b95_s3) some := by
          intro b95_s1 b95_s2 b95_s3
          unfold f_X11_send_b95
          refine zm_iadd 96 rfl dX11_send_95 ?_
          refine zm_iast 97 rfl dX11_send_96 rfl (zm_L (sv := sv) rfl) (fun M96 _ => ?_)
          refine zm_aload_n 98 rfl dX11_send_97 rfl 0 rfl ?_
          refine zm_getR (a := 92) 101 rfl dX11_send_98 fl_X11_137 rfl (zm_L (sv := sv) rfl) rfl (by decide) ?_
          refine zm_bipush 103 rfl dX11_send_101 zb_6 ?_
          refine zm_iload_n 104 rfl dX11_send_103 rfl 1 rfl ?_
          refine zm_iadd 105 rfl dX11_send_104 ?_
          refine zm_iload_n 106 rfl dX11_send_105 rfl 2 rfl ?_
          refine zm_iast 107 rfl dX11_send_106 rfl (zm_L (sv := sv) rfl) (fun M106 _ => ?_)
          refine zm_aload_n 108 rfl dX11_send_107 rfl 0 rfl ?_
          refine zm_getR (a := 92) 111 rfl dX11_send_108 fl_X11_137 rfl (zm_L (sv := sv) rfl) rfl (by decide) ?_
          refine zm_iload_n 112 rfl dX11_send_111 rfl 1 rfl ?_
          refine zm_bipush 114 rfl dX11_send_112 zb_m2 ?_
          refine zm_iast 115 rfl dX11_send_114 rfl (zm_L (sv := sv) rfl) (fun M114 _ => ?_)
          refine zm_aload_n 116 rfl dX11_send_115 rfl 0 rfl ?_
          refine zm_getR (a := 92) 119 rfl dX11_send_116 fl_X11_137 rfl (zm_L (sv := sv) rfl) rfl (by decide) ?_
          refine zm_bipush 121 rfl dX11_send_119 zb_18 ?_
          refine zm_iload_n 122 rfl dX11_send_121 rfl 1 rfl ?_
          refine zm_iadd 123 rfl dX11_send_122 ?_
          refine zm_dup2 124 rfl dX11_send_123 rfl rfl ?_
          refine zm_iald 125 rfl dX11_send_124 rfl (zm_L (sv := sv) rfl) ?_
          refine zm_iconst 126 rfl dX11_send_125 zi_1 ?_
          refine zm_iadd 127 rfl dX11_send_126 ?_
          refine zm_iast 128 rfl dX11_send_127 rfl (zm_L (sv := sv) rfl) (fun M127 _ => ?_)
          refine zm_aload_n 129 rfl dX11_send_128 rfl 0 rfl ?_
          refine zm_getR (a := 92) 132 rfl dX11_send_129 fl_X11_137 rfl (zm_L (sv := sv) rfl) rfl (by decide) ?_
          refine zm_bipush 134 rfl dX11_send_132 zb_31 ?_
          refine zm_dup2 135 rfl dX11_send_134 rfl rfl ?_
          refine zm_iald 136 rfl dX11_send_135 rfl (zm_L (sv := sv) rfl) ?_
          refine zm_iconst 137 rfl dX11_send_136 zi_1 ?_
          refine zm_iadd 138 rfl dX11_send_137 ?_
          refine zm_iast 139 rfl dX11_send_138 rfl (zm_L (sv := sv) rfl) (fun M138 _ => ?_)
          refine zm_iload_n 140 rfl dX11_send_139 rfl 3 rfl ?_
          have hb154 : ∀ (M154 : zm_Mem), zm_V X Y_X11_send E (zm_Q X E Y_X11_send.2.2.2.1.cells Y_X11_send.2.2.2.1.slots (zm_w sv) zm_ei) 0 0 false (zm_w sv) 154 [(0, .ref (E.2.1 + 52)), (1, .int a1)] [] M154 (f_X11_send_b154 a1 M154) some := by
            intro M154
            unfold f_X11_send_b154
            refine zm_aload_n 155 rfl dX11_send_154 rfl 0 rfl ?_
            refine zm_cV0v 158 rfl dX11_send_155 ml_X11_414 rfl (zm_L (sv := sv) rfl) rfl (Nat.le_of_ble_eq_true rfl) ⟨Nat.le_of_ble_eq_true rfl, Nat.le_of_ble_eq_true rfl⟩ rfl rfl ⟨Nat.le_refl _, Nat.le_refl _⟩ rfl (fun _ _ h => k_X11_keeps E sv M154 h) (fun _ M155 => ?_)
            refine zm_aload_n 159 rfl dX11_send_158 rfl 0 rfl ?_
            refine zm_getR (a := 91) 162 rfl dX11_send_159 fl_X11_134 rfl (zm_L (sv := sv) rfl) rfl (by decide) ?_
            refine zm_bipush 164 rfl dX11_send_162 zb_12 ?_
            refine zm_iload_n 165 rfl dX11_send_164 rfl 1 rfl ?_
            refine zm_iadd 166 rfl dX11_send_165 ?_
            refine zm_iald 167 rfl dX11_send_166 rfl (zm_L (sv := sv) rfl) ?_
            exact zm_iret dX11_send_167 rfl (Nat.le_refl _) (Nat.le_refl _) rfl
          refine zm_if_eq 154 143 (by decide) rfl dX11_send_140 ?_ ?_
          · exact zm_loc [0, 1] rfl (hb154 M138)
          · refine zm_aload_n 144 rfl dX11_send_143 rfl 0 rfl ?_
            refine zm_getR (a := 92) 147 rfl dX11_send_144 fl_X11_137 rfl (zm_L (sv := sv) rfl) rfl (by decide) ?_
            refine zm_bipush 149 rfl dX11_send_147 zb_32 ?_
            refine zm_dup2 150 rfl dX11_send_149 rfl rfl ?_
            refine zm_iald 151 rfl dX11_send_150 rfl (zm_L (sv := sv) rfl) ?_
            refine zm_iconst 152 rfl dX11_send_151 zi_1 ?_
            refine zm_iadd 153 rfl dX11_send_152 ?_
            refine zm_iast 154 rfl dX11_send_153 rfl (zm_L (sv := sv) rfl) (fun M153 _ => ?_)
            exact zm_loc [0, 1] rfl (hb154 M153)
        refine zm_if_eq 94 90 (by decide) rfl dX11_send_87 ?_ ?_
        · refine zm_iconst 95 rfl dX11_send_94 zi_0 ?_
          exact zm_loc [1, 2, 3, 0] rfl (hb95 (12 + a1) ((M63.1 92 (30 : Int32).toNatClampNeg) + r82) 0)
        · refine zm_iconst 91 rfl dX11_send_90 zi_5 ?_
          refine zm_goto 95 (by decide) dX11_send_91 ?_
          exact zm_loc [1, 2, 3, 0] rfl (hb95 (12 + a1) ((M63.1 92 (30 : Int32).toNatClampNeg) + r82) 5)
abbrev Y_X11_lift : zm_Y := (cX11_lift, 3, RX11, { frames := 2, cells := 0, slots := 0, locals := 43 }, (some .boolean), false, "lift")
noncomputable def f_X11_lift_b53 (M33 : zm_Mem) (b53_s1 : Int32) (b53_s2 : Int32) : Option (Int32 × zm_Mem) :=
 zm_ck (zm_in b53_s1 60) <| zm_v (zm_sI M33 92 b53_s1.toNatClampNeg b53_s2) <| fun M53 => zm_b2 (f_X11_keeps M53) <| fun _ M55 => some (1, M55)
noncomputable def f_X11_lift_b26 (a1 : Int32) (a2 : Int32) (M : zm_Mem) (b26_s0 : Int32) : Option (Int32 × zm_Mem) :=
 if b26_s0 = a2 then (some (0, M)) else (zm_b2 (f_X11_copies M) <| fun _ M33 => if a2 = 0 then (f_X11_lift_b53 M33 (24 + a1) 0) else (f_X11_lift_b53 M33 (24 + a1) 1))
noncomputable def f_X11_lift (a1 : Int32) (a2 : Int32) (M : zm_Mem) : Option (Int32 × zm_Mem) :=
  zm_b1 (f_X11_isTerm a1 M) <| fun r2 => if r2 = 0 then (some (0, M)) else (zm_ck (zm_in (24 + a1) 60) <| if (M.1 91 (24 + a1).toNatClampNeg) = (1 : Int32) then (f_X11_lift_b26 a1 a2 M 1) else (f_X11_lift_b26 a1 a2 M 0))
set_option maxRecDepth 20000 in
set_option maxHeartbeats 4000000 in
theorem k_X11_lift (E : zm_E) (sv : Nat) (a1 : Int32) (a2 : Int32) (M : zm_Mem) {r : Int32} {M' : zm_Mem} (h : f_X11_lift a1 a2 M = some (r, M')) : zm_Ct E (zm_w sv) (zm_w sv) yX11_lift Y_X11_lift [.ref (E.2.1 + 52), .int a1, .int a2] M (some (.int r)) M' := by
  refine zm_meth (emb := zm_ei) (d := f_X11_lift a1 a2 M) (by decide) rfl rfl (Nat.le_of_ble_eq_true rfl) h (fun X => ?_)
  show zm_V X Y_X11_lift E (zm_Q X E Y_X11_lift.2.2.2.1.cells Y_X11_lift.2.2.2.1.slots (zm_w sv) zm_ei) 0 0 false (zm_w sv) 0 [(0, .ref (E.2.1 + 52)), (1, .int a1), (2, .int a2)] [] M (f_X11_lift a1 a2 M) some
  unfold f_X11_lift
  refine zm_aload_n 1 rfl dX11_lift_0 rfl 0 rfl ?_
  refine zm_iload_n 2 rfl dX11_lift_1 rfl 1 rfl ?_
  refine zm_cV1ir 5 rfl dX11_lift_2 ml_X11_404 rfl (zm_L (sv := sv) rfl) rfl (Nat.le_of_ble_eq_true rfl) ⟨Nat.le_of_ble_eq_true rfl, Nat.le_of_ble_eq_true rfl⟩ rfl rfl ⟨Nat.le_refl _, Nat.le_refl _⟩ rfl (fun _ h => k_X11_isTerm E sv a1 M h) (fun r2 => ?_)
  refine zm_if_eq 30 8 (by decide) rfl dX11_lift_5 ?_ ?_
  · refine zm_iconst 31 rfl dX11_lift_30 zi_0 ?_
    exact zm_zret dX11_lift_31 rfl rfl (Nat.le_refl _) (Nat.le_refl _) rfl
  · refine zm_aload_n 9 rfl dX11_lift_8 rfl 0 rfl ?_
    refine zm_getR (a := 91) 12 rfl dX11_lift_9 fl_X11_134 rfl (zm_L (sv := sv) rfl) rfl (by decide) ?_
    refine zm_bipush 14 rfl dX11_lift_12 zb_24 ?_
    refine zm_iload_n 15 rfl dX11_lift_14 rfl 1 rfl ?_
    refine zm_iadd 16 rfl dX11_lift_15 ?_
    refine zm_iald 17 rfl dX11_lift_16 rfl (zm_L (sv := sv) rfl) ?_
    refine zm_iconst 18 rfl dX11_lift_17 zi_1 ?_
    have hb26 : ∀ (b26_s0 : Int32), zm_V X Y_X11_lift E (zm_Q X E Y_X11_lift.2.2.2.1.cells Y_X11_lift.2.2.2.1.slots (zm_w sv) zm_ei) 0 0 false (zm_w sv) 26 [(0, .ref (E.2.1 + 52)), (1, .int a1), (2, .int a2)] [.int b26_s0] M (f_X11_lift_b26 a1 a2 M b26_s0) some := by
      intro b26_s0
      unfold f_X11_lift_b26
      refine zm_iload_n 27 rfl dX11_lift_26 rfl 2 rfl ?_
      refine zm_icmp_ne 32 30 (by decide) rfl dX11_lift_27 ?_ ?_
      · refine zm_iconst 31 rfl dX11_lift_30 zi_0 ?_
        exact zm_zret dX11_lift_31 rfl rfl (Nat.le_refl _) (Nat.le_refl _) rfl
      · refine zm_aload_n 33 rfl dX11_lift_32 rfl 0 rfl ?_
        refine zm_cV0v 36 rfl dX11_lift_33 ml_X11_388 rfl (zm_L (sv := sv) rfl) rfl (Nat.le_of_ble_eq_true rfl) ⟨Nat.le_of_ble_eq_true rfl, Nat.le_of_ble_eq_true rfl⟩ rfl rfl ⟨Nat.le_refl _, Nat.le_refl _⟩ rfl (fun _ _ h => k_X11_copies E sv M h) (fun _ M33 => ?_)
        refine zm_aload_n 37 rfl dX11_lift_36 rfl 0 rfl ?_
        refine zm_getR (a := 92) 40 rfl dX11_lift_37 fl_X11_137 rfl (zm_L (sv := sv) rfl) rfl (by decide) ?_
        refine zm_bipush 42 rfl dX11_lift_40 zb_24 ?_
        refine zm_iload_n 43 rfl dX11_lift_42 rfl 1 rfl ?_
        refine zm_iadd 44 rfl dX11_lift_43 ?_
        refine zm_iload_n 45 rfl dX11_lift_44 rfl 2 rfl ?_
        have hb53 : ∀ (b53_s1 : Int32) (b53_s2 : Int32), zm_V X Y_X11_lift E (zm_Q X E Y_X11_lift.2.2.2.1.cells Y_X11_lift.2.2.2.1.slots (zm_w sv) zm_ei) 0 0 false (zm_w sv) 53 [(0, .ref (E.2.1 + 52))] [.int b53_s2, .int b53_s1, .ref (E.2.1 + 92)] M33 (f_X11_lift_b53 M33 b53_s1 b53_s2) some := by
          intro b53_s1 b53_s2
          unfold f_X11_lift_b53
          refine zm_iast 54 rfl dX11_lift_53 rfl (zm_L (sv := sv) rfl) (fun M53 _ => ?_)
          refine zm_aload_n 55 rfl dX11_lift_54 rfl 0 rfl ?_
          refine zm_cV0v 58 rfl dX11_lift_55 ml_X11_414 rfl (zm_L (sv := sv) rfl) rfl (Nat.le_of_ble_eq_true rfl) ⟨Nat.le_of_ble_eq_true rfl, Nat.le_of_ble_eq_true rfl⟩ rfl rfl ⟨Nat.le_refl _, Nat.le_refl _⟩ rfl (fun _ _ h => k_X11_keeps E sv M53 h) (fun _ M55 => ?_)
          refine zm_iconst 59 rfl dX11_lift_58 zi_1 ?_
          exact zm_zret dX11_lift_59 rfl rfl (Nat.le_refl _) (Nat.le_refl _) rfl
        refine zm_if_eq 52 48 (by decide) rfl dX11_lift_45 ?_ ?_
        · refine zm_iconst 53 rfl dX11_lift_52 zi_0 ?_
          exact zm_loc [0] rfl (hb53 (24 + a1) 0)
        · refine zm_iconst 49 rfl dX11_lift_48 zi_1 ?_
          refine zm_goto 53 (by decide) dX11_lift_49 ?_
          exact zm_loc [0] rfl (hb53 (24 + a1) 1)
    refine zm_icmp_ne 25 21 (by decide) rfl dX11_lift_18 ?_ ?_
    · refine zm_iconst 22 rfl dX11_lift_21 zi_1 ?_
      refine zm_goto 26 (by decide) dX11_lift_22 ?_
      exact zm_loc [0, 1, 2] rfl (hb26 1)
    · refine zm_iconst 26 rfl dX11_lift_25 zi_0 ?_
      exact zm_loc [0, 1, 2] rfl (hb26 0)
abbrev Y_X11_days : zm_Y := (cX11_days, 2, RX11, { frames := 2, cells := 0, slots := 0, locals := 42 }, (some .int), false, "days")
noncomputable def f_X11_days (a1 : Int32) (M : zm_Mem) : Option (Int32 × zm_Mem) :=
  zm_b1 (f_X11_in a1 0 99 M) <| fun r4 => if r4 = 0 then (some ((-1), M)) else (if a1 = 0 then (zm_ck (zm_in 30 60) <| some (M.1 91 (30 : Int32).toNatClampNeg, M)) else (zm_b2 (f_X11_copies M) <| fun _ M25 => zm_ck (zm_in 30 60) <| zm_ck (zm_in 30 60) <| zm_v (zm_sI M25 92 (30 : Int32).toNatClampNeg ((M25.1 92 (30 : Int32).toNatClampNeg) + a1)) <| fun M38 => zm_b2 (f_X11_arrives M38) <| fun _ M40 => zm_b2 (f_X11_keeps M40) <| fun _ M44 => zm_ck (zm_in 30 60) <| some (M44.1 91 (30 : Int32).toNatClampNeg, M44)))
set_option maxRecDepth 20000 in
set_option maxHeartbeats 4000000 in
theorem k_X11_days (E : zm_E) (sv : Nat) (a1 : Int32) (M : zm_Mem) {r : Int32} {M' : zm_Mem} (h : f_X11_days a1 M = some (r, M')) : zm_Ct E (zm_w sv) (zm_w sv) yX11_days Y_X11_days [.ref (E.2.1 + 52), .int a1] M (some (.int r)) M' := by
  refine zm_meth (emb := zm_ei) (d := f_X11_days a1 M) (by decide) rfl rfl (Nat.le_of_ble_eq_true rfl) h (fun X => ?_)
  show zm_V X Y_X11_days E (zm_Q X E Y_X11_days.2.2.2.1.cells Y_X11_days.2.2.2.1.slots (zm_w sv) zm_ei) 0 0 false (zm_w sv) 0 [(0, .ref (E.2.1 + 52)), (1, .int a1)] [] M (f_X11_days a1 M) some
  unfold f_X11_days
  refine zm_iload_n 1 rfl dX11_days_0 rfl 1 rfl ?_
  refine zm_iconst 2 rfl dX11_days_1 zi_0 ?_
  refine zm_bipush 4 rfl dX11_days_2 zb_99 ?_
  refine zm_cS3ir 7 rfl dX11_days_4 ml_X11_335 (Nat.le_of_ble_eq_true rfl) ⟨Nat.le_of_ble_eq_true rfl, Nat.le_of_ble_eq_true rfl⟩ rfl rfl ⟨Nat.le_refl _, Nat.le_refl _⟩ rfl (fun _ h => k_X11_in E (zm_w sv) a1 0 99 M h) (fun r4 => ?_)
  refine zm_if_ne 12 10 (by decide) rfl dX11_days_7 ?_ ?_
  · refine zm_iconst 11 rfl dX11_days_10 zi_m1 ?_
    exact zm_iret dX11_days_11 rfl (Nat.le_refl _) (Nat.le_refl _) rfl
  · refine zm_iload_n 13 rfl dX11_days_12 rfl 1 rfl ?_
    refine zm_if_ne 24 16 (by decide) rfl dX11_days_13 ?_ ?_
    · refine zm_aload_n 17 rfl dX11_days_16 rfl 0 rfl ?_
      refine zm_getR (a := 91) 20 rfl dX11_days_17 fl_X11_134 rfl (zm_L (sv := sv) rfl) rfl (by decide) ?_
      refine zm_bipush 22 rfl dX11_days_20 zb_30 ?_
      refine zm_iald 23 rfl dX11_days_22 rfl (zm_L (sv := sv) rfl) ?_
      exact zm_iret dX11_days_23 rfl (Nat.le_refl _) (Nat.le_refl _) rfl
    · refine zm_aload_n 25 rfl dX11_days_24 rfl 0 rfl ?_
      refine zm_cV0v 28 rfl dX11_days_25 ml_X11_388 rfl (zm_L (sv := sv) rfl) rfl (Nat.le_of_ble_eq_true rfl) ⟨Nat.le_of_ble_eq_true rfl, Nat.le_of_ble_eq_true rfl⟩ rfl rfl ⟨Nat.le_refl _, Nat.le_refl _⟩ rfl (fun _ _ h => k_X11_copies E sv M h) (fun _ M25 => ?_)
      refine zm_aload_n 29 rfl dX11_days_28 rfl 0 rfl ?_
      refine zm_getR (a := 92) 32 rfl dX11_days_29 fl_X11_137 rfl (zm_L (sv := sv) rfl) rfl (by decide) ?_
      refine zm_bipush 34 rfl dX11_days_32 zb_30 ?_
      refine zm_dup2 35 rfl dX11_days_34 rfl rfl ?_
      refine zm_iald 36 rfl dX11_days_35 rfl (zm_L (sv := sv) rfl) ?_
      refine zm_iload_n 37 rfl dX11_days_36 rfl 1 rfl ?_
      refine zm_iadd 38 rfl dX11_days_37 ?_
      refine zm_iast 39 rfl dX11_days_38 rfl (zm_L (sv := sv) rfl) (fun M38 _ => ?_)
      refine zm_aload_n 40 rfl dX11_days_39 rfl 0 rfl ?_
      refine zm_cV0v 43 rfl dX11_days_40 ml_X11_417 rfl (zm_L (sv := sv) rfl) rfl (Nat.le_of_ble_eq_true rfl) ⟨Nat.le_of_ble_eq_true rfl, Nat.le_of_ble_eq_true rfl⟩ rfl rfl ⟨Nat.le_refl _, Nat.le_refl _⟩ rfl (fun _ _ h => k_X11_arrives E sv M38 h) (fun _ M40 => ?_)
      refine zm_aload_n 44 rfl dX11_days_43 rfl 0 rfl ?_
      refine zm_cV0v 47 rfl dX11_days_44 ml_X11_414 rfl (zm_L (sv := sv) rfl) rfl (Nat.le_of_ble_eq_true rfl) ⟨Nat.le_of_ble_eq_true rfl, Nat.le_of_ble_eq_true rfl⟩ rfl rfl ⟨Nat.le_refl _, Nat.le_refl _⟩ rfl (fun _ _ h => k_X11_keeps E sv M40 h) (fun _ M44 => ?_)
      refine zm_aload_n 48 rfl dX11_days_47 rfl 0 rfl ?_
      refine zm_getR (a := 91) 51 rfl dX11_days_48 fl_X11_134 rfl (zm_L (sv := sv) rfl) rfl (by decide) ?_
      refine zm_bipush 53 rfl dX11_days_51 zb_30 ?_
      refine zm_iald 54 rfl dX11_days_53 rfl (zm_L (sv := sv) rfl) ?_
      exact zm_iret dX11_days_54 rfl (Nat.le_refl _) (Nat.le_refl _) rfl
abbrev Y_X11_undo : zm_Y := (cX11_undo, 2, RX11, { frames := 0, cells := 0, slots := 0, locals := 0 }, (some .boolean), false, "undo")
noncomputable def f_X11_undo_l21 (l21_1 : Int32) (L21 : zm_Mem) : Option ((Int32 × zm_Mem) ⊕ zm_Mem) :=
 if (60 : Int32) ≤ l21_1 then (some (.inr L21)) else (zm_ck (zm_in ((60 * (L21.1 52 59)) + l21_1) 2400) <| zm_ck (zm_in l21_1 60) <| zm_v (zm_sI L21 91 l21_1.toNatClampNeg (L21.1 93 ((60 * (L21.1 52 59)) + l21_1).toNatClampNeg)) <| fun M46 => zm_v (l21_1 + 1) <| fun x47 => some (.inl (x47, M46)))
noncomputable def f_X11_undo  (M : zm_Mem) : Option (Int32 × zm_Mem) :=
  if (M.1 52 59) = 0 then (some (0, M)) else (zm_v (zm_sI M 52 59 ((M.1 52 59) - 1)) <| fun M16 => (zm_lp (fun s => f_X11_undo_l21 s.1 s.2) (0, M16)).bind (fun e53 => some (1, e53)))
set_option maxRecDepth 20000 in
set_option maxHeartbeats 4000000 in
theorem k_X11_undo (E : zm_E) (sv : Nat)  (M : zm_Mem) {r : Int32} {M' : zm_Mem} (h : f_X11_undo M = some (r, M')) : zm_Ct E (zm_w sv) (zm_w sv) yX11_undo Y_X11_undo [.ref (E.2.1 + 52)] M (some (.int r)) M' := by
  refine zm_meth (emb := zm_ei) (d := f_X11_undo M) (by decide) rfl rfl (Nat.le_of_ble_eq_true rfl) h (fun X => ?_)
  show zm_V X Y_X11_undo E (zm_Q X E Y_X11_undo.2.2.2.1.cells Y_X11_undo.2.2.2.1.slots (zm_w sv) zm_ei) 0 0 false (zm_w sv) 0 [(0, .ref (E.2.1 + 52))] [] M (f_X11_undo M) some
  unfold f_X11_undo
  refine zm_aload_n 1 rfl dX11_undo_0 rfl 0 rfl ?_
  refine zm_getI 4 rfl dX11_undo_1 fl_X11_269 rfl (zm_L (sv := sv) rfl) ?_
  refine zm_if_ne 9 7 (by decide) rfl dX11_undo_4 ?_ ?_
  · refine zm_iconst 8 rfl dX11_undo_7 zi_0 ?_
    exact zm_zret dX11_undo_8 rfl rfl (Nat.le_refl _) (Nat.le_refl _) rfl
  · refine zm_aload_n 10 rfl dX11_undo_9 rfl 0 rfl ?_
    refine zm_dup 11 rfl dX11_undo_10 rfl ?_
    refine zm_getI 14 rfl dX11_undo_11 fl_X11_269 rfl (zm_L (sv := sv) rfl) ?_
    refine zm_iconst 15 rfl dX11_undo_14 zi_1 ?_
    refine zm_isub 16 rfl dX11_undo_15 ?_
    refine zm_putI 19 rfl dX11_undo_16 fp_X11_269 rfl (zm_L (sv := sv) rfl) rfl rfl (fun M16 _ => ?_)
    refine zm_iconst 20 rfl dX11_undo_19 zi_0 ?_
    refine zm_istore_n (lv' := [(1, .int 0), (0, .ref (E.2.1 + 52))]) 21 rfl dX11_undo_20 rfl (by decide) rfl ?_
    have hx53_21 : ∀ (N53 : zm_Mem), zm_V X Y_X11_undo E (zm_Q X E Y_X11_undo.2.2.2.1.cells Y_X11_undo.2.2.2.1.slots (zm_w sv) zm_ei) 0 0 false (zm_w sv) 53 [] [] N53 (some (1, N53)) some := by
      intro N53
      refine zm_iconst 54 rfl dX11_undo_53 zi_1 ?_
      exact zm_zret dX11_undo_54 rfl rfl (Nat.le_refl _) (Nat.le_refl _) rfl
    refine zm_loc [1, 0] rfl (zm_lpp (σ := (Int32 × zm_Mem)) (ε := zm_Mem) (step := fun s => f_X11_undo_l21 s.1 s.2) (fun s => [(0, .ref (E.2.1 + 52)), (1, .int s.1)]) (fun s => s.2) (fun D21 f21 hf21a hf21b hD21 s => ?_) (0, M16))
    obtain ⟨l21_1, L21⟩ := s
    show zm_V X Y_X11_undo E (zm_Q X E Y_X11_undo.2.2.2.1.cells Y_X11_undo.2.2.2.1.slots (zm_w sv) zm_ei) 0 0 false (zm_w sv) 21 [(0, .ref (E.2.1 + 52)), (1, .int l21_1)] [] L21 (f_X11_undo_l21 l21_1 L21) f21
    unfold f_X11_undo_l21
    refine zm_iload_n 22 rfl dX11_undo_21 rfl 1 rfl ?_
    refine zm_bipush 24 rfl dX11_undo_22 zb_60 ?_
    refine zm_icmp_ge 53 27 (by decide) rfl dX11_undo_24 ?_ ?_
    · exact zm_loc [] rfl (zm_go (hf21b _) (zm_unb (hx53_21 L21)))
    · refine zm_aload_n 28 rfl dX11_undo_27 rfl 0 rfl ?_
      refine zm_getR (a := 91) 31 rfl dX11_undo_28 fl_X11_134 rfl (zm_L (sv := sv) rfl) rfl (by decide) ?_
      refine zm_iload_n 32 rfl dX11_undo_31 rfl 1 rfl ?_
      refine zm_aload_n 33 rfl dX11_undo_32 rfl 0 rfl ?_
      refine zm_getR (a := 93) 36 rfl dX11_undo_33 fl_X11_140 rfl (zm_L (sv := sv) rfl) rfl (by decide) ?_
      refine zm_bipush 38 rfl dX11_undo_36 zb_60 ?_
      refine zm_aload_n 39 rfl dX11_undo_38 rfl 0 rfl ?_
      refine zm_getI 42 rfl dX11_undo_39 fl_X11_269 rfl (zm_L (sv := sv) rfl) ?_
      refine zm_imul 43 rfl dX11_undo_42 ?_
      refine zm_iload_n 44 rfl dX11_undo_43 rfl 1 rfl ?_
      refine zm_iadd 45 rfl dX11_undo_44 ?_
      refine zm_iald 46 rfl dX11_undo_45 rfl (zm_L (sv := sv) rfl) ?_
      refine zm_iast 47 rfl dX11_undo_46 rfl (zm_L (sv := sv) rfl) (fun M46 _ => ?_)
      refine zm_iinc (lv' := fun z => [(1, .int z), (0, .ref (E.2.1 + 52))]) 50 rfl dX11_undo_47 zi_1 1 rfl (by decide) (fun _ => rfl) (fun x47 _ => ?_)
      refine zm_goto 21 (by decide) dX11_undo_50 ?_
      exact zm_loc [1, 0] rfl (zm_go (hf21a _) (hD21 (x47, M46)))
abbrev Y_X11_well : zm_Y := (cX11_well, 1, RX11, { frames := 6, cells := 0, slots := 0, locals := 139 }, (some .boolean), false, "well")
noncomputable def f_X11_well  (M : zm_Mem) : Option (Int32 × zm_Mem) :=
  zm_b2 (f_X11_copies M) <| fun _ M1 => zm_b2 (f_X11_isWell M1) <| fun r5 M5 => zm_ck (decide (r5 &&& 1 = r5) && fits .boolean (.int r5)) <| some (r5, M5)
set_option maxRecDepth 20000 in
set_option maxHeartbeats 4000000 in
theorem k_X11_well (E : zm_E) (sv : Nat)  (M : zm_Mem) {r : Int32} {M' : zm_Mem} (h : f_X11_well M = some (r, M')) : zm_Ct E (zm_w sv) (zm_w sv) yX11_well Y_X11_well [.ref (E.2.1 + 52)] M (some (.int r)) M' := by
  refine zm_meth (emb := zm_ei) (d := f_X11_well M) (by decide) rfl rfl (Nat.le_of_ble_eq_true rfl) h (fun X => ?_)
  show zm_V X Y_X11_well E (zm_Q X E Y_X11_well.2.2.2.1.cells Y_X11_well.2.2.2.1.slots (zm_w sv) zm_ei) 0 0 false (zm_w sv) 0 [(0, .ref (E.2.1 + 52))] [] M (f_X11_well M) some
  unfold f_X11_well
  refine zm_aload_n 1 rfl dX11_well_0 rfl 0 rfl ?_
  refine zm_cV0v 4 rfl dX11_well_1 ml_X11_388 rfl (zm_L (sv := sv) rfl) rfl (Nat.le_of_ble_eq_true rfl) ⟨Nat.le_of_ble_eq_true rfl, Nat.le_of_ble_eq_true rfl⟩ rfl rfl ⟨Nat.le_refl _, Nat.le_refl _⟩ rfl (fun _ _ h => k_X11_copies E sv M h) (fun _ M1 => ?_)
  refine zm_aload_n 5 rfl dX11_well_4 rfl 0 rfl ?_
  refine zm_cV0i 8 rfl dX11_well_5 ml_X11_420 rfl (zm_L (sv := sv) rfl) rfl (Nat.le_of_ble_eq_true rfl) ⟨Nat.le_of_ble_eq_true rfl, Nat.le_of_ble_eq_true rfl⟩ rfl rfl ⟨Nat.le_refl _, Nat.le_refl _⟩ rfl (fun _ _ h => k_X11_isWell E sv M1 h) (fun r5 M5 => ?_)
  refine zm_gd (fun hg8 => ?_)
  exact zm_zret dX11_well_8 rfl (zm_bl1 hg8) (Nat.le_refl _) (Nat.le_refl _) rfl
abbrev Y_X11_bad : zm_Y := (cX11_bad, 2, RX11, { frames := 6, cells := 0, slots := 0, locals := 139 }, (some .int), false, "bad")
noncomputable def f_X11_bad_l6 (l6_1 : Int32) (L6 : zm_Mem) : Option ((Int32 × zm_Mem) ⊕ ((Int32 × zm_Mem) ⊕ zm_Mem)) :=
 if (200 : Int32) < l6_1 then (some (.inr (.inr L6))) else (zm_b2 (f_X11_isWell L6) <| fun r14 M14 => if r14 = 0 then (some (.inr (.inl (l6_1, M14)))) else (zm_ck (zm_in 30 60) <| zm_ck (zm_in 30 60) <| zm_v (zm_sI M14 92 (30 : Int32).toNatClampNeg ((M14.1 92 (30 : Int32).toNatClampNeg) + 1)) <| fun M32 => zm_b2 (f_X11_arrives M32) <| fun _ M34 => zm_v (l6_1 + 1) <| fun x37 => some (.inl (x37, M34))))
noncomputable def f_X11_bad  (M : zm_Mem) : Option (Int32 × zm_Mem) :=
  zm_b2 (f_X11_copies M) <| fun _ M1 => (zm_lp (fun s => f_X11_bad_l6 s.1 s.2) (0, M1)).bind (Sum.elim (fun e20 => some (e20.1, e20.2)) (fun e43 => some ((-2), e43)))
set_option maxRecDepth 20000 in
set_option maxHeartbeats 4000000 in
theorem k_X11_bad (E : zm_E) (sv : Nat)  (M : zm_Mem) {r : Int32} {M' : zm_Mem} (h : f_X11_bad M = some (r, M')) : zm_Ct E (zm_w sv) (zm_w sv) yX11_bad Y_X11_bad [.ref (E.2.1 + 52)] M (some (.int r)) M' := by
  refine zm_meth (emb := zm_ei) (d := f_X11_bad M) (by decide) rfl rfl (Nat.le_of_ble_eq_true rfl) h (fun X => ?_)
  show zm_V X Y_X11_bad E (zm_Q X E Y_X11_bad.2.2.2.1.cells Y_X11_bad.2.2.2.1.slots (zm_w sv) zm_ei) 0 0 false (zm_w sv) 0 [(0, .ref (E.2.1 + 52))] [] M (f_X11_bad M) some
  unfold f_X11_bad
  refine zm_aload_n 1 rfl dX11_bad_0 rfl 0 rfl ?_
  refine zm_cV0v 4 rfl dX11_bad_1 ml_X11_388 rfl (zm_L (sv := sv) rfl) rfl (Nat.le_of_ble_eq_true rfl) ⟨Nat.le_of_ble_eq_true rfl, Nat.le_of_ble_eq_true rfl⟩ rfl rfl ⟨Nat.le_refl _, Nat.le_refl _⟩ rfl (fun _ _ h => k_X11_copies E sv M h) (fun _ M1 => ?_)
  refine zm_iconst 5 rfl dX11_bad_4 zi_0 ?_
  refine zm_istore_n (lv' := [(1, .int 0), (0, .ref (E.2.1 + 52))]) 6 rfl dX11_bad_5 rfl (by decide) rfl ?_
  have hx20_6 : ∀ (e20_1 : Int32) (N20 : zm_Mem), zm_V X Y_X11_bad E (zm_Q X E Y_X11_bad.2.2.2.1.cells Y_X11_bad.2.2.2.1.slots (zm_w sv) zm_ei) 0 0 false (zm_w sv) 20 [(1, .int e20_1)] [] N20 (some (e20_1, N20)) some := by
    intro e20_1 N20
    refine zm_iload_n 21 rfl dX11_bad_20 rfl 0 rfl ?_
    exact zm_iret dX11_bad_21 rfl (Nat.le_refl _) (Nat.le_refl _) rfl
  have hx43_6 : ∀ (N43 : zm_Mem), zm_V X Y_X11_bad E (zm_Q X E Y_X11_bad.2.2.2.1.cells Y_X11_bad.2.2.2.1.slots (zm_w sv) zm_ei) 0 0 false (zm_w sv) 43 [] [] N43 (some ((-2), N43)) some := by
    intro N43
    refine zm_bipush 45 rfl dX11_bad_43 zb_m2 ?_
    exact zm_iret dX11_bad_45 rfl (Nat.le_refl _) (Nat.le_refl _) rfl
  refine zm_loc [1, 0] rfl (zm_lpp (σ := (Int32 × zm_Mem)) (ε := ((Int32 × zm_Mem) ⊕ zm_Mem)) (step := fun s => f_X11_bad_l6 s.1 s.2) (fun s => [(0, .ref (E.2.1 + 52)), (1, .int s.1)]) (fun s => s.2) (fun D6 f6 hf6a hf6b hD6 s => ?_) (0, M1))
  obtain ⟨l6_1, L6⟩ := s
  show zm_V X Y_X11_bad E (zm_Q X E Y_X11_bad.2.2.2.1.cells Y_X11_bad.2.2.2.1.slots (zm_w sv) zm_ei) 0 0 false (zm_w sv) 6 [(0, .ref (E.2.1 + 52)), (1, .int l6_1)] [] L6 (f_X11_bad_l6 l6_1 L6) f6
  unfold f_X11_bad_l6
  refine zm_iload_n 7 rfl dX11_bad_6 rfl 1 rfl ?_
  refine zm_sipush 10 rfl dX11_bad_7 zs_200 ?_
  refine zm_icmp_gt 43 13 (by decide) rfl dX11_bad_10 ?_ ?_
  · exact zm_loc [] rfl (zm_go (hf6b _) (zm_unb (hx43_6 L6)))
  · refine zm_aload_n 14 rfl dX11_bad_13 rfl 0 rfl ?_
    refine zm_cV0i 17 rfl dX11_bad_14 ml_X11_420 rfl (zm_L (sv := sv) rfl) rfl (Nat.le_of_ble_eq_true rfl) ⟨Nat.le_of_ble_eq_true rfl, Nat.le_of_ble_eq_true rfl⟩ rfl rfl ⟨Nat.le_refl _, Nat.le_refl _⟩ rfl (fun _ _ h => k_X11_isWell E sv L6 h) (fun r14 M14 => ?_)
    refine zm_if_ne 22 20 (by decide) rfl dX11_bad_17 ?_ ?_
    · exact zm_loc [1] rfl (zm_go (hf6b _) (zm_unb (hx20_6 l6_1 M14)))
    · refine zm_aload_n 23 rfl dX11_bad_22 rfl 0 rfl ?_
      refine zm_getR (a := 92) 26 rfl dX11_bad_23 fl_X11_137 rfl (zm_L (sv := sv) rfl) rfl (by decide) ?_
      refine zm_bipush 28 rfl dX11_bad_26 zb_30 ?_
      refine zm_dup2 29 rfl dX11_bad_28 rfl rfl ?_
      refine zm_iald 30 rfl dX11_bad_29 rfl (zm_L (sv := sv) rfl) ?_
      refine zm_iconst 31 rfl dX11_bad_30 zi_1 ?_
      refine zm_iadd 32 rfl dX11_bad_31 ?_
      refine zm_iast 33 rfl dX11_bad_32 rfl (zm_L (sv := sv) rfl) (fun M32 _ => ?_)
      refine zm_aload_n 34 rfl dX11_bad_33 rfl 0 rfl ?_
      refine zm_cV0v 37 rfl dX11_bad_34 ml_X11_417 rfl (zm_L (sv := sv) rfl) rfl (Nat.le_of_ble_eq_true rfl) ⟨Nat.le_of_ble_eq_true rfl, Nat.le_of_ble_eq_true rfl⟩ rfl rfl ⟨Nat.le_refl _, Nat.le_refl _⟩ rfl (fun _ _ h => k_X11_arrives E sv M32 h) (fun _ M34 => ?_)
      refine zm_iinc (lv' := fun z => [(1, .int z), (0, .ref (E.2.1 + 52))]) 40 rfl dX11_bad_37 zi_1 1 rfl (by decide) (fun _ => rfl) (fun x37 _ => ?_)
      refine zm_goto 6 (by decide) dX11_bad_40 ?_
      exact zm_loc [1, 0] rfl (zm_go (hf6a _) (hD6 (x37, M34)))
abbrev Y_X11_fives : zm_Y := (cX11_fives, 3, RX11, { frames := 0, cells := 0, slots := 0, locals := 0 }, (some .int), false, "fives")
noncomputable def f_X11_fives_l4 (a0 : Int32) (l4_1 : Int32) (l4_2 : Int32) : Option ((Int32 × Int32) ⊕ Int32) :=
 if a0 ≤ l4_2 then (some (.inr l4_1)) else (zm_v (l4_1 * 5) <| fun x12 => zm_v (l4_2 + 1) <| fun x13 => some (.inl (x12, x13)))
noncomputable def f_X11_fives (a0 : Int32) (M : zm_Mem) : Option Int32 :=
  (zm_lp (fun s => f_X11_fives_l4 a0 s.1 s.2) (1, 0)).bind (fun e19 => some e19)
set_option maxRecDepth 20000 in
set_option maxHeartbeats 4000000 in
theorem k_X11_fives (E : zm_E) (w : zm_W) (a0 : Int32) (M : zm_Mem) {r : Int32} (h : f_X11_fives a0 M = some r) : zm_Ct E w w yX11_fives Y_X11_fives [.int a0] M (some (.int r)) M := by
  refine zm_methr (emb := zm_ei) (d := f_X11_fives a0 M) (by decide) rfl rfl (Nat.le_of_ble_eq_true rfl) h (fun X => ?_)
  show zm_V X Y_X11_fives E (zm_Q X E Y_X11_fives.2.2.2.1.cells Y_X11_fives.2.2.2.1.slots w zm_ei) 0 0 false w 0 [(0, .int a0)] [] M (f_X11_fives a0 M) (fun r => some (r, M))
  unfold f_X11_fives
  refine zm_iconst 1 rfl dX11_fives_0 zi_1 ?_
  refine zm_istore_n (lv' := [(1, .int 1), (0, .int a0)]) 2 rfl dX11_fives_1 rfl (by decide) rfl ?_
  refine zm_iconst 3 rfl dX11_fives_2 zi_0 ?_
  refine zm_istore_n (lv' := [(2, .int 0), (1, .int 1), (0, .int a0)]) 4 rfl dX11_fives_3 rfl (by decide) rfl ?_
  have hx19_4 : ∀ (e19_1 : Int32), zm_V X Y_X11_fives E (zm_Q X E Y_X11_fives.2.2.2.1.cells Y_X11_fives.2.2.2.1.slots w zm_ei) 0 0 false w 19 [(1, .int e19_1)] [] M (some e19_1) (fun r => some (r, M)) := by
    intro e19_1
    refine zm_iload_n 20 rfl dX11_fives_19 rfl 0 rfl ?_
    exact zm_iret dX11_fives_20 rfl (Nat.le_refl _) (Nat.le_refl _) rfl
  refine zm_loc [2, 1, 0] rfl (zm_lpp (σ := (Int32 × Int32)) (ε := Int32) (step := fun s => f_X11_fives_l4 a0 s.1 s.2) (fun s => [(0, .int a0), (1, .int s.1), (2, .int s.2)]) (fun _ => M) (fun D4 f4 hf4a hf4b hD4 s => ?_) (1, 0))
  obtain ⟨l4_1, l4_2⟩ := s
  show zm_V X Y_X11_fives E (zm_Q X E Y_X11_fives.2.2.2.1.cells Y_X11_fives.2.2.2.1.slots w zm_ei) 0 0 false w 4 [(0, .int a0), (1, .int l4_1), (2, .int l4_2)] [] M (f_X11_fives_l4 a0 l4_1 l4_2) f4
  unfold f_X11_fives_l4
  refine zm_iload_n 5 rfl dX11_fives_4 rfl 2 rfl ?_
  refine zm_iload_n 6 rfl dX11_fives_5 rfl 0 rfl ?_
  refine zm_icmp_ge 19 9 (by decide) rfl dX11_fives_6 ?_ ?_
  · exact zm_loc [1] rfl (zm_go (hf4b _) (zm_unb (hx19_4 l4_1)))
  · refine zm_iload_n 10 rfl dX11_fives_9 rfl 1 rfl ?_
    refine zm_iconst 11 rfl dX11_fives_10 zi_5 ?_
    refine zm_imul 12 rfl dX11_fives_11 ?_
    refine zm_nmi (fun x12 _ => ?_)
    refine zm_istore_n (lv' := [(1, .int x12), (0, .int a0), (2, .int l4_2)]) 13 rfl dX11_fives_12 rfl (by decide) rfl ?_
    refine zm_iinc (lv' := fun z => [(2, .int z), (1, .int x12), (0, .int a0)]) 16 rfl dX11_fives_13 zi_1 2 rfl (by decide) (fun _ => rfl) (fun x13 _ => ?_)
    refine zm_goto 4 (by decide) dX11_fives_16 ?_
    exact zm_loc [2, 1, 0] rfl (zm_go (hf4a _) (hD4 (x12, x13)))
abbrev Y_X11_houseIn : zm_Y := (cX11_houseIn, 3, RX11, { frames := 1, cells := 0, slots := 0, locals := 22 }, (some .int), false, "houseIn")
noncomputable def f_X11_houseIn (a1 : Int32) (a2 : Int32) (M : zm_Mem) : Option Int32 :=
  zm_ck (zm_in (M.1 52 18) 2) <| zm_b1 (f_X11_fives (((M.1 66 (M.1 52 18).toNatClampNeg) - 1) - a2) M) <| fun r14 => zm_ck (!decide (r14 = 0)) <| zm_ck (!decide ((5 : Int32) = 0)) <| some ((a1 / r14) - (a1 / r14) / 5 * 5)
set_option maxRecDepth 20000 in
set_option maxHeartbeats 4000000 in
theorem k_X11_houseIn (E : zm_E) (sv : Nat) (a1 : Int32) (a2 : Int32) (M : zm_Mem) {r : Int32} (h : f_X11_houseIn a1 a2 M = some r) : zm_Ct E (zm_w sv) (zm_w sv) yX11_houseIn Y_X11_houseIn [.ref (E.2.1 + 52), .int a1, .int a2] M (some (.int r)) M := by
  refine zm_methr (emb := zm_ei) (d := f_X11_houseIn a1 a2 M) (by decide) rfl rfl (Nat.le_of_ble_eq_true rfl) h (fun X => ?_)
  show zm_V X Y_X11_houseIn E (zm_Q X E Y_X11_houseIn.2.2.2.1.cells Y_X11_houseIn.2.2.2.1.slots (zm_w sv) zm_ei) 0 0 false (zm_w sv) 0 [(0, .ref (E.2.1 + 52)), (1, .int a1), (2, .int a2)] [] M (f_X11_houseIn a1 a2 M) (fun r => some (r, M))
  unfold f_X11_houseIn
  refine zm_iload_n 1 rfl dX11_houseIn_0 rfl 1 rfl ?_
  refine zm_aload_n 2 rfl dX11_houseIn_1 rfl 0 rfl ?_
  refine zm_getR (a := 66) 5 rfl dX11_houseIn_2 fl_X11_58 rfl (zm_L (sv := sv) rfl) rfl (by decide) ?_
  refine zm_aload_n 6 rfl dX11_houseIn_5 rfl 0 rfl ?_
  refine zm_getI 9 rfl dX11_houseIn_6 fl_X11_251 rfl (zm_L (sv := sv) rfl) ?_
  refine zm_iald 10 rfl dX11_houseIn_9 rfl (zm_L (sv := sv) rfl) ?_
  refine zm_iconst 11 rfl dX11_houseIn_10 zi_1 ?_
  refine zm_isub 12 rfl dX11_houseIn_11 ?_
  refine zm_iload_n 13 rfl dX11_houseIn_12 rfl 2 rfl ?_
  refine zm_isub 14 rfl dX11_houseIn_13 ?_
  refine zm_cS1ir 17 rfl dX11_houseIn_14 ml_X11_423 (Nat.le_of_ble_eq_true rfl) ⟨Nat.le_of_ble_eq_true rfl, Nat.le_of_ble_eq_true rfl⟩ rfl rfl ⟨Nat.le_refl _, Nat.le_refl _⟩ rfl (fun _ h => k_X11_fives E (zm_w sv) (((M.1 66 (M.1 52 18).toNatClampNeg) - 1) - a2) M h) (fun r14 => ?_)
  refine zm_idiv 18 rfl dX11_houseIn_17 ?_
  refine zm_iconst 19 rfl dX11_houseIn_18 zi_5 ?_
  refine zm_irem 20 rfl dX11_houseIn_19 ?_
  exact zm_iret dX11_houseIn_20 rfl (Nat.le_refl _) (Nat.le_refl _) rfl
abbrev Y_X11_hangs : zm_Y := (cX11_hangs, 3, RX11, { frames := 2, cells := 0, slots := 0, locals := 46 }, (some .boolean), false, "hangs")
noncomputable def f_X11_hangs_l35 (N33 : zm_Mem) (l35_2 : Int32) : Option (Int32 ⊕ (Unit ⊕ Unit)) :=
 zm_ck (zm_in (N33.1 52 18) 2) <| if (N33.1 66 (N33.1 52 18).toNatClampNeg) ≤ l35_2 then (some (.inr (.inr ()))) else (zm_ck (zm_in l35_2 60) <| zm_b1 (f_X11_isHouse (N33.1 92 l35_2.toNatClampNeg) N33) <| fun r55 => if r55 = 0 then (some (.inr (.inl ()))) else (zm_ck (zm_in l35_2 60) <| zm_b1 (f_X11_hasRoom l35_2 (N33.1 92 l35_2.toNatClampNeg) N33) <| fun r69 => if r69 = 0 then (some (.inr (.inl ()))) else (zm_v (l35_2 + 1) <| fun x77 => some (.inl x77))))
noncomputable def f_X11_hangs_x33_2 (N33 : zm_Mem) : Option (Int32 × zm_Mem) :=
 (zm_lp (f_X11_hangs_l35 N33) 0).bind (Sum.elim (fun _ => some (0, N33)) (fun _ => some (1, N33)))
noncomputable def f_X11_hangs_l2 (a1 : Int32) (l2_2 : Int32) (L2 : zm_Mem) : Option ((Int32 × zm_Mem) ⊕ zm_Mem) :=
 zm_ck (zm_in (L2.1 52 18) 2) <| if (L2.1 66 (L2.1 52 18).toNatClampNeg) ≤ l2_2 then (some (.inr L2)) else (zm_b1 (f_X11_houseIn a1 l2_2 L2) <| fun r23 => zm_ck (zm_in l2_2 60) <| zm_v (zm_sI L2 92 l2_2.toNatClampNeg r23) <| fun M26 => zm_v (l2_2 + 1) <| fun x27 => some (.inl (x27, M26)))
noncomputable def f_X11_hangs (a1 : Int32) (M : zm_Mem) : Option (Int32 × zm_Mem) :=
  (zm_lp (fun s => f_X11_hangs_l2 a1 s.1 s.2) (0, M)).bind (fun e33 => f_X11_hangs_x33_2 e33)
set_option maxRecDepth 20000 in
set_option maxHeartbeats 4000000 in
theorem k_X11_hangs (E : zm_E) (sv : Nat) (a1 : Int32) (M : zm_Mem) {r : Int32} {M' : zm_Mem} (h : f_X11_hangs a1 M = some (r, M')) : zm_Ct E (zm_w sv) (zm_w sv) yX11_hangs Y_X11_hangs [.ref (E.2.1 + 52), .int a1] M (some (.int r)) M' := by
  refine zm_meth (emb := zm_ei) (d := f_X11_hangs a1 M) (by decide) rfl rfl (Nat.le_of_ble_eq_true rfl) h (fun X => ?_)
  show zm_V X Y_X11_hangs E (zm_Q X E Y_X11_hangs.2.2.2.1.cells Y_X11_hangs.2.2.2.1.slots (zm_w sv) zm_ei) 0 0 false (zm_w sv) 0 [(0, .ref (E.2.1 + 52)), (1, .int a1)] [] M (f_X11_hangs a1 M) some
  unfold f_X11_hangs
  refine zm_iconst 1 rfl dX11_hangs_0 zi_0 ?_
  refine zm_istore_n (lv' := [(2, .int 0), (0, .ref (E.2.1 + 52)), (1, .int a1)]) 2 rfl dX11_hangs_1 rfl (by decide) rfl ?_
  have hx33_2 : ∀ (N33 : zm_Mem), zm_V X Y_X11_hangs E (zm_Q X E Y_X11_hangs.2.2.2.1.cells Y_X11_hangs.2.2.2.1.slots (zm_w sv) zm_ei) 0 0 false (zm_w sv) 33 [(0, .ref (E.2.1 + 52))] [] N33 (f_X11_hangs_x33_2 N33) some := by
    intro N33
    unfold f_X11_hangs_x33_2
    refine zm_iconst 34 rfl dX11_hangs_33 zi_0 ?_
    refine zm_istore_n (lv' := [(2, .int 0), (0, .ref (E.2.1 + 52))]) 35 rfl dX11_hangs_34 rfl (by decide) rfl ?_
    have hx75_35 : zm_V X Y_X11_hangs E (zm_Q X E Y_X11_hangs.2.2.2.1.cells Y_X11_hangs.2.2.2.1.slots (zm_w sv) zm_ei) 0 0 false (zm_w sv) 75 [] [] N33 (some (0, N33)) some := by
      refine zm_iconst 76 rfl dX11_hangs_75 zi_0 ?_
      exact zm_zret dX11_hangs_76 rfl rfl (Nat.le_refl _) (Nat.le_refl _) rfl
    have hx83_35 : zm_V X Y_X11_hangs E (zm_Q X E Y_X11_hangs.2.2.2.1.cells Y_X11_hangs.2.2.2.1.slots (zm_w sv) zm_ei) 0 0 false (zm_w sv) 83 [] [] N33 (some (1, N33)) some := by
      refine zm_iconst 84 rfl dX11_hangs_83 zi_1 ?_
      exact zm_zret dX11_hangs_84 rfl rfl (Nat.le_refl _) (Nat.le_refl _) rfl
    refine zm_loc [1, 0] rfl (zm_lpp (σ := Int32) (ε := (Unit ⊕ Unit)) (step := f_X11_hangs_l35 N33) (fun s => [(0, .ref (E.2.1 + 52)), (2, .int s)]) (fun _ => N33) (fun D35 f35 hf35a hf35b hD35 s => ?_) 0)
    obtain ⟨l35_2, hq35⟩ : ∃ q, q = s := ⟨_, rfl⟩
    rw [← hq35]
    show zm_V X Y_X11_hangs E (zm_Q X E Y_X11_hangs.2.2.2.1.cells Y_X11_hangs.2.2.2.1.slots (zm_w sv) zm_ei) 0 0 false (zm_w sv) 35 [(0, .ref (E.2.1 + 52)), (2, .int l35_2)] [] N33 (f_X11_hangs_l35 N33 l35_2) f35
    unfold f_X11_hangs_l35
    refine zm_iload_n 36 rfl dX11_hangs_35 rfl 1 rfl ?_
    refine zm_aload_n 37 rfl dX11_hangs_36 rfl 0 rfl ?_
    refine zm_getR (a := 66) 40 rfl dX11_hangs_37 fl_X11_58 rfl (zm_L (sv := sv) rfl) rfl (by decide) ?_
    refine zm_aload_n 41 rfl dX11_hangs_40 rfl 0 rfl ?_
    refine zm_getI 44 rfl dX11_hangs_41 fl_X11_251 rfl (zm_L (sv := sv) rfl) ?_
    refine zm_iald 45 rfl dX11_hangs_44 rfl (zm_L (sv := sv) rfl) ?_
    refine zm_icmp_ge 83 48 (by decide) rfl dX11_hangs_45 ?_ ?_
    · exact zm_loc [] rfl (zm_go (hf35b _) (zm_unb (hx83_35)))
    · refine zm_aload_n 49 rfl dX11_hangs_48 rfl 0 rfl ?_
      refine zm_aload_n 50 rfl dX11_hangs_49 rfl 0 rfl ?_
      refine zm_getR (a := 92) 53 rfl dX11_hangs_50 fl_X11_137 rfl (zm_L (sv := sv) rfl) rfl (by decide) ?_
      refine zm_iload_n 54 rfl dX11_hangs_53 rfl 1 rfl ?_
      refine zm_iald 55 rfl dX11_hangs_54 rfl (zm_L (sv := sv) rfl) ?_
      refine zm_cV1ir 58 rfl dX11_hangs_55 ml_X11_385 rfl (zm_L (sv := sv) rfl) rfl (Nat.le_of_ble_eq_true rfl) ⟨Nat.le_of_ble_eq_true rfl, Nat.le_of_ble_eq_true rfl⟩ rfl rfl ⟨Nat.le_refl _, Nat.le_refl _⟩ rfl (fun _ h => k_X11_isHouse E sv (N33.1 92 l35_2.toNatClampNeg) N33 h) (fun r55 => ?_)
      refine zm_if_eq 75 61 (by decide) rfl dX11_hangs_58 ?_ ?_
      · exact zm_loc [] rfl (zm_go (hf35b _) (zm_unb (hx75_35)))
      · refine zm_aload_n 62 rfl dX11_hangs_61 rfl 0 rfl ?_
        refine zm_iload_n 63 rfl dX11_hangs_62 rfl 1 rfl ?_
        refine zm_aload_n 64 rfl dX11_hangs_63 rfl 0 rfl ?_
        refine zm_getR (a := 92) 67 rfl dX11_hangs_64 fl_X11_137 rfl (zm_L (sv := sv) rfl) rfl (by decide) ?_
        refine zm_iload_n 68 rfl dX11_hangs_67 rfl 1 rfl ?_
        refine zm_iald 69 rfl dX11_hangs_68 rfl (zm_L (sv := sv) rfl) ?_
        refine zm_cV2ir 72 rfl dX11_hangs_69 ml_X11_365 rfl (zm_L (sv := sv) rfl) rfl (Nat.le_of_ble_eq_true rfl) ⟨Nat.le_of_ble_eq_true rfl, Nat.le_of_ble_eq_true rfl⟩ rfl rfl ⟨Nat.le_refl _, Nat.le_refl _⟩ rfl (fun _ h => k_X11_hasRoom E sv l35_2 (N33.1 92 l35_2.toNatClampNeg) N33 h) (fun r69 => ?_)
        refine zm_if_ne 77 75 (by decide) rfl dX11_hangs_72 ?_ ?_
        · exact zm_loc [] rfl (zm_go (hf35b _) (zm_unb (hx75_35)))
        · refine zm_iinc (lv' := fun z => [(2, .int z), (0, .ref (E.2.1 + 52))]) 80 rfl dX11_hangs_77 zi_1 1 rfl (by decide) (fun _ => rfl) (fun x77 _ => ?_)
          refine zm_goto 35 (by decide) dX11_hangs_80 ?_
          exact zm_loc [1, 0] rfl (zm_go (hf35a _) (hD35 x77))
  refine zm_loc [1, 2, 0] rfl (zm_lpp (σ := (Int32 × zm_Mem)) (ε := zm_Mem) (step := fun s => f_X11_hangs_l2 a1 s.1 s.2) (fun s => [(0, .ref (E.2.1 + 52)), (1, .int a1), (2, .int s.1)]) (fun s => s.2) (fun D2 f2 hf2a hf2b hD2 s => ?_) (0, M))
  obtain ⟨l2_2, L2⟩ := s
  show zm_V X Y_X11_hangs E (zm_Q X E Y_X11_hangs.2.2.2.1.cells Y_X11_hangs.2.2.2.1.slots (zm_w sv) zm_ei) 0 0 false (zm_w sv) 2 [(0, .ref (E.2.1 + 52)), (1, .int a1), (2, .int l2_2)] [] L2 (f_X11_hangs_l2 a1 l2_2 L2) f2
  unfold f_X11_hangs_l2
  refine zm_iload_n 3 rfl dX11_hangs_2 rfl 2 rfl ?_
  refine zm_aload_n 4 rfl dX11_hangs_3 rfl 0 rfl ?_
  refine zm_getR (a := 66) 7 rfl dX11_hangs_4 fl_X11_58 rfl (zm_L (sv := sv) rfl) rfl (by decide) ?_
  refine zm_aload_n 8 rfl dX11_hangs_7 rfl 0 rfl ?_
  refine zm_getI 11 rfl dX11_hangs_8 fl_X11_251 rfl (zm_L (sv := sv) rfl) ?_
  refine zm_iald 12 rfl dX11_hangs_11 rfl (zm_L (sv := sv) rfl) ?_
  refine zm_icmp_ge 33 15 (by decide) rfl dX11_hangs_12 ?_ ?_
  · exact zm_loc [0] rfl (zm_go (hf2b _) (zm_unb (hx33_2 L2)))
  · refine zm_aload_n 16 rfl dX11_hangs_15 rfl 0 rfl ?_
    refine zm_getR (a := 92) 19 rfl dX11_hangs_16 fl_X11_137 rfl (zm_L (sv := sv) rfl) rfl (by decide) ?_
    refine zm_iload_n 20 rfl dX11_hangs_19 rfl 2 rfl ?_
    refine zm_aload_n 21 rfl dX11_hangs_20 rfl 0 rfl ?_
    refine zm_iload_n 22 rfl dX11_hangs_21 rfl 1 rfl ?_
    refine zm_iload_n 23 rfl dX11_hangs_22 rfl 2 rfl ?_
    refine zm_cV2ir 26 rfl dX11_hangs_23 ml_X11_426 rfl (zm_L (sv := sv) rfl) rfl (Nat.le_of_ble_eq_true rfl) ⟨Nat.le_of_ble_eq_true rfl, Nat.le_of_ble_eq_true rfl⟩ rfl rfl ⟨Nat.le_refl _, Nat.le_refl _⟩ rfl (fun _ h => k_X11_houseIn E sv a1 l2_2 L2 h) (fun r23 => ?_)
    refine zm_iast 27 rfl dX11_hangs_26 rfl (zm_L (sv := sv) rfl) (fun M26 _ => ?_)
    refine zm_iinc (lv' := fun z => [(2, .int z), (0, .ref (E.2.1 + 52)), (1, .int a1)]) 30 rfl dX11_hangs_27 zi_1 2 rfl (by decide) (fun _ => rfl) (fun x27 _ => ?_)
    refine zm_goto 2 (by decide) dX11_hangs_30 ?_
    exact zm_loc [1, 2, 0] rfl (zm_go (hf2a _) (hD2 (x27, M26)))
abbrev Y_X11_brokenAll : zm_Y := (cX11_brokenAll, 3, RX11, { frames := 4, cells := 0, slots := 0, locals := 96 }, (some .int), false, "brokenAll")
noncomputable def f_X11_brokenAll_l4 (l4_1 : Int32) (l4_2 : Int32) (L4 : zm_Mem) : Option ((Int32 × Int32 × zm_Mem) ⊕ (Int32 × zm_Mem)) :=
 zm_ck (zm_in (L4.1 52 18) 2) <| if (L4.1 66 (L4.1 52 18).toNatClampNeg) ≤ l4_2 then (some (.inr (l4_1, L4))) else (zm_ck (zm_in l4_2 60) <| zm_b2 (f_X11_brokenIn l4_2 (L4.1 92 l4_2.toNatClampNeg) L4) <| fun r26 M26 => zm_v (l4_1 ||| r26) <| fun x30 => zm_v (l4_2 + 1) <| fun x31 => some (.inl (x30, x31, M26)))
noncomputable def f_X11_brokenAll  (M : zm_Mem) : Option (Int32 × zm_Mem) :=
  (zm_lp (fun s => f_X11_brokenAll_l4 s.1 s.2.1 s.2.2) (0, 0, M)).bind (fun e37 => some (e37.1, e37.2))
set_option maxRecDepth 20000 in
set_option maxHeartbeats 4000000 in
theorem k_X11_brokenAll (E : zm_E) (sv : Nat)  (M : zm_Mem) {r : Int32} {M' : zm_Mem} (h : f_X11_brokenAll M = some (r, M')) : zm_Ct E (zm_w sv) (zm_w sv) yX11_brokenAll Y_X11_brokenAll [.ref (E.2.1 + 52)] M (some (.int r)) M' := by
  refine zm_meth (emb := zm_ei) (d := f_X11_brokenAll M) (by decide) rfl rfl (Nat.le_of_ble_eq_true rfl) h (fun X => ?_)
  show zm_V X Y_X11_brokenAll E (zm_Q X E Y_X11_brokenAll.2.2.2.1.cells Y_X11_brokenAll.2.2.2.1.slots (zm_w sv) zm_ei) 0 0 false (zm_w sv) 0 [(0, .ref (E.2.1 + 52))] [] M (f_X11_brokenAll M) some
  unfold f_X11_brokenAll
  refine zm_iconst 1 rfl dX11_brokenAll_0 zi_0 ?_
  refine zm_istore_n (lv' := [(1, .int 0), (0, .ref (E.2.1 + 52))]) 2 rfl dX11_brokenAll_1 rfl (by decide) rfl ?_
  refine zm_iconst 3 rfl dX11_brokenAll_2 zi_0 ?_
  refine zm_istore_n (lv' := [(2, .int 0), (1, .int 0), (0, .ref (E.2.1 + 52))]) 4 rfl dX11_brokenAll_3 rfl (by decide) rfl ?_
  have hx37_4 : ∀ (e37_1 : Int32) (N37 : zm_Mem), zm_V X Y_X11_brokenAll E (zm_Q X E Y_X11_brokenAll.2.2.2.1.cells Y_X11_brokenAll.2.2.2.1.slots (zm_w sv) zm_ei) 0 0 false (zm_w sv) 37 [(1, .int e37_1)] [] N37 (some (e37_1, N37)) some := by
    intro e37_1 N37
    refine zm_iload_n 38 rfl dX11_brokenAll_37 rfl 0 rfl ?_
    exact zm_iret dX11_brokenAll_38 rfl (Nat.le_refl _) (Nat.le_refl _) rfl
  refine zm_loc [2, 1, 0] rfl (zm_lpp (σ := (Int32 × Int32 × zm_Mem)) (ε := (Int32 × zm_Mem)) (step := fun s => f_X11_brokenAll_l4 s.1 s.2.1 s.2.2) (fun s => [(0, .ref (E.2.1 + 52)), (1, .int s.1), (2, .int s.2.1)]) (fun s => s.2.2) (fun D4 f4 hf4a hf4b hD4 s => ?_) (0, 0, M))
  obtain ⟨l4_1, l4_2, L4⟩ := s
  show zm_V X Y_X11_brokenAll E (zm_Q X E Y_X11_brokenAll.2.2.2.1.cells Y_X11_brokenAll.2.2.2.1.slots (zm_w sv) zm_ei) 0 0 false (zm_w sv) 4 [(0, .ref (E.2.1 + 52)), (1, .int l4_1), (2, .int l4_2)] [] L4 (f_X11_brokenAll_l4 l4_1 l4_2 L4) f4
  unfold f_X11_brokenAll_l4
  refine zm_iload_n 5 rfl dX11_brokenAll_4 rfl 2 rfl ?_
  refine zm_aload_n 6 rfl dX11_brokenAll_5 rfl 0 rfl ?_
  refine zm_getR (a := 66) 9 rfl dX11_brokenAll_6 fl_X11_58 rfl (zm_L (sv := sv) rfl) rfl (by decide) ?_
  refine zm_aload_n 10 rfl dX11_brokenAll_9 rfl 0 rfl ?_
  refine zm_getI 13 rfl dX11_brokenAll_10 fl_X11_251 rfl (zm_L (sv := sv) rfl) ?_
  refine zm_iald 14 rfl dX11_brokenAll_13 rfl (zm_L (sv := sv) rfl) ?_
  refine zm_icmp_ge 37 17 (by decide) rfl dX11_brokenAll_14 ?_ ?_
  · exact zm_loc [1] rfl (zm_go (hf4b _) (zm_unb (hx37_4 l4_1 L4)))
  · refine zm_iload_n 18 rfl dX11_brokenAll_17 rfl 1 rfl ?_
    refine zm_aload_n 19 rfl dX11_brokenAll_18 rfl 0 rfl ?_
    refine zm_iload_n 20 rfl dX11_brokenAll_19 rfl 2 rfl ?_
    refine zm_aload_n 21 rfl dX11_brokenAll_20 rfl 0 rfl ?_
    refine zm_getR (a := 92) 24 rfl dX11_brokenAll_21 fl_X11_137 rfl (zm_L (sv := sv) rfl) rfl (by decide) ?_
    refine zm_iload_n 25 rfl dX11_brokenAll_24 rfl 2 rfl ?_
    refine zm_iald 26 rfl dX11_brokenAll_25 rfl (zm_L (sv := sv) rfl) ?_
    refine zm_cV2i 29 rfl dX11_brokenAll_26 ml_X11_369 rfl (zm_L (sv := sv) rfl) rfl (Nat.le_of_ble_eq_true rfl) ⟨Nat.le_of_ble_eq_true rfl, Nat.le_of_ble_eq_true rfl⟩ rfl rfl ⟨Nat.le_refl _, Nat.le_refl _⟩ rfl (fun _ _ h => k_X11_brokenIn E sv l4_2 (L4.1 92 l4_2.toNatClampNeg) L4 h) (fun r26 M26 => ?_)
    refine zm_ior 30 rfl dX11_brokenAll_29 ?_
    refine zm_nmi (fun x30 _ => ?_)
    refine zm_istore_n (lv' := [(1, .int x30), (0, .ref (E.2.1 + 52)), (2, .int l4_2)]) 31 rfl dX11_brokenAll_30 rfl (by decide) rfl ?_
    refine zm_iinc (lv' := fun z => [(2, .int z), (1, .int x30), (0, .ref (E.2.1 + 52))]) 34 rfl dX11_brokenAll_31 zi_1 2 rfl (by decide) (fun _ => rfl) (fun x31 _ => ?_)
    refine zm_goto 4 (by decide) dX11_brokenAll_34 ?_
    exact zm_loc [2, 1, 0] rfl (zm_go (hf4a _) (hD4 (x30, x31, M26)))
abbrev Y_X11_isHanging : zm_Y := (cX11_isHanging, 2, RX11, { frames := 5, cells := 0, slots := 0, locals := 118 }, (some .boolean), false, "isHanging")
noncomputable def f_X11_isHanging_b24 (M24 : zm_Mem) : Option (Int32 × zm_Mem) :=
 some (0, M24)
noncomputable def f_X11_isHanging (a1 : Int32) (M : zm_Mem) : Option (Int32 × zm_Mem) :=
  zm_b2 (f_X11_hangs a1 M) <| fun r2 M2 => if r2 = 0 then (f_X11_isHanging_b24 M2) else (zm_b2 (f_X11_brokenAll M2) <| fun r9 M9 => zm_b1 (f_X11_standing M9) <| fun r13 => if (r9 &&& r13) = 0 then (some (1, M9)) else (f_X11_isHanging_b24 M9))
set_option maxRecDepth 20000 in
set_option maxHeartbeats 4000000 in
theorem k_X11_isHanging (E : zm_E) (sv : Nat) (a1 : Int32) (M : zm_Mem) {r : Int32} {M' : zm_Mem} (h : f_X11_isHanging a1 M = some (r, M')) : zm_Ct E (zm_w sv) (zm_w sv) yX11_isHanging Y_X11_isHanging [.ref (E.2.1 + 52), .int a1] M (some (.int r)) M' := by
  refine zm_meth (emb := zm_ei) (d := f_X11_isHanging a1 M) (by decide) rfl rfl (Nat.le_of_ble_eq_true rfl) h (fun X => ?_)
  show zm_V X Y_X11_isHanging E (zm_Q X E Y_X11_isHanging.2.2.2.1.cells Y_X11_isHanging.2.2.2.1.slots (zm_w sv) zm_ei) 0 0 false (zm_w sv) 0 [(0, .ref (E.2.1 + 52)), (1, .int a1)] [] M (f_X11_isHanging a1 M) some
  unfold f_X11_isHanging
  refine zm_aload_n 1 rfl dX11_isHanging_0 rfl 0 rfl ?_
  refine zm_iload_n 2 rfl dX11_isHanging_1 rfl 1 rfl ?_
  refine zm_cV1i 5 rfl dX11_isHanging_2 ml_X11_429 rfl (zm_L (sv := sv) rfl) rfl (Nat.le_of_ble_eq_true rfl) ⟨Nat.le_of_ble_eq_true rfl, Nat.le_of_ble_eq_true rfl⟩ rfl rfl ⟨Nat.le_refl _, Nat.le_refl _⟩ rfl (fun _ _ h => k_X11_hangs E sv a1 M h) (fun r2 M2 => ?_)
  have hb24 : ∀ (M24 : zm_Mem), zm_V X Y_X11_isHanging E (zm_Q X E Y_X11_isHanging.2.2.2.1.cells Y_X11_isHanging.2.2.2.1.slots (zm_w sv) zm_ei) 0 0 false (zm_w sv) 24 [] [] M24 (f_X11_isHanging_b24 M24) some := by
    intro M24
    unfold f_X11_isHanging_b24
    refine zm_iconst 25 rfl dX11_isHanging_24 zi_0 ?_
    exact zm_zret dX11_isHanging_25 rfl rfl (Nat.le_refl _) (Nat.le_refl _) rfl
  refine zm_if_eq 24 8 (by decide) rfl dX11_isHanging_5 ?_ ?_
  · exact zm_loc [] rfl (hb24 M2)
  · refine zm_aload_n 9 rfl dX11_isHanging_8 rfl 0 rfl ?_
    refine zm_cV0i 12 rfl dX11_isHanging_9 ml_X11_432 rfl (zm_L (sv := sv) rfl) rfl (Nat.le_of_ble_eq_true rfl) ⟨Nat.le_of_ble_eq_true rfl, Nat.le_of_ble_eq_true rfl⟩ rfl rfl ⟨Nat.le_refl _, Nat.le_refl _⟩ rfl (fun _ _ h => k_X11_brokenAll E sv M2 h) (fun r9 M9 => ?_)
    refine zm_aload_n 13 rfl dX11_isHanging_12 rfl 0 rfl ?_
    refine zm_cV0ir 16 rfl dX11_isHanging_13 ml_X11_372 rfl (zm_L (sv := sv) rfl) rfl (Nat.le_of_ble_eq_true rfl) ⟨Nat.le_of_ble_eq_true rfl, Nat.le_of_ble_eq_true rfl⟩ rfl rfl ⟨Nat.le_refl _, Nat.le_refl _⟩ rfl (fun _ h => k_X11_standing E sv M9 h) (fun r13 => ?_)
    refine zm_iand 17 rfl dX11_isHanging_16 ?_
    refine zm_if_ne 24 20 (by decide) rfl dX11_isHanging_17 ?_ ?_
    · refine zm_iconst 21 rfl dX11_isHanging_20 zi_1 ?_
      refine zm_goto 25 (by decide) dX11_isHanging_21 ?_
      exact zm_zret dX11_isHanging_25 rfl rfl (Nat.le_refl _) (Nat.le_refl _) rfl
    · exact zm_loc [] rfl (hb24 M9)
abbrev Y_X11_hangings : zm_Y := (cX11_hangings, 3, RX11, { frames := 6, cells := 0, slots := 0, locals := 139 }, (some .int), false, "hangings")
noncomputable def f_X11_hangings_b35_8 (l8_2 : Int32) (M26 : zm_Mem) (b35_1 : Int32) : Option ((Int32 × Int32 × zm_Mem) ⊕ (Int32 × zm_Mem)) :=
 zm_v (l8_2 + 1) <| fun x35 => some (.inl (b35_1, x35, M26))
noncomputable def f_X11_hangings_l8 (l8_1 : Int32) (l8_2 : Int32) (L8 : zm_Mem) : Option ((Int32 × Int32 × zm_Mem) ⊕ (Int32 × zm_Mem)) :=
 zm_ck (zm_in (L8.1 52 18) 2) <| zm_b1 (f_X11_fives (L8.1 66 (L8.1 52 18).toNatClampNeg) L8) <| fun r18 => if r18 ≤ l8_2 then (some (.inr (l8_1, L8))) else (zm_b2 (f_X11_isHanging l8_2 L8) <| fun r26 M26 => if r26 = 0 then (f_X11_hangings_b35_8 l8_2 M26 l8_1) else (zm_v (l8_1 + 1) <| fun x32 => f_X11_hangings_b35_8 l8_2 M26 x32))
noncomputable def f_X11_hangings  (M : zm_Mem) : Option (Int32 × zm_Mem) :=
  zm_b2 (f_X11_copies M) <| fun _ M1 => (zm_lp (fun s => f_X11_hangings_l8 s.1 s.2.1 s.2.2) (0, 0, M1)).bind (fun e41 => some (e41.1, e41.2))
set_option maxRecDepth 20000 in
set_option maxHeartbeats 4000000 in
theorem k_X11_hangings (E : zm_E) (sv : Nat)  (M : zm_Mem) {r : Int32} {M' : zm_Mem} (h : f_X11_hangings M = some (r, M')) : zm_Ct E (zm_w sv) (zm_w sv) yX11_hangings Y_X11_hangings [.ref (E.2.1 + 52)] M (some (.int r)) M' := by
  refine zm_meth (emb := zm_ei) (d := f_X11_hangings M) (by decide) rfl rfl (Nat.le_of_ble_eq_true rfl) h (fun X => ?_)
  show zm_V X Y_X11_hangings E (zm_Q X E Y_X11_hangings.2.2.2.1.cells Y_X11_hangings.2.2.2.1.slots (zm_w sv) zm_ei) 0 0 false (zm_w sv) 0 [(0, .ref (E.2.1 + 52))] [] M (f_X11_hangings M) some
  unfold f_X11_hangings
  refine zm_aload_n 1 rfl dX11_hangings_0 rfl 0 rfl ?_
  refine zm_cV0v 4 rfl dX11_hangings_1 ml_X11_388 rfl (zm_L (sv := sv) rfl) rfl (Nat.le_of_ble_eq_true rfl) ⟨Nat.le_of_ble_eq_true rfl, Nat.le_of_ble_eq_true rfl⟩ rfl rfl ⟨Nat.le_refl _, Nat.le_refl _⟩ rfl (fun _ _ h => k_X11_copies E sv M h) (fun _ M1 => ?_)
  refine zm_iconst 5 rfl dX11_hangings_4 zi_0 ?_
  refine zm_istore_n (lv' := [(1, .int 0), (0, .ref (E.2.1 + 52))]) 6 rfl dX11_hangings_5 rfl (by decide) rfl ?_
  refine zm_iconst 7 rfl dX11_hangings_6 zi_0 ?_
  refine zm_istore_n (lv' := [(2, .int 0), (1, .int 0), (0, .ref (E.2.1 + 52))]) 8 rfl dX11_hangings_7 rfl (by decide) rfl ?_
  have hx41_8 : ∀ (e41_1 : Int32) (N41 : zm_Mem), zm_V X Y_X11_hangings E (zm_Q X E Y_X11_hangings.2.2.2.1.cells Y_X11_hangings.2.2.2.1.slots (zm_w sv) zm_ei) 0 0 false (zm_w sv) 41 [(1, .int e41_1)] [] N41 (some (e41_1, N41)) some := by
    intro e41_1 N41
    refine zm_iload_n 42 rfl dX11_hangings_41 rfl 0 rfl ?_
    exact zm_iret dX11_hangings_42 rfl (Nat.le_refl _) (Nat.le_refl _) rfl
  refine zm_loc [2, 1, 0] rfl (zm_lpp (σ := (Int32 × Int32 × zm_Mem)) (ε := (Int32 × zm_Mem)) (step := fun s => f_X11_hangings_l8 s.1 s.2.1 s.2.2) (fun s => [(0, .ref (E.2.1 + 52)), (1, .int s.1), (2, .int s.2.1)]) (fun s => s.2.2) (fun D8 f8 hf8a hf8b hD8 s => ?_) (0, 0, M1))
  obtain ⟨l8_1, l8_2, L8⟩ := s
  show zm_V X Y_X11_hangings E (zm_Q X E Y_X11_hangings.2.2.2.1.cells Y_X11_hangings.2.2.2.1.slots (zm_w sv) zm_ei) 0 0 false (zm_w sv) 8 [(0, .ref (E.2.1 + 52)), (1, .int l8_1), (2, .int l8_2)] [] L8 (f_X11_hangings_l8 l8_1 l8_2 L8) f8
  unfold f_X11_hangings_l8
  refine zm_iload_n 9 rfl dX11_hangings_8 rfl 2 rfl ?_
  refine zm_aload_n 10 rfl dX11_hangings_9 rfl 0 rfl ?_
  refine zm_getR (a := 66) 13 rfl dX11_hangings_10 fl_X11_58 rfl (zm_L (sv := sv) rfl) rfl (by decide) ?_
  refine zm_aload_n 14 rfl dX11_hangings_13 rfl 0 rfl ?_
  refine zm_getI 17 rfl dX11_hangings_14 fl_X11_251 rfl (zm_L (sv := sv) rfl) ?_
  refine zm_iald 18 rfl dX11_hangings_17 rfl (zm_L (sv := sv) rfl) ?_
  refine zm_cS1ir 21 rfl dX11_hangings_18 ml_X11_423 (Nat.le_of_ble_eq_true rfl) ⟨Nat.le_of_ble_eq_true rfl, Nat.le_of_ble_eq_true rfl⟩ rfl rfl ⟨Nat.le_refl _, Nat.le_refl _⟩ rfl (fun _ h => k_X11_fives E (zm_w sv) (L8.1 66 (L8.1 52 18).toNatClampNeg) L8 h) (fun r18 => ?_)
  refine zm_icmp_ge 41 24 (by decide) rfl dX11_hangings_21 ?_ ?_
  · exact zm_loc [1] rfl (zm_go (hf8b _) (zm_unb (hx41_8 l8_1 L8)))
  · refine zm_aload_n 25 rfl dX11_hangings_24 rfl 0 rfl ?_
    refine zm_iload_n 26 rfl dX11_hangings_25 rfl 2 rfl ?_
    refine zm_cV1i 29 rfl dX11_hangings_26 ml_X11_435 rfl (zm_L (sv := sv) rfl) rfl (Nat.le_of_ble_eq_true rfl) ⟨Nat.le_of_ble_eq_true rfl, Nat.le_of_ble_eq_true rfl⟩ rfl rfl ⟨Nat.le_refl _, Nat.le_refl _⟩ rfl (fun _ _ h => k_X11_isHanging E sv l8_2 L8 h) (fun r26 M26 => ?_)
    have hb35_8 : ∀ (b35_1 : Int32), zm_V X Y_X11_hangings E (zm_Q X E Y_X11_hangings.2.2.2.1.cells Y_X11_hangings.2.2.2.1.slots (zm_w sv) zm_ei) 0 0 false (zm_w sv) 35 [(0, .ref (E.2.1 + 52)), (1, .int b35_1), (2, .int l8_2)] [] M26 (f_X11_hangings_b35_8 l8_2 M26 b35_1) f8 := by
      intro b35_1
      unfold f_X11_hangings_b35_8
      refine zm_iinc (lv' := fun z => [(2, .int z), (0, .ref (E.2.1 + 52)), (1, .int b35_1)]) 38 rfl dX11_hangings_35 zi_1 2 rfl (by decide) (fun _ => rfl) (fun x35 _ => ?_)
      refine zm_goto 8 (by decide) dX11_hangings_38 ?_
      exact zm_loc [1, 2, 0] rfl (zm_go (hf8a _) (hD8 (b35_1, x35, M26)))
    refine zm_if_eq 35 32 (by decide) rfl dX11_hangings_29 ?_ ?_
    · exact zm_loc [0, 1, 2] rfl (hb35_8 l8_1)
    · refine zm_iinc (lv' := fun z => [(1, .int z), (0, .ref (E.2.1 + 52)), (2, .int l8_2)]) 35 rfl dX11_hangings_32 zi_1 1 rfl (by decide) (fun _ => rfl) (fun x32 _ => ?_)
      exact zm_loc [1, 0, 2] rfl (hb35_8 x32)
abbrev Y_X11_nearest : zm_Y := (cX11_nearest, 7, RX11, { frames := 6, cells := 0, slots := 0, locals := 139 }, (some .int), false, "nearest")
noncomputable def f_X11_nearest_x124_26 (a1 : Int32) (e124_2 : Int32) (e124_3 : Int32) (N124 : zm_Mem) : Option (Int32 × zm_Mem) :=
 if 0 ≤ e124_2 then (if a1 = (-1 : Int32) then (some (e124_3, N124)) else (zm_b1 (f_X11_houseIn e124_2 a1 N124) <| fun r143 => some (r143, N124))) else (some ((-2), N124))
noncomputable def f_X11_nearest_b118_26 (l26_4 : Int32) (b118_2 : Int32) (b118_3 : Int32) (M118 : zm_Mem) : Option ((Int32 × Int32 × Int32 × zm_Mem) ⊕ (Int32 × Int32 × zm_Mem)) :=
 zm_v (l26_4 + 1) <| fun x118 => some (.inl (b118_2, b118_3, x118, M118))
noncomputable def f_X11_nearest_b100_26 (l26_2 : Int32) (l26_3 : Int32) (l26_4 : Int32) (L26 : zm_Mem) (e90_5 : Int32) : Option ((Int32 × Int32 × Int32 × zm_Mem) ⊕ (Int32 × Int32 × zm_Mem)) :=
 zm_b2 (f_X11_isHanging l26_4 L26) <| fun r103 M103 => if r103 = 0 then (f_X11_nearest_b118_26 l26_4 l26_2 l26_3 M103) else (f_X11_nearest_b118_26 l26_4 l26_4 e90_5 M103)
noncomputable def f_X11_nearest_x90_49_26 (l26_2 : Int32) (l26_3 : Int32) (l26_4 : Int32) (L26 : zm_Mem) (e90_5 : Int32) : Option ((Int32 × Int32 × Int32 × zm_Mem) ⊕ (Int32 × Int32 × zm_Mem)) :=
 if l26_2 < 0 then (f_X11_nearest_b100_26 l26_2 l26_3 l26_4 L26 e90_5) else (if l26_3 ≤ e90_5 then (f_X11_nearest_b118_26 l26_4 l26_2 l26_3 L26) else (f_X11_nearest_b100_26 l26_2 l26_3 l26_4 L26 e90_5))
noncomputable def f_X11_nearest_b84_49_26 (l49_6 : Int32) (b84_5 : Int32) : Option ((Int32 × Int32) ⊕ Int32) :=
 zm_v (l49_6 + 1) <| fun x84 => some (.inl (b84_5, x84))
noncomputable def f_X11_nearest_l49_26 (l26_4 : Int32) (L26 : zm_Mem) (l49_5 : Int32) (l49_6 : Int32) : Option ((Int32 × Int32) ⊕ Int32) :=
 zm_ck (zm_in (L26.1 52 18) 2) <| if (L26.1 66 (L26.1 52 18).toNatClampNeg) ≤ l49_6 then (some (.inr l49_5)) else (zm_ck (zm_in l49_6 60) <| zm_b1 (f_X11_houseIn l26_4 l49_6 L26) <| fun r75 => if (L26.1 91 l49_6.toNatClampNeg) = r75 then (f_X11_nearest_b84_49_26 l49_6 l49_5) else (zm_v (l49_5 + 1) <| fun x81 => f_X11_nearest_b84_49_26 l49_6 x81))
noncomputable def f_X11_nearest_l26 (l26_2 : Int32) (l26_3 : Int32) (l26_4 : Int32) (L26 : zm_Mem) : Option ((Int32 × Int32 × Int32 × zm_Mem) ⊕ (Int32 × Int32 × zm_Mem)) :=
 zm_ck (zm_in (L26.1 52 18) 2) <| zm_b1 (f_X11_fives (L26.1 66 (L26.1 52 18).toNatClampNeg) L26) <| fun r37 => if r37 ≤ l26_4 then (some (.inr (l26_2, l26_3, L26))) else ((zm_lp (fun s => f_X11_nearest_l49_26 l26_4 L26 s.1 s.2) (0, 0)).bind (fun e90 => f_X11_nearest_x90_49_26 l26_2 l26_3 l26_4 L26 e90))
noncomputable def f_X11_nearest_b15 (a1 : Int32) (M : zm_Mem) : Option (Int32 × zm_Mem) :=
 zm_b2 (f_X11_copies M) <| fun _ M16 => (zm_lp (fun s => f_X11_nearest_l26 s.1 s.2.1 s.2.2.1 s.2.2.2) ((-1), 0, 0, M16)).bind (fun e124 => f_X11_nearest_x124_26 a1 e124.1 e124.2.1 e124.2.2)
noncomputable def f_X11_nearest (a1 : Int32) (M : zm_Mem) : Option (Int32 × zm_Mem) :=
  if a1 = (-1 : Int32) then (f_X11_nearest_b15 a1 M) else (zm_b1 (f_X11_isWork a1 M) <| fun r7 => if r7 = 0 then (some ((-1), M)) else (f_X11_nearest_b15 a1 M))
set_option maxRecDepth 20000 in
set_option maxHeartbeats 4000000 in
theorem k_X11_nearest (E : zm_E) (sv : Nat) (a1 : Int32) (M : zm_Mem) {r : Int32} {M' : zm_Mem} (h : f_X11_nearest a1 M = some (r, M')) : zm_Ct E (zm_w sv) (zm_w sv) yX11_nearest Y_X11_nearest [.ref (E.2.1 + 52), .int a1] M (some (.int r)) M' := by
  refine zm_meth (emb := zm_ei) (d := f_X11_nearest a1 M) (by decide) rfl rfl (Nat.le_of_ble_eq_true rfl) h (fun X => ?_)
  show zm_V X Y_X11_nearest E (zm_Q X E Y_X11_nearest.2.2.2.1.cells Y_X11_nearest.2.2.2.1.slots (zm_w sv) zm_ei) 0 0 false (zm_w sv) 0 [(0, .ref (E.2.1 + 52)), (1, .int a1)] [] M (f_X11_nearest a1 M) some
  unfold f_X11_nearest
  refine zm_iload_n 1 rfl dX11_nearest_0 rfl 1 rfl ?_
  refine zm_iconst 2 rfl dX11_nearest_1 zi_m1 ?_
  have hb15 : zm_V X Y_X11_nearest E (zm_Q X E Y_X11_nearest.2.2.2.1.cells Y_X11_nearest.2.2.2.1.slots (zm_w sv) zm_ei) 0 0 false (zm_w sv) 15 [(0, .ref (E.2.1 + 52)), (1, .int a1)] [] M (f_X11_nearest_b15 a1 M) some := by
    unfold f_X11_nearest_b15
    refine zm_aload_n 16 rfl dX11_nearest_15 rfl 0 rfl ?_
    refine zm_cV0v 19 rfl dX11_nearest_16 ml_X11_388 rfl (zm_L (sv := sv) rfl) rfl (Nat.le_of_ble_eq_true rfl) ⟨Nat.le_of_ble_eq_true rfl, Nat.le_of_ble_eq_true rfl⟩ rfl rfl ⟨Nat.le_refl _, Nat.le_refl _⟩ rfl (fun _ _ h => k_X11_copies E sv M h) (fun _ M16 => ?_)
    refine zm_iconst 20 rfl dX11_nearest_19 zi_m1 ?_
    refine zm_istore_n (lv' := [(2, .int (-1)), (0, .ref (E.2.1 + 52)), (1, .int a1)]) 21 rfl dX11_nearest_20 rfl (by decide) rfl ?_
    refine zm_iconst 22 rfl dX11_nearest_21 zi_0 ?_
    refine zm_istore_n (lv' := [(3, .int 0), (2, .int (-1)), (0, .ref (E.2.1 + 52)), (1, .int a1)]) 23 rfl dX11_nearest_22 rfl (by decide) rfl ?_
    refine zm_iconst 24 rfl dX11_nearest_23 zi_0 ?_
    refine zm_istore (lv' := [(4, .int 0), (3, .int 0), (2, .int (-1)), (0, .ref (E.2.1 + 52)), (1, .int a1)]) 26 rfl dX11_nearest_24 (by decide) rfl ?_
    have hx124_26 : ∀ (e124_2 : Int32) (e124_3 : Int32) (N124 : zm_Mem), zm_V X Y_X11_nearest E (zm_Q X E Y_X11_nearest.2.2.2.1.cells Y_X11_nearest.2.2.2.1.slots (zm_w sv) zm_ei) 0 0 false (zm_w sv) 124 [(0, .ref (E.2.1 + 52)), (1, .int a1), (2, .int e124_2), (3, .int e124_3)] [] N124 (f_X11_nearest_x124_26 a1 e124_2 e124_3 N124) some := by
      intro e124_2 e124_3 N124
      unfold f_X11_nearest_x124_26
      refine zm_iload_n 125 rfl dX11_nearest_124 rfl 2 rfl ?_
      refine zm_if_ge 131 128 (by decide) rfl dX11_nearest_125 ?_ ?_
      · refine zm_iload_n 132 rfl dX11_nearest_131 rfl 1 rfl ?_
        refine zm_iconst 133 rfl dX11_nearest_132 zi_m1 ?_
        refine zm_icmp_ne 140 136 (by decide) rfl dX11_nearest_133 ?_ ?_
        · refine zm_iload_n 137 rfl dX11_nearest_136 rfl 3 rfl ?_
          refine zm_goto 146 (by decide) dX11_nearest_137 ?_
          exact zm_iret dX11_nearest_146 rfl (Nat.le_refl _) (Nat.le_refl _) rfl
        · refine zm_aload_n 141 rfl dX11_nearest_140 rfl 0 rfl ?_
          refine zm_iload_n 142 rfl dX11_nearest_141 rfl 2 rfl ?_
          refine zm_iload_n 143 rfl dX11_nearest_142 rfl 1 rfl ?_
          refine zm_cV2ir 146 rfl dX11_nearest_143 ml_X11_426 rfl (zm_L (sv := sv) rfl) rfl (Nat.le_of_ble_eq_true rfl) ⟨Nat.le_of_ble_eq_true rfl, Nat.le_of_ble_eq_true rfl⟩ rfl rfl ⟨Nat.le_refl _, Nat.le_refl _⟩ rfl (fun _ h => k_X11_houseIn E sv e124_2 a1 N124 h) (fun r143 => ?_)
          exact zm_iret dX11_nearest_146 rfl (Nat.le_refl _) (Nat.le_refl _) rfl
      · refine zm_bipush 130 rfl dX11_nearest_128 zb_m2 ?_
        exact zm_iret dX11_nearest_130 rfl (Nat.le_refl _) (Nat.le_refl _) rfl
    refine zm_loc [3, 4, 2, 1, 0] rfl (zm_lpp (σ := (Int32 × Int32 × Int32 × zm_Mem)) (ε := (Int32 × Int32 × zm_Mem)) (step := fun s => f_X11_nearest_l26 s.1 s.2.1 s.2.2.1 s.2.2.2) (fun s => [(0, .ref (E.2.1 + 52)), (1, .int a1), (2, .int s.1), (3, .int s.2.1), (4, .int s.2.2.1)]) (fun s => s.2.2.2) (fun D26 f26 hf26a hf26b hD26 s => ?_) ((-1), 0, 0, M16))
    obtain ⟨l26_2, l26_3, l26_4, L26⟩ := s
    show zm_V X Y_X11_nearest E (zm_Q X E Y_X11_nearest.2.2.2.1.cells Y_X11_nearest.2.2.2.1.slots (zm_w sv) zm_ei) 0 0 false (zm_w sv) 26 [(0, .ref (E.2.1 + 52)), (1, .int a1), (2, .int l26_2), (3, .int l26_3), (4, .int l26_4)] [] L26 (f_X11_nearest_l26 l26_2 l26_3 l26_4 L26) f26
    unfold f_X11_nearest_l26
    refine zm_iload 28 rfl dX11_nearest_26 4 rfl ?_
    refine zm_aload_n 29 rfl dX11_nearest_28 rfl 0 rfl ?_
    refine zm_getR (a := 66) 32 rfl dX11_nearest_29 fl_X11_58 rfl (zm_L (sv := sv) rfl) rfl (by decide) ?_
    refine zm_aload_n 33 rfl dX11_nearest_32 rfl 0 rfl ?_
    refine zm_getI 36 rfl dX11_nearest_33 fl_X11_251 rfl (zm_L (sv := sv) rfl) ?_
    refine zm_iald 37 rfl dX11_nearest_36 rfl (zm_L (sv := sv) rfl) ?_
    refine zm_cS1ir 40 rfl dX11_nearest_37 ml_X11_423 (Nat.le_of_ble_eq_true rfl) ⟨Nat.le_of_ble_eq_true rfl, Nat.le_of_ble_eq_true rfl⟩ rfl rfl ⟨Nat.le_refl _, Nat.le_refl _⟩ rfl (fun _ h => k_X11_fives E (zm_w sv) (L26.1 66 (L26.1 52 18).toNatClampNeg) L26 h) (fun r37 => ?_)
    refine zm_icmp_ge 124 43 (by decide) rfl dX11_nearest_40 ?_ ?_
    · exact zm_loc [0, 1, 2, 3] rfl (zm_go (hf26b _) (zm_unb (hx124_26 l26_2 l26_3 L26)))
    · refine zm_iconst 44 rfl dX11_nearest_43 zi_0 ?_
      refine zm_istore (lv' := [(5, .int 0), (0, .ref (E.2.1 + 52)), (1, .int a1), (2, .int l26_2), (3, .int l26_3), (4, .int l26_4)]) 46 rfl dX11_nearest_44 (by decide) rfl ?_
      refine zm_iconst 47 rfl dX11_nearest_46 zi_0 ?_
      refine zm_istore (lv' := [(6, .int 0), (5, .int 0), (0, .ref (E.2.1 + 52)), (1, .int a1), (2, .int l26_2), (3, .int l26_3), (4, .int l26_4)]) 49 rfl dX11_nearest_47 (by decide) rfl ?_
      have hx90_49_26 : ∀ (e90_5 : Int32), zm_V X Y_X11_nearest E (zm_Q X E Y_X11_nearest.2.2.2.1.cells Y_X11_nearest.2.2.2.1.slots (zm_w sv) zm_ei) 0 0 false (zm_w sv) 90 [(0, .ref (E.2.1 + 52)), (1, .int a1), (2, .int l26_2), (3, .int l26_3), (4, .int l26_4), (5, .int e90_5)] [] L26 (f_X11_nearest_x90_49_26 l26_2 l26_3 l26_4 L26 e90_5) f26 := by
        intro e90_5
        unfold f_X11_nearest_x90_49_26
        refine zm_iload_n 91 rfl dX11_nearest_90 rfl 2 rfl ?_
        have hb118_26 : ∀ (b118_2 : Int32) (b118_3 : Int32) (M118 : zm_Mem), zm_V X Y_X11_nearest E (zm_Q X E Y_X11_nearest.2.2.2.1.cells Y_X11_nearest.2.2.2.1.slots (zm_w sv) zm_ei) 0 0 false (zm_w sv) 118 [(0, .ref (E.2.1 + 52)), (1, .int a1), (2, .int b118_2), (3, .int b118_3), (4, .int l26_4)] [] M118 (f_X11_nearest_b118_26 l26_4 b118_2 b118_3 M118) f26 := by
          intro b118_2 b118_3 M118
          unfold f_X11_nearest_b118_26
          refine zm_iinc (lv' := fun z => [(4, .int z), (0, .ref (E.2.1 + 52)), (1, .int a1), (2, .int b118_2), (3, .int b118_3)]) 121 rfl dX11_nearest_118 zi_1 4 rfl (by decide) (fun _ => rfl) (fun x118 _ => ?_)
          refine zm_goto 26 (by decide) dX11_nearest_121 ?_
          exact zm_loc [1, 2, 3, 4, 0] rfl (zm_go (hf26a _) (hD26 (b118_2, b118_3, x118, M118)))
        have hb100_26 : zm_V X Y_X11_nearest E (zm_Q X E Y_X11_nearest.2.2.2.1.cells Y_X11_nearest.2.2.2.1.slots (zm_w sv) zm_ei) 0 0 false (zm_w sv) 100 [(0, .ref (E.2.1 + 52)), (1, .int a1), (2, .int l26_2), (3, .int l26_3), (4, .int l26_4), (5, .int e90_5)] [] L26 (f_X11_nearest_b100_26 l26_2 l26_3 l26_4 L26 e90_5) f26 := by
          unfold f_X11_nearest_b100_26
          refine zm_aload_n 101 rfl dX11_nearest_100 rfl 0 rfl ?_
          refine zm_iload 103 rfl dX11_nearest_101 4 rfl ?_
          refine zm_cV1i 106 rfl dX11_nearest_103 ml_X11_435 rfl (zm_L (sv := sv) rfl) rfl (Nat.le_of_ble_eq_true rfl) ⟨Nat.le_of_ble_eq_true rfl, Nat.le_of_ble_eq_true rfl⟩ rfl rfl ⟨Nat.le_refl _, Nat.le_refl _⟩ rfl (fun _ _ h => k_X11_isHanging E sv l26_4 L26 h) (fun r103 M103 => ?_)
          refine zm_if_ne 112 109 (by decide) rfl dX11_nearest_106 ?_ ?_
          · refine zm_goto 118 (by decide) dX11_nearest_109 ?_
            exact zm_loc [0, 1, 2, 3, 4] rfl (hb118_26 l26_2 l26_3 M103)
          · refine zm_iload 114 rfl dX11_nearest_112 4 rfl ?_
            refine zm_istore_n (lv' := [(2, .int l26_4), (0, .ref (E.2.1 + 52)), (1, .int a1), (3, .int l26_3), (4, .int l26_4), (5, .int e90_5)]) 115 rfl dX11_nearest_114 rfl (by decide) rfl ?_
            refine zm_iload 117 rfl dX11_nearest_115 5 rfl ?_
            refine zm_istore_n (lv' := [(3, .int e90_5), (2, .int l26_4), (0, .ref (E.2.1 + 52)), (1, .int a1), (4, .int l26_4), (5, .int e90_5)]) 118 rfl dX11_nearest_117 rfl (by decide) rfl ?_
            exact zm_loc [2, 3, 1, 0, 4] rfl (hb118_26 l26_4 e90_5 M103)
        refine zm_if_lt 100 94 (by decide) rfl dX11_nearest_91 ?_ ?_
        · exact zm_loc [0, 1, 2, 3, 4, 5] rfl (hb100_26)
        · refine zm_iload 96 rfl dX11_nearest_94 5 rfl ?_
          refine zm_iload_n 97 rfl dX11_nearest_96 rfl 3 rfl ?_
          refine zm_icmp_ge 118 100 (by decide) rfl dX11_nearest_97 ?_ ?_
          · exact zm_loc [0, 1, 2, 3, 4] rfl (hb118_26 l26_2 l26_3 L26)
          · exact zm_loc [0, 1, 2, 3, 4, 5] rfl (hb100_26)
      refine zm_loc [2, 3, 4, 5, 6, 1, 0] rfl (zm_lpp (σ := (Int32 × Int32)) (ε := Int32) (step := fun s => f_X11_nearest_l49_26 l26_4 L26 s.1 s.2) (fun s => [(0, .ref (E.2.1 + 52)), (1, .int a1), (2, .int l26_2), (3, .int l26_3), (4, .int l26_4), (5, .int s.1), (6, .int s.2)]) (fun _ => L26) (fun D49_26 f49_26 hf49_26a hf49_26b hD49_26 s => ?_) (0, 0))
      obtain ⟨l49_5, l49_6⟩ := s
      show zm_V X Y_X11_nearest E (zm_Q X E Y_X11_nearest.2.2.2.1.cells Y_X11_nearest.2.2.2.1.slots (zm_w sv) zm_ei) 0 0 false (zm_w sv) 49 [(0, .ref (E.2.1 + 52)), (1, .int a1), (2, .int l26_2), (3, .int l26_3), (4, .int l26_4), (5, .int l49_5), (6, .int l49_6)] [] L26 (f_X11_nearest_l49_26 l26_4 L26 l49_5 l49_6) f49_26
      unfold f_X11_nearest_l49_26
      refine zm_iload 51 rfl dX11_nearest_49 6 rfl ?_
      refine zm_aload_n 52 rfl dX11_nearest_51 rfl 0 rfl ?_
      refine zm_getR (a := 66) 55 rfl dX11_nearest_52 fl_X11_58 rfl (zm_L (sv := sv) rfl) rfl (by decide) ?_
      refine zm_aload_n 56 rfl dX11_nearest_55 rfl 0 rfl ?_
      refine zm_getI 59 rfl dX11_nearest_56 fl_X11_251 rfl (zm_L (sv := sv) rfl) ?_
      refine zm_iald 60 rfl dX11_nearest_59 rfl (zm_L (sv := sv) rfl) ?_
      refine zm_icmp_ge 90 63 (by decide) rfl dX11_nearest_60 ?_ ?_
      · exact zm_loc [0, 1, 2, 3, 4, 5] rfl (zm_go (hf49_26b _) (zm_unb (hx90_49_26 l49_5)))
      · refine zm_aload_n 64 rfl dX11_nearest_63 rfl 0 rfl ?_
        refine zm_getR (a := 91) 67 rfl dX11_nearest_64 fl_X11_134 rfl (zm_L (sv := sv) rfl) rfl (by decide) ?_
        refine zm_iload 69 rfl dX11_nearest_67 6 rfl ?_
        refine zm_iald 70 rfl dX11_nearest_69 rfl (zm_L (sv := sv) rfl) ?_
        refine zm_aload_n 71 rfl dX11_nearest_70 rfl 0 rfl ?_
        refine zm_iload 73 rfl dX11_nearest_71 4 rfl ?_
        refine zm_iload 75 rfl dX11_nearest_73 6 rfl ?_
        refine zm_cV2ir 78 rfl dX11_nearest_75 ml_X11_426 rfl (zm_L (sv := sv) rfl) rfl (Nat.le_of_ble_eq_true rfl) ⟨Nat.le_of_ble_eq_true rfl, Nat.le_of_ble_eq_true rfl⟩ rfl rfl ⟨Nat.le_refl _, Nat.le_refl _⟩ rfl (fun _ h => k_X11_houseIn E sv l26_4 l49_6 L26 h) (fun r75 => ?_)
        have hb84_49_26 : ∀ (b84_5 : Int32), zm_V X Y_X11_nearest E (zm_Q X E Y_X11_nearest.2.2.2.1.cells Y_X11_nearest.2.2.2.1.slots (zm_w sv) zm_ei) 0 0 false (zm_w sv) 84 [(0, .ref (E.2.1 + 52)), (1, .int a1), (2, .int l26_2), (3, .int l26_3), (4, .int l26_4), (5, .int b84_5), (6, .int l49_6)] [] L26 (f_X11_nearest_b84_49_26 l49_6 b84_5) f49_26 := by
          intro b84_5
          unfold f_X11_nearest_b84_49_26
          refine zm_iinc (lv' := fun z => [(6, .int z), (0, .ref (E.2.1 + 52)), (1, .int a1), (2, .int l26_2), (3, .int l26_3), (4, .int l26_4), (5, .int b84_5)]) 87 rfl dX11_nearest_84 zi_1 6 rfl (by decide) (fun _ => rfl) (fun x84 _ => ?_)
          refine zm_goto 49 (by decide) dX11_nearest_87 ?_
          exact zm_loc [1, 2, 3, 4, 5, 6, 0] rfl (zm_go (hf49_26a _) (hD49_26 (b84_5, x84)))
        refine zm_icmp_eq 84 81 (by decide) rfl dX11_nearest_78 ?_ ?_
        · exact zm_loc [0, 1, 2, 3, 4, 5, 6] rfl (hb84_49_26 l49_5)
        · refine zm_iinc (lv' := fun z => [(5, .int z), (0, .ref (E.2.1 + 52)), (1, .int a1), (2, .int l26_2), (3, .int l26_3), (4, .int l26_4), (6, .int l49_6)]) 84 rfl dX11_nearest_81 zi_1 5 rfl (by decide) (fun _ => rfl) (fun x81 _ => ?_)
          exact zm_loc [1, 2, 3, 4, 5, 0, 6] rfl (hb84_49_26 x81)
  refine zm_icmp_eq 15 5 (by decide) rfl dX11_nearest_2 ?_ ?_
  · exact zm_loc [0, 1] rfl (hb15)
  · refine zm_aload_n 6 rfl dX11_nearest_5 rfl 0 rfl ?_
    refine zm_iload_n 7 rfl dX11_nearest_6 rfl 1 rfl ?_
    refine zm_cV1ir 10 rfl dX11_nearest_7 ml_X11_398 rfl (zm_L (sv := sv) rfl) rfl (Nat.le_of_ble_eq_true rfl) ⟨Nat.le_of_ble_eq_true rfl, Nat.le_of_ble_eq_true rfl⟩ rfl rfl ⟨Nat.le_refl _, Nat.le_refl _⟩ rfl (fun _ h => k_X11_isWork E sv a1 M h) (fun r7 => ?_)
    refine zm_if_ne 15 13 (by decide) rfl dX11_nearest_10 ?_ ?_
    · refine zm_iconst 14 rfl dX11_nearest_13 zi_m1 ?_
      exact zm_iret dX11_nearest_14 rfl (Nat.le_refl _) (Nat.le_refl _) rfl
    · exact zm_loc [0, 1] rfl (hb15)
abbrev Y_X11_isQuarrel : zm_Y := (cX11_isQuarrel, 3, RX11, { frames := 0, cells := 0, slots := 0, locals := 0 }, (some .boolean), false, "isQuarrel")
noncomputable def f_X11_isQuarrel_b25_2 (l2_2 : Int32) : Option (Int32 ⊕ (Unit ⊕ Unit)) :=
 zm_v (l2_2 + 1) <| fun x25 => some (.inl x25)
noncomputable def f_X11_isQuarrel_l2 (a1 : Int32) (M : zm_Mem) (l2_2 : Int32) : Option (Int32 ⊕ (Unit ⊕ Unit)) :=
 if (64 : Int32) ≤ l2_2 then (some (.inr (.inr ()))) else (zm_ck (zm_in l2_2 64) <| if (M.1 94 l2_2.toNatClampNeg) = 0 then (f_X11_isQuarrel_b25_2 l2_2) else (if (l2_2 &&& a1) = 0 then (some (.inr (.inl ()))) else (f_X11_isQuarrel_b25_2 l2_2)))
noncomputable def f_X11_isQuarrel (a1 : Int32) (M : zm_Mem) : Option Int32 :=
  (zm_lp (f_X11_isQuarrel_l2 a1 M) 0).bind (Sum.elim (fun _ => some 0) (fun _ => some 1))
set_option maxRecDepth 20000 in
set_option maxHeartbeats 4000000 in
theorem k_X11_isQuarrel (E : zm_E) (sv : Nat) (a1 : Int32) (M : zm_Mem) {r : Int32} (h : f_X11_isQuarrel a1 M = some r) : zm_Ct E (zm_w sv) (zm_w sv) yX11_isQuarrel Y_X11_isQuarrel [.ref (E.2.1 + 52), .int a1] M (some (.int r)) M := by
  refine zm_methr (emb := zm_ei) (d := f_X11_isQuarrel a1 M) (by decide) rfl rfl (Nat.le_of_ble_eq_true rfl) h (fun X => ?_)
  show zm_V X Y_X11_isQuarrel E (zm_Q X E Y_X11_isQuarrel.2.2.2.1.cells Y_X11_isQuarrel.2.2.2.1.slots (zm_w sv) zm_ei) 0 0 false (zm_w sv) 0 [(0, .ref (E.2.1 + 52)), (1, .int a1)] [] M (f_X11_isQuarrel a1 M) (fun r => some (r, M))
  unfold f_X11_isQuarrel
  refine zm_iconst 1 rfl dX11_isQuarrel_0 zi_0 ?_
  refine zm_istore_n (lv' := [(2, .int 0), (0, .ref (E.2.1 + 52)), (1, .int a1)]) 2 rfl dX11_isQuarrel_1 rfl (by decide) rfl ?_
  have hx23_2 : zm_V X Y_X11_isQuarrel E (zm_Q X E Y_X11_isQuarrel.2.2.2.1.cells Y_X11_isQuarrel.2.2.2.1.slots (zm_w sv) zm_ei) 0 0 false (zm_w sv) 23 [] [] M (some 0) (fun r => some (r, M)) := by
    refine zm_iconst 24 rfl dX11_isQuarrel_23 zi_0 ?_
    exact zm_zret dX11_isQuarrel_24 rfl rfl (Nat.le_refl _) (Nat.le_refl _) rfl
  have hx31_2 : zm_V X Y_X11_isQuarrel E (zm_Q X E Y_X11_isQuarrel.2.2.2.1.cells Y_X11_isQuarrel.2.2.2.1.slots (zm_w sv) zm_ei) 0 0 false (zm_w sv) 31 [] [] M (some 1) (fun r => some (r, M)) := by
    refine zm_iconst 32 rfl dX11_isQuarrel_31 zi_1 ?_
    exact zm_zret dX11_isQuarrel_32 rfl rfl (Nat.le_refl _) (Nat.le_refl _) rfl
  refine zm_loc [1, 2, 0] rfl (zm_lpp (σ := Int32) (ε := (Unit ⊕ Unit)) (step := f_X11_isQuarrel_l2 a1 M) (fun s => [(0, .ref (E.2.1 + 52)), (1, .int a1), (2, .int s)]) (fun _ => M) (fun D2 f2 hf2a hf2b hD2 s => ?_) 0)
  obtain ⟨l2_2, hq2⟩ : ∃ q, q = s := ⟨_, rfl⟩
  rw [← hq2]
  show zm_V X Y_X11_isQuarrel E (zm_Q X E Y_X11_isQuarrel.2.2.2.1.cells Y_X11_isQuarrel.2.2.2.1.slots (zm_w sv) zm_ei) 0 0 false (zm_w sv) 2 [(0, .ref (E.2.1 + 52)), (1, .int a1), (2, .int l2_2)] [] M (f_X11_isQuarrel_l2 a1 M l2_2) f2
  unfold f_X11_isQuarrel_l2
  refine zm_iload_n 3 rfl dX11_isQuarrel_2 rfl 2 rfl ?_
  refine zm_bipush 5 rfl dX11_isQuarrel_3 zb_64 ?_
  refine zm_icmp_ge 31 8 (by decide) rfl dX11_isQuarrel_5 ?_ ?_
  · exact zm_loc [] rfl (zm_go (hf2b _) (zm_unb (hx31_2)))
  · refine zm_aload_n 9 rfl dX11_isQuarrel_8 rfl 0 rfl ?_
    refine zm_getR (a := 94) 12 rfl dX11_isQuarrel_9 fl_X11_143 rfl (zm_L (sv := sv) rfl) rfl (by decide) ?_
    refine zm_iload_n 13 rfl dX11_isQuarrel_12 rfl 2 rfl ?_
    refine zm_zald 14 rfl dX11_isQuarrel_13 rfl (zm_L (sv := sv) rfl) ?_
    have hb25_2 : zm_V X Y_X11_isQuarrel E (zm_Q X E Y_X11_isQuarrel.2.2.2.1.cells Y_X11_isQuarrel.2.2.2.1.slots (zm_w sv) zm_ei) 0 0 false (zm_w sv) 25 [(0, .ref (E.2.1 + 52)), (1, .int a1), (2, .int l2_2)] [] M (f_X11_isQuarrel_b25_2 l2_2) f2 := by
      unfold f_X11_isQuarrel_b25_2
      refine zm_iinc (lv' := fun z => [(2, .int z), (0, .ref (E.2.1 + 52)), (1, .int a1)]) 28 rfl dX11_isQuarrel_25 zi_1 2 rfl (by decide) (fun _ => rfl) (fun x25 _ => ?_)
      refine zm_goto 2 (by decide) dX11_isQuarrel_28 ?_
      exact zm_loc [1, 2, 0] rfl (zm_go (hf2a _) (hD2 x25))
    refine zm_if_eq 25 17 (by decide) rfl dX11_isQuarrel_14 ?_ ?_
    · exact zm_loc [0, 1, 2] rfl (hb25_2)
    · refine zm_iload_n 18 rfl dX11_isQuarrel_17 rfl 2 rfl ?_
      refine zm_iload_n 19 rfl dX11_isQuarrel_18 rfl 1 rfl ?_
      refine zm_iand 20 rfl dX11_isQuarrel_19 ?_
      refine zm_if_ne 25 23 (by decide) rfl dX11_isQuarrel_20 ?_ ?_
      · exact zm_loc [] rfl (zm_go (hf2b _) (zm_unb (hx23_2)))
      · exact zm_loc [0, 1, 2] rfl (hb25_2)
abbrev Y_X11_quarrel : zm_Y := (cX11_quarrel, 5, RX11, { frames := 5, cells := 0, slots := 0, locals := 118 }, (some .int), false, "quarrel")
noncomputable def f_X11_quarrel_b147 (N78 : zm_Mem) (e138_3 : Int32) : Option (Int32 × zm_Mem) :=
 some (e138_3, N78)
noncomputable def f_X11_quarrel_x138_89 (a1 : Int32) (N78 : zm_Mem) (e138_3 : Int32) : Option (Int32 × zm_Mem) :=
 if e138_3 < 0 then (f_X11_quarrel_b147 N78 e138_3) else (if a1 = (1 : Int32) then (f_X11_quarrel_b147 N78 e138_3) else (zm_b1 (f_X11_bits e138_3 N78) <| fun r152 => some (r152, N78)))
noncomputable def f_X11_quarrel_b132_89 (l89_4 : Int32) (b132_3 : Int32) : Option ((Int32 × Int32) ⊕ Int32) :=
 zm_v (l89_4 + 1) <| fun x132 => some (.inl (b132_3, x132))
noncomputable def f_X11_quarrel_b120_89 (N78 : zm_Mem) (l89_3 : Int32) (l89_4 : Int32) : Option ((Int32 × Int32) ⊕ Int32) :=
 zm_b1 (f_X11_isQuarrel l89_4 N78) <| fun r123 => if r123 = 0 then (f_X11_quarrel_b132_89 l89_4 l89_3) else (f_X11_quarrel_b132_89 l89_4 l89_4)
noncomputable def f_X11_quarrel_l89 (N78 : zm_Mem) (r79 : Int32) (l89_3 : Int32) (l89_4 : Int32) : Option ((Int32 × Int32) ⊕ Int32) :=
 if r79 < l89_4 then (some (.inr l89_3)) else (if (l89_4 &&& (r79 ^^^ (-1))) = 0 then (if l89_3 < 0 then (f_X11_quarrel_b120_89 N78 l89_3 l89_4) else (zm_b1 (f_X11_bits l89_4 N78) <| fun r110 => zm_b1 (f_X11_bits l89_3 N78) <| fun r114 => if r114 ≤ r110 then (f_X11_quarrel_b132_89 l89_4 l89_3) else (f_X11_quarrel_b120_89 N78 l89_3 l89_4))) else (f_X11_quarrel_b132_89 l89_4 l89_3))
noncomputable def f_X11_quarrel_x78_38 (a1 : Int32) (N78 : zm_Mem) : Option (Int32 × zm_Mem) :=
 zm_b1 (f_X11_standing N78) <| fun r79 => (zm_lp (fun s => f_X11_quarrel_l89 N78 r79 s.1 s.2) ((-2), 0)).bind (fun e138 => f_X11_quarrel_x138_89 a1 N78 e138)
noncomputable def f_X11_quarrel_b72_38 (l38_2 : Int32) (M72 : zm_Mem) : Option ((Int32 × zm_Mem) ⊕ zm_Mem) :=
 zm_v (l38_2 + 1) <| fun x72 => some (.inl (x72, M72))
noncomputable def f_X11_quarrel_l38 (l38_2 : Int32) (L38 : zm_Mem) : Option ((Int32 × zm_Mem) ⊕ zm_Mem) :=
 zm_ck (zm_in (L38.1 52 18) 2) <| zm_b1 (f_X11_fives (L38.1 66 (L38.1 52 18).toNatClampNeg) L38) <| fun r48 => if r48 ≤ l38_2 then (some (.inr L38)) else (zm_b2 (f_X11_hangs l38_2 L38) <| fun r56 M56 => if r56 = 0 then (f_X11_quarrel_b72_38 l38_2 M56) else (zm_b2 (f_X11_brokenAll M56) <| fun r67 M67 => zm_ck (zm_in r67 64) <| zm_v (zm_sI M67 94 r67.toNatClampNeg (vp_nar .boolean 1)) <| fun M71 => f_X11_quarrel_b72_38 l38_2 M71))
noncomputable def f_X11_quarrel_x36_17 (a1 : Int32) (N36 : zm_Mem) : Option (Int32 × zm_Mem) :=
 (zm_lp (fun s => f_X11_quarrel_l38 s.1 s.2) (0, N36)).bind (fun e78 => f_X11_quarrel_x78_38 a1 e78)
noncomputable def f_X11_quarrel_l17 (l17_2 : Int32) (L17 : zm_Mem) : Option ((Int32 × zm_Mem) ⊕ zm_Mem) :=
 if (64 : Int32) ≤ l17_2 then (some (.inr L17)) else (zm_ck (zm_in l17_2 64) <| zm_v (zm_sI L17 94 l17_2.toNatClampNeg (vp_nar .boolean 0)) <| fun M29 => zm_v (l17_2 + 1) <| fun x30 => some (.inl (x30, M29)))
noncomputable def f_X11_quarrel (a1 : Int32) (M : zm_Mem) : Option (Int32 × zm_Mem) :=
  zm_b1 (f_X11_in a1 0 1 M) <| fun r3 => if r3 = 0 then (some ((-1), M)) else (zm_b2 (f_X11_copies M) <| fun _ M12 => (zm_lp (fun s => f_X11_quarrel_l17 s.1 s.2) (0, M12)).bind (fun e36 => f_X11_quarrel_x36_17 a1 e36))
set_option maxRecDepth 20000 in
set_option maxHeartbeats 4000000 in
theorem k_X11_quarrel (E : zm_E) (sv : Nat) (a1 : Int32) (M : zm_Mem) {r : Int32} {M' : zm_Mem} (h : f_X11_quarrel a1 M = some (r, M')) : zm_Ct E (zm_w sv) (zm_w sv) yX11_quarrel Y_X11_quarrel [.ref (E.2.1 + 52), .int a1] M (some (.int r)) M' := by
  refine zm_meth (emb := zm_ei) (d := f_X11_quarrel a1 M) (by decide) rfl rfl (Nat.le_of_ble_eq_true rfl) h (fun X => ?_)
  show zm_V X Y_X11_quarrel E (zm_Q X E Y_X11_quarrel.2.2.2.1.cells Y_X11_quarrel.2.2.2.1.slots (zm_w sv) zm_ei) 0 0 false (zm_w sv) 0 [(0, .ref (E.2.1 + 52)), (1, .int a1)] [] M (f_X11_quarrel a1 M) some
  unfold f_X11_quarrel
  refine zm_iload_n 1 rfl dX11_quarrel_0 rfl 1 rfl ?_
  refine zm_iconst 2 rfl dX11_quarrel_1 zi_0 ?_
  refine zm_iconst 3 rfl dX11_quarrel_2 zi_1 ?_
  refine zm_cS3ir 6 rfl dX11_quarrel_3 ml_X11_335 (Nat.le_of_ble_eq_true rfl) ⟨Nat.le_of_ble_eq_true rfl, Nat.le_of_ble_eq_true rfl⟩ rfl rfl ⟨Nat.le_refl _, Nat.le_refl _⟩ rfl (fun _ h => k_X11_in E (zm_w sv) a1 0 1 M h) (fun r3 => ?_)
  refine zm_if_ne 11 9 (by decide) rfl dX11_quarrel_6 ?_ ?_
  · refine zm_iconst 10 rfl dX11_quarrel_9 zi_m1 ?_
    exact zm_iret dX11_quarrel_10 rfl (Nat.le_refl _) (Nat.le_refl _) rfl
  · refine zm_aload_n 12 rfl dX11_quarrel_11 rfl 0 rfl ?_
    refine zm_cV0v 15 rfl dX11_quarrel_12 ml_X11_388 rfl (zm_L (sv := sv) rfl) rfl (Nat.le_of_ble_eq_true rfl) ⟨Nat.le_of_ble_eq_true rfl, Nat.le_of_ble_eq_true rfl⟩ rfl rfl ⟨Nat.le_refl _, Nat.le_refl _⟩ rfl (fun _ _ h => k_X11_copies E sv M h) (fun _ M12 => ?_)
    refine zm_iconst 16 rfl dX11_quarrel_15 zi_0 ?_
    refine zm_istore_n (lv' := [(2, .int 0), (0, .ref (E.2.1 + 52)), (1, .int a1)]) 17 rfl dX11_quarrel_16 rfl (by decide) rfl ?_
    have hx36_17 : ∀ (N36 : zm_Mem), zm_V X Y_X11_quarrel E (zm_Q X E Y_X11_quarrel.2.2.2.1.cells Y_X11_quarrel.2.2.2.1.slots (zm_w sv) zm_ei) 0 0 false (zm_w sv) 36 [(0, .ref (E.2.1 + 52)), (1, .int a1)] [] N36 (f_X11_quarrel_x36_17 a1 N36) some := by
      intro N36
      unfold f_X11_quarrel_x36_17
      refine zm_iconst 37 rfl dX11_quarrel_36 zi_0 ?_
      refine zm_istore_n (lv' := [(2, .int 0), (0, .ref (E.2.1 + 52)), (1, .int a1)]) 38 rfl dX11_quarrel_37 rfl (by decide) rfl ?_
      have hx78_38 : ∀ (N78 : zm_Mem), zm_V X Y_X11_quarrel E (zm_Q X E Y_X11_quarrel.2.2.2.1.cells Y_X11_quarrel.2.2.2.1.slots (zm_w sv) zm_ei) 0 0 false (zm_w sv) 78 [(0, .ref (E.2.1 + 52)), (1, .int a1)] [] N78 (f_X11_quarrel_x78_38 a1 N78) some := by
        intro N78
        unfold f_X11_quarrel_x78_38
        refine zm_aload_n 79 rfl dX11_quarrel_78 rfl 0 rfl ?_
        refine zm_cV0ir 82 rfl dX11_quarrel_79 ml_X11_372 rfl (zm_L (sv := sv) rfl) rfl (Nat.le_of_ble_eq_true rfl) ⟨Nat.le_of_ble_eq_true rfl, Nat.le_of_ble_eq_true rfl⟩ rfl rfl ⟨Nat.le_refl _, Nat.le_refl _⟩ rfl (fun _ h => k_X11_standing E sv N78 h) (fun r79 => ?_)
        refine zm_istore_n (lv' := [(2, .int r79), (0, .ref (E.2.1 + 52)), (1, .int a1)]) 83 rfl dX11_quarrel_82 rfl (by decide) rfl ?_
        refine zm_bipush 85 rfl dX11_quarrel_83 zb_m2 ?_
        refine zm_istore_n (lv' := [(3, .int (-2)), (2, .int r79), (0, .ref (E.2.1 + 52)), (1, .int a1)]) 86 rfl dX11_quarrel_85 rfl (by decide) rfl ?_
        refine zm_iconst 87 rfl dX11_quarrel_86 zi_0 ?_
        refine zm_istore (lv' := [(4, .int 0), (3, .int (-2)), (2, .int r79), (0, .ref (E.2.1 + 52)), (1, .int a1)]) 89 rfl dX11_quarrel_87 (by decide) rfl ?_
        have hx138_89 : ∀ (e138_3 : Int32), zm_V X Y_X11_quarrel E (zm_Q X E Y_X11_quarrel.2.2.2.1.cells Y_X11_quarrel.2.2.2.1.slots (zm_w sv) zm_ei) 0 0 false (zm_w sv) 138 [(1, .int a1), (3, .int e138_3)] [] N78 (f_X11_quarrel_x138_89 a1 N78 e138_3) some := by
          intro e138_3
          unfold f_X11_quarrel_x138_89
          refine zm_iload_n 139 rfl dX11_quarrel_138 rfl 1 rfl ?_
          have hb147 : zm_V X Y_X11_quarrel E (zm_Q X E Y_X11_quarrel.2.2.2.1.cells Y_X11_quarrel.2.2.2.1.slots (zm_w sv) zm_ei) 0 0 false (zm_w sv) 147 [(3, .int e138_3)] [] N78 (f_X11_quarrel_b147 N78 e138_3) some := by
            unfold f_X11_quarrel_b147
            refine zm_iload_n 148 rfl dX11_quarrel_147 rfl 0 rfl ?_
            refine zm_goto 155 (by decide) dX11_quarrel_148 ?_
            exact zm_iret dX11_quarrel_155 rfl (Nat.le_refl _) (Nat.le_refl _) rfl
          refine zm_if_lt 147 142 (by decide) rfl dX11_quarrel_139 ?_ ?_
          · exact zm_loc [1] rfl (hb147)
          · refine zm_iload_n 143 rfl dX11_quarrel_142 rfl 0 rfl ?_
            refine zm_iconst 144 rfl dX11_quarrel_143 zi_1 ?_
            refine zm_icmp_ne 151 147 (by decide) rfl dX11_quarrel_144 ?_ ?_
            · exact zm_loc [1] rfl (hb147)
            · refine zm_iload_n 152 rfl dX11_quarrel_151 rfl 1 rfl ?_
              refine zm_cS1ir 155 rfl dX11_quarrel_152 ml_X11_438 (Nat.le_of_ble_eq_true rfl) ⟨Nat.le_of_ble_eq_true rfl, Nat.le_of_ble_eq_true rfl⟩ rfl rfl ⟨Nat.le_refl _, Nat.le_refl _⟩ rfl (fun _ h => k_X11_bits E (zm_w sv) e138_3 N78 h) (fun r152 => ?_)
              exact zm_iret dX11_quarrel_155 rfl (Nat.le_refl _) (Nat.le_refl _) rfl
        refine zm_loc [3, 4, 2, 1, 0] rfl (zm_lpp (σ := (Int32 × Int32)) (ε := Int32) (step := fun s => f_X11_quarrel_l89 N78 r79 s.1 s.2) (fun s => [(0, .ref (E.2.1 + 52)), (1, .int a1), (2, .int r79), (3, .int s.1), (4, .int s.2)]) (fun _ => N78) (fun D89 f89 hf89a hf89b hD89 s => ?_) ((-2), 0))
        obtain ⟨l89_3, l89_4⟩ := s
        show zm_V X Y_X11_quarrel E (zm_Q X E Y_X11_quarrel.2.2.2.1.cells Y_X11_quarrel.2.2.2.1.slots (zm_w sv) zm_ei) 0 0 false (zm_w sv) 89 [(0, .ref (E.2.1 + 52)), (1, .int a1), (2, .int r79), (3, .int l89_3), (4, .int l89_4)] [] N78 (f_X11_quarrel_l89 N78 r79 l89_3 l89_4) f89
        unfold f_X11_quarrel_l89
        refine zm_iload 91 rfl dX11_quarrel_89 4 rfl ?_
        refine zm_iload_n 92 rfl dX11_quarrel_91 rfl 2 rfl ?_
        refine zm_icmp_gt 138 95 (by decide) rfl dX11_quarrel_92 ?_ ?_
        · exact zm_loc [1, 3] rfl (zm_go (hf89b _) (zm_unb (hx138_89 l89_3)))
        · refine zm_iload 97 rfl dX11_quarrel_95 4 rfl ?_
          refine zm_iload_n 98 rfl dX11_quarrel_97 rfl 2 rfl ?_
          refine zm_iconst 99 rfl dX11_quarrel_98 zi_m1 ?_
          refine zm_ixor 100 rfl dX11_quarrel_99 ?_
          refine zm_iand 101 rfl dX11_quarrel_100 ?_
          have hb132_89 : ∀ (b132_3 : Int32), zm_V X Y_X11_quarrel E (zm_Q X E Y_X11_quarrel.2.2.2.1.cells Y_X11_quarrel.2.2.2.1.slots (zm_w sv) zm_ei) 0 0 false (zm_w sv) 132 [(0, .ref (E.2.1 + 52)), (1, .int a1), (2, .int r79), (3, .int b132_3), (4, .int l89_4)] [] N78 (f_X11_quarrel_b132_89 l89_4 b132_3) f89 := by
            intro b132_3
            unfold f_X11_quarrel_b132_89
            refine zm_iinc (lv' := fun z => [(4, .int z), (0, .ref (E.2.1 + 52)), (1, .int a1), (2, .int r79), (3, .int b132_3)]) 135 rfl dX11_quarrel_132 zi_1 4 rfl (by decide) (fun _ => rfl) (fun x132 _ => ?_)
            refine zm_goto 89 (by decide) dX11_quarrel_135 ?_
            exact zm_loc [1, 2, 3, 4, 0] rfl (zm_go (hf89a _) (hD89 (b132_3, x132)))
          refine zm_if_ne 132 104 (by decide) rfl dX11_quarrel_101 ?_ ?_
          · refine zm_iload_n 105 rfl dX11_quarrel_104 rfl 3 rfl ?_
            have hb120_89 : zm_V X Y_X11_quarrel E (zm_Q X E Y_X11_quarrel.2.2.2.1.cells Y_X11_quarrel.2.2.2.1.slots (zm_w sv) zm_ei) 0 0 false (zm_w sv) 120 [(0, .ref (E.2.1 + 52)), (1, .int a1), (2, .int r79), (3, .int l89_3), (4, .int l89_4)] [] N78 (f_X11_quarrel_b120_89 N78 l89_3 l89_4) f89 := by
              unfold f_X11_quarrel_b120_89
              refine zm_aload_n 121 rfl dX11_quarrel_120 rfl 0 rfl ?_
              refine zm_iload 123 rfl dX11_quarrel_121 4 rfl ?_
              refine zm_cV1ir 126 rfl dX11_quarrel_123 ml_X11_441 rfl (zm_L (sv := sv) rfl) rfl (Nat.le_of_ble_eq_true rfl) ⟨Nat.le_of_ble_eq_true rfl, Nat.le_of_ble_eq_true rfl⟩ rfl rfl ⟨Nat.le_refl _, Nat.le_refl _⟩ rfl (fun _ h => k_X11_isQuarrel E sv l89_4 N78 h) (fun r123 => ?_)
              refine zm_if_eq 132 129 (by decide) rfl dX11_quarrel_126 ?_ ?_
              · exact zm_loc [0, 1, 2, 3, 4] rfl (hb132_89 l89_3)
              · refine zm_iload 131 rfl dX11_quarrel_129 4 rfl ?_
                refine zm_istore_n (lv' := [(3, .int l89_4), (0, .ref (E.2.1 + 52)), (1, .int a1), (2, .int r79), (4, .int l89_4)]) 132 rfl dX11_quarrel_131 rfl (by decide) rfl ?_
                exact zm_loc [1, 2, 3, 0, 4] rfl (hb132_89 l89_4)
            refine zm_if_lt 120 108 (by decide) rfl dX11_quarrel_105 ?_ ?_
            · exact zm_loc [0, 1, 2, 3, 4] rfl (hb120_89)
            · refine zm_iload 110 rfl dX11_quarrel_108 4 rfl ?_
              refine zm_cS1ir 113 rfl dX11_quarrel_110 ml_X11_438 (Nat.le_of_ble_eq_true rfl) ⟨Nat.le_of_ble_eq_true rfl, Nat.le_of_ble_eq_true rfl⟩ rfl rfl ⟨Nat.le_refl _, Nat.le_refl _⟩ rfl (fun _ h => k_X11_bits E (zm_w sv) l89_4 N78 h) (fun r110 => ?_)
              refine zm_iload_n 114 rfl dX11_quarrel_113 rfl 3 rfl ?_
              refine zm_cS1ir 117 rfl dX11_quarrel_114 ml_X11_438 (Nat.le_of_ble_eq_true rfl) ⟨Nat.le_of_ble_eq_true rfl, Nat.le_of_ble_eq_true rfl⟩ rfl rfl ⟨Nat.le_refl _, Nat.le_refl _⟩ rfl (fun _ h => k_X11_bits E (zm_w sv) l89_3 N78 h) (fun r114 => ?_)
              refine zm_icmp_ge 132 120 (by decide) rfl dX11_quarrel_117 ?_ ?_
              · exact zm_loc [0, 1, 2, 3, 4] rfl (hb132_89 l89_3)
              · exact zm_loc [0, 1, 2, 3, 4] rfl (hb120_89)
          · exact zm_loc [0, 1, 2, 3, 4] rfl (hb132_89 l89_3)
      refine zm_loc [1, 2, 0] rfl (zm_lpp (σ := (Int32 × zm_Mem)) (ε := zm_Mem) (step := fun s => f_X11_quarrel_l38 s.1 s.2) (fun s => [(0, .ref (E.2.1 + 52)), (1, .int a1), (2, .int s.1)]) (fun s => s.2) (fun D38 f38 hf38a hf38b hD38 s => ?_) (0, N36))
      obtain ⟨l38_2, L38⟩ := s
      show zm_V X Y_X11_quarrel E (zm_Q X E Y_X11_quarrel.2.2.2.1.cells Y_X11_quarrel.2.2.2.1.slots (zm_w sv) zm_ei) 0 0 false (zm_w sv) 38 [(0, .ref (E.2.1 + 52)), (1, .int a1), (2, .int l38_2)] [] L38 (f_X11_quarrel_l38 l38_2 L38) f38
      unfold f_X11_quarrel_l38
      refine zm_iload_n 39 rfl dX11_quarrel_38 rfl 2 rfl ?_
      refine zm_aload_n 40 rfl dX11_quarrel_39 rfl 0 rfl ?_
      refine zm_getR (a := 66) 43 rfl dX11_quarrel_40 fl_X11_58 rfl (zm_L (sv := sv) rfl) rfl (by decide) ?_
      refine zm_aload_n 44 rfl dX11_quarrel_43 rfl 0 rfl ?_
      refine zm_getI 47 rfl dX11_quarrel_44 fl_X11_251 rfl (zm_L (sv := sv) rfl) ?_
      refine zm_iald 48 rfl dX11_quarrel_47 rfl (zm_L (sv := sv) rfl) ?_
      refine zm_cS1ir 51 rfl dX11_quarrel_48 ml_X11_423 (Nat.le_of_ble_eq_true rfl) ⟨Nat.le_of_ble_eq_true rfl, Nat.le_of_ble_eq_true rfl⟩ rfl rfl ⟨Nat.le_refl _, Nat.le_refl _⟩ rfl (fun _ h => k_X11_fives E (zm_w sv) (L38.1 66 (L38.1 52 18).toNatClampNeg) L38 h) (fun r48 => ?_)
      refine zm_icmp_ge 78 54 (by decide) rfl dX11_quarrel_51 ?_ ?_
      · exact zm_loc [0, 1] rfl (zm_go (hf38b _) (zm_unb (hx78_38 L38)))
      · refine zm_aload_n 55 rfl dX11_quarrel_54 rfl 0 rfl ?_
        refine zm_iload_n 56 rfl dX11_quarrel_55 rfl 2 rfl ?_
        refine zm_cV1i 59 rfl dX11_quarrel_56 ml_X11_429 rfl (zm_L (sv := sv) rfl) rfl (Nat.le_of_ble_eq_true rfl) ⟨Nat.le_of_ble_eq_true rfl, Nat.le_of_ble_eq_true rfl⟩ rfl rfl ⟨Nat.le_refl _, Nat.le_refl _⟩ rfl (fun _ _ h => k_X11_hangs E sv l38_2 L38 h) (fun r56 M56 => ?_)
        have hb72_38 : ∀ (M72 : zm_Mem), zm_V X Y_X11_quarrel E (zm_Q X E Y_X11_quarrel.2.2.2.1.cells Y_X11_quarrel.2.2.2.1.slots (zm_w sv) zm_ei) 0 0 false (zm_w sv) 72 [(0, .ref (E.2.1 + 52)), (1, .int a1), (2, .int l38_2)] [] M72 (f_X11_quarrel_b72_38 l38_2 M72) f38 := by
          intro M72
          unfold f_X11_quarrel_b72_38
          refine zm_iinc (lv' := fun z => [(2, .int z), (0, .ref (E.2.1 + 52)), (1, .int a1)]) 75 rfl dX11_quarrel_72 zi_1 2 rfl (by decide) (fun _ => rfl) (fun x72 _ => ?_)
          refine zm_goto 38 (by decide) dX11_quarrel_75 ?_
          exact zm_loc [1, 2, 0] rfl (zm_go (hf38a _) (hD38 (x72, M72)))
        refine zm_if_eq 72 62 (by decide) rfl dX11_quarrel_59 ?_ ?_
        · exact zm_loc [0, 1, 2] rfl (hb72_38 M56)
        · refine zm_aload_n 63 rfl dX11_quarrel_62 rfl 0 rfl ?_
          refine zm_getR (a := 94) 66 rfl dX11_quarrel_63 fl_X11_143 rfl (zm_L (sv := sv) rfl) rfl (by decide) ?_
          refine zm_aload_n 67 rfl dX11_quarrel_66 rfl 0 rfl ?_
          refine zm_cV0i 70 rfl dX11_quarrel_67 ml_X11_432 rfl (zm_L (sv := sv) rfl) rfl (Nat.le_of_ble_eq_true rfl) ⟨Nat.le_of_ble_eq_true rfl, Nat.le_of_ble_eq_true rfl⟩ rfl rfl ⟨Nat.le_refl _, Nat.le_refl _⟩ rfl (fun _ _ h => k_X11_brokenAll E sv M56 h) (fun r67 M67 => ?_)
          refine zm_iconst 71 rfl dX11_quarrel_70 zi_1 ?_
          refine zm_zast 72 rfl dX11_quarrel_71 rfl (zm_L (sv := sv) rfl) (fun M71 _ => ?_)
          exact zm_loc [0, 1, 2] rfl (hb72_38 M71)
    refine zm_loc [1, 2, 0] rfl (zm_lpp (σ := (Int32 × zm_Mem)) (ε := zm_Mem) (step := fun s => f_X11_quarrel_l17 s.1 s.2) (fun s => [(0, .ref (E.2.1 + 52)), (1, .int a1), (2, .int s.1)]) (fun s => s.2) (fun D17 f17 hf17a hf17b hD17 s => ?_) (0, M12))
    obtain ⟨l17_2, L17⟩ := s
    show zm_V X Y_X11_quarrel E (zm_Q X E Y_X11_quarrel.2.2.2.1.cells Y_X11_quarrel.2.2.2.1.slots (zm_w sv) zm_ei) 0 0 false (zm_w sv) 17 [(0, .ref (E.2.1 + 52)), (1, .int a1), (2, .int l17_2)] [] L17 (f_X11_quarrel_l17 l17_2 L17) f17
    unfold f_X11_quarrel_l17
    refine zm_iload_n 18 rfl dX11_quarrel_17 rfl 2 rfl ?_
    refine zm_bipush 20 rfl dX11_quarrel_18 zb_64 ?_
    refine zm_icmp_ge 36 23 (by decide) rfl dX11_quarrel_20 ?_ ?_
    · exact zm_loc [0, 1] rfl (zm_go (hf17b _) (zm_unb (hx36_17 L17)))
    · refine zm_aload_n 24 rfl dX11_quarrel_23 rfl 0 rfl ?_
      refine zm_getR (a := 94) 27 rfl dX11_quarrel_24 fl_X11_143 rfl (zm_L (sv := sv) rfl) rfl (by decide) ?_
      refine zm_iload_n 28 rfl dX11_quarrel_27 rfl 2 rfl ?_
      refine zm_iconst 29 rfl dX11_quarrel_28 zi_0 ?_
      refine zm_zast 30 rfl dX11_quarrel_29 rfl (zm_L (sv := sv) rfl) (fun M29 _ => ?_)
      refine zm_iinc (lv' := fun z => [(2, .int z), (0, .ref (E.2.1 + 52)), (1, .int a1)]) 33 rfl dX11_quarrel_30 zi_1 2 rfl (by decide) (fun _ => rfl) (fun x30 _ => ?_)
      refine zm_goto 17 (by decide) dX11_quarrel_33 ?_
      exact zm_loc [1, 2, 0] rfl (zm_go (hf17a _) (hD17 (x30, M29)))
abbrev Y_X11_fillsMayBe : zm_Y := (cX11_fillsMayBe, 3, RX11, { frames := 5, cells := 0, slots := 0, locals := 118 }, none, false, "fillsMayBe")
noncomputable def f_X11_fillsMayBe_b57_6 (l6_2 : Int32) (b57_s1 : Int32) (b57_s2 : Int32) (M57 : zm_Mem) : Option ((Int32 × zm_Mem) ⊕ zm_Mem) :=
 zm_ck (zm_in b57_s1 15625) <| zm_v (zm_sI M57 95 b57_s1.toNatClampNeg b57_s2) <| fun M57_1 => zm_v (l6_2 + 1) <| fun x58 => some (.inl (x58, M57_1))
noncomputable def f_X11_fillsMayBe_b55_6 (l6_2 : Int32) (b55_s1 : Int32) (M55 : zm_Mem) : Option ((Int32 × zm_Mem) ⊕ zm_Mem) :=
 f_X11_fillsMayBe_b57_6 l6_2 b55_s1 (-2) M55
noncomputable def f_X11_fillsMayBe_b51_6 (l6_2 : Int32) (b51_s1 : Int32) (M51 : zm_Mem) : Option ((Int32 × zm_Mem) ⊕ zm_Mem) :=
 f_X11_fillsMayBe_b57_6 l6_2 b51_s1 (-1) M51
noncomputable def f_X11_fillsMayBe_l6 (a1 : Int32) (l6_2 : Int32) (L6 : zm_Mem) : Option ((Int32 × zm_Mem) ⊕ zm_Mem) :=
 zm_ck (zm_in (L6.1 52 18) 2) <| zm_b1 (f_X11_fives (L6.1 66 (L6.1 52 18).toNatClampNeg) L6) <| fun r16 => if r16 ≤ l6_2 then (some (.inr L6)) else (zm_b2 (f_X11_hangs l6_2 L6) <| fun r29 M29 => if r29 = 0 then (f_X11_fillsMayBe_b55_6 l6_2 l6_2 M29) else (if a1 = 0 then (f_X11_fillsMayBe_b51_6 l6_2 l6_2 M29) else (zm_b2 (f_X11_brokenAll M29) <| fun r40 M40 => zm_b1 (f_X11_standing M40) <| fun r44 => if (r40 &&& r44) = 0 then (f_X11_fillsMayBe_b51_6 l6_2 l6_2 M40) else (f_X11_fillsMayBe_b55_6 l6_2 l6_2 M40))))
noncomputable def f_X11_fillsMayBe (a1 : Int32) (M : zm_Mem) : Option (Unit × zm_Mem) :=
  zm_b2 (f_X11_copies M) <| fun _ M1 => (zm_lp (fun s => f_X11_fillsMayBe_l6 a1 s.1 s.2) (0, M1)).bind (fun e64 => some ((), e64))
set_option maxRecDepth 20000 in
set_option maxHeartbeats 4000000 in
theorem k_X11_fillsMayBe (E : zm_E) (sv : Nat) (a1 : Int32) (M : zm_Mem) {r : Unit} {M' : zm_Mem} (h : f_X11_fillsMayBe a1 M = some (r, M')) : zm_Ct E (zm_w sv) (zm_w sv) yX11_fillsMayBe Y_X11_fillsMayBe [.ref (E.2.1 + 52), .int a1] M none M' := by
  refine zm_meth (emb := zm_ev) (d := f_X11_fillsMayBe a1 M) (by decide) rfl rfl (Nat.le_of_ble_eq_true rfl) h (fun X => ?_)
  show zm_V X Y_X11_fillsMayBe E (zm_Q X E Y_X11_fillsMayBe.2.2.2.1.cells Y_X11_fillsMayBe.2.2.2.1.slots (zm_w sv) zm_ev) 0 0 false (zm_w sv) 0 [(0, .ref (E.2.1 + 52)), (1, .int a1)] [] M (f_X11_fillsMayBe a1 M) some
  unfold f_X11_fillsMayBe
  refine zm_aload_n 1 rfl dX11_fillsMayBe_0 rfl 0 rfl ?_
  refine zm_cV0v 4 rfl dX11_fillsMayBe_1 ml_X11_388 rfl (zm_L (sv := sv) rfl) rfl (Nat.le_of_ble_eq_true rfl) ⟨Nat.le_of_ble_eq_true rfl, Nat.le_of_ble_eq_true rfl⟩ rfl rfl ⟨Nat.le_refl _, Nat.le_refl _⟩ rfl (fun _ _ h => k_X11_copies E sv M h) (fun _ M1 => ?_)
  refine zm_iconst 5 rfl dX11_fillsMayBe_4 zi_0 ?_
  refine zm_istore_n (lv' := [(2, .int 0), (0, .ref (E.2.1 + 52)), (1, .int a1)]) 6 rfl dX11_fillsMayBe_5 rfl (by decide) rfl ?_
  have hx64_6 : ∀ (N64 : zm_Mem), zm_V X Y_X11_fillsMayBe E (zm_Q X E Y_X11_fillsMayBe.2.2.2.1.cells Y_X11_fillsMayBe.2.2.2.1.slots (zm_w sv) zm_ev) 0 0 false (zm_w sv) 64 [] [] N64 (some ((), N64)) some := by
    intro N64
    exact zm_vret dX11_fillsMayBe_64 rfl (Nat.le_refl _) (Nat.le_refl _) rfl
  refine zm_loc [1, 2, 0] rfl (zm_lpp (σ := (Int32 × zm_Mem)) (ε := zm_Mem) (step := fun s => f_X11_fillsMayBe_l6 a1 s.1 s.2) (fun s => [(0, .ref (E.2.1 + 52)), (1, .int a1), (2, .int s.1)]) (fun s => s.2) (fun D6 f6 hf6a hf6b hD6 s => ?_) (0, M1))
  obtain ⟨l6_2, L6⟩ := s
  show zm_V X Y_X11_fillsMayBe E (zm_Q X E Y_X11_fillsMayBe.2.2.2.1.cells Y_X11_fillsMayBe.2.2.2.1.slots (zm_w sv) zm_ev) 0 0 false (zm_w sv) 6 [(0, .ref (E.2.1 + 52)), (1, .int a1), (2, .int l6_2)] [] L6 (f_X11_fillsMayBe_l6 a1 l6_2 L6) f6
  unfold f_X11_fillsMayBe_l6
  refine zm_iload_n 7 rfl dX11_fillsMayBe_6 rfl 2 rfl ?_
  refine zm_aload_n 8 rfl dX11_fillsMayBe_7 rfl 0 rfl ?_
  refine zm_getR (a := 66) 11 rfl dX11_fillsMayBe_8 fl_X11_58 rfl (zm_L (sv := sv) rfl) rfl (by decide) ?_
  refine zm_aload_n 12 rfl dX11_fillsMayBe_11 rfl 0 rfl ?_
  refine zm_getI 15 rfl dX11_fillsMayBe_12 fl_X11_251 rfl (zm_L (sv := sv) rfl) ?_
  refine zm_iald 16 rfl dX11_fillsMayBe_15 rfl (zm_L (sv := sv) rfl) ?_
  refine zm_cS1ir 19 rfl dX11_fillsMayBe_16 ml_X11_423 (Nat.le_of_ble_eq_true rfl) ⟨Nat.le_of_ble_eq_true rfl, Nat.le_of_ble_eq_true rfl⟩ rfl rfl ⟨Nat.le_refl _, Nat.le_refl _⟩ rfl (fun _ h => k_X11_fives E (zm_w sv) (L6.1 66 (L6.1 52 18).toNatClampNeg) L6 h) (fun r16 => ?_)
  refine zm_icmp_ge 64 22 (by decide) rfl dX11_fillsMayBe_19 ?_ ?_
  · exact zm_loc [] rfl (zm_go (hf6b _) (zm_unb (hx64_6 L6)))
  · refine zm_aload_n 23 rfl dX11_fillsMayBe_22 rfl 0 rfl ?_
    refine zm_getR (a := 95) 26 rfl dX11_fillsMayBe_23 fl_X11_146 rfl (zm_L (sv := sv) rfl) rfl (by decide) ?_
    refine zm_iload_n 27 rfl dX11_fillsMayBe_26 rfl 2 rfl ?_
    refine zm_aload_n 28 rfl dX11_fillsMayBe_27 rfl 0 rfl ?_
    refine zm_iload_n 29 rfl dX11_fillsMayBe_28 rfl 2 rfl ?_
    refine zm_cV1i 32 rfl dX11_fillsMayBe_29 ml_X11_429 rfl (zm_L (sv := sv) rfl) rfl (Nat.le_of_ble_eq_true rfl) ⟨Nat.le_of_ble_eq_true rfl, Nat.le_of_ble_eq_true rfl⟩ rfl rfl ⟨Nat.le_refl _, Nat.le_refl _⟩ rfl (fun _ _ h => k_X11_hangs E sv l6_2 L6 h) (fun r29 M29 => ?_)
    have hb57_6 : ∀ (b57_s1 : Int32) (b57_s2 : Int32) (M57 : zm_Mem), zm_V X Y_X11_fillsMayBe E (zm_Q X E Y_X11_fillsMayBe.2.2.2.1.cells Y_X11_fillsMayBe.2.2.2.1.slots (zm_w sv) zm_ev) 0 0 false (zm_w sv) 57 [(0, .ref (E.2.1 + 52)), (1, .int a1), (2, .int l6_2)] [.int b57_s2, .int b57_s1, .ref (E.2.1 + 95)] M57 (f_X11_fillsMayBe_b57_6 l6_2 b57_s1 b57_s2 M57) f6 := by
      intro b57_s1 b57_s2 M57
      unfold f_X11_fillsMayBe_b57_6
      refine zm_iast 58 rfl dX11_fillsMayBe_57 rfl (zm_L (sv := sv) rfl) (fun M57_1 _ => ?_)
      refine zm_iinc (lv' := fun z => [(2, .int z), (0, .ref (E.2.1 + 52)), (1, .int a1)]) 61 rfl dX11_fillsMayBe_58 zi_1 2 rfl (by decide) (fun _ => rfl) (fun x58 _ => ?_)
      refine zm_goto 6 (by decide) dX11_fillsMayBe_61 ?_
      exact zm_loc [1, 2, 0] rfl (zm_go (hf6a _) (hD6 (x58, M57_1)))
    have hb55_6 : ∀ (b55_s1 : Int32) (M55 : zm_Mem), zm_V X Y_X11_fillsMayBe E (zm_Q X E Y_X11_fillsMayBe.2.2.2.1.cells Y_X11_fillsMayBe.2.2.2.1.slots (zm_w sv) zm_ev) 0 0 false (zm_w sv) 55 [(0, .ref (E.2.1 + 52)), (1, .int a1), (2, .int l6_2)] [.int b55_s1, .ref (E.2.1 + 95)] M55 (f_X11_fillsMayBe_b55_6 l6_2 b55_s1 M55) f6 := by
      intro b55_s1 M55
      unfold f_X11_fillsMayBe_b55_6
      refine zm_bipush 57 rfl dX11_fillsMayBe_55 zb_m2 ?_
      exact zm_loc [0, 1, 2] rfl (hb57_6 b55_s1 (-2) M55)
    refine zm_if_eq 55 35 (by decide) rfl dX11_fillsMayBe_32 ?_ ?_
    · exact zm_loc [0, 1, 2] rfl (hb55_6 l6_2 M29)
    · refine zm_iload_n 36 rfl dX11_fillsMayBe_35 rfl 1 rfl ?_
      have hb51_6 : ∀ (b51_s1 : Int32) (M51 : zm_Mem), zm_V X Y_X11_fillsMayBe E (zm_Q X E Y_X11_fillsMayBe.2.2.2.1.cells Y_X11_fillsMayBe.2.2.2.1.slots (zm_w sv) zm_ev) 0 0 false (zm_w sv) 51 [(0, .ref (E.2.1 + 52)), (1, .int a1), (2, .int l6_2)] [.int b51_s1, .ref (E.2.1 + 95)] M51 (f_X11_fillsMayBe_b51_6 l6_2 b51_s1 M51) f6 := by
        intro b51_s1 M51
        unfold f_X11_fillsMayBe_b51_6
        refine zm_iconst 52 rfl dX11_fillsMayBe_51 zi_m1 ?_
        refine zm_goto 57 (by decide) dX11_fillsMayBe_52 ?_
        exact zm_loc [0, 1, 2] rfl (hb57_6 b51_s1 (-1) M51)
      refine zm_if_eq 51 39 (by decide) rfl dX11_fillsMayBe_36 ?_ ?_
      · exact zm_loc [0, 1, 2] rfl (hb51_6 l6_2 M29)
      · refine zm_aload_n 40 rfl dX11_fillsMayBe_39 rfl 0 rfl ?_
        refine zm_cV0i 43 rfl dX11_fillsMayBe_40 ml_X11_432 rfl (zm_L (sv := sv) rfl) rfl (Nat.le_of_ble_eq_true rfl) ⟨Nat.le_of_ble_eq_true rfl, Nat.le_of_ble_eq_true rfl⟩ rfl rfl ⟨Nat.le_refl _, Nat.le_refl _⟩ rfl (fun _ _ h => k_X11_brokenAll E sv M29 h) (fun r40 M40 => ?_)
        refine zm_aload_n 44 rfl dX11_fillsMayBe_43 rfl 0 rfl ?_
        refine zm_cV0ir 47 rfl dX11_fillsMayBe_44 ml_X11_372 rfl (zm_L (sv := sv) rfl) rfl (Nat.le_of_ble_eq_true rfl) ⟨Nat.le_of_ble_eq_true rfl, Nat.le_of_ble_eq_true rfl⟩ rfl rfl ⟨Nat.le_refl _, Nat.le_refl _⟩ rfl (fun _ h => k_X11_standing E sv M40 h) (fun r44 => ?_)
        refine zm_iand 48 rfl dX11_fillsMayBe_47 ?_
        refine zm_if_ne 55 51 (by decide) rfl dX11_fillsMayBe_48 ?_ ?_
        · exact zm_loc [0, 1, 2] rfl (hb51_6 l6_2 M40)
        · exact zm_loc [0, 1, 2] rfl (hb55_6 l6_2 M40)
abbrev Y_X11_isNextTo : zm_Y := (cX11_isNextTo, 7, RX11, { frames := 2, cells := 0, slots := 0, locals := 44 }, (some .boolean), false, "isNextTo")
noncomputable def f_X11_isNextTo_b86_44_2 (l44_6 : Int32) : Option (Int32 ⊕ (Unit ⊕ Unit)) :=
 zm_v (l44_6 + 1) <| fun x86 => some (.inl x86)
noncomputable def f_X11_isNextTo_l44_2 (a1 : Int32) (a2 : Int32) (M : zm_Mem) (r28 : Int32) (r36 : Int32) (l44_6 : Int32) : Option (Int32 ⊕ (Unit ⊕ Unit)) :=
 zm_ck (zm_in (M.1 52 18) 2) <| if (M.1 63 (M.1 52 18).toNatClampNeg) ≤ l44_6 then (some (.inr (.inr ()))) else (if l44_6 = r36 then (f_X11_isNextTo_b86_44_2 l44_6) else (zm_ck (zm_in (a1 + ((l44_6 - r36) * r28)) 15625) <| if (M.1 95 (a1 + ((l44_6 - r36) * r28)).toNatClampNeg) = a2 then (some (.inr (.inl ()))) else (f_X11_isNextTo_b86_44_2 l44_6)))
noncomputable def f_X11_isNextTo_l2 (a1 : Int32) (a2 : Int32) (M : zm_Mem) (l2_3 : Int32) : Option (Int32 ⊕ (Unit ⊕ Unit)) :=
 zm_ck (zm_in (M.1 52 18) 2) <| if (M.1 66 (M.1 52 18).toNatClampNeg) ≤ l2_3 then (some (.inr (.inr ()))) else (zm_ck (zm_in (M.1 52 18) 2) <| zm_b1 (f_X11_fives (((M.1 66 (M.1 52 18).toNatClampNeg) - 1) - l2_3) M) <| fun r28 => zm_b1 (f_X11_houseIn a1 l2_3 M) <| fun r36 => (zm_lp (f_X11_isNextTo_l44_2 a1 a2 M r28 r36) 0).bind (Sum.elim (fun _ => some (.inr (.inl ()))) (fun _ => zm_v (l2_3 + 1) <| fun x92 => some (.inl x92))))
noncomputable def f_X11_isNextTo (a1 : Int32) (a2 : Int32) (M : zm_Mem) : Option Int32 :=
  (zm_lp (f_X11_isNextTo_l2 a1 a2 M) 0).bind (Sum.elim (fun _ => some 1) (fun _ => some 0))
set_option maxRecDepth 20000 in
set_option maxHeartbeats 4000000 in
theorem k_X11_isNextTo (E : zm_E) (sv : Nat) (a1 : Int32) (a2 : Int32) (M : zm_Mem) {r : Int32} (h : f_X11_isNextTo a1 a2 M = some r) : zm_Ct E (zm_w sv) (zm_w sv) yX11_isNextTo Y_X11_isNextTo [.ref (E.2.1 + 52), .int a1, .int a2] M (some (.int r)) M := by
  refine zm_methr (emb := zm_ei) (d := f_X11_isNextTo a1 a2 M) (by decide) rfl rfl (Nat.le_of_ble_eq_true rfl) h (fun X => ?_)
  show zm_V X Y_X11_isNextTo E (zm_Q X E Y_X11_isNextTo.2.2.2.1.cells Y_X11_isNextTo.2.2.2.1.slots (zm_w sv) zm_ei) 0 0 false (zm_w sv) 0 [(0, .ref (E.2.1 + 52)), (1, .int a1), (2, .int a2)] [] M (f_X11_isNextTo a1 a2 M) (fun r => some (r, M))
  unfold f_X11_isNextTo
  refine zm_iconst 1 rfl dX11_isNextTo_0 zi_0 ?_
  refine zm_istore_n (lv' := [(3, .int 0), (0, .ref (E.2.1 + 52)), (1, .int a1), (2, .int a2)]) 2 rfl dX11_isNextTo_1 rfl (by decide) rfl ?_
  have hx84_2 : zm_V X Y_X11_isNextTo E (zm_Q X E Y_X11_isNextTo.2.2.2.1.cells Y_X11_isNextTo.2.2.2.1.slots (zm_w sv) zm_ei) 0 0 false (zm_w sv) 84 [] [] M (some 1) (fun r => some (r, M)) := by
    refine zm_iconst 85 rfl dX11_isNextTo_84 zi_1 ?_
    exact zm_zret dX11_isNextTo_85 rfl rfl (Nat.le_refl _) (Nat.le_refl _) rfl
  have hx98_2 : zm_V X Y_X11_isNextTo E (zm_Q X E Y_X11_isNextTo.2.2.2.1.cells Y_X11_isNextTo.2.2.2.1.slots (zm_w sv) zm_ei) 0 0 false (zm_w sv) 98 [] [] M (some 0) (fun r => some (r, M)) := by
    refine zm_iconst 99 rfl dX11_isNextTo_98 zi_0 ?_
    exact zm_zret dX11_isNextTo_99 rfl rfl (Nat.le_refl _) (Nat.le_refl _) rfl
  refine zm_loc [1, 2, 3, 0] rfl (zm_lpp (σ := Int32) (ε := (Unit ⊕ Unit)) (step := f_X11_isNextTo_l2 a1 a2 M) (fun s => [(0, .ref (E.2.1 + 52)), (1, .int a1), (2, .int a2), (3, .int s)]) (fun _ => M) (fun D2 f2 hf2a hf2b hD2 s => ?_) 0)
  obtain ⟨l2_3, hq2⟩ : ∃ q, q = s := ⟨_, rfl⟩
  rw [← hq2]
  show zm_V X Y_X11_isNextTo E (zm_Q X E Y_X11_isNextTo.2.2.2.1.cells Y_X11_isNextTo.2.2.2.1.slots (zm_w sv) zm_ei) 0 0 false (zm_w sv) 2 [(0, .ref (E.2.1 + 52)), (1, .int a1), (2, .int a2), (3, .int l2_3)] [] M (f_X11_isNextTo_l2 a1 a2 M l2_3) f2
  unfold f_X11_isNextTo_l2
  refine zm_iload_n 3 rfl dX11_isNextTo_2 rfl 3 rfl ?_
  refine zm_aload_n 4 rfl dX11_isNextTo_3 rfl 0 rfl ?_
  refine zm_getR (a := 66) 7 rfl dX11_isNextTo_4 fl_X11_58 rfl (zm_L (sv := sv) rfl) rfl (by decide) ?_
  refine zm_aload_n 8 rfl dX11_isNextTo_7 rfl 0 rfl ?_
  refine zm_getI 11 rfl dX11_isNextTo_8 fl_X11_251 rfl (zm_L (sv := sv) rfl) ?_
  refine zm_iald 12 rfl dX11_isNextTo_11 rfl (zm_L (sv := sv) rfl) ?_
  refine zm_icmp_ge 98 15 (by decide) rfl dX11_isNextTo_12 ?_ ?_
  · exact zm_loc [] rfl (zm_go (hf2b _) (zm_unb (hx98_2)))
  · refine zm_aload_n 16 rfl dX11_isNextTo_15 rfl 0 rfl ?_
    refine zm_getR (a := 66) 19 rfl dX11_isNextTo_16 fl_X11_58 rfl (zm_L (sv := sv) rfl) rfl (by decide) ?_
    refine zm_aload_n 20 rfl dX11_isNextTo_19 rfl 0 rfl ?_
    refine zm_getI 23 rfl dX11_isNextTo_20 fl_X11_251 rfl (zm_L (sv := sv) rfl) ?_
    refine zm_iald 24 rfl dX11_isNextTo_23 rfl (zm_L (sv := sv) rfl) ?_
    refine zm_iconst 25 rfl dX11_isNextTo_24 zi_1 ?_
    refine zm_isub 26 rfl dX11_isNextTo_25 ?_
    refine zm_iload_n 27 rfl dX11_isNextTo_26 rfl 3 rfl ?_
    refine zm_isub 28 rfl dX11_isNextTo_27 ?_
    refine zm_cS1ir 31 rfl dX11_isNextTo_28 ml_X11_423 (Nat.le_of_ble_eq_true rfl) ⟨Nat.le_of_ble_eq_true rfl, Nat.le_of_ble_eq_true rfl⟩ rfl rfl ⟨Nat.le_refl _, Nat.le_refl _⟩ rfl (fun _ h => k_X11_fives E (zm_w sv) (((M.1 66 (M.1 52 18).toNatClampNeg) - 1) - l2_3) M h) (fun r28 => ?_)
    refine zm_istore (lv' := [(4, .int r28), (0, .ref (E.2.1 + 52)), (1, .int a1), (2, .int a2), (3, .int l2_3)]) 33 rfl dX11_isNextTo_31 (by decide) rfl ?_
    refine zm_aload_n 34 rfl dX11_isNextTo_33 rfl 1 rfl ?_
    refine zm_iload_n 35 rfl dX11_isNextTo_34 rfl 2 rfl ?_
    refine zm_iload_n 36 rfl dX11_isNextTo_35 rfl 4 rfl ?_
    refine zm_cV2ir 39 rfl dX11_isNextTo_36 ml_X11_426 rfl (zm_L (sv := sv) rfl) rfl (Nat.le_of_ble_eq_true rfl) ⟨Nat.le_of_ble_eq_true rfl, Nat.le_of_ble_eq_true rfl⟩ rfl rfl ⟨Nat.le_refl _, Nat.le_refl _⟩ rfl (fun _ h => k_X11_houseIn E sv a1 l2_3 M h) (fun r36 => ?_)
    refine zm_istore (lv' := [(5, .int r36), (4, .int r28), (0, .ref (E.2.1 + 52)), (1, .int a1), (2, .int a2), (3, .int l2_3)]) 41 rfl dX11_isNextTo_39 (by decide) rfl ?_
    refine zm_iconst 42 rfl dX11_isNextTo_41 zi_0 ?_
    refine zm_istore (lv' := [(6, .int 0), (5, .int r36), (4, .int r28), (0, .ref (E.2.1 + 52)), (1, .int a1), (2, .int a2), (3, .int l2_3)]) 44 rfl dX11_isNextTo_42 (by decide) rfl ?_
    have hx84_44_2 : zm_V X Y_X11_isNextTo E (zm_Q X E Y_X11_isNextTo.2.2.2.1.cells Y_X11_isNextTo.2.2.2.1.slots (zm_w sv) zm_ei) 0 0 false (zm_w sv) 84 [] [] M (some (.inr (.inl ()))) f2 := by
      exact zm_loc [] rfl (zm_go (hf2b _) (zm_unb (hx84_2)))
    have hx92_44_2 : zm_V X Y_X11_isNextTo E (zm_Q X E Y_X11_isNextTo.2.2.2.1.cells Y_X11_isNextTo.2.2.2.1.slots (zm_w sv) zm_ei) 0 0 false (zm_w sv) 92 [(0, .ref (E.2.1 + 52)), (1, .int a1), (2, .int a2), (3, .int l2_3)] [] M (zm_v (l2_3 + 1) <| fun x92 => some (.inl x92)) f2 := by
      refine zm_iinc (lv' := fun z => [(3, .int z), (0, .ref (E.2.1 + 52)), (1, .int a1), (2, .int a2)]) 95 rfl dX11_isNextTo_92 zi_1 3 rfl (by decide) (fun _ => rfl) (fun x92 _ => ?_)
      refine zm_goto 2 (by decide) dX11_isNextTo_95 ?_
      exact zm_loc [1, 2, 3, 0] rfl (zm_go (hf2a _) (hD2 x92))
    refine zm_loc [3, 4, 5, 6, 2, 1, 0] rfl (zm_lpp (σ := Int32) (ε := (Unit ⊕ Unit)) (step := f_X11_isNextTo_l44_2 a1 a2 M r28 r36) (fun s => [(0, .ref (E.2.1 + 52)), (1, .int a1), (2, .int a2), (3, .int l2_3), (4, .int r28), (5, .int r36), (6, .int s)]) (fun _ => M) (fun D44_2 f44_2 hf44_2a hf44_2b hD44_2 s => ?_) 0)
    obtain ⟨l44_6, hq44_2⟩ : ∃ q, q = s := ⟨_, rfl⟩
    rw [← hq44_2]
    show zm_V X Y_X11_isNextTo E (zm_Q X E Y_X11_isNextTo.2.2.2.1.cells Y_X11_isNextTo.2.2.2.1.slots (zm_w sv) zm_ei) 0 0 false (zm_w sv) 44 [(0, .ref (E.2.1 + 52)), (1, .int a1), (2, .int a2), (3, .int l2_3), (4, .int r28), (5, .int r36), (6, .int l44_6)] [] M (f_X11_isNextTo_l44_2 a1 a2 M r28 r36 l44_6) f44_2
    unfold f_X11_isNextTo_l44_2
    refine zm_iload 46 rfl dX11_isNextTo_44 6 rfl ?_
    refine zm_aload_n 47 rfl dX11_isNextTo_46 rfl 0 rfl ?_
    refine zm_getR (a := 63) 50 rfl dX11_isNextTo_47 fl_X11_49 rfl (zm_L (sv := sv) rfl) rfl (by decide) ?_
    refine zm_aload_n 51 rfl dX11_isNextTo_50 rfl 0 rfl ?_
    refine zm_getI 54 rfl dX11_isNextTo_51 fl_X11_251 rfl (zm_L (sv := sv) rfl) ?_
    refine zm_iald 55 rfl dX11_isNextTo_54 rfl (zm_L (sv := sv) rfl) ?_
    refine zm_icmp_ge 92 58 (by decide) rfl dX11_isNextTo_55 ?_ ?_
    · exact zm_loc [0, 1, 2, 3] rfl (zm_go (hf44_2b _) (zm_unb (hx92_44_2)))
    · refine zm_iload 60 rfl dX11_isNextTo_58 6 rfl ?_
      refine zm_iload 62 rfl dX11_isNextTo_60 5 rfl ?_
      have hb86_44_2 : zm_V X Y_X11_isNextTo E (zm_Q X E Y_X11_isNextTo.2.2.2.1.cells Y_X11_isNextTo.2.2.2.1.slots (zm_w sv) zm_ei) 0 0 false (zm_w sv) 86 [(0, .ref (E.2.1 + 52)), (1, .int a1), (2, .int a2), (3, .int l2_3), (4, .int r28), (5, .int r36), (6, .int l44_6)] [] M (f_X11_isNextTo_b86_44_2 l44_6) f44_2 := by
        unfold f_X11_isNextTo_b86_44_2
        refine zm_iinc (lv' := fun z => [(6, .int z), (0, .ref (E.2.1 + 52)), (1, .int a1), (2, .int a2), (3, .int l2_3), (4, .int r28), (5, .int r36)]) 89 rfl dX11_isNextTo_86 zi_1 6 rfl (by decide) (fun _ => rfl) (fun x86 _ => ?_)
        refine zm_goto 44 (by decide) dX11_isNextTo_89 ?_
        exact zm_loc [1, 2, 3, 4, 5, 6, 0] rfl (zm_go (hf44_2a _) (hD44_2 x86))
      refine zm_icmp_eq 86 65 (by decide) rfl dX11_isNextTo_62 ?_ ?_
      · exact zm_loc [0, 1, 2, 3, 4, 5, 6] rfl (hb86_44_2)
      · refine zm_aload_n 66 rfl dX11_isNextTo_65 rfl 0 rfl ?_
        refine zm_getR (a := 95) 69 rfl dX11_isNextTo_66 fl_X11_146 rfl (zm_L (sv := sv) rfl) rfl (by decide) ?_
        refine zm_iload_n 70 rfl dX11_isNextTo_69 rfl 1 rfl ?_
        refine zm_iload 72 rfl dX11_isNextTo_70 6 rfl ?_
        refine zm_iload 74 rfl dX11_isNextTo_72 5 rfl ?_
        refine zm_isub 75 rfl dX11_isNextTo_74 ?_
        refine zm_iload 77 rfl dX11_isNextTo_75 4 rfl ?_
        refine zm_imul 78 rfl dX11_isNextTo_77 ?_
        refine zm_iadd 79 rfl dX11_isNextTo_78 ?_
        refine zm_iald 80 rfl dX11_isNextTo_79 rfl (zm_L (sv := sv) rfl) ?_
        refine zm_iload_n 81 rfl dX11_isNextTo_80 rfl 2 rfl ?_
        refine zm_icmp_ne 86 84 (by decide) rfl dX11_isNextTo_81 ?_ ?_
        · exact zm_loc [] rfl (zm_go (hf44_2b _) (zm_unb (hx84_44_2)))
        · exact zm_loc [0, 1, 2, 3, 4, 5, 6] rfl (hb86_44_2)
abbrev Y_X11_home : zm_Y := (cX11_home, 7, RX11, { frames := 6, cells := 0, slots := 0, locals := 140 }, (some .int), false, "home")
noncomputable def f_X11_home_x191_112 (e73_3 : Int32) (N191 : zm_Mem) : Option (Int32 × zm_Mem) :=
 zm_ck (zm_in e73_3 15625) <| if 0 ≤ (N191.1 95 e73_3.toNatClampNeg) then (zm_ck (zm_in e73_3 15625) <| some (N191.1 95 e73_3.toNatClampNeg, N191)) else (some ((-2), N191))
noncomputable def f_X11_home_x185_123_112 (l112_5 : Int32) (e185_4 : Int32) (N185 : zm_Mem) : Option ((Int32 × Int32 × zm_Mem) ⊕ zm_Mem) :=
 zm_v (l112_5 + 1) <| fun x185 => some (.inl (e185_4, x185, N185))
noncomputable def f_X11_home_b179_123_112 (l123_6 : Int32) (b179_4 : Int32) (M179 : zm_Mem) : Option ((Int32 × Int32 × zm_Mem) ⊕ (Int32 × zm_Mem)) :=
 zm_v (l123_6 + 1) <| fun x179 => some (.inl (b179_4, x179, M179))
noncomputable def f_X11_home_l123_112 (l112_5 : Int32) (l123_4 : Int32) (l123_6 : Int32) (L123 : zm_Mem) : Option ((Int32 × Int32 × zm_Mem) ⊕ (Int32 × zm_Mem)) :=
 zm_ck (zm_in (L123.1 52 18) 2) <| zm_b1 (f_X11_fives (L123.1 66 (L123.1 52 18).toNatClampNeg) L123) <| fun r134 => if r134 ≤ l123_6 then (some (.inr (l123_4, L123))) else (zm_ck (zm_in l123_6 15625) <| if (L123.1 95 l123_6.toNatClampNeg) = (-1 : Int32) then (zm_b1 (f_X11_isNextTo l123_6 (l112_5 - 1) L123) <| fun r158 => if r158 = 0 then (f_X11_home_b179_123_112 l123_6 l123_4 L123) else (zm_ck (zm_in l123_6 15625) <| zm_v (zm_sI L123 95 l123_6.toNatClampNeg l112_5) <| fun M175 => f_X11_home_b179_123_112 l123_6 1 M175)) else (f_X11_home_b179_123_112 l123_6 l123_4 L123))
noncomputable def f_X11_home_l112 (l112_4 : Int32) (l112_5 : Int32) (L112 : zm_Mem) : Option ((Int32 × Int32 × zm_Mem) ⊕ zm_Mem) :=
 if l112_4 = 0 then (some (.inr L112)) else ((zm_lp (fun s => f_X11_home_l123_112 l112_5 s.1 s.2.1 s.2.2) (0, 0, L112)).bind (fun e185 => f_X11_home_x185_123_112 l112_5 e185.1 e185.2))
noncomputable def f_X11_home_x73_7 (a1 : Int32) (M : zm_Mem) (e73_2 : Int32) (e73_3 : Int32) : Option (Int32 × zm_Mem) :=
 if e73_2 = e73_3 then (some (0, M)) else (zm_b2 (f_X11_fillsMayBe a1 M) <| fun _ M82 => zm_ck (zm_in e73_3 15625) <| if (M82.1 95 e73_3.toNatClampNeg) = (-2 : Int32) then (some ((-2), M82)) else (zm_ck (zm_in e73_2 15625) <| zm_v (zm_sI M82 95 e73_2.toNatClampNeg 0) <| fun M105 => (zm_lp (fun s => f_X11_home_l112 s.1 s.2.1 s.2.2) (1, 1, M105)).bind (fun e191 => f_X11_home_x191_112 e73_3 e191)))
noncomputable def f_X11_home_b54_7 (M : zm_Mem) (l7_3 : Int32) (l7_4 : Int32) (b54_s0 : Int32) (b54_s1 : Int32) : Option ((Int32 × Int32 × Int32) ⊕ (Int32 × Int32)) :=
 zm_v (b54_s0 + b54_s1) <| fun x55 => zm_b1 (f_X11_ownerNow l7_4 M) <| fun r62 => zm_v ((5 * l7_3) + r62) <| fun x66 => zm_v (l7_4 + 1) <| fun x67 => some (.inl (x55, x66, x67))
noncomputable def f_X11_home_l7 (M : zm_Mem) (l7_2 : Int32) (l7_3 : Int32) (l7_4 : Int32) : Option ((Int32 × Int32 × Int32) ⊕ (Int32 × Int32)) :=
 zm_ck (zm_in (M.1 52 18) 2) <| if (M.1 66 (M.1 52 18).toNatClampNeg) ≤ l7_4 then (some (.inr (l7_2, l7_3))) else (zm_ck (zm_in l7_4 60) <| if 0 ≤ (M.1 91 l7_4.toNatClampNeg) then (zm_ck (zm_in l7_4 60) <| f_X11_home_b54_7 M l7_3 l7_4 (5 * l7_2) (M.1 91 l7_4.toNatClampNeg)) else (zm_ck (zm_in (6 + l7_4) 60) <| f_X11_home_b54_7 M l7_3 l7_4 (5 * l7_2) (M.1 91 (6 + l7_4).toNatClampNeg)))
noncomputable def f_X11_home (a1 : Int32) (M : zm_Mem) : Option (Int32 × zm_Mem) :=
  (zm_lp (fun s => f_X11_home_l7 M s.1 s.2.1 s.2.2) (0, 0, 0)).bind (fun e73 => f_X11_home_x73_7 a1 M e73.1 e73.2)
set_option maxRecDepth 20000 in
set_option maxHeartbeats 4000000 in
theorem k_X11_home (E : zm_E) (sv : Nat) (a1 : Int32) (M : zm_Mem) {r : Int32} {M' : zm_Mem} (h : f_X11_home a1 M = some (r, M')) : zm_Ct E (zm_w sv) (zm_w sv) yX11_home Y_X11_home [.ref (E.2.1 + 52), .int a1] M (some (.int r)) M' := by
  refine zm_meth (emb := zm_ei) (d := f_X11_home a1 M) (by decide) rfl rfl (Nat.le_of_ble_eq_true rfl) h (fun X => ?_)
  show zm_V X Y_X11_home E (zm_Q X E Y_X11_home.2.2.2.1.cells Y_X11_home.2.2.2.1.slots (zm_w sv) zm_ei) 0 0 false (zm_w sv) 0 [(0, .ref (E.2.1 + 52)), (1, .int a1)] [] M (f_X11_home a1 M) some
  unfold f_X11_home
  refine zm_iconst 1 rfl dX11_home_0 zi_0 ?_
  refine zm_istore_n (lv' := [(2, .int 0), (0, .ref (E.2.1 + 52)), (1, .int a1)]) 2 rfl dX11_home_1 rfl (by decide) rfl ?_
  refine zm_iconst 3 rfl dX11_home_2 zi_0 ?_
  refine zm_istore_n (lv' := [(3, .int 0), (2, .int 0), (0, .ref (E.2.1 + 52)), (1, .int a1)]) 4 rfl dX11_home_3 rfl (by decide) rfl ?_
  refine zm_iconst 5 rfl dX11_home_4 zi_0 ?_
  refine zm_istore (lv' := [(4, .int 0), (3, .int 0), (2, .int 0), (0, .ref (E.2.1 + 52)), (1, .int a1)]) 7 rfl dX11_home_5 (by decide) rfl ?_
  have hx73_7 : ∀ (e73_2 : Int32) (e73_3 : Int32), zm_V X Y_X11_home E (zm_Q X E Y_X11_home.2.2.2.1.cells Y_X11_home.2.2.2.1.slots (zm_w sv) zm_ei) 0 0 false (zm_w sv) 73 [(0, .ref (E.2.1 + 52)), (1, .int a1), (2, .int e73_2), (3, .int e73_3)] [] M (f_X11_home_x73_7 a1 M e73_2 e73_3) some := by
    intro e73_2 e73_3
    unfold f_X11_home_x73_7
    refine zm_iload_n 74 rfl dX11_home_73 rfl 2 rfl ?_
    refine zm_iload_n 75 rfl dX11_home_74 rfl 3 rfl ?_
    refine zm_icmp_ne 80 78 (by decide) rfl dX11_home_75 ?_ ?_
    · refine zm_iconst 79 rfl dX11_home_78 zi_0 ?_
      exact zm_iret dX11_home_79 rfl (Nat.le_refl _) (Nat.le_refl _) rfl
    · refine zm_aload_n 81 rfl dX11_home_80 rfl 0 rfl ?_
      refine zm_iload_n 82 rfl dX11_home_81 rfl 1 rfl ?_
      refine zm_cV1v 85 rfl dX11_home_82 ml_X11_444 rfl (zm_L (sv := sv) rfl) rfl (Nat.le_of_ble_eq_true rfl) ⟨Nat.le_of_ble_eq_true rfl, Nat.le_of_ble_eq_true rfl⟩ rfl rfl ⟨Nat.le_refl _, Nat.le_refl _⟩ rfl (fun _ _ h => k_X11_fillsMayBe E sv a1 M h) (fun _ M82 => ?_)
      refine zm_aload_n 86 rfl dX11_home_85 rfl 0 rfl ?_
      refine zm_getR (a := 95) 89 rfl dX11_home_86 fl_X11_146 rfl (zm_L (sv := sv) rfl) rfl (by decide) ?_
      refine zm_iload_n 90 rfl dX11_home_89 rfl 3 rfl ?_
      refine zm_iald 91 rfl dX11_home_90 rfl (zm_L (sv := sv) rfl) ?_
      refine zm_bipush 93 rfl dX11_home_91 zb_m2 ?_
      refine zm_icmp_ne 99 96 (by decide) rfl dX11_home_93 ?_ ?_
      · refine zm_bipush 98 rfl dX11_home_96 zb_m2 ?_
        exact zm_iret dX11_home_98 rfl (Nat.le_refl _) (Nat.le_refl _) rfl
      · refine zm_aload_n 100 rfl dX11_home_99 rfl 0 rfl ?_
        refine zm_getR (a := 95) 103 rfl dX11_home_100 fl_X11_146 rfl (zm_L (sv := sv) rfl) rfl (by decide) ?_
        refine zm_iload_n 104 rfl dX11_home_103 rfl 2 rfl ?_
        refine zm_iconst 105 rfl dX11_home_104 zi_0 ?_
        refine zm_iast 106 rfl dX11_home_105 rfl (zm_L (sv := sv) rfl) (fun M105 _ => ?_)
        refine zm_iconst 107 rfl dX11_home_106 zi_1 ?_
        refine zm_istore (lv' := [(4, .int 1), (0, .ref (E.2.1 + 52)), (1, .int a1), (2, .int e73_2), (3, .int e73_3)]) 109 rfl dX11_home_107 (by decide) rfl ?_
        refine zm_iconst 110 rfl dX11_home_109 zi_1 ?_
        refine zm_istore (lv' := [(5, .int 1), (4, .int 1), (0, .ref (E.2.1 + 52)), (1, .int a1), (2, .int e73_2), (3, .int e73_3)]) 112 rfl dX11_home_110 (by decide) rfl ?_
        have hx191_112 : ∀ (N191 : zm_Mem), zm_V X Y_X11_home E (zm_Q X E Y_X11_home.2.2.2.1.cells Y_X11_home.2.2.2.1.slots (zm_w sv) zm_ei) 0 0 false (zm_w sv) 191 [(0, .ref (E.2.1 + 52)), (3, .int e73_3)] [] N191 (f_X11_home_x191_112 e73_3 N191) some := by
          intro N191
          unfold f_X11_home_x191_112
          refine zm_aload_n 192 rfl dX11_home_191 rfl 0 rfl ?_
          refine zm_getR (a := 95) 195 rfl dX11_home_192 fl_X11_146 rfl (zm_L (sv := sv) rfl) rfl (by decide) ?_
          refine zm_iload_n 196 rfl dX11_home_195 rfl 1 rfl ?_
          refine zm_iald 197 rfl dX11_home_196 rfl (zm_L (sv := sv) rfl) ?_
          refine zm_if_ge 205 200 (by decide) rfl dX11_home_197 ?_ ?_
          · refine zm_aload_n 206 rfl dX11_home_205 rfl 0 rfl ?_
            refine zm_getR (a := 95) 209 rfl dX11_home_206 fl_X11_146 rfl (zm_L (sv := sv) rfl) rfl (by decide) ?_
            refine zm_iload_n 210 rfl dX11_home_209 rfl 1 rfl ?_
            refine zm_iald 211 rfl dX11_home_210 rfl (zm_L (sv := sv) rfl) ?_
            exact zm_iret dX11_home_211 rfl (Nat.le_refl _) (Nat.le_refl _) rfl
          · refine zm_bipush 202 rfl dX11_home_200 zb_m2 ?_
            refine zm_goto 211 (by decide) dX11_home_202 ?_
            exact zm_iret dX11_home_211 rfl (Nat.le_refl _) (Nat.le_refl _) rfl
        refine zm_loc [2, 5, 1, 0] rfl (zm_lpp (σ := (Int32 × Int32 × zm_Mem)) (ε := zm_Mem) (step := fun s => f_X11_home_l112 s.1 s.2.1 s.2.2) (fun s => [(0, .ref (E.2.1 + 52)), (3, .int e73_3), (4, .int s.1), (5, .int s.2.1)]) (fun s => s.2.2) (fun D112 f112 hf112a hf112b hD112 s => ?_) (1, 1, M105))
        obtain ⟨l112_4, l112_5, L112⟩ := s
        show zm_V X Y_X11_home E (zm_Q X E Y_X11_home.2.2.2.1.cells Y_X11_home.2.2.2.1.slots (zm_w sv) zm_ei) 0 0 false (zm_w sv) 112 [(0, .ref (E.2.1 + 52)), (3, .int e73_3), (4, .int l112_4), (5, .int l112_5)] [] L112 (f_X11_home_l112 l112_4 l112_5 L112) f112
        unfold f_X11_home_l112
        refine zm_iload 114 rfl dX11_home_112 2 rfl ?_
        refine zm_if_eq 191 117 (by decide) rfl dX11_home_114 ?_ ?_
        · exact zm_loc [0, 1] rfl (zm_go (hf112b _) (zm_unb (hx191_112 L112)))
        · refine zm_iconst 118 rfl dX11_home_117 zi_0 ?_
          refine zm_istore (lv' := [(4, .int 0), (0, .ref (E.2.1 + 52)), (3, .int e73_3), (5, .int l112_5)]) 120 rfl dX11_home_118 (by decide) rfl ?_
          refine zm_iconst 121 rfl dX11_home_120 zi_0 ?_
          refine zm_istore (lv' := [(6, .int 0), (4, .int 0), (0, .ref (E.2.1 + 52)), (3, .int e73_3), (5, .int l112_5)]) 123 rfl dX11_home_121 (by decide) rfl ?_
          have hx185_123_112 : ∀ (e185_4 : Int32) (N185 : zm_Mem), zm_V X Y_X11_home E (zm_Q X E Y_X11_home.2.2.2.1.cells Y_X11_home.2.2.2.1.slots (zm_w sv) zm_ei) 0 0 false (zm_w sv) 185 [(0, .ref (E.2.1 + 52)), (3, .int e73_3), (4, .int e185_4), (5, .int l112_5)] [] N185 (f_X11_home_x185_123_112 l112_5 e185_4 N185) f112 := by
            intro e185_4 N185
            unfold f_X11_home_x185_123_112
            refine zm_iinc (lv' := fun z => [(5, .int z), (0, .ref (E.2.1 + 52)), (3, .int e73_3), (4, .int e185_4)]) 188 rfl dX11_home_185 zi_1 3 rfl (by decide) (fun _ => rfl) (fun x185 _ => ?_)
            refine zm_goto 112 (by decide) dX11_home_188 ?_
            exact zm_loc [1, 2, 3, 0] rfl (zm_go (hf112a _) (hD112 (e185_4, x185, N185)))
          refine zm_loc [2, 3, 1, 4, 0] rfl (zm_lpp (σ := (Int32 × Int32 × zm_Mem)) (ε := (Int32 × zm_Mem)) (step := fun s => f_X11_home_l123_112 l112_5 s.1 s.2.1 s.2.2) (fun s => [(0, .ref (E.2.1 + 52)), (3, .int e73_3), (4, .int s.1), (5, .int l112_5), (6, .int s.2.1)]) (fun s => s.2.2) (fun D123_112 f123_112 hf123_112a hf123_112b hD123_112 s => ?_) (0, 0, L112))
          obtain ⟨l123_4, l123_6, L123⟩ := s
          show zm_V X Y_X11_home E (zm_Q X E Y_X11_home.2.2.2.1.cells Y_X11_home.2.2.2.1.slots (zm_w sv) zm_ei) 0 0 false (zm_w sv) 123 [(0, .ref (E.2.1 + 52)), (3, .int e73_3), (4, .int l123_4), (5, .int l112_5), (6, .int l123_6)] [] L123 (f_X11_home_l123_112 l112_5 l123_4 l123_6 L123) f123_112
          unfold f_X11_home_l123_112
          refine zm_iload 125 rfl dX11_home_123 4 rfl ?_
          refine zm_aload_n 126 rfl dX11_home_125 rfl 0 rfl ?_
          refine zm_getR (a := 66) 129 rfl dX11_home_126 fl_X11_58 rfl (zm_L (sv := sv) rfl) rfl (by decide) ?_
          refine zm_aload_n 130 rfl dX11_home_129 rfl 0 rfl ?_
          refine zm_getI 133 rfl dX11_home_130 fl_X11_251 rfl (zm_L (sv := sv) rfl) ?_
          refine zm_iald 134 rfl dX11_home_133 rfl (zm_L (sv := sv) rfl) ?_
          refine zm_cS1ir 137 rfl dX11_home_134 ml_X11_423 (Nat.le_of_ble_eq_true rfl) ⟨Nat.le_of_ble_eq_true rfl, Nat.le_of_ble_eq_true rfl⟩ rfl rfl ⟨Nat.le_refl _, Nat.le_refl _⟩ rfl (fun _ h => k_X11_fives E (zm_w sv) (L123.1 66 (L123.1 52 18).toNatClampNeg) L123 h) (fun r134 => ?_)
          refine zm_icmp_ge 185 140 (by decide) rfl dX11_home_137 ?_ ?_
          · exact zm_loc [0, 1, 2, 3] rfl (zm_go (hf123_112b _) (zm_unb (hx185_123_112 l123_4 L123)))
          · refine zm_aload_n 141 rfl dX11_home_140 rfl 0 rfl ?_
            refine zm_getR (a := 95) 144 rfl dX11_home_141 fl_X11_146 rfl (zm_L (sv := sv) rfl) rfl (by decide) ?_
            refine zm_iload 146 rfl dX11_home_144 4 rfl ?_
            refine zm_iald 147 rfl dX11_home_146 rfl (zm_L (sv := sv) rfl) ?_
            refine zm_iconst 148 rfl dX11_home_147 zi_m1 ?_
            have hb179_123_112 : ∀ (b179_4 : Int32) (M179 : zm_Mem), zm_V X Y_X11_home E (zm_Q X E Y_X11_home.2.2.2.1.cells Y_X11_home.2.2.2.1.slots (zm_w sv) zm_ei) 0 0 false (zm_w sv) 179 [(0, .ref (E.2.1 + 52)), (3, .int e73_3), (4, .int b179_4), (5, .int l112_5), (6, .int l123_6)] [] M179 (f_X11_home_b179_123_112 l123_6 b179_4 M179) f123_112 := by
              intro b179_4 M179
              unfold f_X11_home_b179_123_112
              refine zm_iinc (lv' := fun z => [(6, .int z), (0, .ref (E.2.1 + 52)), (3, .int e73_3), (4, .int b179_4), (5, .int l112_5)]) 182 rfl dX11_home_179 zi_1 4 rfl (by decide) (fun _ => rfl) (fun x179 _ => ?_)
              refine zm_goto 123 (by decide) dX11_home_182 ?_
              exact zm_loc [1, 2, 3, 4, 0] rfl (zm_go (hf123_112a _) (hD123_112 (b179_4, x179, M179)))
            refine zm_icmp_ne 179 151 (by decide) rfl dX11_home_148 ?_ ?_
            · refine zm_aload_n 152 rfl dX11_home_151 rfl 0 rfl ?_
              refine zm_iload 154 rfl dX11_home_152 4 rfl ?_
              refine zm_iload 156 rfl dX11_home_154 3 rfl ?_
              refine zm_iconst 157 rfl dX11_home_156 zi_1 ?_
              refine zm_isub 158 rfl dX11_home_157 ?_
              refine zm_cV2ir 161 rfl dX11_home_158 ml_X11_447 rfl (zm_L (sv := sv) rfl) rfl (Nat.le_of_ble_eq_true rfl) ⟨Nat.le_of_ble_eq_true rfl, Nat.le_of_ble_eq_true rfl⟩ rfl rfl ⟨Nat.le_refl _, Nat.le_refl _⟩ rfl (fun _ h => k_X11_isNextTo E sv l123_6 (l112_5 - 1) L123 h) (fun r158 => ?_)
              refine zm_if_ne 167 164 (by decide) rfl dX11_home_161 ?_ ?_
              · refine zm_goto 179 (by decide) dX11_home_164 ?_
                exact zm_loc [0, 1, 2, 3, 4] rfl (hb179_123_112 l123_4 L123)
              · refine zm_aload_n 168 rfl dX11_home_167 rfl 0 rfl ?_
                refine zm_getR (a := 95) 171 rfl dX11_home_168 fl_X11_146 rfl (zm_L (sv := sv) rfl) rfl (by decide) ?_
                refine zm_iload 173 rfl dX11_home_171 4 rfl ?_
                refine zm_iload 175 rfl dX11_home_173 3 rfl ?_
                refine zm_iast 176 rfl dX11_home_175 rfl (zm_L (sv := sv) rfl) (fun M175 _ => ?_)
                refine zm_iconst 177 rfl dX11_home_176 zi_1 ?_
                refine zm_istore (lv' := [(4, .int 1), (0, .ref (E.2.1 + 52)), (3, .int e73_3), (5, .int l112_5), (6, .int l123_6)]) 179 rfl dX11_home_177 (by decide) rfl ?_
                exact zm_loc [1, 2, 0, 3, 4] rfl (hb179_123_112 1 M175)
            · exact zm_loc [0, 1, 2, 3, 4] rfl (hb179_123_112 l123_4 L123)
  refine zm_loc [3, 4, 2, 1, 0] rfl (zm_lpp (σ := (Int32 × Int32 × Int32)) (ε := (Int32 × Int32)) (step := fun s => f_X11_home_l7 M s.1 s.2.1 s.2.2) (fun s => [(0, .ref (E.2.1 + 52)), (1, .int a1), (2, .int s.1), (3, .int s.2.1), (4, .int s.2.2)]) (fun _ => M) (fun D7 f7 hf7a hf7b hD7 s => ?_) (0, 0, 0))
  obtain ⟨l7_2, l7_3, l7_4⟩ := s
  show zm_V X Y_X11_home E (zm_Q X E Y_X11_home.2.2.2.1.cells Y_X11_home.2.2.2.1.slots (zm_w sv) zm_ei) 0 0 false (zm_w sv) 7 [(0, .ref (E.2.1 + 52)), (1, .int a1), (2, .int l7_2), (3, .int l7_3), (4, .int l7_4)] [] M (f_X11_home_l7 M l7_2 l7_3 l7_4) f7
  unfold f_X11_home_l7
  refine zm_iload 9 rfl dX11_home_7 4 rfl ?_
  refine zm_aload_n 10 rfl dX11_home_9 rfl 0 rfl ?_
  refine zm_getR (a := 66) 13 rfl dX11_home_10 fl_X11_58 rfl (zm_L (sv := sv) rfl) rfl (by decide) ?_
  refine zm_aload_n 14 rfl dX11_home_13 rfl 0 rfl ?_
  refine zm_getI 17 rfl dX11_home_14 fl_X11_251 rfl (zm_L (sv := sv) rfl) ?_
  refine zm_iald 18 rfl dX11_home_17 rfl (zm_L (sv := sv) rfl) ?_
  refine zm_icmp_ge 73 21 (by decide) rfl dX11_home_18 ?_ ?_
  · exact zm_loc [0, 1, 2, 3] rfl (zm_go (hf7b _) (zm_unb (hx73_7 l7_2 l7_3)))
  · refine zm_iconst 22 rfl dX11_home_21 zi_5 ?_
    refine zm_iload_n 23 rfl dX11_home_22 rfl 2 rfl ?_
    refine zm_imul 24 rfl dX11_home_23 ?_
    refine zm_aload_n 25 rfl dX11_home_24 rfl 0 rfl ?_
    refine zm_getR (a := 91) 28 rfl dX11_home_25 fl_X11_134 rfl (zm_L (sv := sv) rfl) rfl (by decide) ?_
    refine zm_iload 30 rfl dX11_home_28 4 rfl ?_
    refine zm_iald 31 rfl dX11_home_30 rfl (zm_L (sv := sv) rfl) ?_
    have hb54_7 : ∀ (b54_s0 : Int32) (b54_s1 : Int32), zm_V X Y_X11_home E (zm_Q X E Y_X11_home.2.2.2.1.cells Y_X11_home.2.2.2.1.slots (zm_w sv) zm_ei) 0 0 false (zm_w sv) 54 [(0, .ref (E.2.1 + 52)), (1, .int a1), (3, .int l7_3), (4, .int l7_4)] [.int b54_s1, .int b54_s0] M (f_X11_home_b54_7 M l7_3 l7_4 b54_s0 b54_s1) f7 := by
      intro b54_s0 b54_s1
      unfold f_X11_home_b54_7
      refine zm_iadd 55 rfl dX11_home_54 ?_
      refine zm_nmi (fun x55 _ => ?_)
      refine zm_istore_n (lv' := [(2, .int x55), (0, .ref (E.2.1 + 52)), (1, .int a1), (3, .int l7_3), (4, .int l7_4)]) 56 rfl dX11_home_55 rfl (by decide) rfl ?_
      refine zm_iconst 57 rfl dX11_home_56 zi_5 ?_
      refine zm_iload_n 58 rfl dX11_home_57 rfl 3 rfl ?_
      refine zm_imul 59 rfl dX11_home_58 ?_
      refine zm_aload_n 60 rfl dX11_home_59 rfl 1 rfl ?_
      refine zm_iload 62 rfl dX11_home_60 4 rfl ?_
      refine zm_cV1ir 65 rfl dX11_home_62 ml_X11_343 rfl (zm_L (sv := sv) rfl) rfl (Nat.le_of_ble_eq_true rfl) ⟨Nat.le_of_ble_eq_true rfl, Nat.le_of_ble_eq_true rfl⟩ rfl rfl ⟨Nat.le_refl _, Nat.le_refl _⟩ rfl (fun _ h => k_X11_ownerNow E sv l7_4 M h) (fun r62 => ?_)
      refine zm_iadd 66 rfl dX11_home_65 ?_
      refine zm_nmi (fun x66 _ => ?_)
      refine zm_istore_n (lv' := [(3, .int x66), (2, .int x55), (0, .ref (E.2.1 + 52)), (1, .int a1), (4, .int l7_4)]) 67 rfl dX11_home_66 rfl (by decide) rfl ?_
      refine zm_iinc (lv' := fun z => [(4, .int z), (3, .int x66), (2, .int x55), (0, .ref (E.2.1 + 52)), (1, .int a1)]) 70 rfl dX11_home_67 zi_1 4 rfl (by decide) (fun _ => rfl) (fun x67 _ => ?_)
      refine zm_goto 7 (by decide) dX11_home_70 ?_
      exact zm_loc [3, 4, 2, 1, 0] rfl (zm_go (hf7a _) (hD7 (x55, x66, x67)))
    refine zm_if_ge 47 34 (by decide) rfl dX11_home_31 ?_ ?_
    · refine zm_aload_n 48 rfl dX11_home_47 rfl 0 rfl ?_
      refine zm_getR (a := 91) 51 rfl dX11_home_48 fl_X11_134 rfl (zm_L (sv := sv) rfl) rfl (by decide) ?_
      refine zm_iload 53 rfl dX11_home_51 4 rfl ?_
      refine zm_iald 54 rfl dX11_home_53 rfl (zm_L (sv := sv) rfl) ?_
      exact zm_loc [0, 1, 3, 4] rfl (hb54_7 (5 * l7_2) (M.1 91 l7_4.toNatClampNeg))
    · refine zm_aload_n 35 rfl dX11_home_34 rfl 0 rfl ?_
      refine zm_getR (a := 91) 38 rfl dX11_home_35 fl_X11_134 rfl (zm_L (sv := sv) rfl) rfl (by decide) ?_
      refine zm_bipush 40 rfl dX11_home_38 zb_6 ?_
      refine zm_iload 42 rfl dX11_home_40 4 rfl ?_
      refine zm_iadd 43 rfl dX11_home_42 ?_
      refine zm_iald 44 rfl dX11_home_43 rfl (zm_L (sv := sv) rfl) ?_
      refine zm_goto 54 (by decide) dX11_home_44 ?_
      exact zm_loc [0, 1, 3, 4] rfl (hb54_7 (5 * l7_2) (M.1 91 (6 + l7_4).toNatClampNeg))
abbrev Y_X11_gainOf : zm_Y := (cX11_gainOf, 4, RX11, { frames := 4, cells := 0, slots := 0, locals := 101 }, (some .int), false, "gainOf")
noncomputable def f_X11_gainOf (a1 : Int32) (a2 : Int32) (M : zm_Mem) : Option (Int32 × zm_Mem) :=
  zm_ck (zm_in a1 60) <| zm_v (M.1 92 a1.toNatClampNeg) <| fun x6 => zm_b2 (f_X11_likesOf x6 a2 0 a1 M) <| fun r12 M12 => zm_b2 (f_X11_likesOf x6 a1 0 (-1) M12) <| fun r20 M20 => some (r12 - r20, M20)
set_option maxRecDepth 20000 in
set_option maxHeartbeats 4000000 in
theorem k_X11_gainOf (E : zm_E) (sv : Nat) (a1 : Int32) (a2 : Int32) (M : zm_Mem) {r : Int32} {M' : zm_Mem} (h : f_X11_gainOf a1 a2 M = some (r, M')) : zm_Ct E (zm_w sv) (zm_w sv) yX11_gainOf Y_X11_gainOf [.ref (E.2.1 + 52), .int a1, .int a2] M (some (.int r)) M' := by
  refine zm_meth (emb := zm_ei) (d := f_X11_gainOf a1 a2 M) (by decide) rfl rfl (Nat.le_of_ble_eq_true rfl) h (fun X => ?_)
  show zm_V X Y_X11_gainOf E (zm_Q X E Y_X11_gainOf.2.2.2.1.cells Y_X11_gainOf.2.2.2.1.slots (zm_w sv) zm_ei) 0 0 false (zm_w sv) 0 [(0, .ref (E.2.1 + 52)), (1, .int a1), (2, .int a2)] [] M (f_X11_gainOf a1 a2 M) some
  unfold f_X11_gainOf
  refine zm_aload_n 1 rfl dX11_gainOf_0 rfl 0 rfl ?_
  refine zm_getR (a := 92) 4 rfl dX11_gainOf_1 fl_X11_137 rfl (zm_L (sv := sv) rfl) rfl (by decide) ?_
  refine zm_iload_n 5 rfl dX11_gainOf_4 rfl 1 rfl ?_
  refine zm_iald 6 rfl dX11_gainOf_5 rfl (zm_L (sv := sv) rfl) ?_
  refine zm_nmi (fun x6 _ => ?_)
  refine zm_istore_n (lv' := [(3, .int x6), (0, .ref (E.2.1 + 52)), (1, .int a1), (2, .int a2)]) 7 rfl dX11_gainOf_6 rfl (by decide) rfl ?_
  refine zm_aload_n 8 rfl dX11_gainOf_7 rfl 1 rfl ?_
  refine zm_iload_n 9 rfl dX11_gainOf_8 rfl 0 rfl ?_
  refine zm_iload_n 10 rfl dX11_gainOf_9 rfl 3 rfl ?_
  refine zm_iconst 11 rfl dX11_gainOf_10 zi_0 ?_
  refine zm_iload_n 12 rfl dX11_gainOf_11 rfl 2 rfl ?_
  refine zm_cV4i 15 rfl dX11_gainOf_12 ml_X11_394 rfl (zm_L (sv := sv) rfl) rfl (Nat.le_of_ble_eq_true rfl) ⟨Nat.le_of_ble_eq_true rfl, Nat.le_of_ble_eq_true rfl⟩ rfl rfl ⟨Nat.le_refl _, Nat.le_refl _⟩ rfl (fun _ _ h => k_X11_likesOf E sv x6 a2 0 a1 M h) (fun r12 M12 => ?_)
  refine zm_aload_n 16 rfl dX11_gainOf_15 rfl 1 rfl ?_
  refine zm_iload_n 17 rfl dX11_gainOf_16 rfl 0 rfl ?_
  refine zm_iload_n 18 rfl dX11_gainOf_17 rfl 2 rfl ?_
  refine zm_iconst 19 rfl dX11_gainOf_18 zi_0 ?_
  refine zm_iconst 20 rfl dX11_gainOf_19 zi_m1 ?_
  refine zm_cV4i 23 rfl dX11_gainOf_20 ml_X11_394 rfl (zm_L (sv := sv) rfl) rfl (Nat.le_of_ble_eq_true rfl) ⟨Nat.le_of_ble_eq_true rfl, Nat.le_of_ble_eq_true rfl⟩ rfl rfl ⟨Nat.le_refl _, Nat.le_refl _⟩ rfl (fun _ _ h => k_X11_likesOf E sv x6 a1 0 (-1) M12 h) (fun r20 M20 => ?_)
  refine zm_isub 24 rfl dX11_gainOf_23 ?_
  exact zm_iret dX11_gainOf_24 rfl (Nat.le_refl _) (Nat.le_refl _) rfl
abbrev Y_X11_isSwap : zm_Y := (cX11_isSwap, 3, RX11, { frames := 5, cells := 0, slots := 0, locals := 124 }, (some .boolean), false, "isSwap")
noncomputable def f_X11_isSwap_b55 (M55 : zm_Mem) : Option (Int32 × zm_Mem) :=
 some (0, M55)
noncomputable def f_X11_isSwap (a1 : Int32) (a2 : Int32) (M : zm_Mem) : Option (Int32 × zm_Mem) :=
  zm_ck (zm_in a1 60) <| if (M.1 92 a1.toNatClampNeg) < 0 then (f_X11_isSwap_b55 M) else (zm_ck (zm_in a2 60) <| if (M.1 92 a2.toNatClampNeg) < 0 then (f_X11_isSwap_b55 M) else (zm_ck (zm_in a1 60) <| zm_ck (zm_in a2 60) <| if (M.1 92 a1.toNatClampNeg) = (M.1 92 a2.toNatClampNeg) then (f_X11_isSwap_b55 M) else (zm_b2 (f_X11_gainOf a1 a2 M) <| fun r36 M36 => if r36 ≤ 0 then (f_X11_isSwap_b55 M36) else (zm_b2 (f_X11_gainOf a2 a1 M36) <| fun r45 M45 => if r45 ≤ 0 then (f_X11_isSwap_b55 M45) else (some (1, M45))))))
set_option maxRecDepth 20000 in
set_option maxHeartbeats 4000000 in
theorem k_X11_isSwap (E : zm_E) (sv : Nat) (a1 : Int32) (a2 : Int32) (M : zm_Mem) {r : Int32} {M' : zm_Mem} (h : f_X11_isSwap a1 a2 M = some (r, M')) : zm_Ct E (zm_w sv) (zm_w sv) yX11_isSwap Y_X11_isSwap [.ref (E.2.1 + 52), .int a1, .int a2] M (some (.int r)) M' := by
  refine zm_meth (emb := zm_ei) (d := f_X11_isSwap a1 a2 M) (by decide) rfl rfl (Nat.le_of_ble_eq_true rfl) h (fun X => ?_)
  show zm_V X Y_X11_isSwap E (zm_Q X E Y_X11_isSwap.2.2.2.1.cells Y_X11_isSwap.2.2.2.1.slots (zm_w sv) zm_ei) 0 0 false (zm_w sv) 0 [(0, .ref (E.2.1 + 52)), (1, .int a1), (2, .int a2)] [] M (f_X11_isSwap a1 a2 M) some
  unfold f_X11_isSwap
  refine zm_aload_n 1 rfl dX11_isSwap_0 rfl 0 rfl ?_
  refine zm_getR (a := 92) 4 rfl dX11_isSwap_1 fl_X11_137 rfl (zm_L (sv := sv) rfl) rfl (by decide) ?_
  refine zm_iload_n 5 rfl dX11_isSwap_4 rfl 1 rfl ?_
  refine zm_iald 6 rfl dX11_isSwap_5 rfl (zm_L (sv := sv) rfl) ?_
  have hb55 : ∀ (M55 : zm_Mem), zm_V X Y_X11_isSwap E (zm_Q X E Y_X11_isSwap.2.2.2.1.cells Y_X11_isSwap.2.2.2.1.slots (zm_w sv) zm_ei) 0 0 false (zm_w sv) 55 [] [] M55 (f_X11_isSwap_b55 M55) some := by
    intro M55
    unfold f_X11_isSwap_b55
    refine zm_iconst 56 rfl dX11_isSwap_55 zi_0 ?_
    exact zm_zret dX11_isSwap_56 rfl rfl (Nat.le_refl _) (Nat.le_refl _) rfl
  refine zm_if_lt 55 9 (by decide) rfl dX11_isSwap_6 ?_ ?_
  · exact zm_loc [] rfl (hb55 M)
  · refine zm_aload_n 10 rfl dX11_isSwap_9 rfl 0 rfl ?_
    refine zm_getR (a := 92) 13 rfl dX11_isSwap_10 fl_X11_137 rfl (zm_L (sv := sv) rfl) rfl (by decide) ?_
    refine zm_iload_n 14 rfl dX11_isSwap_13 rfl 2 rfl ?_
    refine zm_iald 15 rfl dX11_isSwap_14 rfl (zm_L (sv := sv) rfl) ?_
    refine zm_if_lt 55 18 (by decide) rfl dX11_isSwap_15 ?_ ?_
    · exact zm_loc [] rfl (hb55 M)
    · refine zm_aload_n 19 rfl dX11_isSwap_18 rfl 0 rfl ?_
      refine zm_getR (a := 92) 22 rfl dX11_isSwap_19 fl_X11_137 rfl (zm_L (sv := sv) rfl) rfl (by decide) ?_
      refine zm_iload_n 23 rfl dX11_isSwap_22 rfl 1 rfl ?_
      refine zm_iald 24 rfl dX11_isSwap_23 rfl (zm_L (sv := sv) rfl) ?_
      refine zm_aload_n 25 rfl dX11_isSwap_24 rfl 0 rfl ?_
      refine zm_getR (a := 92) 28 rfl dX11_isSwap_25 fl_X11_137 rfl (zm_L (sv := sv) rfl) rfl (by decide) ?_
      refine zm_iload_n 29 rfl dX11_isSwap_28 rfl 2 rfl ?_
      refine zm_iald 30 rfl dX11_isSwap_29 rfl (zm_L (sv := sv) rfl) ?_
      refine zm_icmp_eq 55 33 (by decide) rfl dX11_isSwap_30 ?_ ?_
      · exact zm_loc [] rfl (hb55 M)
      · refine zm_aload_n 34 rfl dX11_isSwap_33 rfl 0 rfl ?_
        refine zm_iload_n 35 rfl dX11_isSwap_34 rfl 1 rfl ?_
        refine zm_iload_n 36 rfl dX11_isSwap_35 rfl 2 rfl ?_
        refine zm_cV2i 39 rfl dX11_isSwap_36 ml_X11_450 rfl (zm_L (sv := sv) rfl) rfl (Nat.le_of_ble_eq_true rfl) ⟨Nat.le_of_ble_eq_true rfl, Nat.le_of_ble_eq_true rfl⟩ rfl rfl ⟨Nat.le_refl _, Nat.le_refl _⟩ rfl (fun _ _ h => k_X11_gainOf E sv a1 a2 M h) (fun r36 M36 => ?_)
        refine zm_if_le 55 42 (by decide) rfl dX11_isSwap_39 ?_ ?_
        · exact zm_loc [] rfl (hb55 M36)
        · refine zm_aload_n 43 rfl dX11_isSwap_42 rfl 0 rfl ?_
          refine zm_iload_n 44 rfl dX11_isSwap_43 rfl 2 rfl ?_
          refine zm_iload_n 45 rfl dX11_isSwap_44 rfl 1 rfl ?_
          refine zm_cV2i 48 rfl dX11_isSwap_45 ml_X11_450 rfl (zm_L (sv := sv) rfl) rfl (Nat.le_of_ble_eq_true rfl) ⟨Nat.le_of_ble_eq_true rfl, Nat.le_of_ble_eq_true rfl⟩ rfl rfl ⟨Nat.le_refl _, Nat.le_refl _⟩ rfl (fun _ _ h => k_X11_gainOf E sv a2 a1 M36 h) (fun r45 M45 => ?_)
          refine zm_if_le 55 51 (by decide) rfl dX11_isSwap_48 ?_ ?_
          · exact zm_loc [] rfl (hb55 M45)
          · refine zm_iconst 52 rfl dX11_isSwap_51 zi_1 ?_
            refine zm_goto 56 (by decide) dX11_isSwap_52 ?_
            exact zm_zret dX11_isSwap_56 rfl rfl (Nat.le_refl _) (Nat.le_refl _) rfl
abbrev Y_X11_swaps : zm_Y := (cX11_swaps, 8, RX11, { frames := 6, cells := 0, slots := 0, locals := 146 }, (some .int), false, "swaps")
noncomputable def f_X11_swaps_x145_31 (a1 : Int32) (e145_2 : Int32) (e145_3 : Int32) (e145_4 : Int32) (e145_5 : Int32) (N145 : zm_Mem) : Option (Int32 × zm_Mem) :=
 if a1 = (-1 : Int32) then (some (e145_2, N145)) else (if a1 = 0 then (some (e145_3, N145)) else (if a1 = (1 : Int32) then (some (e145_4, N145)) else (some (e145_5, N145))))
noncomputable def f_X11_swaps_x139_51_31 (l31_6 : Int32) (e139_2 : Int32) (e139_3 : Int32) (e139_4 : Int32) (e139_5 : Int32) (N139 : zm_Mem) : Option ((Int32 × Int32 × Int32 × Int32 × Int32 × zm_Mem) ⊕ (Int32 × Int32 × Int32 × Int32 × zm_Mem)) :=
 zm_v (l31_6 + 1) <| fun x139 => some (.inl (e139_2, e139_3, e139_4, e139_5, x139, N139))
noncomputable def f_X11_swaps_b133_51_31 (l51_7 : Int32) (b133_2 : Int32) (b133_3 : Int32) (b133_4 : Int32) (b133_5 : Int32) (M133 : zm_Mem) : Option ((Int32 × Int32 × Int32 × Int32 × Int32 × zm_Mem) ⊕ (Int32 × Int32 × Int32 × Int32 × zm_Mem)) :=
 zm_v (l51_7 + 1) <| fun x133 => some (.inl (b133_2, b133_3, b133_4, b133_5, x133, M133))
noncomputable def f_X11_swaps_l51_31 (l31_6 : Int32) (l51_2 : Int32) (l51_3 : Int32) (l51_4 : Int32) (l51_5 : Int32) (l51_7 : Int32) (L51 : zm_Mem) : Option ((Int32 × Int32 × Int32 × Int32 × Int32 × zm_Mem) ⊕ (Int32 × Int32 × Int32 × Int32 × zm_Mem)) :=
 zm_ck (zm_in (L51.1 52 18) 2) <| if (L51.1 66 (L51.1 52 18).toNatClampNeg) ≤ l51_7 then (some (.inr (l51_2, l51_3, l51_4, l51_5, L51))) else (zm_b2 (f_X11_isSwap l31_6 l51_7 L51) <| fun r70 M70 => if r70 = 0 then (f_X11_swaps_b133_51_31 l51_7 l51_2 l51_3 l51_4 l51_5 M70) else (zm_v (l51_2 + 1) <| fun x79 => zm_b2 (f_X11_gainOf l31_6 l51_7 M70) <| fun r87 M87 => zm_b2 (f_X11_gainOf l51_7 l31_6 M87) <| fun r95 M95 => if l51_5 < (r87 + r95) then (zm_b2 (f_X11_gainOf l31_6 l51_7 M95) <| fun r112 M112 => zm_b2 (f_X11_gainOf l51_7 l31_6 M112) <| fun r120 M120 => zm_v (r112 + r120) <| fun x124 => f_X11_swaps_b133_51_31 l51_7 x79 l31_6 l51_7 x124 M120) else (f_X11_swaps_b133_51_31 l51_7 x79 l51_3 l51_4 l51_5 M95)))
noncomputable def f_X11_swaps_l31 (l31_2 : Int32) (l31_3 : Int32) (l31_4 : Int32) (l31_5 : Int32) (l31_6 : Int32) (L31 : zm_Mem) : Option ((Int32 × Int32 × Int32 × Int32 × Int32 × zm_Mem) ⊕ (Int32 × Int32 × Int32 × Int32 × zm_Mem)) :=
 zm_ck (zm_in (L31.1 52 18) 2) <| if (L31.1 66 (L31.1 52 18).toNatClampNeg) ≤ l31_6 then (some (.inr (l31_2, l31_3, l31_4, l31_5, L31))) else (zm_v (l31_6 + 1) <| fun x49 => (zm_lp (fun s => f_X11_swaps_l51_31 l31_6 s.1 s.2.1 s.2.2.1 s.2.2.2.1 s.2.2.2.2.1 s.2.2.2.2.2) (l31_2, l31_3, l31_4, l31_5, x49, L31)).bind (fun e139 => f_X11_swaps_x139_51_31 l31_6 e139.1 e139.2.1 e139.2.2.1 e139.2.2.2.1 e139.2.2.2.2))
noncomputable def f_X11_swaps (a1 : Int32) (M : zm_Mem) : Option (Int32 × zm_Mem) :=
  zm_b1 (f_X11_in a1 (-1) 2 M) <| fun r3 => if r3 = 0 then (some ((-1), M)) else (zm_b2 (f_X11_copies M) <| fun _ M12 => (zm_lp (fun s => f_X11_swaps_l31 s.1 s.2.1 s.2.2.1 s.2.2.2.1 s.2.2.2.2.1 s.2.2.2.2.2) (0, (-2), (-2), (-2), 0, M12)).bind (fun e145 => f_X11_swaps_x145_31 a1 e145.1 e145.2.1 e145.2.2.1 e145.2.2.2.1 e145.2.2.2.2))
set_option maxRecDepth 20000 in
set_option maxHeartbeats 4000000 in
theorem k_X11_swaps (E : zm_E) (sv : Nat) (a1 : Int32) (M : zm_Mem) {r : Int32} {M' : zm_Mem} (h : f_X11_swaps a1 M = some (r, M')) : zm_Ct E (zm_w sv) (zm_w sv) yX11_swaps Y_X11_swaps [.ref (E.2.1 + 52), .int a1] M (some (.int r)) M' := by
  refine zm_meth (emb := zm_ei) (d := f_X11_swaps a1 M) (by decide) rfl rfl (Nat.le_of_ble_eq_true rfl) h (fun X => ?_)
  show zm_V X Y_X11_swaps E (zm_Q X E Y_X11_swaps.2.2.2.1.cells Y_X11_swaps.2.2.2.1.slots (zm_w sv) zm_ei) 0 0 false (zm_w sv) 0 [(0, .ref (E.2.1 + 52)), (1, .int a1)] [] M (f_X11_swaps a1 M) some
  unfold f_X11_swaps
  refine zm_iload_n 1 rfl dX11_swaps_0 rfl 1 rfl ?_
  refine zm_iconst 2 rfl dX11_swaps_1 zi_m1 ?_
  refine zm_iconst 3 rfl dX11_swaps_2 zi_2 ?_
  refine zm_cS3ir 6 rfl dX11_swaps_3 ml_X11_335 (Nat.le_of_ble_eq_true rfl) ⟨Nat.le_of_ble_eq_true rfl, Nat.le_of_ble_eq_true rfl⟩ rfl rfl ⟨Nat.le_refl _, Nat.le_refl _⟩ rfl (fun _ h => k_X11_in E (zm_w sv) a1 (-1) 2 M h) (fun r3 => ?_)
  refine zm_if_ne 11 9 (by decide) rfl dX11_swaps_6 ?_ ?_
  · refine zm_iconst 10 rfl dX11_swaps_9 zi_m1 ?_
    exact zm_iret dX11_swaps_10 rfl (Nat.le_refl _) (Nat.le_refl _) rfl
  · refine zm_aload_n 12 rfl dX11_swaps_11 rfl 0 rfl ?_
    refine zm_cV0v 15 rfl dX11_swaps_12 ml_X11_388 rfl (zm_L (sv := sv) rfl) rfl (Nat.le_of_ble_eq_true rfl) ⟨Nat.le_of_ble_eq_true rfl, Nat.le_of_ble_eq_true rfl⟩ rfl rfl ⟨Nat.le_refl _, Nat.le_refl _⟩ rfl (fun _ _ h => k_X11_copies E sv M h) (fun _ M12 => ?_)
    refine zm_iconst 16 rfl dX11_swaps_15 zi_0 ?_
    refine zm_istore_n (lv' := [(2, .int 0), (0, .ref (E.2.1 + 52)), (1, .int a1)]) 17 rfl dX11_swaps_16 rfl (by decide) rfl ?_
    refine zm_bipush 19 rfl dX11_swaps_17 zb_m2 ?_
    refine zm_istore_n (lv' := [(3, .int (-2)), (2, .int 0), (0, .ref (E.2.1 + 52)), (1, .int a1)]) 20 rfl dX11_swaps_19 rfl (by decide) rfl ?_
    refine zm_bipush 22 rfl dX11_swaps_20 zb_m2 ?_
    refine zm_istore (lv' := [(4, .int (-2)), (3, .int (-2)), (2, .int 0), (0, .ref (E.2.1 + 52)), (1, .int a1)]) 24 rfl dX11_swaps_22 (by decide) rfl ?_
    refine zm_bipush 26 rfl dX11_swaps_24 zb_m2 ?_
    refine zm_istore (lv' := [(5, .int (-2)), (4, .int (-2)), (3, .int (-2)), (2, .int 0), (0, .ref (E.2.1 + 52)), (1, .int a1)]) 28 rfl dX11_swaps_26 (by decide) rfl ?_
    refine zm_iconst 29 rfl dX11_swaps_28 zi_0 ?_
    refine zm_istore (lv' := [(6, .int 0), (5, .int (-2)), (4, .int (-2)), (3, .int (-2)), (2, .int 0), (0, .ref (E.2.1 + 52)), (1, .int a1)]) 31 rfl dX11_swaps_29 (by decide) rfl ?_
    have hx145_31 : ∀ (e145_2 : Int32) (e145_3 : Int32) (e145_4 : Int32) (e145_5 : Int32) (N145 : zm_Mem), zm_V X Y_X11_swaps E (zm_Q X E Y_X11_swaps.2.2.2.1.cells Y_X11_swaps.2.2.2.1.slots (zm_w sv) zm_ei) 0 0 false (zm_w sv) 145 [(1, .int a1), (2, .int e145_2), (3, .int e145_3), (4, .int e145_4), (5, .int e145_5)] [] N145 (f_X11_swaps_x145_31 a1 e145_2 e145_3 e145_4 e145_5 N145) some := by
      intro e145_2 e145_3 e145_4 e145_5 N145
      unfold f_X11_swaps_x145_31
      refine zm_iload_n 146 rfl dX11_swaps_145 rfl 0 rfl ?_
      refine zm_iconst 147 rfl dX11_swaps_146 zi_m1 ?_
      refine zm_icmp_ne 154 150 (by decide) rfl dX11_swaps_147 ?_ ?_
      · refine zm_iload_n 151 rfl dX11_swaps_150 rfl 1 rfl ?_
        refine zm_goto 174 (by decide) dX11_swaps_151 ?_
        exact zm_iret dX11_swaps_174 rfl (Nat.le_refl _) (Nat.le_refl _) rfl
      · refine zm_iload_n 155 rfl dX11_swaps_154 rfl 0 rfl ?_
        refine zm_if_ne 162 158 (by decide) rfl dX11_swaps_155 ?_ ?_
        · refine zm_iload_n 159 rfl dX11_swaps_158 rfl 2 rfl ?_
          refine zm_goto 174 (by decide) dX11_swaps_159 ?_
          exact zm_iret dX11_swaps_174 rfl (Nat.le_refl _) (Nat.le_refl _) rfl
        · refine zm_iload_n 163 rfl dX11_swaps_162 rfl 0 rfl ?_
          refine zm_iconst 164 rfl dX11_swaps_163 zi_1 ?_
          refine zm_icmp_ne 172 167 (by decide) rfl dX11_swaps_164 ?_ ?_
          · refine zm_iload 169 rfl dX11_swaps_167 3 rfl ?_
            refine zm_goto 174 (by decide) dX11_swaps_169 ?_
            exact zm_iret dX11_swaps_174 rfl (Nat.le_refl _) (Nat.le_refl _) rfl
          · refine zm_iload 174 rfl dX11_swaps_172 4 rfl ?_
            exact zm_iret dX11_swaps_174 rfl (Nat.le_refl _) (Nat.le_refl _) rfl
    refine zm_loc [5, 6, 4, 3, 2, 1, 0] rfl (zm_lpp (σ := (Int32 × Int32 × Int32 × Int32 × Int32 × zm_Mem)) (ε := (Int32 × Int32 × Int32 × Int32 × zm_Mem)) (step := fun s => f_X11_swaps_l31 s.1 s.2.1 s.2.2.1 s.2.2.2.1 s.2.2.2.2.1 s.2.2.2.2.2) (fun s => [(0, .ref (E.2.1 + 52)), (1, .int a1), (2, .int s.1), (3, .int s.2.1), (4, .int s.2.2.1), (5, .int s.2.2.2.1), (6, .int s.2.2.2.2.1)]) (fun s => s.2.2.2.2.2) (fun D31 f31 hf31a hf31b hD31 s => ?_) (0, (-2), (-2), (-2), 0, M12))
    obtain ⟨l31_2, l31_3, l31_4, l31_5, l31_6, L31⟩ := s
    show zm_V X Y_X11_swaps E (zm_Q X E Y_X11_swaps.2.2.2.1.cells Y_X11_swaps.2.2.2.1.slots (zm_w sv) zm_ei) 0 0 false (zm_w sv) 31 [(0, .ref (E.2.1 + 52)), (1, .int a1), (2, .int l31_2), (3, .int l31_3), (4, .int l31_4), (5, .int l31_5), (6, .int l31_6)] [] L31 (f_X11_swaps_l31 l31_2 l31_3 l31_4 l31_5 l31_6 L31) f31
    unfold f_X11_swaps_l31
    refine zm_iload 33 rfl dX11_swaps_31 6 rfl ?_
    refine zm_aload_n 34 rfl dX11_swaps_33 rfl 0 rfl ?_
    refine zm_getR (a := 66) 37 rfl dX11_swaps_34 fl_X11_58 rfl (zm_L (sv := sv) rfl) rfl (by decide) ?_
    refine zm_aload_n 38 rfl dX11_swaps_37 rfl 0 rfl ?_
    refine zm_getI 41 rfl dX11_swaps_38 fl_X11_251 rfl (zm_L (sv := sv) rfl) ?_
    refine zm_iald 42 rfl dX11_swaps_41 rfl (zm_L (sv := sv) rfl) ?_
    refine zm_icmp_ge 145 45 (by decide) rfl dX11_swaps_42 ?_ ?_
    · exact zm_loc [1, 2, 3, 4, 5] rfl (zm_go (hf31b _) (zm_unb (hx145_31 l31_2 l31_3 l31_4 l31_5 L31)))
    · refine zm_iload 47 rfl dX11_swaps_45 6 rfl ?_
      refine zm_iconst 48 rfl dX11_swaps_47 zi_1 ?_
      refine zm_iadd 49 rfl dX11_swaps_48 ?_
      refine zm_nmi (fun x49 _ => ?_)
      refine zm_istore (lv' := [(7, .int x49), (0, .ref (E.2.1 + 52)), (1, .int a1), (2, .int l31_2), (3, .int l31_3), (4, .int l31_4), (5, .int l31_5), (6, .int l31_6)]) 51 rfl dX11_swaps_49 (by decide) rfl ?_
      have hx139_51_31 : ∀ (e139_2 : Int32) (e139_3 : Int32) (e139_4 : Int32) (e139_5 : Int32) (N139 : zm_Mem), zm_V X Y_X11_swaps E (zm_Q X E Y_X11_swaps.2.2.2.1.cells Y_X11_swaps.2.2.2.1.slots (zm_w sv) zm_ei) 0 0 false (zm_w sv) 139 [(0, .ref (E.2.1 + 52)), (1, .int a1), (2, .int e139_2), (3, .int e139_3), (4, .int e139_4), (5, .int e139_5), (6, .int l31_6)] [] N139 (f_X11_swaps_x139_51_31 l31_6 e139_2 e139_3 e139_4 e139_5 N139) f31 := by
        intro e139_2 e139_3 e139_4 e139_5 N139
        unfold f_X11_swaps_x139_51_31
        refine zm_iinc (lv' := fun z => [(6, .int z), (0, .ref (E.2.1 + 52)), (1, .int a1), (2, .int e139_2), (3, .int e139_3), (4, .int e139_4), (5, .int e139_5)]) 142 rfl dX11_swaps_139 zi_1 6 rfl (by decide) (fun _ => rfl) (fun x139 _ => ?_)
        refine zm_goto 31 (by decide) dX11_swaps_142 ?_
        exact zm_loc [1, 2, 3, 4, 5, 6, 0] rfl (zm_go (hf31a _) (hD31 (e139_2, e139_3, e139_4, e139_5, x139, N139)))
      refine zm_loc [1, 2, 3, 4, 5, 6, 7, 0] rfl (zm_lpp (σ := (Int32 × Int32 × Int32 × Int32 × Int32 × zm_Mem)) (ε := (Int32 × Int32 × Int32 × Int32 × zm_Mem)) (step := fun s => f_X11_swaps_l51_31 l31_6 s.1 s.2.1 s.2.2.1 s.2.2.2.1 s.2.2.2.2.1 s.2.2.2.2.2) (fun s => [(0, .ref (E.2.1 + 52)), (1, .int a1), (2, .int s.1), (3, .int s.2.1), (4, .int s.2.2.1), (5, .int s.2.2.2.1), (6, .int l31_6), (7, .int s.2.2.2.2.1)]) (fun s => s.2.2.2.2.2) (fun D51_31 f51_31 hf51_31a hf51_31b hD51_31 s => ?_) (l31_2, l31_3, l31_4, l31_5, x49, L31))
      obtain ⟨l51_2, l51_3, l51_4, l51_5, l51_7, L51⟩ := s
      show zm_V X Y_X11_swaps E (zm_Q X E Y_X11_swaps.2.2.2.1.cells Y_X11_swaps.2.2.2.1.slots (zm_w sv) zm_ei) 0 0 false (zm_w sv) 51 [(0, .ref (E.2.1 + 52)), (1, .int a1), (2, .int l51_2), (3, .int l51_3), (4, .int l51_4), (5, .int l51_5), (6, .int l31_6), (7, .int l51_7)] [] L51 (f_X11_swaps_l51_31 l31_6 l51_2 l51_3 l51_4 l51_5 l51_7 L51) f51_31
      unfold f_X11_swaps_l51_31
      refine zm_iload 53 rfl dX11_swaps_51 7 rfl ?_
      refine zm_aload_n 54 rfl dX11_swaps_53 rfl 0 rfl ?_
      refine zm_getR (a := 66) 57 rfl dX11_swaps_54 fl_X11_58 rfl (zm_L (sv := sv) rfl) rfl (by decide) ?_
      refine zm_aload_n 58 rfl dX11_swaps_57 rfl 0 rfl ?_
      refine zm_getI 61 rfl dX11_swaps_58 fl_X11_251 rfl (zm_L (sv := sv) rfl) ?_
      refine zm_iald 62 rfl dX11_swaps_61 rfl (zm_L (sv := sv) rfl) ?_
      refine zm_icmp_ge 139 65 (by decide) rfl dX11_swaps_62 ?_ ?_
      · exact zm_loc [0, 1, 2, 3, 4, 5, 6] rfl (zm_go (hf51_31b _) (zm_unb (hx139_51_31 l51_2 l51_3 l51_4 l51_5 L51)))
      · refine zm_aload_n 66 rfl dX11_swaps_65 rfl 0 rfl ?_
        refine zm_iload 68 rfl dX11_swaps_66 6 rfl ?_
        refine zm_iload 70 rfl dX11_swaps_68 7 rfl ?_
        refine zm_cV2i 73 rfl dX11_swaps_70 ml_X11_453 rfl (zm_L (sv := sv) rfl) rfl (Nat.le_of_ble_eq_true rfl) ⟨Nat.le_of_ble_eq_true rfl, Nat.le_of_ble_eq_true rfl⟩ rfl rfl ⟨Nat.le_refl _, Nat.le_refl _⟩ rfl (fun _ _ h => k_X11_isSwap E sv l31_6 l51_7 L51 h) (fun r70 M70 => ?_)
        have hb133_51_31 : ∀ (b133_2 : Int32) (b133_3 : Int32) (b133_4 : Int32) (b133_5 : Int32) (M133 : zm_Mem), zm_V X Y_X11_swaps E (zm_Q X E Y_X11_swaps.2.2.2.1.cells Y_X11_swaps.2.2.2.1.slots (zm_w sv) zm_ei) 0 0 false (zm_w sv) 133 [(0, .ref (E.2.1 + 52)), (1, .int a1), (2, .int b133_2), (3, .int b133_3), (4, .int b133_4), (5, .int b133_5), (6, .int l31_6), (7, .int l51_7)] [] M133 (f_X11_swaps_b133_51_31 l51_7 b133_2 b133_3 b133_4 b133_5 M133) f51_31 := by
          intro b133_2 b133_3 b133_4 b133_5 M133
          unfold f_X11_swaps_b133_51_31
          refine zm_iinc (lv' := fun z => [(7, .int z), (0, .ref (E.2.1 + 52)), (1, .int a1), (2, .int b133_2), (3, .int b133_3), (4, .int b133_4), (5, .int b133_5), (6, .int l31_6)]) 136 rfl dX11_swaps_133 zi_1 7 rfl (by decide) (fun _ => rfl) (fun x133 _ => ?_)
          refine zm_goto 51 (by decide) dX11_swaps_136 ?_
          exact zm_loc [1, 2, 3, 4, 5, 6, 7, 0] rfl (zm_go (hf51_31a _) (hD51_31 (b133_2, b133_3, b133_4, b133_5, x133, M133)))
        refine zm_if_ne 79 76 (by decide) rfl dX11_swaps_73 ?_ ?_
        · refine zm_goto 133 (by decide) dX11_swaps_76 ?_
          exact zm_loc [0, 1, 2, 3, 4, 5, 6, 7] rfl (hb133_51_31 l51_2 l51_3 l51_4 l51_5 M70)
        · refine zm_iinc (lv' := fun z => [(2, .int z), (0, .ref (E.2.1 + 52)), (1, .int a1), (3, .int l51_3), (4, .int l51_4), (5, .int l51_5), (6, .int l31_6), (7, .int l51_7)]) 82 rfl dX11_swaps_79 zi_1 2 rfl (by decide) (fun _ => rfl) (fun x79 _ => ?_)
          refine zm_aload_n 83 rfl dX11_swaps_82 rfl 1 rfl ?_
          refine zm_iload 85 rfl dX11_swaps_83 6 rfl ?_
          refine zm_iload 87 rfl dX11_swaps_85 7 rfl ?_
          refine zm_cV2i 90 rfl dX11_swaps_87 ml_X11_450 rfl (zm_L (sv := sv) rfl) rfl (Nat.le_of_ble_eq_true rfl) ⟨Nat.le_of_ble_eq_true rfl, Nat.le_of_ble_eq_true rfl⟩ rfl rfl ⟨Nat.le_refl _, Nat.le_refl _⟩ rfl (fun _ _ h => k_X11_gainOf E sv l31_6 l51_7 M70 h) (fun r87 M87 => ?_)
          refine zm_aload_n 91 rfl dX11_swaps_90 rfl 1 rfl ?_
          refine zm_iload 93 rfl dX11_swaps_91 7 rfl ?_
          refine zm_iload 95 rfl dX11_swaps_93 6 rfl ?_
          refine zm_cV2i 98 rfl dX11_swaps_95 ml_X11_450 rfl (zm_L (sv := sv) rfl) rfl (Nat.le_of_ble_eq_true rfl) ⟨Nat.le_of_ble_eq_true rfl, Nat.le_of_ble_eq_true rfl⟩ rfl rfl ⟨Nat.le_refl _, Nat.le_refl _⟩ rfl (fun _ _ h => k_X11_gainOf E sv l51_7 l31_6 M87 h) (fun r95 M95 => ?_)
          refine zm_iadd 99 rfl dX11_swaps_98 ?_
          refine zm_iload 101 rfl dX11_swaps_99 5 rfl ?_
          refine zm_icmp_gt 107 104 (by decide) rfl dX11_swaps_101 ?_ ?_
          · refine zm_aload_n 108 rfl dX11_swaps_107 rfl 1 rfl ?_
            refine zm_iload 110 rfl dX11_swaps_108 6 rfl ?_
            refine zm_iload 112 rfl dX11_swaps_110 7 rfl ?_
            refine zm_cV2i 115 rfl dX11_swaps_112 ml_X11_450 rfl (zm_L (sv := sv) rfl) rfl (Nat.le_of_ble_eq_true rfl) ⟨Nat.le_of_ble_eq_true rfl, Nat.le_of_ble_eq_true rfl⟩ rfl rfl ⟨Nat.le_refl _, Nat.le_refl _⟩ rfl (fun _ _ h => k_X11_gainOf E sv l31_6 l51_7 M95 h) (fun r112 M112 => ?_)
            refine zm_aload_n 116 rfl dX11_swaps_115 rfl 1 rfl ?_
            refine zm_iload 118 rfl dX11_swaps_116 7 rfl ?_
            refine zm_iload 120 rfl dX11_swaps_118 6 rfl ?_
            refine zm_cV2i 123 rfl dX11_swaps_120 ml_X11_450 rfl (zm_L (sv := sv) rfl) rfl (Nat.le_of_ble_eq_true rfl) ⟨Nat.le_of_ble_eq_true rfl, Nat.le_of_ble_eq_true rfl⟩ rfl rfl ⟨Nat.le_refl _, Nat.le_refl _⟩ rfl (fun _ _ h => k_X11_gainOf E sv l51_7 l31_6 M112 h) (fun r120 M120 => ?_)
            refine zm_iadd 124 rfl dX11_swaps_123 ?_
            refine zm_nmi (fun x124 _ => ?_)
            refine zm_istore (lv' := [(5, .int x124), (2, .int x79), (0, .ref (E.2.1 + 52)), (1, .int a1), (3, .int l51_3), (4, .int l51_4), (6, .int l31_6), (7, .int l51_7)]) 126 rfl dX11_swaps_124 (by decide) rfl ?_
            refine zm_iload 128 rfl dX11_swaps_126 6 rfl ?_
            refine zm_istore_n (lv' := [(3, .int l31_6), (5, .int x124), (2, .int x79), (0, .ref (E.2.1 + 52)), (1, .int a1), (4, .int l51_4), (6, .int l31_6), (7, .int l51_7)]) 129 rfl dX11_swaps_128 rfl (by decide) rfl ?_
            refine zm_iload 131 rfl dX11_swaps_129 7 rfl ?_
            refine zm_istore (lv' := [(4, .int l51_7), (3, .int l31_6), (5, .int x124), (2, .int x79), (0, .ref (E.2.1 + 52)), (1, .int a1), (6, .int l31_6), (7, .int l51_7)]) 133 rfl dX11_swaps_131 (by decide) rfl ?_
            exact zm_loc [4, 5, 3, 1, 0, 2, 6, 7] rfl (hb133_51_31 x79 l31_6 l51_7 x124 M120)
          · refine zm_goto 133 (by decide) dX11_swaps_104 ?_
            exact zm_loc [1, 2, 0, 3, 4, 5, 6, 7] rfl (hb133_51_31 x79 l51_3 l51_4 l51_5 M95)
abbrev Y_X11_fillsLikes : zm_Y := (cX11_fillsLikes, 4, RX11, { frames := 4, cells := 0, slots := 0, locals := 101 }, none, false, "fillsLikes")
noncomputable def f_X11_fillsLikes_b94_38 (a1 : Int32) (l38_2 : Int32) (L38 : zm_Mem) (b94_3 : Int32) : Option ((Int32 × zm_Mem) ⊕ zm_Mem) :=
 zm_ck (zm_in ((5 * a1) + b94_3) 160) <| zm_b2 (f_X11_likesOf b94_3 l38_2 1 (-1) L38) <| fun r110 M110 => zm_ck (zm_in ((5 * a1) + b94_3) 160) <| zm_v (zm_sI M110 96 ((5 * a1) + b94_3).toNatClampNeg ((L38.1 96 ((5 * a1) + b94_3).toNatClampNeg) + r110)) <| fun M114 => zm_v (l38_2 + 1) <| fun x115 => some (.inl (x115, M114))
noncomputable def f_X11_fillsLikes_b78_38 (a1 : Int32) (l38_2 : Int32) (L38 : zm_Mem) (b78_s0 : Int32) : Option ((Int32 × zm_Mem) ⊕ zm_Mem) :=
 if ((a1 >>> (b78_s0 &&& 31)) &&& 1) = (1 : Int32) then (zm_b1 (f_X11_ownerNow l38_2 L38) <| fun r90 => f_X11_fillsLikes_b94_38 a1 l38_2 L38 r90) else (f_X11_fillsLikes_b94_38 a1 l38_2 L38 b78_s0)
noncomputable def f_X11_fillsLikes_l38 (a1 : Int32) (l38_2 : Int32) (L38 : zm_Mem) : Option ((Int32 × zm_Mem) ⊕ zm_Mem) :=
 zm_ck (zm_in (L38.1 52 18) 2) <| if (L38.1 66 (L38.1 52 18).toNatClampNeg) ≤ l38_2 then (some (.inr L38)) else (zm_ck (zm_in l38_2 60) <| if 0 ≤ (L38.1 92 l38_2.toNatClampNeg) then (zm_ck (zm_in l38_2 60) <| f_X11_fillsLikes_b78_38 a1 l38_2 L38 (L38.1 92 l38_2.toNatClampNeg)) else (zm_ck (zm_in (6 + l38_2) 60) <| f_X11_fillsLikes_b78_38 a1 l38_2 L38 (L38.1 92 (6 + l38_2).toNatClampNeg)))
noncomputable def f_X11_fillsLikes_x36_6 (a1 : Int32) (N36 : zm_Mem) : Option (Unit × zm_Mem) :=
 (zm_lp (fun s => f_X11_fillsLikes_l38 a1 s.1 s.2) (0, N36)).bind (fun e121 => some ((), e121))
noncomputable def f_X11_fillsLikes_l6 (a1 : Int32) (l6_2 : Int32) (L6 : zm_Mem) : Option ((Int32 × zm_Mem) ⊕ zm_Mem) :=
 zm_ck (zm_in (L6.1 52 18) 2) <| if (L6.1 63 (L6.1 52 18).toNatClampNeg) ≤ l6_2 then (some (.inr L6)) else (zm_ck (zm_in ((5 * a1) + l6_2) 160) <| zm_v (zm_sI L6 96 ((5 * a1) + l6_2).toNatClampNeg 0) <| fun M29 => zm_v (l6_2 + 1) <| fun x30 => some (.inl (x30, M29)))
noncomputable def f_X11_fillsLikes (a1 : Int32) (M : zm_Mem) : Option (Unit × zm_Mem) :=
  zm_b2 (f_X11_copies M) <| fun _ M1 => (zm_lp (fun s => f_X11_fillsLikes_l6 a1 s.1 s.2) (0, M1)).bind (fun e36 => f_X11_fillsLikes_x36_6 a1 e36)
set_option maxRecDepth 20000 in
set_option maxHeartbeats 4000000 in
theorem k_X11_fillsLikes (E : zm_E) (sv : Nat) (a1 : Int32) (M : zm_Mem) {r : Unit} {M' : zm_Mem} (h : f_X11_fillsLikes a1 M = some (r, M')) : zm_Ct E (zm_w sv) (zm_w sv) yX11_fillsLikes Y_X11_fillsLikes [.ref (E.2.1 + 52), .int a1] M none M' := by
  refine zm_meth (emb := zm_ev) (d := f_X11_fillsLikes a1 M) (by decide) rfl rfl (Nat.le_of_ble_eq_true rfl) h (fun X => ?_)
  show zm_V X Y_X11_fillsLikes E (zm_Q X E Y_X11_fillsLikes.2.2.2.1.cells Y_X11_fillsLikes.2.2.2.1.slots (zm_w sv) zm_ev) 0 0 false (zm_w sv) 0 [(0, .ref (E.2.1 + 52)), (1, .int a1)] [] M (f_X11_fillsLikes a1 M) some
  unfold f_X11_fillsLikes
  refine zm_aload_n 1 rfl dX11_fillsLikes_0 rfl 0 rfl ?_
  refine zm_cV0v 4 rfl dX11_fillsLikes_1 ml_X11_388 rfl (zm_L (sv := sv) rfl) rfl (Nat.le_of_ble_eq_true rfl) ⟨Nat.le_of_ble_eq_true rfl, Nat.le_of_ble_eq_true rfl⟩ rfl rfl ⟨Nat.le_refl _, Nat.le_refl _⟩ rfl (fun _ _ h => k_X11_copies E sv M h) (fun _ M1 => ?_)
  refine zm_iconst 5 rfl dX11_fillsLikes_4 zi_0 ?_
  refine zm_istore_n (lv' := [(2, .int 0), (0, .ref (E.2.1 + 52)), (1, .int a1)]) 6 rfl dX11_fillsLikes_5 rfl (by decide) rfl ?_
  have hx36_6 : ∀ (N36 : zm_Mem), zm_V X Y_X11_fillsLikes E (zm_Q X E Y_X11_fillsLikes.2.2.2.1.cells Y_X11_fillsLikes.2.2.2.1.slots (zm_w sv) zm_ev) 0 0 false (zm_w sv) 36 [(0, .ref (E.2.1 + 52)), (1, .int a1)] [] N36 (f_X11_fillsLikes_x36_6 a1 N36) some := by
    intro N36
    unfold f_X11_fillsLikes_x36_6
    refine zm_iconst 37 rfl dX11_fillsLikes_36 zi_0 ?_
    refine zm_istore_n (lv' := [(2, .int 0), (0, .ref (E.2.1 + 52)), (1, .int a1)]) 38 rfl dX11_fillsLikes_37 rfl (by decide) rfl ?_
    have hx121_38 : ∀ (N121 : zm_Mem), zm_V X Y_X11_fillsLikes E (zm_Q X E Y_X11_fillsLikes.2.2.2.1.cells Y_X11_fillsLikes.2.2.2.1.slots (zm_w sv) zm_ev) 0 0 false (zm_w sv) 121 [] [] N121 (some ((), N121)) some := by
      intro N121
      exact zm_vret dX11_fillsLikes_121 rfl (Nat.le_refl _) (Nat.le_refl _) rfl
    refine zm_loc [1, 2, 0] rfl (zm_lpp (σ := (Int32 × zm_Mem)) (ε := zm_Mem) (step := fun s => f_X11_fillsLikes_l38 a1 s.1 s.2) (fun s => [(0, .ref (E.2.1 + 52)), (1, .int a1), (2, .int s.1)]) (fun s => s.2) (fun D38 f38 hf38a hf38b hD38 s => ?_) (0, N36))
    obtain ⟨l38_2, L38⟩ := s
    show zm_V X Y_X11_fillsLikes E (zm_Q X E Y_X11_fillsLikes.2.2.2.1.cells Y_X11_fillsLikes.2.2.2.1.slots (zm_w sv) zm_ev) 0 0 false (zm_w sv) 38 [(0, .ref (E.2.1 + 52)), (1, .int a1), (2, .int l38_2)] [] L38 (f_X11_fillsLikes_l38 a1 l38_2 L38) f38
    unfold f_X11_fillsLikes_l38
    refine zm_iload_n 39 rfl dX11_fillsLikes_38 rfl 2 rfl ?_
    refine zm_aload_n 40 rfl dX11_fillsLikes_39 rfl 0 rfl ?_
    refine zm_getR (a := 66) 43 rfl dX11_fillsLikes_40 fl_X11_58 rfl (zm_L (sv := sv) rfl) rfl (by decide) ?_
    refine zm_aload_n 44 rfl dX11_fillsLikes_43 rfl 0 rfl ?_
    refine zm_getI 47 rfl dX11_fillsLikes_44 fl_X11_251 rfl (zm_L (sv := sv) rfl) ?_
    refine zm_iald 48 rfl dX11_fillsLikes_47 rfl (zm_L (sv := sv) rfl) ?_
    refine zm_icmp_ge 121 51 (by decide) rfl dX11_fillsLikes_48 ?_ ?_
    · exact zm_loc [] rfl (zm_go (hf38b _) (zm_unb (hx121_38 L38)))
    · refine zm_aload_n 52 rfl dX11_fillsLikes_51 rfl 0 rfl ?_
      refine zm_getR (a := 92) 55 rfl dX11_fillsLikes_52 fl_X11_137 rfl (zm_L (sv := sv) rfl) rfl (by decide) ?_
      refine zm_iload_n 56 rfl dX11_fillsLikes_55 rfl 2 rfl ?_
      refine zm_iald 57 rfl dX11_fillsLikes_56 rfl (zm_L (sv := sv) rfl) ?_
      have hb78_38 : ∀ (b78_s0 : Int32), zm_V X Y_X11_fillsLikes E (zm_Q X E Y_X11_fillsLikes.2.2.2.1.cells Y_X11_fillsLikes.2.2.2.1.slots (zm_w sv) zm_ev) 0 0 false (zm_w sv) 78 [(0, .ref (E.2.1 + 52)), (1, .int a1), (2, .int l38_2)] [.int b78_s0] L38 (f_X11_fillsLikes_b78_38 a1 l38_2 L38 b78_s0) f38 := by
        intro b78_s0
        unfold f_X11_fillsLikes_b78_38
        refine zm_istore_n (lv' := [(3, .int b78_s0), (0, .ref (E.2.1 + 52)), (1, .int a1), (2, .int l38_2)]) 79 rfl dX11_fillsLikes_78 rfl (by decide) rfl ?_
        refine zm_iload_n 80 rfl dX11_fillsLikes_79 rfl 2 rfl ?_
        refine zm_iload_n 81 rfl dX11_fillsLikes_80 rfl 0 rfl ?_
        refine zm_ishr 82 rfl dX11_fillsLikes_81 ?_
        refine zm_iconst 83 rfl dX11_fillsLikes_82 zi_1 ?_
        refine zm_iand 84 rfl dX11_fillsLikes_83 ?_
        refine zm_iconst 85 rfl dX11_fillsLikes_84 zi_1 ?_
        have hb94_38 : ∀ (b94_3 : Int32), zm_V X Y_X11_fillsLikes E (zm_Q X E Y_X11_fillsLikes.2.2.2.1.cells Y_X11_fillsLikes.2.2.2.1.slots (zm_w sv) zm_ev) 0 0 false (zm_w sv) 94 [(0, .ref (E.2.1 + 52)), (1, .int a1), (2, .int l38_2), (3, .int b94_3)] [] L38 (f_X11_fillsLikes_b94_38 a1 l38_2 L38 b94_3) f38 := by
          intro b94_3
          unfold f_X11_fillsLikes_b94_38
          refine zm_aload_n 95 rfl dX11_fillsLikes_94 rfl 0 rfl ?_
          refine zm_getR (a := 96) 98 rfl dX11_fillsLikes_95 fl_X11_149 rfl (zm_L (sv := sv) rfl) rfl (by decide) ?_
          refine zm_iconst 99 rfl dX11_fillsLikes_98 zi_5 ?_
          refine zm_iload_n 100 rfl dX11_fillsLikes_99 rfl 1 rfl ?_
          refine zm_imul 101 rfl dX11_fillsLikes_100 ?_
          refine zm_iload_n 102 rfl dX11_fillsLikes_101 rfl 3 rfl ?_
          refine zm_iadd 103 rfl dX11_fillsLikes_102 ?_
          refine zm_dup2 104 rfl dX11_fillsLikes_103 rfl rfl ?_
          refine zm_iald 105 rfl dX11_fillsLikes_104 rfl (zm_L (sv := sv) rfl) ?_
          refine zm_aload_n 106 rfl dX11_fillsLikes_105 rfl 0 rfl ?_
          refine zm_iload_n 107 rfl dX11_fillsLikes_106 rfl 3 rfl ?_
          refine zm_iload_n 108 rfl dX11_fillsLikes_107 rfl 2 rfl ?_
          refine zm_iconst 109 rfl dX11_fillsLikes_108 zi_1 ?_
          refine zm_iconst 110 rfl dX11_fillsLikes_109 zi_m1 ?_
          refine zm_cV4i 113 rfl dX11_fillsLikes_110 ml_X11_394 rfl (zm_L (sv := sv) rfl) rfl (Nat.le_of_ble_eq_true rfl) ⟨Nat.le_of_ble_eq_true rfl, Nat.le_of_ble_eq_true rfl⟩ rfl rfl ⟨Nat.le_refl _, Nat.le_refl _⟩ rfl (fun _ _ h => k_X11_likesOf E sv b94_3 l38_2 1 (-1) L38 h) (fun r110 M110 => ?_)
          refine zm_iadd 114 rfl dX11_fillsLikes_113 ?_
          refine zm_iast 115 rfl dX11_fillsLikes_114 rfl (zm_L (sv := sv) rfl) (fun M114 _ => ?_)
          refine zm_iinc (lv' := fun z => [(2, .int z), (0, .ref (E.2.1 + 52)), (1, .int a1), (3, .int b94_3)]) 118 rfl dX11_fillsLikes_115 zi_1 2 rfl (by decide) (fun _ => rfl) (fun x115 _ => ?_)
          refine zm_goto 38 (by decide) dX11_fillsLikes_118 ?_
          exact zm_loc [1, 2, 0] rfl (zm_go (hf38a _) (hD38 (x115, M114)))
        refine zm_icmp_ne 94 88 (by decide) rfl dX11_fillsLikes_85 ?_ ?_
        · refine zm_aload_n 89 rfl dX11_fillsLikes_88 rfl 1 rfl ?_
          refine zm_iload_n 90 rfl dX11_fillsLikes_89 rfl 3 rfl ?_
          refine zm_cV1ir 93 rfl dX11_fillsLikes_90 ml_X11_343 rfl (zm_L (sv := sv) rfl) rfl (Nat.le_of_ble_eq_true rfl) ⟨Nat.le_of_ble_eq_true rfl, Nat.le_of_ble_eq_true rfl⟩ rfl rfl ⟨Nat.le_refl _, Nat.le_refl _⟩ rfl (fun _ h => k_X11_ownerNow E sv l38_2 L38 h) (fun r90 => ?_)
          refine zm_istore_n (lv' := [(3, .int r90), (0, .ref (E.2.1 + 52)), (1, .int a1), (2, .int l38_2)]) 94 rfl dX11_fillsLikes_93 rfl (by decide) rfl ?_
          exact zm_loc [1, 2, 3, 0] rfl (hb94_38 r90)
        · exact zm_loc [1, 2, 3, 0] rfl (hb94_38 b78_s0)
      refine zm_if_ge 72 60 (by decide) rfl dX11_fillsLikes_57 ?_ ?_
      · refine zm_aload_n 73 rfl dX11_fillsLikes_72 rfl 0 rfl ?_
        refine zm_getR (a := 92) 76 rfl dX11_fillsLikes_73 fl_X11_137 rfl (zm_L (sv := sv) rfl) rfl (by decide) ?_
        refine zm_iload_n 77 rfl dX11_fillsLikes_76 rfl 2 rfl ?_
        refine zm_iald 78 rfl dX11_fillsLikes_77 rfl (zm_L (sv := sv) rfl) ?_
        exact zm_loc [0, 1, 2] rfl (hb78_38 (L38.1 92 l38_2.toNatClampNeg))
      · refine zm_aload_n 61 rfl dX11_fillsLikes_60 rfl 0 rfl ?_
        refine zm_getR (a := 92) 64 rfl dX11_fillsLikes_61 fl_X11_137 rfl (zm_L (sv := sv) rfl) rfl (by decide) ?_
        refine zm_bipush 66 rfl dX11_fillsLikes_64 zb_6 ?_
        refine zm_iload_n 67 rfl dX11_fillsLikes_66 rfl 2 rfl ?_
        refine zm_iadd 68 rfl dX11_fillsLikes_67 ?_
        refine zm_iald 69 rfl dX11_fillsLikes_68 rfl (zm_L (sv := sv) rfl) ?_
        refine zm_goto 78 (by decide) dX11_fillsLikes_69 ?_
        exact zm_loc [0, 1, 2] rfl (hb78_38 (L38.1 92 (6 + l38_2).toNatClampNeg))
  refine zm_loc [1, 2, 0] rfl (zm_lpp (σ := (Int32 × zm_Mem)) (ε := zm_Mem) (step := fun s => f_X11_fillsLikes_l6 a1 s.1 s.2) (fun s => [(0, .ref (E.2.1 + 52)), (1, .int a1), (2, .int s.1)]) (fun s => s.2) (fun D6 f6 hf6a hf6b hD6 s => ?_) (0, M1))
  obtain ⟨l6_2, L6⟩ := s
  show zm_V X Y_X11_fillsLikes E (zm_Q X E Y_X11_fillsLikes.2.2.2.1.cells Y_X11_fillsLikes.2.2.2.1.slots (zm_w sv) zm_ev) 0 0 false (zm_w sv) 6 [(0, .ref (E.2.1 + 52)), (1, .int a1), (2, .int l6_2)] [] L6 (f_X11_fillsLikes_l6 a1 l6_2 L6) f6
  unfold f_X11_fillsLikes_l6
  refine zm_iload_n 7 rfl dX11_fillsLikes_6 rfl 2 rfl ?_
  refine zm_aload_n 8 rfl dX11_fillsLikes_7 rfl 0 rfl ?_
  refine zm_getR (a := 63) 11 rfl dX11_fillsLikes_8 fl_X11_49 rfl (zm_L (sv := sv) rfl) rfl (by decide) ?_
  refine zm_aload_n 12 rfl dX11_fillsLikes_11 rfl 0 rfl ?_
  refine zm_getI 15 rfl dX11_fillsLikes_12 fl_X11_251 rfl (zm_L (sv := sv) rfl) ?_
  refine zm_iald 16 rfl dX11_fillsLikes_15 rfl (zm_L (sv := sv) rfl) ?_
  refine zm_icmp_ge 36 19 (by decide) rfl dX11_fillsLikes_16 ?_ ?_
  · exact zm_loc [0, 1] rfl (zm_go (hf6b _) (zm_unb (hx36_6 L6)))
  · refine zm_aload_n 20 rfl dX11_fillsLikes_19 rfl 0 rfl ?_
    refine zm_getR (a := 96) 23 rfl dX11_fillsLikes_20 fl_X11_149 rfl (zm_L (sv := sv) rfl) rfl (by decide) ?_
    refine zm_iconst 24 rfl dX11_fillsLikes_23 zi_5 ?_
    refine zm_iload_n 25 rfl dX11_fillsLikes_24 rfl 1 rfl ?_
    refine zm_imul 26 rfl dX11_fillsLikes_25 ?_
    refine zm_iload_n 27 rfl dX11_fillsLikes_26 rfl 2 rfl ?_
    refine zm_iadd 28 rfl dX11_fillsLikes_27 ?_
    refine zm_iconst 29 rfl dX11_fillsLikes_28 zi_0 ?_
    refine zm_iast 30 rfl dX11_fillsLikes_29 rfl (zm_L (sv := sv) rfl) (fun M29 _ => ?_)
    refine zm_iinc (lv' := fun z => [(2, .int z), (0, .ref (E.2.1 + 52)), (1, .int a1)]) 33 rfl dX11_fillsLikes_30 zi_1 2 rfl (by decide) (fun _ => rfl) (fun x30 _ => ?_)
    refine zm_goto 6 (by decide) dX11_fillsLikes_33 ?_
    exact zm_loc [1, 2, 0] rfl (zm_go (hf6a _) (hD6 (x30, M29)))
