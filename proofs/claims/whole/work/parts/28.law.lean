noncomputable def f_law_go (i : Int32) (M : zm_Mem) (q : Nat) : Option ((Int32 × zm_Mem × Nat) ⊕ zm_Mem) := zm_v (i + 6) <| fun z => some (.inl (z, M, q))
noncomputable def f_law_c0 (L : Nat) (xs : Nat → Int32) (i : Int32) (M : zm_Mem) (q : Nat) : Option ((Int32 × zm_Mem × Nat) ⊕ zm_Mem) :=
  zm_ck (zm_in (i + 1) L) <| zm_ck (zm_in (i + 2) L) <| zm_ck (zm_in (i + 3) L) <| zm_ck (zm_in (i + 4) L) <| zm_ck (zm_in (i + 5) L) <| zm_b2 (f_X10_feed (xs (i + 1).toNatClampNeg) (xs (i + 2).toNatClampNeg) (xs (i + 3).toNatClampNeg) (xs (i + 4).toNatClampNeg) (xs (i + 5).toNatClampNeg) M) <| fun r1 M2 => zm_ck (zm_in (i + 1) L) <| zm_ck (zm_in (i + 2) L) <| zm_ck (zm_in (i + 3) L) <| zm_ck (zm_in (i + 4) L) <| zm_ck (zm_in (i + 5) L) <| zm_b2 (f_X11_feed (xs (i + 1).toNatClampNeg) (xs (i + 2).toNatClampNeg) (xs (i + 3).toNatClampNeg) (xs (i + 4).toNatClampNeg) (xs (i + 5).toNatClampNeg) M2) <| fun r3 M4 => if r1 = r3 then (f_law_go i M4 q) else none
noncomputable def f_law_c1 (L : Nat) (xs : Nat → Int32) (i : Int32) (M : zm_Mem) (q : Nat) : Option ((Int32 × zm_Mem × Nat) ⊕ zm_Mem) :=
  zm_ck (zm_in (i + 1) L) <| zm_b2 (f_X10_back (xs (i + 1).toNatClampNeg) M) <| fun r5 M6 => zm_ck (zm_in (i + 1) L) <| zm_b2 (f_X11_back (xs (i + 1).toNatClampNeg) M6) <| fun r7 M8 => if r5 = r7 then (f_law_go i M8 q) else none
noncomputable def f_law_c2 (L : Nat) (xs : Nat → Int32) (i : Int32) (M : zm_Mem) (q : Nat) : Option ((Int32 × zm_Mem × Nat) ⊕ zm_Mem) :=
  zm_b2 (f_X10_read M) <| fun r9 M10 => zm_b2 (f_X11_read M10) <| fun r11 M12 => if r9 = r11 then (f_law_go i M12 q) else none
noncomputable def f_law_c3 (L : Nat) (xs : Nat → Int32) (i : Int32) (M : zm_Mem) (q : Nat) : Option ((Int32 × zm_Mem × Nat) ⊕ zm_Mem) :=
  zm_b1 (f_X10_place M) <| fun r13 => zm_b1 (f_X11_place M) <| fun r14 => if r13 = r14 then (f_law_go i M q) else none
noncomputable def f_law_c4 (L : Nat) (xs : Nat → Int32) (i : Int32) (M : zm_Mem) (q : Nat) : Option ((Int32 × zm_Mem × Nat) ⊕ zm_Mem) :=
  zm_ck (zm_in (i + 1) L) <| zm_ck (zm_in (i + 2) L) <| zm_b2 (f_X10_house (xs (i + 1).toNatClampNeg) (xs (i + 2).toNatClampNeg) M) <| fun r15 M16 => zm_ck (zm_in (i + 1) L) <| zm_ck (zm_in (i + 2) L) <| zm_b2 (f_X11_house (xs (i + 1).toNatClampNeg) (xs (i + 2).toNatClampNeg) M16) <| fun r17 M18 => if r15 = r17 then (f_law_go i M18 q) else none
noncomputable def f_law_c5 (L : Nat) (xs : Nat → Int32) (i : Int32) (M : zm_Mem) (q : Nat) : Option ((Int32 × zm_Mem × Nat) ⊕ zm_Mem) :=
  zm_ck (zm_in (i + 1) L) <| zm_ck (zm_in (i + 2) L) <| zm_b1 (f_X10_work (xs (i + 1).toNatClampNeg) (xs (i + 2).toNatClampNeg) M) <| fun r19 => zm_ck (zm_in (i + 1) L) <| zm_ck (zm_in (i + 2) L) <| zm_b2 (f_X11_work (xs (i + 1).toNatClampNeg) (xs (i + 2).toNatClampNeg) M) <| fun r20 M21 => if r19 = r20 then (f_law_go i M21 q) else none
noncomputable def f_law_c6 (L : Nat) (xs : Nat → Int32) (i : Int32) (M : zm_Mem) (q : Nat) : Option ((Int32 × zm_Mem × Nat) ⊕ zm_Mem) :=
  zm_ck (zm_in (i + 1) L) <| zm_ck (zm_in (i + 2) L) <| zm_b2 (f_X10_may (xs (i + 1).toNatClampNeg) (xs (i + 2).toNatClampNeg) M) <| fun r22 M23 => zm_ck (zm_in (i + 1) L) <| zm_ck (zm_in (i + 2) L) <| zm_b2 (f_X11_may (xs (i + 1).toNatClampNeg) (xs (i + 2).toNatClampNeg) M23) <| fun r24 M25 => if r22 = r24 then (f_law_go i M25 q) else none
noncomputable def f_law_c7 (L : Nat) (xs : Nat → Int32) (i : Int32) (M : zm_Mem) (q : Nat) : Option ((Int32 × zm_Mem × Nat) ⊕ zm_Mem) :=
  zm_ck (zm_in (i + 1) L) <| zm_ck (zm_in (i + 2) L) <| zm_b2 (f_X10_holds (xs (i + 1).toNatClampNeg) (xs (i + 2).toNatClampNeg) M) <| fun r26 M27 => zm_ck (zm_in (i + 1) L) <| zm_ck (zm_in (i + 2) L) <| zm_b2 (f_X11_holds (xs (i + 1).toNatClampNeg) (xs (i + 2).toNatClampNeg) M27) <| fun r28 M29 => if r26 = r28 then (f_law_go i M29 q) else none
noncomputable def f_law_c8 (L : Nat) (xs : Nat → Int32) (i : Int32) (M : zm_Mem) (q : Nat) : Option ((Int32 × zm_Mem × Nat) ⊕ zm_Mem) :=
  zm_ck (zm_in (i + 1) L) <| zm_ck (zm_in (i + 2) L) <| zm_b2 (f_X10_likes (xs (i + 1).toNatClampNeg) (xs (i + 2).toNatClampNeg) M) <| fun r30 M31 => zm_ck (zm_in (i + 1) L) <| zm_ck (zm_in (i + 2) L) <| zm_b2 (f_X11_likes (xs (i + 1).toNatClampNeg) (xs (i + 2).toNatClampNeg) M31) <| fun r32 M33 => if r30 = r32 then (f_law_go i M33 q) else none
noncomputable def f_law_c9 (L : Nat) (xs : Nat → Int32) (i : Int32) (M : zm_Mem) (q : Nat) : Option ((Int32 × zm_Mem × Nat) ⊕ zm_Mem) :=
  zm_ck (zm_in (i + 1) L) <| zm_ck (zm_in (i + 2) L) <| zm_b2 (f_X10_trip (xs (i + 1).toNatClampNeg) (xs (i + 2).toNatClampNeg) M) <| fun r34 M35 => zm_ck (zm_in (i + 1) L) <| zm_ck (zm_in (i + 2) L) <| zm_b2 (f_X11_trip (xs (i + 1).toNatClampNeg) (xs (i + 2).toNatClampNeg) M35) <| fun r36 M37 => if r34 = r36 then (f_law_go i M37 q) else none
noncomputable def f_law_c10 (L : Nat) (xs : Nat → Int32) (i : Int32) (M : zm_Mem) (q : Nat) : Option ((Int32 × zm_Mem × Nat) ⊕ zm_Mem) :=
  zm_ck (zm_in (i + 1) L) <| zm_ck (zm_in (i + 2) L) <| zm_b2 (f_X10_send (xs (i + 1).toNatClampNeg) (xs (i + 2).toNatClampNeg) M) <| fun r38 M39 => zm_ck (zm_in (i + 1) L) <| zm_ck (zm_in (i + 2) L) <| zm_b2 (f_X11_send (xs (i + 1).toNatClampNeg) (xs (i + 2).toNatClampNeg) M39) <| fun r40 M41 => if r38 = r40 then (f_law_go i M41 q) else none
noncomputable def f_law_c11 (L : Nat) (xs : Nat → Int32) (i : Int32) (M : zm_Mem) (q : Nat) : Option ((Int32 × zm_Mem × Nat) ⊕ zm_Mem) :=
  zm_ck (zm_in (i + 1) L) <| zm_ck (zm_in (i + 2) L) <| if (xs (i + 2).toNatClampNeg) = 0 then (zm_b2 (f_X10_lift (xs (i + 1).toNatClampNeg) 0 M) <| fun r42 M43 => zm_ck (zm_in (i + 1) L) <| zm_ck (zm_in (i + 2) L) <| if (xs (i + 2).toNatClampNeg) = 0 then (zm_b2 (f_X11_lift (xs (i + 1).toNatClampNeg) 0 M43) <| fun r44 M45 => if r42 = r44 then (f_law_go i M45 q) else none) else (zm_b2 (f_X11_lift (xs (i + 1).toNatClampNeg) 1 M43) <| fun r46 M47 => if r42 = r46 then (f_law_go i M47 q) else none)) else (zm_b2 (f_X10_lift (xs (i + 1).toNatClampNeg) 1 M) <| fun r48 M49 => zm_ck (zm_in (i + 1) L) <| zm_ck (zm_in (i + 2) L) <| if (xs (i + 2).toNatClampNeg) = 0 then (zm_b2 (f_X11_lift (xs (i + 1).toNatClampNeg) 0 M49) <| fun r50 M51 => if r48 = r50 then (f_law_go i M51 q) else none) else (zm_b2 (f_X11_lift (xs (i + 1).toNatClampNeg) 1 M49) <| fun r52 M53 => if r48 = r52 then (f_law_go i M53 q) else none))
noncomputable def f_law_c12 (L : Nat) (xs : Nat → Int32) (i : Int32) (M : zm_Mem) (q : Nat) : Option ((Int32 × zm_Mem × Nat) ⊕ zm_Mem) :=
  zm_ck (zm_in (i + 1) L) <| zm_b2 (f_X10_days (xs (i + 1).toNatClampNeg) M) <| fun r54 M55 => zm_ck (zm_in (i + 1) L) <| zm_b2 (f_X11_days (xs (i + 1).toNatClampNeg) M55) <| fun r56 M57 => if r54 = r56 then (f_law_go i M57 q) else none
noncomputable def f_law_c13 (L : Nat) (xs : Nat → Int32) (i : Int32) (M : zm_Mem) (q : Nat) : Option ((Int32 × zm_Mem × Nat) ⊕ zm_Mem) :=
  zm_b2 (f_X10_undo M) <| fun r58 M59 => zm_b2 (f_X11_undo M59) <| fun r60 M61 => if r58 = r60 then (f_law_go i M61 q) else none
noncomputable def f_law_c14 (L : Nat) (xs : Nat → Int32) (i : Int32) (M : zm_Mem) (q : Nat) : Option ((Int32 × zm_Mem × Nat) ⊕ zm_Mem) :=
  zm_b2 (f_X10_well M) <| fun r62 M63 => zm_b2 (f_X11_well M63) <| fun r64 M65 => if r62 = r64 then (f_law_go i M65 q) else none
noncomputable def f_law_c15 (L : Nat) (xs : Nat → Int32) (i : Int32) (M : zm_Mem) (q : Nat) : Option ((Int32 × zm_Mem × Nat) ⊕ zm_Mem) :=
  zm_b2 (f_X10_bad M) <| fun r66 M67 => zm_b2 (f_X11_bad M67) <| fun r68 M69 => if r66 = r68 then (f_law_go i M69 q) else none
noncomputable def f_law_c16 (L : Nat) (xs : Nat → Int32) (i : Int32) (M : zm_Mem) (q : Nat) : Option ((Int32 × zm_Mem × Nat) ⊕ zm_Mem) :=
  zm_ck (decide (q = 0 ↔ M.2.2 1 11 = 0)) <| zm_b2 (f_X10_hangingsP M) <| fun r70 M71 => zm_b2 (f_X11_hangings M71) <| fun r72 M73 => if r70 = r72 then (f_law_go i M73 (q + 1)) else none
noncomputable def f_law_c17 (L : Nat) (xs : Nat → Int32) (i : Int32) (M : zm_Mem) (q : Nat) : Option ((Int32 × zm_Mem × Nat) ⊕ zm_Mem) :=
  zm_ck (zm_in (i + 1) L) <| if (f_X10_nearestE (xs (i + 1).toNatClampNeg) M).isSome = true then (zm_b1 (f_X10_nearestE (xs (i + 1).toNatClampNeg) M) <| fun r78 => zm_ck (zm_in (i + 1) L) <| zm_b2 (f_X11_nearest (xs (i + 1).toNatClampNeg) M) <| fun r79 M80 => if r78 = r79 then (f_law_go i M80 q) else none) else (zm_ck (decide (q = 0 ↔ M.2.2 1 11 = 0)) <| zm_b2 (f_X10_nearestP (xs (i + 1).toNatClampNeg) M) <| fun r74 M75 => zm_ck (zm_in (i + 1) L) <| zm_b2 (f_X11_nearest (xs (i + 1).toNatClampNeg) M75) <| fun r76 M77 => if r74 = r76 then (f_law_go i M77 (q + 1)) else none)
noncomputable def f_law_c18 (L : Nat) (xs : Nat → Int32) (i : Int32) (M : zm_Mem) (q : Nat) : Option ((Int32 × zm_Mem × Nat) ⊕ zm_Mem) :=
  zm_ck (zm_in (i + 1) L) <| if (f_X10_quarrelE (xs (i + 1).toNatClampNeg) M).isSome = true then (zm_b1 (f_X10_quarrelE (xs (i + 1).toNatClampNeg) M) <| fun r85 => zm_ck (zm_in (i + 1) L) <| zm_b2 (f_X11_quarrel (xs (i + 1).toNatClampNeg) M) <| fun r86 M87 => if r85 = r86 then (f_law_go i M87 q) else none) else (zm_ck (decide (q = 0 ↔ M.2.2 1 11 = 0)) <| zm_b2 (f_X10_quarrelP (xs (i + 1).toNatClampNeg) M) <| fun r81 M82 => zm_ck (zm_in (i + 1) L) <| zm_b2 (f_X11_quarrel (xs (i + 1).toNatClampNeg) M82) <| fun r83 M84 => if r81 = r83 then (f_law_go i M84 (q + 1)) else none)
noncomputable def f_law_c19 (L : Nat) (xs : Nat → Int32) (i : Int32) (M : zm_Mem) (q : Nat) : Option ((Int32 × zm_Mem × Nat) ⊕ zm_Mem) :=
  zm_ck (zm_in (i + 1) L) <| if (xs (i + 1).toNatClampNeg) = 0 then (zm_ck (decide (q = 0 ↔ M.2.2 1 11 = 0)) <| zm_b2 (f_X10_homeP 0 M) <| fun r88 M89 => zm_ck (zm_in (i + 1) L) <| if (xs (i + 1).toNatClampNeg) = 0 then (zm_b2 (f_X11_home 0 M89) <| fun r90 M91 => if r88 = r90 then (f_law_go i M91 (q + 1)) else none) else (zm_b2 (f_X11_home 1 M89) <| fun r92 M93 => if r88 = r92 then (f_law_go i M93 (q + 1)) else none)) else (zm_ck (decide (q = 0 ↔ M.2.2 1 11 = 0)) <| zm_b2 (f_X10_homeP 1 M) <| fun r94 M95 => zm_ck (zm_in (i + 1) L) <| if (xs (i + 1).toNatClampNeg) = 0 then (zm_b2 (f_X11_home 0 M95) <| fun r96 M97 => if r94 = r96 then (f_law_go i M97 (q + 1)) else none) else (zm_b2 (f_X11_home 1 M95) <| fun r98 M99 => if r94 = r98 then (f_law_go i M99 (q + 1)) else none))
noncomputable def f_law_c20 (L : Nat) (xs : Nat → Int32) (i : Int32) (M : zm_Mem) (q : Nat) : Option ((Int32 × zm_Mem × Nat) ⊕ zm_Mem) :=
  zm_ck (zm_in (i + 1) L) <| zm_b2 (f_X10_swaps (xs (i + 1).toNatClampNeg) M) <| fun r100 M101 => zm_ck (zm_in (i + 1) L) <| zm_b2 (f_X11_swaps (xs (i + 1).toNatClampNeg) M101) <| fun r102 M103 => if r100 = r102 then (f_law_go i M103 q) else none
noncomputable def f_law_c21 (L : Nat) (xs : Nat → Int32) (i : Int32) (M : zm_Mem) (q : Nat) : Option ((Int32 × zm_Mem × Nat) ⊕ zm_Mem) :=
  zm_ck (zm_in (i + 1) L) <| zm_b2 (f_X10_backs (xs (i + 1).toNatClampNeg) M) <| fun r104 M105 => zm_ck (zm_in (i + 1) L) <| zm_b2 (f_X11_backs (xs (i + 1).toNatClampNeg) M105) <| fun r106 M107 => if r104 = r106 then (f_law_go i M107 q) else none
noncomputable def f_law_c22 (L : Nat) (xs : Nat → Int32) (i : Int32) (M : zm_Mem) (q : Nat) : Option ((Int32 × zm_Mem × Nat) ⊕ zm_Mem) :=
  zm_b2 (f_X10_soonest M) <| fun r108 M109 => zm_b2 (f_X11_soonest M109) <| fun r110 M111 => if r108 = r110 then (f_law_go i M111 q) else none
noncomputable def f_law_c23 (L : Nat) (xs : Nat → Int32) (i : Int32) (M : zm_Mem) (q : Nat) : Option ((Int32 × zm_Mem × Nat) ⊕ zm_Mem) :=
  zm_ck (zm_in (i + 1) L) <| zm_ck (zm_in (i + 2) L) <| zm_b1 (f_X10_then (xs (i + 1).toNatClampNeg) (xs (i + 2).toNatClampNeg) M) <| fun r112 => zm_ck (zm_in (i + 1) L) <| zm_ck (zm_in (i + 2) L) <| zm_b2 (f_X11_then (xs (i + 1).toNatClampNeg) (xs (i + 2).toNatClampNeg) M) <| fun r113 M114 => if r112 = r113 then (f_law_go i M114 q) else none
noncomputable def f_law_c24 (L : Nat) (xs : Nat → Int32) (i : Int32) (M : zm_Mem) (q : Nat) : Option ((Int32 × zm_Mem × Nat) ⊕ zm_Mem) :=
  zm_ck (zm_in (i + 1) L) <| zm_ck (zm_in (i + 2) L) <| zm_ck (zm_in (i + 3) L) <| zm_ck (zm_in (i + 4) L) <| zm_b2 (f_X10_times (xs (i + 1).toNatClampNeg) (xs (i + 2).toNatClampNeg) (xs (i + 3).toNatClampNeg) (xs (i + 4).toNatClampNeg) M) <| fun r115 M116 => zm_ck (zm_in (i + 1) L) <| zm_ck (zm_in (i + 2) L) <| zm_ck (zm_in (i + 3) L) <| zm_ck (zm_in (i + 4) L) <| zm_b2 (f_X11_times (xs (i + 1).toNatClampNeg) (xs (i + 2).toNatClampNeg) (xs (i + 3).toNatClampNeg) (xs (i + 4).toNatClampNeg) M116) <| fun r117 M118 => if r115 = r117 then (f_law_go i M118 q) else none
noncomputable def f_law_c25 (L : Nat) (xs : Nat → Int32) (i : Int32) (M : zm_Mem) (q : Nat) : Option ((Int32 × zm_Mem × Nat) ⊕ zm_Mem) :=
  zm_ck (zm_in (i + 1) L) <| zm_ck (zm_in (i + 2) L) <| zm_b1 (f_X10_owes (xs (i + 1).toNatClampNeg) (xs (i + 2).toNatClampNeg) M) <| fun r119 => zm_ck (zm_in (i + 1) L) <| zm_ck (zm_in (i + 2) L) <| zm_b1 (f_X11_owes (xs (i + 1).toNatClampNeg) (xs (i + 2).toNatClampNeg) M) <| fun r120 => if r119 = r120 then (f_law_go i M q) else none
noncomputable def f_law_c26 (L : Nat) (xs : Nat → Int32) (i : Int32) (M : zm_Mem) (q : Nat) : Option ((Int32 × zm_Mem × Nat) ⊕ zm_Mem) :=
  zm_ck (zm_in (i + 1) L) <| if (xs (i + 1).toNatClampNeg) = 0 then (zm_b1 (f_X10_richest 0 M) <| fun r121 => zm_ck (zm_in (i + 1) L) <| if (xs (i + 1).toNatClampNeg) = 0 then (zm_b1 (f_X11_richest 0 M) <| fun r122 => if r121 = r122 then (f_law_go i M q) else none) else (zm_b1 (f_X11_richest 1 M) <| fun r123 => if r121 = r123 then (f_law_go i M q) else none)) else (zm_b1 (f_X10_richest 1 M) <| fun r124 => zm_ck (zm_in (i + 1) L) <| if (xs (i + 1).toNatClampNeg) = 0 then (zm_b1 (f_X11_richest 0 M) <| fun r125 => if r124 = r125 then (f_law_go i M q) else none) else (zm_b1 (f_X11_richest 1 M) <| fun r126 => if r124 = r126 then (f_law_go i M q) else none))
noncomputable def f_law_c27 (L : Nat) (xs : Nat → Int32) (i : Int32) (M : zm_Mem) (q : Nat) : Option ((Int32 × zm_Mem × Nat) ⊕ zm_Mem) :=
  zm_ck (zm_in (i + 1) L) <| zm_ck (zm_in (i + 2) L) <| zm_b1 (f_X10_lent (xs (i + 1).toNatClampNeg) (xs (i + 2).toNatClampNeg) M) <| fun r127 => zm_ck (zm_in (i + 1) L) <| zm_ck (zm_in (i + 2) L) <| zm_b1 (f_X11_lent (xs (i + 1).toNatClampNeg) (xs (i + 2).toNatClampNeg) M) <| fun r128 => if r127 = r128 then (f_law_go i M q) else none
noncomputable def f_law_c28 (L : Nat) (xs : Nat → Int32) (i : Int32) (M : zm_Mem) (q : Nat) : Option ((Int32 × zm_Mem × Nat) ⊕ zm_Mem) :=
  zm_ck (zm_in (i + 1) L) <| zm_ck (zm_in (i + 2) L) <| zm_ck (zm_in (i + 3) L) <| zm_b2 (f_X10_list (xs (i + 1).toNatClampNeg) (xs (i + 2).toNatClampNeg) (xs (i + 3).toNatClampNeg) M) <| fun r129 M130 => zm_ck (zm_in (i + 1) L) <| zm_ck (zm_in (i + 2) L) <| zm_ck (zm_in (i + 3) L) <| zm_b2 (f_X11_list (xs (i + 1).toNatClampNeg) (xs (i + 2).toNatClampNeg) (xs (i + 3).toNatClampNeg) M130) <| fun r131 M132 => if r129 = r131 then (f_law_go i M132 q) else none
noncomputable def f_law_c29 (L : Nat) (xs : Nat → Int32) (i : Int32) (M : zm_Mem) (q : Nat) : Option ((Int32 × zm_Mem × Nat) ⊕ zm_Mem) :=
  zm_b2 (f_X10_forget M) <| fun r133 M134 => zm_b2 (f_X11_forget M134) <| fun r135 M136 => if r133 = r135 then (f_law_go i M136 q) else none
noncomputable def f_law_c30 (L : Nat) (xs : Nat → Int32) (i : Int32) (M : zm_Mem) (q : Nat) : Option ((Int32 × zm_Mem × Nat) ⊕ zm_Mem) :=
  zm_ck (zm_in (i + 1) L) <| zm_ck (zm_in (i + 2) L) <| zm_b2 (f_X10_fits (xs (i + 1).toNatClampNeg) (xs (i + 2).toNatClampNeg) M) <| fun r137 M138 => zm_ck (zm_in (i + 1) L) <| zm_ck (zm_in (i + 2) L) <| zm_b1 (f_X11_fits (xs (i + 1).toNatClampNeg) (xs (i + 2).toNatClampNeg) M138) <| fun r139 => if r137 = r139 then (f_law_go i M138 q) else none
noncomputable def f_law_c31 (L : Nat) (xs : Nat → Int32) (i : Int32) (M : zm_Mem) (q : Nat) : Option ((Int32 × zm_Mem × Nat) ⊕ zm_Mem) :=
  zm_ck (zm_in (i + 1) L) <| zm_b2 (f_X10_least (xs (i + 1).toNatClampNeg) M) <| fun r140 M141 => zm_ck (zm_in (i + 1) L) <| zm_b1 (f_X11_least (xs (i + 1).toNatClampNeg) M141) <| fun r142 => if r140 = r142 then (f_law_go i M141 q) else none
noncomputable def f_law_c32 (L : Nat) (xs : Nat → Int32) (i : Int32) (M : zm_Mem) (q : Nat) : Option ((Int32 × zm_Mem × Nat) ⊕ zm_Mem) :=
  zm_ck (zm_in (i + 1) L) <| zm_ck (zm_in (i + 2) L) <| zm_b2 (f_X10_sure (xs (i + 1).toNatClampNeg) (xs (i + 2).toNatClampNeg) M) <| fun r143 M144 => zm_ck (zm_in (i + 1) L) <| zm_ck (zm_in (i + 2) L) <| zm_b1 (f_X11_sure (xs (i + 1).toNatClampNeg) (xs (i + 2).toNatClampNeg) M144) <| fun r145 => if r143 = r145 then (f_law_go i M144 q) else none
noncomputable def f_law_c33 (L : Nat) (xs : Nat → Int32) (i : Int32) (M : zm_Mem) (q : Nat) : Option ((Int32 × zm_Mem × Nat) ⊕ zm_Mem) :=
  zm_ck (zm_in (i + 1) L) <| zm_b2 (f_X10_hold (xs (i + 1).toNatClampNeg) M) <| fun r146 M147 => zm_ck (zm_in (i + 1) L) <| zm_b2 (f_X11_hold (xs (i + 1).toNatClampNeg) M147) <| fun r148 M149 => if r146 = r148 then (f_law_go i M149 q) else none
noncomputable def f_law_c34 (L : Nat) (xs : Nat → Int32) (i : Int32) (M : zm_Mem) (q : Nat) : Option ((Int32 × zm_Mem × Nat) ⊕ zm_Mem) :=
  zm_ck (zm_in (i + 1) L) <| zm_b2 (f_X10_restore (xs (i + 1).toNatClampNeg) M) <| fun r150 M151 => zm_ck (zm_in (i + 1) L) <| zm_b2 (f_X11_restore (xs (i + 1).toNatClampNeg) M151) <| fun r152 M153 => if r150 = r152 then (f_law_go i M153 q) else none
noncomputable def f_law_c35 (L : Nat) (xs : Nat → Int32) (i : Int32) (M : zm_Mem) (q : Nat) : Option ((Int32 × zm_Mem × Nat) ⊕ zm_Mem) :=
  zm_ck (zm_in (i + 1) L) <| zm_b1 (f_X10_count (xs (i + 1).toNatClampNeg) M) <| fun r154 => zm_ck (zm_in (i + 1) L) <| zm_b2 (f_X11_count (xs (i + 1).toNatClampNeg) M) <| fun r155 M156 => if r154 = r155 then (f_law_go i M156 q) else none
noncomputable def f_law_step (L : Nat) (xs : Nat → Int32) (i : Int32) (M : zm_Mem) (q : Nat) : Option ((Int32 × zm_Mem × Nat) ⊕ zm_Mem) :=
  zm_ck (decide (q ≤ 512)) <| if Int32.ofNat L - 6 < i then some (.inr M) else (zm_ck (decide (q < 512)) <| zm_ck (zm_in i L) <| zm_v (xs i.toNatClampNeg &&& 63) <| fun k => if k = 0 then f_law_c0 L xs i M q else if k = 1 then f_law_c1 L xs i M q else if k = 2 then f_law_c2 L xs i M q else if k = 3 then f_law_c3 L xs i M q else if k = 4 then f_law_c4 L xs i M q else if k = 5 then f_law_c5 L xs i M q else if k = 6 then f_law_c6 L xs i M q else if k = 7 then f_law_c7 L xs i M q else if k = 8 then f_law_c8 L xs i M q else if k = 9 then f_law_c9 L xs i M q else if k = 10 then f_law_c10 L xs i M q else if k = 11 then f_law_c11 L xs i M q else if k = 12 then f_law_c12 L xs i M q else if k = 13 then f_law_c13 L xs i M q else if k = 14 then f_law_c14 L xs i M q else if k = 15 then f_law_c15 L xs i M q else if k = 16 then f_law_c16 L xs i M q else if k = 17 then f_law_c17 L xs i M q else if k = 18 then f_law_c18 L xs i M q else if k = 19 then f_law_c19 L xs i M q else if k = 20 then f_law_c20 L xs i M q else if k = 21 then f_law_c21 L xs i M q else if k = 22 then f_law_c22 L xs i M q else if k = 23 then f_law_c23 L xs i M q else if k = 24 then f_law_c24 L xs i M q else if k = 25 then f_law_c25 L xs i M q else if k = 26 then f_law_c26 L xs i M q else if k = 27 then f_law_c27 L xs i M q else if k = 28 then f_law_c28 L xs i M q else if k = 29 then f_law_c29 L xs i M q else if k = 30 then f_law_c30 L xs i M q else if k = 31 then f_law_c31 L xs i M q else if k = 32 then f_law_c32 L xs i M q else if k = 33 then f_law_c33 L xs i M q else if k = 34 then f_law_c34 L xs i M q else if k = 35 then f_law_c35 L xs i M q else f_law_go i M q)
def zm_M0 : zm_Mem := (fun _ _ => 0, fun _ _ => 0, fun _ _ => 0)
noncomputable def f_law_new : Option zm_Mem := zm_v (zm_zero zm_M0 1) <| fun N1 => zm_b2 (f_X10_init_1 N1) <| fun _ N2 => zm_v (zm_zero N2 52) <| fun N3 => zm_b2 (f_X11_init_52 N3) <| fun _ N4 => some N4
noncomputable def f_law (L : Nat) (xs : Nat → Int32) : Option (Unit × zm_Mem) := zm_v (zm_zero zm_M0 1) <| fun N1 => zm_b2 (f_X10_init_1 N1) <| fun _ N2 => zm_v (zm_zero N2 52) <| fun N3 => zm_b2 (f_X11_init_52 N3) <| fun _ N4 => (zm_lp (fun s => f_law_step L xs s.1 s.2.1 s.2.2) ((0 : Int32), N4, (0 : Nat))).bind (fun N => some ((), N))
set_option maxRecDepth 20000 in
set_option maxHeartbeats 4000000 in
theorem kl_0 {p : Program} {e : Env} {s : State} {m : MethodId} {below : List Frame} {meth : Method} {c : Code} {E : zm_E} {nm : String} {b L : Nat} {xs : Nat → Int32} (hX : va_X b L xs s s.heap) (hbl : b < s.heap.size) (hbE : b ≤ E.2.1) {f : ((Int32 × zm_Mem × Nat) ⊕ zm_Mem) → Option (Unit × zm_Mem)} {i : Int32} {M : zm_Mem} {q : Nat} (hq : q < 512) (hgo : ∀ (M : zm_Mem) (q : Nat), zm_V (p, e, s, m, #[Value.ref b], below, meth, c) (Y_L nm) E (fun (_ : Unit) _ => lw_Z below #[Value.ref b] s) (102 + 13 * q) (34429 + 4296 * q) (decide (q = 0)) (zm_w q) 1208 [(3, .int i), (2, .ref (E.2.1 + 52)), (1, .ref (E.2.1 + 1)), (0, .ref b)] [] M (f_law_go i M q) f) : zm_V (p, e, s, m, #[Value.ref b], below, meth, c) (Y_L nm) E (fun (_ : Unit) _ => lw_Z below #[Value.ref b] s) (102 + 13 * q) (34429 + 4296 * q) (decide (q = 0)) (zm_w q) 192 [(3, .int i), (2, .ref (E.2.1 + 52)), (1, .ref (E.2.1 + 1)), (0, .ref b)] [] M (f_law_c0 L xs i M q) f := by
  unfold f_law_c0
  refine zm_aload_n 193 rfl dL_law_192 rfl 2 rfl ?_
  refine zm_aload_n 194 rfl dL_law_193 rfl 3 rfl ?_
  refine zm_iload_n 195 rfl dL_law_194 rfl 0 rfl ?_
  refine zm_iconst 196 rfl dL_law_195 zi_1 ?_
  refine zm_iadd 197 rfl dL_law_196 ?_
  refine zm_sld hX hbl hbE 198 rfl dL_law_197 ?_
  refine zm_aload_n 199 rfl dL_law_198 rfl 3 rfl ?_
  refine zm_iload_n 200 rfl dL_law_199 rfl 0 rfl ?_
  refine zm_iconst 201 rfl dL_law_200 zi_2 ?_
  refine zm_iadd 202 rfl dL_law_201 ?_
  refine zm_sld hX hbl hbE 203 rfl dL_law_202 ?_
  refine zm_aload_n 204 rfl dL_law_203 rfl 3 rfl ?_
  refine zm_iload_n 205 rfl dL_law_204 rfl 0 rfl ?_
  refine zm_iconst 206 rfl dL_law_205 zi_3 ?_
  refine zm_iadd 207 rfl dL_law_206 ?_
  refine zm_sld hX hbl hbE 208 rfl dL_law_207 ?_
  refine zm_aload_n 209 rfl dL_law_208 rfl 3 rfl ?_
  refine zm_iload_n 210 rfl dL_law_209 rfl 0 rfl ?_
  refine zm_iconst 211 rfl dL_law_210 zi_4 ?_
  refine zm_iadd 212 rfl dL_law_211 ?_
  refine zm_sld hX hbl hbE 213 rfl dL_law_212 ?_
  refine zm_aload_n 214 rfl dL_law_213 rfl 3 rfl ?_
  refine zm_iload_n 215 rfl dL_law_214 rfl 0 rfl ?_
  refine zm_iconst 216 rfl dL_law_215 zi_5 ?_
  refine zm_iadd 217 rfl dL_law_216 ?_
  refine zm_sld hX hbl hbE 218 rfl dL_law_217 ?_
  refine zm_cV5i 221 rfl dL_law_218 ml_L_13 rfl (zm_L (sv := q) rfl) rfl (Nat.le_of_ble_eq_true rfl) ⟨Nat.le_of_ble_eq_true rfl, Nat.le_of_ble_eq_true rfl⟩ rfl rfl ⟨by show 102 + 13 * q ≤ 128088; omega, by show 34429 + 4296 * q ≤ 8717986; omega⟩ rfl (fun _ _ h => k_X10_feed E q (xs (i + 1).toNatClampNeg) (xs (i + 2).toNatClampNeg) (xs (i + 3).toNatClampNeg) (xs (i + 4).toNatClampNeg) (xs (i + 5).toNatClampNeg) M h) (fun r1 M2 => ?_)
  refine zm_aload_n 222 rfl dL_law_221 rfl 1 rfl ?_
  refine zm_aload_n 223 rfl dL_law_222 rfl 3 rfl ?_
  refine zm_iload_n 224 rfl dL_law_223 rfl 0 rfl ?_
  refine zm_iconst 225 rfl dL_law_224 zi_1 ?_
  refine zm_iadd 226 rfl dL_law_225 ?_
  refine zm_sld hX hbl hbE 227 rfl dL_law_226 ?_
  refine zm_aload_n 228 rfl dL_law_227 rfl 3 rfl ?_
  refine zm_iload_n 229 rfl dL_law_228 rfl 0 rfl ?_
  refine zm_iconst 230 rfl dL_law_229 zi_2 ?_
  refine zm_iadd 231 rfl dL_law_230 ?_
  refine zm_sld hX hbl hbE 232 rfl dL_law_231 ?_
  refine zm_aload_n 233 rfl dL_law_232 rfl 3 rfl ?_
  refine zm_iload_n 234 rfl dL_law_233 rfl 0 rfl ?_
  refine zm_iconst 235 rfl dL_law_234 zi_3 ?_
  refine zm_iadd 236 rfl dL_law_235 ?_
  refine zm_sld hX hbl hbE 237 rfl dL_law_236 ?_
  refine zm_aload_n 238 rfl dL_law_237 rfl 3 rfl ?_
  refine zm_iload_n 239 rfl dL_law_238 rfl 0 rfl ?_
  refine zm_iconst 240 rfl dL_law_239 zi_4 ?_
  refine zm_iadd 241 rfl dL_law_240 ?_
  refine zm_sld hX hbl hbE 242 rfl dL_law_241 ?_
  refine zm_aload_n 243 rfl dL_law_242 rfl 3 rfl ?_
  refine zm_iload_n 244 rfl dL_law_243 rfl 0 rfl ?_
  refine zm_iconst 245 rfl dL_law_244 zi_5 ?_
  refine zm_iadd 246 rfl dL_law_245 ?_
  refine zm_sld hX hbl hbE 247 rfl dL_law_246 ?_
  refine zm_cV5i 250 rfl dL_law_247 ml_L_17 rfl (zm_L (sv := q) rfl) rfl (Nat.le_of_ble_eq_true rfl) ⟨Nat.le_of_ble_eq_true rfl, Nat.le_of_ble_eq_true rfl⟩ rfl rfl ⟨by show 102 + 13 * q ≤ 128088; omega, by show 34429 + 4296 * q ≤ 8717986; omega⟩ rfl (fun _ _ h => k_X11_feed E q (xs (i + 1).toNatClampNeg) (xs (i + 2).toNatClampNeg) (xs (i + 3).toNatClampNeg) (xs (i + 4).toNatClampNeg) (xs (i + 5).toNatClampNeg) M2 h) (fun r3 M4 => ?_)
  refine zm_icmp_eq 1208 253 (by decide) rfl dL_law_250 ?_ zm_none
  exact hgo M4 q
set_option maxRecDepth 20000 in
set_option maxHeartbeats 4000000 in
theorem kl_1 {p : Program} {e : Env} {s : State} {m : MethodId} {below : List Frame} {meth : Method} {c : Code} {E : zm_E} {nm : String} {b L : Nat} {xs : Nat → Int32} (hX : va_X b L xs s s.heap) (hbl : b < s.heap.size) (hbE : b ≤ E.2.1) {f : ((Int32 × zm_Mem × Nat) ⊕ zm_Mem) → Option (Unit × zm_Mem)} {i : Int32} {M : zm_Mem} {q : Nat} (hq : q < 512) (hgo : ∀ (M : zm_Mem) (q : Nat), zm_V (p, e, s, m, #[Value.ref b], below, meth, c) (Y_L nm) E (fun (_ : Unit) _ => lw_Z below #[Value.ref b] s) (102 + 13 * q) (34429 + 4296 * q) (decide (q = 0)) (zm_w q) 1208 [(3, .int i), (2, .ref (E.2.1 + 52)), (1, .ref (E.2.1 + 1)), (0, .ref b)] [] M (f_law_go i M q) f) : zm_V (p, e, s, m, #[Value.ref b], below, meth, c) (Y_L nm) E (fun (_ : Unit) _ => lw_Z below #[Value.ref b] s) (102 + 13 * q) (34429 + 4296 * q) (decide (q = 0)) (zm_w q) 255 [(3, .int i), (2, .ref (E.2.1 + 52)), (1, .ref (E.2.1 + 1)), (0, .ref b)] [] M (f_law_c1 L xs i M q) f := by
  unfold f_law_c1
  refine zm_aload_n 256 rfl dL_law_255 rfl 2 rfl ?_
  refine zm_aload_n 257 rfl dL_law_256 rfl 3 rfl ?_
  refine zm_iload_n 258 rfl dL_law_257 rfl 0 rfl ?_
  refine zm_iconst 259 rfl dL_law_258 zi_1 ?_
  refine zm_iadd 260 rfl dL_law_259 ?_
  refine zm_sld hX hbl hbE 261 rfl dL_law_260 ?_
  refine zm_cV1i 264 rfl dL_law_261 ml_L_18 rfl (zm_L (sv := q) rfl) rfl (Nat.le_of_ble_eq_true rfl) ⟨Nat.le_of_ble_eq_true rfl, Nat.le_of_ble_eq_true rfl⟩ rfl rfl ⟨by show 102 + 13 * q ≤ 128088; omega, by show 34429 + 4296 * q ≤ 8717986; omega⟩ rfl (fun _ _ h => k_X10_back E q (xs (i + 1).toNatClampNeg) M h) (fun r5 M6 => ?_)
  refine zm_aload_n 265 rfl dL_law_264 rfl 1 rfl ?_
  refine zm_aload_n 266 rfl dL_law_265 rfl 3 rfl ?_
  refine zm_iload_n 267 rfl dL_law_266 rfl 0 rfl ?_
  refine zm_iconst 268 rfl dL_law_267 zi_1 ?_
  refine zm_iadd 269 rfl dL_law_268 ?_
  refine zm_sld hX hbl hbE 270 rfl dL_law_269 ?_
  refine zm_cV1i 273 rfl dL_law_270 ml_L_22 rfl (zm_L (sv := q) rfl) rfl (Nat.le_of_ble_eq_true rfl) ⟨Nat.le_of_ble_eq_true rfl, Nat.le_of_ble_eq_true rfl⟩ rfl rfl ⟨by show 102 + 13 * q ≤ 128088; omega, by show 34429 + 4296 * q ≤ 8717986; omega⟩ rfl (fun _ _ h => k_X11_back E q (xs (i + 1).toNatClampNeg) M6 h) (fun r7 M8 => ?_)
  refine zm_icmp_eq 1208 276 (by decide) rfl dL_law_273 ?_ zm_none
  exact hgo M8 q
set_option maxRecDepth 20000 in
set_option maxHeartbeats 4000000 in
theorem kl_2 {p : Program} {e : Env} {s : State} {m : MethodId} {below : List Frame} {meth : Method} {c : Code} {E : zm_E} {nm : String} {b L : Nat} {xs : Nat → Int32} (hX : va_X b L xs s s.heap) (hbl : b < s.heap.size) (hbE : b ≤ E.2.1) {f : ((Int32 × zm_Mem × Nat) ⊕ zm_Mem) → Option (Unit × zm_Mem)} {i : Int32} {M : zm_Mem} {q : Nat} (hq : q < 512) (hgo : ∀ (M : zm_Mem) (q : Nat), zm_V (p, e, s, m, #[Value.ref b], below, meth, c) (Y_L nm) E (fun (_ : Unit) _ => lw_Z below #[Value.ref b] s) (102 + 13 * q) (34429 + 4296 * q) (decide (q = 0)) (zm_w q) 1208 [(3, .int i), (2, .ref (E.2.1 + 52)), (1, .ref (E.2.1 + 1)), (0, .ref b)] [] M (f_law_go i M q) f) : zm_V (p, e, s, m, #[Value.ref b], below, meth, c) (Y_L nm) E (fun (_ : Unit) _ => lw_Z below #[Value.ref b] s) (102 + 13 * q) (34429 + 4296 * q) (decide (q = 0)) (zm_w q) 278 [(3, .int i), (2, .ref (E.2.1 + 52)), (1, .ref (E.2.1 + 1)), (0, .ref b)] [] M (f_law_c2 L xs i M q) f := by
  unfold f_law_c2
  refine zm_aload_n 279 rfl dL_law_278 rfl 2 rfl ?_
  refine zm_cV0i 282 rfl dL_law_279 ml_L_23 rfl (zm_L (sv := q) rfl) rfl (Nat.le_of_ble_eq_true rfl) ⟨Nat.le_of_ble_eq_true rfl, Nat.le_of_ble_eq_true rfl⟩ rfl rfl ⟨by show 102 + 13 * q ≤ 128088; omega, by show 34429 + 4296 * q ≤ 8717986; omega⟩ rfl (fun _ _ h => k_X10_read E q M h) (fun r9 M10 => ?_)
  refine zm_aload_n 283 rfl dL_law_282 rfl 1 rfl ?_
  refine zm_cV0i 286 rfl dL_law_283 ml_L_27 rfl (zm_L (sv := q) rfl) rfl (Nat.le_of_ble_eq_true rfl) ⟨Nat.le_of_ble_eq_true rfl, Nat.le_of_ble_eq_true rfl⟩ rfl rfl ⟨by show 102 + 13 * q ≤ 128088; omega, by show 34429 + 4296 * q ≤ 8717986; omega⟩ rfl (fun _ _ h => k_X11_read E q M10 h) (fun r11 M12 => ?_)
  refine zm_icmp_eq 1208 289 (by decide) rfl dL_law_286 ?_ zm_none
  exact hgo M12 q
set_option maxRecDepth 20000 in
set_option maxHeartbeats 4000000 in
theorem kl_3 {p : Program} {e : Env} {s : State} {m : MethodId} {below : List Frame} {meth : Method} {c : Code} {E : zm_E} {nm : String} {b L : Nat} {xs : Nat → Int32} (hX : va_X b L xs s s.heap) (hbl : b < s.heap.size) (hbE : b ≤ E.2.1) {f : ((Int32 × zm_Mem × Nat) ⊕ zm_Mem) → Option (Unit × zm_Mem)} {i : Int32} {M : zm_Mem} {q : Nat} (hq : q < 512) (hgo : ∀ (M : zm_Mem) (q : Nat), zm_V (p, e, s, m, #[Value.ref b], below, meth, c) (Y_L nm) E (fun (_ : Unit) _ => lw_Z below #[Value.ref b] s) (102 + 13 * q) (34429 + 4296 * q) (decide (q = 0)) (zm_w q) 1208 [(3, .int i), (2, .ref (E.2.1 + 52)), (1, .ref (E.2.1 + 1)), (0, .ref b)] [] M (f_law_go i M q) f) : zm_V (p, e, s, m, #[Value.ref b], below, meth, c) (Y_L nm) E (fun (_ : Unit) _ => lw_Z below #[Value.ref b] s) (102 + 13 * q) (34429 + 4296 * q) (decide (q = 0)) (zm_w q) 291 [(3, .int i), (2, .ref (E.2.1 + 52)), (1, .ref (E.2.1 + 1)), (0, .ref b)] [] M (f_law_c3 L xs i M q) f := by
  unfold f_law_c3
  refine zm_aload_n 292 rfl dL_law_291 rfl 2 rfl ?_
  refine zm_cV0ir 295 rfl dL_law_292 ml_L_28 rfl (zm_L (sv := q) rfl) rfl (Nat.le_of_ble_eq_true rfl) ⟨Nat.le_of_ble_eq_true rfl, Nat.le_of_ble_eq_true rfl⟩ rfl rfl ⟨by show 102 + 13 * q ≤ 128088; omega, by show 34429 + 4296 * q ≤ 8717986; omega⟩ rfl (fun _ h => k_X10_place E q M h) (fun r13 => ?_)
  refine zm_aload_n 296 rfl dL_law_295 rfl 1 rfl ?_
  refine zm_cV0ir 299 rfl dL_law_296 ml_L_31 rfl (zm_L (sv := q) rfl) rfl (Nat.le_of_ble_eq_true rfl) ⟨Nat.le_of_ble_eq_true rfl, Nat.le_of_ble_eq_true rfl⟩ rfl rfl ⟨by show 102 + 13 * q ≤ 128088; omega, by show 34429 + 4296 * q ≤ 8717986; omega⟩ rfl (fun _ h => k_X11_place E q M h) (fun r14 => ?_)
  refine zm_icmp_eq 1208 302 (by decide) rfl dL_law_299 ?_ zm_none
  exact hgo M q
set_option maxRecDepth 20000 in
set_option maxHeartbeats 4000000 in
theorem kl_4 {p : Program} {e : Env} {s : State} {m : MethodId} {below : List Frame} {meth : Method} {c : Code} {E : zm_E} {nm : String} {b L : Nat} {xs : Nat → Int32} (hX : va_X b L xs s s.heap) (hbl : b < s.heap.size) (hbE : b ≤ E.2.1) {f : ((Int32 × zm_Mem × Nat) ⊕ zm_Mem) → Option (Unit × zm_Mem)} {i : Int32} {M : zm_Mem} {q : Nat} (hq : q < 512) (hgo : ∀ (M : zm_Mem) (q : Nat), zm_V (p, e, s, m, #[Value.ref b], below, meth, c) (Y_L nm) E (fun (_ : Unit) _ => lw_Z below #[Value.ref b] s) (102 + 13 * q) (34429 + 4296 * q) (decide (q = 0)) (zm_w q) 1208 [(3, .int i), (2, .ref (E.2.1 + 52)), (1, .ref (E.2.1 + 1)), (0, .ref b)] [] M (f_law_go i M q) f) : zm_V (p, e, s, m, #[Value.ref b], below, meth, c) (Y_L nm) E (fun (_ : Unit) _ => lw_Z below #[Value.ref b] s) (102 + 13 * q) (34429 + 4296 * q) (decide (q = 0)) (zm_w q) 304 [(3, .int i), (2, .ref (E.2.1 + 52)), (1, .ref (E.2.1 + 1)), (0, .ref b)] [] M (f_law_c4 L xs i M q) f := by
  unfold f_law_c4
  refine zm_aload_n 305 rfl dL_law_304 rfl 2 rfl ?_
  refine zm_aload_n 306 rfl dL_law_305 rfl 3 rfl ?_
  refine zm_iload_n 307 rfl dL_law_306 rfl 0 rfl ?_
  refine zm_iconst 308 rfl dL_law_307 zi_1 ?_
  refine zm_iadd 309 rfl dL_law_308 ?_
  refine zm_sld hX hbl hbE 310 rfl dL_law_309 ?_
  refine zm_aload_n 311 rfl dL_law_310 rfl 3 rfl ?_
  refine zm_iload_n 312 rfl dL_law_311 rfl 0 rfl ?_
  refine zm_iconst 313 rfl dL_law_312 zi_2 ?_
  refine zm_iadd 314 rfl dL_law_313 ?_
  refine zm_sld hX hbl hbE 315 rfl dL_law_314 ?_
  refine zm_cV2i 318 rfl dL_law_315 ml_L_32 rfl (zm_L (sv := q) rfl) rfl (Nat.le_of_ble_eq_true rfl) ⟨Nat.le_of_ble_eq_true rfl, Nat.le_of_ble_eq_true rfl⟩ rfl rfl ⟨by show 102 + 13 * q ≤ 128088; omega, by show 34429 + 4296 * q ≤ 8717986; omega⟩ rfl (fun _ _ h => k_X10_house E q (xs (i + 1).toNatClampNeg) (xs (i + 2).toNatClampNeg) M h) (fun r15 M16 => ?_)
  refine zm_aload_n 319 rfl dL_law_318 rfl 1 rfl ?_
  refine zm_aload_n 320 rfl dL_law_319 rfl 3 rfl ?_
  refine zm_iload_n 321 rfl dL_law_320 rfl 0 rfl ?_
  refine zm_iconst 322 rfl dL_law_321 zi_1 ?_
  refine zm_iadd 323 rfl dL_law_322 ?_
  refine zm_sld hX hbl hbE 324 rfl dL_law_323 ?_
  refine zm_aload_n 325 rfl dL_law_324 rfl 3 rfl ?_
  refine zm_iload_n 326 rfl dL_law_325 rfl 0 rfl ?_
  refine zm_iconst 327 rfl dL_law_326 zi_2 ?_
  refine zm_iadd 328 rfl dL_law_327 ?_
  refine zm_sld hX hbl hbE 329 rfl dL_law_328 ?_
  refine zm_cV2i 332 rfl dL_law_329 ml_L_36 rfl (zm_L (sv := q) rfl) rfl (Nat.le_of_ble_eq_true rfl) ⟨Nat.le_of_ble_eq_true rfl, Nat.le_of_ble_eq_true rfl⟩ rfl rfl ⟨by show 102 + 13 * q ≤ 128088; omega, by show 34429 + 4296 * q ≤ 8717986; omega⟩ rfl (fun _ _ h => k_X11_house E q (xs (i + 1).toNatClampNeg) (xs (i + 2).toNatClampNeg) M16 h) (fun r17 M18 => ?_)
  refine zm_icmp_eq 1208 335 (by decide) rfl dL_law_332 ?_ zm_none
  exact hgo M18 q
set_option maxRecDepth 20000 in
set_option maxHeartbeats 4000000 in
theorem kl_5 {p : Program} {e : Env} {s : State} {m : MethodId} {below : List Frame} {meth : Method} {c : Code} {E : zm_E} {nm : String} {b L : Nat} {xs : Nat → Int32} (hX : va_X b L xs s s.heap) (hbl : b < s.heap.size) (hbE : b ≤ E.2.1) {f : ((Int32 × zm_Mem × Nat) ⊕ zm_Mem) → Option (Unit × zm_Mem)} {i : Int32} {M : zm_Mem} {q : Nat} (hq : q < 512) (hgo : ∀ (M : zm_Mem) (q : Nat), zm_V (p, e, s, m, #[Value.ref b], below, meth, c) (Y_L nm) E (fun (_ : Unit) _ => lw_Z below #[Value.ref b] s) (102 + 13 * q) (34429 + 4296 * q) (decide (q = 0)) (zm_w q) 1208 [(3, .int i), (2, .ref (E.2.1 + 52)), (1, .ref (E.2.1 + 1)), (0, .ref b)] [] M (f_law_go i M q) f) : zm_V (p, e, s, m, #[Value.ref b], below, meth, c) (Y_L nm) E (fun (_ : Unit) _ => lw_Z below #[Value.ref b] s) (102 + 13 * q) (34429 + 4296 * q) (decide (q = 0)) (zm_w q) 337 [(3, .int i), (2, .ref (E.2.1 + 52)), (1, .ref (E.2.1 + 1)), (0, .ref b)] [] M (f_law_c5 L xs i M q) f := by
  unfold f_law_c5
  refine zm_aload_n 338 rfl dL_law_337 rfl 2 rfl ?_
  refine zm_aload_n 339 rfl dL_law_338 rfl 3 rfl ?_
  refine zm_iload_n 340 rfl dL_law_339 rfl 0 rfl ?_
  refine zm_iconst 341 rfl dL_law_340 zi_1 ?_
  refine zm_iadd 342 rfl dL_law_341 ?_
  refine zm_sld hX hbl hbE 343 rfl dL_law_342 ?_
  refine zm_aload_n 344 rfl dL_law_343 rfl 3 rfl ?_
  refine zm_iload_n 345 rfl dL_law_344 rfl 0 rfl ?_
  refine zm_iconst 346 rfl dL_law_345 zi_2 ?_
  refine zm_iadd 347 rfl dL_law_346 ?_
  refine zm_sld hX hbl hbE 348 rfl dL_law_347 ?_
  refine zm_cV2ir 351 rfl dL_law_348 ml_L_37 rfl (zm_L (sv := q) rfl) rfl (Nat.le_of_ble_eq_true rfl) ⟨Nat.le_of_ble_eq_true rfl, Nat.le_of_ble_eq_true rfl⟩ rfl rfl ⟨by show 102 + 13 * q ≤ 128088; omega, by show 34429 + 4296 * q ≤ 8717986; omega⟩ rfl (fun _ h => k_X10_work E q (xs (i + 1).toNatClampNeg) (xs (i + 2).toNatClampNeg) M h) (fun r19 => ?_)
  refine zm_aload_n 352 rfl dL_law_351 rfl 1 rfl ?_
  refine zm_aload_n 353 rfl dL_law_352 rfl 3 rfl ?_
  refine zm_iload_n 354 rfl dL_law_353 rfl 0 rfl ?_
  refine zm_iconst 355 rfl dL_law_354 zi_1 ?_
  refine zm_iadd 356 rfl dL_law_355 ?_
  refine zm_sld hX hbl hbE 357 rfl dL_law_356 ?_
  refine zm_aload_n 358 rfl dL_law_357 rfl 3 rfl ?_
  refine zm_iload_n 359 rfl dL_law_358 rfl 0 rfl ?_
  refine zm_iconst 360 rfl dL_law_359 zi_2 ?_
  refine zm_iadd 361 rfl dL_law_360 ?_
  refine zm_sld hX hbl hbE 362 rfl dL_law_361 ?_
  refine zm_cV2i 365 rfl dL_law_362 ml_L_40 rfl (zm_L (sv := q) rfl) rfl (Nat.le_of_ble_eq_true rfl) ⟨Nat.le_of_ble_eq_true rfl, Nat.le_of_ble_eq_true rfl⟩ rfl rfl ⟨by show 102 + 13 * q ≤ 128088; omega, by show 34429 + 4296 * q ≤ 8717986; omega⟩ rfl (fun _ _ h => k_X11_work E q (xs (i + 1).toNatClampNeg) (xs (i + 2).toNatClampNeg) M h) (fun r20 M21 => ?_)
  refine zm_icmp_eq 1208 368 (by decide) rfl dL_law_365 ?_ zm_none
  exact hgo M21 q
set_option maxRecDepth 20000 in
set_option maxHeartbeats 4000000 in
theorem kl_6 {p : Program} {e : Env} {s : State} {m : MethodId} {below : List Frame} {meth : Method} {c : Code} {E : zm_E} {nm : String} {b L : Nat} {xs : Nat → Int32} (hX : va_X b L xs s s.heap) (hbl : b < s.heap.size) (hbE : b ≤ E.2.1) {f : ((Int32 × zm_Mem × Nat) ⊕ zm_Mem) → Option (Unit × zm_Mem)} {i : Int32} {M : zm_Mem} {q : Nat} (hq : q < 512) (hgo : ∀ (M : zm_Mem) (q : Nat), zm_V (p, e, s, m, #[Value.ref b], below, meth, c) (Y_L nm) E (fun (_ : Unit) _ => lw_Z below #[Value.ref b] s) (102 + 13 * q) (34429 + 4296 * q) (decide (q = 0)) (zm_w q) 1208 [(3, .int i), (2, .ref (E.2.1 + 52)), (1, .ref (E.2.1 + 1)), (0, .ref b)] [] M (f_law_go i M q) f) : zm_V (p, e, s, m, #[Value.ref b], below, meth, c) (Y_L nm) E (fun (_ : Unit) _ => lw_Z below #[Value.ref b] s) (102 + 13 * q) (34429 + 4296 * q) (decide (q = 0)) (zm_w q) 370 [(3, .int i), (2, .ref (E.2.1 + 52)), (1, .ref (E.2.1 + 1)), (0, .ref b)] [] M (f_law_c6 L xs i M q) f := by
  unfold f_law_c6
  refine zm_aload_n 371 rfl dL_law_370 rfl 2 rfl ?_
  refine zm_aload_n 372 rfl dL_law_371 rfl 3 rfl ?_
  refine zm_iload_n 373 rfl dL_law_372 rfl 0 rfl ?_
  refine zm_iconst 374 rfl dL_law_373 zi_1 ?_
  refine zm_iadd 375 rfl dL_law_374 ?_
  refine zm_sld hX hbl hbE 376 rfl dL_law_375 ?_
  refine zm_aload_n 377 rfl dL_law_376 rfl 3 rfl ?_
  refine zm_iload_n 378 rfl dL_law_377 rfl 0 rfl ?_
  refine zm_iconst 379 rfl dL_law_378 zi_2 ?_
  refine zm_iadd 380 rfl dL_law_379 ?_
  refine zm_sld hX hbl hbE 381 rfl dL_law_380 ?_
  refine zm_cV2i 384 rfl dL_law_381 ml_L_41 rfl (zm_L (sv := q) rfl) rfl (Nat.le_of_ble_eq_true rfl) ⟨Nat.le_of_ble_eq_true rfl, Nat.le_of_ble_eq_true rfl⟩ rfl rfl ⟨by show 102 + 13 * q ≤ 128088; omega, by show 34429 + 4296 * q ≤ 8717986; omega⟩ rfl (fun _ _ h => k_X10_may E q (xs (i + 1).toNatClampNeg) (xs (i + 2).toNatClampNeg) M h) (fun r22 M23 => ?_)
  refine zm_aload_n 385 rfl dL_law_384 rfl 1 rfl ?_
  refine zm_aload_n 386 rfl dL_law_385 rfl 3 rfl ?_
  refine zm_iload_n 387 rfl dL_law_386 rfl 0 rfl ?_
  refine zm_iconst 388 rfl dL_law_387 zi_1 ?_
  refine zm_iadd 389 rfl dL_law_388 ?_
  refine zm_sld hX hbl hbE 390 rfl dL_law_389 ?_
  refine zm_aload_n 391 rfl dL_law_390 rfl 3 rfl ?_
  refine zm_iload_n 392 rfl dL_law_391 rfl 0 rfl ?_
  refine zm_iconst 393 rfl dL_law_392 zi_2 ?_
  refine zm_iadd 394 rfl dL_law_393 ?_
  refine zm_sld hX hbl hbE 395 rfl dL_law_394 ?_
  refine zm_cV2i 398 rfl dL_law_395 ml_L_44 rfl (zm_L (sv := q) rfl) rfl (Nat.le_of_ble_eq_true rfl) ⟨Nat.le_of_ble_eq_true rfl, Nat.le_of_ble_eq_true rfl⟩ rfl rfl ⟨by show 102 + 13 * q ≤ 128088; omega, by show 34429 + 4296 * q ≤ 8717986; omega⟩ rfl (fun _ _ h => k_X11_may E q (xs (i + 1).toNatClampNeg) (xs (i + 2).toNatClampNeg) M23 h) (fun r24 M25 => ?_)
  refine zm_icmp_eq 1208 401 (by decide) rfl dL_law_398 ?_ zm_none
  exact hgo M25 q
set_option maxRecDepth 20000 in
set_option maxHeartbeats 4000000 in
theorem kl_7 {p : Program} {e : Env} {s : State} {m : MethodId} {below : List Frame} {meth : Method} {c : Code} {E : zm_E} {nm : String} {b L : Nat} {xs : Nat → Int32} (hX : va_X b L xs s s.heap) (hbl : b < s.heap.size) (hbE : b ≤ E.2.1) {f : ((Int32 × zm_Mem × Nat) ⊕ zm_Mem) → Option (Unit × zm_Mem)} {i : Int32} {M : zm_Mem} {q : Nat} (hq : q < 512) (hgo : ∀ (M : zm_Mem) (q : Nat), zm_V (p, e, s, m, #[Value.ref b], below, meth, c) (Y_L nm) E (fun (_ : Unit) _ => lw_Z below #[Value.ref b] s) (102 + 13 * q) (34429 + 4296 * q) (decide (q = 0)) (zm_w q) 1208 [(3, .int i), (2, .ref (E.2.1 + 52)), (1, .ref (E.2.1 + 1)), (0, .ref b)] [] M (f_law_go i M q) f) : zm_V (p, e, s, m, #[Value.ref b], below, meth, c) (Y_L nm) E (fun (_ : Unit) _ => lw_Z below #[Value.ref b] s) (102 + 13 * q) (34429 + 4296 * q) (decide (q = 0)) (zm_w q) 403 [(3, .int i), (2, .ref (E.2.1 + 52)), (1, .ref (E.2.1 + 1)), (0, .ref b)] [] M (f_law_c7 L xs i M q) f := by
  unfold f_law_c7
  refine zm_aload_n 404 rfl dL_law_403 rfl 2 rfl ?_
  refine zm_aload_n 405 rfl dL_law_404 rfl 3 rfl ?_
  refine zm_iload_n 406 rfl dL_law_405 rfl 0 rfl ?_
  refine zm_iconst 407 rfl dL_law_406 zi_1 ?_
  refine zm_iadd 408 rfl dL_law_407 ?_
  refine zm_sld hX hbl hbE 409 rfl dL_law_408 ?_
  refine zm_aload_n 410 rfl dL_law_409 rfl 3 rfl ?_
  refine zm_iload_n 411 rfl dL_law_410 rfl 0 rfl ?_
  refine zm_iconst 412 rfl dL_law_411 zi_2 ?_
  refine zm_iadd 413 rfl dL_law_412 ?_
  refine zm_sld hX hbl hbE 414 rfl dL_law_413 ?_
  refine zm_cV2i 417 rfl dL_law_414 ml_L_45 rfl (zm_L (sv := q) rfl) rfl (Nat.le_of_ble_eq_true rfl) ⟨Nat.le_of_ble_eq_true rfl, Nat.le_of_ble_eq_true rfl⟩ rfl rfl ⟨by show 102 + 13 * q ≤ 128088; omega, by show 34429 + 4296 * q ≤ 8717986; omega⟩ rfl (fun _ _ h => k_X10_holds E q (xs (i + 1).toNatClampNeg) (xs (i + 2).toNatClampNeg) M h) (fun r26 M27 => ?_)
  refine zm_aload_n 418 rfl dL_law_417 rfl 1 rfl ?_
  refine zm_aload_n 419 rfl dL_law_418 rfl 3 rfl ?_
  refine zm_iload_n 420 rfl dL_law_419 rfl 0 rfl ?_
  refine zm_iconst 421 rfl dL_law_420 zi_1 ?_
  refine zm_iadd 422 rfl dL_law_421 ?_
  refine zm_sld hX hbl hbE 423 rfl dL_law_422 ?_
  refine zm_aload_n 424 rfl dL_law_423 rfl 3 rfl ?_
  refine zm_iload_n 425 rfl dL_law_424 rfl 0 rfl ?_
  refine zm_iconst 426 rfl dL_law_425 zi_2 ?_
  refine zm_iadd 427 rfl dL_law_426 ?_
  refine zm_sld hX hbl hbE 428 rfl dL_law_427 ?_
  refine zm_cV2i 431 rfl dL_law_428 ml_L_48 rfl (zm_L (sv := q) rfl) rfl (Nat.le_of_ble_eq_true rfl) ⟨Nat.le_of_ble_eq_true rfl, Nat.le_of_ble_eq_true rfl⟩ rfl rfl ⟨by show 102 + 13 * q ≤ 128088; omega, by show 34429 + 4296 * q ≤ 8717986; omega⟩ rfl (fun _ _ h => k_X11_holds E q (xs (i + 1).toNatClampNeg) (xs (i + 2).toNatClampNeg) M27 h) (fun r28 M29 => ?_)
  refine zm_icmp_eq 1208 434 (by decide) rfl dL_law_431 ?_ zm_none
  exact hgo M29 q
set_option maxRecDepth 20000 in
set_option maxHeartbeats 4000000 in
theorem kl_8 {p : Program} {e : Env} {s : State} {m : MethodId} {below : List Frame} {meth : Method} {c : Code} {E : zm_E} {nm : String} {b L : Nat} {xs : Nat → Int32} (hX : va_X b L xs s s.heap) (hbl : b < s.heap.size) (hbE : b ≤ E.2.1) {f : ((Int32 × zm_Mem × Nat) ⊕ zm_Mem) → Option (Unit × zm_Mem)} {i : Int32} {M : zm_Mem} {q : Nat} (hq : q < 512) (hgo : ∀ (M : zm_Mem) (q : Nat), zm_V (p, e, s, m, #[Value.ref b], below, meth, c) (Y_L nm) E (fun (_ : Unit) _ => lw_Z below #[Value.ref b] s) (102 + 13 * q) (34429 + 4296 * q) (decide (q = 0)) (zm_w q) 1208 [(3, .int i), (2, .ref (E.2.1 + 52)), (1, .ref (E.2.1 + 1)), (0, .ref b)] [] M (f_law_go i M q) f) : zm_V (p, e, s, m, #[Value.ref b], below, meth, c) (Y_L nm) E (fun (_ : Unit) _ => lw_Z below #[Value.ref b] s) (102 + 13 * q) (34429 + 4296 * q) (decide (q = 0)) (zm_w q) 436 [(3, .int i), (2, .ref (E.2.1 + 52)), (1, .ref (E.2.1 + 1)), (0, .ref b)] [] M (f_law_c8 L xs i M q) f := by
  unfold f_law_c8
  refine zm_aload_n 437 rfl dL_law_436 rfl 2 rfl ?_
  refine zm_aload_n 438 rfl dL_law_437 rfl 3 rfl ?_
  refine zm_iload_n 439 rfl dL_law_438 rfl 0 rfl ?_
  refine zm_iconst 440 rfl dL_law_439 zi_1 ?_
  refine zm_iadd 441 rfl dL_law_440 ?_
  refine zm_sld hX hbl hbE 442 rfl dL_law_441 ?_
  refine zm_aload_n 443 rfl dL_law_442 rfl 3 rfl ?_
  refine zm_iload_n 444 rfl dL_law_443 rfl 0 rfl ?_
  refine zm_iconst 445 rfl dL_law_444 zi_2 ?_
  refine zm_iadd 446 rfl dL_law_445 ?_
  refine zm_sld hX hbl hbE 447 rfl dL_law_446 ?_
  refine zm_cV2i 450 rfl dL_law_447 ml_L_49 rfl (zm_L (sv := q) rfl) rfl (Nat.le_of_ble_eq_true rfl) ⟨Nat.le_of_ble_eq_true rfl, Nat.le_of_ble_eq_true rfl⟩ rfl rfl ⟨by show 102 + 13 * q ≤ 128088; omega, by show 34429 + 4296 * q ≤ 8717986; omega⟩ rfl (fun _ _ h => k_X10_likes E q (xs (i + 1).toNatClampNeg) (xs (i + 2).toNatClampNeg) M h) (fun r30 M31 => ?_)
  refine zm_aload_n 451 rfl dL_law_450 rfl 1 rfl ?_
  refine zm_aload_n 452 rfl dL_law_451 rfl 3 rfl ?_
  refine zm_iload_n 453 rfl dL_law_452 rfl 0 rfl ?_
  refine zm_iconst 454 rfl dL_law_453 zi_1 ?_
  refine zm_iadd 455 rfl dL_law_454 ?_
  refine zm_sld hX hbl hbE 456 rfl dL_law_455 ?_
  refine zm_aload_n 457 rfl dL_law_456 rfl 3 rfl ?_
  refine zm_iload_n 458 rfl dL_law_457 rfl 0 rfl ?_
  refine zm_iconst 459 rfl dL_law_458 zi_2 ?_
  refine zm_iadd 460 rfl dL_law_459 ?_
  refine zm_sld hX hbl hbE 461 rfl dL_law_460 ?_
  refine zm_cV2i 464 rfl dL_law_461 ml_L_52 rfl (zm_L (sv := q) rfl) rfl (Nat.le_of_ble_eq_true rfl) ⟨Nat.le_of_ble_eq_true rfl, Nat.le_of_ble_eq_true rfl⟩ rfl rfl ⟨by show 102 + 13 * q ≤ 128088; omega, by show 34429 + 4296 * q ≤ 8717986; omega⟩ rfl (fun _ _ h => k_X11_likes E q (xs (i + 1).toNatClampNeg) (xs (i + 2).toNatClampNeg) M31 h) (fun r32 M33 => ?_)
  refine zm_icmp_eq 1208 467 (by decide) rfl dL_law_464 ?_ zm_none
  exact hgo M33 q
set_option maxRecDepth 20000 in
set_option maxHeartbeats 4000000 in
theorem kl_9 {p : Program} {e : Env} {s : State} {m : MethodId} {below : List Frame} {meth : Method} {c : Code} {E : zm_E} {nm : String} {b L : Nat} {xs : Nat → Int32} (hX : va_X b L xs s s.heap) (hbl : b < s.heap.size) (hbE : b ≤ E.2.1) {f : ((Int32 × zm_Mem × Nat) ⊕ zm_Mem) → Option (Unit × zm_Mem)} {i : Int32} {M : zm_Mem} {q : Nat} (hq : q < 512) (hgo : ∀ (M : zm_Mem) (q : Nat), zm_V (p, e, s, m, #[Value.ref b], below, meth, c) (Y_L nm) E (fun (_ : Unit) _ => lw_Z below #[Value.ref b] s) (102 + 13 * q) (34429 + 4296 * q) (decide (q = 0)) (zm_w q) 1208 [(3, .int i), (2, .ref (E.2.1 + 52)), (1, .ref (E.2.1 + 1)), (0, .ref b)] [] M (f_law_go i M q) f) : zm_V (p, e, s, m, #[Value.ref b], below, meth, c) (Y_L nm) E (fun (_ : Unit) _ => lw_Z below #[Value.ref b] s) (102 + 13 * q) (34429 + 4296 * q) (decide (q = 0)) (zm_w q) 469 [(3, .int i), (2, .ref (E.2.1 + 52)), (1, .ref (E.2.1 + 1)), (0, .ref b)] [] M (f_law_c9 L xs i M q) f := by
  unfold f_law_c9
  refine zm_aload_n 470 rfl dL_law_469 rfl 2 rfl ?_
  refine zm_aload_n 471 rfl dL_law_470 rfl 3 rfl ?_
  refine zm_iload_n 472 rfl dL_law_471 rfl 0 rfl ?_
  refine zm_iconst 473 rfl dL_law_472 zi_1 ?_
  refine zm_iadd 474 rfl dL_law_473 ?_
  refine zm_sld hX hbl hbE 475 rfl dL_law_474 ?_
  refine zm_aload_n 476 rfl dL_law_475 rfl 3 rfl ?_
  refine zm_iload_n 477 rfl dL_law_476 rfl 0 rfl ?_
  refine zm_iconst 478 rfl dL_law_477 zi_2 ?_
  refine zm_iadd 479 rfl dL_law_478 ?_
  refine zm_sld hX hbl hbE 480 rfl dL_law_479 ?_
  refine zm_cV2i 483 rfl dL_law_480 ml_L_53 rfl (zm_L (sv := q) rfl) rfl (Nat.le_of_ble_eq_true rfl) ⟨Nat.le_of_ble_eq_true rfl, Nat.le_of_ble_eq_true rfl⟩ rfl rfl ⟨by show 102 + 13 * q ≤ 128088; omega, by show 34429 + 4296 * q ≤ 8717986; omega⟩ rfl (fun _ _ h => k_X10_trip E q (xs (i + 1).toNatClampNeg) (xs (i + 2).toNatClampNeg) M h) (fun r34 M35 => ?_)
  refine zm_aload_n 484 rfl dL_law_483 rfl 1 rfl ?_
  refine zm_aload_n 485 rfl dL_law_484 rfl 3 rfl ?_
  refine zm_iload_n 486 rfl dL_law_485 rfl 0 rfl ?_
  refine zm_iconst 487 rfl dL_law_486 zi_1 ?_
  refine zm_iadd 488 rfl dL_law_487 ?_
  refine zm_sld hX hbl hbE 489 rfl dL_law_488 ?_
  refine zm_aload_n 490 rfl dL_law_489 rfl 3 rfl ?_
  refine zm_iload_n 491 rfl dL_law_490 rfl 0 rfl ?_
  refine zm_iconst 492 rfl dL_law_491 zi_2 ?_
  refine zm_iadd 493 rfl dL_law_492 ?_
  refine zm_sld hX hbl hbE 494 rfl dL_law_493 ?_
  refine zm_cV2i 497 rfl dL_law_494 ml_L_56 rfl (zm_L (sv := q) rfl) rfl (Nat.le_of_ble_eq_true rfl) ⟨Nat.le_of_ble_eq_true rfl, Nat.le_of_ble_eq_true rfl⟩ rfl rfl ⟨by show 102 + 13 * q ≤ 128088; omega, by show 34429 + 4296 * q ≤ 8717986; omega⟩ rfl (fun _ _ h => k_X11_trip E q (xs (i + 1).toNatClampNeg) (xs (i + 2).toNatClampNeg) M35 h) (fun r36 M37 => ?_)
  refine zm_icmp_eq 1208 500 (by decide) rfl dL_law_497 ?_ zm_none
  exact hgo M37 q
set_option maxRecDepth 20000 in
set_option maxHeartbeats 4000000 in
theorem kl_10 {p : Program} {e : Env} {s : State} {m : MethodId} {below : List Frame} {meth : Method} {c : Code} {E : zm_E} {nm : String} {b L : Nat} {xs : Nat → Int32} (hX : va_X b L xs s s.heap) (hbl : b < s.heap.size) (hbE : b ≤ E.2.1) {f : ((Int32 × zm_Mem × Nat) ⊕ zm_Mem) → Option (Unit × zm_Mem)} {i : Int32} {M : zm_Mem} {q : Nat} (hq : q < 512) (hgo : ∀ (M : zm_Mem) (q : Nat), zm_V (p, e, s, m, #[Value.ref b], below, meth, c) (Y_L nm) E (fun (_ : Unit) _ => lw_Z below #[Value.ref b] s) (102 + 13 * q) (34429 + 4296 * q) (decide (q = 0)) (zm_w q) 1208 [(3, .int i), (2, .ref (E.2.1 + 52)), (1, .ref (E.2.1 + 1)), (0, .ref b)] [] M (f_law_go i M q) f) : zm_V (p, e, s, m, #[Value.ref b], below, meth, c) (Y_L nm) E (fun (_ : Unit) _ => lw_Z below #[Value.ref b] s) (102 + 13 * q) (34429 + 4296 * q) (decide (q = 0)) (zm_w q) 502 [(3, .int i), (2, .ref (E.2.1 + 52)), (1, .ref (E.2.1 + 1)), (0, .ref b)] [] M (f_law_c10 L xs i M q) f := by
  unfold f_law_c10
  refine zm_aload_n 503 rfl dL_law_502 rfl 2 rfl ?_
  refine zm_aload_n 504 rfl dL_law_503 rfl 3 rfl ?_
  refine zm_iload_n 505 rfl dL_law_504 rfl 0 rfl ?_
  refine zm_iconst 506 rfl dL_law_505 zi_1 ?_
  refine zm_iadd 507 rfl dL_law_506 ?_
  refine zm_sld hX hbl hbE 508 rfl dL_law_507 ?_
  refine zm_aload_n 509 rfl dL_law_508 rfl 3 rfl ?_
  refine zm_iload_n 510 rfl dL_law_509 rfl 0 rfl ?_
  refine zm_iconst 511 rfl dL_law_510 zi_2 ?_
  refine zm_iadd 512 rfl dL_law_511 ?_
  refine zm_sld hX hbl hbE 513 rfl dL_law_512 ?_
  refine zm_cV2i 516 rfl dL_law_513 ml_L_57 rfl (zm_L (sv := q) rfl) rfl (Nat.le_of_ble_eq_true rfl) ⟨Nat.le_of_ble_eq_true rfl, Nat.le_of_ble_eq_true rfl⟩ rfl rfl ⟨by show 102 + 13 * q ≤ 128088; omega, by show 34429 + 4296 * q ≤ 8717986; omega⟩ rfl (fun _ _ h => k_X10_send E q (xs (i + 1).toNatClampNeg) (xs (i + 2).toNatClampNeg) M h) (fun r38 M39 => ?_)
  refine zm_aload_n 517 rfl dL_law_516 rfl 1 rfl ?_
  refine zm_aload_n 518 rfl dL_law_517 rfl 3 rfl ?_
  refine zm_iload_n 519 rfl dL_law_518 rfl 0 rfl ?_
  refine zm_iconst 520 rfl dL_law_519 zi_1 ?_
  refine zm_iadd 521 rfl dL_law_520 ?_
  refine zm_sld hX hbl hbE 522 rfl dL_law_521 ?_
  refine zm_aload_n 523 rfl dL_law_522 rfl 3 rfl ?_
  refine zm_iload_n 524 rfl dL_law_523 rfl 0 rfl ?_
  refine zm_iconst 525 rfl dL_law_524 zi_2 ?_
  refine zm_iadd 526 rfl dL_law_525 ?_
  refine zm_sld hX hbl hbE 527 rfl dL_law_526 ?_
  refine zm_cV2i 530 rfl dL_law_527 ml_L_60 rfl (zm_L (sv := q) rfl) rfl (Nat.le_of_ble_eq_true rfl) ⟨Nat.le_of_ble_eq_true rfl, Nat.le_of_ble_eq_true rfl⟩ rfl rfl ⟨by show 102 + 13 * q ≤ 128088; omega, by show 34429 + 4296 * q ≤ 8717986; omega⟩ rfl (fun _ _ h => k_X11_send E q (xs (i + 1).toNatClampNeg) (xs (i + 2).toNatClampNeg) M39 h) (fun r40 M41 => ?_)
  refine zm_icmp_eq 1208 533 (by decide) rfl dL_law_530 ?_ zm_none
  exact hgo M41 q
set_option maxRecDepth 20000 in
set_option maxHeartbeats 4000000 in
theorem kl_11 {p : Program} {e : Env} {s : State} {m : MethodId} {below : List Frame} {meth : Method} {c : Code} {E : zm_E} {nm : String} {b L : Nat} {xs : Nat → Int32} (hX : va_X b L xs s s.heap) (hbl : b < s.heap.size) (hbE : b ≤ E.2.1) {f : ((Int32 × zm_Mem × Nat) ⊕ zm_Mem) → Option (Unit × zm_Mem)} {i : Int32} {M : zm_Mem} {q : Nat} (hq : q < 512) (hgo : ∀ (M : zm_Mem) (q : Nat), zm_V (p, e, s, m, #[Value.ref b], below, meth, c) (Y_L nm) E (fun (_ : Unit) _ => lw_Z below #[Value.ref b] s) (102 + 13 * q) (34429 + 4296 * q) (decide (q = 0)) (zm_w q) 1208 [(3, .int i), (2, .ref (E.2.1 + 52)), (1, .ref (E.2.1 + 1)), (0, .ref b)] [] M (f_law_go i M q) f) : zm_V (p, e, s, m, #[Value.ref b], below, meth, c) (Y_L nm) E (fun (_ : Unit) _ => lw_Z below #[Value.ref b] s) (102 + 13 * q) (34429 + 4296 * q) (decide (q = 0)) (zm_w q) 535 [(3, .int i), (2, .ref (E.2.1 + 52)), (1, .ref (E.2.1 + 1)), (0, .ref b)] [] M (f_law_c11 L xs i M q) f := by
  unfold f_law_c11
  refine zm_aload_n 536 rfl dL_law_535 rfl 2 rfl ?_
  refine zm_aload_n 537 rfl dL_law_536 rfl 3 rfl ?_
  refine zm_iload_n 538 rfl dL_law_537 rfl 0 rfl ?_
  refine zm_iconst 539 rfl dL_law_538 zi_1 ?_
  refine zm_iadd 540 rfl dL_law_539 ?_
  refine zm_sld hX hbl hbE 541 rfl dL_law_540 ?_
  refine zm_aload_n 542 rfl dL_law_541 rfl 3 rfl ?_
  refine zm_iload_n 543 rfl dL_law_542 rfl 0 rfl ?_
  refine zm_iconst 544 rfl dL_law_543 zi_2 ?_
  refine zm_iadd 545 rfl dL_law_544 ?_
  refine zm_sld hX hbl hbE 546 rfl dL_law_545 ?_
  refine zm_if_eq 553 549 (by decide) rfl dL_law_546 ?_ ?_
  · refine zm_iconst 554 rfl dL_law_553 zi_0 ?_
    refine zm_cV2i 557 rfl dL_law_554 ml_L_61 rfl (zm_L (sv := q) rfl) rfl (Nat.le_of_ble_eq_true rfl) ⟨Nat.le_of_ble_eq_true rfl, Nat.le_of_ble_eq_true rfl⟩ rfl rfl ⟨by show 102 + 13 * q ≤ 128088; omega, by show 34429 + 4296 * q ≤ 8717986; omega⟩ rfl (fun _ _ h => k_X10_lift E q (xs (i + 1).toNatClampNeg) 0 M h) (fun r42 M43 => ?_)
    refine zm_aload_n 558 rfl dL_law_557 rfl 1 rfl ?_
    refine zm_aload_n 559 rfl dL_law_558 rfl 3 rfl ?_
    refine zm_iload_n 560 rfl dL_law_559 rfl 0 rfl ?_
    refine zm_iconst 561 rfl dL_law_560 zi_1 ?_
    refine zm_iadd 562 rfl dL_law_561 ?_
    refine zm_sld hX hbl hbE 563 rfl dL_law_562 ?_
    refine zm_aload_n 564 rfl dL_law_563 rfl 3 rfl ?_
    refine zm_iload_n 565 rfl dL_law_564 rfl 0 rfl ?_
    refine zm_iconst 566 rfl dL_law_565 zi_2 ?_
    refine zm_iadd 567 rfl dL_law_566 ?_
    refine zm_sld hX hbl hbE 568 rfl dL_law_567 ?_
    refine zm_if_eq 575 571 (by decide) rfl dL_law_568 ?_ ?_
    · refine zm_iconst 576 rfl dL_law_575 zi_0 ?_
      refine zm_cV2i 579 rfl dL_law_576 ml_L_65 rfl (zm_L (sv := q) rfl) rfl (Nat.le_of_ble_eq_true rfl) ⟨Nat.le_of_ble_eq_true rfl, Nat.le_of_ble_eq_true rfl⟩ rfl rfl ⟨by show 102 + 13 * q ≤ 128088; omega, by show 34429 + 4296 * q ≤ 8717986; omega⟩ rfl (fun _ _ h => k_X11_lift E q (xs (i + 1).toNatClampNeg) 0 M43 h) (fun r44 M45 => ?_)
      refine zm_icmp_eq 1208 582 (by decide) rfl dL_law_579 ?_ zm_none
      exact hgo M45 q
    · refine zm_iconst 572 rfl dL_law_571 zi_1 ?_
      refine zm_goto 576 (by decide) dL_law_572 ?_
      refine zm_cV2i 579 rfl dL_law_576 ml_L_65 rfl (zm_L (sv := q) rfl) rfl (Nat.le_of_ble_eq_true rfl) ⟨Nat.le_of_ble_eq_true rfl, Nat.le_of_ble_eq_true rfl⟩ rfl rfl ⟨by show 102 + 13 * q ≤ 128088; omega, by show 34429 + 4296 * q ≤ 8717986; omega⟩ rfl (fun _ _ h => k_X11_lift E q (xs (i + 1).toNatClampNeg) 1 M43 h) (fun r46 M47 => ?_)
      refine zm_icmp_eq 1208 582 (by decide) rfl dL_law_579 ?_ zm_none
      exact hgo M47 q
  · refine zm_iconst 550 rfl dL_law_549 zi_1 ?_
    refine zm_goto 554 (by decide) dL_law_550 ?_
    refine zm_cV2i 557 rfl dL_law_554 ml_L_61 rfl (zm_L (sv := q) rfl) rfl (Nat.le_of_ble_eq_true rfl) ⟨Nat.le_of_ble_eq_true rfl, Nat.le_of_ble_eq_true rfl⟩ rfl rfl ⟨by show 102 + 13 * q ≤ 128088; omega, by show 34429 + 4296 * q ≤ 8717986; omega⟩ rfl (fun _ _ h => k_X10_lift E q (xs (i + 1).toNatClampNeg) 1 M h) (fun r48 M49 => ?_)
    refine zm_aload_n 558 rfl dL_law_557 rfl 1 rfl ?_
    refine zm_aload_n 559 rfl dL_law_558 rfl 3 rfl ?_
    refine zm_iload_n 560 rfl dL_law_559 rfl 0 rfl ?_
    refine zm_iconst 561 rfl dL_law_560 zi_1 ?_
    refine zm_iadd 562 rfl dL_law_561 ?_
    refine zm_sld hX hbl hbE 563 rfl dL_law_562 ?_
    refine zm_aload_n 564 rfl dL_law_563 rfl 3 rfl ?_
    refine zm_iload_n 565 rfl dL_law_564 rfl 0 rfl ?_
    refine zm_iconst 566 rfl dL_law_565 zi_2 ?_
    refine zm_iadd 567 rfl dL_law_566 ?_
    refine zm_sld hX hbl hbE 568 rfl dL_law_567 ?_
    refine zm_if_eq 575 571 (by decide) rfl dL_law_568 ?_ ?_
    · refine zm_iconst 576 rfl dL_law_575 zi_0 ?_
      refine zm_cV2i 579 rfl dL_law_576 ml_L_65 rfl (zm_L (sv := q) rfl) rfl (Nat.le_of_ble_eq_true rfl) ⟨Nat.le_of_ble_eq_true rfl, Nat.le_of_ble_eq_true rfl⟩ rfl rfl ⟨by show 102 + 13 * q ≤ 128088; omega, by show 34429 + 4296 * q ≤ 8717986; omega⟩ rfl (fun _ _ h => k_X11_lift E q (xs (i + 1).toNatClampNeg) 0 M49 h) (fun r50 M51 => ?_)
      refine zm_icmp_eq 1208 582 (by decide) rfl dL_law_579 ?_ zm_none
      exact hgo M51 q
    · refine zm_iconst 572 rfl dL_law_571 zi_1 ?_
      refine zm_goto 576 (by decide) dL_law_572 ?_
      refine zm_cV2i 579 rfl dL_law_576 ml_L_65 rfl (zm_L (sv := q) rfl) rfl (Nat.le_of_ble_eq_true rfl) ⟨Nat.le_of_ble_eq_true rfl, Nat.le_of_ble_eq_true rfl⟩ rfl rfl ⟨by show 102 + 13 * q ≤ 128088; omega, by show 34429 + 4296 * q ≤ 8717986; omega⟩ rfl (fun _ _ h => k_X11_lift E q (xs (i + 1).toNatClampNeg) 1 M49 h) (fun r52 M53 => ?_)
      refine zm_icmp_eq 1208 582 (by decide) rfl dL_law_579 ?_ zm_none
      exact hgo M53 q
set_option maxRecDepth 20000 in
set_option maxHeartbeats 4000000 in
theorem kl_12 {p : Program} {e : Env} {s : State} {m : MethodId} {below : List Frame} {meth : Method} {c : Code} {E : zm_E} {nm : String} {b L : Nat} {xs : Nat → Int32} (hX : va_X b L xs s s.heap) (hbl : b < s.heap.size) (hbE : b ≤ E.2.1) {f : ((Int32 × zm_Mem × Nat) ⊕ zm_Mem) → Option (Unit × zm_Mem)} {i : Int32} {M : zm_Mem} {q : Nat} (hq : q < 512) (hgo : ∀ (M : zm_Mem) (q : Nat), zm_V (p, e, s, m, #[Value.ref b], below, meth, c) (Y_L nm) E (fun (_ : Unit) _ => lw_Z below #[Value.ref b] s) (102 + 13 * q) (34429 + 4296 * q) (decide (q = 0)) (zm_w q) 1208 [(3, .int i), (2, .ref (E.2.1 + 52)), (1, .ref (E.2.1 + 1)), (0, .ref b)] [] M (f_law_go i M q) f) : zm_V (p, e, s, m, #[Value.ref b], below, meth, c) (Y_L nm) E (fun (_ : Unit) _ => lw_Z below #[Value.ref b] s) (102 + 13 * q) (34429 + 4296 * q) (decide (q = 0)) (zm_w q) 584 [(3, .int i), (2, .ref (E.2.1 + 52)), (1, .ref (E.2.1 + 1)), (0, .ref b)] [] M (f_law_c12 L xs i M q) f := by
  unfold f_law_c12
  refine zm_aload_n 585 rfl dL_law_584 rfl 2 rfl ?_
  refine zm_aload_n 586 rfl dL_law_585 rfl 3 rfl ?_
  refine zm_iload_n 587 rfl dL_law_586 rfl 0 rfl ?_
  refine zm_iconst 588 rfl dL_law_587 zi_1 ?_
  refine zm_iadd 589 rfl dL_law_588 ?_
  refine zm_sld hX hbl hbE 590 rfl dL_law_589 ?_
  refine zm_cV1i 593 rfl dL_law_590 ml_L_66 rfl (zm_L (sv := q) rfl) rfl (Nat.le_of_ble_eq_true rfl) ⟨Nat.le_of_ble_eq_true rfl, Nat.le_of_ble_eq_true rfl⟩ rfl rfl ⟨by show 102 + 13 * q ≤ 128088; omega, by show 34429 + 4296 * q ≤ 8717986; omega⟩ rfl (fun _ _ h => k_X10_days E q (xs (i + 1).toNatClampNeg) M h) (fun r54 M55 => ?_)
  refine zm_aload_n 594 rfl dL_law_593 rfl 1 rfl ?_
  refine zm_aload_n 595 rfl dL_law_594 rfl 3 rfl ?_
  refine zm_iload_n 596 rfl dL_law_595 rfl 0 rfl ?_
  refine zm_iconst 597 rfl dL_law_596 zi_1 ?_
  refine zm_iadd 598 rfl dL_law_597 ?_
  refine zm_sld hX hbl hbE 599 rfl dL_law_598 ?_
  refine zm_cV1i 602 rfl dL_law_599 ml_L_69 rfl (zm_L (sv := q) rfl) rfl (Nat.le_of_ble_eq_true rfl) ⟨Nat.le_of_ble_eq_true rfl, Nat.le_of_ble_eq_true rfl⟩ rfl rfl ⟨by show 102 + 13 * q ≤ 128088; omega, by show 34429 + 4296 * q ≤ 8717986; omega⟩ rfl (fun _ _ h => k_X11_days E q (xs (i + 1).toNatClampNeg) M55 h) (fun r56 M57 => ?_)
  refine zm_icmp_eq 1208 605 (by decide) rfl dL_law_602 ?_ zm_none
  exact hgo M57 q
set_option maxRecDepth 20000 in
set_option maxHeartbeats 4000000 in
theorem kl_13 {p : Program} {e : Env} {s : State} {m : MethodId} {below : List Frame} {meth : Method} {c : Code} {E : zm_E} {nm : String} {b L : Nat} {xs : Nat → Int32} (hX : va_X b L xs s s.heap) (hbl : b < s.heap.size) (hbE : b ≤ E.2.1) {f : ((Int32 × zm_Mem × Nat) ⊕ zm_Mem) → Option (Unit × zm_Mem)} {i : Int32} {M : zm_Mem} {q : Nat} (hq : q < 512) (hgo : ∀ (M : zm_Mem) (q : Nat), zm_V (p, e, s, m, #[Value.ref b], below, meth, c) (Y_L nm) E (fun (_ : Unit) _ => lw_Z below #[Value.ref b] s) (102 + 13 * q) (34429 + 4296 * q) (decide (q = 0)) (zm_w q) 1208 [(3, .int i), (2, .ref (E.2.1 + 52)), (1, .ref (E.2.1 + 1)), (0, .ref b)] [] M (f_law_go i M q) f) : zm_V (p, e, s, m, #[Value.ref b], below, meth, c) (Y_L nm) E (fun (_ : Unit) _ => lw_Z below #[Value.ref b] s) (102 + 13 * q) (34429 + 4296 * q) (decide (q = 0)) (zm_w q) 607 [(3, .int i), (2, .ref (E.2.1 + 52)), (1, .ref (E.2.1 + 1)), (0, .ref b)] [] M (f_law_c13 L xs i M q) f := by
  unfold f_law_c13
  refine zm_aload_n 608 rfl dL_law_607 rfl 2 rfl ?_
  refine zm_cV0i 611 rfl dL_law_608 ml_L_70 rfl (zm_L (sv := q) rfl) rfl (Nat.le_of_ble_eq_true rfl) ⟨Nat.le_of_ble_eq_true rfl, Nat.le_of_ble_eq_true rfl⟩ rfl rfl ⟨by show 102 + 13 * q ≤ 128088; omega, by show 34429 + 4296 * q ≤ 8717986; omega⟩ rfl (fun _ _ h => k_X10_undo E q M h) (fun r58 M59 => ?_)
  refine zm_aload_n 612 rfl dL_law_611 rfl 1 rfl ?_
  refine zm_cV0i 615 rfl dL_law_612 ml_L_74 rfl (zm_L (sv := q) rfl) rfl (Nat.le_of_ble_eq_true rfl) ⟨Nat.le_of_ble_eq_true rfl, Nat.le_of_ble_eq_true rfl⟩ rfl rfl ⟨by show 102 + 13 * q ≤ 128088; omega, by show 34429 + 4296 * q ≤ 8717986; omega⟩ rfl (fun _ _ h => k_X11_undo E q M59 h) (fun r60 M61 => ?_)
  refine zm_icmp_eq 1208 618 (by decide) rfl dL_law_615 ?_ zm_none
  exact hgo M61 q
set_option maxRecDepth 20000 in
set_option maxHeartbeats 4000000 in
theorem kl_14 {p : Program} {e : Env} {s : State} {m : MethodId} {below : List Frame} {meth : Method} {c : Code} {E : zm_E} {nm : String} {b L : Nat} {xs : Nat → Int32} (hX : va_X b L xs s s.heap) (hbl : b < s.heap.size) (hbE : b ≤ E.2.1) {f : ((Int32 × zm_Mem × Nat) ⊕ zm_Mem) → Option (Unit × zm_Mem)} {i : Int32} {M : zm_Mem} {q : Nat} (hq : q < 512) (hgo : ∀ (M : zm_Mem) (q : Nat), zm_V (p, e, s, m, #[Value.ref b], below, meth, c) (Y_L nm) E (fun (_ : Unit) _ => lw_Z below #[Value.ref b] s) (102 + 13 * q) (34429 + 4296 * q) (decide (q = 0)) (zm_w q) 1208 [(3, .int i), (2, .ref (E.2.1 + 52)), (1, .ref (E.2.1 + 1)), (0, .ref b)] [] M (f_law_go i M q) f) : zm_V (p, e, s, m, #[Value.ref b], below, meth, c) (Y_L nm) E (fun (_ : Unit) _ => lw_Z below #[Value.ref b] s) (102 + 13 * q) (34429 + 4296 * q) (decide (q = 0)) (zm_w q) 620 [(3, .int i), (2, .ref (E.2.1 + 52)), (1, .ref (E.2.1 + 1)), (0, .ref b)] [] M (f_law_c14 L xs i M q) f := by
  unfold f_law_c14
  refine zm_aload_n 621 rfl dL_law_620 rfl 2 rfl ?_
  refine zm_cV0i 624 rfl dL_law_621 ml_L_75 rfl (zm_L (sv := q) rfl) rfl (Nat.le_of_ble_eq_true rfl) ⟨Nat.le_of_ble_eq_true rfl, Nat.le_of_ble_eq_true rfl⟩ rfl rfl ⟨by show 102 + 13 * q ≤ 128088; omega, by show 34429 + 4296 * q ≤ 8717986; omega⟩ rfl (fun _ _ h => k_X10_well E q M h) (fun r62 M63 => ?_)
  refine zm_aload_n 625 rfl dL_law_624 rfl 1 rfl ?_
  refine zm_cV0i 628 rfl dL_law_625 ml_L_78 rfl (zm_L (sv := q) rfl) rfl (Nat.le_of_ble_eq_true rfl) ⟨Nat.le_of_ble_eq_true rfl, Nat.le_of_ble_eq_true rfl⟩ rfl rfl ⟨by show 102 + 13 * q ≤ 128088; omega, by show 34429 + 4296 * q ≤ 8717986; omega⟩ rfl (fun _ _ h => k_X11_well E q M63 h) (fun r64 M65 => ?_)
  refine zm_icmp_eq 1208 631 (by decide) rfl dL_law_628 ?_ zm_none
  exact hgo M65 q
set_option maxRecDepth 20000 in
set_option maxHeartbeats 4000000 in
theorem kl_15 {p : Program} {e : Env} {s : State} {m : MethodId} {below : List Frame} {meth : Method} {c : Code} {E : zm_E} {nm : String} {b L : Nat} {xs : Nat → Int32} (hX : va_X b L xs s s.heap) (hbl : b < s.heap.size) (hbE : b ≤ E.2.1) {f : ((Int32 × zm_Mem × Nat) ⊕ zm_Mem) → Option (Unit × zm_Mem)} {i : Int32} {M : zm_Mem} {q : Nat} (hq : q < 512) (hgo : ∀ (M : zm_Mem) (q : Nat), zm_V (p, e, s, m, #[Value.ref b], below, meth, c) (Y_L nm) E (fun (_ : Unit) _ => lw_Z below #[Value.ref b] s) (102 + 13 * q) (34429 + 4296 * q) (decide (q = 0)) (zm_w q) 1208 [(3, .int i), (2, .ref (E.2.1 + 52)), (1, .ref (E.2.1 + 1)), (0, .ref b)] [] M (f_law_go i M q) f) : zm_V (p, e, s, m, #[Value.ref b], below, meth, c) (Y_L nm) E (fun (_ : Unit) _ => lw_Z below #[Value.ref b] s) (102 + 13 * q) (34429 + 4296 * q) (decide (q = 0)) (zm_w q) 633 [(3, .int i), (2, .ref (E.2.1 + 52)), (1, .ref (E.2.1 + 1)), (0, .ref b)] [] M (f_law_c15 L xs i M q) f := by
  unfold f_law_c15
  refine zm_aload_n 634 rfl dL_law_633 rfl 2 rfl ?_
  refine zm_cV0i 637 rfl dL_law_634 ml_L_79 rfl (zm_L (sv := q) rfl) rfl (Nat.le_of_ble_eq_true rfl) ⟨Nat.le_of_ble_eq_true rfl, Nat.le_of_ble_eq_true rfl⟩ rfl rfl ⟨by show 102 + 13 * q ≤ 128088; omega, by show 34429 + 4296 * q ≤ 8717986; omega⟩ rfl (fun _ _ h => k_X10_bad E q M h) (fun r66 M67 => ?_)
  refine zm_aload_n 638 rfl dL_law_637 rfl 1 rfl ?_
  refine zm_cV0i 641 rfl dL_law_638 ml_L_82 rfl (zm_L (sv := q) rfl) rfl (Nat.le_of_ble_eq_true rfl) ⟨Nat.le_of_ble_eq_true rfl, Nat.le_of_ble_eq_true rfl⟩ rfl rfl ⟨by show 102 + 13 * q ≤ 128088; omega, by show 34429 + 4296 * q ≤ 8717986; omega⟩ rfl (fun _ _ h => k_X11_bad E q M67 h) (fun r68 M69 => ?_)
  refine zm_icmp_eq 1208 644 (by decide) rfl dL_law_641 ?_ zm_none
  exact hgo M69 q
set_option maxRecDepth 20000 in
set_option maxHeartbeats 4000000 in
theorem kl_16 {p : Program} {e : Env} {s : State} {m : MethodId} {below : List Frame} {meth : Method} {c : Code} {E : zm_E} {nm : String} {b L : Nat} {xs : Nat → Int32} (hX : va_X b L xs s s.heap) (hbl : b < s.heap.size) (hbE : b ≤ E.2.1) {f : ((Int32 × zm_Mem × Nat) ⊕ zm_Mem) → Option (Unit × zm_Mem)} {i : Int32} {M : zm_Mem} {q : Nat} (hq : q < 512) (hgo : ∀ (M : zm_Mem) (q : Nat), zm_V (p, e, s, m, #[Value.ref b], below, meth, c) (Y_L nm) E (fun (_ : Unit) _ => lw_Z below #[Value.ref b] s) (102 + 13 * q) (34429 + 4296 * q) (decide (q = 0)) (zm_w q) 1208 [(3, .int i), (2, .ref (E.2.1 + 52)), (1, .ref (E.2.1 + 1)), (0, .ref b)] [] M (f_law_go i M q) f) : zm_V (p, e, s, m, #[Value.ref b], below, meth, c) (Y_L nm) E (fun (_ : Unit) _ => lw_Z below #[Value.ref b] s) (102 + 13 * q) (34429 + 4296 * q) (decide (q = 0)) (zm_w q) 646 [(3, .int i), (2, .ref (E.2.1 + 52)), (1, .ref (E.2.1 + 1)), (0, .ref b)] [] M (f_law_c16 L xs i M q) f := by
  unfold f_law_c16
  refine zm_aload_n 647 rfl dL_law_646 rfl 2 rfl ?_
  refine zm_gd (fun hg => ?_)
  have hg := of_decide_eq_true hg
  refine zm_callQ (Yf := Y_X10_hangings) 650 rfl dL_law_647 [] [] rfl (fun _ => ml_L_83) rfl rfl (Nat.le_of_ble_eq_true rfl) (fun _ => ⟨Nat.le_of_ble_eq_true rfl, Nat.le_of_ble_eq_true rfl⟩) (fun _ => rfl) (fun _ => rfl) ⟨by show 102 + 13 * (q + 1) ≤ 128088; omega, by show 34429 + 4296 * (q + 1) ≤ 8717986; omega⟩ (fun _ => rfl) (fun h0 _ _ h => k_X10_hangings0 E M (hg.mp h0) h) (fun h0 _ _ h => k_X10_hangings1 E M (fun z => h0 (hg.mpr z)) h) (fun r70 M71 => ?_)
  refine zm_aload_n 651 rfl dL_law_650 rfl 1 rfl ?_
  refine zm_cV0i 654 rfl dL_law_651 ml_L_86 rfl (zm_L (sv := (q + 1)) rfl) rfl (Nat.le_of_ble_eq_true rfl) ⟨Nat.le_of_ble_eq_true rfl, Nat.le_of_ble_eq_true rfl⟩ rfl rfl ⟨by show 102 + 13 * (q + 1) ≤ 128088; omega, by show 34429 + 4296 * (q + 1) ≤ 8717986; omega⟩ rfl (fun _ _ h => k_X11_hangings E (q + 1) M71 h) (fun r72 M73 => ?_)
  refine zm_icmp_eq 1208 657 (by decide) rfl dL_law_654 ?_ zm_none
  exact hgo M73 (q + 1)
set_option maxRecDepth 20000 in
set_option maxHeartbeats 4000000 in
theorem kl_17 {p : Program} {e : Env} {s : State} {m : MethodId} {below : List Frame} {meth : Method} {c : Code} {E : zm_E} {nm : String} {b L : Nat} {xs : Nat → Int32} (hX : va_X b L xs s s.heap) (hbl : b < s.heap.size) (hbE : b ≤ E.2.1) {f : ((Int32 × zm_Mem × Nat) ⊕ zm_Mem) → Option (Unit × zm_Mem)} {i : Int32} {M : zm_Mem} {q : Nat} (hq : q < 512) (hgo : ∀ (M : zm_Mem) (q : Nat), zm_V (p, e, s, m, #[Value.ref b], below, meth, c) (Y_L nm) E (fun (_ : Unit) _ => lw_Z below #[Value.ref b] s) (102 + 13 * q) (34429 + 4296 * q) (decide (q = 0)) (zm_w q) 1208 [(3, .int i), (2, .ref (E.2.1 + 52)), (1, .ref (E.2.1 + 1)), (0, .ref b)] [] M (f_law_go i M q) f) : zm_V (p, e, s, m, #[Value.ref b], below, meth, c) (Y_L nm) E (fun (_ : Unit) _ => lw_Z below #[Value.ref b] s) (102 + 13 * q) (34429 + 4296 * q) (decide (q = 0)) (zm_w q) 659 [(3, .int i), (2, .ref (E.2.1 + 52)), (1, .ref (E.2.1 + 1)), (0, .ref b)] [] M (f_law_c17 L xs i M q) f := by
  unfold f_law_c17
  refine zm_aload_n 660 rfl dL_law_659 rfl 2 rfl ?_
  refine zm_aload_n 661 rfl dL_law_660 rfl 3 rfl ?_
  refine zm_iload_n 662 rfl dL_law_661 rfl 0 rfl ?_
  refine zm_iconst 663 rfl dL_law_662 zi_1 ?_
  refine zm_iadd 664 rfl dL_law_663 ?_
  refine zm_sld hX hbl hbE 665 rfl dL_law_664 ?_
  refine zm_case (fun _ => ?_) (fun _ => ?_)
  · refine zm_cV1ir 668 rfl dL_law_665 ml_L_87 rfl (zm_L (sv := q) rfl) rfl (Nat.le_of_ble_eq_true rfl) ⟨Nat.le_of_ble_eq_true rfl, Nat.le_of_ble_eq_true rfl⟩ rfl rfl ⟨by show 102 + 13 * q ≤ 128088; omega, by show 34429 + 4296 * q ≤ 8717986; omega⟩ rfl (fun _ h => k_X10_nearestE E q (xs (i + 1).toNatClampNeg) M h) (fun r78 => ?_)
    refine zm_aload_n 669 rfl dL_law_668 rfl 1 rfl ?_
    refine zm_aload_n 670 rfl dL_law_669 rfl 3 rfl ?_
    refine zm_iload_n 671 rfl dL_law_670 rfl 0 rfl ?_
    refine zm_iconst 672 rfl dL_law_671 zi_1 ?_
    refine zm_iadd 673 rfl dL_law_672 ?_
    refine zm_sld hX hbl hbE 674 rfl dL_law_673 ?_
    refine zm_cV1i 677 rfl dL_law_674 ml_L_90 rfl (zm_L (sv := q) rfl) rfl (Nat.le_of_ble_eq_true rfl) ⟨Nat.le_of_ble_eq_true rfl, Nat.le_of_ble_eq_true rfl⟩ rfl rfl ⟨by show 102 + 13 * q ≤ 128088; omega, by show 34429 + 4296 * q ≤ 8717986; omega⟩ rfl (fun _ _ h => k_X11_nearest E q (xs (i + 1).toNatClampNeg) M h) (fun r79 M80 => ?_)
    refine zm_icmp_eq 1208 680 (by decide) rfl dL_law_677 ?_ zm_none
    exact hgo M80 q
  refine zm_gd (fun hg => ?_)
  have hg := of_decide_eq_true hg
  refine zm_callQ (Yf := Y_X10_nearest) 668 rfl dL_law_665 [.int (xs (i + 1).toNatClampNeg)] [] rfl (fun _ => ml_L_87) rfl rfl (Nat.le_of_ble_eq_true rfl) (fun _ => ⟨Nat.le_of_ble_eq_true rfl, Nat.le_of_ble_eq_true rfl⟩) (fun _ => rfl) (fun _ => rfl) ⟨by show 102 + 13 * (q + 1) ≤ 128088; omega, by show 34429 + 4296 * (q + 1) ≤ 8717986; omega⟩ (fun _ => rfl) (fun h0 _ _ h => k_X10_nearest0 E (xs (i + 1).toNatClampNeg) M (hg.mp h0) h) (fun h0 _ _ h => k_X10_nearest1 E (xs (i + 1).toNatClampNeg) M (fun z => h0 (hg.mpr z)) h) (fun r74 M75 => ?_)
  refine zm_aload_n 669 rfl dL_law_668 rfl 1 rfl ?_
  refine zm_aload_n 670 rfl dL_law_669 rfl 3 rfl ?_
  refine zm_iload_n 671 rfl dL_law_670 rfl 0 rfl ?_
  refine zm_iconst 672 rfl dL_law_671 zi_1 ?_
  refine zm_iadd 673 rfl dL_law_672 ?_
  refine zm_sld hX hbl hbE 674 rfl dL_law_673 ?_
  refine zm_cV1i 677 rfl dL_law_674 ml_L_90 rfl (zm_L (sv := (q + 1)) rfl) rfl (Nat.le_of_ble_eq_true rfl) ⟨Nat.le_of_ble_eq_true rfl, Nat.le_of_ble_eq_true rfl⟩ rfl rfl ⟨by show 102 + 13 * (q + 1) ≤ 128088; omega, by show 34429 + 4296 * (q + 1) ≤ 8717986; omega⟩ rfl (fun _ _ h => k_X11_nearest E (q + 1) (xs (i + 1).toNatClampNeg) M75 h) (fun r76 M77 => ?_)
  refine zm_icmp_eq 1208 680 (by decide) rfl dL_law_677 ?_ zm_none
  exact hgo M77 (q + 1)
set_option maxRecDepth 20000 in
set_option maxHeartbeats 4000000 in
theorem kl_18 {p : Program} {e : Env} {s : State} {m : MethodId} {below : List Frame} {meth : Method} {c : Code} {E : zm_E} {nm : String} {b L : Nat} {xs : Nat → Int32} (hX : va_X b L xs s s.heap) (hbl : b < s.heap.size) (hbE : b ≤ E.2.1) {f : ((Int32 × zm_Mem × Nat) ⊕ zm_Mem) → Option (Unit × zm_Mem)} {i : Int32} {M : zm_Mem} {q : Nat} (hq : q < 512) (hgo : ∀ (M : zm_Mem) (q : Nat), zm_V (p, e, s, m, #[Value.ref b], below, meth, c) (Y_L nm) E (fun (_ : Unit) _ => lw_Z below #[Value.ref b] s) (102 + 13 * q) (34429 + 4296 * q) (decide (q = 0)) (zm_w q) 1208 [(3, .int i), (2, .ref (E.2.1 + 52)), (1, .ref (E.2.1 + 1)), (0, .ref b)] [] M (f_law_go i M q) f) : zm_V (p, e, s, m, #[Value.ref b], below, meth, c) (Y_L nm) E (fun (_ : Unit) _ => lw_Z below #[Value.ref b] s) (102 + 13 * q) (34429 + 4296 * q) (decide (q = 0)) (zm_w q) 682 [(3, .int i), (2, .ref (E.2.1 + 52)), (1, .ref (E.2.1 + 1)), (0, .ref b)] [] M (f_law_c18 L xs i M q) f := by
  unfold f_law_c18
  refine zm_aload_n 683 rfl dL_law_682 rfl 2 rfl ?_
  refine zm_aload_n 684 rfl dL_law_683 rfl 3 rfl ?_
  refine zm_iload_n 685 rfl dL_law_684 rfl 0 rfl ?_
  refine zm_iconst 686 rfl dL_law_685 zi_1 ?_
  refine zm_iadd 687 rfl dL_law_686 ?_
  refine zm_sld hX hbl hbE 688 rfl dL_law_687 ?_
  refine zm_case (fun _ => ?_) (fun _ => ?_)
  · refine zm_cV1ir 691 rfl dL_law_688 ml_L_91 rfl (zm_L (sv := q) rfl) rfl (Nat.le_of_ble_eq_true rfl) ⟨Nat.le_of_ble_eq_true rfl, Nat.le_of_ble_eq_true rfl⟩ rfl rfl ⟨by show 102 + 13 * q ≤ 128088; omega, by show 34429 + 4296 * q ≤ 8717986; omega⟩ rfl (fun _ h => k_X10_quarrelE E q (xs (i + 1).toNatClampNeg) M h) (fun r85 => ?_)
    refine zm_aload_n 692 rfl dL_law_691 rfl 1 rfl ?_
    refine zm_aload_n 693 rfl dL_law_692 rfl 3 rfl ?_
    refine zm_iload_n 694 rfl dL_law_693 rfl 0 rfl ?_
    refine zm_iconst 695 rfl dL_law_694 zi_1 ?_
    refine zm_iadd 696 rfl dL_law_695 ?_
    refine zm_sld hX hbl hbE 697 rfl dL_law_696 ?_
    refine zm_cV1i 700 rfl dL_law_697 ml_L_94 rfl (zm_L (sv := q) rfl) rfl (Nat.le_of_ble_eq_true rfl) ⟨Nat.le_of_ble_eq_true rfl, Nat.le_of_ble_eq_true rfl⟩ rfl rfl ⟨by show 102 + 13 * q ≤ 128088; omega, by show 34429 + 4296 * q ≤ 8717986; omega⟩ rfl (fun _ _ h => k_X11_quarrel E q (xs (i + 1).toNatClampNeg) M h) (fun r86 M87 => ?_)
    refine zm_icmp_eq 1208 703 (by decide) rfl dL_law_700 ?_ zm_none
    exact hgo M87 q
  refine zm_gd (fun hg => ?_)
  have hg := of_decide_eq_true hg
  refine zm_callQ (Yf := Y_X10_quarrel) 691 rfl dL_law_688 [.int (xs (i + 1).toNatClampNeg)] [] rfl (fun _ => ml_L_91) rfl rfl (Nat.le_of_ble_eq_true rfl) (fun _ => ⟨Nat.le_of_ble_eq_true rfl, Nat.le_of_ble_eq_true rfl⟩) (fun _ => rfl) (fun _ => rfl) ⟨by show 102 + 13 * (q + 1) ≤ 128088; omega, by show 34429 + 4296 * (q + 1) ≤ 8717986; omega⟩ (fun _ => rfl) (fun h0 _ _ h => k_X10_quarrel0 E (xs (i + 1).toNatClampNeg) M (hg.mp h0) h) (fun h0 _ _ h => k_X10_quarrel1 E (xs (i + 1).toNatClampNeg) M (fun z => h0 (hg.mpr z)) h) (fun r81 M82 => ?_)
  refine zm_aload_n 692 rfl dL_law_691 rfl 1 rfl ?_
  refine zm_aload_n 693 rfl dL_law_692 rfl 3 rfl ?_
  refine zm_iload_n 694 rfl dL_law_693 rfl 0 rfl ?_
  refine zm_iconst 695 rfl dL_law_694 zi_1 ?_
  refine zm_iadd 696 rfl dL_law_695 ?_
  refine zm_sld hX hbl hbE 697 rfl dL_law_696 ?_
  refine zm_cV1i 700 rfl dL_law_697 ml_L_94 rfl (zm_L (sv := (q + 1)) rfl) rfl (Nat.le_of_ble_eq_true rfl) ⟨Nat.le_of_ble_eq_true rfl, Nat.le_of_ble_eq_true rfl⟩ rfl rfl ⟨by show 102 + 13 * (q + 1) ≤ 128088; omega, by show 34429 + 4296 * (q + 1) ≤ 8717986; omega⟩ rfl (fun _ _ h => k_X11_quarrel E (q + 1) (xs (i + 1).toNatClampNeg) M82 h) (fun r83 M84 => ?_)
  refine zm_icmp_eq 1208 703 (by decide) rfl dL_law_700 ?_ zm_none
  exact hgo M84 (q + 1)
set_option maxRecDepth 20000 in
set_option maxHeartbeats 4000000 in
theorem kl_19 {p : Program} {e : Env} {s : State} {m : MethodId} {below : List Frame} {meth : Method} {c : Code} {E : zm_E} {nm : String} {b L : Nat} {xs : Nat → Int32} (hX : va_X b L xs s s.heap) (hbl : b < s.heap.size) (hbE : b ≤ E.2.1) {f : ((Int32 × zm_Mem × Nat) ⊕ zm_Mem) → Option (Unit × zm_Mem)} {i : Int32} {M : zm_Mem} {q : Nat} (hq : q < 512) (hgo : ∀ (M : zm_Mem) (q : Nat), zm_V (p, e, s, m, #[Value.ref b], below, meth, c) (Y_L nm) E (fun (_ : Unit) _ => lw_Z below #[Value.ref b] s) (102 + 13 * q) (34429 + 4296 * q) (decide (q = 0)) (zm_w q) 1208 [(3, .int i), (2, .ref (E.2.1 + 52)), (1, .ref (E.2.1 + 1)), (0, .ref b)] [] M (f_law_go i M q) f) : zm_V (p, e, s, m, #[Value.ref b], below, meth, c) (Y_L nm) E (fun (_ : Unit) _ => lw_Z below #[Value.ref b] s) (102 + 13 * q) (34429 + 4296 * q) (decide (q = 0)) (zm_w q) 705 [(3, .int i), (2, .ref (E.2.1 + 52)), (1, .ref (E.2.1 + 1)), (0, .ref b)] [] M (f_law_c19 L xs i M q) f := by
  unfold f_law_c19
  refine zm_aload_n 706 rfl dL_law_705 rfl 2 rfl ?_
  refine zm_aload_n 707 rfl dL_law_706 rfl 3 rfl ?_
  refine zm_iload_n 708 rfl dL_law_707 rfl 0 rfl ?_
  refine zm_iconst 709 rfl dL_law_708 zi_1 ?_
  refine zm_iadd 710 rfl dL_law_709 ?_
  refine zm_sld hX hbl hbE 711 rfl dL_law_710 ?_
  refine zm_if_eq 718 714 (by decide) rfl dL_law_711 ?_ ?_
  · refine zm_iconst 719 rfl dL_law_718 zi_0 ?_
    refine zm_gd (fun hg => ?_)
    have hg := of_decide_eq_true hg
    refine zm_callQ (Yf := Y_X10_home) 722 rfl dL_law_719 [.int (0)] [] rfl (fun _ => ml_L_95) rfl rfl (Nat.le_of_ble_eq_true rfl) (fun _ => ⟨Nat.le_of_ble_eq_true rfl, Nat.le_of_ble_eq_true rfl⟩) (fun _ => rfl) (fun _ => rfl) ⟨by show 102 + 13 * (q + 1) ≤ 128088; omega, by show 34429 + 4296 * (q + 1) ≤ 8717986; omega⟩ (fun _ => rfl) (fun h0 _ _ h => k_X10_home0 E 0 M (hg.mp h0) h) (fun h0 _ _ h => k_X10_home1 E 0 M (fun z => h0 (hg.mpr z)) h) (fun r88 M89 => ?_)
    refine zm_aload_n 723 rfl dL_law_722 rfl 1 rfl ?_
    refine zm_aload_n 724 rfl dL_law_723 rfl 3 rfl ?_
    refine zm_iload_n 725 rfl dL_law_724 rfl 0 rfl ?_
    refine zm_iconst 726 rfl dL_law_725 zi_1 ?_
    refine zm_iadd 727 rfl dL_law_726 ?_
    refine zm_sld hX hbl hbE 728 rfl dL_law_727 ?_
    refine zm_if_eq 735 731 (by decide) rfl dL_law_728 ?_ ?_
    · refine zm_iconst 736 rfl dL_law_735 zi_0 ?_
      refine zm_cV1i 739 rfl dL_law_736 ml_L_99 rfl (zm_L (sv := (q + 1)) rfl) rfl (Nat.le_of_ble_eq_true rfl) ⟨Nat.le_of_ble_eq_true rfl, Nat.le_of_ble_eq_true rfl⟩ rfl rfl ⟨by show 102 + 13 * (q + 1) ≤ 128088; omega, by show 34429 + 4296 * (q + 1) ≤ 8717986; omega⟩ rfl (fun _ _ h => k_X11_home E (q + 1) 0 M89 h) (fun r90 M91 => ?_)
      refine zm_icmp_eq 1208 742 (by decide) rfl dL_law_739 ?_ zm_none
      exact hgo M91 (q + 1)
    · refine zm_iconst 732 rfl dL_law_731 zi_1 ?_
      refine zm_goto 736 (by decide) dL_law_732 ?_
      refine zm_cV1i 739 rfl dL_law_736 ml_L_99 rfl (zm_L (sv := (q + 1)) rfl) rfl (Nat.le_of_ble_eq_true rfl) ⟨Nat.le_of_ble_eq_true rfl, Nat.le_of_ble_eq_true rfl⟩ rfl rfl ⟨by show 102 + 13 * (q + 1) ≤ 128088; omega, by show 34429 + 4296 * (q + 1) ≤ 8717986; omega⟩ rfl (fun _ _ h => k_X11_home E (q + 1) 1 M89 h) (fun r92 M93 => ?_)
      refine zm_icmp_eq 1208 742 (by decide) rfl dL_law_739 ?_ zm_none
      exact hgo M93 (q + 1)
  · refine zm_iconst 715 rfl dL_law_714 zi_1 ?_
    refine zm_goto 719 (by decide) dL_law_715 ?_
    refine zm_gd (fun hg => ?_)
    have hg := of_decide_eq_true hg
    refine zm_callQ (Yf := Y_X10_home) 722 rfl dL_law_719 [.int (1)] [] rfl (fun _ => ml_L_95) rfl rfl (Nat.le_of_ble_eq_true rfl) (fun _ => ⟨Nat.le_of_ble_eq_true rfl, Nat.le_of_ble_eq_true rfl⟩) (fun _ => rfl) (fun _ => rfl) ⟨by show 102 + 13 * (q + 1) ≤ 128088; omega, by show 34429 + 4296 * (q + 1) ≤ 8717986; omega⟩ (fun _ => rfl) (fun h0 _ _ h => k_X10_home0 E 1 M (hg.mp h0) h) (fun h0 _ _ h => k_X10_home1 E 1 M (fun z => h0 (hg.mpr z)) h) (fun r94 M95 => ?_)
    refine zm_aload_n 723 rfl dL_law_722 rfl 1 rfl ?_
    refine zm_aload_n 724 rfl dL_law_723 rfl 3 rfl ?_
    refine zm_iload_n 725 rfl dL_law_724 rfl 0 rfl ?_
    refine zm_iconst 726 rfl dL_law_725 zi_1 ?_
    refine zm_iadd 727 rfl dL_law_726 ?_
    refine zm_sld hX hbl hbE 728 rfl dL_law_727 ?_
    refine zm_if_eq 735 731 (by decide) rfl dL_law_728 ?_ ?_
    · refine zm_iconst 736 rfl dL_law_735 zi_0 ?_
      refine zm_cV1i 739 rfl dL_law_736 ml_L_99 rfl (zm_L (sv := (q + 1)) rfl) rfl (Nat.le_of_ble_eq_true rfl) ⟨Nat.le_of_ble_eq_true rfl, Nat.le_of_ble_eq_true rfl⟩ rfl rfl ⟨by show 102 + 13 * (q + 1) ≤ 128088; omega, by show 34429 + 4296 * (q + 1) ≤ 8717986; omega⟩ rfl (fun _ _ h => k_X11_home E (q + 1) 0 M95 h) (fun r96 M97 => ?_)
      refine zm_icmp_eq 1208 742 (by decide) rfl dL_law_739 ?_ zm_none
      exact hgo M97 (q + 1)
    · refine zm_iconst 732 rfl dL_law_731 zi_1 ?_
      refine zm_goto 736 (by decide) dL_law_732 ?_
      refine zm_cV1i 739 rfl dL_law_736 ml_L_99 rfl (zm_L (sv := (q + 1)) rfl) rfl (Nat.le_of_ble_eq_true rfl) ⟨Nat.le_of_ble_eq_true rfl, Nat.le_of_ble_eq_true rfl⟩ rfl rfl ⟨by show 102 + 13 * (q + 1) ≤ 128088; omega, by show 34429 + 4296 * (q + 1) ≤ 8717986; omega⟩ rfl (fun _ _ h => k_X11_home E (q + 1) 1 M95 h) (fun r98 M99 => ?_)
      refine zm_icmp_eq 1208 742 (by decide) rfl dL_law_739 ?_ zm_none
      exact hgo M99 (q + 1)
set_option maxRecDepth 20000 in
set_option maxHeartbeats 4000000 in
theorem kl_20 {p : Program} {e : Env} {s : State} {m : MethodId} {below : List Frame} {meth : Method} {c : Code} {E : zm_E} {nm : String} {b L : Nat} {xs : Nat → Int32} (hX : va_X b L xs s s.heap) (hbl : b < s.heap.size) (hbE : b ≤ E.2.1) {f : ((Int32 × zm_Mem × Nat) ⊕ zm_Mem) → Option (Unit × zm_Mem)} {i : Int32} {M : zm_Mem} {q : Nat} (hq : q < 512) (hgo : ∀ (M : zm_Mem) (q : Nat), zm_V (p, e, s, m, #[Value.ref b], below, meth, c) (Y_L nm) E (fun (_ : Unit) _ => lw_Z below #[Value.ref b] s) (102 + 13 * q) (34429 + 4296 * q) (decide (q = 0)) (zm_w q) 1208 [(3, .int i), (2, .ref (E.2.1 + 52)), (1, .ref (E.2.1 + 1)), (0, .ref b)] [] M (f_law_go i M q) f) : zm_V (p, e, s, m, #[Value.ref b], below, meth, c) (Y_L nm) E (fun (_ : Unit) _ => lw_Z below #[Value.ref b] s) (102 + 13 * q) (34429 + 4296 * q) (decide (q = 0)) (zm_w q) 744 [(3, .int i), (2, .ref (E.2.1 + 52)), (1, .ref (E.2.1 + 1)), (0, .ref b)] [] M (f_law_c20 L xs i M q) f := by
  unfold f_law_c20
  refine zm_aload_n 745 rfl dL_law_744 rfl 2 rfl ?_
  refine zm_aload_n 746 rfl dL_law_745 rfl 3 rfl ?_
  refine zm_iload_n 747 rfl dL_law_746 rfl 0 rfl ?_
  refine zm_iconst 748 rfl dL_law_747 zi_1 ?_
  refine zm_iadd 749 rfl dL_law_748 ?_
  refine zm_sld hX hbl hbE 750 rfl dL_law_749 ?_
  refine zm_cV1i 753 rfl dL_law_750 ml_L_100 rfl (zm_L (sv := q) rfl) rfl (Nat.le_of_ble_eq_true rfl) ⟨Nat.le_of_ble_eq_true rfl, Nat.le_of_ble_eq_true rfl⟩ rfl rfl ⟨by show 102 + 13 * q ≤ 128088; omega, by show 34429 + 4296 * q ≤ 8717986; omega⟩ rfl (fun _ _ h => k_X10_swaps E q (xs (i + 1).toNatClampNeg) M h) (fun r100 M101 => ?_)
  refine zm_aload_n 754 rfl dL_law_753 rfl 1 rfl ?_
  refine zm_aload_n 755 rfl dL_law_754 rfl 3 rfl ?_
  refine zm_iload_n 756 rfl dL_law_755 rfl 0 rfl ?_
  refine zm_iconst 757 rfl dL_law_756 zi_1 ?_
  refine zm_iadd 758 rfl dL_law_757 ?_
  refine zm_sld hX hbl hbE 759 rfl dL_law_758 ?_
  refine zm_cV1i 762 rfl dL_law_759 ml_L_103 rfl (zm_L (sv := q) rfl) rfl (Nat.le_of_ble_eq_true rfl) ⟨Nat.le_of_ble_eq_true rfl, Nat.le_of_ble_eq_true rfl⟩ rfl rfl ⟨by show 102 + 13 * q ≤ 128088; omega, by show 34429 + 4296 * q ≤ 8717986; omega⟩ rfl (fun _ _ h => k_X11_swaps E q (xs (i + 1).toNatClampNeg) M101 h) (fun r102 M103 => ?_)
  refine zm_icmp_eq 1208 765 (by decide) rfl dL_law_762 ?_ zm_none
  exact hgo M103 q
set_option maxRecDepth 20000 in
set_option maxHeartbeats 4000000 in
theorem kl_21 {p : Program} {e : Env} {s : State} {m : MethodId} {below : List Frame} {meth : Method} {c : Code} {E : zm_E} {nm : String} {b L : Nat} {xs : Nat → Int32} (hX : va_X b L xs s s.heap) (hbl : b < s.heap.size) (hbE : b ≤ E.2.1) {f : ((Int32 × zm_Mem × Nat) ⊕ zm_Mem) → Option (Unit × zm_Mem)} {i : Int32} {M : zm_Mem} {q : Nat} (hq : q < 512) (hgo : ∀ (M : zm_Mem) (q : Nat), zm_V (p, e, s, m, #[Value.ref b], below, meth, c) (Y_L nm) E (fun (_ : Unit) _ => lw_Z below #[Value.ref b] s) (102 + 13 * q) (34429 + 4296 * q) (decide (q = 0)) (zm_w q) 1208 [(3, .int i), (2, .ref (E.2.1 + 52)), (1, .ref (E.2.1 + 1)), (0, .ref b)] [] M (f_law_go i M q) f) : zm_V (p, e, s, m, #[Value.ref b], below, meth, c) (Y_L nm) E (fun (_ : Unit) _ => lw_Z below #[Value.ref b] s) (102 + 13 * q) (34429 + 4296 * q) (decide (q = 0)) (zm_w q) 767 [(3, .int i), (2, .ref (E.2.1 + 52)), (1, .ref (E.2.1 + 1)), (0, .ref b)] [] M (f_law_c21 L xs i M q) f := by
  unfold f_law_c21
  refine zm_aload_n 768 rfl dL_law_767 rfl 2 rfl ?_
  refine zm_aload_n 769 rfl dL_law_768 rfl 3 rfl ?_
  refine zm_iload_n 770 rfl dL_law_769 rfl 0 rfl ?_
  refine zm_iconst 771 rfl dL_law_770 zi_1 ?_
  refine zm_iadd 772 rfl dL_law_771 ?_
  refine zm_sld hX hbl hbE 773 rfl dL_law_772 ?_
  refine zm_cV1i 776 rfl dL_law_773 ml_L_104 rfl (zm_L (sv := q) rfl) rfl (Nat.le_of_ble_eq_true rfl) ⟨Nat.le_of_ble_eq_true rfl, Nat.le_of_ble_eq_true rfl⟩ rfl rfl ⟨by show 102 + 13 * q ≤ 128088; omega, by show 34429 + 4296 * q ≤ 8717986; omega⟩ rfl (fun _ _ h => k_X10_backs E q (xs (i + 1).toNatClampNeg) M h) (fun r104 M105 => ?_)
  refine zm_aload_n 777 rfl dL_law_776 rfl 1 rfl ?_
  refine zm_aload_n 778 rfl dL_law_777 rfl 3 rfl ?_
  refine zm_iload_n 779 rfl dL_law_778 rfl 0 rfl ?_
  refine zm_iconst 780 rfl dL_law_779 zi_1 ?_
  refine zm_iadd 781 rfl dL_law_780 ?_
  refine zm_sld hX hbl hbE 782 rfl dL_law_781 ?_
  refine zm_cV1i 785 rfl dL_law_782 ml_L_107 rfl (zm_L (sv := q) rfl) rfl (Nat.le_of_ble_eq_true rfl) ⟨Nat.le_of_ble_eq_true rfl, Nat.le_of_ble_eq_true rfl⟩ rfl rfl ⟨by show 102 + 13 * q ≤ 128088; omega, by show 34429 + 4296 * q ≤ 8717986; omega⟩ rfl (fun _ _ h => k_X11_backs E q (xs (i + 1).toNatClampNeg) M105 h) (fun r106 M107 => ?_)
  refine zm_icmp_eq 1208 788 (by decide) rfl dL_law_785 ?_ zm_none
  exact hgo M107 q
set_option maxRecDepth 20000 in
set_option maxHeartbeats 4000000 in
theorem kl_22 {p : Program} {e : Env} {s : State} {m : MethodId} {below : List Frame} {meth : Method} {c : Code} {E : zm_E} {nm : String} {b L : Nat} {xs : Nat → Int32} (hX : va_X b L xs s s.heap) (hbl : b < s.heap.size) (hbE : b ≤ E.2.1) {f : ((Int32 × zm_Mem × Nat) ⊕ zm_Mem) → Option (Unit × zm_Mem)} {i : Int32} {M : zm_Mem} {q : Nat} (hq : q < 512) (hgo : ∀ (M : zm_Mem) (q : Nat), zm_V (p, e, s, m, #[Value.ref b], below, meth, c) (Y_L nm) E (fun (_ : Unit) _ => lw_Z below #[Value.ref b] s) (102 + 13 * q) (34429 + 4296 * q) (decide (q = 0)) (zm_w q) 1208 [(3, .int i), (2, .ref (E.2.1 + 52)), (1, .ref (E.2.1 + 1)), (0, .ref b)] [] M (f_law_go i M q) f) : zm_V (p, e, s, m, #[Value.ref b], below, meth, c) (Y_L nm) E (fun (_ : Unit) _ => lw_Z below #[Value.ref b] s) (102 + 13 * q) (34429 + 4296 * q) (decide (q = 0)) (zm_w q) 790 [(3, .int i), (2, .ref (E.2.1 + 52)), (1, .ref (E.2.1 + 1)), (0, .ref b)] [] M (f_law_c22 L xs i M q) f := by
  unfold f_law_c22
  refine zm_aload_n 791 rfl dL_law_790 rfl 2 rfl ?_
  refine zm_cV0i 794 rfl dL_law_791 ml_L_108 rfl (zm_L (sv := q) rfl) rfl (Nat.le_of_ble_eq_true rfl) ⟨Nat.le_of_ble_eq_true rfl, Nat.le_of_ble_eq_true rfl⟩ rfl rfl ⟨by show 102 + 13 * q ≤ 128088; omega, by show 34429 + 4296 * q ≤ 8717986; omega⟩ rfl (fun _ _ h => k_X10_soonest E q M h) (fun r108 M109 => ?_)
  refine zm_aload_n 795 rfl dL_law_794 rfl 1 rfl ?_
  refine zm_cV0i 798 rfl dL_law_795 ml_L_111 rfl (zm_L (sv := q) rfl) rfl (Nat.le_of_ble_eq_true rfl) ⟨Nat.le_of_ble_eq_true rfl, Nat.le_of_ble_eq_true rfl⟩ rfl rfl ⟨by show 102 + 13 * q ≤ 128088; omega, by show 34429 + 4296 * q ≤ 8717986; omega⟩ rfl (fun _ _ h => k_X11_soonest E q M109 h) (fun r110 M111 => ?_)
  refine zm_icmp_eq 1208 801 (by decide) rfl dL_law_798 ?_ zm_none
  exact hgo M111 q
set_option maxRecDepth 20000 in
set_option maxHeartbeats 4000000 in
theorem kl_23 {p : Program} {e : Env} {s : State} {m : MethodId} {below : List Frame} {meth : Method} {c : Code} {E : zm_E} {nm : String} {b L : Nat} {xs : Nat → Int32} (hX : va_X b L xs s s.heap) (hbl : b < s.heap.size) (hbE : b ≤ E.2.1) {f : ((Int32 × zm_Mem × Nat) ⊕ zm_Mem) → Option (Unit × zm_Mem)} {i : Int32} {M : zm_Mem} {q : Nat} (hq : q < 512) (hgo : ∀ (M : zm_Mem) (q : Nat), zm_V (p, e, s, m, #[Value.ref b], below, meth, c) (Y_L nm) E (fun (_ : Unit) _ => lw_Z below #[Value.ref b] s) (102 + 13 * q) (34429 + 4296 * q) (decide (q = 0)) (zm_w q) 1208 [(3, .int i), (2, .ref (E.2.1 + 52)), (1, .ref (E.2.1 + 1)), (0, .ref b)] [] M (f_law_go i M q) f) : zm_V (p, e, s, m, #[Value.ref b], below, meth, c) (Y_L nm) E (fun (_ : Unit) _ => lw_Z below #[Value.ref b] s) (102 + 13 * q) (34429 + 4296 * q) (decide (q = 0)) (zm_w q) 803 [(3, .int i), (2, .ref (E.2.1 + 52)), (1, .ref (E.2.1 + 1)), (0, .ref b)] [] M (f_law_c23 L xs i M q) f := by
  unfold f_law_c23
  refine zm_aload_n 804 rfl dL_law_803 rfl 2 rfl ?_
  refine zm_aload_n 805 rfl dL_law_804 rfl 3 rfl ?_
  refine zm_iload_n 806 rfl dL_law_805 rfl 0 rfl ?_
  refine zm_iconst 807 rfl dL_law_806 zi_1 ?_
  refine zm_iadd 808 rfl dL_law_807 ?_
  refine zm_sld hX hbl hbE 809 rfl dL_law_808 ?_
  refine zm_aload_n 810 rfl dL_law_809 rfl 3 rfl ?_
  refine zm_iload_n 811 rfl dL_law_810 rfl 0 rfl ?_
  refine zm_iconst 812 rfl dL_law_811 zi_2 ?_
  refine zm_iadd 813 rfl dL_law_812 ?_
  refine zm_sld hX hbl hbE 814 rfl dL_law_813 ?_
  refine zm_cV2ir 817 rfl dL_law_814 ml_L_112 rfl (zm_L (sv := q) rfl) rfl (Nat.le_of_ble_eq_true rfl) ⟨Nat.le_of_ble_eq_true rfl, Nat.le_of_ble_eq_true rfl⟩ rfl rfl ⟨by show 102 + 13 * q ≤ 128088; omega, by show 34429 + 4296 * q ≤ 8717986; omega⟩ rfl (fun _ h => k_X10_then E q (xs (i + 1).toNatClampNeg) (xs (i + 2).toNatClampNeg) M h) (fun r112 => ?_)
  refine zm_aload_n 818 rfl dL_law_817 rfl 1 rfl ?_
  refine zm_aload_n 819 rfl dL_law_818 rfl 3 rfl ?_
  refine zm_iload_n 820 rfl dL_law_819 rfl 0 rfl ?_
  refine zm_iconst 821 rfl dL_law_820 zi_1 ?_
  refine zm_iadd 822 rfl dL_law_821 ?_
  refine zm_sld hX hbl hbE 823 rfl dL_law_822 ?_
  refine zm_aload_n 824 rfl dL_law_823 rfl 3 rfl ?_
  refine zm_iload_n 825 rfl dL_law_824 rfl 0 rfl ?_
  refine zm_iconst 826 rfl dL_law_825 zi_2 ?_
  refine zm_iadd 827 rfl dL_law_826 ?_
  refine zm_sld hX hbl hbE 828 rfl dL_law_827 ?_
  refine zm_cV2i 831 rfl dL_law_828 ml_L_115 rfl (zm_L (sv := q) rfl) rfl (Nat.le_of_ble_eq_true rfl) ⟨Nat.le_of_ble_eq_true rfl, Nat.le_of_ble_eq_true rfl⟩ rfl rfl ⟨by show 102 + 13 * q ≤ 128088; omega, by show 34429 + 4296 * q ≤ 8717986; omega⟩ rfl (fun _ _ h => k_X11_then E q (xs (i + 1).toNatClampNeg) (xs (i + 2).toNatClampNeg) M h) (fun r113 M114 => ?_)
  refine zm_icmp_eq 1208 834 (by decide) rfl dL_law_831 ?_ zm_none
  exact hgo M114 q
set_option maxRecDepth 20000 in
set_option maxHeartbeats 4000000 in
theorem kl_24 {p : Program} {e : Env} {s : State} {m : MethodId} {below : List Frame} {meth : Method} {c : Code} {E : zm_E} {nm : String} {b L : Nat} {xs : Nat → Int32} (hX : va_X b L xs s s.heap) (hbl : b < s.heap.size) (hbE : b ≤ E.2.1) {f : ((Int32 × zm_Mem × Nat) ⊕ zm_Mem) → Option (Unit × zm_Mem)} {i : Int32} {M : zm_Mem} {q : Nat} (hq : q < 512) (hgo : ∀ (M : zm_Mem) (q : Nat), zm_V (p, e, s, m, #[Value.ref b], below, meth, c) (Y_L nm) E (fun (_ : Unit) _ => lw_Z below #[Value.ref b] s) (102 + 13 * q) (34429 + 4296 * q) (decide (q = 0)) (zm_w q) 1208 [(3, .int i), (2, .ref (E.2.1 + 52)), (1, .ref (E.2.1 + 1)), (0, .ref b)] [] M (f_law_go i M q) f) : zm_V (p, e, s, m, #[Value.ref b], below, meth, c) (Y_L nm) E (fun (_ : Unit) _ => lw_Z below #[Value.ref b] s) (102 + 13 * q) (34429 + 4296 * q) (decide (q = 0)) (zm_w q) 836 [(3, .int i), (2, .ref (E.2.1 + 52)), (1, .ref (E.2.1 + 1)), (0, .ref b)] [] M (f_law_c24 L xs i M q) f := by
  unfold f_law_c24
  refine zm_aload_n 837 rfl dL_law_836 rfl 2 rfl ?_
  refine zm_aload_n 838 rfl dL_law_837 rfl 3 rfl ?_
  refine zm_iload_n 839 rfl dL_law_838 rfl 0 rfl ?_
  refine zm_iconst 840 rfl dL_law_839 zi_1 ?_
  refine zm_iadd 841 rfl dL_law_840 ?_
  refine zm_sld hX hbl hbE 842 rfl dL_law_841 ?_
  refine zm_aload_n 843 rfl dL_law_842 rfl 3 rfl ?_
  refine zm_iload_n 844 rfl dL_law_843 rfl 0 rfl ?_
  refine zm_iconst 845 rfl dL_law_844 zi_2 ?_
  refine zm_iadd 846 rfl dL_law_845 ?_
  refine zm_sld hX hbl hbE 847 rfl dL_law_846 ?_
  refine zm_aload_n 848 rfl dL_law_847 rfl 3 rfl ?_
  refine zm_iload_n 849 rfl dL_law_848 rfl 0 rfl ?_
  refine zm_iconst 850 rfl dL_law_849 zi_3 ?_
  refine zm_iadd 851 rfl dL_law_850 ?_
  refine zm_sld hX hbl hbE 852 rfl dL_law_851 ?_
  refine zm_aload_n 853 rfl dL_law_852 rfl 3 rfl ?_
  refine zm_iload_n 854 rfl dL_law_853 rfl 0 rfl ?_
  refine zm_iconst 855 rfl dL_law_854 zi_4 ?_
  refine zm_iadd 856 rfl dL_law_855 ?_
  refine zm_sld hX hbl hbE 857 rfl dL_law_856 ?_
  refine zm_cV4i 860 rfl dL_law_857 ml_L_116 rfl (zm_L (sv := q) rfl) rfl (Nat.le_of_ble_eq_true rfl) ⟨Nat.le_of_ble_eq_true rfl, Nat.le_of_ble_eq_true rfl⟩ rfl rfl ⟨by show 102 + 13 * q ≤ 128088; omega, by show 34429 + 4296 * q ≤ 8717986; omega⟩ rfl (fun _ _ h => k_X10_times E q (xs (i + 1).toNatClampNeg) (xs (i + 2).toNatClampNeg) (xs (i + 3).toNatClampNeg) (xs (i + 4).toNatClampNeg) M h) (fun r115 M116 => ?_)
  refine zm_aload_n 861 rfl dL_law_860 rfl 1 rfl ?_
  refine zm_aload_n 862 rfl dL_law_861 rfl 3 rfl ?_
  refine zm_iload_n 863 rfl dL_law_862 rfl 0 rfl ?_
  refine zm_iconst 864 rfl dL_law_863 zi_1 ?_
  refine zm_iadd 865 rfl dL_law_864 ?_
  refine zm_sld hX hbl hbE 866 rfl dL_law_865 ?_
  refine zm_aload_n 867 rfl dL_law_866 rfl 3 rfl ?_
  refine zm_iload_n 868 rfl dL_law_867 rfl 0 rfl ?_
  refine zm_iconst 869 rfl dL_law_868 zi_2 ?_
  refine zm_iadd 870 rfl dL_law_869 ?_
  refine zm_sld hX hbl hbE 871 rfl dL_law_870 ?_
  refine zm_aload_n 872 rfl dL_law_871 rfl 3 rfl ?_
  refine zm_iload_n 873 rfl dL_law_872 rfl 0 rfl ?_
  refine zm_iconst 874 rfl dL_law_873 zi_3 ?_
  refine zm_iadd 875 rfl dL_law_874 ?_
  refine zm_sld hX hbl hbE 876 rfl dL_law_875 ?_
  refine zm_aload_n 877 rfl dL_law_876 rfl 3 rfl ?_
  refine zm_iload_n 878 rfl dL_law_877 rfl 0 rfl ?_
  refine zm_iconst 879 rfl dL_law_878 zi_4 ?_
  refine zm_iadd 880 rfl dL_law_879 ?_
  refine zm_sld hX hbl hbE 881 rfl dL_law_880 ?_
  refine zm_cV4i 884 rfl dL_law_881 ml_L_120 rfl (zm_L (sv := q) rfl) rfl (Nat.le_of_ble_eq_true rfl) ⟨Nat.le_of_ble_eq_true rfl, Nat.le_of_ble_eq_true rfl⟩ rfl rfl ⟨by show 102 + 13 * q ≤ 128088; omega, by show 34429 + 4296 * q ≤ 8717986; omega⟩ rfl (fun _ _ h => k_X11_times E q (xs (i + 1).toNatClampNeg) (xs (i + 2).toNatClampNeg) (xs (i + 3).toNatClampNeg) (xs (i + 4).toNatClampNeg) M116 h) (fun r117 M118 => ?_)
  refine zm_icmp_eq 1208 887 (by decide) rfl dL_law_884 ?_ zm_none
  exact hgo M118 q
set_option maxRecDepth 20000 in
set_option maxHeartbeats 4000000 in
theorem kl_25 {p : Program} {e : Env} {s : State} {m : MethodId} {below : List Frame} {meth : Method} {c : Code} {E : zm_E} {nm : String} {b L : Nat} {xs : Nat → Int32} (hX : va_X b L xs s s.heap) (hbl : b < s.heap.size) (hbE : b ≤ E.2.1) {f : ((Int32 × zm_Mem × Nat) ⊕ zm_Mem) → Option (Unit × zm_Mem)} {i : Int32} {M : zm_Mem} {q : Nat} (hq : q < 512) (hgo : ∀ (M : zm_Mem) (q : Nat), zm_V (p, e, s, m, #[Value.ref b], below, meth, c) (Y_L nm) E (fun (_ : Unit) _ => lw_Z below #[Value.ref b] s) (102 + 13 * q) (34429 + 4296 * q) (decide (q = 0)) (zm_w q) 1208 [(3, .int i), (2, .ref (E.2.1 + 52)), (1, .ref (E.2.1 + 1)), (0, .ref b)] [] M (f_law_go i M q) f) : zm_V (p, e, s, m, #[Value.ref b], below, meth, c) (Y_L nm) E (fun (_ : Unit) _ => lw_Z below #[Value.ref b] s) (102 + 13 * q) (34429 + 4296 * q) (decide (q = 0)) (zm_w q) 889 [(3, .int i), (2, .ref (E.2.1 + 52)), (1, .ref (E.2.1 + 1)), (0, .ref b)] [] M (f_law_c25 L xs i M q) f := by
  unfold f_law_c25
  refine zm_aload_n 890 rfl dL_law_889 rfl 2 rfl ?_
  refine zm_aload_n 891 rfl dL_law_890 rfl 3 rfl ?_
  refine zm_iload_n 892 rfl dL_law_891 rfl 0 rfl ?_
  refine zm_iconst 893 rfl dL_law_892 zi_1 ?_
  refine zm_iadd 894 rfl dL_law_893 ?_
  refine zm_sld hX hbl hbE 895 rfl dL_law_894 ?_
  refine zm_aload_n 896 rfl dL_law_895 rfl 3 rfl ?_
  refine zm_iload_n 897 rfl dL_law_896 rfl 0 rfl ?_
  refine zm_iconst 898 rfl dL_law_897 zi_2 ?_
  refine zm_iadd 899 rfl dL_law_898 ?_
  refine zm_sld hX hbl hbE 900 rfl dL_law_899 ?_
  refine zm_cV2ir 903 rfl dL_law_900 ml_L_121 rfl (zm_L (sv := q) rfl) rfl (Nat.le_of_ble_eq_true rfl) ⟨Nat.le_of_ble_eq_true rfl, Nat.le_of_ble_eq_true rfl⟩ rfl rfl ⟨by show 102 + 13 * q ≤ 128088; omega, by show 34429 + 4296 * q ≤ 8717986; omega⟩ rfl (fun _ h => k_X10_owes E q (xs (i + 1).toNatClampNeg) (xs (i + 2).toNatClampNeg) M h) (fun r119 => ?_)
  refine zm_aload_n 904 rfl dL_law_903 rfl 1 rfl ?_
  refine zm_aload_n 905 rfl dL_law_904 rfl 3 rfl ?_
  refine zm_iload_n 906 rfl dL_law_905 rfl 0 rfl ?_
  refine zm_iconst 907 rfl dL_law_906 zi_1 ?_
  refine zm_iadd 908 rfl dL_law_907 ?_
  refine zm_sld hX hbl hbE 909 rfl dL_law_908 ?_
  refine zm_aload_n 910 rfl dL_law_909 rfl 3 rfl ?_
  refine zm_iload_n 911 rfl dL_law_910 rfl 0 rfl ?_
  refine zm_iconst 912 rfl dL_law_911 zi_2 ?_
  refine zm_iadd 913 rfl dL_law_912 ?_
  refine zm_sld hX hbl hbE 914 rfl dL_law_913 ?_
  refine zm_cV2ir 917 rfl dL_law_914 ml_L_124 rfl (zm_L (sv := q) rfl) rfl (Nat.le_of_ble_eq_true rfl) ⟨Nat.le_of_ble_eq_true rfl, Nat.le_of_ble_eq_true rfl⟩ rfl rfl ⟨by show 102 + 13 * q ≤ 128088; omega, by show 34429 + 4296 * q ≤ 8717986; omega⟩ rfl (fun _ h => k_X11_owes E q (xs (i + 1).toNatClampNeg) (xs (i + 2).toNatClampNeg) M h) (fun r120 => ?_)
  refine zm_icmp_eq 1208 920 (by decide) rfl dL_law_917 ?_ zm_none
  exact hgo M q
set_option maxRecDepth 20000 in
set_option maxHeartbeats 4000000 in
theorem kl_26 {p : Program} {e : Env} {s : State} {m : MethodId} {below : List Frame} {meth : Method} {c : Code} {E : zm_E} {nm : String} {b L : Nat} {xs : Nat → Int32} (hX : va_X b L xs s s.heap) (hbl : b < s.heap.size) (hbE : b ≤ E.2.1) {f : ((Int32 × zm_Mem × Nat) ⊕ zm_Mem) → Option (Unit × zm_Mem)} {i : Int32} {M : zm_Mem} {q : Nat} (hq : q < 512) (hgo : ∀ (M : zm_Mem) (q : Nat), zm_V (p, e, s, m, #[Value.ref b], below, meth, c) (Y_L nm) E (fun (_ : Unit) _ => lw_Z below #[Value.ref b] s) (102 + 13 * q) (34429 + 4296 * q) (decide (q = 0)) (zm_w q) 1208 [(3, .int i), (2, .ref (E.2.1 + 52)), (1, .ref (E.2.1 + 1)), (0, .ref b)] [] M (f_law_go i M q) f) : zm_V (p, e, s, m, #[Value.ref b], below, meth, c) (Y_L nm) E (fun (_ : Unit) _ => lw_Z below #[Value.ref b] s) (102 + 13 * q) (34429 + 4296 * q) (decide (q = 0)) (zm_w q) 922 [(3, .int i), (2, .ref (E.2.1 + 52)), (1, .ref (E.2.1 + 1)), (0, .ref b)] [] M (f_law_c26 L xs i M q) f := by
  unfold f_law_c26
  refine zm_aload_n 923 rfl dL_law_922 rfl 2 rfl ?_
  refine zm_aload_n 924 rfl dL_law_923 rfl 3 rfl ?_
  refine zm_iload_n 925 rfl dL_law_924 rfl 0 rfl ?_
  refine zm_iconst 926 rfl dL_law_925 zi_1 ?_
  refine zm_iadd 927 rfl dL_law_926 ?_
  refine zm_sld hX hbl hbE 928 rfl dL_law_927 ?_
  refine zm_if_eq 935 931 (by decide) rfl dL_law_928 ?_ ?_
  · refine zm_iconst 936 rfl dL_law_935 zi_0 ?_
    refine zm_cV1ir 939 rfl dL_law_936 ml_L_125 rfl (zm_L (sv := q) rfl) rfl (Nat.le_of_ble_eq_true rfl) ⟨Nat.le_of_ble_eq_true rfl, Nat.le_of_ble_eq_true rfl⟩ rfl rfl ⟨by show 102 + 13 * q ≤ 128088; omega, by show 34429 + 4296 * q ≤ 8717986; omega⟩ rfl (fun _ h => k_X10_richest E q 0 M h) (fun r121 => ?_)
    refine zm_aload_n 940 rfl dL_law_939 rfl 1 rfl ?_
    refine zm_aload_n 941 rfl dL_law_940 rfl 3 rfl ?_
    refine zm_iload_n 942 rfl dL_law_941 rfl 0 rfl ?_
    refine zm_iconst 943 rfl dL_law_942 zi_1 ?_
    refine zm_iadd 944 rfl dL_law_943 ?_
    refine zm_sld hX hbl hbE 945 rfl dL_law_944 ?_
    refine zm_if_eq 952 948 (by decide) rfl dL_law_945 ?_ ?_
    · refine zm_iconst 953 rfl dL_law_952 zi_0 ?_
      refine zm_cV1ir 956 rfl dL_law_953 ml_L_128 rfl (zm_L (sv := q) rfl) rfl (Nat.le_of_ble_eq_true rfl) ⟨Nat.le_of_ble_eq_true rfl, Nat.le_of_ble_eq_true rfl⟩ rfl rfl ⟨by show 102 + 13 * q ≤ 128088; omega, by show 34429 + 4296 * q ≤ 8717986; omega⟩ rfl (fun _ h => k_X11_richest E q 0 M h) (fun r122 => ?_)
      refine zm_icmp_eq 1208 959 (by decide) rfl dL_law_956 ?_ zm_none
      exact hgo M q
    · refine zm_iconst 949 rfl dL_law_948 zi_1 ?_
      refine zm_goto 953 (by decide) dL_law_949 ?_
      refine zm_cV1ir 956 rfl dL_law_953 ml_L_128 rfl (zm_L (sv := q) rfl) rfl (Nat.le_of_ble_eq_true rfl) ⟨Nat.le_of_ble_eq_true rfl, Nat.le_of_ble_eq_true rfl⟩ rfl rfl ⟨by show 102 + 13 * q ≤ 128088; omega, by show 34429 + 4296 * q ≤ 8717986; omega⟩ rfl (fun _ h => k_X11_richest E q 1 M h) (fun r123 => ?_)
      refine zm_icmp_eq 1208 959 (by decide) rfl dL_law_956 ?_ zm_none
      exact hgo M q
  · refine zm_iconst 932 rfl dL_law_931 zi_1 ?_
    refine zm_goto 936 (by decide) dL_law_932 ?_
    refine zm_cV1ir 939 rfl dL_law_936 ml_L_125 rfl (zm_L (sv := q) rfl) rfl (Nat.le_of_ble_eq_true rfl) ⟨Nat.le_of_ble_eq_true rfl, Nat.le_of_ble_eq_true rfl⟩ rfl rfl ⟨by show 102 + 13 * q ≤ 128088; omega, by show 34429 + 4296 * q ≤ 8717986; omega⟩ rfl (fun _ h => k_X10_richest E q 1 M h) (fun r124 => ?_)
    refine zm_aload_n 940 rfl dL_law_939 rfl 1 rfl ?_
    refine zm_aload_n 941 rfl dL_law_940 rfl 3 rfl ?_
    refine zm_iload_n 942 rfl dL_law_941 rfl 0 rfl ?_
    refine zm_iconst 943 rfl dL_law_942 zi_1 ?_
    refine zm_iadd 944 rfl dL_law_943 ?_
    refine zm_sld hX hbl hbE 945 rfl dL_law_944 ?_
    refine zm_if_eq 952 948 (by decide) rfl dL_law_945 ?_ ?_
    · refine zm_iconst 953 rfl dL_law_952 zi_0 ?_
      refine zm_cV1ir 956 rfl dL_law_953 ml_L_128 rfl (zm_L (sv := q) rfl) rfl (Nat.le_of_ble_eq_true rfl) ⟨Nat.le_of_ble_eq_true rfl, Nat.le_of_ble_eq_true rfl⟩ rfl rfl ⟨by show 102 + 13 * q ≤ 128088; omega, by show 34429 + 4296 * q ≤ 8717986; omega⟩ rfl (fun _ h => k_X11_richest E q 0 M h) (fun r125 => ?_)
      refine zm_icmp_eq 1208 959 (by decide) rfl dL_law_956 ?_ zm_none
      exact hgo M q
    · refine zm_iconst 949 rfl dL_law_948 zi_1 ?_
      refine zm_goto 953 (by decide) dL_law_949 ?_
      refine zm_cV1ir 956 rfl dL_law_953 ml_L_128 rfl (zm_L (sv := q) rfl) rfl (Nat.le_of_ble_eq_true rfl) ⟨Nat.le_of_ble_eq_true rfl, Nat.le_of_ble_eq_true rfl⟩ rfl rfl ⟨by show 102 + 13 * q ≤ 128088; omega, by show 34429 + 4296 * q ≤ 8717986; omega⟩ rfl (fun _ h => k_X11_richest E q 1 M h) (fun r126 => ?_)
      refine zm_icmp_eq 1208 959 (by decide) rfl dL_law_956 ?_ zm_none
      exact hgo M q
set_option maxRecDepth 20000 in
set_option maxHeartbeats 4000000 in
theorem kl_27 {p : Program} {e : Env} {s : State} {m : MethodId} {below : List Frame} {meth : Method} {c : Code} {E : zm_E} {nm : String} {b L : Nat} {xs : Nat → Int32} (hX : va_X b L xs s s.heap) (hbl : b < s.heap.size) (hbE : b ≤ E.2.1) {f : ((Int32 × zm_Mem × Nat) ⊕ zm_Mem) → Option (Unit × zm_Mem)} {i : Int32} {M : zm_Mem} {q : Nat} (hq : q < 512) (hgo : ∀ (M : zm_Mem) (q : Nat), zm_V (p, e, s, m, #[Value.ref b], below, meth, c) (Y_L nm) E (fun (_ : Unit) _ => lw_Z below #[Value.ref b] s) (102 + 13 * q) (34429 + 4296 * q) (decide (q = 0)) (zm_w q) 1208 [(3, .int i), (2, .ref (E.2.1 + 52)), (1, .ref (E.2.1 + 1)), (0, .ref b)] [] M (f_law_go i M q) f) : zm_V (p, e, s, m, #[Value.ref b], below, meth, c) (Y_L nm) E (fun (_ : Unit) _ => lw_Z below #[Value.ref b] s) (102 + 13 * q) (34429 + 4296 * q) (decide (q = 0)) (zm_w q) 961 [(3, .int i), (2, .ref (E.2.1 + 52)), (1, .ref (E.2.1 + 1)), (0, .ref b)] [] M (f_law_c27 L xs i M q) f := by
  unfold f_law_c27
  refine zm_aload_n 962 rfl dL_law_961 rfl 2 rfl ?_
  refine zm_aload_n 963 rfl dL_law_962 rfl 3 rfl ?_
  refine zm_iload_n 964 rfl dL_law_963 rfl 0 rfl ?_
  refine zm_iconst 965 rfl dL_law_964 zi_1 ?_
  refine zm_iadd 966 rfl dL_law_965 ?_
  refine zm_sld hX hbl hbE 967 rfl dL_law_966 ?_
  refine zm_aload_n 968 rfl dL_law_967 rfl 3 rfl ?_
  refine zm_iload_n 969 rfl dL_law_968 rfl 0 rfl ?_
  refine zm_iconst 970 rfl dL_law_969 zi_2 ?_
  refine zm_iadd 971 rfl dL_law_970 ?_
  refine zm_sld hX hbl hbE 972 rfl dL_law_971 ?_
  refine zm_cV2ir 975 rfl dL_law_972 ml_L_129 rfl (zm_L (sv := q) rfl) rfl (Nat.le_of_ble_eq_true rfl) ⟨Nat.le_of_ble_eq_true rfl, Nat.le_of_ble_eq_true rfl⟩ rfl rfl ⟨by show 102 + 13 * q ≤ 128088; omega, by show 34429 + 4296 * q ≤ 8717986; omega⟩ rfl (fun _ h => k_X10_lent E q (xs (i + 1).toNatClampNeg) (xs (i + 2).toNatClampNeg) M h) (fun r127 => ?_)
  refine zm_aload_n 976 rfl dL_law_975 rfl 1 rfl ?_
  refine zm_aload_n 977 rfl dL_law_976 rfl 3 rfl ?_
  refine zm_iload_n 978 rfl dL_law_977 rfl 0 rfl ?_
  refine zm_iconst 979 rfl dL_law_978 zi_1 ?_
  refine zm_iadd 980 rfl dL_law_979 ?_
  refine zm_sld hX hbl hbE 981 rfl dL_law_980 ?_
  refine zm_aload_n 982 rfl dL_law_981 rfl 3 rfl ?_
  refine zm_iload_n 983 rfl dL_law_982 rfl 0 rfl ?_
  refine zm_iconst 984 rfl dL_law_983 zi_2 ?_
  refine zm_iadd 985 rfl dL_law_984 ?_
  refine zm_sld hX hbl hbE 986 rfl dL_law_985 ?_
  refine zm_cV2ir 989 rfl dL_law_986 ml_L_132 rfl (zm_L (sv := q) rfl) rfl (Nat.le_of_ble_eq_true rfl) ⟨Nat.le_of_ble_eq_true rfl, Nat.le_of_ble_eq_true rfl⟩ rfl rfl ⟨by show 102 + 13 * q ≤ 128088; omega, by show 34429 + 4296 * q ≤ 8717986; omega⟩ rfl (fun _ h => k_X11_lent E q (xs (i + 1).toNatClampNeg) (xs (i + 2).toNatClampNeg) M h) (fun r128 => ?_)
  refine zm_icmp_eq 1208 992 (by decide) rfl dL_law_989 ?_ zm_none
  exact hgo M q
set_option maxRecDepth 20000 in
set_option maxHeartbeats 4000000 in
theorem kl_28 {p : Program} {e : Env} {s : State} {m : MethodId} {below : List Frame} {meth : Method} {c : Code} {E : zm_E} {nm : String} {b L : Nat} {xs : Nat → Int32} (hX : va_X b L xs s s.heap) (hbl : b < s.heap.size) (hbE : b ≤ E.2.1) {f : ((Int32 × zm_Mem × Nat) ⊕ zm_Mem) → Option (Unit × zm_Mem)} {i : Int32} {M : zm_Mem} {q : Nat} (hq : q < 512) (hgo : ∀ (M : zm_Mem) (q : Nat), zm_V (p, e, s, m, #[Value.ref b], below, meth, c) (Y_L nm) E (fun (_ : Unit) _ => lw_Z below #[Value.ref b] s) (102 + 13 * q) (34429 + 4296 * q) (decide (q = 0)) (zm_w q) 1208 [(3, .int i), (2, .ref (E.2.1 + 52)), (1, .ref (E.2.1 + 1)), (0, .ref b)] [] M (f_law_go i M q) f) : zm_V (p, e, s, m, #[Value.ref b], below, meth, c) (Y_L nm) E (fun (_ : Unit) _ => lw_Z below #[Value.ref b] s) (102 + 13 * q) (34429 + 4296 * q) (decide (q = 0)) (zm_w q) 994 [(3, .int i), (2, .ref (E.2.1 + 52)), (1, .ref (E.2.1 + 1)), (0, .ref b)] [] M (f_law_c28 L xs i M q) f := by
  unfold f_law_c28
  refine zm_aload_n 995 rfl dL_law_994 rfl 2 rfl ?_
  refine zm_aload_n 996 rfl dL_law_995 rfl 3 rfl ?_
  refine zm_iload_n 997 rfl dL_law_996 rfl 0 rfl ?_
  refine zm_iconst 998 rfl dL_law_997 zi_1 ?_
  refine zm_iadd 999 rfl dL_law_998 ?_
  refine zm_sld hX hbl hbE 1000 rfl dL_law_999 ?_
  refine zm_aload_n 1001 rfl dL_law_1000 rfl 3 rfl ?_
  refine zm_iload_n 1002 rfl dL_law_1001 rfl 0 rfl ?_
  refine zm_iconst 1003 rfl dL_law_1002 zi_2 ?_
  refine zm_iadd 1004 rfl dL_law_1003 ?_
  refine zm_sld hX hbl hbE 1005 rfl dL_law_1004 ?_
  refine zm_aload_n 1006 rfl dL_law_1005 rfl 3 rfl ?_
  refine zm_iload_n 1007 rfl dL_law_1006 rfl 0 rfl ?_
  refine zm_iconst 1008 rfl dL_law_1007 zi_3 ?_
  refine zm_iadd 1009 rfl dL_law_1008 ?_
  refine zm_sld hX hbl hbE 1010 rfl dL_law_1009 ?_
  refine zm_cV3i 1013 rfl dL_law_1010 ml_L_133 rfl (zm_L (sv := q) rfl) rfl (Nat.le_of_ble_eq_true rfl) ⟨Nat.le_of_ble_eq_true rfl, Nat.le_of_ble_eq_true rfl⟩ rfl rfl ⟨by show 102 + 13 * q ≤ 128088; omega, by show 34429 + 4296 * q ≤ 8717986; omega⟩ rfl (fun _ _ h => k_X10_list E q (xs (i + 1).toNatClampNeg) (xs (i + 2).toNatClampNeg) (xs (i + 3).toNatClampNeg) M h) (fun r129 M130 => ?_)
  refine zm_aload_n 1014 rfl dL_law_1013 rfl 1 rfl ?_
  refine zm_aload_n 1015 rfl dL_law_1014 rfl 3 rfl ?_
  refine zm_iload_n 1016 rfl dL_law_1015 rfl 0 rfl ?_
  refine zm_iconst 1017 rfl dL_law_1016 zi_1 ?_
  refine zm_iadd 1018 rfl dL_law_1017 ?_
  refine zm_sld hX hbl hbE 1019 rfl dL_law_1018 ?_
  refine zm_aload_n 1020 rfl dL_law_1019 rfl 3 rfl ?_
  refine zm_iload_n 1021 rfl dL_law_1020 rfl 0 rfl ?_
  refine zm_iconst 1022 rfl dL_law_1021 zi_2 ?_
  refine zm_iadd 1023 rfl dL_law_1022 ?_
  refine zm_sld hX hbl hbE 1024 rfl dL_law_1023 ?_
  refine zm_aload_n 1025 rfl dL_law_1024 rfl 3 rfl ?_
  refine zm_iload_n 1026 rfl dL_law_1025 rfl 0 rfl ?_
  refine zm_iconst 1027 rfl dL_law_1026 zi_3 ?_
  refine zm_iadd 1028 rfl dL_law_1027 ?_
  refine zm_sld hX hbl hbE 1029 rfl dL_law_1028 ?_
  refine zm_cV3i 1032 rfl dL_law_1029 ml_L_137 rfl (zm_L (sv := q) rfl) rfl (Nat.le_of_ble_eq_true rfl) ⟨Nat.le_of_ble_eq_true rfl, Nat.le_of_ble_eq_true rfl⟩ rfl rfl ⟨by show 102 + 13 * q ≤ 128088; omega, by show 34429 + 4296 * q ≤ 8717986; omega⟩ rfl (fun _ _ h => k_X11_list E q (xs (i + 1).toNatClampNeg) (xs (i + 2).toNatClampNeg) (xs (i + 3).toNatClampNeg) M130 h) (fun r131 M132 => ?_)
  refine zm_icmp_eq 1208 1035 (by decide) rfl dL_law_1032 ?_ zm_none
  exact hgo M132 q
set_option maxRecDepth 20000 in
set_option maxHeartbeats 4000000 in
theorem kl_29 {p : Program} {e : Env} {s : State} {m : MethodId} {below : List Frame} {meth : Method} {c : Code} {E : zm_E} {nm : String} {b L : Nat} {xs : Nat → Int32} (hX : va_X b L xs s s.heap) (hbl : b < s.heap.size) (hbE : b ≤ E.2.1) {f : ((Int32 × zm_Mem × Nat) ⊕ zm_Mem) → Option (Unit × zm_Mem)} {i : Int32} {M : zm_Mem} {q : Nat} (hq : q < 512) (hgo : ∀ (M : zm_Mem) (q : Nat), zm_V (p, e, s, m, #[Value.ref b], below, meth, c) (Y_L nm) E (fun (_ : Unit) _ => lw_Z below #[Value.ref b] s) (102 + 13 * q) (34429 + 4296 * q) (decide (q = 0)) (zm_w q) 1208 [(3, .int i), (2, .ref (E.2.1 + 52)), (1, .ref (E.2.1 + 1)), (0, .ref b)] [] M (f_law_go i M q) f) : zm_V (p, e, s, m, #[Value.ref b], below, meth, c) (Y_L nm) E (fun (_ : Unit) _ => lw_Z below #[Value.ref b] s) (102 + 13 * q) (34429 + 4296 * q) (decide (q = 0)) (zm_w q) 1037 [(3, .int i), (2, .ref (E.2.1 + 52)), (1, .ref (E.2.1 + 1)), (0, .ref b)] [] M (f_law_c29 L xs i M q) f := by
  unfold f_law_c29
  refine zm_aload_n 1038 rfl dL_law_1037 rfl 2 rfl ?_
  refine zm_cV0i 1041 rfl dL_law_1038 ml_L_138 rfl (zm_L (sv := q) rfl) rfl (Nat.le_of_ble_eq_true rfl) ⟨Nat.le_of_ble_eq_true rfl, Nat.le_of_ble_eq_true rfl⟩ rfl rfl ⟨by show 102 + 13 * q ≤ 128088; omega, by show 34429 + 4296 * q ≤ 8717986; omega⟩ rfl (fun _ _ h => k_X10_forget E q M h) (fun r133 M134 => ?_)
  refine zm_aload_n 1042 rfl dL_law_1041 rfl 1 rfl ?_
  refine zm_cV0i 1045 rfl dL_law_1042 ml_L_141 rfl (zm_L (sv := q) rfl) rfl (Nat.le_of_ble_eq_true rfl) ⟨Nat.le_of_ble_eq_true rfl, Nat.le_of_ble_eq_true rfl⟩ rfl rfl ⟨by show 102 + 13 * q ≤ 128088; omega, by show 34429 + 4296 * q ≤ 8717986; omega⟩ rfl (fun _ _ h => k_X11_forget E q M134 h) (fun r135 M136 => ?_)
  refine zm_icmp_eq 1208 1048 (by decide) rfl dL_law_1045 ?_ zm_none
  exact hgo M136 q
set_option maxRecDepth 20000 in
set_option maxHeartbeats 4000000 in
theorem kl_30 {p : Program} {e : Env} {s : State} {m : MethodId} {below : List Frame} {meth : Method} {c : Code} {E : zm_E} {nm : String} {b L : Nat} {xs : Nat → Int32} (hX : va_X b L xs s s.heap) (hbl : b < s.heap.size) (hbE : b ≤ E.2.1) {f : ((Int32 × zm_Mem × Nat) ⊕ zm_Mem) → Option (Unit × zm_Mem)} {i : Int32} {M : zm_Mem} {q : Nat} (hq : q < 512) (hgo : ∀ (M : zm_Mem) (q : Nat), zm_V (p, e, s, m, #[Value.ref b], below, meth, c) (Y_L nm) E (fun (_ : Unit) _ => lw_Z below #[Value.ref b] s) (102 + 13 * q) (34429 + 4296 * q) (decide (q = 0)) (zm_w q) 1208 [(3, .int i), (2, .ref (E.2.1 + 52)), (1, .ref (E.2.1 + 1)), (0, .ref b)] [] M (f_law_go i M q) f) : zm_V (p, e, s, m, #[Value.ref b], below, meth, c) (Y_L nm) E (fun (_ : Unit) _ => lw_Z below #[Value.ref b] s) (102 + 13 * q) (34429 + 4296 * q) (decide (q = 0)) (zm_w q) 1050 [(3, .int i), (2, .ref (E.2.1 + 52)), (1, .ref (E.2.1 + 1)), (0, .ref b)] [] M (f_law_c30 L xs i M q) f := by
  unfold f_law_c30
  refine zm_aload_n 1051 rfl dL_law_1050 rfl 2 rfl ?_
  refine zm_aload_n 1052 rfl dL_law_1051 rfl 3 rfl ?_
  refine zm_iload_n 1053 rfl dL_law_1052 rfl 0 rfl ?_
  refine zm_iconst 1054 rfl dL_law_1053 zi_1 ?_
  refine zm_iadd 1055 rfl dL_law_1054 ?_
  refine zm_sld hX hbl hbE 1056 rfl dL_law_1055 ?_
  refine zm_aload_n 1057 rfl dL_law_1056 rfl 3 rfl ?_
  refine zm_iload_n 1058 rfl dL_law_1057 rfl 0 rfl ?_
  refine zm_iconst 1059 rfl dL_law_1058 zi_2 ?_
  refine zm_iadd 1060 rfl dL_law_1059 ?_
  refine zm_sld hX hbl hbE 1061 rfl dL_law_1060 ?_
  refine zm_cV2i 1064 rfl dL_law_1061 ml_L_142 rfl (zm_L (sv := q) rfl) rfl (Nat.le_of_ble_eq_true rfl) ⟨Nat.le_of_ble_eq_true rfl, Nat.le_of_ble_eq_true rfl⟩ rfl rfl ⟨by show 102 + 13 * q ≤ 128088; omega, by show 34429 + 4296 * q ≤ 8717986; omega⟩ rfl (fun _ _ h => k_X10_fits E q (xs (i + 1).toNatClampNeg) (xs (i + 2).toNatClampNeg) M h) (fun r137 M138 => ?_)
  refine zm_aload_n 1065 rfl dL_law_1064 rfl 1 rfl ?_
  refine zm_aload_n 1066 rfl dL_law_1065 rfl 3 rfl ?_
  refine zm_iload_n 1067 rfl dL_law_1066 rfl 0 rfl ?_
  refine zm_iconst 1068 rfl dL_law_1067 zi_1 ?_
  refine zm_iadd 1069 rfl dL_law_1068 ?_
  refine zm_sld hX hbl hbE 1070 rfl dL_law_1069 ?_
  refine zm_aload_n 1071 rfl dL_law_1070 rfl 3 rfl ?_
  refine zm_iload_n 1072 rfl dL_law_1071 rfl 0 rfl ?_
  refine zm_iconst 1073 rfl dL_law_1072 zi_2 ?_
  refine zm_iadd 1074 rfl dL_law_1073 ?_
  refine zm_sld hX hbl hbE 1075 rfl dL_law_1074 ?_
  refine zm_cV2ir 1078 rfl dL_law_1075 ml_L_145 rfl (zm_L (sv := q) rfl) rfl (Nat.le_of_ble_eq_true rfl) ⟨Nat.le_of_ble_eq_true rfl, Nat.le_of_ble_eq_true rfl⟩ rfl rfl ⟨by show 102 + 13 * q ≤ 128088; omega, by show 34429 + 4296 * q ≤ 8717986; omega⟩ rfl (fun _ h => k_X11_fits E q (xs (i + 1).toNatClampNeg) (xs (i + 2).toNatClampNeg) M138 h) (fun r139 => ?_)
  refine zm_icmp_eq 1208 1081 (by decide) rfl dL_law_1078 ?_ zm_none
  exact hgo M138 q
set_option maxRecDepth 20000 in
set_option maxHeartbeats 4000000 in
theorem kl_31 {p : Program} {e : Env} {s : State} {m : MethodId} {below : List Frame} {meth : Method} {c : Code} {E : zm_E} {nm : String} {b L : Nat} {xs : Nat → Int32} (hX : va_X b L xs s s.heap) (hbl : b < s.heap.size) (hbE : b ≤ E.2.1) {f : ((Int32 × zm_Mem × Nat) ⊕ zm_Mem) → Option (Unit × zm_Mem)} {i : Int32} {M : zm_Mem} {q : Nat} (hq : q < 512) (hgo : ∀ (M : zm_Mem) (q : Nat), zm_V (p, e, s, m, #[Value.ref b], below, meth, c) (Y_L nm) E (fun (_ : Unit) _ => lw_Z below #[Value.ref b] s) (102 + 13 * q) (34429 + 4296 * q) (decide (q = 0)) (zm_w q) 1208 [(3, .int i), (2, .ref (E.2.1 + 52)), (1, .ref (E.2.1 + 1)), (0, .ref b)] [] M (f_law_go i M q) f) : zm_V (p, e, s, m, #[Value.ref b], below, meth, c) (Y_L nm) E (fun (_ : Unit) _ => lw_Z below #[Value.ref b] s) (102 + 13 * q) (34429 + 4296 * q) (decide (q = 0)) (zm_w q) 1083 [(3, .int i), (2, .ref (E.2.1 + 52)), (1, .ref (E.2.1 + 1)), (0, .ref b)] [] M (f_law_c31 L xs i M q) f := by
  unfold f_law_c31
  refine zm_aload_n 1084 rfl dL_law_1083 rfl 2 rfl ?_
  refine zm_aload_n 1085 rfl dL_law_1084 rfl 3 rfl ?_
  refine zm_iload_n 1086 rfl dL_law_1085 rfl 0 rfl ?_
  refine zm_iconst 1087 rfl dL_law_1086 zi_1 ?_
  refine zm_iadd 1088 rfl dL_law_1087 ?_
  refine zm_sld hX hbl hbE 1089 rfl dL_law_1088 ?_
  refine zm_cV1i 1092 rfl dL_law_1089 ml_L_146 rfl (zm_L (sv := q) rfl) rfl (Nat.le_of_ble_eq_true rfl) ⟨Nat.le_of_ble_eq_true rfl, Nat.le_of_ble_eq_true rfl⟩ rfl rfl ⟨by show 102 + 13 * q ≤ 128088; omega, by show 34429 + 4296 * q ≤ 8717986; omega⟩ rfl (fun _ _ h => k_X10_least E q (xs (i + 1).toNatClampNeg) M h) (fun r140 M141 => ?_)
  refine zm_aload_n 1093 rfl dL_law_1092 rfl 1 rfl ?_
  refine zm_aload_n 1094 rfl dL_law_1093 rfl 3 rfl ?_
  refine zm_iload_n 1095 rfl dL_law_1094 rfl 0 rfl ?_
  refine zm_iconst 1096 rfl dL_law_1095 zi_1 ?_
  refine zm_iadd 1097 rfl dL_law_1096 ?_
  refine zm_sld hX hbl hbE 1098 rfl dL_law_1097 ?_
  refine zm_cV1ir 1101 rfl dL_law_1098 ml_L_149 rfl (zm_L (sv := q) rfl) rfl (Nat.le_of_ble_eq_true rfl) ⟨Nat.le_of_ble_eq_true rfl, Nat.le_of_ble_eq_true rfl⟩ rfl rfl ⟨by show 102 + 13 * q ≤ 128088; omega, by show 34429 + 4296 * q ≤ 8717986; omega⟩ rfl (fun _ h => k_X11_least E q (xs (i + 1).toNatClampNeg) M141 h) (fun r142 => ?_)
  refine zm_icmp_eq 1208 1104 (by decide) rfl dL_law_1101 ?_ zm_none
  exact hgo M141 q
set_option maxRecDepth 20000 in
set_option maxHeartbeats 4000000 in
theorem kl_32 {p : Program} {e : Env} {s : State} {m : MethodId} {below : List Frame} {meth : Method} {c : Code} {E : zm_E} {nm : String} {b L : Nat} {xs : Nat → Int32} (hX : va_X b L xs s s.heap) (hbl : b < s.heap.size) (hbE : b ≤ E.2.1) {f : ((Int32 × zm_Mem × Nat) ⊕ zm_Mem) → Option (Unit × zm_Mem)} {i : Int32} {M : zm_Mem} {q : Nat} (hq : q < 512) (hgo : ∀ (M : zm_Mem) (q : Nat), zm_V (p, e, s, m, #[Value.ref b], below, meth, c) (Y_L nm) E (fun (_ : Unit) _ => lw_Z below #[Value.ref b] s) (102 + 13 * q) (34429 + 4296 * q) (decide (q = 0)) (zm_w q) 1208 [(3, .int i), (2, .ref (E.2.1 + 52)), (1, .ref (E.2.1 + 1)), (0, .ref b)] [] M (f_law_go i M q) f) : zm_V (p, e, s, m, #[Value.ref b], below, meth, c) (Y_L nm) E (fun (_ : Unit) _ => lw_Z below #[Value.ref b] s) (102 + 13 * q) (34429 + 4296 * q) (decide (q = 0)) (zm_w q) 1106 [(3, .int i), (2, .ref (E.2.1 + 52)), (1, .ref (E.2.1 + 1)), (0, .ref b)] [] M (f_law_c32 L xs i M q) f := by
  unfold f_law_c32
  refine zm_aload_n 1107 rfl dL_law_1106 rfl 2 rfl ?_
  refine zm_aload_n 1108 rfl dL_law_1107 rfl 3 rfl ?_
  refine zm_iload_n 1109 rfl dL_law_1108 rfl 0 rfl ?_
  refine zm_iconst 1110 rfl dL_law_1109 zi_1 ?_
  refine zm_iadd 1111 rfl dL_law_1110 ?_
  refine zm_sld hX hbl hbE 1112 rfl dL_law_1111 ?_
  refine zm_aload_n 1113 rfl dL_law_1112 rfl 3 rfl ?_
  refine zm_iload_n 1114 rfl dL_law_1113 rfl 0 rfl ?_
  refine zm_iconst 1115 rfl dL_law_1114 zi_2 ?_
  refine zm_iadd 1116 rfl dL_law_1115 ?_
  refine zm_sld hX hbl hbE 1117 rfl dL_law_1116 ?_
  refine zm_cV2i 1120 rfl dL_law_1117 ml_L_150 rfl (zm_L (sv := q) rfl) rfl (Nat.le_of_ble_eq_true rfl) ⟨Nat.le_of_ble_eq_true rfl, Nat.le_of_ble_eq_true rfl⟩ rfl rfl ⟨by show 102 + 13 * q ≤ 128088; omega, by show 34429 + 4296 * q ≤ 8717986; omega⟩ rfl (fun _ _ h => k_X10_sure E q (xs (i + 1).toNatClampNeg) (xs (i + 2).toNatClampNeg) M h) (fun r143 M144 => ?_)
  refine zm_aload_n 1121 rfl dL_law_1120 rfl 1 rfl ?_
  refine zm_aload_n 1122 rfl dL_law_1121 rfl 3 rfl ?_
  refine zm_iload_n 1123 rfl dL_law_1122 rfl 0 rfl ?_
  refine zm_iconst 1124 rfl dL_law_1123 zi_1 ?_
  refine zm_iadd 1125 rfl dL_law_1124 ?_
  refine zm_sld hX hbl hbE 1126 rfl dL_law_1125 ?_
  refine zm_aload_n 1127 rfl dL_law_1126 rfl 3 rfl ?_
  refine zm_iload_n 1128 rfl dL_law_1127 rfl 0 rfl ?_
  refine zm_iconst 1129 rfl dL_law_1128 zi_2 ?_
  refine zm_iadd 1130 rfl dL_law_1129 ?_
  refine zm_sld hX hbl hbE 1131 rfl dL_law_1130 ?_
  refine zm_cV2ir 1134 rfl dL_law_1131 ml_L_153 rfl (zm_L (sv := q) rfl) rfl (Nat.le_of_ble_eq_true rfl) ⟨Nat.le_of_ble_eq_true rfl, Nat.le_of_ble_eq_true rfl⟩ rfl rfl ⟨by show 102 + 13 * q ≤ 128088; omega, by show 34429 + 4296 * q ≤ 8717986; omega⟩ rfl (fun _ h => k_X11_sure E q (xs (i + 1).toNatClampNeg) (xs (i + 2).toNatClampNeg) M144 h) (fun r145 => ?_)
  refine zm_icmp_eq 1208 1137 (by decide) rfl dL_law_1134 ?_ zm_none
  exact hgo M144 q
set_option maxRecDepth 20000 in
set_option maxHeartbeats 4000000 in
theorem kl_33 {p : Program} {e : Env} {s : State} {m : MethodId} {below : List Frame} {meth : Method} {c : Code} {E : zm_E} {nm : String} {b L : Nat} {xs : Nat → Int32} (hX : va_X b L xs s s.heap) (hbl : b < s.heap.size) (hbE : b ≤ E.2.1) {f : ((Int32 × zm_Mem × Nat) ⊕ zm_Mem) → Option (Unit × zm_Mem)} {i : Int32} {M : zm_Mem} {q : Nat} (hq : q < 512) (hgo : ∀ (M : zm_Mem) (q : Nat), zm_V (p, e, s, m, #[Value.ref b], below, meth, c) (Y_L nm) E (fun (_ : Unit) _ => lw_Z below #[Value.ref b] s) (102 + 13 * q) (34429 + 4296 * q) (decide (q = 0)) (zm_w q) 1208 [(3, .int i), (2, .ref (E.2.1 + 52)), (1, .ref (E.2.1 + 1)), (0, .ref b)] [] M (f_law_go i M q) f) : zm_V (p, e, s, m, #[Value.ref b], below, meth, c) (Y_L nm) E (fun (_ : Unit) _ => lw_Z below #[Value.ref b] s) (102 + 13 * q) (34429 + 4296 * q) (decide (q = 0)) (zm_w q) 1139 [(3, .int i), (2, .ref (E.2.1 + 52)), (1, .ref (E.2.1 + 1)), (0, .ref b)] [] M (f_law_c33 L xs i M q) f := by
  unfold f_law_c33
  refine zm_aload_n 1140 rfl dL_law_1139 rfl 2 rfl ?_
  refine zm_aload_n 1141 rfl dL_law_1140 rfl 3 rfl ?_
  refine zm_iload_n 1142 rfl dL_law_1141 rfl 0 rfl ?_
  refine zm_iconst 1143 rfl dL_law_1142 zi_1 ?_
  refine zm_iadd 1144 rfl dL_law_1143 ?_
  refine zm_sld hX hbl hbE 1145 rfl dL_law_1144 ?_
  refine zm_cV1i 1148 rfl dL_law_1145 ml_L_154 rfl (zm_L (sv := q) rfl) rfl (Nat.le_of_ble_eq_true rfl) ⟨Nat.le_of_ble_eq_true rfl, Nat.le_of_ble_eq_true rfl⟩ rfl rfl ⟨by show 102 + 13 * q ≤ 128088; omega, by show 34429 + 4296 * q ≤ 8717986; omega⟩ rfl (fun _ _ h => k_X10_hold E q (xs (i + 1).toNatClampNeg) M h) (fun r146 M147 => ?_)
  refine zm_aload_n 1149 rfl dL_law_1148 rfl 1 rfl ?_
  refine zm_aload_n 1150 rfl dL_law_1149 rfl 3 rfl ?_
  refine zm_iload_n 1151 rfl dL_law_1150 rfl 0 rfl ?_
  refine zm_iconst 1152 rfl dL_law_1151 zi_1 ?_
  refine zm_iadd 1153 rfl dL_law_1152 ?_
  refine zm_sld hX hbl hbE 1154 rfl dL_law_1153 ?_
  refine zm_cV1i 1157 rfl dL_law_1154 ml_L_158 rfl (zm_L (sv := q) rfl) rfl (Nat.le_of_ble_eq_true rfl) ⟨Nat.le_of_ble_eq_true rfl, Nat.le_of_ble_eq_true rfl⟩ rfl rfl ⟨by show 102 + 13 * q ≤ 128088; omega, by show 34429 + 4296 * q ≤ 8717986; omega⟩ rfl (fun _ _ h => k_X11_hold E q (xs (i + 1).toNatClampNeg) M147 h) (fun r148 M149 => ?_)
  refine zm_icmp_eq 1208 1160 (by decide) rfl dL_law_1157 ?_ zm_none
  exact hgo M149 q
set_option maxRecDepth 20000 in
set_option maxHeartbeats 4000000 in
theorem kl_34 {p : Program} {e : Env} {s : State} {m : MethodId} {below : List Frame} {meth : Method} {c : Code} {E : zm_E} {nm : String} {b L : Nat} {xs : Nat → Int32} (hX : va_X b L xs s s.heap) (hbl : b < s.heap.size) (hbE : b ≤ E.2.1) {f : ((Int32 × zm_Mem × Nat) ⊕ zm_Mem) → Option (Unit × zm_Mem)} {i : Int32} {M : zm_Mem} {q : Nat} (hq : q < 512) (hgo : ∀ (M : zm_Mem) (q : Nat), zm_V (p, e, s, m, #[Value.ref b], below, meth, c) (Y_L nm) E (fun (_ : Unit) _ => lw_Z below #[Value.ref b] s) (102 + 13 * q) (34429 + 4296 * q) (decide (q = 0)) (zm_w q) 1208 [(3, .int i), (2, .ref (E.2.1 + 52)), (1, .ref (E.2.1 + 1)), (0, .ref b)] [] M (f_law_go i M q) f) : zm_V (p, e, s, m, #[Value.ref b], below, meth, c) (Y_L nm) E (fun (_ : Unit) _ => lw_Z below #[Value.ref b] s) (102 + 13 * q) (34429 + 4296 * q) (decide (q = 0)) (zm_w q) 1162 [(3, .int i), (2, .ref (E.2.1 + 52)), (1, .ref (E.2.1 + 1)), (0, .ref b)] [] M (f_law_c34 L xs i M q) f := by
  unfold f_law_c34
  refine zm_aload_n 1163 rfl dL_law_1162 rfl 2 rfl ?_
  refine zm_aload_n 1164 rfl dL_law_1163 rfl 3 rfl ?_
  refine zm_iload_n 1165 rfl dL_law_1164 rfl 0 rfl ?_
  refine zm_iconst 1166 rfl dL_law_1165 zi_1 ?_
  refine zm_iadd 1167 rfl dL_law_1166 ?_
  refine zm_sld hX hbl hbE 1168 rfl dL_law_1167 ?_
  refine zm_cV1i 1171 rfl dL_law_1168 ml_L_159 rfl (zm_L (sv := q) rfl) rfl (Nat.le_of_ble_eq_true rfl) ⟨Nat.le_of_ble_eq_true rfl, Nat.le_of_ble_eq_true rfl⟩ rfl rfl ⟨by show 102 + 13 * q ≤ 128088; omega, by show 34429 + 4296 * q ≤ 8717986; omega⟩ rfl (fun _ _ h => k_X10_restore E q (xs (i + 1).toNatClampNeg) M h) (fun r150 M151 => ?_)
  refine zm_aload_n 1172 rfl dL_law_1171 rfl 1 rfl ?_
  refine zm_aload_n 1173 rfl dL_law_1172 rfl 3 rfl ?_
  refine zm_iload_n 1174 rfl dL_law_1173 rfl 0 rfl ?_
  refine zm_iconst 1175 rfl dL_law_1174 zi_1 ?_
  refine zm_iadd 1176 rfl dL_law_1175 ?_
  refine zm_sld hX hbl hbE 1177 rfl dL_law_1176 ?_
  refine zm_cV1i 1180 rfl dL_law_1177 ml_L_162 rfl (zm_L (sv := q) rfl) rfl (Nat.le_of_ble_eq_true rfl) ⟨Nat.le_of_ble_eq_true rfl, Nat.le_of_ble_eq_true rfl⟩ rfl rfl ⟨by show 102 + 13 * q ≤ 128088; omega, by show 34429 + 4296 * q ≤ 8717986; omega⟩ rfl (fun _ _ h => k_X11_restore E q (xs (i + 1).toNatClampNeg) M151 h) (fun r152 M153 => ?_)
  refine zm_icmp_eq 1208 1183 (by decide) rfl dL_law_1180 ?_ zm_none
  exact hgo M153 q
set_option maxRecDepth 20000 in
set_option maxHeartbeats 4000000 in
theorem kl_35 {p : Program} {e : Env} {s : State} {m : MethodId} {below : List Frame} {meth : Method} {c : Code} {E : zm_E} {nm : String} {b L : Nat} {xs : Nat → Int32} (hX : va_X b L xs s s.heap) (hbl : b < s.heap.size) (hbE : b ≤ E.2.1) {f : ((Int32 × zm_Mem × Nat) ⊕ zm_Mem) → Option (Unit × zm_Mem)} {i : Int32} {M : zm_Mem} {q : Nat} (hq : q < 512) (hgo : ∀ (M : zm_Mem) (q : Nat), zm_V (p, e, s, m, #[Value.ref b], below, meth, c) (Y_L nm) E (fun (_ : Unit) _ => lw_Z below #[Value.ref b] s) (102 + 13 * q) (34429 + 4296 * q) (decide (q = 0)) (zm_w q) 1208 [(3, .int i), (2, .ref (E.2.1 + 52)), (1, .ref (E.2.1 + 1)), (0, .ref b)] [] M (f_law_go i M q) f) : zm_V (p, e, s, m, #[Value.ref b], below, meth, c) (Y_L nm) E (fun (_ : Unit) _ => lw_Z below #[Value.ref b] s) (102 + 13 * q) (34429 + 4296 * q) (decide (q = 0)) (zm_w q) 1185 [(3, .int i), (2, .ref (E.2.1 + 52)), (1, .ref (E.2.1 + 1)), (0, .ref b)] [] M (f_law_c35 L xs i M q) f := by
  unfold f_law_c35
  refine zm_aload_n 1186 rfl dL_law_1185 rfl 2 rfl ?_
  refine zm_aload_n 1187 rfl dL_law_1186 rfl 3 rfl ?_
  refine zm_iload_n 1188 rfl dL_law_1187 rfl 0 rfl ?_
  refine zm_iconst 1189 rfl dL_law_1188 zi_1 ?_
  refine zm_iadd 1190 rfl dL_law_1189 ?_
  refine zm_sld hX hbl hbE 1191 rfl dL_law_1190 ?_
  refine zm_cV1ir 1194 rfl dL_law_1191 ml_L_163 rfl (zm_L (sv := q) rfl) rfl (Nat.le_of_ble_eq_true rfl) ⟨Nat.le_of_ble_eq_true rfl, Nat.le_of_ble_eq_true rfl⟩ rfl rfl ⟨by show 102 + 13 * q ≤ 128088; omega, by show 34429 + 4296 * q ≤ 8717986; omega⟩ rfl (fun _ h => k_X10_count E q (xs (i + 1).toNatClampNeg) M h) (fun r154 => ?_)
  refine zm_aload_n 1195 rfl dL_law_1194 rfl 1 rfl ?_
  refine zm_aload_n 1196 rfl dL_law_1195 rfl 3 rfl ?_
  refine zm_iload_n 1197 rfl dL_law_1196 rfl 0 rfl ?_
  refine zm_iconst 1198 rfl dL_law_1197 zi_1 ?_
  refine zm_iadd 1199 rfl dL_law_1198 ?_
  refine zm_sld hX hbl hbE 1200 rfl dL_law_1199 ?_
  refine zm_cV1i 1203 rfl dL_law_1200 ml_L_166 rfl (zm_L (sv := q) rfl) rfl (Nat.le_of_ble_eq_true rfl) ⟨Nat.le_of_ble_eq_true rfl, Nat.le_of_ble_eq_true rfl⟩ rfl rfl ⟨by show 102 + 13 * q ≤ 128088; omega, by show 34429 + 4296 * q ≤ 8717986; omega⟩ rfl (fun _ _ h => k_X11_count E q (xs (i + 1).toNatClampNeg) M h) (fun r155 M156 => ?_)
  refine zm_icmp_eq 1208 1206 (by decide) rfl dL_law_1203 ?_ zm_none
  exact hgo M156 q
set_option maxRecDepth 20000 in
set_option maxHeartbeats 4000000 in
theorem kl_loop {p : Program} {e : Env} {s : State} {m : MethodId} {below : List Frame} {meth : Method} {c : Code} {E : zm_E} {nm : String} {b L : Nat} {xs : Nat → Int32} (hX : va_X b L xs s s.heap) (hbl : b < s.heap.size) (hbE : b ≤ E.2.1) (hE : E.2.1 + 1 = s.heap.size) (M : zm_Mem) : zm_V (p, e, s, m, #[Value.ref b], below, meth, c) (Y_L nm) E (fun (_ : Unit) _ => lw_Z below #[Value.ref b] s) (102 + 13 * (0 : Nat)) (34429 + 4296 * (0 : Nat)) (decide ((0 : Nat) = 0)) (zm_w (0 : Nat)) 18 [(3, .int 0), (2, .ref (E.2.1 + 52)), (1, .ref (E.2.1 + 1)), (0, .ref b)] [] M ((zm_lp (fun s => f_law_step L xs s.1 s.2.1 s.2.2) ((0 : Int32), M, (0 : Nat))).bind (fun N => some ((), N))) some := by
  refine zm_lpg (X := (p, e, s, m, #[Value.ref b], below, meth, c)) (σ := Int32 × zm_Mem × Nat) (ε := zm_Mem) (step := fun s => f_law_step L xs s.1 s.2.1 s.2.2) (fun s => 102 + 13 * s.2.2) (fun s => 34429 + 4296 * s.2.2) (fun s => decide (s.2.2 = 0)) (fun s => zm_w s.2.2) (fun s => [(3, .int s.1), (2, .ref (E.2.1 + 52)), (1, .ref (E.2.1 + 1)), (0, .ref b)]) (fun s => s.2.1) (fun D f hfa hfb hD s => ?_) ((0 : Int32), M, (0 : Nat))
  obtain ⟨i, M, q⟩ := s
  show zm_V (p, e, s, m, #[Value.ref b], below, meth, c) (Y_L nm) E (fun (_ : Unit) _ => lw_Z below #[Value.ref b] s) (102 + 13 * q) (34429 + 4296 * q) (decide (q = 0)) (zm_w q) 18 [(3, .int i), (2, .ref (E.2.1 + 52)), (1, .ref (E.2.1 + 1)), (0, .ref b)] [] M (f_law_step L xs i M q) f
  have hgo : ∀ (M : zm_Mem) (q : Nat), zm_V (p, e, s, m, #[Value.ref b], below, meth, c) (Y_L nm) E (fun (_ : Unit) _ => lw_Z below #[Value.ref b] s) (102 + 13 * q) (34429 + 4296 * q) (decide (q = 0)) (zm_w q) 1208 [(3, .int i), (2, .ref (E.2.1 + 52)), (1, .ref (E.2.1 + 1)), (0, .ref b)] [] M (f_law_go i M q) f := by
    intro M q
    unfold f_law_go
    refine zm_iinc (lv' := fun z => [(3, .int z), (2, .ref (E.2.1 + 52)), (1, .ref (E.2.1 + 1)), (0, .ref b)]) 1211 rfl dL_law_1208 zi_6 0 rfl (Nat.le_of_ble_eq_true rfl) (fun _ => rfl) (fun z _ => ?_)
    refine zm_goto 18 (by decide) dL_law_1211 ?_
    exact zm_go (hfa _) (hD (z, M, q))
  unfold f_law_step
  refine zm_gd (fun hq0 => ?_)
  have hq0 := of_decide_eq_true hq0
  refine zm_iload_n 19 rfl dL_law_18 rfl 0 rfl ?_
  refine zm_aload_n 20 rfl dL_law_19 rfl 3 rfl ?_
  refine zm_slen hX hbl hbE 21 rfl dL_law_20 ?_
  refine zm_bipush 23 rfl dL_law_21 zb_6 ?_
  refine zm_isub 24 rfl dL_law_23 ?_
  refine zm_icmp_gt 1214 27 (by decide) rfl dL_law_24 ?_ ?_
  · refine zm_go (hfb _) (zm_unb ?_)
    refine zm_iconst 1215 rfl dL_law_1214 zi_1 ?_
    exact zm_lawret dL_law_1215 hE (by omega) (by omega)
  · refine zm_gd (fun hq => ?_)
    have hq := of_decide_eq_true hq
    refine zm_aload_n 28 rfl dL_law_27 rfl 3 rfl ?_
    refine zm_iload_n 29 rfl dL_law_28 rfl 0 rfl ?_
    refine zm_sld hX hbl hbE 30 rfl dL_law_29 ?_
    refine zm_bipush 32 rfl dL_law_30 zb_63 ?_
    refine zm_iand 33 rfl dL_law_32 ?_
    refine zm_nmi (fun k _ => ?_)
    refine zm_case (fun hc => ?_) (fun hc0 => ?_)
    · exact zm_tsIn (off := 159) 192 hc dL_law_33 (by decide) (by decide) (by decide) (by decide) (kl_0 hX hbl hbE hq hgo)
    refine zm_case (fun hc => ?_) (fun hc1 => ?_)
    · exact zm_tsIn (off := 222) 255 hc dL_law_33 (by decide) (by decide) (by decide) (by decide) (kl_1 hX hbl hbE hq hgo)
    refine zm_case (fun hc => ?_) (fun hc2 => ?_)
    · exact zm_tsIn (off := 245) 278 hc dL_law_33 (by decide) (by decide) (by decide) (by decide) (kl_2 hX hbl hbE hq hgo)
    refine zm_case (fun hc => ?_) (fun hc3 => ?_)
    · exact zm_tsIn (off := 258) 291 hc dL_law_33 (by decide) (by decide) (by decide) (by decide) (kl_3 hX hbl hbE hq hgo)
    refine zm_case (fun hc => ?_) (fun hc4 => ?_)
    · exact zm_tsIn (off := 271) 304 hc dL_law_33 (by decide) (by decide) (by decide) (by decide) (kl_4 hX hbl hbE hq hgo)
    refine zm_case (fun hc => ?_) (fun hc5 => ?_)
    · exact zm_tsIn (off := 304) 337 hc dL_law_33 (by decide) (by decide) (by decide) (by decide) (kl_5 hX hbl hbE hq hgo)
    refine zm_case (fun hc => ?_) (fun hc6 => ?_)
    · exact zm_tsIn (off := 337) 370 hc dL_law_33 (by decide) (by decide) (by decide) (by decide) (kl_6 hX hbl hbE hq hgo)
    refine zm_case (fun hc => ?_) (fun hc7 => ?_)
    · exact zm_tsIn (off := 370) 403 hc dL_law_33 (by decide) (by decide) (by decide) (by decide) (kl_7 hX hbl hbE hq hgo)
    refine zm_case (fun hc => ?_) (fun hc8 => ?_)
    · exact zm_tsIn (off := 403) 436 hc dL_law_33 (by decide) (by decide) (by decide) (by decide) (kl_8 hX hbl hbE hq hgo)
    refine zm_case (fun hc => ?_) (fun hc9 => ?_)
    · exact zm_tsIn (off := 436) 469 hc dL_law_33 (by decide) (by decide) (by decide) (by decide) (kl_9 hX hbl hbE hq hgo)
    refine zm_case (fun hc => ?_) (fun hc10 => ?_)
    · exact zm_tsIn (off := 469) 502 hc dL_law_33 (by decide) (by decide) (by decide) (by decide) (kl_10 hX hbl hbE hq hgo)
    refine zm_case (fun hc => ?_) (fun hc11 => ?_)
    · exact zm_tsIn (off := 502) 535 hc dL_law_33 (by decide) (by decide) (by decide) (by decide) (kl_11 hX hbl hbE hq hgo)
    refine zm_case (fun hc => ?_) (fun hc12 => ?_)
    · exact zm_tsIn (off := 551) 584 hc dL_law_33 (by decide) (by decide) (by decide) (by decide) (kl_12 hX hbl hbE hq hgo)
    refine zm_case (fun hc => ?_) (fun hc13 => ?_)
    · exact zm_tsIn (off := 574) 607 hc dL_law_33 (by decide) (by decide) (by decide) (by decide) (kl_13 hX hbl hbE hq hgo)
    refine zm_case (fun hc => ?_) (fun hc14 => ?_)
    · exact zm_tsIn (off := 587) 620 hc dL_law_33 (by decide) (by decide) (by decide) (by decide) (kl_14 hX hbl hbE hq hgo)
    refine zm_case (fun hc => ?_) (fun hc15 => ?_)
    · exact zm_tsIn (off := 600) 633 hc dL_law_33 (by decide) (by decide) (by decide) (by decide) (kl_15 hX hbl hbE hq hgo)
    refine zm_case (fun hc => ?_) (fun hc16 => ?_)
    · exact zm_tsIn (off := 613) 646 hc dL_law_33 (by decide) (by decide) (by decide) (by decide) (kl_16 hX hbl hbE hq hgo)
    refine zm_case (fun hc => ?_) (fun hc17 => ?_)
    · exact zm_tsIn (off := 626) 659 hc dL_law_33 (by decide) (by decide) (by decide) (by decide) (kl_17 hX hbl hbE hq hgo)
    refine zm_case (fun hc => ?_) (fun hc18 => ?_)
    · exact zm_tsIn (off := 649) 682 hc dL_law_33 (by decide) (by decide) (by decide) (by decide) (kl_18 hX hbl hbE hq hgo)
    refine zm_case (fun hc => ?_) (fun hc19 => ?_)
    · exact zm_tsIn (off := 672) 705 hc dL_law_33 (by decide) (by decide) (by decide) (by decide) (kl_19 hX hbl hbE hq hgo)
    refine zm_case (fun hc => ?_) (fun hc20 => ?_)
    · exact zm_tsIn (off := 711) 744 hc dL_law_33 (by decide) (by decide) (by decide) (by decide) (kl_20 hX hbl hbE hq hgo)
    refine zm_case (fun hc => ?_) (fun hc21 => ?_)
    · exact zm_tsIn (off := 734) 767 hc dL_law_33 (by decide) (by decide) (by decide) (by decide) (kl_21 hX hbl hbE hq hgo)
    refine zm_case (fun hc => ?_) (fun hc22 => ?_)
    · exact zm_tsIn (off := 757) 790 hc dL_law_33 (by decide) (by decide) (by decide) (by decide) (kl_22 hX hbl hbE hq hgo)
    refine zm_case (fun hc => ?_) (fun hc23 => ?_)
    · exact zm_tsIn (off := 770) 803 hc dL_law_33 (by decide) (by decide) (by decide) (by decide) (kl_23 hX hbl hbE hq hgo)
    refine zm_case (fun hc => ?_) (fun hc24 => ?_)
    · exact zm_tsIn (off := 803) 836 hc dL_law_33 (by decide) (by decide) (by decide) (by decide) (kl_24 hX hbl hbE hq hgo)
    refine zm_case (fun hc => ?_) (fun hc25 => ?_)
    · exact zm_tsIn (off := 856) 889 hc dL_law_33 (by decide) (by decide) (by decide) (by decide) (kl_25 hX hbl hbE hq hgo)
    refine zm_case (fun hc => ?_) (fun hc26 => ?_)
    · exact zm_tsIn (off := 889) 922 hc dL_law_33 (by decide) (by decide) (by decide) (by decide) (kl_26 hX hbl hbE hq hgo)
    refine zm_case (fun hc => ?_) (fun hc27 => ?_)
    · exact zm_tsIn (off := 928) 961 hc dL_law_33 (by decide) (by decide) (by decide) (by decide) (kl_27 hX hbl hbE hq hgo)
    refine zm_case (fun hc => ?_) (fun hc28 => ?_)
    · exact zm_tsIn (off := 961) 994 hc dL_law_33 (by decide) (by decide) (by decide) (by decide) (kl_28 hX hbl hbE hq hgo)
    refine zm_case (fun hc => ?_) (fun hc29 => ?_)
    · exact zm_tsIn (off := 1004) 1037 hc dL_law_33 (by decide) (by decide) (by decide) (by decide) (kl_29 hX hbl hbE hq hgo)
    refine zm_case (fun hc => ?_) (fun hc30 => ?_)
    · exact zm_tsIn (off := 1017) 1050 hc dL_law_33 (by decide) (by decide) (by decide) (by decide) (kl_30 hX hbl hbE hq hgo)
    refine zm_case (fun hc => ?_) (fun hc31 => ?_)
    · exact zm_tsIn (off := 1050) 1083 hc dL_law_33 (by decide) (by decide) (by decide) (by decide) (kl_31 hX hbl hbE hq hgo)
    refine zm_case (fun hc => ?_) (fun hc32 => ?_)
    · exact zm_tsIn (off := 1073) 1106 hc dL_law_33 (by decide) (by decide) (by decide) (by decide) (kl_32 hX hbl hbE hq hgo)
    refine zm_case (fun hc => ?_) (fun hc33 => ?_)
    · exact zm_tsIn (off := 1106) 1139 hc dL_law_33 (by decide) (by decide) (by decide) (by decide) (kl_33 hX hbl hbE hq hgo)
    refine zm_case (fun hc => ?_) (fun hc34 => ?_)
    · exact zm_tsIn (off := 1129) 1162 hc dL_law_33 (by decide) (by decide) (by decide) (by decide) (kl_34 hX hbl hbE hq hgo)
    refine zm_case (fun hc => ?_) (fun hc35 => ?_)
    · exact zm_tsIn (off := 1152) 1185 hc dL_law_33 (by decide) (by decide) (by decide) (by decide) (kl_35 hX hbl hbE hq hgo)
    exact zm_tsOut 1208 dL_law_33 (by have hn0 := zm_ne hc0 (w := 0) (by decide); have hn1 := zm_ne hc1 (w := 1) (by decide); have hn2 := zm_ne hc2 (w := 2) (by decide); have hn3 := zm_ne hc3 (w := 3) (by decide); have hn4 := zm_ne hc4 (w := 4) (by decide); have hn5 := zm_ne hc5 (w := 5) (by decide); have hn6 := zm_ne hc6 (w := 6) (by decide); have hn7 := zm_ne hc7 (w := 7) (by decide); have hn8 := zm_ne hc8 (w := 8) (by decide); have hn9 := zm_ne hc9 (w := 9) (by decide); have hn10 := zm_ne hc10 (w := 10) (by decide); have hn11 := zm_ne hc11 (w := 11) (by decide); have hn12 := zm_ne hc12 (w := 12) (by decide); have hn13 := zm_ne hc13 (w := 13) (by decide); have hn14 := zm_ne hc14 (w := 14) (by decide); have hn15 := zm_ne hc15 (w := 15) (by decide); have hn16 := zm_ne hc16 (w := 16) (by decide); have hn17 := zm_ne hc17 (w := 17) (by decide); have hn18 := zm_ne hc18 (w := 18) (by decide); have hn19 := zm_ne hc19 (w := 19) (by decide); have hn20 := zm_ne hc20 (w := 20) (by decide); have hn21 := zm_ne hc21 (w := 21) (by decide); have hn22 := zm_ne hc22 (w := 22) (by decide); have hn23 := zm_ne hc23 (w := 23) (by decide); have hn24 := zm_ne hc24 (w := 24) (by decide); have hn25 := zm_ne hc25 (w := 25) (by decide); have hn26 := zm_ne hc26 (w := 26) (by decide); have hn27 := zm_ne hc27 (w := 27) (by decide); have hn28 := zm_ne hc28 (w := 28) (by decide); have hn29 := zm_ne hc29 (w := 29) (by decide); have hn30 := zm_ne hc30 (w := 30) (by decide); have hn31 := zm_ne hc31 (w := 31) (by decide); have hn32 := zm_ne hc32 (w := 32) (by decide); have hn33 := zm_ne hc33 (w := 33) (by decide); have hn34 := zm_ne hc34 (w := 34) (by decide); have hn35 := zm_ne hc35 (w := 35) (by decide); omega) (by decide) (hgo M q)
