theorem zm_itX0 : ∀ w ∈ u_ws RX0 TX0 9, w ∈ zm_tbl := fun w h => zm_tbl_in (zm_inX0 w h) (List.all_eq_true.mp (by decide +kernel : (wsX00).all goodWord = true) w h)
theorem zm_itX1 : ∀ w ∈ u_ws RX1 TX1 3, w ∈ zm_tbl := fun w h => zm_tbl_in (zm_inX1 w h) (List.all_eq_true.mp (by decide +kernel : (wsX10).all goodWord = true) w h)
theorem zm_itX2 : ∀ w ∈ u_ws RX2 TX2 9, w ∈ zm_tbl := fun w h => zm_tbl_in (zm_inX2 w h) (List.all_eq_true.mp (by decide +kernel : (wsX20).all goodWord = true) w h)
theorem zm_itX3 : ∀ w ∈ u_ws RX3 TX3 3, w ∈ zm_tbl := fun w h => zm_tbl_in (zm_inX3 w h) (List.all_eq_true.mp (by decide +kernel : (wsX30).all goodWord = true) w h)
theorem zm_itX4 : ∀ w ∈ u_ws RX4 TX4 1, w ∈ zm_tbl := fun w h => zm_tbl_in (zm_inX4 w h) (List.all_eq_true.mp (by decide +kernel : (wsX40).all goodWord = true) w h)
theorem zm_itX5 : ∀ w ∈ u_ws RX5 TX5 2, w ∈ zm_tbl := fun w h => zm_tbl_in (zm_inX5 w h) (List.all_eq_true.mp (by decide +kernel : (wsX50).all goodWord = true) w h)
theorem zm_itX6 : ∀ w ∈ u_ws RX6 TX6 15, w ∈ zm_tbl := fun w h => zm_tbl_in (zm_inX6 w h) (List.all_eq_true.mp (by decide +kernel : (wsX60).all goodWord = true) w h)
theorem zm_itX7 : ∀ w ∈ u_ws RX7 TX7 5, w ∈ zm_tbl := fun w h => zm_tbl_in (zm_inX7 w h) (List.all_eq_true.mp (by decide +kernel : (wsX70).all goodWord = true) w h)
theorem zm_itX8 : ∀ w ∈ u_ws RX8 TX8 19, w ∈ zm_tbl := fun w h => zm_tbl_in (zm_inX8 w h) (List.all_eq_true.mp (by decide +kernel : (wsX80).all goodWord = true) w h)
theorem zm_itX9 : ∀ w ∈ u_ws RX9 TX9 3, w ∈ zm_tbl := fun w h => zm_tbl_in (zm_inX9 w h) (List.all_eq_true.mp (by decide +kernel : (wsX90).all goodWord = true) w h)
theorem zm_itX10 : ∀ w ∈ u_ws RX10 TX10 17, w ∈ zm_tbl := fun w h => zm_tbl_in (zm_inX10 w h) (List.all_eq_true.mp (by decide +kernel : (wsX100).all goodWord = true) w h)
theorem zm_itX11 : ∀ w ∈ u_ws RX11 TX11 71, w ∈ zm_tbl := fun w h => zm_tbl_in (zm_inX11 w h) (List.all_eq_true.mp (by decide +kernel : (wsX110).all goodWord = true) w h)
theorem zm_bl1 {x : Int32} (h : (decide (x &&& 1 = x) && fits .boolean (.int x)) = true) : narrow .boolean (.int x) = .int x := by
  rw [Bool.and_eq_true, decide_eq_true_eq] at h
  show Value.int (x &&& 1) = _
  rw [h.1]
theorem zm_bl2 {x : Int32} (h : (decide (x &&& 1 = x) && fits .boolean (.int x)) = true) : fits .boolean (.int x) = true := by
  rw [Bool.and_eq_true] at h
  exact h.2
theorem fl_X0_33 : zm_Fl RX0 33 0 7 0 := ⟨RX0, TX0, 9, rfl, zm_itX0, by decide, rfl, (zm_tbl_in (List.mem_of_getElem? (i := 309) (by decide +kernel)) rfl), rfl⟩
theorem zi_0 : Int32.ofInt 0 = (0 : Int32) := by decide
theorem fp_X0_33 : zm_Fp RX0 33 0 7 0 .int := ⟨RX0, TX0, 9, tyX0, rfl, zm_itX0, by decide, rfl, (zm_tbl_in (List.mem_of_getElem? (i := 309) (by decide +kernel)) rfl), rfl, tyX0_ok, nmX0, rfl, by decide +kernel⟩
theorem zb_20 : (Int8.ofInt 20).toInt32 = (20 : Int32) := by decide
theorem fl_X0_11 : zm_Fl RX0 11 0 0 3 := ⟨RX0, TX0, 9, rfl, zm_itX0, by decide, rfl, (zm_tbl_in (List.mem_of_getElem? (i := 302) (by decide +kernel)) rfl), rfl⟩
theorem fl_X0_15 : zm_Fl RX0 15 0 1 3 := ⟨RX0, TX0, 9, rfl, zm_itX0, by decide, rfl, (zm_tbl_in (List.mem_of_getElem? (i := 303) (by decide +kernel)) rfl), rfl⟩
theorem fl_X0_18 : zm_Fl RX0 18 0 2 3 := ⟨RX0, TX0, 9, rfl, zm_itX0, by decide, rfl, (zm_tbl_in (List.mem_of_getElem? (i := 304) (by decide +kernel)) rfl), rfl⟩
theorem zi_1 : Int32.ofInt 1 = (1 : Int32) := by decide
theorem zi_m1 : Int32.ofInt (-1) = (-1 : Int32) := by decide
theorem fl_X0_24 : zm_Fl RX0 24 0 4 3 := ⟨RX0, TX0, 9, rfl, zm_itX0, by decide, rfl, (zm_tbl_in (List.mem_of_getElem? (i := 306) (by decide +kernel)) rfl), rfl⟩
theorem fl_X0_37 : zm_Fl RX0 37 0 8 0 := ⟨RX0, TX0, 9, rfl, zm_itX0, by decide, rfl, (zm_tbl_in (List.mem_of_getElem? (i := 310) (by decide +kernel)) rfl), rfl⟩
theorem fl_X0_30 : zm_Fl RX0 30 0 6 3 := ⟨RX0, TX0, 9, rfl, zm_itX0, by decide, rfl, (zm_tbl_in (List.mem_of_getElem? (i := 308) (by decide +kernel)) rfl), rfl⟩
theorem fl_X0_59 : zm_Fl RX0 59 8 4 3 := ⟨RX8, TX8, 19, rfl, zm_itX8, by decide, rfl, (zm_tbl_in (List.mem_of_getElem? (i := 366) (by decide +kernel)) rfl), rfl⟩
theorem fl_X0_62 : zm_Fl RX0 62 8 5 3 := ⟨RX8, TX8, 19, rfl, zm_itX8, by decide, rfl, (zm_tbl_in (List.mem_of_getElem? (i := 371) (by decide +kernel)) rfl), rfl⟩
theorem fl_X0_65 : zm_Fl RX0 65 8 2 3 := ⟨RX8, TX8, 19, rfl, zm_itX8, by decide, rfl, (zm_tbl_in (List.mem_of_getElem? (i := 357) (by decide +kernel)) rfl), rfl⟩
theorem fl_X0_27 : zm_Fl RX0 27 0 5 3 := ⟨RX0, TX0, 9, rfl, zm_itX0, by decide, rfl, (zm_tbl_in (List.mem_of_getElem? (i := 307) (by decide +kernel)) rfl), rfl⟩
theorem fp_X0_37 : zm_Fp RX0 37 0 8 0 .int := ⟨RX0, TX0, 9, tyX0, rfl, zm_itX0, by decide, rfl, (zm_tbl_in (List.mem_of_getElem? (i := 310) (by decide +kernel)) rfl), rfl, tyX0_ok, nmX0, rfl, by decide +kernel⟩
theorem cm_J7_fill_53178 : Cond.code yJ7_fill_53178 cJ7_fill_53178 4 none ∈ zm_tbl := (zm_tbl_in (List.mem_of_getElem? (i := 748) (by decide +kernel)) rfl)
theorem in_J7 : Cond.initialized RJ7 ∈ zm_tbl := (zm_tbl_in (List.mem_of_getElem? (i := 144) (by decide +kernel)) rfl)
theorem ml_X0_40 {rm : Room} {b : Bool} {nm : String} : zm_Sl RX0 40 yJ7_fill_53178 (cJ7_fill_53178, 4, RJ7, rm, none, b, nm) 2 := ⟨(zm_tbl_in (List.mem_of_getElem? (i := 1251) (by decide +kernel)) rfl), (zm_tbl_in (List.mem_of_getElem? (i := 747) (by decide +kernel)) rfl), in_J7, cm_J7_fill_53178, ⟨by decide +kernel, by decide +kernel, by decide +kernel⟩⟩
theorem cm_X0_keepWay : Cond.code yX0_keepWay cX0_keepWay 4 none ∈ zm_tbl := (zm_tbl_in (List.mem_of_getElem? (i := 1263) (by decide +kernel)) rfl)
theorem in_X0 : Cond.initialized RX0 ∈ zm_tbl := (zm_tbl_in (List.mem_of_getElem? (i := 137) (by decide +kernel)) rfl)
theorem se_X0_keepWay : Cond.selects RX0 yX0_keepWay yX0_keepWay ∈ zm_tbl := (zm_tbl_in (List.mem_of_getElem? (i := 54) (by decide +kernel)) rfl)
theorem ml_X0_68 {rm : Room} {b : Bool} {nm : String} : zm_Ml RX0 68 yX0_keepWay (cX0_keepWay, 4, RX0, rm, none, b, nm) 2 := ⟨(zm_tbl_in (List.mem_of_getElem? (i := 1260) (by decide +kernel)) rfl), (zm_tbl_in (List.mem_of_getElem? (i := 1262) (by decide +kernel)) rfl), se_X0_keepWay, in_X0, cm_X0_keepWay, ⟨by decide +kernel, by decide +kernel, by decide +kernel⟩⟩
theorem zb_6 : (Int8.ofInt 6).toInt32 = (6 : Int32) := by decide
theorem fl_X0_21 : zm_Fl RX0 21 0 3 3 := ⟨RX0, TX0, 9, rfl, zm_itX0, by decide, rfl, (zm_tbl_in (List.mem_of_getElem? (i := 305) (by decide +kernel)) rfl), rfl⟩
theorem cm_X0_pack : Cond.code yX0_pack cX0_pack 6 none ∈ zm_tbl := (zm_tbl_in (List.mem_of_getElem? (i := 1259) (by decide +kernel)) rfl)
theorem se_X0_pack : Cond.selects RX0 yX0_pack yX0_pack ∈ zm_tbl := (zm_tbl_in (List.mem_of_getElem? (i := 53) (by decide +kernel)) rfl)
theorem ml_X0_55 {rm : Room} {b : Bool} {nm : String} : zm_Ml RX0 55 yX0_pack (cX0_pack, 6, RX0, rm, none, b, nm) 4 := ⟨(zm_tbl_in (List.mem_of_getElem? (i := 1256) (by decide +kernel)) rfl), (zm_tbl_in (List.mem_of_getElem? (i := 1258) (by decide +kernel)) rfl), se_X0_pack, in_X0, cm_X0_pack, ⟨by decide +kernel, by decide +kernel, by decide +kernel⟩⟩
theorem zb_21 : (Int8.ofInt 21).toInt32 = (21 : Int32) := by decide
theorem fl_X0_46 : zm_Fl RX0 46 8 12 0 := ⟨RX8, TX8, 19, rfl, zm_itX8, by decide, rfl, (zm_tbl_in (List.mem_of_getElem? (i := 394) (by decide +kernel)) rfl), rfl⟩
theorem cm_X0_isRight : Cond.code yX0_isRight cX0_isRight 4 (some .boolean) ∈ zm_tbl := (zm_tbl_in (List.mem_of_getElem? (i := 1255) (by decide +kernel)) rfl)
theorem se_X0_isRight : Cond.selects RX0 yX0_isRight yX0_isRight ∈ zm_tbl := (zm_tbl_in (List.mem_of_getElem? (i := 52) (by decide +kernel)) rfl)
theorem ml_X0_51 {rm : Room} {b : Bool} {nm : String} : zm_Ml RX0 51 yX0_isRight (cX0_isRight, 4, RX0, rm, (some .boolean), b, nm) 3 := ⟨(zm_tbl_in (List.mem_of_getElem? (i := 1252) (by decide +kernel)) rfl), (zm_tbl_in (List.mem_of_getElem? (i := 1254) (by decide +kernel)) rfl), se_X0_isRight, in_X0, cm_X0_isRight, ⟨by decide +kernel, by decide +kernel, by decide +kernel⟩⟩
theorem fl_X1_15 : zm_Fl RX1 15 1 2 0 := ⟨RX1, TX1, 3, rfl, zm_itX1, by decide, rfl, (zm_tbl_in (List.mem_of_getElem? (i := 288) (by decide +kernel)) rfl), rfl⟩
theorem fp_X1_15 : zm_Fp RX1 15 1 2 0 .int := ⟨RX1, TX1, 3, tyX1, rfl, zm_itX1, by decide, rfl, (zm_tbl_in (List.mem_of_getElem? (i := 288) (by decide +kernel)) rfl), rfl, tyX1_ok, nmX1, rfl, by decide +kernel⟩
theorem fl_X1_11 : zm_Fl RX1 11 1 0 3 := ⟨RX1, TX1, 3, rfl, zm_itX1, by decide, rfl, (zm_tbl_in (List.mem_of_getElem? (i := 286) (by decide +kernel)) rfl), rfl⟩
theorem fl_X1_19 : zm_Fl RX1 19 1 1 0 := ⟨RX1, TX1, 3, rfl, zm_itX1, by decide, rfl, (zm_tbl_in (List.mem_of_getElem? (i := 287) (by decide +kernel)) rfl), rfl⟩
theorem zb_47 : (Int8.ofInt 47).toInt32 = (47 : Int32) := by decide
theorem ac_X1_22 : Cond.methodLink RX1 22 arraycopyName ∈ zm_tbl := (zm_tbl_in (List.mem_of_getElem? (i := 925) (by decide +kernel)) rfl)
theorem ac_nat : Cond.native arraycopyName ∈ zm_tbl := (zm_tbl_in (List.mem_of_getElem? (i := 927) (by decide +kernel)) rfl)
theorem ac_st : Cond.static arraycopyName ∈ zm_tbl := (zm_tbl_in (List.mem_of_getElem? (i := 926) (by decide +kernel)) rfl)
theorem in_sys : Cond.initialized "java/lang/System" ∈ zm_tbl := (zm_tbl_in (List.mem_of_getElem? (i := 145) (by decide +kernel)) rfl)
theorem zb_40 : (Int8.ofInt 40).toInt32 = (40 : Int32) := by decide
theorem fp_X1_19 : zm_Fp RX1 19 1 1 0 .int := ⟨RX1, TX1, 3, tyX1, rfl, zm_itX1, by decide, rfl, (zm_tbl_in (List.mem_of_getElem? (i := 287) (by decide +kernel)) rfl), rfl, tyX1_ok, nmX1, rfl, by decide +kernel⟩
theorem mm_X1_28 : Cond.methodLink RX1 28 Lib.Math.min.name ∈ zm_tbl := (zm_tbl_in (List.mem_of_getElem? (i := 928) (by decide +kernel)) rfl)
theorem mm_st_min : Cond.static Lib.Math.min.name ∈ zm_tbl := (zm_tbl_in (List.mem_of_getElem? (i := 603) (by decide +kernel)) rfl)
theorem in_math : Cond.initialized "java/lang/Math" ∈ zm_tbl := (zm_tbl_in (List.mem_of_getElem? (i := 142) (by decide +kernel)) rfl)
theorem mm_co_min : Cond.code Lib.Math.min.name Lib.Math.min.code 2 (some .int) ∈ zm_tbl := (zm_tbl_in (List.mem_of_getElem? (i := 604) (by decide +kernel)) rfl)
theorem fl_X2_22 : zm_Fl RX2 22 2 6 0 := ⟨RX2, TX2, 9, rfl, zm_itX2, by decide, rfl, (zm_tbl_in (List.mem_of_getElem? (i := 247) (by decide +kernel)) rfl), rfl⟩
theorem fl_X8_64 : zm_Fl RX8 64 8 10 0 := ⟨RX8, TX8, 19, rfl, zm_itX8, by decide, rfl, (zm_tbl_in (List.mem_of_getElem? (i := 384) (by decide +kernel)) rfl), rfl⟩
theorem zs_408 : (Int16.ofInt 408).toInt32 = (408 : Int32) := by decide
theorem fl_X8_39 : zm_Fl RX8 39 8 9 3 := ⟨RX8, TX8, 19, rfl, zm_itX8, by decide, rfl, (zm_tbl_in (List.mem_of_getElem? (i := 381) (by decide +kernel)) rfl), rfl⟩
theorem zb_14 : (Int8.ofInt 14).toInt32 = (14 : Int32) := by decide
theorem zs_16383 : (Int16.ofInt 16383).toInt32 = (16383 : Int32) := by decide
theorem fp_X8_64 : zm_Fp RX8 64 8 10 0 .int := ⟨RX8, TX8, 19, tyX8, rfl, zm_itX8, by decide, rfl, (zm_tbl_in (List.mem_of_getElem? (i := 384) (by decide +kernel)) rfl), rfl, tyX8_ok, nmX8, rfl, by decide +kernel⟩
theorem fp_X8_45 : zm_Fp RX8 45 8 11 0 .int := ⟨RX8, TX8, 19, tyX8, rfl, zm_itX8, by decide, rfl, (zm_tbl_in (List.mem_of_getElem? (i := 386) (by decide +kernel)) rfl), rfl, tyX8_ok, nmX8, rfl, by decide +kernel⟩
theorem fp_X8_49 : zm_Fp RX8 49 8 12 0 .int := ⟨RX8, TX8, 19, tyX8, rfl, zm_itX8, by decide, rfl, (zm_tbl_in (List.mem_of_getElem? (i := 390) (by decide +kernel)) rfl), rfl, tyX8_ok, nmX8, rfl, by decide +kernel⟩
theorem fp_X8_52 : zm_Fp RX8 52 8 13 0 .int := ⟨RX8, TX8, 19, tyX8, rfl, zm_itX8, by decide, rfl, (zm_tbl_in (List.mem_of_getElem? (i := 397) (by decide +kernel)) rfl), rfl, tyX8_ok, nmX8, rfl, by decide +kernel⟩
theorem fp_X8_55 : zm_Fp RX8 55 8 16 0 .int := ⟨RX8, TX8, 19, tyX8, rfl, zm_itX8, by decide, rfl, (zm_tbl_in (List.mem_of_getElem? (i := 407) (by decide +kernel)) rfl), rfl, tyX8_ok, nmX8, rfl, by decide +kernel⟩
theorem fp_X8_58 : zm_Fp RX8 58 8 17 0 .int := ⟨RX8, TX8, 19, tyX8, rfl, zm_itX8, by decide, rfl, (zm_tbl_in (List.mem_of_getElem? (i := 410) (by decide +kernel)) rfl), rfl, tyX8_ok, nmX8, rfl, by decide +kernel⟩
theorem fp_X8_61 : zm_Fp RX8 61 8 18 0 .int := ⟨RX8, TX8, 19, tyX8, rfl, zm_itX8, by decide, rfl, (zm_tbl_in (List.mem_of_getElem? (i := 413) (by decide +kernel)) rfl), rfl, tyX8_ok, nmX8, rfl, by decide +kernel⟩
theorem fp_X8_67 : zm_Fp RX8 67 8 14 0 .int := ⟨RX8, TX8, 19, tyX8, rfl, zm_itX8, by decide, rfl, (zm_tbl_in (List.mem_of_getElem? (i := 401) (by decide +kernel)) rfl), rfl, tyX8_ok, nmX8, rfl, by decide +kernel⟩
theorem zi_3 : Int32.ofInt 3 = (3 : Int32) := by decide
theorem cm_X8_put : Cond.code yX8_put cX8_put 3 none ∈ zm_tbl := (zm_tbl_in (List.mem_of_getElem? (i := 343) (by decide +kernel)) rfl)
theorem in_X8 : Cond.initialized RX8 ∈ zm_tbl := (zm_tbl_in (List.mem_of_getElem? (i := 138) (by decide +kernel)) rfl)
theorem se_X8_put : Cond.selects RX8 yX8_put yX8_put ∈ zm_tbl := (zm_tbl_in (List.mem_of_getElem? (i := 342) (by decide +kernel)) rfl)
theorem ml_X8_70 {rm : Room} {b : Bool} {nm : String} : zm_Ml RX8 70 yX8_put (cX8_put, 3, RX8, rm, none, b, nm) 2 := ⟨(zm_tbl_in (List.mem_of_getElem? (i := 340) (by decide +kernel)) rfl), (zm_tbl_in (List.mem_of_getElem? (i := 341) (by decide +kernel)) rfl), se_X8_put, in_X8, cm_X8_put, ⟨by decide +kernel, by decide +kernel, by decide +kernel⟩⟩
theorem zb_7 : (Int8.ofInt 7).toInt32 = (7 : Int32) := by decide
theorem fp_X8_74 : zm_Fp RX8 74 8 15 0 .int := ⟨RX8, TX8, 19, tyX8, rfl, zm_itX8, by decide, rfl, (zm_tbl_in (List.mem_of_getElem? (i := 404) (by decide +kernel)) rfl), rfl, tyX8_ok, nmX8, rfl, by decide +kernel⟩
theorem fl_X7_41 : zm_Fl RX7 41 7 4 0 := ⟨RX7, TX7, 5, rfl, zm_itX7, by decide, rfl, (zm_tbl_in (List.mem_of_getElem? (i := 220) (by decide +kernel)) rfl), rfl⟩
theorem fl_X7_11 : zm_Fl RX7 11 7 0 3 := ⟨RX7, TX7, 5, rfl, zm_itX7, by decide, rfl, (zm_tbl_in (List.mem_of_getElem? (i := 216) (by decide +kernel)) rfl), rfl⟩
theorem fl_X2_18 : zm_Fl RX2 18 2 0 3 := ⟨RX2, TX2, 9, rfl, zm_itX2, by decide, rfl, (zm_tbl_in (List.mem_of_getElem? (i := 241) (by decide +kernel)) rfl), rfl⟩
theorem fl_X2_35 : zm_Fl RX2 35 2 4 0 := ⟨RX2, TX2, 9, rfl, zm_itX2, by decide, rfl, (zm_tbl_in (List.mem_of_getElem? (i := 245) (by decide +kernel)) rfl), rfl⟩
theorem cm_X7_sortAt : Cond.code yX7_sortAt cX7_sortAt 2 (some .int) ∈ zm_tbl := (zm_tbl_in (List.mem_of_getElem? (i := 655) (by decide +kernel)) rfl)
theorem in_X7 : Cond.initialized RX7 ∈ zm_tbl := (zm_tbl_in (List.mem_of_getElem? (i := 129) (by decide +kernel)) rfl)
theorem se_X7_sortAt : Cond.selects RX7 yX7_sortAt yX7_sortAt ∈ zm_tbl := (zm_tbl_in (List.mem_of_getElem? (i := 654) (by decide +kernel)) rfl)
theorem ml_X2_181 {rm : Room} {b : Bool} {nm : String} : zm_Ml RX2 181 yX7_sortAt (cX7_sortAt, 2, RX7, rm, (some .int), b, nm) 1 := ⟨(zm_tbl_in (List.mem_of_getElem? (i := 652) (by decide +kernel)) rfl), (zm_tbl_in (List.mem_of_getElem? (i := 653) (by decide +kernel)) rfl), se_X7_sortAt, in_X7, cm_X7_sortAt, ⟨by decide +kernel, by decide +kernel, by decide +kernel⟩⟩
theorem fl_X2_38 : zm_Fl RX2 38 2 5 0 := ⟨RX2, TX2, 9, rfl, zm_itX2, by decide, rfl, (zm_tbl_in (List.mem_of_getElem? (i := 246) (by decide +kernel)) rfl), rfl⟩
theorem fp_X2_38 : zm_Fp RX2 38 2 5 0 .int := ⟨RX2, TX2, 9, tyX2, rfl, zm_itX2, by decide, rfl, (zm_tbl_in (List.mem_of_getElem? (i := 246) (by decide +kernel)) rfl), rfl, tyX2_ok, nmX2, rfl, by decide +kernel⟩
theorem zs_400 : (Int16.ofInt 400).toInt32 = (400 : Int32) := by decide
theorem zi_2 : Int32.ofInt 2 = (2 : Int32) := by decide
theorem fp_X2_35 : zm_Fp RX2 35 2 4 0 .int := ⟨RX2, TX2, 9, tyX2, rfl, zm_itX2, by decide, rfl, (zm_tbl_in (List.mem_of_getElem? (i := 245) (by decide +kernel)) rfl), rfl, tyX2_ok, nmX2, rfl, by decide +kernel⟩
theorem fl_X7_18 : zm_Fl RX7 18 7 2 3 := ⟨RX7, TX7, 5, rfl, zm_itX7, by decide, rfl, (zm_tbl_in (List.mem_of_getElem? (i := 218) (by decide +kernel)) rfl), rfl⟩
theorem fl_X7_15 : zm_Fl RX7 15 7 1 3 := ⟨RX7, TX7, 5, rfl, zm_itX7, by decide, rfl, (zm_tbl_in (List.mem_of_getElem? (i := 217) (by decide +kernel)) rfl), rfl⟩
theorem fl_X2_41 : zm_Fl RX2 41 2 7 0 := ⟨RX2, TX2, 9, rfl, zm_itX2, by decide, rfl, (zm_tbl_in (List.mem_of_getElem? (i := 248) (by decide +kernel)) rfl), rfl⟩
theorem fp_X2_41 : zm_Fp RX2 41 2 7 0 .int := ⟨RX2, TX2, 9, tyX2, rfl, zm_itX2, by decide, rfl, (zm_tbl_in (List.mem_of_getElem? (i := 248) (by decide +kernel)) rfl), rfl, tyX2_ok, nmX2, rfl, by decide +kernel⟩
theorem cm_X7_placeAt : Cond.code yX7_placeAt cX7_placeAt 2 (some .int) ∈ zm_tbl := (zm_tbl_in (List.mem_of_getElem? (i := 686) (by decide +kernel)) rfl)
theorem se_X7_placeAt : Cond.selects RX7 yX7_placeAt yX7_placeAt ∈ zm_tbl := (zm_tbl_in (List.mem_of_getElem? (i := 685) (by decide +kernel)) rfl)
theorem ml_X2_86 {rm : Room} {b : Bool} {nm : String} : zm_Ml RX2 86 yX7_placeAt (cX7_placeAt, 2, RX7, rm, (some .int), b, nm) 1 := ⟨(zm_tbl_in (List.mem_of_getElem? (i := 683) (by decide +kernel)) rfl), (zm_tbl_in (List.mem_of_getElem? (i := 684) (by decide +kernel)) rfl), se_X7_placeAt, in_X7, cm_X7_placeAt, ⟨by decide +kernel, by decide +kernel, by decide +kernel⟩⟩
theorem fp_X2_44 : zm_Fp RX2 44 2 8 0 .int := ⟨RX2, TX2, 9, tyX2, rfl, zm_itX2, by decide, rfl, (zm_tbl_in (List.mem_of_getElem? (i := 249) (by decide +kernel)) rfl), rfl, tyX2_ok, nmX2, rfl, by decide +kernel⟩
theorem cm_X2_sort : Cond.code yX2_sort cX2_sort 1 (some .int) ∈ zm_tbl := (zm_tbl_in (List.mem_of_getElem? (i := 651) (by decide +kernel)) rfl)
theorem in_X2 : Cond.initialized RX2 ∈ zm_tbl := (zm_tbl_in (List.mem_of_getElem? (i := 134) (by decide +kernel)) rfl)
theorem se_X2_sort : Cond.selects RX2 yX2_sort yX2_sort ∈ zm_tbl := (zm_tbl_in (List.mem_of_getElem? (i := 5) (by decide +kernel)) rfl)
theorem ml_X2_47 {rm : Room} {b : Bool} {nm : String} : zm_Ml RX2 47 yX2_sort (cX2_sort, 1, RX2, rm, (some .int), b, nm) 0 := ⟨(zm_tbl_in (List.mem_of_getElem? (i := 648) (by decide +kernel)) rfl), (zm_tbl_in (List.mem_of_getElem? (i := 650) (by decide +kernel)) rfl), se_X2_sort, in_X2, cm_X2_sort, ⟨by decide +kernel, by decide +kernel, by decide +kernel⟩⟩
theorem cm_X2_take : Cond.code yX2_take cX2_take 1 none ∈ zm_tbl := (zm_tbl_in (List.mem_of_getElem? (i := 667) (by decide +kernel)) rfl)
theorem se_X2_take : Cond.selects RX2 yX2_take yX2_take ∈ zm_tbl := (zm_tbl_in (List.mem_of_getElem? (i := 8) (by decide +kernel)) rfl)
theorem ml_X2_95 {rm : Room} {b : Bool} {nm : String} : zm_Ml RX2 95 yX2_take (cX2_take, 1, RX2, rm, none, b, nm) 0 := ⟨(zm_tbl_in (List.mem_of_getElem? (i := 664) (by decide +kernel)) rfl), (zm_tbl_in (List.mem_of_getElem? (i := 666) (by decide +kernel)) rfl), se_X2_take, in_X2, cm_X2_take, ⟨by decide +kernel, by decide +kernel, by decide +kernel⟩⟩
theorem cm_X2_fail : Cond.code yX2_fail cX2_fail 2 none ∈ zm_tbl := (zm_tbl_in (List.mem_of_getElem? (i := 663) (by decide +kernel)) rfl)
theorem se_X2_fail : Cond.selects RX2 yX2_fail yX2_fail ∈ zm_tbl := (zm_tbl_in (List.mem_of_getElem? (i := 7) (by decide +kernel)) rfl)
theorem ml_X2_82 {rm : Room} {b : Bool} {nm : String} : zm_Ml RX2 82 yX2_fail (cX2_fail, 2, RX2, rm, none, b, nm) 1 := ⟨(zm_tbl_in (List.mem_of_getElem? (i := 660) (by decide +kernel)) rfl), (zm_tbl_in (List.mem_of_getElem? (i := 662) (by decide +kernel)) rfl), se_X2_fail, in_X2, cm_X2_fail, ⟨by decide +kernel, by decide +kernel, by decide +kernel⟩⟩
theorem cm_X7_worthAt : Cond.code yX7_worthAt cX7_worthAt 2 (some .long) ∈ zm_tbl := (zm_tbl_in (List.mem_of_getElem? (i := 675) (by decide +kernel)) rfl)
theorem se_X7_worthAt : Cond.selects RX7 yX7_worthAt yX7_worthAt ∈ zm_tbl := (zm_tbl_in (List.mem_of_getElem? (i := 674) (by decide +kernel)) rfl)
theorem ml_X2_165 {rm : Room} {b : Bool} {nm : String} : zm_Ml RX2 165 yX7_worthAt (cX7_worthAt, 2, RX7, rm, (some .long), b, nm) 1 := ⟨(zm_tbl_in (List.mem_of_getElem? (i := 672) (by decide +kernel)) rfl), (zm_tbl_in (List.mem_of_getElem? (i := 673) (by decide +kernel)) rfl), se_X7_worthAt, in_X7, cm_X7_worthAt, ⟨by decide +kernel, by decide +kernel, by decide +kernel⟩⟩
theorem fl_X2_9 : zm_Fl RX2 9 2 1 3 := ⟨RX2, TX2, 9, rfl, zm_itX2, by decide, rfl, (zm_tbl_in (List.mem_of_getElem? (i := 242) (by decide +kernel)) rfl), rfl⟩
theorem fl_X2_26 : zm_Fl RX2 26 2 3 2 := ⟨RX2, TX2, 9, rfl, zm_itX2, by decide, rfl, (zm_tbl_in (List.mem_of_getElem? (i := 244) (by decide +kernel)) rfl), rfl⟩
theorem fl_X2_92 : zm_Fl RX2 92 8 11 0 := ⟨RX8, TX8, 19, rfl, zm_itX8, by decide, rfl, (zm_tbl_in (List.mem_of_getElem? (i := 387) (by decide +kernel)) rfl), rfl⟩
theorem cm_X2_find : Cond.code yX2_find cX2_find 5 (some .int) ∈ zm_tbl := (zm_tbl_in (List.mem_of_getElem? (i := 678) (by decide +kernel)) rfl)
theorem ml_X2_172 {rm : Room} {b : Bool} {nm : String} : zm_Sl RX2 172 yX2_find (cX2_find, 5, RX2, rm, (some .int), b, nm) 3 := ⟨(zm_tbl_in (List.mem_of_getElem? (i := 676) (by decide +kernel)) rfl), (zm_tbl_in (List.mem_of_getElem? (i := 677) (by decide +kernel)) rfl), in_X2, cm_X2_find, ⟨by decide +kernel, by decide +kernel, by decide +kernel⟩⟩
theorem cm_X2_expect : Cond.code yX2_expect cX2_expect 2 none ∈ zm_tbl := (zm_tbl_in (List.mem_of_getElem? (i := 690) (by decide +kernel)) rfl)
theorem se_X2_expect : Cond.selects RX2 yX2_expect yX2_expect ∈ zm_tbl := (zm_tbl_in (List.mem_of_getElem? (i := 11) (by decide +kernel)) rfl)
theorem ml_X2_112 {rm : Room} {b : Bool} {nm : String} : zm_Ml RX2 112 yX2_expect (cX2_expect, 2, RX2, rm, none, b, nm) 1 := ⟨(zm_tbl_in (List.mem_of_getElem? (i := 687) (by decide +kernel)) rfl), (zm_tbl_in (List.mem_of_getElem? (i := 689) (by decide +kernel)) rfl), se_X2_expect, in_X2, cm_X2_expect, ⟨by decide +kernel, by decide +kernel, by decide +kernel⟩⟩
theorem cm_X2_note : Cond.code yX2_note cX2_note 2 none ∈ zm_tbl := (zm_tbl_in (List.mem_of_getElem? (i := 682) (by decide +kernel)) rfl)
theorem se_X2_note : Cond.selects RX2 yX2_note yX2_note ∈ zm_tbl := (zm_tbl_in (List.mem_of_getElem? (i := 10) (by decide +kernel)) rfl)
theorem ml_X2_169 {rm : Room} {b : Bool} {nm : String} : zm_Ml RX2 169 yX2_note (cX2_note, 2, RX2, rm, none, b, nm) 1 := ⟨(zm_tbl_in (List.mem_of_getElem? (i := 679) (by decide +kernel)) rfl), (zm_tbl_in (List.mem_of_getElem? (i := 681) (by decide +kernel)) rfl), se_X2_note, in_X2, cm_X2_note, ⟨by decide +kernel, by decide +kernel, by decide +kernel⟩⟩
theorem fl_X2_15 : zm_Fl RX2 15 2 2 3 := ⟨RX2, TX2, 9, rfl, zm_itX2, by decide, rfl, (zm_tbl_in (List.mem_of_getElem? (i := 243) (by decide +kernel)) rfl), rfl⟩
theorem fl_X2_115 : zm_Fl RX2 115 8 12 0 := ⟨RX8, TX8, 19, rfl, zm_itX8, by decide, rfl, (zm_tbl_in (List.mem_of_getElem? (i := 393) (by decide +kernel)) rfl), rfl⟩
theorem zi_5 : Int32.ofInt 5 = (5 : Int32) := by decide
theorem cm_X2_newName : Cond.code yX2_newName cX2_newName 3 (some .long) ∈ zm_tbl := (zm_tbl_in (List.mem_of_getElem? (i := 671) (by decide +kernel)) rfl)
theorem se_X2_newName : Cond.selects RX2 yX2_newName yX2_newName ∈ zm_tbl := (zm_tbl_in (List.mem_of_getElem? (i := 9) (by decide +kernel)) rfl)
theorem ml_X2_98 {rm : Room} {b : Bool} {nm : String} : zm_Ml RX2 98 yX2_newName (cX2_newName, 3, RX2, rm, (some .long), b, nm) 0 := ⟨(zm_tbl_in (List.mem_of_getElem? (i := 668) (by decide +kernel)) rfl), (zm_tbl_in (List.mem_of_getElem? (i := 670) (by decide +kernel)) rfl), se_X2_newName, in_X2, cm_X2_newName, ⟨by decide +kernel, by decide +kernel, by decide +kernel⟩⟩
theorem fl_X2_102 : zm_Fl RX2 102 8 0 3 := ⟨RX8, TX8, 19, rfl, zm_itX8, by decide, rfl, (zm_tbl_in (List.mem_of_getElem? (i := 345) (by decide +kernel)) rfl), rfl⟩
theorem zb_9 : (Int8.ofInt 9).toInt32 = (9 : Int32) := by decide
theorem cm_X2_number : Cond.code yX2_number cX2_number 4 (some .int) ∈ zm_tbl := (zm_tbl_in (List.mem_of_getElem? (i := 694) (by decide +kernel)) rfl)
theorem se_X2_number : Cond.selects RX2 yX2_number yX2_number ∈ zm_tbl := (zm_tbl_in (List.mem_of_getElem? (i := 12) (by decide +kernel)) rfl)
theorem ml_X2_106 {rm : Room} {b : Bool} {nm : String} : zm_Ml RX2 106 yX2_number (cX2_number, 4, RX2, rm, (some .int), b, nm) 2 := ⟨(zm_tbl_in (List.mem_of_getElem? (i := 691) (by decide +kernel)) rfl), (zm_tbl_in (List.mem_of_getElem? (i := 693) (by decide +kernel)) rfl), se_X2_number, in_X2, cm_X2_number, ⟨by decide +kernel, by decide +kernel, by decide +kernel⟩⟩
theorem fl_X2_109 : zm_Fl RX2 109 8 1 3 := ⟨RX8, TX8, 19, rfl, zm_itX8, by decide, rfl, (zm_tbl_in (List.mem_of_getElem? (i := 349) (by decide +kernel)) rfl), rfl⟩
theorem zb_59 : (Int8.ofInt 59).toInt32 = (59 : Int32) := by decide
theorem fp_X2_92 : zm_Fp RX2 92 8 11 0 .int := ⟨RX8, TX8, 19, tyX8, rfl, zm_itX8, by decide, rfl, (zm_tbl_in (List.mem_of_getElem? (i := 387) (by decide +kernel)) rfl), rfl, tyX8_ok, nmX8, rfl, by decide +kernel⟩
theorem mm_X2_176 : Cond.methodLink RX2 176 Lib.Math.max.name ∈ zm_tbl := (zm_tbl_in (List.mem_of_getElem? (i := 703) (by decide +kernel)) rfl)
theorem mm_st_max : Cond.static Lib.Math.max.name ∈ zm_tbl := (zm_tbl_in (List.mem_of_getElem? (i := 600) (by decide +kernel)) rfl)
theorem mm_co_max : Cond.code Lib.Math.max.name Lib.Math.max.code 2 (some .int) ∈ zm_tbl := (zm_tbl_in (List.mem_of_getElem? (i := 601) (by decide +kernel)) rfl)
theorem zi_4 : Int32.ofInt 4 = (4 : Int32) := by decide
theorem fl_X2_118 : zm_Fl RX2 118 8 2 3 := ⟨RX8, TX8, 19, rfl, zm_itX8, by decide, rfl, (zm_tbl_in (List.mem_of_getElem? (i := 354) (by decide +kernel)) rfl), rfl⟩
theorem cm_X2_toldName : Cond.code yX2_toldName cX2_toldName 4 (some .int) ∈ zm_tbl := (zm_tbl_in (List.mem_of_getElem? (i := 702) (by decide +kernel)) rfl)
theorem se_X2_toldName : Cond.selects RX2 yX2_toldName yX2_toldName ∈ zm_tbl := (zm_tbl_in (List.mem_of_getElem? (i := 14) (by decide +kernel)) rfl)
theorem ml_X2_121 {rm : Room} {b : Bool} {nm : String} : zm_Ml RX2 121 yX2_toldName (cX2_toldName, 4, RX2, rm, (some .int), b, nm) 2 := ⟨(zm_tbl_in (List.mem_of_getElem? (i := 699) (by decide +kernel)) rfl), (zm_tbl_in (List.mem_of_getElem? (i := 701) (by decide +kernel)) rfl), se_X2_toldName, in_X2, cm_X2_toldName, ⟨by decide +kernel, by decide +kernel, by decide +kernel⟩⟩
theorem fl_X2_125 : zm_Fl RX2 125 8 3 3 := ⟨RX8, TX8, 19, rfl, zm_itX8, by decide, rfl, (zm_tbl_in (List.mem_of_getElem? (i := 360) (by decide +kernel)) rfl), rfl⟩
theorem fl_X2_128 : zm_Fl RX2 128 8 4 3 := ⟨RX8, TX8, 19, rfl, zm_itX8, by decide, rfl, (zm_tbl_in (List.mem_of_getElem? (i := 363) (by decide +kernel)) rfl), rfl⟩
theorem fl_X2_131 : zm_Fl RX2 131 8 5 3 := ⟨RX8, TX8, 19, rfl, zm_itX8, by decide, rfl, (zm_tbl_in (List.mem_of_getElem? (i := 369) (by decide +kernel)) rfl), rfl⟩
theorem zb_99 : (Int8.ofInt 99).toInt32 = (99 : Int32) := by decide
theorem fp_X2_115 : zm_Fp RX2 115 8 12 0 .int := ⟨RX8, TX8, 19, tyX8, rfl, zm_itX8, by decide, rfl, (zm_tbl_in (List.mem_of_getElem? (i := 393) (by decide +kernel)) rfl), rfl, tyX8_ok, nmX8, rfl, by decide +kernel⟩
theorem ml_X2_149 {rm : Room} {b : Bool} {nm : String} : zm_Ml RX2 149 yX8_put (cX8_put, 3, RX8, rm, none, b, nm) 2 := ⟨(zm_tbl_in (List.mem_of_getElem? (i := 720) (by decide +kernel)) rfl), (zm_tbl_in (List.mem_of_getElem? (i := 341) (by decide +kernel)) rfl), se_X8_put, in_X8, cm_X8_put, ⟨by decide +kernel, by decide +kernel, by decide +kernel⟩⟩
theorem zs_267 : (Int16.ofInt 267).toInt32 = (267 : Int32) := by decide
theorem cm_X2_sum : Cond.code yX2_sum cX2_sum 4 none ∈ zm_tbl := (zm_tbl_in (List.mem_of_getElem? (i := 711) (by decide +kernel)) rfl)
theorem se_X2_sum : Cond.selects RX2 yX2_sum yX2_sum ∈ zm_tbl := (zm_tbl_in (List.mem_of_getElem? (i := 16) (by decide +kernel)) rfl)
theorem ml_X2_146 {rm : Room} {b : Bool} {nm : String} : zm_Ml RX2 146 yX2_sum (cX2_sum, 4, RX2, rm, none, b, nm) 1 := ⟨(zm_tbl_in (List.mem_of_getElem? (i := 708) (by decide +kernel)) rfl), (zm_tbl_in (List.mem_of_getElem? (i := 710) (by decide +kernel)) rfl), se_X2_sum, in_X2, cm_X2_sum, ⟨by decide +kernel, by decide +kernel, by decide +kernel⟩⟩
theorem zb_41 : (Int8.ofInt 41).toInt32 = (41 : Int32) := by decide
theorem cm_X2_unit : Cond.code yX2_unit cX2_unit 3 none ∈ zm_tbl := (zm_tbl_in (List.mem_of_getElem? (i := 719) (by decide +kernel)) rfl)
theorem se_X2_unit : Cond.selects RX2 yX2_unit yX2_unit ∈ zm_tbl := (zm_tbl_in (List.mem_of_getElem? (i := 18) (by decide +kernel)) rfl)
theorem ml_X2_162 {rm : Room} {b : Bool} {nm : String} : zm_Ml RX2 162 yX2_unit (cX2_unit, 3, RX2, rm, none, b, nm) 1 := ⟨(zm_tbl_in (List.mem_of_getElem? (i := 716) (by decide +kernel)) rfl), (zm_tbl_in (List.mem_of_getElem? (i := 718) (by decide +kernel)) rfl), se_X2_unit, in_X2, cm_X2_unit, ⟨by decide +kernel, by decide +kernel, by decide +kernel⟩⟩
theorem zb_42 : (Int8.ofInt 42).toInt32 = (42 : Int32) := by decide
theorem cm_X2_product : Cond.code yX2_product cX2_product 4 none ∈ zm_tbl := (zm_tbl_in (List.mem_of_getElem? (i := 715) (by decide +kernel)) rfl)
theorem se_X2_product : Cond.selects RX2 yX2_product yX2_product ∈ zm_tbl := (zm_tbl_in (List.mem_of_getElem? (i := 17) (by decide +kernel)) rfl)
theorem ml_X2_159 {rm : Room} {b : Bool} {nm : String} : zm_Ml RX2 159 yX2_product (cX2_product, 4, RX2, rm, none, b, nm) 1 := ⟨(zm_tbl_in (List.mem_of_getElem? (i := 712) (by decide +kernel)) rfl), (zm_tbl_in (List.mem_of_getElem? (i := 714) (by decide +kernel)) rfl), se_X2_product, in_X2, cm_X2_product, ⟨by decide +kernel, by decide +kernel, by decide +kernel⟩⟩
theorem zb_43 : (Int8.ofInt 43).toInt32 = (43 : Int32) := by decide
theorem zb_45 : (Int8.ofInt 45).toInt32 = (45 : Int32) := by decide
theorem fl_X2_134 : zm_Fl RX2 134 8 13 0 := ⟨RX8, TX8, 19, rfl, zm_itX8, by decide, rfl, (zm_tbl_in (List.mem_of_getElem? (i := 398) (by decide +kernel)) rfl), rfl⟩
theorem fl_X2_137 : zm_Fl RX2 137 8 6 3 := ⟨RX8, TX8, 19, rfl, zm_itX8, by decide, rfl, (zm_tbl_in (List.mem_of_getElem? (i := 373) (by decide +kernel)) rfl), rfl⟩
theorem fl_X2_140 : zm_Fl RX2 140 8 7 3 := ⟨RX8, TX8, 19, rfl, zm_itX8, by decide, rfl, (zm_tbl_in (List.mem_of_getElem? (i := 377) (by decide +kernel)) rfl), rfl⟩
theorem fl_X2_143 : zm_Fl RX2 143 8 10 0 := ⟨RX8, TX8, 19, rfl, zm_itX8, by decide, rfl, (zm_tbl_in (List.mem_of_getElem? (i := 385) (by decide +kernel)) rfl), rfl⟩
theorem zb_60 : (Int8.ofInt 60).toInt32 = (60 : Int32) := by decide
theorem fl_X2_153 : zm_Fl RX2 153 8 8 3 := ⟨RX8, TX8, 19, rfl, zm_itX8, by decide, rfl, (zm_tbl_in (List.mem_of_getElem? (i := 380) (by decide +kernel)) rfl), rfl⟩
theorem fp_X2_134 : zm_Fp RX2 134 8 13 0 .int := ⟨RX8, TX8, 19, tyX8, rfl, zm_itX8, by decide, rfl, (zm_tbl_in (List.mem_of_getElem? (i := 398) (by decide +kernel)) rfl), rfl, tyX8_ok, nmX8, rfl, by decide +kernel⟩
theorem kc_X8_79 : Cond.constant RX8 79 (98304) ∈ zm_tbl := (zm_tbl_in (List.mem_of_getElem? (i := 729) (by decide +kernel)) rfl)
theorem zb_61 : (Int8.ofInt 61).toInt32 = (61 : Int32) := by decide
theorem zs_264 : (Int16.ofInt 264).toInt32 = (264 : Int32) := by decide
theorem zs_265 : (Int16.ofInt 265).toInt32 = (265 : Int32) := by decide
theorem zs_266 : (Int16.ofInt 266).toInt32 = (266 : Int32) := by decide
theorem cm_X8_putGoal : Cond.code yX8_putGoal cX8_putGoal 2 none ∈ zm_tbl := (zm_tbl_in (List.mem_of_getElem? (i := 728) (by decide +kernel)) rfl)
theorem se_X8_putGoal : Cond.selects RX8 yX8_putGoal yX8_putGoal ∈ zm_tbl := (zm_tbl_in (List.mem_of_getElem? (i := 727) (by decide +kernel)) rfl)
theorem ml_X2_156 {rm : Room} {b : Bool} {nm : String} : zm_Ml RX2 156 yX8_putGoal (cX8_putGoal, 2, RX8, rm, none, b, nm) 1 := ⟨(zm_tbl_in (List.mem_of_getElem? (i := 725) (by decide +kernel)) rfl), (zm_tbl_in (List.mem_of_getElem? (i := 726) (by decide +kernel)) rfl), se_X8_putGoal, in_X8, cm_X8_putGoal, ⟨by decide +kernel, by decide +kernel, by decide +kernel⟩⟩
theorem fp_X2_26 : zm_Fp RX2 26 2 3 2 (.object "LentPictures$Told") := ⟨RX2, TX2, 9, tyX2, rfl, zm_itX2, by decide, rfl, (zm_tbl_in (List.mem_of_getElem? (i := 244) (by decide +kernel)) rfl), rfl, tyX2_ok, nmX2, rfl, by decide +kernel⟩
theorem cm_X8_clear : Cond.code yX8_clear cX8_clear 1 none ∈ zm_tbl := (zm_tbl_in (List.mem_of_getElem? (i := 339) (by decide +kernel)) rfl)
theorem se_X8_clear : Cond.selects RX8 yX8_clear yX8_clear ∈ zm_tbl := (zm_tbl_in (List.mem_of_getElem? (i := 338) (by decide +kernel)) rfl)
theorem ml_X2_30 {rm : Room} {b : Bool} {nm : String} : zm_Ml RX2 30 yX8_clear (cX8_clear, 1, RX8, rm, none, b, nm) 0 := ⟨(zm_tbl_in (List.mem_of_getElem? (i := 647) (by decide +kernel)) rfl), (zm_tbl_in (List.mem_of_getElem? (i := 337) (by decide +kernel)) rfl), se_X8_clear, in_X8, cm_X8_clear, ⟨by decide +kernel, by decide +kernel, by decide +kernel⟩⟩
theorem fl_X2_44 : zm_Fl RX2 44 2 8 0 := ⟨RX2, TX2, 9, rfl, zm_itX2, by decide, rfl, (zm_tbl_in (List.mem_of_getElem? (i := 249) (by decide +kernel)) rfl), rfl⟩
theorem fp_X2_22 : zm_Fp RX2 22 2 6 0 .int := ⟨RX2, TX2, 9, tyX2, rfl, zm_itX2, by decide, rfl, (zm_tbl_in (List.mem_of_getElem? (i := 247) (by decide +kernel)) rfl), rfl, tyX2_ok, nmX2, rfl, by decide +kernel⟩
theorem cm_X2_tellHouse : Cond.code yX2_tellHouse cX2_tellHouse 2 none ∈ zm_tbl := (zm_tbl_in (List.mem_of_getElem? (i := 659) (by decide +kernel)) rfl)
theorem se_X2_tellHouse : Cond.selects RX2 yX2_tellHouse yX2_tellHouse ∈ zm_tbl := (zm_tbl_in (List.mem_of_getElem? (i := 6) (by decide +kernel)) rfl)
theorem ml_X2_51 {rm : Room} {b : Bool} {nm : String} : zm_Ml RX2 51 yX2_tellHouse (cX2_tellHouse, 2, RX2, rm, none, b, nm) 0 := ⟨(zm_tbl_in (List.mem_of_getElem? (i := 656) (by decide +kernel)) rfl), (zm_tbl_in (List.mem_of_getElem? (i := 658) (by decide +kernel)) rfl), se_X2_tellHouse, in_X2, cm_X2_tellHouse, ⟨by decide +kernel, by decide +kernel, by decide +kernel⟩⟩
theorem cm_X2_tellWork : Cond.code yX2_tellWork cX2_tellWork 2 none ∈ zm_tbl := (zm_tbl_in (List.mem_of_getElem? (i := 698) (by decide +kernel)) rfl)
theorem se_X2_tellWork : Cond.selects RX2 yX2_tellWork yX2_tellWork ∈ zm_tbl := (zm_tbl_in (List.mem_of_getElem? (i := 13) (by decide +kernel)) rfl)
theorem ml_X2_54 {rm : Room} {b : Bool} {nm : String} : zm_Ml RX2 54 yX2_tellWork (cX2_tellWork, 2, RX2, rm, none, b, nm) 0 := ⟨(zm_tbl_in (List.mem_of_getElem? (i := 695) (by decide +kernel)) rfl), (zm_tbl_in (List.mem_of_getElem? (i := 697) (by decide +kernel)) rfl), se_X2_tellWork, in_X2, cm_X2_tellWork, ⟨by decide +kernel, by decide +kernel, by decide +kernel⟩⟩
theorem cm_X2_tellTerm : Cond.code yX2_tellTerm cX2_tellTerm 2 none ∈ zm_tbl := (zm_tbl_in (List.mem_of_getElem? (i := 707) (by decide +kernel)) rfl)
theorem se_X2_tellTerm : Cond.selects RX2 yX2_tellTerm yX2_tellTerm ∈ zm_tbl := (zm_tbl_in (List.mem_of_getElem? (i := 15) (by decide +kernel)) rfl)
theorem ml_X2_57 {rm : Room} {b : Bool} {nm : String} : zm_Ml RX2 57 yX2_tellTerm (cX2_tellTerm, 2, RX2, rm, none, b, nm) 0 := ⟨(zm_tbl_in (List.mem_of_getElem? (i := 704) (by decide +kernel)) rfl), (zm_tbl_in (List.mem_of_getElem? (i := 706) (by decide +kernel)) rfl), se_X2_tellTerm, in_X2, cm_X2_tellTerm, ⟨by decide +kernel, by decide +kernel, by decide +kernel⟩⟩
theorem cm_X2_law : Cond.code yX2_law cX2_law 4 (some .int) ∈ zm_tbl := (zm_tbl_in (List.mem_of_getElem? (i := 724) (by decide +kernel)) rfl)
theorem se_X2_law : Cond.selects RX2 yX2_law yX2_law ∈ zm_tbl := (zm_tbl_in (List.mem_of_getElem? (i := 19) (by decide +kernel)) rfl)
theorem ml_X2_60 {rm : Room} {b : Bool} {nm : String} : zm_Ml RX2 60 yX2_law (cX2_law, 4, RX2, rm, (some .int), b, nm) 0 := ⟨(zm_tbl_in (List.mem_of_getElem? (i := 721) (by decide +kernel)) rfl), (zm_tbl_in (List.mem_of_getElem? (i := 723) (by decide +kernel)) rfl), se_X2_law, in_X2, cm_X2_law, ⟨by decide +kernel, by decide +kernel, by decide +kernel⟩⟩
theorem fp_X2_63 : zm_Fp RX2 63 8 14 0 .int := ⟨RX8, TX8, 19, tyX8, rfl, zm_itX8, by decide, rfl, (zm_tbl_in (List.mem_of_getElem? (i := 402) (by decide +kernel)) rfl), rfl, tyX8_ok, nmX8, rfl, by decide +kernel⟩
theorem fp_X2_66 : zm_Fp RX2 66 8 15 0 .int := ⟨RX8, TX8, 19, tyX8, rfl, zm_itX8, by decide, rfl, (zm_tbl_in (List.mem_of_getElem? (i := 405) (by decide +kernel)) rfl), rfl, tyX8_ok, nmX8, rfl, by decide +kernel⟩
theorem zb_100 : (Int8.ofInt 100).toInt32 = (100 : Int32) := by decide
theorem cm_X2_onlyNumber : Cond.code yX2_onlyNumber cX2_onlyNumber 4 (some .int) ∈ zm_tbl := (zm_tbl_in (List.mem_of_getElem? (i := 733) (by decide +kernel)) rfl)
theorem se_X2_onlyNumber : Cond.selects RX2 yX2_onlyNumber yX2_onlyNumber ∈ zm_tbl := (zm_tbl_in (List.mem_of_getElem? (i := 20) (by decide +kernel)) rfl)
theorem ml_X2_69 {rm : Room} {b : Bool} {nm : String} : zm_Ml RX2 69 yX2_onlyNumber (cX2_onlyNumber, 4, RX2, rm, (some .int), b, nm) 2 := ⟨(zm_tbl_in (List.mem_of_getElem? (i := 730) (by decide +kernel)) rfl), (zm_tbl_in (List.mem_of_getElem? (i := 732) (by decide +kernel)) rfl), se_X2_onlyNumber, in_X2, cm_X2_onlyNumber, ⟨by decide +kernel, by decide +kernel, by decide +kernel⟩⟩
theorem fp_X2_73 : zm_Fp RX2 73 8 16 0 .int := ⟨RX8, TX8, 19, tyX8, rfl, zm_itX8, by decide, rfl, (zm_tbl_in (List.mem_of_getElem? (i := 408) (by decide +kernel)) rfl), rfl, tyX8_ok, nmX8, rfl, by decide +kernel⟩
theorem fp_X2_76 : zm_Fp RX2 76 8 17 0 .int := ⟨RX8, TX8, 19, tyX8, rfl, zm_itX8, by decide, rfl, (zm_tbl_in (List.mem_of_getElem? (i := 411) (by decide +kernel)) rfl), rfl, tyX8_ok, nmX8, rfl, by decide +kernel⟩
theorem zs_9999 : (Int16.ofInt 9999).toInt32 = (9999 : Int32) := by decide
theorem fp_X2_79 : zm_Fp RX2 79 8 18 0 .int := ⟨RX8, TX8, 19, tyX8, rfl, zm_itX8, by decide, rfl, (zm_tbl_in (List.mem_of_getElem? (i := 414) (by decide +kernel)) rfl), rfl, tyX8_ok, nmX8, rfl, by decide +kernel⟩
theorem fl_X4_11 : zm_Fl RX4 11 4 0 3 := ⟨RX4, TX4, 1, rfl, zm_itX4, by decide, rfl, (zm_tbl_in (List.mem_of_getElem? (i := 275) (by decide +kernel)) rfl), rfl⟩
theorem zb_10 : (Int8.ofInt 10).toInt32 = (10 : Int32) := by decide
theorem fp_X3_22 : zm_Fp RX3 22 3 2 2 (.object "LentPictures$Told") := ⟨RX3, TX3, 3, tyX3, rfl, zm_itX3, by decide, rfl, (zm_tbl_in (List.mem_of_getElem? (i := 477) (by decide +kernel)) rfl), rfl, tyX3_ok, nmX3, rfl, by decide +kernel⟩
theorem fl_X3_12 : zm_Fl RX3 12 3 0 3 := ⟨RX3, TX3, 3, rfl, zm_itX3, by decide, rfl, (zm_tbl_in (List.mem_of_getElem? (i := 475) (by decide +kernel)) rfl), rfl⟩
theorem fl_X3_26 : zm_Fl RX3 26 5 0 3 := ⟨RX5, TX5, 2, rfl, zm_itX5, by decide, rfl, (zm_tbl_in (List.mem_of_getElem? (i := 468) (by decide +kernel)) rfl), rfl⟩
theorem zb_8 : (Int8.ofInt 8).toInt32 = (8 : Int32) := by decide
theorem fl_X3_22 : zm_Fl RX3 22 3 2 2 := ⟨RX3, TX3, 3, rfl, zm_itX3, by decide, rfl, (zm_tbl_in (List.mem_of_getElem? (i := 477) (by decide +kernel)) rfl), rfl⟩
theorem fl_X3_29 : zm_Fl RX3 29 8 12 0 := ⟨RX8, TX8, 19, rfl, zm_itX8, by decide, rfl, (zm_tbl_in (List.mem_of_getElem? (i := 392) (by decide +kernel)) rfl), rfl⟩
theorem fl_X3_18 : zm_Fl RX3 18 3 1 3 := ⟨RX3, TX3, 3, rfl, zm_itX3, by decide, rfl, (zm_tbl_in (List.mem_of_getElem? (i := 476) (by decide +kernel)) rfl), rfl⟩
theorem cm_X4_arrival : Cond.code yX4_arrival cX4_arrival 2 (some .int) ∈ zm_tbl := (zm_tbl_in (List.mem_of_getElem? (i := 788) (by decide +kernel)) rfl)
theorem in_X4 : Cond.initialized RX4 ∈ zm_tbl := (zm_tbl_in (List.mem_of_getElem? (i := 135) (by decide +kernel)) rfl)
theorem se_X4_arrival : Cond.selects RX4 yX4_arrival yX4_arrival ∈ zm_tbl := (zm_tbl_in (List.mem_of_getElem? (i := 787) (by decide +kernel)) rfl)
theorem ml_X3_35 {rm : Room} {b : Bool} {nm : String} : zm_Ml RX3 35 yX4_arrival (cX4_arrival, 2, RX4, rm, (some .int), b, nm) 1 := ⟨(zm_tbl_in (List.mem_of_getElem? (i := 810) (by decide +kernel)) rfl), (zm_tbl_in (List.mem_of_getElem? (i := 786) (by decide +kernel)) rfl), se_X4_arrival, in_X4, cm_X4_arrival, ⟨by decide +kernel, by decide +kernel, by decide +kernel⟩⟩
theorem cm_X4_goal : Cond.code yX4_goal cX4_goal 2 (some .int) ∈ zm_tbl := (zm_tbl_in (List.mem_of_getElem? (i := 780) (by decide +kernel)) rfl)
theorem se_X4_goal : Cond.selects RX4 yX4_goal yX4_goal ∈ zm_tbl := (zm_tbl_in (List.mem_of_getElem? (i := 779) (by decide +kernel)) rfl)
theorem ml_X3_41 {rm : Room} {b : Bool} {nm : String} : zm_Ml RX3 41 yX4_goal (cX4_goal, 2, RX4, rm, (some .int), b, nm) 1 := ⟨(zm_tbl_in (List.mem_of_getElem? (i := 811) (by decide +kernel)) rfl), (zm_tbl_in (List.mem_of_getElem? (i := 778) (by decide +kernel)) rfl), se_X4_goal, in_X4, cm_X4_goal, ⟨by decide +kernel, by decide +kernel, by decide +kernel⟩⟩
theorem fl_X3_51 : zm_Fl RX3 51 8 0 3 := ⟨RX8, TX8, 19, rfl, zm_itX8, by decide, rfl, (zm_tbl_in (List.mem_of_getElem? (i := 346) (by decide +kernel)) rfl), rfl⟩
theorem fl_X3_54 : zm_Fl RX3 54 8 1 3 := ⟨RX8, TX8, 19, rfl, zm_itX8, by decide, rfl, (zm_tbl_in (List.mem_of_getElem? (i := 350) (by decide +kernel)) rfl), rfl⟩
theorem fl_X3_44 : zm_Fl RX3 44 8 4 3 := ⟨RX8, TX8, 19, rfl, zm_itX8, by decide, rfl, (zm_tbl_in (List.mem_of_getElem? (i := 362) (by decide +kernel)) rfl), rfl⟩
theorem fl_X3_57 : zm_Fl RX3 57 8 5 3 := ⟨RX8, TX8, 19, rfl, zm_itX8, by decide, rfl, (zm_tbl_in (List.mem_of_getElem? (i := 368) (by decide +kernel)) rfl), rfl⟩
theorem fl_X3_60 : zm_Fl RX3 60 8 2 3 := ⟨RX8, TX8, 19, rfl, zm_itX8, by decide, rfl, (zm_tbl_in (List.mem_of_getElem? (i := 355) (by decide +kernel)) rfl), rfl⟩
theorem cm_X3_enterAmong : Cond.code yX3_enterAmong cX3_enterAmong 6 none ∈ zm_tbl := (zm_tbl_in (List.mem_of_getElem? (i := 823) (by decide +kernel)) rfl)
theorem in_X3 : Cond.initialized RX3 ∈ zm_tbl := (zm_tbl_in (List.mem_of_getElem? (i := 139) (by decide +kernel)) rfl)
theorem se_X3_enterAmong : Cond.selects RX3 yX3_enterAmong yX3_enterAmong ∈ zm_tbl := (zm_tbl_in (List.mem_of_getElem? (i := 822) (by decide +kernel)) rfl)
theorem ml_X3_47 {rm : Room} {b : Bool} {nm : String} : zm_Ml RX3 47 yX3_enterAmong (cX3_enterAmong, 6, RX3, rm, none, b, nm) 4 := ⟨(zm_tbl_in (List.mem_of_getElem? (i := 820) (by decide +kernel)) rfl), (zm_tbl_in (List.mem_of_getElem? (i := 821) (by decide +kernel)) rfl), se_X3_enterAmong, in_X3, cm_X3_enterAmong, ⟨by decide +kernel, by decide +kernel, by decide +kernel⟩⟩
theorem fl_X5_13 : zm_Fl RX5 13 5 1 3 := ⟨RX5, TX5, 2, rfl, zm_itX5, by decide, rfl, (zm_tbl_in (List.mem_of_getElem? (i := 469) (by decide +kernel)) rfl), rfl⟩
theorem fl_X5_18 : zm_Fl RX5 18 8 10 0 := ⟨RX8, TX8, 19, rfl, zm_itX8, by decide, rfl, (zm_tbl_in (List.mem_of_getElem? (i := 383) (by decide +kernel)) rfl), rfl⟩
theorem fl_X5_22 : zm_Fl RX5 22 8 9 3 := ⟨RX8, TX8, 19, rfl, zm_itX8, by decide, rfl, (zm_tbl_in (List.mem_of_getElem? (i := 382) (by decide +kernel)) rfl), rfl⟩
theorem zb_24 : (Int8.ofInt 24).toInt32 = (24 : Int32) := by decide
theorem fl_X5_9 : zm_Fl RX5 9 5 0 3 := ⟨RX5, TX5, 2, rfl, zm_itX5, by decide, rfl, (zm_tbl_in (List.mem_of_getElem? (i := 467) (by decide +kernel)) rfl), rfl⟩
theorem fl_X3_63 : zm_Fl RX3 63 8 7 3 := ⟨RX8, TX8, 19, rfl, zm_itX8, by decide, rfl, (zm_tbl_in (List.mem_of_getElem? (i := 376) (by decide +kernel)) rfl), rfl⟩
theorem cm_X5_goThrough : Cond.code yX5_goThrough cX5_goThrough 10 (some .int) ∈ zm_tbl := (zm_tbl_in (List.mem_of_getElem? (i := 831) (by decide +kernel)) rfl)
theorem in_X5 : Cond.initialized RX5 ∈ zm_tbl := (zm_tbl_in (List.mem_of_getElem? (i := 140) (by decide +kernel)) rfl)
theorem se_X5_goThrough : Cond.selects RX5 yX5_goThrough yX5_goThrough ∈ zm_tbl := (zm_tbl_in (List.mem_of_getElem? (i := 830) (by decide +kernel)) rfl)
theorem ml_X3_66 {rm : Room} {b : Bool} {nm : String} : zm_Ml RX3 66 yX5_goThrough (cX5_goThrough, 10, RX5, rm, (some .int), b, nm) 2 := ⟨(zm_tbl_in (List.mem_of_getElem? (i := 828) (by decide +kernel)) rfl), (zm_tbl_in (List.mem_of_getElem? (i := 829) (by decide +kernel)) rfl), se_X5_goThrough, in_X5, cm_X5_goThrough, ⟨by decide +kernel, by decide +kernel, by decide +kernel⟩⟩
theorem fl_X3_70 : zm_Fl RX3 70 8 8 3 := ⟨RX8, TX8, 19, rfl, zm_itX8, by decide, rfl, (zm_tbl_in (List.mem_of_getElem? (i := 379) (by decide +kernel)) rfl), rfl⟩
theorem fl_X3_73 : zm_Fl RX3 73 8 13 0 := ⟨RX8, TX8, 19, rfl, zm_itX8, by decide, rfl, (zm_tbl_in (List.mem_of_getElem? (i := 399) (by decide +kernel)) rfl), rfl⟩
theorem cm_X3_keptAsEntered : Cond.code yX3_keptAsEntered cX3_keptAsEntered 2 (some .boolean) ∈ zm_tbl := (zm_tbl_in (List.mem_of_getElem? (i := 869) (by decide +kernel)) rfl)
theorem se_X3_keptAsEntered : Cond.selects RX3 yX3_keptAsEntered yX3_keptAsEntered ∈ zm_tbl := (zm_tbl_in (List.mem_of_getElem? (i := 31) (by decide +kernel)) rfl)
theorem ml_X3_76 {rm : Room} {b : Bool} {nm : String} : zm_Ml RX3 76 yX3_keptAsEntered (cX3_keptAsEntered, 2, RX3, rm, (some .boolean), b, nm) 1 := ⟨(zm_tbl_in (List.mem_of_getElem? (i := 866) (by decide +kernel)) rfl), (zm_tbl_in (List.mem_of_getElem? (i := 868) (by decide +kernel)) rfl), se_X3_keptAsEntered, in_X3, cm_X3_keptAsEntered, ⟨by decide +kernel, by decide +kernel, by decide +kernel⟩⟩
theorem fl_X3_80 : zm_Fl RX3 80 8 6 3 := ⟨RX8, TX8, 19, rfl, zm_itX8, by decide, rfl, (zm_tbl_in (List.mem_of_getElem? (i := 374) (by decide +kernel)) rfl), rfl⟩
theorem cm_X3_enter : Cond.code yX3_enter cX3_enter 7 none ∈ zm_tbl := (zm_tbl_in (List.mem_of_getElem? (i := 819) (by decide +kernel)) rfl)
theorem se_X3_enter : Cond.selects RX3 yX3_enter yX3_enter ∈ zm_tbl := (zm_tbl_in (List.mem_of_getElem? (i := 27) (by decide +kernel)) rfl)
theorem ml_X3_83 {rm : Room} {b : Bool} {nm : String} : zm_Ml RX3 83 yX3_enter (cX3_enter, 7, RX3, rm, none, b, nm) 3 := ⟨(zm_tbl_in (List.mem_of_getElem? (i := 816) (by decide +kernel)) rfl), (zm_tbl_in (List.mem_of_getElem? (i := 818) (by decide +kernel)) rfl), se_X3_enter, in_X3, cm_X3_enter, ⟨by decide +kernel, by decide +kernel, by decide +kernel⟩⟩
theorem fl_X8_52 : zm_Fl RX8 52 8 13 0 := ⟨RX8, TX8, 19, rfl, zm_itX8, by decide, rfl, (zm_tbl_in (List.mem_of_getElem? (i := 397) (by decide +kernel)) rfl), rfl⟩
theorem fl_X8_30 : zm_Fl RX8 30 8 6 3 := ⟨RX8, TX8, 19, rfl, zm_itX8, by decide, rfl, (zm_tbl_in (List.mem_of_getElem? (i := 372) (by decide +kernel)) rfl), rfl⟩
theorem cm_X8_termsOf : Cond.code yX8_termsOf cX8_termsOf 4 (some .int) ∈ zm_tbl := (zm_tbl_in (List.mem_of_getElem? (i := 848) (by decide +kernel)) rfl)
theorem se_X8_termsOf : Cond.selects RX8 yX8_termsOf yX8_termsOf ∈ zm_tbl := (zm_tbl_in (List.mem_of_getElem? (i := 847) (by decide +kernel)) rfl)
theorem ml_X3_87 {rm : Room} {b : Bool} {nm : String} : zm_Ml RX3 87 yX8_termsOf (cX8_termsOf, 4, RX8, rm, (some .int), b, nm) 1 := ⟨(zm_tbl_in (List.mem_of_getElem? (i := 861) (by decide +kernel)) rfl), (zm_tbl_in (List.mem_of_getElem? (i := 846) (by decide +kernel)) rfl), se_X8_termsOf, in_X8, cm_X8_termsOf, ⟨by decide +kernel, by decide +kernel, by decide +kernel⟩⟩
theorem cm_X3_brokenAsEntered : Cond.code yX3_brokenAsEntered cX3_brokenAsEntered 4 (some .int) ∈ zm_tbl := (zm_tbl_in (List.mem_of_getElem? (i := 865) (by decide +kernel)) rfl)
theorem se_X3_brokenAsEntered : Cond.selects RX3 yX3_brokenAsEntered yX3_brokenAsEntered ∈ zm_tbl := (zm_tbl_in (List.mem_of_getElem? (i := 864) (by decide +kernel)) rfl)
theorem ml_X3_90 {rm : Room} {b : Bool} {nm : String} : zm_Ml RX3 90 yX3_brokenAsEntered (cX3_brokenAsEntered, 4, RX3, rm, (some .int), b, nm) 1 := ⟨(zm_tbl_in (List.mem_of_getElem? (i := 862) (by decide +kernel)) rfl), (zm_tbl_in (List.mem_of_getElem? (i := 863) (by decide +kernel)) rfl), se_X3_brokenAsEntered, in_X3, cm_X3_brokenAsEntered, ⟨by decide +kernel, by decide +kernel, by decide +kernel⟩⟩
theorem cm_X3_canHang : Cond.code yX3_canHang cX3_canHang 4 (some .boolean) ∈ zm_tbl := (zm_tbl_in (List.mem_of_getElem? (i := 860) (by decide +kernel)) rfl)
theorem se_X3_canHang : Cond.selects RX3 yX3_canHang yX3_canHang ∈ zm_tbl := (zm_tbl_in (List.mem_of_getElem? (i := 859) (by decide +kernel)) rfl)
theorem ml_X3_93 {rm : Room} {b : Bool} {nm : String} : zm_Ml RX3 93 yX3_canHang (cX3_canHang, 4, RX3, rm, (some .boolean), b, nm) 3 := ⟨(zm_tbl_in (List.mem_of_getElem? (i := 961) (by decide +kernel)) rfl), (zm_tbl_in (List.mem_of_getElem? (i := 858) (by decide +kernel)) rfl), se_X3_canHang, in_X3, cm_X3_canHang, ⟨by decide +kernel, by decide +kernel, by decide +kernel⟩⟩
theorem fl_X3_101 : zm_Fl RX3 101 8 15 0 := ⟨RX8, TX8, 19, rfl, zm_itX8, by decide, rfl, (zm_tbl_in (List.mem_of_getElem? (i := 406) (by decide +kernel)) rfl), rfl⟩
theorem mm_X3_104 : Cond.methodLink RX3 104 Lib.Math.min.name ∈ zm_tbl := (zm_tbl_in (List.mem_of_getElem? (i := 832) (by decide +kernel)) rfl)
theorem mm_X3_110 : Cond.methodLink RX3 110 Lib.Math.max.name ∈ zm_tbl := (zm_tbl_in (List.mem_of_getElem? (i := 833) (by decide +kernel)) rfl)
theorem cm_X3_likingAsEntered : Cond.code yX3_likingAsEntered cX3_likingAsEntered 1 (some .int) ∈ zm_tbl := (zm_tbl_in (List.mem_of_getElem? (i := 827) (by decide +kernel)) rfl)
theorem se_X3_likingAsEntered : Cond.selects RX3 yX3_likingAsEntered yX3_likingAsEntered ∈ zm_tbl := (zm_tbl_in (List.mem_of_getElem? (i := 28) (by decide +kernel)) rfl)
theorem ml_X3_97 {rm : Room} {b : Bool} {nm : String} : zm_Ml RX3 97 yX3_likingAsEntered (cX3_likingAsEntered, 1, RX3, rm, (some .int), b, nm) 0 := ⟨(zm_tbl_in (List.mem_of_getElem? (i := 824) (by decide +kernel)) rfl), (zm_tbl_in (List.mem_of_getElem? (i := 826) (by decide +kernel)) rfl), se_X3_likingAsEntered, in_X3, cm_X3_likingAsEntered, ⟨by decide +kernel, by decide +kernel, by decide +kernel⟩⟩
theorem fl_X3_113 : zm_Fl RX3 113 8 14 0 := ⟨RX8, TX8, 19, rfl, zm_itX8, by decide, rfl, (zm_tbl_in (List.mem_of_getElem? (i := 403) (by decide +kernel)) rfl), rfl⟩
theorem ml_X4_15 {rm : Room} {b : Bool} {nm : String} : zm_Sl RX4 15 yJ7_fill_53178 (cJ7_fill_53178, 4, RJ7, rm, none, b, nm) 2 := ⟨(zm_tbl_in (List.mem_of_getElem? (i := 746) (by decide +kernel)) rfl), (zm_tbl_in (List.mem_of_getElem? (i := 747) (by decide +kernel)) rfl), in_J7, cm_J7_fill_53178, ⟨by decide +kernel, by decide +kernel, by decide +kernel⟩⟩
theorem fl_X4_21 : zm_Fl RX4 21 8 12 0 := ⟨RX8, TX8, 19, rfl, zm_itX8, by decide, rfl, (zm_tbl_in (List.mem_of_getElem? (i := 391) (by decide +kernel)) rfl), rfl⟩
theorem fl_X4_27 : zm_Fl RX4 27 8 3 3 := ⟨RX8, TX8, 19, rfl, zm_itX8, by decide, rfl, (zm_tbl_in (List.mem_of_getElem? (i := 359) (by decide +kernel)) rfl), rfl⟩
theorem ml_X4_30 {rm : Room} {b : Bool} {nm : String} : zm_Ml RX4 30 yX4_arrival (cX4_arrival, 2, RX4, rm, (some .int), b, nm) 1 := ⟨(zm_tbl_in (List.mem_of_getElem? (i := 785) (by decide +kernel)) rfl), (zm_tbl_in (List.mem_of_getElem? (i := 786) (by decide +kernel)) rfl), se_X4_arrival, in_X4, cm_X4_arrival, ⟨by decide +kernel, by decide +kernel, by decide +kernel⟩⟩
theorem cm_X4_today : Cond.code yX4_today cX4_today 1 (some .int) ∈ zm_tbl := (zm_tbl_in (List.mem_of_getElem? (i := 792) (by decide +kernel)) rfl)
theorem se_X4_today : Cond.selects RX4 yX4_today yX4_today ∈ zm_tbl := (zm_tbl_in (List.mem_of_getElem? (i := 791) (by decide +kernel)) rfl)
theorem ml_X4_34 {rm : Room} {b : Bool} {nm : String} : zm_Ml RX4 34 yX4_today (cX4_today, 1, RX4, rm, (some .int), b, nm) 0 := ⟨(zm_tbl_in (List.mem_of_getElem? (i := 789) (by decide +kernel)) rfl), (zm_tbl_in (List.mem_of_getElem? (i := 790) (by decide +kernel)) rfl), se_X4_today, in_X4, cm_X4_today, ⟨by decide +kernel, by decide +kernel, by decide +kernel⟩⟩
theorem ml_X4_38 {rm : Room} {b : Bool} {nm : String} : zm_Ml RX4 38 yX4_goal (cX4_goal, 2, RX4, rm, (some .int), b, nm) 1 := ⟨(zm_tbl_in (List.mem_of_getElem? (i := 777) (by decide +kernel)) rfl), (zm_tbl_in (List.mem_of_getElem? (i := 778) (by decide +kernel)) rfl), se_X4_goal, in_X4, cm_X4_goal, ⟨by decide +kernel, by decide +kernel, by decide +kernel⟩⟩
theorem cm_X4_underWay : Cond.code yX4_underWay cX4_underWay 2 (some .boolean) ∈ zm_tbl := (zm_tbl_in (List.mem_of_getElem? (i := 784) (by decide +kernel)) rfl)
theorem se_X4_underWay : Cond.selects RX4 yX4_underWay yX4_underWay ∈ zm_tbl := (zm_tbl_in (List.mem_of_getElem? (i := 783) (by decide +kernel)) rfl)
theorem ml_X4_41 {rm : Room} {b : Bool} {nm : String} : zm_Ml RX4 41 yX4_underWay (cX4_underWay, 2, RX4, rm, (some .boolean), b, nm) 1 := ⟨(zm_tbl_in (List.mem_of_getElem? (i := 781) (by decide +kernel)) rfl), (zm_tbl_in (List.mem_of_getElem? (i := 782) (by decide +kernel)) rfl), se_X4_underWay, in_X4, cm_X4_underWay, ⟨by decide +kernel, by decide +kernel, by decide +kernel⟩⟩
theorem zb_22 : (Int8.ofInt 22).toInt32 = (22 : Int32) := by decide
theorem zb_16 : (Int8.ofInt 16).toInt32 = (16 : Int32) := by decide
theorem fs_X6_48 : Cond.fieldLink RX6 48 "LentPictures$Survey" "STEPS" "[I" ∈ zm_tbl := (zm_tbl_in (List.mem_of_getElem? (i := 1073) (by decide +kernel)) rfl)
theorem fl_X6_11 : zm_Fl RX6 11 6 1 3 := ⟨RX6, TX6, 15, rfl, zm_itX6, by decide, rfl, (zm_tbl_in (List.mem_of_getElem? (i := 981) (by decide +kernel)) rfl), rfl⟩
theorem fl_X6_15 : zm_Fl RX6 15 6 2 3 := ⟨RX6, TX6, 15, rfl, zm_itX6, by decide, rfl, (zm_tbl_in (List.mem_of_getElem? (i := 982) (by decide +kernel)) rfl), rfl⟩
theorem fl_X6_51 : zm_Fl RX6 51 6 13 0 := ⟨RX6, TX6, 15, rfl, zm_itX6, by decide, rfl, (zm_tbl_in (List.mem_of_getElem? (i := 993) (by decide +kernel)) rfl), rfl⟩
theorem fl_X6_55 : zm_Fl RX6 55 6 14 0 := ⟨RX6, TX6, 15, rfl, zm_itX6, by decide, rfl, (zm_tbl_in (List.mem_of_getElem? (i := 994) (by decide +kernel)) rfl), rfl⟩
theorem fl_X6_25 : zm_Fl RX6 25 6 5 3 := ⟨RX6, TX6, 15, rfl, zm_itX6, by decide, rfl, (zm_tbl_in (List.mem_of_getElem? (i := 985) (by decide +kernel)) rfl), rfl⟩
theorem fl_X6_47 : zm_Fl RX6 47 6 10 2 := ⟨RX6, TX6, 15, rfl, zm_itX6, by decide, rfl, (zm_tbl_in (List.mem_of_getElem? (i := 990) (by decide +kernel)) rfl), rfl⟩
theorem fl_X6_94 : zm_Fl RX6 94 8 11 0 := ⟨RX8, TX8, 19, rfl, zm_itX8, by decide, rfl, (zm_tbl_in (List.mem_of_getElem? (i := 388) (by decide +kernel)) rfl), rfl⟩
theorem fl_X6_74 : zm_Fl RX6 74 8 12 0 := ⟨RX8, TX8, 19, rfl, zm_itX8, by decide, rfl, (zm_tbl_in (List.mem_of_getElem? (i := 395) (by decide +kernel)) rfl), rfl⟩
theorem fl_X6_97 : zm_Fl RX6 97 8 1 3 := ⟨RX8, TX8, 19, rfl, zm_itX8, by decide, rfl, (zm_tbl_in (List.mem_of_getElem? (i := 352) (by decide +kernel)) rfl), rfl⟩
theorem mm_X6_100 : Cond.methodLink RX6 100 Lib.Math.min.name ∈ zm_tbl := (zm_tbl_in (List.mem_of_getElem? (i := 1054) (by decide +kernel)) rfl)
theorem fl_X6_37 : zm_Fl RX6 37 6 0 3 := ⟨RX6, TX6, 15, rfl, zm_itX6, by decide, rfl, (zm_tbl_in (List.mem_of_getElem? (i := 980) (by decide +kernel)) rfl), rfl⟩
theorem ml_X6_106 {rm : Room} {b : Bool} {nm : String} : zm_Ml RX6 106 yX3_enterAmong (cX3_enterAmong, 6, RX3, rm, none, b, nm) 4 := ⟨(zm_tbl_in (List.mem_of_getElem? (i := 1055) (by decide +kernel)) rfl), (zm_tbl_in (List.mem_of_getElem? (i := 821) (by decide +kernel)) rfl), se_X3_enterAmong, in_X3, cm_X3_enterAmong, ⟨by decide +kernel, by decide +kernel, by decide +kernel⟩⟩
theorem fl_X6_18 : zm_Fl RX6 18 6 3 3 := ⟨RX6, TX6, 15, rfl, zm_itX6, by decide, rfl, (zm_tbl_in (List.mem_of_getElem? (i := 983) (by decide +kernel)) rfl), rfl⟩
theorem cm_X6_brokenAt : Cond.code yX6_brokenAt cX6_brokenAt 4 (some .int) ∈ zm_tbl := (zm_tbl_in (List.mem_of_getElem? (i := 1058) (by decide +kernel)) rfl)
theorem in_X6 : Cond.initialized RX6 ∈ zm_tbl := (zm_tbl_in (List.mem_of_getElem? (i := 146) (by decide +kernel)) rfl)
theorem ml_X6_110 {rm : Room} {b : Bool} {nm : String} : zm_Sl RX6 110 yX6_brokenAt (cX6_brokenAt, 4, RX6, rm, (some .int), b, nm) 4 := ⟨(zm_tbl_in (List.mem_of_getElem? (i := 1056) (by decide +kernel)) rfl), (zm_tbl_in (List.mem_of_getElem? (i := 1057) (by decide +kernel)) rfl), in_X6, cm_X6_brokenAt, ⟨by decide +kernel, by decide +kernel, by decide +kernel⟩⟩
theorem ml_X6_114 {rm : Room} {b : Bool} {nm : String} : zm_Ml RX6 114 yX3_brokenAsEntered (cX3_brokenAsEntered, 4, RX3, rm, (some .int), b, nm) 1 := ⟨(zm_tbl_in (List.mem_of_getElem? (i := 1059) (by decide +kernel)) rfl), (zm_tbl_in (List.mem_of_getElem? (i := 863) (by decide +kernel)) rfl), se_X3_brokenAsEntered, in_X3, cm_X3_brokenAsEntered, ⟨by decide +kernel, by decide +kernel, by decide +kernel⟩⟩
theorem fl_X6_91 : zm_Fl RX6 91 8 4 3 := ⟨RX8, TX8, 19, rfl, zm_itX8, by decide, rfl, (zm_tbl_in (List.mem_of_getElem? (i := 365) (by decide +kernel)) rfl), rfl⟩
theorem fl_X6_71 : zm_Fl RX6 71 6 9 0 := ⟨RX6, TX6, 15, rfl, zm_itX6, by decide, rfl, (zm_tbl_in (List.mem_of_getElem? (i := 989) (by decide +kernel)) rfl), rfl⟩
theorem fl_X6_34 : zm_Fl RX6 34 6 8 3 := ⟨RX6, TX6, 15, rfl, zm_itX6, by decide, rfl, (zm_tbl_in (List.mem_of_getElem? (i := 988) (by decide +kernel)) rfl), rfl⟩
theorem fl_X6_22 : zm_Fl RX6 22 6 4 3 := ⟨RX6, TX6, 15, rfl, zm_itX6, by decide, rfl, (zm_tbl_in (List.mem_of_getElem? (i := 984) (by decide +kernel)) rfl), rfl⟩
theorem fl_X6_31 : zm_Fl RX6 31 6 7 3 := ⟨RX6, TX6, 15, rfl, zm_itX6, by decide, rfl, (zm_tbl_in (List.mem_of_getElem? (i := 987) (by decide +kernel)) rfl), rfl⟩
theorem fl_X6_28 : zm_Fl RX6 28 6 6 3 := ⟨RX6, TX6, 15, rfl, zm_itX6, by decide, rfl, (zm_tbl_in (List.mem_of_getElem? (i := 986) (by decide +kernel)) rfl), rfl⟩
theorem cm_X6_brokenInRow : Cond.code yX6_brokenInRow cX6_brokenInRow 6 (some .int) ∈ zm_tbl := (zm_tbl_in (List.mem_of_getElem? (i := 1071) (by decide +kernel)) rfl)
theorem se_X6_brokenInRow : Cond.selects RX6 yX6_brokenInRow yX6_brokenInRow ∈ zm_tbl := (zm_tbl_in (List.mem_of_getElem? (i := 40) (by decide +kernel)) rfl)
theorem ml_X6_123 {rm : Room} {b : Bool} {nm : String} : zm_Ml RX6 123 yX6_brokenInRow (cX6_brokenInRow, 6, RX6, rm, (some .int), b, nm) 0 := ⟨(zm_tbl_in (List.mem_of_getElem? (i := 1068) (by decide +kernel)) rfl), (zm_tbl_in (List.mem_of_getElem? (i := 1070) (by decide +kernel)) rfl), se_X6_brokenInRow, in_X6, cm_X6_brokenInRow, ⟨by decide +kernel, by decide +kernel, by decide +kernel⟩⟩
theorem fl_X6_67 : zm_Fl RX6 67 6 12 1 := ⟨RX6, TX6, 15, rfl, zm_itX6, by decide, rfl, (zm_tbl_in (List.mem_of_getElem? (i := 992) (by decide +kernel)) rfl), rfl⟩
theorem fp_X6_67 : zm_Fp RX6 67 6 12 1 .long := ⟨RX6, TX6, 15, tyX6, rfl, zm_itX6, by decide, rfl, (zm_tbl_in (List.mem_of_getElem? (i := 992) (by decide +kernel)) rfl), rfl, tyX6_ok, nmX6, rfl, by decide +kernel⟩
theorem zs_625 : (Int16.ofInt 625).toInt32 = (625 : Int32) := by decide
theorem zb_63 : (Int8.ofInt 63).toInt32 = (63 : Int32) := by decide
theorem fp_X6_51 : zm_Fp RX6 51 6 13 0 .int := ⟨RX6, TX6, 15, tyX6, rfl, zm_itX6, by decide, rfl, (zm_tbl_in (List.mem_of_getElem? (i := 993) (by decide +kernel)) rfl), rfl, tyX6_ok, nmX6, rfl, by decide +kernel⟩
theorem fp_X6_55 : zm_Fp RX6 55 6 14 0 .int := ⟨RX6, TX6, 15, tyX6, rfl, zm_itX6, by decide, rfl, (zm_tbl_in (List.mem_of_getElem? (i := 994) (by decide +kernel)) rfl), rfl, tyX6_ok, nmX6, rfl, by decide +kernel⟩
theorem ac_X6_127 : Cond.methodLink RX6 127 arraycopyName ∈ zm_tbl := (zm_tbl_in (List.mem_of_getElem? (i := 1072) (by decide +kernel)) rfl)
theorem cm_X6_keepRow : Cond.code yX6_keepRow cX6_keepRow 7 none ∈ zm_tbl := (zm_tbl_in (List.mem_of_getElem? (i := 1067) (by decide +kernel)) rfl)
theorem se_X6_keepRow : Cond.selects RX6 yX6_keepRow yX6_keepRow ∈ zm_tbl := (zm_tbl_in (List.mem_of_getElem? (i := 39) (by decide +kernel)) rfl)
theorem ml_X6_117 {rm : Room} {b : Bool} {nm : String} : zm_Ml RX6 117 yX6_keepRow (cX6_keepRow, 7, RX6, rm, none, b, nm) 2 := ⟨(zm_tbl_in (List.mem_of_getElem? (i := 1064) (by decide +kernel)) rfl), (zm_tbl_in (List.mem_of_getElem? (i := 1066) (by decide +kernel)) rfl), se_X6_keepRow, in_X6, cm_X6_keepRow, ⟨by decide +kernel, by decide +kernel, by decide +kernel⟩⟩
theorem cm_X3_spot : Cond.code yX3_spot cX3_spot 2 (some .int) ∈ zm_tbl := (zm_tbl_in (List.mem_of_getElem? (i := 1078) (by decide +kernel)) rfl)
theorem se_X3_spot : Cond.selects RX3 yX3_spot yX3_spot ∈ zm_tbl := (zm_tbl_in (List.mem_of_getElem? (i := 1077) (by decide +kernel)) rfl)
theorem ml_X6_120 {rm : Room} {b : Bool} {nm : String} : zm_Ml RX6 120 yX3_spot (cX3_spot, 2, RX3, rm, (some .int), b, nm) 1 := ⟨(zm_tbl_in (List.mem_of_getElem? (i := 1075) (by decide +kernel)) rfl), (zm_tbl_in (List.mem_of_getElem? (i := 1076) (by decide +kernel)) rfl), se_X3_spot, in_X3, cm_X3_spot, ⟨by decide +kernel, by decide +kernel, by decide +kernel⟩⟩
theorem cm_X6_hang : Cond.code yX6_hang cX6_hang 6 none ∈ zm_tbl := (zm_tbl_in (List.mem_of_getElem? (i := 1063) (by decide +kernel)) rfl)
theorem se_X6_hang : Cond.selects RX6 yX6_hang yX6_hang ∈ zm_tbl := (zm_tbl_in (List.mem_of_getElem? (i := 38) (by decide +kernel)) rfl)
theorem ml_X6_87 {rm : Room} {b : Bool} {nm : String} : zm_Ml RX6 87 yX6_hang (cX6_hang, 6, RX6, rm, none, b, nm) 3 := ⟨(zm_tbl_in (List.mem_of_getElem? (i := 1060) (by decide +kernel)) rfl), (zm_tbl_in (List.mem_of_getElem? (i := 1062) (by decide +kernel)) rfl), se_X6_hang, in_X6, cm_X6_hang, ⟨by decide +kernel, by decide +kernel, by decide +kernel⟩⟩
theorem fp_X6_47 : zm_Fp RX6 47 6 10 2 (.object "LentPictures$Told") := ⟨RX6, TX6, 15, tyX6, rfl, zm_itX6, by decide, rfl, (zm_tbl_in (List.mem_of_getElem? (i := 990) (by decide +kernel)) rfl), rfl, tyX6_ok, nmX6, rfl, by decide +kernel⟩
theorem fp_X6_58 : zm_Fp RX6 58 6 11 0 .int := ⟨RX6, TX6, 15, tyX6, rfl, zm_itX6, by decide, rfl, (zm_tbl_in (List.mem_of_getElem? (i := 991) (by decide +kernel)) rfl), rfl, tyX6_ok, nmX6, rfl, by decide +kernel⟩
theorem cm_J7_fill_d0a16 : Cond.code yJ7_fill_d0a16 cJ7_fill_d0a16 5 none ∈ zm_tbl := (zm_tbl_in (List.mem_of_getElem? (i := 1048) (by decide +kernel)) rfl)
theorem ml_X6_61 {rm : Room} {b : Bool} {nm : String} : zm_Sl RX6 61 yJ7_fill_d0a16 (cJ7_fill_d0a16, 5, RJ7, rm, none, b, nm) 2 := ⟨(zm_tbl_in (List.mem_of_getElem? (i := 1046) (by decide +kernel)) rfl), (zm_tbl_in (List.mem_of_getElem? (i := 1047) (by decide +kernel)) rfl), in_J7, cm_J7_fill_d0a16, ⟨by decide +kernel, by decide +kernel, by decide +kernel⟩⟩
theorem fp_X6_71 : zm_Fp RX6 71 6 9 0 .int := ⟨RX6, TX6, 15, tyX6, rfl, zm_itX6, by decide, rfl, (zm_tbl_in (List.mem_of_getElem? (i := 989) (by decide +kernel)) rfl), rfl, tyX6_ok, nmX6, rfl, by decide +kernel⟩
theorem ml_X6_79 {rm : Room} {b : Bool} {nm : String} : zm_Ml RX6 79 yX8_termsOf (cX8_termsOf, 4, RX8, rm, (some .int), b, nm) 1 := ⟨(zm_tbl_in (List.mem_of_getElem? (i := 1049) (by decide +kernel)) rfl), (zm_tbl_in (List.mem_of_getElem? (i := 846) (by decide +kernel)) rfl), se_X8_termsOf, in_X8, cm_X8_termsOf, ⟨by decide +kernel, by decide +kernel, by decide +kernel⟩⟩
theorem fl_X6_58 : zm_Fl RX6 58 6 11 0 := ⟨RX6, TX6, 15, rfl, zm_itX6, by decide, rfl, (zm_tbl_in (List.mem_of_getElem? (i := 991) (by decide +kernel)) rfl), rfl⟩
theorem cm_X6_fillBroken : Cond.code yX6_fillBroken cX6_fillBroken 8 none ∈ zm_tbl := (zm_tbl_in (List.mem_of_getElem? (i := 1053) (by decide +kernel)) rfl)
theorem se_X6_fillBroken : Cond.selects RX6 yX6_fillBroken yX6_fillBroken ∈ zm_tbl := (zm_tbl_in (List.mem_of_getElem? (i := 37) (by decide +kernel)) rfl)
theorem ml_X6_83 {rm : Room} {b : Bool} {nm : String} : zm_Ml RX6 83 yX6_fillBroken (cX6_fillBroken, 8, RX6, rm, none, b, nm) 2 := ⟨(zm_tbl_in (List.mem_of_getElem? (i := 1050) (by decide +kernel)) rfl), (zm_tbl_in (List.mem_of_getElem? (i := 1052) (by decide +kernel)) rfl), se_X6_fillBroken, in_X6, cm_X6_fillBroken, ⟨by decide +kernel, by decide +kernel, by decide +kernel⟩⟩
theorem zb_64 : (Int8.ofInt 64).toInt32 = (64 : Int32) := by decide
theorem kc_J6_265 : Cond.constant RJ6 265 (1431655765) ∈ zm_tbl := (zm_tbl_in (List.mem_of_getElem? (i := 1106) (by decide +kernel)) rfl)
theorem kc_J6_266 : Cond.constant RJ6 266 (858993459) ∈ zm_tbl := (zm_tbl_in (List.mem_of_getElem? (i := 1107) (by decide +kernel)) rfl)
theorem kc_J6_267 : Cond.constant RJ6 267 (252645135) ∈ zm_tbl := (zm_tbl_in (List.mem_of_getElem? (i := 1108) (by decide +kernel)) rfl)
theorem cm_J6_bitCount_0f7a4 : Cond.code yJ6_bitCount_0f7a4 cJ6_bitCount_0f7a4 1 (some .int) ∈ zm_tbl := (zm_tbl_in (List.mem_of_getElem? (i := 1105) (by decide +kernel)) rfl)
theorem in_J6 : Cond.initialized RJ6 ∈ zm_tbl := (zm_tbl_in (List.mem_of_getElem? (i := 148) (by decide +kernel)) rfl)
theorem ml_X6_133 {rm : Room} {b : Bool} {nm : String} : zm_Sl RX6 133 yJ6_bitCount_0f7a4 (cJ6_bitCount_0f7a4, 1, RJ6, rm, (some .int), b, nm) 1 := ⟨(zm_tbl_in (List.mem_of_getElem? (i := 1103) (by decide +kernel)) rfl), (zm_tbl_in (List.mem_of_getElem? (i := 1104) (by decide +kernel)) rfl), in_J6, cm_J6_bitCount_0f7a4, ⟨by decide +kernel, by decide +kernel, by decide +kernel⟩⟩
theorem cm_X6_canKeep : Cond.code yX6_canKeep cX6_canKeep 3 (some .boolean) ∈ zm_tbl := (zm_tbl_in (List.mem_of_getElem? (i := 1112) (by decide +kernel)) rfl)
theorem se_X6_canKeep : Cond.selects RX6 yX6_canKeep yX6_canKeep ∈ zm_tbl := (zm_tbl_in (List.mem_of_getElem? (i := 41) (by decide +kernel)) rfl)
theorem ml_X6_138 {rm : Room} {b : Bool} {nm : String} : zm_Ml RX6 138 yX6_canKeep (cX6_canKeep, 3, RX6, rm, (some .boolean), b, nm) 1 := ⟨(zm_tbl_in (List.mem_of_getElem? (i := 1109) (by decide +kernel)) rfl), (zm_tbl_in (List.mem_of_getElem? (i := 1111) (by decide +kernel)) rfl), se_X6_canKeep, in_X6, cm_X6_canKeep, ⟨by decide +kernel, by decide +kernel, by decide +kernel⟩⟩
theorem kc_X7_76 : Cond.constantLong RX7 76 (32) ∈ zm_tbl := (zm_tbl_in (List.mem_of_getElem? (i := 215) (by decide +kernel)) rfl)
theorem zb_97 : (Int8.ofInt 97).toInt32 = (97 : Int32) := by decide
theorem zb_13 : (Int8.ofInt 13).toInt32 = (13 : Int32) := by decide
theorem zb_32 : (Int8.ofInt 32).toInt32 = (32 : Int32) := by decide
theorem zb_122 : (Int8.ofInt 122).toInt32 = (122 : Int32) := by decide
theorem zs_256 : (Int16.ofInt 256).toInt32 = (256 : Int32) := by decide
theorem fl_X7_22 : zm_Fl RX7 22 7 3 3 := ⟨RX7, TX7, 5, rfl, zm_itX7, by decide, rfl, (zm_tbl_in (List.mem_of_getElem? (i := 219) (by decide +kernel)) rfl), rfl⟩
theorem zs_401 : (Int16.ofInt 401).toInt32 = (401 : Int32) := by decide
theorem fp_X7_41 : zm_Fp RX7 41 7 4 0 .int := ⟨RX7, TX7, 5, tyX7, rfl, zm_itX7, by decide, rfl, (zm_tbl_in (List.mem_of_getElem? (i := 220) (by decide +kernel)) rfl), rfl, tyX7_ok, nmX7, rfl, by decide +kernel⟩
theorem cm_X7_add : Cond.code yX7_add cX7_add 5 none ∈ zm_tbl := (zm_tbl_in (List.mem_of_getElem? (i := 575) (by decide +kernel)) rfl)
theorem se_X7_add : Cond.selects RX7 yX7_add yX7_add ∈ zm_tbl := (zm_tbl_in (List.mem_of_getElem? (i := 3) (by decide +kernel)) rfl)
theorem ml_X7_68 {rm : Room} {b : Bool} {nm : String} : zm_Ml RX7 68 yX7_add (cX7_add, 5, RX7, rm, none, b, nm) 3 := ⟨(zm_tbl_in (List.mem_of_getElem? (i := 572) (by decide +kernel)) rfl), (zm_tbl_in (List.mem_of_getElem? (i := 574) (by decide +kernel)) rfl), se_X7_add, in_X7, cm_X7_add, ⟨by decide +kernel, by decide +kernel, by decide +kernel⟩⟩
theorem cm_X7_sortOf : Cond.code yX7_sortOf cX7_sortOf 4 (some .int) ∈ zm_tbl := (zm_tbl_in (List.mem_of_getElem? (i := 571) (by decide +kernel)) rfl)
theorem se_X7_sortOf : Cond.selects RX7 yX7_sortOf yX7_sortOf ∈ zm_tbl := (zm_tbl_in (List.mem_of_getElem? (i := 2) (by decide +kernel)) rfl)
theorem ml_X7_72 {rm : Room} {b : Bool} {nm : String} : zm_Ml RX7 72 yX7_sortOf (cX7_sortOf, 4, RX7, rm, (some .int), b, nm) 1 := ⟨(zm_tbl_in (List.mem_of_getElem? (i := 568) (by decide +kernel)) rfl), (zm_tbl_in (List.mem_of_getElem? (i := 570) (by decide +kernel)) rfl), se_X7_sortOf, in_X7, cm_X7_sortOf, ⟨by decide +kernel, by decide +kernel, by decide +kernel⟩⟩
theorem zs_255 : (Int16.ofInt 255).toInt32 = (255 : Int32) := by decide
theorem cm_X7_isLetter : Cond.code yX7_isLetter cX7_isLetter 1 (some .boolean) ∈ zm_tbl := (zm_tbl_in (List.mem_of_getElem? (i := 563) (by decide +kernel)) rfl)
theorem ml_X7_49 {rm : Room} {b : Bool} {nm : String} : zm_Sl RX7 49 yX7_isLetter (cX7_isLetter, 1, RX7, rm, (some .boolean), b, nm) 1 := ⟨(zm_tbl_in (List.mem_of_getElem? (i := 561) (by decide +kernel)) rfl), (zm_tbl_in (List.mem_of_getElem? (i := 562) (by decide +kernel)) rfl), in_X7, cm_X7_isLetter, ⟨by decide +kernel, by decide +kernel, by decide +kernel⟩⟩
theorem cm_X7_withLetter : Cond.code yX7_withLetter cX7_withLetter 3 (some .long) ∈ zm_tbl := (zm_tbl_in (List.mem_of_getElem? (i := 214) (by decide +kernel)) rfl)
theorem ml_X7_37 {rm : Room} {b : Bool} {nm : String} : zm_Sl RX7 37 yX7_withLetter (cX7_withLetter, 3, RX7, rm, (some .long), b, nm) 2 := ⟨(zm_tbl_in (List.mem_of_getElem? (i := 212) (by decide +kernel)) rfl), (zm_tbl_in (List.mem_of_getElem? (i := 213) (by decide +kernel)) rfl), in_X7, cm_X7_withLetter, ⟨by decide +kernel, by decide +kernel, by decide +kernel⟩⟩
theorem zb_48 : (Int8.ofInt 48).toInt32 = (48 : Int32) := by decide
theorem zb_57 : (Int8.ofInt 57).toInt32 = (57 : Int32) := by decide
theorem cm_X7_isDigit : Cond.code yX7_isDigit cX7_isDigit 1 (some .boolean) ∈ zm_tbl := (zm_tbl_in (List.mem_of_getElem? (i := 578) (by decide +kernel)) rfl)
theorem ml_X7_56 {rm : Room} {b : Bool} {nm : String} : zm_Sl RX7 56 yX7_isDigit (cX7_isDigit, 1, RX7, rm, (some .boolean), b, nm) 1 := ⟨(zm_tbl_in (List.mem_of_getElem? (i := 576) (by decide +kernel)) rfl), (zm_tbl_in (List.mem_of_getElem? (i := 577) (by decide +kernel)) rfl), in_X7, cm_X7_isDigit, ⟨by decide +kernel, by decide +kernel, by decide +kernel⟩⟩
theorem cm_X7_isBlank : Cond.code yX7_isBlank cX7_isBlank 1 (some .boolean) ∈ zm_tbl := (zm_tbl_in (List.mem_of_getElem? (i := 560) (by decide +kernel)) rfl)
theorem ml_X7_45 {rm : Room} {b : Bool} {nm : String} : zm_Sl RX7 45 yX7_isBlank (cX7_isBlank, 1, RX7, rm, (some .boolean), b, nm) 1 := ⟨(zm_tbl_in (List.mem_of_getElem? (i := 558) (by decide +kernel)) rfl), (zm_tbl_in (List.mem_of_getElem? (i := 559) (by decide +kernel)) rfl), in_X7, cm_X7_isBlank, ⟨by decide +kernel, by decide +kernel, by decide +kernel⟩⟩
theorem kc_X9_47 : Cond.constantLong RX9 47 (72340172838076673) ∈ zm_tbl := (zm_tbl_in (List.mem_of_getElem? (i := 1142) (by decide +kernel)) rfl)
theorem kc_X9_49 : Cond.constantLong RX9 49 (31) ∈ zm_tbl := (zm_tbl_in (List.mem_of_getElem? (i := 1143) (by decide +kernel)) rfl)
theorem kc_X9_51 : Cond.constantLong RX9 51 (255) ∈ zm_tbl := (zm_tbl_in (List.mem_of_getElem? (i := 1147) (by decide +kernel)) rfl)
theorem kc_X9_53 : Cond.constantLong RX9 53 (4311810305) ∈ zm_tbl := (zm_tbl_in (List.mem_of_getElem? (i := 1148) (by decide +kernel)) rfl)
theorem fl_X9_17 : zm_Fl RX9 17 9 1 3 := ⟨RX9, TX9, 3, rfl, zm_itX9, by decide, rfl, (zm_tbl_in (List.mem_of_getElem? (i := 1033) (by decide +kernel)) rfl), rfl⟩
theorem fl_X9_11 : zm_Fl RX9 11 9 0 3 := ⟨RX9, TX9, 3, rfl, zm_itX9, by decide, rfl, (zm_tbl_in (List.mem_of_getElem? (i := 1032) (by decide +kernel)) rfl), rfl⟩
theorem fl_X9_20 : zm_Fl RX9 20 9 2 3 := ⟨RX9, TX9, 3, rfl, zm_itX9, by decide, rfl, (zm_tbl_in (List.mem_of_getElem? (i := 1034) (by decide +kernel)) rfl), rfl⟩
theorem kc_X9_45 : Cond.constantLong RX9 45 (-1) ∈ zm_tbl := (zm_tbl_in (List.mem_of_getElem? (i := 1153) (by decide +kernel)) rfl)
theorem cm_X9_moveOther : Cond.code yX9_moveOther cX9_moveOther 8 none ∈ zm_tbl := (zm_tbl_in (List.mem_of_getElem? (i := 1152) (by decide +kernel)) rfl)
theorem in_X9 : Cond.initialized RX9 ∈ zm_tbl := (zm_tbl_in (List.mem_of_getElem? (i := 147) (by decide +kernel)) rfl)
theorem se_X9_moveOther : Cond.selects RX9 yX9_moveOther yX9_moveOther ∈ zm_tbl := (zm_tbl_in (List.mem_of_getElem? (i := 43) (by decide +kernel)) rfl)
theorem ml_X9_41 {rm : Room} {b : Bool} {nm : String} : zm_Ml RX9 41 yX9_moveOther (cX9_moveOther, 8, RX9, rm, none, b, nm) 2 := ⟨(zm_tbl_in (List.mem_of_getElem? (i := 1149) (by decide +kernel)) rfl), (zm_tbl_in (List.mem_of_getElem? (i := 1151) (by decide +kernel)) rfl), se_X9_moveOther, in_X9, cm_X9_moveOther, ⟨by decide +kernel, by decide +kernel, by decide +kernel⟩⟩
theorem cm_X9_moveFirst : Cond.code yX9_moveFirst cX9_moveFirst 4 (some .long) ∈ zm_tbl := (zm_tbl_in (List.mem_of_getElem? (i := 1141) (by decide +kernel)) rfl)
theorem ml_X9_34 {rm : Room} {b : Bool} {nm : String} : zm_Sl RX9 34 yX9_moveFirst (cX9_moveFirst, 4, RX9, rm, (some .long), b, nm) 1 := ⟨(zm_tbl_in (List.mem_of_getElem? (i := 1139) (by decide +kernel)) rfl), (zm_tbl_in (List.mem_of_getElem? (i := 1140) (by decide +kernel)) rfl), in_X9, cm_X9_moveFirst, ⟨by decide +kernel, by decide +kernel, by decide +kernel⟩⟩
theorem cm_X9_moveSecond : Cond.code yX9_moveSecond cX9_moveSecond 4 (some .long) ∈ zm_tbl := (zm_tbl_in (List.mem_of_getElem? (i := 1146) (by decide +kernel)) rfl)
theorem ml_X9_38 {rm : Room} {b : Bool} {nm : String} : zm_Sl RX9 38 yX9_moveSecond (cX9_moveSecond, 4, RX9, rm, (some .long), b, nm) 1 := ⟨(zm_tbl_in (List.mem_of_getElem? (i := 1144) (by decide +kernel)) rfl), (zm_tbl_in (List.mem_of_getElem? (i := 1145) (by decide +kernel)) rfl), in_X9, cm_X9_moveSecond, ⟨by decide +kernel, by decide +kernel, by decide +kernel⟩⟩
theorem zb_m2 : (Int8.ofInt (-2)).toInt32 = (-2 : Int32) := by decide
theorem ml_X9_23 {rm : Room} {b : Bool} {nm : String} : zm_Sl RX9 23 yJ7_fill_d0a16 (cJ7_fill_d0a16, 5, RJ7, rm, none, b, nm) 2 := ⟨(zm_tbl_in (List.mem_of_getElem? (i := 1133) (by decide +kernel)) rfl), (zm_tbl_in (List.mem_of_getElem? (i := 1047) (by decide +kernel)) rfl), in_J7, cm_J7_fill_d0a16, ⟨by decide +kernel, by decide +kernel, by decide +kernel⟩⟩
theorem kc_X9_29 : Cond.constant RX9 29 (40000) ∈ zm_tbl := (zm_tbl_in (List.mem_of_getElem? (i := 1134) (by decide +kernel)) rfl)
theorem cm_X9_goOneTrip : Cond.code yX9_goOneTrip cX9_goOneTrip 8 (some .boolean) ∈ zm_tbl := (zm_tbl_in (List.mem_of_getElem? (i := 1138) (by decide +kernel)) rfl)
theorem se_X9_goOneTrip : Cond.selects RX9 yX9_goOneTrip yX9_goOneTrip ∈ zm_tbl := (zm_tbl_in (List.mem_of_getElem? (i := 42) (by decide +kernel)) rfl)
theorem ml_X9_30 {rm : Room} {b : Bool} {nm : String} : zm_Ml RX9 30 yX9_goOneTrip (cX9_goOneTrip, 8, RX9, rm, (some .boolean), b, nm) 2 := ⟨(zm_tbl_in (List.mem_of_getElem? (i := 1135) (by decide +kernel)) rfl), (zm_tbl_in (List.mem_of_getElem? (i := 1137) (by decide +kernel)) rfl), se_X9_goOneTrip, in_X9, cm_X9_goOneTrip, ⟨by decide +kernel, by decide +kernel, by decide +kernel⟩⟩
theorem fl_X10_80 : zm_Fl RX10 80 10 15 0 := ⟨RX10, TX10, 17, rfl, zm_itX10, by decide, rfl, (zm_tbl_in (List.mem_of_getElem? (i := 501) (by decide +kernel)) rfl), rfl⟩
theorem zs_2000 : (Int16.ofInt 2000).toInt32 = (2000 : Int32) := by decide
theorem zi_m8 : Int32.ofInt (-8) = (-8 : Int32) := by decide
theorem fl_X10_9 : zm_Fl RX10 9 10 0 3 := ⟨RX10, TX10, 17, rfl, zm_itX10, by decide, rfl, (zm_tbl_in (List.mem_of_getElem? (i := 486) (by decide +kernel)) rfl), rfl⟩
theorem fp_X10_80 : zm_Fp RX10 80 10 15 0 .int := ⟨RX10, TX10, 17, tyX10, rfl, zm_itX10, by decide, rfl, (zm_tbl_in (List.mem_of_getElem? (i := 501) (by decide +kernel)) rfl), rfl, tyX10_ok, nmX10, rfl, by decide +kernel⟩
theorem zs_1980 : (Int16.ofInt 1980).toInt32 = (1980 : Int32) := by decide
theorem cm_X10_putBytes : Cond.code yX10_putBytes cX10_putBytes 3 none ∈ zm_tbl := (zm_tbl_in (List.mem_of_getElem? (i := 545) (by decide +kernel)) rfl)
theorem in_X10 : Cond.initialized RX10 ∈ zm_tbl := (zm_tbl_in (List.mem_of_getElem? (i := 128) (by decide +kernel)) rfl)
theorem se_X10_putBytes : Cond.selects RX10 yX10_putBytes yX10_putBytes ∈ zm_tbl := (zm_tbl_in (List.mem_of_getElem? (i := 0) (by decide +kernel)) rfl)
theorem ml_X10_83 {rm : Room} {b : Bool} {nm : String} : zm_Ml RX10 83 yX10_putBytes (cX10_putBytes, 3, RX10, rm, none, b, nm) 1 := ⟨(zm_tbl_in (List.mem_of_getElem? (i := 542) (by decide +kernel)) rfl), (zm_tbl_in (List.mem_of_getElem? (i := 544) (by decide +kernel)) rfl), se_X10_putBytes, in_X10, cm_X10_putBytes, ⟨by decide +kernel, by decide +kernel, by decide +kernel⟩⟩
theorem fl_X10_60 : zm_Fl RX10 60 10 9 2 := ⟨RX10, TX10, 17, rfl, zm_itX10, by decide, rfl, (zm_tbl_in (List.mem_of_getElem? (i := 495) (by decide +kernel)) rfl), rfl⟩
theorem fl_X10_64 : zm_Fl RX10 64 10 10 2 := ⟨RX10, TX10, 17, rfl, zm_itX10, by decide, rfl, (zm_tbl_in (List.mem_of_getElem? (i := 496) (by decide +kernel)) rfl), rfl⟩
theorem fp_X10_60 : zm_Fp RX10 60 10 9 2 (.object "LentPictures$Told") := ⟨RX10, TX10, 17, tyX10, rfl, zm_itX10, by decide, rfl, (zm_tbl_in (List.mem_of_getElem? (i := 495) (by decide +kernel)) rfl), rfl, tyX10_ok, nmX10, rfl, by decide +kernel⟩
theorem fp_X10_64 : zm_Fp RX10 64 10 10 2 (.object "LentPictures$Told") := ⟨RX10, TX10, 17, tyX10, rfl, zm_itX10, by decide, rfl, (zm_tbl_in (List.mem_of_getElem? (i := 496) (by decide +kernel)) rfl), rfl, tyX10_ok, nmX10, rfl, by decide +kernel⟩
theorem fl_X10_32 : zm_Fl RX10 32 10 3 3 := ⟨RX10, TX10, 17, rfl, zm_itX10, by decide, rfl, (zm_tbl_in (List.mem_of_getElem? (i := 489) (by decide +kernel)) rfl), rfl⟩
theorem cm_X4_begin : Cond.code yX4_begin cX4_begin 3 none ∈ zm_tbl := (zm_tbl_in (List.mem_of_getElem? (i := 745) (by decide +kernel)) rfl)
theorem se_X4_begin : Cond.selects RX4 yX4_begin yX4_begin ∈ zm_tbl := (zm_tbl_in (List.mem_of_getElem? (i := 744) (by decide +kernel)) rfl)
theorem ml_X10_329 {rm : Room} {b : Bool} {nm : String} : zm_Ml RX10 329 yX4_begin (cX4_begin, 3, RX4, rm, none, b, nm) 1 := ⟨(zm_tbl_in (List.mem_of_getElem? (i := 742) (by decide +kernel)) rfl), (zm_tbl_in (List.mem_of_getElem? (i := 743) (by decide +kernel)) rfl), se_X4_begin, in_X4, cm_X4_begin, ⟨by decide +kernel, by decide +kernel, by decide +kernel⟩⟩
theorem fl_X10_39 : zm_Fl RX10 39 10 4 3 := ⟨RX10, TX10, 17, rfl, zm_itX10, by decide, rfl, (zm_tbl_in (List.mem_of_getElem? (i := 490) (by decide +kernel)) rfl), rfl⟩
theorem cm_X1_empty : Cond.code yX1_empty cX1_empty 1 none ∈ zm_tbl := (zm_tbl_in (List.mem_of_getElem? (i := 752) (by decide +kernel)) rfl)
theorem in_X1 : Cond.initialized RX1 ∈ zm_tbl := (zm_tbl_in (List.mem_of_getElem? (i := 136) (by decide +kernel)) rfl)
theorem se_X1_empty : Cond.selects RX1 yX1_empty yX1_empty ∈ zm_tbl := (zm_tbl_in (List.mem_of_getElem? (i := 751) (by decide +kernel)) rfl)
theorem ml_X10_316 {rm : Room} {b : Bool} {nm : String} : zm_Ml RX10 316 yX1_empty (cX1_empty, 1, RX1, rm, none, b, nm) 0 := ⟨(zm_tbl_in (List.mem_of_getElem? (i := 749) (by decide +kernel)) rfl), (zm_tbl_in (List.mem_of_getElem? (i := 750) (by decide +kernel)) rfl), se_X1_empty, in_X1, cm_X1_empty, ⟨by decide +kernel, by decide +kernel, by decide +kernel⟩⟩
theorem fl_X10_50 : zm_Fl RX10 50 10 6 3 := ⟨RX10, TX10, 17, rfl, zm_itX10, by decide, rfl, (zm_tbl_in (List.mem_of_getElem? (i := 492) (by decide +kernel)) rfl), rfl⟩
theorem cm_X0_empty : Cond.code yX0_empty cX0_empty 1 none ∈ zm_tbl := (zm_tbl_in (List.mem_of_getElem? (i := 756) (by decide +kernel)) rfl)
theorem se_X0_empty : Cond.selects RX0 yX0_empty yX0_empty ∈ zm_tbl := (zm_tbl_in (List.mem_of_getElem? (i := 755) (by decide +kernel)) rfl)
theorem ml_X10_285 {rm : Room} {b : Bool} {nm : String} : zm_Ml RX10 285 yX0_empty (cX0_empty, 1, RX0, rm, none, b, nm) 0 := ⟨(zm_tbl_in (List.mem_of_getElem? (i := 753) (by decide +kernel)) rfl), (zm_tbl_in (List.mem_of_getElem? (i := 754) (by decide +kernel)) rfl), se_X0_empty, in_X0, cm_X0_empty, ⟨by decide +kernel, by decide +kernel, by decide +kernel⟩⟩
theorem fp_X10_313 : zm_Fp RX10 313 10 14 0 .int := ⟨RX10, TX10, 17, tyX10, rfl, zm_itX10, by decide, rfl, (zm_tbl_in (List.mem_of_getElem? (i := 500) (by decide +kernel)) rfl), rfl, tyX10_ok, nmX10, rfl, by decide +kernel⟩
theorem fp_X10_199 : zm_Fp RX10 199 10 13 0 .boolean := ⟨RX10, TX10, 17, tyX10, rfl, zm_itX10, by decide, rfl, (zm_tbl_in (List.mem_of_getElem? (i := 499) (by decide +kernel)) rfl), rfl, tyX10_ok, nmX10, rfl, by decide +kernel⟩
theorem fl_X10_16 : zm_Fl RX10 16 10 1 3 := ⟨RX10, TX10, 17, rfl, zm_itX10, by decide, rfl, (zm_tbl_in (List.mem_of_getElem? (i := 487) (by decide +kernel)) rfl), rfl⟩
theorem fl_X10_67 : zm_Fl RX10 67 10 16 0 := ⟨RX10, TX10, 17, rfl, zm_itX10, by decide, rfl, (zm_tbl_in (List.mem_of_getElem? (i := 502) (by decide +kernel)) rfl), rfl⟩
theorem fl_X10_272 : zm_Fl RX10 272 8 11 0 := ⟨RX8, TX8, 19, rfl, zm_itX8, by decide, rfl, (zm_tbl_in (List.mem_of_getElem? (i := 389) (by decide +kernel)) rfl), rfl⟩
theorem fl_X10_236 : zm_Fl RX10 236 8 12 0 := ⟨RX8, TX8, 19, rfl, zm_itX8, by decide, rfl, (zm_tbl_in (List.mem_of_getElem? (i := 396) (by decide +kernel)) rfl), rfl⟩
theorem cm_X4_isIn : Cond.code yX4_isIn cX4_isIn 3 (some .boolean) ∈ zm_tbl := (zm_tbl_in (List.mem_of_getElem? (i := 776) (by decide +kernel)) rfl)
theorem se_X4_isIn : Cond.selects RX4 yX4_isIn yX4_isIn ∈ zm_tbl := (zm_tbl_in (List.mem_of_getElem? (i := 775) (by decide +kernel)) rfl)
theorem ml_X10_352 {rm : Room} {b : Bool} {nm : String} : zm_Ml RX10 352 yX4_isIn (cX4_isIn, 3, RX4, rm, (some .boolean), b, nm) 2 := ⟨(zm_tbl_in (List.mem_of_getElem? (i := 773) (by decide +kernel)) rfl), (zm_tbl_in (List.mem_of_getElem? (i := 774) (by decide +kernel)) rfl), se_X4_isIn, in_X4, cm_X4_isIn, ⟨by decide +kernel, by decide +kernel, by decide +kernel⟩⟩
theorem fl_X10_127 : zm_Fl RX10 127 8 2 3 := ⟨RX8, TX8, 19, rfl, zm_itX8, by decide, rfl, (zm_tbl_in (List.mem_of_getElem? (i := 356) (by decide +kernel)) rfl), rfl⟩
theorem fl_X10_76 : zm_Fl RX10 76 10 7 3 := ⟨RX10, TX10, 17, rfl, zm_itX10, by decide, rfl, (zm_tbl_in (List.mem_of_getElem? (i := 493) (by decide +kernel)) rfl), rfl⟩
theorem ml_X10_189 {rm : Room} {b : Bool} {nm : String} : zm_Ml RX10 189 yX4_today (cX4_today, 1, RX4, rm, (some .int), b, nm) 0 := ⟨(zm_tbl_in (List.mem_of_getElem? (i := 805) (by decide +kernel)) rfl), (zm_tbl_in (List.mem_of_getElem? (i := 790) (by decide +kernel)) rfl), se_X4_today, in_X4, cm_X4_today, ⟨by decide +kernel, by decide +kernel, by decide +kernel⟩⟩
theorem cm_X3_look : Cond.code yX3_look cX3_look 5 none ∈ zm_tbl := (zm_tbl_in (List.mem_of_getElem? (i := 809) (by decide +kernel)) rfl)
theorem se_X3_look : Cond.selects RX3 yX3_look yX3_look ∈ zm_tbl := (zm_tbl_in (List.mem_of_getElem? (i := 808) (by decide +kernel)) rfl)
theorem ml_X10_206 {rm : Room} {b : Bool} {nm : String} : zm_Ml RX10 206 yX3_look (cX3_look, 5, RX3, rm, none, b, nm) 3 := ⟨(zm_tbl_in (List.mem_of_getElem? (i := 806) (by decide +kernel)) rfl), (zm_tbl_in (List.mem_of_getElem? (i := 807) (by decide +kernel)) rfl), se_X3_look, in_X3, cm_X3_look, ⟨by decide +kernel, by decide +kernel, by decide +kernel⟩⟩
theorem cm_X10_lookToday : Cond.code yX10_lookToday cX10_lookToday 1 none ∈ zm_tbl := (zm_tbl_in (List.mem_of_getElem? (i := 804) (by decide +kernel)) rfl)
theorem se_X10_lookToday : Cond.selects RX10 yX10_lookToday yX10_lookToday ∈ zm_tbl := (zm_tbl_in (List.mem_of_getElem? (i := 26) (by decide +kernel)) rfl)
theorem ml_X10_151 {rm : Room} {b : Bool} {nm : String} : zm_Ml RX10 151 yX10_lookToday (cX10_lookToday, 1, RX10, rm, none, b, nm) 0 := ⟨(zm_tbl_in (List.mem_of_getElem? (i := 801) (by decide +kernel)) rfl), (zm_tbl_in (List.mem_of_getElem? (i := 803) (by decide +kernel)) rfl), se_X10_lookToday, in_X10, cm_X10_lookToday, ⟨by decide +kernel, by decide +kernel, by decide +kernel⟩⟩
theorem cm_X3_liking : Cond.code yX3_liking cX3_liking 4 (some .int) ∈ zm_tbl := (zm_tbl_in (List.mem_of_getElem? (i := 815) (by decide +kernel)) rfl)
theorem se_X3_liking : Cond.selects RX3 yX3_liking yX3_liking ∈ zm_tbl := (zm_tbl_in (List.mem_of_getElem? (i := 814) (by decide +kernel)) rfl)
theorem ml_X10_165 {rm : Room} {b : Bool} {nm : String} : zm_Ml RX10 165 yX3_liking (cX3_liking, 4, RX3, rm, (some .int), b, nm) 3 := ⟨(zm_tbl_in (List.mem_of_getElem? (i := 812) (by decide +kernel)) rfl), (zm_tbl_in (List.mem_of_getElem? (i := 813) (by decide +kernel)) rfl), se_X3_liking, in_X3, cm_X3_liking, ⟨by decide +kernel, by decide +kernel, by decide +kernel⟩⟩
theorem cm_X10_isHouse : Cond.code yX10_isHouse cX10_isHouse 2 (some .boolean) ∈ zm_tbl := (zm_tbl_in (List.mem_of_getElem? (i := 768) (by decide +kernel)) rfl)
theorem se_X10_isHouse : Cond.selects RX10 yX10_isHouse yX10_isHouse ∈ zm_tbl := (zm_tbl_in (List.mem_of_getElem? (i := 22) (by decide +kernel)) rfl)
theorem ml_X10_101 {rm : Room} {b : Bool} {nm : String} : zm_Ml RX10 101 yX10_isHouse (cX10_isHouse, 2, RX10, rm, (some .boolean), b, nm) 1 := ⟨(zm_tbl_in (List.mem_of_getElem? (i := 765) (by decide +kernel)) rfl), (zm_tbl_in (List.mem_of_getElem? (i := 767) (by decide +kernel)) rfl), se_X10_isHouse, in_X10, cm_X10_isHouse, ⟨by decide +kernel, by decide +kernel, by decide +kernel⟩⟩
theorem fl_X10_105 : zm_Fl RX10 105 8 0 3 := ⟨RX8, TX8, 19, rfl, zm_itX8, by decide, rfl, (zm_tbl_in (List.mem_of_getElem? (i := 347) (by decide +kernel)) rfl), rfl⟩
theorem fl_X10_108 : zm_Fl RX10 108 8 1 3 := ⟨RX8, TX8, 19, rfl, zm_itX8, by decide, rfl, (zm_tbl_in (List.mem_of_getElem? (i := 351) (by decide +kernel)) rfl), rfl⟩
theorem cm_X10_worksIn : Cond.code yX10_worksIn cX10_worksIn 4 (some .int) ∈ zm_tbl := (zm_tbl_in (List.mem_of_getElem? (i := 772) (by decide +kernel)) rfl)
theorem se_X10_worksIn : Cond.selects RX10 yX10_worksIn yX10_worksIn ∈ zm_tbl := (zm_tbl_in (List.mem_of_getElem? (i := 23) (by decide +kernel)) rfl)
theorem ml_X10_111 {rm : Room} {b : Bool} {nm : String} : zm_Ml RX10 111 yX10_worksIn (cX10_worksIn, 4, RX10, rm, (some .int), b, nm) 1 := ⟨(zm_tbl_in (List.mem_of_getElem? (i := 769) (by decide +kernel)) rfl), (zm_tbl_in (List.mem_of_getElem? (i := 771) (by decide +kernel)) rfl), se_X10_worksIn, in_X10, cm_X10_worksIn, ⟨by decide +kernel, by decide +kernel, by decide +kernel⟩⟩
theorem cm_X10_worksOwnedBy : Cond.code yX10_worksOwnedBy cX10_worksOwnedBy 4 (some .int) ∈ zm_tbl := (zm_tbl_in (List.mem_of_getElem? (i := 796) (by decide +kernel)) rfl)
theorem se_X10_worksOwnedBy : Cond.selects RX10 yX10_worksOwnedBy yX10_worksOwnedBy ∈ zm_tbl := (zm_tbl_in (List.mem_of_getElem? (i := 24) (by decide +kernel)) rfl)
theorem ml_X10_115 {rm : Room} {b : Bool} {nm : String} : zm_Ml RX10 115 yX10_worksOwnedBy (cX10_worksOwnedBy, 4, RX10, rm, (some .int), b, nm) 1 := ⟨(zm_tbl_in (List.mem_of_getElem? (i := 793) (by decide +kernel)) rfl), (zm_tbl_in (List.mem_of_getElem? (i := 795) (by decide +kernel)) rfl), se_X10_worksOwnedBy, in_X10, cm_X10_worksOwnedBy, ⟨by decide +kernel, by decide +kernel, by decide +kernel⟩⟩
theorem cm_X10_pleasureOf : Cond.code yX10_pleasureOf cX10_pleasureOf 4 (some .int) ∈ zm_tbl := (zm_tbl_in (List.mem_of_getElem? (i := 800) (by decide +kernel)) rfl)
theorem se_X10_pleasureOf : Cond.selects RX10 yX10_pleasureOf yX10_pleasureOf ∈ zm_tbl := (zm_tbl_in (List.mem_of_getElem? (i := 25) (by decide +kernel)) rfl)
theorem ml_X10_118 {rm : Room} {b : Bool} {nm : String} : zm_Ml RX10 118 yX10_pleasureOf (cX10_pleasureOf, 4, RX10, rm, (some .int), b, nm) 1 := ⟨(zm_tbl_in (List.mem_of_getElem? (i := 797) (by decide +kernel)) rfl), (zm_tbl_in (List.mem_of_getElem? (i := 799) (by decide +kernel)) rfl), se_X10_pleasureOf, in_X10, cm_X10_pleasureOf, ⟨by decide +kernel, by decide +kernel, by decide +kernel⟩⟩
theorem fl_X10_317 : zm_Fl RX10 317 8 13 0 := ⟨RX8, TX8, 19, rfl, zm_itX8, by decide, rfl, (zm_tbl_in (List.mem_of_getElem? (i := 400) (by decide +kernel)) rfl), rfl⟩
theorem fl_X10_142 : zm_Fl RX10 142 4 0 3 := ⟨RX4, TX4, 1, rfl, zm_itX4, by decide, rfl, (zm_tbl_in (List.mem_of_getElem? (i := 276) (by decide +kernel)) rfl), rfl⟩
theorem cm_X10_isWork : Cond.code yX10_isWork cX10_isWork 2 (some .boolean) ∈ zm_tbl := (zm_tbl_in (List.mem_of_getElem? (i := 841) (by decide +kernel)) rfl)
theorem se_X10_isWork : Cond.selects RX10 yX10_isWork yX10_isWork ∈ zm_tbl := (zm_tbl_in (List.mem_of_getElem? (i := 29) (by decide +kernel)) rfl)
theorem ml_X10_121 {rm : Room} {b : Bool} {nm : String} : zm_Ml RX10 121 yX10_isWork (cX10_isWork, 2, RX10, rm, (some .boolean), b, nm) 1 := ⟨(zm_tbl_in (List.mem_of_getElem? (i := 838) (by decide +kernel)) rfl), (zm_tbl_in (List.mem_of_getElem? (i := 840) (by decide +kernel)) rfl), se_X10_isWork, in_X10, cm_X10_isWork, ⟨by decide +kernel, by decide +kernel, by decide +kernel⟩⟩
theorem ml_X10_124 {rm : Room} {b : Bool} {nm : String} : zm_Ml RX10 124 yX4_underWay (cX4_underWay, 2, RX4, rm, (some .boolean), b, nm) 1 := ⟨(zm_tbl_in (List.mem_of_getElem? (i := 842) (by decide +kernel)) rfl), (zm_tbl_in (List.mem_of_getElem? (i := 782) (by decide +kernel)) rfl), se_X4_underWay, in_X4, cm_X4_underWay, ⟨by decide +kernel, by decide +kernel, by decide +kernel⟩⟩
theorem ml_X10_130 {rm : Room} {b : Bool} {nm : String} : zm_Ml RX10 130 yX4_goal (cX4_goal, 2, RX4, rm, (some .int), b, nm) 1 := ⟨(zm_tbl_in (List.mem_of_getElem? (i := 843) (by decide +kernel)) rfl), (zm_tbl_in (List.mem_of_getElem? (i := 778) (by decide +kernel)) rfl), se_X4_goal, in_X4, cm_X4_goal, ⟨by decide +kernel, by decide +kernel, by decide +kernel⟩⟩
theorem fl_X10_133 : zm_Fl RX10 133 8 4 3 := ⟨RX8, TX8, 19, rfl, zm_itX8, by decide, rfl, (zm_tbl_in (List.mem_of_getElem? (i := 364) (by decide +kernel)) rfl), rfl⟩
theorem fl_X10_136 : zm_Fl RX10 136 8 5 3 := ⟨RX8, TX8, 19, rfl, zm_itX8, by decide, rfl, (zm_tbl_in (List.mem_of_getElem? (i := 370) (by decide +kernel)) rfl), rfl⟩
theorem ml_X10_139 {rm : Room} {b : Bool} {nm : String} : zm_Ml RX10 139 yX4_arrival (cX4_arrival, 2, RX4, rm, (some .int), b, nm) 1 := ⟨(zm_tbl_in (List.mem_of_getElem? (i := 844) (by decide +kernel)) rfl), (zm_tbl_in (List.mem_of_getElem? (i := 786) (by decide +kernel)) rfl), se_X4_arrival, in_X4, cm_X4_arrival, ⟨by decide +kernel, by decide +kernel, by decide +kernel⟩⟩
theorem ml_X10_145 {rm : Room} {b : Bool} {nm : String} : zm_Ml RX10 145 yX8_termsOf (cX8_termsOf, 4, RX8, rm, (some .int), b, nm) 1 := ⟨(zm_tbl_in (List.mem_of_getElem? (i := 845) (by decide +kernel)) rfl), (zm_tbl_in (List.mem_of_getElem? (i := 846) (by decide +kernel)) rfl), se_X8_termsOf, in_X8, cm_X8_termsOf, ⟨by decide +kernel, by decide +kernel, by decide +kernel⟩⟩
theorem cm_X10_standing : Cond.code yX10_standing cX10_standing 1 (some .int) ∈ zm_tbl := (zm_tbl_in (List.mem_of_getElem? (i := 852) (by decide +kernel)) rfl)
theorem se_X10_standing : Cond.selects RX10 yX10_standing yX10_standing ∈ zm_tbl := (zm_tbl_in (List.mem_of_getElem? (i := 30) (by decide +kernel)) rfl)
theorem ml_X10_148 {rm : Room} {b : Bool} {nm : String} : zm_Ml RX10 148 yX10_standing (cX10_standing, 1, RX10, rm, (some .int), b, nm) 0 := ⟨(zm_tbl_in (List.mem_of_getElem? (i := 849) (by decide +kernel)) rfl), (zm_tbl_in (List.mem_of_getElem? (i := 851) (by decide +kernel)) rfl), se_X10_standing, in_X10, cm_X10_standing, ⟨by decide +kernel, by decide +kernel, by decide +kernel⟩⟩
theorem ml_X10_154 {rm : Room} {b : Bool} {nm : String} : zm_Ml RX10 154 yX3_canHang (cX3_canHang, 4, RX3, rm, (some .boolean), b, nm) 3 := ⟨(zm_tbl_in (List.mem_of_getElem? (i := 857) (by decide +kernel)) rfl), (zm_tbl_in (List.mem_of_getElem? (i := 858) (by decide +kernel)) rfl), se_X3_canHang, in_X3, cm_X3_canHang, ⟨by decide +kernel, by decide +kernel, by decide +kernel⟩⟩
theorem cm_X10_isTerm : Cond.code yX10_isTerm cX10_isTerm 2 (some .boolean) ∈ zm_tbl := (zm_tbl_in (List.mem_of_getElem? (i := 877) (by decide +kernel)) rfl)
theorem se_X10_isTerm : Cond.selects RX10 yX10_isTerm yX10_isTerm ∈ zm_tbl := (zm_tbl_in (List.mem_of_getElem? (i := 32) (by decide +kernel)) rfl)
theorem ml_X10_158 {rm : Room} {b : Bool} {nm : String} : zm_Ml RX10 158 yX10_isTerm (cX10_isTerm, 2, RX10, rm, (some .boolean), b, nm) 1 := ⟨(zm_tbl_in (List.mem_of_getElem? (i := 874) (by decide +kernel)) rfl), (zm_tbl_in (List.mem_of_getElem? (i := 876) (by decide +kernel)) rfl), se_X10_isTerm, in_X10, cm_X10_isTerm, ⟨by decide +kernel, by decide +kernel, by decide +kernel⟩⟩
theorem cm_X3_termKept : Cond.code yX3_termKept cX3_termKept 3 (some .boolean) ∈ zm_tbl := (zm_tbl_in (List.mem_of_getElem? (i := 881) (by decide +kernel)) rfl)
theorem se_X3_termKept : Cond.selects RX3 yX3_termKept yX3_termKept ∈ zm_tbl := (zm_tbl_in (List.mem_of_getElem? (i := 880) (by decide +kernel)) rfl)
theorem ml_X10_161 {rm : Room} {b : Bool} {nm : String} : zm_Ml RX10 161 yX3_termKept (cX3_termKept, 3, RX3, rm, (some .boolean), b, nm) 2 := ⟨(zm_tbl_in (List.mem_of_getElem? (i := 878) (by decide +kernel)) rfl), (zm_tbl_in (List.mem_of_getElem? (i := 879) (by decide +kernel)) rfl), se_X3_termKept, in_X3, cm_X3_termKept, ⟨by decide +kernel, by decide +kernel, by decide +kernel⟩⟩
theorem cm_X3_journey : Cond.code yX3_journey cX3_journey 3 (some .int) ∈ zm_tbl := (zm_tbl_in (List.mem_of_getElem? (i := 893) (by decide +kernel)) rfl)
theorem se_X3_journey : Cond.selects RX3 yX3_journey yX3_journey ∈ zm_tbl := (zm_tbl_in (List.mem_of_getElem? (i := 892) (by decide +kernel)) rfl)
theorem ml_X10_169 {rm : Room} {b : Bool} {nm : String} : zm_Ml RX10 169 yX3_journey (cX3_journey, 3, RX3, rm, (some .int), b, nm) 2 := ⟨(zm_tbl_in (List.mem_of_getElem? (i := 890) (by decide +kernel)) rfl), (zm_tbl_in (List.mem_of_getElem? (i := 891) (by decide +kernel)) rfl), se_X3_journey, in_X3, cm_X3_journey, ⟨by decide +kernel, by decide +kernel, by decide +kernel⟩⟩
theorem kc_X10_351 : Cond.constant RX10 351 (1103515245) ∈ zm_tbl := (zm_tbl_in (List.mem_of_getElem? (i := 916) (by decide +kernel)) rfl)
theorem zs_12345 : (Int16.ofInt 12345).toInt32 = (12345 : Int32) := by decide
theorem zb_15 : (Int8.ofInt 15).toInt32 = (15 : Int32) := by decide
theorem zb_83 : (Int8.ofInt 83).toInt32 = (83 : Int32) := by decide
theorem cm_X10_stir : Cond.code yX10_stir cX10_stir 3 (some .int) ∈ zm_tbl := (zm_tbl_in (List.mem_of_getElem? (i := 915) (by decide +kernel)) rfl)
theorem ml_X10_348 {rm : Room} {b : Bool} {nm : String} : zm_Sl RX10 348 yX10_stir (cX10_stir, 3, RX10, rm, (some .int), b, nm) 2 := ⟨(zm_tbl_in (List.mem_of_getElem? (i := 913) (by decide +kernel)) rfl), (zm_tbl_in (List.mem_of_getElem? (i := 914) (by decide +kernel)) rfl), in_X10, cm_X10_stir, ⟨by decide +kernel, by decide +kernel, by decide +kernel⟩⟩
theorem cm_X4_tripsSoFar : Cond.code yX4_tripsSoFar cX4_tripsSoFar 1 (some .int) ∈ zm_tbl := (zm_tbl_in (List.mem_of_getElem? (i := 909) (by decide +kernel)) rfl)
theorem se_X4_tripsSoFar : Cond.selects RX4 yX4_tripsSoFar yX4_tripsSoFar ∈ zm_tbl := (zm_tbl_in (List.mem_of_getElem? (i := 908) (by decide +kernel)) rfl)
theorem ml_X10_320 {rm : Room} {b : Bool} {nm : String} : zm_Ml RX10 320 yX4_tripsSoFar (cX4_tripsSoFar, 1, RX4, rm, (some .int), b, nm) 0 := ⟨(zm_tbl_in (List.mem_of_getElem? (i := 906) (by decide +kernel)) rfl), (zm_tbl_in (List.mem_of_getElem? (i := 907) (by decide +kernel)) rfl), se_X4_tripsSoFar, in_X4, cm_X4_tripsSoFar, ⟨by decide +kernel, by decide +kernel, by decide +kernel⟩⟩
theorem cm_X10_lotOf100 : Cond.code yX10_lotOf100 cX10_lotOf100 3 (some .int) ∈ zm_tbl := (zm_tbl_in (List.mem_of_getElem? (i := 912) (by decide +kernel)) rfl)
theorem ml_X10_342 {rm : Room} {b : Bool} {nm : String} : zm_Sl RX10 342 yX10_lotOf100 (cX10_lotOf100, 3, RX10, rm, (some .int), b, nm) 2 := ⟨(zm_tbl_in (List.mem_of_getElem? (i := 910) (by decide +kernel)) rfl), (zm_tbl_in (List.mem_of_getElem? (i := 911) (by decide +kernel)) rfl), in_X10, cm_X10_lotOf100, ⟨by decide +kernel, by decide +kernel, by decide +kernel⟩⟩
theorem fl_X10_345 : zm_Fl RX10 345 8 16 0 := ⟨RX8, TX8, 19, rfl, zm_itX8, by decide, rfl, (zm_tbl_in (List.mem_of_getElem? (i := 409) (by decide +kernel)) rfl), rfl⟩
theorem cm_X1_keep : Cond.code yX1_keep cX1_keep 2 none ∈ zm_tbl := (zm_tbl_in (List.mem_of_getElem? (i := 924) (by decide +kernel)) rfl)
theorem se_X1_keep : Cond.selects RX1 yX1_keep yX1_keep ∈ zm_tbl := (zm_tbl_in (List.mem_of_getElem? (i := 923) (by decide +kernel)) rfl)
theorem ml_X10_332 {rm : Room} {b : Bool} {nm : String} : zm_Ml RX10 332 yX1_keep (cX1_keep, 2, RX1, rm, none, b, nm) 1 := ⟨(zm_tbl_in (List.mem_of_getElem? (i := 921) (by decide +kernel)) rfl), (zm_tbl_in (List.mem_of_getElem? (i := 922) (by decide +kernel)) rfl), se_X1_keep, in_X1, cm_X1_keep, ⟨by decide +kernel, by decide +kernel, by decide +kernel⟩⟩
theorem cm_X10_canBeSent : Cond.code yX10_canBeSent cX10_canBeSent 3 (some .boolean) ∈ zm_tbl := (zm_tbl_in (List.mem_of_getElem? (i := 901) (by decide +kernel)) rfl)
theorem se_X10_canBeSent : Cond.selects RX10 yX10_canBeSent yX10_canBeSent ∈ zm_tbl := (zm_tbl_in (List.mem_of_getElem? (i := 33) (by decide +kernel)) rfl)
theorem ml_X10_173 {rm : Room} {b : Bool} {nm : String} : zm_Ml RX10 173 yX10_canBeSent (cX10_canBeSent, 3, RX10, rm, (some .boolean), b, nm) 2 := ⟨(zm_tbl_in (List.mem_of_getElem? (i := 898) (by decide +kernel)) rfl), (zm_tbl_in (List.mem_of_getElem? (i := 900) (by decide +kernel)) rfl), se_X10_canBeSent, in_X10, cm_X10_canBeSent, ⟨by decide +kernel, by decide +kernel, by decide +kernel⟩⟩
theorem fl_X10_176 : zm_Fl RX10 176 8 18 0 := ⟨RX8, TX8, 19, rfl, zm_itX8, by decide, rfl, (zm_tbl_in (List.mem_of_getElem? (i := 415) (by decide +kernel)) rfl), rfl⟩
theorem cm_X10_isLate : Cond.code yX10_isLate cX10_isLate 2 (some .boolean) ∈ zm_tbl := (zm_tbl_in (List.mem_of_getElem? (i := 905) (by decide +kernel)) rfl)
theorem se_X10_isLate : Cond.selects RX10 yX10_isLate yX10_isLate ∈ zm_tbl := (zm_tbl_in (List.mem_of_getElem? (i := 34) (by decide +kernel)) rfl)
theorem ml_X10_179 {rm : Room} {b : Bool} {nm : String} : zm_Ml RX10 179 yX10_isLate (cX10_isLate, 2, RX10, rm, (some .boolean), b, nm) 1 := ⟨(zm_tbl_in (List.mem_of_getElem? (i := 902) (by decide +kernel)) rfl), (zm_tbl_in (List.mem_of_getElem? (i := 904) (by decide +kernel)) rfl), se_X10_isLate, in_X10, cm_X10_isLate, ⟨by decide +kernel, by decide +kernel, by decide +kernel⟩⟩
theorem cm_X10_beforeChange : Cond.code yX10_beforeChange cX10_beforeChange 1 none ∈ zm_tbl := (zm_tbl_in (List.mem_of_getElem? (i := 920) (by decide +kernel)) rfl)
theorem se_X10_beforeChange : Cond.selects RX10 yX10_beforeChange yX10_beforeChange ∈ zm_tbl := (zm_tbl_in (List.mem_of_getElem? (i := 35) (by decide +kernel)) rfl)
theorem ml_X10_182 {rm : Room} {b : Bool} {nm : String} : zm_Ml RX10 182 yX10_beforeChange (cX10_beforeChange, 1, RX10, rm, none, b, nm) 0 := ⟨(zm_tbl_in (List.mem_of_getElem? (i := 917) (by decide +kernel)) rfl), (zm_tbl_in (List.mem_of_getElem? (i := 919) (by decide +kernel)) rfl), se_X10_beforeChange, in_X10, cm_X10_beforeChange, ⟨by decide +kernel, by decide +kernel, by decide +kernel⟩⟩
theorem cm_X4_depart : Cond.code yX4_depart cX4_depart 5 none ∈ zm_tbl := (zm_tbl_in (List.mem_of_getElem? (i := 932) (by decide +kernel)) rfl)
theorem se_X4_depart : Cond.selects RX4 yX4_depart yX4_depart ∈ zm_tbl := (zm_tbl_in (List.mem_of_getElem? (i := 931) (by decide +kernel)) rfl)
theorem ml_X10_185 {rm : Room} {b : Bool} {nm : String} : zm_Ml RX10 185 yX4_depart (cX4_depart, 5, RX4, rm, none, b, nm) 4 := ⟨(zm_tbl_in (List.mem_of_getElem? (i := 929) (by decide +kernel)) rfl), (zm_tbl_in (List.mem_of_getElem? (i := 930) (by decide +kernel)) rfl), se_X4_depart, in_X4, cm_X4_depart, ⟨by decide +kernel, by decide +kernel, by decide +kernel⟩⟩
theorem cm_X1_size : Cond.code yX1_size cX1_size 1 (some .int) ∈ zm_tbl := (zm_tbl_in (List.mem_of_getElem? (i := 948) (by decide +kernel)) rfl)
theorem se_X1_size : Cond.selects RX1 yX1_size yX1_size ∈ zm_tbl := (zm_tbl_in (List.mem_of_getElem? (i := 947) (by decide +kernel)) rfl)
theorem ml_X10_192 {rm : Room} {b : Bool} {nm : String} : zm_Ml RX10 192 yX1_size (cX1_size, 1, RX1, rm, (some .int), b, nm) 0 := ⟨(zm_tbl_in (List.mem_of_getElem? (i := 945) (by decide +kernel)) rfl), (zm_tbl_in (List.mem_of_getElem? (i := 946) (by decide +kernel)) rfl), se_X1_size, in_X1, cm_X1_size, ⟨by decide +kernel, by decide +kernel, by decide +kernel⟩⟩
theorem cm_X1_takeBack : Cond.code yX1_takeBack cX1_takeBack 2 none ∈ zm_tbl := (zm_tbl_in (List.mem_of_getElem? (i := 952) (by decide +kernel)) rfl)
theorem se_X1_takeBack : Cond.selects RX1 yX1_takeBack yX1_takeBack ∈ zm_tbl := (zm_tbl_in (List.mem_of_getElem? (i := 951) (by decide +kernel)) rfl)
theorem ml_X10_195 {rm : Room} {b : Bool} {nm : String} : zm_Ml RX10 195 yX1_takeBack (cX1_takeBack, 2, RX1, rm, none, b, nm) 1 := ⟨(zm_tbl_in (List.mem_of_getElem? (i := 949) (by decide +kernel)) rfl), (zm_tbl_in (List.mem_of_getElem? (i := 950) (by decide +kernel)) rfl), se_X1_takeBack, in_X1, cm_X1_takeBack, ⟨by decide +kernel, by decide +kernel, by decide +kernel⟩⟩
theorem cm_X3_allWell : Cond.code yX3_allWell cX3_allWell 3 (some .boolean) ∈ zm_tbl := (zm_tbl_in (List.mem_of_getElem? (i := 960) (by decide +kernel)) rfl)
theorem se_X3_allWell : Cond.selects RX3 yX3_allWell yX3_allWell ∈ zm_tbl := (zm_tbl_in (List.mem_of_getElem? (i := 959) (by decide +kernel)) rfl)
theorem ml_X10_203 {rm : Room} {b : Bool} {nm : String} : zm_Ml RX10 203 yX3_allWell (cX3_allWell, 3, RX3, rm, (some .boolean), b, nm) 1 := ⟨(zm_tbl_in (List.mem_of_getElem? (i := 957) (by decide +kernel)) rfl), (zm_tbl_in (List.mem_of_getElem? (i := 958) (by decide +kernel)) rfl), se_X3_allWell, in_X3, cm_X3_allWell, ⟨by decide +kernel, by decide +kernel, by decide +kernel⟩⟩
theorem zs_200 : (Int16.ofInt 200).toInt32 = (200 : Int32) := by decide
theorem fl_X10_213 : zm_Fl RX10 213 10 11 2 := ⟨RX10, TX10, 17, rfl, zm_itX10, by decide, rfl, (zm_tbl_in (List.mem_of_getElem? (i := 497) (by decide +kernel)) rfl), rfl⟩
theorem cm_X10_gainOf : Cond.code yX10_gainOf cX10_gainOf 4 (some .int) ∈ zm_tbl := (zm_tbl_in (List.mem_of_getElem? (i := 1169) (by decide +kernel)) rfl)
theorem se_X10_gainOf : Cond.selects RX10 yX10_gainOf yX10_gainOf ∈ zm_tbl := (zm_tbl_in (List.mem_of_getElem? (i := 46) (by decide +kernel)) rfl)
theorem ml_X10_358 {rm : Room} {b : Bool} {nm : String} : zm_Ml RX10 358 yX10_gainOf (cX10_gainOf, 4, RX10, rm, (some .int), b, nm) 3 := ⟨(zm_tbl_in (List.mem_of_getElem? (i := 1166) (by decide +kernel)) rfl), (zm_tbl_in (List.mem_of_getElem? (i := 1168) (by decide +kernel)) rfl), se_X10_gainOf, in_X10, cm_X10_gainOf, ⟨by decide +kernel, by decide +kernel, by decide +kernel⟩⟩
theorem cm_X10_gainsOfSwap : Cond.code yX10_gainsOfSwap cX10_gainsOfSwap 5 (some .int) ∈ zm_tbl := (zm_tbl_in (List.mem_of_getElem? (i := 1165) (by decide +kernel)) rfl)
theorem se_X10_gainsOfSwap : Cond.selects RX10 yX10_gainsOfSwap yX10_gainsOfSwap ∈ zm_tbl := (zm_tbl_in (List.mem_of_getElem? (i := 45) (by decide +kernel)) rfl)
theorem ml_X10_355 {rm : Room} {b : Bool} {nm : String} : zm_Ml RX10 355 yX10_gainsOfSwap (cX10_gainsOfSwap, 5, RX10, rm, (some .int), b, nm) 2 := ⟨(zm_tbl_in (List.mem_of_getElem? (i := 1162) (by decide +kernel)) rfl), (zm_tbl_in (List.mem_of_getElem? (i := 1164) (by decide +kernel)) rfl), se_X10_gainsOfSwap, in_X10, cm_X10_gainsOfSwap, ⟨by decide +kernel, by decide +kernel, by decide +kernel⟩⟩
theorem cm_X10_swapAnswer : Cond.code yX10_swapAnswer cX10_swapAnswer 9 (some .int) ∈ zm_tbl := (zm_tbl_in (List.mem_of_getElem? (i := 1161) (by decide +kernel)) rfl)
theorem se_X10_swapAnswer : Cond.selects RX10 yX10_swapAnswer yX10_swapAnswer ∈ zm_tbl := (zm_tbl_in (List.mem_of_getElem? (i := 44) (by decide +kernel)) rfl)
theorem ml_X10_259 {rm : Room} {b : Bool} {nm : String} : zm_Ml RX10 259 yX10_swapAnswer (cX10_swapAnswer, 9, RX10, rm, (some .int), b, nm) 1 := ⟨(zm_tbl_in (List.mem_of_getElem? (i := 1158) (by decide +kernel)) rfl), (zm_tbl_in (List.mem_of_getElem? (i := 1160) (by decide +kernel)) rfl), se_X10_swapAnswer, in_X10, cm_X10_swapAnswer, ⟨by decide +kernel, by decide +kernel, by decide +kernel⟩⟩
theorem cm_X3_likingAlone : Cond.code yX3_likingAlone cX3_likingAlone 3 (some .int) ∈ zm_tbl := (zm_tbl_in (List.mem_of_getElem? (i := 1181) (by decide +kernel)) rfl)
theorem se_X3_likingAlone : Cond.selects RX3 yX3_likingAlone yX3_likingAlone ∈ zm_tbl := (zm_tbl_in (List.mem_of_getElem? (i := 1180) (by decide +kernel)) rfl)
theorem ml_X10_361 {rm : Room} {b : Bool} {nm : String} : zm_Ml RX10 361 yX3_likingAlone (cX3_likingAlone, 3, RX3, rm, (some .int), b, nm) 2 := ⟨(zm_tbl_in (List.mem_of_getElem? (i := 1178) (by decide +kernel)) rfl), (zm_tbl_in (List.mem_of_getElem? (i := 1179) (by decide +kernel)) rfl), se_X3_likingAlone, in_X3, cm_X3_likingAlone, ⟨by decide +kernel, by decide +kernel, by decide +kernel⟩⟩
theorem cm_X10_housesFreeToSendBack : Cond.code yX10_housesFreeToSendBack cX10_housesFreeToSendBack 4 (some .int) ∈ zm_tbl := (zm_tbl_in (List.mem_of_getElem? (i := 1177) (by decide +kernel)) rfl)
theorem se_X10_housesFreeToSendBack : Cond.selects RX10 yX10_housesFreeToSendBack yX10_housesFreeToSendBack ∈ zm_tbl := (zm_tbl_in (List.mem_of_getElem? (i := 47) (by decide +kernel)) rfl)
theorem ml_X10_262 {rm : Room} {b : Bool} {nm : String} : zm_Ml RX10 262 yX10_housesFreeToSendBack (cX10_housesFreeToSendBack, 4, RX10, rm, (some .int), b, nm) 0 := ⟨(zm_tbl_in (List.mem_of_getElem? (i := 1174) (by decide +kernel)) rfl), (zm_tbl_in (List.mem_of_getElem? (i := 1176) (by decide +kernel)) rfl), se_X10_housesFreeToSendBack, in_X10, cm_X10_housesFreeToSendBack, ⟨by decide +kernel, by decide +kernel, by decide +kernel⟩⟩
theorem ml_X10_231 {rm : Room} {b : Bool} {nm : String} : zm_Sl RX10 231 yJ6_bitCount_0f7a4 (cJ6_bitCount_0f7a4, 1, RJ6, rm, (some .int), b, nm) 1 := ⟨(zm_tbl_in (List.mem_of_getElem? (i := 1113) (by decide +kernel)) rfl), (zm_tbl_in (List.mem_of_getElem? (i := 1104) (by decide +kernel)) rfl), in_J6, cm_J6_bitCount_0f7a4, ⟨by decide +kernel, by decide +kernel, by decide +kernel⟩⟩
theorem cm_X10_subsetOf : Cond.code yX10_subsetOf cX10_subsetOf 5 (some .int) ∈ zm_tbl := (zm_tbl_in (List.mem_of_getElem? (i := 1184) (by decide +kernel)) rfl)
theorem ml_X10_265 {rm : Room} {b : Bool} {nm : String} : zm_Sl RX10 265 yX10_subsetOf (cX10_subsetOf, 5, RX10, rm, (some .int), b, nm) 2 := ⟨(zm_tbl_in (List.mem_of_getElem? (i := 1182) (by decide +kernel)) rfl), (zm_tbl_in (List.mem_of_getElem? (i := 1183) (by decide +kernel)) rfl), in_X10, cm_X10_subsetOf, ⟨by decide +kernel, by decide +kernel, by decide +kernel⟩⟩
theorem mm_X10_364 : Cond.methodLink RX10 364 Lib.Math.max.name ∈ zm_tbl := (zm_tbl_in (List.mem_of_getElem? (i := 1193) (by decide +kernel)) rfl)
theorem fl_X10_54 : zm_Fl RX10 54 10 8 3 := ⟨RX10, TX10, 17, rfl, zm_itX10, by decide, rfl, (zm_tbl_in (List.mem_of_getElem? (i := 494) (by decide +kernel)) rfl), rfl⟩
theorem cm_X10_shareOut : Cond.code yX10_shareOut cX10_shareOut 7 (some .int) ∈ zm_tbl := (zm_tbl_in (List.mem_of_getElem? (i := 1192) (by decide +kernel)) rfl)
theorem se_X10_shareOut : Cond.selects RX10 yX10_shareOut yX10_shareOut ∈ zm_tbl := (zm_tbl_in (List.mem_of_getElem? (i := 48) (by decide +kernel)) rfl)
theorem ml_X10_268 {rm : Room} {b : Bool} {nm : String} : zm_Ml RX10 268 yX10_shareOut (cX10_shareOut, 7, RX10, rm, (some .int), b, nm) 4 := ⟨(zm_tbl_in (List.mem_of_getElem? (i := 1189) (by decide +kernel)) rfl), (zm_tbl_in (List.mem_of_getElem? (i := 1191) (by decide +kernel)) rfl), se_X10_shareOut, in_X10, cm_X10_shareOut, ⟨by decide +kernel, by decide +kernel, by decide +kernel⟩⟩
theorem fl_X10_369 : zm_Fl RX10 369 8 17 0 := ⟨RX8, TX8, 19, rfl, zm_itX8, by decide, rfl, (zm_tbl_in (List.mem_of_getElem? (i := 412) (by decide +kernel)) rfl), rfl⟩
theorem mm_X10_372 : Cond.methodLink RX10 372 Lib.Math.min.name ∈ zm_tbl := (zm_tbl_in (List.mem_of_getElem? (i := 1194) (by decide +kernel)) rfl)
theorem cm_X10_valueIn : Cond.code yX10_valueIn cX10_valueIn 4 (some .int) ∈ zm_tbl := (zm_tbl_in (List.mem_of_getElem? (i := 1214) (by decide +kernel)) rfl)
theorem se_X10_valueIn : Cond.selects RX10 yX10_valueIn yX10_valueIn ∈ zm_tbl := (zm_tbl_in (List.mem_of_getElem? (i := 49) (by decide +kernel)) rfl)
theorem ml_X10_275 {rm : Room} {b : Bool} {nm : String} : zm_Ml RX10 275 yX10_valueIn (cX10_valueIn, 4, RX10, rm, (some .int), b, nm) 1 := ⟨(zm_tbl_in (List.mem_of_getElem? (i := 1211) (by decide +kernel)) rfl), (zm_tbl_in (List.mem_of_getElem? (i := 1213) (by decide +kernel)) rfl), se_X10_valueIn, in_X10, cm_X10_valueIn, ⟨by decide +kernel, by decide +kernel, by decide +kernel⟩⟩
theorem cm_X10_limitOf : Cond.code yX10_limitOf cX10_limitOf 2 (some .int) ∈ zm_tbl := (zm_tbl_in (List.mem_of_getElem? (i := 1226) (by decide +kernel)) rfl)
theorem se_X10_limitOf : Cond.selects RX10 yX10_limitOf yX10_limitOf ∈ zm_tbl := (zm_tbl_in (List.mem_of_getElem? (i := 50) (by decide +kernel)) rfl)
theorem ml_X10_278 {rm : Room} {b : Bool} {nm : String} : zm_Ml RX10 278 yX10_limitOf (cX10_limitOf, 2, RX10, rm, (some .int), b, nm) 1 := ⟨(zm_tbl_in (List.mem_of_getElem? (i := 1223) (by decide +kernel)) rfl), (zm_tbl_in (List.mem_of_getElem? (i := 1225) (by decide +kernel)) rfl), se_X10_limitOf, in_X10, cm_X10_limitOf, ⟨by decide +kernel, by decide +kernel, by decide +kernel⟩⟩
theorem cm_X0_addList : Cond.code yX0_addList cX0_addList 4 (some .int) ∈ zm_tbl := (zm_tbl_in (List.mem_of_getElem? (i := 1230) (by decide +kernel)) rfl)
theorem se_X0_addList : Cond.selects RX0 yX0_addList yX0_addList ∈ zm_tbl := (zm_tbl_in (List.mem_of_getElem? (i := 1229) (by decide +kernel)) rfl)
theorem ml_X10_281 {rm : Room} {b : Bool} {nm : String} : zm_Ml RX10 281 yX0_addList (cX0_addList, 4, RX0, rm, (some .int), b, nm) 3 := ⟨(zm_tbl_in (List.mem_of_getElem? (i := 1227) (by decide +kernel)) rfl), (zm_tbl_in (List.mem_of_getElem? (i := 1228) (by decide +kernel)) rfl), se_X0_addList, in_X0, cm_X0_addList, ⟨by decide +kernel, by decide +kernel, by decide +kernel⟩⟩
theorem cm_X0_size : Cond.code yX0_size cX0_size 1 (some .int) ∈ zm_tbl := (zm_tbl_in (List.mem_of_getElem? (i := 1238) (by decide +kernel)) rfl)
theorem se_X0_size : Cond.selects RX0 yX0_size yX0_size ∈ zm_tbl := (zm_tbl_in (List.mem_of_getElem? (i := 1237) (by decide +kernel)) rfl)
theorem ml_X10_284 {rm : Room} {b : Bool} {nm : String} : zm_Ml RX10 284 yX0_size (cX0_size, 1, RX0, rm, (some .int), b, nm) 0 := ⟨(zm_tbl_in (List.mem_of_getElem? (i := 1235) (by decide +kernel)) rfl), (zm_tbl_in (List.mem_of_getElem? (i := 1236) (by decide +kernel)) rfl), se_X0_size, in_X0, cm_X0_size, ⟨by decide +kernel, by decide +kernel, by decide +kernel⟩⟩
theorem cm_X10_isKnown : Cond.code yX10_isKnown cX10_isKnown 2 (some .boolean) ∈ zm_tbl := (zm_tbl_in (List.mem_of_getElem? (i := 1246) (by decide +kernel)) rfl)
theorem se_X10_isKnown : Cond.selects RX10 yX10_isKnown yX10_isKnown ∈ zm_tbl := (zm_tbl_in (List.mem_of_getElem? (i := 51) (by decide +kernel)) rfl)
theorem ml_X10_288 {rm : Room} {b : Bool} {nm : String} : zm_Ml RX10 288 yX10_isKnown (cX10_isKnown, 2, RX10, rm, (some .boolean), b, nm) 1 := ⟨(zm_tbl_in (List.mem_of_getElem? (i := 1243) (by decide +kernel)) rfl), (zm_tbl_in (List.mem_of_getElem? (i := 1245) (by decide +kernel)) rfl), se_X10_isKnown, in_X10, cm_X10_isKnown, ⟨by decide +kernel, by decide +kernel, by decide +kernel⟩⟩
theorem cm_X0_goThrough : Cond.code yX0_goThrough cX0_goThrough 5 none ∈ zm_tbl := (zm_tbl_in (List.mem_of_getElem? (i := 1250) (by decide +kernel)) rfl)
theorem se_X0_goThrough : Cond.selects RX0 yX0_goThrough yX0_goThrough ∈ zm_tbl := (zm_tbl_in (List.mem_of_getElem? (i := 1249) (by decide +kernel)) rfl)
theorem ml_X10_291 {rm : Room} {b : Bool} {nm : String} : zm_Ml RX10 291 yX0_goThrough (cX0_goThrough, 5, RX0, rm, none, b, nm) 2 := ⟨(zm_tbl_in (List.mem_of_getElem? (i := 1247) (by decide +kernel)) rfl), (zm_tbl_in (List.mem_of_getElem? (i := 1248) (by decide +kernel)) rfl), se_X0_goThrough, in_X0, cm_X0_goThrough, ⟨by decide +kernel, by decide +kernel, by decide +kernel⟩⟩
theorem cm_X0_waysWith : Cond.code yX0_waysWith cX0_waysWith 2 (some .int) ∈ zm_tbl := (zm_tbl_in (List.mem_of_getElem? (i := 1267) (by decide +kernel)) rfl)
theorem se_X0_waysWith : Cond.selects RX0 yX0_waysWith yX0_waysWith ∈ zm_tbl := (zm_tbl_in (List.mem_of_getElem? (i := 1266) (by decide +kernel)) rfl)
theorem ml_X10_295 {rm : Room} {b : Bool} {nm : String} : zm_Ml RX10 295 yX0_waysWith (cX0_waysWith, 2, RX0, rm, (some .int), b, nm) 1 := ⟨(zm_tbl_in (List.mem_of_getElem? (i := 1264) (by decide +kernel)) rfl), (zm_tbl_in (List.mem_of_getElem? (i := 1265) (by decide +kernel)) rfl), se_X0_waysWith, in_X0, cm_X0_waysWith, ⟨by decide +kernel, by decide +kernel, by decide +kernel⟩⟩
theorem cm_X0_fewestWrong : Cond.code yX0_fewestWrong cX0_fewestWrong 1 (some .int) ∈ zm_tbl := (zm_tbl_in (List.mem_of_getElem? (i := 1275) (by decide +kernel)) rfl)
theorem se_X0_fewestWrong : Cond.selects RX0 yX0_fewestWrong yX0_fewestWrong ∈ zm_tbl := (zm_tbl_in (List.mem_of_getElem? (i := 1274) (by decide +kernel)) rfl)
theorem ml_X10_298 {rm : Room} {b : Bool} {nm : String} : zm_Ml RX10 298 yX0_fewestWrong (cX0_fewestWrong, 1, RX0, rm, (some .int), b, nm) 0 := ⟨(zm_tbl_in (List.mem_of_getElem? (i := 1272) (by decide +kernel)) rfl), (zm_tbl_in (List.mem_of_getElem? (i := 1273) (by decide +kernel)) rfl), se_X0_fewestWrong, in_X0, cm_X0_fewestWrong, ⟨by decide +kernel, by decide +kernel, by decide +kernel⟩⟩
theorem kc_J6_264 : Cond.constant RJ6 264 (65536) ∈ zm_tbl := (zm_tbl_in (List.mem_of_getElem? (i := 1287) (by decide +kernel)) rfl)
theorem zi_8 : Int32.ofInt 8 = (8 : Int32) := by decide
theorem zi_16 : Int32.ofInt 16 = (16 : Int32) := by decide
theorem cm_X0_couldHave : Cond.code yX0_couldHave cX0_couldHave 2 (some .int) ∈ zm_tbl := (zm_tbl_in (List.mem_of_getElem? (i := 1283) (by decide +kernel)) rfl)
theorem se_X0_couldHave : Cond.selects RX0 yX0_couldHave yX0_couldHave ∈ zm_tbl := (zm_tbl_in (List.mem_of_getElem? (i := 1282) (by decide +kernel)) rfl)
theorem ml_X10_301 {rm : Room} {b : Bool} {nm : String} : zm_Ml RX10 301 yX0_couldHave (cX0_couldHave, 2, RX0, rm, (some .int), b, nm) 1 := ⟨(zm_tbl_in (List.mem_of_getElem? (i := 1280) (by decide +kernel)) rfl), (zm_tbl_in (List.mem_of_getElem? (i := 1281) (by decide +kernel)) rfl), se_X0_couldHave, in_X0, cm_X0_couldHave, ⟨by decide +kernel, by decide +kernel, by decide +kernel⟩⟩
theorem cm_J6_numberOfTrailingZeros_0f7a4 : Cond.code yJ6_numberOfTrailingZeros_0f7a4 cJ6_numberOfTrailingZeros_0f7a4 2 (some .int) ∈ zm_tbl := (zm_tbl_in (List.mem_of_getElem? (i := 1286) (by decide +kernel)) rfl)
theorem ml_X10_304 {rm : Room} {b : Bool} {nm : String} : zm_Sl RX10 304 yJ6_numberOfTrailingZeros_0f7a4 (cJ6_numberOfTrailingZeros_0f7a4, 2, RJ6, rm, (some .int), b, nm) 1 := ⟨(zm_tbl_in (List.mem_of_getElem? (i := 1284) (by decide +kernel)) rfl), (zm_tbl_in (List.mem_of_getElem? (i := 1285) (by decide +kernel)) rfl), in_J6, cm_J6_numberOfTrailingZeros_0f7a4, ⟨by decide +kernel, by decide +kernel, by decide +kernel⟩⟩
theorem fl_X10_43 : zm_Fl RX10 43 10 5 3 := ⟨RX10, TX10, 17, rfl, zm_itX10, by decide, rfl, (zm_tbl_in (List.mem_of_getElem? (i := 491) (by decide +kernel)) rfl), rfl⟩
theorem ac_X10_307 : Cond.methodLink RX10 307 arraycopyName ∈ zm_tbl := (zm_tbl_in (List.mem_of_getElem? (i := 1292) (by decide +kernel)) rfl)
theorem fl_X10_313 : zm_Fl RX10 313 10 14 0 := ⟨RX10, TX10, 17, rfl, zm_itX10, by decide, rfl, (zm_tbl_in (List.mem_of_getElem? (i := 500) (by decide +kernel)) rfl), rfl⟩
theorem cm_X10_worksUnderWay : Cond.code yX10_worksUnderWay cX10_worksUnderWay 3 (some .int) ∈ zm_tbl := (zm_tbl_in (List.mem_of_getElem? (i := 1304) (by decide +kernel)) rfl)
theorem se_X10_worksUnderWay : Cond.selects RX10 yX10_worksUnderWay yX10_worksUnderWay ∈ zm_tbl := (zm_tbl_in (List.mem_of_getElem? (i := 55) (by decide +kernel)) rfl)
theorem ml_X10_323 {rm : Room} {b : Bool} {nm : String} : zm_Ml RX10 323 yX10_worksUnderWay (cX10_worksUnderWay, 3, RX10, rm, (some .int), b, nm) 0 := ⟨(zm_tbl_in (List.mem_of_getElem? (i := 1301) (by decide +kernel)) rfl), (zm_tbl_in (List.mem_of_getElem? (i := 1303) (by decide +kernel)) rfl), se_X10_worksUnderWay, in_X10, cm_X10_worksUnderWay, ⟨by decide +kernel, by decide +kernel, by decide +kernel⟩⟩
theorem cm_X10_worksAtOwners : Cond.code yX10_worksAtOwners cX10_worksAtOwners 3 (some .int) ∈ zm_tbl := (zm_tbl_in (List.mem_of_getElem? (i := 1308) (by decide +kernel)) rfl)
theorem se_X10_worksAtOwners : Cond.selects RX10 yX10_worksAtOwners yX10_worksAtOwners ∈ zm_tbl := (zm_tbl_in (List.mem_of_getElem? (i := 56) (by decide +kernel)) rfl)
theorem ml_X10_326 {rm : Room} {b : Bool} {nm : String} : zm_Ml RX10 326 yX10_worksAtOwners (cX10_worksAtOwners, 3, RX10, rm, (some .int), b, nm) 0 := ⟨(zm_tbl_in (List.mem_of_getElem? (i := 1305) (by decide +kernel)) rfl), (zm_tbl_in (List.mem_of_getElem? (i := 1307) (by decide +kernel)) rfl), se_X10_worksAtOwners, in_X10, cm_X10_worksAtOwners, ⟨by decide +kernel, by decide +kernel, by decide +kernel⟩⟩
theorem fl_X11_49 : zm_Fl RX11 49 11 24 3 := ⟨RX11, TX11, 71, rfl, zm_itX11, by decide, rfl, (zm_tbl_in (List.mem_of_getElem? (i := 1357) (by decide +kernel)) rfl), rfl⟩
theorem fl_X11_58 : zm_Fl RX11 58 11 27 3 := ⟨RX11, TX11, 71, rfl, zm_itX11, by decide, rfl, (zm_tbl_in (List.mem_of_getElem? (i := 1360) (by decide +kernel)) rfl), rfl⟩
theorem fl_X11_73 : zm_Fl RX11 73 11 32 3 := ⟨RX11, TX11, 71, rfl, zm_itX11, by decide, rfl, (zm_tbl_in (List.mem_of_getElem? (i := 1365) (by decide +kernel)) rfl), rfl⟩
theorem fl_X11_88 : zm_Fl RX11 88 11 37 3 := ⟨RX11, TX11, 71, rfl, zm_itX11, by decide, rfl, (zm_tbl_in (List.mem_of_getElem? (i := 1370) (by decide +kernel)) rfl), rfl⟩
theorem fl_X11_91 : zm_Fl RX11 91 11 38 3 := ⟨RX11, TX11, 71, rfl, zm_itX11, by decide, rfl, (zm_tbl_in (List.mem_of_getElem? (i := 1371) (by decide +kernel)) rfl), rfl⟩
theorem fl_X11_94 : zm_Fl RX11 94 11 39 3 := ⟨RX11, TX11, 71, rfl, zm_itX11, by decide, rfl, (zm_tbl_in (List.mem_of_getElem? (i := 1372) (by decide +kernel)) rfl), rfl⟩
theorem fl_X11_97 : zm_Fl RX11 97 11 40 3 := ⟨RX11, TX11, 71, rfl, zm_itX11, by decide, rfl, (zm_tbl_in (List.mem_of_getElem? (i := 1373) (by decide +kernel)) rfl), rfl⟩
theorem fl_X11_100 : zm_Fl RX11 100 11 41 3 := ⟨RX11, TX11, 71, rfl, zm_itX11, by decide, rfl, (zm_tbl_in (List.mem_of_getElem? (i := 1374) (by decide +kernel)) rfl), rfl⟩
theorem kc_X11_197 : Cond.constantLong RX11 197 (27) ∈ zm_tbl := (zm_tbl_in (List.mem_of_getElem? (i := 1325) (by decide +kernel)) rfl)
theorem cm_X11_appends : Cond.code yX11_appends cX11_appends 3 (some .long) ∈ zm_tbl := (zm_tbl_in (List.mem_of_getElem? (i := 1324) (by decide +kernel)) rfl)
theorem in_X11 : Cond.initialized RX11 ∈ zm_tbl := (zm_tbl_in (List.mem_of_getElem? (i := 141) (by decide +kernel)) rfl)
theorem ml_X11_178 {rm : Room} {b : Bool} {nm : String} : zm_Sl RX11 178 yX11_appends (cX11_appends, 3, RX11, rm, (some .long), b, nm) 2 := ⟨(zm_tbl_in (List.mem_of_getElem? (i := 1322) (by decide +kernel)) rfl), (zm_tbl_in (List.mem_of_getElem? (i := 1323) (by decide +kernel)) rfl), in_X11, cm_X11_appends, ⟨by decide +kernel, by decide +kernel, by decide +kernel⟩⟩
theorem fl_X11_251 : zm_Fl RX11 251 11 18 0 := ⟨RX11, TX11, 71, rfl, zm_itX11, by decide, rfl, (zm_tbl_in (List.mem_of_getElem? (i := 1351) (by decide +kernel)) rfl), rfl⟩
theorem fp_X11_339 : zm_Fp RX11 339 11 58 0 .int := ⟨RX11, TX11, 71, tyX11, rfl, zm_itX11, by decide, rfl, (zm_tbl_in (List.mem_of_getElem? (i := 1391) (by decide +kernel)) rfl), rfl, tyX11_ok, nmX11, rfl, by decide +kernel⟩
theorem fl_X11_137 : zm_Fl RX11 137 11 57 3 := ⟨RX11, TX11, 71, rfl, zm_itX11, by decide, rfl, (zm_tbl_in (List.mem_of_getElem? (i := 1390) (by decide +kernel)) rfl), rfl⟩
theorem zb_12 : (Int8.ofInt 12).toInt32 = (12 : Int32) := by decide
theorem fl_X11_64 : zm_Fl RX11 64 11 29 3 := ⟨RX11, TX11, 71, rfl, zm_itX11, by decide, rfl, (zm_tbl_in (List.mem_of_getElem? (i := 1362) (by decide +kernel)) rfl), rfl⟩
theorem fl_X11_134 : zm_Fl RX11 134 11 56 3 := ⟨RX11, TX11, 71, rfl, zm_itX11, by decide, rfl, (zm_tbl_in (List.mem_of_getElem? (i := 1389) (by decide +kernel)) rfl), rfl⟩
theorem fl_X11_13 : zm_Fl RX11 13 11 1 3 := ⟨RX11, TX11, 71, rfl, zm_itX11, by decide, rfl, (zm_tbl_in (List.mem_of_getElem? (i := 1334) (by decide +kernel)) rfl), rfl⟩
theorem fl_X11_188 : zm_Fl RX11 188 11 2 0 := ⟨RX11, TX11, 71, rfl, zm_itX11, by decide, rfl, (zm_tbl_in (List.mem_of_getElem? (i := 1335) (by decide +kernel)) rfl), rfl⟩
theorem fp_X11_188 : zm_Fp RX11 188 11 2 0 .int := ⟨RX11, TX11, 71, tyX11, rfl, zm_itX11, by decide, rfl, (zm_tbl_in (List.mem_of_getElem? (i := 1335) (by decide +kernel)) rfl), rfl, tyX11_ok, nmX11, rfl, by decide +kernel⟩
theorem cm_X11_put : Cond.code yX11_put cX11_put 3 none ∈ zm_tbl := (zm_tbl_in (List.mem_of_getElem? (i := 1555) (by decide +kernel)) rfl)
theorem se_X11_put : Cond.selects RX11 yX11_put yX11_put ∈ zm_tbl := (zm_tbl_in (List.mem_of_getElem? (i := 60) (by decide +kernel)) rfl)
theorem ml_X11_191 {rm : Room} {b : Bool} {nm : String} : zm_Ml RX11 191 yX11_put (cX11_put, 3, RX11, rm, none, b, nm) 1 := ⟨(zm_tbl_in (List.mem_of_getElem? (i := 1552) (by decide +kernel)) rfl), (zm_tbl_in (List.mem_of_getElem? (i := 1554) (by decide +kernel)) rfl), se_X11_put, in_X11, cm_X11_put, ⟨by decide +kernel, by decide +kernel, by decide +kernel⟩⟩
theorem fl_X11_194 : zm_Fl RX11 194 11 4 0 := ⟨RX11, TX11, 71, rfl, zm_itX11, by decide, rfl, (zm_tbl_in (List.mem_of_getElem? (i := 1337) (by decide +kernel)) rfl), rfl⟩
theorem fl_X11_17 : zm_Fl RX11 17 11 3 3 := ⟨RX11, TX11, 71, rfl, zm_itX11, by decide, rfl, (zm_tbl_in (List.mem_of_getElem? (i := 1336) (by decide +kernel)) rfl), rfl⟩
theorem fl_X11_20 : zm_Fl RX11 20 11 5 3 := ⟨RX11, TX11, 71, rfl, zm_itX11, by decide, rfl, (zm_tbl_in (List.mem_of_getElem? (i := 1338) (by decide +kernel)) rfl), rfl⟩
theorem fl_X11_199 : zm_Fl RX11 199 11 10 0 := ⟨RX11, TX11, 71, rfl, zm_itX11, by decide, rfl, (zm_tbl_in (List.mem_of_getElem? (i := 1343) (by decide +kernel)) rfl), rfl⟩
theorem fl_X11_24 : zm_Fl RX11 24 11 6 3 := ⟨RX11, TX11, 71, rfl, zm_itX11, by decide, rfl, (zm_tbl_in (List.mem_of_getElem? (i := 1339) (by decide +kernel)) rfl), rfl⟩
theorem fl_X11_27 : zm_Fl RX11 27 11 7 3 := ⟨RX11, TX11, 71, rfl, zm_itX11, by decide, rfl, (zm_tbl_in (List.mem_of_getElem? (i := 1340) (by decide +kernel)) rfl), rfl⟩
theorem fl_X11_30 : zm_Fl RX11 30 11 8 3 := ⟨RX11, TX11, 71, rfl, zm_itX11, by decide, rfl, (zm_tbl_in (List.mem_of_getElem? (i := 1341) (by decide +kernel)) rfl), rfl⟩
theorem fp_X11_199 : zm_Fp RX11 199 11 10 0 .int := ⟨RX11, TX11, 71, tyX11, rfl, zm_itX11, by decide, rfl, (zm_tbl_in (List.mem_of_getElem? (i := 1343) (by decide +kernel)) rfl), rfl, tyX11_ok, nmX11, rfl, by decide +kernel⟩
theorem cm_X11_token : Cond.code yX11_token cX11_token 6 none ∈ zm_tbl := (zm_tbl_in (List.mem_of_getElem? (i := 1575) (by decide +kernel)) rfl)
theorem se_X11_token : Cond.selects RX11 yX11_token yX11_token ∈ zm_tbl := (zm_tbl_in (List.mem_of_getElem? (i := 63) (by decide +kernel)) rfl)
theorem ml_X11_206 {rm : Room} {b : Bool} {nm : String} : zm_Ml RX11 206 yX11_token (cX11_token, 6, RX11, rm, none, b, nm) 4 := ⟨(zm_tbl_in (List.mem_of_getElem? (i := 1572) (by decide +kernel)) rfl), (zm_tbl_in (List.mem_of_getElem? (i := 1574) (by decide +kernel)) rfl), se_X11_token, in_X11, cm_X11_token, ⟨by decide +kernel, by decide +kernel, by decide +kernel⟩⟩
theorem cm_X11_byteAt : Cond.code yX11_byteAt cX11_byteAt 2 (some .int) ∈ zm_tbl := (zm_tbl_in (List.mem_of_getElem? (i := 1571) (by decide +kernel)) rfl)
theorem se_X11_byteAt : Cond.selects RX11 yX11_byteAt yX11_byteAt ∈ zm_tbl := (zm_tbl_in (List.mem_of_getElem? (i := 62) (by decide +kernel)) rfl)
theorem ml_X11_202 {rm : Room} {b : Bool} {nm : String} : zm_Ml RX11 202 yX11_byteAt (cX11_byteAt, 2, RX11, rm, (some .int), b, nm) 1 := ⟨(zm_tbl_in (List.mem_of_getElem? (i := 1568) (by decide +kernel)) rfl), (zm_tbl_in (List.mem_of_getElem? (i := 1570) (by decide +kernel)) rfl), se_X11_byteAt, in_X11, cm_X11_byteAt, ⟨by decide +kernel, by decide +kernel, by decide +kernel⟩⟩
theorem cm_X11_isLetter : Cond.code yX11_isLetter cX11_isLetter 1 (some .boolean) ∈ zm_tbl := (zm_tbl_in (List.mem_of_getElem? (i := 1578) (by decide +kernel)) rfl)
theorem ml_X11_210 {rm : Room} {b : Bool} {nm : String} : zm_Sl RX11 210 yX11_isLetter (cX11_isLetter, 1, RX11, rm, (some .boolean), b, nm) 1 := ⟨(zm_tbl_in (List.mem_of_getElem? (i := 1576) (by decide +kernel)) rfl), (zm_tbl_in (List.mem_of_getElem? (i := 1577) (by decide +kernel)) rfl), in_X11, cm_X11_isLetter, ⟨by decide +kernel, by decide +kernel, by decide +kernel⟩⟩
theorem cm_X11_isDigit : Cond.code yX11_isDigit cX11_isDigit 1 (some .boolean) ∈ zm_tbl := (zm_tbl_in (List.mem_of_getElem? (i := 1581) (by decide +kernel)) rfl)
theorem ml_X11_214 {rm : Room} {b : Bool} {nm : String} : zm_Sl RX11 214 yX11_isDigit (cX11_isDigit, 1, RX11, rm, (some .boolean), b, nm) 1 := ⟨(zm_tbl_in (List.mem_of_getElem? (i := 1579) (by decide +kernel)) rfl), (zm_tbl_in (List.mem_of_getElem? (i := 1580) (by decide +kernel)) rfl), in_X11, cm_X11_isDigit, ⟨by decide +kernel, by decide +kernel, by decide +kernel⟩⟩
theorem cm_X11_sign : Cond.code yX11_sign cX11_sign 5 (some .int) ∈ zm_tbl := (zm_tbl_in (List.mem_of_getElem? (i := 1585) (by decide +kernel)) rfl)
theorem se_X11_sign : Cond.selects RX11 yX11_sign yX11_sign ∈ zm_tbl := (zm_tbl_in (List.mem_of_getElem? (i := 64) (by decide +kernel)) rfl)
theorem ml_X11_217 {rm : Room} {b : Bool} {nm : String} : zm_Ml RX11 217 yX11_sign (cX11_sign, 5, RX11, rm, (some .int), b, nm) 3 := ⟨(zm_tbl_in (List.mem_of_getElem? (i := 1582) (by decide +kernel)) rfl), (zm_tbl_in (List.mem_of_getElem? (i := 1584) (by decide +kernel)) rfl), se_X11_sign, in_X11, cm_X11_sign, ⟨by decide +kernel, by decide +kernel, by decide +kernel⟩⟩
theorem fl_X11_34 : zm_Fl RX11 34 11 9 3 := ⟨RX11, TX11, 71, rfl, zm_itX11, by decide, rfl, (zm_tbl_in (List.mem_of_getElem? (i := 1342) (by decide +kernel)) rfl), rfl⟩
theorem fl_X11_221 : zm_Fl RX11 221 11 13 0 := ⟨RX11, TX11, 71, rfl, zm_itX11, by decide, rfl, (zm_tbl_in (List.mem_of_getElem? (i := 1346) (by decide +kernel)) rfl), rfl⟩
theorem fl_X11_224 : zm_Fl RX11 224 11 11 0 := ⟨RX11, TX11, 71, rfl, zm_itX11, by decide, rfl, (zm_tbl_in (List.mem_of_getElem? (i := 1344) (by decide +kernel)) rfl), rfl⟩
theorem fp_X11_221 : zm_Fp RX11 221 11 13 0 .int := ⟨RX11, TX11, 71, tyX11, rfl, zm_itX11, by decide, rfl, (zm_tbl_in (List.mem_of_getElem? (i := 1346) (by decide +kernel)) rfl), rfl, tyX11_ok, nmX11, rfl, by decide +kernel⟩
theorem fp_X11_227 : zm_Fp RX11 227 11 14 0 .int := ⟨RX11, TX11, 71, tyX11, rfl, zm_itX11, by decide, rfl, (zm_tbl_in (List.mem_of_getElem? (i := 1347) (by decide +kernel)) rfl), rfl, tyX11_ok, nmX11, rfl, by decide +kernel⟩
theorem fl_X11_230 : zm_Fl RX11 230 11 15 0 := ⟨RX11, TX11, 71, rfl, zm_itX11, by decide, rfl, (zm_tbl_in (List.mem_of_getElem? (i := 1348) (by decide +kernel)) rfl), rfl⟩
theorem fp_X11_230 : zm_Fp RX11 230 11 15 0 .int := ⟨RX11, TX11, 71, tyX11, rfl, zm_itX11, by decide, rfl, (zm_tbl_in (List.mem_of_getElem? (i := 1348) (by decide +kernel)) rfl), rfl, tyX11_ok, nmX11, rfl, by decide +kernel⟩
theorem fp_X11_233 : zm_Fp RX11 233 11 16 0 .int := ⟨RX11, TX11, 71, tyX11, rfl, zm_itX11, by decide, rfl, (zm_tbl_in (List.mem_of_getElem? (i := 1349) (by decide +kernel)) rfl), rfl, tyX11_ok, nmX11, rfl, by decide +kernel⟩
theorem fl_X11_233 : zm_Fl RX11 233 11 16 0 := ⟨RX11, TX11, 71, rfl, zm_itX11, by decide, rfl, (zm_tbl_in (List.mem_of_getElem? (i := 1349) (by decide +kernel)) rfl), rfl⟩
theorem cm_X11_fail : Cond.code yX11_fail cX11_fail 2 none ∈ zm_tbl := (zm_tbl_in (List.mem_of_getElem? (i := 1601) (by decide +kernel)) rfl)
theorem se_X11_fail : Cond.selects RX11 yX11_fail yX11_fail ∈ zm_tbl := (zm_tbl_in (List.mem_of_getElem? (i := 68) (by decide +kernel)) rfl)
theorem ml_X11_236 {rm : Room} {b : Bool} {nm : String} : zm_Ml RX11 236 yX11_fail (cX11_fail, 2, RX11, rm, none, b, nm) 1 := ⟨(zm_tbl_in (List.mem_of_getElem? (i := 1598) (by decide +kernel)) rfl), (zm_tbl_in (List.mem_of_getElem? (i := 1600) (by decide +kernel)) rfl), se_X11_fail, in_X11, cm_X11_fail, ⟨by decide +kernel, by decide +kernel, by decide +kernel⟩⟩
theorem fp_X11_224 : zm_Fp RX11 224 11 11 0 .int := ⟨RX11, TX11, 71, tyX11, rfl, zm_itX11, by decide, rfl, (zm_tbl_in (List.mem_of_getElem? (i := 1344) (by decide +kernel)) rfl), rfl, tyX11_ok, nmX11, rfl, by decide +kernel⟩
theorem cm_X11_is : Cond.code yX11_is cX11_is 2 (some .boolean) ∈ zm_tbl := (zm_tbl_in (List.mem_of_getElem? (i := 1589) (by decide +kernel)) rfl)
theorem se_X11_is : Cond.selects RX11 yX11_is yX11_is ∈ zm_tbl := (zm_tbl_in (List.mem_of_getElem? (i := 65) (by decide +kernel)) rfl)
theorem ml_X11_239 {rm : Room} {b : Bool} {nm : String} : zm_Ml RX11 239 yX11_is (cX11_is, 2, RX11, rm, (some .boolean), b, nm) 1 := ⟨(zm_tbl_in (List.mem_of_getElem? (i := 1586) (by decide +kernel)) rfl), (zm_tbl_in (List.mem_of_getElem? (i := 1588) (by decide +kernel)) rfl), se_X11_is, in_X11, cm_X11_is, ⟨by decide +kernel, by decide +kernel, by decide +kernel⟩⟩
theorem cm_X11_goesOn : Cond.code yX11_goesOn cX11_goesOn 1 none ∈ zm_tbl := (zm_tbl_in (List.mem_of_getElem? (i := 1605) (by decide +kernel)) rfl)
theorem se_X11_goesOn : Cond.selects RX11 yX11_goesOn yX11_goesOn ∈ zm_tbl := (zm_tbl_in (List.mem_of_getElem? (i := 69) (by decide +kernel)) rfl)
theorem ml_X11_242 {rm : Room} {b : Bool} {nm : String} : zm_Ml RX11 242 yX11_goesOn (cX11_goesOn, 1, RX11, rm, none, b, nm) 0 := ⟨(zm_tbl_in (List.mem_of_getElem? (i := 1602) (by decide +kernel)) rfl), (zm_tbl_in (List.mem_of_getElem? (i := 1604) (by decide +kernel)) rfl), se_X11_goesOn, in_X11, cm_X11_goesOn, ⟨by decide +kernel, by decide +kernel, by decide +kernel⟩⟩
theorem cm_X11_must : Cond.code yX11_must cX11_must 2 none ∈ zm_tbl := (zm_tbl_in (List.mem_of_getElem? (i := 1617) (by decide +kernel)) rfl)
theorem se_X11_must : Cond.selects RX11 yX11_must yX11_must ∈ zm_tbl := (zm_tbl_in (List.mem_of_getElem? (i := 72) (by decide +kernel)) rfl)
theorem ml_X11_292 {rm : Room} {b : Bool} {nm : String} : zm_Ml RX11 292 yX11_must (cX11_must, 2, RX11, rm, none, b, nm) 1 := ⟨(zm_tbl_in (List.mem_of_getElem? (i := 1614) (by decide +kernel)) rfl), (zm_tbl_in (List.mem_of_getElem? (i := 1616) (by decide +kernel)) rfl), se_X11_must, in_X11, cm_X11_must, ⟨by decide +kernel, by decide +kernel, by decide +kernel⟩⟩
theorem fl_X11_257 : zm_Fl RX11 257 11 20 0 := ⟨RX11, TX11, 71, rfl, zm_itX11, by decide, rfl, (zm_tbl_in (List.mem_of_getElem? (i := 1353) (by decide +kernel)) rfl), rfl⟩
theorem fl_X11_40 : zm_Fl RX11 40 11 21 3 := ⟨RX11, TX11, 71, rfl, zm_itX11, by decide, rfl, (zm_tbl_in (List.mem_of_getElem? (i := 1354) (by decide +kernel)) rfl), rfl⟩
theorem cm_X11_wrong : Cond.code yX11_wrong cX11_wrong 4 none ∈ zm_tbl := (zm_tbl_in (List.mem_of_getElem? (i := 1621) (by decide +kernel)) rfl)
theorem se_X11_wrong : Cond.selects RX11 yX11_wrong yX11_wrong ∈ zm_tbl := (zm_tbl_in (List.mem_of_getElem? (i := 73) (by decide +kernel)) rfl)
theorem ml_X11_298 {rm : Room} {b : Bool} {nm : String} : zm_Ml RX11 298 yX11_wrong (cX11_wrong, 4, RX11, rm, none, b, nm) 2 := ⟨(zm_tbl_in (List.mem_of_getElem? (i := 1618) (by decide +kernel)) rfl), (zm_tbl_in (List.mem_of_getElem? (i := 1620) (by decide +kernel)) rfl), se_X11_wrong, in_X11, cm_X11_wrong, ⟨by decide +kernel, by decide +kernel, by decide +kernel⟩⟩
theorem fl_X11_43 : zm_Fl RX11 43 11 22 3 := ⟨RX11, TX11, 71, rfl, zm_itX11, by decide, rfl, (zm_tbl_in (List.mem_of_getElem? (i := 1355) (by decide +kernel)) rfl), rfl⟩
theorem fl_X11_46 : zm_Fl RX11 46 11 23 3 := ⟨RX11, TX11, 71, rfl, zm_itX11, by decide, rfl, (zm_tbl_in (List.mem_of_getElem? (i := 1356) (by decide +kernel)) rfl), rfl⟩
theorem fp_X11_257 : zm_Fp RX11 257 11 20 0 .int := ⟨RX11, TX11, 71, tyX11, rfl, zm_itX11, by decide, rfl, (zm_tbl_in (List.mem_of_getElem? (i := 1353) (by decide +kernel)) rfl), rfl, tyX11_ok, nmX11, rfl, by decide +kernel⟩
theorem fl_X11_254 : zm_Fl RX11 254 11 19 0 := ⟨RX11, TX11, 71, rfl, zm_itX11, by decide, rfl, (zm_tbl_in (List.mem_of_getElem? (i := 1352) (by decide +kernel)) rfl), rfl⟩
theorem cm_X11_named : Cond.code yX11_named cX11_named 3 (some .int) ∈ zm_tbl := (zm_tbl_in (List.mem_of_getElem? (i := 1613) (by decide +kernel)) rfl)
theorem se_X11_named : Cond.selects RX11 yX11_named yX11_named ∈ zm_tbl := (zm_tbl_in (List.mem_of_getElem? (i := 71) (by decide +kernel)) rfl)
theorem ml_X11_301 {rm : Room} {b : Bool} {nm : String} : zm_Ml RX11 301 yX11_named (cX11_named, 3, RX11, rm, (some .int), b, nm) 0 := ⟨(zm_tbl_in (List.mem_of_getElem? (i := 1610) (by decide +kernel)) rfl), (zm_tbl_in (List.mem_of_getElem? (i := 1612) (by decide +kernel)) rfl), se_X11_named, in_X11, cm_X11_named, ⟨by decide +kernel, by decide +kernel, by decide +kernel⟩⟩
theorem fl_X11_52 : zm_Fl RX11 52 11 25 3 := ⟨RX11, TX11, 71, rfl, zm_itX11, by decide, rfl, (zm_tbl_in (List.mem_of_getElem? (i := 1358) (by decide +kernel)) rfl), rfl⟩
theorem cm_X11_bounded : Cond.code yX11_bounded cX11_bounded 4 (some .int) ∈ zm_tbl := (zm_tbl_in (List.mem_of_getElem? (i := 1625) (by decide +kernel)) rfl)
theorem se_X11_bounded : Cond.selects RX11 yX11_bounded yX11_bounded ∈ zm_tbl := (zm_tbl_in (List.mem_of_getElem? (i := 74) (by decide +kernel)) rfl)
theorem ml_X11_288 {rm : Room} {b : Bool} {nm : String} : zm_Ml RX11 288 yX11_bounded (cX11_bounded, 4, RX11, rm, (some .int), b, nm) 2 := ⟨(zm_tbl_in (List.mem_of_getElem? (i := 1622) (by decide +kernel)) rfl), (zm_tbl_in (List.mem_of_getElem? (i := 1624) (by decide +kernel)) rfl), se_X11_bounded, in_X11, cm_X11_bounded, ⟨by decide +kernel, by decide +kernel, by decide +kernel⟩⟩
theorem fl_X11_55 : zm_Fl RX11 55 11 26 3 := ⟨RX11, TX11, 71, rfl, zm_itX11, by decide, rfl, (zm_tbl_in (List.mem_of_getElem? (i := 1359) (by decide +kernel)) rfl), rfl⟩
theorem cm_X11_ends : Cond.code yX11_ends cX11_ends 4 none ∈ zm_tbl := (zm_tbl_in (List.mem_of_getElem? (i := 1629) (by decide +kernel)) rfl)
theorem se_X11_ends : Cond.selects RX11 yX11_ends yX11_ends ∈ zm_tbl := (zm_tbl_in (List.mem_of_getElem? (i := 75) (by decide +kernel)) rfl)
theorem ml_X11_305 {rm : Room} {b : Bool} {nm : String} : zm_Ml RX11 305 yX11_ends (cX11_ends, 4, RX11, rm, none, b, nm) 3 := ⟨(zm_tbl_in (List.mem_of_getElem? (i := 1626) (by decide +kernel)) rfl), (zm_tbl_in (List.mem_of_getElem? (i := 1628) (by decide +kernel)) rfl), se_X11_ends, in_X11, cm_X11_ends, ⟨by decide +kernel, by decide +kernel, by decide +kernel⟩⟩
theorem fl_X11_61 : zm_Fl RX11 61 11 28 3 := ⟨RX11, TX11, 71, rfl, zm_itX11, by decide, rfl, (zm_tbl_in (List.mem_of_getElem? (i := 1361) (by decide +kernel)) rfl), rfl⟩
theorem cm_X11_known : Cond.code yX11_known cX11_known 4 (some .int) ∈ zm_tbl := (zm_tbl_in (List.mem_of_getElem? (i := 1637) (by decide +kernel)) rfl)
theorem se_X11_known : Cond.selects RX11 yX11_known yX11_known ∈ zm_tbl := (zm_tbl_in (List.mem_of_getElem? (i := 77) (by decide +kernel)) rfl)
theorem ml_X11_309 {rm : Room} {b : Bool} {nm : String} : zm_Ml RX11 309 yX11_known (cX11_known, 4, RX11, rm, (some .int), b, nm) 1 := ⟨(zm_tbl_in (List.mem_of_getElem? (i := 1634) (by decide +kernel)) rfl), (zm_tbl_in (List.mem_of_getElem? (i := 1636) (by decide +kernel)) rfl), se_X11_known, in_X11, cm_X11_known, ⟨by decide +kernel, by decide +kernel, by decide +kernel⟩⟩
theorem fl_X11_67 : zm_Fl RX11 67 11 30 3 := ⟨RX11, TX11, 71, rfl, zm_itX11, by decide, rfl, (zm_tbl_in (List.mem_of_getElem? (i := 1363) (by decide +kernel)) rfl), rfl⟩
theorem fl_X11_70 : zm_Fl RX11 70 11 31 3 := ⟨RX11, TX11, 71, rfl, zm_itX11, by decide, rfl, (zm_tbl_in (List.mem_of_getElem? (i := 1364) (by decide +kernel)) rfl), rfl⟩
theorem fl_X11_119 : zm_Fl RX11 119 11 49 3 := ⟨RX11, TX11, 71, rfl, zm_itX11, by decide, rfl, (zm_tbl_in (List.mem_of_getElem? (i := 1382) (by decide +kernel)) rfl), rfl⟩
theorem fl_X11_263 : zm_Fl RX11 263 11 48 0 := ⟨RX11, TX11, 71, rfl, zm_itX11, by decide, rfl, (zm_tbl_in (List.mem_of_getElem? (i := 1381) (by decide +kernel)) rfl), rfl⟩
theorem fl_X11_122 : zm_Fl RX11 122 11 50 3 := ⟨RX11, TX11, 71, rfl, zm_itX11, by decide, rfl, (zm_tbl_in (List.mem_of_getElem? (i := 1383) (by decide +kernel)) rfl), rfl⟩
theorem fp_X11_263 : zm_Fp RX11 263 11 48 0 .int := ⟨RX11, TX11, 71, tyX11, rfl, zm_itX11, by decide, rfl, (zm_tbl_in (List.mem_of_getElem? (i := 1381) (by decide +kernel)) rfl), rfl, tyX11_ok, nmX11, rfl, by decide +kernel⟩
theorem zb_31 : (Int8.ofInt 31).toInt32 = (31 : Int32) := by decide
theorem zb_39 : (Int8.ofInt 39).toInt32 = (39 : Int32) := by decide
theorem cm_X11_emit : Cond.code yX11_emit cX11_emit 3 none ∈ zm_tbl := (zm_tbl_in (List.mem_of_getElem? (i := 1653) (by decide +kernel)) rfl)
theorem se_X11_emit : Cond.selects RX11 yX11_emit yX11_emit ∈ zm_tbl := (zm_tbl_in (List.mem_of_getElem? (i := 81) (by decide +kernel)) rfl)
theorem ml_X11_321 {rm : Room} {b : Bool} {nm : String} : zm_Ml RX11 321 yX11_emit (cX11_emit, 3, RX11, rm, none, b, nm) 2 := ⟨(zm_tbl_in (List.mem_of_getElem? (i := 1650) (by decide +kernel)) rfl), (zm_tbl_in (List.mem_of_getElem? (i := 1652) (by decide +kernel)) rfl), se_X11_emit, in_X11, cm_X11_emit, ⟨by decide +kernel, by decide +kernel, by decide +kernel⟩⟩
theorem fl_X11_318 : zm_Fl RX11 318 11 52 0 := ⟨RX11, TX11, 71, rfl, zm_itX11, by decide, rfl, (zm_tbl_in (List.mem_of_getElem? (i := 1385) (by decide +kernel)) rfl), rfl⟩
theorem fl_X11_125 : zm_Fl RX11 125 11 51 3 := ⟨RX11, TX11, 71, rfl, zm_itX11, by decide, rfl, (zm_tbl_in (List.mem_of_getElem? (i := 1384) (by decide +kernel)) rfl), rfl⟩
theorem fp_X11_318 : zm_Fp RX11 318 11 52 0 .int := ⟨RX11, TX11, 71, tyX11, rfl, zm_itX11, by decide, rfl, (zm_tbl_in (List.mem_of_getElem? (i := 1385) (by decide +kernel)) rfl), rfl, tyX11_ok, nmX11, rfl, by decide +kernel⟩
theorem fl_X11_248 : zm_Fl RX11 248 11 12 0 := ⟨RX11, TX11, 71, rfl, zm_itX11, by decide, rfl, (zm_tbl_in (List.mem_of_getElem? (i := 1345) (by decide +kernel)) rfl), rfl⟩
theorem cm_X11_comesOut : Cond.code yX11_comesOut cX11_comesOut 3 none ∈ zm_tbl := (zm_tbl_in (List.mem_of_getElem? (i := 1657) (by decide +kernel)) rfl)
theorem se_X11_comesOut : Cond.selects RX11 yX11_comesOut yX11_comesOut ∈ zm_tbl := (zm_tbl_in (List.mem_of_getElem? (i := 82) (by decide +kernel)) rfl)
theorem ml_X11_327 {rm : Room} {b : Bool} {nm : String} : zm_Ml RX11 327 yX11_comesOut (cX11_comesOut, 3, RX11, rm, none, b, nm) 1 := ⟨(zm_tbl_in (List.mem_of_getElem? (i := 1654) (by decide +kernel)) rfl), (zm_tbl_in (List.mem_of_getElem? (i := 1656) (by decide +kernel)) rfl), se_X11_comesOut, in_X11, cm_X11_comesOut, ⟨by decide +kernel, by decide +kernel, by decide +kernel⟩⟩
theorem cm_X11_unit : Cond.code yX11_unit cX11_unit 1 none ∈ zm_tbl := (zm_tbl_in (List.mem_of_getElem? (i := 1649) (by decide +kernel)) rfl)
theorem se_X11_unit : Cond.selects RX11 yX11_unit yX11_unit ∈ zm_tbl := (zm_tbl_in (List.mem_of_getElem? (i := 80) (by decide +kernel)) rfl)
theorem ml_X11_324 {rm : Room} {b : Bool} {nm : String} : zm_Ml RX11 324 yX11_unit (cX11_unit, 1, RX11, rm, none, b, nm) 0 := ⟨(zm_tbl_in (List.mem_of_getElem? (i := 1646) (by decide +kernel)) rfl), (zm_tbl_in (List.mem_of_getElem? (i := 1648) (by decide +kernel)) rfl), se_X11_unit, in_X11, cm_X11_unit, ⟨by decide +kernel, by decide +kernel, by decide +kernel⟩⟩
theorem fp_X11_248 : zm_Fp RX11 248 11 12 0 .int := ⟨RX11, TX11, 71, tyX11, rfl, zm_itX11, by decide, rfl, (zm_tbl_in (List.mem_of_getElem? (i := 1345) (by decide +kernel)) rfl), rfl, tyX11_ok, nmX11, rfl, by decide +kernel⟩
theorem fl_X11_76 : zm_Fl RX11 76 11 33 3 := ⟨RX11, TX11, 71, rfl, zm_itX11, by decide, rfl, (zm_tbl_in (List.mem_of_getElem? (i := 1366) (by decide +kernel)) rfl), rfl⟩
theorem fl_X11_79 : zm_Fl RX11 79 11 34 3 := ⟨RX11, TX11, 71, rfl, zm_itX11, by decide, rfl, (zm_tbl_in (List.mem_of_getElem? (i := 1367) (by decide +kernel)) rfl), rfl⟩
theorem fl_X11_82 : zm_Fl RX11 82 11 35 3 := ⟨RX11, TX11, 71, rfl, zm_itX11, by decide, rfl, (zm_tbl_in (List.mem_of_getElem? (i := 1368) (by decide +kernel)) rfl), rfl⟩
theorem fl_X11_85 : zm_Fl RX11 85 11 36 3 := ⟨RX11, TX11, 71, rfl, zm_itX11, by decide, rfl, (zm_tbl_in (List.mem_of_getElem? (i := 1369) (by decide +kernel)) rfl), rfl⟩
theorem cm_X11_expression : Cond.code yX11_expression cX11_expression 3 none ∈ zm_tbl := (zm_tbl_in (List.mem_of_getElem? (i := 1645) (by decide +kernel)) rfl)
theorem se_X11_expression : Cond.selects RX11 yX11_expression yX11_expression ∈ zm_tbl := (zm_tbl_in (List.mem_of_getElem? (i := 79) (by decide +kernel)) rfl)
theorem ml_X11_312 {rm : Room} {b : Bool} {nm : String} : zm_Ml RX11 312 yX11_expression (cX11_expression, 3, RX11, rm, none, b, nm) 0 := ⟨(zm_tbl_in (List.mem_of_getElem? (i := 1642) (by decide +kernel)) rfl), (zm_tbl_in (List.mem_of_getElem? (i := 1644) (by decide +kernel)) rfl), se_X11_expression, in_X11, cm_X11_expression, ⟨by decide +kernel, by decide +kernel, by decide +kernel⟩⟩
theorem fl_X11_113 : zm_Fl RX11 113 11 46 3 := ⟨RX11, TX11, 71, rfl, zm_itX11, by decide, rfl, (zm_tbl_in (List.mem_of_getElem? (i := 1379) (by decide +kernel)) rfl), rfl⟩
theorem fl_X11_260 : zm_Fl RX11 260 11 42 0 := ⟨RX11, TX11, 71, rfl, zm_itX11, by decide, rfl, (zm_tbl_in (List.mem_of_getElem? (i := 1375) (by decide +kernel)) rfl), rfl⟩
theorem fl_X11_116 : zm_Fl RX11 116 11 47 3 := ⟨RX11, TX11, 71, rfl, zm_itX11, by decide, rfl, (zm_tbl_in (List.mem_of_getElem? (i := 1380) (by decide +kernel)) rfl), rfl⟩
theorem fp_X11_260 : zm_Fp RX11 260 11 42 0 .int := ⟨RX11, TX11, 71, tyX11, rfl, zm_itX11, by decide, rfl, (zm_tbl_in (List.mem_of_getElem? (i := 1375) (by decide +kernel)) rfl), rfl, tyX11_ok, nmX11, rfl, by decide +kernel⟩
theorem fl_X11_103 : zm_Fl RX11 103 11 43 3 := ⟨RX11, TX11, 71, rfl, zm_itX11, by decide, rfl, (zm_tbl_in (List.mem_of_getElem? (i := 1376) (by decide +kernel)) rfl), rfl⟩
theorem cm_X11_term : Cond.code yX11_term cX11_term 1 none ∈ zm_tbl := (zm_tbl_in (List.mem_of_getElem? (i := 1665) (by decide +kernel)) rfl)
theorem se_X11_term : Cond.selects RX11 yX11_term yX11_term ∈ zm_tbl := (zm_tbl_in (List.mem_of_getElem? (i := 84) (by decide +kernel)) rfl)
theorem ml_X11_315 {rm : Room} {b : Bool} {nm : String} : zm_Ml RX11 315 yX11_term (cX11_term, 1, RX11, rm, none, b, nm) 0 := ⟨(zm_tbl_in (List.mem_of_getElem? (i := 1662) (by decide +kernel)) rfl), (zm_tbl_in (List.mem_of_getElem? (i := 1664) (by decide +kernel)) rfl), se_X11_term, in_X11, cm_X11_term, ⟨by decide +kernel, by decide +kernel, by decide +kernel⟩⟩
theorem zb_28 : (Int8.ofInt 28).toInt32 = (28 : Int32) := by decide
theorem fl_X11_107 : zm_Fl RX11 107 11 44 3 := ⟨RX11, TX11, 71, rfl, zm_itX11, by decide, rfl, (zm_tbl_in (List.mem_of_getElem? (i := 1377) (by decide +kernel)) rfl), rfl⟩
theorem fl_X11_110 : zm_Fl RX11 110 11 45 3 := ⟨RX11, TX11, 71, rfl, zm_itX11, by decide, rfl, (zm_tbl_in (List.mem_of_getElem? (i := 1378) (by decide +kernel)) rfl), rfl⟩
theorem zb_29 : (Int8.ofInt 29).toInt32 = (29 : Int32) := by decide
theorem zb_30 : (Int8.ofInt 30).toInt32 = (30 : Int32) := by decide
theorem zb_23 : (Int8.ofInt 23).toInt32 = (23 : Int32) := by decide
theorem cm_X11_tellLaw : Cond.code yX11_tellLaw cX11_tellLaw 4 none ∈ zm_tbl := (zm_tbl_in (List.mem_of_getElem? (i := 1661) (by decide +kernel)) rfl)
theorem se_X11_tellLaw : Cond.selects RX11 yX11_tellLaw yX11_tellLaw ∈ zm_tbl := (zm_tbl_in (List.mem_of_getElem? (i := 83) (by decide +kernel)) rfl)
theorem ml_X11_295 {rm : Room} {b : Bool} {nm : String} : zm_Ml RX11 295 yX11_tellLaw (cX11_tellLaw, 4, RX11, rm, none, b, nm) 1 := ⟨(zm_tbl_in (List.mem_of_getElem? (i := 1658) (by decide +kernel)) rfl), (zm_tbl_in (List.mem_of_getElem? (i := 1660) (by decide +kernel)) rfl), se_X11_tellLaw, in_X11, cm_X11_tellLaw, ⟨by decide +kernel, by decide +kernel, by decide +kernel⟩⟩
theorem cm_X11_roomFor : Cond.code yX11_roomFor cX11_roomFor 3 none ∈ zm_tbl := (zm_tbl_in (List.mem_of_getElem? (i := 1597) (by decide +kernel)) rfl)
theorem se_X11_roomFor : Cond.selects RX11 yX11_roomFor yX11_roomFor ∈ zm_tbl := (zm_tbl_in (List.mem_of_getElem? (i := 67) (by decide +kernel)) rfl)
theorem ml_X11_275 {rm : Room} {b : Bool} {nm : String} : zm_Ml RX11 275 yX11_roomFor (cX11_roomFor, 3, RX11, rm, none, b, nm) 2 := ⟨(zm_tbl_in (List.mem_of_getElem? (i := 1594) (by decide +kernel)) rfl), (zm_tbl_in (List.mem_of_getElem? (i := 1596) (by decide +kernel)) rfl), se_X11_roomFor, in_X11, cm_X11_roomFor, ⟨by decide +kernel, by decide +kernel, by decide +kernel⟩⟩
theorem cm_X11_tellHouse : Cond.code yX11_tellHouse cX11_tellHouse 3 none ∈ zm_tbl := (zm_tbl_in (List.mem_of_getElem? (i := 1609) (by decide +kernel)) rfl)
theorem se_X11_tellHouse : Cond.selects RX11 yX11_tellHouse yX11_tellHouse ∈ zm_tbl := (zm_tbl_in (List.mem_of_getElem? (i := 70) (by decide +kernel)) rfl)
theorem ml_X11_279 {rm : Room} {b : Bool} {nm : String} : zm_Ml RX11 279 yX11_tellHouse (cX11_tellHouse, 3, RX11, rm, none, b, nm) 0 := ⟨(zm_tbl_in (List.mem_of_getElem? (i := 1606) (by decide +kernel)) rfl), (zm_tbl_in (List.mem_of_getElem? (i := 1608) (by decide +kernel)) rfl), se_X11_tellHouse, in_X11, cm_X11_tellHouse, ⟨by decide +kernel, by decide +kernel, by decide +kernel⟩⟩
theorem cm_X11_tellWork : Cond.code yX11_tellWork cX11_tellWork 3 none ∈ zm_tbl := (zm_tbl_in (List.mem_of_getElem? (i := 1633) (by decide +kernel)) rfl)
theorem se_X11_tellWork : Cond.selects RX11 yX11_tellWork yX11_tellWork ∈ zm_tbl := (zm_tbl_in (List.mem_of_getElem? (i := 76) (by decide +kernel)) rfl)
theorem ml_X11_282 {rm : Room} {b : Bool} {nm : String} : zm_Ml RX11 282 yX11_tellWork (cX11_tellWork, 3, RX11, rm, none, b, nm) 0 := ⟨(zm_tbl_in (List.mem_of_getElem? (i := 1630) (by decide +kernel)) rfl), (zm_tbl_in (List.mem_of_getElem? (i := 1632) (by decide +kernel)) rfl), se_X11_tellWork, in_X11, cm_X11_tellWork, ⟨by decide +kernel, by decide +kernel, by decide +kernel⟩⟩
theorem cm_X11_tellTerm : Cond.code yX11_tellTerm cX11_tellTerm 2 none ∈ zm_tbl := (zm_tbl_in (List.mem_of_getElem? (i := 1641) (by decide +kernel)) rfl)
theorem se_X11_tellTerm : Cond.selects RX11 yX11_tellTerm yX11_tellTerm ∈ zm_tbl := (zm_tbl_in (List.mem_of_getElem? (i := 78) (by decide +kernel)) rfl)
theorem ml_X11_285 {rm : Room} {b : Bool} {nm : String} : zm_Ml RX11 285 yX11_tellTerm (cX11_tellTerm, 2, RX11, rm, none, b, nm) 0 := ⟨(zm_tbl_in (List.mem_of_getElem? (i := 1638) (by decide +kernel)) rfl), (zm_tbl_in (List.mem_of_getElem? (i := 1640) (by decide +kernel)) rfl), se_X11_tellTerm, in_X11, cm_X11_tellTerm, ⟨by decide +kernel, by decide +kernel, by decide +kernel⟩⟩
theorem fp_X11_194 : zm_Fp RX11 194 11 4 0 .int := ⟨RX11, TX11, 71, tyX11, rfl, zm_itX11, by decide, rfl, (zm_tbl_in (List.mem_of_getElem? (i := 1337) (by decide +kernel)) rfl), rfl, tyX11_ok, nmX11, rfl, by decide +kernel⟩
theorem cm_X11_cut : Cond.code yX11_cut cX11_cut 8 none ∈ zm_tbl := (zm_tbl_in (List.mem_of_getElem? (i := 1567) (by decide +kernel)) rfl)
theorem se_X11_cut : Cond.selects RX11 yX11_cut yX11_cut ∈ zm_tbl := (zm_tbl_in (List.mem_of_getElem? (i := 61) (by decide +kernel)) rfl)
theorem ml_X11_245 {rm : Room} {b : Bool} {nm : String} : zm_Ml RX11 245 yX11_cut (cX11_cut, 8, RX11, rm, none, b, nm) 0 := ⟨(zm_tbl_in (List.mem_of_getElem? (i := 1564) (by decide +kernel)) rfl), (zm_tbl_in (List.mem_of_getElem? (i := 1566) (by decide +kernel)) rfl), se_X11_cut, in_X11, cm_X11_cut, ⟨by decide +kernel, by decide +kernel, by decide +kernel⟩⟩
theorem fp_X11_254 : zm_Fp RX11 254 11 19 0 .int := ⟨RX11, TX11, 71, tyX11, rfl, zm_itX11, by decide, rfl, (zm_tbl_in (List.mem_of_getElem? (i := 1352) (by decide +kernel)) rfl), rfl, tyX11_ok, nmX11, rfl, by decide +kernel⟩
theorem cm_X11_plain : Cond.code yX11_plain cX11_plain 3 none ∈ zm_tbl := (zm_tbl_in (List.mem_of_getElem? (i := 1318) (by decide +kernel)) rfl)
theorem se_X11_plain : Cond.selects RX11 yX11_plain yX11_plain ∈ zm_tbl := (zm_tbl_in (List.mem_of_getElem? (i := 57) (by decide +kernel)) rfl)
theorem ml_X11_170 {rm : Room} {b : Bool} {nm : String} : zm_Ml RX11 170 yX11_plain (cX11_plain, 3, RX11, rm, none, b, nm) 1 := ⟨(zm_tbl_in (List.mem_of_getElem? (i := 1315) (by decide +kernel)) rfl), (zm_tbl_in (List.mem_of_getElem? (i := 1317) (by decide +kernel)) rfl), se_X11_plain, in_X11, cm_X11_plain, ⟨by decide +kernel, by decide +kernel, by decide +kernel⟩⟩
theorem zs_130 : (Int16.ofInt 130).toInt32 = (130 : Int32) := by decide
theorem zs_420 : (Int16.ofInt 420).toInt32 = (420 : Int32) := by decide
theorem fp_X11_37 : zm_Fp RX11 37 11 17 0 .int := ⟨RX11, TX11, 71, tyX11, rfl, zm_itX11, by decide, rfl, (zm_tbl_in (List.mem_of_getElem? (i := 1350) (by decide +kernel)) rfl), rfl, tyX11_ok, nmX11, rfl, by decide +kernel⟩
theorem fp_X11_251 : zm_Fp RX11 251 11 18 0 .int := ⟨RX11, TX11, 71, tyX11, rfl, zm_itX11, by decide, rfl, (zm_tbl_in (List.mem_of_getElem? (i := 1351) (by decide +kernel)) rfl), rfl, tyX11_ok, nmX11, rfl, by decide +kernel⟩
theorem cm_X11_begins : Cond.code yX11_begins cX11_begins 2 none ∈ zm_tbl := (zm_tbl_in (List.mem_of_getElem? (i := 1329) (by decide +kernel)) rfl)
theorem se_X11_begins : Cond.selects RX11 yX11_begins yX11_begins ∈ zm_tbl := (zm_tbl_in (List.mem_of_getElem? (i := 58) (by decide +kernel)) rfl)
theorem ml_X11_182 {rm : Room} {b : Bool} {nm : String} : zm_Ml RX11 182 yX11_begins (cX11_begins, 2, RX11, rm, none, b, nm) 0 := ⟨(zm_tbl_in (List.mem_of_getElem? (i := 1326) (by decide +kernel)) rfl), (zm_tbl_in (List.mem_of_getElem? (i := 1328) (by decide +kernel)) rfl), se_X11_begins, in_X11, cm_X11_begins, ⟨by decide +kernel, by decide +kernel, by decide +kernel⟩⟩
theorem cm_X11_keepsRow : Cond.code yX11_keepsRow cX11_keepsRow 2 none ∈ zm_tbl := (zm_tbl_in (List.mem_of_getElem? (i := 1333) (by decide +kernel)) rfl)
theorem se_X11_keepsRow : Cond.selects RX11 yX11_keepsRow yX11_keepsRow ∈ zm_tbl := (zm_tbl_in (List.mem_of_getElem? (i := 59) (by decide +kernel)) rfl)
theorem ml_X11_185 {rm : Room} {b : Bool} {nm : String} : zm_Ml RX11 185 yX11_keepsRow (cX11_keepsRow, 2, RX11, rm, none, b, nm) 0 := ⟨(zm_tbl_in (List.mem_of_getElem? (i := 1330) (by decide +kernel)) rfl), (zm_tbl_in (List.mem_of_getElem? (i := 1332) (by decide +kernel)) rfl), se_X11_keepsRow, in_X11, cm_X11_keepsRow, ⟨by decide +kernel, by decide +kernel, by decide +kernel⟩⟩
theorem fp_X11_269 : zm_Fp RX11 269 11 59 0 .int := ⟨RX11, TX11, 71, tyX11, rfl, zm_itX11, by decide, rfl, (zm_tbl_in (List.mem_of_getElem? (i := 1392) (by decide +kernel)) rfl), rfl, tyX11_ok, nmX11, rfl, by decide +kernel⟩
theorem fp_X11_272 : zm_Fp RX11 272 11 65 0 .int := ⟨RX11, TX11, 71, tyX11, rfl, zm_itX11, by decide, rfl, (zm_tbl_in (List.mem_of_getElem? (i := 1398) (by decide +kernel)) rfl), rfl, tyX11_ok, nmX11, rfl, by decide +kernel⟩
theorem fl_X11_164 : zm_Fl RX11 164 11 69 3 := ⟨RX11, TX11, 71, rfl, zm_itX11, by decide, rfl, (zm_tbl_in (List.mem_of_getElem? (i := 1402) (by decide +kernel)) rfl), rfl⟩
theorem fl_X11_227 : zm_Fl RX11 227 11 14 0 := ⟨RX11, TX11, 71, rfl, zm_itX11, by decide, rfl, (zm_tbl_in (List.mem_of_getElem? (i := 1347) (by decide +kernel)) rfl), rfl⟩
theorem cm_X11_tellOne : Cond.code yX11_tellOne cX11_tellOne 2 none ∈ zm_tbl := (zm_tbl_in (List.mem_of_getElem? (i := 1593) (by decide +kernel)) rfl)
theorem se_X11_tellOne : Cond.selects RX11 yX11_tellOne yX11_tellOne ∈ zm_tbl := (zm_tbl_in (List.mem_of_getElem? (i := 66) (by decide +kernel)) rfl)
theorem ml_X11_266 {rm : Room} {b : Bool} {nm : String} : zm_Ml RX11 266 yX11_tellOne (cX11_tellOne, 2, RX11, rm, none, b, nm) 0 := ⟨(zm_tbl_in (List.mem_of_getElem? (i := 1590) (by decide +kernel)) rfl), (zm_tbl_in (List.mem_of_getElem? (i := 1592) (by decide +kernel)) rfl), se_X11_tellOne, in_X11, cm_X11_tellOne, ⟨by decide +kernel, by decide +kernel, by decide +kernel⟩⟩
theorem fl_X11_37 : zm_Fl RX11 37 11 17 0 := ⟨RX11, TX11, 71, rfl, zm_itX11, by decide, rfl, (zm_tbl_in (List.mem_of_getElem? (i := 1350) (by decide +kernel)) rfl), rfl⟩
theorem fp_X11_331 : zm_Fp RX11 331 11 55 0 .boolean := ⟨RX11, TX11, 71, tyX11, rfl, zm_itX11, by decide, rfl, (zm_tbl_in (List.mem_of_getElem? (i := 1388) (by decide +kernel)) rfl), rfl, tyX11_ok, nmX11, rfl, by decide +kernel⟩
theorem fl_X11_131 : zm_Fl RX11 131 11 54 3 := ⟨RX11, TX11, 71, rfl, zm_itX11, by decide, rfl, (zm_tbl_in (List.mem_of_getElem? (i := 1387) (by decide +kernel)) rfl), rfl⟩
theorem fl_X11_128 : zm_Fl RX11 128 11 53 3 := ⟨RX11, TX11, 71, rfl, zm_itX11, by decide, rfl, (zm_tbl_in (List.mem_of_getElem? (i := 1386) (by decide +kernel)) rfl), rfl⟩
theorem cm_X11_in : Cond.code yX11_in cX11_in 3 (some .boolean) ∈ zm_tbl := (zm_tbl_in (List.mem_of_getElem? (i := 1680) (by decide +kernel)) rfl)
theorem ml_X11_335 {rm : Room} {b : Bool} {nm : String} : zm_Sl RX11 335 yX11_in (cX11_in, 3, RX11, rm, (some .boolean), b, nm) 3 := ⟨(zm_tbl_in (List.mem_of_getElem? (i := 1678) (by decide +kernel)) rfl), (zm_tbl_in (List.mem_of_getElem? (i := 1679) (by decide +kernel)) rfl), in_X11, cm_X11_in, ⟨by decide +kernel, by decide +kernel, by decide +kernel⟩⟩
theorem kc_X11_342 : Cond.constant RX11 342 (1103515245) ∈ zm_tbl := (zm_tbl_in (List.mem_of_getElem? (i := 1788) (by decide +kernel)) rfl)
theorem cm_X11_ownerNow : Cond.code yX11_ownerNow cX11_ownerNow 2 (some .int) ∈ zm_tbl := (zm_tbl_in (List.mem_of_getElem? (i := 1692) (by decide +kernel)) rfl)
theorem se_X11_ownerNow : Cond.selects RX11 yX11_ownerNow yX11_ownerNow ∈ zm_tbl := (zm_tbl_in (List.mem_of_getElem? (i := 88) (by decide +kernel)) rfl)
theorem ml_X11_343 {rm : Room} {b : Bool} {nm : String} : zm_Ml RX11 343 yX11_ownerNow (cX11_ownerNow, 2, RX11, rm, (some .int), b, nm) 1 := ⟨(zm_tbl_in (List.mem_of_getElem? (i := 1689) (by decide +kernel)) rfl), (zm_tbl_in (List.mem_of_getElem? (i := 1691) (by decide +kernel)) rfl), se_X11_ownerNow, in_X11, cm_X11_ownerNow, ⟨by decide +kernel, by decide +kernel, by decide +kernel⟩⟩
theorem cm_X11_termOf : Cond.code yX11_termOf cX11_termOf 8 (some .int) ∈ zm_tbl := (zm_tbl_in (List.mem_of_getElem? (i := 1712) (by decide +kernel)) rfl)
theorem se_X11_termOf : Cond.selects RX11 yX11_termOf yX11_termOf ∈ zm_tbl := (zm_tbl_in (List.mem_of_getElem? (i := 93) (by decide +kernel)) rfl)
theorem ml_X11_349 {rm : Room} {b : Bool} {nm : String} : zm_Ml RX11 349 yX11_termOf (cX11_termOf, 8, RX11, rm, (some .int), b, nm) 2 := ⟨(zm_tbl_in (List.mem_of_getElem? (i := 1709) (by decide +kernel)) rfl), (zm_tbl_in (List.mem_of_getElem? (i := 1711) (by decide +kernel)) rfl), se_X11_termOf, in_X11, cm_X11_termOf, ⟨by decide +kernel, by decide +kernel, by decide +kernel⟩⟩
theorem fl_X11_331 : zm_Fl RX11 331 11 55 0 := ⟨RX11, TX11, 71, rfl, zm_itX11, by decide, rfl, (zm_tbl_in (List.mem_of_getElem? (i := 1388) (by decide +kernel)) rfl), rfl⟩
theorem cm_X11_lawTells : Cond.code yX11_lawTells cX11_lawTells 5 (some .int) ∈ zm_tbl := (zm_tbl_in (List.mem_of_getElem? (i := 1708) (by decide +kernel)) rfl)
theorem se_X11_lawTells : Cond.selects RX11 yX11_lawTells yX11_lawTells ∈ zm_tbl := (zm_tbl_in (List.mem_of_getElem? (i := 92) (by decide +kernel)) rfl)
theorem ml_X11_346 {rm : Room} {b : Bool} {nm : String} : zm_Ml RX11 346 yX11_lawTells (cX11_lawTells, 5, RX11, rm, (some .int), b, nm) 1 := ⟨(zm_tbl_in (List.mem_of_getElem? (i := 1705) (by decide +kernel)) rfl), (zm_tbl_in (List.mem_of_getElem? (i := 1707) (by decide +kernel)) rfl), se_X11_lawTells, in_X11, cm_X11_lawTells, ⟨by decide +kernel, by decide +kernel, by decide +kernel⟩⟩
theorem cm_X11_sideOf : Cond.code yX11_sideOf cX11_sideOf 4 (some .int) ∈ zm_tbl := (zm_tbl_in (List.mem_of_getElem? (i := 1756) (by decide +kernel)) rfl)
theorem se_X11_sideOf : Cond.selects RX11 yX11_sideOf yX11_sideOf ∈ zm_tbl := (zm_tbl_in (List.mem_of_getElem? (i := 102) (by decide +kernel)) rfl)
theorem ml_X11_352 {rm : Room} {b : Bool} {nm : String} : zm_Ml RX11 352 yX11_sideOf (cX11_sideOf, 4, RX11, rm, (some .int), b, nm) 2 := ⟨(zm_tbl_in (List.mem_of_getElem? (i := 1753) (by decide +kernel)) rfl), (zm_tbl_in (List.mem_of_getElem? (i := 1755) (by decide +kernel)) rfl), se_X11_sideOf, in_X11, cm_X11_sideOf, ⟨by decide +kernel, by decide +kernel, by decide +kernel⟩⟩
theorem cm_X11_looks : Cond.code yX11_looks cX11_looks 8 none ∈ zm_tbl := (zm_tbl_in (List.mem_of_getElem? (i := 1700) (by decide +kernel)) rfl)
theorem se_X11_looks : Cond.selects RX11 yX11_looks yX11_looks ∈ zm_tbl := (zm_tbl_in (List.mem_of_getElem? (i := 90) (by decide +kernel)) rfl)
theorem ml_X11_355 {rm : Room} {b : Bool} {nm : String} : zm_Ml RX11 355 yX11_looks (cX11_looks, 8, RX11, rm, none, b, nm) 4 := ⟨(zm_tbl_in (List.mem_of_getElem? (i := 1697) (by decide +kernel)) rfl), (zm_tbl_in (List.mem_of_getElem? (i := 1699) (by decide +kernel)) rfl), se_X11_looks, in_X11, cm_X11_looks, ⟨by decide +kernel, by decide +kernel, by decide +kernel⟩⟩
theorem cm_X11_isKept : Cond.code yX11_isKept cX11_isKept 3 (some .boolean) ∈ zm_tbl := (zm_tbl_in (List.mem_of_getElem? (i := 1752) (by decide +kernel)) rfl)
theorem se_X11_isKept : Cond.selects RX11 yX11_isKept yX11_isKept ∈ zm_tbl := (zm_tbl_in (List.mem_of_getElem? (i := 101) (by decide +kernel)) rfl)
theorem ml_X11_359 {rm : Room} {b : Bool} {nm : String} : zm_Ml RX11 359 yX11_isKept (cX11_isKept, 3, RX11, rm, (some .boolean), b, nm) 1 := ⟨(zm_tbl_in (List.mem_of_getElem? (i := 1749) (by decide +kernel)) rfl), (zm_tbl_in (List.mem_of_getElem? (i := 1751) (by decide +kernel)) rfl), se_X11_isKept, in_X11, cm_X11_isKept, ⟨by decide +kernel, by decide +kernel, by decide +kernel⟩⟩
theorem cm_X11_othersIn : Cond.code yX11_othersIn cX11_othersIn 5 (some .int) ∈ zm_tbl := (zm_tbl_in (List.mem_of_getElem? (i := 1744) (by decide +kernel)) rfl)
theorem se_X11_othersIn : Cond.selects RX11 yX11_othersIn yX11_othersIn ∈ zm_tbl := (zm_tbl_in (List.mem_of_getElem? (i := 99) (by decide +kernel)) rfl)
theorem ml_X11_362 {rm : Room} {b : Bool} {nm : String} : zm_Ml RX11 362 yX11_othersIn (cX11_othersIn, 5, RX11, rm, (some .int), b, nm) 2 := ⟨(zm_tbl_in (List.mem_of_getElem? (i := 1741) (by decide +kernel)) rfl), (zm_tbl_in (List.mem_of_getElem? (i := 1743) (by decide +kernel)) rfl), se_X11_othersIn, in_X11, cm_X11_othersIn, ⟨by decide +kernel, by decide +kernel, by decide +kernel⟩⟩
theorem cm_X11_hasRoom : Cond.code yX11_hasRoom cX11_hasRoom 3 (some .boolean) ∈ zm_tbl := (zm_tbl_in (List.mem_of_getElem? (i := 1740) (by decide +kernel)) rfl)
theorem se_X11_hasRoom : Cond.selects RX11 yX11_hasRoom yX11_hasRoom ∈ zm_tbl := (zm_tbl_in (List.mem_of_getElem? (i := 98) (by decide +kernel)) rfl)
theorem ml_X11_365 {rm : Room} {b : Bool} {nm : String} : zm_Ml RX11 365 yX11_hasRoom (cX11_hasRoom, 3, RX11, rm, (some .boolean), b, nm) 2 := ⟨(zm_tbl_in (List.mem_of_getElem? (i := 1737) (by decide +kernel)) rfl), (zm_tbl_in (List.mem_of_getElem? (i := 1739) (by decide +kernel)) rfl), se_X11_hasRoom, in_X11, cm_X11_hasRoom, ⟨by decide +kernel, by decide +kernel, by decide +kernel⟩⟩
theorem cm_X11_brokenIn : Cond.code yX11_brokenIn cX11_brokenIn 5 (some .int) ∈ zm_tbl := (zm_tbl_in (List.mem_of_getElem? (i := 1748) (by decide +kernel)) rfl)
theorem se_X11_brokenIn : Cond.selects RX11 yX11_brokenIn yX11_brokenIn ∈ zm_tbl := (zm_tbl_in (List.mem_of_getElem? (i := 100) (by decide +kernel)) rfl)
theorem ml_X11_369 {rm : Room} {b : Bool} {nm : String} : zm_Ml RX11 369 yX11_brokenIn (cX11_brokenIn, 5, RX11, rm, (some .int), b, nm) 2 := ⟨(zm_tbl_in (List.mem_of_getElem? (i := 1745) (by decide +kernel)) rfl), (zm_tbl_in (List.mem_of_getElem? (i := 1747) (by decide +kernel)) rfl), se_X11_brokenIn, in_X11, cm_X11_brokenIn, ⟨by decide +kernel, by decide +kernel, by decide +kernel⟩⟩
theorem cm_X11_standing : Cond.code yX11_standing cX11_standing 3 (some .int) ∈ zm_tbl := (zm_tbl_in (List.mem_of_getElem? (i := 1724) (by decide +kernel)) rfl)
theorem se_X11_standing : Cond.selects RX11 yX11_standing yX11_standing ∈ zm_tbl := (zm_tbl_in (List.mem_of_getElem? (i := 95) (by decide +kernel)) rfl)
theorem ml_X11_372 {rm : Room} {b : Bool} {nm : String} : zm_Ml RX11 372 yX11_standing (cX11_standing, 3, RX11, rm, (some .int), b, nm) 0 := ⟨(zm_tbl_in (List.mem_of_getElem? (i := 1721) (by decide +kernel)) rfl), (zm_tbl_in (List.mem_of_getElem? (i := 1723) (by decide +kernel)) rfl), se_X11_standing, in_X11, cm_X11_standing, ⟨by decide +kernel, by decide +kernel, by decide +kernel⟩⟩
theorem cm_X11_mayHang : Cond.code yX11_mayHang cX11_mayHang 3 (some .boolean) ∈ zm_tbl := (zm_tbl_in (List.mem_of_getElem? (i := 1736) (by decide +kernel)) rfl)
theorem se_X11_mayHang : Cond.selects RX11 yX11_mayHang yX11_mayHang ∈ zm_tbl := (zm_tbl_in (List.mem_of_getElem? (i := 97) (by decide +kernel)) rfl)
theorem ml_X11_375 {rm : Room} {b : Bool} {nm : String} : zm_Ml RX11 375 yX11_mayHang (cX11_mayHang, 3, RX11, rm, (some .boolean), b, nm) 2 := ⟨(zm_tbl_in (List.mem_of_getElem? (i := 1733) (by decide +kernel)) rfl), (zm_tbl_in (List.mem_of_getElem? (i := 1735) (by decide +kernel)) rfl), se_X11_mayHang, in_X11, cm_X11_mayHang, ⟨by decide +kernel, by decide +kernel, by decide +kernel⟩⟩
theorem cm_X11_asks : Cond.code yX11_asks cX11_asks 7 (some .int) ∈ zm_tbl := (zm_tbl_in (List.mem_of_getElem? (i := 1704) (by decide +kernel)) rfl)
theorem se_X11_asks : Cond.selects RX11 yX11_asks yX11_asks ∈ zm_tbl := (zm_tbl_in (List.mem_of_getElem? (i := 91) (by decide +kernel)) rfl)
theorem ml_X11_378 {rm : Room} {b : Bool} {nm : String} : zm_Ml RX11 378 yX11_asks (cX11_asks, 7, RX11, rm, (some .int), b, nm) 4 := ⟨(zm_tbl_in (List.mem_of_getElem? (i := 1701) (by decide +kernel)) rfl), (zm_tbl_in (List.mem_of_getElem? (i := 1703) (by decide +kernel)) rfl), se_X11_asks, in_X11, cm_X11_asks, ⟨by decide +kernel, by decide +kernel, by decide +kernel⟩⟩
theorem fl_X11_339 : zm_Fl RX11 339 11 58 0 := ⟨RX11, TX11, 71, rfl, zm_itX11, by decide, rfl, (zm_tbl_in (List.mem_of_getElem? (i := 1391) (by decide +kernel)) rfl), rfl⟩
theorem cm_X11_mixed : Cond.code yX11_mixed cX11_mixed 3 (some .int) ∈ zm_tbl := (zm_tbl_in (List.mem_of_getElem? (i := 1787) (by decide +kernel)) rfl)
theorem ml_X11_382 {rm : Room} {b : Bool} {nm : String} : zm_Sl RX11 382 yX11_mixed (cX11_mixed, 3, RX11, rm, (some .int), b, nm) 2 := ⟨(zm_tbl_in (List.mem_of_getElem? (i := 1785) (by decide +kernel)) rfl), (zm_tbl_in (List.mem_of_getElem? (i := 1786) (by decide +kernel)) rfl), in_X11, cm_X11_mixed, ⟨by decide +kernel, by decide +kernel, by decide +kernel⟩⟩
theorem cm_X11_isHouse : Cond.code yX11_isHouse cX11_isHouse 2 (some .boolean) ∈ zm_tbl := (zm_tbl_in (List.mem_of_getElem? (i := 1677) (by decide +kernel)) rfl)
theorem se_X11_isHouse : Cond.selects RX11 yX11_isHouse yX11_isHouse ∈ zm_tbl := (zm_tbl_in (List.mem_of_getElem? (i := 85) (by decide +kernel)) rfl)
theorem ml_X11_385 {rm : Room} {b : Bool} {nm : String} : zm_Ml RX11 385 yX11_isHouse (cX11_isHouse, 2, RX11, rm, (some .boolean), b, nm) 1 := ⟨(zm_tbl_in (List.mem_of_getElem? (i := 1674) (by decide +kernel)) rfl), (zm_tbl_in (List.mem_of_getElem? (i := 1676) (by decide +kernel)) rfl), se_X11_isHouse, in_X11, cm_X11_isHouse, ⟨by decide +kernel, by decide +kernel, by decide +kernel⟩⟩
theorem cm_X11_copies : Cond.code yX11_copies cX11_copies 2 none ∈ zm_tbl := (zm_tbl_in (List.mem_of_getElem? (i := 1684) (by decide +kernel)) rfl)
theorem se_X11_copies : Cond.selects RX11 yX11_copies yX11_copies ∈ zm_tbl := (zm_tbl_in (List.mem_of_getElem? (i := 86) (by decide +kernel)) rfl)
theorem ml_X11_388 {rm : Room} {b : Bool} {nm : String} : zm_Ml RX11 388 yX11_copies (cX11_copies, 2, RX11, rm, none, b, nm) 0 := ⟨(zm_tbl_in (List.mem_of_getElem? (i := 1681) (by decide +kernel)) rfl), (zm_tbl_in (List.mem_of_getElem? (i := 1683) (by decide +kernel)) rfl), se_X11_copies, in_X11, cm_X11_copies, ⟨by decide +kernel, by decide +kernel, by decide +kernel⟩⟩
theorem cm_X11_worksIn : Cond.code yX11_worksIn cX11_worksIn 4 (some .int) ∈ zm_tbl := (zm_tbl_in (List.mem_of_getElem? (i := 1688) (by decide +kernel)) rfl)
theorem se_X11_worksIn : Cond.selects RX11 yX11_worksIn yX11_worksIn ∈ zm_tbl := (zm_tbl_in (List.mem_of_getElem? (i := 87) (by decide +kernel)) rfl)
theorem ml_X11_391 {rm : Room} {b : Bool} {nm : String} : zm_Ml RX11 391 yX11_worksIn (cX11_worksIn, 4, RX11, rm, (some .int), b, nm) 1 := ⟨(zm_tbl_in (List.mem_of_getElem? (i := 1685) (by decide +kernel)) rfl), (zm_tbl_in (List.mem_of_getElem? (i := 1687) (by decide +kernel)) rfl), se_X11_worksIn, in_X11, cm_X11_worksIn, ⟨by decide +kernel, by decide +kernel, by decide +kernel⟩⟩
theorem cm_X11_likesOf : Cond.code yX11_likesOf cX11_likesOf 5 (some .int) ∈ zm_tbl := (zm_tbl_in (List.mem_of_getElem? (i := 1696) (by decide +kernel)) rfl)
theorem se_X11_likesOf : Cond.selects RX11 yX11_likesOf yX11_likesOf ∈ zm_tbl := (zm_tbl_in (List.mem_of_getElem? (i := 89) (by decide +kernel)) rfl)
theorem ml_X11_394 {rm : Room} {b : Bool} {nm : String} : zm_Ml RX11 394 yX11_likesOf (cX11_likesOf, 5, RX11, rm, (some .int), b, nm) 4 := ⟨(zm_tbl_in (List.mem_of_getElem? (i := 1693) (by decide +kernel)) rfl), (zm_tbl_in (List.mem_of_getElem? (i := 1695) (by decide +kernel)) rfl), se_X11_likesOf, in_X11, cm_X11_likesOf, ⟨by decide +kernel, by decide +kernel, by decide +kernel⟩⟩
theorem cm_X11_isWork : Cond.code yX11_isWork cX11_isWork 2 (some .boolean) ∈ zm_tbl := (zm_tbl_in (List.mem_of_getElem? (i := 1720) (by decide +kernel)) rfl)
theorem se_X11_isWork : Cond.selects RX11 yX11_isWork yX11_isWork ∈ zm_tbl := (zm_tbl_in (List.mem_of_getElem? (i := 94) (by decide +kernel)) rfl)
theorem ml_X11_398 {rm : Room} {b : Bool} {nm : String} : zm_Ml RX11 398 yX11_isWork (cX11_isWork, 2, RX11, rm, (some .boolean), b, nm) 1 := ⟨(zm_tbl_in (List.mem_of_getElem? (i := 1717) (by decide +kernel)) rfl), (zm_tbl_in (List.mem_of_getElem? (i := 1719) (by decide +kernel)) rfl), se_X11_isWork, in_X11, cm_X11_isWork, ⟨by decide +kernel, by decide +kernel, by decide +kernel⟩⟩
theorem cm_X11_isPair : Cond.code yX11_isPair cX11_isPair 3 (some .boolean) ∈ zm_tbl := (zm_tbl_in (List.mem_of_getElem? (i := 1732) (by decide +kernel)) rfl)
theorem se_X11_isPair : Cond.selects RX11 yX11_isPair yX11_isPair ∈ zm_tbl := (zm_tbl_in (List.mem_of_getElem? (i := 96) (by decide +kernel)) rfl)
theorem ml_X11_401 {rm : Room} {b : Bool} {nm : String} : zm_Ml RX11 401 yX11_isPair (cX11_isPair, 3, RX11, rm, (some .boolean), b, nm) 2 := ⟨(zm_tbl_in (List.mem_of_getElem? (i := 1729) (by decide +kernel)) rfl), (zm_tbl_in (List.mem_of_getElem? (i := 1731) (by decide +kernel)) rfl), se_X11_isPair, in_X11, cm_X11_isPair, ⟨by decide +kernel, by decide +kernel, by decide +kernel⟩⟩
theorem cm_X11_isTerm : Cond.code yX11_isTerm cX11_isTerm 2 (some .boolean) ∈ zm_tbl := (zm_tbl_in (List.mem_of_getElem? (i := 1764) (by decide +kernel)) rfl)
theorem se_X11_isTerm : Cond.selects RX11 yX11_isTerm yX11_isTerm ∈ zm_tbl := (zm_tbl_in (List.mem_of_getElem? (i := 103) (by decide +kernel)) rfl)
theorem ml_X11_404 {rm : Room} {b : Bool} {nm : String} : zm_Ml RX11 404 yX11_isTerm (cX11_isTerm, 2, RX11, rm, (some .boolean), b, nm) 1 := ⟨(zm_tbl_in (List.mem_of_getElem? (i := 1761) (by decide +kernel)) rfl), (zm_tbl_in (List.mem_of_getElem? (i := 1763) (by decide +kernel)) rfl), se_X11_isTerm, in_X11, cm_X11_isTerm, ⟨by decide +kernel, by decide +kernel, by decide +kernel⟩⟩
theorem cm_X11_tripOf : Cond.code yX11_tripOf cX11_tripOf 3 (some .int) ∈ zm_tbl := (zm_tbl_in (List.mem_of_getElem? (i := 1776) (by decide +kernel)) rfl)
theorem se_X11_tripOf : Cond.selects RX11 yX11_tripOf yX11_tripOf ∈ zm_tbl := (zm_tbl_in (List.mem_of_getElem? (i := 104) (by decide +kernel)) rfl)
theorem ml_X11_407 {rm : Room} {b : Bool} {nm : String} : zm_Ml RX11 407 yX11_tripOf (cX11_tripOf, 3, RX11, rm, (some .int), b, nm) 2 := ⟨(zm_tbl_in (List.mem_of_getElem? (i := 1773) (by decide +kernel)) rfl), (zm_tbl_in (List.mem_of_getElem? (i := 1775) (by decide +kernel)) rfl), se_X11_tripOf, in_X11, cm_X11_tripOf, ⟨by decide +kernel, by decide +kernel, by decide +kernel⟩⟩
theorem fl_X11_269 : zm_Fl RX11 269 11 59 0 := ⟨RX11, TX11, 71, rfl, zm_itX11, by decide, rfl, (zm_tbl_in (List.mem_of_getElem? (i := 1392) (by decide +kernel)) rfl), rfl⟩
theorem fl_X11_140 : zm_Fl RX11 140 11 60 3 := ⟨RX11, TX11, 71, rfl, zm_itX11, by decide, rfl, (zm_tbl_in (List.mem_of_getElem? (i := 1393) (by decide +kernel)) rfl), rfl⟩
theorem zs_2340 : (Int16.ofInt 2340).toInt32 = (2340 : Int32) := by decide
theorem cm_X11_isLate : Cond.code yX11_isLate cX11_isLate 1 (some .boolean) ∈ zm_tbl := (zm_tbl_in (List.mem_of_getElem? (i := 1784) (by decide +kernel)) rfl)
theorem se_X11_isLate : Cond.selects RX11 yX11_isLate yX11_isLate ∈ zm_tbl := (zm_tbl_in (List.mem_of_getElem? (i := 105) (by decide +kernel)) rfl)
theorem ml_X11_410 {rm : Room} {b : Bool} {nm : String} : zm_Ml RX11 410 yX11_isLate (cX11_isLate, 1, RX11, rm, (some .boolean), b, nm) 0 := ⟨(zm_tbl_in (List.mem_of_getElem? (i := 1781) (by decide +kernel)) rfl), (zm_tbl_in (List.mem_of_getElem? (i := 1783) (by decide +kernel)) rfl), se_X11_isLate, in_X11, cm_X11_isLate, ⟨by decide +kernel, by decide +kernel, by decide +kernel⟩⟩
theorem zb_33 : (Int8.ofInt 33).toInt32 = (33 : Int32) := by decide
theorem zb_18 : (Int8.ofInt 18).toInt32 = (18 : Int32) := by decide
theorem cm_X11_keeps : Cond.code yX11_keeps cX11_keeps 2 none ∈ zm_tbl := (zm_tbl_in (List.mem_of_getElem? (i := 1792) (by decide +kernel)) rfl)
theorem se_X11_keeps : Cond.selects RX11 yX11_keeps yX11_keeps ∈ zm_tbl := (zm_tbl_in (List.mem_of_getElem? (i := 106) (by decide +kernel)) rfl)
theorem ml_X11_414 {rm : Room} {b : Bool} {nm : String} : zm_Ml RX11 414 yX11_keeps (cX11_keeps, 2, RX11, rm, none, b, nm) 0 := ⟨(zm_tbl_in (List.mem_of_getElem? (i := 1789) (by decide +kernel)) rfl), (zm_tbl_in (List.mem_of_getElem? (i := 1791) (by decide +kernel)) rfl), se_X11_keeps, in_X11, cm_X11_keeps, ⟨by decide +kernel, by decide +kernel, by decide +kernel⟩⟩
theorem cm_X11_arrives : Cond.code yX11_arrives cX11_arrives 2 none ∈ zm_tbl := (zm_tbl_in (List.mem_of_getElem? (i := 1804) (by decide +kernel)) rfl)
theorem se_X11_arrives : Cond.selects RX11 yX11_arrives yX11_arrives ∈ zm_tbl := (zm_tbl_in (List.mem_of_getElem? (i := 107) (by decide +kernel)) rfl)
theorem ml_X11_417 {rm : Room} {b : Bool} {nm : String} : zm_Ml RX11 417 yX11_arrives (cX11_arrives, 2, RX11, rm, none, b, nm) 0 := ⟨(zm_tbl_in (List.mem_of_getElem? (i := 1801) (by decide +kernel)) rfl), (zm_tbl_in (List.mem_of_getElem? (i := 1803) (by decide +kernel)) rfl), se_X11_arrives, in_X11, cm_X11_arrives, ⟨by decide +kernel, by decide +kernel, by decide +kernel⟩⟩
theorem cm_X11_isWell : Cond.code yX11_isWell cX11_isWell 2 (some .boolean) ∈ zm_tbl := (zm_tbl_in (List.mem_of_getElem? (i := 1816) (by decide +kernel)) rfl)
theorem se_X11_isWell : Cond.selects RX11 yX11_isWell yX11_isWell ∈ zm_tbl := (zm_tbl_in (List.mem_of_getElem? (i := 108) (by decide +kernel)) rfl)
theorem ml_X11_420 {rm : Room} {b : Bool} {nm : String} : zm_Ml RX11 420 yX11_isWell (cX11_isWell, 2, RX11, rm, (some .boolean), b, nm) 0 := ⟨(zm_tbl_in (List.mem_of_getElem? (i := 1813) (by decide +kernel)) rfl), (zm_tbl_in (List.mem_of_getElem? (i := 1815) (by decide +kernel)) rfl), se_X11_isWell, in_X11, cm_X11_isWell, ⟨by decide +kernel, by decide +kernel, by decide +kernel⟩⟩
theorem cm_X11_fives : Cond.code yX11_fives cX11_fives 3 (some .int) ∈ zm_tbl := (zm_tbl_in (List.mem_of_getElem? (i := 1827) (by decide +kernel)) rfl)
theorem ml_X11_423 {rm : Room} {b : Bool} {nm : String} : zm_Sl RX11 423 yX11_fives (cX11_fives, 3, RX11, rm, (some .int), b, nm) 1 := ⟨(zm_tbl_in (List.mem_of_getElem? (i := 1825) (by decide +kernel)) rfl), (zm_tbl_in (List.mem_of_getElem? (i := 1826) (by decide +kernel)) rfl), in_X11, cm_X11_fives, ⟨by decide +kernel, by decide +kernel, by decide +kernel⟩⟩
theorem cm_X11_houseIn : Cond.code yX11_houseIn cX11_houseIn 3 (some .int) ∈ zm_tbl := (zm_tbl_in (List.mem_of_getElem? (i := 1839) (by decide +kernel)) rfl)
theorem se_X11_houseIn : Cond.selects RX11 yX11_houseIn yX11_houseIn ∈ zm_tbl := (zm_tbl_in (List.mem_of_getElem? (i := 111) (by decide +kernel)) rfl)
theorem ml_X11_426 {rm : Room} {b : Bool} {nm : String} : zm_Ml RX11 426 yX11_houseIn (cX11_houseIn, 3, RX11, rm, (some .int), b, nm) 2 := ⟨(zm_tbl_in (List.mem_of_getElem? (i := 1836) (by decide +kernel)) rfl), (zm_tbl_in (List.mem_of_getElem? (i := 1838) (by decide +kernel)) rfl), se_X11_houseIn, in_X11, cm_X11_houseIn, ⟨by decide +kernel, by decide +kernel, by decide +kernel⟩⟩
theorem cm_X11_hangs : Cond.code yX11_hangs cX11_hangs 3 (some .boolean) ∈ zm_tbl := (zm_tbl_in (List.mem_of_getElem? (i := 1835) (by decide +kernel)) rfl)
theorem se_X11_hangs : Cond.selects RX11 yX11_hangs yX11_hangs ∈ zm_tbl := (zm_tbl_in (List.mem_of_getElem? (i := 110) (by decide +kernel)) rfl)
theorem ml_X11_429 {rm : Room} {b : Bool} {nm : String} : zm_Ml RX11 429 yX11_hangs (cX11_hangs, 3, RX11, rm, (some .boolean), b, nm) 1 := ⟨(zm_tbl_in (List.mem_of_getElem? (i := 1832) (by decide +kernel)) rfl), (zm_tbl_in (List.mem_of_getElem? (i := 1834) (by decide +kernel)) rfl), se_X11_hangs, in_X11, cm_X11_hangs, ⟨by decide +kernel, by decide +kernel, by decide +kernel⟩⟩
theorem cm_X11_brokenAll : Cond.code yX11_brokenAll cX11_brokenAll 3 (some .int) ∈ zm_tbl := (zm_tbl_in (List.mem_of_getElem? (i := 1843) (by decide +kernel)) rfl)
theorem se_X11_brokenAll : Cond.selects RX11 yX11_brokenAll yX11_brokenAll ∈ zm_tbl := (zm_tbl_in (List.mem_of_getElem? (i := 112) (by decide +kernel)) rfl)
theorem ml_X11_432 {rm : Room} {b : Bool} {nm : String} : zm_Ml RX11 432 yX11_brokenAll (cX11_brokenAll, 3, RX11, rm, (some .int), b, nm) 0 := ⟨(zm_tbl_in (List.mem_of_getElem? (i := 1840) (by decide +kernel)) rfl), (zm_tbl_in (List.mem_of_getElem? (i := 1842) (by decide +kernel)) rfl), se_X11_brokenAll, in_X11, cm_X11_brokenAll, ⟨by decide +kernel, by decide +kernel, by decide +kernel⟩⟩
theorem cm_X11_isHanging : Cond.code yX11_isHanging cX11_isHanging 2 (some .boolean) ∈ zm_tbl := (zm_tbl_in (List.mem_of_getElem? (i := 1831) (by decide +kernel)) rfl)
theorem se_X11_isHanging : Cond.selects RX11 yX11_isHanging yX11_isHanging ∈ zm_tbl := (zm_tbl_in (List.mem_of_getElem? (i := 109) (by decide +kernel)) rfl)
theorem ml_X11_435 {rm : Room} {b : Bool} {nm : String} : zm_Ml RX11 435 yX11_isHanging (cX11_isHanging, 2, RX11, rm, (some .boolean), b, nm) 1 := ⟨(zm_tbl_in (List.mem_of_getElem? (i := 1828) (by decide +kernel)) rfl), (zm_tbl_in (List.mem_of_getElem? (i := 1830) (by decide +kernel)) rfl), se_X11_isHanging, in_X11, cm_X11_isHanging, ⟨by decide +kernel, by decide +kernel, by decide +kernel⟩⟩
theorem fl_X11_143 : zm_Fl RX11 143 11 61 3 := ⟨RX11, TX11, 71, rfl, zm_itX11, by decide, rfl, (zm_tbl_in (List.mem_of_getElem? (i := 1394) (by decide +kernel)) rfl), rfl⟩
theorem cm_X11_bits : Cond.code yX11_bits cX11_bits 3 (some .int) ∈ zm_tbl := (zm_tbl_in (List.mem_of_getElem? (i := 1854) (by decide +kernel)) rfl)
theorem ml_X11_438 {rm : Room} {b : Bool} {nm : String} : zm_Sl RX11 438 yX11_bits (cX11_bits, 3, RX11, rm, (some .int), b, nm) 1 := ⟨(zm_tbl_in (List.mem_of_getElem? (i := 1852) (by decide +kernel)) rfl), (zm_tbl_in (List.mem_of_getElem? (i := 1853) (by decide +kernel)) rfl), in_X11, cm_X11_bits, ⟨by decide +kernel, by decide +kernel, by decide +kernel⟩⟩
theorem cm_X11_isQuarrel : Cond.code yX11_isQuarrel cX11_isQuarrel 3 (some .boolean) ∈ zm_tbl := (zm_tbl_in (List.mem_of_getElem? (i := 1858) (by decide +kernel)) rfl)
theorem se_X11_isQuarrel : Cond.selects RX11 yX11_isQuarrel yX11_isQuarrel ∈ zm_tbl := (zm_tbl_in (List.mem_of_getElem? (i := 113) (by decide +kernel)) rfl)
theorem ml_X11_441 {rm : Room} {b : Bool} {nm : String} : zm_Ml RX11 441 yX11_isQuarrel (cX11_isQuarrel, 3, RX11, rm, (some .boolean), b, nm) 1 := ⟨(zm_tbl_in (List.mem_of_getElem? (i := 1855) (by decide +kernel)) rfl), (zm_tbl_in (List.mem_of_getElem? (i := 1857) (by decide +kernel)) rfl), se_X11_isQuarrel, in_X11, cm_X11_isQuarrel, ⟨by decide +kernel, by decide +kernel, by decide +kernel⟩⟩
theorem fl_X11_146 : zm_Fl RX11 146 11 62 3 := ⟨RX11, TX11, 71, rfl, zm_itX11, by decide, rfl, (zm_tbl_in (List.mem_of_getElem? (i := 1395) (by decide +kernel)) rfl), rfl⟩
theorem cm_X11_fillsMayBe : Cond.code yX11_fillsMayBe cX11_fillsMayBe 3 none ∈ zm_tbl := (zm_tbl_in (List.mem_of_getElem? (i := 1866) (by decide +kernel)) rfl)
theorem se_X11_fillsMayBe : Cond.selects RX11 yX11_fillsMayBe yX11_fillsMayBe ∈ zm_tbl := (zm_tbl_in (List.mem_of_getElem? (i := 114) (by decide +kernel)) rfl)
theorem ml_X11_444 {rm : Room} {b : Bool} {nm : String} : zm_Ml RX11 444 yX11_fillsMayBe (cX11_fillsMayBe, 3, RX11, rm, none, b, nm) 1 := ⟨(zm_tbl_in (List.mem_of_getElem? (i := 1863) (by decide +kernel)) rfl), (zm_tbl_in (List.mem_of_getElem? (i := 1865) (by decide +kernel)) rfl), se_X11_fillsMayBe, in_X11, cm_X11_fillsMayBe, ⟨by decide +kernel, by decide +kernel, by decide +kernel⟩⟩
theorem cm_X11_isNextTo : Cond.code yX11_isNextTo cX11_isNextTo 7 (some .boolean) ∈ zm_tbl := (zm_tbl_in (List.mem_of_getElem? (i := 1870) (by decide +kernel)) rfl)
theorem se_X11_isNextTo : Cond.selects RX11 yX11_isNextTo yX11_isNextTo ∈ zm_tbl := (zm_tbl_in (List.mem_of_getElem? (i := 115) (by decide +kernel)) rfl)
theorem ml_X11_447 {rm : Room} {b : Bool} {nm : String} : zm_Ml RX11 447 yX11_isNextTo (cX11_isNextTo, 7, RX11, rm, (some .boolean), b, nm) 2 := ⟨(zm_tbl_in (List.mem_of_getElem? (i := 1867) (by decide +kernel)) rfl), (zm_tbl_in (List.mem_of_getElem? (i := 1869) (by decide +kernel)) rfl), se_X11_isNextTo, in_X11, cm_X11_isNextTo, ⟨by decide +kernel, by decide +kernel, by decide +kernel⟩⟩
theorem cm_X11_gainOf : Cond.code yX11_gainOf cX11_gainOf 4 (some .int) ∈ zm_tbl := (zm_tbl_in (List.mem_of_getElem? (i := 1882) (by decide +kernel)) rfl)
theorem se_X11_gainOf : Cond.selects RX11 yX11_gainOf yX11_gainOf ∈ zm_tbl := (zm_tbl_in (List.mem_of_getElem? (i := 117) (by decide +kernel)) rfl)
theorem ml_X11_450 {rm : Room} {b : Bool} {nm : String} : zm_Ml RX11 450 yX11_gainOf (cX11_gainOf, 4, RX11, rm, (some .int), b, nm) 2 := ⟨(zm_tbl_in (List.mem_of_getElem? (i := 1879) (by decide +kernel)) rfl), (zm_tbl_in (List.mem_of_getElem? (i := 1881) (by decide +kernel)) rfl), se_X11_gainOf, in_X11, cm_X11_gainOf, ⟨by decide +kernel, by decide +kernel, by decide +kernel⟩⟩
theorem cm_X11_isSwap : Cond.code yX11_isSwap cX11_isSwap 3 (some .boolean) ∈ zm_tbl := (zm_tbl_in (List.mem_of_getElem? (i := 1878) (by decide +kernel)) rfl)
theorem se_X11_isSwap : Cond.selects RX11 yX11_isSwap yX11_isSwap ∈ zm_tbl := (zm_tbl_in (List.mem_of_getElem? (i := 116) (by decide +kernel)) rfl)
theorem ml_X11_453 {rm : Room} {b : Bool} {nm : String} : zm_Ml RX11 453 yX11_isSwap (cX11_isSwap, 3, RX11, rm, (some .boolean), b, nm) 2 := ⟨(zm_tbl_in (List.mem_of_getElem? (i := 1875) (by decide +kernel)) rfl), (zm_tbl_in (List.mem_of_getElem? (i := 1877) (by decide +kernel)) rfl), se_X11_isSwap, in_X11, cm_X11_isSwap, ⟨by decide +kernel, by decide +kernel, by decide +kernel⟩⟩
theorem fl_X11_149 : zm_Fl RX11 149 11 63 3 := ⟨RX11, TX11, 71, rfl, zm_itX11, by decide, rfl, (zm_tbl_in (List.mem_of_getElem? (i := 1396) (by decide +kernel)) rfl), rfl⟩
theorem cm_X11_isResting : Cond.code yX11_isResting cX11_isResting 3 (some .boolean) ∈ zm_tbl := (zm_tbl_in (List.mem_of_getElem? (i := 1894) (by decide +kernel)) rfl)
theorem se_X11_isResting : Cond.selects RX11 yX11_isResting yX11_isResting ∈ zm_tbl := (zm_tbl_in (List.mem_of_getElem? (i := 119) (by decide +kernel)) rfl)
theorem ml_X11_459 {rm : Room} {b : Bool} {nm : String} : zm_Ml RX11 459 yX11_isResting (cX11_isResting, 3, RX11, rm, (some .boolean), b, nm) 1 := ⟨(zm_tbl_in (List.mem_of_getElem? (i := 1891) (by decide +kernel)) rfl), (zm_tbl_in (List.mem_of_getElem? (i := 1893) (by decide +kernel)) rfl), se_X11_isResting, in_X11, cm_X11_isResting, ⟨by decide +kernel, by decide +kernel, by decide +kernel⟩⟩
theorem cm_X11_fillsLikes : Cond.code yX11_fillsLikes cX11_fillsLikes 4 none ∈ zm_tbl := (zm_tbl_in (List.mem_of_getElem? (i := 1890) (by decide +kernel)) rfl)
theorem se_X11_fillsLikes : Cond.selects RX11 yX11_fillsLikes yX11_fillsLikes ∈ zm_tbl := (zm_tbl_in (List.mem_of_getElem? (i := 118) (by decide +kernel)) rfl)
theorem ml_X11_456 {rm : Room} {b : Bool} {nm : String} : zm_Ml RX11 456 yX11_fillsLikes (cX11_fillsLikes, 4, RX11, rm, none, b, nm) 1 := ⟨(zm_tbl_in (List.mem_of_getElem? (i := 1887) (by decide +kernel)) rfl), (zm_tbl_in (List.mem_of_getElem? (i := 1889) (by decide +kernel)) rfl), se_X11_fillsLikes, in_X11, cm_X11_fillsLikes, ⟨by decide +kernel, by decide +kernel, by decide +kernel⟩⟩
theorem cm_X11_threes : Cond.code yX11_threes cX11_threes 3 (some .int) ∈ zm_tbl := (zm_tbl_in (List.mem_of_getElem? (i := 1901) (by decide +kernel)) rfl)
theorem ml_X11_462 {rm : Room} {b : Bool} {nm : String} : zm_Sl RX11 462 yX11_threes (cX11_threes, 3, RX11, rm, (some .int), b, nm) 1 := ⟨(zm_tbl_in (List.mem_of_getElem? (i := 1899) (by decide +kernel)) rfl), (zm_tbl_in (List.mem_of_getElem? (i := 1900) (by decide +kernel)) rfl), in_X11, cm_X11_threes, ⟨by decide +kernel, by decide +kernel, by decide +kernel⟩⟩
theorem fl_X11_152 : zm_Fl RX11 152 11 64 3 := ⟨RX11, TX11, 71, rfl, zm_itX11, by decide, rfl, (zm_tbl_in (List.mem_of_getElem? (i := 1397) (by decide +kernel)) rfl), rfl⟩
theorem cm_X11_daysBy : Cond.code yX11_daysBy cX11_daysBy 6 (some .int) ∈ zm_tbl := (zm_tbl_in (List.mem_of_getElem? (i := 1905) (by decide +kernel)) rfl)
theorem se_X11_daysBy : Cond.selects RX11 yX11_daysBy yX11_daysBy ∈ zm_tbl := (zm_tbl_in (List.mem_of_getElem? (i := 120) (by decide +kernel)) rfl)
theorem ml_X11_465 {rm : Room} {b : Bool} {nm : String} : zm_Ml RX11 465 yX11_daysBy (cX11_daysBy, 6, RX11, rm, (some .int), b, nm) 1 := ⟨(zm_tbl_in (List.mem_of_getElem? (i := 1902) (by decide +kernel)) rfl), (zm_tbl_in (List.mem_of_getElem? (i := 1904) (by decide +kernel)) rfl), se_X11_daysBy, in_X11, cm_X11_daysBy, ⟨by decide +kernel, by decide +kernel, by decide +kernel⟩⟩
theorem cm_X11_isLong : Cond.code yX11_isLong cX11_isLong 1 (some .boolean) ∈ zm_tbl := (zm_tbl_in (List.mem_of_getElem? (i := 1912) (by decide +kernel)) rfl)
theorem ml_X11_468 {rm : Room} {b : Bool} {nm : String} : zm_Sl RX11 468 yX11_isLong (cX11_isLong, 1, RX11, rm, (some .boolean), b, nm) 1 := ⟨(zm_tbl_in (List.mem_of_getElem? (i := 1910) (by decide +kernel)) rfl), (zm_tbl_in (List.mem_of_getElem? (i := 1911) (by decide +kernel)) rfl), in_X11, cm_X11_isLong, ⟨by decide +kernel, by decide +kernel, by decide +kernel⟩⟩
theorem cm_X11_valueIn : Cond.code yX11_valueIn cX11_valueIn 4 (some .int) ∈ zm_tbl := (zm_tbl_in (List.mem_of_getElem? (i := 1928) (by decide +kernel)) rfl)
theorem se_X11_valueIn : Cond.selects RX11 yX11_valueIn yX11_valueIn ∈ zm_tbl := (zm_tbl_in (List.mem_of_getElem? (i := 121) (by decide +kernel)) rfl)
theorem ml_X11_471 {rm : Room} {b : Bool} {nm : String} : zm_Ml RX11 471 yX11_valueIn (cX11_valueIn, 4, RX11, rm, (some .int), b, nm) 1 := ⟨(zm_tbl_in (List.mem_of_getElem? (i := 1925) (by decide +kernel)) rfl), (zm_tbl_in (List.mem_of_getElem? (i := 1927) (by decide +kernel)) rfl), se_X11_valueIn, in_X11, cm_X11_valueIn, ⟨by decide +kernel, by decide +kernel, by decide +kernel⟩⟩
theorem fl_X11_272 : zm_Fl RX11 272 11 65 0 := ⟨RX11, TX11, 71, rfl, zm_itX11, by decide, rfl, (zm_tbl_in (List.mem_of_getElem? (i := 1398) (by decide +kernel)) rfl), rfl⟩
theorem fl_X11_155 : zm_Fl RX11 155 11 66 3 := ⟨RX11, TX11, 71, rfl, zm_itX11, by decide, rfl, (zm_tbl_in (List.mem_of_getElem? (i := 1399) (by decide +kernel)) rfl), rfl⟩
theorem fl_X11_158 : zm_Fl RX11 158 11 67 3 := ⟨RX11, TX11, 71, rfl, zm_itX11, by decide, rfl, (zm_tbl_in (List.mem_of_getElem? (i := 1400) (by decide +kernel)) rfl), rfl⟩
theorem fl_X11_161 : zm_Fl RX11 161 11 68 3 := ⟨RX11, TX11, 71, rfl, zm_itX11, by decide, rfl, (zm_tbl_in (List.mem_of_getElem? (i := 1401) (by decide +kernel)) rfl), rfl⟩
theorem cm_X11_sixes : Cond.code yX11_sixes cX11_sixes 3 (some .int) ∈ zm_tbl := (zm_tbl_in (List.mem_of_getElem? (i := 1951) (by decide +kernel)) rfl)
theorem ml_X11_474 {rm : Room} {b : Bool} {nm : String} : zm_Sl RX11 474 yX11_sixes (cX11_sixes, 3, RX11, rm, (some .int), b, nm) 1 := ⟨(zm_tbl_in (List.mem_of_getElem? (i := 1949) (by decide +kernel)) rfl), (zm_tbl_in (List.mem_of_getElem? (i := 1950) (by decide +kernel)) rfl), in_X11, cm_X11_sixes, ⟨by decide +kernel, by decide +kernel, by decide +kernel⟩⟩
theorem cm_X11_workIn : Cond.code yX11_workIn cX11_workIn 3 (some .int) ∈ zm_tbl := (zm_tbl_in (List.mem_of_getElem? (i := 1959) (by decide +kernel)) rfl)
theorem se_X11_workIn : Cond.selects RX11 yX11_workIn yX11_workIn ∈ zm_tbl := (zm_tbl_in (List.mem_of_getElem? (i := 124) (by decide +kernel)) rfl)
theorem ml_X11_477 {rm : Room} {b : Bool} {nm : String} : zm_Ml RX11 477 yX11_workIn (cX11_workIn, 3, RX11, rm, (some .int), b, nm) 2 := ⟨(zm_tbl_in (List.mem_of_getElem? (i := 1956) (by decide +kernel)) rfl), (zm_tbl_in (List.mem_of_getElem? (i := 1958) (by decide +kernel)) rfl), se_X11_workIn, in_X11, cm_X11_workIn, ⟨by decide +kernel, by decide +kernel, by decide +kernel⟩⟩
theorem cm_X11_isPacking : Cond.code yX11_isPacking cX11_isPacking 5 (some .boolean) ∈ zm_tbl := (zm_tbl_in (List.mem_of_getElem? (i := 1955) (by decide +kernel)) rfl)
theorem se_X11_isPacking : Cond.selects RX11 yX11_isPacking yX11_isPacking ∈ zm_tbl := (zm_tbl_in (List.mem_of_getElem? (i := 123) (by decide +kernel)) rfl)
theorem ml_X11_480 {rm : Room} {b : Bool} {nm : String} : zm_Ml RX11 480 yX11_isPacking (cX11_isPacking, 5, RX11, rm, (some .boolean), b, nm) 1 := ⟨(zm_tbl_in (List.mem_of_getElem? (i := 1952) (by decide +kernel)) rfl), (zm_tbl_in (List.mem_of_getElem? (i := 1954) (by decide +kernel)) rfl), se_X11_isPacking, in_X11, cm_X11_isPacking, ⟨by decide +kernel, by decide +kernel, by decide +kernel⟩⟩
theorem cm_X11_wrongBy : Cond.code yX11_wrongBy cX11_wrongBy 7 (some .int) ∈ zm_tbl := (zm_tbl_in (List.mem_of_getElem? (i := 1963) (by decide +kernel)) rfl)
theorem se_X11_wrongBy : Cond.selects RX11 yX11_wrongBy yX11_wrongBy ∈ zm_tbl := (zm_tbl_in (List.mem_of_getElem? (i := 125) (by decide +kernel)) rfl)
theorem ml_X11_483 {rm : Room} {b : Bool} {nm : String} : zm_Ml RX11 483 yX11_wrongBy (cX11_wrongBy, 7, RX11, rm, (some .int), b, nm) 2 := ⟨(zm_tbl_in (List.mem_of_getElem? (i := 1960) (by decide +kernel)) rfl), (zm_tbl_in (List.mem_of_getElem? (i := 1962) (by decide +kernel)) rfl), se_X11_wrongBy, in_X11, cm_X11_wrongBy, ⟨by decide +kernel, by decide +kernel, by decide +kernel⟩⟩
theorem cm_X11_waysWith : Cond.code yX11_waysWith cX11_waysWith 5 (some .int) ∈ zm_tbl := (zm_tbl_in (List.mem_of_getElem? (i := 1948) (by decide +kernel)) rfl)
theorem se_X11_waysWith : Cond.selects RX11 yX11_waysWith yX11_waysWith ∈ zm_tbl := (zm_tbl_in (List.mem_of_getElem? (i := 122) (by decide +kernel)) rfl)
theorem ml_X11_486 {rm : Room} {b : Bool} {nm : String} : zm_Ml RX11 486 yX11_waysWith (cX11_waysWith, 5, RX11, rm, (some .int), b, nm) 2 := ⟨(zm_tbl_in (List.mem_of_getElem? (i := 1945) (by decide +kernel)) rfl), (zm_tbl_in (List.mem_of_getElem? (i := 1947) (by decide +kernel)) rfl), se_X11_waysWith, in_X11, cm_X11_waysWith, ⟨by decide +kernel, by decide +kernel, by decide +kernel⟩⟩
theorem cm_X11_leastOf : Cond.code yX11_leastOf cX11_leastOf 4 (some .int) ∈ zm_tbl := (zm_tbl_in (List.mem_of_getElem? (i := 1971) (by decide +kernel)) rfl)
theorem se_X11_leastOf : Cond.selects RX11 yX11_leastOf yX11_leastOf ∈ zm_tbl := (zm_tbl_in (List.mem_of_getElem? (i := 126) (by decide +kernel)) rfl)
theorem ml_X11_489 {rm : Room} {b : Bool} {nm : String} : zm_Ml RX11 489 yX11_leastOf (cX11_leastOf, 4, RX11, rm, (some .int), b, nm) 1 := ⟨(zm_tbl_in (List.mem_of_getElem? (i := 1968) (by decide +kernel)) rfl), (zm_tbl_in (List.mem_of_getElem? (i := 1970) (by decide +kernel)) rfl), se_X11_leastOf, in_X11, cm_X11_leastOf, ⟨by decide +kernel, by decide +kernel, by decide +kernel⟩⟩
theorem fl_X11_167 : zm_Fl RX11 167 11 70 3 := ⟨RX11, TX11, 71, rfl, zm_itX11, by decide, rfl, (zm_tbl_in (List.mem_of_getElem? (i := 1403) (by decide +kernel)) rfl), rfl⟩
theorem zb_27 : (Int8.ofInt 27).toInt32 = (27 : Int32) := by decide
