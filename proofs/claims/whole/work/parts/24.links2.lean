theorem oi_X7_3 : Cond.methodLink RX7 3 objectInit ∈ zm_tbl := (zm_tbl_in (List.mem_of_getElem? (i := 162) (by decide +kernel)) rfl)
theorem oi_inst : Cond.instanceMethod objectInit ∈ zm_tbl := (zm_tbl_in (List.mem_of_getElem? (i := 155) (by decide +kernel)) rfl)
theorem oi_code : Cond.code objectInit ⟨#[0xb1]⟩ 1 none ∈ zm_tbl := (zm_tbl_in (List.mem_of_getElem? (i := 156) (by decide +kernel)) rfl)
theorem zs_402 : (Int16.ofInt 402).toInt32 = (402 : Int32) := by decide
theorem akint : Cond.arrayClass .int ∈ zm_tbl := (zm_tbl_in (List.mem_of_getElem? (i := 233) (by decide +kernel)) rfl)
theorem ff_X7_11 : zm_Ff RX7 11 7 0 (.array .int) := ⟨RX7, TX7, 5, tyX7, rfl, zm_itX7, by decide, rfl, (zm_tbl_in (List.mem_of_getElem? (i := 216) (by decide +kernel)) rfl), rfl, tyX7_ok, nmX7, rfl, rfl, by decide +kernel, Or.inl ⟨_, rfl⟩⟩
theorem ff_X7_15 : zm_Ff RX7 15 7 1 (.array .int) := ⟨RX7, TX7, 5, tyX7, rfl, zm_itX7, by decide, rfl, (zm_tbl_in (List.mem_of_getElem? (i := 217) (by decide +kernel)) rfl), rfl, tyX7_ok, nmX7, rfl, rfl, by decide +kernel, Or.inl ⟨_, rfl⟩⟩
theorem aklong : Cond.arrayClass .long ∈ zm_tbl := (zm_tbl_in (List.mem_of_getElem? (i := 234) (by decide +kernel)) rfl)
theorem ff_X7_18 : zm_Ff RX7 18 7 2 (.array .long) := ⟨RX7, TX7, 5, tyX7, rfl, zm_itX7, by decide, rfl, (zm_tbl_in (List.mem_of_getElem? (i := 218) (by decide +kernel)) rfl), rfl, tyX7_ok, nmX7, rfl, rfl, by decide +kernel, Or.inl ⟨_, rfl⟩⟩
theorem ff_X7_22 : zm_Ff RX7 22 7 3 (.array .long) := ⟨RX7, TX7, 5, tyX7, rfl, zm_itX7, by decide, rfl, (zm_tbl_in (List.mem_of_getElem? (i := 219) (by decide +kernel)) rfl), rfl, tyX7_ok, nmX7, rfl, rfl, by decide +kernel, Or.inl ⟨_, rfl⟩⟩
theorem ml_X7_27 {rm : Room} {b : Bool} {nm : String} : zm_Ml RX7 27 yJ0_length_8abf5 (cJ0_length_8abf5, 1, RJ0, rm, (some .int), b, nm) 0 := ⟨(zm_tbl_in (List.mem_of_getElem? (i := 164) (by decide +kernel)) rfl), (zm_tbl_in (List.mem_of_getElem? (i := 165) (by decide +kernel)) rfl), se_J0_length_8abf5, in_J0, cm_J0_length_8abf5, ⟨by decide +kernel, by decide +kernel, by decide +kernel⟩⟩
theorem cm_J0_charAt_5068e : Cond.code yJ0_charAt_5068e cJ0_charAt_5068e 2 (some .char) ∈ zm_tbl := (zm_tbl_in (List.mem_of_getElem? (i := 177) (by decide +kernel)) rfl)
theorem se_J0_charAt_5068e : Cond.selects RJ0 yJ0_charAt_5068e yJ0_charAt_5068e ∈ zm_tbl := (zm_tbl_in (List.mem_of_getElem? (i := 176) (by decide +kernel)) rfl)
theorem ml_X7_33 {rm : Room} {b : Bool} {nm : String} : zm_Ml RX7 33 yJ0_charAt_5068e (cJ0_charAt_5068e, 2, RJ0, rm, (some .char), b, nm) 1 := ⟨(zm_tbl_in (List.mem_of_getElem? (i := 174) (by decide +kernel)) rfl), (zm_tbl_in (List.mem_of_getElem? (i := 175) (by decide +kernel)) rfl), se_J0_charAt_5068e, in_J0, cm_J0_charAt_5068e, ⟨by decide +kernel, by decide +kernel, by decide +kernel⟩⟩
theorem oi_X2_3 : Cond.methodLink RX2 3 objectInit ∈ zm_tbl := (zm_tbl_in (List.mem_of_getElem? (i := 240) (by decide +kernel)) rfl)
theorem ff_X2_9 : zm_Ff RX2 9 2 1 (.array .long) := ⟨RX2, TX2, 9, tyX2, rfl, zm_itX2, by decide, rfl, (zm_tbl_in (List.mem_of_getElem? (i := 242) (by decide +kernel)) rfl), rfl, tyX2_ok, nmX2, rfl, rfl, by decide +kernel, Or.inl ⟨_, rfl⟩⟩
theorem ff_X2_15 : zm_Ff RX2 15 2 2 (.array .long) := ⟨RX2, TX2, 9, tyX2, rfl, zm_itX2, by decide, rfl, (zm_tbl_in (List.mem_of_getElem? (i := 243) (by decide +kernel)) rfl), rfl, tyX2_ok, nmX2, rfl, rfl, by decide +kernel, Or.inl ⟨_, rfl⟩⟩
theorem ff_X2_18 : zm_Ff RX2 18 2 0 (.object "LentPictures$Tokens") := ⟨RX2, TX2, 9, tyX2, rfl, zm_itX2, by decide, rfl, (zm_tbl_in (List.mem_of_getElem? (i := 241) (by decide +kernel)) rfl), rfl, tyX2_ok, nmX2, rfl, rfl, by decide +kernel, Or.inr ⟨_, rfl⟩⟩
theorem oi_X4_5 : Cond.methodLink RX4 5 objectInit ∈ zm_tbl := (zm_tbl_in (List.mem_of_getElem? (i := 274) (by decide +kernel)) rfl)
theorem ff_X4_11 : zm_Ff RX4 11 4 0 (.array .int) := ⟨RX4, TX4, 1, tyX4, rfl, zm_itX4, by decide, rfl, (zm_tbl_in (List.mem_of_getElem? (i := 275) (by decide +kernel)) rfl), rfl, tyX4_ok, nmX4, rfl, rfl, by decide +kernel, Or.inl ⟨_, rfl⟩⟩
theorem oi_X1_1 : Cond.methodLink RX1 1 objectInit ∈ zm_tbl := (zm_tbl_in (List.mem_of_getElem? (i := 285) (by decide +kernel)) rfl)
theorem zs_1880 : (Int16.ofInt 1880).toInt32 = (1880 : Int32) := by decide
theorem ff_X1_11 : zm_Ff RX1 11 1 0 (.array .int) := ⟨RX1, TX1, 3, tyX1, rfl, zm_itX1, by decide, rfl, (zm_tbl_in (List.mem_of_getElem? (i := 286) (by decide +kernel)) rfl), rfl, tyX1_ok, nmX1, rfl, rfl, by decide +kernel, Or.inl ⟨_, rfl⟩⟩
theorem oi_X0_3 : Cond.methodLink RX0 3 objectInit ∈ zm_tbl := (zm_tbl_in (List.mem_of_getElem? (i := 301) (by decide +kernel)) rfl)
theorem ff_X0_11 : zm_Ff RX0 11 0 0 (.array .int) := ⟨RX0, TX0, 9, tyX0, rfl, zm_itX0, by decide, rfl, (zm_tbl_in (List.mem_of_getElem? (i := 302) (by decide +kernel)) rfl), rfl, tyX0_ok, nmX0, rfl, rfl, by decide +kernel, Or.inl ⟨_, rfl⟩⟩
theorem ff_X0_15 : zm_Ff RX0 15 0 1 (.array .int) := ⟨RX0, TX0, 9, tyX0, rfl, zm_itX0, by decide, rfl, (zm_tbl_in (List.mem_of_getElem? (i := 303) (by decide +kernel)) rfl), rfl, tyX0_ok, nmX0, rfl, rfl, by decide +kernel, Or.inl ⟨_, rfl⟩⟩
theorem ff_X0_18 : zm_Ff RX0 18 0 2 (.array .int) := ⟨RX0, TX0, 9, tyX0, rfl, zm_itX0, by decide, rfl, (zm_tbl_in (List.mem_of_getElem? (i := 304) (by decide +kernel)) rfl), rfl, tyX0_ok, nmX0, rfl, rfl, by decide +kernel, Or.inl ⟨_, rfl⟩⟩
theorem zb_36 : (Int8.ofInt 36).toInt32 = (36 : Int32) := by decide
theorem ff_X0_21 : zm_Ff RX0 21 0 3 (.array .int) := ⟨RX0, TX0, 9, tyX0, rfl, zm_itX0, by decide, rfl, (zm_tbl_in (List.mem_of_getElem? (i := 305) (by decide +kernel)) rfl), rfl, tyX0_ok, nmX0, rfl, rfl, by decide +kernel, Or.inl ⟨_, rfl⟩⟩
theorem ff_X0_24 : zm_Ff RX0 24 0 4 (.array .int) := ⟨RX0, TX0, 9, tyX0, rfl, zm_itX0, by decide, rfl, (zm_tbl_in (List.mem_of_getElem? (i := 306) (by decide +kernel)) rfl), rfl, tyX0_ok, nmX0, rfl, rfl, by decide +kernel, Or.inl ⟨_, rfl⟩⟩
theorem ff_X0_27 : zm_Ff RX0 27 0 5 (.array .int) := ⟨RX0, TX0, 9, tyX0, rfl, zm_itX0, by decide, rfl, (zm_tbl_in (List.mem_of_getElem? (i := 307) (by decide +kernel)) rfl), rfl, tyX0_ok, nmX0, rfl, rfl, by decide +kernel, Or.inl ⟨_, rfl⟩⟩
theorem ff_X0_30 : zm_Ff RX0 30 0 6 (.array .int) := ⟨RX0, TX0, 9, tyX0, rfl, zm_itX0, by decide, rfl, (zm_tbl_in (List.mem_of_getElem? (i := 308) (by decide +kernel)) rfl), rfl, tyX0_ok, nmX0, rfl, rfl, by decide +kernel, Or.inl ⟨_, rfl⟩⟩
theorem oi_X8_5 : Cond.methodLink RX8 5 objectInit ∈ zm_tbl := (zm_tbl_in (List.mem_of_getElem? (i := 335) (by decide +kernel)) rfl)
theorem ff_X8_11 : zm_Ff RX8 11 8 0 (.array .int) := ⟨RX8, TX8, 19, tyX8, rfl, zm_itX8, by decide, rfl, (zm_tbl_in (List.mem_of_getElem? (i := 344) (by decide +kernel)) rfl), rfl, tyX8_ok, nmX8, rfl, rfl, by decide +kernel, Or.inl ⟨_, rfl⟩⟩
theorem ff_X8_15 : zm_Ff RX8 15 8 1 (.array .int) := ⟨RX8, TX8, 19, tyX8, rfl, zm_itX8, by decide, rfl, (zm_tbl_in (List.mem_of_getElem? (i := 348) (by decide +kernel)) rfl), rfl, tyX8_ok, nmX8, rfl, rfl, by decide +kernel, Or.inl ⟨_, rfl⟩⟩
theorem ff_X8_18 : zm_Ff RX8 18 8 2 (.array .int) := ⟨RX8, TX8, 19, tyX8, rfl, zm_itX8, by decide, rfl, (zm_tbl_in (List.mem_of_getElem? (i := 353) (by decide +kernel)) rfl), rfl, tyX8_ok, nmX8, rfl, rfl, by decide +kernel, Or.inl ⟨_, rfl⟩⟩
theorem ff_X8_21 : zm_Ff RX8 21 8 3 (.array .int) := ⟨RX8, TX8, 19, tyX8, rfl, zm_itX8, by decide, rfl, (zm_tbl_in (List.mem_of_getElem? (i := 358) (by decide +kernel)) rfl), rfl, tyX8_ok, nmX8, rfl, rfl, by decide +kernel, Or.inl ⟨_, rfl⟩⟩
theorem ff_X8_24 : zm_Ff RX8 24 8 4 (.array .int) := ⟨RX8, TX8, 19, tyX8, rfl, zm_itX8, by decide, rfl, (zm_tbl_in (List.mem_of_getElem? (i := 361) (by decide +kernel)) rfl), rfl, tyX8_ok, nmX8, rfl, rfl, by decide +kernel, Or.inl ⟨_, rfl⟩⟩
theorem ff_X8_27 : zm_Ff RX8 27 8 5 (.array .int) := ⟨RX8, TX8, 19, tyX8, rfl, zm_itX8, by decide, rfl, (zm_tbl_in (List.mem_of_getElem? (i := 367) (by decide +kernel)) rfl), rfl, tyX8_ok, nmX8, rfl, rfl, by decide +kernel, Or.inl ⟨_, rfl⟩⟩
theorem ff_X8_30 : zm_Ff RX8 30 8 6 (.array .int) := ⟨RX8, TX8, 19, tyX8, rfl, zm_itX8, by decide, rfl, (zm_tbl_in (List.mem_of_getElem? (i := 372) (by decide +kernel)) rfl), rfl, tyX8_ok, nmX8, rfl, rfl, by decide +kernel, Or.inl ⟨_, rfl⟩⟩
theorem ff_X8_33 : zm_Ff RX8 33 8 7 (.array .int) := ⟨RX8, TX8, 19, tyX8, rfl, zm_itX8, by decide, rfl, (zm_tbl_in (List.mem_of_getElem? (i := 375) (by decide +kernel)) rfl), rfl, tyX8_ok, nmX8, rfl, rfl, by decide +kernel, Or.inl ⟨_, rfl⟩⟩
theorem ff_X8_36 : zm_Ff RX8 36 8 8 (.array .int) := ⟨RX8, TX8, 19, tyX8, rfl, zm_itX8, by decide, rfl, (zm_tbl_in (List.mem_of_getElem? (i := 378) (by decide +kernel)) rfl), rfl, tyX8_ok, nmX8, rfl, rfl, by decide +kernel, Or.inl ⟨_, rfl⟩⟩
theorem ff_X8_39 : zm_Ff RX8 39 8 9 (.array .int) := ⟨RX8, TX8, 19, tyX8, rfl, zm_itX8, by decide, rfl, (zm_tbl_in (List.mem_of_getElem? (i := 381) (by decide +kernel)) rfl), rfl, tyX8_ok, nmX8, rfl, rfl, by decide +kernel, Or.inl ⟨_, rfl⟩⟩
theorem ml_X8_42 {rm : Room} {b : Bool} {nm : String} : zm_Ml RX8 42 yX8_clear (cX8_clear, 1, RX8, rm, none, b, nm) 0 := ⟨(zm_tbl_in (List.mem_of_getElem? (i := 336) (by decide +kernel)) rfl), (zm_tbl_in (List.mem_of_getElem? (i := 337) (by decide +kernel)) rfl), se_X8_clear, in_X8, cm_X8_clear, ⟨by decide +kernel, by decide +kernel, by decide +kernel⟩⟩
theorem oi_X5_1 : Cond.methodLink RX5 1 objectInit ∈ zm_tbl := (zm_tbl_in (List.mem_of_getElem? (i := 466) (by decide +kernel)) rfl)
theorem ff_X5_9 : zm_Ff RX5 9 5 0 (.array .int) := ⟨RX5, TX5, 2, tyX5, rfl, zm_itX5, by decide, rfl, (zm_tbl_in (List.mem_of_getElem? (i := 467) (by decide +kernel)) rfl), rfl, tyX5_ok, nmX5, rfl, rfl, by decide +kernel, Or.inl ⟨_, rfl⟩⟩
theorem ff_X5_13 : zm_Ff RX5 13 5 1 (.array .int) := ⟨RX5, TX5, 2, tyX5, rfl, zm_itX5, by decide, rfl, (zm_tbl_in (List.mem_of_getElem? (i := 469) (by decide +kernel)) rfl), rfl, tyX5_ok, nmX5, rfl, rfl, by decide +kernel, Or.inl ⟨_, rfl⟩⟩
theorem oi_X3_3 : Cond.methodLink RX3 3 objectInit ∈ zm_tbl := (zm_tbl_in (List.mem_of_getElem? (i := 460) (by decide +kernel)) rfl)
theorem cl_X3_9 : Cond.classLink RX3 9 RX5 ∈ zm_tbl := (zm_tbl_in (List.mem_of_getElem? (i := 461) (by decide +kernel)) rfl)
theorem is_X5 : Cond.instantiable RX5 2 ∈ zm_tbl := (zm_tbl_in (List.mem_of_getElem? (i := 462) (by decide +kernel)) rfl)
theorem dv_X5 : ∀ j, j < 2 → defaultValue (tyX5 j) = zm_dv (zm_fk 5 j) := by decide
theorem im_X5_init : Cond.instanceMethod yX5_init ∈ zm_tbl := (zm_tbl_in (List.mem_of_getElem? (i := 464) (by decide +kernel)) rfl)
theorem cm_X5_init : Cond.code yX5_init cX5_init 1 none ∈ zm_tbl := (zm_tbl_in (List.mem_of_getElem? (i := 465) (by decide +kernel)) rfl)
theorem iN_X5_init {rm : Room} {b : Bool} {nm : String} : zm_In yX5_init (cX5_init, 1, RX5, rm, none, b, nm) := ⟨im_X5_init, in_X5, cm_X5_init, ⟨by decide +kernel, by decide +kernel, by decide +kernel⟩⟩
theorem ff_X3_12 : zm_Ff RX3 12 3 0 (.object "LentPictures$Sum") := ⟨RX3, TX3, 3, tyX3, rfl, zm_itX3, by decide, rfl, (zm_tbl_in (List.mem_of_getElem? (i := 475) (by decide +kernel)) rfl), rfl, tyX3_ok, nmX3, rfl, rfl, by decide +kernel, Or.inr ⟨_, rfl⟩⟩
theorem ff_X3_18 : zm_Ff RX3 18 3 1 (.array .int) := ⟨RX3, TX3, 3, tyX3, rfl, zm_itX3, by decide, rfl, (zm_tbl_in (List.mem_of_getElem? (i := 476) (by decide +kernel)) rfl), rfl, tyX3_ok, nmX3, rfl, rfl, by decide +kernel, Or.inl ⟨_, rfl⟩⟩
theorem oi_X10_1 : Cond.methodLink RX10 1 objectInit ∈ zm_tbl := (zm_tbl_in (List.mem_of_getElem? (i := 154) (by decide +kernel)) rfl)
theorem akbyte : Cond.arrayClass .byte ∈ zm_tbl := (zm_tbl_in (List.mem_of_getElem? (i := 232) (by decide +kernel)) rfl)
theorem ff_X10_9 : zm_Ff RX10 9 10 0 (.array .byte) := ⟨RX10, TX10, 17, tyX10, rfl, zm_itX10, by decide, rfl, (zm_tbl_in (List.mem_of_getElem? (i := 486) (by decide +kernel)) rfl), rfl, tyX10_ok, nmX10, rfl, rfl, by decide +kernel, Or.inl ⟨_, rfl⟩⟩
theorem cl_X10_13 : Cond.classLink RX10 13 RX7 ∈ zm_tbl := (zm_tbl_in (List.mem_of_getElem? (i := 157) (by decide +kernel)) rfl)
theorem is_X7 : Cond.instantiable RX7 5 ∈ zm_tbl := (zm_tbl_in (List.mem_of_getElem? (i := 158) (by decide +kernel)) rfl)
theorem dv_X7 : ∀ j, j < 5 → defaultValue (tyX7 j) = zm_dv (zm_fk 7 j) := by decide
theorem im_X7_init : Cond.instanceMethod yX7_init ∈ zm_tbl := (zm_tbl_in (List.mem_of_getElem? (i := 160) (by decide +kernel)) rfl)
theorem cm_X7_init : Cond.code yX7_init cX7_init 4 none ∈ zm_tbl := (zm_tbl_in (List.mem_of_getElem? (i := 161) (by decide +kernel)) rfl)
theorem il_X10_15 {rm : Room} {b : Bool} {nm : String} : zm_Il RX10 15 yX7_init (cX7_init, 4, RX7, rm, none, b, nm) 0 := ⟨(zm_tbl_in (List.mem_of_getElem? (i := 159) (by decide +kernel)) rfl), im_X7_init, in_X7, cm_X7_init, ⟨by decide +kernel, by decide +kernel, by decide +kernel⟩⟩
theorem ff_X10_16 : zm_Ff RX10 16 10 1 (.object "LentPictures$Tokens") := ⟨RX10, TX10, 17, tyX10, rfl, zm_itX10, by decide, rfl, (zm_tbl_in (List.mem_of_getElem? (i := 487) (by decide +kernel)) rfl), rfl, tyX10_ok, nmX10, rfl, rfl, by decide +kernel, Or.inr ⟨_, rfl⟩⟩
theorem cl_X10_20 : Cond.classLink RX10 20 RX2 ∈ zm_tbl := (zm_tbl_in (List.mem_of_getElem? (i := 235) (by decide +kernel)) rfl)
theorem is_X2 : Cond.instantiable RX2 9 ∈ zm_tbl := (zm_tbl_in (List.mem_of_getElem? (i := 236) (by decide +kernel)) rfl)
theorem dv_X2 : ∀ j, j < 9 → defaultValue (tyX2 j) = zm_dv (zm_fk 2 j) := by decide
theorem im_X2_init : Cond.instanceMethod yX2_init ∈ zm_tbl := (zm_tbl_in (List.mem_of_getElem? (i := 238) (by decide +kernel)) rfl)
theorem cm_X2_init : Cond.code yX2_init cX2_init 2 none ∈ zm_tbl := (zm_tbl_in (List.mem_of_getElem? (i := 239) (by decide +kernel)) rfl)
theorem il_X10_22 {rm : Room} {b : Bool} {nm : String} : zm_Il RX10 22 yX2_init (cX2_init, 2, RX2, rm, none, b, nm) 1 := ⟨(zm_tbl_in (List.mem_of_getElem? (i := 237) (by decide +kernel)) rfl), im_X2_init, in_X2, cm_X2_init, ⟨by decide +kernel, by decide +kernel, by decide +kernel⟩⟩
theorem ff_X10_25 : zm_Ff RX10 25 10 2 (.object "LentPictures$Reader") := ⟨RX10, TX10, 17, tyX10, rfl, zm_itX10, by decide, rfl, (zm_tbl_in (List.mem_of_getElem? (i := 488) (by decide +kernel)) rfl), rfl, tyX10_ok, nmX10, rfl, rfl, by decide +kernel, Or.inr ⟨_, rfl⟩⟩
theorem cl_X10_29 : Cond.classLink RX10 29 RX4 ∈ zm_tbl := (zm_tbl_in (List.mem_of_getElem? (i := 269) (by decide +kernel)) rfl)
theorem is_X4 : Cond.instantiable RX4 1 ∈ zm_tbl := (zm_tbl_in (List.mem_of_getElem? (i := 270) (by decide +kernel)) rfl)
theorem dv_X4 : ∀ j, j < 1 → defaultValue (tyX4 j) = zm_dv (zm_fk 4 j) := by decide
theorem im_X4_init : Cond.instanceMethod yX4_init ∈ zm_tbl := (zm_tbl_in (List.mem_of_getElem? (i := 272) (by decide +kernel)) rfl)
theorem cm_X4_init : Cond.code yX4_init cX4_init 1 none ∈ zm_tbl := (zm_tbl_in (List.mem_of_getElem? (i := 273) (by decide +kernel)) rfl)
theorem iN_X4_init {rm : Room} {b : Bool} {nm : String} : zm_In yX4_init (cX4_init, 1, RX4, rm, none, b, nm) := ⟨im_X4_init, in_X4, cm_X4_init, ⟨by decide +kernel, by decide +kernel, by decide +kernel⟩⟩
theorem ff_X10_32 : zm_Ff RX10 32 10 3 (.object "LentPictures$State") := ⟨RX10, TX10, 17, tyX10, rfl, zm_itX10, by decide, rfl, (zm_tbl_in (List.mem_of_getElem? (i := 489) (by decide +kernel)) rfl), rfl, tyX10_ok, nmX10, rfl, rfl, by decide +kernel, Or.inr ⟨_, rfl⟩⟩
theorem cl_X10_36 : Cond.classLink RX10 36 RX1 ∈ zm_tbl := (zm_tbl_in (List.mem_of_getElem? (i := 280) (by decide +kernel)) rfl)
theorem is_X1 : Cond.instantiable RX1 3 ∈ zm_tbl := (zm_tbl_in (List.mem_of_getElem? (i := 281) (by decide +kernel)) rfl)
theorem dv_X1 : ∀ j, j < 3 → defaultValue (tyX1 j) = zm_dv (zm_fk 1 j) := by decide
theorem im_X1_init : Cond.instanceMethod yX1_init ∈ zm_tbl := (zm_tbl_in (List.mem_of_getElem? (i := 283) (by decide +kernel)) rfl)
theorem cm_X1_init : Cond.code yX1_init cX1_init 1 none ∈ zm_tbl := (zm_tbl_in (List.mem_of_getElem? (i := 284) (by decide +kernel)) rfl)
theorem iN_X1_init {rm : Room} {b : Bool} {nm : String} : zm_In yX1_init (cX1_init, 1, RX1, rm, none, b, nm) := ⟨im_X1_init, in_X1, cm_X1_init, ⟨by decide +kernel, by decide +kernel, by decide +kernel⟩⟩
theorem ff_X10_39 : zm_Ff RX10 39 10 4 (.object "LentPictures$Past") := ⟨RX10, TX10, 17, tyX10, rfl, zm_itX10, by decide, rfl, (zm_tbl_in (List.mem_of_getElem? (i := 490) (by decide +kernel)) rfl), rfl, tyX10_ok, nmX10, rfl, rfl, by decide +kernel, Or.inr ⟨_, rfl⟩⟩
theorem zs_141 : (Int16.ofInt 141).toInt32 = (141 : Int32) := by decide
theorem ff_X10_43 : zm_Ff RX10 43 10 5 (.array .int) := ⟨RX10, TX10, 17, tyX10, rfl, zm_itX10, by decide, rfl, (zm_tbl_in (List.mem_of_getElem? (i := 491) (by decide +kernel)) rfl), rfl, tyX10_ok, nmX10, rfl, rfl, by decide +kernel, Or.inl ⟨_, rfl⟩⟩
theorem cl_X10_47 : Cond.classLink RX10 47 RX0 ∈ zm_tbl := (zm_tbl_in (List.mem_of_getElem? (i := 296) (by decide +kernel)) rfl)
theorem is_X0 : Cond.instantiable RX0 9 ∈ zm_tbl := (zm_tbl_in (List.mem_of_getElem? (i := 297) (by decide +kernel)) rfl)
theorem dv_X0 : ∀ j, j < 9 → defaultValue (tyX0 j) = zm_dv (zm_fk 0 j) := by decide
theorem im_X0_init : Cond.instanceMethod yX0_init ∈ zm_tbl := (zm_tbl_in (List.mem_of_getElem? (i := 299) (by decide +kernel)) rfl)
theorem cm_X0_init : Cond.code yX0_init cX0_init 1 none ∈ zm_tbl := (zm_tbl_in (List.mem_of_getElem? (i := 300) (by decide +kernel)) rfl)
theorem iN_X0_init {rm : Room} {b : Bool} {nm : String} : zm_In yX0_init (cX0_init, 1, RX0, rm, none, b, nm) := ⟨im_X0_init, in_X0, cm_X0_init, ⟨by decide +kernel, by decide +kernel, by decide +kernel⟩⟩
theorem ff_X10_50 : zm_Ff RX10 50 10 6 (.object "LentPictures$Crates") := ⟨RX10, TX10, 17, tyX10, rfl, zm_itX10, by decide, rfl, (zm_tbl_in (List.mem_of_getElem? (i := 492) (by decide +kernel)) rfl), rfl, tyX10_ok, nmX10, rfl, rfl, by decide +kernel, Or.inr ⟨_, rfl⟩⟩
theorem ff_X10_54 : zm_Ff RX10 54 10 8 (.array .int) := ⟨RX10, TX10, 17, tyX10, rfl, zm_itX10, by decide, rfl, (zm_tbl_in (List.mem_of_getElem? (i := 494) (by decide +kernel)) rfl), rfl, tyX10_ok, nmX10, rfl, rfl, by decide +kernel, Or.inl ⟨_, rfl⟩⟩
theorem cl_X10_57 : Cond.classLink RX10 57 RX8 ∈ zm_tbl := (zm_tbl_in (List.mem_of_getElem? (i := 330) (by decide +kernel)) rfl)
theorem is_X8 : Cond.instantiable RX8 19 ∈ zm_tbl := (zm_tbl_in (List.mem_of_getElem? (i := 331) (by decide +kernel)) rfl)
theorem dv_X8 : ∀ j, j < 19 → defaultValue (tyX8 j) = zm_dv (zm_fk 8 j) := by decide
theorem im_X8_init : Cond.instanceMethod yX8_init ∈ zm_tbl := (zm_tbl_in (List.mem_of_getElem? (i := 333) (by decide +kernel)) rfl)
theorem cm_X8_init : Cond.code yX8_init cX8_init 1 none ∈ zm_tbl := (zm_tbl_in (List.mem_of_getElem? (i := 334) (by decide +kernel)) rfl)
theorem il_X10_59 {rm : Room} {b : Bool} {nm : String} : zm_Il RX10 59 yX8_init (cX8_init, 1, RX8, rm, none, b, nm) 0 := ⟨(zm_tbl_in (List.mem_of_getElem? (i := 332) (by decide +kernel)) rfl), im_X8_init, in_X8, cm_X8_init, ⟨by decide +kernel, by decide +kernel, by decide +kernel⟩⟩
theorem cl_X10_71 : Cond.classLink RX10 71 RX3 ∈ zm_tbl := (zm_tbl_in (List.mem_of_getElem? (i := 455) (by decide +kernel)) rfl)
theorem is_X3 : Cond.instantiable RX3 3 ∈ zm_tbl := (zm_tbl_in (List.mem_of_getElem? (i := 456) (by decide +kernel)) rfl)
theorem dv_X3 : ∀ j, j < 3 → defaultValue (tyX3 j) = zm_dv (zm_fk 3 j) := by decide
theorem im_X3_init : Cond.instanceMethod yX3_init ∈ zm_tbl := (zm_tbl_in (List.mem_of_getElem? (i := 458) (by decide +kernel)) rfl)
theorem cm_X3_init : Cond.code yX3_init cX3_init 2 none ∈ zm_tbl := (zm_tbl_in (List.mem_of_getElem? (i := 459) (by decide +kernel)) rfl)
theorem il_X10_73 {rm : Room} {b : Bool} {nm : String} : zm_Il RX10 73 yX3_init (cX3_init, 2, RX3, rm, none, b, nm) 1 := ⟨(zm_tbl_in (List.mem_of_getElem? (i := 457) (by decide +kernel)) rfl), im_X3_init, in_X3, cm_X3_init, ⟨by decide +kernel, by decide +kernel, by decide +kernel⟩⟩
theorem ff_X10_76 : zm_Ff RX10 76 10 7 (.object "LentPictures$Scene") := ⟨RX10, TX10, 17, tyX10, rfl, zm_itX10, by decide, rfl, (zm_tbl_in (List.mem_of_getElem? (i := 493) (by decide +kernel)) rfl), rfl, tyX10_ok, nmX10, rfl, rfl, by decide +kernel, Or.inr ⟨_, rfl⟩⟩
theorem oi_X11_7 : Cond.methodLink RX11 7 objectInit ∈ zm_tbl := (zm_tbl_in (List.mem_of_getElem? (i := 1314) (by decide +kernel)) rfl)
theorem ff_X11_13 : zm_Ff RX11 13 11 1 (.array .byte) := ⟨RX11, TX11, 71, tyX11, rfl, zm_itX11, by decide, rfl, (zm_tbl_in (List.mem_of_getElem? (i := 1334) (by decide +kernel)) rfl), rfl, tyX11_ok, nmX11, rfl, rfl, by decide +kernel, Or.inl ⟨_, rfl⟩⟩
theorem ff_X11_17 : zm_Ff RX11 17 11 3 (.array .byte) := ⟨RX11, TX11, 71, tyX11, rfl, zm_itX11, by decide, rfl, (zm_tbl_in (List.mem_of_getElem? (i := 1336) (by decide +kernel)) rfl), rfl, tyX11_ok, nmX11, rfl, rfl, by decide +kernel, Or.inl ⟨_, rfl⟩⟩
theorem zs_403 : (Int16.ofInt 403).toInt32 = (403 : Int32) := by decide
theorem ff_X11_20 : zm_Ff RX11 20 11 5 (.array .int) := ⟨RX11, TX11, 71, tyX11, rfl, zm_itX11, by decide, rfl, (zm_tbl_in (List.mem_of_getElem? (i := 1338) (by decide +kernel)) rfl), rfl, tyX11_ok, nmX11, rfl, rfl, by decide +kernel, Or.inl ⟨_, rfl⟩⟩
theorem ff_X11_24 : zm_Ff RX11 24 11 6 (.array .int) := ⟨RX11, TX11, 71, tyX11, rfl, zm_itX11, by decide, rfl, (zm_tbl_in (List.mem_of_getElem? (i := 1339) (by decide +kernel)) rfl), rfl, tyX11_ok, nmX11, rfl, rfl, by decide +kernel, Or.inl ⟨_, rfl⟩⟩
theorem ff_X11_27 : zm_Ff RX11 27 11 7 (.array .int) := ⟨RX11, TX11, 71, tyX11, rfl, zm_itX11, by decide, rfl, (zm_tbl_in (List.mem_of_getElem? (i := 1340) (by decide +kernel)) rfl), rfl, tyX11_ok, nmX11, rfl, rfl, by decide +kernel, Or.inl ⟨_, rfl⟩⟩
theorem ff_X11_30 : zm_Ff RX11 30 11 8 (.array .long) := ⟨RX11, TX11, 71, tyX11, rfl, zm_itX11, by decide, rfl, (zm_tbl_in (List.mem_of_getElem? (i := 1341) (by decide +kernel)) rfl), rfl, tyX11_ok, nmX11, rfl, rfl, by decide +kernel, Or.inl ⟨_, rfl⟩⟩
theorem ff_X11_34 : zm_Ff RX11 34 11 9 (.array .long) := ⟨RX11, TX11, 71, tyX11, rfl, zm_itX11, by decide, rfl, (zm_tbl_in (List.mem_of_getElem? (i := 1342) (by decide +kernel)) rfl), rfl, tyX11_ok, nmX11, rfl, rfl, by decide +kernel, Or.inl ⟨_, rfl⟩⟩
theorem zb_11 : (Int8.ofInt 11).toInt32 = (11 : Int32) := by decide
theorem ff_X11_40 : zm_Ff RX11 40 11 21 (.array .long) := ⟨RX11, TX11, 71, tyX11, rfl, zm_itX11, by decide, rfl, (zm_tbl_in (List.mem_of_getElem? (i := 1354) (by decide +kernel)) rfl), rfl, tyX11_ok, nmX11, rfl, rfl, by decide +kernel, Or.inl ⟨_, rfl⟩⟩
theorem ff_X11_43 : zm_Ff RX11 43 11 22 (.array .int) := ⟨RX11, TX11, 71, tyX11, rfl, zm_itX11, by decide, rfl, (zm_tbl_in (List.mem_of_getElem? (i := 1355) (by decide +kernel)) rfl), rfl, tyX11_ok, nmX11, rfl, rfl, by decide +kernel, Or.inl ⟨_, rfl⟩⟩
theorem ff_X11_46 : zm_Ff RX11 46 11 23 (.array .int) := ⟨RX11, TX11, 71, tyX11, rfl, zm_itX11, by decide, rfl, (zm_tbl_in (List.mem_of_getElem? (i := 1356) (by decide +kernel)) rfl), rfl, tyX11_ok, nmX11, rfl, rfl, by decide +kernel, Or.inl ⟨_, rfl⟩⟩
theorem ff_X11_49 : zm_Ff RX11 49 11 24 (.array .int) := ⟨RX11, TX11, 71, tyX11, rfl, zm_itX11, by decide, rfl, (zm_tbl_in (List.mem_of_getElem? (i := 1357) (by decide +kernel)) rfl), rfl, tyX11_ok, nmX11, rfl, rfl, by decide +kernel, Or.inl ⟨_, rfl⟩⟩
theorem ff_X11_52 : zm_Ff RX11 52 11 25 (.array .int) := ⟨RX11, TX11, 71, tyX11, rfl, zm_itX11, by decide, rfl, (zm_tbl_in (List.mem_of_getElem? (i := 1358) (by decide +kernel)) rfl), rfl, tyX11_ok, nmX11, rfl, rfl, by decide +kernel, Or.inl ⟨_, rfl⟩⟩
theorem ff_X11_55 : zm_Ff RX11 55 11 26 (.array .int) := ⟨RX11, TX11, 71, tyX11, rfl, zm_itX11, by decide, rfl, (zm_tbl_in (List.mem_of_getElem? (i := 1359) (by decide +kernel)) rfl), rfl, tyX11_ok, nmX11, rfl, rfl, by decide +kernel, Or.inl ⟨_, rfl⟩⟩
theorem ff_X11_58 : zm_Ff RX11 58 11 27 (.array .int) := ⟨RX11, TX11, 71, tyX11, rfl, zm_itX11, by decide, rfl, (zm_tbl_in (List.mem_of_getElem? (i := 1360) (by decide +kernel)) rfl), rfl, tyX11_ok, nmX11, rfl, rfl, by decide +kernel, Or.inl ⟨_, rfl⟩⟩
theorem ff_X11_61 : zm_Ff RX11 61 11 28 (.array .int) := ⟨RX11, TX11, 71, tyX11, rfl, zm_itX11, by decide, rfl, (zm_tbl_in (List.mem_of_getElem? (i := 1361) (by decide +kernel)) rfl), rfl, tyX11_ok, nmX11, rfl, rfl, by decide +kernel, Or.inl ⟨_, rfl⟩⟩
theorem ff_X11_64 : zm_Ff RX11 64 11 29 (.array .int) := ⟨RX11, TX11, 71, tyX11, rfl, zm_itX11, by decide, rfl, (zm_tbl_in (List.mem_of_getElem? (i := 1362) (by decide +kernel)) rfl), rfl, tyX11_ok, nmX11, rfl, rfl, by decide +kernel, Or.inl ⟨_, rfl⟩⟩
theorem ff_X11_67 : zm_Ff RX11 67 11 30 (.array .int) := ⟨RX11, TX11, 71, tyX11, rfl, zm_itX11, by decide, rfl, (zm_tbl_in (List.mem_of_getElem? (i := 1363) (by decide +kernel)) rfl), rfl, tyX11_ok, nmX11, rfl, rfl, by decide +kernel, Or.inl ⟨_, rfl⟩⟩
theorem ff_X11_70 : zm_Ff RX11 70 11 31 (.array .int) := ⟨RX11, TX11, 71, tyX11, rfl, zm_itX11, by decide, rfl, (zm_tbl_in (List.mem_of_getElem? (i := 1364) (by decide +kernel)) rfl), rfl, tyX11_ok, nmX11, rfl, rfl, by decide +kernel, Or.inl ⟨_, rfl⟩⟩
theorem ff_X11_73 : zm_Ff RX11 73 11 32 (.array .int) := ⟨RX11, TX11, 71, tyX11, rfl, zm_itX11, by decide, rfl, (zm_tbl_in (List.mem_of_getElem? (i := 1365) (by decide +kernel)) rfl), rfl, tyX11_ok, nmX11, rfl, rfl, by decide +kernel, Or.inl ⟨_, rfl⟩⟩
theorem ff_X11_76 : zm_Ff RX11 76 11 33 (.array .int) := ⟨RX11, TX11, 71, tyX11, rfl, zm_itX11, by decide, rfl, (zm_tbl_in (List.mem_of_getElem? (i := 1366) (by decide +kernel)) rfl), rfl, tyX11_ok, nmX11, rfl, rfl, by decide +kernel, Or.inl ⟨_, rfl⟩⟩
theorem ff_X11_79 : zm_Ff RX11 79 11 34 (.array .int) := ⟨RX11, TX11, 71, tyX11, rfl, zm_itX11, by decide, rfl, (zm_tbl_in (List.mem_of_getElem? (i := 1367) (by decide +kernel)) rfl), rfl, tyX11_ok, nmX11, rfl, rfl, by decide +kernel, Or.inl ⟨_, rfl⟩⟩
theorem ff_X11_82 : zm_Ff RX11 82 11 35 (.array .int) := ⟨RX11, TX11, 71, tyX11, rfl, zm_itX11, by decide, rfl, (zm_tbl_in (List.mem_of_getElem? (i := 1368) (by decide +kernel)) rfl), rfl, tyX11_ok, nmX11, rfl, rfl, by decide +kernel, Or.inl ⟨_, rfl⟩⟩
theorem ff_X11_85 : zm_Ff RX11 85 11 36 (.array .int) := ⟨RX11, TX11, 71, tyX11, rfl, zm_itX11, by decide, rfl, (zm_tbl_in (List.mem_of_getElem? (i := 1369) (by decide +kernel)) rfl), rfl, tyX11_ok, nmX11, rfl, rfl, by decide +kernel, Or.inl ⟨_, rfl⟩⟩
theorem ff_X11_88 : zm_Ff RX11 88 11 37 (.array .int) := ⟨RX11, TX11, 71, tyX11, rfl, zm_itX11, by decide, rfl, (zm_tbl_in (List.mem_of_getElem? (i := 1370) (by decide +kernel)) rfl), rfl, tyX11_ok, nmX11, rfl, rfl, by decide +kernel, Or.inl ⟨_, rfl⟩⟩
theorem ff_X11_91 : zm_Ff RX11 91 11 38 (.array .int) := ⟨RX11, TX11, 71, tyX11, rfl, zm_itX11, by decide, rfl, (zm_tbl_in (List.mem_of_getElem? (i := 1371) (by decide +kernel)) rfl), rfl, tyX11_ok, nmX11, rfl, rfl, by decide +kernel, Or.inl ⟨_, rfl⟩⟩
theorem ff_X11_94 : zm_Ff RX11 94 11 39 (.array .int) := ⟨RX11, TX11, 71, tyX11, rfl, zm_itX11, by decide, rfl, (zm_tbl_in (List.mem_of_getElem? (i := 1372) (by decide +kernel)) rfl), rfl, tyX11_ok, nmX11, rfl, rfl, by decide +kernel, Or.inl ⟨_, rfl⟩⟩
theorem ff_X11_97 : zm_Ff RX11 97 11 40 (.array .int) := ⟨RX11, TX11, 71, tyX11, rfl, zm_itX11, by decide, rfl, (zm_tbl_in (List.mem_of_getElem? (i := 1373) (by decide +kernel)) rfl), rfl, tyX11_ok, nmX11, rfl, rfl, by decide +kernel, Or.inl ⟨_, rfl⟩⟩
theorem ff_X11_100 : zm_Ff RX11 100 11 41 (.array .int) := ⟨RX11, TX11, 71, tyX11, rfl, zm_itX11, by decide, rfl, (zm_tbl_in (List.mem_of_getElem? (i := 1374) (by decide +kernel)) rfl), rfl, tyX11_ok, nmX11, rfl, rfl, by decide +kernel, Or.inl ⟨_, rfl⟩⟩
theorem zs_260 : (Int16.ofInt 260).toInt32 = (260 : Int32) := by decide
theorem akboolean : Cond.arrayClass .boolean ∈ zm_tbl := (zm_tbl_in (List.mem_of_getElem? (i := 1547) (by decide +kernel)) rfl)
theorem ff_X11_103 : zm_Ff RX11 103 11 43 (.array .boolean) := ⟨RX11, TX11, 71, tyX11, rfl, zm_itX11, by decide, rfl, (zm_tbl_in (List.mem_of_getElem? (i := 1376) (by decide +kernel)) rfl), rfl, tyX11_ok, nmX11, rfl, rfl, by decide +kernel, Or.inl ⟨_, rfl⟩⟩
theorem ff_X11_107 : zm_Ff RX11 107 11 44 (.array .int) := ⟨RX11, TX11, 71, tyX11, rfl, zm_itX11, by decide, rfl, (zm_tbl_in (List.mem_of_getElem? (i := 1377) (by decide +kernel)) rfl), rfl, tyX11_ok, nmX11, rfl, rfl, by decide +kernel, Or.inl ⟨_, rfl⟩⟩
theorem ff_X11_110 : zm_Ff RX11 110 11 45 (.array .int) := ⟨RX11, TX11, 71, tyX11, rfl, zm_itX11, by decide, rfl, (zm_tbl_in (List.mem_of_getElem? (i := 1378) (by decide +kernel)) rfl), rfl, tyX11_ok, nmX11, rfl, rfl, by decide +kernel, Or.inl ⟨_, rfl⟩⟩
theorem ff_X11_113 : zm_Ff RX11 113 11 46 (.array .int) := ⟨RX11, TX11, 71, tyX11, rfl, zm_itX11, by decide, rfl, (zm_tbl_in (List.mem_of_getElem? (i := 1379) (by decide +kernel)) rfl), rfl, tyX11_ok, nmX11, rfl, rfl, by decide +kernel, Or.inl ⟨_, rfl⟩⟩
theorem ff_X11_116 : zm_Ff RX11 116 11 47 (.array .int) := ⟨RX11, TX11, 71, tyX11, rfl, zm_itX11, by decide, rfl, (zm_tbl_in (List.mem_of_getElem? (i := 1380) (by decide +kernel)) rfl), rfl, tyX11_ok, nmX11, rfl, rfl, by decide +kernel, Or.inl ⟨_, rfl⟩⟩
theorem zs_840 : (Int16.ofInt 840).toInt32 = (840 : Int32) := by decide
theorem ff_X11_119 : zm_Ff RX11 119 11 49 (.array .int) := ⟨RX11, TX11, 71, tyX11, rfl, zm_itX11, by decide, rfl, (zm_tbl_in (List.mem_of_getElem? (i := 1382) (by decide +kernel)) rfl), rfl, tyX11_ok, nmX11, rfl, rfl, by decide +kernel, Or.inl ⟨_, rfl⟩⟩
theorem ff_X11_122 : zm_Ff RX11 122 11 50 (.array .int) := ⟨RX11, TX11, 71, tyX11, rfl, zm_itX11, by decide, rfl, (zm_tbl_in (List.mem_of_getElem? (i := 1383) (by decide +kernel)) rfl), rfl, tyX11_ok, nmX11, rfl, rfl, by decide +kernel, Or.inl ⟨_, rfl⟩⟩
theorem ff_X11_125 : zm_Ff RX11 125 11 51 (.array .int) := ⟨RX11, TX11, 71, tyX11, rfl, zm_itX11, by decide, rfl, (zm_tbl_in (List.mem_of_getElem? (i := 1384) (by decide +kernel)) rfl), rfl, tyX11_ok, nmX11, rfl, rfl, by decide +kernel, Or.inl ⟨_, rfl⟩⟩
theorem ff_X11_128 : zm_Ff RX11 128 11 53 (.array .int) := ⟨RX11, TX11, 71, tyX11, rfl, zm_itX11, by decide, rfl, (zm_tbl_in (List.mem_of_getElem? (i := 1386) (by decide +kernel)) rfl), rfl, tyX11_ok, nmX11, rfl, rfl, by decide +kernel, Or.inl ⟨_, rfl⟩⟩
theorem ff_X11_131 : zm_Ff RX11 131 11 54 (.array .int) := ⟨RX11, TX11, 71, tyX11, rfl, zm_itX11, by decide, rfl, (zm_tbl_in (List.mem_of_getElem? (i := 1387) (by decide +kernel)) rfl), rfl, tyX11_ok, nmX11, rfl, rfl, by decide +kernel, Or.inl ⟨_, rfl⟩⟩
theorem ff_X11_134 : zm_Ff RX11 134 11 56 (.array .int) := ⟨RX11, TX11, 71, tyX11, rfl, zm_itX11, by decide, rfl, (zm_tbl_in (List.mem_of_getElem? (i := 1389) (by decide +kernel)) rfl), rfl, tyX11_ok, nmX11, rfl, rfl, by decide +kernel, Or.inl ⟨_, rfl⟩⟩
theorem ff_X11_137 : zm_Ff RX11 137 11 57 (.array .int) := ⟨RX11, TX11, 71, tyX11, rfl, zm_itX11, by decide, rfl, (zm_tbl_in (List.mem_of_getElem? (i := 1390) (by decide +kernel)) rfl), rfl, tyX11_ok, nmX11, rfl, rfl, by decide +kernel, Or.inl ⟨_, rfl⟩⟩
theorem zs_2400 : (Int16.ofInt 2400).toInt32 = (2400 : Int32) := by decide
theorem ff_X11_140 : zm_Ff RX11 140 11 60 (.array .int) := ⟨RX11, TX11, 71, tyX11, rfl, zm_itX11, by decide, rfl, (zm_tbl_in (List.mem_of_getElem? (i := 1393) (by decide +kernel)) rfl), rfl, tyX11_ok, nmX11, rfl, rfl, by decide +kernel, Or.inl ⟨_, rfl⟩⟩
theorem ff_X11_143 : zm_Ff RX11 143 11 61 (.array .boolean) := ⟨RX11, TX11, 71, tyX11, rfl, zm_itX11, by decide, rfl, (zm_tbl_in (List.mem_of_getElem? (i := 1394) (by decide +kernel)) rfl), rfl, tyX11_ok, nmX11, rfl, rfl, by decide +kernel, Or.inl ⟨_, rfl⟩⟩
theorem zs_15625 : (Int16.ofInt 15625).toInt32 = (15625 : Int32) := by decide
theorem ff_X11_146 : zm_Ff RX11 146 11 62 (.array .int) := ⟨RX11, TX11, 71, tyX11, rfl, zm_itX11, by decide, rfl, (zm_tbl_in (List.mem_of_getElem? (i := 1395) (by decide +kernel)) rfl), rfl, tyX11_ok, nmX11, rfl, rfl, by decide +kernel, Or.inl ⟨_, rfl⟩⟩
theorem zs_160 : (Int16.ofInt 160).toInt32 = (160 : Int32) := by decide
theorem ff_X11_149 : zm_Ff RX11 149 11 63 (.array .int) := ⟨RX11, TX11, 71, tyX11, rfl, zm_itX11, by decide, rfl, (zm_tbl_in (List.mem_of_getElem? (i := 1396) (by decide +kernel)) rfl), rfl, tyX11_ok, nmX11, rfl, rfl, by decide +kernel, Or.inl ⟨_, rfl⟩⟩
theorem ff_X11_152 : zm_Ff RX11 152 11 64 (.array .int) := ⟨RX11, TX11, 71, tyX11, rfl, zm_itX11, by decide, rfl, (zm_tbl_in (List.mem_of_getElem? (i := 1397) (by decide +kernel)) rfl), rfl, tyX11_ok, nmX11, rfl, rfl, by decide +kernel, Or.inl ⟨_, rfl⟩⟩
theorem ff_X11_155 : zm_Ff RX11 155 11 66 (.array .int) := ⟨RX11, TX11, 71, tyX11, rfl, zm_itX11, by decide, rfl, (zm_tbl_in (List.mem_of_getElem? (i := 1399) (by decide +kernel)) rfl), rfl, tyX11_ok, nmX11, rfl, rfl, by decide +kernel, Or.inl ⟨_, rfl⟩⟩
theorem ff_X11_158 : zm_Ff RX11 158 11 67 (.array .int) := ⟨RX11, TX11, 71, tyX11, rfl, zm_itX11, by decide, rfl, (zm_tbl_in (List.mem_of_getElem? (i := 1400) (by decide +kernel)) rfl), rfl, tyX11_ok, nmX11, rfl, rfl, by decide +kernel, Or.inl ⟨_, rfl⟩⟩
theorem ff_X11_161 : zm_Ff RX11 161 11 68 (.array .int) := ⟨RX11, TX11, 71, tyX11, rfl, zm_itX11, by decide, rfl, (zm_tbl_in (List.mem_of_getElem? (i := 1401) (by decide +kernel)) rfl), rfl, tyX11_ok, nmX11, rfl, rfl, by decide +kernel, Or.inl ⟨_, rfl⟩⟩
theorem ff_X11_164 : zm_Ff RX11 164 11 69 (.array .boolean) := ⟨RX11, TX11, 71, tyX11, rfl, zm_itX11, by decide, rfl, (zm_tbl_in (List.mem_of_getElem? (i := 1402) (by decide +kernel)) rfl), rfl, tyX11_ok, nmX11, rfl, rfl, by decide +kernel, Or.inl ⟨_, rfl⟩⟩
theorem zs_180 : (Int16.ofInt 180).toInt32 = (180 : Int32) := by decide
theorem ff_X11_167 : zm_Ff RX11 167 11 70 (.array .int) := ⟨RX11, TX11, 71, tyX11, rfl, zm_itX11, by decide, rfl, (zm_tbl_in (List.mem_of_getElem? (i := 1403) (by decide +kernel)) rfl), rfl, tyX11_ok, nmX11, rfl, rfl, by decide +kernel, Or.inl ⟨_, rfl⟩⟩
theorem zb_104 : (Int8.ofInt 104).toInt32 = (104 : Int32) := by decide
theorem zb_111 : (Int8.ofInt 111).toInt32 = (111 : Int32) := by decide
theorem zb_117 : (Int8.ofInt 117).toInt32 = (117 : Int32) := by decide
theorem zb_115 : (Int8.ofInt 115).toInt32 = (115 : Int32) := by decide
theorem zb_101 : (Int8.ofInt 101).toInt32 = (101 : Int32) := by decide
theorem cm_X11_word : Cond.code yX11_word cX11_word 7 (some .long) ∈ zm_tbl := (zm_tbl_in (List.mem_of_getElem? (i := 1321) (by decide +kernel)) rfl)
theorem ml_X11_174 {rm : Room} {b : Bool} {nm : String} : zm_Sl RX11 174 yX11_word (cX11_word, 7, RX11, rm, (some .long), b, nm) 7 := ⟨(zm_tbl_in (List.mem_of_getElem? (i := 1319) (by decide +kernel)) rfl), (zm_tbl_in (List.mem_of_getElem? (i := 1320) (by decide +kernel)) rfl), in_X11, cm_X11_word, ⟨by decide +kernel, by decide +kernel, by decide +kernel⟩⟩
theorem zb_119 : (Int8.ofInt 119).toInt32 = (119 : Int32) := by decide
theorem zb_114 : (Int8.ofInt 114).toInt32 = (114 : Int32) := by decide
theorem zb_107 : (Int8.ofInt 107).toInt32 = (107 : Int32) := by decide
theorem zb_116 : (Int8.ofInt 116).toInt32 = (116 : Int32) := by decide
theorem zb_109 : (Int8.ofInt 109).toInt32 = (109 : Int32) := by decide
theorem zb_105 : (Int8.ofInt 105).toInt32 = (105 : Int32) := by decide
theorem zb_112 : (Int8.ofInt 112).toInt32 = (112 : Int32) := by decide
theorem zb_108 : (Int8.ofInt 108).toInt32 = (108 : Int32) := by decide
theorem zb_102 : (Int8.ofInt 102).toInt32 = (102 : Int32) := by decide
theorem zb_110 : (Int8.ofInt 110).toInt32 = (110 : Int32) := by decide
theorem zb_118 : (Int8.ofInt 118).toInt32 = (118 : Int32) := by decide
theorem zb_121 : (Int8.ofInt 121).toInt32 = (121 : Int32) := by decide
theorem zb_17 : (Int8.ofInt 17).toInt32 = (17 : Int32) := by decide
theorem zb_19 : (Int8.ofInt 19).toInt32 = (19 : Int32) := by decide
theorem oi_X6_3 : Cond.methodLink RX6 3 objectInit ∈ zm_tbl := (zm_tbl_in (List.mem_of_getElem? (i := 979) (by decide +kernel)) rfl)
theorem ff_X6_11 : zm_Ff RX6 11 6 1 (.array .long) := ⟨RX6, TX6, 15, tyX6, rfl, zm_itX6, by decide, rfl, (zm_tbl_in (List.mem_of_getElem? (i := 981) (by decide +kernel)) rfl), rfl, tyX6_ok, nmX6, rfl, rfl, by decide +kernel, Or.inl ⟨_, rfl⟩⟩
theorem ff_X6_15 : zm_Ff RX6 15 6 2 (.array .long) := ⟨RX6, TX6, 15, tyX6, rfl, zm_itX6, by decide, rfl, (zm_tbl_in (List.mem_of_getElem? (i := 982) (by decide +kernel)) rfl), rfl, tyX6_ok, nmX6, rfl, rfl, by decide +kernel, Or.inl ⟨_, rfl⟩⟩
theorem zs_1080 : (Int16.ofInt 1080).toInt32 = (1080 : Int32) := by decide
theorem ff_X6_18 : zm_Ff RX6 18 6 3 (.array .int) := ⟨RX6, TX6, 15, tyX6, rfl, zm_itX6, by decide, rfl, (zm_tbl_in (List.mem_of_getElem? (i := 983) (by decide +kernel)) rfl), rfl, tyX6_ok, nmX6, rfl, rfl, by decide +kernel, Or.inl ⟨_, rfl⟩⟩
theorem ff_X6_22 : zm_Ff RX6 22 6 4 (.array .int) := ⟨RX6, TX6, 15, tyX6, rfl, zm_itX6, by decide, rfl, (zm_tbl_in (List.mem_of_getElem? (i := 984) (by decide +kernel)) rfl), rfl, tyX6_ok, nmX6, rfl, rfl, by decide +kernel, Or.inl ⟨_, rfl⟩⟩
theorem ff_X6_25 : zm_Ff RX6 25 6 5 (.array .int) := ⟨RX6, TX6, 15, tyX6, rfl, zm_itX6, by decide, rfl, (zm_tbl_in (List.mem_of_getElem? (i := 985) (by decide +kernel)) rfl), rfl, tyX6_ok, nmX6, rfl, rfl, by decide +kernel, Or.inl ⟨_, rfl⟩⟩
theorem ff_X6_28 : zm_Ff RX6 28 6 6 (.array .int) := ⟨RX6, TX6, 15, tyX6, rfl, zm_itX6, by decide, rfl, (zm_tbl_in (List.mem_of_getElem? (i := 986) (by decide +kernel)) rfl), rfl, tyX6_ok, nmX6, rfl, rfl, by decide +kernel, Or.inl ⟨_, rfl⟩⟩
theorem zb_50 : (Int8.ofInt 50).toInt32 = (50 : Int32) := by decide
theorem ff_X6_31 : zm_Ff RX6 31 6 7 (.array .int) := ⟨RX6, TX6, 15, tyX6, rfl, zm_itX6, by decide, rfl, (zm_tbl_in (List.mem_of_getElem? (i := 987) (by decide +kernel)) rfl), rfl, tyX6_ok, nmX6, rfl, rfl, by decide +kernel, Or.inl ⟨_, rfl⟩⟩
theorem ff_X6_34 : zm_Ff RX6 34 6 8 (.array .int) := ⟨RX6, TX6, 15, tyX6, rfl, zm_itX6, by decide, rfl, (zm_tbl_in (List.mem_of_getElem? (i := 988) (by decide +kernel)) rfl), rfl, tyX6_ok, nmX6, rfl, rfl, by decide +kernel, Or.inl ⟨_, rfl⟩⟩
theorem ff_X6_37 : zm_Ff RX6 37 6 0 (.object "LentPictures$Scene") := ⟨RX6, TX6, 15, tyX6, rfl, zm_itX6, by decide, rfl, (zm_tbl_in (List.mem_of_getElem? (i := 980) (by decide +kernel)) rfl), rfl, tyX6_ok, nmX6, rfl, rfl, by decide +kernel, Or.inr ⟨_, rfl⟩⟩
theorem oi_X9_3 : Cond.methodLink RX9 3 objectInit ∈ zm_tbl := (zm_tbl_in (List.mem_of_getElem? (i := 1031) (by decide +kernel)) rfl)
theorem ff_X9_11 : zm_Ff RX9 11 9 0 (.array .long) := ⟨RX9, TX9, 3, tyX9, rfl, zm_itX9, by decide, rfl, (zm_tbl_in (List.mem_of_getElem? (i := 1032) (by decide +kernel)) rfl), rfl, tyX9_ok, nmX9, rfl, rfl, by decide +kernel, Or.inl ⟨_, rfl⟩⟩
theorem ff_X9_17 : zm_Ff RX9 17 9 1 (.array .long) := ⟨RX9, TX9, 3, tyX9, rfl, zm_itX9, by decide, rfl, (zm_tbl_in (List.mem_of_getElem? (i := 1033) (by decide +kernel)) rfl), rfl, tyX9_ok, nmX9, rfl, rfl, by decide +kernel, Or.inl ⟨_, rfl⟩⟩
theorem ff_X9_20 : zm_Ff RX9 20 9 2 (.array .long) := ⟨RX9, TX9, 3, tyX9, rfl, zm_itX9, by decide, rfl, (zm_tbl_in (List.mem_of_getElem? (i := 1034) (by decide +kernel)) rfl), rfl, tyX9_ok, nmX9, rfl, rfl, by decide +kernel, Or.inl ⟨_, rfl⟩⟩
theorem fl_X10_199 : zm_Fl RX10 199 10 13 0 := ⟨RX10, TX10, 17, rfl, zm_itX10, by decide, rfl, (zm_tbl_in (List.mem_of_getElem? (i := 499) (by decide +kernel)) rfl), rfl⟩
theorem cm_X6_make : Cond.code yX6_make cX6_make 5 none ∈ zm_tbl := (zm_tbl_in (List.mem_of_getElem? (i := 1045) (by decide +kernel)) rfl)
theorem se_X6_make : Cond.selects RX6 yX6_make yX6_make ∈ zm_tbl := (zm_tbl_in (List.mem_of_getElem? (i := 1044) (by decide +kernel)) rfl)
theorem ml_X10_339 {rm : Room} {b : Bool} {nm : String} : zm_Ml RX10 339 yX6_make (cX6_make, 5, RX6, rm, none, b, nm) 2 := ⟨(zm_tbl_in (List.mem_of_getElem? (i := 1042) (by decide +kernel)) rfl), (zm_tbl_in (List.mem_of_getElem? (i := 1043) (by decide +kernel)) rfl), se_X6_make, in_X6, cm_X6_make, ⟨by decide +kernel, by decide +kernel, by decide +kernel⟩⟩
theorem cl_X10_218 : Cond.classLink RX10 218 RX6 ∈ zm_tbl := (zm_tbl_in (List.mem_of_getElem? (i := 974) (by decide +kernel)) rfl)
theorem is_X6 : Cond.instantiable RX6 15 ∈ zm_tbl := (zm_tbl_in (List.mem_of_getElem? (i := 975) (by decide +kernel)) rfl)
theorem dv_X6 : ∀ j, j < 15 → defaultValue (tyX6 j) = zm_dv (zm_fk 6 j) := by decide
theorem im_X6_init : Cond.instanceMethod yX6_init ∈ zm_tbl := (zm_tbl_in (List.mem_of_getElem? (i := 977) (by decide +kernel)) rfl)
theorem cm_X6_init : Cond.code yX6_init cX6_init 2 none ∈ zm_tbl := (zm_tbl_in (List.mem_of_getElem? (i := 978) (by decide +kernel)) rfl)
theorem il_X10_335 {rm : Room} {b : Bool} {nm : String} : zm_Il RX10 335 yX6_init (cX6_init, 2, RX6, rm, none, b, nm) 1 := ⟨(zm_tbl_in (List.mem_of_getElem? (i := 976) (by decide +kernel)) rfl), im_X6_init, in_X6, cm_X6_init, ⟨by decide +kernel, by decide +kernel, by decide +kernel⟩⟩
theorem fp_X10_213 : zm_Fp RX10 213 10 11 2 (.object "LentPictures$Survey") := ⟨RX10, TX10, 17, tyX10, rfl, zm_itX10, by decide, rfl, (zm_tbl_in (List.mem_of_getElem? (i := 497) (by decide +kernel)) rfl), rfl, tyX10_ok, nmX10, rfl, by decide +kernel⟩
theorem cl_X10_254 : Cond.classLink RX10 254 RX9 ∈ zm_tbl := (zm_tbl_in (List.mem_of_getElem? (i := 1026) (by decide +kernel)) rfl)
theorem is_X9 : Cond.instantiable RX9 3 ∈ zm_tbl := (zm_tbl_in (List.mem_of_getElem? (i := 1027) (by decide +kernel)) rfl)
theorem dv_X9 : ∀ j, j < 3 → defaultValue (tyX9 j) = zm_dv (zm_fk 9 j) := by decide
theorem im_X9_init : Cond.instanceMethod yX9_init ∈ zm_tbl := (zm_tbl_in (List.mem_of_getElem? (i := 1029) (by decide +kernel)) rfl)
theorem cm_X9_init : Cond.code yX9_init cX9_init 1 none ∈ zm_tbl := (zm_tbl_in (List.mem_of_getElem? (i := 1030) (by decide +kernel)) rfl)
theorem iN_X9_init {rm : Room} {b : Bool} {nm : String} : zm_In yX9_init (cX9_init, 1, RX9, rm, none, b, nm) := ⟨im_X9_init, in_X9, cm_X9_init, ⟨by decide +kernel, by decide +kernel, by decide +kernel⟩⟩
theorem fp_X10_242 : zm_Fp RX10 242 10 12 2 (.object "LentPictures$Ways") := ⟨RX10, TX10, 17, tyX10, rfl, zm_itX10, by decide, rfl, (zm_tbl_in (List.mem_of_getElem? (i := 498) (by decide +kernel)) rfl), rfl, tyX10_ok, nmX10, rfl, by decide +kernel⟩
theorem fl_X10_242 : zm_Fl RX10 242 10 12 2 := ⟨RX10, TX10, 17, rfl, zm_itX10, by decide, rfl, (zm_tbl_in (List.mem_of_getElem? (i := 498) (by decide +kernel)) rfl), rfl⟩
theorem cm_X10_makeSurvey : Cond.code yX10_makeSurvey cX10_makeSurvey 1 none ∈ zm_tbl := (zm_tbl_in (List.mem_of_getElem? (i := 973) (by decide +kernel)) rfl)
theorem se_X10_makeSurvey : Cond.selects RX10 yX10_makeSurvey yX10_makeSurvey ∈ zm_tbl := (zm_tbl_in (List.mem_of_getElem? (i := 36) (by decide +kernel)) rfl)
theorem ml_X10_210 {rm : Room} {b : Bool} {nm : String} : zm_Ml RX10 210 yX10_makeSurvey (cX10_makeSurvey, 1, RX10, rm, none, b, nm) 0 := ⟨(zm_tbl_in (List.mem_of_getElem? (i := 970) (by decide +kernel)) rfl), (zm_tbl_in (List.mem_of_getElem? (i := 972) (by decide +kernel)) rfl), se_X10_makeSurvey, in_X10, cm_X10_makeSurvey, ⟨by decide +kernel, by decide +kernel, by decide +kernel⟩⟩
theorem cm_X6_rowsKept : Cond.code yX6_rowsKept cX6_rowsKept 1 (some .int) ∈ zm_tbl := (zm_tbl_in (List.mem_of_getElem? (i := 1082) (by decide +kernel)) rfl)
theorem se_X6_rowsKept : Cond.selects RX6 yX6_rowsKept yX6_rowsKept ∈ zm_tbl := (zm_tbl_in (List.mem_of_getElem? (i := 1081) (by decide +kernel)) rfl)
theorem ml_X10_217 {rm : Room} {b : Bool} {nm : String} : zm_Ml RX10 217 yX6_rowsKept (cX6_rowsKept, 1, RX6, rm, (some .int), b, nm) 0 := ⟨(zm_tbl_in (List.mem_of_getElem? (i := 1079) (by decide +kernel)) rfl), (zm_tbl_in (List.mem_of_getElem? (i := 1080) (by decide +kernel)) rfl), se_X6_rowsKept, in_X6, cm_X6_rowsKept, ⟨by decide +kernel, by decide +kernel, by decide +kernel⟩⟩
theorem cm_X6_fewestElsewhere : Cond.code yX6_fewestElsewhere cX6_fewestElsewhere 1 (some .int) ∈ zm_tbl := (zm_tbl_in (List.mem_of_getElem? (i := 1090) (by decide +kernel)) rfl)
theorem se_X6_fewestElsewhere : Cond.selects RX6 yX6_fewestElsewhere yX6_fewestElsewhere ∈ zm_tbl := (zm_tbl_in (List.mem_of_getElem? (i := 1089) (by decide +kernel)) rfl)
theorem ml_X10_222 {rm : Room} {b : Bool} {nm : String} : zm_Ml RX10 222 yX6_fewestElsewhere (cX6_fewestElsewhere, 1, RX6, rm, (some .int), b, nm) 0 := ⟨(zm_tbl_in (List.mem_of_getElem? (i := 1087) (by decide +kernel)) rfl), (zm_tbl_in (List.mem_of_getElem? (i := 1088) (by decide +kernel)) rfl), se_X6_fewestElsewhere, in_X6, cm_X6_fewestElsewhere, ⟨by decide +kernel, by decide +kernel, by decide +kernel⟩⟩
theorem cm_X6_nearHouse : Cond.code yX6_nearHouse cX6_nearHouse 2 (some .int) ∈ zm_tbl := (zm_tbl_in (List.mem_of_getElem? (i := 1094) (by decide +kernel)) rfl)
theorem se_X6_nearHouse : Cond.selects RX6 yX6_nearHouse yX6_nearHouse ∈ zm_tbl := (zm_tbl_in (List.mem_of_getElem? (i := 1093) (by decide +kernel)) rfl)
theorem ml_X10_225 {rm : Room} {b : Bool} {nm : String} : zm_Ml RX10 225 yX6_nearHouse (cX6_nearHouse, 2, RX6, rm, (some .int), b, nm) 1 := ⟨(zm_tbl_in (List.mem_of_getElem? (i := 1091) (by decide +kernel)) rfl), (zm_tbl_in (List.mem_of_getElem? (i := 1092) (by decide +kernel)) rfl), se_X6_nearHouse, in_X6, cm_X6_nearHouse, ⟨by decide +kernel, by decide +kernel, by decide +kernel⟩⟩
theorem cm_X6_smallestQuarrel : Cond.code yX6_smallestQuarrel cX6_smallestQuarrel 4 (some .int) ∈ zm_tbl := (zm_tbl_in (List.mem_of_getElem? (i := 1102) (by decide +kernel)) rfl)
theorem se_X6_smallestQuarrel : Cond.selects RX6 yX6_smallestQuarrel yX6_smallestQuarrel ∈ zm_tbl := (zm_tbl_in (List.mem_of_getElem? (i := 1101) (by decide +kernel)) rfl)
theorem ml_X10_228 {rm : Room} {b : Bool} {nm : String} : zm_Ml RX10 228 yX6_smallestQuarrel (cX6_smallestQuarrel, 4, RX6, rm, (some .int), b, nm) 0 := ⟨(zm_tbl_in (List.mem_of_getElem? (i := 1099) (by decide +kernel)) rfl), (zm_tbl_in (List.mem_of_getElem? (i := 1100) (by decide +kernel)) rfl), se_X6_smallestQuarrel, in_X6, cm_X6_smallestQuarrel, ⟨by decide +kernel, by decide +kernel, by decide +kernel⟩⟩
theorem cm_X9_fewestTrips : Cond.code yX9_fewestTrips cX9_fewestTrips 10 (some .int) ∈ zm_tbl := (zm_tbl_in (List.mem_of_getElem? (i := 1132) (by decide +kernel)) rfl)
theorem se_X9_fewestTrips : Cond.selects RX9 yX9_fewestTrips yX9_fewestTrips ∈ zm_tbl := (zm_tbl_in (List.mem_of_getElem? (i := 1131) (by decide +kernel)) rfl)
theorem ml_X10_253 {rm : Room} {b : Bool} {nm : String} : zm_Ml RX10 253 yX9_fewestTrips (cX9_fewestTrips, 10, RX9, rm, (some .int), b, nm) 4 := ⟨(zm_tbl_in (List.mem_of_getElem? (i := 1129) (by decide +kernel)) rfl), (zm_tbl_in (List.mem_of_getElem? (i := 1130) (by decide +kernel)) rfl), se_X9_fewestTrips, in_X9, cm_X9_fewestTrips, ⟨by decide +kernel, by decide +kernel, by decide +kernel⟩⟩
theorem cm_X6_roomyRows : Cond.code yX6_roomyRows cX6_roomyRows 1 (some (.array .long)) ∈ zm_tbl := (zm_tbl_in (List.mem_of_getElem? (i := 1128) (by decide +kernel)) rfl)
theorem se_X6_roomyRows : Cond.selects RX6 yX6_roomyRows yX6_roomyRows ∈ zm_tbl := (zm_tbl_in (List.mem_of_getElem? (i := 1127) (by decide +kernel)) rfl)
theorem ml_X10_250 {rm : Room} {b : Bool} {nm : String} : zm_Ml RX10 250 yX6_roomyRows (cX6_roomyRows, 1, RX6, rm, (some (.array .long)), b, nm) 0 := ⟨(zm_tbl_in (List.mem_of_getElem? (i := 1125) (by decide +kernel)) rfl), (zm_tbl_in (List.mem_of_getElem? (i := 1126) (by decide +kernel)) rfl), se_X6_roomyRows, in_X6, cm_X6_roomyRows, ⟨by decide +kernel, by decide +kernel, by decide +kernel⟩⟩
theorem cm_X6_keptRows : Cond.code yX6_keptRows cX6_keptRows 1 (some (.array .long)) ∈ zm_tbl := (zm_tbl_in (List.mem_of_getElem? (i := 1124) (by decide +kernel)) rfl)
theorem se_X6_keptRows : Cond.selects RX6 yX6_keptRows yX6_keptRows ∈ zm_tbl := (zm_tbl_in (List.mem_of_getElem? (i := 1123) (by decide +kernel)) rfl)
theorem ml_X10_246 {rm : Room} {b : Bool} {nm : String} : zm_Ml RX10 246 yX6_keptRows (cX6_keptRows, 1, RX6, rm, (some (.array .long)), b, nm) 0 := ⟨(zm_tbl_in (List.mem_of_getElem? (i := 1121) (by decide +kernel)) rfl), (zm_tbl_in (List.mem_of_getElem? (i := 1122) (by decide +kernel)) rfl), se_X6_keptRows, in_X6, cm_X6_keptRows, ⟨by decide +kernel, by decide +kernel, by decide +kernel⟩⟩
theorem cm_X6_step : Cond.code yX6_step cX6_step 2 (some .int) ∈ zm_tbl := (zm_tbl_in (List.mem_of_getElem? (i := 1120) (by decide +kernel)) rfl)
theorem ml_X10_239 {rm : Room} {b : Bool} {nm : String} : zm_Sl RX10 239 yX6_step (cX6_step, 2, RX6, rm, (some .int), b, nm) 2 := ⟨(zm_tbl_in (List.mem_of_getElem? (i := 1118) (by decide +kernel)) rfl), (zm_tbl_in (List.mem_of_getElem? (i := 1119) (by decide +kernel)) rfl), in_X6, cm_X6_step, ⟨by decide +kernel, by decide +kernel, by decide +kernel⟩⟩
