theorem im_X10_init : Cond.instanceMethod yX10_init ∈ zm_tbl := (zm_tbl_in (List.mem_of_getElem? (i := 152) (by decide +kernel)) rfl)
theorem cm_X10_init : Cond.code yX10_init cX10_init 1 none ∈ zm_tbl := (zm_tbl_in (List.mem_of_getElem? (i := 153) (by decide +kernel)) rfl)
theorem il_L_9 {rm : Room} {b : Bool} {nm : String} : zm_Il RL 9 yX10_init (cX10_init, 1, RX10, rm, none, b, nm) 0 := ⟨(zm_tbl_in (List.mem_of_getElem? (i := 151) (by decide +kernel)) rfl), im_X10_init, in_X10, cm_X10_init, ⟨by decide +kernel, by decide +kernel, by decide +kernel⟩⟩
theorem im_X11_init : Cond.instanceMethod yX11_init ∈ zm_tbl := (zm_tbl_in (List.mem_of_getElem? (i := 1312) (by decide +kernel)) rfl)
set_option maxRecDepth 100000 in
theorem cm_X11_init : Cond.code yX11_init cX11_init 1 none ∈ zm_tbl := (zm_tbl_in (List.mem_of_getElem? (i := 1313) rfl) rfl)
theorem il_L_12 {rm : Room} {b : Bool} {nm : String} : zm_Il RL 12 yX11_init (cX11_init, 1, RX11, rm, none, b, nm) 0 := ⟨(zm_tbl_in (List.mem_of_getElem? (i := 1311) (by decide +kernel)) rfl), im_X11_init, in_X11, cm_X11_init, ⟨by decide +kernel, by decide +kernel, by decide +kernel⟩⟩
theorem cl_L_7 : Cond.classLink RL 7 RX10 ∈ zm_tbl := (zm_tbl_in (List.mem_of_getElem? (i := 149) (by decide +kernel)) rfl)
theorem is_X10 : Cond.instantiable RX10 17 ∈ zm_tbl := (zm_tbl_in (List.mem_of_getElem? (i := 150) (by decide +kernel)) rfl)
theorem dv_X10 : ∀ j, j < 17 → defaultValue (tyX10 j) = zm_dv (zm_fk 10 j) := by decide
theorem cl_L_10 : Cond.classLink RL 10 RX11 ∈ zm_tbl := (zm_tbl_in (List.mem_of_getElem? (i := 1309) (by decide +kernel)) rfl)
theorem is_X11 : Cond.instantiable RX11 71 ∈ zm_tbl := (zm_tbl_in (List.mem_of_getElem? (i := 1310) (by decide +kernel)) rfl)
theorem dv_X11 : ∀ j, j < 71 → defaultValue (tyX11 j) = zm_dv (zm_fk 11 j) := by decide
