/-! String constants -/
def zm_sch (i j : Nat) : Int32 := (zm_str.getD i []).getD j 0
section ZS
variable {α ρ : Type} {X : zm_C} {Y : zm_Y} {E : zm_E} {Qf : ρ → zm_Mem → State → Prop} {kc ks pc : Nat} {ex : Bool} {w : zm_W} {lv : List (Nat × Value)} {st : List Value} {M : zm_Mem} {d : Option α} {f : α → Option (ρ × zm_Mem)}
theorem zm_ldcS0 (pc' : Nat) (hp : pc + 2 = pc') (hd : decode Y.1 pc = .ok (.ldc 25, 2)) (ho : Y.2.2.1 = "LentPictures$Tokens") (k : zm_V X Y E Qf kc ks ex w pc' lv (.ref (E.2.2.2.2 1) :: st) M d f) : zm_V X Y E Qf kc ks ex w pc lv st M d f := by
  subst hp
  obtain ⟨p, e, s, m, args, below, meth, c⟩ := X
  intro ok hz H locs ls hP hS hl r M' hr
  have hZ := ok.2.2.2.2.2.2.2.2.1
  exact va_ldcS (own := "LentPictures$Tokens") ok.1 ok.2.1 (by rw [← ho]; exact ok.2.2.2.1) hZ.2.2.2.1 hd (k ok hz H locs ls hP hS hl r M' hr)
theorem zm_ldcS1 (pc' : Nat) (hp : pc + 2 = pc') (hd : decode Y.1 pc = .ok (.ldc 62, 2)) (ho : Y.2.2.1 = "LentPictures$Tokens") (k : zm_V X Y E Qf kc ks ex w pc' lv (.ref (E.2.2.2.2 3) :: st) M d f) : zm_V X Y E Qf kc ks ex w pc lv st M d f := by
  subst hp
  obtain ⟨p, e, s, m, args, below, meth, c⟩ := X
  intro ok hz H locs ls hP hS hl r M' hr
  have hZ := ok.2.2.2.2.2.2.2.2.1
  exact va_ldcS (own := "LentPictures$Tokens") ok.1 ok.2.1 (by rw [← ho]; exact ok.2.2.2.1) hZ.2.2.2.2.1 hd (k ok hz H locs ls hP hS hl r M' hr)
theorem zm_strV {index : Nat} (pc' : Nat) (hp : pc + 3 = pc') (hd : decode Y.1 pc = .ok (.getfield index, 3)) (hw : Cond.fieldLink Y.2.2.1 index "java/lang/String" "value" "[B" ∈ zm_tbl) {i : Nat} (hi : i < 2) (k : zm_V X Y E Qf kc ks ex w pc' lv (.ref (E.2.2.2.2 (2 + 2 * i)) :: st) M d f) : zm_V X Y E Qf kc ks ex w pc lv (.ref (E.2.2.2.2 (1 + 2 * i)) :: st) M d f := by
  subst hp
  obtain ⟨p, e, s, m, args, below, meth, c⟩ := X
  intro ok hz H locs ls hP hS hl r M' hr
  have hZ := ok.2.2.2.2.2.2.2.2.1
  exact vk_getf ok.1 ok.2.1 (hZ.2.2.2.2.2.1.1 i hi).2.2.1 hS ok.2.2.2.1 (ok.2.2.2.2.1 _ hw) (fun _ q => q) hd (k ok hz H locs ls hP hS hl r M' hr)
theorem zm_strC {index : Nat} (pc' : Nat) (hp : pc + 3 = pc') (hd : decode Y.1 pc = .ok (.getfield index, 3)) (hw : Cond.fieldLink Y.2.2.1 index "java/lang/String" "coder" "B" ∈ zm_tbl) {i : Nat} (hi : i < 2) (k : zm_V X Y E Qf kc ks ex w pc' lv (.int 0 :: st) M d f) : zm_V X Y E Qf kc ks ex w pc lv (.ref (E.2.2.2.2 (1 + 2 * i)) :: st) M d f := by
  subst hp
  obtain ⟨p, e, s, m, args, below, meth, c⟩ := X
  intro ok hz H locs ls hP hS hl r M' hr
  have hZ := ok.2.2.2.2.2.2.2.2.1
  exact vk_getf ok.1 ok.2.1 (hZ.2.2.2.2.2.1.1 i hi).2.1 hS ok.2.2.2.1 (ok.2.2.2.2.1 _ hw) (fun _ q => q) hd (k ok hz H locs ls hP hS hl r M' hr)
theorem zm_sbald {N : Nat} {j : Int32} (pc' : Nat) (hp : pc + 1 = pc') (hd : decode Y.1 pc = .ok (.baload, 1)) {i : Nat} (hi : i < 2) (hN : [107, 9].getD i 0 = N) (k : zm_V X Y E Qf kc ks ex w pc' lv (.int (zm_sch i j.toNatClampNeg) :: st) M d f) : zm_V X Y E Qf kc ks ex w pc lv (.int j :: .ref (E.2.2.2.2 (2 + 2 * i)) :: st) M (zm_ck (zm_in j N) d) f := by
  refine zm_gd (fun hg => ?_)
  subst hp
  subst hN
  obtain ⟨p, e, s, m, args, below, meth, c⟩ := X
  intro ok hz H locs ls hP hS hl r M' hr
  have hZ := ok.2.2.2.2.2.2.2.2.1
  exact va_tb ok.1 ok.2.1 (hZ.2.2.2.2.2.1.1 i hi).2.2.2 hS (zm_in_vp hg) rfl hd (k ok hz H locs ls hP hS hl r M' hr)
theorem zm_sblen {N : Nat} {v : Int32} (pc' : Nat) (hp : pc + 1 = pc') (hd : decode Y.1 pc = .ok (.arraylength, 1)) {i : Nat} (hi : i < 2) (hN : [107, 9].getD i 0 = N) (hv : Int32.ofNat N = v) (k : zm_V X Y E Qf kc ks ex w pc' lv (.int v :: st) M d f) : zm_V X Y E Qf kc ks ex w pc lv (.ref (E.2.2.2.2 (2 + 2 * i)) :: st) M d f := by
  subst hp
  subst hN
  obtain ⟨p, e, s, m, args, below, meth, c⟩ := X
  intro ok hz H locs ls hP hS hl r M' hr
  have hZ := ok.2.2.2.2.2.2.2.2.1
  exact va_tlen ok.1 ok.2.1 (hZ.2.2.2.2.2.1.1 i hi).2.2.2 hS hv hd (k ok hz H locs ls hP hS hl r M' hr)
theorem zm_gCS {index : Nat} (pc' : Nat) (hp : pc + 3 = pc') (hd : decode Y.1 pc = .ok (.getstatic index, 3)) (hw : Cond.fieldLink Y.2.2.1 index "java/lang/String" "COMPACT_STRINGS" "Z" ∈ zm_tbl) (k : zm_V X Y E Qf kc ks ex w pc' lv (.int 1 :: st) M d f) : zm_V X Y E Qf kc ks ex w pc lv st M d f := by
  subst hp
  obtain ⟨p, e, s, m, args, below, meth, c⟩ := X
  intro ok hz H locs ls hP hS hl r M' hr
  have hZ := ok.2.2.2.2.2.2.2.2.1
  exact va_gets ok.1 ok.2.1 hZ.2.2.2.2.2.2.1 hS ok.2.2.2.1 (ok.2.2.2.2.1 _ hw) (fun _ q => q) hd (k ok hz H locs ls hP hS hl r M' hr)
theorem zm_gSF {index : Nat} (pc' : Nat) (hp : pc + 3 = pc') (hd : decode Y.1 pc = .ok (.getstatic index, 3)) (hw : Cond.fieldLink Y.2.2.1 index "jdk/internal/util/Preconditions" "SIOOBE_FORMATTER" "Ljava/util/function/BiFunction;" ∈ zm_tbl) (k : ∀ v, (v = .null ∨ ∃ q, v = .ref q) → zm_V X Y E Qf kc ks ex w pc' lv (v :: st) M d f) : zm_V X Y E Qf kc ks ex w pc lv st M d f := by
  subst hp
  obtain ⟨p, e, s, m, args, below, meth, c⟩ := X
  intro ok hz H locs ls hP hS hl r M' hr
  have hZ := ok.2.2.2.2.2.2.2.2.1
  obtain ⟨v, h1, h2⟩ := hZ.2.2.2.2.2.2.2.2
  exact va_gets ok.1 ok.2.1 h1 hS ok.2.2.2.1 (ok.2.2.2.2.1 _ hw) (fun _ q => q) hd (k v h2 ok hz H locs ls hP hS hl r M' hr)
theorem zm_callT {β : Type} {emb : β → Option Value} {g : Option (β × zm_Mem)} {kd : β → zm_Mem → Option α} {index n i : Nat} {y : MethodName} {Y' : zm_Y} (pc' : Nat) (hp : pc + 3 = pc') (hd : decode Y.1 pc = .ok (.invokevirtual index, 3)) (As rest : List Value) (hst : st = As.reverse ++ .ref (E.2.2.2.2 (1 + 2 * i)) :: rest) (hml : zm_Ml Y.2.2.1 index y Y' n) (hy : y.cls = "java/lang/String") (hi : i < 2) (hn : As.length = n) (hw : (rest.map fun v => v.category).sum ≤ 8) (hrm : zm_Rm Y Y') (hr0 : Y'.2.2.2.1.cells = 0) (hr1 : Y'.2.2.2.1.slots = 0) (hcs : kc ≤ Y.2.2.2.1.cells ∧ ks ≤ Y.2.2.2.1.slots) (hal : Y'.2.2.2.2.2.1 = false)
    (hM : ∀ r M1, g = some (r, M1) → zm_Ct E w w y Y' (.ref (E.2.2.2.2 (1 + 2 * i)) :: As) M (emb r) M1)
    (k : ∀ r M1, g = some (r, M1) → zm_V X Y E Qf kc ks ex w pc' lv ((emb r).toList ++ rest) M1 (kd r M1) f) : zm_V X Y E Qf kc ks ex w pc lv st M (g.bind (fun q => kd q.1 q.2)) f := by
  subst hst
  refine zm_call (mc := 0) (ms := 0) pc' hp (fun h => ⟨h, rfl⟩) (fun r M1 hg p e s m args below meth c H locs ls ok hP _ hS hl => ?_) k
  have hM := hM r M1 hg
  unfold zm_Ct at hM
  rw [hr0, hr1] at hM
  obtain ⟨m1, m2, m3, m4, m5, m6⟩ := hml
  have hts := ok.2.2.2.2.1
  have hZ := ok.2.2.2.2.2.2.2.2.1
  exact va_runV (C := y.cls) (As := As) (rest := rest) ⟨ok.1, ok.2.1, ok.2.2.1, ok.2.2.2.1, hts⟩ hM ⟨callB_of n hts (zm_GoodIn m5) rfl hr0 hr1 (hts _ m4) (hts _ m1) m6 hrm, hts _ m2, hts _ m3⟩
    ⟨zm_blind, by rw [hy]; exact vk_recv (adK := fun i => E.2.2.2.2 (1 + 2 * i)) (i := i) hZ.2.2.2.2.2.1 hi hS, fun U hU hW => ⟨rfl, by rw [hU]; exact hP, (fun a => by rw [hal] at a; cases a), va_K.moved hW.alike ok.2.2.2.2.2.2.2.1, hZ.go hS hU hW⟩⟩ rfl hn hl.1 rfl (lv_room hw) hd ⟨hcs.1, hcs.2⟩
theorem zm_cT0ir {g : Option Int32} {kd : Int32 → Option α} {index : Nat} {y : MethodName} {Y' : zm_Y} {rest : List Value} (pc' : Nat) (hp : pc + 3 = pc') (hd : decode Y.1 pc = .ok (.invokevirtual index, 3)) (hml : zm_Ml Y.2.2.1 index y Y' 0) {i : Nat} (hi : i < 2) (hw : (rest.map fun v => v.category).sum ≤ 8) (hrm : zm_Rm Y Y') (hr0 : Y'.2.2.2.1.cells = 0) (hr1 : Y'.2.2.2.1.slots = 0) (hcs : kc ≤ Y.2.2.2.1.cells ∧ ks ≤ Y.2.2.2.1.slots) (hal : Y'.2.2.2.2.2.1 = false) (hM : ∀ r, g = some r → zm_Ct E w w y Y' [.ref (E.2.2.2.2 (1 + 2 * i))] M (some (.int r)) M) (k : ∀ r, zm_V X Y E Qf kc ks ex w pc' lv (.int r :: rest) M (kd r) f) (hy : y.cls = "java/lang/String" := by rfl) : zm_V X Y E Qf kc ks ex w pc lv (.ref (E.2.2.2.2 (1 + 2 * i)) :: rest) M (zm_b1 g kd) f := zm_rd (zm_callT (emb := zm_ei) (kd := fun r _ => kd r) pc' hp hd [] rest rfl hml hy hi rfl hw hrm hr0 hr1 hcs hal (zm_rdM hM) (zm_rdK k))
theorem zm_cT1ir {g : Option Int32} {kd : Int32 → Option α} {index : Nat} {y : MethodName} {Y' : zm_Y} {v1 : Value} {rest : List Value} (pc' : Nat) (hp : pc + 3 = pc') (hd : decode Y.1 pc = .ok (.invokevirtual index, 3)) (hml : zm_Ml Y.2.2.1 index y Y' 1) {i : Nat} (hi : i < 2) (hw : (rest.map fun v => v.category).sum ≤ 8) (hrm : zm_Rm Y Y') (hr0 : Y'.2.2.2.1.cells = 0) (hr1 : Y'.2.2.2.1.slots = 0) (hcs : kc ≤ Y.2.2.2.1.cells ∧ ks ≤ Y.2.2.2.1.slots) (hal : Y'.2.2.2.2.2.1 = false) (hM : ∀ r, g = some r → zm_Ct E w w y Y' [.ref (E.2.2.2.2 (1 + 2 * i)), v1] M (some (.int r)) M) (k : ∀ r, zm_V X Y E Qf kc ks ex w pc' lv (.int r :: rest) M (kd r) f) (hy : y.cls = "java/lang/String" := by rfl) : zm_V X Y E Qf kc ks ex w pc lv (v1 :: .ref (E.2.2.2.2 (1 + 2 * i)) :: rest) M (zm_b1 g kd) f := zm_rd (zm_callT (emb := zm_ei) (kd := fun r _ => kd r) pc' hp hd [v1] rest rfl hml hy hi rfl hw hrm hr0 hr1 hcs hal (zm_rdM hM) (zm_rdK k))
theorem zm_cT2ir {g : Option Int32} {kd : Int32 → Option α} {index : Nat} {y : MethodName} {Y' : zm_Y} {v1 v2 : Value} {rest : List Value} (pc' : Nat) (hp : pc + 3 = pc') (hd : decode Y.1 pc = .ok (.invokevirtual index, 3)) (hml : zm_Ml Y.2.2.1 index y Y' 2) {i : Nat} (hi : i < 2) (hw : (rest.map fun v => v.category).sum ≤ 8) (hrm : zm_Rm Y Y') (hr0 : Y'.2.2.2.1.cells = 0) (hr1 : Y'.2.2.2.1.slots = 0) (hcs : kc ≤ Y.2.2.2.1.cells ∧ ks ≤ Y.2.2.2.1.slots) (hal : Y'.2.2.2.2.2.1 = false) (hM : ∀ r, g = some r → zm_Ct E w w y Y' [.ref (E.2.2.2.2 (1 + 2 * i)), v1, v2] M (some (.int r)) M) (k : ∀ r, zm_V X Y E Qf kc ks ex w pc' lv (.int r :: rest) M (kd r) f) (hy : y.cls = "java/lang/String" := by rfl) : zm_V X Y E Qf kc ks ex w pc lv (v2 :: v1 :: .ref (E.2.2.2.2 (1 + 2 * i)) :: rest) M (zm_b1 g kd) f := zm_rd (zm_callT (emb := zm_ei) (kd := fun r _ => kd r) pc' hp hd [v1, v2] rest rfl hml hy hi rfl hw hrm hr0 hr1 hcs hal (zm_rdM hM) (zm_rdK k))
theorem zm_cS2vr {g : Option Unit} {kd : Unit → Option α} {index : Nat} {y : MethodName} {Y' : zm_Y} {v1 v2 : Value} {rest : List Value} (pc' : Nat) (hp : pc + 3 = pc') (hd : decode Y.1 pc = .ok (.invokestatic index, 3)) (hml : zm_Sl Y.2.2.1 index y Y' 2) (hw : (rest.map fun v => v.category).sum ≤ 8) (hrm : zm_Rm Y Y') (hr0 : Y'.2.2.2.1.cells = 0) (hr1 : Y'.2.2.2.1.slots = 0) (hcs : kc ≤ Y.2.2.2.1.cells ∧ ks ≤ Y.2.2.2.1.slots) (hal : Y'.2.2.2.2.2.1 = false) (hM : ∀ r, g = some r → zm_Ct E w w y Y' [v1, v2] M none M) (k : ∀ r, zm_V X Y E Qf kc ks ex w pc' lv rest M (kd r) f) : zm_V X Y E Qf kc ks ex w pc lv (v2 :: v1 :: rest) M (zm_b1 g kd) f := zm_rd (zm_callS (emb := zm_ev) (kd := fun r _ => kd r) pc' hp hd [v1, v2] rest rfl hml rfl hw hrm hr0 hr1 hcs hal (zm_rdM hM) (zm_rdK k))
theorem zm_T_lw {t : Nat} (h : zm_isT t = true) (hl : t + 10 ≤ w.1) (j : Nat) (hj : j ≤ 10) : 0 < t + j ∧ t + j ≤ w.1 := by
  rcases zm_isT_or h with rfl | rfl <;> omega
theorem zm_xret {ty : FieldType} {f : α → Option (Int32 × zm_Mem)} {x : Int32} (hd : decode Y.1 pc = .ok (.ireturn, 1)) (hr : Y.2.2.2.2.1 = some ty) (hn : narrow ty (.int x) = .int x) (h1 : kc ≤ Y.2.2.2.1.cells) (h2 : ks ≤ Y.2.2.2.1.slots) (hf : d.bind f = some (x, M)) : zm_V X Y E (zm_Q X E Y.2.2.2.1.cells Y.2.2.2.1.slots w zm_ei) kc ks ex w pc lv [.int x] M d f := by
  obtain ⟨p, e, s, m, args, below, meth, c⟩ := X
  intro ok hz H locs ls hP hS hl r M' hd'
  cases hf.symm.trans hd'
  refine W.widen h1 h2 ?_
  have hlocks : meth.locks = false := ok.2.2.2.2.2.2.1
  unfold zm_Q
  dsimp only
  exact W.zret (v := x) ok.1 ok.2.1 (ok.2.2.2.2.2.1.trans hr) hn (fun t ht _ => ⟨⟨rfl, by rw [ht]; exact hP⟩, hS.F ht⟩) hS.2.2 hd
theorem zm_bret {f : α → Option (Int32 × zm_Mem)} {x : Int32} (hd : decode Y.1 pc = .ok (.ireturn, 1)) (hr : Y.2.2.2.2.1 = some .byte) (hn : x.toInt8.toInt32 = x) (h1 : kc ≤ Y.2.2.2.1.cells) (h2 : ks ≤ Y.2.2.2.1.slots) (hf : d.bind f = some (x, M)) : zm_V X Y E (zm_Q X E Y.2.2.2.1.cells Y.2.2.2.1.slots w zm_ei) kc ks ex w pc lv [.int x] M d f := zm_xret hd hr (show Value.int x.toInt8.toInt32 = _ by rw [hn]) h1 h2 hf
theorem zm_chret {f : α → Option (Int32 × zm_Mem)} {x : Int32} (hd : decode Y.1 pc = .ok (.ireturn, 1)) (hr : Y.2.2.2.2.1 = some .char) (hn : x.toUInt32.toUInt16.toUInt32.toInt32 = x) (h1 : kc ≤ Y.2.2.2.1.cells) (h2 : ks ≤ Y.2.2.2.1.slots) (hf : d.bind f = some (x, M)) : zm_V X Y E (zm_Q X E Y.2.2.2.1.cells Y.2.2.2.1.slots w zm_ei) kc ks ex w pc lv [.int x] M d f := zm_xret hd hr (show Value.int x.toUInt32.toUInt16.toUInt32.toInt32 = _ by rw [hn]) h1 h2 hf
end ZS
