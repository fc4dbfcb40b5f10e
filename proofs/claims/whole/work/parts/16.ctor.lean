/-! constructors -/
def zm_Il (own : String) (index : Nat) (y : MethodName) (Y : zm_Y) (n : Nat) : Prop := Cond.methodLink own index y ∈ zm_tbl ∧ Cond.instanceMethod y ∈ zm_tbl ∧ Cond.initialized y.cls ∈ zm_tbl ∧ Cond.code y Y.1 Y.2.1 Y.2.2.2.2.1 ∈ zm_tbl ∧ (y.cls ≠ "java/lang/invoke/MethodHandle" ∧ y.cls ≠ "java/lang/invoke/VarHandle" ∧ (parseMethodDescriptor y.desc).map (fun d => d.parameters.length) = some n)
/-- through the nest: the link itself stands in zm_Z -/
def zm_In (y : MethodName) (Y : zm_Y) : Prop := Cond.instanceMethod y ∈ zm_tbl ∧ Cond.initialized y.cls ∈ zm_tbl ∧ Cond.code y Y.1 Y.2.1 Y.2.2.2.2.1 ∈ zm_tbl ∧ (y.cls ≠ "java/lang/invoke/MethodHandle" ∧ y.cls ≠ "java/lang/invoke/VarHandle" ∧ (parseMethodDescriptor y.desc).map (fun d => d.parameters.length) = some 0)
section ZI
variable {α ρ : Type} {X : zm_C} {Y : zm_Y} {E : zm_E} {Qf : ρ → zm_Mem → State → Prop} {kc ks pc : Nat} {lv : List (Nat × Value)} {st : List Value} {M : zm_Mem} {d : Option α} {f : α → Option (ρ × zm_Mem)} {body : zm_Mem → Option α} {n : Nat} {rf : Nat → Nat → Nat}
theorem zm_callI {g : Option (Unit × zm_Mem)} {kd : Unit → zm_Mem → Option α} {index nn a : Nat} {y : MethodName} {Y' : zm_Y} {w2 : zm_W} {mc ms : Nat} (pc' kc' ks' : Nat) (hp : pc + 3 = pc') (hkc : kc + mc = kc') (hks : ks + ms = ks') (hd : decode Y.1 pc = .ok (.invokespecial index, 3)) (As rest : List Value) (hst : st = As.reverse ++ .ref (E.2.1 + a) :: rest) (hml : zm_Il Y.2.2.1 index y Y' nn) (hyn : y.name = "<init>") (hret : Y'.2.2.2.2.1 = none) (hn : As.length = nn) (hw : (rest.map fun v => v.category).sum ≤ 8) (hrm : zm_Rm Y Y') (hr0 : Y'.2.2.2.1.cells = mc) (hr1 : Y'.2.2.2.1.slots = ms) (hcs : kc' ≤ Y.2.2.2.1.cells ∧ ks' ≤ Y.2.2.2.1.slots) (hw2 : w2.1 = n + mc)
    (hM : ∀ M1, g = some ((), M1) → zm_Ct E (n, rf) w2 y Y' (.ref (E.2.1 + a) :: As) M none M1)
    (k : ∀ M1, zm_V X Y E Qf kc' ks' true w2 pc' lv rest M1 (kd () M1) f) : zm_V X Y E Qf kc ks true (n, rf) pc lv st M (zm_b2 g kd) f := by
  subst hst
  subst hkc
  subst hks
  refine zm_call (emb := zm_ev) (mc := mc) (ms := ms) (ex2 := true) (w2 := w2) pc' hp (fun _ => ⟨rfl, hw2⟩) (fun r M1 hg p e s m args below meth c H locs ls ok hP hsz hS hl => ?_) (fun _ M1 _ => k M1)
  have hM := hM M1 hg
  unfold zm_Ct at hM
  rw [hr0, hr1] at hM
  obtain ⟨m1, m2, m4, m5, m6⟩ := hml
  have hts := ok.2.2.2.2.1
  rw [hret] at hM m5
  have hlow : E.2.1 + 1 + n ≤ H.size := by
    by_cases h0 : n = 0
    · subst h0
      exact Nat.le_trans ok.2.2.2.2.2.2.2.2.1.2.2.2.2.2.2.2.1.1 hS.1
    · have h1 := (hP (n - 1) _ (zm_ws_at (w := (n, rf)) (id := n) (Nat.pos_of_ne_zero h0) (Nat.le_refl _))).lt
      simp only at h1
      omega
  exact va_runI (As := As) (rest := rest) ⟨ok.1, ok.2.1, ok.2.2.1, ok.2.2.2.1, hts⟩ hM ⟨callB_of nn hts (zm_GoodIn m5) rfl hr0 hr1 (hts _ m4) (hts _ m1) m6 hrm, hyn, hts _ m2⟩
    ⟨zm_blind, fun U hU hW => ⟨rfl, by rw [hU]; exact hP, (fun _ => by rw [hU]; have := hsz rfl; simp only at this ⊢; omega), va_K.moved hW.alike ok.2.2.2.2.2.2.2.1, ok.2.2.2.2.2.2.2.2.1.go hS hU hW⟩⟩ rfl hn hl.1 rfl (lv_room hw) hd ⟨hcs.1, hcs.2⟩
theorem zm_callN {g : Option (Unit × zm_Mem)} {kd : Unit → zm_Mem → Option α} {index a : Nat} {y : MethodName} {Y' : zm_Y} {w2 : zm_W} {mc ms : Nat} (pc' kc' ks' : Nat) (hp : pc + 3 = pc') (hkc : kc + mc = kc') (hks : ks + ms = ks') (hd : decode Y.1 pc = .ok (.invokespecial index, 3)) (rest : List Value) (hst : st = .ref (E.2.1 + a) :: rest) (hnw : ∀ U, zm_Z E.2 U → va_Nw (.methodLinkNest Y.2.2.1 index y "LentPictures") U) (hml : zm_In y Y') (hyn : y.name = "<init>") (hret : Y'.2.2.2.2.1 = none) (hw : (rest.map fun v => v.category).sum ≤ 8) (hrm : zm_Rm Y Y') (hr0 : Y'.2.2.2.1.cells = mc) (hr1 : Y'.2.2.2.1.slots = ms) (hcs : kc' ≤ Y.2.2.2.1.cells ∧ ks' ≤ Y.2.2.2.1.slots) (hw2 : w2.1 = n + mc)
    (hM : ∀ M1, g = some ((), M1) → zm_Ct E (n, rf) w2 y Y' [.ref (E.2.1 + a)] M none M1)
    (k : ∀ M1, zm_V X Y E Qf kc' ks' true w2 pc' lv rest M1 (kd () M1) f) : zm_V X Y E Qf kc ks true (n, rf) pc lv st M (zm_b2 g kd) f := by
  subst hst
  subst hkc
  subst hks
  refine zm_call (emb := zm_ev) (mc := mc) (ms := ms) (ex2 := true) (w2 := w2) pc' hp (fun _ => ⟨rfl, hw2⟩) (fun r M1 hg p e s m args below meth c H locs ls ok hP hsz hS hl => ?_) (fun _ M1 _ => k M1)
  have hM := hM M1 hg
  unfold zm_Ct at hM
  rw [hr0, hr1] at hM
  obtain ⟨m2, m4, m5, m6⟩ := hml
  have hts := ok.2.2.2.2.1
  rw [hret] at hM m5
  have hlow : E.2.1 + 1 + n ≤ H.size := by
    by_cases h0 : n = 0
    · subst h0
      exact Nat.le_trans ok.2.2.2.2.2.2.2.2.1.2.2.2.2.2.2.2.1.1 hS.1
    · have h1 := (hP (n - 1) _ (zm_ws_at (w := (n, rf)) (id := n) (Nat.pos_of_ne_zero h0) (Nat.le_refl _))).lt
      simp only at h1
      omega
  exact va_runIN (As := []) (rest := rest) ⟨ok.1, ok.2.1, ok.2.2.1, ok.2.2.2.1, hts⟩ hM ⟨va_cnB 0 hts (zm_GoodIn m5) rfl hr0 hr1 (hnw _ ok.2.2.2.2.2.2.2.2.1) (hts _ m4) m6 hrm, hyn, hts _ m2⟩
    ⟨zm_blind, fun U hU hW => ⟨rfl, by rw [hU]; exact hP, (fun _ => by rw [hU]; have := hsz rfl; simp only at this ⊢; omega), va_K.moved hW.alike ok.2.2.2.2.2.2.2.1, ok.2.2.2.2.2.2.2.2.1.go hS hU hW⟩⟩ rfl rfl hl.1 rfl (lv_room hw) hd ⟨hcs.1, hcs.2⟩
theorem zm_newo {ci index N id : Nat} {C : String} {T : u_T} (pc' kc' ks' : Nat) (hp : pc + 3 = pc') (hkc : kc + 1 = kc') (hks : ks + N = ks') (hd : decode Y.1 pc = .ok (.new index, 3)) (hC : vwCl[ci]? = some (C, T, N)) (hin : ∀ w ∈ u_ws C T N, w ∈ zm_tbl) (ty : Nat → FieldType) (hty : ∀ k, k < N → parseFieldDescriptor (T k).2.2.1 = some (ty k)) (h1 : Cond.classLink Y.2.2.1 index C ∈ zm_tbl) (h2 : Cond.instantiable C N ∈ zm_tbl) (h3 : Cond.initialized C ∈ zm_tbl) (hid : n + 1 = id) (hsh : zm_sh id = (4, ci)) (hN : N = zm_nf ci) (hrf : ∀ j, rf id j = 0) (hdef : ∀ j, j < N → defaultValue (ty j) = zm_dv (zm_fk ci j)) (hcells : kc' ≤ Y.2.2.2.1.cells) (hslots : ks' ≤ Y.2.2.2.1.slots) (k : ∀ M1, M1 = zm_zero M id → zm_V X Y E Qf kc' ks' true (id, rf) pc' lv (.ref (E.2.1 + id) :: st) M1 (body M1) f) : zm_V X Y E Qf kc ks true (n, rf) pc lv st M (zm_v (zm_zero M id) body) f := by
  subst hkc
  subst hks
  exact zm_new (w := (n, rf)) pc' hp hd rfl hC hin ty hty h1 h2 h3 hid hsh hN hrf hdef hcells hslots k
theorem zm_newi {kd N id : Nat} {v : Int32} {atype : ArrayType} {ty : FieldType} (pc' kc' ks' : Nat) (hp : pc + 2 = pc') (hkc : kc + 1 = kc') (hks : ks + N = ks') (hd : decode Y.1 pc = .ok (.newarray atype, 2)) (hw : Cond.arrayClass (newarray.typeOf atype) ∈ zm_tbl) (hty : newarray.typeOf atype = ty) (hid : n + 1 = id) (hsh : zm_sh id = (kd, N)) (hkd : (kd = 0 ∧ ty = .int) ∨ (kd = 1 ∧ ty = .byte) ∨ (kd = 3 ∧ ty = .boolean)) (hn : ¬ v < 0) (hN : v.toNatClampNeg = N) (hb : N * componentBytes ty ≤ 536870912) (hcells : kc' ≤ Y.2.2.2.1.cells) (hslots : ks' ≤ Y.2.2.2.1.slots) (k : ∀ M1, M1 = zm_zero M id → zm_V X Y E Qf kc' ks' true (id, rf) pc' lv (.ref (E.2.1 + id) :: st) M1 (body M1) f) : zm_V X Y E Qf kc ks true (n, rf) pc lv (.int v :: st) M (zm_v (zm_zero M id) body) f := by
  subst hkc
  subst hks
  exact zm_newa (w := (n, rf)) pc' hp hd rfl hw hty hid hsh hkd hn hN hb hcells hslots k
theorem zm_newj {N id : Nat} {v : Int32} {atype : ArrayType} (pc' kc' ks' : Nat) (hp : pc + 2 = pc') (hkc : kc + 1 = kc') (hks : ks + N = ks') (hd : decode Y.1 pc = .ok (.newarray atype, 2)) (hw : Cond.arrayClass (newarray.typeOf atype) ∈ zm_tbl) (hty : newarray.typeOf atype = .long) (hid : n + 1 = id) (hsh : zm_sh id = (2, N)) (hn : ¬ v < 0) (hN : v.toNatClampNeg = N) (hb : N * componentBytes .long ≤ 536870912) (hcells : kc' ≤ Y.2.2.2.1.cells) (hslots : ks' ≤ Y.2.2.2.1.slots) (k : ∀ M1, M1 = zm_zero M id → zm_V X Y E Qf kc' ks' true (id, rf) pc' lv (.ref (E.2.1 + id) :: st) M1 (body M1) f) : zm_V X Y E Qf kc ks true (n, rf) pc lv (.int v :: st) M (zm_v (zm_zero M id) body) f := by
  subst hkc
  subst hks
  exact zm_newl (w := (n, rf)) pc' hp hd rfl hw hty hid hsh hn hN hb hcells hslots k
theorem zm_putr {ex : Bool} {id ci j index a : Nat} {ty : FieldType} (pc' : Nat) (hp : pc + 3 = pc') (hd : decode Y.1 pc = .ok (.putfield index, 3)) (hF : zm_Ff Y.2.2.1 index ci j ty) (hini : Y.2.2.2.2.2.2 = "<init>") (hsh : zm_sh id = (4, ci)) (hlv : 0 < id ∧ id ≤ n) (ha : a ≠ 0) (k : zm_V X Y E Qf kc ks ex (n, zm_ur rf id j a) pc' lv st M d f) : zm_V X Y E Qf kc ks ex (n, rf) pc lv (.ref (E.2.1 + a) :: .ref (E.2.1 + id) :: st) M d f := zm_putR (w := (n, rf)) pc' hp hd hF hini hsh hlv ha (fun _ h => by subst h; exact k)
theorem zm_ur_ne {id j a x y : Nat} (h : x ≠ id) : zm_ur rf id j a x y = rf x y := by unfold zm_ur; rw [if_neg (fun q => h q.1)]
end ZI
