section ZA
variable {α ρ : Type} {X : zm_C} {Y : zm_Y} {E : zm_E} {Qf : ρ → zm_Mem → State → Prop} {kc ks pc : Nat} {ex : Bool} {w : zm_W} {lv : List (Nat × Value)} {st : List Value} {M : zm_Mem} {d d1 d2 : Option α} {f : α → Option (ρ × zm_Mem)} {body : zm_Mem → Option α}
theorem zm_putI {id ci j index : Nat} {ty : FieldType} {v : Int32} (pc' : Nat) (hp : pc + 3 = pc') (hd : decode Y.1 pc = .ok (.putfield index, 3)) (hF : zm_Fp Y.2.2.1 index ci j 0 ty) (hsh : zm_sh id = (4, ci)) (hlv : 0 < id ∧ id ≤ w.1) (hn : narrow ty (.int v) = .int v) (hfit : fits ty (.int v) = true) (k : ∀ M1, M1 = zm_sI M id j v → zm_V X Y E Qf kc ks ex w pc' lv st M1 (body M1) f) : zm_V X Y E Qf kc ks ex w pc lv (.int v :: .ref (E.2.1 + id) :: st) M (zm_v (zm_sI M id j v) body) f :=
  zm_putf pc' hp hd hF hsh hlv hn hfit zm_sI_ne zm_sI_fv (show Value.int ((zm_sI M id j v).1 id j) = _ by rw [zm_upd]; simp [upd]) (k _ rfl)
theorem zm_putL {id ci j index : Nat} {v : Int64} (pc' : Nat) (hp : pc + 3 = pc') (hd : decode Y.1 pc = .ok (.putfield index, 3)) (hF : zm_Fp Y.2.2.1 index ci j 1 .long) (hsh : zm_sh id = (4, ci)) (hlv : 0 < id ∧ id ≤ w.1) (k : ∀ M1, M1 = zm_sL M id j v → zm_V X Y E Qf kc ks ex w pc' lv st M1 (body M1) f) : zm_V X Y E Qf kc ks ex w pc lv (.long v :: .ref (E.2.1 + id) :: st) M (zm_v (zm_sL M id j v) body) f :=
  zm_putf pc' hp hd hF hsh hlv rfl rfl zm_sL_ne zm_sL_fv (show Value.long ((zm_sL M id j v).2.1 id j) = _ by rw [zm_updL]; simp [vp_updL]) (k _ rfl)
theorem zm_putP {id ci j index v : Nat} {C : String} (pc' : Nat) (hp : pc + 3 = pc') (hd : decode Y.1 pc = .ok (.putfield index, 3)) (hF : zm_Fp Y.2.2.1 index ci j 2 (.object C)) (hsh : zm_sh id = (4, ci)) (hlv : 0 < id ∧ id ≤ w.1) (hv : v ≠ 0) (k : ∀ M1, M1 = zm_sP M id j v → zm_V X Y E Qf kc ks ex w pc' lv st M1 (body M1) f) : zm_V X Y E Qf kc ks ex w pc lv (.ref (E.2.1 + v) :: .ref (E.2.1 + id) :: st) M (zm_v (zm_sP M id j v) body) f :=
  zm_putf pc' hp hd hF hsh hlv rfl rfl zm_sP_ne zm_sP_fv (show zm_rv E.2.1 ((zm_sP M id j v).2.2 id j) = _ by
    rw [show (zm_sP M id j v).2.2 id j = v by simp [zm_sP]]; exact zm_rv_pos hv) (k _ rfl)
theorem zm_iald {a N : Nat} {i : Int32} (pc' : Nat) (hp : pc + 1 = pc') (hd : decode Y.1 pc = .ok (.iaload, 1)) (hsh : zm_sh a = (0, N)) (hlv : 0 < a ∧ a ≤ w.1) (k : zm_V X Y E Qf kc ks ex w pc' lv (.int (M.1 a i.toNatClampNeg) :: st) M d f) : zm_V X Y E Qf kc ks ex w pc lv (.int i :: .ref (E.2.1 + a) :: st) M (zm_ck (zm_in i N) d) f := by
  refine zm_gd (fun hg => ?_)
  subst hp
  obtain ⟨p, e, s, m, args, below, meth, c⟩ := X
  intro ok hz H locs ls hP hS hl r M' hr
  exact va_iald ok.1 ok.2.1 ok.2.2.2.2.2.2.2.1 hP (a - 1) 0 (by rw [zm_ws_at hlv.1 hlv.2, zm_ent_i hsh (by decide) (by decide)]) rfl (zm_in_vp hg) hd (k ok hz H locs ls hP hS hl r M' hr)
theorem zm_bald {a N : Nat} {i : Int32} (pc' : Nat) (hp : pc + 1 = pc') (hd : decode Y.1 pc = .ok (.baload, 1)) (hsh : zm_sh a = (1, N)) (hlv : 0 < a ∧ a ≤ w.1) (k : zm_V X Y E Qf kc ks ex w pc' lv (.int (M.1 a i.toNatClampNeg) :: st) M d f) : zm_V X Y E Qf kc ks ex w pc lv (.int i :: .ref (E.2.1 + a) :: st) M (zm_ck (zm_in i N) d) f := by
  refine zm_gd (fun hg => ?_)
  subst hp
  obtain ⟨p, e, s, m, args, below, meth, c⟩ := X
  intro ok hz H locs ls hP hS hl r M' hr
  exact va_bald ok.1 ok.2.1 ok.2.2.2.2.2.2.2.1 hP (a - 1) 1 (by rw [zm_ws_at hlv.1 hlv.2, zm_ent_i hsh (by decide) (by decide)]) rfl (zm_in_vp hg) hd (k ok hz H locs ls hP hS hl r M' hr)
theorem zm_zald {a N : Nat} {i : Int32} (pc' : Nat) (hp : pc + 1 = pc') (hd : decode Y.1 pc = .ok (.baload, 1)) (hsh : zm_sh a = (3, N)) (hlv : 0 < a ∧ a ≤ w.1) (k : zm_V X Y E Qf kc ks ex w pc' lv (.int (M.1 a i.toNatClampNeg) :: st) M d f) : zm_V X Y E Qf kc ks ex w pc lv (.int i :: .ref (E.2.1 + a) :: st) M (zm_ck (zm_in i N) d) f := by
  refine zm_gd (fun hg => ?_)
  subst hp
  obtain ⟨p, e, s, m, args, below, meth, c⟩ := X
  intro ok hz H locs ls hP hS hl r M' hr
  exact va_zald ok.1 ok.2.1 ok.2.2.2.2.2.2.2.1 hP (a - 1) 3 (by rw [zm_ws_at hlv.1 hlv.2, zm_ent_i hsh (by decide) (by decide)]) rfl (zm_in_vp hg) hd (k ok hz H locs ls hP hS hl r M' hr)
theorem zm_lald {a N : Nat} {i : Int32} (pc' : Nat) (hp : pc + 1 = pc') (hd : decode Y.1 pc = .ok (.laload, 1)) (hsh : zm_sh a = (2, N)) (hlv : 0 < a ∧ a ≤ w.1) (k : zm_V X Y E Qf kc ks ex w pc' lv (.long (M.2.1 a i.toNatClampNeg) :: st) M d f) : zm_V X Y E Qf kc ks ex w pc lv (.int i :: .ref (E.2.1 + a) :: st) M (zm_ck (zm_in i N) d) f := by
  refine zm_gd (fun hg => ?_)
  subst hp
  obtain ⟨p, e, s, m, args, below, meth, c⟩ := X
  intro ok hz H locs ls hP hS hl r M' hr
  exact va_lald ok.1 ok.2.1 ok.2.2.2.2.2.2.2.1 hP (a - 1) 2 (by rw [zm_ws_at hlv.1 hlv.2, zm_ent_l hsh]) rfl (zm_in_vp hg) hd (k ok hz H locs ls hP hS hl r M' hr)
theorem zm_iast {a N : Nat} {i v : Int32} (pc' : Nat) (hp : pc + 1 = pc') (hd : decode Y.1 pc = .ok (.iastore, 1)) (hsh : zm_sh a = (0, N)) (hlv : 0 < a ∧ a ≤ w.1) (k : ∀ M1, M1 = zm_sI M a i.toNatClampNeg v → zm_V X Y E Qf kc ks ex w pc' lv st M1 (body M1) f) : zm_V X Y E Qf kc ks ex w pc lv (.int v :: .int i :: .ref (E.2.1 + a) :: st) M (zm_ck (zm_in i N) (zm_v (zm_sI M a i.toNatClampNeg v) body)) f := by
  refine zm_gd (fun hg => ?_)
  subst hp
  have k := k _ rfl
  obtain ⟨p, e, s, m, args, below, meth, c⟩ := X
  intro ok hz H locs ls hP hS hl r M' hr
  refine va_iast (A := zm_A E.2) ok.1 ok.2.1 ok.2.2.2.2.2.2.2.1 hP zm_ws_D hS (a - 1) 0 (by rw [zm_ws_at hlv.1 hlv.2, zm_ent_i hsh (by decide) (by decide)]) rfl (zm_in_vp hg) hd (fun H1 locs1 q1 q2 q3 => ?_)
  rw [← zm_upd, ← zm_ent_i (G := E.2) (rf := w.2) (M := zm_sI M a i.toNatClampNeg v) hsh (by decide) (by decide)] at q1
  have q1 := zm_ws_set (G := E.2) (n := w.1) (rf := w.2) (rf' := w.2) hlv.1 (zm_sI_ne (G := E.2) (rf := w.2)) ▸ q1
  exact k ok hz H1 locs1 ls q1 q3 hl r M' hr
theorem zm_bast {a N : Nat} {i v : Int32} (pc' : Nat) (hp : pc + 1 = pc') (hd : decode Y.1 pc = .ok (.bastore, 1)) (hsh : zm_sh a = (1, N)) (hlv : 0 < a ∧ a ≤ w.1) (k : ∀ M1, M1 = zm_sI M a i.toNatClampNeg (vp_nar .byte v) → zm_V X Y E Qf kc ks ex w pc' lv st M1 (body M1) f) : zm_V X Y E Qf kc ks ex w pc lv (.int v :: .int i :: .ref (E.2.1 + a) :: st) M (zm_ck (zm_in i N) (zm_v (zm_sI M a i.toNatClampNeg (vp_nar .byte v)) body)) f := by
  refine zm_gd (fun hg => ?_)
  subst hp
  have k := k _ rfl
  obtain ⟨p, e, s, m, args, below, meth, c⟩ := X
  intro ok hz H locs ls hP hS hl r M' hr
  refine va_bast (A := zm_A E.2) ok.1 ok.2.1 ok.2.2.2.2.2.2.2.1 hP zm_ws_D hS (a - 1) 1 (by rw [zm_ws_at hlv.1 hlv.2, zm_ent_i hsh (by decide) (by decide)]) rfl (zm_in_vp hg) hd (fun H1 locs1 q1 q2 q3 => ?_)
  rw [← zm_upd, ← zm_ent_i (G := E.2) (rf := w.2) (M := zm_sI M a i.toNatClampNeg (vp_nar .byte v)) hsh (by decide) (by decide)] at q1
  have q1 := zm_ws_set (G := E.2) (n := w.1) (rf := w.2) (rf' := w.2) hlv.1 (zm_sI_ne (G := E.2) (rf := w.2)) ▸ q1
  exact k ok hz H1 locs1 ls q1 q3 hl r M' hr
theorem zm_zast {a N : Nat} {i v : Int32} (pc' : Nat) (hp : pc + 1 = pc') (hd : decode Y.1 pc = .ok (.bastore, 1)) (hsh : zm_sh a = (3, N)) (hlv : 0 < a ∧ a ≤ w.1) (k : ∀ M1, M1 = zm_sI M a i.toNatClampNeg (vp_nar .boolean v) → zm_V X Y E Qf kc ks ex w pc' lv st M1 (body M1) f) : zm_V X Y E Qf kc ks ex w pc lv (.int v :: .int i :: .ref (E.2.1 + a) :: st) M (zm_ck (zm_in i N) (zm_v (zm_sI M a i.toNatClampNeg (vp_nar .boolean v)) body)) f := by
  refine zm_gd (fun hg => ?_)
  subst hp
  have k := k _ rfl
  obtain ⟨p, e, s, m, args, below, meth, c⟩ := X
  intro ok hz H locs ls hP hS hl r M' hr
  refine va_zast (A := zm_A E.2) ok.1 ok.2.1 ok.2.2.2.2.2.2.2.1 hP zm_ws_D hS (a - 1) 3 (by rw [zm_ws_at hlv.1 hlv.2, zm_ent_i hsh (by decide) (by decide)]) rfl (zm_in_vp hg) hd (fun H1 locs1 q1 q2 q3 => ?_)
  rw [← zm_upd, ← zm_ent_i (G := E.2) (rf := w.2) (M := zm_sI M a i.toNatClampNeg (vp_nar .boolean v)) hsh (by decide) (by decide)] at q1
  have q1 := zm_ws_set (G := E.2) (n := w.1) (rf := w.2) (rf' := w.2) hlv.1 (zm_sI_ne (G := E.2) (rf := w.2)) ▸ q1
  exact k ok hz H1 locs1 ls q1 q3 hl r M' hr
theorem zm_last {a N : Nat} {i : Int32} {v : Int64} (pc' : Nat) (hp : pc + 1 = pc') (hd : decode Y.1 pc = .ok (.lastore, 1)) (hsh : zm_sh a = (2, N)) (hlv : 0 < a ∧ a ≤ w.1) (k : ∀ M1, M1 = zm_sL M a i.toNatClampNeg v → zm_V X Y E Qf kc ks ex w pc' lv st M1 (body M1) f) : zm_V X Y E Qf kc ks ex w pc lv (.long v :: .int i :: .ref (E.2.1 + a) :: st) M (zm_ck (zm_in i N) (zm_v (zm_sL M a i.toNatClampNeg v) body)) f := by
  refine zm_gd (fun hg => ?_)
  subst hp
  have k := k _ rfl
  obtain ⟨p, e, s, m, args, below, meth, c⟩ := X
  intro ok hz H locs ls hP hS hl r M' hr
  refine va_last (A := zm_A E.2) ok.1 ok.2.1 ok.2.2.2.2.2.2.2.1 hP zm_ws_D hS (a - 1) 2 (by rw [zm_ws_at hlv.1 hlv.2, zm_ent_l hsh]) rfl (zm_in_vp hg) hd (fun H1 locs1 q1 q2 q3 => ?_)
  rw [← zm_updL, ← zm_ent_l (G := E.2) (rf := w.2) (M := zm_sL M a i.toNatClampNeg v) hsh] at q1
  have q1 := zm_ws_set (G := E.2) (n := w.1) (rf := w.2) (rf' := w.2) hlv.1 (zm_sL_ne (G := E.2) (rf := w.2)) ▸ q1
  exact k ok hz H1 locs1 ls q1 q3 hl r M' hr
theorem zm_alen {a kd N : Nat} {v : Int32} (pc' : Nat) (hp : pc + 1 = pc') (hd : decode Y.1 pc = .ok (.arraylength, 1)) (hsh : zm_sh a = (kd, N)) (hk : kd < 4) (hlv : 0 < a ∧ a ≤ w.1) (hv : Int32.ofNat N = v) (k : zm_V X Y E Qf kc ks ex w pc' lv (.int v :: st) M d f) : zm_V X Y E Qf kc ks ex w pc lv (.ref (E.2.1 + a) :: st) M d f := by
  subst hp
  obtain ⟨p, e, s, m, args, below, meth, c⟩ := X
  intro ok hz H locs ls hP hS hl r M' hr
  by_cases h2 : kd = 2
  · subst h2
    exact va_alen (x := (N, .inr (.inl (M.2.1 a)))) ok.1 ok.2.1 ok.2.2.2.2.2.2.2.1 hP (a - 1) 2 (by rw [zm_ws_at hlv.1 hlv.2, zm_ent_l hsh]) (ty := .long) rfl hv hd (k ok hz H locs ls hP hS hl r M' hr)
  · have ht : ∃ ty, (zm_tys E.2)[kd]? = some (E.2.2.2.1 kd, ty) := by
      match kd, hk with
      | 0, _ => exact ⟨_, rfl⟩
      | 1, _ => exact ⟨_, rfl⟩
      | 3, _ => exact ⟨_, rfl⟩
    obtain ⟨ty, ht⟩ := ht
    exact va_alen (x := (N, .inl (M.1 a))) ok.1 ok.2.1 ok.2.2.2.2.2.2.2.1 hP (a - 1) kd (by rw [zm_ws_at hlv.1 hlv.2, zm_ent_i hsh (by omega) h2]) ht hv hd (k ok hz H locs ls hP hS hl r M' hr)
/-- Survey.STEPS -/
theorem zm_steps_ld {i : Int32} (pc' : Nat) (hp : pc + 1 = pc') (hd : decode Y.1 pc = .ok (.iaload, 1)) (k : zm_V X Y E Qf kc ks ex w pc' lv (.int (zm_steps i.toNatClampNeg) :: st) M d f) : zm_V X Y E Qf kc ks ex w pc lv (.int i :: .ref (E.2.2.2.2 0) :: st) M (zm_ck (zm_in i 6) d) f := by
  refine zm_gd (fun hg => ?_)
  subst hp
  obtain ⟨p, e, s, m, args, below, meth, c⟩ := X
  intro ok hz H locs ls hP hS hl r M' hr
  exact va_ti ok.1 ok.2.1 ok.2.2.2.2.2.2.2.2.1.2.1 hS (zm_in_vp hg) rfl hd (k ok hz H locs ls hP hS hl r M' hr)
theorem zm_steps_get {index : Nat} (pc' : Nat) (hp : pc + 3 = pc') (hd : decode Y.1 pc = .ok (.getstatic index, 3)) (hw : Cond.fieldLink Y.2.2.1 index "LentPictures$Survey" "STEPS" "[I" ∈ zm_tbl) (k : zm_V X Y E Qf kc ks ex w pc' lv (.ref (E.2.2.2.2 0) :: st) M d f) : zm_V X Y E Qf kc ks ex w pc lv st M d f := by
  subst hp
  obtain ⟨p, e, s, m, args, below, meth, c⟩ := X
  intro ok hz H locs ls hP hS hl r M' hr
  exact va_gets ok.1 ok.2.1 ok.2.2.2.2.2.2.2.2.1.1 hS ok.2.2.2.1 (ok.2.2.2.2.1 _ hw) (fun _ q => q) hd (k ok hz H locs ls hP hS hl r M' hr)
end ZA
/-! answers -/
def zm_ei : Int32 → Option Value := fun r => some (.int r)
def zm_el : Int64 → Option Value := fun r => some (.long r)
def zm_ev : Unit → Option Value := fun _ => none
def zm_er (b : Nat) : Nat → Option Value := fun r => some (.ref (b + r))
section ZB
variable {α ρ : Type} {X : zm_C} {Y : zm_Y} {E : zm_E} {kc ks pc : Nat} {ex : Bool} {w : zm_W} {lv : List (Nat × Value)} {st : List Value} {M : zm_Mem} {d d1 d2 : Option α}
theorem zm_iret {f : α → Option (Int32 × zm_Mem)} {x : Int32} (hd : decode Y.1 pc = .ok (.ireturn, 1)) (hr : Y.2.2.2.2.1 = some .int) (h1 : kc ≤ Y.2.2.2.1.cells) (h2 : ks ≤ Y.2.2.2.1.slots) (hf : d.bind f = some (x, M)) : zm_V X Y E (zm_Q X E Y.2.2.2.1.cells Y.2.2.2.1.slots w zm_ei) kc ks ex w pc lv [.int x] M d f := by
  obtain ⟨p, e, s, m, args, below, meth, c⟩ := X
  intro ok hz H locs ls hP hS hl r M' hd'
  cases hf.symm.trans hd'
  refine W.widen h1 h2 ?_
  have hlocks : meth.locks = false := ok.2.2.2.2.2.2.1
  unfold zm_Q
  dsimp only
  exact W.iret (v := x) ok.1 ok.2.1 (ok.2.2.2.2.2.1.trans hr) (fun t ht _ => ⟨⟨rfl, by rw [ht]; exact hP⟩, hS.F ht⟩) hS.2.2 hd
theorem zm_zret {f : α → Option (Int32 × zm_Mem)} {x : Int32} (hd : decode Y.1 pc = .ok (.ireturn, 1)) (hr : Y.2.2.2.2.1 = some .boolean) (hn : narrow .boolean (.int x) = .int x) (h1 : kc ≤ Y.2.2.2.1.cells) (h2 : ks ≤ Y.2.2.2.1.slots) (hf : d.bind f = some (x, M)) : zm_V X Y E (zm_Q X E Y.2.2.2.1.cells Y.2.2.2.1.slots w zm_ei) kc ks ex w pc lv [.int x] M d f := by
  obtain ⟨p, e, s, m, args, below, meth, c⟩ := X
  intro ok hz H locs ls hP hS hl r M' hd'
  cases hf.symm.trans hd'
  refine W.widen h1 h2 ?_
  have hlocks : meth.locks = false := ok.2.2.2.2.2.2.1
  unfold zm_Q
  dsimp only
  exact W.zret (v := x) ok.1 ok.2.1 (ok.2.2.2.2.2.1.trans hr) hn (fun t ht _ => ⟨⟨rfl, by rw [ht]; exact hP⟩, hS.F ht⟩) hS.2.2 hd
theorem zm_lret {f : α → Option (Int64 × zm_Mem)} {x : Int64} (hd : decode Y.1 pc = .ok (.lreturn, 1)) (hr : Y.2.2.2.2.1 = some .long) (h1 : kc ≤ Y.2.2.2.1.cells) (h2 : ks ≤ Y.2.2.2.1.slots) (hf : d.bind f = some (x, M)) : zm_V X Y E (zm_Q X E Y.2.2.2.1.cells Y.2.2.2.1.slots w zm_el) kc ks ex w pc lv [.long x] M d f := by
  obtain ⟨p, e, s, m, args, below, meth, c⟩ := X
  intro ok hz H locs ls hP hS hl r M' hd'
  cases hf.symm.trans hd'
  refine W.widen h1 h2 ?_
  have hlocks : meth.locks = false := ok.2.2.2.2.2.2.1
  unfold zm_Q
  dsimp only
  exact W.lret (v := x) ok.1 ok.2.1 (ok.2.2.2.2.2.1.trans hr) (fun t ht _ => ⟨⟨rfl, by rw [ht]; exact hP⟩, hS.F ht⟩) hS.2.2 hd
theorem zm_vret {f : α → Option (Unit × zm_Mem)} (hd : decode Y.1 pc = .ok (.return_, 1)) (hr : Y.2.2.2.2.1 = none) (h1 : kc ≤ Y.2.2.2.1.cells) (h2 : ks ≤ Y.2.2.2.1.slots) (hf : d.bind f = some ((), M)) : zm_V X Y E (zm_Q X E Y.2.2.2.1.cells Y.2.2.2.1.slots w zm_ev) kc ks ex w pc lv [] M d f := by
  obtain ⟨p, e, s, m, args, below, meth, c⟩ := X
  intro ok hz H locs ls hP hS hl r M' hd'
  cases hf.symm.trans hd'
  refine W.widen h1 h2 ?_
  have hlocks : meth.locks = false := ok.2.2.2.2.2.2.1
  unfold zm_Q
  dsimp only
  exact W.vret ok.1 ok.2.1 (ok.2.2.2.2.2.1.trans hr) (fun t ht _ => ⟨⟨rfl, by rw [ht]; exact hP⟩, hS.F ht⟩) hS.2.2 hd
theorem zm_aret {f : α → Option (Nat × zm_Mem)} {x : Nat} {rt : FieldType} (hd : decode Y.1 pc = .ok (.areturn, 1)) (hr : Y.2.2.2.2.1 = some (.array rt)) (h1 : kc ≤ Y.2.2.2.1.cells) (h2 : ks ≤ Y.2.2.2.1.slots) (hf : d.bind f = some (x, M)) : zm_V X Y E (zm_Q X E Y.2.2.2.1.cells Y.2.2.2.1.slots w (zm_er E.2.1)) kc ks ex w pc lv [.ref (E.2.1 + x)] M d f := by
  obtain ⟨p, e, s, m, args, below, meth, c⟩ := X
  intro ok hz H locs ls hP hS hl r M' hd'
  cases hf.symm.trans hd'
  refine W.widen h1 h2 ?_
  have hlocks : meth.locks = false := ok.2.2.2.2.2.2.1
  unfold zm_Q
  dsimp only
  exact W.aret (v := .ref (E.2.1 + x)) ok.1 ok.2.1 (ok.2.2.2.2.2.1.trans hr) (Or.inr ⟨_, rfl⟩) (Or.inr ⟨_, rfl⟩) (fun t ht _ => ⟨⟨rfl, by rw [ht]; exact hP⟩, hS.F ht⟩) hS.2.2 hd
/-! loops -/
def zm_it {σ ε : Type} (step : σ → Option (σ ⊕ ε)) : Nat → σ → Option ε
  | 0, _ => none
  | n + 1, s => (step s).bind (fun x => x.elim (zm_it step n) some)
theorem zm_it_mono {σ ε : Type} {step : σ → Option (σ ⊕ ε)} {e : ε} : ∀ {n : Nat} {s : σ}, zm_it step n s = some e → ∀ k, zm_it step (n + k) s = some e
  | 0, _, h, _ => by cases h
  | n + 1, s, h, k => by
    rw [show n + 1 + k = (n + k) + 1 by omega]
    unfold zm_it at h ⊢
    cases hs : step s with
    | none => rw [hs] at h; cases h
    | some x =>
      rw [hs] at h
      cases x with
      | inl s' => exact zm_it_mono (n := n) (s := s') h k
      | inr e' => exact h

noncomputable def zm_lp {σ ε : Type} (step : σ → Option (σ ⊕ ε)) (s : σ) : Option ε := @dite _ (∃ e n, zm_it step n s = some e) (Classical.propDecidable _) (fun h => some h.choose) (fun _ => none)
theorem zm_lp_it {σ ε : Type} {step : σ → Option (σ ⊕ ε)} {s : σ} {e : ε} (h : zm_lp step s = some e) : ∃ n, zm_it step n s = some e := by
  unfold zm_lp at h
  split at h
  · rename_i q
    cases h
    exact q.choose_spec
  · cases h
theorem zm_it_lp {σ ε : Type} {step : σ → Option (σ ⊕ ε)} {s : σ} {e : ε} {n : Nat} (h : zm_it step n s = some e) : zm_lp step s = some e := by
  have q : ∃ e n, zm_it step n s = some e := ⟨e, n, h⟩
  unfold zm_lp
  rw [dif_pos q]
  obtain ⟨k, hk⟩ := q.choose_spec
  have h1 := zm_it_mono h k
  have h2 := zm_it_mono hk n
  rw [Nat.add_comm] at h2
  exact h2.symm.trans h1
/-- a loop, unfolded once -/
theorem zm_lp_eq {σ ε : Type} (step : σ → Option (σ ⊕ ε)) (s : σ) : zm_lp step s = (step s).bind (fun x => x.elim (zm_lp step) some) := by
  cases hs : step s with
  | none =>
    cases h : zm_lp step s with
    | none => rfl
    | some e =>
      obtain ⟨n, hn⟩ := zm_lp_it h
      cases n with
      | zero => cases hn
      | succ n => unfold zm_it at hn; rw [hs] at hn; cases hn
  | some x =>
    cases x with
    | inr e =>
      exact zm_it_lp (n := 1) (by unfold zm_it; rw [hs]; rfl)
    | inl s' =>
      show zm_lp step s = zm_lp step s'
      cases h : zm_lp step s' with
      | some e =>
        obtain ⟨n, hn⟩ := zm_lp_it h
        exact zm_it_lp (n := n + 1) (by unfold zm_it; rw [hs]; exact hn)
      | none =>
        cases h2 : zm_lp step s with
        | none => rfl
        | some e =>
          obtain ⟨n, hn⟩ := zm_lp_it h2
          cases n with
          | zero => cases hn
          | succ n =>
            unfold zm_it at hn
            rw [hs] at hn
            rw [zm_it_lp (s := s') (n := n) hn] at h
            cases h
theorem zm_loop {σ ε ρ' : Type} {Qf : ρ' → zm_Mem → State → Prop} {f : α → Option (ρ' × zm_Mem)} {step : σ → Option (σ ⊕ ε)} {kd : ε → Option α} (lvf : σ → List (Nat × Value)) (mf : σ → zm_Mem)
    (hb : ∀ D : σ → Option (ρ' × zm_Mem), (∀ s, zm_V X Y E Qf kc ks ex w pc (lvf s) st (mf s) (D s) some) → ∀ s, zm_V X Y E Qf kc ks ex w pc (lvf s) st (mf s) (step s) (fun x => x.elim D (fun e => (kd e).bind f))) (s : σ) : zm_V X Y E Qf kc ks ex w pc (lvf s) st (mf s) ((zm_lp step s).bind kd) f := by
  have key : ∀ n s, zm_V X Y E Qf kc ks ex w pc (lvf s) st (mf s) ((zm_it step n s).bind (fun e => (kd e).bind f)) some := by
    intro n
    induction n with
    | zero => intro s; exact zm_none
    | succ n ih =>
      intro s
      refine zm_den ?_ (hb _ ih s)
      rw [show zm_it step (n + 1) s = (step s).bind (fun x => x.elim (zm_it step n) some) from rfl]
      cases step s with
      | none => rfl
      | some x => cases x <;> simp
  obtain ⟨p, e, s0, m, args, below, meth, c⟩ := X
  intro ok hz H locs ls hP hS hl r M' hr
  cases hlp : zm_lp step s with
  | none => rw [hlp] at hr; cases hr
  | some e' =>
    obtain ⟨n, hn⟩ := zm_lp_it hlp
    refine key n s ok hz H locs ls hP hS hl r M' ?_
    rw [hn]
    rw [hlp] at hr
    simpa using hr
end ZB
