/-! making: new objects, new arrays, final references, constructors' calls -/
def zm_zero (M : zm_Mem) (id : Nat) : zm_Mem := (fun x j => if x = id then 0 else M.1 x j, fun x j => if x = id then 0 else M.2.1 x j, fun x j => if x = id then 0 else M.2.2 x j)
def zm_ur (rf : Nat → Nat → Nat) (id j a : Nat) : Nat → Nat → Nat := fun x y => if x = id ∧ y = j then a else rf x y
def zm_dv (kd : Nat) : Value := if kd = 0 then .int 0 else if kd = 1 then .long 0 else .null
theorem zm_ws_push {G : zm_G} {n : Nat} {rf : Nat → Nat → Nat} {M M' : zm_Mem} (h : ∀ k, k ≤ n → zm_ent G rf M' k = zm_ent G rf M k) : zm_ws G (n + 1, rf) M' = zm_ws G (n, rf) M ++ [(G.1 + (n + 1), zm_ent G rf M' (n + 1))] := by
  unfold zm_ws
  simp only [List.range_succ, List.map_append, List.map_cons, List.map_nil]
  congr 1
  refine List.map_congr_left (fun k hk => ?_)
  rw [List.mem_range] at hk
  rw [h (k + 1) (by omega)]
theorem zm_zero_ne {G : zm_G} {rf : Nat → Nat → Nat} {M : zm_Mem} {id k : Nat} (h : k ≠ id) : zm_ent G rf (zm_zero M id) k = zm_ent G rf M k :=
  zm_ent_eq (by funext j; simp [zm_zero, h]) (by funext j; simp [zm_zero, h]) (by funext j; simp [zm_zero, h])
theorem zm_fresh {G : zm_G} {D : va_G} {cl : List vw_C} {w : zm_W} {M : zm_Mem} {q : Nat} {e : va_E} {H : Heap} (hP : va_P D cl (zm_ws G w M ++ [(q, e)]) H) (hD : va_D (zm_A G) (zm_ws G w M ++ [(q, e)])) (hs : H.size ≤ G.1 + 1 + (w.1 + 1)) : q = G.1 + (w.1 + 1) := by
  have hlen : (zm_ws G w M).length = w.1 := by simp [zm_ws]
  have hlast : (zm_ws G w M ++ [(q, e)])[w.1]? = some (q, e) := by
    rw [List.getElem?_append_right (by rw [hlen]; exact Nat.le_refl _), hlen, Nat.sub_self]
    rfl
  have h1 := (hP w.1 _ hlast).lt
  have h2 : G.1 < q := hD.2 w.1 _ hlast
  simp only at h1
  by_cases hq : q ≤ G.1 + w.1
  · exfalso
    have h3 : (zm_ws G w M ++ [(q, e)])[q - G.1 - 1]? = some (G.1 + (q - G.1), zm_ent G w.2 M (q - G.1)) := by
      rw [List.getElem?_append_left (by rw [hlen]; omega)]
      exact zm_ws_at (by omega) (by omega)
    have := hD.1 w.1 (q - G.1 - 1) _ _ hlast h3 (by simp only; omega)
    omega
  · omega
section ZN
variable {α ρ : Type} {X : zm_C} {Y : zm_Y} {E : zm_E} {Qf : ρ → zm_Mem → State → Prop} {kc ks pc : Nat} {ex : Bool} {w : zm_W} {lv : List (Nat × Value)} {st : List Value} {M : zm_Mem} {d : Option α} {f : α → Option (ρ × zm_Mem)} {body : zm_Mem → Option α}
theorem zm_new {ci index N id : Nat} {C : String} {T : u_T} (pc' : Nat) (hp : pc + 3 = pc') (hd : decode Y.1 pc = .ok (.new index, 3)) (hex : ex = true) (hC : vwCl[ci]? = some (C, T, N)) (hin : ∀ w ∈ u_ws C T N, w ∈ zm_tbl) (ty : Nat → FieldType) (hty : ∀ k, k < N → parseFieldDescriptor (T k).2.2.1 = some (ty k)) (h1 : Cond.classLink Y.2.2.1 index C ∈ zm_tbl) (h2 : Cond.instantiable C N ∈ zm_tbl) (h3 : Cond.initialized C ∈ zm_tbl) (hid : w.1 + 1 = id) (hsh : zm_sh id = (4, ci)) (hN : N = zm_nf ci) (hrf : ∀ j, w.2 id j = 0) (hdef : ∀ j, j < N → defaultValue (ty j) = zm_dv (zm_fk ci j)) (hcells : kc + 1 ≤ Y.2.2.2.1.cells) (hslots : ks + N ≤ Y.2.2.2.1.slots) (k : ∀ M1, M1 = zm_zero M id → zm_V X Y E Qf (kc + 1) (ks + N) ex (id, w.2) pc' lv (.ref (E.2.1 + id) :: st) M1 (body M1) f) : zm_V X Y E Qf kc ks ex w pc lv st M (zm_v (zm_zero M id) body) f := by
  subst hp
  subst hid
  have k := k _ rfl
  obtain ⟨p, e, s, m, args, below, meth, c⟩ := X
  intro ok hz H locs ls hP hS hl r M' hr
  have hts := ok.2.2.2.2.1
  have hsz := hz hex
  refine va_new (D := E.2.2.1) (A := zm_A E.2) (ci := ci) (fs := zm_fs E.2.1 w.2 (zm_zero M (w.1 + 1)) (w.1 + 1) ci) (C := C) (T := T) (N := N) ok.1 ok.2.1 hts hin ty hty ok.2.2.2.1 (hts _ h1) (hts _ h2) (hts _ h3) ok.2.2.2.2.2.2.2.1 hP zm_ws_D hS (fun q hq => Nat.lt_of_lt_of_le ok.2.2.2.2.2.2.2.2.1.2.2.2.2.2.2.2.1.1 hq) hC (fun j hj => ?_) hcells hslots hd (fun q H1 q1 q2 q3 => zm_sz (fun hs => ?_))
  · rw [hdef j hj]
    unfold vp_V
    rw [List.getD_eq_getElem?_getD, zm_fs_get (by rw [← hN]; exact hj)]
    unfold zm_fv zm_dv
    simp only [zm_zero, if_true, Option.getD_some]
    split
    · rfl
    · split
      · rfl
      · rw [hrf]
        simp [zm_rv]
  · have hq := zm_fresh q1 q2 (by omega)
    subst hq
    rw [← zm_ent_o (G := E.2) (rf := w.2) hsh, ← zm_ws_push (fun k hk => zm_zero_ne (by omega))] at q1
    exact k ok (fun _ => by simp only; omega) H1 locs ls q1 q3 hl r M' hr
theorem zm_cA {s : State} {D : va_G} {cl : List vw_C} {tys : List (ClassId × FieldType)} {cA cB : ClassId} {ty : FieldType} {i : Nat} (hty : ty = .int ∨ ty = .byte ∨ ty = .long ∨ ty = .boolean) (h : va_K D cl (tys ++ [(cA, ty)]) s) (hi : tys[i]? = some (cB, ty)) : cA = cB := by
  have h1 := (h.2 tys.length (cA, ty) (by simp)).2
  have h2 := (h.2 i (cB, ty) (by rw [List.getElem?_append_left (List.getElem?_eq_some_iff.mp hi).1]; exact hi)).2
  rcases hty with rfl | rfl | rfl | rfl <;> exact Option.some.inj (h1.symm.trans h2)
theorem zm_newa {kd N id : Nat} {n : Int32} {atype : ArrayType} {ty : FieldType} (pc' : Nat) (hp : pc + 2 = pc') (hd : decode Y.1 pc = .ok (.newarray atype, 2)) (hex : ex = true) (hw : Cond.arrayClass (newarray.typeOf atype) ∈ zm_tbl) (hty : newarray.typeOf atype = ty) (hid : w.1 + 1 = id) (hsh : zm_sh id = (kd, N)) (hkd : (kd = 0 ∧ ty = .int) ∨ (kd = 1 ∧ ty = .byte) ∨ (kd = 3 ∧ ty = .boolean)) (hn : ¬ n < 0) (hN : n.toNatClampNeg = N) (hb : N * componentBytes ty ≤ 536870912) (hcells : kc + 1 ≤ Y.2.2.2.1.cells) (hslots : ks + N ≤ Y.2.2.2.1.slots) (k : ∀ M1, M1 = zm_zero M id → zm_V X Y E Qf (kc + 1) (ks + N) ex (id, w.2) pc' lv (.ref (E.2.1 + id) :: st) M1 (body M1) f) : zm_V X Y E Qf kc ks ex w pc lv (.int n :: st) M (zm_v (zm_zero M id) body) f := by
  subst hp
  subst hid
  have k := k _ rfl
  obtain ⟨p, e, s, m, args, below, meth, c⟩ := X
  intro ok hz H locs ls hP hS hl r M' hr
  have hts := ok.2.2.2.2.1
  have hsz := hz hex
  refine va_newa (D := E.2.2.1) (A := zm_A E.2) (atype := atype) (a0 := (N, .inl (fun _ => 0))) ok.1 ok.2.1 (hts _ hw) hty ok.2.2.2.2.2.2.2.1 hP zm_ws_D hS (fun q hq => Nat.lt_of_lt_of_le ok.2.2.2.2.2.2.2.2.1.2.2.2.2.2.2.2.1.1 hq) (fun cA => by rcases hkd with ⟨_, rfl⟩ | ⟨_, rfl⟩ | ⟨_, rfl⟩ <;> rfl) hn hN hb hcells hslots hd (fun q cA H1 q0 q1 q2 q3 => zm_sz (fun hs => ?_))
  have hq := zm_fresh q1 q2 (by omega)
  subst hq
  have hc : cA = E.2.2.2.1 kd := by
    rcases hkd with ⟨rfl, rfl⟩ | ⟨rfl, rfl⟩ | ⟨rfl, rfl⟩
    · exact zm_cA (i := 0) (Or.inl rfl) q0 rfl
    · exact zm_cA (i := 1) (Or.inr (Or.inl rfl)) q0 rfl
    · exact zm_cA (i := 3) (Or.inr (Or.inr (Or.inr rfl))) q0 rfl
  subst hc
  have e1 : zm_ent E.2 w.2 (zm_zero M (w.1 + 1)) (w.1 + 1) = .inl (E.2.2.2.1 kd, N, .inl (fun _ => 0)) := by
    rw [zm_ent_i hsh (by rcases hkd with ⟨rfl, _⟩ | ⟨rfl, _⟩ | ⟨rfl, _⟩ <;> decide) (by rcases hkd with ⟨rfl, _⟩ | ⟨rfl, _⟩ | ⟨rfl, _⟩ <;> decide)]
    have : (zm_zero M (w.1 + 1)).1 (w.1 + 1) = fun _ => 0 := by funext j; simp [zm_zero]
    rw [this]
  rw [← e1, ← zm_ws_push (fun k hk => zm_zero_ne (by omega))] at q1
  exact k ok (fun _ => by simp only; omega) H1 locs ls q1 q3 hl r M' hr
theorem zm_newl {N id : Nat} {n : Int32} {atype : ArrayType} (pc' : Nat) (hp : pc + 2 = pc') (hd : decode Y.1 pc = .ok (.newarray atype, 2)) (hex : ex = true) (hw : Cond.arrayClass (newarray.typeOf atype) ∈ zm_tbl) (hty : newarray.typeOf atype = .long) (hid : w.1 + 1 = id) (hsh : zm_sh id = (2, N)) (hn : ¬ n < 0) (hN : n.toNatClampNeg = N) (hb : N * componentBytes .long ≤ 536870912) (hcells : kc + 1 ≤ Y.2.2.2.1.cells) (hslots : ks + N ≤ Y.2.2.2.1.slots) (k : ∀ M1, M1 = zm_zero M id → zm_V X Y E Qf (kc + 1) (ks + N) ex (id, w.2) pc' lv (.ref (E.2.1 + id) :: st) M1 (body M1) f) : zm_V X Y E Qf kc ks ex w pc lv (.int n :: st) M (zm_v (zm_zero M id) body) f := by
  subst hp
  subst hid
  have k := k _ rfl
  obtain ⟨p, e, s, m, args, below, meth, c⟩ := X
  intro ok hz H locs ls hP hS hl r M' hr
  have hts := ok.2.2.2.2.1
  have hsz := hz hex
  refine va_newa (D := E.2.2.1) (A := zm_A E.2) (atype := atype) (a0 := (N, .inr (.inl (fun _ => 0)))) ok.1 ok.2.1 (hts _ hw) hty ok.2.2.2.2.2.2.2.1 hP zm_ws_D hS (fun q hq => Nat.lt_of_lt_of_le ok.2.2.2.2.2.2.2.2.1.2.2.2.2.2.2.2.1.1 hq) (fun cA => rfl) hn hN hb hcells hslots hd (fun q cA H1 q0 q1 q2 q3 => zm_sz (fun hs => ?_))
  have hq := zm_fresh q1 q2 (by omega)
  subst hq
  have hc : cA = E.2.2.2.1 2 := zm_cA (i := 2) (Or.inr (Or.inr (Or.inl rfl))) q0 rfl
  subst hc
  have e1 : zm_ent E.2 w.2 (zm_zero M (w.1 + 1)) (w.1 + 1) = .inl (E.2.2.2.1 2, N, .inr (.inl (fun _ => 0))) := by
    rw [zm_ent_l hsh]
    have : (zm_zero M (w.1 + 1)).2.1 (w.1 + 1) = fun _ => 0 := by funext j; simp [zm_zero]
    rw [this]
  rw [← e1, ← zm_ws_push (fun k hk => zm_zero_ne (by omega))] at q1
  exact k ok (fun _ => by simp only; omega) H1 locs ls q1 q3 hl r M' hr
/-- a final reference, in a constructor -/
def zm_Ff (own : String) (index ci k : Nat) (ty : FieldType) : Prop := ∃ (C : String) (T : u_T) (N : Nat) (ty0 : Nat → FieldType), vwCl[ci]? = some (C, T, N) ∧ (∀ w ∈ u_ws C T N, w ∈ zm_tbl) ∧ k < N ∧ N = zm_nf ci ∧ Cond.fieldLink own index (T k).1 (T k).2.1 (T k).2.2.1 ∈ zm_tbl ∧ zm_fk ci k = 3 ∧ (∀ k, k < N → parseFieldDescriptor (T k).2.2.1 = some (ty0 k)) ∧ (∀ a, a < N → ∀ b, b < N → a ≠ b → (T a).2.1 ≠ (T b).2.1) ∧ (T k).2.2.2 = true ∧ (T k).1 = own ∧ parseFieldDescriptor (T k).2.2.1 = some ty ∧ ((∃ t, ty = .array t) ∨ ∃ n, ty = .object n)
theorem zm_putR {id ci j index a : Nat} {ty : FieldType} (pc' : Nat) (hp : pc + 3 = pc') (hd : decode Y.1 pc = .ok (.putfield index, 3)) (hF : zm_Ff Y.2.2.1 index ci j ty) (hini : Y.2.2.2.2.2.2 = "<init>") (hsh : zm_sh id = (4, ci)) (hlv : 0 < id ∧ id ≤ w.1) (ha : a ≠ 0) (k : ∀ rf, rf = zm_ur w.2 id j a → zm_V X Y E Qf kc ks ex (w.1, rf) pc' lv st M d f) : zm_V X Y E Qf kc ks ex w pc lv (.ref (E.2.1 + a) :: .ref (E.2.1 + id) :: st) M d f := by
  subst hp
  have k := k _ rfl
  obtain ⟨p, e, s, m, args, below, meth, c⟩ := X
  intro ok hz H locs ls hP hS hl r M' hr
  obtain ⟨C, T, N, ty0, h1, h2, h3, h4, h5, h6, h7, h8, h9, h10, h11, h12⟩ := hF
  refine va_putF (D := E.2.2.1) (cl := vwCl) (A := zm_A E.2) (C := C) (T := T) (N := N) (ci := ci) (ty := ty) (fs := zm_fs E.2.1 w.2 M id ci) (v := .ref (E.2.1 + a)) ok.1 ok.2.1 ok.2.2.2.2.1 h2 ty0 h7 h8 ok.2.2.2.1 ok.2.2.2.2.2.2.2.1 hP zm_ws_D hS (id - 1) (by rw [zm_ws_at hlv.1 hlv.2, zm_ent_o hsh]) h1 j h3 (ok.2.2.2.2.1 _ h5) (fun _ q => q) h9 (ok.2.2.2.2.2.2.2.2.2.trans hini) h10 h11 (by rcases h12 with ⟨t, rfl⟩ | ⟨t, rfl⟩ <;> rfl) (by rcases h12 with ⟨t, rfl⟩ | ⟨t, rfl⟩ <;> rfl) (by rw [zm_fs_len, ← h4]; exact h3) hd (fun H1 locs1 q1 q2 q3 => ?_)
  have e1 : (zm_fs E.2.1 w.2 M id ci).set j (.ref (E.2.1 + a)) = zm_fs E.2.1 (zm_ur w.2 id j a) M id ci := by
    rw [← zm_fs_set (rf := w.2) (rf' := zm_ur w.2 id j a) (M := M) (M' := M) (j := j) (fun x hx => by unfold zm_fv; simp [zm_ur, hx])]
    congr 1
    rw [h6]
    show _ = zm_rv E.2.1 (zm_ur w.2 id j a id j)
    rw [show zm_ur w.2 id j a id j = a by simp [zm_ur], zm_rv_pos ha]
  rw [e1, ← zm_ent_o (G := E.2) (rf := zm_ur w.2 id j a) (M := M) hsh] at q1
  have q1 : va_P E.2.2.1 vwCl (zm_ws E.2 (w.1, zm_ur w.2 id j a) M) H1 := by
    rw [← zm_ws_set (n := w.1) (rf := w.2) (rf' := zm_ur w.2 id j a) (M := M) hlv.1 (fun x hx => by unfold zm_ent zm_fs zm_fv; simp [zm_ur, hx])]
    exact q1
  exact k ok hz H1 locs1 ls q1 q3 hl r M' hr
theorem zm_objI {index a : Nat} (pc' : Nat) (hp : pc + 3 = pc') (hd : decode Y.1 pc = .ok (.invokespecial index, 3)) (h1 : Cond.methodLink Y.2.2.1 index objectInit ∈ zm_tbl) (h2 : Cond.instanceMethod objectInit ∈ zm_tbl) (h3 : Cond.code objectInit ⟨#[0xb1]⟩ 1 none ∈ zm_tbl) (hfr : 1 ≤ Y.2.2.2.1.frames) (hlo : (st.map fun v => v.category).sum + 12 ≤ Y.2.2.2.1.locals) (k : zm_V X Y E Qf kc ks ex w pc' lv st M d f) : zm_V X Y E Qf kc ks ex w pc lv (.ref a :: st) M d f := by
  subst hp
  obtain ⟨p, e, s, m, args, below, meth, c⟩ := X
  intro ok hz H locs ls hP hS hl r M' hr
  have hts := ok.2.2.2.2.1
  exact W.objInit ok.1 ok.2.1 ok.2.2.2.1 (hts _ h1) (hts _ h2) (hts _ h3) rfl (by rw [ok.2.2.1]; exact hl.1) rfl hd hfr (by show 2 * 0 + _ + 12 ≤ _; omega) (k ok hz H locs ls hP hS hl r M' hr)
/-- the stage of the making, told in another way -/
theorem zm_stage {w2 : zm_W} (h1 : w2.1 = w.1) (h2 : ∀ id, 0 < id → id ≤ w.1 → ∀ ci, zm_sh id = (4, ci) → ∀ j, j < zm_nf ci → zm_fk ci j = 3 → w2.2 id j = w.2 id j) (h3 : ∀ ci j, zm_fk ci j ≤ 3 ∨ zm_nf ci ≤ j) (k : zm_V X Y E Qf kc ks ex w2 pc lv st M d f) : zm_V X Y E Qf kc ks ex w pc lv st M d f := by
  have e : zm_ws E.2 w2 M = zm_ws E.2 w M := by
    unfold zm_ws
    rw [h1]
    refine List.map_congr_left (fun k hk => ?_)
    rw [List.mem_range] at hk
    have : zm_ent E.2 w2.2 M (k + 1) = zm_ent E.2 w.2 M (k + 1) := by
      unfold zm_ent
      split
      · rename_i h4
        have hsh : zm_sh (k + 1) = (4, (zm_sh (k + 1)).2) := by rw [← h4]
        congr 2
        unfold zm_fs
        refine List.map_congr_left (fun j hj => ?_)
        rw [List.mem_range] at hj
        unfold zm_fv
        by_cases hk3 : zm_fk (zm_sh (k + 1)).2 j = 3
        · rw [h2 (k + 1) (by omega) (by omega) _ hsh j hj hk3]
        · rcases h3 (zm_sh (k + 1)).2 j with h | h
          · have : zm_fk (zm_sh (k + 1)).2 j = 0 ∨ zm_fk (zm_sh (k + 1)).2 j = 1 ∨ zm_fk (zm_sh (k + 1)).2 j = 2 := by omega
            rcases this with h | h | h <;> simp [h]
          · omega
      · rfl
    rw [this]
  obtain ⟨p, e', s, m, args, below, meth, c⟩ := X
  intro ok hz H locs ls hP hS hl r M' hr
  exact k ok (fun a => by rw [h1]; exact hz a) H locs ls (by unfold zm_H; rw [e]; exact hP) hS hl r M' hr
end ZN
