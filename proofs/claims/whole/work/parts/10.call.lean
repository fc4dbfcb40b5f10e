/-! calls -/
/-- a link to a method of an object, and all words that its call needs; n: how many arguments behind the object -/
def zm_Ml (own : String) (index : Nat) (y : MethodName) (Y : zm_Y) (n : Nat) : Prop := Cond.methodLink own index y ∈ zm_tbl ∧ Cond.instanceMethod y ∈ zm_tbl ∧ Cond.selects y.cls y y ∈ zm_tbl ∧ Cond.initialized y.cls ∈ zm_tbl ∧ Cond.code y Y.1 Y.2.1 Y.2.2.2.2.1 ∈ zm_tbl ∧ (y.cls ≠ "java/lang/invoke/MethodHandle" ∧ y.cls ≠ "java/lang/invoke/VarHandle" ∧ (parseMethodDescriptor y.desc).map (fun d => d.parameters.length) = some n)
def zm_Sl (own : String) (index : Nat) (y : MethodName) (Y : zm_Y) (n : Nat) : Prop := Cond.methodLink own index y ∈ zm_tbl ∧ Cond.static y ∈ zm_tbl ∧ Cond.initialized y.cls ∈ zm_tbl ∧ Cond.code y Y.1 Y.2.1 Y.2.2.2.2.1 ∈ zm_tbl ∧ (y.cls ≠ "java/lang/invoke/MethodHandle" ∧ y.cls ≠ "java/lang/invoke/VarHandle" ∧ (parseMethodDescriptor y.desc).map (fun d => d.parameters.length) = some n)
/-- room for a call -/
def zm_Rm (Y Y' : zm_Y) : Prop := Y'.2.2.2.1.frames + 1 ≤ Y.2.2.2.1.frames ∧ 8 + (Y'.2.1 + 11) + Y'.2.2.2.1.locals ≤ Y.2.2.2.1.locals
theorem zm_sz {p : Program} {l : Launch} {e : Env} {R : Room} {s : State} {m : MethodId} {args : Array Value} {below : List Frame} {meth : Method} {c : Code} {H : Heap} {locs : List Loc} {kc ks : Nat} {Q : State → Prop} {g : JFrame} (h : H.size ≤ s.heap.size + kc → W p l e R s m args below meth c H locs kc ks Q g) : W p l e R s m args below meth c H locs kc ks Q g := by
  intro T hT X
  refine h ?_ T hT X
  have := X.same.2.2.1
  rw [← hT]
  exact this
section ZC
variable {α ρ : Type} {X : zm_C} {Y : zm_Y} {E : zm_E} {Qf : ρ → zm_Mem → State → Prop} {kc ks pc : Nat} {ex : Bool} {w : zm_W} {lv : List (Nat × Value)} {st : List Value} {M : zm_Mem} {d d1 d2 : Option α} {f : α → Option (ρ × zm_Mem)}
theorem zm_blind {E : zm_E} {w : zm_W} {Y : zm_Y} {as : List Value} {M : zm_Mem} : FrameBlind (va_Pc as (fun U => zm_H E.2 w M U.heap ∧ (Y.2.2.2.2.2.1 = true → U.heap.size = E.2.1 + 1 + w.1) ∧ va_K E.2.2.1 vwCl (zm_tys E.2) U ∧ zm_Z E.2 U)) := by
  intro a U g mk h
  obtain ⟨h0, h1, h2, h3, h4⟩ := h
  exact ⟨h0, h1, h2, va_K.moved (u := U) (U := U.calling g mk a) (Vm.Alike.refl U.vm) h3, zm_Z.same h4 rfl rfl⟩
theorem zm_call {β : Type} {emb : β → Option Value} {g : Option (β × zm_Mem)} {kd : β → zm_Mem → Option α} {w2 : zm_W} {ex2 : Bool} {mc ms : Nat} {rest : List Value} (pc' : Nat) (hp : pc + 3 = pc') (hk : ex2 = true → ex = true ∧ w2.1 = w.1 + mc)
    (hrun : ∀ r M1, g = some (r, M1) → ∀ {p : Program} {e : Env} {s : State} {m : MethodId} {args : Array Value} {below : List Frame} {meth : Method} {c : Code} {H : Heap} {locs : List Loc} {ls : Array Slot}, zm_ok (p, e, s, m, args, below, meth, c) Y E → zm_H E.2 w M H → (ex = true → H.size ≤ E.2.1 + 1 + w.1) → va_S (zm_A E.2) s.heap H locs → lv_has ls Y.2.1 lv → va_Run p E.1 e Y.2.2.2.1 s m args below meth c H locs kc ks mc ms (F0 m pc ls st) rest (fun st oc t => (oc = .returned (emb r) ∧ zm_H E.2 w2 M1 t.heap) ∧ va_F (zm_A E.2) st t) (zm_A E.2))
    (k : ∀ r M1, g = some (r, M1) → zm_V X Y E Qf (kc + mc) (ks + ms) ex2 w2 pc' lv ((emb r).toList ++ rest) M1 (kd r M1) f) : zm_V X Y E Qf kc ks ex w pc lv st M (g.bind (fun q => kd q.1 q.2)) f := by
  subst hp
  obtain ⟨p, e, s, m, args, below, meth, c⟩ := X
  intro ok hz H locs ls hP hS hl r M' hr
  cases hg : g with
  | none => rw [hg] at hr; cases hr
  | some q =>
    obtain ⟨r1, M1⟩ := q
    rw [hg] at hr
    refine zm_sz (fun hsz => ?_)
    intro T hT XX
    obtain ⟨v, st₀, t, T', L, h0, X', hL, e1, e2, ⟨⟨hv, hb⟩, hF⟩, stp⟩ := hrun r1 M1 hg ok hP (fun a => by have := hz a; omega) hS hl T hT XX
    cases hv
    have hz1 := hF.1
    have hk1 := hF.2
    rw [h0] at hz1 hk1
    obtain ⟨t2, a1, b1⟩ := k r1 M1 hg ok (fun a => by
        obtain ⟨h1, h2⟩ := hk a
        have := hz h1
        omega) T'.heap (locs ++ L) ls (by rw [e1]; exact hb)
      ⟨Nat.le_trans hS.1 (by rw [e1]; exact hz1), fun q h1 h2 => by rw [e1, hk1 q (Nat.lt_of_lt_of_le h1 hS.1) h2]; exact hS.2.1 q h1 h2, fun q hq => by
        rcases List.mem_append.mp hq with h | h
        · exact hS.2.2 q h
        · exact hL q h⟩ hl r M' hr T' rfl X'
    exact ⟨t2, stp t2 a1, b1⟩
theorem zm_callV {β : Type} {emb : β → Option Value} {g : Option (β × zm_Mem)} {kd : β → zm_Mem → Option α} {index n id ci : Nat} {y : MethodName} {Y' : zm_Y} {T : u_T} {N : Nat} (pc' : Nat) (hp : pc + 3 = pc') (hd : decode Y.1 pc = .ok (.invokevirtual index, 3)) (As rest : List Value) (hst : st = As.reverse ++ .ref (E.2.1 + id) :: rest) (hml : zm_Ml Y.2.2.1 index y Y' n) (hsh : zm_sh id = (4, ci)) (hlv : 0 < id ∧ id ≤ w.1) (hc : vwCl[ci]? = some (y.cls, T, N)) (hn : As.length = n) (hw : (rest.map fun v => v.category).sum ≤ 8) (hrm : zm_Rm Y Y') (hr0 : Y'.2.2.2.1.cells = 0) (hr1 : Y'.2.2.2.1.slots = 0) (hcs : kc ≤ Y.2.2.2.1.cells ∧ ks ≤ Y.2.2.2.1.slots) (hal : Y'.2.2.2.2.2.1 = false)
    (hM : ∀ r M1, g = some (r, M1) → zm_Ct E w w y Y' (.ref (E.2.1 + id) :: As) M (emb r) M1)
    (k : ∀ r M1, g = some (r, M1) → zm_V X Y E Qf kc ks ex w pc' lv ((emb r).toList ++ rest) M1 (kd r M1) f) : zm_V X Y E Qf kc ks ex w pc lv st M (g.bind (fun q => kd q.1 q.2)) f := by
  subst hst
  refine zm_call (mc := 0) (ms := 0) pc' hp (fun h => ⟨h, rfl⟩) (fun r M1 hg p e s m args below meth c H locs ls ok hP _ hS hl => ?_) k
  have hM := hM r M1 hg
  unfold zm_Ct at hM
  rw [hr0, hr1] at hM
  obtain ⟨m1, m2, m3, m4, m5, m6⟩ := hml
  have hts := ok.2.2.2.2.1
  exact va_runV (C := y.cls) (As := As) (rest := rest) ⟨ok.1, ok.2.1, ok.2.2.1, ok.2.2.2.1, hts⟩ hM ⟨callB_of n hts (zm_GoodIn m5) rfl hr0 hr1 (hts _ m4) (hts _ m1) m6 hrm, hts _ m2, hts _ m3⟩
    ⟨zm_blind, va_recv ok.2.2.2.2.2.2.2.1 hP hc (q0 := id - 1) (by rw [zm_ws_at hlv.1 hlv.2, zm_ent_o hsh]), fun U hU hW => ⟨rfl, by rw [hU]; exact hP, (fun a => by rw [hal] at a; cases a), va_K.moved hW.alike ok.2.2.2.2.2.2.2.1, ok.2.2.2.2.2.2.2.2.1.go hS hU hW⟩⟩ rfl hn hl.1 rfl (lv_room hw) hd ⟨hcs.1, hcs.2⟩
theorem zm_callS {β : Type} {emb : β → Option Value} {g : Option (β × zm_Mem)} {kd : β → zm_Mem → Option α} {index n : Nat} {y : MethodName} {Y' : zm_Y} (pc' : Nat) (hp : pc + 3 = pc') (hd : decode Y.1 pc = .ok (.invokestatic index, 3)) (As rest : List Value) (hst : st = As.reverse ++ rest) (hml : zm_Sl Y.2.2.1 index y Y' n) (hn : As.length = n) (hw : (rest.map fun v => v.category).sum ≤ 8) (hrm : zm_Rm Y Y') (hr0 : Y'.2.2.2.1.cells = 0) (hr1 : Y'.2.2.2.1.slots = 0) (hcs : kc ≤ Y.2.2.2.1.cells ∧ ks ≤ Y.2.2.2.1.slots) (hal : Y'.2.2.2.2.2.1 = false)
    (hM : ∀ r M1, g = some (r, M1) → zm_Ct E w w y Y' As M (emb r) M1)
    (k : ∀ r M1, g = some (r, M1) → zm_V X Y E Qf kc ks ex w pc' lv ((emb r).toList ++ rest) M1 (kd r M1) f) : zm_V X Y E Qf kc ks ex w pc lv st M (g.bind (fun q => kd q.1 q.2)) f := by
  subst hst
  refine zm_call (mc := 0) (ms := 0) pc' hp (fun h => ⟨h, rfl⟩) (fun r M1 hg p e s m args below meth c H locs ls ok hP _ hS hl => ?_) k
  have hM := hM r M1 hg
  unfold zm_Ct at hM
  rw [hr0, hr1] at hM
  obtain ⟨m1, m2, m4, m5, m6⟩ := hml
  have hts := ok.2.2.2.2.1
  exact va_runS (As := As) (rest := rest) ⟨ok.1, ok.2.1, ok.2.2.1, ok.2.2.2.1, hts⟩ hM ⟨callB_of n hts (zm_GoodIn m5) rfl hr0 hr1 (hts _ m4) (hts _ m1) m6 hrm, hts _ m2⟩
    ⟨zm_blind, fun U hU hW => ⟨rfl, by rw [hU]; exact hP, (fun a => by rw [hal] at a; cases a), va_K.moved hW.alike ok.2.2.2.2.2.2.2.1, ok.2.2.2.2.2.2.2.2.1.go hS hU hW⟩⟩ rfl hn hl.1 rfl (lv_room hw) hd ⟨hcs.1, hcs.2⟩
/-- a method's contract out of its walk -/
theorem zm_meth {E : zm_E} {w w' : zm_W} {y : MethodName} {Y : zm_Y} {as : List Value} {M : zm_Mem} {emb : ρ → Option Value} {d : Option (ρ × zm_Mem)} {r : ρ} {M' : zm_Mem} (hy : plainName y.cls = true) (hc : y.cls = Y.2.2.1) (hnm : y.name = Y.2.2.2.2.2.2) (hle : (lg_sl as).length ≤ Y.2.1) (hg : d = some (r, M'))
    (h : ∀ X, zm_V X Y E (zm_Q X E Y.2.2.2.1.cells Y.2.2.2.1.slots w' emb) 0 0 Y.2.2.2.2.2.1 w 0 (lv_args 0 as) [] M d some) : zm_Ct E w w' y Y as M (emb r) M' := by
  unfold zm_Ct
  refine Met.ofW (cc := Y.1) (maxL := Y.2.1) (ret := Y.2.2.2.2.1) hy rfl ?_
  intro p e s m args below meth c s₁ B hml hv
  obtain ⟨rfl, hP, hz, hK, hZ⟩ := hv
  have hts := atoms_spec B.pre
  have hl := lv_entry as (n := Y.2.1) hle
  rw [lg_entry_eq]
  exact h (p, e, s, m, as.toArray, below, meth, c) ⟨B.exec, B.bytes, hml, by rw [← hc]; exact findClass_of_methodNamed B.named, fun w hw => hts w (List.mem_cons_of_mem _ hw), B.returns, B.notSynchronized, hK, hZ, (name_of_methodNamed B.named B.method).1.trans hnm⟩ (fun a => hz a) s.heap [] _ hP va_S.rf hl r M' (by rw [hg]; rfl)
end ZC
