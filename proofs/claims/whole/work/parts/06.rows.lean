/-! THE JUDGEMENT: from here the machine comes to the end that the denotation d, then f, tells -/
abbrev zm_C : Type := Program × Env × State × MethodId × Array Value × List Frame × Method × Code
/-- code, locals, class, room, return type of a method; whether it makes cells, its name -/
abbrev zm_Y : Type := ByteArray × Nat × String × Room × Option FieldType × Bool × String
abbrev zm_E : Type := Launch × zm_G
def zm_H (G : zm_G) (w : zm_W) (M : zm_Mem) (H : Heap) : Prop := va_P G.2.1 vwCl (zm_ws G w M) H
def zm_ok (X : zm_C) (Y : zm_Y) (E : zm_E) : Prop := match X with
  | (p, _, s, m, args, _, meth, c) => p.tables.exec = Jvm.exec ∧ c.code = Y.1 ∧ c.maxLocals = Y.2.1 ∧ s.vm.findClass Y.2.2.1 = some m.cls ∧ (∀ w ∈ zm_tbl, w.before args s = true) ∧ meth.sig.returnType = Y.2.2.2.2.1 ∧ meth.locks = false ∧ va_K E.2.2.1 vwCl (zm_tys E.2) s ∧ zm_Z E.2 s ∧ meth.name = Y.2.2.2.2.2.2
def zm_V {α ρ : Type} (X : zm_C) (Y : zm_Y) (E : zm_E) (Qf : ρ → zm_Mem → State → Prop) (kc ks : Nat) (ex : Bool) (w : zm_W) (pc : Nat) (lv : List (Nat × Value)) (st : List Value) (M : zm_Mem) (d : Option α) (f : α → Option (ρ × zm_Mem)) : Prop := match X with
  | (p, e, s, m, args, below, meth, c) => zm_ok X Y E → (ex = true → s.heap.size + kc = E.2.1 + 1 + w.1) → ∀ (H : Heap) (locs : List Loc) (ls : Array Slot), zm_H E.2 w M H → va_S (zm_A E.2) s.heap H locs → lv_has ls Y.2.1 lv → ∀ (r : ρ) (M' : zm_Mem), d.bind f = some (r, M') → W p E.1 e Y.2.2.2.1 s m args below meth c H locs kc ks (Qf r M') (F0 m pc ls st)
/-- what a method's end is -/
def zm_Q {ρ : Type} (X : zm_C) (E : zm_E) (mc ms : Nat) (w : zm_W) (emb : ρ → Option Value) : ρ → zm_Mem → State → Prop := match X with
  | (_, _, s, _, args, below, _, _) => fun r M' => MQ below (fun _ st oc t => (oc = .returned (emb r) ∧ zm_H E.2 w M' t.heap) ∧ va_F (zm_A E.2) st t) args s mc ms (zm_A E.2)
/-- a method's contract at given arguments and memory, with its answer and the memory behind it -/
def zm_Ct (E : zm_E) (w w' : zm_W) (y : MethodName) (Y : zm_Y) (as : List Value) (M : zm_Mem) (v : Option Value) (M' : zm_Mem) : Prop :=
  Met E.1 y (Cond.code y Y.1 Y.2.1 Y.2.2.2.2.1 :: zm_tbl) Y.2.2.2.1 (va_Pc as (fun U => zm_H E.2 w M U.heap ∧ (Y.2.2.2.2.2.1 = true → U.heap.size = E.2.1 + 1 + w.1) ∧ va_K E.2.2.1 vwCl (zm_tys E.2) U ∧ zm_Z E.2 U)) (fun _ st oc t => (oc = .returned v ∧ zm_H E.2 w' M' t.heap) ∧ va_F (zm_A E.2) st t) Y.2.2.2.1.cells Y.2.2.2.1.slots (zm_A E.2)
section ZM
variable {α ρ : Type} {X : zm_C} {Y : zm_Y} {E : zm_E} {Qf : ρ → zm_Mem → State → Prop} {kc ks pc : Nat} {ex : Bool} {w : zm_W} {lv : List (Nat × Value)} {st : List Value} {M : zm_Mem} {d : Option α} {f : α → Option (ρ × zm_Mem)}
theorem zm_pure {pc' : Nat} {st' : List Value} (h : ∀ {p : Program} {e : Env} {s : State} {m : MethodId} {args : Array Value} {below : List Frame} {meth : Method} {c : Code} {H : Heap} {locs : List Loc} {Q : State → Prop} {ls : Array Slot}, p.tables.exec = Jvm.exec → c.code = Y.1 → lv_has ls Y.2.1 lv → s.vm.findClass Y.2.2.1 = some m.cls → (∀ w ∈ zm_tbl, w.before args s = true) → W p E.1 e Y.2.2.2.1 s m args below meth c H locs kc ks Q (F0 m pc' ls st') → W p E.1 e Y.2.2.2.1 s m args below meth c H locs kc ks Q (F0 m pc ls st))
    (k : zm_V X Y E Qf kc ks ex w pc' lv st' M d f) : zm_V X Y E Qf kc ks ex w pc lv st M d f := by
  obtain ⟨p, e, s, m, args, below, meth, c⟩ := X
  intro ok hz H locs ls hP hS hl r M' hd
  exact h ok.1 ok.2.1 hl ok.2.2.2.1 ok.2.2.2.2.1 (k ok hz H locs ls hP hS hl r M' hd)
theorem zm_store {pc' : Nat} {st' : List Value} {lv' : List (Nat × Value)} (h : ∀ {p : Program} {e : Env} {s : State} {m : MethodId} {args : Array Value} {below : List Frame} {meth : Method} {c : Code} {H : Heap} {locs : List Loc} {Q : State → Prop} {ls : Array Slot}, p.tables.exec = Jvm.exec → c.code = Y.1 → lv_has ls Y.2.1 lv → (∀ ls' : Array Slot, lv_has ls' Y.2.1 lv' → W p E.1 e Y.2.2.2.1 s m args below meth c H locs kc ks Q (F0 m pc' ls' st')) → W p E.1 e Y.2.2.2.1 s m args below meth c H locs kc ks Q (F0 m pc ls st))
    (k : zm_V X Y E Qf kc ks ex w pc' lv' st' M d f) : zm_V X Y E Qf kc ks ex w pc lv st M d f := by
  obtain ⟨p, e, s, m, args, below, meth, c⟩ := X
  intro ok hz H locs ls hP hS hl r M' hd
  exact h ok.1 ok.2.1 hl (fun ls' hl' => k ok hz H locs ls' hP hS hl' r M' hd)
/-- fewer locals, in another order -/
theorem zm_loc {lv' : List (Nat × Value)} (ks' : List Nat) (h : lv_pick lv ks' = lv') (k : zm_V X Y E Qf kc ks ex w pc lv' st M d f) : zm_V X Y E Qf kc ks ex w pc lv st M d f := by
  obtain ⟨p, e, s, m, args, below, meth, c⟩ := X
  intro ok hz H locs ls hP hS hl r M' hd
  exact k ok hz H locs ls hP hS (lv_sub hl ks' h) r M' hd
/-- the denotation in another form -/
theorem zm_den {β : Type} {d' : Option β} {f' : β → Option (ρ × zm_Mem)} (h : d.bind f = d'.bind f') (k : zm_V X Y E Qf kc ks ex w pc lv st M d' f') : zm_V X Y E Qf kc ks ex w pc lv st M d f := by
  obtain ⟨p, e, s, m, args, below, meth, c⟩ := X
  intro ok hz H locs ls hP hS hl r M' hd
  exact k ok hz H locs ls hP hS hl r M' (h ▸ hd)
theorem zm_some {a : α} (k : zm_V X Y E Qf kc ks ex w pc lv st M (f a) some) : zm_V X Y E Qf kc ks ex w pc lv st M (some a) f := zm_den (by simp) k
theorem zm_bind {β : Type} {d' : Option β} {g : β → Option α} (k : zm_V X Y E Qf kc ks ex w pc lv st M d' (fun x => (g x).bind f)) : zm_V X Y E Qf kc ks ex w pc lv st M (d'.bind g) f := zm_den (by rw [Option.bind_assoc]) k
theorem zm_unb (k : zm_V X Y E Qf kc ks ex w pc lv st M d f) : zm_V X Y E Qf kc ks ex w pc lv st M (d.bind f) some := zm_den (by simp) k
theorem zm_none : zm_V X Y E Qf kc ks ex w pc lv st M (none : Option α) f := by
  obtain ⟨p, e, s, m, args, below, meth, c⟩ := X
  intro ok hz H locs ls hP hS hl r M' hd
  cases hd
end ZM
