/-! a row an instruction -/
def zm_v {α β : Type} (x : β) (k : β → α) : α := k x
def zm_ck {α : Type} (b : Bool) (d : Option α) : Option α := if b = true then d else none
def zm_in (i : Int32) (N : Nat) : Bool := decide (0 ≤ i) && decide (i.toNatClampNeg < N)
theorem zm_in_vp {i : Int32} {N : Nat} (h : zm_in i N = true) : vp_in i N := by
  unfold zm_in at h
  rw [Bool.and_eq_true, decide_eq_true_eq, decide_eq_true_eq] at h
  intro q
  rcases q with q | q
  · exact absurd h.1 (Int32.not_le.mpr q)
  · omega
section ZR
variable {α ρ : Type} {X : zm_C} {Y : zm_Y} {E : zm_E} {Qf : ρ → zm_Mem → State → Prop} {kc ks pc : Nat} {ex : Bool} {w : zm_W} {lv : List (Nat × Value)} {st : List Value} {M : zm_Mem} {d d1 d2 : Option α} {f : α → Option (ρ × zm_Mem)}
theorem zm_nm {β : Type} {x : β} {mk : β → Value} {body : β → Option α} (k : ∀ z, z = x → zm_V X Y E Qf kc ks ex w pc lv (mk z :: st) M (body z) f) : zm_V X Y E Qf kc ks ex w pc lv (mk x :: st) M (zm_v x body) f := k x rfl
theorem zm_nmi {x : Int32} {body : Int32 → Option α} (k : ∀ z, z = x → zm_V X Y E Qf kc ks ex w pc lv (.int z :: st) M (body z) f) : zm_V X Y E Qf kc ks ex w pc lv (.int x :: st) M (zm_v x body) f := k x rfl
theorem zm_nml {x : Int64} {body : Int64 → Option α} (k : ∀ z, z = x → zm_V X Y E Qf kc ks ex w pc lv (.long z :: st) M (body z) f) : zm_V X Y E Qf kc ks ex w pc lv (.long x :: st) M (zm_v x body) f := k x rfl
theorem zm_gd {b : Bool} (k : b = true → zm_V X Y E Qf kc ks ex w pc lv st M d f) : zm_V X Y E Qf kc ks ex w pc lv st M (zm_ck b d) f := by
  by_cases h : b = true
  · refine zm_den ?_ (k h)
    unfold zm_ck; rw [if_pos h]
  · refine zm_den (d' := (none : Option α)) (f' := f) ?_ zm_none
    unfold zm_ck; rw [if_neg h]
theorem zm_case {c : Prop} [Decidable c] (k1 : c → zm_V X Y E Qf kc ks ex w pc lv st M d1 f) (k2 : ¬ c → zm_V X Y E Qf kc ks ex w pc lv st M d2 f) : zm_V X Y E Qf kc ks ex w pc lv st M (if c then d1 else d2) f := by
  by_cases h : c
  · rw [if_pos h]; exact k1 h
  · rw [if_neg h]; exact k2 h
theorem zm_br {c : Prop} [Decidable c] {tgt pcn : Nat} {st' : List Value} (h : ∀ {p : Program} {e : Env} {s : State} {m : MethodId} {args : Array Value} {below : List Frame} {meth : Method} {c0 : Code} {H : Heap} {locs : List Loc} {Q : State → Prop} {ls : Array Slot}, p.tables.exec = Jvm.exec → c0.code = Y.1 → (c → W p E.1 e Y.2.2.2.1 s m args below meth c0 H locs kc ks Q (F0 m tgt ls st)) → (¬ c → W p E.1 e Y.2.2.2.1 s m args below meth c0 H locs kc ks Q (F0 m pcn ls st)) → W p E.1 e Y.2.2.2.1 s m args below meth c0 H locs kc ks Q (F0 m pc ls st'))
    (k1 : zm_V X Y E Qf kc ks ex w tgt lv st M d1 f) (k2 : zm_V X Y E Qf kc ks ex w pcn lv st M d2 f) : zm_V X Y E Qf kc ks ex w pc lv st' M (if c then d1 else d2) f := by
  obtain ⟨p, e, s, m, args, below, meth, c0⟩ := X
  intro ok hz H locs ls hP hS hl r M' hd
  by_cases hc : c
  · rw [if_pos hc] at hd
    exact h ok.1 ok.2.1 (fun _ => k1 ok hz H locs ls hP hS hl r M' hd) (fun q => absurd hc q)
  · rw [if_neg hc] at hd
    exact h ok.1 ok.2.1 (fun q => absurd q hc) (fun _ => k2 ok hz H locs ls hP hS hl r M' hd)

theorem zm_iconst {n : Int} {v : Int32} (pc' : Nat) (hp : pc + 1 = pc') (hd : decode Y.1 pc = .ok (.iconst n, 1)) (hv : Int32.ofInt n = v) (k : zm_V X Y E Qf kc ks ex w pc' lv (.int v :: st) M d f) : zm_V X Y E Qf kc ks ex w pc lv st M d f := by
  subst hp
  exact zm_pure (fun hx hb hl ho ht kw => lv_iconst hx hb hd hv kw) k
theorem zm_bipush {n : Int} {v : Int32} (pc' : Nat) (hp : pc + 2 = pc') (hd : decode Y.1 pc = .ok (.bipush n, 2)) (hv : (Int8.ofInt n).toInt32 = v) (k : zm_V X Y E Qf kc ks ex w pc' lv (.int v :: st) M d f) : zm_V X Y E Qf kc ks ex w pc lv st M d f := by
  subst hp
  exact zm_pure (fun hx hb hl ho ht kw => lv_bipush hx hb hd hv kw) k
theorem zm_sipush {n : Int} {v : Int32} (pc' : Nat) (hp : pc + 3 = pc') (hd : decode Y.1 pc = .ok (.sipush n, 3)) (hv : (Int16.ofInt n).toInt32 = v) (k : zm_V X Y E Qf kc ks ex w pc' lv (.int v :: st) M d f) : zm_V X Y E Qf kc ks ex w pc lv st M d f := by
  subst hp
  exact zm_pure (fun hx hb hl ho ht kw => lv_sipush hx hb hd hv kw) k
theorem zm_lconst {n : Fin 2} {v : Int64} (pc' : Nat) (hp : pc + 1 = pc') (hd : decode Y.1 pc = .ok (.lconst n, 1)) (hv : Int64.ofNat (n : Nat) = v) (k : zm_V X Y E Qf kc ks ex w pc' lv (.long v :: st) M d f) : zm_V X Y E Qf kc ks ex w pc lv st M d f := by
  subst hp
  exact zm_pure (fun hx hb hl ho ht kw => lv_lconst hx hb hd hv kw) k
theorem zm_ldc {index : Nat} {v : Int32} (pc' : Nat) (hp : pc + 2 = pc') (hd : decode Y.1 pc = .ok (.ldc index, 2)) (hw : Cond.constant Y.2.2.1 index v ∈ zm_tbl) (k : zm_V X Y E Qf kc ks ex w pc' lv (.int v :: st) M d f) : zm_V X Y E Qf kc ks ex w pc lv st M d f := by
  subst hp
  exact zm_pure (fun hx hb hl ho ht kw => lv_ldc hx hb ho (ht _ hw) hd kw) k
theorem zm_ldcw {index : Nat} {v : Int32} (pc' : Nat) (hp : pc + 3 = pc') (hd : decode Y.1 pc = .ok (.ldc_w index, 3)) (hw : Cond.constant Y.2.2.1 index v ∈ zm_tbl) (k : zm_V X Y E Qf kc ks ex w pc' lv (.int v :: st) M d f) : zm_V X Y E Qf kc ks ex w pc lv st M d f := by
  subst hp
  exact zm_pure (fun hx hb hl ho ht kw => lv_ldcw hx hb ho (ht _ hw) hd kw) k
theorem zm_ldc2 {index : Nat} {v : Int64} (pc' : Nat) (hp : pc + 3 = pc') (hd : decode Y.1 pc = .ok (.ldc2_w index, 3)) (hw : Cond.constantLong Y.2.2.1 index v ∈ zm_tbl) (k : zm_V X Y E Qf kc ks ex w pc' lv (.long v :: st) M d f) : zm_V X Y E Qf kc ks ex w pc lv st M d f := by
  subst hp
  exact zm_pure (fun hx hb hl ho ht kw => lv_ldc2 hx hb ho (ht _ hw) hd kw) k
theorem zm_iload_n {x : Int32} {i : Nat} {k0 : Fin 4} (pc' : Nat) (hp : pc + 1 = pc') (hd : decode Y.1 pc = .ok (.iload_n k0, 1)) (hi : (k0 : Nat) = i) (j : Nat) (hj : lv[j]? = some (i, .int x)) (k : zm_V X Y E Qf kc ks ex w pc' lv (.int x :: st) M d f) : zm_V X Y E Qf kc ks ex w pc lv st M d f := by
  subst hp
  exact zm_pure (fun hx hb hl ho ht kw => lv_iload_n hx hb hd hi (lv_at hl j hj) kw) k
theorem zm_iload {x : Int32} {i : Nat} (pc' : Nat) (hp : pc + 2 = pc') (hd : decode Y.1 pc = .ok (.iload i, 2)) (j : Nat) (hj : lv[j]? = some (i, .int x)) (k : zm_V X Y E Qf kc ks ex w pc' lv (.int x :: st) M d f) : zm_V X Y E Qf kc ks ex w pc lv st M d f := by
  subst hp
  exact zm_pure (fun hx hb hl ho ht kw => lv_iload hx hb hd (lv_at hl j hj) kw) k
theorem zm_lload_n {x : Int64} {i : Nat} {k0 : Fin 4} (pc' : Nat) (hp : pc + 1 = pc') (hd : decode Y.1 pc = .ok (.lload_n k0, 1)) (hi : (k0 : Nat) = i) (j : Nat) (hj : lv[j]? = some (i, .long x)) (k : zm_V X Y E Qf kc ks ex w pc' lv (.long x :: st) M d f) : zm_V X Y E Qf kc ks ex w pc lv st M d f := by
  subst hp
  exact zm_pure (fun hx hb hl ho ht kw => lv_lload_n hx hb hd hi (lv_at hl j hj) kw) k
theorem zm_lload {x : Int64} {i : Nat} (pc' : Nat) (hp : pc + 2 = pc') (hd : decode Y.1 pc = .ok (.lload i, 2)) (j : Nat) (hj : lv[j]? = some (i, .long x)) (k : zm_V X Y E Qf kc ks ex w pc' lv (.long x :: st) M d f) : zm_V X Y E Qf kc ks ex w pc lv st M d f := by
  subst hp
  exact zm_pure (fun hx hb hl ho ht kw => lv_lload hx hb hd (lv_at hl j hj) kw) k
theorem zm_aload_n {x : Nat} {i : Nat} {k0 : Fin 4} (pc' : Nat) (hp : pc + 1 = pc') (hd : decode Y.1 pc = .ok (.aload_n k0, 1)) (hi : (k0 : Nat) = i) (j : Nat) (hj : lv[j]? = some (i, .ref x)) (k : zm_V X Y E Qf kc ks ex w pc' lv (.ref x :: st) M d f) : zm_V X Y E Qf kc ks ex w pc lv st M d f := by
  subst hp
  exact zm_pure (fun hx hb hl ho ht kw => lv_aload_n hx hb hd hi (lv_at hl j hj) kw) k
theorem zm_aload {x : Nat} {i : Nat} (pc' : Nat) (hp : pc + 2 = pc') (hd : decode Y.1 pc = .ok (.aload i, 2)) (j : Nat) (hj : lv[j]? = some (i, .ref x)) (k : zm_V X Y E Qf kc ks ex w pc' lv (.ref x :: st) M d f) : zm_V X Y E Qf kc ks ex w pc lv st M d f := by
  subst hp
  exact zm_pure (fun hx hb hl ho ht kw => lv_aload hx hb hd (lv_at hl j hj) kw) k
theorem zm_iadd {x y : Int32} (pc' : Nat) (hp : pc + 1 = pc') (hd : decode Y.1 pc = .ok (.iadd, 1))  (k : zm_V X Y E Qf kc ks ex w pc' lv (.int (x + y) :: st) M d f) : zm_V X Y E Qf kc ks ex w pc lv (.int y :: .int x :: st) M d f := by
  subst hp
  exact zm_pure (fun hx hb hl ho ht kw => lv_iadd hx hb hd kw) k
theorem zm_isub {x y : Int32} (pc' : Nat) (hp : pc + 1 = pc') (hd : decode Y.1 pc = .ok (.isub, 1))  (k : zm_V X Y E Qf kc ks ex w pc' lv (.int (x - y) :: st) M d f) : zm_V X Y E Qf kc ks ex w pc lv (.int y :: .int x :: st) M d f := by
  subst hp
  exact zm_pure (fun hx hb hl ho ht kw => lv_isub hx hb hd kw) k
theorem zm_imul {x y : Int32} (pc' : Nat) (hp : pc + 1 = pc') (hd : decode Y.1 pc = .ok (.imul, 1))  (k : zm_V X Y E Qf kc ks ex w pc' lv (.int (x * y) :: st) M d f) : zm_V X Y E Qf kc ks ex w pc lv (.int y :: .int x :: st) M d f := by
  subst hp
  exact zm_pure (fun hx hb hl ho ht kw => lv_imul hx hb hd kw) k
theorem zm_iand {x y : Int32} (pc' : Nat) (hp : pc + 1 = pc') (hd : decode Y.1 pc = .ok (.iand, 1))  (k : zm_V X Y E Qf kc ks ex w pc' lv (.int (x &&& y) :: st) M d f) : zm_V X Y E Qf kc ks ex w pc lv (.int y :: .int x :: st) M d f := by
  subst hp
  exact zm_pure (fun hx hb hl ho ht kw => lv_iand hx hb hd kw) k
theorem zm_ior {x y : Int32} (pc' : Nat) (hp : pc + 1 = pc') (hd : decode Y.1 pc = .ok (.ior, 1))  (k : zm_V X Y E Qf kc ks ex w pc' lv (.int (x ||| y) :: st) M d f) : zm_V X Y E Qf kc ks ex w pc lv (.int y :: .int x :: st) M d f := by
  subst hp
  exact zm_pure (fun hx hb hl ho ht kw => lv_ior hx hb hd kw) k
theorem zm_ixor {x y : Int32} (pc' : Nat) (hp : pc + 1 = pc') (hd : decode Y.1 pc = .ok (.ixor, 1))  (k : zm_V X Y E Qf kc ks ex w pc' lv (.int (x ^^^ y) :: st) M d f) : zm_V X Y E Qf kc ks ex w pc lv (.int y :: .int x :: st) M d f := by
  subst hp
  exact zm_pure (fun hx hb hl ho ht kw => lv_ixor hx hb hd kw) k
theorem zm_ishl {x y : Int32} (pc' : Nat) (hp : pc + 1 = pc') (hd : decode Y.1 pc = .ok (.ishl, 1))  (k : zm_V X Y E Qf kc ks ex w pc' lv (.int (x <<< (y &&& 31)) :: st) M d f) : zm_V X Y E Qf kc ks ex w pc lv (.int y :: .int x :: st) M d f := by
  subst hp
  exact zm_pure (fun hx hb hl ho ht kw => lv_ishl hx hb hd kw) k
theorem zm_ishr {x y : Int32} (pc' : Nat) (hp : pc + 1 = pc') (hd : decode Y.1 pc = .ok (.ishr, 1))  (k : zm_V X Y E Qf kc ks ex w pc' lv (.int (x >>> (y &&& 31)) :: st) M d f) : zm_V X Y E Qf kc ks ex w pc lv (.int y :: .int x :: st) M d f := by
  subst hp
  exact zm_pure (fun hx hb hl ho ht kw => lv_ishr hx hb hd kw) k
theorem zm_ladd {x y : Int64} (pc' : Nat) (hp : pc + 1 = pc') (hd : decode Y.1 pc = .ok (.ladd, 1))  (k : zm_V X Y E Qf kc ks ex w pc' lv (.long (x + y) :: st) M d f) : zm_V X Y E Qf kc ks ex w pc lv (.long y :: .long x :: st) M d f := by
  subst hp
  exact zm_pure (fun hx hb hl ho ht kw => lv_ladd hx hb hd kw) k
theorem zm_lsub {x y : Int64} (pc' : Nat) (hp : pc + 1 = pc') (hd : decode Y.1 pc = .ok (.lsub, 1))  (k : zm_V X Y E Qf kc ks ex w pc' lv (.long (x - y) :: st) M d f) : zm_V X Y E Qf kc ks ex w pc lv (.long y :: .long x :: st) M d f := by
  subst hp
  exact zm_pure (fun hx hb hl ho ht kw => lv_lsub hx hb hd kw) k
theorem zm_lmul {x y : Int64} (pc' : Nat) (hp : pc + 1 = pc') (hd : decode Y.1 pc = .ok (.lmul, 1))  (k : zm_V X Y E Qf kc ks ex w pc' lv (.long (x * y) :: st) M d f) : zm_V X Y E Qf kc ks ex w pc lv (.long y :: .long x :: st) M d f := by
  subst hp
  exact zm_pure (fun hx hb hl ho ht kw => lv_lmul hx hb hd kw) k
theorem zm_land {x y : Int64} (pc' : Nat) (hp : pc + 1 = pc') (hd : decode Y.1 pc = .ok (.land, 1))  (k : zm_V X Y E Qf kc ks ex w pc' lv (.long (x &&& y) :: st) M d f) : zm_V X Y E Qf kc ks ex w pc lv (.long y :: .long x :: st) M d f := by
  subst hp
  exact zm_pure (fun hx hb hl ho ht kw => lv_land hx hb hd kw) k
theorem zm_lor {x y : Int64} (pc' : Nat) (hp : pc + 1 = pc') (hd : decode Y.1 pc = .ok (.lor, 1))  (k : zm_V X Y E Qf kc ks ex w pc' lv (.long (x ||| y) :: st) M d f) : zm_V X Y E Qf kc ks ex w pc lv (.long y :: .long x :: st) M d f := by
  subst hp
  exact zm_pure (fun hx hb hl ho ht kw => lv_lor hx hb hd kw) k
theorem zm_lxor {x y : Int64} (pc' : Nat) (hp : pc + 1 = pc') (hd : decode Y.1 pc = .ok (.lxor, 1))  (k : zm_V X Y E Qf kc ks ex w pc' lv (.long (x ^^^ y) :: st) M d f) : zm_V X Y E Qf kc ks ex w pc lv (.long y :: .long x :: st) M d f := by
  subst hp
  exact zm_pure (fun hx hb hl ho ht kw => lv_lxor hx hb hd kw) k
theorem zm_ineg {x : Int32} (pc' : Nat) (hp : pc + 1 = pc') (hd : decode Y.1 pc = .ok (.ineg, 1))  (k : zm_V X Y E Qf kc ks ex w pc' lv (.int (-x) :: st) M d f) : zm_V X Y E Qf kc ks ex w pc lv (.int x :: st) M d f := by
  subst hp
  exact zm_pure (fun hx hb hl ho ht kw => lv_ineg hx hb hd kw) k
theorem zm_iushr {x y : Int32} (pc' : Nat) (hp : pc + 1 = pc') (hd : decode Y.1 pc = .ok (.iushr, 1))  (k : zm_V X Y E Qf kc ks ex w pc' lv (.int ((x.toUInt32 >>> (y.toUInt32 &&& Int32.toUInt32 31)).toInt32) :: st) M d f) : zm_V X Y E Qf kc ks ex w pc lv (.int y :: .int x :: st) M d f := by
  subst hp
  exact zm_pure (fun hx hb hl ho ht kw => lv_iushr hx hb hd rfl kw) k
theorem zm_lushr {x : Int64} {y : Int32} (pc' : Nat) (hp : pc + 1 = pc') (hd : decode Y.1 pc = .ok (.lushr, 1))  (k : zm_V X Y E Qf kc ks ex w pc' lv (.long ((x.toUInt64 >>> (y.toInt64.toUInt64 &&& Int64.toUInt64 63)).toInt64) :: st) M d f) : zm_V X Y E Qf kc ks ex w pc lv (.int y :: .long x :: st) M d f := by
  subst hp
  exact zm_pure (fun hx hb hl ho ht kw => lv_lushr hx hb hd rfl kw) k
theorem zm_lshl {x : Int64} {y : Int32} (pc' : Nat) (hp : pc + 1 = pc') (hd : decode Y.1 pc = .ok (.lshl, 1))  (k : zm_V X Y E Qf kc ks ex w pc' lv (.long (x <<< (y.toInt64 &&& 63)) :: st) M d f) : zm_V X Y E Qf kc ks ex w pc lv (.int y :: .long x :: st) M d f := by
  subst hp
  exact zm_pure (fun hx hb hl ho ht kw => lv_lshl hx hb hd rfl kw) k
theorem zm_lshr {x : Int64} {y : Int32} (pc' : Nat) (hp : pc + 1 = pc') (hd : decode Y.1 pc = .ok (.lshr, 1))  (k : zm_V X Y E Qf kc ks ex w pc' lv (.long (x >>> (y.toInt64 &&& 63)) :: st) M d f) : zm_V X Y E Qf kc ks ex w pc lv (.int y :: .long x :: st) M d f := by
  subst hp
  exact zm_pure (fun hx hb hl ho ht kw => lv_lshr hx hb hd rfl kw) k
theorem zm_i2l {x : Int32} (pc' : Nat) (hp : pc + 1 = pc') (hd : decode Y.1 pc = .ok (.i2l, 1))  (k : zm_V X Y E Qf kc ks ex w pc' lv (.long (x.toInt64) :: st) M d f) : zm_V X Y E Qf kc ks ex w pc lv (.int x :: st) M d f := by
  subst hp
  exact zm_pure (fun hx hb hl ho ht kw => lv_i2l hx hb hd rfl kw) k
theorem zm_l2i {x : Int64} (pc' : Nat) (hp : pc + 1 = pc') (hd : decode Y.1 pc = .ok (.l2i, 1))  (k : zm_V X Y E Qf kc ks ex w pc' lv (.int (x.toInt32) :: st) M d f) : zm_V X Y E Qf kc ks ex w pc lv (.long x :: st) M d f := by
  subst hp
  exact zm_pure (fun hx hb hl ho ht kw => lv_l2i hx hb hd rfl kw) k
theorem zm_i2b {x : Int32} (pc' : Nat) (hp : pc + 1 = pc') (hd : decode Y.1 pc = .ok (.i2b, 1))  (k : zm_V X Y E Qf kc ks ex w pc' lv (.int (x.toInt8.toInt32) :: st) M d f) : zm_V X Y E Qf kc ks ex w pc lv (.int x :: st) M d f := by
  subst hp
  exact zm_pure (fun hx hb hl ho ht kw => lv_i2b hx hb hd rfl kw) k
theorem zm_i2c {x : Int32} (pc' : Nat) (hp : pc + 1 = pc') (hd : decode Y.1 pc = .ok (.i2c, 1))  (k : zm_V X Y E Qf kc ks ex w pc' lv (.int ((x.toUInt32 % 65536).toInt32) :: st) M d f) : zm_V X Y E Qf kc ks ex w pc lv (.int x :: st) M d f := by
  subst hp
  exact zm_pure (fun hx hb hl ho ht kw => lv_i2c hx hb hd rfl kw) k
theorem zm_lcmp {x y : Int64} (pc' : Nat) (hp : pc + 1 = pc') (hd : decode Y.1 pc = .ok (.lcmp, 1))  (k : zm_V X Y E Qf kc ks ex w pc' lv (.int (lg_cmp x y) :: st) M d f) : zm_V X Y E Qf kc ks ex w pc lv (.long y :: .long x :: st) M d f := by
  subst hp
  exact zm_pure (fun hx hb hl ho ht kw => W.lcmp hx hb hd kw) k
theorem zm_dup {va : Value} (pc' : Nat) (hp : pc + 1 = pc') (hd : decode Y.1 pc = .ok (.dup, 1)) (hc : va.category = 1) (k : zm_V X Y E Qf kc ks ex w pc' lv (va :: va :: st) M d f) : zm_V X Y E Qf kc ks ex w pc lv (va :: st) M d f := by
  subst hp
  exact zm_pure (fun hx hb hl ho ht kw => lv_dup hx hb hd hc kw) k
theorem zm_dup2 {va vb : Value} (pc' : Nat) (hp : pc + 1 = pc') (hd : decode Y.1 pc = .ok (.dup2, 1)) (hc : va.category = 1) (hc2 : vb.category = 1) (k : zm_V X Y E Qf kc ks ex w pc' lv (va :: vb :: va :: vb :: st) M d f) : zm_V X Y E Qf kc ks ex w pc lv (va :: vb :: st) M d f := by
  subst hp
  exact zm_pure (fun hx hb hl ho ht kw => lv_dup2_11 hx hb hd hc hc2 kw) k
theorem zm_pop {va : Value} (pc' : Nat) (hp : pc + 1 = pc') (hd : decode Y.1 pc = .ok (.pop, 1)) (hc : va.category = 1) (k : zm_V X Y E Qf kc ks ex w pc' lv st M d f) : zm_V X Y E Qf kc ks ex w pc lv (va :: st) M d f := by
  subst hp
  exact zm_pure (fun hx hb hl ho ht kw => lv_pop hx hb hd hc kw) k
theorem zm_idiv {x y : Int32} (pc' : Nat) (hp : pc + 1 = pc') (hd : decode Y.1 pc = .ok (.idiv, 1)) (k : zm_V X Y E Qf kc ks ex w pc' lv (.int (x / y) :: st) M d f) : zm_V X Y E Qf kc ks ex w pc lv (.int y :: .int x :: st) M (zm_ck (!decide (y = 0)) d) f := by
  subst hp
  refine zm_gd (fun hg => ?_)
  have hne : ¬ y = 0 := by simpa using hg
  exact zm_pure (fun hx hb _ _ _ kw => lv_idiv hx hb hd hne kw) k
theorem zm_irem {x y : Int32} (pc' : Nat) (hp : pc + 1 = pc') (hd : decode Y.1 pc = .ok (.irem, 1)) (k : zm_V X Y E Qf kc ks ex w pc' lv (.int (x - x / y * y) :: st) M d f) : zm_V X Y E Qf kc ks ex w pc lv (.int y :: .int x :: st) M (zm_ck (!decide (y = 0)) d) f := by
  subst hp
  refine zm_gd (fun hg => ?_)
  have hne : ¬ y = 0 := by simpa using hg
  exact zm_pure (fun hx hb _ _ _ kw => lv_irem hx hb hd hne kw) k
theorem zm_goto {off : Int} (tgt : Nat) (ht : (pc : Int) + off = (tgt : Int)) (hd : decode Y.1 pc = .ok (.goto off, 3)) (k : zm_V X Y E Qf kc ks ex w tgt lv st M d f) : zm_V X Y E Qf kc ks ex w pc lv st M d f := zm_pure (fun hx hb _ _ _ kw => lv_goto hx hb hd ht kw) k
theorem zm_if_eq {x : Int32} {off : Int} (tgt pcn : Nat) (ht : (pc : Int) + off = (tgt : Int)) (hp : pc + 3 = pcn) (hd : decode Y.1 pc = .ok (.ifCond .eq off, 3)) (k1 : zm_V X Y E Qf kc ks ex w tgt lv st M d1 f) (k2 : zm_V X Y E Qf kc ks ex w pcn lv st M d2 f) : zm_V X Y E Qf kc ks ex w pc lv (.int x :: st) M (if x = 0 then d1 else d2) f := by
  subst hp
  exact zm_br (fun hx hb a b => lv_if_eq hx hb hd ht a b) k1 k2
theorem zm_if_lt {x : Int32} {off : Int} (tgt pcn : Nat) (ht : (pc : Int) + off = (tgt : Int)) (hp : pc + 3 = pcn) (hd : decode Y.1 pc = .ok (.ifCond .lt off, 3)) (k1 : zm_V X Y E Qf kc ks ex w tgt lv st M d1 f) (k2 : zm_V X Y E Qf kc ks ex w pcn lv st M d2 f) : zm_V X Y E Qf kc ks ex w pc lv (.int x :: st) M (if x < 0 then d1 else d2) f := by
  subst hp
  exact zm_br (fun hx hb a b => lv_if_lt hx hb hd ht a b) k1 k2
theorem zm_if_ge {x : Int32} {off : Int} (tgt pcn : Nat) (ht : (pc : Int) + off = (tgt : Int)) (hp : pc + 3 = pcn) (hd : decode Y.1 pc = .ok (.ifCond .ge off, 3)) (k1 : zm_V X Y E Qf kc ks ex w tgt lv st M d1 f) (k2 : zm_V X Y E Qf kc ks ex w pcn lv st M d2 f) : zm_V X Y E Qf kc ks ex w pc lv (.int x :: st) M (if 0 ≤ x then d1 else d2) f := by
  subst hp
  exact zm_br (fun hx hb a b => lv_if_ge hx hb hd ht a b) k1 k2
theorem zm_if_gt {x : Int32} {off : Int} (tgt pcn : Nat) (ht : (pc : Int) + off = (tgt : Int)) (hp : pc + 3 = pcn) (hd : decode Y.1 pc = .ok (.ifCond .gt off, 3)) (k1 : zm_V X Y E Qf kc ks ex w tgt lv st M d1 f) (k2 : zm_V X Y E Qf kc ks ex w pcn lv st M d2 f) : zm_V X Y E Qf kc ks ex w pc lv (.int x :: st) M (if 0 < x then d1 else d2) f := by
  subst hp
  exact zm_br (fun hx hb a b => lv_if_gt hx hb hd ht a b) k1 k2
theorem zm_if_le {x : Int32} {off : Int} (tgt pcn : Nat) (ht : (pc : Int) + off = (tgt : Int)) (hp : pc + 3 = pcn) (hd : decode Y.1 pc = .ok (.ifCond .le off, 3)) (k1 : zm_V X Y E Qf kc ks ex w tgt lv st M d1 f) (k2 : zm_V X Y E Qf kc ks ex w pcn lv st M d2 f) : zm_V X Y E Qf kc ks ex w pc lv (.int x :: st) M (if x ≤ 0 then d1 else d2) f := by
  subst hp
  exact zm_br (fun hx hb a b => lv_if_le hx hb hd ht a b) k1 k2
theorem zm_if_ne {x : Int32} {off : Int} (tgt pcn : Nat) (ht : (pc : Int) + off = (tgt : Int)) (hp : pc + 3 = pcn) (hd : decode Y.1 pc = .ok (.ifCond .ne off, 3)) (k1 : zm_V X Y E Qf kc ks ex w pcn lv st M d1 f) (k2 : zm_V X Y E Qf kc ks ex w tgt lv st M d2 f) : zm_V X Y E Qf kc ks ex w pc lv (.int x :: st) M (if x = 0 then d1 else d2) f := by
  subst hp
  exact zm_br (fun hx hb a b => lv_if_ne hx hb hd ht b a) k1 k2
theorem zm_icmp_eq {x y : Int32} {off : Int} (tgt pcn : Nat) (ht : (pc : Int) + off = (tgt : Int)) (hp : pc + 3 = pcn) (hd : decode Y.1 pc = .ok (.if_icmp .eq off, 3)) (k1 : zm_V X Y E Qf kc ks ex w tgt lv st M d1 f) (k2 : zm_V X Y E Qf kc ks ex w pcn lv st M d2 f) : zm_V X Y E Qf kc ks ex w pc lv (.int y :: .int x :: st) M (if x = y then d1 else d2) f := by
  subst hp
  exact zm_br (fun hx hb a b => lv_icmp_eq hx hb hd ht a b) k1 k2
theorem zm_icmp_lt {x y : Int32} {off : Int} (tgt pcn : Nat) (ht : (pc : Int) + off = (tgt : Int)) (hp : pc + 3 = pcn) (hd : decode Y.1 pc = .ok (.if_icmp .lt off, 3)) (k1 : zm_V X Y E Qf kc ks ex w tgt lv st M d1 f) (k2 : zm_V X Y E Qf kc ks ex w pcn lv st M d2 f) : zm_V X Y E Qf kc ks ex w pc lv (.int y :: .int x :: st) M (if x < y then d1 else d2) f := by
  subst hp
  exact zm_br (fun hx hb a b => lv_icmp_lt hx hb hd ht a b) k1 k2
theorem zm_icmp_ge {x y : Int32} {off : Int} (tgt pcn : Nat) (ht : (pc : Int) + off = (tgt : Int)) (hp : pc + 3 = pcn) (hd : decode Y.1 pc = .ok (.if_icmp .ge off, 3)) (k1 : zm_V X Y E Qf kc ks ex w tgt lv st M d1 f) (k2 : zm_V X Y E Qf kc ks ex w pcn lv st M d2 f) : zm_V X Y E Qf kc ks ex w pc lv (.int y :: .int x :: st) M (if y ≤ x then d1 else d2) f := by
  subst hp
  exact zm_br (fun hx hb a b => lv_icmp_ge hx hb hd ht a b) k1 k2
theorem zm_icmp_gt {x y : Int32} {off : Int} (tgt pcn : Nat) (ht : (pc : Int) + off = (tgt : Int)) (hp : pc + 3 = pcn) (hd : decode Y.1 pc = .ok (.if_icmp .gt off, 3)) (k1 : zm_V X Y E Qf kc ks ex w tgt lv st M d1 f) (k2 : zm_V X Y E Qf kc ks ex w pcn lv st M d2 f) : zm_V X Y E Qf kc ks ex w pc lv (.int y :: .int x :: st) M (if y < x then d1 else d2) f := by
  subst hp
  exact zm_br (fun hx hb a b => lv_icmp_gt hx hb hd ht a b) k1 k2
theorem zm_icmp_le {x y : Int32} {off : Int} (tgt pcn : Nat) (ht : (pc : Int) + off = (tgt : Int)) (hp : pc + 3 = pcn) (hd : decode Y.1 pc = .ok (.if_icmp .le off, 3)) (k1 : zm_V X Y E Qf kc ks ex w tgt lv st M d1 f) (k2 : zm_V X Y E Qf kc ks ex w pcn lv st M d2 f) : zm_V X Y E Qf kc ks ex w pc lv (.int y :: .int x :: st) M (if x ≤ y then d1 else d2) f := by
  subst hp
  exact zm_br (fun hx hb a b => lv_icmp_le hx hb hd ht a b) k1 k2
theorem zm_icmp_ne {x y : Int32} {off : Int} (tgt pcn : Nat) (ht : (pc : Int) + off = (tgt : Int)) (hp : pc + 3 = pcn) (hd : decode Y.1 pc = .ok (.if_icmp .ne off, 3)) (k1 : zm_V X Y E Qf kc ks ex w pcn lv st M d1 f) (k2 : zm_V X Y E Qf kc ks ex w tgt lv st M d2 f) : zm_V X Y E Qf kc ks ex w pc lv (.int y :: .int x :: st) M (if x = y then d1 else d2) f := by
  subst hp
  exact zm_br (fun hx hb a b => lv_icmp_ne hx hb hd ht b a) k1 k2
theorem zm_istore_n {x : Int32} {i : Nat} {k0 : Fin 4} {lv' : List (Nat × Value)} (pc' : Nat) (hp : pc + 1 = pc') (hd : decode Y.1 pc = .ok (.istore_n k0, 1)) (hi : (k0 : Nat) = i) (hn : i < Y.2.1) (hv : (i, Value.int x) :: lv.filter (fun q => !(q.1 == i) && !(q.1 + 1 == i && q.2.category == 2)) = lv') (k : zm_V X Y E Qf kc ks ex w pc' lv' st M d f) : zm_V X Y E Qf kc ks ex w pc lv (.int x :: st) M d f := by
  subst hp
  exact zm_store (fun hx hb hl kk => lv_istore_n hx hb hd hi hl hn hv kk) k
theorem zm_istore {x : Int32} {i : Nat}  {lv' : List (Nat × Value)} (pc' : Nat) (hp : pc + 2 = pc') (hd : decode Y.1 pc = .ok (.istore i, 2)) (hn : i < Y.2.1) (hv : (i, Value.int x) :: lv.filter (fun q => !(q.1 == i) && !(q.1 + 1 == i && q.2.category == 2)) = lv') (k : zm_V X Y E Qf kc ks ex w pc' lv' st M d f) : zm_V X Y E Qf kc ks ex w pc lv (.int x :: st) M d f := by
  subst hp
  exact zm_store (fun hx hb hl kk => lv_istore hx hb hd hl hn hv kk) k
theorem zm_lstore_n {x : Int64} {i : Nat} {k0 : Fin 4} {lv' : List (Nat × Value)} (pc' : Nat) (hp : pc + 1 = pc') (hd : decode Y.1 pc = .ok (.lstore_n k0, 1)) (hi : (k0 : Nat) = i) (hn : i + 1 < Y.2.1) (hv : (i, Value.long x) :: lv.filter (fun q => !(q.1 == i) && (!(q.1 == i + 1) && !(q.1 + 1 == i && q.2.category == 2))) = lv') (k : zm_V X Y E Qf kc ks ex w pc' lv' st M d f) : zm_V X Y E Qf kc ks ex w pc lv (.long x :: st) M d f := by
  subst hp
  exact zm_store (fun hx hb hl kk => lv_lstore_n hx hb hd hi hl hn hv kk) k
theorem zm_lstore {x : Int64} {i : Nat}  {lv' : List (Nat × Value)} (pc' : Nat) (hp : pc + 2 = pc') (hd : decode Y.1 pc = .ok (.lstore i, 2)) (hn : i + 1 < Y.2.1) (hv : (i, Value.long x) :: lv.filter (fun q => !(q.1 == i) && (!(q.1 == i + 1) && !(q.1 + 1 == i && q.2.category == 2))) = lv') (k : zm_V X Y E Qf kc ks ex w pc' lv' st M d f) : zm_V X Y E Qf kc ks ex w pc lv (.long x :: st) M d f := by
  subst hp
  exact zm_store (fun hx hb hl kk => lv_lstore hx hb hd hl hn hv kk) k
theorem zm_astore_n {x : Nat} {i : Nat} {k0 : Fin 4} {lv' : List (Nat × Value)} (pc' : Nat) (hp : pc + 1 = pc') (hd : decode Y.1 pc = .ok (.astore_n k0, 1)) (hi : (k0 : Nat) = i) (hn : i < Y.2.1) (hv : (i, Value.ref x) :: lv.filter (fun q => !(q.1 == i) && !(q.1 + 1 == i && q.2.category == 2)) = lv') (k : zm_V X Y E Qf kc ks ex w pc' lv' st M d f) : zm_V X Y E Qf kc ks ex w pc lv (.ref x :: st) M d f := by
  subst hp
  exact zm_store (fun hx hb hl kk => lv_astore_n hx hb hd hi hl hn hv kk) k
theorem zm_astore {x : Nat} {i : Nat}  {lv' : List (Nat × Value)} (pc' : Nat) (hp : pc + 2 = pc') (hd : decode Y.1 pc = .ok (.astore i, 2)) (hn : i < Y.2.1) (hv : (i, Value.ref x) :: lv.filter (fun q => !(q.1 == i) && !(q.1 + 1 == i && q.2.category == 2)) = lv') (k : zm_V X Y E Qf kc ks ex w pc' lv' st M d f) : zm_V X Y E Qf kc ks ex w pc lv (.ref x :: st) M d f := by
  subst hp
  exact zm_store (fun hx hb hl kk => lv_astore hx hb hd hl hn hv kk) k
theorem zm_iinc {x c0 : Int32} {i : Nat} {n : Int} {lv' : Int32 → List (Nat × Value)} {body : Int32 → Option α} (pc' : Nat) (hp : pc + 3 = pc') (hd : decode Y.1 pc = .ok (.iinc i n, 3)) (hc : Int32.ofInt n = c0) (j : Nat) (hj : lv[j]? = some (i, .int x)) (hn : i < Y.2.1) (hv : ∀ z : Int32, (i, Value.int z) :: lv.filter (fun q => !(q.1 == i) && !(q.1 + 1 == i && q.2.category == 2)) = lv' z) (k : ∀ z, z = x + c0 → zm_V X Y E Qf kc ks ex w pc' (lv' z) st M (body z) f) : zm_V X Y E Qf kc ks ex w pc lv st M (zm_v (x + c0) body) f := by
  subst hp
  subst hc
  exact zm_store (fun hx hb hl kk => lv_iinc (v := x + Int32.ofInt n) hx hb hd hl hj rfl hn (hv _) kk) (k _ rfl)
end ZR
