/-! memory: ints, longs, changing references (0: null), by cell and place; the world that a memory is -/
abbrev zm_Mem : Type := (Nat → Nat → Int32) × (Nat → Nat → Int64) × (Nat → Nat → Nat)
def zm_sI (M : zm_Mem) (a i : Nat) (v : Int32) : zm_Mem := (fun x j => if x = a ∧ j = i then v else M.1 x j, M.2)
def zm_sL (M : zm_Mem) (a i : Nat) (v : Int64) : zm_Mem := (M.1, fun x j => if x = a ∧ j = i then v else M.2.1 x j, M.2.2)
def zm_sP (M : zm_Mem) (a i : Nat) (v : Nat) : zm_Mem := (M.1, M.2.1, fun x j => if x = a ∧ j = i then v else M.2.2 x j)
/-- base (the cell of id k lies at base + k); classes and slots; the classes of arrays by kind; where the standing cells lie -/
abbrev zm_G : Type := Nat × va_G × (Nat → ClassId) × (Nat → Nat)
def zm_rv (b k : Nat) : Value := if k = 0 then .null else .ref (b + k)
/-- how far the making has come: how many cells, and what the final references hold -/
abbrev zm_W : Type := Nat × (Nat → Nat → Nat)
abbrev zm_w (sv : Nat) : zm_W := (zm_n sv, zm_rf)
def zm_fv (b : Nat) (rf : Nat → Nat → Nat) (M : zm_Mem) (id j kd : Nat) : Value := if kd = 0 then .int (M.1 id j) else if kd = 1 then .long (M.2.1 id j) else if kd = 2 then zm_rv b (M.2.2 id j) else zm_rv b (rf id j)
def zm_fs (b : Nat) (rf : Nat → Nat → Nat) (M : zm_Mem) (id ci : Nat) : List Value := (List.range (zm_nf ci)).map (fun j => zm_fv b rf M id j (zm_fk ci j))
def zm_ent (G : zm_G) (rf : Nat → Nat → Nat) (M : zm_Mem) (id : Nat) : va_E := if (zm_sh id).1 = 4 then .inr ((zm_sh id).2, zm_fs G.1 rf M id (zm_sh id).2) else if (zm_sh id).1 = 2 then .inl (G.2.2.1 2, (zm_sh id).2, .inr (.inl (M.2.1 id))) else .inl (G.2.2.1 (zm_sh id).1, (zm_sh id).2, .inl (M.1 id))
def zm_ws (G : zm_G) (w : zm_W) (M : zm_Mem) : va_W := (List.range w.1).map (fun k => (G.1 + (k + 1), zm_ent G w.2 M (k + 1)))
def zm_tys (G : zm_G) : List (ClassId × FieldType) := [(G.2.2.1 0, .int), (G.2.2.1 1, .byte), (G.2.2.1 2, .long), (G.2.2.1 3, .boolean)]
def zm_A (G : zm_G) : Nat → Prop := fun q => G.1 < q
theorem zm_ws_at {G : zm_G} {w : zm_W} {id : Nat} {M : zm_Mem} (h0 : 0 < id) (hn : id ≤ w.1) : (zm_ws G w M)[id - 1]? = some (G.1 + id, zm_ent G w.2 M id) := by
  unfold zm_ws
  rw [List.getElem?_map, List.getElem?_range (by omega)]
  simp only [Option.map_some]
  rw [show id - 1 + 1 = id by omega]
theorem zm_ws_inv {G : zm_G} {w : zm_W} {k : Nat} {M : zm_Mem} {q : Nat × va_E} (h : (zm_ws G w M)[k]? = some q) : k < w.1 ∧ q = (G.1 + (k + 1), zm_ent G w.2 M (k + 1)) := by
  unfold zm_ws at h
  rw [List.getElem?_map] at h
  by_cases hk : k < w.1
  · rw [List.getElem?_range hk] at h
    exact ⟨hk, (Option.some.inj h).symm⟩
  · rw [List.getElem?_eq_none (by simpa using Nat.le_of_not_lt hk)] at h
    cases h
theorem zm_ws_D {G : zm_G} {w : zm_W} {M : zm_Mem} : va_D (zm_A G) (zm_ws G w M) := by
  refine ⟨fun i j x y hx hy e => ?_, fun k q hk => ?_⟩
  · obtain ⟨_, rfl⟩ := zm_ws_inv hx
    obtain ⟨_, rfl⟩ := zm_ws_inv hy
    simp only at e
    omega
  · obtain ⟨_, rfl⟩ := zm_ws_inv hk
    show G.1 < G.1 + (k + 1)
    omega
theorem zm_ws_set {G : zm_G} {n id : Nat} {rf rf' : Nat → Nat → Nat} {M M' : zm_Mem} (h0 : 0 < id) (h : ∀ k, k ≠ id → zm_ent G rf' M' k = zm_ent G rf M k) : (zm_ws G (n, rf) M).set (id - 1) (G.1 + id, zm_ent G rf' M' id) = zm_ws G (n, rf') M' := by
  refine List.ext_getElem? (fun k => ?_)
  rw [List.getElem?_set]
  unfold zm_ws
  simp only [List.length_map, List.length_range, List.getElem?_map]
  by_cases hk : id - 1 = k
  · subst hk
    by_cases hn : id - 1 < n
    · rw [if_pos rfl, if_pos hn, List.getElem?_range hn]
      simp only [Option.map_some]
      rw [show id - 1 + 1 = id by omega]
    · rw [if_pos rfl, if_neg hn, List.getElem?_eq_none (by simpa using Nat.le_of_not_lt hn)]
      rfl
  · rw [if_neg hk]
    by_cases hn : k < n
    · rw [List.getElem?_range hn]
      simp only [Option.map_some]
      rw [h (k + 1) (by omega)]
    · rw [List.getElem?_eq_none (by simpa using Nat.le_of_not_lt hn)]
      rfl
theorem zm_sI_row {M : zm_Mem} {a i : Nat} {v : Int32} {k : Nat} (h : k ≠ a) : (zm_sI M a i v).1 k = M.1 k := by
  funext j
  show (if k = a ∧ j = i then v else M.1 k j) = _
  rw [if_neg (fun q => h q.1)]
theorem zm_sL_row {M : zm_Mem} {a i : Nat} {v : Int64} {k : Nat} (h : k ≠ a) : (zm_sL M a i v).2.1 k = M.2.1 k := by
  funext j
  show (if k = a ∧ j = i then v else M.2.1 k j) = _
  rw [if_neg (fun q => h q.1)]
theorem zm_sP_row {M : zm_Mem} {a i : Nat} {v : Nat} {k : Nat} (h : k ≠ a) : (zm_sP M a i v).2.2 k = M.2.2 k := by
  funext j
  show (if k = a ∧ j = i then v else M.2.2 k j) = _
  rw [if_neg (fun q => h q.1)]
theorem zm_ent_eq {G : zm_G} {rf : Nat → Nat → Nat} {M M' : zm_Mem} {k : Nat} (h1 : M'.1 k = M.1 k) (h2 : M'.2.1 k = M.2.1 k) (h3 : M'.2.2 k = M.2.2 k) : zm_ent G rf M' k = zm_ent G rf M k := by
  unfold zm_ent zm_fs zm_fv
  rw [h1, h2, h3]
theorem zm_sI_ne {G : zm_G} {rf : Nat → Nat → Nat} {M : zm_Mem} {a i : Nat} {v : Int32} : ∀ k, k ≠ a → zm_ent G rf (zm_sI M a i v) k = zm_ent G rf M k := fun _ h => zm_ent_eq (zm_sI_row h) rfl rfl
theorem zm_sL_ne {G : zm_G} {rf : Nat → Nat → Nat} {M : zm_Mem} {a i : Nat} {v : Int64} : ∀ k, k ≠ a → zm_ent G rf (zm_sL M a i v) k = zm_ent G rf M k := fun _ h => zm_ent_eq rfl (zm_sL_row h) rfl
theorem zm_sP_ne {G : zm_G} {rf : Nat → Nat → Nat} {M : zm_Mem} {a i : Nat} {v : Nat} : ∀ k, k ≠ a → zm_ent G rf (zm_sP M a i v) k = zm_ent G rf M k := fun _ h => zm_ent_eq rfl rfl (zm_sP_row h)
theorem zm_ent_i {G : zm_G} {rf : Nat → Nat → Nat} {M : zm_Mem} {id kd N : Nat} (h : zm_sh id = (kd, N)) (h4 : kd ≠ 4) (h2 : kd ≠ 2) : zm_ent G rf M id = .inl (G.2.2.1 kd, N, .inl (M.1 id)) := by
  unfold zm_ent; rw [h]; simp only; rw [if_neg h4, if_neg h2]
theorem zm_ent_l {G : zm_G} {rf : Nat → Nat → Nat} {M : zm_Mem} {id N : Nat} (h : zm_sh id = (2, N)) : zm_ent G rf M id = .inl (G.2.2.1 2, N, .inr (.inl (M.2.1 id))) := by
  unfold zm_ent; rw [h]; simp only; rw [if_neg (by decide), if_pos trivial]
theorem zm_ent_o {G : zm_G} {rf : Nat → Nat → Nat} {M : zm_Mem} {id ci : Nat} (h : zm_sh id = (4, ci)) : zm_ent G rf M id = .inr (ci, zm_fs G.1 rf M id ci) := by
  unfold zm_ent; rw [h]; simp only; rw [if_pos trivial]
theorem zm_upd {M : zm_Mem} {a i : Nat} {v : Int32} : (zm_sI M a i v).1 a = upd (M.1 a) i v := by
  funext j
  show (if a = a ∧ j = i then v else M.1 a j) = (if j = i then v else M.1 a j)
  simp
theorem zm_updL {M : zm_Mem} {a i : Nat} {v : Int64} : (zm_sL M a i v).2.1 a = vp_updL (M.2.1 a) i v := by
  funext j
  show (if a = a ∧ j = i then v else M.2.1 a j) = (if j = i then v else M.2.1 a j)
  simp
theorem zm_fs_get {b : Nat} {rf : Nat → Nat → Nat} {M : zm_Mem} {id ci j : Nat} (h : j < zm_nf ci) : (zm_fs b rf M id ci)[j]? = some (zm_fv b rf M id j (zm_fk ci j)) := by
  unfold zm_fs
  rw [List.getElem?_map, List.getElem?_range h]
  rfl
theorem zm_fs_len {b : Nat} {rf : Nat → Nat → Nat} {M : zm_Mem} {id ci : Nat} : (zm_fs b rf M id ci).length = zm_nf ci := by simp [zm_fs]
theorem zm_fs_set {b : Nat} {rf rf' : Nat → Nat → Nat} {M M' : zm_Mem} {id ci j : Nat} (h : ∀ x, x ≠ j → zm_fv b rf' M' id x (zm_fk ci x) = zm_fv b rf M id x (zm_fk ci x)) : (zm_fs b rf M id ci).set j (zm_fv b rf' M' id j (zm_fk ci j)) = zm_fs b rf' M' id ci := by
  refine List.ext_getElem? (fun k => ?_)
  rw [List.getElem?_set, zm_fs_len]
  by_cases hk : j = k
  · subst hk
    by_cases hn : j < zm_nf ci
    · rw [if_pos rfl, if_pos hn, zm_fs_get hn]
    · rw [if_pos rfl, if_neg hn, List.getElem?_eq_none (by rw [zm_fs_len]; omega)]
  · rw [if_neg hk]
    by_cases hn : k < zm_nf ci
    · rw [zm_fs_get hn, zm_fs_get hn, h k (fun e => hk e.symm)]
    · rw [List.getElem?_eq_none (by rw [zm_fs_len]; omega), List.getElem?_eq_none (by rw [zm_fs_len]; omega)]
theorem zm_sI_fv {b : Nat} {rf : Nat → Nat → Nat} {M : zm_Mem} {id j : Nat} {v : Int32} : ∀ x kd, x ≠ j → zm_fv b rf (zm_sI M id j v) id x kd = zm_fv b rf M id x kd := by
  intro x kd hx
  unfold zm_fv
  have : (zm_sI M id j v).1 id x = M.1 id x := by
    show (if id = id ∧ x = j then v else M.1 id x) = _
    rw [if_neg (fun q => hx q.2)]
  rw [this]; rfl
theorem zm_sL_fv {b : Nat} {rf : Nat → Nat → Nat} {M : zm_Mem} {id j : Nat} {v : Int64} : ∀ x kd, x ≠ j → zm_fv b rf (zm_sL M id j v) id x kd = zm_fv b rf M id x kd := by
  intro x kd hx
  unfold zm_fv
  have : (zm_sL M id j v).2.1 id x = M.2.1 id x := by
    show (if id = id ∧ x = j then v else M.2.1 id x) = _
    rw [if_neg (fun q => hx q.2)]
  rw [this]; rfl
theorem zm_sP_fv {b : Nat} {rf : Nat → Nat → Nat} {M : zm_Mem} {id j : Nat} {v : Nat} : ∀ x kd, x ≠ j → zm_fv b rf (zm_sP M id j v) id x kd = zm_fv b rf M id x kd := by
  intro x kd hx
  unfold zm_fv
  have : (zm_sP M id j v).2.2 id x = M.2.2 id x := by
    show (if id = id ∧ x = j then v else M.2.2 id x) = _
    rw [if_neg (fun q => hx q.2)]
  rw [this]; rfl
/-! the tables' words that go from call to call -/
def zm_tbl : List Cond := lw_tbl.filter goodWord
theorem zm_tbl_in {w : Cond} (h : w ∈ lw_tbl) (hg : goodWord w = true) : w ∈ zm_tbl := List.mem_filter.mpr ⟨h, hg⟩
theorem zm_GoodIn {y : MethodName} {cc : ByteArray} {nL : Nat} {ret : Option FieldType} (h : Cond.code y cc nL ret ∈ zm_tbl) : GoodIn zm_tbl (Cond.code y cc nL ret :: zm_tbl) := by
  intro w hw
  have hm : w ∈ zm_tbl := by
    rcases List.mem_cons.mp hw with e | hw
    · rw [e]; exact h
    · exact hw
  exact ⟨hm, good_of_word (List.mem_filter.mp hm).2⟩
/-! what stands in the heap before the law begins, and stays -/
def zm_steps (j : Nat) : Int32 := [1, 8, 64, 320, 1600, 8000].getD j 0
def zm_str : List (List Int32) := [[104, 111, 117, 115, 101, 32, 119, 111, 114, 107, 32, 116, 101, 114, 109, 32, 116, 114, 105, 112, 32, 108, 105, 107, 101, 115, 32, 108, 97, 116, 101, 32, 99, 111, 117, 114, 105, 101, 114, 115, 32, 115, 101, 101, 100, 32, 105, 102, 32, 116, 104, 101, 110, 32, 101, 108, 115, 101, 32, 110, 111, 114, 116, 104, 32, 119, 97, 108, 108, 115, 32, 107, 105, 110, 100, 32, 118, 97, 108, 117, 101, 32, 109, 97, 110, 121, 32, 115, 97, 109, 101, 32, 104, 111, 109, 101, 32, 119, 104, 105, 99, 104, 32, 100, 97, 121, 32], [59, 61, 43, 45, 42, 47, 60, 40, 41]]
def zm_Z (G : zm_G) (U : State) : Prop :=
  va_Z "LentPictures$Survey" "STEPS" "[I" (.ref (G.2.2.2 0)) (zm_A G) U U.heap ∧ va_T .int (G.2.2.2 0) 6 (fun j => .int (zm_steps j)) (zm_A G) U U.heap ∧
  va_Nw (.fieldLinkNest "LentPictures$Survey" 41 "LentPictures$Scene" "told" "LLentPictures$Told;" "LentPictures") U ∧
  vk_R "LentPictures$Tokens" 25 "house work term trip likes late couriers seed if then else north walls kind value many same home which day " (G.2.2.2 1) U ∧ vk_R "LentPictures$Tokens" 62 ";=+-*/<()" (G.2.2.2 3) U ∧
  vk_S 2 [107, 9] zm_str (fun i => G.2.2.2 (1 + 2 * i)) (fun i => G.2.2.2 (2 + 2 * i)) (zm_A G) U U.heap ∧
  va_Z "java/lang/String" "COMPACT_STRINGS" "Z" (.int 1) (zm_A G) U U.heap ∧
  (G.1 < U.heap.size ∧ va_Nw (.methodLinkNest "LentPictures" 31 ⟨"LentPictures$State", "<init>", "()V"⟩ "LentPictures") U ∧ va_Nw (.methodLinkNest "LentPictures" 38 ⟨"LentPictures$Past", "<init>", "()V"⟩ "LentPictures") U ∧ va_Nw (.methodLinkNest "LentPictures" 49 ⟨"LentPictures$Crates", "<init>", "()V"⟩ "LentPictures") U ∧ va_Nw (.methodLinkNest "LentPictures$Scene" 11 ⟨"LentPictures$Sum", "<init>", "()V"⟩ "LentPictures") U ∧ va_Nw (.methodLinkNest "LentPictures" 338 ⟨"LentPictures$Ways", "<init>", "()V"⟩ "LentPictures") U) ∧
  ∃ v, va_Z "jdk/internal/util/Preconditions" "SIOOBE_FORMATTER" "Ljava/util/function/BiFunction;" v (zm_A G) U U.heap ∧ (v = .null ∨ ∃ a, v = .ref a)
theorem zm_Z.go {G : zm_G} {s U : State} {H : Heap} {locs : List Loc} (h : zm_Z G s) (hS : va_S (zm_A G) s.heap H locs) (hU : U.heap = H) (hW : s.WarmedH U.vm) : zm_Z G U := by
  obtain ⟨h1, h2, h3, h4, h5, h6, h7, ⟨n0, n1, n2, n3, n4, n5⟩, v, h8, h9⟩ := h
  subst hU
  exact ⟨(h1.moved hW.alike).kept hS.2.1, (h2.moved hW.alike).kept hS.2.1, h3.warmF hW, h4.warm hW, h5.warm hW, (h6.moved hW.alike).kept hS.2.1, (h7.moved hW.alike).kept hS.2.1, ⟨Nat.lt_of_lt_of_le n0 hS.1, n1.warmM hW, n2.warmM hW, n3.warmM hW, n4.warmM hW, n5.warmM hW⟩, v, (h8.moved hW.alike).kept hS.2.1, h9⟩
theorem zm_Z.same {G : zm_G} {s U : State} (h : zm_Z G s) (hU : U.heap = s.heap) (hv : U.vm = s.vm) : zm_Z G U := by
  obtain ⟨h1, h2, h3, h4, h5, h6, h7, ⟨n0, n1, n2, n3, n4, n5⟩, v, h8, h9⟩ := h
  have ha : s.vm.Alike U.vm := by rw [hv]; exact Vm.Alike.refl _
  exact ⟨by rw [hU]; exact h1.moved ha, by rw [hU]; exact h2.moved ha, h3.same rfl hv.symm, h4.same hv, h5.same hv, by rw [hU]; exact h6.moved ha, by rw [hU]; exact h7.moved ha, ⟨by rw [hU]; exact n0, n1.same rfl hv.symm, n2.same rfl hv.symm, n3.same rfl hv.symm, n4.same rfl hv.symm, n5.same rfl hv.symm⟩, v, by rw [hU]; exact h8.moved ha, h9⟩
