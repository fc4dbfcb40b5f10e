/-! fields, arrays, returns, loops, calls -/
/-- a link of the pool to a field of a class of the world: its class's number, its place, its kind -/
def zm_Fl (own : String) (index ci k kd : Nat) : Prop := ∃ (C : String) (T : u_T) (N : Nat), vwCl[ci]? = some (C, T, N) ∧ (∀ w ∈ u_ws C T N, w ∈ zm_tbl) ∧ k < N ∧ N = zm_nf ci ∧ Cond.fieldLink own index (T k).1 (T k).2.1 (T k).2.2.1 ∈ zm_tbl ∧ zm_fk ci k = kd
/-- the same, for a write: not final, of a type -/
def zm_Fp (own : String) (index ci k kd : Nat) (ty : FieldType) : Prop := ∃ (C : String) (T : u_T) (N : Nat) (ty0 : Nat → FieldType), vwCl[ci]? = some (C, T, N) ∧ (∀ w ∈ u_ws C T N, w ∈ zm_tbl) ∧ k < N ∧ N = zm_nf ci ∧ Cond.fieldLink own index (T k).1 (T k).2.1 (T k).2.2.1 ∈ zm_tbl ∧ zm_fk ci k = kd ∧ (∀ k, k < N → parseFieldDescriptor (T k).2.2.1 = some (ty0 k)) ∧ (∀ a, a < N → ∀ b, b < N → a ≠ b → (T a).2.1 ≠ (T b).2.1) ∧ (T k).2.2.2 = false ∧ parseFieldDescriptor (T k).2.2.1 = some ty
section ZH
variable {α ρ : Type} {X : zm_C} {Y : zm_Y} {E : zm_E} {Qf : ρ → zm_Mem → State → Prop} {kc ks pc : Nat} {ex : Bool} {w : zm_W} {lv : List (Nat × Value)} {st : List Value} {M : zm_Mem} {d d1 d2 : Option α} {f : α → Option (ρ × zm_Mem)}
theorem zm_rv_pos {b k : Nat} (h : k ≠ 0) : zm_rv b k = .ref (b + k) := by unfold zm_rv; rw [if_neg h]
theorem zm_getf {id ci j kd index : Nat} (pc' : Nat) (hp : pc + 3 = pc') (hd : decode Y.1 pc = .ok (.getfield index, 3)) (hF : zm_Fl Y.2.2.1 index ci j kd) (hsh : zm_sh id = (4, ci)) (hlv : 0 < id ∧ id ≤ w.1) {v : Value} (hv : zm_fv E.2.1 w.2 M id j kd = v) (k : zm_V X Y E Qf kc ks ex w pc' lv (v :: st) M d f) : zm_V X Y E Qf kc ks ex w pc lv (.ref (E.2.1 + id) :: st) M d f := by
  subst hp
  obtain ⟨p, e, s, m, args, below, meth, c⟩ := X
  intro ok hz H locs ls hP hS hl r M' hr
  obtain ⟨C, T, N, h1, h2, h3, h4, h5, h6⟩ := hF
  refine va_get (D := E.2.2.1) (cl := vwCl) (C := C) (T := T) (N := N) (ci := ci) (fs := zm_fs E.2.1 w.2 M id ci) (v := v) ok.1 ok.2.1 ok.2.2.2.2.1 h2 ok.2.2.2.1 ok.2.2.2.2.2.2.2.1 hP (id - 1) (by rw [zm_ws_at hlv.1 hlv.2, zm_ent_o hsh]) h1 j h3 (ok.2.2.2.2.1 _ h5) (fun _ q => q) (by rw [zm_fs_get (by rw [← h4]; exact h3), h6, hv]) hd (k ok hz H locs ls hP hS hl r M' hr)
theorem zm_getI {id ci j index : Nat} (pc' : Nat) (hp : pc + 3 = pc') (hd : decode Y.1 pc = .ok (.getfield index, 3)) (hF : zm_Fl Y.2.2.1 index ci j 0) (hsh : zm_sh id = (4, ci)) (hlv : 0 < id ∧ id ≤ w.1) (k : zm_V X Y E Qf kc ks ex w pc' lv (.int (M.1 id j) :: st) M d f) : zm_V X Y E Qf kc ks ex w pc lv (.ref (E.2.1 + id) :: st) M d f := zm_getf pc' hp hd hF hsh hlv rfl k
theorem zm_getL {id ci j index : Nat} (pc' : Nat) (hp : pc + 3 = pc') (hd : decode Y.1 pc = .ok (.getfield index, 3)) (hF : zm_Fl Y.2.2.1 index ci j 1) (hsh : zm_sh id = (4, ci)) (hlv : 0 < id ∧ id ≤ w.1) (k : zm_V X Y E Qf kc ks ex w pc' lv (.long (M.2.1 id j) :: st) M d f) : zm_V X Y E Qf kc ks ex w pc lv (.ref (E.2.1 + id) :: st) M d f := zm_getf pc' hp hd hF hsh hlv rfl k
theorem zm_getR {id ci j index a : Nat} (pc' : Nat) (hp : pc + 3 = pc') (hd : decode Y.1 pc = .ok (.getfield index, 3)) (hF : zm_Fl Y.2.2.1 index ci j 3) (hsh : zm_sh id = (4, ci)) (hlv : 0 < id ∧ id ≤ w.1) (hr : w.2 id j = a) (ha : a ≠ 0) (k : zm_V X Y E Qf kc ks ex w pc' lv (.ref (E.2.1 + a) :: st) M d f) : zm_V X Y E Qf kc ks ex w pc lv (.ref (E.2.1 + id) :: st) M d f := zm_getf pc' hp hd hF hsh hlv (show zm_rv E.2.1 (w.2 id j) = _ by rw [hr]; exact zm_rv_pos ha) k
def zm_isT (t : Nat) : Bool := decide (t = 25) || decide (t = 36)
theorem zm_isT_or {t : Nat} (h : zm_isT t = true) : t = 25 ∨ t = 36 := by simpa [zm_isT] using h
theorem zm_T_o {t : Nat} (h : zm_isT t = true) : zm_sh t = (4, 8) := by rcases zm_isT_or h with rfl | rfl <;> rfl
theorem zm_T_l {t sv : Nat} (h : zm_isT t = true) (j : Nat) (hj : j ≤ 10) : 0 < t + j ∧ t + j ≤ zm_n sv := by
  have : 102 ≤ zm_n sv := by unfold zm_n; split <;> decide
  rcases zm_isT_or h with rfl | rfl <;> omega
theorem zm_T_l0 {t sv : Nat} (h : zm_isT t = true) : 0 < t ∧ t ≤ zm_n sv := zm_T_l h 0 (by decide)
theorem zm_L {a sv : Nat} (h : (Nat.ble 1 a && Nat.ble a 102) = true) : 0 < a ∧ a ≤ zm_n sv := by
  rw [Bool.and_eq_true] at h
  have h1 := Nat.le_of_ble_eq_true h.1
  have h2 := Nat.le_of_ble_eq_true h.2
  have : 102 ≤ zm_n sv := by unfold zm_n; split <;> decide
  omega
theorem zm_L1 {a : Nat} (h : (Nat.ble 1 a && Nat.ble a 115) = true) : 0 < a ∧ a ≤ zm_n 1 := by
  rw [Bool.and_eq_true] at h
  have h1 := Nat.le_of_ble_eq_true h.1
  have h2 := Nat.le_of_ble_eq_true h.2
  exact ⟨h1, h2⟩
/-- a changing reference to one of the two Told -/
theorem zm_getT {id ci j index : Nat} {body : Nat → Option α} (pc' : Nat) (hp : pc + 3 = pc') (hd : decode Y.1 pc = .ok (.getfield index, 3)) (hF : zm_Fl Y.2.2.1 index ci j 2) (hsh : zm_sh id = (4, ci)) (hlv : 0 < id ∧ id ≤ w.1) (k : ∀ t, t = M.2.2 id j → zm_isT t = true → zm_V X Y E Qf kc ks ex w pc' lv (.ref (E.2.1 + t) :: st) M (body t) f) : zm_V X Y E Qf kc ks ex w pc lv (.ref (E.2.1 + id) :: st) M (zm_v (M.2.2 id j) (fun t => zm_ck (zm_isT t) (body t))) f := by
  refine zm_gd (fun hg => ?_)
  exact zm_getf pc' hp hd hF hsh hlv (show zm_rv E.2.1 (M.2.2 id j) = _ from zm_rv_pos (by intro q; rw [q] at hg; cases hg)) (k _ rfl hg)
/-- a changing reference that must be one cell -/
theorem zm_getC {id ci j index a : Nat} (pc' : Nat) (hp : pc + 3 = pc') (hd : decode Y.1 pc = .ok (.getfield index, 3)) (hF : zm_Fl Y.2.2.1 index ci j 2) (hsh : zm_sh id = (4, ci)) (hlv : 0 < id ∧ id ≤ w.1) (ha : a ≠ 0) (k : zm_V X Y E Qf kc ks ex w pc' lv (.ref (E.2.1 + a) :: st) M d f) : zm_V X Y E Qf kc ks ex w pc lv (.ref (E.2.1 + id) :: st) M (zm_ck (decide (M.2.2 id j = a)) d) f := by
  refine zm_gd (fun hg => ?_)
  have hg := of_decide_eq_true hg
  exact zm_getf pc' hp hd hF hsh hlv (show zm_rv E.2.1 (M.2.2 id j) = _ by rw [hg]; exact zm_rv_pos ha) k
/-- Survey's look at Scene's own field, through the nest -/
theorem zm_getN {body : Nat → Option α} (pc' : Nat) (hp : pc + 3 = pc') (ho : Y.2.2.1 = "LentPictures$Survey") (hd : decode Y.1 pc = .ok (.getfield 41, 3)) (hin : ∀ w ∈ u_ws RX3 TX3 3, w ∈ zm_tbl) (hlv : 47 ≤ w.1) (k : ∀ t, t = M.2.2 47 2 → zm_isT t = true → zm_V X Y E Qf kc ks ex w pc' lv (.ref (E.2.1 + t) :: st) M (body t) f) : zm_V X Y E Qf kc ks ex w pc lv (.ref (E.2.1 + 47) :: st) M (zm_v (M.2.2 47 2) (fun t => zm_ck (zm_isT t) (body t))) f := by
  refine zm_gd (fun hg => ?_)
  subst hp
  have k := k _ rfl hg
  obtain ⟨p, e, s, m, args, below, meth, c⟩ := X
  intro ok hz H locs ls hP hS hl r M' hr
  refine va_getN (D := E.2.2.1) (cl := vwCl) (ref := "LentPictures$Scene") (C := RX3) (T := TX3) (N := 3) (ci := 3) (fs := zm_fs E.2.1 w.2 M 47 3) (v := .ref (E.2.1 + M.2.2 47 2)) (own := "LentPictures$Survey") (host := "LentPictures") ok.1 ok.2.1 ok.2.2.2.2.1 hin (by rw [← ho]; exact ok.2.2.2.1) ok.2.2.2.2.2.2.2.1 hP 46 (by rw [show (46 : Nat) = 47 - 1 from rfl, zm_ws_at (by decide) hlv, zm_ent_o (id := 47) rfl]) rfl 2 (by decide) (va_Nw.use rfl ok.2.2.2.2.2.2.2.2.1.2.2.1) (fun _ q => q) ?_ hd (k ok hz H locs ls hP hS hl r M' hr)
  rw [zm_fs_get (by decide)]
  show some (zm_rv E.2.1 (M.2.2 47 2)) = _
  rw [zm_rv_pos (by intro q; rw [q] at hg; cases hg)]
/-- a changing reference, tested: null or not -/
theorem zm_getnn {id ci j index : Nat} {off : Int} (pc1 tgt pcn : Nat) (hp : pc + 3 = pc1) (ht : (pc1 : Int) + off = (tgt : Int)) (hpn : pc1 + 3 = pcn) (hd : decode Y.1 pc = .ok (.getfield index, 3)) (hd2 : decode Y.1 pc1 = .ok (.ifnonnull off, 3)) (hF : zm_Fl Y.2.2.1 index ci j 2) (hsh : zm_sh id = (4, ci)) (hlv : 0 < id ∧ id ≤ w.1) (k1 : zm_V X Y E Qf kc ks ex w pcn lv st M d1 f) (k2 : zm_V X Y E Qf kc ks ex w tgt lv st M d2 f) : zm_V X Y E Qf kc ks ex w pc lv (.ref (E.2.1 + id) :: st) M (if M.2.2 id j = 0 then d1 else d2) f := by
  refine zm_case (fun h => ?_) (fun h => ?_)
  · subst hpn
    exact zm_getf pc1 hp hd hF hsh hlv (show zm_rv E.2.1 (M.2.2 id j) = .null by rw [h]; rfl) (zm_pure (fun hx hb _ _ _ w => lv_ifnonnullN hx hb hd2 w) k1)
  · exact zm_getf pc1 hp hd hF hsh hlv (show zm_rv E.2.1 (M.2.2 id j) = _ from zm_rv_pos h) (zm_pure (fun hx hb _ _ _ w => lv_ifnonnull hx hb hd2 ht w) k2)
theorem zm_getnu {id ci j index : Nat} {off : Int} (pc1 tgt pcn : Nat) (hp : pc + 3 = pc1) (ht : (pc1 : Int) + off = (tgt : Int)) (hpn : pc1 + 3 = pcn) (hd : decode Y.1 pc = .ok (.getfield index, 3)) (hd2 : decode Y.1 pc1 = .ok (.ifnull off, 3)) (hF : zm_Fl Y.2.2.1 index ci j 2) (hsh : zm_sh id = (4, ci)) (hlv : 0 < id ∧ id ≤ w.1) (k1 : zm_V X Y E Qf kc ks ex w tgt lv st M d1 f) (k2 : zm_V X Y E Qf kc ks ex w pcn lv st M d2 f) : zm_V X Y E Qf kc ks ex w pc lv (.ref (E.2.1 + id) :: st) M (if M.2.2 id j = 0 then d1 else d2) f := by
  refine zm_case (fun h => ?_) (fun h => ?_)
  · exact zm_getf pc1 hp hd hF hsh hlv (show zm_rv E.2.1 (M.2.2 id j) = .null by rw [h]; rfl) (zm_pure (fun hx hb _ _ _ w => lv_ifnullN hx hb hd2 ht w) k1)
  · subst hpn
    exact zm_getf pc1 hp hd hF hsh hlv (show zm_rv E.2.1 (M.2.2 id j) = _ from zm_rv_pos h) (zm_pure (fun hx hb _ _ _ w => lv_ifnull hx hb hd2 w) k2)
/-- a write into a field -/
theorem zm_putf {id ci j kd index : Nat} {ty : FieldType} {v : Value} {M1 : zm_Mem} (pc' : Nat) (hp : pc + 3 = pc') (hd : decode Y.1 pc = .ok (.putfield index, 3)) (hF : zm_Fp Y.2.2.1 index ci j kd ty) (hsh : zm_sh id = (4, ci)) (hlv : 0 < id ∧ id ≤ w.1) (hn : narrow ty v = v) (hfit : fits ty v = true) (hne : ∀ k, k ≠ id → zm_ent E.2 w.2 M1 k = zm_ent E.2 w.2 M k) (hfv : ∀ x kd, x ≠ j → zm_fv E.2.1 w.2 M1 id x kd = zm_fv E.2.1 w.2 M id x kd) (hv : zm_fv E.2.1 w.2 M1 id j kd = v) (k : zm_V X Y E Qf kc ks ex w pc' lv st M1 d f) : zm_V X Y E Qf kc ks ex w pc lv (v :: .ref (E.2.1 + id) :: st) M d f := by
  subst hp
  obtain ⟨p, e, s, m, args, below, meth, c⟩ := X
  intro ok hz H locs ls hP hS hl r M' hr
  obtain ⟨C, T, N, ty0, h1, h2, h3, h4, h5, h6, h7, h8, h9, h10⟩ := hF
  refine va_put (D := E.2.2.1) (cl := vwCl) (A := zm_A E.2) (C := C) (T := T) (N := N) (ci := ci) (ty := ty) (fs := zm_fs E.2.1 w.2 M id ci) (v := v) ok.1 ok.2.1 ok.2.2.2.2.1 h2 ty0 h7 h8 ok.2.2.2.1 ok.2.2.2.2.2.2.2.1 hP zm_ws_D hS (id - 1) (by rw [zm_ws_at hlv.1 hlv.2, zm_ent_o hsh]) h1 j h3 (ok.2.2.2.2.1 _ h5) (fun _ q => q) h9 h10 hn hfit (by rw [zm_fs_len, ← h4]; exact h3) hd (fun H1 locs1 q1 q2 q3 => ?_)
  have e1 : (zm_fs E.2.1 w.2 M id ci).set j v = zm_fs E.2.1 w.2 M1 id ci := by rw [← hv, ← h6]; exact zm_fs_set (fun x hx => hfv x _ hx)
  rw [e1, ← zm_ent_o (G := E.2) (rf := w.2) (M := M1) hsh] at q1
  have q1 : va_P E.2.2.1 vwCl (zm_ws E.2 w M1) H1 := by rw [← zm_ws_set (n := w.1) (rf := w.2) (rf' := w.2) (M := M) hlv.1 hne]; exact q1
  exact k ok hz H1 locs1 ls q1 q3 hl r M' hr
end ZH
