/-! the law: its script, its loop, the calls that make the survey, its end -/
abbrev Y_L (nm : String) : zm_Y := (code, 4, "LentPicturesLaw", room_1, ret, true, nm)
section ZL
variable {α ρ : Type} {Y : zm_Y} {E : zm_E} {Qf : ρ → zm_Mem → State → Prop} {kc ks pc : Nat} {ex : Bool} {w : zm_W} {lv : List (Nat × Value)} {st : List Value} {M : zm_Mem} {d : Option α} {f : α → Option (ρ × zm_Mem)}
variable {p : Program} {e : Env} {s : State} {m : MethodId} {args : Array Value} {below : List Frame} {meth : Method} {c : Code}
theorem zm_sld {b L : Nat} {xs : Nat → Int32} {i : Int32} (hX : va_X b L xs s s.heap) (hbl : b < s.heap.size) (hbE : b ≤ E.2.1) (pc' : Nat) (hp : pc + 1 = pc') (hd : decode Y.1 pc = .ok (.iaload, 1)) (k : zm_V (p, e, s, m, args, below, meth, c) Y E Qf kc ks ex w pc' lv (.int (xs i.toNatClampNeg) :: st) M d f) : zm_V (p, e, s, m, args, below, meth, c) Y E Qf kc ks ex w pc lv (.int i :: .ref b :: st) M (zm_ck (zm_in i L) d) f := by
  refine zm_gd (fun hg => ?_)
  subst hp
  intro ok hz H locs ls hP hS hl r M' hr
  exact va_sld ok.1 ok.2.1 hX hbl (show ¬ E.2.1 < b by omega) hS (zm_in_vp hg) hd (k ok hz H locs ls hP hS hl r M' hr)
theorem zm_slen {b L : Nat} {xs : Nat → Int32} (hX : va_X b L xs s s.heap) (hbl : b < s.heap.size) (hbE : b ≤ E.2.1) (pc' : Nat) (hp : pc + 1 = pc') (hd : decode Y.1 pc = .ok (.arraylength, 1)) (k : zm_V (p, e, s, m, args, below, meth, c) Y E Qf kc ks ex w pc' lv (.int (Int32.ofNat L) :: st) M d f) : zm_V (p, e, s, m, args, below, meth, c) Y E Qf kc ks ex w pc lv (.ref b :: st) M d f := by
  subst hp
  intro ok hz H locs ls hP hS hl r M' hr
  exact va_slen ok.1 ok.2.1 hX hbl (show ¬ E.2.1 < b by omega) hS hd (k ok hz H locs ls hP hS hl r M' hr)
theorem zm_lpg {X : zm_C} {σ ε : Type} {step : σ → Option (σ ⊕ ε)} {kd : ε → Option α} (kcf ksf : σ → Nat) (exf : σ → Bool) (wf : σ → zm_W) (lvf : σ → List (Nat × Value)) (mf : σ → zm_Mem)
    (hb : ∀ (D : σ → Option (ρ × zm_Mem)) (f' : σ ⊕ ε → Option (ρ × zm_Mem)), (∀ s, f' (.inl s) = D s) → (∀ e, f' (.inr e) = (kd e).bind f) → (∀ s, zm_V X Y E Qf (kcf s) (ksf s) (exf s) (wf s) pc (lvf s) st (mf s) (D s) some) → ∀ s, zm_V X Y E Qf (kcf s) (ksf s) (exf s) (wf s) pc (lvf s) st (mf s) (step s) f') (s : σ) : zm_V X Y E Qf (kcf s) (ksf s) (exf s) (wf s) pc (lvf s) st (mf s) ((zm_lp step s).bind kd) f := by
  have key : ∀ n s, zm_V X Y E Qf (kcf s) (ksf s) (exf s) (wf s) pc (lvf s) st (mf s) ((zm_it step n s).bind (fun e => (kd e).bind f)) some := by
    intro n
    induction n with
    | zero => intro s; exact zm_none
    | succ n ih =>
      intro s
      refine zm_den ?_ (hb _ (fun x => x.elim (fun s => (zm_it step n s).bind (fun e => (kd e).bind f)) (fun e => (kd e).bind f)) (fun _ => rfl) (fun _ => rfl) ih s)
      rw [show zm_it step (n + 1) s = (step s).bind (fun x => x.elim (zm_it step n) some) from rfl]
      cases step s with
      | none => rfl
      | some x => cases x <;> simp
  obtain ⟨p, e, s0, m, args, below, meth, c⟩ := X
  intro ok hz H locs ls hP hS hl r M' hr
  cases hlp : zm_lp step s with
  | none => rw [hlp] at hr; cases hr
  | some e' =>
    obtain ⟨n, hn⟩ := zm_lp_it hlp
    refine key n s ok hz H locs ls hP hS hl r M' ?_
    rw [hn]
    rw [hlp] at hr
    simpa using hr
theorem zm_callQ {X : zm_C} {g : Option (Int32 × zm_Mem)} {kd : Int32 → zm_Mem → Option α} {index n q : Nat} {y : MethodName} {Yf : Bool → zm_Y} {T : u_T} {N : Nat} (pc' : Nat) (hp : pc + 3 = pc') (hd : decode Y.1 pc = .ok (.invokevirtual index, 3)) (As rest : List Value) (hst : st = As.reverse ++ .ref (E.2.1 + 1) :: rest) (hml : ∀ al, zm_Ml Y.2.2.1 index y (Yf al) n) (hc : vwCl[10]? = some (y.cls, T, N)) (hn : As.length = n) (hw : (rest.map fun v => v.category).sum ≤ 8) (hrm : ∀ al, zm_Rm Y (Yf al)) (hr0 : ∀ al, (Yf al).2.2.2.1.cells = 13) (hr1 : ∀ al, (Yf al).2.2.2.1.slots = 4296) (hcs : 102 + 13 * (q + 1) ≤ Y.2.2.2.1.cells ∧ 34429 + 4296 * (q + 1) ≤ Y.2.2.2.1.slots) (hal : ∀ al, (Yf al).2.2.2.2.2.1 = al)
    (hM0 : q = 0 → ∀ r M1, g = some (r, M1) → zm_Ct E (zm_w 0) (zm_w 1) y (Yf true) (.ref (E.2.1 + 1) :: As) M (some (.int r)) M1)
    (hM1 : q ≠ 0 → ∀ r M1, g = some (r, M1) → zm_Ct E (zm_w 1) (zm_w 1) y (Yf false) (.ref (E.2.1 + 1) :: As) M (some (.int r)) M1)
    (k : ∀ r M1, zm_V X Y E Qf (102 + 13 * (q + 1)) (34429 + 4296 * (q + 1)) (decide (q + 1 = 0)) (zm_w (q + 1)) pc' lv (.int r :: rest) M1 (kd r M1) f) : zm_V X Y E Qf (102 + 13 * q) (34429 + 4296 * q) (decide (q = 0)) (zm_w q) pc lv st M (zm_b2 g kd) f := by
  subst hst
  have hw1 : zm_w (q + 1) = zm_w 1 := by unfold zm_w zm_n; simp
  have e1 : 102 + 13 * (q + 1) = 102 + 13 * q + 13 := by omega
  have e2 : 34429 + 4296 * (q + 1) = 34429 + 4296 * q + 4296 := by omega
  refine zm_call (emb := zm_ei) (mc := 13) (ms := 4296) (ex2 := decide (q + 1 = 0)) (w2 := zm_w (q + 1)) pc' hp (fun a => by simp at a) (fun r M1 hg p e s m args below meth c H locs ls ok hP hsz hS hl => ?_) (fun r M1 _ => by
    have h := k r M1
    rw [e1, e2] at h
    exact h)
  have hts := ok.2.2.2.2.1
  have hlv := zm_L (a := 1) (sv := q) rfl
  rw [hw1]
  by_cases hq : q = 0
  · subst hq
    have hM := hM0 rfl r M1 hg
    unfold zm_Ct at hM
    rw [hr0, hr1] at hM
    obtain ⟨m1, m2, m3, m4, m5, m6⟩ := hml true
    refine va_runV (C := y.cls) (As := As) (rest := rest) ⟨ok.1, ok.2.1, ok.2.2.1, ok.2.2.2.1, hts⟩ hM ⟨callB_of n hts (zm_GoodIn m5) rfl (hr0 true) (hr1 true) (hts _ m4) (hts _ m1) m6 (hrm true), hts _ m2, hts _ m3⟩
      ⟨zm_blind, va_recv ok.2.2.2.2.2.2.2.1 hP hc (q0 := 1 - 1) (by rw [zm_ws_at hlv.1 hlv.2, zm_ent_o (id := 1) rfl]), fun U hU hW => ⟨rfl, by rw [hU]; exact hP, (fun _ => by
        rw [hU]
        have h3 := hsz rfl
        have h4 := (hP 101 _ (zm_ws_at (w := zm_w 0) (id := 102) (by decide) (by decide))).lt
        have h5 : (zm_w 0).1 = 102 := rfl
        simp only at h4
        omega), va_K.moved hW.alike ok.2.2.2.2.2.2.2.1, ok.2.2.2.2.2.2.2.2.1.go hS hU hW⟩⟩ rfl hn hl.1 rfl (lv_room hw) hd ⟨e1 ▸ hcs.1, e2 ▸ hcs.2⟩
  · have hM := hM1 hq r M1 hg
    have hw2 : zm_w q = zm_w 1 := by unfold zm_w zm_n; simp [hq]
    unfold zm_Ct at hM
    rw [hr0, hr1, ← hw2] at hM
    rw [← hw2]
    obtain ⟨m1, m2, m3, m4, m5, m6⟩ := hml false
    exact va_runV (C := y.cls) (As := As) (rest := rest) ⟨ok.1, ok.2.1, ok.2.2.1, ok.2.2.2.1, hts⟩ hM ⟨callB_of n hts (zm_GoodIn m5) rfl (hr0 false) (hr1 false) (hts _ m4) (hts _ m1) m6 (hrm false), hts _ m2, hts _ m3⟩
      ⟨zm_blind, va_recv ok.2.2.2.2.2.2.2.1 hP hc (q0 := 1 - 1) (by rw [zm_ws_at hlv.1 hlv.2, zm_ent_o (id := 1) rfl]), fun U hU hW => ⟨rfl, by rw [hU]; exact hP, (fun a => Bool.noConfusion ((hal false).symm.trans a)), va_K.moved hW.alike ok.2.2.2.2.2.2.2.1, ok.2.2.2.2.2.2.2.2.1.go hS hU hW⟩⟩ rfl hn hl.1 rfl (lv_room hw) hd ⟨e1 ▸ hcs.1, e2 ▸ hcs.2⟩
theorem zm_lawret {nm : String} {b : Nat} {f : α → Option (Unit × zm_Mem)} (hd : decode code pc = .ok (.ireturn, 1)) (hE : E.2.1 + 1 = s.heap.size) (h1 : kc ≤ 128088) (h2 : ks ≤ 8717986) : zm_V (p, e, s, m, #[Value.ref b], below, meth, c) (Y_L nm) E (fun (_ : Unit) _ => lw_Z below #[Value.ref b] s) kc ks ex w pc lv [.int 1] M d f := by
  intro ok hz H locs ls hP hS hl r M' hr
  refine va_forget (fun q hq => by have := hS.2.2 q hq; unfold zm_A at this; omega) ?_
  refine W.widen h1 h2 ?_
  exact lw_ret ok.1 ok.2.1 ok.2.2.2.2.2.1 ok.2.2.2.2.2.2.1 hd
end ZL
