/-- what is told, and the state: all that the queries stand on -/
def Cx (M : zm_Mem) (t v : Nat) (D : zD) (S : Nat → Nat) (n : Nat) : Prop := (t = 25 ∨ t = 36) ∧ M.2.2 1 9 = t ∧ iv_T M t v D ∧ iv_R (M.1 12) (M.1 91) (D.1 0 0) (D.1 0 1) (D.1 0 2) n S
/-- the survey's cells as a making of the survey leaves them, for what is told and the state as they are now -/
def iv_sok (M : zm_Mem) (t : Nat) (D : zD) (S : Nat → Nat) : Prop := ∃ (Ma M0 M1 : zm_Mem) (s : Int32) (v n : Nat), n < 512 ∧ Cx Ma t v D S n ∧ Ma.1 109 = (fun _ => 0) ∧ Ma.1 110 = (fun _ => 0) ∧ f_X10_lookToday Ma = some ((), M0) ∧ f_X10_standing M0 = some s ∧ f_X6_make t s M0 = some ((), M1) ∧ M.1 103 = M1.1 103 ∧ M.2.1 103 = M1.2.1 103 ∧ M.2.1 104 = M1.2.1 104 ∧ M.2.1 105 = M1.2.1 105 ∧ M.1 108 = M1.1 108
/-- the rest -/
def Rx0 (M : zm_Mem) (t : Nat) (D : zD) (S : Nat → Nat) (q n : Nat) : Prop := M.2.2 1 10 = 61 - t ∧ ((q = 0 ∧ M.2.2 1 11 = 0 ∧ M.2.2 1 12 = 0) ∨ (q ≠ 0 ∧ M.2.2 1 11 = 103 ∧ M.2.2 1 12 = 112)) ∧ iv_tape M ∧ M.1 1 16 = M.1 52 17 ∧ iv_words M ∧ iv_past M (D.1 0 0) (D.1 0 1) (D.1 0 2) n ∧ iv_held M (D.1 0 0) (D.1 0 1) (D.1 0 2) n ∧ iv_crates M (D.1 0 1) ∧ (M.1 1 13 = 0 ∨ (M.1 1 13 = 1 ∧ q ≠ 0 ∧ iv_sok M t D S)) ∧ (q ≠ 0 → M.1 109 = (fun _ => 0) ∧ M.1 110 = (fun _ => 0))
/-- the rest, and the scene's told one is one of the two -/
def Rx (M : zm_Mem) (t : Nat) (D : zD) (S : Nat → Nat) (q n : Nat) : Prop := M.2.2 1 10 = 61 - t ∧ ((q = 0 ∧ M.2.2 1 11 = 0 ∧ M.2.2 1 12 = 0) ∨ (q ≠ 0 ∧ M.2.2 1 11 = 103 ∧ M.2.2 1 12 = 112)) ∧ iv_tape M ∧ M.1 1 16 = M.1 52 17 ∧ iv_words M ∧ iv_past M (D.1 0 0) (D.1 0 1) (D.1 0 2) n ∧ iv_held M (D.1 0 0) (D.1 0 1) (D.1 0 2) n ∧ iv_crates M (D.1 0 1) ∧ (M.1 1 13 = 0 ∨ (M.1 1 13 = 1 ∧ q ≠ 0 ∧ iv_sok M t D S)) ∧ (q ≠ 0 → M.1 109 = (fun _ => 0) ∧ M.1 110 = (fun _ => 0)) ∧ zm_isT (M.2.2 47 2) = true
/-- THE INVARIANT, behind n calls of which q made or used the survey -/
def Inv (M : zm_Mem) (q n : Nat) : Prop := ∃ t v D S, Cx M t v D S n ∧ Rx M t D S q n
/-- which cells the invariant looks at -/
def iv_c (id j : Nat) : Bool := match id with
  | 1 => decide (9 ≤ j)
  | 2 => true | 7 => true | 12 => true | 13 => true | 14 => true | 15 => true | 16 => decide (j = 7) | 17 => true | 18 => true | 19 => true
  | 52 => decide (j = 2) || (decide (j = 17) || (decide (j = 18) || (decide (j = 59) || decide (j = 65))))
  | 53 => true | 59 => true | 91 => true | 93 => true | 98 => true | 99 => true | 100 => true | 101 => true | 102 => true
  | 103 => true | 104 => true | 105 => true | 108 => true | 109 => true | 110 => true
  | id => (decide (25 ≤ id) && decide (id ≤ 46)) || (decide (63 ≤ id) && decide (id ≤ 87))
def iv_m (M : zm_Mem) : zm_Mem := (fun id j => if iv_c id j = true then M.1 id j else 0, fun id j => if iv_c id j = true then M.2.1 id j else 0, fun id j => if iv_c id j = true then M.2.2 id j else 0)
/-- two memories agree in all that the invariant looks at -/
def Sc (M M' : zm_Mem) : Prop := iv_m M' = iv_m M ∧ (zm_isT (M.2.2 47 2) = true → zm_isT (M'.2.2 47 2) = true)
theorem sc_of {M M' : zm_Mem} (h1 : ∀ id j, iv_c id j = true → M'.1 id j = M.1 id j) (h2 : ∀ id j, iv_c id j = true → M'.2.1 id j = M.2.1 id j) (h3 : ∀ id j, iv_c id j = true → M'.2.2 id j = M.2.2 id j) (h4 : zm_isT (M.2.2 47 2) = true → zm_isT (M'.2.2 47 2) = true) : Sc M M' := by
  refine ⟨?_, h4⟩
  unfold iv_m
  refine Prod.ext ?_ (Prod.ext ?_ ?_)
  · funext id j; simp only; split
    · rename_i hc; exact h1 id j hc
    · rfl
  · funext id j; simp only; split
    · rename_i hc; exact h2 id j hc
    · rfl
  · funext id j; simp only; split
    · rename_i hc; exact h3 id j hc
    · rfl
theorem sc_rfl (M : zm_Mem) : Sc M M := ⟨rfl, fun h => h⟩
theorem sc_tr {M M1 M2 : zm_Mem} (h : Sc M M1) (h' : Sc M1 M2) : Sc M M2 := ⟨Eq.trans h'.1 h.1, fun z => h'.2 (h.2 z)⟩
theorem sc_sI {M : zm_Mem} {a i : Nat} {x : Int32} (h : iv_c a i = false) : Sc M (zm_sI M a i x) := by
  refine sc_of (fun id j hc => ?_) (fun _ _ _ => rfl) (fun _ _ _ => rfl) (fun h => h)
  show (if id = a ∧ j = i then x else M.1 id j) = _
  rw [if_neg]
  rintro ⟨rfl, rfl⟩
  rw [hc] at h; cases h
theorem sc_sL {M : zm_Mem} {a i : Nat} {x : Int64} (h : iv_c a i = false) : Sc M (zm_sL M a i x) := by
  refine sc_of (fun _ _ _ => rfl) (fun id j hc => ?_) (fun _ _ _ => rfl) (fun h => h)
  show (if id = a ∧ j = i then x else M.2.1 id j) = _
  rw [if_neg]
  rintro ⟨rfl, rfl⟩
  rw [hc] at h; cases h
theorem sc_sP {M : zm_Mem} {a i : Nat} {x : Nat} (h : iv_c a i = false) (hx : zm_isT x = true) : Sc M (zm_sP M a i x) := by
  refine sc_of (fun _ _ _ => rfl) (fun _ _ _ => rfl) (fun id j hc => ?_) (fun z => ?_)
  · show (if id = a ∧ j = i then x else M.2.2 id j) = _
    rw [if_neg]
    rintro ⟨rfl, rfl⟩
    rw [hc] at h; cases h
  · show zm_isT (if 47 = a ∧ 2 = i then x else M.2.2 47 2) = true
    split
    · exact hx
    · exact z
theorem sc_1 {M M' : zm_Mem} (h : Sc M M') {id j : Nat} (hc : iv_c id j = true) : M'.1 id j = M.1 id j := by
  have := congrFun (congrFun (congrArg Prod.fst h.1) id) j
  simpa only [iv_m, hc, if_true] using this
theorem sc_2 {M M' : zm_Mem} (h : Sc M M') {id j : Nat} (hc : iv_c id j = true) : M'.2.1 id j = M.2.1 id j := by
  have := congrFun (congrFun (congrArg (fun z : zm_Mem => z.2.1) h.1) id) j
  simpa only [iv_m, hc, if_true] using this
theorem sc_3 {M M' : zm_Mem} (h : Sc M M') {id j : Nat} (hc : iv_c id j = true) : M'.2.2 id j = M.2.2 id j := by
  have := congrFun (congrFun (congrArg (fun z : zm_Mem => z.2.2) h.1) id) j
  simpa only [iv_m, hc, if_true] using this
set_option maxRecDepth 100000 in
theorem cx_m {M : zm_Mem} {t v n : Nat} {D : zD} {S : Nat → Nat} : Cx M t v D S n ↔ Cx (iv_m M) t v D S n := by
  constructor
  · rintro ⟨ht, h⟩
    rcases ht with rfl | rfl
    · exact ⟨Or.inl rfl, h⟩
    · exact ⟨Or.inr rfl, h⟩
  · rintro ⟨ht, h⟩
    rcases ht with rfl | rfl
    · exact ⟨Or.inl rfl, h⟩
    · exact ⟨Or.inr rfl, h⟩
set_option maxRecDepth 100000 in
theorem rx_m {M : zm_Mem} {t q n : Nat} {D : zD} {S : Nat → Nat} (ht : t = 25 ∨ t = 36) : Rx0 M t D S q n ↔ Rx0 (iv_m M) t D S q n := by
  rcases ht with rfl | rfl
  · exact Iff.rfl
  · exact Iff.rfl
theorem cx_sc {M M' : zm_Mem} {t v n : Nat} {D : zD} {S : Nat → Nat} (h : Sc M M') (H : Cx M t v D S n) : Cx M' t v D S n := by
  rw [cx_m, show iv_m M' = iv_m M from h.1, ← cx_m]; exact H
theorem rx_sc {M M' : zm_Mem} {t q n : Nat} {D : zD} {S : Nat → Nat} (ht : t = 25 ∨ t = 36) (h : Sc M M') (H : Rx M t D S q n) : Rx M' t D S q n := by
  obtain ⟨x1, x2, x3, x4, x5, x6, x7, x8, x9, x10, x11⟩ := H
  have H0 : Rx0 M t D S q n := ⟨x1, x2, x3, x4, x5, x6, x7, x8, x9, x10⟩
  have H1 : Rx0 M' t D S q n := by
    rw [rx_m ht, show iv_m M' = iv_m M from h.1, ← rx_m ht]; exact H0
  obtain ⟨y1, y2, y3, y4, y5, y6, y7, y8, y9, y10⟩ := H1
  exact ⟨y1, y2, y3, y4, y5, y6, y7, y8, y9, y10, h.2 x11⟩
/-- what the invariant doesn't look at may change -/
theorem iv_sc_keep {M M' : zm_Mem} {q n : Nat} (h : Inv M q n) (hs : Sc M M') : Inv M' q n := by
  obtain ⟨t, v, D, S, h1, h2⟩ := h
  exact ⟨t, v, D, S, cx_sc hs h1, rx_sc h1.1 hs h2⟩
theorem iv_R_mono {c r : Nat → Int32} {h w k n : Nat} {S : Nat → Nat} (H : iv_R c r h w k n S) : iv_R c r h w k (n + 1) S := by
  obtain ⟨h1, h2, h3, h4, h5, h6, h7, h8, h9, h10, h11, h12⟩ := H
  exact ⟨by omega, by omega, h3, h4, h5, h6, h7, h8, h9, h10, fun j hj => ⟨(h11 j hj).1, by have := (h11 j hj).2; omega⟩, h12⟩
theorem iv_past_mono {M : zm_Mem} {h w k n : Nat} (H : iv_past M h w k n) : iv_past M h w k (n + 1) := by
  obtain ⟨s, x, p1, p2, p3, p4, p5, p6⟩ := H
  exact ⟨s, x, p1, p2, p3, p4, p5, fun i hi => by obtain ⟨S, hS⟩ := p6 i hi; exact ⟨S, iv_R_mono hS⟩⟩
theorem iv_held_mono {M : zm_Mem} {h w k n : Nat} (H : iv_held M h w k n) : iv_held M h w k (n + 1) := by
  obtain ⟨a, b1, b2, b3⟩ := H
  exact ⟨a, b1, b2, fun s hs => ⟨(b3 s hs).1, fun z => by obtain ⟨S, hS⟩ := (b3 s hs).2 z; exact ⟨S, iv_R_mono hS⟩⟩⟩
theorem iv_mono {M : zm_Mem} {q n : Nat} (h : Inv M q n) : Inv M q (n + 1) := by
  obtain ⟨t, v, D, S, ⟨a1, a2, a3, a4⟩, b1, b2, b3, b4, b5, b6, b7, b8⟩ := h
  exact ⟨t, v, D, S, ⟨a1, a2, a3, iv_R_mono a4⟩, b1, b2, b3, b4, b5, iv_past_mono b6, iv_held_mono b7, b8⟩
/-- two calls agree, and the invariant holds behind them -/
def Ag (x : Option (Int32 × zm_Mem)) (m : zm_Mem → Option (Int32 × zm_Mem)) (q n : Nat) : Prop := ∃ r M1 M2, x = some (r, M1) ∧ m M1 = some (r, M2) ∧ Inv M2 q (n + 1)
def rd {β : Type} (g : Option β) (M : zm_Mem) : Option (β × zm_Mem) := g.map (fun r => (r, M))
theorem zm_ck_t {α : Type} {b : Bool} {d : Option α} (h : b = true) : zm_ck b d = d := by unfold zm_ck; rw [if_pos h]
theorem zm_in_nI {a L : Nat} (h : a < L) (hL : L < 2 ^ 31) : zm_in (nI a) L = true := by
  unfold zm_in
  rw [Bool.and_eq_true, decide_eq_true_eq, decide_eq_true_eq, nI_clamp (by omega)]
  exact ⟨nI_pos' (by omega), h⟩
theorem nI_k1 (a : Nat) : nI a + 1 = nI (a + 1) := nI_add a 1
theorem nI_k2 (a : Nat) : nI a + 2 = nI (a + 2) := nI_add a 2
theorem nI_k3 (a : Nat) : nI a + 3 = nI (a + 3) := nI_add a 3
theorem nI_k4 (a : Nat) : nI a + 4 = nI (a + 4) := nI_add a 4
theorem nI_k5 (a : Nat) : nI a + 5 = nI (a + 5) := nI_add a 5
theorem nI_k6 (a : Nat) : nI a + 6 = nI (a + 6) := nI_add a 6
/-- a step of the law: it goes on, with the invariant -/
def Go (x : Option ((Int32 × zm_Mem × Nat) ⊕ zm_Mem)) (i q n : Nat) : Prop := ∃ M' q', x = some (.inl (nI (i + 6), M', q')) ∧ Inv M' q' (n + 1) ∧ q' ≤ q + 1
theorem go_of {M' : zm_Mem} {i q q' n : Nat} (h : Inv M' q' (n + 1)) (hq : q' ≤ q + 1) : Go (f_law_go (nI i) M' q') i q n := ⟨M', q', by unfold f_law_go zm_v; rw [nI_k6], h, hq⟩
theorem ag_ww {x : Option (Int32 × zm_Mem)} {m : zm_Mem → Option (Int32 × zm_Mem)} {i q q' n : Nat} (h : Ag x m q' n) (hq : q' ≤ q + 1) : Go (zm_b2 x (fun r M1 => zm_b2 (m M1) (fun r2 M2 => if r = r2 then f_law_go (nI i) M2 q' else none))) i q n := by
  obtain ⟨r, M1, M2, h1, h2, h3⟩ := h
  unfold zm_b2
  rw [h1]
  simp only [Option.bind_some, h2, if_true]
  exact go_of h3 hq
theorem ag_wr {x : Option (Int32 × zm_Mem)} {m : zm_Mem → Option Int32} {i q q' n : Nat} (h : Ag x (fun M1 => rd (m M1) M1) q' n) (hq : q' ≤ q + 1) : Go (zm_b2 x (fun r M1 => zm_b1 (m M1) (fun r2 => if r = r2 then f_law_go (nI i) M1 q' else none))) i q n := by
  obtain ⟨r, M1, M2, h1, h2, h3⟩ := h
  unfold zm_b2 zm_b1
  rw [h1]
  simp only [Option.bind_some]
  simp only at h2
  cases hm : m M1 with
  | none => rw [hm] at h2; cases h2
  | some r2 =>
    rw [hm] at h2
    cases h2
    simp only [Option.bind_some, if_true]
    exact go_of h3 hq
theorem ag_rw {x : Option Int32} {M : zm_Mem} {m : zm_Mem → Option (Int32 × zm_Mem)} {i q q' n : Nat} (h : Ag (rd x M) m q' n) (hq : q' ≤ q + 1) : Go (zm_b1 x (fun r => zm_b2 (m M) (fun r2 M2 => if r = r2 then f_law_go (nI i) M2 q' else none))) i q n := by
  obtain ⟨r, M1, M2, h1, h2, h3⟩ := h
  unfold zm_b2 zm_b1
  cases hx : x with
  | none => rw [hx] at h1; cases h1
  | some r2 =>
    rw [hx] at h1
    cases h1
    simp only [Option.bind_some, h2, if_true]
    exact go_of h3 hq
theorem ag_rr {x : Option Int32} {M : zm_Mem} {m : zm_Mem → Option Int32} {i q q' n : Nat} (h : Ag (rd x M) (fun M1 => rd (m M1) M1) q' n) (hq : q' ≤ q + 1) : Go (zm_b1 x (fun r => zm_b1 (m M) (fun r2 => if r = r2 then f_law_go (nI i) M q' else none))) i q n := by
  obtain ⟨r, M1, M2, h1, h2, h3⟩ := h
  unfold zm_b1
  cases hx : x with
  | none => rw [hx] at h1; cases h1
  | some r2 =>
    rw [hx] at h1
    cases h1
    simp only at h2
    cases hm : m M with
    | none => rw [hm] at h2; cases h2
    | some r3 =>
      rw [hm] at h2
      cases h2
      simp only [Option.bind_some, if_true]
      exact go_of h3 hq
theorem iv_q {M : zm_Mem} {q n : Nat} (h : Inv M q n) : decide (q = 0 ↔ M.2.2 1 11 = 0) = true := by
  rw [decide_eq_true_eq]
  obtain ⟨t, v, D, S, -, -, h, -⟩ := h
  rcases h with ⟨a, b, _⟩ | ⟨a, b, _⟩
  · exact ⟨fun _ => b, fun _ => a⟩
  · exact ⟨fun z => absurd z a, fun z => by rw [b] at z; cases z⟩
