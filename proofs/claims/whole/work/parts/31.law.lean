/-- the survey as it was made, if it is held to be new: TO BE SAID (part 31, with the survey's own contracts) -/
def iv_sok (M : zm_Mem) (t h w k : Nat) : Prop := M.1 109 = (fun _ => 0) ∧ M.1 110 = (fun _ => 0) ∧ t = t ∧ h = h ∧ w = w ∧ k = k
/-- THE INVARIANT, behind n calls of which q made or used the survey -/
def Inv (M : zm_Mem) (q n : Nat) : Prop := ∃ t v h w k, (t = 25 ∨ t = 36) ∧ M.2.2 1 9 = t ∧ M.2.2 1 10 = 61 - t ∧ ((q = 0 ∧ M.2.2 1 11 = 0 ∧ M.2.2 1 12 = 0) ∨ (q ≠ 0 ∧ M.2.2 1 11 = 103 ∧ M.2.2 1 12 = 112)) ∧ iv_tape M ∧ M.1 1 16 = M.1 52 17 ∧ iv_words M ∧ iv_T M t v h w k ∧ iv_R (M.1 12) (M.1 91) h w k n ∧ iv_past M h w k n ∧ iv_held M h w k n ∧ iv_crates M w ∧ (M.1 1 13 = 0 ∨ (M.1 1 13 = 1 ∧ q ≠ 0 ∧ iv_sok M t h w k)) ∧ (q ≠ 0 → M.1 109 = (fun _ => 0) ∧ M.1 110 = (fun _ => 0))
/-- which cells the invariant looks at -/
def iv_c (id j : Nat) : Bool := match id with
  | 1 => decide (9 ≤ j)
  | 2 => true | 7 => true | 12 => true | 13 => true | 14 => true | 15 => true | 16 => decide (j = 7) | 17 => true | 18 => true | 19 => true
  | 52 => decide (j = 2) || (decide (j = 17) || (decide (j = 18) || (decide (j = 59) || decide (j = 65))))
  | 53 => true | 59 => true | 91 => true | 93 => true | 98 => true | 99 => true | 100 => true | 101 => true | 102 => true
  | 103 => true | 104 => true | 105 => true | 108 => true | 109 => true | 110 => true
  | id => (decide (25 ≤ id) && decide (id ≤ 46)) || (decide (63 ≤ id) && decide (id ≤ 87))
def iv_m (M : zm_Mem) : zm_Mem := (fun id j => if iv_c id j = true then M.1 id j else 0, fun id j => if iv_c id j = true then M.2.1 id j else 0, fun id j => if iv_c id j = true then M.2.2 id j else 0)
set_option maxRecDepth 100000 in
theorem iv_m_of {M : zm_Mem} {q n : Nat} (h : Inv M q n) : Inv (iv_m M) q n := by
  obtain ⟨t, v, hh, w, k, ht, h⟩ := h
  rcases ht with rfl | rfl
  · exact ⟨25, v, hh, w, k, Or.inl rfl, h⟩
  · exact ⟨36, v, hh, w, k, Or.inr rfl, h⟩
set_option maxRecDepth 100000 in
theorem iv_of_m {M : zm_Mem} {q n : Nat} (h : Inv (iv_m M) q n) : Inv M q n := by
  obtain ⟨t, v, hh, w, k, ht, h⟩ := h
  rcases ht with rfl | rfl
  · exact ⟨25, v, hh, w, k, Or.inl rfl, h⟩
  · exact ⟨36, v, hh, w, k, Or.inr rfl, h⟩
/-- what the invariant doesn't look at may change -/
theorem iv_keep {M M' : zm_Mem} {q n : Nat} (h : Inv M q n) (h1 : ∀ id j, iv_c id j = true → M'.1 id j = M.1 id j) (h2 : ∀ id j, iv_c id j = true → M'.2.1 id j = M.2.1 id j) (h3 : ∀ id j, iv_c id j = true → M'.2.2 id j = M.2.2 id j) : Inv M' q n := by
  refine iv_of_m ?_
  have e : iv_m M' = iv_m M := by
    unfold iv_m
    refine Prod.ext ?_ (Prod.ext ?_ ?_)
    · funext id j; simp only; split
      · rename_i hc; exact h1 id j hc
      · rfl
    · funext id j; simp only; split
      · rename_i hc; exact h2 id j hc
      · rfl
    · funext id j; simp only; split
      · rename_i hc; exact h3 id j hc
      · rfl
  rw [e]
  exact iv_m_of h
theorem iv_R_mono {c r : Nat → Int32} {h w k n : Nat} (H : iv_R c r h w k n) : iv_R c r h w k (n + 1) := by
  obtain ⟨d, h1, h2, h3, ⟨a, ha, ha2⟩, h5, h6, h7, h8⟩ := H
  refine ⟨d, by omega, h2, h3, ⟨a, by omega, ha2⟩, h5, h6, fun j hj => ?_, h8⟩
  obtain ⟨g, a, g1, g2, g3⟩ := h7 j hj
  exact ⟨g, a, g1, by omega, g3⟩
theorem iv_mono {M : zm_Mem} {q n : Nat} (h : Inv M q n) : Inv M q (n + 1) := by
  obtain ⟨t, v, hh, w, k, h1, h2, h3, h4, h5, h6, h7, h8, h9, ⟨s, x, p1, p2, p3, p4, p5, p6⟩, ⟨a, b1, b2, b3⟩, h12, h13⟩ := h
  exact ⟨t, v, hh, w, k, h1, h2, h3, h4, h5, h6, h7, h8, iv_R_mono h9, ⟨s, x, p1, p2, p3, p4, p5, fun i hi => iv_R_mono (p6 i hi)⟩, ⟨a, b1, b2, fun s hs => ⟨(b3 s hs).1, fun z => iv_R_mono ((b3 s hs).2 z)⟩⟩, h12, h13⟩
/-- two calls agree, and the invariant holds behind them -/
def Ag (x : Option (Int32 × zm_Mem)) (m : zm_Mem → Option (Int32 × zm_Mem)) (q n : Nat) : Prop := ∃ r M1 M2, x = some (r, M1) ∧ m M1 = some (r, M2) ∧ Inv M2 q (n + 1)
def rd {β : Type} (g : Option β) (M : zm_Mem) : Option (β × zm_Mem) := g.map (fun r => (r, M))
theorem zm_ck_t {α : Type} {b : Bool} {d : Option α} (h : b = true) : zm_ck b d = d := by unfold zm_ck; rw [if_pos h]
theorem zm_in_nI {a L : Nat} (h : a < L) (hL : L < 2 ^ 31) : zm_in (nI a) L = true := by
  unfold zm_in
  rw [Bool.and_eq_true, decide_eq_true_eq, decide_eq_true_eq, nI_clamp (by omega)]
  exact ⟨nI_pos' (by omega), h⟩
theorem nI_k1 (a : Nat) : nI a + 1 = nI (a + 1) := nI_add a 1
theorem nI_k2 (a : Nat) : nI a + 2 = nI (a + 2) := nI_add a 2
theorem nI_k3 (a : Nat) : nI a + 3 = nI (a + 3) := nI_add a 3
theorem nI_k4 (a : Nat) : nI a + 4 = nI (a + 4) := nI_add a 4
theorem nI_k5 (a : Nat) : nI a + 5 = nI (a + 5) := nI_add a 5
theorem nI_k6 (a : Nat) : nI a + 6 = nI (a + 6) := nI_add a 6
/-- a step of the law: it goes on, with the invariant -/
def Go (x : Option ((Int32 × zm_Mem × Nat) ⊕ zm_Mem)) (i q n : Nat) : Prop := ∃ M' q', x = some (.inl (nI (i + 6), M', q')) ∧ Inv M' q' (n + 1) ∧ q' ≤ q + 1
theorem go_of {M' : zm_Mem} {i q q' n : Nat} (h : Inv M' q' (n + 1)) (hq : q' ≤ q + 1) : Go (f_law_go (nI i) M' q') i q n := ⟨M', q', by unfold f_law_go zm_v; rw [nI_k6], h, hq⟩
theorem ag_ww {x : Option (Int32 × zm_Mem)} {m : zm_Mem → Option (Int32 × zm_Mem)} {i q q' n : Nat} (h : Ag x m q' n) (hq : q' ≤ q + 1) : Go (zm_b2 x (fun r M1 => zm_b2 (m M1) (fun r2 M2 => if r = r2 then f_law_go (nI i) M2 q' else none))) i q n := by
  obtain ⟨r, M1, M2, h1, h2, h3⟩ := h
  unfold zm_b2
  rw [h1]
  simp only [Option.bind_some, h2, if_true]
  exact go_of h3 hq
theorem ag_wr {x : Option (Int32 × zm_Mem)} {m : zm_Mem → Option Int32} {i q q' n : Nat} (h : Ag x (fun M1 => rd (m M1) M1) q' n) (hq : q' ≤ q + 1) : Go (zm_b2 x (fun r M1 => zm_b1 (m M1) (fun r2 => if r = r2 then f_law_go (nI i) M1 q' else none))) i q n := by
  obtain ⟨r, M1, M2, h1, h2, h3⟩ := h
  unfold zm_b2 zm_b1
  rw [h1]
  simp only [Option.bind_some]
  simp only at h2
  cases hm : m M1 with
  | none => rw [hm] at h2; cases h2
  | some r2 =>
    rw [hm] at h2
    cases h2
    simp only [Option.bind_some, if_true]
    exact go_of h3 hq
theorem ag_rw {x : Option Int32} {M : zm_Mem} {m : zm_Mem → Option (Int32 × zm_Mem)} {i q q' n : Nat} (h : Ag (rd x M) m q' n) (hq : q' ≤ q + 1) : Go (zm_b1 x (fun r => zm_b2 (m M) (fun r2 M2 => if r = r2 then f_law_go (nI i) M2 q' else none))) i q n := by
  obtain ⟨r, M1, M2, h1, h2, h3⟩ := h
  unfold zm_b2 zm_b1
  cases hx : x with
  | none => rw [hx] at h1; cases h1
  | some r2 =>
    rw [hx] at h1
    cases h1
    simp only [Option.bind_some, h2, if_true]
    exact go_of h3 hq
theorem ag_rr {x : Option Int32} {M : zm_Mem} {m : zm_Mem → Option Int32} {i q q' n : Nat} (h : Ag (rd x M) (fun M1 => rd (m M1) M1) q' n) (hq : q' ≤ q + 1) : Go (zm_b1 x (fun r => zm_b1 (m M) (fun r2 => if r = r2 then f_law_go (nI i) M q' else none))) i q n := by
  obtain ⟨r, M1, M2, h1, h2, h3⟩ := h
  unfold zm_b1
  cases hx : x with
  | none => rw [hx] at h1; cases h1
  | some r2 =>
    rw [hx] at h1
    cases h1
    simp only at h2
    cases hm : m M with
    | none => rw [hm] at h2; cases h2
    | some r3 =>
      rw [hm] at h2
      cases h2
      simp only [Option.bind_some, if_true]
      exact go_of h3 hq
theorem iv_q {M : zm_Mem} {q n : Nat} (h : Inv M q n) : decide (q = 0 ↔ M.2.2 1 11 = 0) = true := by
  rw [decide_eq_true_eq]
  obtain ⟨t, v, hh, w, k, -, -, -, h, -⟩ := h
  rcases h with ⟨a, b, _⟩ | ⟨a, b, _⟩
  · exact ⟨fun _ => b, fun _ => a⟩
  · exact ⟨fun z => absurd z a, fun z => by rw [b] at z; cases z⟩
