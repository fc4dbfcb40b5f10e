/-- the survey as it was made, if it is held to be new: see part 32 (to be said there) -/
def iv_sok (M : zm_Mem) (h w k : Nat) : Prop := M.1 109 = (fun _ => 0) ∧ M.1 110 = (fun _ => 0) ∧ h = h ∧ w = w ∧ k = k
def iv_surv (M : zm_Mem) (h w k q : Nat) : Prop := M.1 1 13 = 0 ∨ (M.1 1 13 = 1 ∧ q ≠ 0 ∧ iv_sok M h w k)
/-- THE INVARIANT, behind n calls of which q made or used the survey -/
def Inv (M : zm_Mem) (q n : Nat) : Prop := iv_ref M q ∧ iv_tape M ∧ M.1 1 16 = M.1 52 17 ∧ iv_words M ∧ ∃ v h w k, iv_T M (M.2.2 1 9) v h w k ∧ iv_R (M.1 12) (M.1 91) h w k n ∧ iv_past M h w k n ∧ iv_held M h w k n ∧ iv_crates M w ∧ iv_surv M h w k q ∧ (q ≠ 0 → M.1 109 = (fun _ => 0) ∧ M.1 110 = (fun _ => 0))
/-- two calls agree, and the invariant holds behind them -/
def Ag (x : Option (Int32 × zm_Mem)) (m : zm_Mem → Option (Int32 × zm_Mem)) (q n : Nat) : Prop := ∃ r M1 M2, x = some (r, M1) ∧ m M1 = some (r, M2) ∧ Inv M2 q (n + 1)
def rd {β : Type} (g : Option β) (M : zm_Mem) : Option (β × zm_Mem) := g.map (fun r => (r, M))
theorem zm_ck_t {α : Type} {b : Bool} {d : Option α} (h : b = true) : zm_ck b d = d := by unfold zm_ck; rw [if_pos h]
theorem zm_in_nI {a L : Nat} (h : a < L) (hL : L < 2 ^ 31) : zm_in (nI a) L = true := by
  unfold zm_in
  rw [Bool.and_eq_true, decide_eq_true_eq, decide_eq_true_eq, nI_clamp (by omega)]
  exact ⟨nI_pos' (by omega), h⟩
theorem nI_k1 (a : Nat) : nI a + 1 = nI (a + 1) := nI_add a 1
theorem nI_k2 (a : Nat) : nI a + 2 = nI (a + 2) := nI_add a 2
theorem nI_k3 (a : Nat) : nI a + 3 = nI (a + 3) := nI_add a 3
theorem nI_k4 (a : Nat) : nI a + 4 = nI (a + 4) := nI_add a 4
theorem nI_k5 (a : Nat) : nI a + 5 = nI (a + 5) := nI_add a 5
theorem nI_k6 (a : Nat) : nI a + 6 = nI (a + 6) := nI_add a 6
/-- a step of the law: it goes on, with the invariant -/
def Go (x : Option ((Int32 × zm_Mem × Nat) ⊕ zm_Mem)) (i q n : Nat) : Prop := ∃ M' q', x = some (.inl (nI (i + 6), M', q')) ∧ Inv M' q' (n + 1) ∧ q' ≤ q + 1
theorem go_of {M' : zm_Mem} {i q q' n : Nat} (h : Inv M' q' (n + 1)) (hq : q' ≤ q + 1) : Go (f_law_go (nI i) M' q') i q n := ⟨M', q', by unfold f_law_go zm_v; rw [nI_k6], h, hq⟩
theorem ag_ww {x : Option (Int32 × zm_Mem)} {m : zm_Mem → Option (Int32 × zm_Mem)} {i q q' n : Nat} (h : Ag x m q' n) (hq : q' ≤ q + 1) : Go (zm_b2 x (fun r M1 => zm_b2 (m M1) (fun r2 M2 => if r = r2 then f_law_go (nI i) M2 q' else none))) i q n := by
  obtain ⟨r, M1, M2, h1, h2, h3⟩ := h
  unfold zm_b2
  rw [h1]
  simp only [Option.bind_some, h2, if_true]
  exact go_of h3 hq
theorem ag_wr {x : Option (Int32 × zm_Mem)} {m : zm_Mem → Option Int32} {i q q' n : Nat} (h : Ag x (fun M1 => rd (m M1) M1) q' n) (hq : q' ≤ q + 1) : Go (zm_b2 x (fun r M1 => zm_b1 (m M1) (fun r2 => if r = r2 then f_law_go (nI i) M1 q' else none))) i q n := by
  obtain ⟨r, M1, M2, h1, h2, h3⟩ := h
  unfold zm_b2 zm_b1
  rw [h1]
  simp only [Option.bind_some]
  simp only at h2
  cases hm : m M1 with
  | none => rw [hm] at h2; cases h2
  | some r2 =>
    rw [hm] at h2
    cases h2
    simp only [Option.bind_some, if_true]
    exact go_of h3 hq
theorem ag_rw {x : Option Int32} {M : zm_Mem} {m : zm_Mem → Option (Int32 × zm_Mem)} {i q q' n : Nat} (h : Ag (rd x M) m q' n) (hq : q' ≤ q + 1) : Go (zm_b1 x (fun r => zm_b2 (m M) (fun r2 M2 => if r = r2 then f_law_go (nI i) M2 q' else none))) i q n := by
  obtain ⟨r, M1, M2, h1, h2, h3⟩ := h
  unfold zm_b2 zm_b1
  cases hx : x with
  | none => rw [hx] at h1; cases h1
  | some r2 =>
    rw [hx] at h1
    cases h1
    simp only [Option.bind_some, h2, if_true]
    exact go_of h3 hq
theorem ag_rr {x : Option Int32} {M : zm_Mem} {m : zm_Mem → Option Int32} {i q q' n : Nat} (h : Ag (rd x M) (fun M1 => rd (m M1) M1) q' n) (hq : q' ≤ q + 1) : Go (zm_b1 x (fun r => zm_b1 (m M) (fun r2 => if r = r2 then f_law_go (nI i) M q' else none))) i q n := by
  obtain ⟨r, M1, M2, h1, h2, h3⟩ := h
  unfold zm_b1
  cases hx : x with
  | none => rw [hx] at h1; cases h1
  | some r2 =>
    rw [hx] at h1
    cases h1
    simp only at h2
    cases hm : m M with
    | none => rw [hm] at h2; cases h2
    | some r3 =>
      rw [hm] at h2
      cases h2
      simp only [Option.bind_some, if_true]
      exact go_of h3 hq
theorem iv_q {M : zm_Mem} {q n : Nat} (h : Inv M q n) : decide (q = 0 ↔ M.2.2 1 11 = 0) = true := by
  rw [decide_eq_true_eq]
  rcases h.1.2 with ⟨a, b, _⟩ | ⟨a, b, _⟩
  · exact ⟨fun _ => b, fun _ => a⟩
  · exact ⟨fun z => absurd z a, fun z => by rw [b] at z; cases z⟩
