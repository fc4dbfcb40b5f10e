/-! names and numbers, class -/
theorem c_noteF {T : Nat → Nat} {n t j f : Nat} {M : zm_Mem} {c : Int32} (h : CF M t (tkF T n) (tkE T n) j f) : f_X2_note c M = some ((), M) := by
  unfold f_X2_note
  rw [if_neg (cf_ne h)]
theorem c_nst {T : Nat → Nat} {n t cl s c : Nat} {b : Bool} {bad : Nat → Bool} {M : zm_Mem} {Z : zZ} {α : Type} {x : α} (hs : s < 1000) (hs0 : s ≠ 0) (hc : 3 ≤ c ∧ c ≤ 5) (h : CZ T n M t cl Z) (hb : ∀ i nt, Z = .inr (i, nt) → (tkF T n i).1 = s → b = bad i) : ∃ M', (if b = true then (zm_b2 (f_X2_note (nI c) M) fun _ M1 => zm_b2 (f_X2_expect (nI s) M1) fun _ M2 => some (x, M2)) else (zm_b2 (f_X2_expect (nI s) M) fun _ M2 => some (x, M2))) = some (x, M') ∧ Fp p8 M M' ∧ CZ T n M' t cl (zTo (tkF T n) s c bad Z) := by
  rcases h with ⟨f, j, rfl, h⟩ | ⟨i, nt, rfl, h, hi, hcl, hn⟩
  · refine ⟨M, ?_, fp_rfl _ _, Or.inl ⟨f, j, rfl, h⟩⟩
    rw [c_noteF h, zb2_some, c_expectF h.1 h.2.1 (cf_ne h) h.2.2.2.2.2.2.1, zb2_some]
    split <;> rfl
  · have hb' := hb i nt rfl
    cases b with
    | true =>
      obtain ⟨M1, e1, f1, a4, a5, a7⟩ := c_note h hi hn hc
      obtain ⟨M', e2, f2, z⟩ := c_step (s := s) (c := c) (bad := bad) (nt := nt) h hi hcl hs hs0 f1 a4 a5 (fun q => by rw [← hb' q, if_pos rfl]; exact a7)
      refine ⟨M', ?_, f2, z⟩
      rw [if_pos rfl, e1, zb2_some, e2, zb2_some]
    | false =>
      obtain ⟨M', e2, f2, z⟩ := c_step (s := s) (c := c) (bad := bad) (nt := nt) h hi hcl hs hs0 (fp_rfl _ _) h.2.1 h.2.2.1 (fun q => by rw [← hb' q, if_neg (by decide)]; exact nC_w hn rfl rfl (by omega))
      refine ⟨M', ?_, f2, z⟩
      rw [if_neg (by decide), e2, zb2_some]
/-- where the reader stands -/
theorem cz_at {T : Nat → Nat} {n t cl : Nat} {M : zm_Mem} {Z : zZ} (h : CZ T n M t cl Z) : ∃ j, j ≤ tkE T n ∧ M.1 8 4 = nI j ∧ Tks M (tkF T n) (tkE T n) ∧ M.2.2 8 3 = t ∧ zm_isT t = true ∧ (∀ i nt, Z = .inr (i, nt) → j = i) := by
  rcases h with ⟨f, j, rfl, h⟩ | ⟨i, nt, rfl, h, hi, hcl, hn⟩
  · exact ⟨j, h.2.2.2.2.2.2.1, h.2.1, h.1, h.2.2.2.2.1, cf_isT h, fun i nt z => by cases z⟩
  · exact ⟨i, hi, h.2.1, h.1, h.2.2.2.1, cs_isT h, fun i' nt' z => congrArg Prod.fst (Sum.inr.inj z)⟩
def CN (M : zm_Mem) (r : Nat) (NL : List (List Nat)) : Prop := ∀ j L, NL[j]? = some L → M.2.1 r j = Int64.ofNat (iv_wn 32 L) ∧ L.length ≤ 8 ∧ ltsL L
theorem c_lookN {T : Nat → Nat} {n r h i : Nat} {M : zm_Mem} {NL : List (List Nat)} (hr : (zm_sh r).2 = 5 ∨ (zm_sh r).2 = 6) (hl : NL.length ≤ (zm_sh r).2) (hN : CN M r NL) : ∃ y, f_X2_find (cwt (tkF T n i)) r (nI NL.length) M = some y ∧ ((tkF T n i).1 = 2 → (∃ j, NL[j]? = some (tkF T n i).2.2.1 ∧ y = nI j) ∨ ((tkF T n i).2.2.1 ∉ NL ∧ y = -1)) := by
  have ok := tkF_ok (T := T) (n := n) (i := i)
  rcases c_find (x := cwt (tkF T n i)) (M := M) (r := r) rfl hl (by omega) with ⟨j, a, b, e⟩ | ⟨a, e⟩
  · refine ⟨_, e, fun h2 => Or.inl ⟨j, ?_, rfl⟩⟩
    have ej : NL[j]? = some NL[j] := List.getElem?_eq_getElem a
    obtain ⟨n1, n2, n3⟩ := hN j _ ej
    rw [tkF_nam h2, n1] at b
    rw [ej, (nm_eq n2 n3 ok.2.1 ok.2.2.1).1.1 b]
  · refine ⟨_, e, fun h2 => Or.inr ⟨fun hm => ?_, rfl⟩⟩
    obtain ⟨j, hj⟩ := List.getElem?_of_mem hm
    have hlt : j < NL.length := by
      refine Classical.byContradiction (fun z => ?_)
      rw [List.getElem?_eq_none (by omega)] at hj; cases hj
    obtain ⟨n1, n2, n3⟩ := hN j _ hj
    exact a j hlt (by rw [n1, tkF_nam h2])
theorem nI_m1 {j : Nat} (h : j < 100) : nI j ≠ -1 := by
  intro z
  have : ∀ j, j < 100 → nI j ≠ -1 := by decide
  exact this j h z
def dupB (T : Nat → Nat) (n : Nat) (hN wN : List (List Nat)) (i : Nat) : Bool := decide ((tkF T n i).2.2.1 ∈ hN) || decide ((tkF T n i).2.2.1 ∈ wN)
def notB (T : Nat → Nat) (n : Nat) (NL : List (List Nat)) (i : Nat) : Bool := decide ((tkF T n i).2.2.1 ∉ NL)
def outB (T : Nat → Nat) (n lo hi i : Nat) : Bool := decide ((tkF T n i).2.2.2 < lo) || decide (hi < (tkF T n i).2.2.2)
theorem ix_lt {NL : List (List Nat)} {j : Nat} {L : List Nat} (h : NL[j]? = some L) : j < NL.length := by
  refine Classical.byContradiction (fun z => ?_)
  rw [List.getElem?_eq_none (by omega)] at h; cases h
theorem c_znew {T : Nat → Nat} {n t cl : Nat} {M : zm_Mem} {Z : zZ} {hN wN : List (List Nat)} (h : CZ T n M t cl Z) (h11 : M.1 t 11 = nI hN.length) (h12 : M.1 t 12 = nI wN.length) (hl : hN.length ≤ 5) (wl : wN.length ≤ 6) (c9 : CN M 9 hN) (c10 : CN M 10 wN) : ∃ x M', f_X2_newName M = some (x, M') ∧ Fp p8 M M' ∧ CZ T n M' t cl (zTo (tkF T n) 2 3 (dupB T n hN wN) Z) ∧ (∀ i nt, Z = .inr (i, nt) → (tkF T n i).1 = 2 → x = Int64.ofNat (iv_wn 32 (tkF T n i).2.2.1)) := by
  obtain ⟨j, j1, j2, j3, j4, j5, j6⟩ := cz_at h
  obtain ⟨y1, e1, v1⟩ := c_lookN (T := T) (n := n) (i := j) (h := 0) (Or.inl rfl) hl c9
  obtain ⟨y2, e2, v2⟩ := c_lookN (T := T) (n := n) (i := j) (h := 0) (Or.inr rfl) wl c10
  have fin : ∀ b : Bool, (∀ i nt, Z = .inr (i, nt) → (tkF T n i).1 = 2 → b = dupB T n hN wN i) → f_X2_newName M = (if b = true then (zm_b2 (f_X2_note (nI 3) M) fun _ M1 => zm_b2 (f_X2_expect (nI 2) M1) fun _ M2 => some (cwt (tkF T n j), M2)) else (zm_b2 (f_X2_expect (nI 2) M) fun _ M2 => some (cwt (tkF T n j), M2))) → ∃ x M', f_X2_newName M = some (x, M') ∧ Fp p8 M M' ∧ CZ T n M' t cl (zTo (tkF T n) 2 3 (dupB T n hN wN) Z) ∧ (∀ i nt, Z = .inr (i, nt) → (tkF T n i).1 = 2 → x = Int64.ofNat (iv_wn 32 (tkF T n i).2.2.1)) := fun b hb he => by
    obtain ⟨M', a1, a2, a3⟩ := c_nst (s := 2) (c := 3) (b := b) (bad := dupB T n hN wN) (x := cwt (tkF T n j)) (by omega) (by omega) (by omega) h hb
    exact ⟨_, M', he.trans a1, a2, a3, fun i nt z h2 => by rw [j6 i nt z]; exact tkF_nam h2⟩
  have U : f_X2_newName M = if y1 = (-1 : Int32) then (if y2 = (-1 : Int32) then f_X2_newName_b55 (cwt (tkF T n j)) M else f_X2_newName_b50 M (cwt (tkF T n j))) else f_X2_newName_b50 M (cwt (tkF T n j)) := by
    unfold f_X2_newName
    simp only [zv_eq]
    rw [j2, c_worthI j3 j1, zb1_some, j4, j5, zk_true, h11, e1, zb1_some, zk_true, h12, e2, zb1_some]
  by_cases q1 : y1 = -1
  · by_cases q2 : y2 = -1
    · refine fin false (fun i nt z h2 => ?_) ?_
      · have hj := j6 i nt z
        subst hj
        have w1 : (tkF T n j).2.2.1 ∉ hN := by
          rcases v1 h2 with ⟨k, a, b⟩ | ⟨a, b⟩
          · have := ix_lt a
            exact absurd (b.symm.trans q1) (nI_m1 (by omega))
          · exact a
        have w2 : (tkF T n j).2.2.1 ∉ wN := by
          rcases v2 h2 with ⟨k, a, b⟩ | ⟨a, b⟩
          · have := ix_lt a
            exact absurd (b.symm.trans q2) (nI_m1 (by omega))
          · exact a
        unfold dupB
        rw [decide_eq_false w1, decide_eq_false w2]; rfl
      · rw [U, if_pos q1, if_pos q2, if_neg (by decide)]; rfl
    · refine fin true (fun i nt z h2 => ?_) ?_
      · have hj := j6 i nt z
        subst hj
        have w2 : (tkF T n j).2.2.1 ∈ wN := by
          rcases v2 h2 with ⟨k, a, b⟩ | ⟨a, b⟩
          · exact List.mem_of_getElem? a
          · exact absurd b q2
        unfold dupB
        rw [decide_eq_true w2, Bool.or_true]
      · rw [U, if_pos q1, if_neg q2, if_pos rfl]; rfl
  · refine fin true (fun i nt z h2 => ?_) ?_
    · have hj := j6 i nt z
      subst hj
      have w2 : (tkF T n j).2.2.1 ∈ hN := by
        rcases v1 h2 with ⟨k, a, b⟩ | ⟨a, b⟩
        · exact List.mem_of_getElem? a
        · exact absurd b q1
      unfold dupB
      rw [decide_eq_true w2, Bool.true_or]
    · rw [U, if_neg q1, if_pos rfl]; rfl
theorem c_ztold {T : Nat → Nat} {n t cl r : Nat} {M : zm_Mem} {Z : zZ} {NL : List (List Nat)} (h : CZ T n M t cl Z) (hr : (zm_sh r).2 = 5 ∨ (zm_sh r).2 = 6) (hl : NL.length ≤ (zm_sh r).2) (c9 : CN M r NL) : ∃ x M', f_X2_toldName r (nI NL.length) M = some (x, M') ∧ Fp p8 M M' ∧ CZ T n M' t cl (zTo (tkF T n) 2 4 (notB T n NL) Z) ∧ (∀ i nt, Z = .inr (i, nt) → (tkF T n i).1 = 2 → notB T n NL i = false → ∃ j, NL[j]? = some (tkF T n i).2.2.1 ∧ x = nI j) := by
  obtain ⟨j, j1, j2, j3, j4, j5, j6⟩ := cz_at h
  obtain ⟨y1, e1, v1⟩ := c_lookN (T := T) (n := n) (i := j) (h := 0) hr hl c9
  have U : f_X2_toldName r (nI NL.length) M = if y1 = (-1 : Int32) then (zm_b2 (f_X2_note 4 M) fun _ M24 => f_X2_toldName_b27 y1 M24) else f_X2_toldName_b27 y1 M := by
    unfold f_X2_toldName
    rw [j2, c_worthI j3 j1, zb1_some, e1, zb1_some]
  by_cases q1 : y1 = -1
  · obtain ⟨M', a1, a2, a3⟩ := c_nst (s := 2) (c := 4) (b := true) (bad := notB T n NL) (x := zm_max y1 0) (by omega) (by omega) (by omega) h (fun i nt z h2 => by
      have hj := j6 i nt z
      subst hj
      rcases v1 h2 with ⟨k, a, b⟩ | ⟨a, b⟩
      · have := ix_lt a
        exact absurd (b.symm.trans q1) (nI_m1 (by omega))
      · unfold notB; rw [decide_eq_true a])
    refine ⟨zm_max y1 0, M', ?_, a2, a3, fun i nt z h2 hb => ?_⟩
    · rw [U, if_pos q1]
      rw [if_pos rfl] at a1
      exact a1
    · have hj := j6 i nt z
      subst hj
      rcases v1 h2 with ⟨k, a, b⟩ | ⟨a, b⟩
      · have := ix_lt a
        exact absurd (b.symm.trans q1) (nI_m1 (by omega))
      · unfold notB at hb; rw [decide_eq_true a] at hb; cases hb
  · obtain ⟨M', a1, a2, a3⟩ := c_nst (s := 2) (c := 4) (b := false) (bad := notB T n NL) (x := zm_max y1 0) (by omega) (by omega) (by omega) h (fun i nt z h2 => by
      have hj := j6 i nt z
      subst hj
      rcases v1 h2 with ⟨k, a, b⟩ | ⟨a, b⟩
      · unfold notB; rw [decide_eq_false (fun z => z (List.mem_of_getElem? a))]
      · exact absurd b q1)
    refine ⟨zm_max y1 0, M', ?_, a2, a3, fun i nt z h2 hb => ?_⟩
    · rw [U, if_neg q1]
      rw [if_neg (by decide)] at a1
      exact a1
    · have hj := j6 i nt z
      subst hj
      rcases v1 h2 with ⟨k, a, b⟩ | ⟨a, b⟩
      · have hk := ix_lt a
        refine ⟨k, a, ?_⟩
        rw [b]
        have : ∀ k, k < 6 → zm_max (nI k) 0 = nI k := by decide
        exact this k (by omega)
      · exact absurd b q1
theorem c_znum {T : Nat → Nat} {n t cl lo hi : Nat} {M : zm_Mem} {Z : zZ} (h : CZ T n M t cl Z) (hlo : lo < 10000) (hhi : hi < 10000) : ∃ x M', f_X2_number (nI lo) (nI hi) M = some (x, M') ∧ Fp p8 M M' ∧ CZ T n M' t cl (zTo (tkF T n) 3 5 (outB T n lo hi) Z) ∧ (∀ i nt, Z = .inr (i, nt) → (tkF T n i).1 = 3 → x = nI (tkF T n i).2.2.2) := by
  obtain ⟨j, j1, j2, j3, j4, j5, j6⟩ := cz_at h
  have hlt := cs_num (T := T) (n := n) (i := j)
  have hv := (tkF_ok (T := T) (n := n) (i := j)).2.2.2
  have fin : ∀ b : Bool, (∀ i nt, Z = .inr (i, nt) → (tkF T n i).1 = 3 → b = outB T n lo hi i) → f_X2_number (nI lo) (nI hi) M = (if b = true then (zm_b2 (f_X2_note (nI 5) M) fun _ M1 => zm_b2 (f_X2_expect (nI 3) M1) fun _ M2 => some ((cwt (tkF T n j)).toInt32, M2)) else (zm_b2 (f_X2_expect (nI 3) M) fun _ M2 => some ((cwt (tkF T n j)).toInt32, M2))) → ∃ x M', f_X2_number (nI lo) (nI hi) M = some (x, M') ∧ Fp p8 M M' ∧ CZ T n M' t cl (zTo (tkF T n) 3 5 (outB T n lo hi) Z) ∧ (∀ i nt, Z = .inr (i, nt) → (tkF T n i).1 = 3 → x = nI (tkF T n i).2.2.2) := fun b hb he => by
    obtain ⟨M', a1, a2, a3⟩ := c_nst (s := 3) (c := 5) (b := b) (bad := outB T n lo hi) (x := (cwt (tkF T n j)).toInt32) (by omega) (by omega) (by omega) h hb
    exact ⟨_, M', he.trans a1, a2, a3, fun i nt z h2 => by rw [j6 i nt z]; exact tkF_num h2⟩
  have U : f_X2_number (nI lo) (nI hi) M = if nI (tkF T n j).1 = (3 : Int32) then (if (cwt (tkF T n j)).toInt32 < nI lo then f_X2_number_b31 M (cwt (tkF T n j)).toInt32 else (if (cwt (tkF T n j)).toInt32 ≤ nI hi then f_X2_number_b36 (cwt (tkF T n j)).toInt32 M else f_X2_number_b31 M (cwt (tkF T n j)).toInt32)) else f_X2_number_b36 (cwt (tkF T n j)).toInt32 M := by
    unfold f_X2_number
    simp only [zv_eq]
    rw [j2, c_worthI j3 j1, zb1_some, c_sortI j3 j2 j1, zb1_some]
  by_cases h3 : (tkF T n j).1 = 3
  · have hx := tkF_num h3
    refine fin (outB T n lo hi j) (fun i nt z h2 => by rw [j6 i nt z]) ?_
    rw [U, if_pos (show nI (tkF T n j).1 = (3 : Int32) by rw [h3]; rfl), hx]
    unfold outB
    by_cases q1 : (tkF T n j).2.2.2 < lo
    · rw [if_pos (nI_lt q1 (by omega)), decide_eq_true q1, Bool.true_or, if_pos rfl]; rfl
    · rw [if_neg (nI_nlt (by omega) (by omega)), decide_eq_false q1, Bool.false_or]
      by_cases q2 : hi < (tkF T n j).2.2.2
      · rw [if_neg (nI_ge q2 (by omega)), decide_eq_true q2, if_pos rfl]; rfl
      · rw [if_pos (nI_le (by omega) (by omega)), decide_eq_false q2, if_neg (by decide)]; rfl
  · refine fin false (fun i nt z h2 => ?_) ?_
    · have hj := j6 i nt z
      subst hj
      exact absurd h2 h3
    · rw [U, if_neg (show ¬ nI (tkF T n j).1 = (3 : Int32) from fun z => h3 ((nI_eq (b := 3) (by omega) (by omega)).1 z)), if_neg (by decide)]; rfl
