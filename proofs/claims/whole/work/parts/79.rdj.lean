/-! the reference's sums, whole -/
def pM (p : List Nat) : Prop := p = [] ∨ p = [10] ∨ p = [15]
def pA (p : List Nat) : Prop := ∃ q1 q2, p = q1 ++ q2 ∧ (q1 = [] ∨ q1 = [8] ∨ q1 = [9]) ∧ pM q2
def pS (w : Nat) (p : List Nat) : Prop := (w ≤ 2 → p = []) ∧ (w = 4 → pM p) ∧ (w = 3 → pA p)
def pT (w : Nat) (p : List Nat) : Prop := (w = 2 → p = []) ∧ (w = 1 ∨ w = 4 → pM p) ∧ (w = 0 ∨ w = 3 → pA p)
def tpS (w : Nat) (s : List Nat) : Prop := w = 2 ∨ s = [] ∨ ∃ s' x, s = s' ++ [x] ∧ (x = 6 ∨ ((w = 1 ∨ w = 4) ∧ (x = 8 ∨ x = 9)))
def hq (w : Nat) : Nat := if w = 2 then 2 else if w = 1 then 1 else if w = 4 then 1 else 0
theorem pM_A {p : List Nat} (h : pM p) : pA p := ⟨[], p, rfl, Or.inl rfl, h⟩
theorem pM_op {p : List Nat} (h : pM p) : ∀ x ∈ p, x = 10 ∨ x = 15 := by
  intro x hx
  rcases h with rfl | rfl | rfl
  · cases hx
  · exact Or.inl (List.mem_singleton.1 hx)
  · exact Or.inr (List.mem_singleton.1 hx)
theorem pA_op {p : List Nat} (h : pA p) : ∀ x ∈ p, x = 8 ∨ x = 9 ∨ x = 10 ∨ x = 15 := by
  obtain ⟨q1, q2, rfl, h1, h2⟩ := h
  intro x hx
  rcases List.mem_append.1 hx with hx | hx
  · rcases h1 with rfl | rfl | rfl
    · cases hx
    · exact Or.inl (List.mem_singleton.1 hx)
    · exact Or.inr (Or.inl (List.mem_singleton.1 hx))
  · have := pM_op h2 x hx
    omega
noncomputable def Rn (w : Nat) (M : zm_Mem) : Option (Unit × zm_Mem) := if w ≤ 2 then RunA 0 M else RunB 0 M
theorem okK_snoc {s : List Nat} {x : Nat} (h : okK s) (hx : x = 6 ∨ (x = 8 ∨ x = 9 ∨ x = 10 ∨ x = 15)) : okK (s ++ [x]) := fun y hy => by
  rcases List.mem_append.1 hy with hy | hy
  · exact h y hy
  · rw [List.mem_singleton.1 hy]; exact hx
theorem r_atom {M : zm_Mem} {T : Nat → Nat} {n i a k h : Nat} {s : List Nat} {x y : Nat} (H : RS M (tkF T n) (tkE T n) i a s k) (hi : i ≤ tkE T n) (h40 : (tkF T n i).1 ≠ 40) (h0 : (tkF T n i).1 ≠ 0) (hk : k < h) (hh : h ≤ 840) (hu : f_X11_unit M = (zm_b2 (f_X11_emit (nI x) (nI y) M) fun _ M19 => zm_b2 (f_X11_goesOn M19) fun _ M23 => some ((), M23))) : (∃ f j M', gR i [(x, y)] = .inl (f, j) ∧ RunA 0 M = some ((), M') ∧ RF M' (tkF T n) (tkE T n) j f ∧ Fp (pR k h) M M') ∨ (∃ M', gR i [(x, y)] = .inr (i + 1, [(x, y)]) ∧ RunA 0 M = RunB 0 M' ∧ RS M' (tkF T n) (tkE T n) (i + 1) a s (k + 1) ∧ i + 1 ≤ tkE T n ∧ iv_sm M' k [(x, y)] ∧ Fp (pR k h) M M') := by
  have r4 := rs_40 _ cs_num (tkF_ok (T := T) (n := n) (i := i)).1
  obtain ⟨M', e1, e2, e3, e4, e5, e6⟩ := r_emGo (x := nI x) (y := nI y) H hi (by omega)
  have f : Fp (pR k h) M M' := fp_fr e2 (fun x j z => by
    unfold wUm at z
    simp only [Bool.or_eq_true, Bool.and_eq_true, decide_eq_true_eq] at z
    unfold pR; omega)
  have R := rx_unit (x9 := 0) ((r_isX H hi 6 40 (by omega) r4.1).2 h40) (hu.trans e1)
  unfold gR
  by_cases h4 : i = 400
  · have hf := e5 h4
    have F : RF M' (tkF T n) (tkE T n) i 2 := ⟨rks_fp f (fun x j a b z => by unfold pR at z; omega) H.1, hf.1, by omega, hf.2⟩
    rw [if_neg (rf_le F)] at R
    rw [if_pos h4]
    exact Or.inl ⟨2, i, M', rfl, R, F, f⟩
  · have hr := e6 h4
    rw [if_pos (by rw [hr.2.2.1]; decide)] at R
    rw [if_neg h4]
    exact Or.inr ⟨M', rfl, R, hr, tkF_lt hi h0 h4, sm_one e3 e4, f⟩
def RQ (T : Nat → Nat) (n0 b w a : Nat) (M : zm_Mem) (s p : List Nat) (k : Nat) (R : zR) : Prop :=
    (∃ f j M', R = .inl (f, j) ∧ Rn w M = some ((), M') ∧ RF M' (tkF T n0) (tkE T n0) j f ∧ Fp (pR k (b + 420)) M M') ∨
    (∃ j c M' p' d, R = .inr (j, c) ∧ Rn w M = RunB 0 M' ∧ RS M' (tkF T n0) (tkE T n0) j a (s ++ p') (k + d.length) ∧ j ≤ tkE T n0 ∧ pT w p' ∧ iv_sm M' k d ∧ d ++ pc p' = pc p ++ c ∧ Fp (pR k (b + 420)) M M')
theorem r_sums {T : Nat → Nat} {n0 b : Nat} (hb : b ≤ 420) : ∀ n w a i M s p k, w ≤ 4 → a ≤ 6 → 6 * (401 - i) + nd w ≤ n → RS M (tkF T n0) (tkE T n0) i a (s ++ p) k → i ≤ tkE T n0 → okK s → tpS w s → pS w p → s.length ≤ 3 * a + hq w → k + (s.length + p.length) ≤ b + i → RQ T n0 b w a M s p k (pX (tkF T n0) n w a i)
  | 0, w, a, i, M, s, p, k, hw, ha, hn, hM, hi, hs, ht, hp, hl, hk => by
    have h1 : i ≤ 400 := Nat.le_trans hi hM.1.1
    exfalso; omega
  | n + 1, w, a, i, M, s, p, k, hw, ha, hn, hM, hi, hs, ht, hp, hl, hk => by
    have ih := r_sums (T := T) (n0 := n0) hb n
    have h400 : i ≤ 400 := Nat.le_trans hi hM.1.1
    have n0' : nd 0 = 3 := rfl
    have n1' : nd 1 = 2 := rfl
    have n2' : nd 2 = 1 := rfl
    have n3' : nd 3 = 1 := rfl
    have n4' : nd 4 = 1 := rfl
    have q0' : hq 0 = 0 := rfl
    have q1' : hq 1 = 1 := rfl
    have q2' : hq 2 = 2 := rfl
    have q3' : hq 3 = 0 := rfl
    have q4' : hq 4 = 1 := rfl
    have hlt := cs_num (T := T) (n := n0) (i := i)
    have two : ∀ {j1 : Nat} {c1 c2 d1 d2 : zE} {p1 p2 : List Nat} {M1 M2 : zm_Mem}, d1 ++ pc p1 = pc p ++ c1 → d2 ++ pc p2 = pc p1 ++ c2 → iv_sm M1 k d1 → iv_sm M2 (k + d1.length) d2 → Fp (pR (k + d1.length) (b + 420)) M1 M2 → iv_sm M2 k (d1 ++ d2) ∧ (d1 ++ d2) ++ pc p2 = pc p ++ (c1 ++ c2) := fun {j1 c1 c2 d1 d2 p1 p2 M1 M2} e1 e2 s1 s2 f => by
      refine ⟨sm_app (sm_fpK s1 f (Nat.le_refl _)) s2, ?_⟩
      rw [List.append_assoc, e2, ← List.append_assoc, e1, List.append_assoc]
    rcases (show w = 0 ∨ w = 1 ∨ w = 2 ∨ (w = 3 ∨ w = 4) by omega) with rfl | rfl | rfl | hw3
    · have hp0 := hp.1 (by omega)
      subst hp0
      have l0 : ([] : List Nat).length = 0 := rfl
      rw [pX_0]
      rcases ih 1 a i M s [] k (by omega) ha (by omega) hM hi hs (by
          rcases ht with ht | ht | ⟨s', x, h1, h2⟩
          · omega
          · exact Or.inr (Or.inl ht)
          · exact Or.inr (Or.inr ⟨s', x, h1, by omega⟩)) ⟨fun _ => rfl, fun z => by omega, fun z => by omega⟩ (by omega) hk with ⟨f, j, M1, r1, r2, r3, r4⟩ | ⟨j, c1, M1, p1, d1, r1, r2, r3, r4, r5, r6, r7, r8⟩
      · rw [r1]
        exact Or.inl ⟨f, j, M1, rfl, r2, r3, r4⟩
      · obtain ⟨g1, g2, g3, g4, _, _⟩ := pX_pr n 1 a i j c1 (by omega) h400 r1
        have len := congrArg List.length r7
        rw [List.length_append, List.length_append, pc_len, pc_len] at len
        rw [r1]
        show RQ T n0 b 0 a M s [] k (cR c1 (pX (tkF T n0) n 3 a j))
        rcases ih 3 a j M1 s p1 (k + d1.length) (by omega) ha (by omega) r3 r4 hs (by
          rcases ht with ht | ht | ⟨s', x, h1, h2⟩
          · omega
          · exact Or.inr (Or.inl ht)
          · exact Or.inr (Or.inr ⟨s', x, h1, by omega⟩)) ⟨fun z => by omega, fun z => by omega, fun _ => pM_A (r5.2.1 (Or.inl rfl))⟩ (by omega) (by omega) with ⟨f, j', M2, t1, t2, t3, t4⟩ | ⟨j', c2, M2, p2, d2, t1, t2, t3, t4, t5, t6, t7, t8⟩
        · rw [t1]
          exact Or.inl ⟨f, j', M2, rfl, r2.trans t2, t3, fp_tr r8 (fp_RR (by omega) t4)⟩
        · rw [t1]
          obtain ⟨y1, y2⟩ := two (j1 := 0) r7 t7 r6 t6 t8
          refine Or.inr ⟨j', c1 ++ c2, M2, p2, d1 ++ d2, rfl, r2.trans t2, ?_, t4, ⟨fun z => by omega, fun z => by omega, fun _ => t5.2.2 (Or.inr rfl)⟩, y1, y2, fp_tr r8 (fp_RR (by omega) t8)⟩
          rw [List.length_append, ← Nat.add_assoc]; exact t3
    · have hp0 := hp.1 (by omega)
      subst hp0
      have l0 : ([] : List Nat).length = 0 := rfl
      rw [pX_1]
      rcases ih 2 a i M s [] k (by omega) ha (by omega) hM hi hs (Or.inl rfl) ⟨fun _ => rfl, fun z => by omega, fun z => by omega⟩ (by omega) hk with ⟨f, j, M1, r1, r2, r3, r4⟩ | ⟨j, c1, M1, p1, d1, r1, r2, r3, r4, r5, r6, r7, r8⟩
      · rw [r1]
        exact Or.inl ⟨f, j, M1, rfl, r2, r3, r4⟩
      · obtain ⟨g1, g2, g3, g4, _, _⟩ := pX_pr n 2 a i j c1 (by omega) h400 r1
        have len := congrArg List.length r7
        rw [List.length_append, List.length_append, pc_len, pc_len] at len
        rw [r1]
        show RQ T n0 b 1 a M s [] k (cR c1 (pX (tkF T n0) n 4 a j))
        rcases ih 4 a j M1 s p1 (k + d1.length) (by omega) ha (by omega) r3 r4 hs (by
          rcases ht with ht | ht | ⟨s', x, h1, h2⟩
          · omega
          · exact Or.inr (Or.inl ht)
          · exact Or.inr (Or.inr ⟨s', x, h1, by omega⟩)) ⟨fun z => by omega, fun _ => Or.inl (r5.1 rfl), fun z => by omega⟩ (by omega) (by omega) with ⟨f, j', M2, t1, t2, t3, t4⟩ | ⟨j', c2, M2, p2, d2, t1, t2, t3, t4, t5, t6, t7, t8⟩
        · rw [t1]
          exact Or.inl ⟨f, j', M2, rfl, r2.trans t2, t3, fp_tr r8 (fp_RR (by omega) t4)⟩
        · rw [t1]
          obtain ⟨y1, y2⟩ := two (j1 := 0) r7 t7 r6 t6 t8
          refine Or.inr ⟨j', c1 ++ c2, M2, p2, d1 ++ d2, rfl, r2.trans t2, ?_, t4, ⟨fun z => by omega, fun _ => t5.2.1 (Or.inr rfl), fun z => by omega⟩, y1, y2, fp_tr r8 (fp_RR (by omega) t8)⟩
          rw [List.length_append, ← Nat.add_assoc]; exact t3
    · have hp0 := hp.1 (by omega)
      subst hp0
      have l0 : ([] : List Nat).length = 0 := rfl
      rw [List.append_nil] at hM
      rw [pX_2]
      have hu := r_unit hM hi (tkF_ok (T := T) (n := n0) (i := i)).1
      by_cases h3 : (tkF T n0 i).1 = 3
      · rw [if_pos h3] at hu ⊢
        rcases r_atom (h := b + 420) (x := 0) hM hi (by omega) (by omega) (by omega) (by omega) hu with ⟨f, j, M1, r1, r2, r3, r4⟩ | ⟨M1, r1, r2, r3, r4, r5, r6⟩
        · exact Or.inl ⟨f, j, M1, r1, r2, r3, r4⟩
        · refine Or.inr ⟨_, _, M1, [], [(0, (tkF T n0 i).2.2.2)], r1, r2, ?_, r4, ⟨fun _ => rfl, fun z => by omega, fun z => by omega⟩, r5, rfl, r6⟩
          rw [List.append_nil]; exact r3
      rw [if_neg h3] at hu ⊢
      by_cases h4 : 267 ≤ (tkF T n0 i).1
      · rw [if_pos h4] at hu ⊢
        rcases r_atom (h := b + 420) (x := 1) hM hi (by omega) (by omega) (by omega) (by omega) hu with ⟨f, j, M1, r1, r2, r3, r4⟩ | ⟨M1, r1, r2, r3, r4, r5, r6⟩
        · exact Or.inl ⟨f, j, M1, r1, r2, r3, r4⟩
        · refine Or.inr ⟨_, _, M1, [], [(1, (tkF T n0 i).1 - 267)], r1, r2, ?_, r4, ⟨fun _ => rfl, fun z => by omega, fun z => by omega⟩, r5, rfl, r6⟩
          rw [List.append_nil]; exact r3
      rw [if_neg h4] at hu ⊢
      by_cases h5 : (tkF T n0 i).1 = 40
      · rw [if_pos h5]
        obtain ⟨M1, o1, o2, o3, o4⟩ := r_open (h := b + 420) hM hi h5 ha (by omega)
        by_cases h6 : 6 ≤ a
        · rw [if_pos h6]
          have F := o3 (Or.inl (by omega))
          exact Or.inl ⟨2, i, M1, rfl, (rx_open o1).trans (r_AF (rf_ne F) (rf_le F)), F, o2⟩
        · rw [if_neg h6]
          by_cases h7 : i = 400
          · have F := o3 (Or.inr h7)
            refine Or.inl ⟨2, i, M1, ?_, (rx_open o1).trans (r_AF (rf_ne F) (rf_le F)), F, o2⟩
            unfold gR; rw [if_pos h7]; rfl
          · obtain ⟨H1, hi1⟩ := o4 (by omega) h7
            have eg : gR i [] = .inr (i + 1, []) := by unfold gR; rw [if_neg h7]
            rw [eg]
            show RQ T n0 b 2 a M s [] k (bR (pX (tkF T n0) n 0 (a + 1) (i + 1)) (fun j c => if (tkF T n0 j).1 = 41 then gR j c else .inl (1, j)))
            have ls : (s ++ [6]).length = s.length + 1 := by rw [List.length_append]; rfl
            rcases ih 0 (a + 1) (i + 1) M1 (s ++ [6]) [] k (by omega) (by omega) (by omega) (by rw [List.append_nil]; exact H1) hi1 (okK_snoc hs (Or.inl rfl)) (Or.inr (Or.inr ⟨s, 6, rfl, Or.inl rfl⟩)) ⟨fun _ => rfl, fun z => by omega, fun z => by omega⟩ (by omega) (by omega) with ⟨f, j, M2, r1, r2, r3, r4⟩ | ⟨j, c1, M2, p2, d2, r1, r2, r3, r4, r5, r6, r7, r8⟩
            · rw [r1]
              exact Or.inl ⟨f, j, M2, rfl, (rx_open o1).trans r2, r3, fp_tr o2 r4⟩
            · rw [r1]
              obtain ⟨g1, g2, g3, g4, g5, g6⟩ := pX_pr n 0 (a + 1) (i + 1) j c1 (by omega) (by omega) r1
              have len := congrArg List.length r7
              rw [List.length_append, List.length_append, pc_len, pc_len] at len
              have ops := pA_op (r5.2.2 (Or.inl rfl))
              show RQ T n0 b 2 a M s [] k ((if (tkF T n0 j).1 = 41 then gR j c1 else .inl (1, j)))
              by_cases h8 : (tkF T n0 j).1 = 41
              · rw [if_pos h8]
                obtain ⟨M3, v1, v2, v3⟩ := r_close (h := b + 420) r3 r4 (by omega) h8 (by omega) (by omega) hs ops
                by_cases h9 : j = 400
                · obtain ⟨v4, v5⟩ := v2 h9
                  refine Or.inl ⟨2, j, M3, ?_, (rx_open o1).trans (r2.trans v4), v5, fp_tr o2 (fp_tr r8 (fp_RR (by omega) v1))⟩
                  unfold gR; rw [if_pos h9]
                · obtain ⟨v4, v5, v6, v7⟩ := v3 h9
                  have ec : d2 ++ pc p2 = c1 := r7
                  refine Or.inr ⟨j + 1, c1, M3, [], c1, ?_, (rx_open o1).trans (r2.trans v4), ?_, v6, ⟨fun _ => rfl, fun z => by omega, fun z => by omega⟩, ?_, List.append_nil _, fp_tr o2 (fp_tr r8 (fp_RR (by omega) v1))⟩
                  · unfold gR; rw [if_neg h9]
                  · rw [List.append_nil, show k + c1.length = k + d2.length + p2.length by rw [← ec, List.length_append, pc_len]; omega]
                    exact v5
                  · rw [← ec]
                    exact sm_app (sm_fpK r6 v1 (Nat.le_refl _)) v7
              · rw [if_neg h8]
                have okA : okK (s ++ [6] ++ p2) := fun y hy => by
                  rcases List.mem_append.1 hy with hy | hy
                  · exact okK_snoc hs (Or.inl rfl) y hy
                  · exact Or.inr (ops y hy)
                obtain ⟨M3, v1, v2, v3⟩ := r_noclose (h := b + 420) r3 r4 (by omega) h8 (g5 (Or.inl rfl)) (g6 (Or.inr (Or.inr (Or.inl rfl)))) (by omega) (by rw [List.length_append, ls]; omega) okA
                exact Or.inl ⟨1, j, M3, rfl, (rx_open o1).trans (r2.trans v2), v3, fp_tr o2 (fp_tr r8 (fp_RR (by omega) v1))⟩
      · rw [if_neg h5]
        have r4 := rs_40 _ cs_num (tkF_ok (T := T) (n := n0) (i := i)).1
        obtain ⟨q1, q2, q3, q4⟩ := r_fl (f := 1) (h := b + 420) hM hi (by omega)
        have R := rx_unit (x9 := 0) ((r_isX hM hi 6 40 (by omega) r4.1).2 h5) hu
        refine Or.inl ⟨1, i, _, rfl, R.trans (if_neg (rf_le q2)), q2, q3⟩
    · rw [pX_3 _ n a i hw3]
      have eR : Rn w M = RunB 0 M := by unfold Rn; rw [if_neg (by omega)]
      have m1 : nd (w - 2) ≤ 2 := by rcases hw3 with rfl | rfl <;> decide
      have m2 : nd w = 1 := by rcases hw3 with rfl | rfl <;> rfl
      have m3 : hq (w - 2) = hq w + 1 := by rcases hw3 with rfl | rfl <;> rfl
      have m4 : hq w ≤ 1 := by rcases hw3 with rfl | rfl <;> decide
      have ops : ∀ x ∈ p, (x = 8 ∨ x = 9 ∨ x = 10 ∨ x = 15) ∧ (w = 3 ∨ (x ≠ 8 ∧ x ≠ 9)) := fun x hx => by
        rcases hw3 with h | h
        · exact ⟨pA_op (hp.2.2 h) x hx, Or.inl h⟩
        · have := pM_op (hp.2.1 h) x hx
          omega
      by_cases ho : isO w (tkF T n0 i).1 = true
      · rw [if_pos ho]
        obtain ⟨M1, o1, o2, o3⟩ := r_opB (h := b + 420) hw3 ho hM hi (by omega) (by omega) (by omega) (by
          rcases ht with ht | ht | ⟨s', x, h1, h2⟩
          · omega
          · exact Or.inl ht
          · exact Or.inr ⟨s', x, h1, by omega⟩) ops
        by_cases h7 : i = 400
        · obtain ⟨v1, v2⟩ := o2 h7
          refine Or.inl ⟨2, i, M1, ?_, eR.trans v1, v2, o1⟩
          unfold gR; rw [if_pos h7]; rfl
        · obtain ⟨v1, H1, hi1, v4⟩ := o3 h7
          have eg : gR i [] = .inr (i + 1, []) := by unfold gR; rw [if_neg h7]
          rw [eg]
          have ro := rs_op (tkF T n0 i).1 cs_num
          have ro' : opc (rsF (tkF T n0 i).1) = opF (tkF T n0 i).1 ∧ (w = 3 → rsF (tkF T n0 i).1 = 8 ∨ rsF (tkF T n0 i).1 = 9) ∧ (w = 4 → rsF (tkF T n0 i).1 = 10 ∨ rsF (tkF T n0 i).1 = 15) := by
            rcases hw3 with rfl | rfl
            · have := ro.1 ho
              exact ⟨this.2.2, fun _ => this.2.1, fun z => by omega⟩
            · have := ro.2.1 ho
              exact ⟨this.2.2, fun z => by omega, fun _ => this.2.1⟩
          show RQ T n0 b w a M s p k (bR (pX (tkF T n0) n (w - 2) a (i + 1)) (fun j c => cR (c ++ [(opF (tkF T n0 i).1, 0)]) (pX (tkF T n0) n w a j)))
          generalize hO : rsF (tkF T n0 i).1 = o at ro' H1
          have ls : (s ++ [o]).length = s.length + 1 := by rw [List.length_append]; rfl
          have l0 : ([] : List Nat).length = 0 := rfl
          have e2 : Rn (w - 2) M1 = RunA 0 M1 := by unfold Rn; rw [if_pos (by omega)]
          rcases ih (w - 2) a (i + 1) M1 (s ++ [o]) [] (k + p.length) (by omega) ha (by omega) (by rw [List.append_nil]; exact H1) hi1 (okK_snoc hs (by omega)) (by
              rcases hw3 with rfl | rfl
              · exact Or.inr (Or.inr ⟨s, o, rfl, Or.inr ⟨Or.inl rfl, ro'.2.1 rfl⟩⟩)
              · exact Or.inl rfl) ⟨fun _ => rfl, fun z => by omega, fun z => by omega⟩ (by omega) (by omega) with ⟨f, j, M2, r1, r2, r3, r4⟩ | ⟨j, c1, M2, p2, d2, r1, r2, r3, r4, r5, r6, r7, r8⟩
          · rw [r1]
            exact Or.inl ⟨f, j, M2, rfl, eR.trans (v1.trans (e2.symm.trans r2)), r3, fp_tr o1 (fp_RR (by omega) r4)⟩
          · rw [r1]
            obtain ⟨g1, g2, g3, g4, g5, g6⟩ := pX_pr n (w - 2) a (i + 1) j c1 (by omega) (by omega) r1
            have len := congrArg List.length r7
            rw [List.length_append, List.length_append, pc_len, pc_len] at len
            show RQ T n0 b w a M s p k (cR (c1 ++ [(opF (tkF T n0 i).1, 0)]) (pX (tkF T n0) n w a j))
            have lp : ([o] ++ p2).length = 1 + p2.length := by rw [List.length_append]; rfl
            have eW : Rn w M2 = RunB 0 M2 := by unfold Rn; rw [if_neg (by omega)]
            have st : Rn w M = Rn w M2 := eR.trans (v1.trans (e2.symm.trans (r2.trans eW.symm)))
            have m2 : iv_sm M2 k (pc p ++ d2) := sm_app (sm_fpK v4 r8 (by rw [pc_len]; omega)) (by rw [pc_len]; exact r6)
            have ld : (pc p ++ d2).length = p.length + d2.length := by rw [List.length_append, pc_len]
            rcases ih w a j M2 s ([o] ++ p2) (k + (pc p ++ d2).length) (by omega) ha (by omega) (by
                rw [ld, ← List.append_assoc, ← Nat.add_assoc]; exact r3) r4 hs ht ⟨fun z => by omega, fun z => by
                  have hp2 : p2 = [] := r5.1 (by omega)
                  subst hp2
                  rcases ro'.2.2 z with rfl | rfl
                  · exact Or.inr (Or.inl rfl)
                  · exact Or.inr (Or.inr rfl), fun z => ⟨[o], p2, rfl, by
                  rcases ro'.2.1 z with rfl | rfl
                  · exact Or.inr (Or.inl rfl)
                  · exact Or.inr (Or.inr rfl), r5.2.1 (by omega)⟩⟩ hl (by omega) with ⟨f, j', M3, t1, t2, t3, t4⟩ | ⟨j', c3, M3, p3, d3, t1, t2, t3, t4, t5, t6, t7, t8⟩
            · rw [t1]
              exact Or.inl ⟨f, j', M3, rfl, st.trans t2, t3, fp_tr o1 (fp_tr (fp_RR (by omega) r8) (fp_RR (by omega) t4))⟩
            · rw [t1]
              refine Or.inr ⟨j', c1 ++ [(opF (tkF T n0 i).1, 0)] ++ c3, M3, p3, pc p ++ d2 ++ d3, rfl, st.trans t2, ?_, t4, ⟨fun z => by omega, fun z => t5.2.1 z, fun z => t5.2.2 z⟩, sm_app (sm_fpK m2 t8 (Nat.le_refl _)) t6, ?_, fp_tr o1 (fp_tr (fp_RR (by omega) r8) (fp_RR (by omega) t8))⟩
              · rw [List.length_append (as := pc p ++ d2), ← Nat.add_assoc]; exact t3
              · have r7' : d2 ++ pc p2 = c1 := r7
                rw [List.append_assoc, t7, pc_app, ← r7']
                have : pc [o] = [(opF (tkF T n0 i).1, 0)] := by rw [← ro'.1]; rfl
                rw [this]
                simp only [List.append_assoc]
      · rw [if_neg ho]
        refine Or.inr ⟨i, [], M, p, [], rfl, eR, hM, hi, ⟨fun z => by omega, fun z => hp.2.1 (by omega), fun z => hp.2.2 (by omega)⟩, sm_nil, (List.append_nil _).symm, fp_rfl _ _⟩
/-- an expression, from its first token on -/
theorem r_expr {T : Nat → Nat} {n0 b i k : Nat} {M : zm_Mem} (hb : b ≤ 420) (hR : Rks M (tkF T n0) (tkE T n0)) (h11 : M.1 52 11 = nI i) (h13 : M.1 52 13 = 0) (h12 : M.1 52 12 = 0) (h48 : M.1 52 48 = nI k) (hi : i ≤ tkE T n0) (hk : k ≤ b + i) : ∃ M', f_X11_expression M = some ((), M') ∧ Fp (pR k (b + 420)) M M' ∧
    ((∃ f j, pX (tkF T n0) 3000 0 0 i = .inl (f, j) ∧ RF M' (tkF T n0) (tkE T n0) j f) ∨
     (∃ j c, pX (tkF T n0) 3000 0 0 i = .inr (j, c) ∧ Rks M' (tkF T n0) (tkE T n0) ∧ M'.1 52 11 = nI j ∧ M'.1 52 13 = 0 ∧ M'.1 52 12 = 0 ∧ M'.1 52 48 = nI (k + c.length) ∧ j ≤ tkE T n0 ∧ iv_sm M' k c)) := by
  have f0 : Fp (fun x j => x = 52 ∧ j = 52) M (zm_sI M 52 52 0) := fp_sI ⟨rfl, rfl⟩
  have S0 : SkR (zm_sI M 52 52 0) [] := ⟨by show 0 ≤ 64; omega, by rw [mI1, if_pos ⟨rfl, rfl⟩]; rfl, fun i x hx => by cases hx⟩
  have H0 : RS (zm_sI M 52 52 0) (tkF T n0) (tkE T n0) i 0 ([] ++ []) k := ⟨rks_fp f0 (fun x j a b z => by omega) hR, by rw [f0.2 52 11 (by omega)]; exact h11, by rw [f0.2 52 13 (by omega)]; exact h13, by rw [f0.2 52 12 (by omega)]; exact h12, S0, by rw [f0.2 52 48 (by omega)]; exact h48⟩
  have f0' : Fp (pR k (b + 420)) M (zm_sI M 52 52 0) := fp_mono (fun x j z => by unfold pR; omega) f0
  have h400 : i ≤ 400 := Nat.le_trans hi hR.1
  have n0' : nd 0 = 3 := rfl
  have l0 : ([] : List Nat).length = 0 := rfl
  have e0 : f_X11_expression M = Rn 0 (zm_sI M 52 52 0) := rx_begin h13 h12
  rw [e0]
  rcases r_sums hb 3000 0 0 i _ [] [] k (by omega) (by omega) (by omega) H0 hi (fun x hx => by cases hx) (Or.inr (Or.inl rfl)) ⟨fun _ => rfl, fun z => by omega, fun z => by omega⟩ (by omega) (by omega) with ⟨f, j, M1, r1, r2, r3, r4⟩ | ⟨j, c1, M1, p1, d1, r1, r2, r3, r4, r5, r6, r7, r8⟩
  · exact ⟨M1, r2, fp_tr f0' r4, Or.inl ⟨f, j, r1, r3⟩⟩
  · obtain ⟨g1, g2, g3, g4, g5, g6⟩ := pX_pr 3000 0 0 i j c1 (by omega) h400 r1
    have len := congrArg List.length r7
    rw [List.length_append, List.length_append, pc_len, pc_len] at len
    have q4 := rs_40 _ cs_num (tkF_ok (T := T) (n := n0) (i := j)).1
    have ro := rs_op (tkF T n0 j).1 cs_num
    have o3 := ro.2.2.1 (g5 (Or.inl rfl))
    have o4 := ro.2.2.2 (g6 (Or.inr (Or.inr (Or.inl rfl))))
    obtain ⟨M2, c1', c2, c3, c4, c5⟩ := r_comes (a1 := 0) (h := b + 420) (s := []) (by omega) (Or.inl rfl) p1.length p1 M1 (k + d1.length) rfl r3.2.2.2.2.1 r3.2.2.2.2.2 (by omega) (fun x hx => ⟨pA_op (r5.2.2 (Or.inl rfl)) x hx, Or.inl rfl⟩)
    have ec : d1 ++ pc p1 = c1 := r7
    have i7 := r_isX r3 r4 7 41 (by omega) q4.2.1
    have i7' : f_X11_is 7 M1 = some 0 ∨ (f_X11_is 7 M1 = some 1 ∧ M1.1 52 12 ≤ 0) := by
      by_cases h41 : (tkF T n0 j).1 = 41
      · exact Or.inr ⟨i7.1 h41, by rw [r3.2.2.2.1]; decide⟩
      · exact Or.inl (i7.2 h41)
    have E : RunB 0 M1 = some ((), M2) := by
      rw [r_end i7' ((r_isX r3 r4 8 43 (by omega) q4.2.2.1).2 o3.1) ((r_isX r3 r4 9 45 (by omega) q4.2.2.2.1).2 o3.2) ((r_isX r3 r4 10 42 (by omega) q4.2.2.2.2.1).2 o4.1) ((r_isX r3 r4 15 47 (by omega) q4.2.2.2.2.2).2 o4.2)]
      unfold f_X11_expression_x191_12 f_X11_expression_b204
      rw [r3.2.2.2.1, if_pos (by decide), c1', zb2_some]
    have H2 := rs_fp r3 c5 (fun x j a b z => by unfold pK at z; omega) (by unfold pK; omega) (by unfold pK; omega) (by unfold pK; omega) c2 c3
    refine ⟨M2, r2.trans E, fp_tr f0' (fp_tr r8 (fp_RR (by omega) (fp_KR c5))), Or.inr ⟨j, c1, r1, H2.1, H2.2.1, H2.2.2.1, H2.2.2.2.1, ?_, r4, ?_⟩⟩
    · rw [H2.2.2.2.2.2, ← ec, List.length_append, pc_len, Nat.add_assoc]
    · rw [← ec]
      exact sm_app (sm_fpK r6 (fp_KR c5) (Nat.le_refl _)) c4
