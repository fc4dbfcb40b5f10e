theorem nv_lt {T : Nat → Nat} {p : Nat} : ∀ i, (∀ k, k < i → T (p + k) ≤ 57) → nv T p i < 10 ^ i
  | 0, _ => by show 0 < 10 ^ 0; decide
  | i + 1, h => by
    have h1 := nv_lt (T := T) (p := p) i (fun k hk => h k (by omega))
    have h2 := h i (by omega)
    rw [Nat.pow_succ]
    show nv T p i * 10 + (T (p + i) - 48) < 10 ^ i * 10
    omega
theorem i64_al0 : ∀ a, a < 100 → ∀ b, b < 100 → (nI (100 * a + b)).toInt64 = Int64.ofNat (100 * a + b) := by decide +kernel
theorem i64_all (v : Nat) (h : v < 10000) : (nI v).toInt64 = Int64.ofNat v := by
  have := i64_al0 (v / 100) (by omega) (v % 100) (by omega)
  rw [Nat.div_add_mod] at this; exact this
theorem run_dg {T : Nat → Nat} {n p L : Nat} (h : Run isDg T n p L) : nv T p (min L 4) < 10000 := by
  have h1 := nv_lt (T := T) (p := p) (min L 4) (fun k hk => by
    have := h.2.1 k (by omega)
    unfold isDg at this
    rw [Bool.and_eq_true, decide_eq_true_eq, decide_eq_true_eq] at this
    exact this.2)
  exact Nat.lt_of_lt_of_le h1 (Nat.pow_le_pow_right (n := 10) (by omega) (show min L 4 ≤ 4 by omega))
theorem run_lt {T : Nat → Nat} {n p L : Nat} (h : Run isLt T n p L) : (lets T p (min L 8)).length ≤ 8 ∧ ltsL (lets T p (min L 8)) := by
  refine ⟨by unfold lets; rw [List.length_map, List.length_range]; omega, fun c hc => ?_⟩
  unfold lets at hc
  obtain ⟨k, hk, rfl⟩ := List.mem_map.1 hc
  rw [List.mem_range] at hk
  have := h.2.1 k (by omega)
  unfold isLt at this
  rw [Bool.and_eq_true, decide_eq_true_eq, decide_eq_true_eq] at this
  exact this
theorem c_isBl {c : Nat} (hc : c < 256) (M : zm_Mem) : f_X7_isBlank (nI c) M = some (if isBl c = true then 1 else 0) := by
  have e : ∀ k, k < 256 → (nI c = nI k ↔ c = k) := fun k hk => nI_eq (by omega) (by omega)
  unfold f_X7_isBlank f_X7_isBlank_b24 isBl
  rw [show (9 : Int32) = nI 9 from rfl, show (10 : Int32) = nI 10 from rfl, show (13 : Int32) = nI 13 from rfl, show (32 : Int32) = nI 32 from rfl]
  simp only [e 9 (by omega), e 10 (by omega), e 13 (by omega), e 32 (by omega)]
  by_cases h1 : c = 9
  · subst h1; rfl
  · by_cases h2 : c = 10
    · subst h2; rfl
    · by_cases h3 : c = 13
      · subst h3; rfl
      · by_cases h4 : c = 32
        · subst h4; rfl
        · rw [if_neg h1, if_neg h2, if_neg h3, if_neg h4, decide_eq_false h1, decide_eq_false h2, decide_eq_false h3, decide_eq_false h4]; rfl
theorem c_cutStep {L : zm_Mem} {T : Nat → Nat} {n p i : Nat} {l : List zTk} (hT : TpC L T n) (hW : iv_words L) (hp : p < n) (hi : i < n) (hk : TkC L l) (hl : l.length < 401) : f_X7_cut_l10 2 (nI n) (nI p) (nI i) L = some (.inl (nI (nxS T n p), nI (i + 1), match nxT T n p with | none => L | some x => adC L l.length x)) := by
  have hn := hT.1
  obtain ⟨t1, t2, t3⟩ := hT.2 p hp
  have rw1 := rl_run (P := isLt) (T := T) (n := n) (p := p) (by omega)
  have rw2 := rl_run (P := isDg) (T := T) (n := n) (p := p) (by omega)
  unfold f_X7_cut_l10 f_X7_cut_b110_10 f_X7_cut_b118_10
  simp only [zv_eq]
  rw [if_neg (nI_ge hi (by omega)), if_neg (nI_ge hp (by omega)), hk.1, if_neg (show ¬ (401 : Int32) ≤ nI l.length from nI_ge (b := 401) hl (by omega)), show (zm_sh 2).2 = 2000 from rfl, zm_ck_t (zm_in_nI (by omega) (by omega)), nI_clamp (by omega), t2, c_isBl t1, zb1_some, nI_k1, nI_k1]
  unfold nxS nxT
  by_cases hb : isBl (T p) = true
  · rw [if_pos hb, if_neg (by decide), if_pos hb, if_pos hb]
  · rw [if_neg hb, if_pos rfl, if_neg hb, if_neg hb, c_isLet t1, zb1_some]
    by_cases hlt : isLt (T p) = true
    · rw [if_pos hlt, if_neg (by decide), if_pos hlt, if_pos hlt]
      generalize rl isLt T n p = R at rw1 ⊢
      have hRn := rw1.1
      obtain ⟨q1, q2⟩ := run_lt rw1
      have hcw : f_X7_cutWord 2 (nI n) (nI p) L = some (nI (p + R), adC L l.length (if R ≤ 8 then (ksC (wIx (lets T p (min R 8)) 20)) else 1, p, lets T p (min R 8), 0)) := by
        unfold f_X7_cutWord
        rw [c_cutW hT rw1]
        simp only [Option.bind_some]
        unfold f_X7_cutWord_b57 f_X7_cutWord_b77
        rw [zi_sub (by omega), show p + R - p = R by omega]
        by_cases h8 : R ≤ 8
        · rw [if_pos (show nI R ≤ (8 : Int32) from nI_le (b := 8) h8 (by omega)), c_sortOf hW q1 q2, zb1_some, if_pos h8]
          have := c_tadd (x := ((ksC (wIx (lets T p (min R 8)) 20)), p, lets T p (min R 8), 0)) hk.1 (by omega)
          have e : cwt ((ksC (wIx (lets T p (min R 8)) 20)), p, lets T p (min R 8), 0) = Int64.ofNat (iv_wn 32 (lets T p (min R 8))) := rfl
          rw [e] at this
          have this' : f_X7_add (nI (ksC (wIx (lets T p (min R 8)) 20))) (nI p) (Int64.ofNat (iv_wn 32 (lets T p (min R 8)))) L = _ := this
          rw [this', zb2_some]
        · rw [if_neg (show ¬ nI R ≤ (8 : Int32) from nI_ge (a := 8) (by omega) (by omega)), if_neg h8]
          have := c_tadd (x := (1, p, lets T p (min R 8), 0)) hk.1 (by omega)
          have e : cwt (1, p, lets T p (min R 8), 0) = Int64.ofNat (iv_wn 32 (lets T p (min R 8))) := rfl
          rw [e] at this
          have this' : f_X7_add 1 (nI p) (Int64.ofNat (iv_wn 32 (lets T p (min R 8)))) L = _ := this
          rw [this', zb2_some]
      rw [hcw, zb2_some]
    · rw [if_neg hlt, if_pos rfl, if_neg hlt, if_neg hlt, c_isDig t1, zb1_some]
      by_cases hd : isDg (T p) = true
      · rw [if_pos hd, if_neg (by decide), if_pos hd, if_pos hd]
        generalize rl isDg T n p = R at rw2 ⊢
        have hRn := rw2.1
        have hv := run_dg rw2
        have hcn : f_X7_cutNumber 2 (nI n) (nI p) L = some (nI (p + R), adC L l.length (if R ≤ 4 then 3 else 1, p, [], nv T p (min R 4))) := by
          unfold f_X7_cutNumber
          rw [c_cutN hT rw2]
          simp only [Option.bind_some]
          unfold f_X7_cutNumber_b55 f_X7_cutNumber_b69
          rw [zi_sub (by omega), show p + R - p = R by omega, i64_all _ hv]
          have e : ∀ s, cwt (s, p, [], nv T p (min R 4)) = Int64.ofNat (nv T p (min R 4)) := fun s => by
            show Int64.ofNat (0 + nv T p (min R 4)) = _
            rw [Nat.zero_add]
          by_cases h8 : R ≤ 4
          · rw [if_pos (show nI R ≤ (4 : Int32) from nI_le (b := 4) h8 (by omega)), if_pos h8]
            have := c_tadd (x := (3, p, [], nv T p (min R 4))) hk.1 (by omega)
            rw [e] at this
            have this' : f_X7_add 3 (nI p) (Int64.ofNat (nv T p (min R 4))) L = _ := this
            rw [this', zb2_some]
          · rw [if_neg (show ¬ nI R ≤ (4 : Int32) from nI_ge (a := 4) (by omega) (by omega)), if_neg h8]
            have := c_tadd (x := (1, p, [], nv T p (min R 4))) hk.1 (by omega)
            rw [e] at this
            have this' : f_X7_add 1 (nI p) (Int64.ofNat (nv T p (min R 4))) L = _ := this
            rw [this', zb2_some]
        rw [hcn, zb2_some]
      · rw [if_neg hd, if_pos rfl, if_neg hd, if_neg hd]
        obtain ⟨r, k1, k2⟩ := c_sign t1 L
        rw [k1, zb1_some]
        cases hsg : isSg (T p) with
        | false =>
          rw [if_pos (k2.2 hsg), if_neg (c := false = true) (by decide)]
          have := c_tadd (x := (1, p, [], 0)) hk.1 (by omega)
          have this' : f_X7_add 1 (nI p) 0 L = _ := this
          rw [this', zb2_some]
        | true =>
          rw [if_neg (fun z => by rw [k2.1 z] at hsg; cases hsg), if_pos (c := true = true) rfl]
          have := c_tadd (x := (T p, p, [], 0)) hk.1 (by omega)
          have this' : f_X7_add (nI (T p)) (nI p) 0 L = _ := this
          rw [this', zb2_some]
theorem tpC_fg {M L : zm_Mem} {T : Nat → Nat} {n : Nat} (h : Fg wTk M L) (hT : TpC M T n) : TpC L T n := ⟨hT.1, fun j hj => by rw [h.2.1 2 j rfl]; exact hT.2 j hj⟩
theorem wds_fg {M L : zm_Mem} (h : Fg wTk M L) (hW : iv_words M) : iv_words L := fun j hj => by rw [h.2.2 7 j rfl, h.2.2 59 j rfl]; exact hW j hj
theorem c_cut {M : zm_Mem} {T : Nat → Nat} {n : Nat} (hT : TpC M T n) (hW : iv_words M) : ∃ M', f_X7_cut 2 (nI n) M = some ((), M') ∧ Fg wTk M M' ∧ TkC M' ((tokA T n 0).take 401 ++ [(0, n, [], 0)]) := by
  have hn := hT.1
  have f0 : Fg wTk M (zm_sI M 3 4 0) := fg_sI rfl
  have k0 : TkC (zm_sI M 3 4 0) [] := ⟨by rw [mI1, if_pos ⟨rfl, rfl⟩]; rfl, fun i x h => by cases h⟩
  have key : ∃ e, zm_lp (fun s => f_X7_cut_l10 2 (nI n) s.1 s.2.1 s.2.2) (nI 0, nI 0, zm_sI M 3 4 0) = some e ∧ (Fg wTk M e ∧ TkC e ((tokA T n 0).take 401)) := by
    refine lp_inv (step := fun s => f_X7_cut_l10 2 (nI n) s.1 s.2.1 s.2.2) (fun i z => ∃ p l, z.1 = nI p ∧ z.2.1 = nI i ∧ i ≤ p ∧ p ≤ n ∧ Fg wTk M z.2.2 ∧ TkC z.2.2 l ∧ l.length ≤ 401 ∧ tokA T n 0 = l ++ tokA T n p) _ n ?_ ?_ ⟨0, [], rfl, rfl, by omega, by omega, f0, k0, by simp, rfl⟩
    · rintro i ⟨z1, z2, L⟩ hi ⟨p, l, h1, h2, h3, h4, h5, h6, h7, h8⟩
      simp only at h1 h2 h5 h6
      subst h1 h2
      by_cases hp : p < n
      · by_cases hl : l.length < 401
        · have st := c_cutStep (tpC_fg h5 hT) (wds_fg h5 hW) hp hi h6 hl
          have hg := nxS_gt (T := T) hp
          refine Or.inl ⟨_, st, ?_⟩
          rw [tokA_go hp] at h8
          cases hx : nxT T n p with
          | none =>
            rw [hx] at h8
            exact ⟨nxS T n p, l, rfl, rfl, by omega, by omega, h5, h6, h7, h8⟩
          | some x =>
            rw [hx] at h8
            refine ⟨nxS T n p, l ++ [x], rfl, rfl, by omega, by omega, fg_tr h5 fg_adC, tkC_add h6, by rw [List.length_append]; show l.length + 1 ≤ 401; omega, ?_⟩
            rw [List.append_assoc]; exact h8
        · refine Or.inr ⟨L, ?_, h5, ?_⟩
          · show f_X7_cut_l10 2 (nI n) (nI p) (nI i) L = _
            unfold f_X7_cut_l10
            rw [if_neg (nI_ge hi (by omega)), if_neg (nI_ge hp (by omega)), h6.1, if_pos (show (401 : Int32) ≤ nI l.length from nI_le (a := 401) (by omega) (by omega))]
          · rw [h8, List.take_append_of_le_length (by omega), List.take_of_length_le h7]; exact h6
      · refine Or.inr ⟨L, ?_, h5, ?_⟩
        · show f_X7_cut_l10 2 (nI n) (nI p) (nI i) L = _
          unfold f_X7_cut_l10
          rw [if_neg (nI_ge hi (by omega)), if_pos (nI_le (by omega) (by omega))]
        · rw [h8, tokA_end (by omega), List.append_nil, List.take_of_length_le h7]; exact h6
    · rintro ⟨z1, z2, L⟩ ⟨p, l, h1, h2, h3, h4, h5, h6, h7, h8⟩
      simp only at h1 h2 h5 h6
      subst h1 h2
      refine ⟨L, ?_, h5, ?_⟩
      · show f_X7_cut_l10 2 (nI n) (nI p) (nI n) L = _
        unfold f_X7_cut_l10
        rw [if_pos (nI_le (Nat.le_refl _) (by omega))]
      · rw [h8, tokA_end (by omega), List.append_nil, List.take_of_length_le h7]; exact h6
  obtain ⟨e, k1, k2, k3⟩ := key
  refine ⟨adC e ((tokA T n 0).take 401).length (0, n, [], 0), ?_, fg_tr k2 fg_adC, tkC_add k3⟩
  unfold f_X7_cut
  simp only [zv_eq]
  have k1' : zm_lp (fun s => f_X7_cut_l10 2 (nI n) s.1 s.2.1 s.2.2) (0, 0, zm_sI M 3 4 0) = some e := k1
  rw [k1']
  simp only [Option.bind_some]
  unfold f_X7_cut_b124
  have := c_tadd (x := (0, n, [], 0)) k3.1 (by rw [List.length_take]; omega)
  have this' : f_X7_add 0 (nI n) 0 e = _ := this
  rw [this', zb2_some]
