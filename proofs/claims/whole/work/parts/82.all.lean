theorem go_ite {c : Prop} [Decidable c] {a b : Option ((Int32 × zm_Mem × Nat) ⊕ zm_Mem)} {i q n : Nat} (h1 : c → Go a i q n) (h2 : ¬ c → Go b i q n) : Go (if c then a else b) i q n := by
  by_cases h : c
  · rw [if_pos h]; exact h1 h
  · rw [if_neg h]; exact h2 h
theorem cs_step {M : zm_Mem} {q n i L : Nat} {xs : Nat → Int32} (hI : Inv M q n) (hq : q ≤ n) (hn : n < 512) (hi : i + 5 < L) (hL : L ≤ 3072) : Go (f_law_step L xs (nI i) M q) i q n := by
  unfold f_law_step
  have h1 : ¬ (Int32.ofNat L - 6 < nI i) := by
    have e : Int32.ofNat L - 6 = nI (L - 6) := by
      have : nI (L - 6) + 6 = nI L := by rw [nI_k6]; congr 1; omega
      show nI L - 6 = _
      rw [← this, Int32.add_sub_cancel]
    rw [e]
    exact nI_nlt (by omega) (by omega)
  rw [zm_ck_t (by rw [decide_eq_true_eq]; omega), if_neg h1, zm_ck_t (by rw [decide_eq_true_eq]; omega), zm_ck_t (zm_in_nI (by omega) (by omega))]
  unfold zm_v
  dsimp only
  refine go_ite (fun _ => cs_0 hI hn hi hL) (fun _ => ?_)
  refine go_ite (fun _ => cs_1 hI hn hi hL) (fun _ => ?_)
  refine go_ite (fun _ => cs_2 hI hn hi hL) (fun _ => ?_)
  refine go_ite (fun _ => cs_3 hI hn hi hL) (fun _ => ?_)
  refine go_ite (fun _ => cs_4 hI hn hi hL) (fun _ => ?_)
  refine go_ite (fun _ => cs_5 hI hn hi hL) (fun _ => ?_)
  refine go_ite (fun _ => cs_6 hI hn hi hL) (fun _ => ?_)
  refine go_ite (fun _ => cs_7 hI hn hi hL) (fun _ => ?_)
  refine go_ite (fun _ => cs_08 hI hn hi hL) (fun _ => ?_)
  refine go_ite (fun _ => cs_9 hI hn hi hL) (fun _ => ?_)
  refine go_ite (fun _ => cs_10 hI hn hi hL) (fun _ => ?_)
  refine go_ite (fun _ => cs_11 hI hn hi hL) (fun _ => ?_)
  refine go_ite (fun _ => cs_12 hI hn hi hL) (fun _ => ?_)
  refine go_ite (fun _ => cs_13 hI hn hi hL) (fun _ => ?_)
  refine go_ite (fun _ => cs_14 hI hn hi hL) (fun _ => ?_)
  refine go_ite (fun _ => cs_15 hI hn hi hL) (fun _ => ?_)
  refine go_ite (fun _ => cs_16 hI hn hi hL) (fun _ => ?_)
  refine go_ite (fun _ => cs_17 hI hn hi hL) (fun _ => ?_)
  refine go_ite (fun _ => cs_18 hI hn hi hL) (fun _ => ?_)
  refine go_ite (fun _ => cs_19 hI hn hi hL) (fun _ => ?_)
  refine go_ite (fun _ => cs_20 hI hn hi hL) (fun _ => ?_)
  refine go_ite (fun _ => cs_21 hI hn hi hL) (fun _ => ?_)
  refine go_ite (fun _ => cs_22 hI hn hi hL) (fun _ => ?_)
  refine go_ite (fun _ => cs_23 hI hn hi hL) (fun _ => ?_)
  refine go_ite (fun _ => cs_24 hI hn hi hL) (fun _ => ?_)
  refine go_ite (fun _ => cs_25 hI hn hi hL) (fun _ => ?_)
  refine go_ite (fun _ => cs_26 hI hn hi hL) (fun _ => ?_)
  refine go_ite (fun _ => cs_27 hI hn hi hL) (fun _ => ?_)
  refine go_ite (fun _ => cs_28 hI hn hi hL) (fun _ => ?_)
  refine go_ite (fun _ => cs_29 hI hn hi hL) (fun _ => ?_)
  refine go_ite (fun _ => cs_30 hI hn hi hL) (fun _ => ?_)
  refine go_ite (fun _ => cs_31 hI hn hi hL) (fun _ => ?_)
  refine go_ite (fun _ => cs_32 hI hn hi hL) (fun _ => ?_)
  refine go_ite (fun _ => cs_33 hI hn hi hL) (fun _ => ?_)
  refine go_ite (fun _ => cs_34 hI hn hi hL) (fun _ => ?_)
  refine go_ite (fun _ => cs_35 hI hn hi hL) (fun _ => ?_)
  exact go_of (iv_mono hI) (Nat.le_succ q)
theorem law_stop {L : Nat} {xs : Nat → Int32} (hL : L ≤ 3072) {i q : Nat} {M : zm_Mem} (hq : q ≤ 512) (h2 : i ≤ L + 5) (hend : ¬ i + 5 < L) : ∃ N, zm_lp (fun s => f_law_step L xs s.1 s.2.1 s.2.2) (nI i, M, q) = some N := by
  refine ⟨M, ?_⟩
  rw [zm_lp_eq]
  show (f_law_step L xs (nI i) M q).bind _ = _
  have h5 : Int32.ofNat L - 6 < nI i := by
    show nI L - 6 < nI i
    rw [Int32.lt_iff_toInt_lt, Int32.toInt_sub, nI_toInt (by omega), nI_toInt (by omega)]
    rw [show (6 : Int32).toInt = 6 by decide, Int.bmod_eq_of_le (by omega) (by omega)]
    omega
  unfold f_law_step
  rw [zm_ck_t (by rw [decide_eq_true_eq]; exact hq), if_pos h5]
  rfl
theorem law_run {L : Nat} {xs : Nat → Int32} (hL : L ≤ 3072) : ∀ (m n i : Nat) (M : zm_Mem) (q : Nat), Inv M q n → q ≤ n → i = 6 * n → L < i + 6 * m → i ≤ L + 5 → ∃ N, zm_lp (fun s => f_law_step L xs s.1 s.2.1 s.2.2) (nI i, M, q) = some N := by
  intro m
  induction m with
  | zero => intro n i M q _ hq hi h1 h2; exact law_stop hL (by omega) h2 (by omega)
  | succ m ih =>
    intro n i M q hI hq hi h1 h2
    by_cases hend : i + 5 < L
    · obtain ⟨M', q', e, h3, h4⟩ := cs_step (xs := xs) hI hq (by omega) hend hL
      obtain ⟨N, hN⟩ := ih (n + 1) (i + 6) M' q' h3 (by omega) (by omega) (by omega) (by omega)
      refine ⟨N, ?_⟩
      rw [zm_lp_eq]
      show (f_law_step L xs (nI i) M q).bind _ = _
      rw [e]
      exact hN
    · exact law_stop hL (by omega) h2 hend
/-- THE CLAIM, PURE: for every script the law's function comes to its end with true -/
theorem f_law_all (L : Nat) (xs : Nat → Int32) (hL : L ≤ 3072) : ∃ N, f_law L xs = some ((), N) := by
  obtain ⟨N1, N2, h1, h2, h3⟩ := law_new
  obtain ⟨N, hN⟩ := law_run (xs := xs) hL (L + 1) 0 0 N2 0 h3 (Nat.le_refl _) rfl (by omega) (by omega)
  refine ⟨N, ?_⟩
  unfold f_law zm_v zm_b2
  dsimp only
  rw [h1]
  simp only [Option.bind_some]
  rw [h2]
  simp only [Option.bind_some]
  rw [show ((0 : Int32), N2, 0) = (nI 0, N2, 0) by rw [nI_0], hN]
  rfl
