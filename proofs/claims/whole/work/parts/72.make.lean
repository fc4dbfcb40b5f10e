/-! what a row does to the survey -/
abbrev zV : Type := (Nat → Bool) × (Nat → Bool) × (Nat → Bool) × Nat × Nat × Nat
def stp (j : Nat) : Nat := [1, 8, 64, 320, 1600, 8000].getD j 0
theorem stp_eq : ∀ j, j < 6 → zm_steps j = nI (stp j) := by decide
def atF (p c : Nat) : Nat := sumOf (fun j => stp j * dgp 5 p c j) c
theorem atF_ext {p d c : Nat} (hd : d < 5) : atF (p * 5 + d) (c + 1) = atF p c + stp c * d := by
  unfold atF
  show sumOf _ c + stp c * dgp 5 (p * 5 + d) (c + 1) c = _
  rw [dgp_hi hd]
  congr 1
  exact sumOf_congr (fun j hj => by rw [dgp_lo hd hj])
theorem atF_lt {p c : Nat} (hc : c ≤ 6) : atF p c < 40000 := by
  have h : ∀ c, c ≤ 6 → atF p c ≤ 4 * sumOf stp 6 := by
    intro c hc
    obtain ⟨k, hk⟩ := Nat.exists_eq_add_of_le hc
    have h1 : atF p c ≤ sumOf (fun j => 4 * stp j) c := sum_le2 (fun j _ => by
      have := dgp_lt (B := 5) (by omega) p c j
      rw [Nat.mul_comm 4]
      exact Nat.mul_le_mul_left _ (by omega))
    have h2 : sumOf (fun j => 4 * stp j) c ≤ sumOf (fun j => 4 * stp j) 6 := by rw [hk]; exact sum_mono k
    have h3 : sumOf (fun j => 4 * stp j) 6 = 4 * sumOf stp 6 := by decide
    omega
  have := h c hc
  have e : sumOf stp 6 = 9993 := by decide
  omega
def ofF (a : Nat → Bool) (g : Nat → Nat) (p c : Nat) : Nat := sumOf (fun j => if a j = true ∧ g j = dgp 5 p c j then 0 else 1) c
theorem ofF_ext {a : Nat → Bool} {g : Nat → Nat} {p d c : Nat} (hd : d < 5) : ofF a g (p * 5 + d) (c + 1) = ofF a g p c + (if a c = true ∧ g c = d then 0 else 1) := by
  unfold ofF
  show sumOf _ c + (if a c = true ∧ g c = dgp 5 (p * 5 + d) (c + 1) c then 0 else 1) = _
  rw [dgp_hi hd]
  congr 1
  exact sumOf_congr (fun j hj => by rw [dgp_lo hd hj])
theorem ofF_le (a : Nat → Bool) (g : Nat → Nat) (p c : Nat) : ofF a g p c ≤ c := by
  have := sumOf_le (f := fun j => if a j = true ∧ g j = dgp 5 p c j then 0 else 1) (c := 1) (i := c) (fun j _ => by split <;> omega)
  unfold ofF; omega
def hwL (rb fo' at' : Nat → Nat) (s : zV) (way : Nat) : zV :=
  (fun x => s.1 x || decide (x = rb way), fun q => s.2.1 q || decide (q = at' way), fun q => s.2.2.1 q || (decide (rb way = 0) && decide (q = at' way)),
   if rb way = 0 then s.2.2.2.1 + 1 else s.2.2.2.1, if rb way = 0 ∧ fo' way < s.2.2.2.2.1 then fo' way else s.2.2.2.2.1, if rb way = 0 ∧ fo' way < s.2.2.2.2.1 then way else s.2.2.2.2.2)
def SvR (M : zm_Mem) (W : Nat) (s : zV) : Prop := (∀ x, x < 64 → lb (M.2.1 103 12) x = s.1 x) ∧ (∀ q, q < 40000 → lb (M.2.1 104 (q / 64)) (q % 64) = s.2.1 q) ∧ (∀ q, q < 40000 → lb (M.2.1 105 (q / 64)) (q % 64) = s.2.2.1 q) ∧ M.1 103 13 = nI s.2.2.2.1 ∧ M.1 103 14 = nI s.2.2.2.2.1 ∧ s.2.2.2.2.1 ≤ 7 ∧ (s.2.2.2.2.1 ≤ 6 → ∀ w, w < W → M.1 108 w = nI (dgp 5 s.2.2.2.2.2 W w))
def wKr (x j : Nat) : Bool := decide (x = 104) || (decide (x = 105) || (decide (x = 108) || (decide (x = 103) && (decide (j = 12) || (decide (j = 13) || decide (j = 14))))))
theorem zcp00 (M : zm_Mem) (a b n : Nat) : zm_cp M a 0 b 0 n = cpM M b 0 n (M.1 a) := zcp0 M a b 0 n
theorem c_keepRow {M : zm_Mem} {W way : Nat} {rb off : Nat → Nat} {s : zV} (hW : W ≤ 6) (hrb : f_X6_brokenInRow M = some (nI (rb way))) (hr64 : rb way < 64) (hof : off way ≤ 6) (hs : SvR M W s) (h107 : ∀ j, j < W → M.1 107 j = nI (dgp 5 way W j)) : ∃ M', f_X6_keepRow (nI (atF way W)) (nI (off way)) M = some ((), M') ∧ Fg wKr M M' ∧ SvR M' W (hwL rb off (fun w => atF w W) s way) := by
  obtain ⟨h1, h2, h3, h4, h5, h6, h7⟩ := hs
  have hat := atF_lt (p := way) hW
  generalize hq : atF way W = q at hat
  have hidx : q / 64 < 625 := by omega
  have eL : ∀ q', q' < 40000 → ((q' / 64 = q / 64 ∧ q' % 64 = q % 64) ↔ q' = q) := fun q' _ => by omega
  have ebit : ∀ k, k < 64 → lb ((1 : Int64) <<< ((nI q &&& 63).toInt64 &&& 63)) k = decide (k = q % 64) := by
    intro k hk
    rw [show nI q &&& 63 = nI (q % 64) by rw [show (63 : Int32) = nI 63 from rfl, zi_and]; exact congrArg nI (Nat.and_two_pow_sub_one_eq_mod q 6)]
    exact lb_shl _ (by omega) k hk
  have e21 : nI q >>> ((6 : Int32) &&& 31) = nI (q / 64) := pk_shrN (by omega) _ 6 (by decide)
  generalize hb : (1 : Int64) <<< ((nI q &&& 63).toInt64 &&& 63) = bb at ebit
  generalize hA : zm_sL M 103 12 ((M.2.1 103 12) ||| ((1 : Int64) <<< ((nI (rb way)).toInt64 &&& 63))) = A
  have a1 : A.1 = M.1 := by rw [← hA, mL1]
  have a2 : ∀ x j, A.2.1 x j = if x = 103 ∧ j = 12 then (M.2.1 103 12) ||| ((1 : Int64) <<< ((nI (rb way)).toInt64 &&& 63)) else M.2.1 x j := fun x j => by rw [← hA, mL2]
  generalize hB : zm_sL A 104 (q / 64) (A.2.1 104 (q / 64) ||| bb) = B
  have b1 : B.1 = M.1 := by rw [← hB, mL1, a1]
  have b2 : ∀ x j, B.2.1 x j = if x = 104 ∧ j = q / 64 then A.2.1 104 (q / 64) ||| bb else A.2.1 x j := fun x j => by rw [← hB, mL2]
  have fB : Fg wKr M B := by rw [← hB, ← hA]; exact fg_tr (fg_sL rfl) (fg_sL rfl)
  have p1 : ∀ x, x < 64 → lb (B.2.1 103 12) x = (s.1 x || decide (x = rb way)) := by
    intro x hx
    rw [b2, if_neg (by omega), a2, if_pos ⟨rfl, rfl⟩, lb_or, h1 x hx, lb_shl _ hr64 x hx]
  have p2 : ∀ q', q' < 40000 → lb (B.2.1 104 (q' / 64)) (q' % 64) = (s.2.1 q' || decide (q' = q)) := by
    intro q' hq'
    rw [b2]
    by_cases hi : q' / 64 = q / 64
    · rw [if_pos ⟨rfl, hi⟩, a2, if_neg (by omega), lb_or, ebit _ (by omega), ← hi, h2 q' hq']
      congr 1
      rw [decide_eq_decide]
      have := eL q' hq'
      constructor
      · intro h; exact this.1 ⟨hi, h⟩
      · intro h; exact (this.2 h).2
    · rw [if_neg (fun z => hi z.2), a2, if_neg (by omega), h2 q' hq', decide_eq_false (fun z => hi (by rw [z])), Bool.or_false]
  have b105 : ∀ j, B.2.1 105 j = M.2.1 105 j := fun j => by rw [b2, if_neg (by omega), a2, if_neg (by omega)]
  have start : f_X6_keepRow (nI q) (nI (off way)) M = if nI (rb way) = 0 then (zm_v (zm_sL B 105 (q / 64) ((B.2.1 105 (q / 64)) ||| bb)) <| fun M73 => zm_v (zm_sI M73 103 13 ((M73.1 103 13) + 1)) <| fun M81 => if (M81.1 103 14) ≤ nI (off way) then (some ((), M81)) else some ((), cpM (zm_sI M81 103 14 (nI (off way))) 108 0 6 (M81.1 107))) else (some ((), B)) := by
    unfold f_X6_keepRow
    rw [hrb, zb1_some]
    simp only [zv_eq]
    rw [hA, e21, if_neg (nI_pos (by omega)), if_pos (show nI (q / 64) < 625 from nI_lt (b := 625) hidx (by omega)), hb, zm_ck_t (zm_in_nI hidx (by omega)), zm_ck_t (zm_in_nI hidx (by omega)), nI_clamp (by omega), hB, zm_ck_t (zm_in_nI hidx (by omega)), zm_ck_t (zm_in_nI hidx (by omega))]
    have eck : (decide ((0 : Int32) ≤ 0) && (decide ((0 : Int32) ≤ 0) && (decide (0 ≤ 6) && (decide ((0 : Int32).toNatClampNeg + (6 : Int32).toNatClampNeg ≤ 6) && decide ((0 : Int32).toNatClampNeg + (6 : Int32).toNatClampNeg ≤ 6))))) = true := by decide
    rw [eck]
    simp only [zk_true, show (0 : Int32).toNatClampNeg = 0 from by decide, show (6 : Int32).toNatClampNeg = 6 from by decide, zcp00]
    have e107 : ∀ (L : zm_Mem) (v : Int32), (zm_sI L 103 14 v).1 107 = L.1 107 := fun L v => by funext j; rw [mI1, if_neg (by omega)]
    simp only [e107]
  rw [start]
  by_cases hz : rb way = 0
  · rw [if_pos (by rw [hz]; rfl)]
    simp only [zv_eq]
    generalize hE : zm_sL B 105 (q / 64) ((B.2.1 105 (q / 64)) ||| bb) = E
    have e1 : E.1 = M.1 := by rw [← hE, mL1, b1]
    have e2 : ∀ x j, E.2.1 x j = if x = 105 ∧ j = q / 64 then B.2.1 105 (q / 64) ||| bb else B.2.1 x j := fun x j => by rw [← hE, mL2]
    have e13 : E.1 103 13 = nI s.2.2.2.1 := by rw [e1]; exact h4
    rw [e13, nI_k1]
    generalize hG : zm_sI E 103 13 (nI (s.2.2.2.1 + 1)) = G
    have g14 : G.1 103 14 = nI s.2.2.2.2.1 := by rw [← hG, mI1, if_neg (by omega), e1]; exact h5
    have g13 : G.1 103 13 = nI (s.2.2.2.1 + 1) := by rw [← hG, mI1, if_pos ⟨rfl, rfl⟩]
    have g107 : ∀ j, G.1 107 j = M.1 107 j := fun j => by rw [← hG, mI1, if_neg (by omega), e1]
    have g108 : ∀ j, G.1 108 j = M.1 108 j := fun j => by rw [← hG, mI1, if_neg (by omega), e1]
    have gL : G.2.1 = E.2.1 := by rw [← hG]; rfl
    have fG : Fg wKr M G := fg_tr fB (by rw [← hG, ← hE]; exact fg_tr (fg_sL rfl) (fg_sI rfl))
    have r1 : ∀ x, x < 64 → lb (G.2.1 103 12) x = (s.1 x || decide (x = rb way)) := fun x hx => by rw [gL, e2, if_neg (by omega)]; exact p1 x hx
    have r2 : ∀ q', q' < 40000 → lb (G.2.1 104 (q' / 64)) (q' % 64) = (s.2.1 q' || decide (q' = q)) := fun q' hq' => by rw [gL, e2, if_neg (by omega)]; exact p2 q' hq'
    have r3 : ∀ q', q' < 40000 → lb (G.2.1 105 (q' / 64)) (q' % 64) = (s.2.2.1 q' || (decide (rb way = 0) && decide (q' = q))) := by
      intro q' hq'
      rw [gL, e2, decide_eq_true hz, Bool.true_and]
      by_cases hi : q' / 64 = q / 64
      · rw [if_pos ⟨rfl, hi⟩, b105, lb_or, ebit _ (by omega), ← hi, h3 q' hq']
        congr 1
        rw [decide_eq_decide]
        have := eL q' hq'
        constructor
        · intro h; exact this.1 ⟨hi, h⟩
        · intro h; exact (this.2 h).2
      · rw [if_neg (fun z => hi z.2), b105, h3 q' hq', decide_eq_false (fun z => hi (by rw [z])), Bool.or_false]
    rw [g14]
    by_cases hle : s.2.2.2.2.1 ≤ off way
    · rw [if_pos (nI_le hle (by omega))]
      refine ⟨G, rfl, fG, r1, fun q' hq' => ?_, fun q' hq' => ?_, ?_, ?_, ?_, fun h w hw => ?_⟩
      · show _ = (s.2.1 q' || decide (q' = atF way W)); rw [hq]; exact r2 q' hq'
      · show _ = (s.2.2.1 q' || (decide (rb way = 0) && decide (q' = atF way W))); rw [hq]; exact r3 q' hq'
      · show _ = nI (if rb way = 0 then s.2.2.2.1 + 1 else s.2.2.2.1); rw [if_pos hz]; exact g13
      · show _ = nI (if rb way = 0 ∧ off way < s.2.2.2.2.1 then off way else s.2.2.2.2.1); rw [if_neg (by omega)]; exact g14
      · show (if rb way = 0 ∧ off way < s.2.2.2.2.1 then off way else s.2.2.2.2.1) ≤ 7; rw [if_neg (by omega)]; exact h6
      · show G.1 108 w = nI (dgp 5 (if rb way = 0 ∧ off way < s.2.2.2.2.1 then way else s.2.2.2.2.2) W w)
        have h' : (if rb way = 0 ∧ off way < s.2.2.2.2.1 then off way else s.2.2.2.2.1) ≤ 6 := h
        rw [if_neg (by omega)] at h' ⊢
        rw [g108]; exact h7 h' w hw
    · rw [if_neg (nI_ge (by omega) (by omega))]
      generalize hF : cpM (zm_sI G 103 14 (nI (off way))) 108 0 6 (G.1 107) = F
      have fF : Fg wKr G F := by rw [← hF]; exact fg_tr (fg_sI rfl) (fg_cpM (fun _ => rfl))
      have fL : F.2.1 = G.2.1 := by rw [← hF]; rfl
      refine ⟨F, rfl, fg_tr fG fF, fun x hx => by rw [fL]; exact r1 x hx, fun q' hq' => ?_, fun q' hq' => ?_, ?_, ?_, ?_, fun h w hw => ?_⟩
      · show _ = (s.2.1 q' || decide (q' = atF way W)); rw [hq, fL]; exact r2 q' hq'
      · show _ = (s.2.2.1 q' || (decide (rb way = 0) && decide (q' = atF way W))); rw [hq, fL]; exact r3 q' hq'
      · show _ = nI (if rb way = 0 then s.2.2.2.1 + 1 else s.2.2.2.1)
        rw [if_pos hz, ← hF, mC_ne (by omega), mI1, if_neg (by omega)]; exact g13
      · show _ = nI (if rb way = 0 ∧ off way < s.2.2.2.2.1 then off way else s.2.2.2.2.1)
        rw [if_pos ⟨hz, by omega⟩, ← hF, mC_ne (by omega), mI1, if_pos ⟨rfl, rfl⟩]
      · show (if rb way = 0 ∧ off way < s.2.2.2.2.1 then off way else s.2.2.2.2.1) ≤ 7; rw [if_pos ⟨hz, by omega⟩]; omega
      · show F.1 108 w = nI (dgp 5 (if rb way = 0 ∧ off way < s.2.2.2.2.1 then way else s.2.2.2.2.2) W w)
        rw [if_pos ⟨hz, by omega⟩, ← hF, mC_in (by omega), g107, h107 w hw]
  · rw [if_neg (show ¬ nI (rb way) = 0 from nI_ne0 (by omega) (by omega))]
    refine ⟨B, rfl, fB, p1, fun q' hq' => ?_, fun q' hq' => ?_, ?_, ?_, ?_, fun h w hw => ?_⟩
    · show _ = (s.2.1 q' || decide (q' = atF way W)); rw [hq]; exact p2 q' hq'
    · show _ = (s.2.2.1 q' || (decide (rb way = 0) && decide (q' = atF way W)))
      rw [b105, h3 q' hq', decide_eq_false hz, Bool.false_and, Bool.or_false]
    · show _ = nI (if rb way = 0 then s.2.2.2.1 + 1 else s.2.2.2.1); rw [if_neg hz, b1]; exact h4
    · show _ = nI (if rb way = 0 ∧ off way < s.2.2.2.2.1 then off way else s.2.2.2.2.1); rw [if_neg (fun z => hz z.1), b1]; exact h5
    · show (if rb way = 0 ∧ off way < s.2.2.2.2.1 then off way else s.2.2.2.2.1) ≤ 7; rw [if_neg (fun z => hz z.1)]; exact h6
    · show B.1 108 w = nI (dgp 5 (if rb way = 0 ∧ off way < s.2.2.2.2.1 then way else s.2.2.2.2.2) W w)
      have h' : (if rb way = 0 ∧ off way < s.2.2.2.2.1 then off way else s.2.2.2.2.1) ≤ 6 := h
      rw [if_neg (fun z => hz z.1)] at h' ⊢
      rw [b1]; exact h7 h' w hw
