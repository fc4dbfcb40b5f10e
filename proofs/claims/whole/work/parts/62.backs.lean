/-! sending back -/
def lkn (D : zD) (vs : Nat → Int32) : Nat := (lk D vs).toNatClampNeg
theorem lkn_eq (D : zD) (vs : Nat → Int32) : lk D vs = nI (lkn D vs) ∧ lkn D vs ≤ 99 := by
  obtain ⟨y, hy, e⟩ := lk_nat D vs
  unfold lkn
  rw [e, nI_clamp (by omega)]
  exact ⟨rfl, hy⟩
/-- what a house likes of a work, alone there -/
def lkA (D : zD) (dy w x : Nat) : Nat := lkn D (vr D w x 0 0 dy)
def pop6 (f : Nat) : Nat := f / 2 ^ 0 % 2 + f / 2 ^ 1 % 2 + f / 2 ^ 2 % 2 + f / 2 ^ 3 % 2 + f / 2 ^ 4 % 2 + f / 2 ^ 5 % 2
theorem bc_all : ∀ a, a < 64 → f_J6_bitCount_0f7a4 (nI a) zm_M0 = some (nI (pop6 a)) := by decide +kernel
theorem bc_64 {a : Nat} (ha : a < 64) (M : zm_Mem) : f_J6_bitCount_0f7a4 (nI a) M = some (nI (pop6 a)) := bc_all a ha
/-- the houses free to send back, behind i works -/
def frF (D : zD) (dy : Nat) (g : Nat → Nat) : Nat → Nat
  | 0 => 2 ^ D.1 0 0 - 1
  | i + 1 => if g i ≠ D.1 3 i ∧ 0 < lkA D dy i (g i) then frF D dy g i - frF D dy g i / 2 ^ g i % 2 * 2 ^ g i else frF D dy g i
theorem andn_all : ∀ x, x < 32 → ∀ b, b < 5 → nI x &&& (nI (2 ^ b) ^^^ -nI 1) = nI (x - x / 2 ^ b % 2 * 2 ^ b) := by decide +kernel
theorem andn_bit : ∀ x, x < 32 → ∀ b, b < 5 → ∀ j, j < 5 → (x - x / 2 ^ b % 2 * 2 ^ b) / 2 ^ j % 2 = if j = b then 0 else x / 2 ^ j % 2 := by decide +kernel
theorem ones_bit : ∀ h, h < 6 → ∀ j, j < h → (2 ^ h - 1) / 2 ^ j % 2 = 1 := by decide +kernel
theorem pow_32 {h : Nat} (hh : h ≤ 5) : 2 ^ h ≤ 32 := Nat.pow_le_pow_right (n := 2) (by omega) hh
theorem frF_lt (D : zD) (dy : Nat) (g : Nat → Nat) : ∀ i, frF D dy g i < 2 ^ D.1 0 0
  | 0 => by
    have := Nat.two_pow_pos (D.1 0 0)
    unfold frF; omega
  | i + 1 => by
    have := frF_lt D dy g i
    unfold frF
    split
    · exact Nat.lt_of_le_of_lt (Nat.sub_le _ _) this
    · exact this
/-- a house that likes something of what it would send -/
def bnd (D : zD) (dy : Nat) (g : Nat → Nat) (h w : Nat) : Bool := decide (g w = h) && (!decide (D.1 3 w = h) && decide (0 < lkA D dy w h))
theorem frF_bit {D : zD} {dy : Nat} {g : Nat → Nat} (bh : D.1 0 0 ≤ 5) {h : Nat} (hh : h < D.1 0 0) : ∀ i, (∀ j, j < i → g j < 5) → frF D dy g i / 2 ^ h % 2 = if allB (fun w => !bnd D dy g h w) i = true then 1 else 0
  | 0, _ => by
    unfold frF allB
    rw [if_pos rfl]
    exact ones_bit _ (by omega) h hh
  | i + 1, hg => by
    have ih := frF_bit (dy := dy) bh hh i (fun j hj => hg j (by omega))
    have hlt := frF_lt D dy g i
    have h32 := pow_32 bh
    have hgi := hg i (by omega)
    unfold frF allB
    by_cases hc : g i ≠ D.1 3 i ∧ 0 < lkA D dy i (g i)
    · rw [if_pos hc, andn_bit _ (by omega) _ hgi h (by omega)]
      by_cases hgh : h = g i
      · have hb : bnd D dy g h i = true := by
          unfold bnd
          rw [hgh]
          simp only [decide_true, Bool.true_and, Bool.and_eq_true, Bool.not_eq_true', decide_eq_false_iff_not, decide_eq_true_eq]
          exact ⟨fun z => hc.1 z.symm, hc.2⟩
        rw [if_pos hgh, hb, Bool.not_true, Bool.and_false, if_neg (by decide)]
      · have hb : bnd D dy g h i = false := by
          unfold bnd
          rw [decide_eq_false (fun z => hgh z.symm), Bool.false_and]
        rw [if_neg hgh, hb, Bool.not_false, Bool.and_true]
        exact ih
    · have hb : bnd D dy g h i = false := by
        cases hb : bnd D dy g h i with
        | false => rfl
        | true =>
          simp only [bnd, Bool.and_eq_true, Bool.not_eq_true', decide_eq_false_iff_not, decide_eq_true_eq] at hb
          obtain ⟨b1, b2, b3⟩ := hb
          subst b1
          exact absurd ⟨fun z => b2 z.symm, b3⟩ hc
      rw [if_neg hc, hb, Bool.not_false, Bool.and_true]
      exact ih
theorem c_free {M : zm_Mem} {t v n : Nat} {D : zD} {S : Nat → Nat} (hn : n < 512) (hC : Cx M t v D S n) : ∃ M', f_X10_housesFreeToSendBack M = some (nI (frF D (S 0) (fun j => S (4 + j)) (D.1 0 1)), M') ∧ Sc M M' := by
  have ht := hC.2.1
  have hT := hC.2.2.1
  have hR := hC.2.2.2
  have bI := cx_isT hC
  have bv := tT_v hT
  have bh := tT_bh hT
  have bw := tT_bw hT
  have bk := tT_bk hT
  obtain ⟨M1, e1, s1, n1⟩ := c_lookToday hn hC
  have hC1 := cx_sc s1 hC
  have hg := hg_S hC
  have hh := hh_S hC
  have h32 := pow_32 bh
  obtain ⟨M2, h1, h2⟩ := lp_gen (step := fun s => f_X10_housesFreeToSendBack_l18 s.1 s.2.1 s.2.2) (fun i (s : Int32) L => (s, nI i, L)) (fun (s : Int32) L => (s, L)) wC (fun i => nI (frF D (S 0) (fun j => S (4 + j)) i)) (D.1 0 1) M1 (fun i L hi hF => by
    have hCL := cx_C hF hC1
    have hSL := sn_C hF n1
    have hTL := hCL.2.2.1
    have hgi : S (4 + i) < 5 := hg i hi
    have hhi : S (4 + i) < D.1 0 0 := hh i hi
    have hwi := tT_Wb hT i hi
    have hfl := frF_lt D (S 0) (fun j => S (4 + j)) i
    have ef : frF D (S 0) (fun j => S (4 + j)) (i + 1) = if S (4 + i) ≠ D.1 3 i ∧ 0 < lkA D (S 0) i (S (4 + i)) then frF D (S 0) (fun j => S (4 + j)) i - frF D (S 0) (fun j => S (4 + j)) i / 2 ^ S (4 + i) % 2 * 2 ^ S (4 + i) else frF D (S 0) (fun j => S (4 + j)) i := rfl
    have sh : (1 : Int32) <<< (nI (S (4 + i)) &&& 31) = nI (2 ^ S (4 + i)) := zi_sh1 (by omega)
    obtain ⟨L', k1, k2⟩ := c_likingAlone hCL hSL hi hhi
    have le := lkn_eq D (vr D i (S (4 + i)) 0 0 (S 0))
    rw [le.1] at k1
    by_cases hgo : S (4 + i) = D.1 3 i
    · refine ⟨L, ?_, fr_rfl _ L⟩
      show f_X10_housesFreeToSendBack_l18 _ (nI i) L = _
      unfold f_X10_housesFreeToSendBack_l18 f_X10_housesFreeToSendBack_b71_18
      simp only [zv_eq]
      rw [hCL.2.1, bI, zk_true, tT_w hTL, if_neg (nI_ge hi (by omega)), c_goal hCL hi, zb1_some, zk_true, zm_ck_t (zm_in_nI (by omega) (by omega)), nI_clamp (by omega), tT_ow hTL i hi, if_pos (by rw [hgo]), nI_k1, ef, if_neg (fun z => z.1 hgo)]
    · refine ⟨L', ?_, k2⟩
      show f_X10_housesFreeToSendBack_l18 _ (nI i) L = _
      unfold f_X10_housesFreeToSendBack_l18 f_X10_housesFreeToSendBack_b71_18
      simp only [zv_eq]
      rw [hCL.2.1, bI, zk_true, tT_w hTL, if_neg (nI_ge hi (by omega)), c_goal hCL hi, zb1_some, zk_true, zm_ck_t (zm_in_nI (by omega) (by omega)), nI_clamp (by omega), tT_ow hTL i hi, if_neg (by rw [nI_eq (by omega) (by omega)]; exact hgo), k1, zb2_some, nI_k1, ef]
      by_cases hl : 0 < lkA D (S 0) i (S (4 + i))
      · rw [if_neg (show ¬ nI (lkn D (vr D i (S (4 + i)) 0 0 (S 0))) ≤ 0 from nI_nle hl (by omega)), if_pos ⟨hgo, hl⟩, sh, show (-1 : Int32) = -nI 1 from rfl, andn_all _ (by omega) _ hgi]
      · rw [if_pos (show nI (lkn D (vr D i (S (4 + i)) 0 0 (S 0))) ≤ 0 from nI_le (b := 0) (by unfold lkA at hl; omega) (by omega)), if_neg (fun z => hl z.2)]) (fun L hF => by
    have hCL := cx_C hF hC1
    have hTL := hCL.2.2.1
    show f_X10_housesFreeToSendBack_l18 _ (nI (D.1 0 1)) L = _
    unfold f_X10_housesFreeToSendBack_l18
    simp only [zv_eq]
    rw [hCL.2.1, bI, zk_true, tT_w hTL, if_pos (nI_le (by omega) (by omega))])
  refine ⟨M2, ?_, sc_tr s1 (sc_C h2)⟩
  have sh0 : (1 : Int32) <<< (nI (D.1 0 0) &&& 31) = nI (2 ^ D.1 0 0) := zi_sh1 (by omega)
  have hp := Nat.two_pow_pos (D.1 0 0)
  unfold f_X10_housesFreeToSendBack
  rw [e1, zb2_some]
  simp only [zv_eq]
  rw [hC1.2.1, bI, zk_true, tT_h hC1.2.2.1, sh0, show nI (2 ^ D.1 0 0) - 1 = nI (2 ^ D.1 0 0 - 1) from zi_sub (b := 1) (by omega)]
  have h1' : zm_lp (fun s => f_X10_housesFreeToSendBack_l18 s.1 s.2.1 s.2.2) (nI (2 ^ D.1 0 0 - 1), 0, M1) = _ := h1
  rw [h1']; rfl
/-! subsets by number -/
def sbF (f i : Nat) : Nat → Nat × Nat
  | 0 => (0, i)
  | b + 1 => if f / 2 ^ b % 2 = 1 then ((sbF f i b).1 ||| (sbF f i b).2 % 2 * 2 ^ b, (sbF f i b).2 / 2) else sbF f i b
theorem sbF_le (f i : Nat) : ∀ b, (sbF f i b).2 ≤ i
  | 0 => Nat.le_refl _
  | b + 1 => by
    have := sbF_le f i b
    unfold sbF
    split
    · exact Nat.le_trans (Nat.div_le_self _ _) this
    · exact this
theorem c_subset {f i : Nat} (hf : f < 32) (hi : i < 32) (M : zm_Mem) : f_X10_subsetOf (nI f) (nI i) M = some (nI (sbF f i 5).1) := by
  have key : zm_lp (fun s => f_X10_subsetOf_l7 (nI f) s.1 s.2.1 s.2.2) (0, nI i, 0) = some (nI (sbF f i 5).1) := by
    refine lp_for (step := fun s => f_X10_subsetOf_l7 (nI f) s.1 s.2.1 s.2.2) (fun b => (nI (sbF f i b).1, nI (sbF f i b).2, nI b)) 5 (fun b hb => ?_) ?_
    · have hr := sbF_le f i b
      show f_X10_subsetOf_l7 (nI f) (nI (sbF f i b).1) (nI (sbF f i b).2) (nI b) = _
      unfold f_X10_subsetOf_l7 f_X10_subsetOf_b36_7
      rw [if_neg (show ¬ (5 : Int32) ≤ nI b from nI_ge (b := 5) (by omega) (by omega)), show (nI f >>> (nI b &&& 31)) &&& 1 = nI (f / 2 ^ b % 2) by
        rw [show (31 : Int32) = nI 31 from rfl, show (1 : Int32) = nI 1 from rfl, zi_shr (by omega) (by omega), zi_and1], nI_k1]
      have es : sbF f i (b + 1) = if f / 2 ^ b % 2 = 1 then ((sbF f i b).1 ||| (sbF f i b).2 % 2 * 2 ^ b, (sbF f i b).2 / 2) else sbF f i b := rfl
      by_cases hc : f / 2 ^ b % 2 = 1
      · have hlt : (sbF f i b).2 % 2 * 2 ^ b < 2 ^ 32 := by
          have : 2 ^ b ≤ 2 ^ 4 := Nat.pow_le_pow_right (by omega) (by omega)
          rcases Nat.mod_two_eq_zero_or_one (sbF f i b).2 with h | h <;> rw [h] <;> omega
        rw [es, if_pos hc, if_pos (by rw [hc]; rfl)]
        simp only [zv_eq]
        rw [show (nI (sbF f i b).2 &&& 1) <<< (nI b &&& 31) = nI ((sbF f i b).2 % 2 * 2 ^ b) by
          rw [show (1 : Int32) = nI 1 from rfl, zi_and1]; exact pk_shlN _ b (zi_31 b (by omega)) hlt, zi_or, show nI (sbF f i b).2 >>> ((1 : Int32) &&& 31) = nI ((sbF f i b).2 / 2) from pk_shrN (by omega) _ 1 (by decide)]
      · rw [es, if_neg hc, if_neg (show ¬ nI (f / 2 ^ b % 2) = 1 from fun z => hc ((nI_eq (by omega) (by omega)).1 (show nI (f / 2 ^ b % 2) = nI 1 from z)))]
        rfl
    · show f_X10_subsetOf_l7 (nI f) _ _ (nI 5) = _
      unfold f_X10_subsetOf_l7
      rw [if_pos (by decide)]
  unfold f_X10_subsetOf
  rw [key]; rfl
/-! the reference: sets gone through one by one -/
def pp (h f s : Nat) : Bool := allB (fun j => decide (s / 2 ^ j % 2 = 0) || decide (f / 2 ^ j % 2 = 1)) h
def bkN (p : Nat → Bool) (i : Nat) : Nat → Nat → Nat → Option Nat
  | 0, _, _ => none
  | m + 1, s, n => if p s = true then (if n = i then some s else bkN p i m (s + 1) (n + 1)) else bkN p i m (s + 1) n
def cnN (p : Nat → Bool) : Nat → Nat → Nat → Nat
  | 0, _, n => n
  | m + 1, s, n => if p s = true then cnN p m (s + 1) (n + 1) else cnN p m (s + 1) n
theorem bkN_none (p : Nat → Bool) (i : Nat) : ∀ m s n, n + m ≤ i → bkN p i m s n = none
  | 0, _, _, _ => rfl
  | m + 1, s, n, h => by
    unfold bkN
    rw [if_neg (show ¬ n = i by omega), bkN_none p i m (s + 1) (n + 1) (by omega), bkN_none p i m (s + 1) n (by omega)]
    split <;> rfl
theorem bk_fin : ∀ h, h < 6 → ∀ f, f < 2 ^ h → cnN (pp h f) (2 ^ h) 0 0 = 2 ^ pop6 f ∧ 2 ^ pop6 f ≤ 32 ∧ ∀ i, i < 32 → bkN (pp h f) i (2 ^ h) 0 0 = if i < 2 ^ pop6 f then some (sbF f i 5).1 else none := by decide +kernel
/-- where a work is when a set sends back; what a house likes of all it has then -/
def dst (D : zD) (g : Nat → Nat) (s w : Nat) : Nat := if s / 2 ^ g w % 2 = 1 then D.1 3 w else g w
def likS (D : zD) (dy : Nat) (g : Nat → Nat) (s h i : Nat) : Nat := sumOf (fun w => if dst D g s w = h then lkA D dy w h else 0) i
theorem lkA_le (D : zD) (dy w x : Nat) : lkA D dy w x ≤ 99 := (lkn_eq D _).2
theorem likS_le (D : zD) (dy : Nat) (g : Nat → Nat) (s h i : Nat) : likS D dy g s h i ≤ 99 * i := sumOf_le (fun w _ => by
  have := lkA_le D dy w h
  split <;> omega)
theorem sumOf_add {f g k : Nat → Nat} : ∀ {i : Nat}, (∀ j, j < i → f j = g j + k j) → sumOf f i = sumOf g i + sumOf k i
  | 0, _ => rfl
  | i + 1, h => by unfold sumOf; rw [sumOf_add (fun j hj => h j (by omega)), h i (by omega)]; omega
theorem sumOf_0 {f : Nat → Nat} : ∀ {i : Nat}, sumOf f i = 0 ↔ ∀ j, j < i → f j = 0
  | 0 => by simp [sumOf]
  | i + 1 => by
    unfold sumOf
    constructor
    · intro h j hj
      by_cases hji : j = i
      · subst hji; omega
      · exact (sumOf_0 (i := i)).1 (by omega) j (by omega)
    · intro h
      rw [(sumOf_0 (i := i)).2 (fun j hj => h j (by omega)), h i (by omega)]
theorem allB_iff {p : Nat → Bool} : ∀ {n : Nat}, allB p n = true ↔ ∀ j, j < n → p j = true
  | 0 => by simp [allB]
  | n + 1 => by
    unfold allB
    rw [Bool.and_eq_true, allB_iff]
    constructor
    · rintro ⟨h1, h2⟩ j hj
      by_cases hjn : j = n
      · subst hjn; exact h2
      · exact h1 j (by omega)
    · intro h
      exact ⟨fun j hj => h j (by omega), h n (by omega)⟩
theorem lik_bit {D : zD} {dy : Nat} {g : Nat → Nat} {s1 s0 h W : Nat} (h1 : s1 / 2 ^ h % 2 = 1) (h0 : s0 / 2 ^ h % 2 = 0) (hb : ∀ j, j < 5 → j ≠ h → s1 / 2 ^ j % 2 = s0 / 2 ^ j % 2) (hg : ∀ j, j < W → g j < 5) : likS D dy g s0 h W = likS D dy g s1 h W + sumOf (fun w => if g w = h ∧ D.1 3 w ≠ h then lkA D dy w h else 0) W := by
  refine sumOf_add (fun w hw => ?_)
  unfold dst
  by_cases hgh : g w = h
  · rw [hgh, if_pos h1, if_neg (show ¬ s0 / 2 ^ h % 2 = 1 by omega), if_pos (c := h = h) rfl]
    by_cases ho : D.1 3 w = h
    · rw [if_pos ho, if_neg (c := h = h ∧ D.1 3 w ≠ h) (fun z => z.2 ho)]; omega
    · rw [if_neg ho, if_pos (c := h = h ∧ D.1 3 w ≠ h) ⟨rfl, ho⟩]; omega
  · rw [hb (g w) (hg w hw) hgh, if_neg (c := g w = h ∧ D.1 3 w ≠ h) (fun z => hgh z.1)]; omega
theorem xor_bit5 : ∀ a, a < 32 → ∀ j, j < 5 → a ^^^ 2 ^ j < 32 ∧ ∀ i, i < 5 → (a ^^^ 2 ^ j) / 2 ^ i % 2 = if i = j then 1 - a / 2 ^ j % 2 else a / 2 ^ i % 2 := by decide +kernel
theorem rest_iff {D : zD} {dy : Nat} {g : Nat → Nat} {s h W : Nat} (bh : D.1 0 0 ≤ 5) (hh : h < D.1 0 0) (hs : s < 32) (hg : ∀ j, j < W → g j < 5) : decide (likS D dy g (s ^^^ 2 ^ h) h W ≤ likS D dy g s h W) = (decide (s / 2 ^ h % 2 = 0) || decide (frF D dy g W / 2 ^ h % 2 = 1)) := by
  have hx := (xor_bit5 s hs h (by omega)).2
  have hq := frF_bit (dy := dy) bh hh W hg
  rcases Nat.mod_two_eq_zero_or_one (s / 2 ^ h) with hb | hb
  · have e := lik_bit (D := D) (dy := dy) (g := g) (s1 := s ^^^ 2 ^ h) (s0 := s) (h := h) (W := W) (by rw [hx h (by omega), if_pos rfl, hb]) hb (fun j hj hjh => by rw [hx j hj, if_neg hjh]) hg
    rw [decide_eq_true (by omega), decide_eq_true hb, Bool.true_or]
  · have e := lik_bit (D := D) (dy := dy) (g := g) (s1 := s) (s0 := s ^^^ 2 ^ h) (h := h) (W := W) hb (by rw [hx h (by omega), if_pos rfl, hb]) (fun j hj hjh => by rw [hx j hj, if_neg hjh]) hg
    rw [decide_eq_false (show ¬ s / 2 ^ h % 2 = 0 by omega), Bool.false_or]
    rw [decide_eq_decide]
    have ez : sumOf (fun w => if g w = h ∧ D.1 3 w ≠ h then lkA D dy w h else 0) W = 0 ↔ allB (fun w => !bnd D dy g h w) W = true := by
      rw [sumOf_0, allB_iff]
      refine forall_congr' (fun w => forall_congr' (fun hw => ?_))
      unfold bnd
      by_cases hgh : g w = h
      · by_cases ho : D.1 3 w = h
        · simp [hgh, ho]
        · simp [hgh, ho]
      · simp [hgh]
    constructor
    · intro hle
      rw [hq, if_pos (ez.1 (by omega))]
    · intro hf
      rw [hq] at hf
      have : allB (fun w => !bnd D dy g h w) W = true := by
        cases hc : allB (fun w => !bnd D dy g h w) W with
        | true => rfl
        | false => rw [hc, if_neg (by decide)] at hf; omega
      have := ez.2 this
      omega
