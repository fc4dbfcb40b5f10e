/-! bits of longs -/
def lb (x : Int64) (k : Nat) : Bool := x.toBitVec.getLsbD k
theorem lb_or (x y : Int64) (k : Nat) : lb (x ||| y) k = (lb x k || lb y k) := by
  unfold lb
  rw [Int64.toBitVec_or, BitVec.getLsbD_or]
theorem lb_and (x y : Int64) (k : Nat) : lb (x &&& y) k = (lb x k && lb y k) := by
  unfold lb
  rw [Int64.toBitVec_and, BitVec.getLsbD_and]
theorem lb_0 (k : Nat) : lb 0 k = false := by
  show (0#64).getLsbD k = false
  exact BitVec.getLsbD_zero
theorem lb_shl : ∀ j, j < 64 → ∀ k, k < 64 → lb ((1 : Int64) <<< ((nI j).toInt64 &&& 63)) k = decide (k = j) := by decide +kernel
theorem l_smod : ∀ k, k < 64 → ((nI k).toInt64 &&& 63).toBitVec.smod 64 = BitVec.ofNat 64 k := by decide +kernel
theorem bv_and1 (y : BitVec 64) : y &&& 1#64 = if y.getLsbD 0 = true then 1#64 else 0#64 := by
  refine BitVec.eq_of_getLsbD_eq (fun i hi => ?_)
  rw [BitVec.getLsbD_and]
  cases i with
  | zero => cases y.getLsbD 0 <;> rfl
  | succ i =>
    have h1 : (1#64).getLsbD (i + 1) = false := by
      rw [BitVec.getLsbD_one]
      simp
    rw [h1, Bool.and_false]
    cases y.getLsbD 0
    · exact BitVec.getLsbD_zero.symm
    · exact h1.symm
theorem l_bit (x : Int64) {k : Nat} (hk : k < 64) : (x >>> ((nI k).toInt64 &&& 63)) &&& 1 = if lb x k = true then 1 else 0 := by
  refine Int64.toBitVec_inj.1 ?_
  rw [Int64.toBitVec_and, Int64.toBitVec_shiftRight, l_smod k hk]
  show (x.toBitVec.sshiftRight' (BitVec.ofNat 64 k)) &&& 1#64 = _
  rw [bv_and1]
  have e : (x.toBitVec.sshiftRight' (BitVec.ofNat 64 k)).getLsbD 0 = lb x k := by
    unfold lb
    show (x.toBitVec.sshiftRight (BitVec.ofNat 64 k).toNat).getLsbD 0 = _
    rw [BitVec.toNat_ofNat, Nat.mod_eq_of_lt (by omega), BitVec.getLsbD_sshiftRight]
    simp [hk]
  rw [e]
  cases lb x k <;> rfl
/-! a frame with longs -/
def Fg (W : Nat → Nat → Bool) (M M' : zm_Mem) : Prop := M'.2.2 = M.2.2 ∧ (∀ x j, W x j = false → M'.1 x j = M.1 x j) ∧ ∀ x j, W x j = false → M'.2.1 x j = M.2.1 x j
theorem fg_rfl (W : Nat → Nat → Bool) (M : zm_Mem) : Fg W M M := ⟨rfl, fun _ _ _ => rfl, fun _ _ _ => rfl⟩
theorem fg_tr {W : Nat → Nat → Bool} {M M1 M2 : zm_Mem} (h : Fg W M M1) (h' : Fg W M1 M2) : Fg W M M2 := ⟨h'.1.trans h.1, fun x j hw => (h'.2.1 x j hw).trans (h.2.1 x j hw), fun x j hw => (h'.2.2 x j hw).trans (h.2.2 x j hw)⟩
theorem fg_sI {W : Nat → Nat → Bool} {M : zm_Mem} {a i : Nat} {v : Int32} (h : W a i = true) : Fg W M (zm_sI M a i v) := ⟨rfl, (fr_sI h).2, fun _ _ _ => rfl⟩
theorem mL1 (M : zm_Mem) (a i : Nat) (v : Int64) : (zm_sL M a i v).1 = M.1 := Eq.trans rfl rfl
theorem mL2 (M : zm_Mem) (a i : Nat) (v : Int64) (x j : Nat) : (zm_sL M a i v).2.1 x j = if x = a ∧ j = i then v else M.2.1 x j := Eq.trans rfl rfl
theorem fg_sL {W : Nat → Nat → Bool} {M : zm_Mem} {a i : Nat} {v : Int64} (h : W a i = true) : Fg W M (zm_sL M a i v) := by
  refine ⟨rfl, fun _ _ _ => rfl, fun x j hw => ?_⟩
  rw [mL2, if_neg]
  rintro ⟨rfl, rfl⟩
  rw [h] at hw; cases hw
theorem fg_cpM {W : Nat → Nat → Bool} {M : zm_Mem} {a o N : Nat} {f : Nat → Int32} (h : ∀ j, W a j = true) : Fg W M (cpM M a o N f) := ⟨rfl, (fr_cpM h).2, fun _ _ _ => rfl⟩
theorem fg_mono {W W' : Nat → Nat → Bool} {M M' : zm_Mem} (hW : ∀ x j, W x j = true → W' x j = true) (h : Fg W M M') : Fg W' M M' := by
  have k : ∀ x j, W' x j = false → W x j = false := by
    intro x j hw
    cases hc : W x j with
    | false => rfl
    | true => rw [hW x j hc] at hw; cases hw
  exact ⟨h.1, fun x j hw => h.2.1 x j (k x j hw), fun x j hw => h.2.2 x j (k x j hw)⟩
theorem fg_fr {W : Nat → Nat → Bool} {M M' : zm_Mem} (h : Fr W M M') : Fg W M M' := ⟨by rw [h.1], h.2, fun x j _ => by rw [h.1]⟩
/-! rows: houses by works -/
def cnt (r : Nat → Nat) (c x : Nat) : Nat := sumOf (fun j => if r j = x then 1 else 0) c
def cnk (D : zD) (r : Nat → Nat) (c x k : Nat) : Nat := sumOf (fun j => if r j = x ∧ D.1 5 j = k then 1 else 0) c
theorem cnt_le (r : Nat → Nat) (c x : Nat) : cnt r c x ≤ c := by
  have := sumOf_le (f := fun j => if r j = x then 1 else 0) (c := 1) (i := c) (fun j _ => by split <;> omega)
  unfold cnt; omega
theorem cnt_ext {p d c x : Nat} (hd : d < 5) : cnt (dgp 5 (p * 5 + d) (c + 1)) (c + 1) x = cnt (dgp 5 p c) c x + (if d = x then 1 else 0) := by
  unfold cnt
  show sumOf _ c + (if dgp 5 (p * 5 + d) (c + 1) c = x then 1 else 0) = _
  rw [dgp_hi hd]
  congr 1
  exact sumOf_congr (fun j hj => by rw [dgp_lo hd hj])
theorem cnk_ext {D : zD} {p d c x k : Nat} (hd : d < 5) : cnk D (dgp 5 (p * 5 + d) (c + 1)) (c + 1) x k = cnk D (dgp 5 p c) c x k + (if d = x ∧ D.1 5 c = k then 1 else 0) := by
  unfold cnk
  show sumOf _ c + (if dgp 5 (p * 5 + d) (c + 1) c = x ∧ D.1 5 c = k then 1 else 0) = _
  rw [dgp_hi hd]
  congr 1
  exact sumOf_congr (fun j hj => by rw [dgp_lo hd hj])
theorem sum_mono {f : Nat → Nat} {c : Nat} : ∀ k, sumOf f c ≤ sumOf f (c + k)
  | 0 => Nat.le_refl _
  | k + 1 => Nat.le_trans (sum_mono k) (Nat.le_add_right _ _)
theorem sum_le2 {f g : Nat → Nat} : ∀ {i : Nat}, (∀ j, j < i → f j ≤ g j) → sumOf f i ≤ sumOf g i
  | 0, _ => Nat.le_refl _
  | i + 1, h => by
    have := sum_le2 (i := i) (fun j hj => h j (by omega))
    have := h i (by omega)
    unfold sumOf; omega
theorem cnk_le (D : zD) (r : Nat → Nat) (c x k : Nat) : cnk D r c x k ≤ cnt r c x := sum_le2 (fun j _ => by
  by_cases h : r j = x
  · rw [if_pos h]; split <;> omega
  · rw [if_neg (fun z => h z.1), if_neg h]; omega)
theorem sum_but {q : Nat → Bool} {w : Nat} : ∀ {W : Nat}, w < W → sumOf (fun j => if (q j && !decide (j = w)) = true then 1 else 0) W + (if q w = true then 1 else 0) = sumOf (fun j => if q j = true then 1 else 0) W
  | W + 1, h => by
    unfold sumOf
    by_cases hwW : w = W
    · subst hwW
      rw [decide_eq_true rfl, Bool.not_true, Bool.and_false, if_neg (by decide), Nat.add_zero]
      congr 1
      exact sumOf_congr (fun j hj => by rw [decide_eq_false (by omega), Bool.not_false, Bool.and_true])
    · have := sum_but (q := q) (W := W) (w := w) (by omega)
      rw [decide_eq_false (fun z => hwW z.symm), Bool.not_false, Bool.and_true]
      omega
theorem mny_cnt {r : Nat → Nat} {w W : Nat} (hw : w < W) (hW : W ≤ 6) : mny (fun _ => true) r w (r w) (-nI 1) W + 1 = cnt r W (r w) := by
  have h := sum_but (q := fun j => decide (r j = r w)) hw
  rw [if_pos (decide_eq_true rfl)] at h
  unfold mny cnt
  have e1 : sumOf (fun j => if inH (fun _ => true) r w (r w) (-nI 1) j = true then 1 else 0) W = sumOf (fun j => if (decide (r j = r w) && !decide (j = w)) = true then 1 else 0) W := sumOf_congr (fun j hj => by
    unfold inH
    rw [Bool.true_and, decide_eq_false (show ¬ nI j = -nI 1 from fun z => (zi_en (a := j) (b := 1) (by omega) (by omega) (by omega)).1 z), Bool.not_false, Bool.and_true])
  rw [e1, h]
  exact sumOf_congr (fun j _ => by simp only [decide_eq_true_eq])
theorem sme_cnk {D : zD} {r : Nat → Nat} {w W : Nat} (hw : w < W) (hW : W ≤ 6) : sme D (fun _ => true) r w (r w) (-nI 1) W + 1 = cnk D r W (r w) (D.1 5 w) := by
  have h := sum_but (q := fun j => decide (r j = r w) && decide (D.1 5 j = D.1 5 w)) hw
  rw [if_pos (by rw [decide_eq_true rfl, decide_eq_true rfl]; rfl)] at h
  unfold sme cnk
  have e1 : sumOf (fun j => if (inH (fun _ => true) r w (r w) (-nI 1) j && decide (D.1 5 j = D.1 5 w)) = true then 1 else 0) W = sumOf (fun j => if ((decide (r j = r w) && decide (D.1 5 j = D.1 5 w)) && !decide (j = w)) = true then 1 else 0) W := sumOf_congr (fun j hj => by
    unfold inH
    rw [Bool.true_and, decide_eq_false (show ¬ nI j = -nI 1 from fun z => (zi_en (a := j) (b := 1) (by omega) (by omega) (by omega)).1 z), Bool.not_false, Bool.and_true]
    cases decide (r j = r w) <;> cases decide (j = w) <;> cases decide (D.1 5 j = D.1 5 w) <;> rfl)
  rw [e1, h]
  exact sumOf_congr (fun j _ => by simp only [Bool.and_eq_true, decide_eq_true_eq])
theorem alk_cnk {D : zD} {r : Nat → Nat} {w W : Nat} (hw : w < W) : cnk D r W (r w) (D.1 5 w) ≤ alk D w W + 1 := by
  have h := sum_but (q := fun j => decide (D.1 5 j = D.1 5 w)) hw
  rw [if_pos (decide_eq_true rfl)] at h
  have e1 : alk D w W = sumOf (fun j => if (decide (D.1 5 j = D.1 5 w) && !decide (j = w)) = true then 1 else 0) W := sumOf_congr (fun j _ => by
    simp only [Bool.and_eq_true, decide_eq_true_eq, Bool.not_eq_true', decide_eq_false_iff_not, ne_eq]
    by_cases h1 : j = w <;> by_cases h2 : D.1 5 j = D.1 5 w <;> simp [h1, h2])
  rw [e1, h]
  exact sum_le2 (fun j _ => by
    by_cases h2 : D.1 5 j = D.1 5 w
    · rw [if_pos (decide_eq_true h2)]; split <;> omega
    · rw [if_neg (fun z => h2 z.2)]; omega)
/-! which rows have room -/
def rmP (D : zD) (c p : Nat) : Bool := allB (fun j => decide (dgp 5 p c j < D.1 0 0)) c && allB (fun x => decide (cnt (dgp 5 p c) c x ≤ D.1 2 x)) (D.1 0 0)
theorem rmP_iff {D : zD} {c p : Nat} : rmP D c p = true ↔ (∀ j, j < c → dgp 5 p c j < D.1 0 0) ∧ ∀ x, x < D.1 0 0 → cnt (dgp 5 p c) c x ≤ D.1 2 x := by
  unfold rmP
  rw [Bool.and_eq_true, allB_iff, allB_iff]
  simp only [decide_eq_true_eq]
theorem rmP_ext {D : zD} {c p d : Nat} (hd : d < 5) (hp : rmP D c p = true) : rmP D (c + 1) (p * 5 + d) = true ↔ (d < D.1 0 0 ∧ cnt (dgp 5 p c) c d < D.1 2 d) := by
  rw [rmP_iff] at hp ⊢
  obtain ⟨h1, h2⟩ := hp
  constructor
  · rintro ⟨k1, k2⟩
    have kd := k1 c (by omega)
    rw [dgp_hi hd] at kd
    have := k2 d kd
    rw [cnt_ext hd, if_pos rfl] at this
    exact ⟨kd, by omega⟩
  · rintro ⟨k1, k2⟩
    refine ⟨fun j hj => ?_, fun x hx => ?_⟩
    · by_cases hjc : j = c
      · subst hjc; rw [dgp_hi hd]; exact k1
      · rw [dgp_lo hd (by omega)]; exact h1 j (by omega)
    · rw [cnt_ext hd]
      have := h2 x hx
      by_cases hdx : d = x
      · subst hdx; rw [if_pos rfl]; omega
      · rw [if_neg hdx]; omega
theorem rmP_pre {D : zD} {c k p r : Nat} (hr : r < 5 ^ k) (h : rmP D (c + k) (p * 5 ^ k + r) = true) : rmP D c p = true := by
  rw [rmP_iff] at h ⊢
  refine ⟨fun j hj => ?_, fun x hx => ?_⟩
  · have := h.1 j (by omega)
    rw [dgp_pre (by omega) hr hj] at this; exact this
  · have := h.2 x hx
    refine Nat.le_trans ?_ this
    unfold cnt
    rw [sumOf_congr (g := fun j => if dgp 5 (p * 5 ^ k + r) (c + k) j = x then 1 else 0) (fun j hj => by rw [dgp_pre (by omega) hr hj])]
    exact sum_mono k
/-- which standing terms break in a row -/
def rbF (D : zD) (li dy : Nat) (r : Nat → Nat) : Nat := bitsOf (fun j => decide (li / 2 ^ j % 2 = 0) && !kp D (vq D (fun _ => true) r dy (D.1 7 j) (r (D.1 7 j)) (-nI 1)) j) (D.1 0 2)
def orF (v : Nat → Nat) : Nat → Nat
  | 0 => 0
  | n + 1 => orF v n ||| v n
theorem orF_bit (v : Nat → Nat) (j : Nat) : ∀ n, (orF v n).testBit j = anyB (fun i => (v i).testBit j) n
  | 0 => by unfold orF anyB allB; rw [Nat.zero_testBit]; rfl
  | n + 1 => by unfold orF; rw [Nat.testBit_or, orF_bit v j n, anyB_S]
def BdR (M : zm_Mem) (D : zD) (li dy nb : Nat) (bd : Nat → Nat) : Prop := nb ≤ 6 ∧ M.1 103 9 = nI nb ∧ (∀ i, i < nb → bd i < D.1 0 1 ∧ M.1 111 i = nI (bd i) ∧ FbD D li dy (bd i) (D.1 0 0) 0 0 M) ∧ ∀ w, w < D.1 0 1 → stF D li w ≠ 0 → ∃ i, i < nb ∧ bd i = w
theorem c_inRow {M : zm_Mem} {t v n li dy nb way : Nat} {D : zD} {S bd : Nat → Nat} (hC : Cx M t v D S n) (h10 : M.2.2 103 10 = t) (hB : BdR M D li dy nb bd) (hp : rmP D (D.1 0 1) way = true) (h107 : ∀ j, j < D.1 0 1 → M.1 107 j = nI (dgp 5 way (D.1 0 1) j)) (h109 : ∀ x, x < 5 → M.1 109 x = nI (cnt (dgp 5 way (D.1 0 1)) (D.1 0 1) x)) (h110 : ∀ x k, x < 5 → k < 10 → M.1 110 (x * 10 + k) = nI (cnk D (dgp 5 way (D.1 0 1)) (D.1 0 1) x k)) : f_X6_brokenInRow M = some (nI (rbF D li dy (dgp 5 way (D.1 0 1)))) := by
  have ht := hC.2.1
  have hT := hC.2.2.1
  have hR := hC.2.2.2
  have bI := cx_isT hC
  have bv := tT_v hT
  have bh := tT_bh hT
  have bw := tT_bw hT
  have bk := tT_bk hT
  obtain ⟨b1, b2, b3, b4⟩ := hB
  obtain ⟨r1, r2⟩ := rmP_iff.1 hp
  generalize hr : dgp 5 way (D.1 0 1) = r at *
  have key : zm_lp (fun s => f_X6_brokenInRow_l4 M s.1 s.2) (0, 0) = some (nI (orF (fun i => bkF D li dy (bd i) (r (bd i)) (mny (fun _ => true) r (bd i) (r (bd i)) (-nI 1) (D.1 0 1)) (sme D (fun _ => true) r (bd i) (r (bd i)) (-nI 1) (D.1 0 1))) nb)) := by
    refine lp_for (step := fun s => f_X6_brokenInRow_l4 M s.1 s.2) (fun i => (nI (orF (fun i => bkF D li dy (bd i) (r (bd i)) (mny (fun _ => true) r (bd i) (r (bd i)) (-nI 1) (D.1 0 1)) (sme D (fun _ => true) r (bd i) (r (bd i)) (-nI 1) (D.1 0 1))) i), nI i)) nb (fun i hi => ?_) ?_
    · obtain ⟨q1, q2, q3⟩ := b3 i hi
      show f_X6_brokenInRow_l4 M (nI (orF _ i)) (nI i) = _
      generalize hw : bd i = w at q1 q2 q3
      have hx := r1 w q1
      have hwk := tT_Wb hT w q1
      have m1 := mny_cnt (r := r) q1 bw
      have m2 := sme_cnk (D := D) (r := r) q1 bw
      have m3 := r2 (r w) hx
      have m4 := cnt_le r (D.1 0 1) (r w)
      have m5 := cnk_le D r (D.1 0 1) (r w) (D.1 5 w)
      have m6 := alk_cnk (D := D) (r := r) q1
      have hmm : mny (fun _ => true) r w (r w) (-nI 1) (D.1 0 1) < rmx D (r w) := by unfold rmx; omega
      have e106 := q3 (r w) _ (sme D (fun _ => true) r w (r w) (-nI 1) (D.1 0 1)) (Or.inl hx) hx hmm (by omega) (by omega)
      have hbix : bix w (r w) (mny (fun _ => true) r w (r w) (-nI 1) (D.1 0 1)) (sme D (fun _ => true) r w (r w) (-nI 1) (D.1 0 1)) < 1080 := by unfold bix; omega
      have eo : orF (fun i => bkF D li dy (bd i) (r (bd i)) (mny (fun _ => true) r (bd i) (r (bd i)) (-nI 1) (D.1 0 1)) (sme D (fun _ => true) r (bd i) (r (bd i)) (-nI 1) (D.1 0 1))) (i + 1) = orF (fun i => bkF D li dy (bd i) (r (bd i)) (mny (fun _ => true) r (bd i) (r (bd i)) (-nI 1) (D.1 0 1)) (sme D (fun _ => true) r (bd i) (r (bd i)) (-nI 1) (D.1 0 1))) i ||| bkF D li dy w (r w) (mny (fun _ => true) r w (r w) (-nI 1) (D.1 0 1)) (sme D (fun _ => true) r w (r w) (-nI 1) (D.1 0 1)) := by rw [← hw]; rfl
      rw [eo]
      unfold f_X6_brokenInRow_l4 f_X6_brokenAt
      rw [b2, if_neg (nI_ge hi (by omega)), zm_ck_t (zm_in_nI (by omega) (by omega)), nI_clamp (show i < 2 ^ 31 by omega), q2]
      simp only [zv_eq]
      rw [zm_ck_t (zm_in_nI (by omega) (by omega)), nI_clamp (show w < 2 ^ 31 by omega), h107 w q1, h10, bI, zk_true, zm_ck_t (zm_in_nI (by omega) (by omega)), tT_ki hT w q1, show nI (r w) * 10 + nI (D.1 5 w) = nI (r w * 10 + D.1 5 w) by rw [show (10 : Int32) = nI 10 from rfl, pk_mul, nI_add], zm_ck_t (zm_in_nI (by omega) (by omega)), nI_clamp (show r w * 10 + D.1 5 w < 2 ^ 31 by omega), h110 _ _ (by omega) (by omega), zm_ck_t (zm_in_nI (by omega) (by omega)), nI_clamp (show r w < 2 ^ 31 by omega), h109 _ (by omega), ← m1, ← m2, show ∀ a, nI (a + 1) - 1 = nI a from nI_pred, show ∀ a, nI (a + 1) - 1 = nI a from nI_pred, zb1_some, show (5 : Int32) = nI 5 from rfl, show (6 : Int32) = nI 6 from rfl, pk_mul, nI_add, pk_mul, nI_add, pk_mul, nI_add, nI_k1]
      unfold bix at hbix e106
      rw [zm_ck_t (zm_in_nI hbix (by omega)), nI_clamp (by omega), e106, zi_or]
    · show f_X6_brokenInRow_l4 M _ (nI nb) = _
      unfold f_X6_brokenInRow_l4
      rw [b2, if_pos (nI_le (Nat.le_refl _) (by omega))]
  unfold f_X6_brokenInRow
  rw [key]
  show some (nI _) = _
  congr 2
  refine Nat.eq_of_testBit_eq (fun j => ?_)
  rw [orF_bit]
  unfold rbF
  rw [bitsOf_test, Bool.eq_iff_iff, anyB_iff]
  have ebit : ∀ w m s, (bkF D li dy w (r w) m s).testBit j = (decide (j < D.1 0 2) && ((decide (j < D.1 0 2) && (decide (D.1 7 j = w) && decide (li / 2 ^ j % 2 = 0))) && !kp D (vr D w (r w) m s dy) j)) := by
    intro w m s
    unfold bkF
    rw [bitsOf_test]
    unfold stF
    rw [bitsOf_test]
  constructor
  · rintro ⟨i, hi, h⟩
    rw [ebit] at h
    simp only [Bool.and_eq_true, decide_eq_true_eq, Bool.not_eq_true'] at h ⊢
    obtain ⟨h1, ⟨h2, h3, h4⟩, h5⟩ := h
    refine ⟨h1, h4, ?_⟩
    rw [h3]; exact h5
  · intro h
    simp only [Bool.and_eq_true, decide_eq_true_eq, Bool.not_eq_true'] at h
    obtain ⟨h1, h2, h3⟩ := h
    have hw7 := tT_Kb hT j h1
    have hne : stF D li (D.1 7 j) ≠ 0 := by
      intro z
      have : (stF D li (D.1 7 j)).testBit j = true := by
        unfold stF
        rw [bitsOf_test, decide_eq_true h1, decide_eq_true rfl, decide_eq_true h2]; rfl
      rw [z, Nat.zero_testBit] at this; cases this
    obtain ⟨i, hi, hb⟩ := b4 _ hw7 hne
    refine ⟨i, hi, ?_⟩
    rw [ebit, hb]
    simp only [Bool.and_eq_true, decide_eq_true_eq, Bool.not_eq_true']
    exact ⟨h1, ⟨h1, trivial, h2⟩, h3⟩
