theorem pack_skip {W c k p d : Nat} {wr : Nat → Nat} {s : zC3} (hck : c + 1 + k = W) (h : pkP W (c + 1) (p * 6 + d) = false) : fo (kwF W wr) ((p * 6 + d) * 6 ^ k) (6 ^ k) s = s := by
  refine fo_skip (fun i hi s => ?_)
  have := pkP_pre (r := i) hi h
  rw [hck] at this
  unfold kwF
  rw [this, if_neg (by decide)]
theorem c_pack {W : Nat} {wr : Nat → Nat} {tb : Nat → Nat → Nat} (hW : W ≤ 6) (hwr : ∀ way, pkP W W way = true → wr way = sumOf (fun c => tb c (dgp 6 way W c)) W ∧ wr way ≤ 20) : ∀ k c, c + k = W → ∀ (dp p u x : Nat) (M : zm_Mem) (s : zC3), k < dp → pkP W c p = true → usd c p u → x = sumOf (fun j => tb j (dgp 6 p c j)) c → (∀ j, j < c → M.1 22 j = nI (dgp 6 p c j)) → (∀ a b, a < W → b < W → M.1 20 (a * 6 + b) = nI (tb a b)) → CrR M s → ∃ M', fr_X0_pack dp 0 (nI W) (nI c) (nI u) (nI x) M = some ((), M') ∧ Fr wPk M M' ∧ (∀ j, j < c → M'.1 22 j = M.1 22 j) ∧ CrR M' (fo (kwF W wr) (p * 6 ^ k) (6 ^ k) s) := by
  intro k
  induction k with
  | zero =>
    intro c hc dp p u x M s hdp hp hu hx h22 h20 hs
    have hcW : c = W := by omega
    subst hcW
    obtain ⟨d, rfl⟩ : ∃ d, dp = d + 1 := ⟨dp - 1, by omega⟩
    obtain ⟨e1, e2⟩ := hwr p hp
    obtain ⟨M', k1, k2, k3, k4⟩ := c_keepWay (way := p) (wr := wr) hW e2 hs h22
    refine ⟨M', ?_, k2, fun j _ => k3 j, ?_⟩
    · unfold fr_X0_pack f_X0_pack f_X0_pack_b11
      rw [if_pos (nI_le (Nat.le_refl _) (by omega)), hx, ← e1, k1]; rfl
    · show CrR M' (kwF c wr s (p * 6 ^ 0 + 0))
      unfold kwF
      rw [Nat.pow_zero, Nat.mul_one, Nat.add_zero, hp, if_pos rfl]
      exact k4
  | succ k ih =>
    intro c hc dp p u x M s hdp hp hu hx h22 h20 hs
    obtain ⟨d', rfl⟩ : ∃ d, dp = d + 1 := ⟨dp - 1, by omega⟩
    have hcW : c < W := by omega
    have hul := hu.1
    have key : ∃ e, zm_lp (fun z => f_X0_pack_l22 (fr_X0_pack d') (nI W) (nI c) (nI u) (nI x) z.1 z.2) (nI 0, M) = some e ∧ (Fr wPk M e ∧ (∀ j, j < c → e.1 22 j = M.1 22 j) ∧ CrR e (fo (fun s d => fo (kwF W wr) ((p * 6 + d) * 6 ^ k) (6 ^ k) s) 0 W s)) := by
      refine lp_inv (step := fun z => f_X0_pack_l22 (fr_X0_pack d') (nI W) (nI c) (nI u) (nI x) z.1 z.2) (fun d z => z.1 = nI d ∧ Fr wPk M z.2 ∧ (∀ j, j < c → z.2.1 22 j = M.1 22 j) ∧ CrR z.2 (fo (fun s d => fo (kwF W wr) ((p * 6 + d) * 6 ^ k) (6 ^ k) s) 0 d s)) _ W ?_ ?_ ⟨rfl, fr_rfl _ M, fun _ _ => rfl, hs⟩
      · rintro d ⟨z1, L⟩ hd ⟨p1, p2, p3, p4⟩
        simp only at p1 p2 p3 p4
        subst p1
        have hext := pkP_ext (W := W) (c := c) (p := p) (d := d) (by omega)
        rw [hp, decide_eq_true hd, Bool.true_and, Bool.true_and] at hext
        have hfree := usd_free (d := d) (by omega) hu
        have esh : (nI u >>> (nI d &&& 31)) &&& 1 = nI (u / 2 ^ d % 2) := by
          rw [show (31 : Int32) = nI 31 from rfl, show (1 : Int32) = nI 1 from rfl, zi_shr (by omega) (by omega), zi_and1]
        refine Or.inl ?_
        by_cases hb : u / 2 ^ d % 2 = 0
        · have hp' : pkP W (c + 1) (p * 6 + d) = true := by rw [hext]; exact hfree.1 hb
          have m20 : (zm_sI L 22 c (nI d)).1 20 (c * 6 + d) = nI (tb c d) := by
            rw [mI1, if_neg (by omega), p2.2 20 _ rfl]; exact h20 c d hcW hd
          obtain ⟨M', k1, k2, k3, k4⟩ := ih (c + 1) (by omega) d' (p * 6 + d) (u ||| 2 ^ d) (x + tb c d) (zm_sI L 22 c (nI d)) _ (by omega) hp' (usd_ext (by omega) hu) (by
              show _ = sumOf (fun j => tb j (dgp 6 (p * 6 + d) (c + 1) j)) c + tb c (dgp 6 (p * 6 + d) (c + 1) c)
              rw [dgp_hi (by omega), hx]
              congr 1
              exact sumOf_congr (fun j hj => by rw [dgp_lo (by omega) hj])) (fun j hj => by
              rw [mI1]
              by_cases hjc : j = c
              · rw [if_pos ⟨rfl, hjc⟩, hjc, dgp_hi (by omega)]
              · rw [if_neg (fun z => hjc z.2), p3 j (by omega), h22 j (by omega), dgp_lo (by omega) (by omega)]) (fun a b ha hb => by
              rw [mI1, if_neg (by omega), p2.2 20 _ rfl]; exact h20 a b ha hb) (show CrR (zm_sI L 22 c (nI d)) _ from by
              obtain ⟨q1, q2, q3, q4⟩ := p4
              exact ⟨fun w hw => by rw [mI1, if_neg (by omega)]; exact q1 w hw, by rw [mI1, if_neg (by omega)]; exact q2, q3, fun h c' hc' => by rw [mI1, if_neg (by omega)]; exact q4 h c' hc'⟩)
          refine ⟨(nI (d + 1), M'), ?_, rfl, fr_tr p2 (fr_tr (fr_sI rfl) k2), fun j hj => ?_, ?_⟩
          · show f_X0_pack_l22 (fr_X0_pack d') (nI W) (nI c) (nI u) (nI x) (nI d) L = _
            unfold f_X0_pack_l22 f_X0_pack_b74_22
            rw [if_neg (nI_ge hd (by omega)), esh, hb, if_pos (by rfl), zm_ck_t (zm_in_nI (by omega) (by omega)), nI_clamp (by omega)]
            simp only [zv_eq]
            rw [show nI c * 6 + nI d = nI (c * 6 + d) by rw [show (6 : Int32) = nI 6 from rfl, pk_mul, nI_add], zm_ck_t (zm_in_nI (by omega) (by omega)), nI_clamp (by omega), m20, nI_add, nI_k1, show (1 : Int32) <<< (nI d &&& 31) = nI (2 ^ d) from zi_sh1 (by omega), zi_or, k1, zb2_some, nI_k1]
          · rw [k3 j (by omega), mI1, if_neg (by omega)]; exact p3 j hj
          · show CrR M' (fo (kwF W wr) ((p * 6 + (0 + d)) * 6 ^ k) (6 ^ k) _)
            rw [Nat.zero_add]; exact k4
        · have hp' : pkP W (c + 1) (p * 6 + d) = false := by
            rw [hext]
            cases hq : allB (fun i => !decide (dgp 6 p c i = d)) c with
            | false => rfl
            | true => exact absurd (hfree.2 hq) hb
          refine ⟨(nI (d + 1), L), ?_, rfl, p2, p3, ?_⟩
          · show f_X0_pack_l22 (fr_X0_pack d') (nI W) (nI c) (nI u) (nI x) (nI d) L = _
            unfold f_X0_pack_l22 f_X0_pack_b74_22
            rw [if_neg (nI_ge hd (by omega)), esh, if_neg (show ¬ nI (u / 2 ^ d % 2) = 0 from fun z => hb ((nI_eq (by omega) (by omega)).1 (show nI (u / 2 ^ d % 2) = nI 0 from z)))]
            simp only [zv_eq]
            rw [nI_k1]
          · show CrR L (fo (kwF W wr) ((p * 6 + (0 + d)) * 6 ^ k) (6 ^ k) _)
            rw [Nat.zero_add, pack_skip (by omega) hp']; exact p4
      · rintro ⟨z1, L⟩ ⟨p1, p2, p3, p4⟩
        simp only at p1 p2 p3 p4
        subst p1
        refine ⟨L, ?_, p2, p3, p4⟩
        show f_X0_pack_l22 (fr_X0_pack d') (nI W) (nI c) (nI u) (nI x) (nI W) L = _
        unfold f_X0_pack_l22
        rw [if_pos (nI_le (Nat.le_refl _) (by omega))]
    obtain ⟨e, k1, k2, k3, k4⟩ := key
    refine ⟨e, ?_, k2, k3, ?_⟩
    · unfold fr_X0_pack f_X0_pack
      rw [if_neg (nI_ge hcW (by omega)), if_pos (show nI c < 6 from nI_lt (b := 6) (by omega) (by omega))]
      have k1' : zm_lp (fun s => f_X0_pack_l22 (fr_X0_pack d') (nI W) (nI c) (nI u) (nI x) s.1 s.2) (0, M) = some e := k1
      rw [k1']; rfl
    · rw [fo_blk]
      have e6 := fo_add (fun s d => fo (kwF W wr) ((p * 6 + d) * 6 ^ k) (6 ^ k) s) 0 W s (6 - W)
      rw [show W + (6 - W) = 6 by omega] at e6
      rw [e6, fo_skip (fun i hi s' => ?_)]
      · exact k4
      · refine pack_skip (c := c) (by omega) ?_
        rw [pkP_ext (by omega), decide_eq_false (show ¬ 0 + W + i < W by omega), Bool.false_and, Bool.and_false]
/-! what lists tell -/
def vl (D : zD) (b w : Nat) : Nat := if b = 0 then D.1 5 w else if b = 1 then D.1 6 w else D.1 3 w
def LsD (M : zm_Mem) (W K : Nat) (cr bf f : Nat → Nat) : Prop := ∀ i, i < K → cr i < W ∧ bf i ≤ 2 ∧ f i ≤ 99 ∧ M.1 17 i = nI (cr i) ∧ M.1 98 i = nI (cr i) ∧ M.1 18 i = nI (bf i) ∧ M.1 99 i = nI (bf i) ∧ M.1 19 i = nI (f i) ∧ M.1 100 i = nI (f i)
theorem lsd_of {M : zm_Mem} {W : Nat} (hW : W ≤ 6) (h : iv_crates M W) : ∃ s, s ≤ 20 ∧ M.1 16 7 = nI s ∧ M.1 52 65 = nI s ∧ LsD M W s (fun i => (M.1 17 i).toNatClampNeg) (fun i => (M.1 18 i).toNatClampNeg) (fun i => (M.1 19 i).toNatClampNeg) := by
  obtain ⟨s, h1, h2, h3, h4⟩ := h
  refine ⟨s, h1, h2, h3, fun i hi => ?_⟩
  obtain ⟨a, b, c, q1, q2, q3, q4, q5, q6, q7, q8, q9⟩ := h4 i hi
  simp only
  rw [q4, q6, q8, nI_clamp (by omega), nI_clamp (by omega), nI_clamp (by omega)]
  exact ⟨q1, q2, q3, rfl, q5, rfl, q7, rfl, q9⟩
def rt (D : zD) (bf f : Nat → Nat) (i w : Nat) : Bool := decide (vl D (bf i) w = f i)
def tbl (D : zD) (cr bf f : Nat → Nat) (k a b : Nat) : Nat := sumOf (fun i => if cr i = a ∧ rt D bf f i b = false then 1 else 0) k
def wrs (D : zD) (cr bf f : Nat → Nat) (k way : Nat) : Nat := sumOf (fun i => if rt D bf f i (dgp 6 way (D.1 0 1) (cr i)) = false then 1 else 0) k
theorem sum_one {a : Nat} {q : Nat → Bool} : ∀ {W : Nat}, a < W → sumOf (fun c => if a = c ∧ q c = false then 1 else 0) W = if q a = false then 1 else 0
  | W + 1, h => by
    unfold sumOf
    by_cases haW : a = W
    · subst haW
      rw [show sumOf (fun c => if a = c ∧ q c = false then 1 else 0) a = 0 from sumOf_0.2 (fun j hj => if_neg (by omega)), Nat.zero_add]
      by_cases hq : q a = false
      · rw [if_pos ⟨rfl, hq⟩, if_pos hq]
      · rw [if_neg (fun z => hq z.2), if_neg hq]
    · rw [sum_one (by omega), if_neg (c := a = W ∧ q W = false) (fun z => haW z.1), Nat.add_zero]
theorem wrs_tbl {D : zD} {cr bf f : Nat → Nat} {way : Nat} : ∀ k, (∀ i, i < k → cr i < D.1 0 1) → wrs D cr bf f k way = sumOf (fun c => tbl D cr bf f k c (dgp 6 way (D.1 0 1) c)) (D.1 0 1)
  | 0, _ => (sumOf_0.2 (fun _ _ => rfl)).symm
  | k + 1, h => by
    have e : sumOf (fun c => tbl D cr bf f (k + 1) c (dgp 6 way (D.1 0 1) c)) (D.1 0 1) = sumOf (fun c => tbl D cr bf f k c (dgp 6 way (D.1 0 1) c)) (D.1 0 1) + sumOf (fun c => if cr k = c ∧ rt D bf f k (dgp 6 way (D.1 0 1) c) = false then 1 else 0) (D.1 0 1) := sumOf_add (fun j _ => rfl)
    rw [e, ← wrs_tbl k (fun i hi => h i (by omega)), sum_one (q := fun c => rt D bf f k (dgp 6 way (D.1 0 1) c)) (h k (by omega))]
    rfl
theorem wrs_le (D : zD) (cr bf f : Nat → Nat) (k way : Nat) : wrs D cr bf f k way ≤ k := by
  have := sumOf_le (f := fun i => if rt D bf f i (dgp 6 way (D.1 0 1) (cr i)) = false then 1 else 0) (c := 1) (i := k) (fun i _ => by split <;> omega)
  unfold wrs; omega
theorem c_isRight {M : zm_Mem} {t v n K i w : Nat} {D : zD} {S cr bf f : Nat → Nat} (hC : Cx M t v D S n) (hL : LsD M (D.1 0 1) K cr bf f) (hK : K ≤ 20) (hi : i < K) (hw : w < D.1 0 1) : f_X0_isRight t (nI i) (nI w) M = some (if rt D bf f i w = true then nI 1 else nI 0) := by
  have ht := hC.2.1
  have hT := hC.2.2.1
  have hR := hC.2.2.2
  have bI := cx_isT hC
  have bv := tT_v hT
  have bh := tT_bh hT
  have bw := tT_bw hT
  have bk := tT_bk hT
  obtain ⟨q1, q2, q3, q4, q5, q6, q7, q8, q9⟩ := hL i hi
  have hwb := tT_Wb hT w hw
  have z1 : zm_in (nI i) 20 = true := zm_in_nI (by omega) (by omega)
  have z2 : zm_in (nI w) 6 = true := zm_in_nI (by omega) (by omega)
  have ci : (nI i).toNatClampNeg = i := nI_clamp (by omega)
  have cw : (nI w).toNatClampNeg = w := nI_clamp (by omega)
  unfold f_X0_isRight rt
  simp only [zv_eq, z1, z2, zk_true, ci, cw, q6, q8, decide_eq_true_eq]
  rcases (show bf i = 0 ∨ bf i = 1 ∨ bf i = 2 by omega) with h | h | h
  · have ev : vl D (bf i) w = D.1 5 w := by unfold vl; rw [h]; rfl
    rw [ev, h, if_pos (by rfl), tT_ki hT w hw]
    by_cases he : D.1 5 w = f i
    · rw [if_pos (by rw [he]), if_pos he]; rfl
    · rw [if_neg (by rw [nI_eq (by omega) (by omega)]; exact he), if_neg he]; rfl
  · have ev : vl D (bf i) w = D.1 6 w := by unfold vl; rw [h]; rfl
    rw [ev, h, if_neg (by decide), if_pos (by rfl), tT_va hT w hw]
    by_cases he : D.1 6 w = f i
    · rw [if_pos (by rw [he]), if_pos he]; rfl
    · rw [if_neg (by rw [nI_eq (by omega) (by omega)]; exact he), if_neg he]; rfl
  · have ev : vl D (bf i) w = D.1 3 w := by unfold vl; rw [h]; rfl
    rw [ev, h, if_neg (by decide), if_neg (by decide), tT_ow hT w hw]
    by_cases he : D.1 3 w = f i
    · rw [if_pos (by rw [he]), if_pos he]; rfl
    · rw [if_neg (by rw [nI_eq (by omega) (by omega)]; exact he), if_neg he]; rfl
