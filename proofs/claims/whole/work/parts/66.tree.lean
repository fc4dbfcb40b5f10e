/-! numbers gone through one by one, and by their digits -/
def fo {σ : Type} (f : σ → Nat → σ) (lo : Nat) : Nat → σ → σ
  | 0, s => s
  | n + 1, s => f (fo f lo n s) (lo + n)
theorem fo_add {σ : Type} (f : σ → Nat → σ) (lo a : Nat) (s : σ) : ∀ b, fo f lo (a + b) s = fo f (lo + a) b (fo f lo a s)
  | 0 => rfl
  | b + 1 => by
    show f (fo f lo (a + b) s) (lo + (a + b)) = f (fo f (lo + a) b (fo f lo a s)) (lo + a + b)
    rw [fo_add f lo a s b, Nat.add_assoc]
theorem fo_mul {σ : Type} (f : σ → Nat → σ) (lo L : Nat) (s : σ) : ∀ n, fo f lo (n * L) s = fo (fun s d => fo f (lo + d * L) L s) 0 n s
  | 0 => by rw [Nat.zero_mul]; rfl
  | n + 1 => by
    rw [Nat.succ_mul, fo_add, fo_mul f lo L s n]
    show _ = fo f (lo + (0 + n) * L) L _
    rw [Nat.zero_add]
theorem fo_blk {σ : Type} (f : σ → Nat → σ) (B k p : Nat) (s : σ) : fo f (p * B ^ (k + 1)) (B ^ (k + 1)) s = fo (fun s d => fo f ((p * B + d) * B ^ k) (B ^ k) s) 0 B s := by
  rw [Nat.pow_succ, Nat.mul_comm (B ^ k) B, fo_mul]
  congr 1
  funext s d
  rw [Nat.add_mul, Nat.mul_assoc]
theorem fo_skip {σ : Type} {f : σ → Nat → σ} {lo : Nat} {s : σ} : ∀ {n : Nat}, (∀ i, i < n → ∀ s, f s (lo + i) = s) → fo f lo n s = s
  | 0, _ => rfl
  | n + 1, h => by
    show f (fo f lo n s) (lo + n) = s
    rw [h n (by omega), fo_skip (fun i hi => h i (by omega))]
theorem fo_congr {σ : Type} {f g : σ → Nat → σ} {lo : Nat} {s : σ} : ∀ {n : Nat}, (∀ i, i < n → ∀ s, f s (lo + i) = g s (lo + i)) → fo f lo n s = fo g lo n s
  | 0, _ => rfl
  | n + 1, h => by
    show f (fo f lo n s) (lo + n) = g (fo g lo n s) (lo + n)
    rw [h n (by omega), fo_congr (fun i hi => h i (by omega))]
/-- the digits of a number that has so many, the first one first -/
def dgp (B p c j : Nat) : Nat := p / B ^ (c - 1 - j) % B
theorem dgp_lt {B : Nat} (hB : 0 < B) (p c j : Nat) : dgp B p c j < B := Nat.mod_lt _ hB
theorem dgp_lo {B p d c j : Nat} (hd : d < B) (hj : j < c) : dgp B (p * B + d) (c + 1) j = dgp B p c j := by
  unfold dgp
  have hB : 0 < B := by omega
  rw [show c + 1 - 1 - j = 1 + (c - 1 - j) by omega, Nat.pow_add, Nat.pow_one, ← Nat.div_div_eq_div_mul, Nat.add_comm (p * B), Nat.add_mul_div_right _ _ hB, Nat.div_eq_of_lt hd, Nat.zero_add]
theorem dgp_hi {B p d c : Nat} (hd : d < B) : dgp B (p * B + d) (c + 1) c = d := by
  unfold dgp
  rw [show c + 1 - 1 - c = 0 by omega, Nat.pow_zero, Nat.div_one, Nat.add_comm, Nat.add_mul_mod_self_right, Nat.mod_eq_of_lt hd]
theorem dgp_pre {B p r c k j : Nat} (hB : 0 < B) (hr : r < B ^ k) (hj : j < c) : dgp B (p * B ^ k + r) (c + k) j = dgp B p c j := by
  unfold dgp
  rw [show c + k - 1 - j = k + (c - 1 - j) by omega, Nat.pow_add, ← Nat.div_div_eq_div_mul, dig_hi hB hr]
def anyB (p : Nat → Bool) (n : Nat) : Bool := !allB (fun j => !p j) n
theorem anyB_iff {p : Nat → Bool} {n : Nat} : anyB p n = true ↔ ∃ j, j < n ∧ p j = true := by
  unfold anyB
  constructor
  · intro h
    refine Classical.byContradiction (fun hc => ?_)
    have : allB (fun j => !p j) n = true := allB_iff.2 (fun j hj => by
      cases hp : p j with
      | false => rfl
      | true => exact absurd ⟨j, hj, hp⟩ hc)
    rw [this] at h; cases h
  · rintro ⟨j, hj, hp⟩
    rw [allB_no (p := fun j => !p j) (i := j) (by rw [hp]; rfl) hj]; rfl
/-! packings: another work in each crate -/
def pkP (W c p : Nat) : Bool := allB (fun j => decide (dgp 6 p c j < W) && allB (fun i => !decide (dgp 6 p c i = dgp 6 p c j)) j) c
theorem pkP_ext {W c p d : Nat} (hd : d < 6) : pkP W (c + 1) (p * 6 + d) = (pkP W c p && (decide (d < W) && allB (fun i => !decide (dgp 6 p c i = d)) c)) := by
  unfold pkP
  show (allB _ c && (decide (dgp 6 (p * 6 + d) (c + 1) c < W) && allB (fun i => !decide (dgp 6 (p * 6 + d) (c + 1) i = dgp 6 (p * 6 + d) (c + 1) c)) c)) = _
  rw [dgp_hi hd]
  congr 1
  · refine allB_congr (fun j hj => ?_)
    rw [dgp_lo hd hj]
    congr 1
    exact allB_congr (fun i hi => by rw [dgp_lo hd (by omega)])
  · congr 1
    exact allB_congr (fun i hi => by rw [dgp_lo hd hi])
theorem pkP_pre {W c k p r : Nat} (hr : r < 6 ^ k) (h : pkP W c p = false) : pkP W (c + k) (p * 6 ^ k + r) = false := by
  cases hq : pkP W (c + k) (p * 6 ^ k + r) with
  | false => rfl
  | true =>
    unfold pkP at hq h
    rw [allB_iff] at hq
    have : allB (fun j => decide (dgp 6 p c j < W) && allB (fun i => !decide (dgp 6 p c i = dgp 6 p c j)) j) c = true := by
      rw [allB_iff]
      intro j hj
      have := hq j (by omega)
      rw [dgp_pre (by omega) hr hj] at this
      rw [← this]
      congr 1
      exact allB_congr (fun i hi => by rw [dgp_pre (by omega) hr (by omega)])
    rw [this] at h; cases h
theorem or_bit6 : ∀ u, u < 64 → ∀ d, d < 6 → u ||| 2 ^ d < 64 ∧ ∀ w, w < 6 → (u ||| 2 ^ d) / 2 ^ w % 2 = if w = d then 1 else u / 2 ^ w % 2 := by decide +kernel
/-- which works are in crates already -/
def usd (c p u : Nat) : Prop := u < 64 ∧ ∀ w, w < 6 → u / 2 ^ w % 2 = if anyB (fun j => decide (dgp 6 p c j = w)) c = true then 1 else 0
theorem usd_0 : usd 0 0 0 := ⟨by omega, fun w hw => by
  rw [Nat.zero_div]; rfl⟩
theorem any_ext {c p d w : Nat} (hd : d < 6) : anyB (fun j => decide (dgp 6 (p * 6 + d) (c + 1) j = w)) (c + 1) = (anyB (fun j => decide (dgp 6 p c j = w)) c || decide (d = w)) := by
  rw [Bool.eq_iff_iff, Bool.or_eq_true, anyB_iff, anyB_iff]
  simp only [decide_eq_true_eq]
  constructor
  · rintro ⟨j, hj, h⟩
    by_cases hjc : j = c
    · subst hjc; rw [dgp_hi hd] at h; exact Or.inr h
    · rw [dgp_lo hd (by omega)] at h; exact Or.inl ⟨j, by omega, h⟩
  · rintro (⟨j, hj, h⟩ | h)
    · exact ⟨j, by omega, by rw [dgp_lo hd hj]; exact h⟩
    · exact ⟨c, by omega, by rw [dgp_hi hd]; exact h⟩
theorem usd_ext {c p u d : Nat} (hd : d < 6) (h : usd c p u) : usd (c + 1) (p * 6 + d) (u ||| 2 ^ d) := by
  obtain ⟨h1, h2⟩ := h
  obtain ⟨k1, k2⟩ := or_bit6 u h1 d hd
  refine ⟨k1, fun w hw => ?_⟩
  rw [k2 w hw, any_ext hd]
  by_cases hwd : w = d
  · rw [if_pos hwd, decide_eq_true hwd.symm, Bool.or_true, if_pos rfl]
  · rw [if_neg hwd, decide_eq_false (fun z => hwd z.symm), Bool.or_false]; exact h2 w hw
theorem usd_free {c p u d : Nat} (hd : d < 6) (h : usd c p u) : u / 2 ^ d % 2 = 0 ↔ allB (fun i => !decide (dgp 6 p c i = d)) c = true := by
  rw [h.2 d hd]
  unfold anyB
  cases allB (fun j => !decide (dgp 6 p c j = d)) c <;> simp
/-! what a leaf does -/
abbrev zC3 : Type := (Nat → Nat) × Nat × (Nat → Nat)
def kw (W : Nat) (wr : Nat → Nat) (s : zC3) (way : Nat) : zC3 :=
  (fun w => if w = wr way then s.1 w + 1 else s.1 w, if wr way < s.2.1 then wr way else s.2.1,
   fun c => if wr way < s.2.1 then (if c < W then 2 ^ dgp 6 way W c else 0) else if wr way = s.2.1 ∧ c < W then s.2.2 c ||| 2 ^ dgp 6 way W c else s.2.2 c)
def kwF (W : Nat) (wr : Nat → Nat) (s : zC3) (way : Nat) : zC3 := if pkP W W way = true then kw W wr s way else s
def CrR (M : zm_Mem) (s : zC3) : Prop := (∀ w, w < 21 → M.1 21 w = nI (s.1 w)) ∧ M.1 16 8 = nI s.2.1 ∧ s.2.1 ≤ 21 ∧ (s.2.1 ≤ 20 → ∀ c, c < 6 → M.1 23 c = nI (s.2.2 c) ∧ s.2.2 c < 64)
theorem fill_eq {M : zm_Mem} {a N : Nat} {x : Int32} (hN : (zm_sh a).2 = N) (hb : N < 2 ^ 31) : f_J7_fill_53178 a x M = some ((), cpM M a 0 N (fun _ => x)) := by
  have key : zm_lp (fun s => f_J7_fill_53178_l5 a x (nI N) s.1 s.2) (0, M) = some (cpM M a 0 N (fun _ => x)) := by
    refine lp_cpy M a 0 N _ (fun i hi => ?_) ?_
    · unfold f_J7_fill_53178_l5
      rw [if_neg (nI_ge hi hb), hN, zm_ck_t (zm_in_nI hi hb), nI_clamp (by omega), Nat.zero_add]
      simp only [zv_eq]
      rw [nI_k1]
    · unfold f_J7_fill_53178_l5
      rw [if_pos (nI_le (Nat.le_refl _) hb)]
  unfold f_J7_fill_53178
  simp only [zv_eq]
  rw [hN, show Int32.ofNat N = nI N from rfl, key]; rfl
def wPk (x j : Nat) : Bool := decide (x = 22) || (decide (x = 21) || (decide (x = 23) || (decide (x = 16) && decide (j = 8))))
theorem c_keepWay {M : zm_Mem} {W way : Nat} {wr : Nat → Nat} {s : zC3} (hW : W ≤ 6) (hwr : wr way ≤ 20) (hs : CrR M s) (h22 : ∀ c, c < W → M.1 22 c = nI (dgp 6 way W c)) : ∃ M', f_X0_keepWay (nI W) (nI (wr way)) M = some ((), M') ∧ Fr wPk M M' ∧ (∀ j, M'.1 22 j = M.1 22 j) ∧ CrR M' (kw W wr s way) := by
  obtain ⟨h1, h2, h3, h4⟩ := hs
  -- the loop that adds bits
  have loop : ∀ (L : zm_Mem) (f : Nat → Nat), (∀ c, c < 6 → L.1 23 c = nI (f c) ∧ f c < 64) → (∀ c, c < W → L.1 22 c = nI (dgp 6 way W c)) → ∃ L', zm_lp (fun z => f_X0_keepWay_l48 (nI W) z.1 z.2) (nI 0, L) = some L' ∧ (Fr (fun x _ => decide (x = 23)) L L' ∧ ∀ c, c < 6 → L'.1 23 c = nI (if c < W then f c ||| 2 ^ dgp 6 way W c else f c)) := by
    intro L f hf hd
    refine lp_inv (step := fun z => f_X0_keepWay_l48 (nI W) z.1 z.2) (fun i z => z.1 = nI i ∧ Fr (fun x _ => decide (x = 23)) L z.2 ∧ ∀ c, c < 6 → z.2.1 23 c = nI (if c < i then f c ||| 2 ^ dgp 6 way W c else f c)) _ W ?_ ?_ ⟨rfl, fr_rfl _ L, fun c hc => by rw [if_neg (by omega)]; exact (hf c hc).1⟩
    · rintro i ⟨z1, K⟩ hi ⟨p1, p2, p3⟩
      simp only at p1 p2 p3
      subst p1
      have k23 := p3 i (by omega)
      rw [if_neg (by omega)] at k23
      have k22 : K.1 22 i = nI (dgp 6 way W i) := (p2.2 22 i rfl).trans (hd i hi)
      have hdl := dgp_lt (B := 6) (by omega) way W i
      refine Or.inl ⟨(nI (i + 1), zm_sI K 23 i (nI (f i ||| 2 ^ dgp 6 way W i))), ?_, rfl, fr_tr p2 (fr_sI rfl), fun c hc => ?_⟩
      · show f_X0_keepWay_l48 (nI W) (nI i) K = _
        unfold f_X0_keepWay_l48
        rw [if_neg (nI_ge hi (by omega)), zm_ck_t (zm_in_nI (by omega) (by omega)), zm_ck_t (zm_in_nI (by omega) (by omega)), zm_ck_t (zm_in_nI (by omega) (by omega)), nI_clamp (by omega), k22, k23, show (1 : Int32) <<< (nI (dgp 6 way W i) &&& 31) = nI (2 ^ dgp 6 way W i) from zi_sh1 (by omega), zi_or]
        simp only [zv_eq]
        rw [nI_k1]
      · show (zm_sI _ _ _ _).1 23 c = _
        rw [mI1]
        by_cases hci : c = i
        · rw [if_pos ⟨rfl, hci⟩, hci, if_pos (by omega)]
        · rw [if_neg (fun z => hci z.2), p3 c hc]
          by_cases hlt : c < i
          · rw [if_pos hlt, if_pos (by omega)]
          · rw [if_neg hlt, if_neg (by omega)]
    · rintro ⟨z1, K⟩ ⟨p1, p2, p3⟩
      simp only at p1 p2 p3
      subst p1
      refine ⟨K, ?_, p2, p3⟩
      show f_X0_keepWay_l48 (nI W) (nI W) K = _
      unfold f_X0_keepWay_l48
      rw [if_pos (nI_le (Nat.le_refl _) (by omega))]
  have e21 := h1 (wr way) (by omega)
  generalize hA : zm_sI M 21 (wr way) (nI (s.1 (wr way) + 1)) = A
  have a8 : A.1 16 8 = nI s.2.1 := by rw [← hA, mI1, if_neg (by omega)]; exact h2
  have a21 : ∀ w, w < 21 → A.1 21 w = nI (if w = wr way then s.1 w + 1 else s.1 w) := by
    intro w hw
    rw [← hA, mI1]
    by_cases hww : w = wr way
    · rw [if_pos ⟨rfl, hww⟩, if_pos hww, hww]
    · rw [if_neg (fun z => hww z.2), if_neg hww]; exact h1 w hw
  have a22 : ∀ j, A.1 22 j = M.1 22 j := fun j => by rw [← hA, mI1, if_neg (by omega)]
  have a23 : ∀ j, A.1 23 j = M.1 23 j := fun j => by rw [← hA, mI1, if_neg (by omega)]
  have fA : Fr wPk M A := by rw [← hA]; exact fr_sI rfl
  have start : f_X0_keepWay (nI W) (nI (wr way)) M = (if nI s.2.1 ≤ nI (wr way) then (f_X0_keepWay_b38 (nI W) (nI (wr way)) A) else (zm_v (zm_sI A 16 8 (nI (wr way))) <| fun M27 => zm_b2 (f_J7_fill_53178 23 0 M27) <| fun _ M35 => f_X0_keepWay_b38 (nI W) (nI (wr way)) M35)) := by
    unfold f_X0_keepWay
    rw [if_pos (show nI (wr way) ≤ 20 from nI_le (b := 20) hwr (by omega)), zm_ck_t (zm_in_nI (by omega) (by omega)), zm_ck_t (zm_in_nI (by omega) (by omega)), nI_clamp (by omega), e21, nI_k1]
    simp only [zv_eq]
    rw [hA, a8]
  rw [start]
  by_cases hlt : wr way < s.2.1
  · rw [if_neg (nI_ge hlt (by omega))]
    simp only [zv_eq]
    rw [show (0 : Int32) = nI 0 from rfl, fill_eq (N := 6) rfl (by omega), zb2_some]
    generalize hE : cpM (zm_sI A 16 8 (nI (wr way))) 23 0 6 (fun _ => nI 0) = E
    have e8 : E.1 16 8 = nI (wr way) := by rw [← hE, mC_ne (by omega), mI1, if_pos ⟨rfl, rfl⟩]
    have e22 : ∀ j, E.1 22 j = M.1 22 j := fun j => by rw [← hE, mC_ne (by omega), mI1, if_neg (by omega), a22]
    have e23 : ∀ c, c < 6 → E.1 23 c = nI 0 := fun c hc => by rw [← hE, mC_in hc]
    have e21' : ∀ w, E.1 21 w = A.1 21 w := fun w => by rw [← hE, mC_ne (by omega), mI1, if_neg (by omega)]
    have fE : Fr wPk A E := by rw [← hE]; exact fr_tr (fr_sI rfl) (fr_cpM (fun _ => rfl))
    obtain ⟨L', k1, k2, k3⟩ := loop E (fun _ => 0) (fun c hc => ⟨e23 c hc, by omega⟩) (fun c hc => (e22 c).trans (h22 c hc))
    refine ⟨L', ?_, fr_tr fA (fr_tr fE (fr_mono (fun x j h => by unfold wPk; rw [h, Bool.true_or, Bool.or_true, Bool.or_true]) k2)), fun j => (k2.2 22 j rfl).trans (e22 j), ?_⟩
    · unfold f_X0_keepWay_b38
      rw [e8, if_pos rfl]
      have k1' : zm_lp (fun s => f_X0_keepWay_l48 (nI W) s.1 s.2) (0, E) = some L' := k1
      rw [k1']; rfl
    · refine ⟨fun w hw => ?_, ?_, ?_, fun _ c hc => ?_⟩
      · rw [k2.2 21 w rfl, e21', a21 w hw]; rfl
      · rw [k2.2 16 8 rfl, e8]
        show _ = nI (if wr way < s.2.1 then wr way else s.2.1)
        rw [if_pos hlt]
      · show (if wr way < s.2.1 then wr way else s.2.1) ≤ 21
        rw [if_pos hlt]; omega
      · show L'.1 23 c = nI (if wr way < s.2.1 then (if c < W then 2 ^ dgp 6 way W c else 0) else _) ∧ (if wr way < s.2.1 then (if c < W then 2 ^ dgp 6 way W c else 0) else _) < 64
        rw [if_pos hlt, k3 c hc]
        have hdl := dgp_lt (B := 6) (by omega) way W c
        have : 2 ^ dgp 6 way W c ≤ 2 ^ 5 := Nat.pow_le_pow_right (by omega) (by omega)
        by_cases hcW : c < W
        · rw [if_pos hcW, if_pos hcW, Nat.zero_or]; exact ⟨rfl, by omega⟩
        · rw [if_neg hcW, if_neg hcW]; exact ⟨rfl, by omega⟩
  · rw [if_pos (nI_le (by omega) (by omega))]
    by_cases heq : wr way = s.2.1
    · obtain ⟨L', k1, k2, k3⟩ := loop A s.2.2 (fun c hc => ⟨(a23 c).trans (h4 (by omega) c hc).1, (h4 (by omega) c hc).2⟩) (fun c hc => (a22 c).trans (h22 c hc))
      refine ⟨L', ?_, fr_tr fA (fr_mono (fun x j h => by unfold wPk; rw [h, Bool.true_or, Bool.or_true, Bool.or_true]) k2), fun j => (k2.2 22 j rfl).trans (a22 j), ?_⟩
      · unfold f_X0_keepWay_b38
        rw [a8, heq, if_pos rfl]
        have k1' : zm_lp (fun s => f_X0_keepWay_l48 (nI W) s.1 s.2) (0, A) = some L' := k1
        rw [k1']; rfl
      · refine ⟨fun w hw => ?_, ?_, ?_, fun _ c hc => ?_⟩
        · rw [k2.2 21 w rfl, a21 w hw]; rfl
        · rw [k2.2 16 8 rfl, a8]
          show _ = nI (if wr way < s.2.1 then wr way else s.2.1)
          rw [if_neg hlt]
        · show (if wr way < s.2.1 then wr way else s.2.1) ≤ 21
          rw [if_neg hlt]; omega
        · show L'.1 23 c = nI (if wr way < s.2.1 then (if c < W then 2 ^ dgp 6 way W c else 0) else if wr way = s.2.1 ∧ c < W then s.2.2 c ||| 2 ^ dgp 6 way W c else s.2.2 c) ∧ (if wr way < s.2.1 then (if c < W then 2 ^ dgp 6 way W c else 0) else if wr way = s.2.1 ∧ c < W then s.2.2 c ||| 2 ^ dgp 6 way W c else s.2.2 c) < 64
          rw [if_neg hlt, k3 c hc]
          have hdl := dgp_lt (B := 6) (by omega) way W c
          by_cases hcW : c < W
          · rw [if_pos hcW, if_pos ⟨heq, hcW⟩]; exact ⟨rfl, (or_bit6 _ (h4 (by omega) c hc).2 _ hdl).1⟩
          · rw [if_neg hcW, if_neg (fun z => hcW z.2)]; exact ⟨rfl, (h4 (by omega) c hc).2⟩
    · refine ⟨A, ?_, fA, a22, ?_⟩
      · unfold f_X0_keepWay_b38
        rw [a8, if_neg (by rw [nI_eq (by omega) (by omega)]; exact heq)]
      · refine ⟨fun w hw => by rw [a21 w hw]; rfl, ?_, ?_, fun hle c hc => ?_⟩
        · rw [a8]
          show _ = nI (if wr way < s.2.1 then wr way else s.2.1)
          rw [if_neg hlt]
        · show (if wr way < s.2.1 then wr way else s.2.1) ≤ 21
          rw [if_neg hlt]; omega
        · have hle' : s.2.1 ≤ 20 := by
            have : (if wr way < s.2.1 then wr way else s.2.1) ≤ 20 := hle
            rw [if_neg hlt] at this; exact this
          show A.1 23 c = nI (if wr way < s.2.1 then (if c < W then 2 ^ dgp 6 way W c else 0) else if wr way = s.2.1 ∧ c < W then s.2.2 c ||| 2 ^ dgp 6 way W c else s.2.2 c) ∧ (if wr way < s.2.1 then (if c < W then 2 ^ dgp 6 way W c else 0) else if wr way = s.2.1 ∧ c < W then s.2.2 c ||| 2 ^ dgp 6 way W c else s.2.2 c) < 64
          rw [if_neg hlt, if_neg (fun z => heq z.1), a23]
          exact h4 hle' c hc
