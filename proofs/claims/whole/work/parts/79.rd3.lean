/-! tokens: what both cut out of the tape -/
def rlF (P : Nat → Bool) (T : Nat → Nat) : Nat → Nat → Nat
  | 0, _ => 0
  | k + 1, p => if P (T p) = true then rlF P T k (p + 1) + 1 else 0
theorem rlF_run (P : Nat → Bool) (T : Nat → Nat) (n : Nat) : ∀ k p, p + k = n → Run P T n p (rlF P T k p)
  | 0, p, h => ⟨by unfold rlF; omega, fun i hi => by unfold rlF at hi; omega, fun h' => by unfold rlF at h'; omega⟩
  | k + 1, p, h => by
    unfold rlF
    by_cases hp : P (T p) = true
    · rw [if_pos hp]
      obtain ⟨h1, h2, h3⟩ := rlF_run P T n k (p + 1) (by omega)
      refine ⟨by omega, fun i hi => ?_, fun h' => ?_⟩
      · cases i with
        | zero => exact hp
        | succ i => rw [show p + (i + 1) = p + 1 + i by omega]; exact h2 i (by omega)
      · rw [show p + (rlF P T k (p + 1) + 1) = p + 1 + rlF P T k (p + 1) by omega]; exact h3 (by omega)
    · rw [if_neg hp]
      refine ⟨by omega, fun i hi => by omega, fun _ => ?_⟩
      cases hq : P (T (p + 0)) with
      | false => rfl
      | true => exact absurd hq hp
def rl (P : Nat → Bool) (T : Nat → Nat) (n p : Nat) : Nat := rlF P T (n - p) p
theorem rl_run {P : Nat → Bool} {T : Nat → Nat} {n p : Nat} (h : p ≤ n) : Run P T n p (rl P T n p) := rlF_run P T n (n - p) p (by omega)
theorem rl_pos {P : Nat → Bool} {T : Nat → Nat} {n p : Nat} (h : p < n) (hp : P (T p) = true) : 0 < rl P T n p := by
  unfold rl
  obtain ⟨k, hk⟩ : ∃ k, n - p = k + 1 := ⟨n - p - 1, by omega⟩
  rw [hk]
  unfold rlF
  rw [if_pos hp]; omega
def isBl (c : Nat) : Bool := decide (c = 9) || (decide (c = 10) || (decide (c = 13) || decide (c = 32)))
def isSg (c : Nat) : Bool := decide (c = 59) || (decide (c = 61) || (decide (c = 40) || (decide (c = 41) || (decide (c = 43) || (decide (c = 45) || (decide (c = 42) || (decide (c = 47) || decide (c = 60))))))))
/-- a token: its sort in the class's numbers, its place, its letters, its number -/
abbrev zTk := Nat × Nat × List Nat × Nat
def nxS (T : Nat → Nat) (n p : Nat) : Nat := if isBl (T p) = true then p + 1 else if isLt (T p) = true then p + rl isLt T n p else if isDg (T p) = true then p + rl isDg T n p else p + 1
def nxT (T : Nat → Nat) (n p : Nat) : Option zTk := if isBl (T p) = true then none else if isLt (T p) = true then some (if rl isLt T n p ≤ 8 then (ksC (wIx (lets T p (min (rl isLt T n p) 8)) 20)) else 1, p, lets T p (min (rl isLt T n p) 8), 0) else if isDg (T p) = true then some (if rl isDg T n p ≤ 4 then 3 else 1, p, [], nv T p (min (rl isDg T n p) 4)) else some (if isSg (T p) = true then T p else 1, p, [], 0)
theorem nxS_gt {T : Nat → Nat} {n p : Nat} (h : p < n) : p < nxS T n p ∧ nxS T n p ≤ n := by
  have h1 := (rl_run (P := isLt) (T := T) (n := n) (p := p) (by omega)).1
  have h2 := (rl_run (P := isDg) (T := T) (n := n) (p := p) (by omega)).1
  unfold nxS
  split
  · omega
  · split
    · rename_i hl
      have := rl_pos (P := isLt) h hl
      omega
    · split
      · rename_i hl
        have := rl_pos (P := isDg) h hl
        omega
      · omega
def toks (T : Nat → Nat) (n : Nat) : Nat → Nat → List zTk
  | 0, _ => []
  | k + 1, p => if n ≤ p then [] else match nxT T n p with
    | none => toks T n k (nxS T n p)
    | some x => x :: toks T n k (nxS T n p)
theorem toks_fuel {T : Nat → Nat} {n : Nat} : ∀ k k' p, n - p ≤ k → n - p ≤ k' → toks T n k p = toks T n k' p
  | 0, 0, p, _, _ => rfl
  | 0, k' + 1, p, h, _ => by
    unfold toks
    rw [if_pos (by omega)]
  | k + 1, 0, p, _, h => by
    unfold toks
    rw [if_pos (by omega)]
  | k + 1, k' + 1, p, h, h' => by
    unfold toks
    by_cases hp : n ≤ p
    · rw [if_pos hp, if_pos hp]
    · have hg := nxS_gt (T := T) (n := n) (p := p) (by omega)
      rw [if_neg hp, if_neg hp, toks_fuel k k' (nxS T n p) (by omega) (by omega)]
/-- all tokens from a place on -/
def tokA (T : Nat → Nat) (n p : Nat) : List zTk := toks T n (n - p) p
theorem tokA_end {T : Nat → Nat} {n p : Nat} (h : n ≤ p) : tokA T n p = [] := by
  unfold tokA
  rw [show n - p = 0 by omega]; rfl
theorem tokA_go {T : Nat → Nat} {n p : Nat} (h : p < n) : tokA T n p = match nxT T n p with | none => tokA T n (nxS T n p) | some x => x :: tokA T n (nxS T n p) := by
  have hg := nxS_gt (T := T) h
  unfold tokA
  rw [toks_fuel (n - p) ((n - p - 1) + 1) p (by omega) (by omega)]
  conv => lhs; unfold toks
  rw [if_neg (by omega), toks_fuel (n - p - 1) (n - nxS T n p) (nxS T n p) (by omega) (by omega)]
def cwt (x : zTk) : Int64 := Int64.ofNat (iv_wn 32 x.2.2.1 + x.2.2.2)
def adC (M : zm_Mem) (k : Nat) (x : zTk) : zm_Mem := zm_sI (zm_sL (zm_sI (zm_sI M 4 k (nI x.1)) 5 k (nI x.2.1)) 6 k (cwt x)) 3 4 (nI (k + 1))
theorem c_tadd {M : zm_Mem} {k : Nat} {x : zTk} (h : M.1 3 4 = nI k) (hk : k ≤ 401) : f_X7_add (nI x.1) (nI x.2.1) (cwt x) M = some ((), adC M k x) := by
  unfold f_X7_add adC
  have e1 : ∀ v, (zm_sI M 4 k v).1 3 4 = nI k := fun v => by rw [mI1, if_neg (by omega)]; exact h
  have e2 : ∀ v v', (zm_sI (zm_sI M 4 k v) 5 k v').1 3 4 = nI k := fun v v' => by rw [mI1, if_neg (by omega)]; exact e1 v
  have e3 : ∀ v v' v'', (zm_sL (zm_sI (zm_sI M 4 k v) 5 k v') 6 k v'').1 3 4 = nI k := fun v v' v'' => e2 v v'
  have hin : zm_in (nI k) 402 = true := zm_in_nI (by omega) (by omega)
  simp only [zv_eq]
  rw [h, if_neg (show ¬ (401 : Int32) < nI k from nI_nlt (a := 401) hk (by omega)), hin, zk_true, nI_clamp (by omega), e1, hin, zk_true, nI_clamp (by omega), e2, hin, zk_true, nI_clamp (by omega), e3, nI_k1]
def TkC (M : zm_Mem) (l : List zTk) : Prop := M.1 3 4 = nI l.length ∧ ∀ i x, l[i]? = some x → M.1 4 i = nI x.1 ∧ M.1 5 i = nI x.2.1 ∧ M.2.1 6 i = cwt x
def wTk (x j : Nat) : Bool := decide (x = 4) || (decide (x = 5) || (decide (x = 6) || (decide (x = 3) && decide (j = 4))))
theorem fg_adC {M : zm_Mem} {k : Nat} {x : zTk} : Fg wTk M (adC M k x) := fg_tr (fg_sI rfl) (fg_tr (fg_sI rfl) (fg_tr (fg_sL rfl) (fg_sI rfl)))
theorem tkC_add {M : zm_Mem} {l : List zTk} {x : zTk} (h : TkC M l) : TkC (adC M l.length x) (l ++ [x]) := by
  obtain ⟨h1, h2⟩ := h
  have a4 : ∀ i, (adC M l.length x).1 4 i = if i = l.length then nI x.1 else M.1 4 i := fun i => by
    show (zm_sI (zm_sL (zm_sI (zm_sI M 4 l.length (nI x.1)) 5 l.length (nI x.2.1)) 6 l.length (cwt x)) 3 4 (nI (l.length + 1))).1 4 i = _
    rw [mI1, if_neg (by omega), mL1, mI1, if_neg (by omega), mI1]
    by_cases hi : i = l.length
    · rw [if_pos ⟨rfl, hi⟩, if_pos hi]
    · rw [if_neg (fun z => hi z.2), if_neg hi]
  have a5 : ∀ i, (adC M l.length x).1 5 i = if i = l.length then nI x.2.1 else M.1 5 i := fun i => by
    show (zm_sI (zm_sL (zm_sI (zm_sI M 4 l.length (nI x.1)) 5 l.length (nI x.2.1)) 6 l.length (cwt x)) 3 4 (nI (l.length + 1))).1 5 i = _
    rw [mI1, if_neg (by omega), mL1, mI1]
    by_cases hi : i = l.length
    · rw [if_pos ⟨rfl, hi⟩, if_pos hi]
    · rw [if_neg (fun z => hi z.2), if_neg hi, mI1, if_neg (by omega)]
  have a6 : ∀ i, (adC M l.length x).2.1 6 i = if i = l.length then cwt x else M.2.1 6 i := fun i => by
    show (if 6 = 6 ∧ i = l.length then cwt x else M.2.1 6 i) = _
    by_cases hi : i = l.length
    · rw [if_pos ⟨rfl, hi⟩, if_pos hi]
    · rw [if_neg (fun z => hi z.2), if_neg hi]
  refine ⟨?_, fun i y hy => ?_⟩
  · rw [List.length_append]
    show (zm_sI _ 3 4 (nI (l.length + 1))).1 3 4 = _
    rw [mI1, if_pos ⟨rfl, rfl⟩]; rfl
  · rw [a4, a5, a6]
    rcases Nat.lt_or_ge i l.length with hi | hi
    · rw [List.getElem?_append_left hi] at hy
      rw [if_neg (by omega), if_neg (by omega), if_neg (by omega)]
      exact h2 i y hy
    · rw [List.getElem?_append_right hi] at hy
      have hi0 : i = l.length := by
        refine Classical.byContradiction (fun z => ?_)
        rw [List.getElem?_eq_none (by simp; omega)] at hy; cases hy
      subst hi0
      rw [Nat.sub_self] at hy
      have hxy : x = y := Option.some.inj hy
      subst hxy
      rw [if_pos rfl, if_pos rfl, if_pos rfl]
      exact ⟨rfl, rfl, rfl⟩
theorem sg_all : ∀ c, c < 256 → anyB (fun j => decide (zm_sch 1 j = (((nI c).toUInt32 % 65536).toInt32).toInt8.toInt32)) 9 = isSg c ∧ ((nI c).toUInt32 % 65536).toInt32 = nI c := by decide +kernel
theorem c_sign {c : Nat} (hc : c < 256) (M : zm_Mem) : ∃ r, f_J0_indexOf_0f7a4_s1 (((nI c).toUInt32 % 65536).toInt32) M = some r ∧ (r < 0 ↔ isSg c = false) := by
  have hs := (sg_all c hc).1
  have e0 := (sg_all c hc).2
  generalize hx : (((nI c).toUInt32 % 65536).toInt32).toInt8.toInt32 = x at hs
  have e1 : f_J0_isLatin1_aae02_s1 M = some 1 := by
    unfold f_J0_isLatin1_aae02_s1
    rw [if_neg (by decide), if_pos rfl]
  have e2 : f_J0_length_8abf5_s1 M = some 9 := by
    unfold f_J0_length_8abf5_s1 f_J0_coder_7d493_s1
    rw [if_neg (by decide), zm_ck_t (by decide), zb1_some]; rfl
  have e3 : f_J1_canEncode_9a6ad (((nI c).toUInt32 % 65536).toInt32) M = some 1 := by
    unfold f_J1_canEncode_9a6ad
    rw [e0, if_neg (show ¬ nI c < (0 : Int32) from nI_pos (by omega)), if_neg (show ¬ (255 : Int32) < nI c from nI_nlt (a := 255) (by omega) (by omega))]
  have key : ∃ e, zm_lp (f_J1_indexOfChar_4cfef_s1_l7 9 x) (nI 0) = some e ∧ ∃ r, (Sum.elim (fun e22 => some e22) (fun _ => some (-1 : Int32))) e = some r ∧ (r < 0 ↔ isSg c = false) := by
    refine lp_inv (fun j z => z = nI j ∧ anyB (fun j => decide (zm_sch 1 j = x)) j = false) _ 9 ?_ ?_ ⟨rfl, rfl⟩
    · rintro j z hj ⟨rfl, h2⟩
      have st : f_J1_indexOfChar_4cfef_s1_l7 9 x (nI j) = if zm_sch 1 j = x then some (.inr (.inl (nI j))) else some (.inl (nI (j + 1))) := by
        unfold f_J1_indexOfChar_4cfef_s1_l7
        rw [if_neg (show ¬ (9 : Int32) ≤ nI j from nI_ge (b := 9) hj (by omega)), zm_ck_t (zm_in_nI hj (by omega)), nI_clamp (by omega), nI_k1]
        simp only [zv_eq]
      by_cases he : zm_sch 1 j = x
      · refine Or.inr ⟨_, by rw [st, if_pos he], nI j, rfl, ?_⟩
        rw [← hs, anyB_iff.2 ⟨j, hj, decide_eq_true he⟩]
        exact ⟨fun z => absurd z (nI_pos (by omega)), fun z => by cases z⟩
      · exact Or.inl ⟨_, by rw [st, if_neg he], rfl, by rw [anyB_S, h2, decide_eq_false he]; rfl⟩
    · rintro z ⟨rfl, h2⟩
      refine ⟨.inr (), ?_, -1, rfl, ?_⟩
      · unfold f_J1_indexOfChar_4cfef_s1_l7
        rw [if_pos (by decide)]
      · rw [← hs, h2]
        exact ⟨fun _ => rfl, fun _ => by decide⟩
  obtain ⟨e, k1, r, k2, k3⟩ := key
  refine ⟨r, ?_, k3⟩
  unfold f_J0_indexOf_0f7a4_s1 f_J0_indexOf_7cf53_s1 f_J1_indexOf_4cfef_s1 f_J1_indexOfChar_4cfef_s1
  have k1' : zm_lp (f_J1_indexOfChar_4cfef_s1_l7 9 x) 0 = some e := k1
  rw [e1, zb1_some, if_neg (by decide), e2, zb1_some, e3, zb1_some, if_neg (by decide)]
  simp only [zv_eq]
  rw [show zm_max 0 0 = 0 from by decide, show zm_min 9 9 = 9 from by decide, if_pos (by decide), hx, k1']
  simp only [Option.bind_some]
  rw [k2]; rfl
