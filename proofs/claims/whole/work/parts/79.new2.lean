def wCl (t x _j : Nat) : Bool := decide (x = t) || decide (x = t + 10)
theorem fr_put {M : zm_Mem} {t k : Nat} {a b : Int32} : Fr (wCl t) M (putM M t k a b) := fr_tr (fr_sI (by unfold wCl; rw [decide_eq_true rfl, Bool.or_true])) (fr_sI (by unfold wCl; rw [decide_eq_true rfl, Bool.true_or]))
theorem fr_cl (M : zm_Mem) (t : Nat) : Fr (wCl t) M (clM M t) := by
  have s : ∀ (K : zm_Mem) i v, Fr (wCl t) K (zm_sI K t i v) := fun K i v => fr_sI (by unfold wCl; rw [decide_eq_true rfl, Bool.true_or])
  unfold clM
  exact fr_tr (s _ _ _) (fr_tr (s _ _ _) (fr_tr (s _ _ _) (fr_tr (s _ _ _) (fr_tr (s _ _ _) (fr_tr (s _ _ _) (fr_tr (s _ _ _) (fr_tr (s _ _ _) (fr_tr fr_put (fr_tr fr_put (fr_tr (s _ _ _) (fr_tr fr_put fr_put)))))))))))
def mA : zm_Mem := zm_sP (clM (tkM 107) 25) 1 9 25
def mB : zm_Mem := zm_sI (zm_sP (clM mA 36) 1 10 36) 1 16 (-1)
def mN : zm_Mem := zm_sP mB 47 2 25
theorem zT {k : Nat} (h : k ≠ 7) : zm_zero (tkM 107) k = tkM 107 := zz (fun _ => rfl) (fun _ => if_neg h) (fun _ => rfl)
theorem mA_1 {x j : Nat} (h : wCl 25 x j = false) : mA.1 x j = 0 := (fr_cl (tkM 107) 25).2 x j h
theorem mA_2 : mA.2.1 = (tkM 107).2.1 := rfl
theorem mA_3 {x j : Nat} : mA.2.2 x j = if x = 1 ∧ j = 9 then 25 else 0 := rfl
theorem wCl_f {t x j : Nat} (h1 : x ≠ t) (h2 : x ≠ t + 10) : wCl t x j = false := by
  unfold wCl; rw [decide_eq_false h1, decide_eq_false h2]; rfl
theorem zA {k : Nat} (h : 36 ≤ k) : zm_zero mA k = mA := zz (fun _ => mA_1 (wCl_f (by omega) (by omega))) (fun _ => if_neg (by omega)) (fun _ => if_neg (by omega))
theorem mB_1 {x j : Nat} (h : wCl 25 x j = false) (h' : wCl 36 x j = false) : mB.1 x j = if x = 1 ∧ j = 16 then -1 else 0 := by
  show (if x = 1 ∧ j = 16 then -1 else (clM mA 36).1 x j) = _
  rw [(fr_cl mA 36).2 x j h', mA_1 h]
theorem mB_3 {x j : Nat} : mB.2.2 x j = if x = 1 ∧ j = 10 then 36 else if x = 1 ∧ j = 9 then 25 else 0 := rfl
theorem zB' {k : Nat} (h : 47 ≤ k) : zm_zero mB k = mB := zz (fun _ => by rw [mB_1 (wCl_f (by omega) (by omega)) (wCl_f (by omega) (by omega)), if_neg (by omega)]) (fun _ => if_neg (by omega)) (fun _ => by rw [mB_3, if_neg (by omega), if_neg (by omega)])
theorem mN_1 {x j : Nat} : mN.1 x j = mB.1 x j := rfl
theorem mN_3 {x j : Nat} : mN.2.2 x j = if x = 47 ∧ j = 2 then 25 else mB.2.2 x j := rfl
theorem zN' {k : Nat} (h : 48 ≤ k) : zm_zero mN k = mN := zz (fun _ => by rw [mN_1, mB_1 (wCl_f (by omega) (by omega)) (wCl_f (by omega) (by omega)), if_neg (by omega)]) (fun _ => if_neg (by omega)) (fun _ => by rw [mN_3, mB_3, if_neg (by omega), if_neg (by omega), if_neg (by omega)])
theorem nw_class : f_X10_init_1 (zm_zero zm_M0 1) = some ((), mN) := by
  have z0 : ∀ k, zm_zero zm_M0 k = zm_M0 := fun k => zz (fun _ => rfl) (fun _ => rfl) (fun _ => rfl)
  unfold f_X10_init_1 f_X2_init_8 f_X4_init_11 f_X1_init_13 f_X0_init_16 f_X8_init_25 f_X8_init_36 f_X3_init_47 f_X5_init_48
  simp only [zv_eq]
  rw [z0, z0, z0, nw_tok, zb2_some]
  simp (disch := decide) only [zT, zb2_some, c_clear]
  rw [show zm_sP (clM (tkM 107) 25) 1 9 25 = mA from rfl]
  simp (disch := decide) only [zA, zb2_some, c_clear]
  rw [show zm_sI (zm_sP (clM mA 36) 1 10 36) 1 16 (-1) = mB from rfl]
  simp (disch := decide) only [zB']
  rw [show mB.2.2 1 9 = 25 from rfl, zm_ck_t (by decide)]
  rfl
/-! the reference's -/
def apN (x : Int64) (a : Int32) : Int64 := if a = 0 then x else (27 * x) + ((a - 97) + 1).toInt64
theorem nw_app (x : Int64) (a : Int32) (M : zm_Mem) : f_X11_appends x a M = some (apN x a) := by
  unfold f_X11_appends apN
  split <;> rfl
theorem nw_word (a b c d e f g : Int32) (M : zm_Mem) : f_X11_word a b c d e f g M = some (apN (apN (apN (apN (apN (apN (apN 0 a) b) c) d) e) f) g) := by
  unfold f_X11_word
  simp only [nw_app, zb1_some]
def wPl (v x j : Nat) : Bool := ((decide (x = 63) || (decide (x = 66) || (decide (x = 71) || (decide (x = 76) || (decide (x = 77) || decide (x = 78)))))) && decide (j = v)) || ((decide (x = 79) || decide (x = 80)) && decide (j / 2 = v))
theorem r_plain {M : zm_Mem} {v : Nat} (hv : v ≤ 1) : ∃ M', f_X11_plain (nI v) M = some ((), M') ∧ Fr (wPl v) M M' ∧ M'.1 63 v = 0 ∧ M'.1 66 v = 0 ∧ M'.1 71 v = 0 ∧ M'.1 76 v = 0 ∧ M'.1 77 v = 1 ∧ M'.1 78 v = 0 ∧ ∀ i, i < 2 → M'.1 79 (2 * v + i) = 0 ∧ M'.1 80 (2 * v + i) = 0 := by
  generalize hK : zm_sI (zm_sI (zm_sI (zm_sI (zm_sI (zm_sI M 63 v 0) 66 v 0) 71 v 0) 76 v 0) 77 v 1) 78 v 0 = K
  have w1 : ∀ x, (x = 63 ∨ x = 66 ∨ x = 71 ∨ x = 76 ∨ x = 77 ∨ x = 78) → wPl v x v = true := by
    intro x h
    unfold wPl
    rw [decide_eq_true (show v = v from rfl)]
    rcases h with rfl | rfl | rfl | rfl | rfl | rfl <;> rfl
  have w2 : ∀ x i, (x = 79 ∨ x = 80) → i < 2 → wPl v x (2 * v + i) = true := by
    intro x i h hi
    unfold wPl
    rw [decide_eq_true (show (2 * v + i) / 2 = v by omega)]
    rcases h with rfl | rfl <;> simp
  have fK : Fr (wPl v) M K := by
    rw [← hK]
    exact fr_tr (fr_sI (w1 _ (by omega))) (fr_tr (fr_sI (w1 _ (by omega))) (fr_tr (fr_sI (w1 _ (by omega))) (fr_tr (fr_sI (w1 _ (by omega))) (fr_tr (fr_sI (w1 _ (by omega))) (fr_sI (w1 _ (by omega)))))))
  have key : ∃ N, zm_lp (fun s => f_X11_plain_l44 (nI v) s.1 s.2) (0, K) = some N ∧ ((∀ x j, ¬ ((x = 79 ∨ x = 80) ∧ j / 2 = v) → N.1 x j = K.1 x j) ∧ Fr (wPl v) K N ∧ ∀ i, i < 2 → N.1 79 (2 * v + i) = 0 ∧ N.1 80 (2 * v + i) = 0) := by
    refine lp_inv (step := fun s => f_X11_plain_l44 (nI v) s.1 s.2) (fun i z => z.1 = nI i ∧ (∀ x j, ¬ ((x = 79 ∨ x = 80) ∧ j / 2 = v) → z.2.1 x j = K.1 x j) ∧ Fr (wPl v) K z.2 ∧ ∀ k, k < i → z.2.1 79 (2 * v + k) = 0 ∧ z.2.1 80 (2 * v + k) = 0) _ 2 ?_ ?_ ⟨rfl, fun _ _ _ => rfl, fr_rfl _ K, fun k hk => by omega⟩
    · rintro i ⟨z, L⟩ hi ⟨p1, p2, p3, p4⟩
      simp only at p1 p2 p3 p4
      subst p1
      refine Or.inl ⟨(nI (i + 1), zm_sI (zm_sI L 79 (2 * v + i) 0) 80 (2 * v + i) 0), ?_, rfl, fun x j h => ?_, fr_tr p3 (fr_tr (fr_sI (w2 _ _ (Or.inl rfl) hi)) (fr_sI (w2 _ _ (Or.inr rfl) hi))), fun k hk => ?_⟩
      · show f_X11_plain_l44 (nI v) (nI i) L = _
        unfold f_X11_plain_l44
        simp only [zv_eq]
        rw [if_neg (show ¬ (2 : Int32) ≤ nI i from nI_ge (b := 2) hi (by omega)), show (2 : Int32) * nI v = nI (2 * v) from pk_mul 2 v, nI_add, zm_ck_t (zm_in_nI (by omega) (by omega)), zm_ck_t (zm_in_nI (by omega) (by omega)), nI_clamp (by omega), nI_k1]
      · show (zm_sI (zm_sI L 79 (2 * v + i) 0) 80 (2 * v + i) 0).1 x j = _
        rw [mI1, if_neg (by omega), mI1, if_neg (by omega)]; exact p2 x j h
      · show (zm_sI (zm_sI L 79 (2 * v + i) 0) 80 (2 * v + i) 0).1 79 (2 * v + k) = 0 ∧ (zm_sI (zm_sI L 79 (2 * v + i) 0) 80 (2 * v + i) 0).1 80 (2 * v + k) = 0
        rw [mI1, mI1, mI1, mI1, if_neg (by omega), if_neg (show ¬ (80 = 79 ∧ 2 * v + k = 2 * v + i) by omega)]
        by_cases h : k = i
        · subst h; rw [if_pos ⟨rfl, rfl⟩, if_pos ⟨rfl, rfl⟩]; exact ⟨rfl, rfl⟩
        · rw [if_neg (by omega), if_neg (by omega)]; exact p4 k (by omega)
    · rintro ⟨z, L⟩ ⟨p1, p2, p3, p4⟩
      simp only at p1 p2 p3 p4
      subst p1
      refine ⟨L, ?_, p2, p3, p4⟩
      show f_X11_plain_l44 (nI v) (nI 2) L = _
      unfold f_X11_plain_l44
      rw [if_pos (by decide)]
  obtain ⟨N, k1, k2, k3, k4⟩ := key
  refine ⟨N, ?_, fr_tr fK k3, ?_, ?_, ?_, ?_, ?_, ?_, k4⟩
  · unfold f_X11_plain
    have hv2 : zm_in (nI v) 2 = true := zm_in_nI (by omega) (by omega)
    simp only [zv_eq, hv2, zk_true, nI_clamp (show v < 2 ^ 31 by omega)]
    rw [hK, k1]; rfl
  all_goals
    rw [k2 _ _ (by omega), ← hK]
    simp only [mI1]
    rfl
def wBg (x j : Nat) : Bool := decide (x = 92) || (decide (x = 52) && decide (j = 58))
theorem r_begins {M : zm_Mem} {v w : Nat} (hv : v ≤ 1) (hw6 : w ≤ 6) (hl : M.1 52 18 = nI v) (hw : M.1 66 v = nI w) : ∃ M', f_X11_begins M = some ((), M') ∧ Fr wBg M M' ∧ ∀ j, j < 60 → M'.1 92 j = if j < 6 then (if j < w then M.1 68 (6 * v + j) else -2) else if j < 18 then -2 else 0 := by
  have k0 : zm_lp (fun s => f_X11_begins_l2 s.1 s.2) (0, M) = some (cpM M 92 0 60 (fun _ => 0)) := by
    refine lp_cpy M 92 0 60 (fun _ => 0) (fun i hi => ?_) ?_
    · unfold f_X11_begins_l2
      rw [if_neg (show ¬ (60 : Int32) ≤ nI i from nI_ge (b := 60) hi (by omega)), zm_ck_t (zm_in_nI hi (by omega)), nI_clamp (by omega), nI_k1, Nat.zero_add]
      simp only [zv_eq]
    · unfold f_X11_begins_l2
      rw [if_pos (by decide)]
  generalize hZ : cpM M 92 0 60 (fun _ => 0) = Z at k0
  have fZ : Fr wBg M Z := by rw [← hZ]; exact fr_cpM (fun _ => rfl)
  have z92 : ∀ j, j < 60 → Z.1 92 j = 0 := fun j hj => by rw [← hZ]; exact mC_in hj
  have key : ∃ N, zm_lp (fun s => f_X11_begins_l23 s.1 s.2) (0, Z) = some N ∧ (Fr wBg M N ∧ ∀ j, j < 60 → N.1 92 j = if j < 6 then (if j < w then M.1 68 (6 * v + j) else -2) else if j < 18 then -2 else 0) := by
    refine lp_inv (step := fun s => f_X11_begins_l23 s.1 s.2) (fun i z => z.1 = nI i ∧ Fr wBg M z.2 ∧ ∀ j, j < 60 → z.2.1 92 j = if j < 6 then (if j < i then (if j < w then M.1 68 (6 * v + j) else -2) else 0) else if j < 12 then (if j < 6 + i then -2 else 0) else if j < 12 + i then -2 else 0) _ 6 ?_ ?_ ⟨rfl, fZ, fun j hj => by
      rw [z92 j hj]
      (repeat' split) <;> first | rfl | omega⟩
    · rintro i ⟨z, L⟩ hi ⟨p1, p2, p3⟩
      simp only at p1 p2 p3
      subst p1
      have l18 : L.1 52 18 = nI v := (p2.2 52 18 rfl).trans hl
      have l66 : L.1 66 v = nI w := (p2.2 66 v rfl).trans hw
      have fin : ∀ x : Int32, x = (if i < w then M.1 68 (6 * v + i) else -2) → f_X11_begins_b66_23 (nI i) L (nI i) x = some (.inl (nI (i + 1), zm_sI (zm_sI (zm_sI L 92 i x) 92 (6 + i) (-2)) 92 (12 + i) (-2))) := by
        intro x _
        unfold f_X11_begins_b66_23
        simp only [zv_eq]
        rw [zm_ck_t (zm_in_nI (L := 60) (by omega) (by omega)), show (6 : Int32) + nI i = nI (6 + i) from nI_add 6 i, show (12 : Int32) + nI i = nI (12 + i) from nI_add 12 i, zm_ck_t (zm_in_nI (L := 60) (by omega) (by omega)), zm_ck_t (zm_in_nI (L := 60) (by omega) (by omega)), nI_clamp (show i < 2 ^ 31 by omega), nI_clamp (show 6 + i < 2 ^ 31 by omega), nI_clamp (show 12 + i < 2 ^ 31 by omega), nI_k1]
      have start : f_X11_begins_l23 (nI i) L = f_X11_begins_b66_23 (nI i) L (nI i) (if i < w then M.1 68 (6 * v + i) else -2) := by
        unfold f_X11_begins_l23
        rw [if_neg (show ¬ (6 : Int32) ≤ nI i from nI_ge (b := 6) hi (by omega)), l18, zm_ck_t (zm_in_nI (by omega) (by omega)), nI_clamp (by omega), l66]
        by_cases h : i < w
        · rw [if_neg (nI_ge h (by omega)), show (6 : Int32) * nI v = nI (6 * v) from pk_mul 6 v, nI_add, zm_ck_t (zm_in_nI (by omega) (by omega)), nI_clamp (by omega), p2.2 68 _ rfl, if_pos h]
        · rw [if_pos (nI_le (by omega) (by omega)), if_neg h]
      refine Or.inl ⟨(nI (i + 1), zm_sI (zm_sI (zm_sI L 92 i (if i < w then M.1 68 (6 * v + i) else -2)) 92 (6 + i) (-2)) 92 (12 + i) (-2)), ?_, rfl, fr_tr p2 (fr_tr (fr_sI rfl) (fr_tr (fr_sI rfl) (fr_sI rfl))), fun j hj => ?_⟩
      · show f_X11_begins_l23 (nI i) L = _
        rw [start, fin _ rfl]
      · show (zm_sI (zm_sI (zm_sI L 92 i (if i < w then M.1 68 (6 * v + i) else -2)) 92 (6 + i) (-2)) 92 (12 + i) (-2)).1 92 j = _
        rw [mI1, mI1, mI1, p3 j hj]
        by_cases h1 : j = 12 + i
        · rw [if_pos ⟨rfl, h1⟩, if_neg (by omega), if_neg (by omega), if_pos (by omega)]
        · rw [if_neg (fun z => h1 z.2)]
          by_cases h2 : j = 6 + i
          · rw [if_pos ⟨rfl, h2⟩, if_neg (by omega), if_pos (by omega), if_pos (by omega)]
          · rw [if_neg (fun z => h2 z.2)]
            by_cases h3 : j = i
            · subst h3
              rw [if_pos ⟨rfl, rfl⟩, if_pos hi, if_pos (c := j < j + 1) (by omega)]
            · rw [if_neg (fun z => h3 z.2)]
              (repeat' split) <;> first | rfl | omega
    · rintro ⟨z, L⟩ ⟨p1, p2, p3⟩
      simp only at p1 p2 p3
      subst p1
      refine ⟨L, ?_, p2, fun j hj => ?_⟩
      · show f_X11_begins_l23 (nI 6) L = _
        unfold f_X11_begins_l23
        rw [if_pos (by decide)]
      · rw [p3 j hj]
        (repeat' split) <;> first | rfl | omega
  obtain ⟨N, k1, k2, k3⟩ := key
  have l18 : N.1 52 18 = nI v := (k2.2 52 18 rfl).trans hl
  refine ⟨zm_sI N 52 58 (N.1 78 v), ?_, fr_tr k2 (fr_sI rfl), fun j hj => ?_⟩
  · unfold f_X11_begins
    rw [k0]
    simp only [Option.bind_some]
    unfold f_X11_begins_x21_2
    rw [k1]
    simp only [Option.bind_some]
    unfold f_X11_begins_x95_23
    rw [l18, zm_ck_t (zm_in_nI (by omega) (by omega)), nI_clamp (by omega)]
    simp only [zv_eq]
  · rw [mI1, if_neg (by omega)]; exact k3 j hj
