/-! the smallest set of terms that can't be kept -/
theorem sub_all : ∀ t, t < 64 → ∀ s, s < 64 → decide (nI t &&& (nI s ^^^ -nI 1) = nI 0) = decide (t &&& s = t) := by decide +kernel
theorem sub_le : ∀ t, t < 64 → ∀ s, s < 64 → t &&& s = t → t ≤ s := by decide +kernel
def qBt (q s t : Nat) : Bool := decide (q < t ∧ s ≤ t)
/-- one is better than another: fewer, or as few and less -/
def bet (m t : Nat) : Prop := pop6 m < pop6 t ∨ (pop6 m = pop6 t ∧ m ≤ t)
def cqF (Q : Nat → Bool) (st : Nat) : Nat → Nat
  | 0 => st
  | i + 1 => if (63 - i) &&& st = 63 - i ∧ pop6 (63 - i) ≤ pop6 (cqF Q st i) ∧ Q (63 - i) = true then 63 - i else cqF Q st i
theorem cqF_spec {Q : Nat → Bool} {st : Nat} (hs : st < 64) (hQ : Q st = true) : ∀ i, i ≤ 64 → cqF Q st i < 64 ∧ cqF Q st i &&& st = cqF Q st i ∧ Q (cqF Q st i) = true ∧ ∀ t, t < 64 → 63 < t + i → t &&& st = t → Q t = true → bet (cqF Q st i) t
  | 0, _ => ⟨hs, Nat.and_self st, hQ, fun t h1 h2 => by omega⟩
  | i + 1, hi => by
    obtain ⟨h1, h2, h3, h4⟩ := cqF_spec hs hQ i (by omega)
    unfold cqF
    by_cases hc : (63 - i) &&& st = 63 - i ∧ pop6 (63 - i) ≤ pop6 (cqF Q st i) ∧ Q (63 - i) = true
    · rw [if_pos hc]
      refine ⟨by omega, hc.1, hc.2.2, fun t k1 k2 k3 k4 => ?_⟩
      by_cases ht : t = 63 - i
      · exact Or.inr ⟨by rw [ht], by omega⟩
      · rcases h4 t k1 (by omega) k3 k4 with h | h
        · exact Or.inl (by omega)
        · rcases Nat.lt_or_ge (pop6 (63 - i)) (pop6 t) with g | g
          · exact Or.inl g
          · exact Or.inr ⟨by omega, by omega⟩
    · rw [if_neg hc]
      refine ⟨h1, h2, h3, fun t k1 k2 k3 k4 => ?_⟩
      by_cases ht : t = 63 - i
      · subst ht
        refine Or.inl ?_
        refine Classical.byContradiction (fun z => hc ⟨k3, by omega, k4⟩)
      · exact h4 t k1 (by omega) k3 k4
def rqF (Q : Nat → Bool) (st : Nat) : Nat → Option Nat
  | 0 => none
  | i + 1 => if i &&& st = i then (match rqF Q st i with
    | none => if Q i = true then some i else none
    | some b => if pop6 b ≤ pop6 i then some b else if Q i = true then some i else some b) else rqF Q st i
theorem rqF_spec {Q : Nat → Bool} {st : Nat} : ∀ N, (rqF Q st N = none → ∀ t, t < N → t &&& st = t → Q t = false) ∧ ∀ m, rqF Q st N = some m → m < N ∧ m &&& st = m ∧ Q m = true ∧ ∀ t, t < N → t &&& st = t → Q t = true → bet m t
  | 0 => ⟨fun _ t h => by omega, fun m h => by cases h⟩
  | N + 1 => by
    obtain ⟨h1, h2⟩ := rqF_spec (Q := Q) (st := st) N
    unfold rqF
    by_cases hs : N &&& st = N
    · rw [if_pos hs]
      cases hb : rqF Q st N with
      | none =>
        simp only
        cases hq : Q N with
        | true =>
          rw [if_pos rfl]
          refine ⟨(fun h => by cases h), fun m h => ?_⟩
          have h' := Option.some.inj h
          subst h'
          refine ⟨by omega, hs, hq, fun t k1 k2 k3 => ?_⟩
          by_cases ht : t = N
          · exact Or.inr ⟨by rw [ht], by omega⟩
          · rw [h1 hb t (by omega) k2] at k3; cases k3
        | false =>
          rw [if_neg (by decide)]
          refine ⟨fun _ t k1 k2 => ?_, (fun m h => by cases h)⟩
          by_cases ht : t = N
          · subst ht; exact hq
          · exact h1 hb t (by omega) k2
      | some b =>
        simp only
        obtain ⟨g1, g2, g3, g4⟩ := h2 b hb
        by_cases hp : pop6 b ≤ pop6 N
        · rw [if_pos hp]
          refine ⟨(fun h => by cases h), fun m h => ?_⟩
          have h' := Option.some.inj h
          subst h'
          refine ⟨by omega, g2, g3, fun t k1 k2 k3 => ?_⟩
          by_cases ht : t = N
          · subst ht
            rcases Nat.lt_or_ge (pop6 b) (pop6 t) with g | g
            · exact Or.inl g
            · exact Or.inr ⟨by omega, by omega⟩
          · exact g4 t (by omega) k2 k3
        · rw [if_neg hp]
          cases hq : Q N with
          | true =>
            rw [if_pos rfl]
            refine ⟨(fun h => by cases h), fun m h => ?_⟩
            have h' := Option.some.inj h
            subst h'
            refine ⟨by omega, hs, hq, fun t k1 k2 k3 => ?_⟩
            by_cases ht : t = N
            · exact Or.inr ⟨by rw [ht], by omega⟩
            · rcases g4 t (by omega) k2 k3 with g | g
              · exact Or.inl (by omega)
              · exact Or.inl (by omega)
          | false =>
            rw [if_neg (by decide)]
            refine ⟨(fun h => by cases h), fun m h => ?_⟩
            have h' := Option.some.inj h
            subst h'
            refine ⟨by omega, g2, g3, fun t k1 k2 k3 => ?_⟩
            by_cases ht : t = N
            · subst ht; rw [hq] at k3; cases k3
            · exact g4 t (by omega) k2 k3
    · rw [if_neg hs]
      refine ⟨fun h t k1 k2 => ?_, fun m h => ?_⟩
      · by_cases ht : t = N
        · subst ht; exact absurd k2 hs
        · exact h1 h t (by omega) k2
      · obtain ⟨g1, g2, g3, g4⟩ := h2 m h
        refine ⟨by omega, g2, g3, fun t k1 k2 k3 => ?_⟩
        by_cases ht : t = N
        · subst ht; exact absurd k2 hs
        · exact g4 t (by omega) k2 k3
theorem bet_anti {m k : Nat} (h1 : bet m k) (h2 : bet k m) : m = k := by
  unfold bet at h1 h2; omega
theorem r_bits {x : Nat} (hx : x < 64) (M : zm_Mem) : f_X11_bits (nI x) M = some (nI (pop6 x)) := by
  have key : zm_lp (fun s => f_X11_bits_l4 (nI x) s.1 s.2) (0, 0) = some (nI (sumOf (fun k => x / 2 ^ k % 2) 6)) := by
    refine bind_some_id ?_
    refine lp_sum (st := fun b i => f_X11_bits_l4 (nI x) b i) (fun k => x / 2 ^ k % 2) 6 1 (fun k _ => by omega) (fun i b hi hb => ?_) (fun b hb => ?_)
    · unfold f_X11_bits_l4
      rw [if_neg (show ¬ (6 : Int32) ≤ nI i from nI_ge (b := 6) hi (by omega))]
      simp only [zv_eq]
      rw [nI_k1, show (nI x >>> (nI i &&& 31)) &&& 1 = nI (x / 2 ^ i % 2) by
        rw [show (31 : Int32) = nI 31 from rfl, show (1 : Int32) = nI 1 from rfl, zi_shr (by omega) (by omega), zi_and1], nI_add]
    · unfold f_X11_bits_l4
      rw [if_pos (by decide)]
  unfold f_X11_bits
  rw [key]
  show some (nI (sumOf (fun k => x / 2 ^ k % 2) 6)) = _
  have : sumOf (fun k => x / 2 ^ k % 2) 6 = pop6 x := by
    show 0 + x / 2 ^ 0 % 2 + x / 2 ^ 1 % 2 + x / 2 ^ 2 % 2 + x / 2 ^ 3 % 2 + x / 2 ^ 4 % 2 + x / 2 ^ 5 % 2 = _
    unfold pop6; omega
  rw [this]
/-- a row with room in which none of a set breaks -/
def kpB (D : zD) (li dy T : Nat) : Bool := anyB (fun way => rmP D (D.1 0 1) way && decide (rbF D li dy (dgp 5 way (D.1 0 1)) &&& T = 0)) (5 ^ D.1 0 1)
theorem lp_any {ε : Type} {st : Int32 → Option (Int32 ⊕ (Unit ⊕ Unit))} (p : Nat → Bool) (N : Nat) (h : ∀ i, i < N → st (nI i) = if p i = true then some (.inr (.inl ())) else some (.inl (nI (i + 1)))) (he : st (nI N) = some (.inr (.inr ()))) (x y : ε) : (zm_lp st (nI 0)).bind (Sum.elim (fun _ => some x) (fun _ => some y)) = some (if anyB p N = true then x else y) := by
  have key : ∃ e, zm_lp st (nI 0) = some e ∧ ((e = .inl () ∧ anyB p N = true) ∨ (e = .inr () ∧ anyB p N = false)) := by
    refine lp_inv (fun i z => z = nI i ∧ anyB p i = false) _ N ?_ ?_ ⟨rfl, rfl⟩
    · rintro i z hi ⟨rfl, h2⟩
      cases hpi : p i with
      | true => exact Or.inr ⟨_, by rw [h i hi, hpi, if_pos rfl], Or.inl ⟨rfl, anyB_iff.2 ⟨i, hi, hpi⟩⟩⟩
      | false => exact Or.inl ⟨_, by rw [h i hi, hpi, if_neg (by decide)], rfl, by rw [anyB_S, h2, hpi]; rfl⟩
    · rintro z ⟨rfl, h2⟩
      exact ⟨_, he, Or.inr ⟨rfl, h2⟩⟩
  obtain ⟨e, k1, k2⟩ := key
  rw [k1]
  rcases k2 with ⟨rfl, k2⟩ | ⟨rfl, k2⟩
  · rw [k2]; rfl
  · rw [k2]; rfl
theorem c_canKeep {M : zm_Mem} {D : zD} {S : Nat → Nat} {T : Nat} (bk : D.1 0 2 ≤ 6) (hO : SvO M D S) (hT : T < 64) : f_X6_canKeep (nI T) M = some (if kpB D (S 3) (S 0) T = true then nI 1 else nI 0) := by
  have hb : ∀ x, x < 64 → lb (M.2.1 103 12) x = anyB (fun way => rmP D (D.1 0 1) way && decide (rbF D (S 3) (S 0) (dgp 5 way (D.1 0 1)) = x)) (5 ^ D.1 0 1) := fun x hx => by
    rw [hO.1.1 x hx, ← vN_brk D (S 3) (S 0) (isAt S (S 0)) (fun j => S (4 + j)) x]; rfl
  have key := lp_any (ε := Int32) (st := f_X6_canKeep_l2 (nI T) M) (fun x => lb (M.2.1 103 12) x && decide (x &&& T = 0)) 64 (fun i hi => by
    unfold f_X6_canKeep_l2 f_X6_canKeep_b29_2
    rw [if_neg (show ¬ (64 : Int32) ≤ nI i from nI_ge (b := 64) hi (by omega)), l_bit _ hi, zi_and]
    simp only [zv_eq]
    rw [nI_k1]
    cases hl : lb (M.2.1 103 12) i with
    | true =>
      rw [if_pos (c := true = true) rfl, if_pos (by decide), Bool.true_and]
      by_cases hz : i &&& T = 0
      · rw [hz, if_pos (by rfl), decide_eq_true rfl, if_pos rfl]
      · have hlt : i &&& T < 64 := Nat.lt_of_le_of_lt Nat.and_le_left hi
        rw [if_neg (show ¬ nI (i &&& T) = 0 from nI_ne0 (by omega) (by omega)), decide_eq_false hz, if_neg (by decide)]
    | false => rw [if_neg (c := false = true) (by decide), if_neg (by decide), Bool.false_and, if_neg (by decide)]) (by
    unfold f_X6_canKeep_l2
    rw [if_pos (by decide)]) (nI 1) (nI 0)
  have e : anyB (fun x => lb (M.2.1 103 12) x && decide (x &&& T = 0)) 64 = kpB D (S 3) (S 0) T := by
    unfold kpB
    rw [Bool.eq_iff_iff, anyB_iff, anyB_iff]
    constructor
    · rintro ⟨x, hx, h⟩
      rw [hb x hx, Bool.and_eq_true, decide_eq_true_eq] at h
      obtain ⟨way, hw, h2⟩ := anyB_iff.1 h.1
      rw [Bool.and_eq_true, decide_eq_true_eq] at h2
      exact ⟨way, hw, by rw [h2.1, h2.2, decide_eq_true h.2]; rfl⟩
    · rintro ⟨way, hw, h⟩
      rw [Bool.and_eq_true, decide_eq_true_eq] at h
      have hlt : rbF D (S 3) (S 0) (dgp 5 way (D.1 0 1)) < 64 := bitsOf_le _ bk
      refine ⟨_, hlt, ?_⟩
      rw [hb _ hlt, Bool.and_eq_true, decide_eq_true_eq]
      exact ⟨anyB_iff.2 ⟨way, hw, by rw [h.1, decide_eq_true rfl]; rfl⟩, h.2⟩
  rw [e] at key
  unfold f_X6_canKeep
  exact key
theorem c_smallest {M : zm_Mem} {D : zD} {S : Nat → Nat} (bk : D.1 0 2 ≤ 6) (hO : SvO M D S) : f_X6_smallestQuarrel M = some (nI (cqF (fun T => !kpB D (S 3) (S 0) T) (stn D (S 3)) 64)) := by
  have hst := stn_lt D (S 3) bk
  have hcl : ∀ i, i ≤ 64 → cqF (fun T => !kpB D (S 3) (S 0) T) (stn D (S 3)) i < 64 := by
    intro i
    induction i with
    | zero => intro _; exact hst
    | succ i ih =>
      intro hi
      unfold cqF
      split
      · omega
      · exact ih (by omega)
  have key : zm_lp (fun s => f_X6_smallestQuarrel_l8 M s.1 s.2) (nI (stn D (S 3)), 63) = some (nI (cqF (fun T => !kpB D (S 3) (S 0) T) (stn D (S 3)) 64)) := by
    refine lp_for (step := fun s => f_X6_smallestQuarrel_l8 M s.1 s.2) (fun i => (nI (cqF (fun T => !kpB D (S 3) (S 0) T) (stn D (S 3)) i), if i = 64 then -nI 1 else nI (63 - i))) 64 (fun i hi => ?_) ?_
    · rw [if_neg (show ¬ i = 64 by omega)]
      show f_X6_smallestQuarrel_l8 M (nI (cqF _ _ i)) (nI (63 - i)) = some (.inl (nI (cqF (fun T => !kpB D (S 3) (S 0) T) (stn D (S 3)) (i + 1)), if i + 1 = 64 then -nI 1 else nI (63 - (i + 1))))
      have hci := hcl i (by omega)
      have hpt : pop6 (63 - i) ≤ 6 := by unfold pop6; omega
      have hpc : pop6 (cqF (fun T => !kpB D (S 3) (S 0) T) (stn D (S 3)) i) ≤ 6 := by unfold pop6; omega
      have enx : nI (63 - i) + (-1) = if i + 1 = 64 then -nI 1 else nI (63 - (i + 1)) := by
        by_cases h : i + 1 = 64
        · rw [if_pos h, show 63 - i = 0 by omega]; decide
        · rw [if_neg h, show 63 - i = 63 - (i + 1) + 1 by omega]; exact pk_m1 _
      generalize (if i + 1 = 64 then -nI 1 else nI (63 - (i + 1))) = nx at enx ⊢
      have ec : cqF (fun T => !kpB D (S 3) (S 0) T) (stn D (S 3)) (i + 1) = if (63 - i) &&& stn D (S 3) = 63 - i ∧ pop6 (63 - i) ≤ pop6 (cqF (fun T => !kpB D (S 3) (S 0) T) (stn D (S 3)) i) ∧ (!kpB D (S 3) (S 0) (63 - i)) = true then 63 - i else cqF (fun T => !kpB D (S 3) (S 0) T) (stn D (S 3)) i := rfl
      have hsub := sub_all (63 - i) (by omega) (stn D (S 3)) hst
      rw [ec]
      unfold f_X6_smallestQuarrel_l8 f_X6_smallestQuarrel_b28_8 f_X6_smallestQuarrel_b54_8
      rw [if_neg (nI_pos (by omega)), bc_64 (by omega), zb1_some, bc_64 (by omega), zb1_some, hO.2, c_canKeep bk hO (by omega), zb1_some]
      simp only [zv_eq]
      rw [enx]
      by_cases hs : (63 - i) &&& stn D (S 3) = 63 - i
      · rw [decide_eq_true hs, decide_eq_true_eq] at hsub
        have hsub' : nI (63 - i) &&& (nI (stn D (S 3)) ^^^ (-1)) = 0 := hsub
        rw [if_pos hsub', if_pos hsub']
        by_cases hp : pop6 (63 - i) ≤ pop6 (cqF (fun T => !kpB D (S 3) (S 0) T) (stn D (S 3)) i)
        · rw [if_neg (nI_nlt hp (by omega)), if_neg (by decide)]
          cases hk : kpB D (S 3) (S 0) (63 - i) with
          | true => rw [if_pos (c := true = true) rfl, if_neg (by decide), if_neg (fun z => absurd z.2.2 (by decide))]
          | false => rw [if_neg (c := false = true) (by decide), if_pos (by rfl), if_pos ⟨hs, hp, rfl⟩]
        · rw [if_pos (nI_lt (by omega) (by omega)), if_pos trivial, if_neg (fun z => hp z.2.1)]
      · rw [decide_eq_false hs, decide_eq_false_iff_not] at hsub
        have hsub' : ¬ nI (63 - i) &&& (nI (stn D (S 3)) ^^^ (-1)) = 0 := hsub
        have n1 : ∀ y, ¬ ((63 - i) &&& stn D (S 3) = 63 - i ∧ y) := fun y z => hs z.1
        rw [if_neg hsub', if_neg hsub', if_neg (n1 _)]
        split <;> rfl
    · rw [if_pos rfl]
      show f_X6_smallestQuarrel_l8 M _ (-nI 1) = _
      unfold f_X6_smallestQuarrel_l8
      rw [if_pos (by decide)]
  unfold f_X6_smallestQuarrel
  simp only [zv_eq]
  rw [hO.2, key]; rfl
theorem r_standingS {M : zm_Mem} {t v n dy li : Nat} {D : zD} {S : Nat → Nat} (hC : Cx M t v D S n) (hS : RwS M D dy li) : f_X11_standing M = some (nI (stn D li)) := by
  have ht := hC.2.1
  have hT := hC.2.2.1
  have hR := hC.2.2.2
  have bI := cx_isT hC
  have bv := tT_v hT
  have bh := tT_bh hT
  have bw := tT_bw hT
  have bk := tT_bk hT
  unfold f_X11_standing
  refine lp_bits _ _ (fun i b hi hb => ?_) (fun b hb => ?_)
  · have hle : ¬ (D.1 0 2 ≤ i) := by omega
    have h24 := hS.2 i hi
    simp (disch := omega) only [f_X11_standing_l4, f_X11_standing_b35_4, ↓zv_eq, ↓zb1_some, ↓zb2_some, ↓zk_true, Option.bind_some, Option.bind_none, Option.map_some, Sum.elim_inl, Sum.elim_inr, if_true, if_false, ↓reduceIte, lt_lit, nI_clamp, zi_in, nI_leI, nI_ltI, nI_eq, nI_add, pk_mul, zi_sub, pk_div, zi_rem, zi_sh1, zi_shr, zi_and1, zi_or, zi_en, zi_ne, zi_ln, zi_nl, zi_lne, zi_nle, zi_nn, zq_01, zq_10, zq_011, zq_at, zq_ta, ite_not, Classical.not_not, hle, tT_live hT, tT_rh hT, tT_rw hT, tT_rk hT, tT_rla hT, tT_rco hT, tT_rse hT, tT_rno hT, tT_rwa hT, tT_row hT, tT_rst hT, tT_rki hT, tT_rva hT, tT_rtw hT, h24]
    simp only [decide_eq_true_eq]
    by_cases h : li / 2 ^ i % 2 = 0
    · simp only [h, ↓reduceIte, or_pow hb]
    · simp only [h, ↓reduceIte, Nat.add_zero]
  · simp (disch := omega) only [f_X11_standing_l4, ↓zv_eq, ↓zb1_some, ↓zb2_some, ↓zk_true, Option.bind_some, Option.bind_none, Option.map_some, Sum.elim_inl, Sum.elim_inr, if_true, if_false, ↓reduceIte, lt_lit, nI_clamp, zi_in, nI_leI, nI_ltI, nI_eq, nI_add, pk_mul, zi_sub, pk_div, zi_rem, zi_sh1, zi_shr, zi_and1, zi_or, zi_en, zi_ne, zi_ln, zi_nl, zi_lne, zi_nle, zi_nn, zq_01, zq_10, zq_011, zq_at, zq_ta, ite_not, Classical.not_not, Nat.le_refl, tT_live hT, tT_rh hT, tT_rw hT, tT_rk hT, tT_rla hT, tT_rco hT, tT_rse hT, tT_rno hT, tT_rwa hT, tT_row hT, tT_rst hT, tT_rki hT, tT_rva hT, tT_rtw hT]
theorem ag_quarrelE {M : zm_Mem} {q n : Nat} (hI : Inv M q n) (hn : n < 512) (a1 : Int32) (he : (f_X10_quarrelE a1 M).isSome = true) : Ag (rd (f_X10_quarrelE a1 M) M) (fun M1 => f_X11_quarrel a1 M1) q n := by
  unfold f_X10_quarrelE f_X10_quarrelE_b11 at he ⊢
  by_cases h0 : a1 = 0
  · rw [if_pos h0] at he; cases he
  rw [if_neg h0] at he ⊢
  by_cases h1 : a1 = 1
  · rw [if_pos h1] at he; cases he
  rw [if_neg h1]
  refine ag_mk hI (r := -1) (M1 := M) (M2 := M) rfl ?_ (sc_rfl M)
  show f_X11_quarrel a1 M = _
  have hno : ∀ j, j ≤ 1 → ¬ a1 = nI j := by
    intro j hj z
    rcases (show j = 0 ∨ j = 1 by omega) with rfl | rfl
    · exact h0 z
    · exact h1 z
  unfold f_X11_quarrel
  rcases ix_cases a1 (b := 2) (by omega) with h | ⟨j, hj, hz⟩
  · rw [show f_X11_in a1 0 1 M = some (nI 0) from r_inN (b := 1) (by omega) h]; rfl
  · exact absurd hz (hno j (by omega))
def wBj (x j : Nat) : Bool := decide (x = 94) || wHn x j
theorem sc_Bj {M M' : zm_Mem} (h : Fr wBj M M') : Sc M M' := fr_sc (fun x j h => by
  simp only [wBj, Bool.or_eq_true, decide_eq_true_eq] at h
  rcases h with rfl | h
  · rfl
  · exact wHn_iv h) h
theorem ag_quarrel {M : zm_Mem} {q n : Nat} (hI : Inv M q n) (hn : n < 512) (a1 : Int32) (he : ¬ (f_X10_quarrelE a1 M).isSome = true) : Ag (f_X10_quarrelP a1 M) (fun M1 => f_X11_quarrel a1 M1) (q + 1) n := by
  obtain ⟨t, v, D, S, hC, hX⟩ := hI
  obtain ⟨M1, e1, hC1, hX1, hO, r11, r12⟩ := c_survey hn hC hX
  have ht := hC.2.1
  have hT := hC.2.2.1
  have hR := hC.2.2.2
  have bI := cx_isT hC
  have bv := tT_v hT
  have bh := tT_bh hT
  have bw := tT_bw hT
  have bk := tT_bk hT
  have hok : a1 = 0 ∨ a1 = 1 := by
    by_cases h0 : a1 = 0
    · exact Or.inl h0
    · by_cases h1 : a1 = 1
      · exact Or.inr h1
      · exfalso; apply he; unfold f_X10_quarrelE; rw [if_neg h0, if_neg h1]; rfl
  obtain ⟨P, c1, c2, c3, c4, c5, c6⟩ := r_cp hC1
  have hCP := cx_sc c2 hC1
  have hv2 : zm_in (nI v) 2 = true := zm_in_nI (by omega) (by omega)
  have hcv : (nI v).toNatClampNeg = v := nI_clamp (by omega)
  have p5 := p5_le bw
  have hst := stn_lt D (S 3) bk
  have key0 : zm_lp (fun s => f_X11_quarrel_l17 s.1 s.2) (0, P) = some (cpM P 94 0 64 (fun _ => nI 0)) := by
    refine lp_cpy P 94 0 64 _ (fun i hi => ?_) ?_
    · unfold f_X11_quarrel_l17
      rw [if_neg (show ¬ (64 : Int32) ≤ nI i from nI_ge (b := 64) hi (by omega)), zm_ck_t (zm_in_nI (by omega) (by omega)), nI_clamp (by omega), Nat.zero_add, show vp_nar .boolean 0 = nI 0 from by decide]
      simp only [zv_eq]
      rw [nI_k1]
    · unfold f_X11_quarrel_l17
      rw [if_pos (by decide)]
  generalize hZ : cpM P 94 0 64 (fun _ => nI 0) = Z at key0
  have fZ : Fr wBj P Z := by rw [← hZ]; exact fr_cpM (fun _ => rfl)
  have z94 : ∀ k, k < 64 → Z.1 94 k = nI 0 := fun k hk => by rw [← hZ, mC_in hk]
  have z92 : ∀ j, Z.1 92 j = P.1 92 j := fun j => by rw [← hZ, mC_ne (by omega)]
  have sZ : RwS Z D (S 0) (S 3) := ⟨(z92 30).trans c3.1, fun j hj => (z92 _).trans (c3.2.2 j hj)⟩
  have hrbA : ∀ way, rbA D (S 0) (dgp 5 way (D.1 0 1)) < 64 := fun way => bitsOf_le _ bk
  have key : ∃ e, zm_lp (fun s => f_X11_quarrel_l38 s.1 s.2) (nI 0, Z) = some e ∧ (Fr wBj P e ∧ RwS e D (S 0) (S 3) ∧ ∀ k, k < 64 → e.1 94 k = if anyB (fun way => rmP D (D.1 0 1) way && decide (rbA D (S 0) (dgp 5 way (D.1 0 1)) = k)) (5 ^ D.1 0 1) = true then nI 1 else nI 0) := by
    refine lp_inv (step := fun s => f_X11_quarrel_l38 s.1 s.2) (fun i z => z.1 = nI i ∧ Fr wBj P z.2 ∧ RwS z.2 D (S 0) (S 3) ∧ ∀ k, k < 64 → z.2.1 94 k = if anyB (fun way => rmP D (D.1 0 1) way && decide (rbA D (S 0) (dgp 5 way (D.1 0 1)) = k)) i = true then nI 1 else nI 0) _ (5 ^ D.1 0 1) ?_ ?_ ⟨rfl, fZ, sZ, fun k hk => z94 k hk⟩
    · rintro i ⟨z1, L⟩ hi ⟨p1, p2, p3, p4⟩
      simp only at p1 p2 p3 p4
      subst p1
      have hCL := cx_sc (sc_Bj p2) hCP
      have hTL := hCL.2.2.1
      obtain ⟨L1, k1, k2, k3, k4⟩ := r_hangs hCL p3 hi
      have f1 : Fr wBj L L1 := fr_mono (fun x j h => by unfold wBj; rw [h, Bool.or_true]) k2
      refine Or.inl ?_
      cases hp : rmP D (D.1 0 1) i with
      | false =>
        rw [hp] at k1
        refine ⟨(nI (i + 1), L1), ?_, rfl, fr_tr p2 f1, k3, fun k hk => ?_⟩
        · show f_X11_quarrel_l38 (nI i) L = _
          unfold f_X11_quarrel_l38 f_X11_quarrel_b72_38
          rw [tT_live hTL, hv2, zk_true, hcv, tT_rw hTL, r_fives bw, zb1_some, if_neg (nI_ge hi (by omega)), k1, zb2_some, if_neg (c := false = true) (by decide), if_pos (by rfl)]
          simp only [zv_eq]
          rw [nI_k1]
        · show L1.1 94 k = _
          rw [k2.2 94 k rfl, p4 k hk, anyB_S, hp, Bool.false_and, Bool.or_false]
      | true =>
        rw [hp] at k1
        have hCL1 := cx_sc (sc_Hn k2) hCL
        obtain ⟨L2, g1, g2⟩ := r_brokenAll hCL1 k4 hp
        have w2 := rw_Q g2 k4
        have hlt := hrbA i
        generalize hrr : rbA D (S 0) (dgp 5 i (D.1 0 1)) = r at g1 hlt
        refine ⟨(nI (i + 1), zm_sI L2 94 r (nI 1)), ?_, rfl, fr_tr p2 (fr_tr f1 (fr_tr (fr_mono (fun x j h => by unfold wBj wHn; rw [h, Bool.or_true, Bool.or_true]) g2) (fr_sI rfl))), ⟨?_, fun j hj => ?_⟩, fun k hk => ?_⟩
        · show f_X11_quarrel_l38 (nI i) L = _
          unfold f_X11_quarrel_l38 f_X11_quarrel_b72_38
          rw [tT_live hTL, hv2, zk_true, hcv, tT_rw hTL, r_fives bw, zb1_some, if_neg (nI_ge hi (by omega)), k1, zb2_some, if_pos (c := true = true) rfl, if_neg (by decide), g1, zb2_some, zm_ck_t (zm_in_nI hlt (by omega)), nI_clamp (by omega), show vp_nar .boolean 1 = nI 1 from by decide]
          simp only [zv_eq]
          rw [nI_k1]
        · show (zm_sI _ _ _ _).1 92 30 = _
          rw [mI1, if_neg (by omega)]; exact w2.1
        · show (zm_sI _ _ _ _).1 92 _ = _
          rw [mI1, if_neg (by omega)]; exact w2.2.2 j hj
        · show (zm_sI _ _ _ _).1 94 k = _
          rw [mI1, anyB_S, hp, Bool.true_and, hrr]
          by_cases hkr : k = r
          · rw [if_pos ⟨rfl, hkr⟩, decide_eq_true hkr.symm, Bool.or_true, if_pos rfl]
          · rw [if_neg (fun z => hkr z.2), g2.2 94 k rfl, k2.2 94 k rfl, p4 k hk, decide_eq_false (fun z => hkr z.symm), Bool.or_false]
    · rintro ⟨z1, L⟩ ⟨p1, p2, p3, p4⟩
      simp only at p1 p2 p3 p4
      subst p1
      have hTL := (cx_sc (sc_Bj p2) hCP).2.2.1
      refine ⟨L, ?_, p2, p3, p4⟩
      show f_X11_quarrel_l38 (nI (5 ^ D.1 0 1)) L = _
      unfold f_X11_quarrel_l38
      rw [tT_live hTL, hv2, zk_true, hcv, tT_rw hTL, r_fives bw, zb1_some, if_pos (nI_le (Nat.le_refl _) (by omega))]
  obtain ⟨N, k1, k2, k3, k4⟩ := key
  have hCN := cx_sc (sc_Bj k2) hCP
  -- is a set a quarrel
  have hq : ∀ T, T < 64 → T &&& stn D (S 3) = T → f_X11_isQuarrel (nI T) N = some (if (!kpB D (S 3) (S 0) T) = true then nI 1 else nI 0) := by
    intro T hT64 hsub
    have kk := lp_any (ε := Int32) (st := f_X11_isQuarrel_l2 (nI T) N) (fun k => anyB (fun way => rmP D (D.1 0 1) way && decide (rbA D (S 0) (dgp 5 way (D.1 0 1)) = k)) (5 ^ D.1 0 1) && decide (k &&& T = 0)) 64 (fun i hi => by
      unfold f_X11_isQuarrel_l2 f_X11_isQuarrel_b25_2
      rw [if_neg (show ¬ (64 : Int32) ≤ nI i from nI_ge (b := 64) hi (by omega)), zm_ck_t (zm_in_nI (by omega) (by omega)), nI_clamp (by omega), k4 i hi, zi_and]
      simp only [zv_eq]
      rw [nI_k1]
      cases anyB (fun way => rmP D (D.1 0 1) way && decide (rbA D (S 0) (dgp 5 way (D.1 0 1)) = i)) (5 ^ D.1 0 1) with
      | true =>
        rw [if_pos (c := true = true) rfl, if_neg (by decide), Bool.true_and]
        by_cases hz : i &&& T = 0
        · rw [hz, if_pos (by rfl), decide_eq_true rfl, if_pos rfl]
        · have hlt : i &&& T < 64 := Nat.lt_of_le_of_lt Nat.and_le_left hi
          rw [if_neg (show ¬ nI (i &&& T) = 0 from nI_ne0 (by omega) (by omega)), decide_eq_false hz, if_neg (by decide)]
      | false => rw [if_neg (c := false = true) (by decide), if_pos (by rfl), Bool.false_and, if_neg (by decide)]) (by
      unfold f_X11_isQuarrel_l2
      rw [if_pos (by decide)]) (nI 0) (nI 1)
    have ee : anyB (fun k => anyB (fun way => rmP D (D.1 0 1) way && decide (rbA D (S 0) (dgp 5 way (D.1 0 1)) = k)) (5 ^ D.1 0 1) && decide (k &&& T = 0)) 64 = kpB D (S 3) (S 0) T := by
      have hx : ∀ way, rbA D (S 0) (dgp 5 way (D.1 0 1)) &&& T = rbF D (S 3) (S 0) (dgp 5 way (D.1 0 1)) &&& T := by
        intro way
        rw [← rbA_st (li := S 3), Nat.and_assoc, Nat.and_comm (stn D (S 3)) T, hsub]
      unfold kpB
      rw [Bool.eq_iff_iff, anyB_iff, anyB_iff]
      constructor
      · rintro ⟨x, _, h⟩
        rw [Bool.and_eq_true, decide_eq_true_eq] at h
        obtain ⟨way, hw, h2⟩ := anyB_iff.1 h.1
        rw [Bool.and_eq_true, decide_eq_true_eq] at h2
        exact ⟨way, hw, by rw [h2.1, ← hx, h2.2, decide_eq_true h.2]; rfl⟩
      · rintro ⟨way, hw, h⟩
        rw [Bool.and_eq_true, decide_eq_true_eq, ← hx] at h
        refine ⟨_, hrbA way, ?_⟩
        rw [Bool.and_eq_true, decide_eq_true_eq]
        exact ⟨anyB_iff.2 ⟨way, hw, by rw [h.1, decide_eq_true rfl]; rfl⟩, h.2⟩
    rw [ee] at kk
    unfold f_X11_isQuarrel
    have kk' : (zm_lp (f_X11_isQuarrel_l2 (nI T) N) 0).bind (Sum.elim (fun _ => some (0 : Int32)) (fun _ => some (1 : Int32))) = _ := kk
    rw [kk']
    cases kpB D (S 3) (S 0) T <;> rfl
  have hrb := fun i => (rqF_spec (Q := fun T => !kpB D (S 3) (S 0) T) (st := stn D (S 3)) i).2
  have loop : zm_lp (fun s => f_X11_quarrel_l89 N (nI (stn D (S 3))) s.1 s.2) ((-2), 0) = some (match rqF (fun T => !kpB D (S 3) (S 0) T) (stn D (S 3)) (stn D (S 3) + 1) with | none => -nI 2 | some b => nI b) := by
    refine lp_for (step := fun s => f_X11_quarrel_l89 N (nI (stn D (S 3))) s.1 s.2) (fun i => (match rqF (fun T => !kpB D (S 3) (S 0) T) (stn D (S 3)) i with | none => -nI 2 | some b => nI b, nI i)) (stn D (S 3) + 1) (fun i hi => ?_) ?_
    · show f_X11_quarrel_l89 N (nI (stn D (S 3))) _ (nI i) = _
      have hsub := sub_all i (by omega) (stn D (S 3)) hst
      have er : rqF (fun T => !kpB D (S 3) (S 0) T) (stn D (S 3)) (i + 1) = if i &&& stn D (S 3) = i then (match rqF (fun T => !kpB D (S 3) (S 0) T) (stn D (S 3)) i with
        | none => if (!kpB D (S 3) (S 0) i) = true then some i else none
        | some b => if pop6 b ≤ pop6 i then some b else if (!kpB D (S 3) (S 0) i) = true then some i else some b) else rqF (fun T => !kpB D (S 3) (S 0) T) (stn D (S 3)) i := rfl
      rw [er]
      unfold f_X11_quarrel_l89 f_X11_quarrel_b120_89 f_X11_quarrel_b132_89
      rw [if_neg (nI_nlt (by omega) (by omega))]
      simp only [zv_eq]
      rw [nI_k1]
      by_cases hs : i &&& stn D (S 3) = i
      · rw [decide_eq_true hs, decide_eq_true_eq] at hsub
        have hsub' : nI i &&& (nI (stn D (S 3)) ^^^ (-1)) = 0 := hsub
        rw [if_pos hsub', if_pos hs, hq i (by omega) hs, zb1_some]
        cases hb : rqF (fun T => !kpB D (S 3) (S 0) T) (stn D (S 3)) i with
        | none =>
          simp only
          rw [if_pos (show -nI 2 < (0 : Int32) by decide)]
          cases kpB D (S 3) (S 0) i with
          | true => rw [if_neg (c := (!true) = true) (by decide), if_pos (by rfl), if_neg (c := (!true) = true) (by decide)]
          | false => rw [if_pos (c := (!false) = true) rfl, if_neg (by decide), if_pos (c := (!false) = true) rfl]
        | some b =>
          have hbl := (hrb i b hb).1
          have hpb : pop6 b ≤ 6 := by unfold pop6; omega
          have hpi : pop6 i ≤ 6 := by unfold pop6; omega
          simp only
          rw [if_neg (show ¬ nI b < (0 : Int32) from nI_pos (by omega)), r_bits (by omega), zb1_some, r_bits (by omega), zb1_some]
          by_cases hle : pop6 b ≤ pop6 i
          · rw [if_pos (nI_le hle (by omega)), if_pos hle]
          · rw [if_neg (nI_ge (by omega) (by omega)), if_neg hle]
            cases kpB D (S 3) (S 0) i with
            | true => rw [if_neg (c := (!true) = true) (by decide), if_pos (by rfl), if_neg (c := (!true) = true) (by decide)]
            | false => rw [if_pos (c := (!false) = true) rfl, if_neg (by decide), if_pos (c := (!false) = true) rfl]
      · rw [decide_eq_false hs, decide_eq_false_iff_not] at hsub
        have hsub' : ¬ nI i &&& (nI (stn D (S 3)) ^^^ (-1)) = 0 := hsub
        rw [if_neg hsub', if_neg hs]
    · show f_X11_quarrel_l89 N (nI (stn D (S 3))) _ (nI (stn D (S 3) + 1)) = _
      unfold f_X11_quarrel_l89
      rw [if_pos (nI_lt (by omega) (by omega))]
  have hin : f_X11_in a1 0 1 M1 = some (nI 1) := by
    rcases hok with rfl | rfl
    · exact r_inY (j := 0) (b := 1) (by omega) (by omega)
    · exact r_inY (j := 1) (b := 1) (by omega) (by omega)
  have kr : f_X11_quarrel a1 M1 = f_X11_quarrel_x138_89 a1 N (match rqF (fun T => !kpB D (S 3) (S 0) T) (stn D (S 3)) (stn D (S 3) + 1) with | none => -nI 2 | some b => nI b) := by
    unfold f_X11_quarrel
    rw [hin, zb1_some, if_neg (by decide), c1, zb2_some, key0]
    simp only [Option.bind_some]
    unfold f_X11_quarrel_x36_17
    have k1' : zm_lp (fun s => f_X11_quarrel_l38 s.1 s.2) (0, Z) = some N := k1
    rw [k1']
    simp only [Option.bind_some]
    unfold f_X11_quarrel_x78_38
    rw [r_standingS hCN k3, zb1_some, loop]; rfl
  have hsz := vN_sz D (S 3) (S 0) (isAt S (S 0)) (fun j => S (4 + j)) (5 ^ D.1 0 1)
  have o4' : M1.1 103 13 = nI (sumOf (fun way => if hgB D (S 3) (S 0) way = true then 1 else 0) (5 ^ D.1 0 1)) := by rw [hO.1.2.2.2.1, ← hsz]; rfl
  have hszle : sumOf (fun way => if hgB D (S 3) (S 0) way = true then 1 else 0) (5 ^ D.1 0 1) ≤ 15625 := by
    have := sumOf_le (f := fun way => if hgB D (S 3) (S 0) way = true then 1 else 0) (c := 1) (i := 5 ^ D.1 0 1) (fun j _ => by split <;> omega)
    omega
  have kc : f_X10_quarrelP a1 M = f_X10_quarrelP_b11 a1 M := by
    unfold f_X10_quarrelP
    rcases hok with rfl | rfl
    · rw [if_pos rfl]
    · rw [if_neg (by decide), if_pos rfl]
  have hInv := iv_mono (iv_sc_keep (inv_of hC1 hX1) (sc_tr c2 (sc_Bj k2)))
  by_cases hz : sumOf (fun way => if hgB D (S 3) (S 0) way = true then 1 else 0) (5 ^ D.1 0 1) = 0
  · -- no hanging keeps all that stand
    have hQst : (fun T => !kpB D (S 3) (S 0) T) (stn D (S 3)) = true := by
      show (!kpB D (S 3) (S 0) (stn D (S 3))) = true
      cases hk : kpB D (S 3) (S 0) (stn D (S 3)) with
      | false => rfl
      | true =>
        exfalso
        unfold kpB at hk
        obtain ⟨way, hw, h⟩ := anyB_iff.1 hk
        rw [Bool.and_eq_true, decide_eq_true_eq, ← rbA_st, Nat.and_assoc, Nat.and_self, rbA_st] at h
        have := sumOf_0.1 hz way hw
        rw [if_pos (by unfold hgB; rw [h.1, decide_eq_true h.2]; rfl)] at this
        omega
    obtain ⟨m1, m2, m3, m4⟩ := cqF_spec (Q := fun T => !kpB D (S 3) (S 0) T) hst hQst 64 (Nat.le_refl _)
    have hmst := sub_le _ m1 _ hst m2
    have hex : rqF (fun T => !kpB D (S 3) (S 0) T) (stn D (S 3)) (stn D (S 3) + 1) = some (cqF (fun T => !kpB D (S 3) (S 0) T) (stn D (S 3)) 64) := by
      obtain ⟨s1, s2⟩ := rqF_spec (Q := fun T => !kpB D (S 3) (S 0) T) (st := stn D (S 3)) (stn D (S 3) + 1)
      cases hr : rqF (fun T => !kpB D (S 3) (S 0) T) (stn D (S 3)) (stn D (S 3) + 1) with
      | none => rw [s1 hr _ (by omega) m2] at m3; cases m3
      | some b =>
        obtain ⟨b1, b2, b3, b4⟩ := s2 b hr
        congr 1
        exact bet_anti (b4 _ (by omega) m2 m3) (m4 b (by omega) (by omega) b2 b3)
    rw [hex] at kr
    simp only at kr
    have hcs := c_smallest bk hO
    generalize cqF (fun T => !kpB D (S 3) (S 0) T) (stn D (S 3)) 64 = m at kr m1 hex hcs
    have kc2 : f_X10_quarrelP_b11 a1 M = if a1 = 0 then some (nI (pop6 m), M1) else some (nI m, M1) := by
      unfold f_X10_quarrelP_b11 f_X6_rowsKept
      rw [e1, zb2_some, zm_ck_t (decide_eq_true r11), zb1_some, o4', hz, if_pos (by decide), zm_ck_t (decide_eq_true r11), hcs, zb1_some, bc_64 m1]; rfl
    rcases hok with rfl | rfl
    · refine ⟨nI (pop6 m), M1, N, ?_, ?_, hInv⟩
      · rw [kc, kc2, if_pos rfl]
      · show f_X11_quarrel 0 M1 = _
        rw [kr]
        unfold f_X11_quarrel_x138_89
        rw [if_neg (show ¬ nI m < (0 : Int32) from nI_pos (by omega)), if_neg (by decide), r_bits m1]; rfl
    · refine ⟨nI m, M1, N, ?_, ?_, hInv⟩
      · rw [kc, kc2, if_neg (by decide)]
      · show f_X11_quarrel 1 M1 = _
        rw [kr]
        unfold f_X11_quarrel_x138_89 f_X11_quarrel_b147
        rw [if_neg (show ¬ nI m < (0 : Int32) from nI_pos (by omega)), if_pos rfl]
  · have hall : ∀ T, kpB D (S 3) (S 0) T = true := by
      intro T
      refine Classical.byContradiction (fun hk => hz (sumOf_0.2 (fun way hw => if_neg (fun hh => hk ?_))))
      unfold hgB at hh
      rw [Bool.and_eq_true, decide_eq_true_eq] at hh
      unfold kpB
      exact anyB_iff.2 ⟨way, hw, by rw [hh.1, hh.2, Nat.zero_and]; rfl⟩
    have hnone : rqF (fun T => !kpB D (S 3) (S 0) T) (stn D (S 3)) (stn D (S 3) + 1) = none := by
      cases hr : rqF (fun T => !kpB D (S 3) (S 0) T) (stn D (S 3)) (stn D (S 3) + 1) with
      | none => rfl
      | some b =>
        have := (hrb _ b hr).2.2.1
        simp only [hall b] at this
        cases this
    rw [hnone] at kr
    refine ⟨-2, M1, N, ?_, ?_, hInv⟩
    · rw [kc]
      unfold f_X10_quarrelP_b11 f_X6_rowsKept
      rw [e1, zb2_some, zm_ck_t (decide_eq_true r11), zb1_some, o4', if_neg (show ¬ nI _ ≤ (0 : Int32) from nI_nle (by omega) (by omega))]
    · show f_X11_quarrel a1 M1 = _
      rw [kr]
      unfold f_X11_quarrel_x138_89 f_X11_quarrel_b147
      simp only
      rw [if_pos (by decide)]; rfl
