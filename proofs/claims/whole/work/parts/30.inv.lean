abbrev zE := List (Nat × Nat)
abbrev zB := List (zE × zE × zE)
/-- what is told: numbers by sort and place (0: houses, works, terms, late, couriers, seed; 1 north 2 walls 3 owner 4 start 5 kind 6 value 7 termWork), the terms' two sums, the two laws -/
abbrev zD := (Nat → Nat → Nat) × (Nat → zE × zE) × (Nat → zB × zE)
/-! THE INVARIANT between the class's cells and the reference's. t: the told one's cell (25, 36); v: the reference's side; h, w, k: houses, works, terms; q: how often the survey was asked for; n: how many calls -/
/-- codes: an operation and its argument; class: operation * 2^14 + argument, reference: two rows -/
def iv_sc (M : zm_Mem) (t a : Nat) (l : List (Nat × Nat)) : Prop := ∀ i p, l[i]? = some p → M.1 (t + 10) (a + i) = nI (p.1 * 16384 + p.2)
def iv_sm (M : zm_Mem) (a : Nat) (l : List (Nat × Nat)) : Prop := ∀ i p, l[i]? = some p → M.1 86 (a + i) = nI p.1 ∧ M.1 87 (a + i) = nI p.2
/-- how many numbers wait behind a code; none: it isn't one of a sum's -/
def iv_dp : List (Nat × Nat) → Nat → Option Nat
  | [], d => some d
  | p :: l, d => if p.1 < 2 then (if d < 20 ∧ p.2 < 10000 ∧ (p.1 = 1 → p.2 < 9) then iv_dp l (d + 1) else none) else (if p.1 ≤ 5 ∧ p.2 = 0 ∧ 2 ≤ d then iv_dp l (d - 1) else none)
def iv_ex (l : List (Nat × Nat)) : Prop := iv_dp l 0 = some 1
def iv_term (M : zm_Mem) (t v j : Nat) (l1 l2 : zE) : Prop := ∃ (a b c : Nat), M.1 (t + 8) j = nI a ∧ M.1 (t + 9) j = nI b ∧ M.1 73 (6 * v + j) = nI c ∧ M.1 74 (6 * v + j) = nI (c + l1.length) ∧ M.1 75 (6 * v + j) = nI (c + l1.length + l2.length) ∧ iv_ex l1 ∧ iv_ex l2 ∧
  iv_sc M t a (l1 ++ [(7, 0)]) ∧ iv_sc M t b (l2 ++ [(7, 0)]) ∧ iv_sm M c l1 ∧ iv_sm M (c + l1.length) l2 ∧ (∃ cl, cl ≤ 408 ∧ M.1 t 10 = nI cl ∧ a + l1.length < cl ∧ b + l2.length < cl) ∧ c + l1.length + l2.length ≤ 840 ∧ 420 * v ≤ c ∧ c + l1.length + l2.length ≤ 420 * v + 420
/-- a law: its branches, and what it is else; the class's code of it, from a place on -/
def iv_lc : zB → zE → Nat → zE
  | [], l, _ => l ++ [(7, 0)]
  | (l1, l2, l3) :: B, l, a => l1 ++ (l2 ++ ((6, a + (l1.length + l2.length + l3.length + 2)) :: (l3 ++ ((7, 0) :: iv_lc B l (a + (l1.length + l2.length + l3.length + 2))))))
def iv_br (M : zm_Mem) (b : Nat) (x : zE × zE × zE) : Prop := ∃ c, M.1 81 b = 1 ∧ M.1 82 b = nI c ∧ M.1 83 b = nI (c + x.1.length) ∧ M.1 84 b = nI (c + x.1.length + x.2.1.length) ∧ M.1 85 b = nI (c + x.1.length + x.2.1.length + x.2.2.length) ∧ iv_sm M c x.1 ∧ iv_sm M (c + x.1.length) x.2.1 ∧ iv_sm M (c + x.1.length + x.2.1.length) x.2.2 ∧ c + x.1.length + x.2.1.length + x.2.2.length ≤ 840
/-- where a branch's codes lie -/
def iv_bq (M : zm_Mem) (v b : Nat) (x : zE × zE × zE) : Prop := ∃ c, M.1 82 b = nI c ∧ 420 * v ≤ c ∧ c + x.1.length + x.2.1.length + x.2.2.length ≤ 420 * v + 420
def iv_law (M : zm_Mem) (t v s i : Nat) (dflt : zE) (B : zB) (l : zE) : Prop := ∃ (a : Nat), M.1 t s = nI a ∧ B.length ≤ 4 ∧ (∀ x ∈ B, iv_ex x.1 ∧ iv_ex x.2.1 ∧ iv_ex x.2.2) ∧ iv_ex l ∧ iv_sc M t a (iv_lc B l a) ∧ (∃ cl, cl ≤ 408 ∧ M.1 t 10 = nI cl ∧ a + (iv_lc B l a).length ≤ cl) ∧
  ((B = [] ∧ l = dflt ∧ ∃ f, f ≤ 260 ∧ M.1 79 (2 * v + i) = nI f ∧ M.1 80 (2 * v + i) = nI f) ∨
   ∃ f c, f + B.length + 1 ≤ 260 ∧ M.1 79 (2 * v + i) = nI f ∧ M.1 80 (2 * v + i) = nI (f + B.length + 1) ∧ (∀ j x, B[j]? = some x → iv_br M (f + j) x) ∧ M.1 81 (f + B.length) = 0 ∧ M.1 84 (f + B.length) = nI c ∧ M.1 85 (f + B.length) = nI (c + l.length) ∧ iv_sm M c l ∧ c + l.length ≤ 840 ∧ (130 * v ≤ f ∧ f + B.length + 1 ≤ 130 * v + 130) ∧ (420 * v ≤ c ∧ c + l.length ≤ 420 * v + 420) ∧ ∀ j x, B[j]? = some x → iv_bq M v (f + j) x)
/-- what is told -/
def iv_T (M : zm_Mem) (t v : Nat) (D : zD) : Prop :=
  v ≤ 1 ∧
  D.1 0 0 ≤ 5 ∧
  D.1 0 1 ≤ 6 ∧
  D.1 0 2 ≤ 6 ∧
  M.1 52 18 = nI v ∧
  M.1 t 11 = nI (D.1 0 0) ∧
  M.1 63 v = nI (D.1 0 0) ∧
  M.1 t 12 = nI (D.1 0 1) ∧
  M.1 66 v = nI (D.1 0 1) ∧
  M.1 t 13 = nI (D.1 0 2) ∧
  M.1 71 v = nI (D.1 0 2) ∧
  D.1 0 3 ≤ 100 ∧
  M.1 t 16 = nI (D.1 0 3) ∧
  M.1 76 v = nI (D.1 0 3) ∧
  (1 ≤ D.1 0 4 ∧ D.1 0 4 ≤ 3) ∧
  M.1 t 17 = nI (D.1 0 4) ∧
  M.1 77 v = nI (D.1 0 4) ∧
  D.1 0 5 ≤ 9999 ∧
  M.1 t 18 = nI (D.1 0 5) ∧
  M.1 78 v = nI (D.1 0 5) ∧
  (∀ j, j < D.1 0 0 → D.1 1 j ≤ 9 ∧ D.1 2 j ≤ 9) ∧
  (∀ j, j < D.1 0 0 → M.1 (t + 1) j = nI (D.1 1 j)) ∧
  (∀ j, j < D.1 0 0 → M.1 64 (5 * v + j) = nI (D.1 1 j)) ∧
  (∀ j, j < D.1 0 0 → M.1 (t + 2) j = nI (D.1 2 j)) ∧
  (∀ j, j < D.1 0 0 → M.1 65 (5 * v + j) = nI (D.1 2 j)) ∧
  (∀ j, j < D.1 0 1 → D.1 3 j < D.1 0 0 ∧ D.1 4 j < D.1 0 0 ∧ D.1 5 j ≤ 9 ∧ D.1 6 j ≤ 99) ∧
  (∀ j, j < D.1 0 1 → M.1 (t + 3) j = nI (D.1 3 j)) ∧
  (∀ j, j < D.1 0 1 → M.1 67 (6 * v + j) = nI (D.1 3 j)) ∧
  (∀ j, j < D.1 0 1 → M.1 (t + 4) j = nI (D.1 4 j)) ∧
  (∀ j, j < D.1 0 1 → M.1 68 (6 * v + j) = nI (D.1 4 j)) ∧
  (∀ j, j < D.1 0 1 → M.1 (t + 5) j = nI (D.1 5 j)) ∧
  (∀ j, j < D.1 0 1 → M.1 69 (6 * v + j) = nI (D.1 5 j)) ∧
  (∀ j, j < D.1 0 1 → M.1 (t + 6) j = nI (D.1 6 j)) ∧
  (∀ j, j < D.1 0 1 → M.1 70 (6 * v + j) = nI (D.1 6 j)) ∧
  (∀ j, j < D.1 0 2 → D.1 7 j < D.1 0 1) ∧
  (∀ j, j < D.1 0 2 → M.1 (t + 7) j = nI (D.1 7 j)) ∧
  (∀ j, j < D.1 0 2 → M.1 72 (6 * v + j) = nI (D.1 7 j)) ∧
  (∀ j, j < D.1 0 2 → iv_term M t v j (D.2.1 j).1 (D.2.1 j).2) ∧
  iv_law M t v 14 0 [(0, 3)] (D.2.2 0).1 (D.2.2 0).2 ∧
  iv_law M t v 15 1 [(1, 3)] (D.2.2 1).1 (D.2.2 1).2
theorem tT_v {M : zm_Mem} {t v : Nat} {D : zD} (h : iv_T M t v D) : v ≤ 1 := h.1
theorem tT_bh {M : zm_Mem} {t v : Nat} {D : zD} (h : iv_T M t v D) : D.1 0 0 ≤ 5 := h.2.1
theorem tT_bw {M : zm_Mem} {t v : Nat} {D : zD} (h : iv_T M t v D) : D.1 0 1 ≤ 6 := h.2.2.1
theorem tT_bk {M : zm_Mem} {t v : Nat} {D : zD} (h : iv_T M t v D) : D.1 0 2 ≤ 6 := h.2.2.2.1
theorem tT_live {M : zm_Mem} {t v : Nat} {D : zD} (h : iv_T M t v D) : M.1 52 18 = nI v := h.2.2.2.2.1
theorem tT_h {M : zm_Mem} {t v : Nat} {D : zD} (h : iv_T M t v D) : M.1 t 11 = nI (D.1 0 0) := h.2.2.2.2.2.1
theorem tT_rh {M : zm_Mem} {t v : Nat} {D : zD} (h : iv_T M t v D) : M.1 63 v = nI (D.1 0 0) := h.2.2.2.2.2.2.1
theorem tT_w {M : zm_Mem} {t v : Nat} {D : zD} (h : iv_T M t v D) : M.1 t 12 = nI (D.1 0 1) := h.2.2.2.2.2.2.2.1
theorem tT_rw {M : zm_Mem} {t v : Nat} {D : zD} (h : iv_T M t v D) : M.1 66 v = nI (D.1 0 1) := h.2.2.2.2.2.2.2.2.1
theorem tT_k {M : zm_Mem} {t v : Nat} {D : zD} (h : iv_T M t v D) : M.1 t 13 = nI (D.1 0 2) := h.2.2.2.2.2.2.2.2.2.1
theorem tT_rk {M : zm_Mem} {t v : Nat} {D : zD} (h : iv_T M t v D) : M.1 71 v = nI (D.1 0 2) := h.2.2.2.2.2.2.2.2.2.2.1
theorem tT_bla {M : zm_Mem} {t v : Nat} {D : zD} (h : iv_T M t v D) : D.1 0 3 ≤ 100 := h.2.2.2.2.2.2.2.2.2.2.2.1
theorem tT_la {M : zm_Mem} {t v : Nat} {D : zD} (h : iv_T M t v D) : M.1 t 16 = nI (D.1 0 3) := h.2.2.2.2.2.2.2.2.2.2.2.2.1
theorem tT_rla {M : zm_Mem} {t v : Nat} {D : zD} (h : iv_T M t v D) : M.1 76 v = nI (D.1 0 3) := h.2.2.2.2.2.2.2.2.2.2.2.2.2.1
theorem tT_bco {M : zm_Mem} {t v : Nat} {D : zD} (h : iv_T M t v D) : 1 ≤ D.1 0 4 ∧ D.1 0 4 ≤ 3 := h.2.2.2.2.2.2.2.2.2.2.2.2.2.2.1
theorem tT_co {M : zm_Mem} {t v : Nat} {D : zD} (h : iv_T M t v D) : M.1 t 17 = nI (D.1 0 4) := h.2.2.2.2.2.2.2.2.2.2.2.2.2.2.2.1
theorem tT_rco {M : zm_Mem} {t v : Nat} {D : zD} (h : iv_T M t v D) : M.1 77 v = nI (D.1 0 4) := h.2.2.2.2.2.2.2.2.2.2.2.2.2.2.2.2.1
theorem tT_bse {M : zm_Mem} {t v : Nat} {D : zD} (h : iv_T M t v D) : D.1 0 5 ≤ 9999 := h.2.2.2.2.2.2.2.2.2.2.2.2.2.2.2.2.2.1
theorem tT_se {M : zm_Mem} {t v : Nat} {D : zD} (h : iv_T M t v D) : M.1 t 18 = nI (D.1 0 5) := h.2.2.2.2.2.2.2.2.2.2.2.2.2.2.2.2.2.2.1
theorem tT_rse {M : zm_Mem} {t v : Nat} {D : zD} (h : iv_T M t v D) : M.1 78 v = nI (D.1 0 5) := h.2.2.2.2.2.2.2.2.2.2.2.2.2.2.2.2.2.2.2.1
theorem tT_Hb {M : zm_Mem} {t v : Nat} {D : zD} (h : iv_T M t v D) : (∀ j, j < D.1 0 0 → D.1 1 j ≤ 9 ∧ D.1 2 j ≤ 9) := h.2.2.2.2.2.2.2.2.2.2.2.2.2.2.2.2.2.2.2.2.1
theorem tT_no {M : zm_Mem} {t v : Nat} {D : zD} (h : iv_T M t v D) : (∀ j, j < D.1 0 0 → M.1 (t + 1) j = nI (D.1 1 j)) := h.2.2.2.2.2.2.2.2.2.2.2.2.2.2.2.2.2.2.2.2.2.1
theorem tT_rno {M : zm_Mem} {t v : Nat} {D : zD} (h : iv_T M t v D) : (∀ j, j < D.1 0 0 → M.1 64 (5 * v + j) = nI (D.1 1 j)) := h.2.2.2.2.2.2.2.2.2.2.2.2.2.2.2.2.2.2.2.2.2.2.1
theorem tT_wa {M : zm_Mem} {t v : Nat} {D : zD} (h : iv_T M t v D) : (∀ j, j < D.1 0 0 → M.1 (t + 2) j = nI (D.1 2 j)) := h.2.2.2.2.2.2.2.2.2.2.2.2.2.2.2.2.2.2.2.2.2.2.2.1
theorem tT_rwa {M : zm_Mem} {t v : Nat} {D : zD} (h : iv_T M t v D) : (∀ j, j < D.1 0 0 → M.1 65 (5 * v + j) = nI (D.1 2 j)) := h.2.2.2.2.2.2.2.2.2.2.2.2.2.2.2.2.2.2.2.2.2.2.2.2.1
theorem tT_Wb {M : zm_Mem} {t v : Nat} {D : zD} (h : iv_T M t v D) : (∀ j, j < D.1 0 1 → D.1 3 j < D.1 0 0 ∧ D.1 4 j < D.1 0 0 ∧ D.1 5 j ≤ 9 ∧ D.1 6 j ≤ 99) := h.2.2.2.2.2.2.2.2.2.2.2.2.2.2.2.2.2.2.2.2.2.2.2.2.2.1
theorem tT_ow {M : zm_Mem} {t v : Nat} {D : zD} (h : iv_T M t v D) : (∀ j, j < D.1 0 1 → M.1 (t + 3) j = nI (D.1 3 j)) := h.2.2.2.2.2.2.2.2.2.2.2.2.2.2.2.2.2.2.2.2.2.2.2.2.2.2.1
theorem tT_row {M : zm_Mem} {t v : Nat} {D : zD} (h : iv_T M t v D) : (∀ j, j < D.1 0 1 → M.1 67 (6 * v + j) = nI (D.1 3 j)) := h.2.2.2.2.2.2.2.2.2.2.2.2.2.2.2.2.2.2.2.2.2.2.2.2.2.2.2.1
theorem tT_st {M : zm_Mem} {t v : Nat} {D : zD} (h : iv_T M t v D) : (∀ j, j < D.1 0 1 → M.1 (t + 4) j = nI (D.1 4 j)) := h.2.2.2.2.2.2.2.2.2.2.2.2.2.2.2.2.2.2.2.2.2.2.2.2.2.2.2.2.1
theorem tT_rst {M : zm_Mem} {t v : Nat} {D : zD} (h : iv_T M t v D) : (∀ j, j < D.1 0 1 → M.1 68 (6 * v + j) = nI (D.1 4 j)) := h.2.2.2.2.2.2.2.2.2.2.2.2.2.2.2.2.2.2.2.2.2.2.2.2.2.2.2.2.2.1
theorem tT_ki {M : zm_Mem} {t v : Nat} {D : zD} (h : iv_T M t v D) : (∀ j, j < D.1 0 1 → M.1 (t + 5) j = nI (D.1 5 j)) := h.2.2.2.2.2.2.2.2.2.2.2.2.2.2.2.2.2.2.2.2.2.2.2.2.2.2.2.2.2.2.1
theorem tT_rki {M : zm_Mem} {t v : Nat} {D : zD} (h : iv_T M t v D) : (∀ j, j < D.1 0 1 → M.1 69 (6 * v + j) = nI (D.1 5 j)) := h.2.2.2.2.2.2.2.2.2.2.2.2.2.2.2.2.2.2.2.2.2.2.2.2.2.2.2.2.2.2.2.1
theorem tT_va {M : zm_Mem} {t v : Nat} {D : zD} (h : iv_T M t v D) : (∀ j, j < D.1 0 1 → M.1 (t + 6) j = nI (D.1 6 j)) := h.2.2.2.2.2.2.2.2.2.2.2.2.2.2.2.2.2.2.2.2.2.2.2.2.2.2.2.2.2.2.2.2.1
theorem tT_rva {M : zm_Mem} {t v : Nat} {D : zD} (h : iv_T M t v D) : (∀ j, j < D.1 0 1 → M.1 70 (6 * v + j) = nI (D.1 6 j)) := h.2.2.2.2.2.2.2.2.2.2.2.2.2.2.2.2.2.2.2.2.2.2.2.2.2.2.2.2.2.2.2.2.2.1
theorem tT_Kb {M : zm_Mem} {t v : Nat} {D : zD} (h : iv_T M t v D) : (∀ j, j < D.1 0 2 → D.1 7 j < D.1 0 1) := h.2.2.2.2.2.2.2.2.2.2.2.2.2.2.2.2.2.2.2.2.2.2.2.2.2.2.2.2.2.2.2.2.2.2.1
theorem tT_tw {M : zm_Mem} {t v : Nat} {D : zD} (h : iv_T M t v D) : (∀ j, j < D.1 0 2 → M.1 (t + 7) j = nI (D.1 7 j)) := h.2.2.2.2.2.2.2.2.2.2.2.2.2.2.2.2.2.2.2.2.2.2.2.2.2.2.2.2.2.2.2.2.2.2.2.1
theorem tT_rtw {M : zm_Mem} {t v : Nat} {D : zD} (h : iv_T M t v D) : (∀ j, j < D.1 0 2 → M.1 72 (6 * v + j) = nI (D.1 7 j)) := h.2.2.2.2.2.2.2.2.2.2.2.2.2.2.2.2.2.2.2.2.2.2.2.2.2.2.2.2.2.2.2.2.2.2.2.2.1
theorem tT_term {M : zm_Mem} {t v : Nat} {D : zD} (h : iv_T M t v D) : (∀ j, j < D.1 0 2 → iv_term M t v j (D.2.1 j).1 (D.2.1 j).2) := h.2.2.2.2.2.2.2.2.2.2.2.2.2.2.2.2.2.2.2.2.2.2.2.2.2.2.2.2.2.2.2.2.2.2.2.2.2.1
theorem tT_law0 {M : zm_Mem} {t v : Nat} {D : zD} (h : iv_T M t v D) : iv_law M t v 14 0 [(0, 3)] (D.2.2 0).1 (D.2.2 0).2 := h.2.2.2.2.2.2.2.2.2.2.2.2.2.2.2.2.2.2.2.2.2.2.2.2.2.2.2.2.2.2.2.2.2.2.2.2.2.2.1
theorem tT_law1 {M : zm_Mem} {t v : Nat} {D : zD} (h : iv_T M t v D) : iv_law M t v 15 1 [(1, 3)] (D.2.2 1).1 (D.2.2 1).2 := h.2.2.2.2.2.2.2.2.2.2.2.2.2.2.2.2.2.2.2.2.2.2.2.2.2.2.2.2.2.2.2.2.2.2.2.2.2.2.2
/-- a row of the class's state beside one of the reference's; S: the state's numbers by the class's places -/
def iv_R (c r : Nat → Int32) (h w k n : Nat) (S : Nat → Nat) : Prop :=
  S 0 ≤ 99 * n ∧
  S 1 ≤ n ∧
  S 3 < 2 ^ k ∧
  c 0 = nI (S 0) ∧
  r 30 = nI (S 0) ∧
  c 1 = nI (S 1) ∧
  r 31 = nI (S 1) ∧
  r 32 = c 2 ∧
  c 3 = nI (S 3) ∧
  (∀ j, j < k → r (24 + j) = nI (S 3 / 2 ^ j % 2)) ∧
  (∀ j, j < w → S (4 + j) < h ∧ S (10 + j) ≤ 99 * n + 104) ∧
  (∀ j, j < w → c (4 + j) = nI (S (4 + j))) ∧
  (∀ j, j < w → c (10 + j) = nI (S (10 + j))) ∧
  (∀ j, j < w → r (18 + j) = c (16 + j)) ∧
  (∀ j, j < w → r j = (if S (10 + j) ≤ S 0 then nI (S (4 + j)) else -2)) ∧
  (∀ j, j < w → r (6 + j) = (if S (10 + j) ≤ S 0 then -2 else nI (S (4 + j)))) ∧
  (∀ j, j < w → r (12 + j) = (if S (10 + j) ≤ S 0 then -2 else nI (S (10 + j)))) ∧
  (∀ j, j < 25 → r (33 + j) = c (22 + j))
theorem tR_bd {c r : Nat → Int32} {h w k n : Nat} {S : Nat → Nat} (H : iv_R c r h w k n S) : S 0 ≤ 99 * n := H.1
theorem tR_bt {c r : Nat → Int32} {h w k n : Nat} {S : Nat → Nat} (H : iv_R c r h w k n S) : S 1 ≤ n := H.2.1
theorem tR_bl {c r : Nat → Int32} {h w k n : Nat} {S : Nat → Nat} (H : iv_R c r h w k n S) : S 3 < 2 ^ k := H.2.2.1
theorem tR_d {c r : Nat → Int32} {h w k n : Nat} {S : Nat → Nat} (H : iv_R c r h w k n S) : c 0 = nI (S 0) := H.2.2.2.1
theorem tR_rd {c r : Nat → Int32} {h w k n : Nat} {S : Nat → Nat} (H : iv_R c r h w k n S) : r 30 = nI (S 0) := H.2.2.2.2.1
theorem tR_t {c r : Nat → Int32} {h w k n : Nat} {S : Nat → Nat} (H : iv_R c r h w k n S) : c 1 = nI (S 1) := H.2.2.2.2.2.1
theorem tR_rt {c r : Nat → Int32} {h w k n : Nat} {S : Nat → Nat} (H : iv_R c r h w k n S) : r 31 = nI (S 1) := H.2.2.2.2.2.2.1
theorem tR_la {c r : Nat → Int32} {h w k n : Nat} {S : Nat → Nat} (H : iv_R c r h w k n S) : r 32 = c 2 := H.2.2.2.2.2.2.2.1
theorem tR_l {c r : Nat → Int32} {h w k n : Nat} {S : Nat → Nat} (H : iv_R c r h w k n S) : c 3 = nI (S 3) := H.2.2.2.2.2.2.2.2.1
theorem tR_rl {c r : Nat → Int32} {h w k n : Nat} {S : Nat → Nat} (H : iv_R c r h w k n S) : (∀ j, j < k → r (24 + j) = nI (S 3 / 2 ^ j % 2)) := H.2.2.2.2.2.2.2.2.2.1
theorem tR_bg {c r : Nat → Int32} {h w k n : Nat} {S : Nat → Nat} (H : iv_R c r h w k n S) : (∀ j, j < w → S (4 + j) < h ∧ S (10 + j) ≤ 99 * n + 104) := H.2.2.2.2.2.2.2.2.2.2.1
theorem tR_g {c r : Nat → Int32} {h w k n : Nat} {S : Nat → Nat} (H : iv_R c r h w k n S) : (∀ j, j < w → c (4 + j) = nI (S (4 + j))) := H.2.2.2.2.2.2.2.2.2.2.2.1
theorem tR_a {c r : Nat → Int32} {h w k n : Nat} {S : Nat → Nat} (H : iv_R c r h w k n S) : (∀ j, j < w → c (10 + j) = nI (S (10 + j))) := H.2.2.2.2.2.2.2.2.2.2.2.2.1
theorem tR_s {c r : Nat → Int32} {h w k n : Nat} {S : Nat → Nat} (H : iv_R c r h w k n S) : (∀ j, j < w → r (18 + j) = c (16 + j)) := H.2.2.2.2.2.2.2.2.2.2.2.2.2.1
theorem tR_rp {c r : Nat → Int32} {h w k n : Nat} {S : Nat → Nat} (H : iv_R c r h w k n S) : (∀ j, j < w → r j = (if S (10 + j) ≤ S 0 then nI (S (4 + j)) else -2)) := H.2.2.2.2.2.2.2.2.2.2.2.2.2.2.1
theorem tR_rg {c r : Nat → Int32} {h w k n : Nat} {S : Nat → Nat} (H : iv_R c r h w k n S) : (∀ j, j < w → r (6 + j) = (if S (10 + j) ≤ S 0 then -2 else nI (S (4 + j)))) := H.2.2.2.2.2.2.2.2.2.2.2.2.2.2.2.1
theorem tR_ra {c r : Nat → Int32} {h w k n : Nat} {S : Nat → Nat} (H : iv_R c r h w k n S) : (∀ j, j < w → r (12 + j) = (if S (10 + j) ≤ S 0 then -2 else nI (S (10 + j)))) := H.2.2.2.2.2.2.2.2.2.2.2.2.2.2.2.2.1
theorem tR_le {c r : Nat → Int32} {h w k n : Nat} {S : Nat → Nat} (H : iv_R c r h w k n S) : (∀ j, j < 25 → r (33 + j) = c (22 + j)) := H.2.2.2.2.2.2.2.2.2.2.2.2.2.2.2.2.2
def iv_tape (M : zm_Mem) : Prop := ∃ n, n ≤ 2000 ∧ M.1 1 15 = nI n ∧ M.1 52 2 = nI n ∧ ∀ j, j < n → M.1 2 j = M.1 53 j ∧ ∃ x, M.1 53 j = vp_nar .byte x
/-- the words' numbers: 32 to a letter in the class, 27 in the reference -/
def iv_wn (b : Nat) (s : List Nat) : Nat := s.foldl (fun a c => b * a + (c - 96)) 0
def iv_ws : List (List Nat) := [[104, 111, 117, 115, 101], [119, 111, 114, 107], [116, 101, 114, 109], [116, 114, 105, 112], [108, 105, 107, 101, 115], [108, 97, 116, 101], [99, 111, 117, 114, 105, 101, 114, 115], [115, 101, 101, 100], [105, 102], [116, 104, 101, 110], [101, 108, 115, 101], [110, 111, 114, 116, 104], [119, 97, 108, 108, 115], [107, 105, 110, 100], [118, 97, 108, 117, 101], [109, 97, 110, 121], [115, 97, 109, 101], [104, 111, 109, 101], [119, 104, 105, 99, 104], [100, 97, 121]]
def iv_words (M : zm_Mem) : Prop := ∀ j, j < 20 → M.2.1 7 j = Int64.ofNat (iv_wn 32 (iv_ws.getD j [])) ∧ M.2.1 59 j = Int64.ofNat (iv_wn 27 (iv_ws.getD j []))
def iv_past (M : zm_Mem) (h w k n : Nat) : Prop := ∃ s x, s ≤ 40 ∧ x < 40 ∧ M.1 13 2 = nI s ∧ M.1 52 59 = nI s ∧ M.1 13 1 = nI x ∧ ∀ i, i < s → ∃ S, iv_R (fun j => M.1 14 (47 * ((x + 40 - s + i) % 40) + j)) (fun j => M.1 93 (60 * i + j)) h w k n S
def iv_held (M : zm_Mem) (h w k n : Nat) : Prop := ∃ a, a < 8 ∧ M.1 1 14 = nI a ∧ ∀ s, s < 3 → M.1 101 s = nI (a / 2 ^ s % 2) ∧ (a / 2 ^ s % 2 = 1 → ∃ S, iv_R (fun j => M.1 15 (47 * s + j)) (fun j => M.1 102 (60 * s + j)) h w k n S)
def iv_crates (M : zm_Mem) (w : Nat) : Prop := ∃ s, s ≤ 20 ∧ M.1 16 7 = nI s ∧ M.1 52 65 = nI s ∧ ∀ i, i < s → ∃ a b c, a < w ∧ b ≤ 2 ∧ c ≤ 99 ∧ M.1 17 i = nI a ∧ M.1 98 i = nI a ∧ M.1 18 i = nI b ∧ M.1 99 i = nI b ∧ M.1 19 i = nI c ∧ M.1 100 i = nI c
