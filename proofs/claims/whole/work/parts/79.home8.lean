/-! rounds of the reference, and the answer -/
def VV (W : Nat) (A : Nat → Bool) (f : Nat) : Nat → Nat → Int32
  | 0, w => if w = f then 0 else if A w = true then -1 else -2
  | n + 1, w => if (lvs W A f (n + 1)).1 w = true then nI (n + 1) else VV W A f n w
theorem lvs_mono {W : Nat} {A : Nat → Bool} {f w k n : Nat} (h : k ≤ n) (hk : (lvs W A f k).1 w = true) : (lvs W A f n).2 w = true := by
  obtain ⟨d, rfl⟩ := Nat.exists_eq_add_of_le h
  clear h
  induction d with
  | zero => exact lvs_sub k hk
  | succ d ih => exact lvs_le ih
theorem vv_spec {W : Nat} {A : Nat → Bool} {f w : Nat} : ∀ n, (∃ m, m ≤ n ∧ (lvs W A f m).1 w = true ∧ VV W A f n w = nI m) ∨ ((lvs W A f n).2 w = false ∧ VV W A f n w = if A w = true then -1 else -2)
  | 0 => by
    by_cases h : w = f
    · exact Or.inl ⟨0, by omega, decide_eq_true h, by unfold VV; rw [if_pos h]; rfl⟩
    · exact Or.inr ⟨decide_eq_false h, by unfold VV; rw [if_neg h]⟩
  | n + 1 => by
    unfold VV
    cases hl : (lvs W A f (n + 1)).1 w with
    | true => exact Or.inl ⟨n + 1, by omega, hl, by rw [if_pos rfl]⟩
    | false =>
      rw [if_neg (by decide)]
      rcases vv_spec (W := W) (A := A) (f := f) (w := w) n with ⟨m, h1, h2, h3⟩ | ⟨h1, h2⟩
      · exact Or.inl ⟨m, by omega, h2, h3⟩
      · refine Or.inr ⟨?_, h2⟩
        show ((lvs W A f n).2 w || (lvs W A f (n + 1)).1 w) = false
        rw [h1, hl]; rfl
theorem nI_nm1 {m : Nat} (h : m < 2 ^ 31) : nI m ≠ (-1 : Int32) := fun z => by
  have : ¬ nI m < (0 : Int32) := nI_pos h
  rw [z] at this
  exact this (by decide)
theorem nI_nm2 {m : Nat} (h : m < 2 ^ 31) : nI m ≠ (-2 : Int32) := fun z => by
  have : ¬ nI m < (0 : Int32) := nI_pos h
  rw [z] at this
  exact this (by decide)
theorem vv_k {W : Nat} {A : Nat → Bool} {f w k n : Nat} (hn : n < 100000) (hk : k ≤ n) : VV W A f n w = nI k ↔ (lvs W A f k).1 w = true := by
  rcases vv_spec (W := W) (A := A) (f := f) (w := w) n with ⟨m, h1, h2, h3⟩ | ⟨h1, h2⟩
  · rw [h3, nI_eq (by omega) (by omega)]
    constructor
    · rintro rfl; exact h2
    · intro h
      rcases Nat.lt_trichotomy m k with g | g | g
      · rw [lv_dis g h2] at h; cases h
      · exact g
      · rw [lv_dis g h] at h2; cases h2
  · constructor
    · intro h
      rw [h2] at h
      exfalso
      by_cases ha : A w = true
      · rw [if_pos ha] at h; exact nI_nm1 (by omega) h.symm
      · rw [if_neg ha] at h; exact nI_nm2 (by omega) h.symm
    · intro h
      rw [lvs_mono hk h] at h1; cases h1
theorem vv_m1 {W : Nat} {A : Nat → Bool} {f w n : Nat} (hn : n < 100000) : VV W A f n w = -1 ↔ A w = true ∧ (lvs W A f n).2 w = false := by
  rcases vv_spec (W := W) (A := A) (f := f) (w := w) n with ⟨m, h1, h2, h3⟩ | ⟨h1, h2⟩
  · rw [h3]
    constructor
    · intro h; exact absurd h (nI_nm1 (by omega))
    · rintro ⟨_, h⟩; rw [lvs_mono h1 h2] at h; cases h
  · rw [h2, h1]
    by_cases ha : A w = true
    · rw [if_pos ha]; exact ⟨fun _ => ⟨ha, rfl⟩, fun _ => rfl⟩
    · rw [if_neg ha]; exact ⟨fun z => absurd z (by decide), fun z => absurd z.1 ha⟩
theorem rp_self {W way j : Nat} : rp W way j (dgp 5 way W j) = way := by
  obtain ⟨h, lo, _, h2, h3, _⟩ := rp_form (W := W) (way := way) (j := j)
  rw [h3]; exact h2.symm
theorem lvs_dig {W H : Nat} {A : Nat → Bool} {f : Nat} (hA : ∀ x, A x = true → ∀ j, j < W → dgp 5 x W j < H) (hf : ∀ j, j < W → dgp 5 f W j < H) : ∀ n x, (lvs W A f n).1 x = true → ∀ j, j < W → dgp 5 x W j < H
  | 0, x, h => by
    have : x = f := of_decide_eq_true h
    subst this; exact hf
  | n + 1, x, h => by
    have h' : (A x && !(lvs W A f n).2 x && nbr W (lvs W A f n).1 x) = true := h
    rw [Bool.and_eq_true, Bool.and_eq_true] at h'
    exact hA x h'.1.1
def curV (W : Nat) (A : Nat → Bool) (f n i w : Nat) : Int32 := if w < i ∧ (lvs W A f (n + 1)).1 w = true then nI (n + 1) else VV W A f n w
theorem cur_n {W : Nat} {A : Nat → Bool} {f n i w : Nat} (hn : n < 90000) : curV W A f n i w = nI n ↔ (lvs W A f n).1 w = true := by
  unfold curV
  by_cases h : w < i ∧ (lvs W A f (n + 1)).1 w = true
  · rw [if_pos h, nI_eq (by omega) (by omega)]
    constructor
    · intro z; omega
    · intro z; rw [lv_dis (n := n + 1) (by omega) z] at h; cases h.2
  · rw [if_neg h]; exact vv_k (by omega) (Nat.le_refl _)
theorem nb_eq {W H : Nat} {A : Nat → Bool} {f n i way : Nat} (hH : H ≤ 5) (hn : n < 90000) (hd : ∀ x, (lvs W A f n).1 x = true → ∀ j, j < W → dgp 5 x W j < H) (hv : (lvs W A f n).2 way = false) : anyB (fun j => anyB (fun o => decide (o ≠ dgp 5 way W j) && decide (curV W A f n i (rp W way j o) = nI n)) H) W = nbr W (lvs W A f n).1 way := by
  unfold nbr
  rw [Bool.eq_iff_iff, anyB_iff, anyB_iff]
  constructor
  · rintro ⟨j, hj, h⟩
    obtain ⟨o, ho, h⟩ := anyB_iff.1 h
    rw [Bool.and_eq_true, decide_eq_true_eq, decide_eq_true_eq, cur_n hn] at h
    exact ⟨j, hj, anyB_iff.2 ⟨o, by omega, h.2⟩⟩
  · rintro ⟨j, hj, h⟩
    obtain ⟨o, ho, h⟩ := anyB_iff.1 h
    have hdo := hd _ h j hj
    rw [rp_dig hj ho hj, if_pos rfl] at hdo
    refine ⟨j, hj, anyB_iff.2 ⟨o, hdo, ?_⟩⟩
    rw [Bool.and_eq_true, decide_eq_true_eq, decide_eq_true_eq, cur_n hn]
    refine ⟨fun z => ?_, h⟩
    rw [z, rp_self] at h
    rw [lvs_sub n h] at hv; cases hv
def w95 (x _j : Nat) : Bool := decide (x = 95)
theorem sc_95 {M M' : zm_Mem} (h : Fr w95 M M') : Sc M M' := fr_sc (fun x j h => by
  simp only [w95, decide_eq_true_eq] at h
  subst h; rfl) h
theorem r_round {M : zm_Mem} {t v n k f : Nat} {D : zD} {S : Nat → Nat} {A : Nat → Bool} (hC : Cx M t v D S k) (hn : n < 90000) (hA : ∀ x, A x = true → ∀ j, j < D.1 0 1 → dgp 5 x (D.1 0 1) j < D.1 0 0) (hf : ∀ j, j < D.1 0 1 → dgp 5 f (D.1 0 1) j < D.1 0 0) (hV : ∀ w, w < 5 ^ D.1 0 1 → M.1 95 w = VV (D.1 0 1) A f n w) : ∃ e, zm_lp (fun s => f_X11_home_l123_112 (nI (n + 1)) s.1 s.2.1 s.2.2) (nI 0, nI 0, M) = some e ∧ (e.1 = (if anyB (lvs (D.1 0 1) A f (n + 1)).1 (5 ^ D.1 0 1) = true then 1 else 0) ∧ Fr w95 M e.2 ∧ ∀ w, w < 5 ^ D.1 0 1 → e.2.1 95 w = VV (D.1 0 1) A f (n + 1) w) := by
  have ht := hC.2.1
  have hT := hC.2.2.1
  have hR := hC.2.2.2
  have bI := cx_isT hC
  have bv := tT_v hT
  have bh := tT_bh hT
  have bw := tT_bw hT
  have bk := tT_bk hT
  have hv2 : zm_in (nI v) 2 = true := zm_in_nI (by omega) (by omega)
  have hcv : (nI v).toNatClampNeg = v := nI_clamp (by omega)
  have p5 := p5_le bw
  refine lp_inv (step := fun s => f_X11_home_l123_112 (nI (n + 1)) s.1 s.2.1 s.2.2) (fun i z => z.1 = (if anyB (lvs (D.1 0 1) A f (n + 1)).1 i = true then 1 else 0) ∧ z.2.1 = nI i ∧ Fr w95 M z.2.2 ∧ ∀ w, w < 5 ^ D.1 0 1 → z.2.2.1 95 w = curV (D.1 0 1) A f n i w) _ (5 ^ D.1 0 1) ?_ ?_ ⟨rfl, rfl, fr_rfl _ M, fun w hw => by unfold curV; rw [if_neg (by omega)]; exact hV w hw⟩
  · rintro i ⟨z1, z2, L⟩ hi ⟨p1, p2, p3, p4⟩
    simp only at p1 p2 p3 p4
    subst p1 p2
    have hCL := cx_sc (sc_95 p3) hC
    have hTL := hCL.2.2.1
    have hci : curV (D.1 0 1) A f n i i = VV (D.1 0 1) A f n i := by unfold curV; rw [if_neg (by omega)]
    have s0 : f_X11_home_l123_112 (nI (n + 1)) (if anyB (lvs (D.1 0 1) A f (n + 1)).1 i = true then 1 else 0) (nI i) L = if VV (D.1 0 1) A f n i = (-1 : Int32) then (zm_b1 (f_X11_isNextTo (nI i) (nI n) L) <| fun r158 => if r158 = 0 then (f_X11_home_b179_123_112 (nI i) (if anyB (lvs (D.1 0 1) A f (n + 1)).1 i = true then 1 else 0) L) else (f_X11_home_b179_123_112 (nI i) 1 (zm_sI L 95 i (nI (n + 1))))) else (f_X11_home_b179_123_112 (nI i) (if anyB (lvs (D.1 0 1) A f (n + 1)).1 i = true then 1 else 0) L) := by
      conv => lhs; unfold f_X11_home_l123_112
      rw [tT_live hTL, hv2, zk_true, hcv, tT_rw hTL, r_fives bw, zb1_some, if_neg (nI_ge hi (by omega)), zm_ck_t (zm_in_nI (L := 15625) (by omega) (by omega)), nI_clamp (by omega), p4 i hi, hci, show nI (n + 1) - 1 = nI n from by rw [show (1 : Int32) = nI 1 from rfl, zi_sub (by omega)]; rfl]
      simp only [zv_eq, zm_in_nI (show i < 15625 by omega) (show 15625 < 2 ^ 31 by omega), zk_true]
    have keep : (lvs (D.1 0 1) A f (n + 1)).1 i = false → (f_X11_home_b179_123_112 (nI i) (if anyB (lvs (D.1 0 1) A f (n + 1)).1 i = true then 1 else 0) L) = some (.inl (if anyB (lvs (D.1 0 1) A f (n + 1)).1 (i + 1) = true then 1 else 0, nI (i + 1), L)) ∧ ∀ w, w < 5 ^ D.1 0 1 → L.1 95 w = curV (D.1 0 1) A f n (i + 1) w := by
      intro hl
      refine ⟨?_, fun w hw => ?_⟩
      · unfold f_X11_home_b179_123_112
        simp only [zv_eq]
        rw [nI_k1, anyB_S, hl, Bool.or_false]
      · rw [p4 w hw]
        unfold curV
        by_cases he : w = i
        · subst he; rw [if_neg (by omega), if_neg (by rw [hl]; exact fun z => by cases z.2)]
        · by_cases h : w < i ∧ (lvs (D.1 0 1) A f (n + 1)).1 w = true
          · rw [if_pos h, if_pos ⟨by omega, h.2⟩]
          · rw [if_neg h, if_neg (fun z => h ⟨by omega, z.2⟩)]
    have el : (lvs (D.1 0 1) A f (n + 1)).1 i = (A i && !(lvs (D.1 0 1) A f n).2 i && nbr (D.1 0 1) (lvs (D.1 0 1) A f n).1 i) := rfl
    by_cases hm : VV (D.1 0 1) A f n i = -1
    · obtain ⟨m1, m2⟩ := (vv_m1 (by omega)).1 hm
      have nx := r_nextTo (x := nI n) hCL hi p4
      rw [nb_eq (by omega) hn (fun x => lvs_dig hA hf n x) m2] at nx
      rw [m1, m2, show (true && !false) = true from rfl, Bool.true_and] at el
      cases hb : nbr (D.1 0 1) (lvs (D.1 0 1) A f n).1 i with
      | false =>
        obtain ⟨k1, k2⟩ := keep (by rw [el, hb])
        refine Or.inl ⟨(if anyB (lvs (D.1 0 1) A f (n + 1)).1 (i + 1) = true then 1 else 0, nI (i + 1), L), ?_, rfl, rfl, p3, k2⟩
        show f_X11_home_l123_112 (nI (n + 1)) _ (nI i) L = _
        rw [s0, if_pos hm, nx, hb, if_neg (c := false = true) (by decide), zb1_some, if_pos rfl, k1]
      | true =>
        refine Or.inl ⟨((if anyB (lvs (D.1 0 1) A f (n + 1)).1 (i + 1) = true then 1 else 0), nI (i + 1), zm_sI L 95 i (nI (n + 1))), ?_, rfl, rfl, fr_tr p3 (fr_sI rfl), fun w hw => ?_⟩
        · show f_X11_home_l123_112 (nI (n + 1)) _ (nI i) L = _
          rw [s0, if_pos hm, nx, hb, if_pos (c := true = true) rfl, zb1_some, if_neg (by decide), anyB_S, el, hb, Bool.or_true, if_pos (c := true = true) rfl]
          unfold f_X11_home_b179_123_112
          simp only [zv_eq]
          rw [nI_k1]
        · show (zm_sI L 95 i (nI (n + 1))).1 95 w = _
          rw [mI1]
          by_cases he : w = i
          · subst he
            rw [if_pos ⟨rfl, rfl⟩]
            unfold curV
            rw [if_pos ⟨by omega, by rw [el, hb]⟩]
          · rw [if_neg (fun z => he z.2), p4 w hw]
            unfold curV
            by_cases h : w < i ∧ (lvs (D.1 0 1) A f (n + 1)).1 w = true
            · rw [if_pos h, if_pos ⟨by omega, h.2⟩]
            · rw [if_neg h, if_neg (fun z => h ⟨by omega, z.2⟩)]
    · obtain ⟨k1, k2⟩ := keep (by
        rw [el]
        cases ha : A i with
        | false => rfl
        | true =>
          cases hv : (lvs (D.1 0 1) A f n).2 i with
          | true => rfl
          | false => exact absurd ((vv_m1 (by omega)).2 ⟨ha, hv⟩) hm)
      refine Or.inl ⟨(if anyB (lvs (D.1 0 1) A f (n + 1)).1 (i + 1) = true then 1 else 0, nI (i + 1), L), ?_, rfl, rfl, p3, k2⟩
      show f_X11_home_l123_112 (nI (n + 1)) _ (nI i) L = _
      rw [s0, if_neg hm, k1]
  · rintro ⟨z1, z2, L⟩ ⟨p1, p2, p3, p4⟩
    simp only at p1 p2 p3 p4
    subst p1 p2
    have hTL := (cx_sc (sc_95 p3) hC).2.2.1
    refine ⟨((if anyB (lvs (D.1 0 1) A f (n + 1)).1 (5 ^ D.1 0 1) = true then 1 else 0), L), ?_, rfl, p3, fun w hw => ?_⟩
    · show f_X11_home_l123_112 (nI (n + 1)) _ (nI (5 ^ D.1 0 1)) L = _
      unfold f_X11_home_l123_112
      rw [tT_live hTL, hv2, zk_true, hcv, tT_rw hTL, r_fives bw, zb1_some, if_pos (nI_le (Nat.le_refl _) (by omega))]
    · show L.1 95 w = _
      rw [p4 w hw]
      unfold curV
      conv => rhs; unfold VV
      by_cases h : (lvs (D.1 0 1) A f (n + 1)).1 w = true
      · rw [if_pos ⟨hw, h⟩, if_pos h]
      · rw [if_neg (fun z => h z.2), if_neg h]
