/-! the survey made -/
def zeL (M : zm_Mem) (a N : Nat) : zm_Mem := (M.1, fun x j => if x = a ∧ j < N then 0 else M.2.1 x j, M.2.2)
theorem zeL_s (M : zm_Mem) (a i : Nat) : zm_sL (zeL M a i) a i 0 = zeL M a (i + 1) := by
  refine Prod.ext rfl (Prod.ext ?_ rfl)
  funext x j
  show (if x = a ∧ j = i then (0 : Int64) else if x = a ∧ j < i then 0 else M.2.1 x j) = if x = a ∧ j < i + 1 then 0 else M.2.1 x j
  by_cases h : x = a ∧ j = i
  · rw [if_pos h, if_pos ⟨h.1, by omega⟩]
  · rw [if_neg h]
    by_cases h2 : x = a ∧ j < i
    · rw [if_pos h2, if_pos ⟨h2.1, by omega⟩]
    · rw [if_neg h2, if_neg (fun z => by
        by_cases h3 : j = i
        · exact h ⟨z.1, h3⟩
        · exact h2 ⟨z.1, by omega⟩)]
theorem fillL_eq {M : zm_Mem} {a N : Nat} (hN : (zm_sh a).2 = N) (hb : N < 2 ^ 31) : f_J7_fill_d0a16 a 0 M = some ((), zeL M a N) := by
  have key : zm_lp (fun s => f_J7_fill_d0a16_l6 a 0 (nI N) s.1 s.2) (nI 0, M) = some (zeL M a N) := by
    have := lp_for (step := fun s => f_J7_fill_d0a16_l6 a 0 (nI N) s.1 s.2) (fun i => (nI i, zeL M a i)) N (e := zeL M a N) (fun i hi => by
      show f_J7_fill_d0a16_l6 a 0 (nI N) (nI i) (zeL M a i) = _
      unfold f_J7_fill_d0a16_l6
      rw [if_neg (nI_ge hi hb), hN, zm_ck_t (zm_in_nI hi hb), nI_clamp (by omega)]
      simp only [zv_eq]
      rw [nI_k1, zeL_s]) (by
      show f_J7_fill_d0a16_l6 a 0 (nI N) (nI N) (zeL M a N) = _
      unfold f_J7_fill_d0a16_l6
      rw [if_pos (nI_le (Nat.le_refl _) hb)])
    have e0 : zeL M a 0 = M := by
      refine Prod.ext rfl (Prod.ext ?_ rfl)
      funext x j
      exact if_neg (by omega)
    rw [e0] at this
    exact this
  unfold f_J7_fill_d0a16
  simp only [zv_eq]
  have key' : zm_lp (fun s => f_J7_fill_d0a16_l6 a 0 (Int32.ofNat N) s.1 s.2) (0, M) = some (zeL M a N) := key
  rw [hN, key']; rfl
def wMk (x j : Nat) : Bool := decide (x = 103) || (decide (x = 106) || (decide (x = 111) || (wHg x j || wC x j)))
theorem wMk_T : ∀ x j, wMk x j = true → c_T x j = false := by
  intro x j h
  simp only [wMk, Bool.or_eq_true, decide_eq_true_eq] at h
  rcases h with rfl | rfl | rfl | h | h
  · rfl
  · rfl
  · rfl
  · exact wHg_T x j h
  · simp only [wC, Bool.or_eq_true, Bool.and_eq_true, decide_eq_true_eq] at h
    rcases h with rfl | ⟨rfl, _⟩ <;> rfl
def wBd (x j : Nat) : Bool := decide (x = 106) || (decide (x = 111) || ((decide (x = 103) && decide (j = 9)) || wC x j))
theorem wBd_cx {M M' : zm_Mem} {t v n : Nat} {D : zD} {S : Nat → Nat} (h : Fr wBd M M') (hC : Cx M t v D S n) : Cx M' t v D S n := cx_fg (fg_fr h) (fun x j h => by
  refine wMk_T x j ?_
  simp only [wBd, wMk, Bool.or_eq_true, Bool.and_eq_true, decide_eq_true_eq] at h ⊢
  rcases h with h | h | h | h
  · exact Or.inr (Or.inl h)
  · exact Or.inr (Or.inr (Or.inl h))
  · exact Or.inl h.1
  · exact Or.inr (Or.inr (Or.inr (Or.inr h)))) (fun _ => rfl) (fun _ => rfl) hC
theorem wBd_sn {M M' : zm_Mem} {t dy : Nat} {D : zD} {a : Nat → Bool} {g : Nat → Nat} (hF : Fr wBd M M') (h : Sn M t D a g dy) : Sn M' t D a g dy := ⟨by rw [hF.1]; exact h.1, (hF.2 49 8 rfl).trans h.2.1, fun j hj => (hF.2 51 j rfl).trans (h.2.2 j hj)⟩
def s0V : zV := (fun _ => false, fun _ => false, fun _ => false, 0, 7, 0)
def finV (D : zD) (li dy : Nat) (a : Nat → Bool) (g : Nat → Nat) : zV := fo (hwF D li dy a g) 0 (5 ^ D.1 0 1) s0V
theorem c_make {M : zm_Mem} {t v n li dy : Nat} {D : zD} {S : Nat → Nat} {a : Nat → Bool} {g : Nat → Nat} (hn : n < 512) (hC : Cx M t v D S n) (hS : Sn M t D a g dy) (hg : ∀ j, j < D.1 0 1 → g j < 5) (h109 : M.1 109 = fun _ => 0) (h110 : M.1 110 = fun _ => 0) : ∃ M', f_X6_make t (nI (stn D li)) M = some ((), M') ∧ Fg wMk (zm_sP M 103 10 t) M' ∧ M'.1 109 = (fun _ => 0) ∧ M'.1 110 = (fun _ => 0) ∧ M'.1 103 11 = nI (stn D li) ∧ SvR M' (D.1 0 1) (finV D li dy a g) := by
  have ht := hC.2.1
  have hT := hC.2.2.1
  have hR := hC.2.2.2
  have bI := cx_isT hC
  have bv := tT_v hT
  have bh := tT_bh hT
  have bw := tT_bw hT
  have bk := tT_bk hT
  generalize hA : zm_sI (zm_sI (zm_sI (zm_sL (zeL (zeL (zm_sI (zm_sP M 103 10 t) 103 11 (nI (stn D li))) 104 625) 105 625) 103 12 0) 103 13 (nI 0)) 103 14 (nI 7)) 103 9 (nI 0) = A
  have a1 : ∀ x j, x ≠ 103 → A.1 x j = M.1 x j := by
    intro x j hx
    rw [← hA, mI1, if_neg (fun z => hx z.1), mI1, if_neg (fun z => hx z.1), mI1, if_neg (fun z => hx z.1), mL1]
    show (zm_sI (zm_sP M 103 10 t) 103 11 (nI (stn D li))).1 x j = _
    rw [mI1, if_neg (fun z => hx z.1)]
    rfl
  have a10 : A.2.2 103 10 = t := by rw [← hA]; rfl
  have aP : A.2.2 = (zm_sP M 103 10 t).2.2 := by rw [← hA]; rfl
  have aL : ∀ x j, A.2.1 x j = if x = 103 ∧ j = 12 then 0 else if x = 105 ∧ j < 625 then 0 else if x = 104 ∧ j < 625 then 0 else M.2.1 x j := fun x j => by rw [← hA]; rfl
  have a103 : ∀ j, A.1 103 j = if j = 9 then nI 0 else if j = 14 then nI 7 else if j = 13 then nI 0 else if j = 11 then nI (stn D li) else M.1 103 j := fun j => by
    rw [← hA, mI1, mI1, mI1, mL1]
    show (if 103 = 103 ∧ j = 9 then nI 0 else if 103 = 103 ∧ j = 14 then nI 7 else if 103 = 103 ∧ j = 13 then nI 0 else (zm_sI (zm_sP M 103 10 t) 103 11 (nI (stn D li))).1 103 j) = _
    rw [mI1]
    simp only [true_and]
    rfl
  have fA : Fg wMk (zm_sP M 103 10 t) A := by
    refine ⟨aP, fun x j hw => ?_, fun x j hw => ?_⟩
    · refine a1 x j (fun z => ?_)
      rw [z] at hw; cases hw
    · rw [aL]
      simp only [wMk, wHg, wKr, Bool.or_eq_false_iff, Bool.and_eq_false_iff, decide_eq_false_iff_not] at hw
      rw [if_neg (fun z => hw.1 z.1), if_neg (fun z => by omega), if_neg (fun z => by omega)]
      rfl
  have hCA : Cx A t v D S n := ⟨hC.1, by rw [aP]; exact ht, iT_eq hC.1 (fun x j hc => a1 x j (fun z => by rw [z] at hc; cases hc)) hT, by
    rw [show A.1 12 = M.1 12 from funext fun j => a1 12 j (by omega), show A.1 91 = M.1 91 from funext fun j => a1 91 j (by omega)]; exact hR⟩
  have hSA : Sn A t D a g dy := ⟨by rw [aP]; exact hS.1, (a1 49 8 (by omega)).trans hS.2.1, fun j hj => (a1 51 j (by omega)).trans (hS.2.2 j hj)⟩
  have a11 : A.1 103 11 = nI (stn D li) := by rw [a103]; rfl
  have key : ∃ e, zm_lp (fun z => f_X6_make_l49 z.1 z.2) (nI 0, A) = some e ∧ (Fr wBd A e ∧ ∃ nb bd, BdR e D li dy nb bd) := by
    have hx := lp_inv (step := fun z => f_X6_make_l49 z.1 z.2) (fun i z => z.1 = nI i ∧ Fr wBd A z.2 ∧ ∃ (nb : Nat) (bd : Nat → Nat), nb ≤ i ∧ z.2.1 103 9 = nI nb ∧ (∀ k, k < nb → bd k < i ∧ z.2.1 111 k = nI (bd k) ∧ FbD D li dy (bd k) (D.1 0 0) 0 0 z.2) ∧ ∀ w, w < i → stF D li w ≠ 0 → ∃ k, k < nb ∧ bd k = w) (fun e => Fr wBd A e ∧ ∃ nb bd, BdR e D li dy nb bd) (D.1 0 1) ?_ ?_ (s := (nI 0, A)) ⟨rfl, fr_rfl _ A, 0, fun _ => 0, Nat.le_refl _, by rw [a103]; rfl, fun k hk => by omega, fun w hw => by omega⟩
    · exact hx
    · rintro i ⟨z1, L⟩ hi ⟨p1, p2, nb, bd, p3, p4, p5, p6⟩
      simp only at p1 p2 p4 p5
      subst p1
      have hCL := wBd_cx p2 hCA
      have hTL := hCL.2.2.1
      have hSL := wBd_sn p2 hSA
      have l10 : L.2.2 103 10 = t := by rw [p2.1]; exact a10
      have l11 : L.1 103 11 = nI (stn D li) := (p2.2 103 11 rfl).trans a11
      have est : nI (bitsOf (fun j => decide (D.1 7 j = i)) (D.1 0 2)) &&& nI (stn D li) = nI (stF D li i) := by
        rw [zi_and]
        unfold stn stF
        rw [bitsOf_and]
      have h64 : stF D li i < 64 := bitsOf_le _ bk
      refine Or.inl ?_
      by_cases hz : stF D li i = 0
      · refine ⟨(nI (i + 1), L), ?_, rfl, p2, nb, bd, by omega, p4, fun k hk => ?_, fun w hw hne => ?_⟩
        · show f_X6_make_l49 (nI i) L = _
          unfold f_X6_make_l49 f_X6_make_b107_49
          simp only [zv_eq]
          rw [l10, bI, zk_true, tT_w hTL, if_neg (nI_ge hi (by omega)), zk_true, c_termsOf hCL hn (by omega), zb1_some, l11, est, hz, if_pos (by rfl), nI_k1]
        · obtain ⟨q1, q2, q3⟩ := p5 k hk
          exact ⟨by omega, q2, q3⟩
        · by_cases hwi : w = i
          · subst hwi; exact absurd hz hne
          · exact p6 w (by omega) hne
      · generalize hB : zm_sI (zm_sI L 111 nb (nI i)) 103 9 (nI (nb + 1)) = B
        have fB : Fr wBd L B := by rw [← hB]; exact fr_tr (fr_sI rfl) (fr_sI rfl)
        have hCB := wBd_cx (fr_tr p2 fB) hCA
        have hSB := wBd_sn (fr_tr p2 fB) hSA
        have b10 : B.2.2 103 10 = t := by rw [fB.1]; exact l10
        obtain ⟨N, g1, g2, g3, g4⟩ := c_fill (li := li) hCB hSB b10 hi
        have fN : Fr wBd B N := fr_mono (fun x j h => by
          unfold wFb at h
          unfold wBd
          cases hx : decide (x = 106) with
          | true => rfl
          | false => rw [hx, Bool.false_or] at h; rw [h, Bool.or_true, Bool.or_true, Bool.or_true]) g2
        have n111 : ∀ k, N.1 111 k = if k = nb then nI i else L.1 111 k := fun k => by
          rw [g2.2 111 k rfl, ← hB, mI1, if_neg (by omega), mI1]
          by_cases hk : k = nb
          · rw [if_pos ⟨rfl, hk⟩, if_pos hk]
          · rw [if_neg (fun z => hk z.2), if_neg hk]
        have n106 : ∀ k, k < i * 180 → N.1 106 k = L.1 106 k := fun k hk => by
          rw [g3 k (Or.inl hk), ← hB, mI1, if_neg (by omega), mI1, if_neg (by omega)]
        refine ⟨(nI (i + 1), N), ?_, rfl, fr_tr p2 (fr_tr fB fN), nb + 1, fun k => if k = nb then i else bd k, by omega, ?_, fun k hk => ?_, fun w hw hne => ?_⟩
        · show f_X6_make_l49 (nI i) L = _
          have lz : ∀ v, (zm_sI L 111 nb v).1 103 9 = nI nb := fun v => by rw [mI1, if_neg (by omega)]; exact p4
          unfold f_X6_make_l49 f_X6_make_b107_49
          simp only [zv_eq]
          rw [l10, bI, zk_true, tT_w hTL, if_neg (nI_ge hi (by omega)), zk_true, c_termsOf hCL hn (by omega), zb1_some, l11, est, if_neg (show ¬ nI (stF D li i) = 0 from nI_ne0 (by omega) (by omega)), p4, zm_ck_t (zm_in_nI (by omega) (by omega)), nI_clamp (by omega), lz, nI_k1, hB, g1, zb2_some, nI_k1]
        · show N.1 103 9 = _
          rw [g2.2 103 9 rfl, ← hB, mI1, if_pos ⟨rfl, rfl⟩]
        · show (if k = nb then i else bd k) < i + 1 ∧ N.1 111 k = nI (if k = nb then i else bd k) ∧ FbD D li dy (if k = nb then i else bd k) (D.1 0 0) 0 0 N
          by_cases hk2 : k = nb
          · rw [if_pos hk2, n111, if_pos hk2]
            exact ⟨by omega, rfl, g4⟩
          · rw [if_neg hk2, n111, if_neg hk2]
            obtain ⟨q1, q2, q3⟩ := p5 k (by omega)
            refine ⟨by omega, q2, fun x' m' s' k1 k2 k3 k4 k5 => ?_⟩
            have e2 : bix (bd k) x' m' s' = 180 * bd k + 36 * x' + 6 * m' + s' := by unfold bix; omega
            have hm6 : m' < 6 := by unfold rmx at k3; omega
            rw [n106 _ (by omega)]; exact q3 x' m' s' k1 k2 k3 k4 k5
        · by_cases hwi : w = i
          · exact ⟨nb, by omega, by show (if nb = nb then i else bd nb) = w; rw [if_pos rfl, hwi]⟩
          · obtain ⟨k, hk, hb⟩ := p6 w (by omega) hne
            exact ⟨k, by omega, (if_neg (show ¬ k = nb by omega)).trans hb⟩
    · rintro ⟨z1, L⟩ ⟨p1, p2, nb, bd, p3, p4, p5, p6⟩
      simp only at p1 p2 p4 p5
      subst p1
      have hTL := (wBd_cx p2 hCA).2.2.1
      have l10 : L.2.2 103 10 = t := by rw [p2.1]; exact a10
      refine ⟨L, ?_, p2, nb, bd, by omega, p4, fun k hk => ?_, p6⟩
      · show f_X6_make_l49 (nI (D.1 0 1)) L = _
        unfold f_X6_make_l49
        simp only [zv_eq]
        rw [l10, bI, zk_true, tT_w hTL, if_pos (nI_le (Nat.le_refl _) (by omega))]
      · exact p5 k hk
  obtain ⟨Z, k1, k2, nb, bd, k3⟩ := key
  have hCZ := wBd_cx k2 hCA
  have hSZ := wBd_sn k2 hSA
  have z10 : Z.2.2 103 10 = t := by rw [k2.1]; exact a10
  have z109 : ∀ j, Z.1 109 j = 0 := fun j => by rw [k2.2 109 j rfl, a1 109 j (by omega), h109]
  have z110 : ∀ j, Z.1 110 j = 0 := fun j => by rw [k2.2 110 j rfl, a1 110 j (by omega), h110]
  have zL : Z.2.1 = A.2.1 := by rw [k2.1]
  obtain ⟨M', g1, g2, g3, g4, g5, g6⟩ := c_hang (li := li) (dy := dy) hg (D.1 0 1) 0 (by omega) 8 0 Z s0V (by omega) ⟨hCZ, hSZ, z10, k3⟩ (by
      rw [rmP_iff]
      exact ⟨fun j hj => by omega, fun x _ => Nat.zero_le _⟩) (fun j hj => by omega) (fun x _ => z109 x) (fun x k _ _ => z110 _) ⟨fun x hx => by rw [zL, aL, if_pos ⟨rfl, rfl⟩]; exact lb_0 _, fun q hq => by rw [zL, aL, if_neg (by omega), if_neg (by omega), if_pos ⟨rfl, by omega⟩]; exact lb_0 _, fun q hq => by rw [zL, aL, if_neg (by omega), if_pos ⟨rfl, by omega⟩]; exact lb_0 _, by rw [k2.2 103 13 rfl, a103]; rfl, by rw [k2.2 103 14 rfl, a103]; rfl, Nat.le_refl _, fun h => absurd h (by decide)⟩
  have m1 : Fg wMk A Z := fg_mono (fun x j h => by
    simp only [wBd, wMk, Bool.or_eq_true, Bool.and_eq_true, decide_eq_true_eq] at h ⊢
    rcases h with h | h | h | h
    · exact Or.inr (Or.inl h)
    · exact Or.inr (Or.inr (Or.inl h))
    · exact Or.inl h.1
    · exact Or.inr (Or.inr (Or.inr (Or.inr h)))) (fg_fr k2)
  have m2 : Fg wMk Z M' := fg_mono (fun x j h => by unfold wMk; rw [h, Bool.true_or, Bool.or_true, Bool.or_true, Bool.or_true]) g2
  refine ⟨M', ?_, fg_tr fA (fg_tr m1 m2), by rw [g4]; exact funext z109, by rw [g5]; exact funext z110, ?_, ?_⟩
  · unfold f_X6_make
    simp only [zv_eq]
    rw [fillL_eq (N := 625) rfl (by omega), zb2_some, fillL_eq (N := 625) rfl (by omega), zb2_some, show (0 : Int32) = nI 0 from rfl, show (7 : Int32) = nI 7 from rfl, hA]
    have k1' : zm_lp (fun s => f_X6_make_l49 s.1 s.2) (nI 0, A) = some Z := k1
    rw [k1']
    simp only [Option.bind_some]
    unfold f_X6_make_x113_49 f_X6_hangR
    have g1' : fr_X6_hang 8 0 0 0 0 Z = some ((), M') := g1
    rw [g1']; rfl
  · rw [g2.2.1 103 11 rfl, k2.2 103 11 rfl]; exact a11
  · rw [Nat.zero_mul] at g6; exact g6
