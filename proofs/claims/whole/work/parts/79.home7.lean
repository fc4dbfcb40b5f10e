/-! the way home in the reference -/
def aHm (D : zD) (li dy : Nat) (k : Int32) (w : Nat) : Bool := if k = 0 then rmP D (D.1 0 1) w else hgB D li dy w
def wFm (x j : Nat) : Bool := decide (x = 95) || wHn x j
theorem sc_Fm {M M' : zm_Mem} (h : Fr wFm M M') : Sc M M' := fr_sc (fun x j h => by
  simp only [wFm, Bool.or_eq_true, decide_eq_true_eq] at h
  rcases h with rfl | h
  · rfl
  · exact wHn_iv h) h
theorem fr_HF {M M' : zm_Mem} (h : Fr wHn M M') : Fr wFm M M' := fr_mono (fun x j h => by unfold wFm; rw [h, Bool.or_true]) h
theorem r_fillMay {M : zm_Mem} {t v n : Nat} {D : zD} {S : Nat → Nat} {a1 : Int32} (hC : Cx M t v D S n) : ∃ N, f_X11_fillsMayBe a1 M = some ((), N) ∧ Sc M N ∧ ∀ w, w < 5 ^ D.1 0 1 → N.1 95 w = if aHm D (S 3) (S 0) a1 w = true then -1 else -2 := by
  have ht := hC.2.1
  have hT := hC.2.2.1
  have hR := hC.2.2.2
  have bI := cx_isT hC
  have bv := tT_v hT
  have bh := tT_bh hT
  have bw := tT_bw hT
  have bk := tT_bk hT
  obtain ⟨P, c1, c2, c3, c4, c5, c6⟩ := r_cp hC
  have hCP := cx_sc c2 hC
  have hv2 : zm_in (nI v) 2 = true := zm_in_nI (by omega) (by omega)
  have hcv : (nI v).toNatClampNeg = v := nI_clamp (by omega)
  have p5 := p5_le bw
  have key : ∃ N, zm_lp (fun s => f_X11_fillsMayBe_l6 a1 s.1 s.2) (nI 0, P) = some N ∧ (Fr wFm P N ∧ ∀ w, w < 5 ^ D.1 0 1 → N.1 95 w = if aHm D (S 3) (S 0) a1 w = true then -1 else -2) := by
    refine lp_inv (step := fun s => f_X11_fillsMayBe_l6 a1 s.1 s.2) (fun i z => z.1 = nI i ∧ Fr wFm P z.2 ∧ RwS z.2 D (S 0) (S 3) ∧ ∀ w, w < i → z.2.1 95 w = if aHm D (S 3) (S 0) a1 w = true then -1 else -2) _ (5 ^ D.1 0 1) ?_ ?_ ⟨rfl, fr_rfl _ P, rws_of c3, fun w hw => by omega⟩
    · rintro i ⟨z, L⟩ hi ⟨p1, p2, p3, p4⟩
      simp only at p1 p2 p3 p4
      subst p1
      have hCL := cx_sc (sc_Fm p2) hCP
      have hTL := hCL.2.2.1
      obtain ⟨L1, k1, k2, k3, k4⟩ := r_hangs hCL p3 hi
      have fin : ∀ (K : zm_Mem) (x : Int32), Fr wHn L K → RwS K D (S 0) (S 3) → x = (if aHm D (S 3) (S 0) a1 i = true then -1 else -2) → f_X11_fillsMayBe_b57_6 (nI i) (nI i) x K = some (.inl (nI (i + 1), zm_sI K 95 i x)) ∧ (Fr wFm P (zm_sI K 95 i x) ∧ RwS (zm_sI K 95 i x) D (S 0) (S 3) ∧ ∀ w, w < i + 1 → (zm_sI K 95 i x).1 95 w = if aHm D (S 3) (S 0) a1 w = true then -1 else -2) := by
        intro K x hK hR' hx
        refine ⟨?_, fr_tr p2 (fr_tr (fr_HF hK) (fr_sI rfl)), ⟨?_, fun j hj => ?_⟩, fun w hw => ?_⟩
        · unfold f_X11_fillsMayBe_b57_6
          rw [zm_ck_t (zm_in_nI (by omega) (by omega)), nI_clamp (by omega)]
          simp only [zv_eq]
          rw [nI_k1]
        · rw [mI1, if_neg (by omega)]; exact hR'.1
        · rw [mI1, if_neg (by omega)]; exact hR'.2 j hj
        · rw [mI1]
          by_cases h : w = i
          · subst h; rw [if_pos ⟨rfl, rfl⟩]; exact hx
          · rw [if_neg (fun z => h z.2), hK.2 95 w rfl]; exact p4 w (by omega)
      have start : ∃ K x, f_X11_fillsMayBe_l6 a1 (nI i) L = f_X11_fillsMayBe_b57_6 (nI i) (nI i) x K ∧ Fr wHn L K ∧ RwS K D (S 0) (S 3) ∧ x = (if aHm D (S 3) (S 0) a1 i = true then -1 else -2) := by
        unfold f_X11_fillsMayBe_l6 f_X11_fillsMayBe_b55_6 f_X11_fillsMayBe_b51_6 aHm
        rw [tT_live hTL, hv2, zk_true, hcv, tT_rw hTL, r_fives bw, zb1_some, if_neg (nI_ge hi (by omega)), k1, zb2_some]
        cases hp : rmP D (D.1 0 1) i with
        | false =>
          refine ⟨L1, -2, ?_, k2, k3, ?_⟩
          · rw [if_neg (c := false = true) (by decide), if_pos (by rfl)]
          · unfold hgB
            rw [hp, Bool.false_and]
            split <;> rfl
        | true =>
          rw [if_pos (c := true = true) rfl, if_neg (by decide)]
          by_cases ha : a1 = 0
          · refine ⟨L1, -1, ?_, k2, k3, ?_⟩
            · rw [if_pos ha]
            · rw [if_pos ha]; rfl
          · have hC1 := cx_sc (sc_Hn k2) hCL
            obtain ⟨M2, e2, f2⟩ := r_brokenAll hC1 k4 hp
            have w2 := rw_Q f2 k4
            have hlt : rbF D (S 3) (S 0) (dgp 5 i (D.1 0 1)) < 64 := bitsOf_le _ bk
            refine ⟨M2, if hgB D (S 3) (S 0) i = true then -1 else -2, ?_, fr_tr k2 (fr_QH f2), ⟨w2.1, w2.2.2⟩, ?_⟩
            · rw [if_neg ha, e2, zb2_some, r_standing (cx_Q f2 hC1) w2, zb1_some, zi_and, rbA_st]
              unfold hgB
              rw [hp, Bool.true_and]
              by_cases hz : rbF D (S 3) (S 0) (dgp 5 i (D.1 0 1)) = 0
              · rw [hz, if_pos (by rfl), decide_eq_true rfl, if_pos rfl]
              · rw [if_neg (show ¬ nI (rbF D (S 3) (S 0) (dgp 5 i (D.1 0 1))) = 0 from nI_ne0 (by omega) (by omega)), decide_eq_false hz, if_neg (by decide)]
            · rw [if_neg ha]
      obtain ⟨K, x, s1, s2, s3, s4⟩ := start
      obtain ⟨f1, f2⟩ := fin K x s2 s3 s4
      exact Or.inl ⟨_, by show f_X11_fillsMayBe_l6 a1 (nI i) L = _; rw [s1, f1], rfl, f2⟩
    · rintro ⟨z, L⟩ ⟨p1, p2, p3, p4⟩
      simp only at p1 p2 p3 p4
      subst p1
      have hTL := (cx_sc (sc_Fm p2) hCP).2.2.1
      refine ⟨L, ?_, p2, p4⟩
      show f_X11_fillsMayBe_l6 a1 (nI (5 ^ D.1 0 1)) L = _
      unfold f_X11_fillsMayBe_l6
      rw [tT_live hTL, hv2, zk_true, hcv, tT_rw hTL, r_fives bw, zb1_some, if_pos (nI_le (Nat.le_refl _) (by omega))]
  obtain ⟨N, k1, k2, k3⟩ := key
  refine ⟨N, ?_, sc_tr c2 (sc_Fm k2), k3⟩
  unfold f_X11_fillsMayBe
  rw [c1, zb2_some]
  have k1' : zm_lp (fun s => f_X11_fillsMayBe_l6 a1 s.1 s.2) (0, P) = some N := k1
  rw [k1']; rfl
theorem rp_i {W way j o : Nat} : nI way + (nI o - nI (dgp 5 way W j)) * nI (5 ^ (W - 1 - j)) = nI (rp W way j o) := by
  obtain ⟨h, lo, h1, h2, h3, _⟩ := rp_form (W := W) (way := way) (j := j)
  have e : rp W way j o + dgp 5 way W j * 5 ^ (W - 1 - j) = way + o * 5 ^ (W - 1 - j) := by
    rw [h3]
    conv => rhs; rw [h2]
    rw [Nat.add_mul, Nat.add_mul]; omega
  have e' : nI (rp W way j o) + nI (dgp 5 way W j) * nI (5 ^ (W - 1 - j)) = nI way + nI o * nI (5 ^ (W - 1 - j)) := by
    rw [pk_mul, pk_mul, nI_add, nI_add, e]
  rw [Int32.sub_mul, Int32.sub_eq_add_neg, ← Int32.add_assoc, ← e', Int32.add_assoc, ← Int32.sub_eq_add_neg, Int32.sub_self, Int32.add_zero]
theorem r_nextTo {M : zm_Mem} {t v n way : Nat} {D : zD} {S : Nat → Nat} {V : Nat → Int32} {x : Int32} (hC : Cx M t v D S n) (hw : way < 5 ^ D.1 0 1) (hV : ∀ w, w < 5 ^ D.1 0 1 → M.1 95 w = V w) : f_X11_isNextTo (nI way) x M = some (if anyB (fun j => anyB (fun o => decide (o ≠ dgp 5 way (D.1 0 1) j) && decide (V (rp (D.1 0 1) way j o) = x)) (D.1 0 0)) (D.1 0 1) = true then 1 else 0) := by
  have ht := hC.2.1
  have hT := hC.2.2.1
  have hR := hC.2.2.2
  have bI := cx_isT hC
  have bv := tT_v hT
  have bh := tT_bh hT
  have bw := tT_bw hT
  have bk := tT_bk hT
  have hv2 : zm_in (nI v) 2 = true := zm_in_nI (by omega) (by omega)
  have hcv : (nI v).toNatClampNeg = v := nI_clamp (by omega)
  have p5 := p5_le bw
  unfold f_X11_isNextTo
  refine lp_any (ε := Int32) (st := f_X11_isNextTo_l2 (nI way) x M) _ (D.1 0 1) (fun j hj => ?_) ?_ 1 0
  · have hd := dgp_lt (B := 5) (by omega) way (D.1 0 1) j
    have inner := lp_any (ε := Int32 ⊕ (Unit ⊕ Unit)) (st := f_X11_isNextTo_l44_2 (nI way) x M (nI (5 ^ (D.1 0 1 - 1 - j))) (nI (dgp 5 way (D.1 0 1) j))) (fun o => decide (o ≠ dgp 5 way (D.1 0 1) j) && decide (V (rp (D.1 0 1) way j o) = x)) (D.1 0 0) (fun o ho => by
      have hlt := rp_lt (o := o) hj (by omega) hw
      unfold f_X11_isNextTo_l44_2 f_X11_isNextTo_b86_44_2
      rw [tT_live hT, hv2, zk_true, hcv, tT_rh hT, if_neg (nI_ge ho (by omega)), rp_i, nI_clamp (by omega), hV _ hlt, nI_k1]
      simp only [zv_eq]
      by_cases he : o = dgp 5 way (D.1 0 1) j
      · rw [if_pos (by rw [← he]), decide_eq_false (fun z => z he), Bool.false_and, if_neg (by decide)]
      · rw [if_neg (fun z => he ((nI_eq (by omega) (by omega)).1 z)), decide_eq_true he, Bool.true_and, zm_ck_t (zm_in_nI (by omega) (by omega))]
        by_cases hx : V (rp (D.1 0 1) way j o) = x
        · rw [if_pos hx, decide_eq_true hx, if_pos rfl]
        · rw [if_neg hx, decide_eq_false hx, if_neg (by decide)]) (by
      unfold f_X11_isNextTo_l44_2
      rw [tT_live hT, hv2, zk_true, hcv, tT_rh hT, if_pos (nI_le (Nat.le_refl _) (by omega))]) (.inr (.inl ())) (.inl (nI (j + 1)))
    unfold f_X11_isNextTo_l2
    rw [tT_live hT, hv2, zk_true, hcv, tT_rw hT, if_neg (nI_ge hj (by omega)), zk_true, show nI (D.1 0 1) - 1 - nI j = nI (D.1 0 1 - 1 - j) by rw [show nI (D.1 0 1) - 1 = nI (D.1 0 1 - 1) from zi_sub (b := 1) (by omega), zi_sub (by omega)], r_fives (by omega), zb1_some, r_houseIn hC (by omega) hj, zb1_some, nI_k1]
    simp only [zv_eq]
    refine Eq.trans inner ?_
    split <;> rfl
  · unfold f_X11_isNextTo_l2
    rw [tT_live hT, hv2, zk_true, hcv, tT_rw hT, if_pos (nI_le (Nat.le_refl _) (by omega))]
