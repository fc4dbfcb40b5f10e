/-! the two ways home agree -/
def wv (r : Nat → Nat) : Nat → Nat
  | 0 => 0
  | c + 1 => wv r c * 5 + r c
theorem wv_dig {r : Nat → Nat} : ∀ {c : Nat}, (∀ j, j < c → r j < 5) → (∀ j, j < c → dgp 5 (wv r c) c j = r j) ∧ wv r c < 5 ^ c
  | 0, _ => ⟨fun j hj => by omega, by unfold wv; exact Nat.pow_pos (by omega)⟩
  | c + 1, h => by
    obtain ⟨h1, h2⟩ := wv_dig (r := r) (c := c) (fun j hj => h j (by omega))
    have hc := h c (by omega)
    unfold wv
    refine ⟨fun j hj => ?_, ?_⟩
    · by_cases he : j = c
      · subst he; exact dgp_hi hc
      · rw [dgp_lo hc (by omega)]; exact h1 j (by omega)
    · rw [Nat.pow_succ]; omega
theorem wv_at {r : Nat → Nat} {c : Nat} (h : ∀ j, j < c → r j < 5) : atF (wv r c) c = sumOf (fun j => stp j * r j) c := by
  unfold atF
  exact sumOf_congr (fun j hj => by rw [(wv_dig h).1 j hj])
theorem c_stepJ {M : zm_Mem} {j x : Nat} (hj : j < 6) : f_X6_step (nI j) (nI x) M = some (nI (stp j * x)) := by
  unfold f_X6_step
  rw [if_neg (show ¬ nI j < (0 : Int32) from nI_pos (by omega)), if_neg (show ¬ (6 : Int32) ≤ nI j from nI_ge (b := 6) hj (by omega)), zm_ck_t (zm_in_nI hj (by omega)), nI_clamp (by omega), stp_eq j hj, pk_mul]
theorem ai_of {M : zm_Mem} {W a : Nat} {A : Nat → Bool} (hW : W ≤ 6) (h : ∀ p, p < 40000 → pb M a p = anyB (fun way => A way && decide (atF way W = p)) (5 ^ W)) : AI W A M a := by
  refine ⟨fun way hw => ?_, fun p hp e => ?_⟩
  · rw [h _ (atF_lt hW), Bool.eq_iff_iff, anyB_iff]
    constructor
    · rintro ⟨w, hw', e⟩
      rw [Bool.and_eq_true, decide_eq_true_eq] at e
      rw [← at_inj hW hw' hw e.2]; exact e.1
    · intro e
      exact ⟨way, hw, by rw [e, decide_eq_true rfl]; rfl⟩
  · rw [h p hp] at e
    obtain ⟨w, hw', e⟩ := anyB_iff.1 e
    rw [Bool.and_eq_true, decide_eq_true_eq] at e
    exact ⟨w, hw', e.2.symm⟩
theorem ai_104 {M : zm_Mem} {D : zD} {S : Nat → Nat} (hW : D.1 0 1 ≤ 6) (hO : SvO M D S) : AI (D.1 0 1) (aHm D (S 3) (S 0) 0) M 104 := by
  refine ai_of hW (fun p hp => ?_)
  have := hO.1.2.1 p hp
  have e := vN_rm D (S 3) (S 0) (isAt S (S 0)) (fun j => S (4 + j)) p (5 ^ D.1 0 1)
  unfold pb aHm
  rw [this]
  simp only [if_true]
  exact e
theorem ai_105 {M : zm_Mem} {D : zD} {S : Nat → Nat} (hW : D.1 0 1 ≤ 6) (hO : SvO M D S) : AI (D.1 0 1) (aHm D (S 3) (S 0) 1) M 105 := by
  refine ai_of hW (fun p hp => ?_)
  have := hO.1.2.2.1 p hp
  have e := vN_kt D (S 3) (S 0) (isAt S (S 0)) (fun j => S (4 + j)) p (5 ^ D.1 0 1)
  unfold pb aHm
  rw [this]
  simp only [show ¬ (1 : Int32) = 0 by decide, if_false]
  exact e
theorem aHm_dig {D : zD} {li dy : Nat} {k : Int32} {x : Nat} (h : aHm D li dy k x = true) : ∀ j, j < D.1 0 1 → dgp 5 x (D.1 0 1) j < D.1 0 0 := by
  unfold aHm at h
  split at h
  · exact (rmP_iff.1 h).1
  · unfold hgB at h
    rw [Bool.and_eq_true] at h
    exact (rmP_iff.1 h.1).1
theorem sc_wT {M M' : zm_Mem} (h : Fg wT M M') : Sc M M' := by
  have hw : ∀ x j, iv_c x j = true → wT x j = false := by
    intro x j hc
    cases hw : wT x j with
    | false => rfl
    | true =>
      simp only [wT, Bool.or_eq_true, decide_eq_true_eq] at hw
      rcases hw with rfl | rfl | rfl <;> cases hc
  exact sc_of (fun x j hc => h.2.1 x j (hw x j hc)) (fun x j hc => h.2.2 x j (hw x j hc)) (fun x j _ => by rw [h.1]) (fun z => by rw [h.1]; exact z)
theorem c_homeL {M : zm_Mem} {t v n : Nat} {D : zD} {S : Nat → Nat} (hC : Cx M t v D S n) : zm_lp (fun s => f_X10_homeP_l11 M s.1 s.2.1 s.2.2) (0, 0, 0) = some (nI (sumOf (fun j => stp j * S (4 + j)) (D.1 0 1)), nI (sumOf (fun j => stp j * D.1 3 j) (D.1 0 1))) := by
  have ht := hC.2.1
  have hT := hC.2.2.1
  have hR := hC.2.2.2
  have bI := cx_isT hC
  have bv := tT_v hT
  have bh := tT_bh hT
  have bw := tT_bw hT
  have bk := tT_bk hT
  refine lp_for (step := fun s => f_X10_homeP_l11 M s.1 s.2.1 s.2.2) (fun i => (nI (sumOf (fun j => stp j * S (4 + j)) i), nI (sumOf (fun j => stp j * D.1 3 j) i), nI i)) (D.1 0 1) (fun i hi => ?_) ?_
  · show f_X10_homeP_l11 M _ _ (nI i) = some (.inl (nI (sumOf (fun j => stp j * S (4 + j)) i + stp i * S (4 + i)), nI (sumOf (fun j => stp j * D.1 3 j) i + stp i * D.1 3 i), nI (i + 1)))
    unfold f_X10_homeP_l11
    simp only [zv_eq]
    rw [ht, bI, zk_true, tT_w hT, if_neg (nI_ge hi (by omega)), c_goal hC hi, zb1_some, c_stepJ (by omega), zb1_some, zk_true, zm_ck_t (zm_in_nI (by omega) (by omega)), nI_clamp (by omega), tT_ow hT i hi, c_stepJ (by omega), zb1_some, nI_add, nI_add, nI_k1]
  · show f_X10_homeP_l11 M _ _ (nI (D.1 0 1)) = _
    unfold f_X10_homeP_l11
    simp only [zv_eq]
    rw [ht, bI, zk_true, tT_w hT, if_pos (nI_le (Nat.le_refl _) (by omega))]
theorem r_homeL {M : zm_Mem} {t v n : Nat} {D : zD} {S : Nat → Nat} (hC : Cx M t v D S n) : zm_lp (fun s => f_X11_home_l7 M s.1 s.2.1 s.2.2) (0, 0, 0) = some (nI (wv (fun j => S (4 + j)) (D.1 0 1)), nI (wv (fun j => D.1 3 j) (D.1 0 1))) := by
  have ht := hC.2.1
  have hT := hC.2.2.1
  have hR := hC.2.2.2
  have bI := cx_isT hC
  have bv := tT_v hT
  have bh := tT_bh hT
  have bw := tT_bw hT
  have bk := tT_bk hT
  have hv2 : zm_in (nI v) 2 = true := zm_in_nI (by omega) (by omega)
  have hcv : (nI v).toNatClampNeg = v := nI_clamp (by omega)
  have hb := (cx_b hC).2
  refine lp_for (step := fun s => f_X11_home_l7 M s.1 s.2.1 s.2.2) (fun i => (nI (wv (fun j => S (4 + j)) i), nI (wv (fun j => D.1 3 j) i), nI i)) (D.1 0 1) (fun i hi => ?_) ?_
  · show f_X11_home_l7 M _ _ (nI i) = some (.inl (nI (wv (fun j => S (4 + j)) i * 5 + S (4 + i)), nI (wv (fun j => D.1 3 j) i * 5 + D.1 3 i), nI (i + 1)))
    have hbi := (hb i hi).1
    have e5 : ∀ a, (5 : Int32) * nI a = nI (a * 5) := fun a => by rw [show (5 : Int32) = nI 5 from rfl, pk_mul, Nat.mul_comm]
    have fin : f_X11_home_b54_7 M (nI (wv (fun j => D.1 3 j) i)) (nI i) ((5 : Int32) * nI (wv (fun j => S (4 + j)) i)) (nI (S (4 + i))) = some (.inl (nI (wv (fun j => S (4 + j)) i * 5 + S (4 + i)), nI (wv (fun j => D.1 3 j) i * 5 + D.1 3 i), nI (i + 1))) := by
      unfold f_X11_home_b54_7
      rw [r_ownerNow hC hi, e5, e5, nI_add]
      simp only [zv_eq, zb1_some]
      rw [nI_add, nI_k1]
    unfold f_X11_home_l7
    rw [tT_live hT, hv2, zk_true, hcv, tT_rw hT, if_neg (nI_ge hi (by omega)), zm_ck_t (zm_in_nI (L := 60) (by omega) (by omega)), nI_clamp (by omega), tR_rp hR i hi]
    by_cases ha : S (10 + i) ≤ S 0
    · rw [if_pos ha, if_pos (show (0 : Int32) ≤ nI (S (4 + i)) from nI_le (a := 0) (by omega) (by omega)), zm_ck_t (zm_in_nI (L := 60) (by omega) (by omega)), fin]
    · rw [if_neg ha, if_neg (by decide), show (6 : Int32) + nI i = nI (6 + i) from nI_add 6 i, zm_ck_t (zm_in_nI (L := 60) (by omega) (by omega)), nI_clamp (by omega), tR_rg hR i hi, if_neg ha, fin]
  · show f_X11_home_l7 M _ _ (nI (D.1 0 1)) = _
    unfold f_X11_home_l7
    rw [tT_live hT, hv2, zk_true, hcv, tT_rw hT, if_pos (nI_le (Nat.le_refl _) (by omega))]
theorem r_homeT {M : zm_Mem} {t v n f g N : Nat} {D : zD} {S : Nat → Nat} {a1 : Int32} {r : Int32} (hC : Cx M t v D S n) (hf : f < 5 ^ D.1 0 1) (hg : g < 5 ^ D.1 0 1) (hfd : ∀ j, j < D.1 0 1 → dgp 5 f (D.1 0 1) j < D.1 0 0) (hN1 : 1 ≤ N) (hN2 : N ≤ 15626) (hN3 : anyB (lvs (D.1 0 1) (aHm D (S 3) (S 0) a1) f N).1 (5 ^ D.1 0 1) = false) (hN4 : ∀ m, 1 ≤ m → m < N → anyB (lvs (D.1 0 1) (aHm D (S 3) (S 0) a1) f m).1 (5 ^ D.1 0 1) = true) (hr : (f = g ∧ r = 0) ∨ (f ≠ g ∧ aHm D (S 3) (S 0) a1 g = false ∧ r = -2) ∨ (f ≠ g ∧ aHm D (S 3) (S 0) a1 g = true ∧ ResT (D.1 0 1) (aHm D (S 3) (S 0) a1) f g N r)) : ∃ L, f_X11_home_x73_7 a1 M (nI f) (nI g) = some (r, L) ∧ Sc M L := by
  have ht := hC.2.1
  have hT := hC.2.2.1
  have hR := hC.2.2.2
  have bI := cx_isT hC
  have bv := tT_v hT
  have bh := tT_bh hT
  have bw := tT_bw hT
  have bk := tT_bk hT
  have p5 := p5_le bw
  obtain ⟨P, c1, c2, c3⟩ := r_fillMay (a1 := a1) hC
  have hCP := cx_sc c2 hC
  unfold f_X11_home_x73_7
  rcases hr with ⟨h1, h2⟩ | ⟨h1, h2, h3⟩ | ⟨h1, h2, h3⟩
  · exact ⟨M, by rw [if_pos (by rw [h1]), h2], sc_rfl M⟩
  · refine ⟨P, ?_, c2⟩
    rw [if_neg (fun z => h1 ((nI_eq (by omega) (by omega)).1 z)), c1, zb2_some, zm_ck_t (zm_in_nI (by omega) (by omega)), nI_clamp (by omega), c3 g hg, h2, if_neg (c := false = true) (by decide), if_pos rfl, h3]
  · generalize hA : aHm D (S 3) (S 0) a1 = A at *
    have hAd : ∀ x, A x = true → ∀ j, j < D.1 0 1 → dgp 5 x (D.1 0 1) j < D.1 0 0 := fun x hx => by rw [← hA] at hx; exact aHm_dig hx
    have e0 : ∀ w, w < 5 ^ D.1 0 1 → (zm_sI P 95 f 0).1 95 w = VV (D.1 0 1) A f 0 w := by
      intro w hw
      rw [mI1]
      unfold VV
      by_cases h : w = f
      · rw [if_pos ⟨rfl, h⟩, if_pos h]
      · rw [if_neg (fun z => h z.2), if_neg h]; exact c3 w hw
    have f0 : Fr w95 P (zm_sI P 95 f 0) := fr_sI rfl
    have key : ∃ L, zm_lp (fun s => f_X11_home_l112 s.1 s.2.1 s.2.2) (1, nI (0 + 1), zm_sI P 95 f 0) = some L ∧ (Fr w95 P L ∧ ∀ w, w < 5 ^ D.1 0 1 → L.1 95 w = VV (D.1 0 1) A f N w) := by
      refine lp_inv (step := fun s => f_X11_home_l112 s.1 s.2.1 s.2.2) (fun i z => z.1 = (if i = 0 ∨ anyB (lvs (D.1 0 1) A f i).1 (5 ^ D.1 0 1) = true then 1 else 0) ∧ z.2.1 = nI (i + 1) ∧ Fr w95 P z.2.2 ∧ ∀ w, w < 5 ^ D.1 0 1 → z.2.2.1 95 w = VV (D.1 0 1) A f i w) _ N ?_ ?_ ⟨by rw [if_pos (Or.inl rfl)], rfl, f0, e0⟩
      · rintro i ⟨z1, z2, L⟩ hi ⟨p1, p2, p3, p4⟩
        simp only at p1 p2 p3 p4
        have hz1 : z1 = 1 := by
          rw [p1, if_pos]
          by_cases h : i = 0
          · exact Or.inl h
          · exact Or.inr (hN4 i (by omega) hi)
        subst hz1 p2
        obtain ⟨⟨e, L'⟩, g1, g2, g3, g4⟩ := r_round (cx_sc (sc_95 p3) hCP) (n := i) (by omega) hAd hfd p4
        simp only at g2 g3 g4
        refine Or.inl ⟨(e, nI (i + 1 + 1), L'), ?_, ?_, rfl, fr_tr p3 g3, g4⟩
        · show f_X11_home_l112 1 (nI (i + 1)) L = _
          unfold f_X11_home_l112
          have g1' : zm_lp (fun s => f_X11_home_l123_112 (nI (i + 1)) s.1 s.2.1 s.2.2) (0, 0, L) = some (e, L') := g1
          rw [if_neg (by decide), g1']
          simp only [Option.bind_some]
          unfold f_X11_home_x185_123_112
          simp only [zv_eq]
          rw [nI_k1]
        · show e = _
          rw [g2]
          by_cases h : anyB (lvs (D.1 0 1) A f (i + 1)).1 (5 ^ D.1 0 1) = true
          · rw [if_pos h, if_pos (Or.inr h)]
          · rw [if_neg h, if_neg (by rintro (z | z); · omega
                                     · exact h z)]
      · rintro ⟨z1, z2, L⟩ ⟨p1, p2, p3, p4⟩
        simp only at p1 p2 p3 p4
        have hz1 : z1 = 0 := by
          rw [p1, if_neg]
          rintro (z | z)
          · omega
          · rw [hN3] at z; cases z
        subst hz1
        refine ⟨L, ?_, p3, p4⟩
        show f_X11_home_l112 0 z2 L = _
        unfold f_X11_home_l112
        rw [if_pos rfl]
    obtain ⟨L, k1, k2, k3⟩ := key
    refine ⟨L, ?_, sc_tr c2 (sc_95 k2)⟩
    have k1' : zm_lp (fun s => f_X11_home_l112 s.1 s.2.1 s.2.2) (1, 1, zm_sI P 95 f 0) = some L := k1
    rw [if_neg (fun z => h1 ((nI_eq (by omega) (by omega)).1 z)), c1, zb2_some, zm_ck_t (zm_in_nI (by omega) (by omega)), nI_clamp (by omega), c3 g hg, h2, if_pos (c := true = true) rfl, if_neg (by decide), zm_ck_t (zm_in_nI (by omega) (by omega)), nI_clamp (by omega)]
    simp only [zv_eq]
    rw [k1']
    simp only [Option.bind_some]
    unfold f_X11_home_x191_112
    rw [zm_ck_t (zm_in_nI (by omega) (by omega)), zm_ck_t (zm_in_nI (by omega) (by omega)), nI_clamp (by omega), k3 g hg]
    rcases h3 with ⟨m, m1, m2, m3, m4⟩ | ⟨m1, m2⟩
    · rw [(vv_k (by omega) (show m ≤ N by omega)).2 m4, if_pos (show (0 : Int32) ≤ nI m from nI_le (a := 0) (by omega) (by omega)), m3]
    · rcases vv_spec (W := D.1 0 1) (A := A) (f := f) (w := g) N with ⟨m, q1, q2, _⟩ | ⟨_, q2⟩
      · rw [m2 m q1] at q2; cases q2
      · rw [q2, h2, if_pos (c := true = true) rfl, if_neg (by decide), m1]
theorem ag_home {M : zm_Mem} {q n : Nat} (hI : Inv M q n) (hn : n < 512) (a1 : Int32) (ha1 : a1 = 0 ∨ a1 = 1): Ag (f_X10_homeP a1 M) (fun M1 => f_X11_home a1 M1) (q + 1) n := by
  obtain ⟨t, v, D, S, hC, hX⟩ := hI
  obtain ⟨M1, e1, hC1, hX1, hO, r11, r12⟩ := c_survey hn hC hX
  have ht1 := hC1.2.1
  have bI1 := cx_isT hC1
  have hT1 := hC1.2.2.1
  have bh := tT_bh hT1
  have bw := tT_bw hT1
  have hb := (cx_b hC1).2
  have h4 : ∀ j, j < D.1 0 1 → (fun j => S (4 + j)) j < 5 := fun j hj => by have := (hb j hj).1; show S (4 + j) < 5; omega
  have h3 : ∀ j, j < D.1 0 1 → (fun j => D.1 3 j) j < 5 := fun j hj => by have := (tT_Wb hT1 j hj).1; show D.1 3 j < 5; omega
  obtain ⟨d4, l4⟩ := wv_dig h4
  obtain ⟨d3, l3⟩ := wv_dig h3
  have a4 := wv_at h4
  have a3 := wv_at h3
  generalize hf : wv (fun j => S (4 + j)) (D.1 0 1) = f at d4 l4 a4
  generalize hg : wv (fun j => D.1 3 j) (D.1 0 1) = g at d3 l3 a3
  have hfd : ∀ j, j < D.1 0 1 → dgp 5 f (D.1 0 1) j < D.1 0 0 := fun j hj => by rw [d4 j hj]; exact (hb j hj).1
  obtain ⟨N, n1, n2, n3, n4⟩ := lv_end (W := D.1 0 1) (aHm D (S 3) (S 0) a1) f bw
  have cl : ∃ r L, f_X10_homeP a1 M = some (r, L) ∧ Fg wT M1 L ∧ ((f = g ∧ r = 0) ∨ (f ≠ g ∧ aHm D (S 3) (S 0) a1 g = false ∧ r = -2) ∨ (f ≠ g ∧ aHm D (S 3) (S 0) a1 g = true ∧ ResT (D.1 0 1) (aHm D (S 3) (S 0) a1) f g N r)) := by
    have go : ∀ a, (a = 104 ∨ a = 105) → AI (D.1 0 1) (aHm D (S 3) (S 0) a1) M1 a → f_X10_homeP a1 M = f_X10_homeP_b89 M1 (nI (atF f (D.1 0 1))) (nI (atF g (D.1 0 1))) a → ∃ r L, f_X10_homeP a1 M = some (r, L) ∧ Fg wT M1 L ∧ ((f = g ∧ r = 0) ∨ (f ≠ g ∧ aHm D (S 3) (S 0) a1 g = false ∧ r = -2) ∨ (f ≠ g ∧ aHm D (S 3) (S 0) a1 g = true ∧ ResT (D.1 0 1) (aHm D (S 3) (S 0) a1) f g N r)) := by
      intro a ha hA he
      obtain ⟨r, L, k1, k2, k3⟩ := c_few bw ha hA l4 l3 n1 n2 n3 n4
      refine ⟨r, L, ?_, k2, k3⟩
      rw [he]
      unfold f_X10_homeP_b89
      simp only [zv_eq]
      rw [ht1, bI1, zk_true, tT_w hT1, k1, zb2_some]
    have hs : f_X10_homeP a1 M = f_X10_homeP_x64_11 a1 M1 (nI (atF f (D.1 0 1))) (nI (atF g (D.1 0 1))) := by
      unfold f_X10_homeP
      rw [e1, zb2_some, c_homeL hC1, a4, a3]; rfl
    unfold f_X10_homeP_x64_11 at hs
    rw [zm_ck_t (decide_eq_true r12)] at hs
    rcases ha1 with rfl | rfl
    · refine go 104 (Or.inl rfl) (ai_104 bw hO) ?_
      rw [hs, if_pos rfl, zm_ck_t (decide_eq_true r11)]; rfl
    · refine go 105 (Or.inr rfl) (ai_105 bw hO) ?_
      rw [hs, if_neg (by decide), zm_ck_t (decide_eq_true r11)]; rfl
  obtain ⟨r, L, k1, k2, k3⟩ := cl
  have hCL := cx_sc (sc_wT k2) hC1
  obtain ⟨L2, j1, j2⟩ := r_homeT hCL l4 l3 hfd n1 n2 n3 n4 k3
  refine ⟨r, L, L2, k1, ?_, iv_mono (iv_sc_keep (inv_of hC1 hX1) (sc_tr (sc_wT k2) j2))⟩
  show f_X11_home a1 L = _
  unfold f_X11_home
  rw [r_homeL hCL, hf, hg]
  exact j1
