/-! the class goes through all packings -/
def wCt (x j : Nat) : Bool := decide (x = 20) || wPk x j
theorem wCt_iv {x j : Nat} (h : wCt x j = true) : iv_c x j = false := by
  simp only [wCt, wPk, Bool.or_eq_true, Bool.and_eq_true, decide_eq_true_eq] at h
  rcases h with rfl | rfl | rfl | rfl | ⟨rfl, rfl⟩ <;> rfl
theorem sc_Ct {M M' : zm_Mem} (h : Fr wCt M M') : Sc M M' := fr_sc (fun _ _ => wCt_iv) h
def fin3 (W : Nat) (wr : Nat → Nat) : zC3 := fo (kwF W wr) 0 (6 ^ W) (fun _ => 0, 21, fun _ => 0)
theorem lsd_fr {W' : Nat → Nat → Bool} {M M' : zm_Mem} {W K : Nat} {cr bf f : Nat → Nat} (hF : Fr W' M M') (a1 : ∀ j, W' 17 j = false) (a2 : ∀ j, W' 18 j = false) (a3 : ∀ j, W' 19 j = false) (b1 : ∀ j, W' 98 j = false) (b2 : ∀ j, W' 99 j = false) (b3 : ∀ j, W' 100 j = false) (h : LsD M W K cr bf f) : LsD M' W K cr bf f := by
  intro i hi
  rw [hF.2 17 i (a1 i), hF.2 18 i (a2 i), hF.2 19 i (a3 i), hF.2 98 i (b1 i), hF.2 99 i (b2 i), hF.2 100 i (b3 i)]
  exact h i hi
theorem c_through {M : zm_Mem} {t v n K k : Nat} {D : zD} {S cr bf f : Nat → Nat} (hC : Cx M t v D S n) (hL : LsD M (D.1 0 1) K cr bf f) (hK : K ≤ 20) (hk : k ≤ K) (h7 : M.1 16 7 = nI K) : ∃ M', f_X0_goThrough t (nI k) M = some ((), M') ∧ Fr wCt M M' ∧ CrR M' (fin3 (D.1 0 1) (wrs D cr bf f k)) := by
  have ht := hC.2.1
  have hT := hC.2.2.1
  have hR := hC.2.2.2
  have bI := cx_isT hC
  have bv := tT_v hT
  have bh := tT_bh hT
  have bw := tT_bw hT
  have bk := tT_bk hT
  generalize hA : zm_sI (cpM (cpM M 20 0 36 (fun _ => nI 0)) 21 0 21 (fun _ => nI 0)) 16 8 (nI 21) = A
  have fA : Fr wCt M A := by rw [← hA]; exact fr_tr (fr_tr (fr_cpM (fun _ => rfl)) (fr_cpM (fun _ => rfl))) (fr_sI rfl)
  have a20 : ∀ j, j < 36 → A.1 20 j = nI 0 := fun j hj => by rw [← hA, mI1, if_neg (by omega), mC_ne (by omega), mC_in hj]
  have a21 : ∀ j, j < 21 → A.1 21 j = nI 0 := fun j hj => by rw [← hA, mI1, if_neg (by omega), mC_in hj]
  have a8 : A.1 16 8 = nI 21 := by rw [← hA, mI1, if_pos ⟨rfl, rfl⟩]
  have sA := sc_Ct fA
  have hCA := cx_sc sA hC
  have w20 : ∀ x j, (decide (x = 20)) = true → wCt x j = true := fun x j h => by unfold wCt; rw [h]; rfl
  -- the table
  have tab : ∃ e, zm_lp (fun z => f_X0_goThrough_l24 t (nI k) z.1 z.2) (nI 0, A) = some e ∧ (Fr (fun x _ => decide (x = 20)) A e ∧ ∀ a b, a < D.1 0 1 → b < D.1 0 1 → e.1 20 (a * 6 + b) = nI (tbl D cr bf f k a b)) := by
    refine lp_inv (step := fun z => f_X0_goThrough_l24 t (nI k) z.1 z.2) (fun i z => z.1 = nI i ∧ Fr (fun x _ => decide (x = 20)) A z.2 ∧ ∀ a b, a < D.1 0 1 → b < D.1 0 1 → z.2.1 20 (a * 6 + b) = nI (tbl D cr bf f i a b)) _ k ?_ ?_ ⟨rfl, fr_rfl _ A, fun a b ha hb => a20 _ (by omega)⟩
    · rintro i ⟨z1, L⟩ hi ⟨p1, p2, p3⟩
      simp only at p1 p2 p3
      subst p1
      obtain ⟨q1, q2, q3, q4, q5, q6, q7, q8, q9⟩ := hL i (by omega)
      have l7 : L.1 16 7 = nI K := (p2.2 16 7 rfl).trans ((fA.2 16 7 rfl).trans h7)
      have inner : ∃ e, zm_lp (fun z => f_X0_goThrough_l40_24 t (nI i) z.1 z.2) (nI 0, L) = some e ∧ (Fr (fun x _ => decide (x = 20)) L e ∧ ∀ a b, a < D.1 0 1 → b < D.1 0 1 → e.1 20 (a * 6 + b) = nI (tbl D cr bf f (i + 1) a b)) := by
        refine lp_inv (step := fun z => f_X0_goThrough_l40_24 t (nI i) z.1 z.2) (fun j z => z.1 = nI j ∧ Fr (fun x _ => decide (x = 20)) L z.2 ∧ ∀ a b, a < D.1 0 1 → b < D.1 0 1 → z.2.1 20 (a * 6 + b) = nI (tbl D cr bf f i a b + if b < j ∧ cr i = a ∧ rt D bf f i b = false then 1 else 0)) _ (D.1 0 1) ?_ ?_ ⟨rfl, fr_rfl _ L, fun a b ha hb => by rw [if_neg (by omega), Nat.add_zero]; exact p3 a b ha hb⟩
        · rintro j ⟨z1, N⟩ hj ⟨r1, r2, r3⟩
          simp only at r1 r2 r3
          subst r1
          have fN : Fr wCt M N := fr_tr fA (fr_mono w20 (fr_tr p2 r2))
          have hCN := cx_sc (sc_Ct fN) hC
          have hTN := hCN.2.2.1
          have hLN : LsD N (D.1 0 1) K cr bf f := lsd_fr fN (fun _ => rfl) (fun _ => rfl) (fun _ => rfl) (fun _ => rfl) (fun _ => rfl) (fun _ => rfl) hL
          have er := c_isRight hCN hLN hK (i := i) (by omega) hj
          have n17 : N.1 17 i = nI (cr i) := (hLN i (by omega)).2.2.2.1
          refine Or.inl ?_
          cases hr : rt D bf f i j with
          | true =>
            rw [hr, if_pos rfl] at er
            refine ⟨(nI (j + 1), N), ?_, rfl, r2, fun a b ha hb => ?_⟩
            · show f_X0_goThrough_l40_24 t (nI i) (nI j) N = _
              unfold f_X0_goThrough_l40_24 f_X0_goThrough_b81_40_24
              rw [tT_w hTN, if_neg (nI_ge hj (by omega)), er, zb1_some, if_neg (by decide)]
              simp only [zv_eq]
              rw [nI_k1]
            · show N.1 20 _ = _
              rw [r3 a b ha hb]
              by_cases hbj : b = j
              · subst hbj; rw [if_neg (by omega), if_neg (by rw [hr]; simp)]
              · by_cases hc : b < j ∧ cr i = a ∧ rt D bf f i b = false
                · rw [if_pos hc, if_pos ⟨by omega, hc.2⟩]
                · rw [if_neg hc, if_neg (fun z => hc ⟨by omega, z.2⟩)]
          | false =>
            rw [hr, if_neg (by decide)] at er
            have e20 := r3 (cr i) j q1 hj
            rw [if_neg (by omega), Nat.add_zero] at e20
            refine ⟨(nI (j + 1), zm_sI N 20 (cr i * 6 + j) (nI (tbl D cr bf f i (cr i) j + 1))), ?_, rfl, fr_tr r2 (fr_sI rfl), fun a b ha hb => ?_⟩
            · show f_X0_goThrough_l40_24 t (nI i) (nI j) N = _
              unfold f_X0_goThrough_l40_24 f_X0_goThrough_b81_40_24
              rw [tT_w hTN, if_neg (nI_ge hj (by omega)), er, zb1_some, if_pos (by rfl), zm_ck_t (zm_in_nI (by omega) (by omega)), nI_clamp (show i < 2 ^ 31 by omega), n17, show nI (cr i) * 6 + nI j = nI (cr i * 6 + j) by rw [show (6 : Int32) = nI 6 from rfl, pk_mul, nI_add], zm_ck_t (zm_in_nI (by omega) (by omega)), zm_ck_t (zm_in_nI (by omega) (by omega)), nI_clamp (by omega), e20, nI_k1]
              simp only [zv_eq]
              rw [nI_k1]
            · show (zm_sI _ _ _ _).1 20 _ = _
              rw [mI1]
              by_cases hab : a = cr i ∧ b = j
              · rw [if_pos ⟨rfl, by rw [hab.1, hab.2]⟩, hab.1, hab.2, if_pos ⟨by omega, rfl, hr⟩]
              · rw [if_neg (by omega), r3 a b ha hb]
                by_cases hc : b < j ∧ cr i = a ∧ rt D bf f i b = false
                · rw [if_pos hc, if_pos ⟨by omega, hc.2⟩]
                · rw [if_neg hc, if_neg (fun z => by
                    by_cases hbj : b = j
                    · exact hab ⟨z.2.1.symm, hbj⟩
                    · exact hc ⟨by omega, z.2⟩)]
        · rintro ⟨z1, N⟩ ⟨r1, r2, r3⟩
          simp only at r1 r2 r3
          subst r1
          have hTN := (cx_sc (sc_Ct (fr_tr fA (fr_mono w20 (fr_tr p2 r2)))) hC).2.2.1
          refine ⟨N, ?_, r2, fun a b ha hb => ?_⟩
          · show f_X0_goThrough_l40_24 t (nI i) (nI (D.1 0 1)) N = _
            unfold f_X0_goThrough_l40_24
            rw [tT_w hTN, if_pos (nI_le (Nat.le_refl _) (by omega))]
          · rw [r3 a b ha hb]
            have : tbl D cr bf f (i + 1) a b = tbl D cr bf f i a b + (if cr i = a ∧ rt D bf f i b = false then 1 else 0) := rfl
            rw [this]
            by_cases hc : cr i = a ∧ rt D bf f i b = false
            · rw [if_pos ⟨hb, hc⟩, if_pos hc]
            · rw [if_neg (fun z => hc z.2), if_neg hc]
      obtain ⟨e, k1, k2, k3⟩ := inner
      refine Or.inl ⟨(nI (i + 1), e), ?_, rfl, fr_tr p2 k2, k3⟩
      show f_X0_goThrough_l24 t (nI k) (nI i) L = _
      unfold f_X0_goThrough_l24
      rw [if_neg (nI_ge hi (by omega)), l7, if_neg (nI_ge (by omega) (by omega))]
      have k1' : zm_lp (fun s => f_X0_goThrough_l40_24 t (nI i) s.1 s.2) (0, L) = some e := k1
      rw [k1']
      simp only [Option.bind_some, zv_eq]
      rw [nI_k1]
    · rintro ⟨z1, L⟩ ⟨p1, p2, p3⟩
      simp only at p1 p2 p3
      subst p1
      refine ⟨L, ?_, p2, p3⟩
      show f_X0_goThrough_l24 t (nI k) (nI k) L = _
      unfold f_X0_goThrough_l24
      rw [if_pos (nI_le (Nat.le_refl _) (by omega))]
  obtain ⟨Z, k1, k2, k3⟩ := tab
  have fZ : Fr wCt M Z := fr_tr fA (fr_mono w20 k2)
  have hTZ := (cx_sc (sc_Ct fZ) hC).2.2.1
  obtain ⟨M', g1, g2, g3, g4⟩ := c_pack (W := D.1 0 1) (wr := wrs D cr bf f k) (tb := tbl D cr bf f k) bw (fun way _ => ⟨wrs_tbl k (fun i hi => (hL i (by omega)).1), by have := wrs_le D cr bf f k way; omega⟩) (D.1 0 1) 0 (by omega) 8 0 0 0 Z (fun _ => 0, 21, fun _ => 0) (by omega) rfl usd_0 rfl (fun j hj => by omega) k3 ⟨fun w hw => (k2.2 21 w rfl).trans (a21 w hw), (k2.2 16 8 rfl).trans a8, Nat.le_refl _, fun h => absurd h (by decide)⟩
  refine ⟨M', ?_, fr_tr fZ (fr_mono (fun x j h => by unfold wCt; rw [h, Bool.or_true]) g2), ?_⟩
  · unfold f_X0_goThrough
    rw [show (0 : Int32) = nI 0 from rfl, fill_eq (N := 36) rfl (by omega), zb2_some, fill_eq (N := 21) rfl (by omega), zb2_some]
    simp only [zv_eq]
    rw [show (21 : Int32) = nI 21 from rfl, hA]
    have k1' : zm_lp (fun s => f_X0_goThrough_l24 t (nI k) s.1 s.2) (nI 0, A) = some Z := k1
    rw [k1']
    simp only [Option.bind_some]
    unfold f_X0_goThrough_b93 f_X0_packR
    rw [tT_w hTZ, show (0 : Int32) = nI 0 from rfl, g1]; rfl
  · rw [Nat.zero_mul] at g4; exact g4
/-! the reference's packings -/
theorem r_sixes {M : zm_Mem} {k : Nat} (hk : k ≤ 6) : f_X11_sixes (nI k) M = some (nI (6 ^ k)) := by
  have key : zm_lp (fun s => f_X11_sixes_l4 (nI k) s.1 s.2) (1, 0) = some (nI (6 ^ k)) := by
    refine lp_for (step := fun s => f_X11_sixes_l4 (nI k) s.1 s.2) (fun i => (nI (6 ^ i), nI i)) k (fun i hi => ?_) ?_
    · show f_X11_sixes_l4 (nI k) (nI (6 ^ i)) (nI i) = _
      unfold f_X11_sixes_l4
      rw [if_neg (nI_ge hi (by omega))]
      simp only [zv_eq]
      rw [nI_k1, show (6 : Int32) = nI 6 from rfl, pk_mul, ← Nat.pow_succ]
    · show f_X11_sixes_l4 (nI k) (nI (6 ^ k)) (nI k) = _
      unfold f_X11_sixes_l4
      rw [if_pos (nI_le (Nat.le_refl _) (by omega))]
  unfold f_X11_sixes
  rw [key]; rfl
theorem p6_le {k : Nat} (hk : k ≤ 6) : 0 < 6 ^ k ∧ 6 ^ k ≤ 46656 := ⟨Nat.pow_pos (by omega), Nat.pow_le_pow_right (n := 6) (by omega) hk⟩
theorem r_workIn {M : zm_Mem} {t v n way c : Nat} {D : zD} {S : Nat → Nat} (hC : Cx M t v D S n) (hw : way < 50000) (hc : c < D.1 0 1) : f_X11_workIn (nI way) (nI c) M = some (nI (dgp 6 way (D.1 0 1) c)) := by
  have ht := hC.2.1
  have hT := hC.2.2.1
  have hR := hC.2.2.2
  have bI := cx_isT hC
  have bv := tT_v hT
  have bh := tT_bh hT
  have bw := tT_bw hT
  have bk := tT_bk hT
  have p6 := p6_le (k := D.1 0 1 - 1 - c) (by omega)
  have k3 : (!decide ((6 : Int32) = 0)) = true := by decide
  have k4 : (!decide (nI (6 ^ (D.1 0 1 - 1 - c)) = 0)) = true := by
    rw [Bool.not_eq_true', decide_eq_false_iff_not]
    exact nI_ne0 p6.1 (by omega)
  have hd : way / 6 ^ (D.1 0 1 - 1 - c) ≤ way := Nat.div_le_self _ _
  unfold f_X11_workIn dgp
  rw [tT_live hT, zm_ck_t (zm_in_nI (by omega) (by omega)), nI_clamp (by omega), tT_rw hT, show nI (D.1 0 1) - 1 - nI c = nI (D.1 0 1 - 1 - c) by rw [show nI (D.1 0 1) - 1 = nI (D.1 0 1 - 1) from zi_sub (b := 1) (by omega), zi_sub (by omega)], r_sixes (by omega), zb1_some, k4, zk_true, k3, zk_true, pk_div (by omega) p6.1 (by omega), show nI (way / 6 ^ (D.1 0 1 - 1 - c)) - nI (way / 6 ^ (D.1 0 1 - 1 - c)) / 6 * 6 = nI (way / 6 ^ (D.1 0 1 - 1 - c) % 6) from pk_rem (d := 6) (by omega) (by omega) (by omega)]
/-- the first digits of a number -/
def pre (W way c : Nat) : Nat := way / 6 ^ (W - c)
theorem pre_S {W way c : Nat} (hc : c < W) : pre W way (c + 1) = pre W way c * 6 + dgp 6 way W c := by
  unfold pre dgp
  rw [show W - (c + 1) = W - 1 - c by omega, show W - c = (W - 1 - c) + 1 by omega, Nat.pow_succ, ← Nat.div_div_eq_div_mul]
  have := Nat.div_add_mod (way / 6 ^ (W - 1 - c)) 6
  omega
theorem pre_way {W way c : Nat} (hc : c ≤ W) : way = pre W way c * 6 ^ (W - c) + way % 6 ^ (W - c) := by
  unfold pre
  have := Nat.div_add_mod way (6 ^ (W - c))
  rw [Nat.mul_comm] at this
  omega
theorem pre_no {W way c : Nat} (hc : c ≤ W) (h : pkP W c (pre W way c) = false) : pkP W W way = false := by
  have := pkP_pre (k := W - c) (r := way % 6 ^ (W - c)) (Nat.mod_lt _ (Nat.pow_pos (by omega))) h
  rw [← pre_way hc, show c + (W - c) = W by omega] at this
  exact this
theorem r_isPacking {M : zm_Mem} {t v n way : Nat} {D : zD} {S : Nat → Nat} (hC : Cx M t v D S n) (hw : way < 6 ^ D.1 0 1) : f_X11_isPacking (nI way) M = some (if pkP (D.1 0 1) (D.1 0 1) way = true then nI 1 else nI 0) := by
  have ht := hC.2.1
  have hT := hC.2.2.1
  have hR := hC.2.2.2
  have bI := cx_isT hC
  have bv := tT_v hT
  have bh := tT_bh hT
  have bw := tT_bw hT
  have bk := tT_bk hT
  have p6 := p6_le bw
  have hv2 : zm_in (nI v) 2 = true := zm_in_nI (by omega) (by omega)
  have hcv : (nI v).toNatClampNeg = v := nI_clamp (by omega)
  have key : ∃ e, zm_lp (fun z => f_X11_isPacking_l4 (nI way) M z.1 z.2) (nI 0, nI 0) = some e ∧ ((e = .inl () ∧ pkP (D.1 0 1) (D.1 0 1) way = false) ∨ (e = .inr () ∧ pkP (D.1 0 1) (D.1 0 1) way = true)) := by
    refine lp_inv (step := fun z => f_X11_isPacking_l4 (nI way) M z.1 z.2) (fun c z => ∃ u, z = (nI u, nI c) ∧ usd c (pre (D.1 0 1) way c) u ∧ pkP (D.1 0 1) c (pre (D.1 0 1) way c) = true) _ (D.1 0 1) ?_ ?_ ⟨0, rfl, ?_, ?_⟩
    · rintro c z hc ⟨u, rfl, hu, hp⟩
      have hul := hu.1
      have hwi := r_workIn hC (way := way) (c := c) (by omega) hc
      have hd := dgp_lt (B := 6) (by omega) way (D.1 0 1) c
      have hS := pre_S (way := way) hc
      have hext := pkP_ext (W := D.1 0 1) (c := c) (p := pre (D.1 0 1) way c) hd
      rw [hp, Bool.true_and, ← hS] at hext
      have st : f_X11_isPacking_l4 (nI way) M (nI u) (nI c) = zm_b1 (f_X11_isWork (nI (dgp 6 way (D.1 0 1) c)) M) (fun r28 => if r28 = 0 then (some (.inr (.inl ()))) else (if nI (u / 2 ^ dgp 6 way (D.1 0 1) c % 2) = (1 : Int32) then (some (.inr (.inl ()))) else some (.inl (nI (u ||| 2 ^ dgp 6 way (D.1 0 1) c), nI (c + 1))))) := by
        unfold f_X11_isPacking_l4
        rw [tT_live hT, hv2, zk_true, hcv, tT_rw hT, if_neg (nI_ge hc (by omega)), hwi, zb1_some]
        simp only [zv_eq]
        rw [show (1 : Int32) <<< (nI (dgp 6 way (D.1 0 1) c) &&& 31) = nI (2 ^ dgp 6 way (D.1 0 1) c) from zi_sh1 (by omega), zi_or, nI_k1, show (nI u >>> (nI (dgp 6 way (D.1 0 1) c) &&& 31)) &&& 1 = nI (u / 2 ^ dgp 6 way (D.1 0 1) c % 2) by
          rw [show (31 : Int32) = nI 31 from rfl, show (1 : Int32) = nI 1 from rfl, zi_shr (by omega) (by omega), zi_and1]]
      have hfree := usd_free hd hu
      by_cases hdW : dgp 6 way (D.1 0 1) c < D.1 0 1
      · rw [decide_eq_true hdW, Bool.true_and] at hext
        by_cases hb : u / 2 ^ dgp 6 way (D.1 0 1) c % 2 = 0
        · refine Or.inl ⟨(nI (u ||| 2 ^ dgp 6 way (D.1 0 1) c), nI (c + 1)), ?_, u ||| 2 ^ dgp 6 way (D.1 0 1) c, rfl, ?_, ?_⟩
          · show f_X11_isPacking_l4 (nI way) M (nI u) (nI c) = _
            rw [st, r_isWork hC hdW, zb1_some, if_neg (by decide), hb, if_neg (by decide)]
          · rw [hS]; exact usd_ext hd hu
          · rw [hext]; exact hfree.1 hb
        · refine Or.inr ⟨.inl (), ?_, Or.inl ⟨rfl, ?_⟩⟩
          · show f_X11_isPacking_l4 (nI way) M (nI u) (nI c) = _
            rw [st, r_isWork hC hdW, zb1_some, if_neg (by decide), show u / 2 ^ dgp 6 way (D.1 0 1) c % 2 = 1 by omega, if_pos (by rfl)]
          · refine pre_no (c := c + 1) (by omega) ?_
            rw [hext]
            cases hq : allB (fun i => !decide (dgp 6 (pre (D.1 0 1) way c) c i = dgp 6 way (D.1 0 1) c)) c with
            | false => rfl
            | true => exact absurd (hfree.2 hq) hb
      · rw [decide_eq_false hdW, Bool.false_and] at hext
        refine Or.inr ⟨.inl (), ?_, Or.inl ⟨rfl, pre_no (c := c + 1) (by omega) hext⟩⟩
        show f_X11_isPacking_l4 (nI way) M (nI u) (nI c) = _
        rw [st, r_isWork0 hC (Or.inr (nI_le (by omega) (by omega))), zb1_some, if_pos rfl]
    · rintro z ⟨u, rfl, hu, hp⟩
      refine ⟨.inr (), ?_, Or.inr ⟨rfl, ?_⟩⟩
      · show f_X11_isPacking_l4 (nI way) M (nI u) (nI (D.1 0 1)) = _
        unfold f_X11_isPacking_l4
        rw [tT_live hT, hv2, zk_true, hcv, tT_rw hT, if_pos (nI_le (Nat.le_refl _) (by omega))]
      · unfold pre at hp
        rw [Nat.sub_self, Nat.pow_zero, Nat.div_one] at hp
        exact hp
    · unfold pre
      rw [Nat.sub_zero, Nat.div_eq_of_lt hw]; exact usd_0
    · rfl
  obtain ⟨e, k1, k2⟩ := key
  unfold f_X11_isPacking
  have k1' : zm_lp (fun s => f_X11_isPacking_l4 (nI way) M s.1 s.2) (0, 0) = some e := k1
  rw [k1']
  rcases k2 with ⟨rfl, k2⟩ | ⟨rfl, k2⟩
  · rw [k2]; rfl
  · rw [k2]; rfl
theorem r_wrongBy {M : zm_Mem} {t v n K k way : Nat} {D : zD} {S cr bf f : Nat → Nat} (hC : Cx M t v D S n) (hL : LsD M (D.1 0 1) K cr bf f) (hK : K ≤ 20) (hk : k ≤ K) (hw : way < 6 ^ D.1 0 1) (hp : pkP (D.1 0 1) (D.1 0 1) way = true) : f_X11_wrongBy (nI way) (nI k) M = some (nI (wrs D cr bf f k way)) := by
  have ht := hC.2.1
  have hT := hC.2.2.1
  have hR := hC.2.2.2
  have bI := cx_isT hC
  have bv := tT_v hT
  have bh := tT_bh hT
  have bw := tT_bw hT
  have bk := tT_bk hT
  have p6 := p6_le bw
  unfold f_X11_wrongBy
  refine lp_sum (st := fun b i => f_X11_wrongBy_l5 (nI way) (nI k) M b i) (fun i => if rt D bf f i (dgp 6 way (D.1 0 1) (cr i)) = false then 1 else 0) k 1 (fun i _ => by split <;> omega) (fun i b hi hb => ?_) (fun b hb => ?_)
  · obtain ⟨q1, q2, q3, q4, q5, q6, q7, q8, q9⟩ := hL i (by omega)
    have hwi := r_workIn hC (way := way) (c := cr i) (by omega) q1
    have hdW : dgp 6 way (D.1 0 1) (cr i) < D.1 0 1 := by
      unfold pkP at hp
      have := allB_iff.1 hp (cr i) q1
      rw [Bool.and_eq_true, decide_eq_true_eq] at this
      exact this.1
    generalize hdd : dgp 6 way (D.1 0 1) (cr i) = d at hwi hdW
    have hwb := tT_Wb hT d hdW
    have z1 : zm_in (nI i) 20 = true := zm_in_nI (by omega) (by omega)
    have ci : (nI i).toNatClampNeg = i := nI_clamp (by omega)
    have q6' : (6 : Int32) * nI v + nI d = nI (6 * v + d) := by rw [show (6 : Int32) = nI 6 from rfl, pk_mul, nI_add]
    have z12 : zm_in (nI (6 * v + d)) 12 = true := zm_in_nI (by omega) (by omega)
    have c12 : (nI (6 * v + d)).toNatClampNeg = 6 * v + d := nI_clamp (by omega)
    have fin : ∀ x, x < 1000 → f_X11_wrongBy_b88_5 M (nI b) (nI i) (nI x) = some (.inl (nI (b + if decide (x = f i) = false then 1 else 0), nI (i + 1))) := by
      intro x hx
      unfold f_X11_wrongBy_b88_5 f_X11_wrongBy_b105_5
      rw [z1, zk_true, ci, q9]
      simp only [zv_eq]
      rw [nI_k1, nI_k1]
      by_cases hxf : x = f i
      · rw [if_pos (by rw [hxf]), if_neg (by rw [decide_eq_true hxf]; decide)]; rfl
      · rw [if_neg (by rw [nI_eq (by omega) (by omega)]; exact hxf), if_pos (by rw [decide_eq_false hxf])]
    unfold f_X11_wrongBy_l5
    rw [if_neg (nI_ge hi (by omega)), z1, zk_true, ci, q5, hwi, zb1_some, zk_true, q7, tT_live hT, q6', z12, zk_true, zk_true, zk_true, c12, r_ownerNow hC hdW, zb1_some, tT_rki hT d hdW, tT_rva hT d hdW, fin _ (by omega), fin _ (by omega), fin _ (by omega)]
    unfold rt
    rcases (show bf i = 0 ∨ bf i = 1 ∨ bf i = 2 by omega) with h | h | h
    · rw [show vl D (bf i) d = D.1 5 d by unfold vl; rw [h]; rfl, h, if_pos (by rfl)]
    · rw [show vl D (bf i) d = D.1 6 d by unfold vl; rw [h]; rfl, h, if_neg (by decide), if_pos (by rfl)]
    · rw [show vl D (bf i) d = D.1 3 d by unfold vl; rw [h]; rfl, h, if_neg (by decide), if_neg (by decide)]
  · unfold f_X11_wrongBy_l5
    rw [if_pos (nI_le (Nat.le_refl _) (by omega))]
