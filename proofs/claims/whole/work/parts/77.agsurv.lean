/-! hangings, nearest -/
theorem inv_of {M : zm_Mem} {t v q n : Nat} {D : zD} {S : Nat → Nat} (hC : Cx M t v D S n) (hX : Rx M t D S q n) : Inv M q n := ⟨t, v, D, S, hC, hX⟩
theorem rws_of {M : zm_Mem} {D : zD} {a : Nat → Bool} {g : Nat → Nat} {dy li : Nat} (h : Rw M D a g dy li) : RwS M D dy li := ⟨h.1, h.2.2⟩
theorem ag_hangings {M : zm_Mem} {q n : Nat} (hI : Inv M q n) (hn : n < 512) : Ag (f_X10_hangingsP M) (fun M1 => f_X11_hangings M1) (q + 1) n := by
  obtain ⟨t, v, D, S, hC, hX⟩ := hI
  obtain ⟨M1, e1, hC1, hX1, hO, r11, r12⟩ := c_survey hn hC hX
  have ht := hC.2.1
  have hT := hC.2.2.1
  have hR := hC.2.2.2
  have bI := cx_isT hC
  have bv := tT_v hT
  have bh := tT_bh hT
  have bw := tT_bw hT
  have bk := tT_bk hT
  obtain ⟨P, c1, c2, c3, c4, c5, c6⟩ := r_cp hC1
  have hCP := cx_sc c2 hC1
  have hv2 : zm_in (nI v) 2 = true := zm_in_nI (by omega) (by omega)
  have hcv : (nI v).toNatClampNeg = v := nI_clamp (by omega)
  have p5 := p5_le bw
  have key : ∃ e, zm_lp (fun s => f_X11_hangings_l8 s.1 s.2.1 s.2.2) (nI 0, nI 0, P) = some e ∧ (e.1 = nI (sumOf (fun way => if hgB D (S 3) (S 0) way = true then 1 else 0) (5 ^ D.1 0 1)) ∧ Fr wHn P e.2) := by
    refine lp_inv (step := fun s => f_X11_hangings_l8 s.1 s.2.1 s.2.2) (fun i z => z.1 = nI (sumOf (fun way => if hgB D (S 3) (S 0) way = true then 1 else 0) i) ∧ z.2.1 = nI i ∧ Fr wHn P z.2.2 ∧ RwS z.2.2 D (S 0) (S 3)) _ (5 ^ D.1 0 1) ?_ ?_ ⟨rfl, rfl, fr_rfl _ P, rws_of c3⟩
    · rintro i ⟨z1, z2, L⟩ hi ⟨p1, p2, p3, p4⟩
      simp only at p1 p2 p3 p4
      subst p1 p2
      have hCL := cx_sc (sc_Hn p3) hCP
      have hTL := hCL.2.2.1
      obtain ⟨L', k1, k2, k3⟩ := r_isHanging hCL p4 hi
      refine Or.inl ⟨(nI (sumOf (fun way => if hgB D (S 3) (S 0) way = true then 1 else 0) (i + 1)), nI (i + 1), L'), ?_, rfl, rfl, fr_tr p3 k2, k3⟩
      show f_X11_hangings_l8 _ (nI i) L = _
      have es : sumOf (fun way => if hgB D (S 3) (S 0) way = true then 1 else 0) (i + 1) = sumOf (fun way => if hgB D (S 3) (S 0) way = true then 1 else 0) i + (if hgB D (S 3) (S 0) i = true then 1 else 0) := rfl
      unfold f_X11_hangings_l8 f_X11_hangings_b35_8
      rw [tT_live hTL, hv2, zk_true, hcv, tT_rw hTL, r_fives bw, zb1_some, if_neg (nI_ge hi (by omega)), k1, zb2_some, es]
      simp only [zv_eq]
      rw [nI_k1, nI_k1]
      cases hgB D (S 3) (S 0) i with
      | true => rw [if_pos (c := true = true) rfl, if_neg (by decide), if_pos (c := true = true) rfl]
      | false => rw [if_neg (c := false = true) (by decide), if_pos (by rfl), if_neg (c := false = true) (by decide)]; rfl
    · rintro ⟨z1, z2, L⟩ ⟨p1, p2, p3, p4⟩
      simp only at p1 p2 p3 p4
      subst p1 p2
      have hTL := (cx_sc (sc_Hn p3) hCP).2.2.1
      refine ⟨(nI (sumOf (fun way => if hgB D (S 3) (S 0) way = true then 1 else 0) (5 ^ D.1 0 1)), L), ?_, rfl, p3⟩
      show f_X11_hangings_l8 _ (nI (5 ^ D.1 0 1)) L = _
      unfold f_X11_hangings_l8
      rw [tT_live hTL, hv2, zk_true, hcv, tT_rw hTL, r_fives bw, zb1_some, if_pos (nI_le (Nat.le_refl _) (by omega))]
  obtain ⟨⟨z, L⟩, k1, k2, k3⟩ := key
  simp only at k2 k3
  refine ⟨z, M1, L, ?_, ?_, ?_⟩
  · unfold f_X10_hangingsP f_X6_rowsKept
    rw [e1, zb2_some, zm_ck_t (decide_eq_true r11), zb1_some, hO.1.2.2.2.1, k2, ← vN_sz]; rfl
  · show f_X11_hangings M1 = _
    unfold f_X11_hangings
    rw [c1, zb2_some]
    have k1' : zm_lp (fun s => f_X11_hangings_l8 s.1 s.2.1 s.2.2) (0, 0, P) = some (z, L) := k1
    rw [k1']; rfl
  · exact iv_mono (iv_sc_keep (inv_of hC1 hX1) (sc_tr c2 (sc_Hn k3)))
theorem ag_nearestE {M : zm_Mem} {q n : Nat} (hI : Inv M q n) (hn : n < 512) (a1 : Int32) (he : (f_X10_nearestE a1 M).isSome = true) : Ag (rd (f_X10_nearestE a1 M) M) (fun M1 => f_X11_nearest a1 M1) q n := by
  have hI' := hI
  obtain ⟨t, v, D, S, hC, hX⟩ := hI'
  have ht := hC.2.1
  have hT := hC.2.2.1
  have hR := hC.2.2.2
  have bI := cx_isT hC
  have bv := tT_v hT
  have bh := tT_bh hT
  have bw := tT_bw hT
  have bk := tT_bk hT
  unfold f_X10_nearestE f_X10_nearestE_b15 at he ⊢
  by_cases h1 : a1 = -1
  · rw [if_pos h1] at he; cases he
  rw [if_neg h1] at he ⊢
  rcases ix_cases a1 (b := D.1 0 1) (by omega) with h | ⟨w, hw, rfl⟩
  · rw [c_isWork0 hC h, zb1_some, if_pos rfl]
    refine ag_mk hI (r := -1) (M1 := M) (M2 := M) rfl ?_ (sc_rfl M)
    show f_X11_nearest a1 M = _
    unfold f_X11_nearest
    rw [if_neg h1, r_isWork0 hC h]; rfl
  · rw [c_isWork hC hw, zb1_some, if_neg (by decide)] at he; cases he
def nsF (D : zD) (S : Nat → Nat) (i : Nat) : Int32 × Int32 := match blF D (S 3) (S 0) (isAt S (S 0)) (fun j => S (4 + j)) i with
  | none => (-nI 1, nI 0)
  | some b => (nI b.1, nI b.2)
theorem ag_nearest {M : zm_Mem} {q n : Nat} (hI : Inv M q n) (hn : n < 512) (a1 : Int32) (he : ¬ (f_X10_nearestE a1 M).isSome = true) : Ag (f_X10_nearestP a1 M) (fun M1 => f_X11_nearest a1 M1) (q + 1) n := by
  obtain ⟨t, v, D, S, hC, hX⟩ := hI
  obtain ⟨M1, e1, hC1, hX1, hO, r11, r12⟩ := c_survey hn hC hX
  have ht := hC.2.1
  have hT := hC.2.2.1
  have hR := hC.2.2.2
  have bI := cx_isT hC
  have bv := tT_v hT
  have bh := tT_bh hT
  have bw := tT_bw hT
  have bk := tT_bk hT
  have hok : a1 = -1 ∨ ∃ w, w < D.1 0 1 ∧ a1 = nI w := by
    by_cases h1 : a1 = -1
    · exact Or.inl h1
    · rcases ix_cases a1 (b := D.1 0 1) (by omega) with h | ⟨w, hw, rfl⟩
      · exfalso
        apply he
        unfold f_X10_nearestE
        rw [if_neg h1, c_isWork0 hC h]; rfl
      · exact Or.inr ⟨w, hw, rfl⟩
  obtain ⟨P, c1, c2, c3, c4, c5, c6⟩ := r_cp hC1
  have hCP := cx_sc c2 hC1
  have hv2 : zm_in (nI v) 2 = true := zm_in_nI (by omega) (by omega)
  have hcv : (nI v).toNatClampNeg = v := nI_clamp (by omega)
  have p5 := p5_le bw
  have hg := hg_S hC
  have hbl := fun N => blF_b (li := S 3) (dy := S 0) (a := isAt S (S 0)) (g := fun j => S (4 + j)) bw N
  have key : ∃ e, zm_lp (fun s => f_X11_nearest_l26 s.1 s.2.1 s.2.2.1 s.2.2.2) (-nI 1, nI 0, nI 0, P) = some e ∧ ((e.1, e.2.1) = nsF D S (5 ^ D.1 0 1) ∧ Fr wHn P e.2.2) := by
    refine lp_inv (step := fun s => f_X11_nearest_l26 s.1 s.2.1 s.2.2.1 s.2.2.2) (fun i z => (z.1, z.2.1) = nsF D S i ∧ z.2.2.1 = nI i ∧ Fr wHn P z.2.2.2 ∧ RwS z.2.2.2 D (S 0) (S 3)) _ (5 ^ D.1 0 1) ?_ ?_ ⟨rfl, rfl, fr_rfl _ P, rws_of c3⟩
    · rintro i ⟨z1, z2, z3, L⟩ hi ⟨p1, p2, p3, p4⟩
      simp only at p1 p2 p3 p4
      subst p2
      have hCL := cx_sc (sc_Hn p3) hCP
      have hTL := hCL.2.2.1
      have hRL := hCL.2.2.2
      have hoi := ofF_le (isAt S (S 0)) (fun j => S (4 + j)) i (D.1 0 1)
      have off : zm_lp (fun s => f_X11_nearest_l49_26 (nI i) L s.1 s.2) (0, 0) = some (nI (ofF (isAt S (S 0)) (fun j => S (4 + j)) i (D.1 0 1))) := by
        refine bind_some_id ?_
        refine lp_sum (st := fun b o => f_X11_nearest_l49_26 (nI i) L b o) (fun j => if isAt S (S 0) j = true ∧ S (4 + j) = dgp 5 i (D.1 0 1) j then 0 else 1) (D.1 0 1) 1 (fun j _ => by split <;> omega) (fun o b ho hb => ?_) (fun b hb => ?_)
        · have hdo := dgp_lt (B := 5) (by omega) i (D.1 0 1) o
          have hgo : S (4 + o) < 5 := hg o ho
          unfold f_X11_nearest_l49_26 f_X11_nearest_b84_49_26
          rw [tT_live hTL, hv2, zk_true, hcv, tT_rw hTL, if_neg (nI_ge ho (by omega)), zm_ck_t (zm_in_nI (by omega) (by omega)), nI_clamp (by omega), r_houseIn hCL (by omega) ho, zb1_some, tR_rp hRL o ho]
          simp only [zv_eq]
          rw [nI_k1, nI_k1]
          have hq := zq_at (S (10 + o) ≤ S 0) (g := S (4 + o)) (x := dgp 5 i (D.1 0 1) o) (by omega) (by omega)
          have hat : isAt S (S 0) o = true ↔ S (10 + o) ≤ S 0 := by simp only [isAt, decide_eq_true_eq]
          by_cases hc : S (10 + o) ≤ S 0 ∧ S (4 + o) = dgp 5 i (D.1 0 1) o
          · rw [if_pos (show (if S (10 + o) ≤ S 0 then nI (S (4 + o)) else -2) = nI (dgp 5 i (D.1 0 1) o) from hq.2 hc), if_pos ⟨hat.2 hc.1, hc.2⟩]; rfl
          · rw [if_neg (show ¬ (if S (10 + o) ≤ S 0 then nI (S (4 + o)) else -2) = nI (dgp 5 i (D.1 0 1) o) from fun z => hc (hq.1 z)), if_neg (fun z => hc ⟨hat.1 z.1, z.2⟩)]
        · unfold f_X11_nearest_l49_26
          rw [tT_live hTL, hv2, zk_true, hcv, tT_rw hTL, if_pos (nI_le (Nat.le_refl _) (by omega))]
      have st : f_X11_nearest_l26 z1 z2 (nI i) L = f_X11_nearest_x90_49_26 z1 z2 (nI i) L (nI (ofF (isAt S (S 0)) (fun j => S (4 + j)) i (D.1 0 1))) := by
        unfold f_X11_nearest_l26
        rw [tT_live hTL, hv2, zk_true, hcv, tT_rw hTL, r_fives bw, zb1_some, if_neg (nI_ge hi (by omega)), off]; rfl
      obtain ⟨L', k1, k2, k3⟩ := r_isHanging hCL p4 hi
      have b100 : f_X11_nearest_b100_26 z1 z2 (nI i) L (nI (ofF (isAt S (S 0)) (fun j => S (4 + j)) i (D.1 0 1))) = if hgB D (S 3) (S 0) i = true then some (.inl (nI i, nI (ofF (isAt S (S 0)) (fun j => S (4 + j)) i (D.1 0 1)), nI (i + 1), L')) else some (.inl (z1, z2, nI (i + 1), L')) := by
        unfold f_X11_nearest_b100_26 f_X11_nearest_b118_26
        rw [k1, zb2_some]
        simp only [zv_eq]
        rw [nI_k1]
        cases hgB D (S 3) (S 0) i with
        | true => rw [if_pos (c := true = true) rfl, if_neg (by decide), if_pos (c := true = true) rfl]
        | false => rw [if_neg (c := false = true) (by decide), if_pos (by rfl), if_neg (c := false = true) (by decide)]
      have eb : blF D (S 3) (S 0) (isAt S (S 0)) (fun j => S (4 + j)) (i + 1) = if hgB D (S 3) (S 0) i = true then (match blF D (S 3) (S 0) (isAt S (S 0)) (fun j => S (4 + j)) i with
        | none => some (i, ofF (isAt S (S 0)) (fun j => S (4 + j)) i (D.1 0 1))
        | some b => if b.2 ≤ ofF (isAt S (S 0)) (fun j => S (4 + j)) i (D.1 0 1) then some b else some (i, ofF (isAt S (S 0)) (fun j => S (4 + j)) i (D.1 0 1))) else blF D (S 3) (S 0) (isAt S (S 0)) (fun j => S (4 + j)) i := rfl
      refine Or.inl ?_
      unfold nsF at p1
      cases hb : blF D (S 3) (S 0) (isAt S (S 0)) (fun j => S (4 + j)) i with
      | none =>
        rw [hb] at p1 eb
        simp only [Prod.mk.injEq] at p1
        obtain ⟨rfl, rfl⟩ := p1
        have hx : f_X11_nearest_l26 (-nI 1) (nI 0) (nI i) L = _ := st
        unfold f_X11_nearest_x90_49_26 at hx
        rw [if_pos (show -nI 1 < (0 : Int32) by decide), b100] at hx
        cases hh : hgB D (S 3) (S 0) i with
        | true =>
          rw [hh, if_pos rfl] at hx eb
          refine ⟨_, hx, ?_, rfl, fr_tr p3 k2, k3⟩
          unfold nsF; rw [eb]
        | false =>
          rw [hh, if_neg (by decide)] at hx eb
          refine ⟨_, hx, ?_, rfl, fr_tr p3 k2, k3⟩
          unfold nsF; rw [eb]
      | some b =>
        obtain ⟨q1, q2⟩ := hbl i b hb
        rw [hb] at p1 eb
        simp only [Prod.mk.injEq] at p1
        obtain ⟨rfl, rfl⟩ := p1
        have hx : f_X11_nearest_l26 (nI b.1) (nI b.2) (nI i) L = _ := st
        unfold f_X11_nearest_x90_49_26 at hx
        rw [if_neg (show ¬ nI b.1 < (0 : Int32) from nI_pos (by omega))] at hx
        by_cases hle : b.2 ≤ ofF (isAt S (S 0)) (fun j => S (4 + j)) i (D.1 0 1)
        · rw [if_pos (nI_le hle (by omega))] at hx
          unfold f_X11_nearest_b118_26 at hx
          simp only [zv_eq] at hx
          rw [nI_k1] at hx
          refine ⟨_, hx, ?_, rfl, p3, p4⟩
          have eb2 : blF D (S 3) (S 0) (isAt S (S 0)) (fun j => S (4 + j)) (i + 1) = some b := by
            rw [eb]
            simp only
            rw [if_pos hle]
            split <;> rfl
          unfold nsF; rw [eb2]
        · rw [if_neg (nI_ge (by omega) (by omega)), b100] at hx
          simp only at eb
          rw [if_neg hle] at eb
          cases hh : hgB D (S 3) (S 0) i with
          | true =>
            rw [hh, if_pos rfl] at hx eb
            refine ⟨_, hx, ?_, rfl, fr_tr p3 k2, k3⟩
            unfold nsF; rw [eb]
          | false =>
            rw [hh, if_neg (by decide)] at hx eb
            refine ⟨_, hx, ?_, rfl, fr_tr p3 k2, k3⟩
            unfold nsF; rw [eb]
    · rintro ⟨z1, z2, z3, L⟩ ⟨p1, p2, p3, p4⟩
      simp only at p1 p2 p3 p4
      subst p2
      have hTL := (cx_sc (sc_Hn p3) hCP).2.2.1
      refine ⟨(z1, z2, L), ?_, p1, p3⟩
      show f_X11_nearest_l26 z1 z2 (nI (5 ^ D.1 0 1)) L = _
      unfold f_X11_nearest_l26
      rw [tT_live hTL, hv2, zk_true, hcv, tT_rw hTL, r_fives bw, zb1_some, if_pos (nI_le (Nat.le_refl _) (by omega))]
  obtain ⟨⟨z1, z2, L⟩, k1, k2, k3⟩ := key
  simp only at k2 k3
  have hCL := cx_sc (sc_Hn k3) hCP
  have hsz := vN_sz D (S 3) (S 0) (isAt S (S 0)) (fun j => S (4 + j)) (5 ^ D.1 0 1)
  obtain ⟨hn1, hn2⟩ := vN_near (li := S 3) (dy := S 0) (a := isAt S (S 0)) (g := fun j => S (4 + j)) bw (5 ^ D.1 0 1)
  obtain ⟨o1, o2, o3, o4, o5, o6, o7⟩ := hO.1
  have hszle : sumOf (fun way => if hgB D (S 3) (S 0) way = true then 1 else 0) (5 ^ D.1 0 1) ≤ 15625 := by
    have := sumOf_le (f := fun way => if hgB D (S 3) (S 0) way = true then 1 else 0) (c := 1) (i := 5 ^ D.1 0 1) (fun j _ => by split <;> omega)
    omega
  have o4' : M1.1 103 13 = nI (sumOf (fun way => if hgB D (S 3) (S 0) way = true then 1 else 0) (5 ^ D.1 0 1)) := by rw [o4, ← hsz]; rfl
  have hbx : ∀ N, (blF D (S 3) (S 0) (isAt S (S 0)) (fun j => S (4 + j)) N = none ↔ sumOf (fun way => if hgB D (S 3) (S 0) way = true then 1 else 0) N = 0) := by
    intro N
    induction N with
    | zero => exact ⟨fun _ => rfl, fun _ => rfl⟩
    | succ N ih =>
      unfold blF sumOf
      cases hh : hgB D (S 3) (S 0) N with
      | true =>
        rw [if_pos rfl]
        constructor
        · intro z
          exfalso
          cases hb : blF D (S 3) (S 0) (isAt S (S 0)) (fun j => S (4 + j)) N with
          | none => rw [hb] at z; cases z
          | some b => rw [hb] at z; simp only at z; split at z <;> cases z
        · intro z; rw [if_pos rfl] at z; omega
      | false => rw [if_neg (by decide), if_neg (by decide), Nat.add_zero]; exact ih
  have kr : f_X11_nearest a1 M1 = f_X11_nearest_x124_26 a1 z1 z2 L := by
    have hb : f_X11_nearest_b15 a1 M1 = f_X11_nearest_x124_26 a1 z1 z2 L := by
      unfold f_X11_nearest_b15
      rw [c1, zb2_some]
      have k1' : zm_lp (fun s => f_X11_nearest_l26 s.1 s.2.1 s.2.2.1 s.2.2.2) (-1, 0, 0, P) = some (z1, z2, L) := k1
      rw [k1']; rfl
    unfold f_X11_nearest
    rcases hok with h | ⟨w, hw, rfl⟩
    · rw [if_pos h]; exact hb
    · rw [if_neg (show ¬ nI w = -1 from fun z => (zi_en (a := w) (b := 1) (by omega) (by omega) (by omega)).1 z), r_isWork hC1 hw, zb1_some, if_neg (by decide)]; exact hb
  have kc : f_X10_nearestP a1 M = f_X10_nearestP_b15 a1 M := by
    unfold f_X10_nearestP
    rcases hok with h | ⟨w, hw, rfl⟩
    · rw [if_pos h]
    · rw [if_neg (show ¬ nI w = -1 from fun z => (zi_en (a := w) (b := 1) (by omega) (by omega) (by omega)).1 z), c_isWork hC hw, zb1_some, if_neg (by decide)]
  have hInv := iv_mono (iv_sc_keep (inv_of hC1 hX1) (sc_tr c2 (sc_Hn k3)))
  unfold nsF at k2
  cases hb : blF D (S 3) (S 0) (isAt S (S 0)) (fun j => S (4 + j)) (5 ^ D.1 0 1) with
  | none =>
    rw [hb] at k2
    simp only [Prod.mk.injEq] at k2
    refine ⟨-2, M1, L, ?_, ?_, hInv⟩
    · rw [kc]
      unfold f_X10_nearestP_b15 f_X6_rowsKept
      rw [e1, zb2_some, zm_ck_t (decide_eq_true r11), zb1_some, o4', (hbx _).1 hb, if_pos (by rfl)]
    · show f_X11_nearest a1 M1 = _
      rw [kr]
      unfold f_X11_nearest_x124_26
      rw [k2.1, if_neg (by decide)]
  | some b =>
    obtain ⟨q1, q2⟩ := hbl _ b hb
    rw [hb] at k2 hn1
    simp only [Prod.mk.injEq] at k2
    simp only at hn1
    have hn2' := hn2 b hb
    have hne : ¬ sumOf (fun way => if hgB D (S 3) (S 0) way = true then 1 else 0) (5 ^ D.1 0 1) = 0 := fun z => by rw [(hbx _).2 z] at hb; cases hb
    have o5' : M1.1 103 14 = nI b.2 := by rw [o5, ← hn1]; rfl
    have o7' : ∀ w, w < D.1 0 1 → M1.1 108 w = nI (dgp 5 b.1 (D.1 0 1) w) := by
      have hv : (finV D (S 3) (S 0) (isAt S (S 0)) (fun j => S (4 + j))).2.2.2.2.1 = b.2 := hn1
      have hw' : (finV D (S 3) (S 0) (isAt S (S 0)) (fun j => S (4 + j))).2.2.2.2.2 = b.1 := hn2'
      intro w hw
      rw [← hw']; exact o7 (by omega) w hw
    have kc2 : f_X10_nearestP_b15 a1 M = if a1 = (-1 : Int32) then some (nI b.2, M1) else (zm_b1 (f_X6_nearHouse a1 M1) <| fun r52 => some (r52, M1)) := by
      unfold f_X10_nearestP_b15 f_X6_rowsKept f_X6_fewestElsewhere
      rw [e1, zb2_some, zm_ck_t (decide_eq_true r11), zb1_some, o4', if_neg (show ¬ nI _ = 0 from nI_ne0 (by omega) (by omega)), zm_ck_t (decide_eq_true r11), zb1_some, o5', zm_ck_t (decide_eq_true r11)]
    rcases hok with h | ⟨w, hw, rfl⟩
    · refine ⟨nI b.2, M1, L, ?_, ?_, hInv⟩
      · rw [kc, kc2, if_pos h]
      · show f_X11_nearest a1 M1 = _
        rw [kr]
        unfold f_X11_nearest_x124_26
        rw [k2.1, if_pos (nI_pos' (by omega)), if_pos h, k2.2]
    · have hm1 : ¬ nI w = -1 := fun z => (zi_en (a := w) (b := 1) (by omega) (by omega) (by omega)).1 z
      refine ⟨nI (dgp 5 b.1 (D.1 0 1) w), M1, L, ?_, ?_, hInv⟩
      · rw [kc, kc2, if_neg hm1]
        unfold f_X6_nearHouse
        rw [zm_ck_t (zm_in_nI (by omega) (by omega)), nI_clamp (by omega), o7' w hw]; rfl
      · show f_X11_nearest (nI w) M1 = _
        rw [kr]
        unfold f_X11_nearest_x124_26
        rw [k2.1, if_pos (nI_pos' (by omega)), if_neg hm1, r_houseIn hCL (by omega) hw]; rfl
