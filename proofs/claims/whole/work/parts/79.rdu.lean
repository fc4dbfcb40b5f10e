/-! a law, whole: class -/
def lcB : zB → Nat → zE
  | [], _ => []
  | (l1, l2, l3) :: B, a => l1 ++ (l2 ++ ((6, a + (l1.length + l2.length + l3.length + 2)) :: (l3 ++ ((7, 0) :: lcB B (a + (l1.length + l2.length + l3.length + 2))))))
theorem lcB_cons (x : zE × zE × zE) (B : zB) (a : Nat) : lcB (x :: B) a = x.1 ++ (x.2.1 ++ ((6, a + brL x) :: (x.2.2 ++ ((7, 0) :: lcB B (a + brL x))))) := by
  obtain ⟨l1, l2, l3⟩ := x
  rfl
theorem lc_B : ∀ (B : zB) (l : zE) (a : Nat), iv_lc B l a = lcB B a ++ (l ++ [(7, 0)])
  | [], l, a => rfl
  | (l1, l2, l3) :: B, l, a => by
    unfold iv_lc lcB
    rw [lc_B B l]
    simp only [List.append_assoc, List.cons_append]
def zLo (T : Nat → Nat) (n : Nat) : Nat → zZ → zZ
  | 0, Z => Sum.elim (fun f => (.inl f : zZ)) (fun p : Nat × Option (Nat × Nat) => (if (tkF T n p.1).1 = 264 then .inl (2, p.1) else .inr p : zZ)) Z
  | m + 1, Z => Sum.elim (fun f => (.inl f : zZ)) (fun p : Nat × Option (Nat × Nat) => (if (tkF T n p.1).1 = 264 then zLo T n m (zBr T n (.inr p)) else .inr p : zZ)) Z
def bsL (T : Nat → Nat) (n : Nat) : Nat → Nat → zB
  | 0, _ => []
  | m + 1, i => if (tkF T n i).1 = 264 then brC T n i :: bsL T n m (nxB T n i) else []
def edL (T : Nat → Nat) (n : Nat) : Nat → Nat → Nat
  | 0, i => i
  | m + 1, i => if (tkF T n i).1 = 264 then edL T n m (nxB T n i) else i
def exB (B : zB) : Prop := ∀ x ∈ B, iv_ex x.1 ∧ iv_ex x.2.1 ∧ iv_ex x.2.2
theorem zLo_inl (T : Nat → Nat) (n m : Nat) (f : Nat × Nat) : zLo T n m (.inl f) = .inl f := by cases m <;> rfl
theorem bsL_len (T : Nat → Nat) (n : Nat) : ∀ m i, (bsL T n m i).length ≤ m
  | 0, i => Nat.le_refl _
  | m + 1, i => by
    unfold bsL
    split
    · have := bsL_len T n m (nxB T n i)
      show (bsL T n m (nxB T n i)).length + 1 ≤ m + 1
      omega
    · exact Nat.zero_le _
theorem c_laws {T : Nat → Nat} {n t : Nat} : ∀ m l M cl Z, l + m = 4 → CZ T n M t cl Z → (∀ i nt, Z = .inr (i, nt) → cl ≤ 4 + i) → ∃ M', zm_lp (fun s : Int32 × zm_Mem => f_X2_law_l20 s.1 s.2) (nI l, M) = some M' ∧ Fp (pF t) M M' ∧ (∃ c, CZ T n M' t c (zLo T n m Z)) ∧ ∀ j nt', zLo T n m Z = .inr (j, nt') → ∃ i nt, Z = .inr (i, nt) ∧ j = edL T n m i ∧ CZ T n M' t (cl + (lcB (bsL T n m i) cl).length) (.inr (j, nt')) ∧ iv_sc M' t cl (lcB (bsL T n m i) cl) ∧ Fp (pE t cl) M M' ∧ cl + (lcB (bsL T n m i) cl).length ≤ 4 + j ∧ i ≤ j ∧ exB (bsL T n m i) ∧ (nt' = none → nt = none) := by
  intro m
  induction m with
  | zero =>
    intro l M cl Z hl h hc
    have hl4 : l = 4 := by omega
    subst hl4
    obtain ⟨ht, h83, hT⟩ := cz_t h
    rcases h with ⟨f, j, rfl, h⟩ | ⟨i, nt, rfl, h, hi, hcl, hn⟩
    · refine ⟨M, lp_end ?_, fp_rfl _ _, ⟨cl, Or.inl ⟨f, j, rfl, h⟩⟩, fun j nt' z => by cases z⟩
      show f_X2_law_l20 (nI 4) M = _
      unfold f_X2_law_l20
      rw [if_neg (by decide), if_neg (cf_ne h)]
    · have hlt := cs_num (T := T) (n := n) (i := i)
      show ∃ M', _ ∧ _ ∧ (∃ c, CZ T n M' t c (if (tkF T n i).1 = 264 then .inl (2, i) else .inr (i, nt))) ∧ ∀ j nt', (if (tkF T n i).1 = 264 then (.inl (2, i) : zZ) else .inr (i, nt)) = .inr (j, nt') → _
      by_cases h1 : (tkF T n i).1 = 264
      · rw [if_pos h1]
        have F := cf_tk (k := 2) h hi hcl (by omega)
        obtain ⟨M', e, g, ⟨c, z⟩, _⟩ := c_branch (T := T) (n := n) (t := t) (cl := cl) (l := 4) (Z := .inl (2, i)) (Or.inl ⟨2, i, rfl, F⟩) (fun i nt z => by cases z) (fun i nt z => by cases z)
        have z' : CZ T n M' t c (.inl (2, i)) := z
        refine ⟨M', ?_, fp_tr (fp_sI (Or.inr ⟨rfl, by omega, by omega⟩)) g, ⟨c, z'⟩, fun j nt' z => by cases z⟩
        have st : f_X2_law_l20 (nI 4) M = some (.inl (nI 5, M')) := by
          unfold f_X2_law_l20
          rw [if_neg (by decide), if_pos h.2.2.1, c_sortI h.1 h.2.1 hi, zb1_some, if_pos (show nI (tkF T n i).1 = (264 : Int32) by rw [h1]; rfl), if_pos (by decide), c_fail, if_pos h.2.2.1, zb2_some]
          exact e
        rw [lp_go (s' := (nI 5, M')) st]
        refine lp_end ?_
        show f_X2_law_l20 (nI 5) M' = _
        unfold f_X2_law_l20
        rw [if_pos (by decide)]
      · rw [if_neg h1]
        refine ⟨M, lp_end ?_, fp_rfl _ _, ⟨cl, Or.inr ⟨i, nt, rfl, h, hi, hcl, hn⟩⟩, fun j nt' z => ?_⟩
        · show f_X2_law_l20 (nI 4) M = _
          unfold f_X2_law_l20
          rw [if_neg (by decide), if_pos h.2.2.1, c_sortI h.1 h.2.1 hi, zb1_some, if_neg (show ¬ nI (tkF T n i).1 = (264 : Int32) from fun z => h1 ((nI_eq (b := 264) (by omega) (by omega)).1 z))]
        · have z1 : i = j := congrArg Prod.fst (Sum.inr.inj z)
          have z2 : nt = nt' := congrArg Prod.snd (Sum.inr.inj z)
          subst z1; subst z2
          exact ⟨i, nt, rfl, rfl, Or.inr ⟨i, nt, rfl, h, hi, hcl, hn⟩, sc_nil, fp_rfl _ _, hc i nt rfl, Nat.le_refl _, fun x hx => (by cases hx), fun z => z⟩
  | succ m ih =>
    intro l M cl Z hl h hc
    obtain ⟨ht, h83, hT⟩ := cz_t h
    have h0 := h
    rcases h with ⟨f, j, rfl, h⟩ | ⟨i, nt, rfl, h, hi, hcl, hn⟩
    · refine ⟨M, lp_end ?_, fp_rfl _ _, ⟨cl, Or.inl ⟨f, j, rfl, h⟩⟩, fun j nt' z => by cases z⟩
      show f_X2_law_l20 (nI l) M = _
      unfold f_X2_law_l20
      rw [if_neg (show ¬ (4 : Int32) < nI l from nI_nlt (a := 4) (by omega) (by omega)), if_neg (cf_ne h)]
    · have hlt := cs_num (T := T) (n := n) (i := i)
      show ∃ M', _ ∧ _ ∧ (∃ c, CZ T n M' t c (if (tkF T n i).1 = 264 then zLo T n m (zBr T n (.inr (i, nt))) else .inr (i, nt))) ∧ ∀ j nt', (if (tkF T n i).1 = 264 then zLo T n m (zBr T n (.inr (i, nt))) else .inr (i, nt)) = .inr (j, nt') → _
      by_cases h1 : (tkF T n i).1 = 264
      · rw [if_pos h1]
        obtain ⟨M1, e1, g1, ⟨c1, z1⟩, v1⟩ := c_branch (l := l) h0 (fun i' n' z => by rw [← show i = i' from congrArg Prod.fst (Sum.inr.inj z)]; exact h1) hc
        have st : f_X2_law_l20 (nI l) M = some (.inl (nI (l + 1), M1)) := by
          unfold f_X2_law_l20
          rw [if_neg (show ¬ (4 : Int32) < nI l from nI_nlt (a := 4) (by omega) (by omega)), if_pos h.2.2.1, c_sortI h.1 h.2.1 hi, zb1_some, if_pos (show nI (tkF T n i).1 = (264 : Int32) by rw [h1]; rfl), if_neg (show ¬ nI l = (4 : Int32) from fun z => by have := (nI_eq (a := l) (b := 4) (by omega) (by omega)).1 z; omega)]
          exact e1
        rw [lp_go (s' := (nI (l + 1), M1)) st]
        have hb : bsL T n (m + 1) i = brC T n i :: bsL T n m (nxB T n i) := by rw [bsL, if_pos h1]
        have he : edL T n (m + 1) i = edL T n m (nxB T n i) := by rw [edL, if_pos h1]
        cases hZ : zBr T n (.inr (i, nt)) with
        | inl f =>
          rw [hZ] at z1
          obtain ⟨M2, e2, g2, ⟨c2, z2⟩, v2⟩ := ih (l + 1) M1 c1 (.inl f) (by omega) z1 (fun i nt z => by cases z)
          rw [zLo_inl] at z2
          rw [zLo_inl]
          exact ⟨M2, e2, fp_tr g1 g2, ⟨c2, z2⟩, fun j nt' z => by cases z⟩
        | inr p =>
          obtain ⟨i0, n0, w0, ej, za, sa, fa, la, ia, xa, na⟩ := v1 p.1 p.2 hZ
          have ei : i = i0 := congrArg Prod.fst (Sum.inr.inj w0)
          have en : nt = n0 := congrArg Prod.snd (Sum.inr.inj w0)
          subst ei; subst en
          obtain ⟨M2, e2, g2, ⟨c2, z2⟩, v2⟩ := ih (l + 1) M1 (cl + brL (brC T n i)) (.inr p) (by omega) za (fun i' n' z => by
            rw [← show p.1 = i' from congrArg Prod.fst (Sum.inr.inj z)]; exact la)
          refine ⟨M2, e2, fp_tr g1 g2, ⟨c2, z2⟩, fun j nt' z => ?_⟩
          obtain ⟨i1, n1, w1, ej1, zb, sb, fb, lb, ib, xb, nb⟩ := v2 j nt' z
          have ep : p.1 = i1 := congrArg Prod.fst (Sum.inr.inj w1)
          have ep2 : p.2 = n1 := congrArg Prod.snd (Sum.inr.inj w1)
          rw [← ep, ej] at ej1 zb sb lb ib xb
          have code : lcB (bsL T n (m + 1) i) cl = ((brC T n i).1 ++ ((brC T n i).2.1 ++ ((6, cl + brL (brC T n i)) :: ((brC T n i).2.2 ++ [(7, 0)])))) ++ lcB (bsL T n m (nxB T n i)) (cl + brL (brC T n i)) := by
            rw [hb, lcB_cons]
            simp only [List.append_assoc, List.cons_append, List.nil_append]
          have lenc : ((brC T n i).1 ++ ((brC T n i).2.1 ++ ((6, cl + brL (brC T n i)) :: ((brC T n i).2.2 ++ [(7, 0)])))).length = brL (brC T n i) := by
            unfold brL
            simp only [List.length_append, List.length_cons, List.length_nil]
            omega
          have len : cl + (lcB (bsL T n (m + 1) i) cl).length = cl + brL (brC T n i) + (lcB (bsL T n m (nxB T n i)) (cl + brL (brC T n i))).length := by
            rw [code, List.length_append, lenc]; omega
          refine ⟨i, nt, rfl, by rw [he]; exact ej1, by rw [len]; exact zb, ?_, fp_tr fa (fp_EE fb (by omega)), by rw [len]; exact lb, by rw [ej] at ia; omega, ?_, fun q => na (by rw [ep2]; exact nb q)⟩
          · rw [code]
            refine sc_app (sc_E ht sa fb (by rw [lenc]; exact Nat.le_refl _)) ?_
            rw [lenc]; exact sb
          · intro x hx
            rw [hb] at hx
            rcases List.mem_cons.1 hx with rfl | hx
            · exact xa
            · exact xb x hx
      · rw [if_neg h1]
        have hb : bsL T n (m + 1) i = [] := by rw [bsL, if_neg h1]
        have he : edL T n (m + 1) i = i := by rw [edL, if_neg h1]
        refine ⟨M, lp_end ?_, fp_rfl _ _, ⟨cl, h0⟩, fun j nt' z => ?_⟩
        · show f_X2_law_l20 (nI l) M = _
          unfold f_X2_law_l20
          rw [if_neg (show ¬ (4 : Int32) < nI l from nI_nlt (a := 4) (by omega) (by omega)), if_pos h.2.2.1, c_sortI h.1 h.2.1 hi, zb1_some, if_neg (show ¬ nI (tkF T n i).1 = (264 : Int32) from fun z => h1 ((nI_eq (b := 264) (by omega) (by omega)).1 z))]
        · have z1 : i = j := congrArg Prod.fst (Sum.inr.inj z)
          have z2 : nt = nt' := congrArg Prod.snd (Sum.inr.inj z)
          subst z1; subst z2
          refine ⟨i, nt, rfl, by rw [he], by rw [hb]; exact h0, by rw [hb]; exact sc_nil, fp_rfl _ _, by rw [hb]; exact hc i nt rfl, Nat.le_refl _, fun x hx => ?_, fun z => z⟩
          rw [hb] at hx; cases hx
def zLa (T : Nat → Nat) (n s : Nat) (Z : zZ) : zZ := zTo (tkF T n) 59 0 noB (zSm (tkF T n) (zLo T n 4 (zTo (tkF T n) 61 0 noB (zTo (tkF T n) s 0 noB Z))))
def laQ (T : Nat → Nat) (n i : Nat) : zB × zE := (bsL T n 4 (i + 2), cdX (tkF T n) (edL T n 4 (i + 2)))
def qLa (T : Nat → Nat) (n : Nat) (Q : zQ) (m i : Nat) : zQ := (Q.1, Q.2.1, Q.2.2.1, Q.2.2.2.1, if m = 14 then (laQ T n i, Q.2.2.2.2.2) else (Q.2.2.2.2.1, laQ T n i))
theorem c_lawS {T : Nat → Nat} {n t cl i s m : Nat} {M : zm_Mem} {nt : Option (Nat × Nat)} {Q : zQ} (h : CL T n M t cl i nt Q) (hs : (tkF T n i).1 = s) (hs0 : s ≠ 0) (hm : m = 14 ∨ m = 15) : ∃ r M', f_X2_law M = some (r, M') ∧ Fc t M (zm_sI M' t m r) ∧ (∃ c, CZ T n (zm_sI M' t m r) t c (zLa T n s (.inr (i, nt)))) ∧ ∀ i' nt', zLa T n s (.inr (i, nt)) = .inr (i', nt') → ∃ cl', CL T n (zm_sI M' t m r) t cl' i' nt' (qLa T n Q m i) ∧ exB (laQ T n i).1 ∧ iv_ex (laQ T n i).2 := by
  obtain ⟨hZ, hcl, ⟨h11, b11⟩, ⟨h12, b12⟩, ⟨h13, b13⟩, c9, c10, hD⟩ := h
  obtain ⟨ht, h83, hT⟩ := cz_t hZ
  obtain ⟨c0, hc0, t0, g0⟩ := cz_10 hZ
  have g0' := g0 i nt rfl
  subst g0'
  obtain ⟨M1, e1, f1, z1⟩ := c_ztake hs hs0 hZ
  obtain ⟨M2, e2, f2, z2⟩ := c_zexp (s := 61) (by omega) (by omega) z1
  have i2 : ∀ j n', zTo (tkF T n) 61 0 noB (zTo (tkF T n) s 0 noB (.inr (i, nt))) = .inr (j, n') → j = i + 2 ∧ (n' = none → nt = none) := fun j n' hz => by
    obtain ⟨i1, n1, w1, _, _, rfl, _, m1⟩ := zTo_inr hz
    obtain ⟨i0, n0, w0, _, _, rfl, _, m0⟩ := zTo_inr w1
    have ei : i = i0 := congrArg Prod.fst (Sum.inr.inj w0)
    have en : nt = n0 := congrArg Prod.snd (Sum.inr.inj w0)
    subst ei; subst en
    exact ⟨rfl, fun z => (m0 (m1 z).1).1⟩
  obtain ⟨M3, e3, f3, ⟨c3, z3⟩, v3⟩ := c_laws 4 0 M2 c0 _ rfl z2 (fun j n' hz => by have := (i2 j n' hz).1; omega)
  -- what the loop leaves, by cases of its end
  have z3' : ∃ c3', CZ T n M3 t c3' (zLo T n 4 (zTo (tkF T n) 61 0 noB (zTo (tkF T n) s 0 noB (.inr (i, nt))))) ∧ ∀ j nt', zLo T n 4 (zTo (tkF T n) 61 0 noB (zTo (tkF T n) s 0 noB (.inr (i, nt)))) = .inr (j, nt') → j = edL T n 4 (i + 2) ∧ c3' = c0 + (lcB (bsL T n 4 (i + 2)) c0).length ∧ iv_sc M3 t c0 (lcB (bsL T n 4 (i + 2)) c0) ∧ Fp (pE t c0) M2 M3 ∧ c3' ≤ 4 + j ∧ i + 2 ≤ j ∧ exB (bsL T n 4 (i + 2)) ∧ (nt' = none → nt = none) := by
    cases hX : zLo T n 4 (zTo (tkF T n) 61 0 noB (zTo (tkF T n) s 0 noB (.inr (i, nt)))) with
    | inl f => rw [hX] at z3; exact ⟨c3, z3, fun j nt' z => by cases z⟩
    | inr p =>
      obtain ⟨i1, n1, w1, a1, a2, a3, a4, a5, a6, a7, a8⟩ := v3 p.1 p.2 hX
      obtain ⟨q1, q2⟩ := i2 i1 n1 w1
      subst q1
      refine ⟨_, a2, fun j nt' z => ?_⟩
      have ep : p.1 = j := congrArg Prod.fst (Sum.inr.inj z)
      have ep2 : p.2 = nt' := congrArg Prod.snd (Sum.inr.inj z)
      rw [← ep, ← ep2]
      exact ⟨a1, rfl, a3, a4, a5, a6, a7, fun z => q2 (a8 z)⟩
  obtain ⟨c3', z3b, v3b⟩ := z3'
  obtain ⟨M4, e4, f4, z4, v4⟩ := c_zsumZ z3b (fun j n' hz => (v3b j n' hz).2.2.2.2.1)
  obtain ⟨M5, e5, f5, z5, v5⟩ := c_zput (x := 7) (y := 0) (by omega) (by omega) z4 (fun j n' hz => by
    obtain ⟨i', w', _, _, _, a2, a3, a4, _⟩ := v4 j n' hz
    have := (v3b i' n' w').2.2.2.2.1
    rw [w']
    show c3' + (cdX (tkF T n) i').length < 408
    omega)
  obtain ⟨M6, e6, f6, z6⟩ := c_zexp (s := 59) (by omega) (by omega) z5
  have z7 := cz_sI (x := t) (j := m) (v := nI c0) z6 (by omega) (by omega)
  refine ⟨nI c0, M6, ?_, ?_, ⟨_, z7⟩, fun i' nt' hz => ?_⟩
  · unfold f_X2_law f_X2_law_b133
    simp only [zv_eq]
    have e2' : f_X2_expect 61 M1 = some ((), M2) := e2
    have e3' : zm_lp (fun s : Int32 × zm_Mem => f_X2_law_l20 s.1 s.2) (0, M2) = some M3 := e3
    have e5' : f_X8_put t 7 0 M4 = some ((), M5) := e5
    have e6' : f_X2_expect 59 M5 = some ((), M6) := e6
    rw [h83, hT, zk_true, t0, e1, zb2_some, e2', zb2_some, e3', Option.bind_some, e4, zb2_some, (cz_t z4).2.1, hT, zk_true, e5', zb2_some, e6', zb2_some]
  · exact fc_tr (fc_8 f1) (fc_tr (fc_8 f2) (fc_tr (fc_fp f3) (fc_tr (fc_fp f4) (fc_tr (fc_fp f5) (fc_tr (fc_8 f6) (fc_sI (by unfold pF; omega)))))))
  · have hz0 := hz
    unfold zLa at hz
    obtain ⟨j5, n5, w5, _, _, rfl, _, m5⟩ := zTo_inr hz
    obtain ⟨j4, w4, A1, G4, F4, A2, A3, A4, X4⟩ := v4 j5 n5 w5
    obtain ⟨B1, B2, B3, B4, B5, B6, B7, B8⟩ := v3b j4 n5 w4
    obtain ⟨G5, F5⟩ := v5 j5 n5 w5
    have L4 : lenZ (tkF T n) (zLo T n 4 (zTo (tkF T n) 61 0 noB (zTo (tkF T n) s 0 noB (.inr (i, nt))))) = (cdX (tkF T n) j4).length := by rw [w4]; rfl
    rw [L4] at z7 G5 F5
    have z7' : CZ T n (zm_sI M6 t m (nI c0)) t (c3' + (cdX (tkF T n) j4).length + 1) (zLa T n s (.inr (i, nt))) := z7
    rw [hz0] at z7'
    have FA : Fp (pE t c0) M M6 := fp_tr (fp_8E f1) (fp_tr (fp_8E f2) (fp_tr B4 (fp_tr (fp_CE F4 (by omega)) (fp_tr (fp_PE F5 (by omega)) (fp_8E f6)))))
    have g : ∀ x j, ¬ pE t c0 x j → ¬ (x = t ∧ j = m) → (zm_sI M6 t m (nI c0)).1 x j = M.1 x j := fun x j a b => by rw [mI1, if_neg b, FA.2 x j a]
    refine ⟨c3' + (cdX (tkF T n) j4).length + 1, ⟨z7', by omega, ⟨by rw [g t 11 (by unfold pE p8; omega) (by omega)]; exact h11, b11⟩, ⟨by rw [g t 12 (by unfold pE p8; omega) (by omega)]; exact h12, b12⟩, ⟨by rw [g t 13 (by unfold pE p8; omega) (by omega)]; exact h13, b13⟩, cn_x c9 (fun j hj => by show M6.2.1 9 j = _; rw [FA.1]), cn_x c10 (fun j hj => by show M6.2.1 10 j = _; rw [FA.1]), fun hnt => ?_⟩, B7, by unfold laQ; rw [← B1]; exact X4⟩
    have D := hD (B8 (m5 hnt).1)
    obtain ⟨d1, d2, d3, ⟨d4, d5, d6⟩, d7, d8⟩ := D
    have gf : ∀ j, j < c0 → (zm_sI M6 t m (nI c0)).1 (t + 10) j = M.1 (t + 10) j := fun j hj => g (t + 10) j (by unfold pE p8; omega) (by omega)
    have S : iv_sc (zm_sI M6 t m (nI c0)) t c0 (iv_lc (laQ T n i).1 (laQ T n i).2 c0) := by
      rw [lc_B]
      have s1 : iv_sc M5 t c0 (lcB (bsL T n 4 (i + 2)) c0 ++ (cdX (tkF T n) j4 ++ [(7, 0)])) := by
        refine sc_app (sc_E ht (sc_E ht B3 (fp_CE (cl := c3') F4 (Nat.le_refl _)) (by omega)) (fp_PE (cl := c3') F5 (by omega)) (by omega)) ?_
        rw [← B2]
        exact sc_app (sc_fp G4 (fp_PC F5) (Nat.le_refl _) ht) G5
      have s2 : iv_sc (zm_sI M6 t m (nI c0)) t c0 (lcB (bsL T n 4 (i + 2)) c0 ++ (cdX (tkF T n) j4 ++ [(7, 0)])) := sc_x (cl := c0 + (lcB (bsL T n 4 (i + 2)) c0 ++ (cdX (tkF T n) j4 ++ [(7, 0)])).length) s1 (fun j _ => by rw [mI1, if_neg (by omega), f6.2 _ _ (by unfold p8; omega)]) (Nat.le_refl _)
      unfold laQ
      rw [← B1]; exact s2
    have lenS : c0 + (iv_lc (laQ T n i).1 (laQ T n i).2 c0).length ≤ c3' + (cdX (tkF T n) j4).length + 1 := by
      rw [lc_B, List.length_append, List.length_append]
      unfold laQ
      rw [← B1]
      show c0 + ((lcB (bsL T n 4 (i + 2)) c0).length + ((cdX (tkF T n) j4).length + 1)) ≤ _
      omega
    have W : ∀ x j, t + 1 ≤ x → x ≤ t + 9 → (zm_sI M6 t m (nI c0)).1 x j = M.1 x j := fun x j a b => g x j (by unfold pE p8; omega) (by omega)
    refine ⟨fun j x hx => ?_, fun j x hx => ?_, fun j x hx => ?_, ?_, ?_, ?_⟩
    · rw [W _ j (by omega) (by omega), W _ j (by omega) (by omega)]; exact d1 j x hx
    · rw [W _ j (by omega) (by omega), W _ j (by omega) (by omega), W _ j (by omega) (by omega), W _ j (by omega) (by omega)]; exact d2 j x hx
    · obtain ⟨c1, p, q, c2, c3, c4, c5, c6, c7⟩ := d3 j x hx
      exact ⟨by rw [W _ j (by omega) (by omega)]; exact c1, p, q, by rw [W _ j (by omega) (by omega)]; exact c2, by rw [W _ j (by omega) (by omega)]; exact c3, sc_x c4 gf (by rw [List.length_append]; exact c6), sc_x c5 gf (by rw [List.length_append]; exact c7), by omega, by omega⟩
    · exact ⟨by rw [g t 16 (by unfold pE p8; omega) (by omega)]; exact d4, by rw [g t 17 (by unfold pE p8; omega) (by omega)]; exact d5, by rw [g t 18 (by unfold pE p8; omega) (by omega)]; exact d6⟩
    · unfold qLa
      rcases hm with rfl | rfl
      · rw [if_pos rfl]
        exact ⟨c0, by rw [mI1, if_pos ⟨rfl, rfl⟩], S, lenS⟩
      · rw [if_neg (by omega)]
        exact clw_x d7 (g t 14 (by unfold pE p8; omega) (by omega)) gf (by omega)
    · unfold qLa
      rcases hm with rfl | rfl
      · rw [if_pos rfl]
        exact clw_x d8 (g t 15 (by unfold pE p8; omega) (by omega)) gf (by omega)
      · rw [if_neg (by omega)]
        exact ⟨c0, by rw [mI1, if_pos ⟨rfl, rfl⟩], S, lenS⟩
