/-! all statements, both -/
theorem both_loop {T : Nat → Nat} {n t v : Nat} (hn0 : n ≤ 2000) : ∀ m i l M N nt, 401 - i ≤ m → l ≤ i → JJ T n M N t v i nt → ∃ M' N', zm_lp (fun s : Int32 × zm_Mem => f_X2_compile_l34 s.1 s.2) (nI l, M) = some M' ∧ zm_lp f_X11_read_l112 N = some N' ∧ Fc t M M' ∧ Fv2 v N N' ∧ ((∃ f j, CF M' t (tkF T n) (tkE T n) j f ∧ RF N' (tkF T n) (tkE T n) j f) ∨ ∃ i' nt', JJ T n M' N' t v i' nt') := by
  intro m
  induction m with
  | zero =>
    intro i l M N nt hm hl h
    obtain ⟨cl, k, nb, Q, en, hC, hR, hP⟩ := h
    obtain ⟨c1, c2, c3, c4⟩ := cz_r hC.1
    have h400 : i ≤ 400 := Nat.le_trans c2 c1.1.1
    omega
  | succ m ih =>
    intro i l M N nt hm hl h
    have h0 := h
    obtain ⟨cl, k, nb, Q, en, hC, hR, hP⟩ := h
    obtain ⟨c1, c2, c3, c4⟩ := cz_r hC.1
    have h400 : i ≤ 400 := Nat.le_trans c2 c1.1.1
    have hlt := cs_num (T := T) (n := n) (i := i)
    have hI := rl_I hR.1
    have r0 := (rs_0 _ cs_num (tkF_ok (T := T) (n := n) (i := i)).1).1
    have ok := okS_rs _ cs_num (tkF_ok (T := T) (n := n) (i := i)).1
    have is0 : f_X11_is 0 N = some (if rsF (tkF T n i).1 = 0 then 1 else 0) := r_is hI.1.1 hI.1.2.1 hI.1.2.2.1 hI.2 (s := 0) (by omega) ok.1
    by_cases hs0 : (tkF T n i).1 = 0
    · refine ⟨M, N, lp_end ?_, lp_end ?_, fc_rfl _ _, fv_rfl _ _, Or.inr ⟨i, nt, h0⟩⟩
      · show f_X2_compile_l34 (nI l) M = _
        unfold f_X2_compile_l34
        rw [if_neg (show ¬ (400 : Int32) < nI l from nI_nlt (a := 400) (by omega) (by omega)), if_pos c1.2.2.1, c_sortI c1.1 c1.2.1 c2, zb1_some, hs0, if_pos (show nI 0 = (0 : Int32) from rfl)]
      · unfold f_X11_read_l112
        rw [hI.1.2.2.1, if_pos rfl, is0, if_pos (r0.2 hs0), zb1_some, if_neg (by decide)]
    · obtain ⟨M1, N1, e1, e2, f1, f2, r⟩ := both_step (l := l) hn0 h0 hs0 (by omega)
      have st2 : f_X11_read_l112 N = some (.inl N1) := by
        unfold f_X11_read_l112
        rw [hI.1.2.2.1, if_pos rfl, is0, if_neg (fun z => hs0 (r0.1 z)), zb1_some, if_pos rfl, e2, zb2_some]
      have g1 : zm_lp (fun s : Int32 × zm_Mem => f_X2_compile_l34 s.1 s.2) (nI l, M) = zm_lp (fun s : Int32 × zm_Mem => f_X2_compile_l34 s.1 s.2) (nI (l + 1), M1) := lp_go e1
      rw [g1, lp_go st2]
      rcases r with ⟨f, j, a, b⟩ | ⟨i', nt', a, b⟩
      · refine ⟨M1, N1, lp_end ?_, lp_end ?_, f1, f2, Or.inl ⟨f, j, a, b⟩⟩
        · show f_X2_compile_l34 (nI (l + 1)) M1 = _
          unfold f_X2_compile_l34
          rw [if_neg (cf_ne a)]
          split <;> rfl
        · unfold f_X11_read_l112
          rw [if_neg (rf_ne b)]
      · obtain ⟨M2, N2, k1, k2, k3, k4, k5⟩ := ih i' (l + 1) M1 N1 nt' (by omega) (by omega) a
        exact ⟨M2, N2, k1, k2, fc_tr f1 k3, fv_tr f2 k4, k5⟩
/-! the beginnings -/
def Q0 : zQ := ([], [], [], (0, 1, 0), ([], [(0, 3)]), ([], [(1, 3)]))
theorem p_Q0 : PQ none Q0 := fun _ => ⟨fun j j' L h => (by cases h), fun j j' L h => (by cases h), fun j x h => (by cases h), fun j x h => (by cases h), fun j x h => (by cases h), ⟨by show 0 ≤ 100; omega, ⟨by show 1 ≤ 1; omega, by show 1 ≤ 3; omega⟩, by show 0 ≤ 9999; omega⟩, ⟨by show 0 ≤ 4; omega, fun x h => (by cases h), by unfold iv_ex; rfl⟩, ⟨by show 0 ≤ 4; omega, fun x h => (by cases h), by unfold iv_ex; rfl⟩⟩
def pG (t x j : Nat) : Prop := x = t ∨ x = t + 10
theorem cl_vals {M : zm_Mem} {t : Nat} : (clM M t).1 t 10 = nI 4 ∧ (clM M t).1 t 11 = 0 ∧ (clM M t).1 t 12 = 0 ∧ (clM M t).1 t 13 = 0 ∧ (clM M t).1 t 16 = 0 ∧ (clM M t).1 t 17 = 1 ∧ (clM M t).1 t 18 = 0 ∧ (clM M t).1 t 14 = nI 0 ∧ (clM M t).1 t 15 = nI 2 ∧ (clM M t).1 (t + 10) 0 = nI 3 ∧ (clM M t).1 (t + 10) 1 = nI (7 * 16384) ∧ (clM M t).1 (t + 10) 2 = nI (16384 + 3) ∧ (clM M t).1 (t + 10) 3 = nI (7 * 16384) := by
  have h1 : ((0 : Int32) <<< ((14 : Int32) &&& 31)) ||| (3 &&& 16383) = nI 3 := by decide
  have h2 : ((7 : Int32) <<< ((14 : Int32) &&& 31)) ||| (0 &&& 16383) = nI (7 * 16384) := by decide
  have h3 : ((1 : Int32) <<< ((14 : Int32) &&& 31)) ||| (3 &&& 16383) = nI (16384 + 3) := by decide
  have pt : ∀ (K : zm_Mem) (k : Nat) (a b : Int32) (j : Nat), j ≠ 10 → (putM K t k a b).1 t j = K.1 t j := fun K k a b j hj => by unfold putM; rw [mI1, if_neg (by omega), mI1, if_neg (by omega)]
  have pc' : ∀ (K : zm_Mem) (k : Nat) (a b : Int32) (j : Nat), j ≠ k → (putM K t k a b).1 (t + 10) j = K.1 (t + 10) j := fun K k a b j hj => by unfold putM; rw [mI1, if_neg (by omega), mI1, if_neg (by omega)]
  have ps : ∀ (K : zm_Mem) (k : Nat) (a b : Int32), (putM K t k a b).1 (t + 10) k = ((a <<< ((14 : Int32) &&& 31)) ||| (b &&& 16383)) := fun K k a b => by unfold putM; rw [mI1, if_neg (by omega), mI1, if_pos ⟨rfl, rfl⟩]
  have si : ∀ (K : zm_Mem) (i : Nat) (v : Int32) (j : Nat), j ≠ i → (zm_sI K t i v).1 t j = K.1 t j := fun K i v j hj => by rw [mI1, if_neg (by omega)]
  have ss : ∀ (K : zm_Mem) (i : Nat) (v : Int32), (zm_sI K t i v).1 t i = v := fun K i v => by rw [mI1, if_pos ⟨rfl, rfl⟩]
  have sc : ∀ (K : zm_Mem) (i : Nat) (v : Int32) (j : Nat), (zm_sI K t i v).1 (t + 10) j = K.1 (t + 10) j := fun K i v j => by rw [mI1, if_neg (by omega)]
  unfold clM
  refine ⟨put_10, ?_, ?_, ?_, ?_, ?_, ?_, ?_, ?_, ?_, ?_, ?_, ?_⟩
  · simp (disch := omega) only [pt, si, ss]
  · simp (disch := omega) only [pt, si, ss]
  · simp (disch := omega) only [pt, si, ss]
  · simp (disch := omega) only [pt, si, ss]
  · simp (disch := omega) only [pt, si, ss]
  · simp (disch := omega) only [pt, si, ss]
  · simp (disch := omega) only [pt, si, ss]
  · simp (disch := omega) only [pt, si, ss]
  · simp (disch := omega) only [pc', sc, ps, h1]
  · simp (disch := omega) only [pc', sc, ps, h2]
  · simp (disch := omega) only [pc', sc, ps, h3]
  · simp (disch := omega) only [pc', sc, ps, h2]
/-- the class at the first token -/
theorem c_firstT {T : Nat → Nat} {n t : Nat} {M K : zm_Mem} (ht : t = 25 ∨ t = 36) (hK : Tks K (tkF T n) (tkE T n)) (h1 : ∀ x j, t ≤ x → x ≤ t + 10 → K.1 x j = (clM M t).1 x j) (h4 : K.1 8 4 = 0) (h5 : K.1 8 5 = 0) (h7 : K.1 8 7 = 0) (h8 : K.1 8 8 = -1) (h3 : K.2.2 8 3 = t) : CL T n K t 4 0 none Q0 := by
  obtain ⟨v10, v11, v12, v13, v16, v17, v18, v14, v15, w0, w1, w2, w3⟩ := cl_vals (M := M) (t := t)
  have e : ∀ j, K.1 t j = (clM M t).1 t j := fun j => h1 t j (by omega) (by omega)
  have e10 : ∀ j, K.1 (t + 10) j = (clM M t).1 (t + 10) j := fun j => h1 (t + 10) j (by omega) (by omega)
  refine ⟨Or.inr ⟨0, none, rfl, ⟨hK, h4, h5, h3, ht, (e 10).trans v10⟩, Nat.zero_le _, by omega, fun _ => ⟨h7, h8⟩, fun c p z => (by cases z)⟩, by omega, ⟨(e 11).trans v11, Nat.zero_le _⟩, ⟨(e 12).trans v12, Nat.zero_le _⟩, ⟨(e 13).trans v13, Nat.zero_le _⟩, fun j L hL => (by cases hL), fun j L hL => (by cases hL), fun _ => ⟨fun j x hx => (by cases hx), fun j x hx => (by cases hx), fun j x hx => (by cases hx), ⟨(e 16).trans v16, (e 17).trans v17, (e 18).trans v18⟩, ⟨0, (e 14).trans v14, ?_, by decide⟩, ⟨2, (e 15).trans v15, ?_, by decide⟩⟩⟩
  · intro i p h
    match i, h with
    | 0, h => cases h; exact (e10 0).trans w0
    | 1, h => cases h; exact (e10 1).trans w1
    | i + 2, h => cases h
  · intro i p h
    match i, h with
    | 0, h => cases h; exact (e10 2).trans w2
    | 1, h => cases h; exact (e10 3).trans w3
    | i + 2, h => cases h
/-- the reference at the first token -/
theorem r_firstT {T : Nat → Nat} {n v : Nat} {K : zm_Mem} (hv : v ≤ 1) (hK : Rks K (tkF T n) (tkE T n)) (h11 : K.1 52 11 = 0) (h12 : K.1 52 12 = 0) (h13 : K.1 52 13 = 0) (h15 : K.1 52 15 = 0) (h19 : K.1 52 19 = nI v) (h20 : K.1 52 20 = 0) (h42 : K.1 52 42 = nI (130 * v)) (h48 : K.1 52 48 = nI (420 * v)) (p : K.1 63 v = 0 ∧ K.1 66 v = 0 ∧ K.1 71 v = 0 ∧ K.1 76 v = 0 ∧ K.1 77 v = 1 ∧ K.1 78 v = 0 ∧ ∀ i, i < 2 → K.1 79 (2 * v + i) = 0 ∧ K.1 80 (2 * v + i) = 0) : RLs T n K v (420 * v) 0 0 none Q0 [] := by
  obtain ⟨p1, p2, p3, p4, p5, p6, p7⟩ := p
  exact ⟨Or.inr ⟨0, none, rfl, ⟨hK, h11, h13, h12⟩, Nat.zero_le _, fun _ => h15, fun c p z => (by cases z)⟩, ⟨h19, hv⟩, ⟨h48, by omega, by omega⟩, ⟨h42, by omega⟩, ⟨p1, Nat.zero_le _⟩, ⟨p2, Nat.zero_le _⟩, ⟨p3, Nat.zero_le _⟩, ⟨h20, Nat.zero_le _, fun j x hx => (by cases hx)⟩, ⟨fun x hx => (by cases hx), fun j L hL => (by cases hL), fun j L hL => (by cases hL)⟩, rfl, fun _ => ⟨fun j x hx => (by cases hx), fun j x hx => (by cases hx), fun j x hx => (by cases hx), ⟨p4, p5, p6⟩, Or.inl ⟨rfl, rfl, 0, by omega, (p7 0 (by omega)).1, (p7 0 (by omega)).2⟩, Or.inl ⟨rfl, rfl, 0, by omega, (p7 1 (by omega)).1, (p7 1 (by omega)).2⟩⟩⟩
