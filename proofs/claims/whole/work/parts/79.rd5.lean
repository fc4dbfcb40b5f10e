/-! the reference cuts the same tokens -/
def rsF (s : Nat) : Nat := if s = 0 then 0 else if s = 1 then 3 else if s = 2 then 1 else if s = 3 then 2 else if s = 59 then 4 else if s = 61 then 5 else if s = 40 then 6 else if s = 41 then 7 else if s = 43 then 8 else if s = 45 then 9 else if s = 42 then 10 else if s = 47 then 15 else if s = 60 then 13 else s - 236
theorem rs_w : ∀ i, i < 20 → rsF (256 + i) = 20 + i := by decide
theorem rs_ks {l : List Nat} : rsF (ksC (wIx l 20)) = ksR (wIx l 20) := by
  cases hw : wIx l 20 with
  | none => rfl
  | some i => exact rs_w i (wIx_some hw).1
def adR (M : zm_Mem) (k : Nat) (x : zTk) : zm_Mem := zm_sI (zm_sL (zm_sI (zm_sI (zm_sI M 55 k (nI (rsF x.1))) 56 k (nI x.2.1)) 57 k (nI x.2.2.2)) 58 k (Int64.ofNat (iv_wn 27 x.2.2.1))) 52 10 (nI (k + 1))
theorem r_tadd {M : zm_Mem} {k : Nat} {x : zTk} (h : M.1 52 10 = nI k) (hk : k < 403) : f_X11_token (nI (rsF x.1)) (nI x.2.1) (nI x.2.2.2) (Int64.ofNat (iv_wn 27 x.2.2.1)) M = some ((), adR M k x) := by
  unfold f_X11_token adR
  have e1 : ∀ v, (zm_sI M 55 k v).1 52 10 = nI k := fun v => by rw [mI1, if_neg (by omega)]; exact h
  have e2 : ∀ v v', (zm_sI (zm_sI M 55 k v) 56 k v').1 52 10 = nI k := fun v v' => by rw [mI1, if_neg (by omega)]; exact e1 v
  have e3 : ∀ v v' v'', (zm_sI (zm_sI (zm_sI M 55 k v) 56 k v') 57 k v'').1 52 10 = nI k := fun v v' v'' => by rw [mI1, if_neg (by omega)]; exact e2 v v'
  have e4 : ∀ v v' v'' v3, (zm_sL (zm_sI (zm_sI (zm_sI M 55 k v) 56 k v') 57 k v'') 58 k v3).1 52 10 = nI k := fun v v' v'' v3 => e3 v v' v''
  have hin : zm_in (nI k) 403 = true := zm_in_nI (by omega) (by omega)
  simp only [zv_eq]
  rw [h, hin, zk_true, nI_clamp (by omega), e1, hin, zk_true, nI_clamp (by omega), e2, hin, zk_true, nI_clamp (by omega), e3, hin, zk_true, nI_clamp (by omega), e4, nI_k1]
def TkR (M : zm_Mem) (l : List zTk) : Prop := M.1 52 10 = nI l.length ∧ ∀ i x, l[i]? = some x → M.1 55 i = nI (rsF x.1) ∧ M.1 56 i = nI x.2.1 ∧ M.1 57 i = nI x.2.2.2 ∧ M.2.1 58 i = Int64.ofNat (iv_wn 27 x.2.2.1)
def wTr (x j : Nat) : Bool := decide (x = 55) || (decide (x = 56) || (decide (x = 57) || (decide (x = 58) || (decide (x = 52) && decide (j = 10)))))
theorem fg_adR {M : zm_Mem} {k : Nat} {x : zTk} : Fg wTr M (adR M k x) := fg_tr (fg_sI rfl) (fg_tr (fg_sI rfl) (fg_tr (fg_sI rfl) (fg_tr (fg_sL rfl) (fg_sI rfl))))
theorem tkR_add {M : zm_Mem} {l : List zTk} {x : zTk} (h : TkR M l) : TkR (adR M l.length x) (l ++ [x]) := by
  obtain ⟨h1, h2⟩ := h
  have a5 : ∀ i, (adR M l.length x).1 55 i = if i = l.length then nI (rsF x.1) else M.1 55 i := fun i => by
    unfold adR
    rw [mI1, if_neg (by omega), mL1, mI1, if_neg (by omega), mI1, if_neg (by omega), mI1]
    by_cases hi : i = l.length
    · rw [if_pos ⟨rfl, hi⟩, if_pos hi]
    · rw [if_neg (fun z => hi z.2), if_neg hi]
  have a6 : ∀ i, (adR M l.length x).1 56 i = if i = l.length then nI x.2.1 else M.1 56 i := fun i => by
    unfold adR
    rw [mI1, if_neg (by omega), mL1, mI1, if_neg (by omega), mI1]
    by_cases hi : i = l.length
    · rw [if_pos ⟨rfl, hi⟩, if_pos hi]
    · rw [if_neg (fun z => hi z.2), if_neg hi, mI1, if_neg (by omega)]
  have a7 : ∀ i, (adR M l.length x).1 57 i = if i = l.length then nI x.2.2.2 else M.1 57 i := fun i => by
    unfold adR
    rw [mI1, if_neg (by omega), mL1, mI1]
    by_cases hi : i = l.length
    · rw [if_pos ⟨rfl, hi⟩, if_pos hi]
    · rw [if_neg (fun z => hi z.2), if_neg hi, mI1, if_neg (by omega), mI1, if_neg (by omega)]
  have a8 : ∀ i, (adR M l.length x).2.1 58 i = if i = l.length then Int64.ofNat (iv_wn 27 x.2.2.1) else M.2.1 58 i := fun i => by
    show (if 58 = 58 ∧ i = l.length then Int64.ofNat (iv_wn 27 x.2.2.1) else M.2.1 58 i) = _
    by_cases hi : i = l.length
    · rw [if_pos ⟨rfl, hi⟩, if_pos hi]
    · rw [if_neg (fun z => hi z.2), if_neg hi]
  refine ⟨?_, fun i y hy => ?_⟩
  · rw [List.length_append]
    unfold adR
    rw [mI1, if_pos ⟨rfl, rfl⟩]; rfl
  · rw [a5, a6, a7, a8]
    rcases Nat.lt_or_ge i l.length with hi | hi
    · rw [List.getElem?_append_left hi] at hy
      rw [if_neg (by omega), if_neg (by omega), if_neg (by omega), if_neg (by omega)]
      exact h2 i y hy
    · rw [List.getElem?_append_right hi] at hy
      have hi0 : i = l.length := by
        refine Classical.byContradiction (fun z => ?_)
        rw [List.getElem?_eq_none (by simp; omega)] at hy; cases hy
      subst hi0
      rw [Nat.sub_self] at hy
      have hxy : x = y := Option.some.inj hy
      subst hxy
      rw [if_pos rfl, if_pos rfl, if_pos rfl, if_pos rfl]
      exact ⟨rfl, rfl, rfl, rfl⟩
def sgn0 (x : Int32) : Int32 := if x = 59 then 4 else if x = 61 then 5 else if x = 40 then 6 else if x = 41 then 7 else 3
def sgnF (x : Int32) : Int32 := if x = 60 then 13 else if x = 47 then 15 else if x = 42 then 10 else if x = 45 then 9 else if x = 43 then 8 else sgn0 x
theorem sgn_all : ∀ c, c < 256 → sgnF (nI c) = nI (rsF (if isSg c = true then c else 1)) := by decide +kernel
theorem r_sign (a1 x a3 : Int32) (M : zm_Mem) : f_X11_sign a1 x a3 M = zm_b2 (f_X11_token (sgnF x) a1 0 0 M) (fun _ M101 => some (1, M101)) := by
  have s0 : f_X11_sign a1 x a3 M = f_X11_sign_b43 a1 x M (sgn0 x) := by
    unfold f_X11_sign sgn0
    (repeat' split) <;> rfl
  have s5 : f_X11_sign_b43 a1 x M (sgn0 x) = f_X11_sign_b95 a1 M (sgnF x) := by
    unfold f_X11_sign_b43 f_X11_sign_b55 f_X11_sign_b65 f_X11_sign_b75 f_X11_sign_b85 sgnF
    (repeat' split) <;> first | rfl | (simp_all; done)
  rw [s0, s5]; rfl
theorem r_cutStep {L : zm_Mem} {T : Nat → Nat} {n p : Nat} {l : List zTk} (hT : TpR L T n) (hW : iv_words L) (hp : p < n) (hk : TkR L l) (hl : l.length ≤ 400) : f_X11_cut_l7 (nI p) L = some (.inl (nI (nxS T n p), match nxT T n p with | none => L | some x => adR L l.length x)) := by
  have hn := hT.1
  have t1 := (hT.2.2 p hp).1
  have rw1 := rl_run (P := isLt) (T := T) (n := n) (p := p) (by omega)
  have rw2 := rl_run (P := isDg) (T := T) (n := n) (p := p) (by omega)
  have e : ∀ k, k < 256 → (nI (T p) = nI k ↔ T p = k) := fun k hk => nI_eq (by omega) (by omega)
  have hblk : ∀ (X : Option ((Int32 × zm_Mem) ⊕ (zm_Mem ⊕ zm_Mem))) (Y : Option ((Int32 × zm_Mem) ⊕ (zm_Mem ⊕ zm_Mem))), (if nI (T p) = (9 : Int32) then X else if nI (T p) = (10 : Int32) then X else if nI (T p) = (13 : Int32) then X else if nI (T p) = (32 : Int32) then X else Y) = if isBl (T p) = true then X else Y := by
    intro X Y
    rw [show (9 : Int32) = nI 9 from rfl, show (10 : Int32) = nI 10 from rfl, show (13 : Int32) = nI 13 from rfl, show (32 : Int32) = nI 32 from rfl]
    simp only [e 9 (by omega), e 10 (by omega), e 13 (by omega), e 32 (by omega)]
    unfold isBl
    by_cases h1 : T p = 9
    · rw [if_pos h1, h1]; rfl
    · by_cases h2 : T p = 10
      · rw [if_neg h1, if_pos h2, h2]; rfl
      · by_cases h3 : T p = 13
        · rw [if_neg h1, if_neg h2, if_pos h3, h3]; rfl
        · by_cases h4 : T p = 32
          · rw [if_neg h1, if_neg h2, if_neg h3, if_pos h4, h4]; rfl
          · rw [if_neg h1, if_neg h2, if_neg h3, if_neg h4, decide_eq_false h1, decide_eq_false h2, decide_eq_false h3, decide_eq_false h4]; rfl
  unfold f_X11_cut_l7 f_X11_cut_b67_7 f_X11_cut_b291_7
  simp only [zv_eq]
  rw [hk.1, if_neg (show ¬ (400 : Int32) < nI l.length from nI_nlt (a := 400) hl (by omega)), r_byte hT (by omega), zb1_some, if_pos hp, hT.2.1, if_pos (nI_lt hp (by omega)), hblk, nI_k1]
  unfold nxS nxT
  by_cases hb : isBl (T p) = true
  · rw [if_pos hb, if_pos hb, if_pos hb]
  · rw [if_neg hb, if_neg hb, if_neg hb, r_isLet t1, zb1_some]
    by_cases hlt : isLt (T p) = true
    · rw [if_pos hlt, if_neg (by decide), if_pos hlt, if_pos hlt]
      generalize rl isLt T n p = R at rw1 ⊢
      have hRn := rw1.1
      obtain ⟨q1, q2⟩ := run_lt rw1
      rw [r_cutW hT rw1]
      simp only [Option.bind_some]
      unfold f_X11_cut_x124_85_7 f_X11_cut_b135_7 f_X11_cut_b179_7 f_X11_cut_b291_7
      by_cases h8 : R ≤ 8
      · rw [if_pos (show nI R ≤ (8 : Int32) from nI_le (b := 8) h8 (by omega)), if_neg (show ¬ (8 : Int32) < nI R from nI_nlt (a := 8) h8 (by omega)), r_sortOf hW q1 q2, if_pos h8]
        simp only [Option.bind_some, zv_eq]
        have := r_tadd (x := (ksC (wIx (lets T p (min R 8)) 20), p, lets T p (min R 8), 0)) hk.1 (by omega)
        simp only [rs_ks] at this
        have this' : f_X11_token (nI (ksR (wIx (lets T p (min R 8)) 20))) (nI p) 0 (Int64.ofNat (iv_wn 27 (lets T p (min R 8)))) L = _ := this
        rw [this', zb2_some, nI_add]
      · rw [if_neg (show ¬ nI R ≤ (8 : Int32) from nI_ge (a := 8) (by omega) (by omega)), if_pos (show (8 : Int32) < nI R from nI_lt (a := 8) (by omega) (by omega)), if_neg h8]
        simp only [zv_eq]
        have := r_tadd (x := (1, p, lets T p (min R 8), 0)) hk.1 (by omega)
        have this' : f_X11_token 3 (nI p) 0 (Int64.ofNat (iv_wn 27 (lets T p (min R 8)))) L = _ := this
        rw [this', zb2_some, nI_add]
    · rw [if_neg hlt, if_pos rfl, if_neg hlt, if_neg hlt, r_isDig t1, zb1_some]
      by_cases hd : isDg (T p) = true
      · rw [if_pos hd, if_neg (by decide), if_pos hd, if_pos hd]
        generalize rl isDg T n p = R at rw2 ⊢
        have hRn := rw2.1
        rw [r_cutN hT rw2]
        simp only [Option.bind_some]
        unfold f_X11_cut_x250_208_7 f_X11_cut_b261_7 f_X11_cut_b291_7
        simp only [zv_eq]
        by_cases h8 : R ≤ 4
        · rw [if_pos (show nI R ≤ (4 : Int32) from nI_le (b := 4) h8 (by omega)), if_pos h8]
          have := r_tadd (x := (3, p, [], nv T p (min R 4))) hk.1 (by omega)
          have this' : f_X11_token 2 (nI p) (nI (nv T p (min R 4))) 0 L = _ := this
          rw [this', zb2_some, nI_add]
        · rw [if_neg (show ¬ nI R ≤ (4 : Int32) from nI_ge (a := 4) (by omega) (by omega)), if_neg h8]
          have := r_tadd (x := (1, p, [], nv T p (min R 4))) hk.1 (by omega)
          have this' : f_X11_token 3 (nI p) (nI (nv T p (min R 4))) 0 L = _ := this
          rw [this', zb2_some, nI_add]
      · rw [if_neg hd, if_pos rfl, if_neg hd, if_neg hd, r_byte hT (by omega), zb1_some, r_sign, sgn_all _ t1]
        have := r_tadd (x := (if isSg (T p) = true then T p else 1, p, [], 0)) hk.1 (by omega)
        have this' : f_X11_token (nI (rsF (if isSg (T p) = true then T p else 1))) (nI p) 0 0 L = _ := this
        rw [this', zb2_some, zb2_some, nI_k1]
