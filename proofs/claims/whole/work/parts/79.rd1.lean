/-! reading: the bytes, and the words and numbers that both cut -/
theorem i_nI (x : Int32) : x = nI x.toBitVec.toNat := by
  refine Int32.toBitVec_inj.1 ?_
  rw [zi_bv, BitVec.ofNat_toNat, BitVec.setWidth_eq]
theorem and255 (x : Int32) : x &&& 255 = nI (x.toBitVec.toNat % 256) := by
  conv => lhs; rw [i_nI x]
  rw [show (255 : Int32) = nI 255 from rfl, zi_and]
  exact congrArg nI (Nat.and_two_pow_sub_one_eq_mod _ 8)
theorem i8_all : ∀ k, k < 256 → ((Int8.ofBitVec (BitVec.ofNat 8 k)).toInt32.toBitVec.toNat % 256 < 128 → (Int8.ofBitVec (BitVec.ofNat 8 k)).toInt32 = nI ((Int8.ofBitVec (BitVec.ofNat 8 k)).toInt32.toBitVec.toNat % 256)) ∧ (Int8.ofBitVec (BitVec.ofNat 8 k)).toInt32.toInt8 = Int8.ofBitVec (BitVec.ofNat 8 k) := by decide +kernel
theorem i8_k (y : Int8) : y = Int8.ofBitVec (BitVec.ofNat 8 y.toBitVec.toNat) := by
  refine Int8.toBitVec_inj.1 ?_
  show y.toBitVec = BitVec.ofNat 8 y.toBitVec.toNat
  rw [BitVec.ofNat_toNat, BitVec.setWidth_eq]
theorem nar_b (x : Int32) : vp_nar .byte x = x.toInt8.toInt32 := rfl
theorem byte_lo {x : Int32} (h : (vp_nar .byte x).toBitVec.toNat % 256 < 128) : vp_nar .byte x = nI ((vp_nar .byte x).toBitVec.toNat % 256) := by
  rw [nar_b] at h ⊢
  rw [i8_k x.toInt8] at h ⊢
  exact (i8_all _ x.toInt8.toBitVec.isLt).1 h
theorem byte_id (x : Int32) : vp_nar .byte (vp_nar .byte x) = vp_nar .byte x := by
  rw [nar_b, nar_b, i8_k x.toInt8, (i8_all _ x.toInt8.toBitVec.isLt).2]
def isLt (c : Nat) : Bool := decide (97 ≤ c) && decide (c ≤ 122)
def isDg (c : Nat) : Bool := decide (48 ≤ c) && decide (c ≤ 57)
def lets (T : Nat → Nat) (p i : Nat) : List Nat := (List.range i).map (fun k => T (p + k))
theorem wn_S (b : Nat) (T : Nat → Nat) (p i : Nat) : iv_wn b (lets T p (i + 1)) = b * iv_wn b (lets T p i) + (T (p + i) - 96) := by
  unfold lets iv_wn
  rw [List.range_succ, List.map_append, List.foldl_append]; rfl
def nv (T : Nat → Nat) (p : Nat) : Nat → Nat
  | 0 => 0
  | i + 1 => nv T p i * 10 + (T (p + i) - 48)
theorem l_mad (b a c : Nat) : Int64.ofNat b * Int64.ofNat a + Int64.ofNat c = Int64.ofNat (b * a + c) := by
  refine Int64.toBitVec_inj.1 ?_
  show BitVec.ofNat 64 b * BitVec.ofNat 64 a + BitVec.ofNat 64 c = BitVec.ofNat 64 (b * a + c)
  rw [BitVec.ofNat_add, BitVec.ofNat_mul]
theorem l_let : ∀ c, c < 256 → isLt c = true → (((nI c).toUInt32 % 65536).toInt32 - 97 + 1).toInt64 = Int64.ofNat (c - 96) ∧ (nI c - 97 + 1).toInt64 = Int64.ofNat (c - 96) := by decide +kernel
theorem c_isLet {c : Nat} (hc : c < 256) (M : zm_Mem) : f_X7_isLetter (nI c) M = some (if isLt c = true then 1 else 0) := by
  unfold f_X7_isLetter f_X7_isLetter_b16 isLt
  by_cases h1 : c < 97
  · rw [if_pos (show nI c < (97 : Int32) from nI_lt (b := 97) h1 (by omega)), decide_eq_false (show ¬ 97 ≤ c by omega)]; rfl
  · rw [if_neg (show ¬ nI c < (97 : Int32) from nI_nlt (b := 97) (by omega) (by omega)), decide_eq_true (show 97 ≤ c by omega), Bool.true_and]
    by_cases h2 : c ≤ 122
    · rw [if_neg (show ¬ (122 : Int32) < nI c from nI_nlt (a := 122) h2 (by omega)), decide_eq_true h2]; rfl
    · rw [if_pos (show (122 : Int32) < nI c from nI_lt (a := 122) (by omega) (by omega)), decide_eq_false h2]; rfl
theorem c_isDig {c : Nat} (hc : c < 256) (M : zm_Mem) : f_X7_isDigit (nI c) M = some (if isDg c = true then 1 else 0) := by
  unfold f_X7_isDigit f_X7_isDigit_b16 isDg
  by_cases h1 : c < 48
  · rw [if_pos (show nI c < (48 : Int32) from nI_lt (b := 48) h1 (by omega)), decide_eq_false (show ¬ 48 ≤ c by omega)]; rfl
  · rw [if_neg (show ¬ nI c < (48 : Int32) from nI_nlt (b := 48) (by omega) (by omega)), decide_eq_true (show 48 ≤ c by omega), Bool.true_and]
    by_cases h2 : c ≤ 57
    · rw [if_neg (show ¬ (57 : Int32) < nI c from nI_nlt (a := 57) h2 (by omega)), decide_eq_true h2]; rfl
    · rw [if_pos (show (57 : Int32) < nI c from nI_lt (a := 57) (by omega) (by omega)), decide_eq_false h2]; rfl
theorem r_isLet {c : Nat} (hc : c < 256) (M : zm_Mem) : f_X11_isLetter (nI c) M = some (if isLt c = true then 1 else 0) := c_isLet hc M
theorem r_isDig {c : Nat} (hc : c < 256) (M : zm_Mem) : f_X11_isDigit (nI c) M = some (if isDg c = true then 1 else 0) := c_isDig hc M
/-- the class's tape holds these bytes -/
def TpC (M : zm_Mem) (T : Nat → Nat) (n : Nat) : Prop := n ≤ 2000 ∧ ∀ j, j < n → T j < 256 ∧ M.1 2 j &&& 255 = nI (T j) ∧ (T j < 128 → M.1 2 j = nI (T j))
/-- the reference's -/
def TpR (M : zm_Mem) (T : Nat → Nat) (n : Nat) : Prop := n ≤ 2000 ∧ M.1 52 4 = nI n ∧ ∀ j, j < n → T j < 256 ∧ M.1 54 j &&& 255 = nI (T j)
/-- a run of bytes of one sort, as long as can be -/
def Run (P : Nat → Bool) (T : Nat → Nat) (n p L : Nat) : Prop := p + L ≤ n ∧ (∀ i, i < L → P (T (p + i)) = true) ∧ (p + L < n → P (T (p + L)) = false)
theorem run_ex (P : Nat → Bool) (T : Nat → Nat) (n : Nat) : ∀ k p, p + k = n → ∃ L, Run P T n p L
  | 0, p, h => ⟨0, by omega, fun i hi => by omega, fun h' => by omega⟩
  | k + 1, p, h => by
    cases hp : P (T p) with
    | false => exact ⟨0, by omega, fun i hi => by omega, fun _ => hp⟩
    | true =>
      obtain ⟨L, h1, h2, h3⟩ := run_ex P T n k (p + 1) (by omega)
      refine ⟨L + 1, by omega, fun i hi => ?_, fun h' => ?_⟩
      · cases i with
        | zero => exact hp
        | succ i => rw [show p + (i + 1) = p + 1 + i by omega]; exact h2 i (by omega)
      · rw [show p + (L + 1) = p + 1 + L by omega]; exact h3 (by omega)
theorem c_cutW {M : zm_Mem} {T : Nat → Nat} {n p L : Nat} (hT : TpC M T n) (hR : Run isLt T n p L) : zm_lp (fun s => f_X7_cutWord_l6 2 (nI n) (nI p) M s.1 s.2) (0, nI p) = some (Int64.ofNat (iv_wn 32 (lets T p (min L 8))), nI (p + L)) := by
  obtain ⟨hn, hT⟩ := hT
  obtain ⟨h1, h2, h3⟩ := hR
  refine lp_for (step := fun s => f_X7_cutWord_l6 2 (nI n) (nI p) M s.1 s.2) (fun i => (Int64.ofNat (iv_wn 32 (lets T p (min i 8))), nI (p + i))) L (fun i hi => ?_) ?_
  · show f_X7_cutWord_l6 2 (nI n) (nI p) M (Int64.ofNat (iv_wn 32 (lets T p (min i 8)))) (nI (p + i)) = some (.inl (Int64.ofNat (iv_wn 32 (lets T p (min (i + 1) 8))), nI (p + i + 1)))
    obtain ⟨t1, t2, t3⟩ := hT (p + i) (by omega)
    have hl := h2 i hi
    unfold f_X7_cutWord_l6 f_X7_cutWord_b51_6 f_X7_withLetter
    rw [if_neg (nI_ge (by omega) (by omega)), show (zm_sh 2).2 = 2000 from rfl, zm_ck_t (zm_in_nI (by omega) (by omega)), zm_ck_t (zm_in_nI (by omega) (by omega)), nI_clamp (by omega), t2, c_isLet t1, hl, if_pos (c := true = true) rfl, zb1_some, if_neg (by decide), zi_sub (by omega), show p + i - p = i by omega]
    simp only [zv_eq]
    rw [nI_k1, zb1_some]
    by_cases h8 : 8 ≤ i
    · rw [if_pos (show (8 : Int32) ≤ nI i from nI_le (a := 8) h8 (by omega)), show min (i + 1) 8 = min i 8 by omega]
    · rw [if_neg (show ¬ (8 : Int32) ≤ nI i from nI_ge (b := 8) (by omega) (by omega)), show min (i + 1) 8 = i + 1 by omega, show min i 8 = i by omega, wn_S, (l_let _ t1 hl).1, show Int64.ofNat (iv_wn 32 (lets T p i)) * 32 = Int64.ofNat 32 * Int64.ofNat (iv_wn 32 (lets T p i)) from Int64.mul_comm _ _, l_mad]
  · show f_X7_cutWord_l6 2 (nI n) (nI p) M (Int64.ofNat (iv_wn 32 (lets T p (min L 8)))) (nI (p + L)) = _
    unfold f_X7_cutWord_l6
    by_cases he : p + L < n
    · obtain ⟨t1, t2, t3⟩ := hT (p + L) he
      rw [if_neg (nI_ge he (by omega)), show (zm_sh 2).2 = 2000 from rfl, zm_ck_t (zm_in_nI (by omega) (by omega)), nI_clamp (by omega), t2, c_isLet t1, h3 he, if_neg (c := false = true) (by decide), zb1_some, if_pos rfl]
    · rw [if_pos (nI_le (by omega) (by omega))]
theorem c_cutN {M : zm_Mem} {T : Nat → Nat} {n p L : Nat} (hT : TpC M T n) (hR : Run isDg T n p L) : zm_lp (fun s => f_X7_cutNumber_l6 2 (nI n) (nI p) M s.1 s.2) (0, nI p) = some (nI (nv T p (min L 4)), nI (p + L)) := by
  obtain ⟨hn, hT⟩ := hT
  obtain ⟨h1, h2, h3⟩ := hR
  refine lp_for (step := fun s => f_X7_cutNumber_l6 2 (nI n) (nI p) M s.1 s.2) (fun i => (nI (nv T p (min i 4)), nI (p + i))) L (fun i hi => ?_) ?_
  · show f_X7_cutNumber_l6 2 (nI n) (nI p) M (nI (nv T p (min i 4))) (nI (p + i)) = some (.inl (nI (nv T p (min (i + 1) 4)), nI (p + i + 1)))
    obtain ⟨t1, t2, t3⟩ := hT (p + i) (by omega)
    have hl := h2 i hi
    have hd : 48 ≤ T (p + i) ∧ T (p + i) ≤ 57 := by
      unfold isDg at hl
      rw [Bool.and_eq_true, decide_eq_true_eq, decide_eq_true_eq] at hl; exact hl
    unfold f_X7_cutNumber_l6 f_X7_cutNumber_b49_6
    rw [if_neg (nI_ge (by omega) (by omega)), show (zm_sh 2).2 = 2000 from rfl, zm_ck_t (zm_in_nI (by omega) (by omega)), zm_ck_t (zm_in_nI (by omega) (by omega)), nI_clamp (by omega), t2, c_isDig t1, hl, if_pos (c := true = true) rfl, zb1_some, if_neg (by decide), zi_sub (by omega), show p + i - p = i by omega]
    simp only [zv_eq]
    rw [nI_k1, t3 (by omega)]
    by_cases h8 : 4 ≤ i
    · rw [if_pos (show (4 : Int32) ≤ nI i from nI_le (a := 4) h8 (by omega)), show min (i + 1) 4 = min i 4 by omega]
    · rw [if_neg (show ¬ (4 : Int32) ≤ nI i from nI_ge (b := 4) (by omega) (by omega)), show min (i + 1) 4 = i + 1 by omega, show min i 4 = i by omega, show nI (T (p + i)) - 48 = nI (T (p + i) - 48) from zi_sub (b := 48) hd.1, show nI (nv T p i) * 10 = nI (nv T p i * 10) from pk_mul _ 10, nI_add]; rfl
  · show f_X7_cutNumber_l6 2 (nI n) (nI p) M (nI (nv T p (min L 4))) (nI (p + L)) = _
    unfold f_X7_cutNumber_l6
    by_cases he : p + L < n
    · obtain ⟨t1, t2, t3⟩ := hT (p + L) he
      rw [if_neg (nI_ge he (by omega)), show (zm_sh 2).2 = 2000 from rfl, zm_ck_t (zm_in_nI (by omega) (by omega)), nI_clamp (by omega), t2, c_isDig t1, h3 he, if_neg (c := false = true) (by decide), zb1_some, if_pos rfl]
    · rw [if_pos (nI_le (by omega) (by omega))]
/-- the reference's byte; none behind the end -/
theorem r_byte {M : zm_Mem} {T : Nat → Nat} {n j : Nat} (hT : TpR M T n) (hj : j ≤ 2000) : f_X11_byteAt (nI j) M = some (nI (if j < n then T j else 0)) := by
  obtain ⟨hn, h4, hT⟩ := hT
  unfold f_X11_byteAt
  rw [h4]
  by_cases h : j < n
  · rw [if_neg (nI_ge h (by omega)), zm_ck_t (zm_in_nI (by omega) (by omega)), nI_clamp (by omega), (hT j h).2, if_pos h]
  · rw [if_pos (nI_le (by omega) (by omega)), if_neg h]; rfl
theorem r_cutW {M : zm_Mem} {T : Nat → Nat} {n p L : Nat} (hT : TpR M T n) (hR : Run isLt T n p L) : zm_lp (fun s => f_X11_cut_l85_7 (nI p) M s.1 s.2) (0, 0) = some (nI L, Int64.ofNat (iv_wn 27 (lets T p (min L 8)))) := by
  have hb := fun j hj => r_byte (j := j) hT hj
  obtain ⟨hn, h4, hT⟩ := hT
  obtain ⟨h1, h2, h3⟩ := hR
  refine lp_for (step := fun s => f_X11_cut_l85_7 (nI p) M s.1 s.2) (fun i => (nI i, Int64.ofNat (iv_wn 27 (lets T p (min i 8))))) L (fun i hi => ?_) ?_
  · show f_X11_cut_l85_7 (nI p) M (nI i) (Int64.ofNat (iv_wn 27 (lets T p (min i 8)))) = some (.inl (nI (i + 1), Int64.ofNat (iv_wn 27 (lets T p (min (i + 1) 8)))))
    obtain ⟨t1, t2⟩ := hT (p + i) (by omega)
    have hl := h2 i hi
    have hz : 97 ≤ T (p + i) := by
      unfold isLt at hl
      rw [Bool.and_eq_true, decide_eq_true_eq] at hl; exact hl.1
    unfold f_X11_cut_l85_7 f_X11_cut_b118_85_7 f_X11_appends
    rw [nI_add, hb (p + i) (by omega), zb1_some, if_pos (show p + i < n by omega), r_isLet t1, hl, if_pos (c := true = true) rfl, zb1_some, if_neg (by decide), zb1_some]
    simp only [zv_eq]
    rw [nI_k1]
    by_cases h8 : 8 ≤ i
    · rw [if_pos (show (8 : Int32) ≤ nI i from nI_le (a := 8) h8 (by omega)), show min (i + 1) 8 = min i 8 by omega]
    · rw [if_neg (show ¬ (8 : Int32) ≤ nI i from nI_ge (b := 8) (by omega) (by omega)), if_neg (show ¬ nI (T (p + i)) = 0 from nI_ne0 (by omega) (by omega)), zb1_some, show min (i + 1) 8 = i + 1 by omega, show min i 8 = i by omega, wn_S, (l_let _ t1 hl).2, show (27 : Int64) = Int64.ofNat 27 from rfl, l_mad]
  · show f_X11_cut_l85_7 (nI p) M (nI L) (Int64.ofNat (iv_wn 27 (lets T p (min L 8)))) = _
    unfold f_X11_cut_l85_7
    rw [nI_add, hb (p + L) (by omega), zb1_some]
    by_cases he : p + L < n
    · rw [if_pos he, r_isLet (hT (p + L) he).1, h3 he, if_neg (c := false = true) (by decide), zb1_some, if_pos rfl]
    · rw [if_neg he, r_isLet (c := 0) (by omega), if_neg (by decide), zb1_some, if_pos rfl]
theorem r_cutN {M : zm_Mem} {T : Nat → Nat} {n p L : Nat} (hT : TpR M T n) (hR : Run isDg T n p L) : zm_lp (fun s => f_X11_cut_l208_7 (nI p) M s.1 s.2) (0, 0) = some (nI L, nI (nv T p (min L 4))) := by
  have hb := fun j hj => r_byte (j := j) hT hj
  obtain ⟨hn, h4, hT⟩ := hT
  obtain ⟨h1, h2, h3⟩ := hR
  refine lp_for (step := fun s => f_X11_cut_l208_7 (nI p) M s.1 s.2) (fun i => (nI i, nI (nv T p (min i 4)))) L (fun i hi => ?_) ?_
  · show f_X11_cut_l208_7 (nI p) M (nI i) (nI (nv T p (min i 4))) = some (.inl (nI (i + 1), nI (nv T p (min (i + 1) 4))))
    obtain ⟨t1, t2⟩ := hT (p + i) (by omega)
    have hl := h2 i hi
    have hd : 48 ≤ T (p + i) ∧ T (p + i) ≤ 57 := by
      unfold isDg at hl
      rw [Bool.and_eq_true, decide_eq_true_eq, decide_eq_true_eq] at hl; exact hl
    unfold f_X11_cut_l208_7 f_X11_cut_b244_208_7
    rw [nI_add, hb (p + i) (by omega), zb1_some, if_pos (show p + i < n by omega), r_isDig t1, hl, if_pos (c := true = true) rfl, zb1_some, if_neg (by decide), zb1_some]
    simp only [zv_eq]
    rw [nI_k1]
    by_cases h8 : 4 ≤ i
    · rw [if_pos (show (4 : Int32) ≤ nI i from nI_le (a := 4) h8 (by omega)), show min (i + 1) 4 = min i 4 by omega]
    · rw [if_neg (show ¬ (4 : Int32) ≤ nI i from nI_ge (b := 4) (by omega) (by omega)), show min (i + 1) 4 = i + 1 by omega, show min i 4 = i by omega, show (10 : Int32) * nI (nv T p i) = nI (10 * nv T p i) from pk_mul 10 _, nI_add, show nI (10 * nv T p i + T (p + i)) - 48 = nI (10 * nv T p i + T (p + i) - 48) from zi_sub (b := 48) (by omega), show 10 * nv T p i + T (p + i) - 48 = nv T p (i + 1) by
        show _ = nv T p i * 10 + (T (p + i) - 48)
        omega]
  · show f_X11_cut_l208_7 (nI p) M (nI L) (nI (nv T p (min L 4))) = _
    unfold f_X11_cut_l208_7
    rw [nI_add, hb (p + L) (by omega), zb1_some]
    by_cases he : p + L < n
    · rw [if_pos he, r_isDig (hT (p + L) he).1, h3 he, if_neg (c := false = true) (by decide), zb1_some, if_pos rfl]
    · rw [if_neg he, r_isDig (c := 0) (by omega), if_neg (by decide), zb1_some, if_pos rfl]
