/-! what the constructors make -/
theorem zz {M : zm_Mem} {id : Nat} (h1 : ∀ j, M.1 id j = 0) (h2 : ∀ j, M.2.1 id j = 0) (h3 : ∀ j, M.2.2 id j = 0) : zm_zero M id = M := by
  refine Prod.ext ?_ (Prod.ext ?_ ?_)
  · funext x j
    show (if x = id then 0 else M.1 x j) = _
    by_cases h : x = id
    · subst h; rw [if_pos rfl, h1]
    · rw [if_neg h]
  · funext x j
    show (if x = id then 0 else M.2.1 x j) = _
    by_cases h : x = id
    · subst h; rw [if_pos rfl, h2]
    · rw [if_neg h]
  · funext x j
    show (if x = id then 0 else M.2.2 x j) = _
    by_cases h : x = id
    · subst h; rw [if_pos rfl, h3]
    · rw [if_neg h]
def cwN : Nat → Nat
  | 0 => 0
  | i + 1 => if zm_sch 0 i = 32 then cwN i + 1 else cwN i
def wdN : Nat → Nat → Int64
  | 0, _ => 0
  | i + 1, j => if zm_sch 0 i = 32 then wdN i j else if j = cwN i then wdN i j * 32 + ((zm_sch 0 i - 97) + 1).toInt64 else wdN i j
def tkM (i : Nat) : zm_Mem := (fun _ _ => 0, fun x j => if x = 7 then wdN i j else 0, fun _ _ => 0)
theorem nw_cw : ∀ i, i < 107 → cwN i < 20 := by decide +kernel
theorem nw_wd : ∀ j, j < 20 → wdN 107 j = Int64.ofNat (iv_wn 32 (iv_ws.getD j [])) := by decide +kernel
theorem nw_sch : ∀ i, i < 107 → ((zm_sch 0 i &&& 255).toUInt32 % 65536).toInt32 = zm_sch 0 i ∧ (zm_sch 0 i).toUInt32.toUInt16.toUInt32.toInt32 = zm_sch 0 i := by decide +kernel
theorem nw_len (M : zm_Mem) : f_J0_length_8abf5_s0 M = some 107 := by
  unfold f_J0_length_8abf5_s0 f_J0_coder_7d493_s0
  rw [if_neg (by decide), zm_ck_t (by decide), zb1_some]; rfl
theorem nw_char {i : Nat} (hi : i < 107) (M : zm_Mem) : f_J0_charAt_5068e_s0 (nI i) M = some (zm_sch 0 i) := by
  have e1 : f_J0_isLatin1_aae02_s0 M = some 1 := by
    unfold f_J0_isLatin1_aae02_s0
    rw [if_neg (by decide), if_pos rfl]
  have e2 : f_J0_checkIndex_df160 (nI i) 107 M = some () := by
    unfold f_J0_checkIndex_df160 f_J3_checkIndex_8e157
    rw [if_neg (show ¬ nI i < (0 : Int32) from nI_pos (by omega)), if_pos (show nI i < (107 : Int32) from nI_lt (b := 107) hi (by omega)), zb1_some]
  have e3 : f_J1_charAt_3b067_s0 (nI i) M = some (zm_sch 0 i) := by
    unfold f_J1_charAt_3b067_s0
    rw [e2, zb1_some, zm_ck_t (zm_in_nI hi (by omega)), nI_clamp (by omega), (nw_sch i hi).1, zm_ck_t (decide_eq_true (nw_sch i hi).2)]
  unfold f_J0_charAt_5068e_s0
  rw [e1, zb1_some, if_neg (by decide), e3, zb1_some, zm_ck_t (decide_eq_true (nw_sch i hi).2)]
theorem nw_tok : f_X7_init_3 zm_M0 = some ((), tkM 107) := by
  have z0 : zm_zero (zm_zero (zm_zero (zm_zero zm_M0 4) 5) 6) 7 = tkM 0 := by
    rw [zz (M := zm_M0) (fun _ => rfl) (fun _ => rfl) (fun _ => rfl), zz (M := zm_M0) (fun _ => rfl) (fun _ => rfl) (fun _ => rfl), zz (M := zm_M0) (fun _ => rfl) (fun _ => rfl) (fun _ => rfl), zz (M := zm_M0) (fun _ => rfl) (fun _ => rfl) (fun _ => rfl)]
    refine Prod.ext rfl (Prod.ext ?_ rfl)
    funext x j
    show (0 : Int64) = if x = 7 then 0 else 0
    split <;> rfl
  have key : zm_lp (fun s => f_X7_init_3_l43 s.1 s.2.1 s.2.2) (0, 0, tkM 0) = some (tkM 107) := by
    refine lp_for (step := fun s => f_X7_init_3_l43 s.1 s.2.1 s.2.2) (fun i => (nI (cwN i), nI i, tkM i)) 107 (fun i hi => ?_) ?_
    · show f_X7_init_3_l43 (nI (cwN i)) (nI i) (tkM i) = some (.inl (nI (if zm_sch 0 i = 32 then cwN i + 1 else cwN i), nI (i + 1), tkM (i + 1)))
      have hc := nw_cw i hi
      unfold f_X7_init_3_l43 f_X7_init_3_b93_43 f_X7_withLetter
      rw [nw_len, zb1_some, if_neg (show ¬ (107 : Int32) ≤ nI i from nI_ge (b := 107) hi (by omega)), if_neg (show ¬ (20 : Int32) ≤ nI (cwN i) from nI_ge (b := 20) hc (by omega)), nw_char hi, zb1_some]
      simp only [zv_eq]
      by_cases h : zm_sch 0 i = 32
      · rw [if_pos h, if_pos h, nI_k1, nI_k1]
        have : tkM (i + 1) = tkM i := by
          refine Prod.ext rfl (Prod.ext ?_ rfl)
          funext x j
          show (if x = 7 then (if zm_sch 0 i = 32 then wdN i j else _) else 0) = if x = 7 then wdN i j else 0
          rw [if_pos h]
        rw [this]
      · rw [if_neg h, if_neg h, zm_ck_t (zm_in_nI hc (by omega)), zb1_some, zm_ck_t (zm_in_nI hc (by omega)), nI_clamp (by omega), nI_k1]
        have : zm_sL (tkM i) 7 (cwN i) ((tkM i).2.1 7 (cwN i) * 32 + ((zm_sch 0 i - 97) + 1).toInt64) = tkM (i + 1) := by
          refine Prod.ext rfl (Prod.ext ?_ rfl)
          funext x j
          show (if x = 7 ∧ j = cwN i then wdN i (cwN i) * 32 + ((zm_sch 0 i - 97) + 1).toInt64 else if x = 7 then wdN i j else 0) = if x = 7 then (if zm_sch 0 i = 32 then wdN i j else if j = cwN i then wdN i j * 32 + ((zm_sch 0 i - 97) + 1).toInt64 else wdN i j) else 0
          rw [if_neg h]
          by_cases hx : x = 7
          · rw [if_pos hx]
            by_cases hj : j = cwN i
            · rw [if_pos ⟨hx, hj⟩, if_pos hx, if_pos hj, hj]
            · rw [if_neg (fun z => hj z.2), if_pos hx, if_neg hj]
          · rw [if_neg (fun z => hx z.1), if_neg hx, if_neg hx]
        rw [this]
    · show f_X7_init_3_l43 (nI (cwN 107)) (nI 107) (tkM 107) = _
      unfold f_X7_init_3_l43
      rw [nw_len, zb1_some, if_pos (by decide)]
  unfold f_X7_init_3
  simp only [zv_eq]
  rw [z0, key]; rfl
/-- one more code -/
def putM (M : zm_Mem) (t k : Nat) (a b : Int32) : zm_Mem := zm_sI (zm_sI M (t + 10) k ((a <<< ((14 : Int32) &&& 31)) ||| (b &&& 16383))) t 10 (nI (k + 1))
theorem c_putT {M : zm_Mem} {t k : Nat} {a b : Int32} (h : M.1 t 10 = nI k) (hk : k < 408) : f_X8_put t a b M = some ((), putM M t k a b) := by
  unfold f_X8_put putM
  rw [h, if_neg (show ¬ (408 : Int32) ≤ nI k from nI_ge (b := 408) hk (by omega)), zm_ck_t (zm_in_nI hk (by omega)), nI_clamp (by omega)]
  simp only [zv_eq]
  rw [mI1, if_neg (by omega), h, nI_k1]
def clM (M : zm_Mem) (t : Nat) : zm_Mem := putM (putM (zm_sI (putM (putM (zm_sI (zm_sI (zm_sI (zm_sI (zm_sI (zm_sI (zm_sI (zm_sI M t 11 0) t 12 0) t 13 0) t 16 0) t 17 1) t 18 0) t 10 0) t 14 (nI 0)) t 0 0 3) t 1 7 0) t 15 (nI 2)) t 2 1 3) t 3 7 0
theorem c_clear (M : zm_Mem) (t : Nat) : f_X8_clear t M = some ((), clM M t) := by
  have p10 : ∀ (K : zm_Mem) k a b, (putM K t k a b).1 t 10 = nI (k + 1) := fun K k a b => by unfold putM; rw [mI1, if_pos ⟨rfl, rfl⟩]
  unfold f_X8_clear clM
  simp only [zv_eq]
  rw [mI1 (zm_sI (zm_sI (zm_sI (zm_sI (zm_sI (zm_sI M t 11 0) t 12 0) t 13 0) t 16 0) t 17 1) t 18 0) t 10, if_pos ⟨rfl, rfl⟩, c_putT (k := 0) (by rw [mI1, if_neg (by omega), mI1, if_pos ⟨rfl, rfl⟩]; rfl) (by omega), zb2_some, c_putT (k := 1) (p10 _ _ _ _) (by omega), zb2_some, p10, c_putT (k := 2) (by rw [mI1, if_neg (by omega)]; exact p10 _ _ _ _) (by omega), zb2_some, c_putT (k := 3) (p10 _ _ _ _) (by omega), zb2_some]
  rfl
