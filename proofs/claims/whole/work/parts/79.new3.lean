def mC : zm_Mem := zm_sI mN 52 17 (-1)
theorem zC' {k : Nat} (h : 53 ≤ k) : zm_zero mC k = mC := zz (fun _ => by
  show (if k = 52 ∧ _ then _ else mN.1 k _) = 0
  rw [if_neg (by omega), mN_1, mB_1 (wCl_f (by omega) (by omega)) (wCl_f (by omega) (by omega)), if_neg (by omega)]) (fun _ => if_neg (by omega)) (fun _ => by
  show mN.2.2 k _ = 0
  rw [mN_3, mB_3, if_neg (by omega), if_neg (by omega), if_neg (by omega)])
def wsA : List Int64 := [(apN (apN (apN (apN (apN (apN (apN 0 104) 111) 117) 115) 101) 0) 0), (apN (apN (apN (apN (apN (apN (apN 0 119) 111) 114) 107) 0) 0) 0), (apN (apN (apN (apN (apN (apN (apN 0 116) 101) 114) 109) 0) 0) 0), (apN (apN (apN (apN (apN (apN (apN 0 116) 114) 105) 112) 0) 0) 0), (apN (apN (apN (apN (apN (apN (apN 0 108) 105) 107) 101) 115) 0) 0), (apN (apN (apN (apN (apN (apN (apN 0 108) 97) 116) 101) 0) 0) 0), (apN (apN (apN (apN (apN (apN (apN (apN 0 99) 111) 117) 114) 105) 101) 114) 115), (apN (apN (apN (apN (apN (apN (apN 0 115) 101) 101) 100) 0) 0) 0), (apN (apN (apN (apN (apN (apN (apN 0 105) 102) 0) 0) 0) 0) 0), (apN (apN (apN (apN (apN (apN (apN 0 116) 104) 101) 110) 0) 0) 0), (apN (apN (apN (apN (apN (apN (apN 0 101) 108) 115) 101) 0) 0) 0), (apN (apN (apN (apN (apN (apN (apN 0 110) 111) 114) 116) 104) 0) 0), (apN (apN (apN (apN (apN (apN (apN 0 119) 97) 108) 108) 115) 0) 0), (apN (apN (apN (apN (apN (apN (apN 0 107) 105) 110) 100) 0) 0) 0), (apN (apN (apN (apN (apN (apN (apN 0 118) 97) 108) 117) 101) 0) 0), (apN (apN (apN (apN (apN (apN (apN 0 109) 97) 110) 121) 0) 0) 0), (apN (apN (apN (apN (apN (apN (apN 0 115) 97) 109) 101) 0) 0) 0), (apN (apN (apN (apN (apN (apN (apN 0 104) 111) 109) 101) 0) 0) 0), (apN (apN (apN (apN (apN (apN (apN 0 119) 104) 105) 99) 104) 0) 0), (apN (apN (apN (apN (apN (apN (apN 0 100) 97) 121) 0) 0) 0) 0)]
def wM (K : zm_Mem) : Nat → zm_Mem
  | 0 => K
  | i + 1 => zm_sL (wM K i) 59 i (wsA.getD i 0)
theorem wM_1 (K : zm_Mem) : ∀ i, (wM K i).1 = K.1 ∧ (wM K i).2.2 = K.2.2 ∧ ∀ x j, (wM K i).2.1 x j = if x = 59 ∧ j < i then wsA.getD j 0 else K.2.1 x j
  | 0 => ⟨rfl, rfl, fun x j => by rw [if_neg (by omega)]; rfl⟩
  | i + 1 => by
    obtain ⟨h1, h2, h3⟩ := wM_1 K i
    refine ⟨h1, h2, fun x j => ?_⟩
    show (if x = 59 ∧ j = i then wsA.getD i 0 else (wM K i).2.1 x j) = _
    rw [h3]
    by_cases h : x = 59 ∧ j = i
    · rw [if_pos h, if_pos ⟨h.1, by omega⟩, h.2]
    · rw [if_neg h]
      by_cases h' : x = 59 ∧ j < i
      · rw [if_pos h', if_pos ⟨h'.1, by omega⟩]
      · rw [if_neg h', if_neg (by omega)]
theorem wsA_ok : ∀ j, j < 20 → wsA.getD j 0 = Int64.ofNat (iv_wn 27 (iv_ws.getD j [])) := by decide +kernel
theorem nw_words {K : zm_Mem} (h : f_X11_plain 0 mC = some ((), K)) : f_X11_init_52 (zm_zero mN 52) = zm_b2 (f_X11_begins (wM K 20)) (fun _ M849 => zm_b2 (f_X11_keepsRow M849) (fun _ M853 => some ((), M853))) := by
  unfold f_X11_init_52
  simp only [zv_eq]
  simp (disch := decide) only [zN']
  rw [show zm_sI mN 52 17 (-1) = mC from rfl]
  simp (disch := decide) only [zC']
  rw [h, zb2_some]
  simp only [nw_word, nw_app, zb1_some, zk_true, show zm_in 0 20 = true from by decide, show zm_in 1 20 = true from by decide, show zm_in 2 20 = true from by decide, show zm_in 3 20 = true from by decide, show zm_in 4 20 = true from by decide, show zm_in 5 20 = true from by decide, show zm_in 6 20 = true from by decide, show zm_in 7 20 = true from by decide, show zm_in 8 20 = true from by decide, show zm_in 9 20 = true from by decide, show zm_in 10 20 = true from by decide, show zm_in 11 20 = true from by decide, show zm_in 12 20 = true from by decide, show zm_in 13 20 = true from by decide, show zm_in 14 20 = true from by decide, show zm_in 15 20 = true from by decide, show zm_in 16 20 = true from by decide, show zm_in 17 20 = true from by decide, show zm_in 18 20 = true from by decide, show zm_in 19 20 = true from by decide, show (0 : Int32).toNatClampNeg = 0 from by decide, show (1 : Int32).toNatClampNeg = 1 from by decide, show (2 : Int32).toNatClampNeg = 2 from by decide, show (3 : Int32).toNatClampNeg = 3 from by decide, show (4 : Int32).toNatClampNeg = 4 from by decide, show (5 : Int32).toNatClampNeg = 5 from by decide, show (6 : Int32).toNatClampNeg = 6 from by decide, show (7 : Int32).toNatClampNeg = 7 from by decide, show (8 : Int32).toNatClampNeg = 8 from by decide, show (9 : Int32).toNatClampNeg = 9 from by decide, show (10 : Int32).toNatClampNeg = 10 from by decide, show (11 : Int32).toNatClampNeg = 11 from by decide, show (12 : Int32).toNatClampNeg = 12 from by decide, show (13 : Int32).toNatClampNeg = 13 from by decide, show (14 : Int32).toNatClampNeg = 14 from by decide, show (15 : Int32).toNatClampNeg = 15 from by decide, show (16 : Int32).toNatClampNeg = 16 from by decide, show (17 : Int32).toNatClampNeg = 17 from by decide, show (18 : Int32).toNatClampNeg = 18 from by decide, show (19 : Int32).toNatClampNeg = 19 from by decide]
  rfl
