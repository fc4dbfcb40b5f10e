def D0 : zD := (fun a b => if a = 0 ∧ b = 4 then 1 else 0, fun _ => ([], []), fun i => ([], if i = 0 then [(0, 3)] else [(1, 3)]))
theorem mC_2 : mC.2.1 = (tkM 107).2.1 := rfl
theorem tkM_7 (i j : Nat) : (tkM i).2.1 7 j = wdN i j := by
  show (if 7 = 7 then wdN i j else 0) = wdN i j
  rw [if_pos rfl]
theorem law_new : ∃ N1 N2, f_X10_init_1 (zm_zero zm_M0 1) = some ((), N1) ∧ f_X11_init_52 (zm_zero N1 52) = some ((), N2) ∧ Inv N2 0 0 := by
  obtain ⟨K, p1, p2, q63, q66, q71, q76, q77, q78, q79⟩ := r_plain (M := mC) (v := 0) (by omega)
  have p1' : f_X11_plain 0 mC = some ((), K) := p1
  obtain ⟨w1, w2, w3⟩ := wM_1 K 20
  have c1 : ∀ x j, ¬ (x = 52 ∧ j = 17) → mC.1 x j = mN.1 x j := fun x j h => if_neg h
  have k1 : ∀ x j, wPl 0 x j = false → ¬ (x = 52 ∧ j = 17) → (wM K 20).1 x j = mN.1 x j := fun x j h h' => by rw [w1, p2.2 x j h, c1 x j h']
  have n0 : ∀ x j, 47 ≤ x → mN.1 x j = 0 := fun x j h => by rw [mN_1, mB_1 (wCl_f (by omega) (by omega)) (wCl_f (by omega) (by omega)), if_neg (by omega)]
  obtain ⟨G, g1, g2, g3⟩ := r_begins (M := wM K 20) (v := 0) (w := 0) (by omega) (by omega) (by rw [k1 52 18 rfl (by omega), n0 52 18 (by omega)]; rfl) (by rw [w1]; exact q66)
  refine ⟨mN, cpM G 91 0 60 (G.1 92), nw_class, ?_, ?_⟩
  · rw [nw_words p1', g1, zb2_some, r_keepsRow, zb2_some]
  generalize hN : cpM G 91 0 60 (G.1 92) = N
  have m1 : ∀ x j, x ≠ 91 → wBg x j = false → N.1 x j = K.1 x j := fun x j h h' => by rw [← hN, mC_ne h, g2.2 x j h', w1]
  have e1 : ∀ x j, x ≠ 91 → wBg x j = false → wPl 0 x j = false → ¬ (x = 52 ∧ j = 17) → N.1 x j = mN.1 x j := fun x j h h' h2 h3 => by rw [← hN, mC_ne h, g2.2 x j h', k1 x j h2 h3]
  have e91 : ∀ j, j < 60 → N.1 91 j = if j < 6 then -2 else if j < 18 then -2 else 0 := fun j hj => by
    rw [← hN, mC_in hj, g3 j hj, if_neg (Nat.not_lt_zero j)]
  have e2 : N.2.1 = (wM K 20).2.1 := by rw [← hN, mC2, g2.1]
  have e3 : N.2.2 = mN.2.2 := by rw [← hN, mC2, g2.1, w2, p2.1]; rfl
  have z : ∀ x j, 47 ≤ x → x ≠ 91 → wBg x j = false → wPl 0 x j = false → ¬ (x = 52 ∧ j = 17) → N.1 x j = 0 := fun x j h h1 h2 h3 h4 => by rw [e1 x j h1 h2 h3 h4, n0 x j h]
  have c25 : ∀ j, N.1 25 j = mN.1 25 j := fun j => e1 25 j (by omega) rfl rfl (by omega)
  have c35 : ∀ j, N.1 35 j = mN.1 35 j := fun j => e1 35 j (by omega) rfl rfl (by omega)
  have lo0 : ∀ x j, x < 25 → ¬ (x = 1 ∧ j = 16) → mN.1 x j = 0 := fun x j h h' => by rw [mN_1, mB_1 (wCl_f (by omega) (by omega)) (wCl_f (by omega) (by omega)), if_neg h']
  have l12 : ∀ j, N.1 12 j = 0 := fun j => by rw [e1 12 j (by omega) rfl rfl (by omega), lo0 12 j (by omega) (by omega)]
  refine ⟨25, 0, D0, fun _ => 0, ⟨Or.inl rfl, ?_, ?_, ?_⟩, ?_⟩
  · rw [e3]; rfl
  · refine ⟨by omega, Nat.zero_le _, Nat.zero_le _, Nat.zero_le _, ?_, ?_, ?_, ?_, ?_, ?_, ?_, Nat.zero_le _, ?_, ?_, ⟨Nat.le_refl 1, by show 1 ≤ 3; omega⟩, ?_, ?_, Nat.zero_le _, ?_, ?_, fun j h => absurd h (Nat.not_lt_zero j), fun j h => absurd h (Nat.not_lt_zero j), fun j h => absurd h (Nat.not_lt_zero j), fun j h => absurd h (Nat.not_lt_zero j), fun j h => absurd h (Nat.not_lt_zero j), fun j h => absurd h (Nat.not_lt_zero j), fun j h => absurd h (Nat.not_lt_zero j), fun j h => absurd h (Nat.not_lt_zero j), fun j h => absurd h (Nat.not_lt_zero j), fun j h => absurd h (Nat.not_lt_zero j), fun j h => absurd h (Nat.not_lt_zero j), fun j h => absurd h (Nat.not_lt_zero j), fun j h => absurd h (Nat.not_lt_zero j), fun j h => absurd h (Nat.not_lt_zero j), fun j h => absurd h (Nat.not_lt_zero j), fun j h => absurd h (Nat.not_lt_zero j), fun j h => absurd h (Nat.not_lt_zero j), fun j h => absurd h (Nat.not_lt_zero j), ?_, ?_⟩
    · exact z 52 18 (by omega) (by omega) rfl rfl (by omega)
    · rw [c25]; decide +kernel
    · rw [m1 63 0 (by omega) rfl]; exact q63
    · rw [c25]; decide +kernel
    · rw [m1 66 0 (by omega) rfl]; exact q66
    · rw [c25]; decide +kernel
    · rw [m1 71 0 (by omega) rfl]; exact q71
    · rw [c25]; decide +kernel
    · rw [m1 76 0 (by omega) rfl]; exact q76
    · rw [c25]; decide +kernel
    · rw [m1 77 0 (by omega) rfl]; exact q77
    · rw [c25]; decide +kernel
    · rw [m1 78 0 (by omega) rfl]; exact q78
    · refine ⟨0, by rw [c25]; decide +kernel, Nat.zero_le _, fun x h => (by cases h), (by unfold iv_ex; rfl), ?_, ⟨4, by omega, by rw [c25]; decide +kernel, by decide⟩, Or.inl ⟨rfl, rfl, 0, by omega, ?_, ?_⟩⟩
      · intro i p h
        match i, h with
        | 0, h => cases h; rw [c35]; decide +kernel
        | 1, h => cases h; rw [c35]; decide +kernel
        | i + 2, h => cases h
      · rw [m1 79 _ (by omega) rfl]; exact (q79 0 (by omega)).1
      · rw [m1 80 _ (by omega) rfl]; exact (q79 0 (by omega)).2
    · refine ⟨2, by rw [c25]; decide +kernel, Nat.zero_le _, fun x h => (by cases h), (by unfold iv_ex; rfl), ?_, ⟨4, by omega, by rw [c25]; decide +kernel, by decide⟩, Or.inl ⟨rfl, rfl, 0, by omega, ?_, ?_⟩⟩
      · intro i p h
        match i, h with
        | 0, h => cases h; rw [c35]; decide +kernel
        | 1, h => cases h; rw [c35]; decide +kernel
        | i + 2, h => cases h
      · rw [m1 79 _ (by omega) rfl]; exact (q79 1 (by omega)).1
      · rw [m1 80 _ (by omega) rfl]; exact (q79 1 (by omega)).2
  · refine ⟨Nat.zero_le _, Nat.zero_le _, Nat.pow_pos (by omega), l12 0, ?_, l12 1, ?_, ?_, l12 3, fun j h => absurd h (Nat.not_lt_zero j), fun j h => absurd h (Nat.not_lt_zero j), fun j h => absurd h (Nat.not_lt_zero j), fun j h => absurd h (Nat.not_lt_zero j), fun j h => absurd h (Nat.not_lt_zero j), fun j h => absurd h (Nat.not_lt_zero j), fun j h => absurd h (Nat.not_lt_zero j), fun j h => absurd h (Nat.not_lt_zero j), fun j h => ?_⟩
    · rw [e91 30 (by omega)]; rfl
    · rw [e91 31 (by omega)]; rfl
    · rw [e91 32 (by omega), l12]; rfl
    · rw [e91 (33 + j) (by omega), l12, if_neg (by omega), if_neg (by omega)]
  · refine ⟨by rw [e3]; rfl, Or.inl ⟨rfl, by rw [e3]; rfl, by rw [e3]; rfl⟩, ⟨0, by omega, ?_, ?_, fun j h => absurd h (Nat.not_lt_zero j)⟩, ?_, fun j hj => ⟨?_, ?_⟩, ⟨0, 0, by omega, by omega, ?_, ?_, ?_, fun i h => absurd h (Nat.not_lt_zero i)⟩, ⟨0, by omega, ?_, fun s hs => ⟨?_, fun h => ?_⟩⟩, ⟨0, by omega, ?_, ?_, fun i h => absurd h (Nat.not_lt_zero i)⟩, Or.inl ?_, fun h => absurd rfl h, by rw [e3]; rfl⟩
    · rw [e1 1 15 (by omega) rfl rfl (by omega), lo0 1 15 (by omega) (by omega)]; rfl
    · exact z 52 2 (by omega) (by omega) rfl rfl (by omega)
    · rw [e1 1 16 (by omega) rfl rfl (by omega), m1 52 17 (by omega) rfl, p2.2 52 17 rfl]
      decide +kernel
    · rw [e2, w3, if_neg (by omega), ← nw_wd j hj]
      have : K.2.1 = mC.2.1 := by rw [p2.1]
      rw [this, mC_2, tkM_7]
    · rw [e2, w3, if_pos ⟨rfl, hj⟩]; exact wsA_ok j hj
    · rw [e1 13 2 (by omega) rfl rfl (by omega), lo0 13 2 (by omega) (by omega)]; rfl
    · exact z 52 59 (by omega) (by omega) rfl rfl (by omega)
    · rw [e1 13 1 (by omega) rfl rfl (by omega), lo0 13 1 (by omega) (by omega)]; rfl
    · rw [e1 1 14 (by omega) rfl rfl (by omega), lo0 1 14 (by omega) (by omega)]; rfl
    · rw [z 101 s (by omega) (by omega) rfl rfl (by omega), Nat.zero_div]; rfl
    · rw [Nat.zero_div] at h; cases h
    · rw [e1 16 7 (by omega) rfl rfl (by omega), lo0 16 7 (by omega) (by omega)]; rfl
    · exact z 52 65 (by omega) (by omega) rfl rfl (by omega)
    · rw [e1 1 13 (by omega) rfl rfl (by omega), lo0 1 13 (by omega) (by omega)]
