/-! from the law's entry: what the Statement gives, in the judgement's words -/
theorem st_ref {args : Array Value} {s : State} {C n d : String} (h : (Cond.isRef (.static C n d)).before args s = true) : ∃ v, (Term.static C n d).eval args s none [] s = some v ∧ (v = .null ∨ ∃ a, v = .ref a) := by
  cases hv : (Term.static C n d).eval args s none [] s with
  | none => simp [Cond.before, Cond.holds, Cond.value, hv] at h
  | some w =>
    refine ⟨w, rfl, ?_⟩
    cases w <;> simp_all [Cond.before, Cond.holds, Cond.value, Value.isRef]
def st_tm (i : Nat) : Term := Term.string "LentPictures$Tokens" (if i = 0 then 25 else 62)
def st_len : List Nat := [107, 9]
set_option maxRecDepth 100000 in
theorem st_el : ∀ i, i < 2 → ∀ j, j < st_len.getD i 0 → Cond.eq (.elem (.field (st_tm i) "java/lang/String" "value" "[B") (.int (Int32.ofNat j))) (.int ((zm_str.getD i []).getD j 0)) ∈ flatC (Jvm.Cond.and given_1 narrow_1) := by decide +kernel
set_option maxRecDepth 100000 in
theorem st_steps : ∀ j, j < 6 → Cond.eq (.elem (.static "LentPictures$Survey" "STEPS" "[I") (.int (Int32.ofNat j))) (.int (zm_steps j)) ∈ flatC (Jvm.Cond.and given_1 narrow_1) := by decide +kernel
set_option maxHeartbeats 4000000 in
set_option maxRecDepth 100000 in
theorem st_Z {s : State} {b B : Nat} (hB : B + 1 = s.heap.size) (hts : ∀ w ∈ lw_tbl, w.before #[Value.ref b] s = true) (hgv : (Jvm.Cond.and given_1 narrow_1).before #[Value.ref b] s = true) : ∃ ad : Nat → Nat, ∀ (D : va_G) (ca : Nat → ClassId), zm_Z (B, D, ca, ad) s := by
  have hs := flat_of_before _ hgv
  have hA : ∀ a : Nat, a < s.heap.size → ¬ B < a := fun a h => by omega
  obtain ⟨qS, e1, h2⟩ := va_Tof (tm := .static "LentPictures$Survey" "STEPS" "[I") (ty := .int) (N := 6) (f := fun j => .int (zm_steps j)) (A := fun q => B < q) (by decide) (hs (.arrayOf (.static "LentPictures$Survey" "STEPS" "[I") .int) (by decide +kernel)) (va_eqt (hs (.eq (.length (.static "LentPictures$Survey" "STEPS" "[I")) (.int 6)) (by decide +kernel))) (fun j hj => va_eqt (hs _ (st_steps j hj))) hA
  have h1 := va_Zof (A := fun q => B < q) (hts (.laysStatic "LentPictures$Survey" "STEPS" "[I") (by decide +kernel)) (hts (.initialized "LentPictures$Survey") (by decide +kernel)) e1 hA
  obtain ⟨adK, adV, h6, e6⟩ := vk_Sof (N := 2) (tm := st_tm) (len := st_len) (byt := zm_str) (A := fun q => B < q) (by decide)
    (fun i hi => by match i, hi with
      | 0, _ => exact hs _ (by decide +kernel)
      | 1, _ => exact hs _ (by decide +kernel))
    (fun i hi => by match i, hi with
      | 0, _ => exact hs _ (by decide +kernel)
      | 1, _ => exact hs _ (by decide +kernel))
    (fun i hi => by match i, hi with
      | 0, _ => exact hs _ (by decide +kernel)
      | 1, _ => exact hs _ (by decide +kernel))
    (fun i hi => by match i, hi with
      | 0, _ => exact hs _ (by decide +kernel)
      | 1, _ => exact hs _ (by decide +kernel))
    (fun i hi j hj => hs _ (st_el i hi j hj))
    (fun i j hi hj hne => by match i, j, hi, hj, hne with
      | 0, 0, _, _, h => exact absurd rfl h
      | 1, 1, _, _, h => exact absurd rfl h
      | 0, 1, _, _, _ => first | exact Or.inl (hs _ (by decide +kernel)) | exact Or.inr (hs _ (by decide +kernel))
      | 1, 0, _, _, _ => first | exact Or.inr (hs _ (by decide +kernel)) | exact Or.inl (hs _ (by decide +kernel))) hA
  have h7 := va_Zof (A := fun q => B < q) (v := .int 1) (hts (.laysStatic "java/lang/String" "COMPACT_STRINGS" "Z") (by decide +kernel)) (hts (.initialized "java/lang/String") (by decide +kernel)) (va_eqi (hs (.eq (.static "java/lang/String" "COMPACT_STRINGS" "Z") (.int 1)) (by decide +kernel))) hA
  obtain ⟨v, e8, h9⟩ := st_ref (hs (.isRef (.static "jdk/internal/util/Preconditions" "SIOOBE_FORMATTER" "Ljava/util/function/BiFunction;")) (by decide +kernel))
  have h8 := va_Zof (A := fun q => B < q) (hts (.laysStatic "jdk/internal/util/Preconditions" "SIOOBE_FORMATTER" "Ljava/util/function/BiFunction;") (by decide +kernel)) (hts (.initialized "jdk/internal/util/Preconditions") (by decide +kernel)) e8 hA
  have e60 := e6 0 (by decide)
  have e61 := e6 1 (by decide)
  refine ⟨fun k => if k = 0 then qS else if k = 1 then adK 0 else if k = 2 then adV 0 else if k = 3 then adK 1 else adV 1, fun D ca => ⟨h1, h2, va_Nw.of rfl (hts _ (by decide +kernel)), vk_R.of (A := #[Value.ref b]) (hts _ (by decide +kernel)) e60, vk_R.of (A := #[Value.ref b]) (hts _ (by decide +kernel)) e61, ⟨fun i hi => ?_, fun i j hi hj he => ?_⟩, h7, ⟨by show B < _; omega, va_Nw.of rfl (hts _ (by decide +kernel)), va_Nw.of rfl (hts _ (by decide +kernel)), va_Nw.of rfl (hts _ (by decide +kernel)), va_Nw.of rfl (hts _ (by decide +kernel)), va_Nw.of rfl (hts _ (by decide +kernel))⟩, v, h8, h9⟩⟩
  · match i, hi with
    | 0, _ => exact h6.1 0 (by decide)
    | 1, _ => exact h6.1 1 (by decide)
  · match i, j, hi, hj, he with
    | 0, 0, _, _, _ => rfl
    | 1, 1, _, _, _ => rfl
    | 0, 1, _, _, he => exact h6.2 0 1 (by decide) (by decide) he
    | 1, 0, _, _, he => exact h6.2 1 0 (by decide) (by decide) he
set_option maxHeartbeats 4000000 in
set_option maxRecDepth 100000 in
theorem st_K {s : State} {b : Nat} (hts : ∀ w ∈ lw_tbl, w.before #[Value.ref b] s = true) : ∃ (D : va_G) (ca : Nat → ClassId), ∀ (B : Nat) (ad : Nat → Nat), va_K D vwCl (zm_tys (B, D, ca, ad)) s := by
  obtain ⟨c0, iS0, hKn0⟩ := u_known (C := RX0) (T := TX0) (N := 9) (n := 9) hts zm_inX0 (hts (.instantiable RX0 9) (by decide +kernel))
  obtain ⟨c1, iS1, hKn1⟩ := u_known (C := RX1) (T := TX1) (N := 3) (n := 3) hts zm_inX1 (hts (.instantiable RX1 3) (by decide +kernel))
  obtain ⟨c2, iS2, hKn2⟩ := u_known (C := RX2) (T := TX2) (N := 9) (n := 9) hts zm_inX2 (hts (.instantiable RX2 9) (by decide +kernel))
  obtain ⟨c3, iS3, hKn3⟩ := u_known (C := RX3) (T := TX3) (N := 3) (n := 3) hts zm_inX3 (hts (.instantiable RX3 3) (by decide +kernel))
  obtain ⟨c4, iS4, hKn4⟩ := u_known (C := RX4) (T := TX4) (N := 1) (n := 1) hts zm_inX4 (hts (.instantiable RX4 1) (by decide +kernel))
  obtain ⟨c5, iS5, hKn5⟩ := u_known (C := RX5) (T := TX5) (N := 2) (n := 2) hts zm_inX5 (hts (.instantiable RX5 2) (by decide +kernel))
  obtain ⟨c6, iS6, hKn6⟩ := u_known (C := RX6) (T := TX6) (N := 15) (n := 15) hts zm_inX6 (hts (.instantiable RX6 15) (by decide +kernel))
  obtain ⟨c7, iS7, hKn7⟩ := u_known (C := RX7) (T := TX7) (N := 5) (n := 5) hts zm_inX7 (hts (.instantiable RX7 5) (by decide +kernel))
  obtain ⟨c8, iS8, hKn8⟩ := u_known (C := RX8) (T := TX8) (N := 19) (n := 19) hts zm_inX8 (hts (.instantiable RX8 19) (by decide +kernel))
  obtain ⟨c9, iS9, hKn9⟩ := u_known (C := RX9) (T := TX9) (N := 3) (n := 3) hts zm_inX9 (hts (.instantiable RX9 3) (by decide +kernel))
  obtain ⟨c10, iS10, hKn10⟩ := u_known (C := RX10) (T := TX10) (N := 17) (n := 17) hts zm_inX10 (hts (.instantiable RX10 17) (by decide +kernel))
  obtain ⟨c11, iS11, hKn11⟩ := u_known (C := RX11) (T := TX11) (N := 71) (n := 71) hts zm_inX11 (hts (.instantiable RX11 71) (by decide +kernel))
  obtain ⟨aI, kI, mI, fI, gI, lI⟩ := Cond.arrayClass_spec (hts (.arrayClass .int) (by decide +kernel))
  obtain ⟨aB, kB, mB, fB, gB, lB⟩ := Cond.arrayClass_spec (hts (.arrayClass .byte) (by decide +kernel))
  obtain ⟨aJ, kJ, mJ, fJ, gJ, lJ⟩ := Cond.arrayClass_spec (hts (.arrayClass .long) (by decide +kernel))
  obtain ⟨aZ, kZ, mZ, fZ, gZ, lZ⟩ := Cond.arrayClass_spec (hts (.arrayClass .boolean) (by decide +kernel))
  refine ⟨(fun k => [c0, c1, c2, c3, c4, c5, c6, c7, c8, c9, c10, c11].getD k c0, fun k => [iS0, iS1, iS2, iS3, iS4, iS5, iS6, iS7, iS8, iS9, iS10, iS11].getD k iS0), fun k => [aI, aB, aJ, aZ].getD k aI, fun B ad => ⟨fun k q hq => ?_, fun k q hq => ?_⟩⟩
  · match k, hq with
    | 0, hq => cases hq; exact hKn0
    | 1, hq => cases hq; exact hKn1
    | 2, hq => cases hq; exact hKn2
    | 3, hq => cases hq; exact hKn3
    | 4, hq => cases hq; exact hKn4
    | 5, hq => cases hq; exact hKn5
    | 6, hq => cases hq; exact hKn6
    | 7, hq => cases hq; exact hKn7
    | 8, hq => cases hq; exact hKn8
    | 9, hq => cases hq; exact hKn9
    | 10, hq => cases hq; exact hKn10
    | 11, hq => cases hq; exact hKn11
    | k + 12, hq => simp [vwCl] at hq
  · match k, hq with
    | 0, hq => cases hq; exact ⟨fun n z => ⟨fun k h => (by cases h), kI, gI, mI, lI⟩, fI⟩
    | 1, hq => cases hq; exact ⟨fun n z => ⟨fun k h => (by cases h), kB, gB, mB, lB⟩, fB⟩
    | 2, hq => cases hq; exact ⟨fun n z => ⟨fun k h => (by cases h), kJ, gJ, mJ, lJ⟩, fJ⟩
    | 3, hq => cases hq; exact ⟨fun n z => ⟨fun k h => (by cases h), kZ, gZ, mZ, lZ⟩, fZ⟩
    | k + 4, hq => simp [zm_tys] at hq
set_option maxHeartbeats 4000000 in
set_option maxRecDepth 100000 in
theorem zm_start {p : Program} {e : Env} {s : State} {m : MethodId} {below : List Frame} {meth : Method} {c : Code} (l : Launch) {b L : Nat} {xs : Nat → Int32} (C0 : lw_At p s m meth c b L xs) (hf : ∃ N, f_law L xs = some ((), N)) : W p l e room_1 s m #[Value.ref b] below meth c s.heap [] 0 0 (lw_Z below #[Value.ref b] s) (entryFrame m ([Value.ref b] : List Value).toArray 4) := by
  obtain ⟨hx, hb, hr, hml, hown, hts, hX, hbl, hlocks, hgv⟩ := id C0
  obtain ⟨B, hB⟩ : ∃ B, B + 1 = s.heap.size := ⟨s.heap.size - 1, by omega⟩
  obtain ⟨ad, hZ⟩ := st_Z hB hts hgv
  obtain ⟨D, ca, hK⟩ := st_K hts
  obtain ⟨N, hN⟩ := hf
  obtain ⟨E, hE⟩ : ∃ E : zm_E, E = (l, B, D, ca, ad) := ⟨_, rfl⟩
  have hE1 : E.2.1 + 1 = s.heap.size := by rw [hE]; exact hB
  have hbE : b ≤ E.2.1 := by omega
  have hl := lv_entry ([.ref b]) (n := 4) (Nat.le_of_ble_eq_true rfl)
  rw [lg_entry_eq]
  have K : zm_V (p, e, s, m, #[Value.ref b], below, meth, c) (Y_L meth.name) E (fun (_ : Unit) _ => lw_Z below #[Value.ref b] s) 0 0 true (0, zm_rf0) 0 [(0, .ref b)] [] zm_M0 (f_law L xs) some := by
    unfold f_law
    refine zm_newo (id := 1) (N := 17) 3 1 17 rfl rfl rfl dL_law_0 rfl zm_itX10 tyX10 tyX10_ok cl_L_7 is_X10 in_X10 rfl rfl rfl (fun _ => rfl) dv_X10 (Nat.le_of_ble_eq_true rfl) (Nat.le_of_ble_eq_true rfl) (fun N1 _ => ?_)
    refine zm_dup 4 rfl dL_law_3 rfl ?_
    refine zm_callI (w2 := (51, zm_rfA)) 7 51 6486 rfl rfl rfl dL_law_4 [] [.ref (E.2.1 + 1)] rfl il_L_9 rfl rfl rfl (Nat.le_of_ble_eq_true rfl) ⟨(Nat.le_of_ble_eq_true rfl), (Nat.le_of_ble_eq_true rfl)⟩ rfl rfl ⟨(Nat.le_of_ble_eq_true rfl), (Nat.le_of_ble_eq_true rfl)⟩ rfl (fun _ h => k_X10_init_1 E zm_rf0 (fun _ _ _ => rfl) N1 h) (fun N2 => ?_)
    refine zm_astore_n (lv' := [(1, .ref (E.2.1 + 1)), (0, .ref b)]) 8 rfl dL_law_7 rfl (Nat.le_of_ble_eq_true rfl) rfl ?_
    refine zm_newo (id := 52) (N := 71) 11 52 6557 rfl rfl rfl dL_law_8 rfl zm_itX11 tyX11 tyX11_ok cl_L_10 is_X11 in_X11 rfl rfl rfl (fun j => by unfold zm_rfA; simp [zm_ur, zm_rf0]) dv_X11 (Nat.le_of_ble_eq_true rfl) (Nat.le_of_ble_eq_true rfl) (fun N3 _ => ?_)
    refine zm_dup 12 rfl dL_law_11 rfl ?_
    refine zm_callI (w2 := zm_w 0) 15 102 34429 rfl rfl rfl dL_law_12 [] [.ref (E.2.1 + 52)] rfl il_L_12 rfl rfl rfl (Nat.le_of_ble_eq_true rfl) ⟨(Nat.le_of_ble_eq_true rfl), (Nat.le_of_ble_eq_true rfl)⟩ rfl rfl ⟨(Nat.le_of_ble_eq_true rfl), (Nat.le_of_ble_eq_true rfl)⟩ rfl (fun _ h => k_X11_init_52 E N3 h) (fun N4 => ?_)
    refine zm_astore_n (lv' := [(2, .ref (E.2.1 + 52)), (1, .ref (E.2.1 + 1)), (0, .ref b)]) 16 rfl dL_law_15 rfl (Nat.le_of_ble_eq_true rfl) rfl ?_
    refine zm_iconst 17 rfl dL_law_16 zi_0 ?_
    refine zm_istore_n (lv' := [(3, .int 0), (2, .ref (E.2.1 + 52)), (1, .ref (E.2.1 + 1)), (0, .ref b)]) 18 rfl dL_law_17 rfl (Nat.le_of_ble_eq_true rfl) rfl ?_
    exact kl_loop hX hbl hbE hE1 N4
  have hE0 : E.1 = l := by rw [hE]
  rw [← hE0]
  refine K ⟨hx, hb, hml, hown, fun w hw => hts w (List.mem_filter.mp hw).1, hr, hlocks, by rw [hE]; exact hK B ad, by rw [hE]; exact hZ D ca, rfl⟩ (fun _ => by show s.heap.size + 0 = _; omega) s.heap [] _ (fun k q h => by simp [zm_ws] at h) va_S.rf hl () N (by rw [hN]; rfl)
