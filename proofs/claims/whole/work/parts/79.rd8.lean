/-! the reference's sums as a machine: A: an operand is awaited, B: one is done -/
noncomputable def KX (x9 : Int32) : zm_Mem ⊕ zm_Mem ⊕ zm_Mem → Option (Unit × zm_Mem) := Sum.elim (fun e95 => some ((), e95)) (Sum.elim (fun e191 => f_X11_expression_x191_12 x9 e191) (fun e272 => some ((), e272)))
noncomputable def rxL (x9 : Int32) (s : Int32 × zm_Mem) : Option (Unit × zm_Mem) := (zm_lp (fun s => f_X11_expression_l12 x9 s.1 s.2) s).bind (KX x9)
noncomputable def rxC (x9 : Int32) (r : Option ((Int32 × zm_Mem) ⊕ (zm_Mem ⊕ zm_Mem ⊕ zm_Mem))) : Option (Unit × zm_Mem) := r.bind (fun x => x.elim (rxL x9) (KX x9))
theorem rxL_eq (x9 a : Int32) (M : zm_Mem) : rxL x9 (a, M) = rxC x9 (f_X11_expression_l12 x9 a M) := by
  unfold rxL rxC
  rw [zm_lp_eq, Option.bind_assoc]
  show (f_X11_expression_l12 x9 a M).bind _ = _
  cases f_X11_expression_l12 x9 a M with
  | none => rfl
  | some x =>
    cases x with
    | inl s => rfl
    | inr e => rfl
noncomputable def RunA (x9 : Int32) (M : zm_Mem) : Option (Unit × zm_Mem) := rxC x9 ((zm_lp f_X11_expression_l23_12 M).bind (fun e84 => f_X11_expression_x84_23_12 x9 e84))
noncomputable def RunB (x9 : Int32) (M : zm_Mem) : Option (Unit × zm_Mem) := rxC x9 ((zm_lp (f_X11_expression_l96_12 x9) M).bind (fun e145 => f_X11_expression_b145_12 e145))
theorem rx_1 {x9 : Int32} {M : zm_Mem} (h : M.1 52 13 = 0) : rxL x9 (1, M) = RunA x9 M := by
  rw [rxL_eq]
  unfold f_X11_expression_l12 RunA
  rw [if_neg (by decide), if_pos h]
theorem rx_1f {x9 : Int32} {M : zm_Mem} (h : M.1 52 13 ≠ 0) : rxL x9 (1, M) = some ((), M) := by
  rw [rxL_eq]
  unfold f_X11_expression_l12
  rw [if_neg (by decide), if_neg h]; rfl
theorem rx_begin {M : zm_Mem} {d : Int32} (h : M.1 52 13 = 0) (hd : M.1 52 12 = d) : f_X11_expression M = RunA d (zm_sI M 52 52 0) := by
  have e12 : (zm_sI M 52 52 0).1 52 12 = d := by rw [mI1, if_neg (by omega)]; exact hd
  have e13 : (zm_sI M 52 52 0).1 52 13 = 0 := by rw [mI1, if_neg (by omega)]; exact h
  rw [← rx_1 e13]
  unfold f_X11_expression rxL
  simp only [zv_eq]
  rw [e12]; rfl
theorem rx_open {x9 : Int32} {M M' : zm_Mem} (h : f_X11_expression_l23_12 M = some (.inl M')) : RunA x9 M = RunA x9 M' := by
  unfold RunA
  rw [lp_go h]
theorem rx_unit {x9 : Int32} {M M' : zm_Mem} (h : f_X11_is 6 M = some 0) (hu : f_X11_unit M = some ((), M')) : RunA x9 M = if M'.1 52 13 ≤ 0 then RunB x9 M' else some ((), M') := by
  have e : f_X11_expression_l23_12 M = some (.inr M) := by
    unfold f_X11_expression_l23_12
    rw [h, zb1_some, if_pos rfl]
  unfold RunA RunB
  rw [lp_end e]
  simp only [Option.bind_some]
  unfold f_X11_expression_x84_23_12
  rw [hu, zb2_some]
  split <;> rfl
theorem rx_close {x9 : Int32} {M M' : zm_Mem} (h : f_X11_expression_l96_12 x9 M = some (.inl M')) : RunB x9 M = RunB x9 M' := by
  unfold RunB
  rw [lp_go h]
theorem rx_op {x9 : Int32} {M M' : zm_Mem} (h : f_X11_expression_l96_12 x9 M = some (.inr M)) (hb : f_X11_expression_b145_12 M = some (.inl (1, M'))) : RunB x9 M = if M'.1 52 13 = 0 then RunA x9 M' else some ((), M') := by
  unfold RunB
  rw [lp_end h]
  simp only [Option.bind_some]
  rw [hb]
  show rxL x9 (1, M') = _
  by_cases h0 : M'.1 52 13 = 0
  · rw [if_pos h0, rx_1 h0]
  · rw [if_neg h0, rx_1f h0]
theorem rx_end {x9 : Int32} {M : zm_Mem} (h : f_X11_expression_l96_12 x9 M = some (.inr M)) (hb : f_X11_expression_b145_12 M = some (.inr (.inr (.inl M)))) : RunB x9 M = f_X11_expression_x191_12 x9 M := by
  unfold RunB
  rw [lp_end h]
  simp only [Option.bind_some]
  rw [hb]; rfl
