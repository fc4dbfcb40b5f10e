/-! the class's operand -/
theorem c_exp41 {M M2 : zm_Mem} {T : Nat → Nat} {n0 t j cl : Nat} {c : zE} (f : Fp (pC t cl) M M2) (h : CS M2 t (tkF T n0) (tkE T n0) j (cl + c.length)) (hj : j ≤ tkE T n0) (h4 : iv_sc M2 t cl c) (hc : cl + c.length ≤ 408) : ∃ M', (zm_b2 (f_X2_expect 41 M2) fun _ M113 => some ((), M113)) = some ((), M') ∧ CR M t (tkF T n0) (tkE T n0) cl (if (tkF T n0 j).1 = 41 then gR j c else .inl (1, j)) M' := by
  have hlt := cs_num (T := T) (n := n0) (i := j)
  have h400 : j ≤ 400 := Nat.le_trans hj h.1.1
  have ee := c_expect (s := 41) h.1 h.2.1 h.2.2.1 hj h400 (by omega) (by omega)
  have ee' : f_X2_expect 41 M2 = some ((), if (tkF T n0 j).1 = 41 then tkN M2 j else zm_sI M2 8 5 (nI 1)) := ee
  rw [ee', zb2_some]
  by_cases h7 : (tkF T n0 j).1 = 41
  · rw [if_pos h7, if_pos h7]
    exact ⟨_, rfl, cr_tk h f h4 rfl hj (by omega) hc⟩
  · rw [if_neg h7, if_neg h7]
    exact ⟨_, rfl, fp_tr (fp_CF f) (fp_sI (Or.inr ⟨rfl, by omega, by omega⟩)), Or.inl ⟨1, j, rfl, cf_tk (k := 1) h hj hc (by omega)⟩⟩
theorem c_sumF0 {M : zm_Mem} {t e i k : Nat} {tk : Nat → zTk} {d : Nat} {a : Int32} (hd : 3 ≤ d) (h : CF M t tk e i k) : ∃ M', fr_X2_sum d 0 a M = some ((), M') ∧ CF M' t tk e i k ∧ Fp (pF t) M M' := by
  obtain ⟨M2, s1, s2, s3⟩ := c_sumsF (d := d - 3) (w := 0) (a := a) (by omega) h
  rw [show d - 3 + (3 - 0) = d by omega] at s1
  exact ⟨M2, s1, s2, s3⟩
theorem c_brk {T : Nat → Nat} {n0 t n : Nat} (ih : CSt T n0 t n 0) {a i d : Nat} {M : zm_Mem} {cl : Nat} (ha : a < 6) (hn : 6 * (401 - i) ≤ n) (hd : 3 * (6 - a) ≤ d) (hM : CS M t (tkF T n0) (tkE T n0) i cl) (hi : i ≤ tkE T n0) (hcl : cl ≤ 4 + i) (h5 : (tkF T n0 i).1 = 40) : ∃ M', (zm_b2 (f_X2_take M) fun _ M100 => zm_b2 (fr_X2_sum d 0 (nI (a + 1)) M100) fun _ M107 => zm_b2 (f_X2_expect 41 M107) fun _ M113 => some ((), M113)) = some ((), M') ∧ CR M t (tkF T n0) (tkE T n0) cl (bR (gR i []) (fun i1 _ => bR (pX (tkF T n0) n 0 (a + 1) i1) (fun j c => if (tkF T n0 j).1 = 41 then gR j c else .inl (1, j)))) M' := by
  have h400 : i ≤ 400 := Nat.le_trans hi hM.1.1
  have n0' : nd 0 = 3 := rfl
  have q0' : dq 0 = 3 := rfl
  have et : f_X2_take M = some ((), tkN M i) := c_take hM.2.1 hM.2.2.1 h400
  obtain ⟨g1, c1⟩ := cr_tk (c := []) hM (fp_rfl (pC t cl) M) sc_nil rfl hi (by omega) (by omega)
  rw [et, zb2_some]
  rcases c1 with ⟨k, j, r1, r2⟩ | ⟨j, c, r1, r2, r3, r4, r5⟩
  · obtain ⟨M2, s1, s2, s3⟩ := c_sumF0 (d := d) (a := nI (a + 1)) (by omega) r2
    rw [r1, s1, zb2_some, c_expectF s2.1 s2.2.1 (cf_ne s2) s2.2.2.2.2.2.2.1, zb2_some]
    exact ⟨M2, rfl, fp_tr g1 s3, Or.inl ⟨k, j, rfl, s2⟩⟩
  · obtain ⟨q1, q2, q3⟩ := gR_inr r1
    rw [q3] at r2
    rw [q2] at r2 r3
    obtain ⟨M2, e2, g2, c2⟩ := ih (a + 1) (i + 1) d 0 (tkN M i) cl (by omega) (by omega) (by omega) (by omega) r2 r3 (by omega)
    have e2' : fr_X2_sum d 0 (nI (a + 1)) (tkN M i) = some ((), M2) := e2
    have eB : bR (gR i []) (fun i1 _ => bR (pX (tkF T n0) n 0 (a + 1) i1) (fun j c => if (tkF T n0 j).1 = 41 then gR j c else .inl (1, j))) = bR (pX (tkF T n0) n 0 (a + 1) (i + 1)) (fun j c => if (tkF T n0 j).1 = 41 then gR j c else .inl (1, j)) := by rw [r1, q2]; rfl
    rw [eB, e2', zb2_some]
    rcases c2 with ⟨k, j', r1', r2'⟩ | ⟨j', c', r1', r2', r3', r4', r5'⟩
    · rw [r1', c_expectF r2'.1 r2'.2.1 (cf_ne r2') r2'.2.2.2.2.2.2.1, zb2_some]
      exact ⟨M2, rfl, fp_tr g1 g2, Or.inl ⟨k, j', rfl, r2'⟩⟩
    · obtain ⟨p1, p2, p3, p4, _, _⟩ := pX_pr n 0 (a + 1) (i + 1) j' c' (by omega) (by omega) r1'
      rw [r1']
      have hle : cl + c'.length ≤ 408 := by omega
      exact c_exp41 (c := c') (fp_tr r5 r5') r2' r3' r4' hle
theorem c_s2 {T : Nat → Nat} {n0 t n : Nat} (ih : ∀ w, w ≤ 4 → CSt T n0 t n w) : CSt T n0 t (n + 1) 2 := by
  intro a i dp l M cl ha hn hd hl hM hi hcl
  have h400 : i ≤ 400 := Nat.le_trans hi hM.1.1
  have hT := cs_isT hM
  have ht := hM.2.2.2.2.1
  have n2' : nd 2 = 1 := rfl
  have q2' : dq 2 = 1 := rfl
  have E : cXf dp 2 a l M = f_X2_unit (fr_X2_sum (dp - 1)) (nI a) M := by
    show fr_X2_sum dp 2 (nI a) M = _
    rw [show dp = dp - 1 + 1 by omega, fr_2, Nat.add_sub_cancel]
  have hlt := cs_num (T := T) (n := n0) (i := i)
  rw [E, pX_2]
  by_cases h3 : (tkF T n0 i).1 = 3
  · have := (tkF_ok (T := T) (n := n0) (i := i)).2.2.2
    have cc : iv_sc (putM M t cl (nI 0) (nI (tkF T n0 i).2.2.2)) t cl [(0, (tkF T n0 i).2.2.2)] := put_c (a := 0) (by omega) (by omega)
    rw [if_pos h3, c_unitO hM hi (by omega) (Or.inl h3), if_pos h3]
    exact ⟨_, rfl, cr_tk (cs_put hM) (fp_PC fp_put) cc rfl hi (by omega) (by omega)⟩
  rw [if_neg h3]
  by_cases h4 : 267 ≤ (tkF T n0 i).1
  · have cc : iv_sc (putM M t cl (nI 1) (nI ((tkF T n0 i).1 - 267))) t cl [(1, (tkF T n0 i).1 - 267)] := put_c (a := 1) (by omega) (by omega)
    rw [if_pos h4, c_unitO hM hi (by omega) (Or.inr h4), if_neg h3]
    exact ⟨_, rfl, cr_tk (cs_put hM) (fp_PC fp_put) cc rfl hi (by omega) (by omega)⟩
  rw [if_neg h4]
  have es := c_sortI hM.1 hM.2.1 hi
  unfold f_X2_unit
  rw [es, zb1_some, if_neg (show ¬ nI (tkF T n0 i).1 = (3 : Int32) from fun z => h3 ((nI_eq (b := 3) (by omega) (by omega)).1 z)), if_pos (show nI (tkF T n0 i).1 < (267 : Int32) from nI_lt (b := 267) (by omega) (by omega)), if_pos hM.2.2.1]
  by_cases h5 : (tkF T n0 i).1 = 40
  · rw [if_pos h5, if_pos (show nI (tkF T n0 i).1 = (40 : Int32) by rw [h5]; rfl)]
    by_cases h6 : 6 ≤ a
    · rw [if_pos h6, if_neg (show ¬ nI a < (6 : Int32) from nI_nlt (b := 6) h6 (by omega)), c_fail, if_pos hM.2.2.1, zb2_some]
      exact ⟨_, rfl, fp_sI (Or.inr ⟨rfl, by omega, by omega⟩), Or.inl ⟨2, i, rfl, cf_tk (k := 2) hM hi (by omega) (by omega)⟩⟩
    · rw [if_neg h6, if_pos (show nI a < (6 : Int32) from nI_lt (b := 6) (by omega) (by omega)), nI_k1]
      exact c_brk (ih 0 (by omega)) (by omega) (by omega) (by omega) hM hi hcl h5
  · rw [if_neg h5, if_neg (show ¬ nI (tkF T n0 i).1 = (40 : Int32) from fun z => h5 ((nI_eq (b := 40) (by omega) (by omega)).1 z)), c_fail, if_pos hM.2.2.1, zb2_some]
    exact ⟨_, rfl, fp_sI (Or.inr ⟨rfl, by omega, by omega⟩), Or.inl ⟨1, i, rfl, cf_tk (k := 1) hM hi (by omega) (by omega)⟩⟩
theorem c_sums {T : Nat → Nat} {n0 t : Nat} : ∀ n w, w ≤ 4 → CSt T n0 t n w
  | 0, w, hw => fun a i dp l M cl ha hn hd hl hM hi hcl => by
    have h1 : i ≤ 400 := Nat.le_trans hi hM.1.1
    exfalso; omega
  | n + 1, w, hw => by
    have ih := c_sums (T := T) (n0 := n0) (t := t) n
    rcases (show w = 0 ∨ w = 1 ∨ w = 2 ∨ w = 3 ∨ w = 4 by omega) with rfl | rfl | rfl | rfl | rfl
    · exact c_s0 ih
    · exact c_s1 ih
    · exact c_s2 ih
    · exact c_s3 ih
    · exact c_s4 ih
