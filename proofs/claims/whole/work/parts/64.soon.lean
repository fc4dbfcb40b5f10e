/-! digits of a number -/
theorem dig_lo {B d W r w : Nat} (hB : 0 < B) (h : w < W) : (d * B ^ W + r) / B ^ w % B = r / B ^ w % B := by
  obtain ⟨k, rfl⟩ := Nat.exists_eq_add_of_le (show w + 1 ≤ W from h)
  have e : d * B ^ (w + 1 + k) + r = r + B ^ w * (B * (d * B ^ k)) := by
    rw [Nat.add_comm, Nat.pow_add, Nat.pow_succ]
    congr 1
    rw [Nat.mul_comm d, Nat.mul_assoc, Nat.mul_assoc, Nat.mul_comm d]
  rw [e, Nat.add_mul_div_left _ _ (Nat.pow_pos hB), Nat.add_mul_mod_self_left]
theorem dig_hi {B d W r : Nat} (hB : 0 < B) (h : r < B ^ W) : (d * B ^ W + r) / B ^ W = d := by
  rw [Nat.add_comm, Nat.add_mul_div_right _ _ (Nat.pow_pos hB), Nat.div_eq_of_lt h, Nat.zero_add]
theorem dig_lt {B d W r : Nat} (hd : d < B) (h : r < B ^ W) : d * B ^ W + r < B ^ (W + 1) := by
  rw [Nat.pow_succ, Nat.mul_comm _ B]
  have : (d + 1) * B ^ W ≤ B * B ^ W := Nat.mul_le_mul_right _ hd
  rw [Nat.add_mul, Nat.one_mul] at this
  omega
/-! couriers -/
def shr (co : Nat) : List Nat → Nat → Nat → Nat → Nat
  | [], a, b, c => max a (max b c)
  | t :: l, a, b, c => if co ≤ 2 then (if co ≤ 1 then shr co l (a + t) b c else min (shr co l (a + t) b c) (shr co l a (b + t) c)) else min (if co ≤ 1 then shr co l (a + t) b c else min (shr co l (a + t) b c) (shr co l a (b + t) c)) (shr co l a b (c + t))
theorem shr_0 (co : Nat) (l : List Nat) (a b c : Nat) : shr co (0 :: l) a b c = shr co l a b c := by
  conv => lhs; unfold shr
  simp only [Nat.add_zero, Nat.min_self, ite_self]
theorem zmin_nI {a b : Nat} (ha : a < 2 ^ 31) (hb : b < 2 ^ 31) : zm_min (nI a) (nI b) = nI (min a b) := by
  unfold zm_min
  by_cases h : b < a
  · rw [if_pos (nI_lt h ha), Nat.min_eq_right (by omega)]
  · rw [if_neg (nI_nlt (by omega) hb), Nat.min_eq_left (by omega)]
theorem zmax_nI {a b : Nat} (ha : a < 2 ^ 31) (hb : b < 2 ^ 31) : zm_max (nI a) (nI b) = nI (max a b) := by
  unfold zm_max
  by_cases h : a < b
  · rw [if_pos (nI_lt h hb), Nat.max_eq_right (by omega)]
  · rw [if_neg (nI_nlt (by omega) ha), Nat.max_eq_left (by omega)]
theorem shr_le (co : Nat) : ∀ (l : List Nat) (a b c K : Nat), (∀ t ∈ l, t ≤ 99) → a + b + c + 99 * l.length ≤ K → shr co l a b c ≤ K
  | [], a, b, c, K, _, h => by
    simp only [List.length_nil] at h
    unfold shr; omega
  | t :: l, a, b, c, K, ht, h => by
    have ht0 := ht t (List.mem_cons_self ..)
    simp only [List.length_cons] at h
    have ih := shr_le co l (a + t) b c K (fun x hx => ht x (List.mem_cons_of_mem _ hx)) (by omega)
    unfold shr
    split
    · split
      · exact ih
      · omega
    · split
      · omega
      · omega
theorem c_share {M : zm_Mem} {t v n : Nat} {D : zD} {S : Nat → Nat} (hC : Cx M t v D S n) : ∀ (l : List Nat) (dp a b c : Nat), l.length < dp → l.length ≤ 6 → (∀ x ∈ l, x ≤ 99) → a + b + c + 99 * l.length ≤ 10000 → Stk (M.1 24) (l.map nI) → fr_X10_shareOut dp 0 (nI l.length - 1) (nI a) (nI b) (nI c) M = some (nI (shr (D.1 0 4) l a b c)) := by
  have ht := hC.2.1
  have hT := hC.2.2.1
  have hR := hC.2.2.2
  have bI := cx_isT hC
  have bv := tT_v hT
  have bh := tT_bh hT
  have bw := tT_bw hT
  have bk := tT_bk hT
  have bco := tT_bco hT
  intro l
  induction l with
  | nil =>
    intro dp a b c h1 h2 h3 h4 h5
    obtain ⟨d, rfl⟩ : ∃ d, dp = d + 1 := ⟨dp - 1, by simp only [List.length_nil] at h1; omega⟩
    unfold fr_X10_shareOut f_X10_shareOut f_X10_shareOut_b10
    simp only [List.length_nil] at h4
    rw [if_pos (show nI ([] : List Nat).length - 1 < 0 by decide), zmax_nI (by omega) (by omega), zmax_nI (by omega) (by omega)]
    rfl
  | cons x l ih =>
    intro dp a b c h1 h2 h3 h4 h5
    obtain ⟨d, rfl⟩ : ∃ d, dp = d + 1 := ⟨dp - 1, by omega⟩
    simp only [List.length_cons] at h1 h2 h4
    have hx := h3 x (List.mem_cons_self ..)
    have hl : ∀ y ∈ l, y ≤ 99 := fun y hy => h3 y (List.mem_cons_of_mem _ hy)
    obtain ⟨s1, s2⟩ := h5
    simp only [List.length_map] at s1
    have i1 := ih d (a + x) b c (by omega) (by omega) hl (by omega) s2
    have i2 := ih d a (b + x) c (by omega) (by omega) hl (by omega) s2
    have i3 := ih d a b (c + x) (by omega) (by omega) hl (by omega) s2
    have b1 := shr_le (D.1 0 4) l (a + x) b c 10000 hl (by omega)
    have b2 := shr_le (D.1 0 4) l a (b + x) c 10000 hl (by omega)
    have b3 := shr_le (D.1 0 4) l a b (c + x) 10000 hl (by omega)
    have e0 : nI (x :: l).length - 1 = nI l.length := nI_pred l.length
    have hm : min (shr (D.1 0 4) l (a + x) b c) (shr (D.1 0 4) l a (b + x) c) ≤ 10000 := by omega
    unfold fr_X10_shareOut f_X10_shareOut f_X10_shareOut_b77
    rw [e0, if_neg (nI_pos (by omega)), if_pos (show nI l.length < 6 from nI_lt (b := 6) (by omega) (by omega)), zm_ck_t (zm_in_nI (by omega) (by omega)), nI_clamp (by omega), s1]
    simp only [zv_eq]
    rw [ht, bI, nI_add, nI_add, nI_add, i1, zb1_some, zk_true, tT_co hT]
    have ec1 : (nI (D.1 0 4) ≤ (1 : Int32)) ↔ D.1 0 4 ≤ 1 := nI_leI (b := 1) (by omega) (by omega)
    have ec2 : (nI (D.1 0 4) ≤ (2 : Int32)) ↔ D.1 0 4 ≤ 2 := nI_leI (b := 2) (by omega) (by omega)
    have es : shr (D.1 0 4) (x :: l) a b c = if D.1 0 4 ≤ 2 then (if D.1 0 4 ≤ 1 then shr (D.1 0 4) l (a + x) b c else min (shr (D.1 0 4) l (a + x) b c) (shr (D.1 0 4) l a (b + x) c)) else min (if D.1 0 4 ≤ 1 then shr (D.1 0 4) l (a + x) b c else min (shr (D.1 0 4) l (a + x) b c) (shr (D.1 0 4) l a (b + x) c)) (shr (D.1 0 4) l a b (c + x)) := rfl
    rw [es]
    by_cases c1 : D.1 0 4 ≤ 1
    · rw [if_pos (ec1.2 c1), zk_true, if_pos (ec2.2 (by omega)), if_pos (by omega), if_pos c1]
    · rw [if_neg (fun z => c1 (ec1.1 z)), i2, zb1_some, zmin_nI (by omega) (by omega), zk_true]
      by_cases c2 : D.1 0 4 ≤ 2
      · rw [if_pos (ec2.2 c2), if_pos c2, if_neg c1]
      · rw [if_neg (fun z => c2 (ec2.1 z)), i3, zb1_some, zmin_nI (by omega) (by omega), if_neg c2, if_neg c1]
def tpn (D : zD) (vs : Nat → Int32) : Nat := (tp D vs).toNatClampNeg
theorem tpn_eq (D : zD) (vs : Nat → Int32) : tp D vs = nI (tpn D vs) ∧ 1 ≤ tpn D vs ∧ tpn D vs ≤ 99 := by
  obtain ⟨y, h1, h2, e⟩ := tp_nat D vs
  unfold tpn
  rw [e, nI_clamp (by omega)]
  exact ⟨rfl, h1, h2⟩
/-- how long a work has to go home -/
def toGo (D : zD) (dy : Nat) (g : Nat → Nat) (w : Nat) : Nat := if g w = D.1 3 w then 0 else tpn D (vr D w (D.1 3 w) 0 0 dy)
theorem toGo_le (D : zD) (dy : Nat) (g : Nat → Nat) (w : Nat) : toGo D dy g w ≤ 99 := by
  have := (tpn_eq D (vr D w (D.1 3 w) 0 0 dy)).2.2
  unfold toGo
  split <;> omega
def lgR (D : zD) (dy : Nat) (g : Nat → Nat) : Nat → List Nat
  | 0 => []
  | i + 1 => if g i = D.1 3 i then lgR D dy g i else toGo D dy g i :: lgR D dy g i
def tlF (T : Nat → Nat) : Nat → List Nat
  | 0 => []
  | i + 1 => T i :: tlF T i
theorem lgR_len (D : zD) (dy : Nat) (g : Nat → Nat) : ∀ i, (lgR D dy g i).length ≤ i
  | 0 => Nat.le_refl _
  | i + 1 => by
    have := lgR_len D dy g i
    unfold lgR
    split
    · omega
    · simp only [List.length_cons]; omega
theorem lgR_le (D : zD) (dy : Nat) (g : Nat → Nat) : ∀ i, ∀ x ∈ lgR D dy g i, x ≤ 99
  | 0, x, hx => by cases hx
  | i + 1, x, hx => by
    unfold lgR at hx
    split at hx
    · exact lgR_le D dy g i x hx
    · rcases List.mem_cons.1 hx with rfl | hx
      · exact toGo_le D dy g i
      · exact lgR_le D dy g i x hx
theorem shr_lg (co : Nat) (D : zD) (dy : Nat) (g : Nat → Nat) : ∀ i a b c, shr co (lgR D dy g i) a b c = shr co (tlF (toGo D dy g) i) a b c
  | 0, _, _, _ => rfl
  | i + 1, a, b, c => by
    have ih := shr_lg co D dy g i
    unfold lgR tlF
    by_cases h : g i = D.1 3 i
    · rw [if_pos h, show toGo D dy g i = 0 from if_pos h, shr_0]; exact ih a b c
    · rw [if_neg h]
      unfold shr
      simp only [ih]
/-- loads by a way -/
def ldF (T : Nat → Nat) (way c i : Nat) : Nat := sumOf (fun w => if way / 3 ^ w % 3 = c then T w else 0) i
theorem ld_split (T : Nat → Nat) {d W r : Nat} (hd : d < 3) (hr : r < 3 ^ W) (c : Nat) : ldF T (d * 3 ^ W + r) c (W + 1) = ldF T r c W + (if d = c then T W else 0) := by
  have e : ldF T (d * 3 ^ W + r) c (W + 1) = sumOf (fun w => if (d * 3 ^ W + r) / 3 ^ w % 3 = c then T w else 0) W + (if (d * 3 ^ W + r) / 3 ^ W % 3 = c then T W else 0) := rfl
  rw [e, dig_hi (by omega) hr, Nat.mod_eq_of_lt hd]
  congr 1
  exact sumOf_congr (fun w hw => by rw [dig_lo (by omega) hw])
theorem way_split {B W way : Nat} (hB : 0 < B) (h : way < B ^ (W + 1)) : ∃ d r, d < B ∧ r < B ^ W ∧ way = d * B ^ W + r := by
  have hp : 0 < B ^ W := Nat.pow_pos hB
  refine ⟨way / B ^ W, way % B ^ W, ?_, Nat.mod_lt _ hp, ?_⟩
  · rw [Nat.div_lt_iff_lt_mul hp]
    rw [Nat.pow_succ, Nat.mul_comm] at h
    exact h
  · have := Nat.div_add_mod way (B ^ W)
    rw [Nat.mul_comm] at this
    omega
theorem shr_ex (co : Nat) (T : Nat → Nat) : ∀ W a b c, ∃ way, way < 3 ^ W ∧ (co ≤ 1 → ldF T way 1 W = 0) ∧ (co ≤ 2 → ldF T way 2 W = 0) ∧ max (a + ldF T way 0 W) (max (b + ldF T way 1 W) (c + ldF T way 2 W)) = shr co (tlF T W) a b c
  | 0, a, b, c => ⟨0, by decide, fun _ => rfl, fun _ => rfl, rfl⟩
  | W + 1, a, b, c => by
    obtain ⟨w0, k0, u0, v0, e0⟩ := shr_ex co T W (a + T W) b c
    obtain ⟨w1, k1, u1, v1, e1⟩ := shr_ex co T W a (b + T W) c
    obtain ⟨w2, k2, u2, v2, e2⟩ := shr_ex co T W a b (c + T W)
    have es : shr co (tlF T (W + 1)) a b c = if co ≤ 2 then (if co ≤ 1 then shr co (tlF T W) (a + T W) b c else min (shr co (tlF T W) (a + T W) b c) (shr co (tlF T W) a (b + T W) c)) else min (if co ≤ 1 then shr co (tlF T W) (a + T W) b c else min (shr co (tlF T W) (a + T W) b c) (shr co (tlF T W) a (b + T W) c)) (shr co (tlF T W) a b (c + T W)) := rfl
    have f0 : ∀ (m : Nat), m = shr co (tlF T W) (a + T W) b c → ∃ way, way < 3 ^ (W + 1) ∧ (co ≤ 1 → ldF T way 1 (W + 1) = 0) ∧ (co ≤ 2 → ldF T way 2 (W + 1) = 0) ∧ max (a + ldF T way 0 (W + 1)) (max (b + ldF T way 1 (W + 1)) (c + ldF T way 2 (W + 1))) = m := by
      intro m hm
      refine ⟨0 * 3 ^ W + w0, dig_lt (by omega) k0, ?_⟩
      rw [ld_split T (by omega) k0, ld_split T (by omega) k0, ld_split T (by omega) k0, if_pos rfl, if_neg (by omega), if_neg (by omega), hm, ← e0]
      refine ⟨fun h => by rw [u0 h], fun h => by rw [v0 h], ?_⟩
      rw [Nat.add_zero, Nat.add_zero, Nat.add_comm (ldF T w0 0 W), Nat.add_assoc]
    have f1 : 2 ≤ co → ∀ (m : Nat), m = shr co (tlF T W) a (b + T W) c → ∃ way, way < 3 ^ (W + 1) ∧ (co ≤ 1 → ldF T way 1 (W + 1) = 0) ∧ (co ≤ 2 → ldF T way 2 (W + 1) = 0) ∧ max (a + ldF T way 0 (W + 1)) (max (b + ldF T way 1 (W + 1)) (c + ldF T way 2 (W + 1))) = m := by
      intro hco m hm
      refine ⟨1 * 3 ^ W + w1, dig_lt (by omega) k1, ?_⟩
      rw [ld_split T (by omega) k1, ld_split T (by omega) k1, ld_split T (by omega) k1, if_pos rfl, if_neg (by omega), if_neg (by omega), hm, ← e1]
      refine ⟨fun h => by omega, fun h => by rw [v1 h], ?_⟩
      rw [Nat.add_zero, Nat.add_zero, Nat.add_comm (ldF T w1 1 W), Nat.add_assoc]
    have f2 : 3 ≤ co → ∀ (m : Nat), m = shr co (tlF T W) a b (c + T W) → ∃ way, way < 3 ^ (W + 1) ∧ (co ≤ 1 → ldF T way 1 (W + 1) = 0) ∧ (co ≤ 2 → ldF T way 2 (W + 1) = 0) ∧ max (a + ldF T way 0 (W + 1)) (max (b + ldF T way 1 (W + 1)) (c + ldF T way 2 (W + 1))) = m := by
      intro hco m hm
      refine ⟨2 * 3 ^ W + w2, dig_lt (by omega) k2, ?_⟩
      rw [ld_split T (by omega) k2, ld_split T (by omega) k2, ld_split T (by omega) k2, if_pos rfl, if_neg (by omega), if_neg (by omega), hm, ← e2]
      refine ⟨fun h => by omega, fun h => by omega, ?_⟩
      rw [Nat.add_zero, Nat.add_zero, Nat.add_comm (ldF T w2 2 W), Nat.add_assoc]
    rw [es]
    by_cases c1 : co ≤ 1
    · rw [if_pos (by omega), if_pos c1]; exact f0 _ rfl
    · rw [if_neg c1]
      have h2 := f1 (by omega) _ rfl
      have h12 : ∃ way, way < 3 ^ (W + 1) ∧ (co ≤ 1 → ldF T way 1 (W + 1) = 0) ∧ (co ≤ 2 → ldF T way 2 (W + 1) = 0) ∧ max (a + ldF T way 0 (W + 1)) (max (b + ldF T way 1 (W + 1)) (c + ldF T way 2 (W + 1))) = min (shr co (tlF T W) (a + T W) b c) (shr co (tlF T W) a (b + T W) c) := by
        rcases Nat.le_total (shr co (tlF T W) (a + T W) b c) (shr co (tlF T W) a (b + T W) c) with h | h
        · rw [Nat.min_eq_left h]; exact f0 _ rfl
        · rw [Nat.min_eq_right h]; exact h2
      by_cases c2 : co ≤ 2
      · rw [if_pos c2]; exact h12
      · rw [if_neg c2]
        rcases Nat.le_total (min (shr co (tlF T W) (a + T W) b c) (shr co (tlF T W) a (b + T W) c)) (shr co (tlF T W) a b (c + T W)) with h | h
        · rw [Nat.min_eq_left h]; exact h12
        · rw [Nat.min_eq_right h]; exact f2 (by omega) _ rfl
theorem shr_lb (co : Nat) (T : Nat → Nat) : ∀ W a b c way, way < 3 ^ W → (co ≤ 1 → ldF T way 1 W = 0) → (co ≤ 2 → ldF T way 2 W = 0) → shr co (tlF T W) a b c ≤ max (a + ldF T way 0 W) (max (b + ldF T way 1 W) (c + ldF T way 2 W))
  | 0, a, b, c, way, _, _, _ => Nat.le_refl _
  | W + 1, a, b, c, way, hw, h1, h2 => by
    obtain ⟨d, r, hd, hr, rfl⟩ := way_split (by omega) hw
    have es : shr co (tlF T (W + 1)) a b c = if co ≤ 2 then (if co ≤ 1 then shr co (tlF T W) (a + T W) b c else min (shr co (tlF T W) (a + T W) b c) (shr co (tlF T W) a (b + T W) c)) else min (if co ≤ 1 then shr co (tlF T W) (a + T W) b c else min (shr co (tlF T W) (a + T W) b c) (shr co (tlF T W) a (b + T W) c)) (shr co (tlF T W) a b (c + T W)) := rfl
    rw [ld_split T hd hr] at h1 h2
    rw [ld_split T hd hr, ld_split T hd hr, ld_split T hd hr]
    have g0 : shr co (tlF T (W + 1)) a b c ≤ shr co (tlF T W) (a + T W) b c := by
      rw [es]; split
      · split <;> omega
      · split <;> omega
    have g1 : 2 ≤ co → shr co (tlF T (W + 1)) a b c ≤ shr co (tlF T W) a (b + T W) c := by
      intro hco
      rw [es]; split
      · split <;> omega
      · split <;> omega
    have g2 : 3 ≤ co → shr co (tlF T (W + 1)) a b c ≤ shr co (tlF T W) a b (c + T W) := by
      intro hco
      rw [es]; split <;> omega
    rcases (show d = 0 ∨ d = 1 ∨ d = 2 by omega) with rfl | rfl | rfl
    · rw [if_neg (by omega)] at h1 h2
      rw [if_pos rfl, if_neg (by omega), if_neg (by omega)]
      have ih := shr_lb co T W (a + T W) b c r hr h1 h2
      omega
    · rw [if_pos rfl] at h1
      rw [if_neg (by omega)] at h2
      rw [if_neg (by omega), if_pos rfl, if_neg (by omega)]
      by_cases hco : 2 ≤ co
      · have ih := shr_lb co T W a (b + T W) c r hr (fun z => by omega) h2
        have := g1 hco
        omega
      · have hz := h1 (by omega)
        have ih := shr_lb co T W (a + T W) b c r hr (fun z => by omega) h2
        omega
    · rw [if_pos rfl] at h2
      rw [if_neg (by omega)] at h1
      rw [if_neg (by omega), if_neg (by omega), if_pos rfl]
      by_cases hco : 3 ≤ co
      · have ih := shr_lb co T W a b (c + T W) r hr (fun z => by omega) (fun z => by omega)
        have := g2 hco
        omega
      · have hz := h2 (by omega)
        have ih := shr_lb co T W (a + T W) b c r hr h1 (fun z => by omega)
        omega
