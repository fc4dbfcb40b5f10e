/-! what was told anew -/
def toD (Q : zQ) : zD := (fun a j => if a = 0 then (if j = 0 then Q.1.length else if j = 1 then Q.2.1.length else if j = 2 then Q.2.2.1.length else if j = 3 then Q.2.2.2.1.1 else if j = 4 then Q.2.2.2.1.2.1 else Q.2.2.2.1.2.2) else if a = 1 then (Q.1.getD j ([], 0, 0)).2.1 else if a = 2 then (Q.1.getD j ([], 0, 0)).2.2 else if a = 3 then (Q.2.1.getD j ([], 0, 0, 0, 0)).2.1 else if a = 4 then (Q.2.1.getD j ([], 0, 0, 0, 0)).2.2.1 else if a = 5 then (Q.2.1.getD j ([], 0, 0, 0, 0)).2.2.2.1 else if a = 6 then (Q.2.1.getD j ([], 0, 0, 0, 0)).2.2.2.2 else (Q.2.2.1.getD j (0, [], [])).1, fun j => (Q.2.2.1.getD j (0, [], [])).2, fun s => if s = 0 then Q.2.2.2.2.1 else Q.2.2.2.2.2)
theorem gd_get {α : Type} {l : List α} {j : Nat} {d : α} (h : j < l.length) : l[j]? = some (l.getD j d) := by
  rw [List.getD_eq_getElem?_getD, List.getElem?_eq_getElem h]; rfl
theorem law_of {M : zm_Mem} {t v cl k nb s i : Nat} {d : zE} {L : zB × zE} (hv : v ≤ 1) (hc : clw M t cl s L) (hr : rlw M v k nb i d L) (hcl : cl ≤ 408) (h10 : M.1 t 10 = nI cl) (hk : k ≤ 420 * v + 420) (hb : nb ≤ 130) (hp : L.1.length ≤ 4 ∧ exB L.1 ∧ iv_ex L.2) : iv_law M t v s i d L.1 L.2 := by
  obtain ⟨a, a1, a2, a3⟩ := hc
  refine ⟨a, a1, hp.1, hp.2.1, hp.2.2, a2, ⟨cl, hcl, h10, a3⟩, ?_⟩
  rcases hr with r | ⟨f, c, b1, b2, b3, b4, b5, b6, b7, b8, b9, b10, b11⟩
  · exact Or.inl r
  · refine Or.inr ⟨f, c, by omega, b3, b4, fun j x hx => ?_, b6, b7, b8, b9, by omega, ⟨b1, by omega⟩, ⟨b10, by omega⟩, fun j x hx => ?_⟩
    · obtain ⟨c', d1, d2, d3, d4, d5, d6, d7, d8, d9, d10⟩ := b5 j x hx
      exact ⟨c', d1, d2, d3, d4, d5, d6, d7, d8, by omega⟩
    · obtain ⟨c', d1, d2, d3, d4, d5, d6, d7, d8, d9, d10⟩ := b5 j x hx
      exact ⟨c', d2, d9, by omega⟩
theorem iT_new {T : Nat → Nat} {n t v cl k nb i i' : Nat} {M M' F : zm_Mem} {Q : zQ} {en : List (Nat × Nat × List Nat)} (hC : CL T n M t cl i none Q) (hR : RLs T n M' v k nb i' none Q en) (hi' : i' ≤ 400) (hP : PQ none Q) (h1 : ∀ x j, t ≤ x → x ≤ t + 10 → F.1 x j = M.1 x j) (h2 : ∀ x j, 63 ≤ x → x ≤ 87 → F.1 x j = M'.1 x j) (h18 : F.1 52 18 = nI v) : iv_T F t v (toD Q) := by
  obtain ⟨hZ, hcl, ⟨h11, b11⟩, ⟨h12, b12⟩, ⟨h13, b13⟩, c9, c10, hD⟩ := hC
  obtain ⟨hZ', ⟨h19, hv⟩, ⟨h48, k1, k2⟩, ⟨h42, hb⟩, ⟨h63, b63⟩, ⟨h66, b66⟩, ⟨h71, b71⟩, hE, hQ, hel, hD'⟩ := hR
  obtain ⟨p1, p2, p3, p4, p5, ⟨p6, p7, p8'⟩, p9, p10⟩ := hP rfl
  obtain ⟨z1, z2, z3, z4⟩ := cz_r hZ
  have C := cdt_x (M' := F) (cl' := cl) (hD rfl) (fun x j a b _ => h1 x j (by omega) (by omega)) (fun x j a b _ => h1 x j (by omega) (by omega)) (fun x j a b _ => h1 x j (by omega) (by omega)) (fun j a b => h1 t j (by omega) (by omega)) (fun j _ => h1 (t + 10) j (by omega) (by omega)) (Nat.le_refl _)
  have R := rdt_x (N' := F) (k' := k) (nb' := nb) (hD' rfl) (fun x j hp => h2 x j (by
    rcases hp with ⟨a, b, c⟩ | ⟨a, b, c, d⟩ | ⟨a, b, c, d⟩ | ⟨a, b, c⟩ | ⟨a, b, c⟩ | ⟨a, b, c, d⟩ | ⟨a, b, c⟩ <;> omega) (by
    rcases hp with ⟨a, b, c⟩ | ⟨a, b, c, d⟩ | ⟨a, b, c, d⟩ | ⟨a, b, c⟩ | ⟨a, b, c⟩ | ⟨a, b, c, d⟩ | ⟨a, b, c⟩ <;> omega)) (Nat.le_refl _) (Nat.le_refl _)
  obtain ⟨q1, q2, q3, ⟨q4, q5, q6⟩, q7, q8⟩ := C
  obtain ⟨r1, r2, r3, ⟨r4, r5, r6⟩, r7, r8⟩ := R
  have et : ∀ j, F.1 t j = M.1 t j := fun j => h1 t j (by omega) (by omega)
  have t10 : F.1 t 10 = nI cl := by rw [et]; exact z1.2.2.2.2.2
  have gH : ∀ j, j < Q.1.length → Q.1[j]? = some (Q.1.getD j ([], 0, 0)) := fun j hj => gd_get hj
  have gW : ∀ j, j < Q.2.1.length → Q.2.1[j]? = some (Q.2.1.getD j ([], 0, 0, 0, 0)) := fun j hj => gd_get hj
  have gK : ∀ j, j < Q.2.2.1.length → Q.2.2.1[j]? = some (Q.2.2.1.getD j (0, [], [])) := fun j hj => gd_get hj
  refine ⟨hv, b11, b12, b13, h18, by rw [et]; exact h11, by rw [h2 63 v (by omega) (by omega)]; exact h63, by rw [et]; exact h12, by rw [h2 66 v (by omega) (by omega)]; exact h66, by rw [et]; exact h13, by rw [h2 71 v (by omega) (by omega)]; exact h71, p6, q4, r4, p7, q5, r5, p8', q6, r6, ?_, ?_, ?_, ?_, ?_, ?_, ?_, ?_, ?_, ?_, ?_, ?_, ?_, ?_, ?_, ?_, ?_, ?_, ?_, ?_⟩
  · exact fun j hj => p3 j _ (gH j hj)
  · exact fun j hj => (q1 j _ (gH j hj)).1
  · exact fun j hj => (r1 j _ (gH j hj)).1
  · exact fun j hj => (q1 j _ (gH j hj)).2
  · exact fun j hj => (r1 j _ (gH j hj)).2
  · exact fun j hj => p4 j _ (gW j hj)
  · exact fun j hj => (q2 j _ (gW j hj)).1
  · exact fun j hj => (r2 j _ (gW j hj)).1
  · exact fun j hj => (q2 j _ (gW j hj)).2.1
  · exact fun j hj => (r2 j _ (gW j hj)).2.1
  · exact fun j hj => (q2 j _ (gW j hj)).2.2.1
  · exact fun j hj => (r2 j _ (gW j hj)).2.2.1
  · exact fun j hj => (q2 j _ (gW j hj)).2.2.2
  · exact fun j hj => (r2 j _ (gW j hj)).2.2.2
  · exact fun j hj => (p5 j _ (gK j hj)).1
  · exact fun j hj => (q3 j _ (gK j hj)).1
  · exact fun j hj => (r3 j _ (gK j hj)).1
  · intro j hj
    obtain ⟨_, a, b, a1, a2, a3, a4, a5, a6⟩ := q3 j _ (gK j hj)
    obtain ⟨_, c, c1, c2, c3, c4, c5, c6, c7⟩ := r3 j _ (gK j hj)
    obtain ⟨_, x1, x2⟩ := p5 j _ (gK j hj)
    exact ⟨a, b, c, a1, a2, c1, c2, c3, x1, x2, a3, a4, c4, c5, ⟨cl, z3, t10, a5, a6⟩, by
      show c + (Q.2.2.1.getD j (0, [], [])).2.1.length + (Q.2.2.1.getD j (0, [], [])).2.2.length ≤ 840
      omega, c6, by
      show c + (Q.2.2.1.getD j (0, [], [])).2.1.length + (Q.2.2.1.getD j (0, [], [])).2.2.length ≤ 420 * v + 420
      omega⟩
  · exact law_of hv q7 r7 z3 t10 (by omega) (by omega) p9
  · exact law_of hv q8 r8 z3 t10 (by omega) (by omega) p10
