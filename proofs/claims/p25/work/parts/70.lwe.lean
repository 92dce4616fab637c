theorem c_letter {z : Nat} {lt : Nat → Nat} {ls bs : Nat → Int32} (R : RowC z lt ls bs) {x : Int32} {K : Int32 → Int32 → (Nat → Int32) → (Nat → Int32) → Prop}
    (h1 : ∀ l, l < 6 → x = nI l → z < 24 → ∀ ls' bs', RowC (z + 1) (updN lt z l) ls' bs' → K (nI (z + 1)) (nI (z + 1)) ls' bs')
    (h5 : ∀ l, l < 6 → x = nI l → z = 24 → K (-nI 5) (nI z) ls bs)
    (h0 : (∀ l, l < 6 → x ≠ nI l) → K (-nI 2) (nI z) ls bs) :
    wX11_letter x (nI z) ls bs K := by
  have hz := R.1
  unfold wX11_letter wX6_size
  rcases q_out (x := x) (N := 6) (by omega) with (g | g) | ⟨l, hl, rfl⟩
  · refine ⟨fun _ => h0 ?_, fun g' => absurd g g'⟩
    intro s hs e; subst e; exact absurd g (nI_pos (by omega))
  · refine ⟨fun _ => h0 ?_, fun _ => ⟨fun g2 => ?_, fun _ => h0 ?_⟩⟩
    · intro s hs e; subst e
      rw [q_le (by omega) (by omega)] at g; omega
    · exfalso
      rw [Int32.lt_iff_toInt_lt, show ((6 : Int32)).toInt = 6 from by decide] at g2
      rw [Int32.le_iff_toInt_le, nI_toInt (by omega)] at g
      omega
    · intro s hs e; subst e
      rw [q_le (by omega) (by omega)] at g; omega
  · simp (disch := omega) only [q_lit, nI_add, pk_mul, q_a1, q_a3, q_a7, q_a31, q_a63, q_a255, q_a511, q_or, q_shr, q_shl, q_le, q_lt, q_eq, q_in, q_cl, q_neg, q_neg', q_nlt0, q_nle, q_nlt, q_nle', q_nlt', forall_eq, true_implies, false_implies, not_true_eq_false, not_false_eq_true, and_true, true_and, Nat.reduceMod, Nat.reducePow, Nat.reduceAdd, Nat.reduceMul, Nat.reduceDiv, Nat.reduceSub, Nat.reduceEqDiff, Nat.reduceLeDiff, Nat.reduceLT]
    refine ⟨fun g => absurd g (by omega), fun _ => ⟨fun _ => ⟨fun g => ?_, fun g => ?_⟩, fun g => absurd hl g⟩⟩
    · exact q_append R g hl (fun bs' R' => h1 l hl rfl g _ _ R')
    · exact h5 l hl rfl (by omega)
theorem m_letter {z : Nat} {lt : Nat → Nat} {rw : Nat → Int32} (hz : z ≤ 24) (hr : ∀ i, i < z → rw i = nI (lt i)) {x : Int32} {K : Int32 → Int32 → (Nat → Int32) → Prop}
    (h1 : ∀ l, l < 6 → x = nI l → z < 24 → ∀ rw', (∀ i, i < z + 1 → rw' i = nI (updN lt z l i)) → K (nI (z + 1)) (nI (z + 1)) rw')
    (h5 : ∀ l, l < 6 → x = nI l → z = 24 → K (-nI 5) (nI z) rw)
    (h0 : (∀ l, l < 6 → x ≠ nI l) → K (-nI 2) (nI z) rw) :
    wX12_letter x (nI z) rw K := by
  unfold wX12_letter
  refine q_inN (n := 6) (by omega) (by omega) (fun l hl e => ?_) (fun g => ⟨fun _ => h0 g, fun g => absurd rfl g⟩)
  subst e
  simp (disch := omega) only [q_lit, nI_add, pk_mul, q_a1, q_a3, q_a7, q_a31, q_a63, q_a255, q_a511, q_or, q_shr, q_shl, q_le, q_lt, q_eq, q_in, q_cl, q_neg, q_neg', q_nlt0, q_nle, q_nlt, q_nle', q_nlt', forall_eq, true_implies, false_implies, not_true_eq_false, not_false_eq_true, and_true, true_and, Nat.reduceMod, Nat.reducePow, Nat.reduceAdd, Nat.reduceMul, Nat.reduceDiv, Nat.reduceSub, Nat.reduceEqDiff, Nat.reduceLeDiff, Nat.reduceLT]
  refine ⟨fun g => h5 l hl rfl g, fun g => ⟨by omega, h1 l hl rfl (by omega) _ (fun i hi => ?_)⟩⟩
  rcases Nat.lt_or_ge i z with gi | gi
  · rw [q_un (by omega), updN_n (by omega)]; exact hr i gi
  · have : i = z := by omega
    subst this
    rw [q_us, updN_s]
