def updN (f : Nat → Nat) (k v : Nat) : Nat → Nat := fun i => if i = k then v else f i
theorem q_updN (w : Nat → Nat) (k v : Nat) : upd (fun j => nI (w j)) k (nI v) = fun j => nI (updN w k v j) := by
  funext j; unfold upd updN; split <;> rfl
theorem updN_s (f : Nat → Nat) (k v : Nat) : updN f k v k = v := by simp [updN]
theorem updN_n {f : Nat → Nat} {k v j : Nat} (h : j ≠ k) : updN f k v j = f j := by simp [updN, h]
def slotOk (m j : Nat) : Bool := j == 1 || j == 4 || ((j == 2 || j == 5) && m == 2) || j == 7 || j == 10 || j == 12 || j == 13 || (j == 14 && m == 2) || j == 15 || j == 16 || (j == 17 && m == 2)
/-- a reader as it may be: n states, m marks, the states t that take, the relations w -/
def WfR (n m t : Nat) (w : Nat → Nat) : Prop := 1 ≤ n ∧ n ≤ 3 ∧ 1 ≤ m ∧ m ≤ 2 ∧ t < 2 ^ n ∧ (∀ j, Rn n (w j)) ∧ (∀ j, slotOk m j = false → w j = 0)
theorem q_m1p (a : Nat) : nI a + -nI 1 + nI 1 = nI a := by
  rw [Int32.add_assoc, show -nI 1 + nI 1 = 0 from by decide, Int32.add_zero]
theorem q_way {w : Nat → Nat} {l k : Nat} {x : Int32} (hl : l < 6) (hk : k < 3) (hx : x + nI 1 = nI k) {K : Int32 → Prop} (h : K (nI (w (3 * l + k)))) : wX5_way (nI l) x (fun j => nI (w j)) K := by
  unfold wX5_way
  intro x1 h1
  have e : x1 = nI (3 * l + k) := by
    rw [h1, Int32.add_assoc, show (1 : Int32) = nI 1 from rfl, hx, show (3 : Int32) = nI 3 from rfl, pk_mul, nI_add, Nat.mul_comm]
  subst e
  simp (disch := omega) only [q_lit, nI_add, pk_mul, q_a1, q_a3, q_a7, q_a31, q_a63, q_a255, q_a511, q_or, q_shr, q_shl, q_le, q_lt, q_eq, q_in, q_cl, q_neg, q_neg', q_nlt0, q_nle, q_nlt, q_nle', q_nlt', forall_eq, true_implies, false_implies, not_true_eq_false, not_false_eq_true, and_true, true_and, Nat.reduceMod, Nat.reducePow, Nat.reduceAdd, Nat.reduceMul, Nat.reduceDiv, Nat.reduceSub, Nat.reduceEqDiff, Nat.reduceLeDiff, Nat.reduceLT]
  refine ⟨fun g => absurd g (by omega), fun _ => ⟨fun g => absurd g (by omega), fun _ => ⟨by omega, h⟩⟩⟩
theorem q_image {s y : Nat} (hs : s < 8) (hy : y < 512) {K : Int32 → Prop} (h : K (nI (img s y))) : wX5_image (nI s) (nI y) K := by
  have hc : s = 0 ∨ s = 1 ∨ s = 2 ∨ s = 3 ∨ s = 4 ∨ s = 5 ∨ s = 6 ∨ s = 7 := by omega
  unfold wX5_image
  rcases hc with rfl | rfl | rfl | rfl | rfl | rfl | rfl | rfl <;>
  · simp (disch := omega) only [q_lit, nI_add, pk_mul, q_a1, q_a3, q_a7, q_a31, q_a63, q_a255, q_a511, q_or, q_shr, q_shl, q_le, q_lt, q_eq, q_in, q_cl, q_neg, q_neg', q_nlt0, q_nle, q_nlt, q_nle', q_nlt', forall_eq, true_implies, false_implies, not_true_eq_false, not_false_eq_true, and_true, true_and, Nat.reduceMod, Nat.reducePow, Nat.reduceAdd, Nat.reduceMul, Nat.reduceDiv, Nat.reduceSub, Nat.reduceEqDiff, Nat.reduceLeDiff, Nat.reduceLT, q_a2, q_a4, Nat.zero_or, Nat.or_zero]
    simpa [img, Nat.testBit] using h
theorem q_then {x y : Nat} (hx : x < 512) (hy : y < 512) {K : Int32 → Prop} (h : K (nI (thn3 x y))) : wX5_then (nI x) (nI y) K := by
  unfold wX5_then
  simp (disch := omega) only [q_lit, nI_add, pk_mul, q_a1, q_a3, q_a7, q_a31, q_a63, q_a255, q_a511, q_or, q_shr, q_shl, q_le, q_lt, q_eq, q_in, q_cl, q_neg, q_neg', q_nlt0, q_nle, q_nlt, q_nle', q_nlt', forall_eq, true_implies, false_implies, not_true_eq_false, not_false_eq_true, and_true, true_and, Nat.reduceMod, Nat.reducePow, Nat.reduceAdd, Nat.reduceMul, Nat.reduceDiv, Nat.reduceSub, Nat.reduceEqDiff, Nat.reduceLeDiff, Nat.reduceLT]
  refine ⟨fun g => ?_, fun _ => ⟨fun g => ?_, fun _ => ?_⟩⟩
  · rw [g, thn3_0] at h; exact h
  · rw [g, thn3_y0] at h; exact h
  · refine q_image (by omega) hy (q_image (by omega) hy (q_image (by omega) hy ?_))
    have h0 := img_lt x y
    have h1 := img_lt (x / 8) y
    have h2 := img_lt (x / 64) y
    simp (disch := omega) only [q_lit, nI_add, pk_mul, q_a1, q_a3, q_a7, q_a31, q_a63, q_a255, q_a511, q_or, q_shr, q_shl, q_le, q_lt, q_eq, q_in, q_cl, q_neg, q_neg', q_nlt0, q_nle, q_nlt, q_nle', q_nlt', forall_eq, true_implies, false_implies, not_true_eq_false, not_false_eq_true, and_true, true_and, Nat.reduceMod, Nat.reducePow, Nat.reduceAdd, Nat.reduceMul, Nat.reduceDiv, Nat.reduceSub, Nat.reduceEqDiff, Nat.reduceLeDiff, Nat.reduceLT, img_mod]
    have e : (img x y ||| img (x / 8) y * 8) ||| img (x / 64) y * 64 = thn3 x y := by
      have A : ∀ a < 8, ∀ b < 8, ∀ c < 8, (a ||| b * 8) ||| c * 64 = a + 8 * b + 64 * c := by decide +kernel
      exact A _ h0 _ h1 _ h2
    rw [e]; exact h
theorem q_pair {p q : Nat} (hp : p < 3) (hq : q < 3) {K : Int32 → Prop} (h : K (nI (2 ^ (3 * p + q)))) : wX5_pair (nI p) (nI q) K := by
  unfold wX5_pair
  simp (disch := omega) only [q_lit, nI_add, pk_mul, q_a1, q_a3, q_a7, q_a31, q_a63, q_a255, q_a511, q_or, q_shr, q_shl, q_le, q_lt, q_eq, q_in, q_cl, q_neg, q_neg', q_nlt0, q_nle, q_nlt, q_nle', q_nlt', forall_eq, true_implies, false_implies, not_true_eq_false, not_false_eq_true, and_true, true_and, Nat.reduceMod, Nat.reducePow, Nat.reduceAdd, Nat.reduceMul, Nat.reduceDiv, Nat.reduceSub, Nat.reduceEqDiff, Nat.reduceLeDiff, Nat.reduceLT]
  rw [show (3 * p + q) % 32 = 3 * p + q from by omega, Nat.one_mul]
  exact h
theorem q_identity {n : Nat} (h1 : 1 ≤ n) (h3 : n ≤ 3) {K : Int32 → Prop} (h : K (nI (idn n))) : wX5_identity (nI n) K := by
  unfold wX5_identity wX5_identity_L4
  intro P hP
  have hc : n = 1 ∨ n = 2 ∨ n = 3 := by omega
  rcases hc with rfl | rfl | rfl
  · refine hP _ _ ?_
    simp (disch := omega) only [q_lit, nI_add, pk_mul, q_a1, q_a3, q_a7, q_a31, q_a63, q_a255, q_a511, q_or, q_shr, q_shl, q_le, q_lt, q_eq, q_in, q_cl, q_neg, q_neg', q_nlt0, q_nle, q_nlt, q_nle', q_nlt', forall_eq, true_implies, false_implies, not_true_eq_false, not_false_eq_true, and_true, true_and, Nat.reduceMod, Nat.reducePow, Nat.reduceAdd, Nat.reduceMul, Nat.reduceDiv, Nat.reduceSub, Nat.reduceEqDiff, Nat.reduceLeDiff, Nat.reduceLT]
    refine q_pair (by omega) (by omega) ?_
    simp (disch := omega) only [q_lit, nI_add, pk_mul, q_a1, q_a3, q_a7, q_a31, q_a63, q_a255, q_a511, q_or, q_shr, q_shl, q_le, q_lt, q_eq, q_in, q_cl, q_neg, q_neg', q_nlt0, q_nle, q_nlt, q_nle', q_nlt', forall_eq, true_implies, false_implies, not_true_eq_false, not_false_eq_true, and_true, true_and, Nat.reduceMod, Nat.reducePow, Nat.reduceAdd, Nat.reduceMul, Nat.reduceDiv, Nat.reduceSub, Nat.reduceEqDiff, Nat.reduceLeDiff, Nat.reduceLT]
    refine hP _ _ ?_
    simp (disch := omega) only [q_lit, nI_add, pk_mul, q_a1, q_a3, q_a7, q_a31, q_a63, q_a255, q_a511, q_or, q_shr, q_shl, q_le, q_lt, q_eq, q_in, q_cl, q_neg, q_neg', q_nlt0, q_nle, q_nlt, q_nle', q_nlt', forall_eq, true_implies, false_implies, not_true_eq_false, not_false_eq_true, and_true, true_and, Nat.reduceMod, Nat.reducePow, Nat.reduceAdd, Nat.reduceMul, Nat.reduceDiv, Nat.reduceSub, Nat.reduceEqDiff, Nat.reduceLeDiff, Nat.reduceLT, Nat.le_refl]
    exact h
  · refine hP _ _ ?_
    simp (disch := omega) only [q_lit, nI_add, pk_mul, q_a1, q_a3, q_a7, q_a31, q_a63, q_a255, q_a511, q_or, q_shr, q_shl, q_le, q_lt, q_eq, q_in, q_cl, q_neg, q_neg', q_nlt0, q_nle, q_nlt, q_nle', q_nlt', forall_eq, true_implies, false_implies, not_true_eq_false, not_false_eq_true, and_true, true_and, Nat.reduceMod, Nat.reducePow, Nat.reduceAdd, Nat.reduceMul, Nat.reduceDiv, Nat.reduceSub, Nat.reduceEqDiff, Nat.reduceLeDiff, Nat.reduceLT]
    refine q_pair (by omega) (by omega) ?_
    simp (disch := omega) only [q_lit, nI_add, pk_mul, q_a1, q_a3, q_a7, q_a31, q_a63, q_a255, q_a511, q_or, q_shr, q_shl, q_le, q_lt, q_eq, q_in, q_cl, q_neg, q_neg', q_nlt0, q_nle, q_nlt, q_nle', q_nlt', forall_eq, true_implies, false_implies, not_true_eq_false, not_false_eq_true, and_true, true_and, Nat.reduceMod, Nat.reducePow, Nat.reduceAdd, Nat.reduceMul, Nat.reduceDiv, Nat.reduceSub, Nat.reduceEqDiff, Nat.reduceLeDiff, Nat.reduceLT]
    refine hP _ _ ?_
    simp (disch := omega) only [q_lit, nI_add, pk_mul, q_a1, q_a3, q_a7, q_a31, q_a63, q_a255, q_a511, q_or, q_shr, q_shl, q_le, q_lt, q_eq, q_in, q_cl, q_neg, q_neg', q_nlt0, q_nle, q_nlt, q_nle', q_nlt', forall_eq, true_implies, false_implies, not_true_eq_false, not_false_eq_true, and_true, true_and, Nat.reduceMod, Nat.reducePow, Nat.reduceAdd, Nat.reduceMul, Nat.reduceDiv, Nat.reduceSub, Nat.reduceEqDiff, Nat.reduceLeDiff, Nat.reduceLT]
    refine q_pair (by omega) (by omega) ?_
    simp (disch := omega) only [q_lit, nI_add, pk_mul, q_a1, q_a3, q_a7, q_a31, q_a63, q_a255, q_a511, q_or, q_shr, q_shl, q_le, q_lt, q_eq, q_in, q_cl, q_neg, q_neg', q_nlt0, q_nle, q_nlt, q_nle', q_nlt', forall_eq, true_implies, false_implies, not_true_eq_false, not_false_eq_true, and_true, true_and, Nat.reduceMod, Nat.reducePow, Nat.reduceAdd, Nat.reduceMul, Nat.reduceDiv, Nat.reduceSub, Nat.reduceEqDiff, Nat.reduceLeDiff, Nat.reduceLT]
    refine hP _ _ ?_
    simp (disch := omega) only [q_lit, nI_add, pk_mul, q_a1, q_a3, q_a7, q_a31, q_a63, q_a255, q_a511, q_or, q_shr, q_shl, q_le, q_lt, q_eq, q_in, q_cl, q_neg, q_neg', q_nlt0, q_nle, q_nlt, q_nle', q_nlt', forall_eq, true_implies, false_implies, not_true_eq_false, not_false_eq_true, and_true, true_and, Nat.reduceMod, Nat.reducePow, Nat.reduceAdd, Nat.reduceMul, Nat.reduceDiv, Nat.reduceSub, Nat.reduceEqDiff, Nat.reduceLeDiff, Nat.reduceLT, Nat.le_refl]
    exact h
  · refine hP _ _ ?_
    simp (disch := omega) only [q_lit, nI_add, pk_mul, q_a1, q_a3, q_a7, q_a31, q_a63, q_a255, q_a511, q_or, q_shr, q_shl, q_le, q_lt, q_eq, q_in, q_cl, q_neg, q_neg', q_nlt0, q_nle, q_nlt, q_nle', q_nlt', forall_eq, true_implies, false_implies, not_true_eq_false, not_false_eq_true, and_true, true_and, Nat.reduceMod, Nat.reducePow, Nat.reduceAdd, Nat.reduceMul, Nat.reduceDiv, Nat.reduceSub, Nat.reduceEqDiff, Nat.reduceLeDiff, Nat.reduceLT]
    refine q_pair (by omega) (by omega) ?_
    simp (disch := omega) only [q_lit, nI_add, pk_mul, q_a1, q_a3, q_a7, q_a31, q_a63, q_a255, q_a511, q_or, q_shr, q_shl, q_le, q_lt, q_eq, q_in, q_cl, q_neg, q_neg', q_nlt0, q_nle, q_nlt, q_nle', q_nlt', forall_eq, true_implies, false_implies, not_true_eq_false, not_false_eq_true, and_true, true_and, Nat.reduceMod, Nat.reducePow, Nat.reduceAdd, Nat.reduceMul, Nat.reduceDiv, Nat.reduceSub, Nat.reduceEqDiff, Nat.reduceLeDiff, Nat.reduceLT]
    refine hP _ _ ?_
    simp (disch := omega) only [q_lit, nI_add, pk_mul, q_a1, q_a3, q_a7, q_a31, q_a63, q_a255, q_a511, q_or, q_shr, q_shl, q_le, q_lt, q_eq, q_in, q_cl, q_neg, q_neg', q_nlt0, q_nle, q_nlt, q_nle', q_nlt', forall_eq, true_implies, false_implies, not_true_eq_false, not_false_eq_true, and_true, true_and, Nat.reduceMod, Nat.reducePow, Nat.reduceAdd, Nat.reduceMul, Nat.reduceDiv, Nat.reduceSub, Nat.reduceEqDiff, Nat.reduceLeDiff, Nat.reduceLT]
    refine q_pair (by omega) (by omega) ?_
    simp (disch := omega) only [q_lit, nI_add, pk_mul, q_a1, q_a3, q_a7, q_a31, q_a63, q_a255, q_a511, q_or, q_shr, q_shl, q_le, q_lt, q_eq, q_in, q_cl, q_neg, q_neg', q_nlt0, q_nle, q_nlt, q_nle', q_nlt', forall_eq, true_implies, false_implies, not_true_eq_false, not_false_eq_true, and_true, true_and, Nat.reduceMod, Nat.reducePow, Nat.reduceAdd, Nat.reduceMul, Nat.reduceDiv, Nat.reduceSub, Nat.reduceEqDiff, Nat.reduceLeDiff, Nat.reduceLT]
    refine hP _ _ ?_
    simp (disch := omega) only [q_lit, nI_add, pk_mul, q_a1, q_a3, q_a7, q_a31, q_a63, q_a255, q_a511, q_or, q_shr, q_shl, q_le, q_lt, q_eq, q_in, q_cl, q_neg, q_neg', q_nlt0, q_nle, q_nlt, q_nle', q_nlt', forall_eq, true_implies, false_implies, not_true_eq_false, not_false_eq_true, and_true, true_and, Nat.reduceMod, Nat.reducePow, Nat.reduceAdd, Nat.reduceMul, Nat.reduceDiv, Nat.reduceSub, Nat.reduceEqDiff, Nat.reduceLeDiff, Nat.reduceLT]
    refine q_pair (by omega) (by omega) ?_
    simp (disch := omega) only [q_lit, nI_add, pk_mul, q_a1, q_a3, q_a7, q_a31, q_a63, q_a255, q_a511, q_or, q_shr, q_shl, q_le, q_lt, q_eq, q_in, q_cl, q_neg, q_neg', q_nlt0, q_nle, q_nlt, q_nle', q_nlt', forall_eq, true_implies, false_implies, not_true_eq_false, not_false_eq_true, and_true, true_and, Nat.reduceMod, Nat.reducePow, Nat.reduceAdd, Nat.reduceMul, Nat.reduceDiv, Nat.reduceSub, Nat.reduceEqDiff, Nat.reduceLeDiff, Nat.reduceLT]
    refine hP _ _ ?_
    simp (disch := omega) only [q_lit, nI_add, pk_mul, q_a1, q_a3, q_a7, q_a31, q_a63, q_a255, q_a511, q_or, q_shr, q_shl, q_le, q_lt, q_eq, q_in, q_cl, q_neg, q_neg', q_nlt0, q_nle, q_nlt, q_nle', q_nlt', forall_eq, true_implies, false_implies, not_true_eq_false, not_false_eq_true, and_true, true_and, Nat.reduceMod, Nat.reducePow, Nat.reduceAdd, Nat.reduceMul, Nat.reduceDiv, Nat.reduceSub, Nat.reduceEqDiff, Nat.reduceLeDiff, Nat.reduceLT, Nat.le_refl]
    exact h
/-- what a row does that opens with a, goes on as x does, and closes that with e -/
def wrp (w : Nat → Nat) (a e x : Nat) : Nat := thn3 (thn3 (w (3 * a + 1)) x) (w (3 * e + 1)) ||| thn3 (thn3 (w (3 * a + 2)) x) (w (3 * e + 2))
theorem wrp_lt (w : Nat → Nat) (a e x : Nat) : wrp w a e x < 512 := or_lt512 (thn3_lt _ _) (thn3_lt _ _)
theorem wrp_0 (w : Nat → Nat) (a e : Nat) : wrp w a e 0 = 0 := by simp [wrp, thn3_y0, thn3_0]
theorem Rn_wrp {n : Nat} {w : Nat → Nat} (hw : ∀ j, Rn n (w j)) (a e : Nat) (x : Nat) : Rn n (wrp w a e x) := by
  have k : ∀ u v : Nat, Rn n u → Rn n v → Rn n (thn3 (thn3 u x) v) := fun u v hu hv =>
    ⟨thn3_lt _ _, by rw [← thn3_assoc, ← thn3_assoc, hu.2.1], by rw [thn3_assoc, hv.2.2]⟩
  exact Rn_or (k _ _ (hw _) (hw _)) (k _ _ (hw _) (hw _))
theorem q_wrapped {n m t : Nat} {w : Nat → Nat} (W : WfR n m t w) {a e x : Nat} (ha : a < 2) (he : 4 ≤ e) (he6 : e < 6) (hx : x < 512) {K : Int32 → Prop} (h : K (nI (wrp w a e x))) : wX5_wrapped (nI a) (nI e) (nI x) (nI m) (fun j => nI (w j)) K := by
  obtain ⟨_, _, m1, m2, _, hR, hz⟩ := W
  unfold wX5_wrapped
  intro E hE
  unfold wX5_wrapped_L6
  intro P hP
  refine hP _ _ ?_
  simp (disch := omega) only [q_lit, nI_add, pk_mul, q_a1, q_a3, q_a7, q_a31, q_a63, q_a255, q_a511, q_or, q_shr, q_shl, q_le, q_lt, q_eq, q_in, q_cl, q_neg, q_neg', q_nlt0, q_nle, q_nlt, q_nle', q_nlt', forall_eq, true_implies, false_implies, not_true_eq_false, not_false_eq_true, and_true, true_and, Nat.reduceMod, Nat.reducePow, Nat.reduceAdd, Nat.reduceMul, Nat.reduceDiv, Nat.reduceSub, Nat.reduceEqDiff, Nat.reduceLeDiff, Nat.reduceLT]
  refine ⟨fun g => absurd g (by omega), fun _ => ⟨fun g => ?_, fun g => ?_⟩⟩
  · refine hE _ _ ?_
    rw [g, wrp_0] at h; exact h
  refine q_way (k := 1) (by omega) (by omega) rfl ?_
  refine q_then (hR _).1 hx ?_
  refine q_way (k := 1) (by omega) (by omega) rfl ?_
  refine q_then (thn3_lt _ _) (hR _).1 ?_
  simp (disch := omega) only [q_lit, nI_add, pk_mul, q_a1, q_a3, q_a7, q_a31, q_a63, q_a255, q_a511, q_or, q_shr, q_shl, q_le, q_lt, q_eq, q_in, q_cl, q_neg, q_neg', q_nlt0, q_nle, q_nlt, q_nle', q_nlt', forall_eq, true_implies, false_implies, not_true_eq_false, not_false_eq_true, and_true, true_and, Nat.reduceMod, Nat.reducePow, Nat.reduceAdd, Nat.reduceMul, Nat.reduceDiv, Nat.reduceSub, Nat.reduceEqDiff, Nat.reduceLeDiff, Nat.reduceLT]
  have hm : m = 1 ∨ m = 2 := by omega
  rcases hm with rfl | rfl
  · refine hP _ _ ?_
    simp (disch := omega) only [q_lit, nI_add, pk_mul, q_a1, q_a3, q_a7, q_a31, q_a63, q_a255, q_a511, q_or, q_shr, q_shl, q_le, q_lt, q_eq, q_in, q_cl, q_neg, q_neg', q_nlt0, q_nle, q_nlt, q_nle', q_nlt', forall_eq, true_implies, false_implies, not_true_eq_false, not_false_eq_true, and_true, true_and, Nat.reduceMod, Nat.reducePow, Nat.reduceAdd, Nat.reduceMul, Nat.reduceDiv, Nat.reduceSub, Nat.reduceEqDiff, Nat.reduceLeDiff, Nat.reduceLT, Nat.le_refl]
    refine hE _ _ ?_
    have e1 : w (3 * a + 2) = 0 := hz _ (by have : a = 0 ∨ a = 1 := by omega
                                            rcases this with rfl | rfl <;> rfl)
    unfold wrp at h
    rw [e1, thn3_0, thn3_0, Nat.or_zero] at h
    rw [Nat.zero_or]; exact h
  · refine hP _ _ ?_
    simp (disch := omega) only [q_lit, nI_add, pk_mul, q_a1, q_a3, q_a7, q_a31, q_a63, q_a255, q_a511, q_or, q_shr, q_shl, q_le, q_lt, q_eq, q_in, q_cl, q_neg, q_neg', q_nlt0, q_nle, q_nlt, q_nle', q_nlt', forall_eq, true_implies, false_implies, not_true_eq_false, not_false_eq_true, and_true, true_and, Nat.reduceMod, Nat.reducePow, Nat.reduceAdd, Nat.reduceMul, Nat.reduceDiv, Nat.reduceSub, Nat.reduceEqDiff, Nat.reduceLeDiff, Nat.reduceLT]
    refine ⟨fun g' => absurd g' g, fun _ => ?_⟩
    refine q_way (k := 2) (by omega) (by omega) rfl ?_
    refine q_then (hR _).1 hx ?_
    refine q_way (k := 2) (by omega) (by omega) rfl ?_
    refine q_then (thn3_lt _ _) (hR _).1 ?_
    simp (disch := omega) only [q_lit, nI_add, pk_mul, q_a1, q_a3, q_a7, q_a31, q_a63, q_a255, q_a511, q_or, q_shr, q_shl, q_le, q_lt, q_eq, q_in, q_cl, q_neg, q_neg', q_nlt0, q_nle, q_nlt, q_nle', q_nlt', forall_eq, true_implies, false_implies, not_true_eq_false, not_false_eq_true, and_true, true_and, Nat.reduceMod, Nat.reducePow, Nat.reduceAdd, Nat.reduceMul, Nat.reduceDiv, Nat.reduceSub, Nat.reduceEqDiff, Nat.reduceLeDiff, Nat.reduceLT]
    refine hP _ _ ?_
    simp (disch := omega) only [q_lit, nI_add, pk_mul, q_a1, q_a3, q_a7, q_a31, q_a63, q_a255, q_a511, q_or, q_shr, q_shl, q_le, q_lt, q_eq, q_in, q_cl, q_neg, q_neg', q_nlt0, q_nle, q_nlt, q_nle', q_nlt', forall_eq, true_implies, false_implies, not_true_eq_false, not_false_eq_true, and_true, true_and, Nat.reduceMod, Nat.reducePow, Nat.reduceAdd, Nat.reduceMul, Nat.reduceDiv, Nat.reduceSub, Nat.reduceEqDiff, Nat.reduceLeDiff, Nat.reduceLT, Nat.le_refl]
    refine hE _ _ ?_
    rw [Nat.zero_or]; exact h
/-- a letter that opens, with whatever mark, or that closes and finds nothing -/
def aln (w : Nat → Nat) (l : Nat) : Nat := if l < 4 then w (3 * l + 1) ||| w (3 * l + 2) else w (3 * l)
theorem Rn_aln {n : Nat} {w : Nat → Nat} (hw : ∀ j, Rn n (w j)) (l : Nat) : Rn n (aln w l) := by
  unfold aln; split
  · exact Rn_or (hw _) (hw _)
  · exact hw _
theorem q_closes {l : Nat} (hl : l < 6) {K : Int32 → Prop} (h : K (nI (if l < 4 then 0 else 1))) : wX5_closes (nI l) K := by
  unfold wX5_closes
  have hc : l = 0 ∨ l = 1 ∨ l = 2 ∨ l = 3 ∨ l = 4 ∨ l = 5 := by omega
  rcases hc with rfl | rfl | rfl | rfl | rfl | rfl <;>
  · simp (disch := omega) only [q_lit, nI_add, pk_mul, q_a1, q_a3, q_a7, q_a31, q_a63, q_a255, q_a511, q_or, q_shr, q_shl, q_le, q_lt, q_eq, q_in, q_cl, q_neg, q_neg', q_nlt0, q_nle, q_nlt, q_nle', q_nlt', forall_eq, true_implies, false_implies, not_true_eq_false, not_false_eq_true, and_true, true_and, Nat.reduceMod, Nat.reducePow, Nat.reduceAdd, Nat.reduceMul, Nat.reduceDiv, Nat.reduceSub, Nat.reduceEqDiff, Nat.reduceLeDiff, Nat.reduceLT]
    exact h
theorem q_opens {l : Nat} (hl : l < 6) {K : Int32 → Prop} (h : K (nI (if l < 2 then 1 else 0))) : wX5_opens (nI l) K := by
  unfold wX5_opens
  have hc : l = 0 ∨ l = 1 ∨ l = 2 ∨ l = 3 ∨ l = 4 ∨ l = 5 := by omega
  rcases hc with rfl | rfl | rfl | rfl | rfl | rfl <;>
  · simp (disch := omega) only [q_lit, nI_add, pk_mul, q_a1, q_a3, q_a7, q_a31, q_a63, q_a255, q_a511, q_or, q_shr, q_shl, q_le, q_lt, q_eq, q_in, q_cl, q_neg, q_neg', q_nlt0, q_nle, q_nlt, q_nle', q_nlt', forall_eq, true_implies, false_implies, not_true_eq_false, not_false_eq_true, and_true, true_and, Nat.reduceMod, Nat.reducePow, Nat.reduceAdd, Nat.reduceMul, Nat.reduceDiv, Nat.reduceSub, Nat.reduceEqDiff, Nat.reduceLeDiff, Nat.reduceLT]
    exact h
theorem q_isPlain {l : Nat} (hl : l < 6) {K : Int32 → Prop} (h : K (nI (if 2 ≤ l ∧ l < 4 then 1 else 0))) : wX5_isPlain (nI l) K := by
  unfold wX5_isPlain
  have hc : l = 0 ∨ l = 1 ∨ l = 2 ∨ l = 3 ∨ l = 4 ∨ l = 5 := by omega
  rcases hc with rfl | rfl | rfl | rfl | rfl | rfl <;>
  · simp (disch := omega) only [q_lit, nI_add, pk_mul, q_a1, q_a3, q_a7, q_a31, q_a63, q_a255, q_a511, q_or, q_shr, q_shl, q_le, q_lt, q_eq, q_in, q_cl, q_neg, q_neg', q_nlt0, q_nle, q_nlt, q_nle', q_nlt', forall_eq, true_implies, false_implies, not_true_eq_false, not_false_eq_true, and_true, true_and, Nat.reduceMod, Nat.reducePow, Nat.reduceAdd, Nat.reduceMul, Nat.reduceDiv, Nat.reduceSub, Nat.reduceEqDiff, Nat.reduceLeDiff, Nat.reduceLT]
    exact h
theorem q_alone {w : Nat → Nat} {l : Nat} (hl : l < 6) {K : Int32 → Prop} (h : K (nI (aln w l))) : wX5_alone (nI l) (fun j => nI (w j)) K := by
  unfold wX5_alone
  refine q_closes hl ?_
  unfold aln at h
  by_cases g : l < 4
  · rw [if_pos g] at h ⊢
    simp (disch := omega) only [q_lit, nI_add, pk_mul, q_a1, q_a3, q_a7, q_a31, q_a63, q_a255, q_a511, q_or, q_shr, q_shl, q_le, q_lt, q_eq, q_in, q_cl, q_neg, q_neg', q_nlt0, q_nle, q_nlt, q_nle', q_nlt', forall_eq, true_implies, false_implies, not_true_eq_false, not_false_eq_true, and_true, true_and, Nat.reduceMod, Nat.reducePow, Nat.reduceAdd, Nat.reduceMul, Nat.reduceDiv, Nat.reduceSub, Nat.reduceEqDiff, Nat.reduceLeDiff, Nat.reduceLT]
    refine q_way (k := 1) hl (by omega) rfl (q_way (k := 2) hl (by omega) rfl ?_)
    rw [q_or]; exact h
  · rw [if_neg g] at h ⊢
    simp (disch := omega) only [q_lit, nI_add, pk_mul, q_a1, q_a3, q_a7, q_a31, q_a63, q_a255, q_a511, q_or, q_shr, q_shl, q_le, q_lt, q_eq, q_in, q_cl, q_neg, q_neg', q_nlt0, q_nle, q_nlt, q_nle', q_nlt', forall_eq, true_implies, false_implies, not_true_eq_false, not_false_eq_true, and_true, true_and, Nat.reduceMod, Nat.reducePow, Nat.reduceAdd, Nat.reduceMul, Nat.reduceDiv, Nat.reduceSub, Nat.reduceEqDiff, Nat.reduceLeDiff, Nat.reduceLT]
    exact q_way (k := 0) hl (by omega) (by decide) h
theorem q_takesAny {s t : Nat} (hs : s < 8) {K : Int32 → Prop} (h : K (nI (if s &&& t = 0 then 0 else 1))) : wX5_takesAny (nI s) (nI t) K := by
  unfold wX5_takesAny
  have : s &&& t ≤ s := Nat.and_le_left
  simp (disch := omega) only [q_lit, nI_add, pk_mul, q_a1, q_a3, q_a7, q_a31, q_a63, q_a255, q_a511, q_or, q_shr, q_shl, q_le, q_lt, q_eq, q_in, q_cl, q_neg, q_neg', q_nlt0, q_nle, q_nlt, q_nle', q_nlt', forall_eq, true_implies, false_implies, not_true_eq_false, not_false_eq_true, and_true, true_and, Nat.reduceMod, Nat.reducePow, Nat.reduceAdd, Nat.reduceMul, Nat.reduceDiv, Nat.reduceSub, Nat.reduceEqDiff, Nat.reduceLeDiff, Nat.reduceLT, q_and]
  by_cases g : s &&& t = 0
  · rw [if_pos g] at h; simp only [g, q_lit, nI_add, pk_mul, q_a1, q_a3, q_a7, q_a31, q_a63, q_a255, q_a511, q_or, q_shr, q_shl, q_le, q_lt, q_eq, q_in, q_cl, q_neg, q_neg', q_nlt0, q_nle, q_nlt, q_nle', q_nlt', forall_eq, true_implies, false_implies, not_true_eq_false, not_false_eq_true, and_true, true_and, Nat.reduceMod, Nat.reducePow, Nat.reduceAdd, Nat.reduceMul, Nat.reduceDiv, Nat.reduceSub, Nat.reduceEqDiff, Nat.reduceLeDiff, Nat.reduceLT]; exact h
  · rw [if_neg g] at h; simp only [g, q_lit, nI_add, pk_mul, q_a1, q_a3, q_a7, q_a31, q_a63, q_a255, q_a511, q_or, q_shr, q_shl, q_le, q_lt, q_eq, q_in, q_cl, q_neg, q_neg', q_nlt0, q_nle, q_nlt, q_nle', q_nlt', forall_eq, true_implies, false_implies, not_true_eq_false, not_false_eq_true, and_true, true_and, Nat.reduceMod, Nat.reducePow, Nat.reduceAdd, Nat.reduceMul, Nat.reduceDiv, Nat.reduceSub, Nat.reduceEqDiff, Nat.reduceLeDiff, Nat.reduceLT]; exact h
theorem q_isState {x : Int32} {n : Nat} (hn : n ≤ 3) {K : Int32 → Prop} (h1 : ∀ s, s < n → x = nI s → K (nI 1)) (h0 : (∀ s, s < n → x ≠ nI s) → K (nI 0)) : wX5_isState x (nI n) K := by
  unfold wX5_isState
  rcases q_out (x := x) (N := n) (by omega) with (g | g) | ⟨s, hs, rfl⟩
  · refine ⟨fun _ => h0 ?_, fun g' => absurd g g'⟩
    intro s hs e; subst e; exact absurd g (nI_pos (by omega))
  · refine ⟨fun _ => h0 ?_, fun _ => ⟨fun _ => h0 ?_, fun g' => absurd g g'⟩⟩ <;>
    · intro s hs e; subst e
      rw [q_le (by omega) (by omega)] at g; omega
  · simp (disch := omega) only [q_lit, nI_add, pk_mul, q_a1, q_a3, q_a7, q_a31, q_a63, q_a255, q_a511, q_or, q_shr, q_shl, q_le, q_lt, q_eq, q_in, q_cl, q_neg, q_neg', q_nlt0, q_nle, q_nlt, q_nle', q_nlt', forall_eq, true_implies, false_implies, not_true_eq_false, not_false_eq_true, and_true, true_and, Nat.reduceMod, Nat.reducePow, Nat.reduceAdd, Nat.reduceMul, Nat.reduceDiv, Nat.reduceSub, Nat.reduceEqDiff, Nat.reduceLeDiff, Nat.reduceLT]
    refine ⟨fun g => absurd g (by omega), fun _ => ⟨fun g => absurd g (by omega), fun _ => h1 s hs rfl⟩⟩
theorem q_isMark {x : Int32} {m : Nat} (hm : m ≤ 2) {K : Int32 → Prop} (h1 : ∀ s, s < m → x = nI s → K (nI 1)) (h0 : (∀ s, s < m → x ≠ nI s) → K (nI 0)) : wX5_isMark x (nI m) K :=
  q_isState (by omega) h1 h0
/-- what a call's four numbers name: state a, the slot j of letter and mark, state b -/
def Dec (n m : Nat) (p l k q : Int32) (a j b : Nat) : Prop :=
  p = nI a ∧ a < n ∧ q = nI b ∧ b < n ∧ ∃ c i, l = nI c ∧ c < 6 ∧ i < 3 ∧ k + nI 1 = nI i ∧ j = 3 * c + i ∧ (c < 2 → 1 ≤ i) ∧ (2 ≤ c → c < 4 → i = 1) ∧ i ≤ m
theorem q_k1 {k : Int32} {i : Nat} (h : k + nI 1 = nI i) : k = -nI 1 ∧ i = 0 ∨ ∃ i', k = nI i' ∧ i = i' + 1 := by
  have e : k = nI i - nI 1 := by rw [← h]; exact (Int32.add_sub_cancel k (nI 1)).symm
  cases i with
  | zero => left; exact ⟨by rw [e]; decide, rfl⟩
  | succ i => right; exact ⟨i, by rw [e, q_subN (by omega)]; rfl, rfl⟩
theorem q_dec_k {i : Nat} {k : Int32} (h : k = nI i) : k + nI 1 = nI (i + 1) := by rw [h]; exact nI_1 i
theorem q_knows {n m t : Nat} {w : Nat → Nat} (W : WfR n m t w) {p l k q : Int32} {K : Int32 → Prop} (h1 : ∀ a j b, Dec n m p l k q a j b → K (nI 1)) (h0 : (∀ a j b, ¬ Dec n m p l k q a j b) → K (nI 0)) : wX5_knows p l k q (nI n) (nI m) K := by
  obtain ⟨n1, n3, m1, m2, _, _, _⟩ := W
  unfold wX5_knows
  refine q_isState n3 (fun a ha ea => ?_) (fun g => ?_)
  rotate_left
  · simp (disch := omega) only [q_lit, nI_add, pk_mul, q_a1, q_a3, q_a7, q_a31, q_a63, q_a255, q_a511, q_or, q_shr, q_shl, q_le, q_lt, q_eq, q_in, q_cl, q_neg, q_neg', q_nlt0, q_nle, q_nlt, q_nle', q_nlt', forall_eq, true_implies, false_implies, not_true_eq_false, not_false_eq_true, and_true, true_and, Nat.reduceMod, Nat.reducePow, Nat.reduceAdd, Nat.reduceMul, Nat.reduceDiv, Nat.reduceSub, Nat.reduceEqDiff, Nat.reduceLeDiff, Nat.reduceLT]
    exact h0 fun a j b hd => g a hd.2.1 hd.1
  simp (disch := omega) only [q_lit, nI_add, pk_mul, q_a1, q_a3, q_a7, q_a31, q_a63, q_a255, q_a511, q_or, q_shr, q_shl, q_le, q_lt, q_eq, q_in, q_cl, q_neg, q_neg', q_nlt0, q_nle, q_nlt, q_nle', q_nlt', forall_eq, true_implies, false_implies, not_true_eq_false, not_false_eq_true, and_true, true_and, Nat.reduceMod, Nat.reducePow, Nat.reduceAdd, Nat.reduceMul, Nat.reduceDiv, Nat.reduceSub, Nat.reduceEqDiff, Nat.reduceLeDiff, Nat.reduceLT]
  refine q_isState n3 (fun b hb eb => ?_) (fun g => ?_)
  rotate_left
  · simp (disch := omega) only [q_lit, nI_add, pk_mul, q_a1, q_a3, q_a7, q_a31, q_a63, q_a255, q_a511, q_or, q_shr, q_shl, q_le, q_lt, q_eq, q_in, q_cl, q_neg, q_neg', q_nlt0, q_nle, q_nlt, q_nle', q_nlt', forall_eq, true_implies, false_implies, not_true_eq_false, not_false_eq_true, and_true, true_and, Nat.reduceMod, Nat.reducePow, Nat.reduceAdd, Nat.reduceMul, Nat.reduceDiv, Nat.reduceSub, Nat.reduceEqDiff, Nat.reduceLeDiff, Nat.reduceLT]
    exact h0 fun a j b hd => g b hd.2.2.2.1 hd.2.2.1
  simp (disch := omega) only [q_lit, nI_add, pk_mul, q_a1, q_a3, q_a7, q_a31, q_a63, q_a255, q_a511, q_or, q_shr, q_shl, q_le, q_lt, q_eq, q_in, q_cl, q_neg, q_neg', q_nlt0, q_nle, q_nlt, q_nle', q_nlt', forall_eq, true_implies, false_implies, not_true_eq_false, not_false_eq_true, and_true, true_and, Nat.reduceMod, Nat.reducePow, Nat.reduceAdd, Nat.reduceMul, Nat.reduceDiv, Nat.reduceSub, Nat.reduceEqDiff, Nat.reduceLeDiff, Nat.reduceLT]
  rcases q_out (x := l) (N := 6) (by omega) with hl | ⟨c, hc, rfl⟩
  · have no : ∀ a j b, ¬ Dec n m p l k q a j b := by
      rintro a j b ⟨_, _, _, _, c, i, e, h6, _⟩
      subst e
      rcases hl with hl | hl
      · exact nI_pos (by omega) hl
      · rw [q_le (by omega) (by omega)] at hl; omega
    refine ⟨fun _ => h0 no, fun gl => ⟨fun g => ?_, fun _ => h0 no⟩⟩
    rcases hl with hl | hl
    · exact absurd hl gl
    · rw [Int32.le_iff_toInt_le] at hl; rw [Int32.lt_iff_toInt_lt] at g; exact absurd hl (by omega)
  simp (disch := omega) only [q_lit, nI_add, pk_mul, q_a1, q_a3, q_a7, q_a31, q_a63, q_a255, q_a511, q_or, q_shr, q_shl, q_le, q_lt, q_eq, q_in, q_cl, q_neg, q_neg', q_nlt0, q_nle, q_nlt, q_nle', q_nlt', forall_eq, true_implies, false_implies, not_true_eq_false, not_false_eq_true, and_true, true_and, Nat.reduceMod, Nat.reducePow, Nat.reduceAdd, Nat.reduceMul, Nat.reduceDiv, Nat.reduceSub, Nat.reduceEqDiff, Nat.reduceLeDiff, Nat.reduceLT]
  refine ⟨fun g => absurd g (by omega), fun _ => ⟨fun _ => ?_, fun g => absurd hc g⟩⟩
  refine q_isPlain hc ?_
  by_cases hp : 2 ≤ c ∧ c < 4
  · rw [if_pos hp]
    simp (disch := omega) only [q_lit, nI_add, pk_mul, q_a1, q_a3, q_a7, q_a31, q_a63, q_a255, q_a511, q_or, q_shr, q_shl, q_le, q_lt, q_eq, q_in, q_cl, q_neg, q_neg', q_nlt0, q_nle, q_nlt, q_nle', q_nlt', forall_eq, true_implies, false_implies, not_true_eq_false, not_false_eq_true, and_true, true_and, Nat.reduceMod, Nat.reducePow, Nat.reduceAdd, Nat.reduceMul, Nat.reduceDiv, Nat.reduceSub, Nat.reduceEqDiff, Nat.reduceLeDiff, Nat.reduceLT]
    refine ⟨fun g => h1 a (3 * c + 1) b ⟨ea, ha, eb, hb, c, 1, rfl, hc, by omega, by rw [g]; rfl, rfl, by omega, by omega, m1⟩, fun g => h0 ?_⟩
    rintro a' j b' ⟨_, _, _, _, c', i, e, h6, hi, hk, _, _, h24, _⟩
    rw [q_eq (by omega) (by omega)] at e; subst e
    have : i = 1 := h24 hp.1 hp.2
    subst this
    rcases q_k1 hk with ⟨_, g'⟩ | ⟨i', g', g''⟩
    · omega
    · have : i' = 0 := by omega
      subst this; exact g g'
  · rw [if_neg hp]
    simp (disch := omega) only [q_lit, nI_add, pk_mul, q_a1, q_a3, q_a7, q_a31, q_a63, q_a255, q_a511, q_or, q_shr, q_shl, q_le, q_lt, q_eq, q_in, q_cl, q_neg, q_neg', q_nlt0, q_nle, q_nlt, q_nle', q_nlt', forall_eq, true_implies, false_implies, not_true_eq_false, not_false_eq_true, and_true, true_and, Nat.reduceMod, Nat.reducePow, Nat.reduceAdd, Nat.reduceMul, Nat.reduceDiv, Nat.reduceSub, Nat.reduceEqDiff, Nat.reduceLeDiff, Nat.reduceLT]
    refine q_isMark m2 (fun i hi ei => ?_) (fun g => ?_)
    · simp (disch := omega) only [q_lit, nI_add, pk_mul, q_a1, q_a3, q_a7, q_a31, q_a63, q_a255, q_a511, q_or, q_shr, q_shl, q_le, q_lt, q_eq, q_in, q_cl, q_neg, q_neg', q_nlt0, q_nle, q_nlt, q_nle', q_nlt', forall_eq, true_implies, false_implies, not_true_eq_false, not_false_eq_true, and_true, true_and, Nat.reduceMod, Nat.reducePow, Nat.reduceAdd, Nat.reduceMul, Nat.reduceDiv, Nat.reduceSub, Nat.reduceEqDiff, Nat.reduceLeDiff, Nat.reduceLT]
      exact h1 a (3 * c + (i + 1)) b ⟨ea, ha, eb, hb, c, i + 1, rfl, hc, by omega, q_dec_k ei, rfl, by omega, fun x y => absurd ⟨x, y⟩ hp, by omega⟩
    · simp (disch := omega) only [q_lit, nI_add, pk_mul, q_a1, q_a3, q_a7, q_a31, q_a63, q_a255, q_a511, q_or, q_shr, q_shl, q_le, q_lt, q_eq, q_in, q_cl, q_neg, q_neg', q_nlt0, q_nle, q_nlt, q_nle', q_nlt', forall_eq, true_implies, false_implies, not_true_eq_false, not_false_eq_true, and_true, true_and, Nat.reduceMod, Nat.reducePow, Nat.reduceAdd, Nat.reduceMul, Nat.reduceDiv, Nat.reduceSub, Nat.reduceEqDiff, Nat.reduceLeDiff, Nat.reduceLT]
      refine q_closes hc ?_
      have no : (c < 4 ∨ k ≠ -nI 1) → ∀ a j b, ¬ Dec n m p (nI c) k q a j b := by
        rintro hcl a' j b' ⟨_, _, _, _, c', i, e, h6, hi, hk, _, h02, _, him⟩
        rw [q_eq (by omega) (by omega)] at e; subst e
        rcases q_k1 hk with ⟨g', g''⟩ | ⟨i', g', g''⟩
        · rcases hcl with hcl | hcl
          · have : c < 2 := by omega
            have := h02 this; omega
          · exact hcl g'
        · exact g i' (by omega) g'
      by_cases h4 : c < 4
      · rw [if_pos h4]; simp (disch := omega) only [q_lit, nI_add, pk_mul, q_a1, q_a3, q_a7, q_a31, q_a63, q_a255, q_a511, q_or, q_shr, q_shl, q_le, q_lt, q_eq, q_in, q_cl, q_neg, q_neg', q_nlt0, q_nle, q_nlt, q_nle', q_nlt', forall_eq, true_implies, false_implies, not_true_eq_false, not_false_eq_true, and_true, true_and, Nat.reduceMod, Nat.reducePow, Nat.reduceAdd, Nat.reduceMul, Nat.reduceDiv, Nat.reduceSub, Nat.reduceEqDiff, Nat.reduceLeDiff, Nat.reduceLT]
        exact h0 (no (.inl h4))
      · rw [if_neg h4]; simp (disch := omega) only [q_lit, nI_add, pk_mul, q_a1, q_a3, q_a7, q_a31, q_a63, q_a255, q_a511, q_or, q_shr, q_shl, q_le, q_lt, q_eq, q_in, q_cl, q_neg, q_neg', q_nlt0, q_nle, q_nlt, q_nle', q_nlt', forall_eq, true_implies, false_implies, not_true_eq_false, not_false_eq_true, and_true, true_and, Nat.reduceMod, Nat.reducePow, Nat.reduceAdd, Nat.reduceMul, Nat.reduceDiv, Nat.reduceSub, Nat.reduceEqDiff, Nat.reduceLeDiff, Nat.reduceLT]
        refine ⟨fun g2 => h1 a (3 * c + 0) b ⟨ea, ha, eb, hb, c, 0, rfl, hc, by omega, by rw [g2]; decide, rfl, by omega, by omega, by omega⟩, fun g2 => h0 (no (.inr g2))⟩
theorem Dec_j {n m : Nat} {p l k q : Int32} {a j b : Nat} (D : Dec n m p l k q a j b) (n3 : n ≤ 3) (m2 : m ≤ 2) : a < 3 ∧ b < 3 ∧ j < 18 ∧ 3 * a + b < 9 ∧ slotOk m j = true := by
  obtain ⟨_, ha, _, hb, c, i, _, hc, hi, _, ej, h02, h24, him⟩ := D
  refine ⟨by omega, by omega, by omega, by omega, ?_⟩
  have hm : m = 0 ∨ m = 1 ∨ m = 2 := by omega
  have hc6 : c = 0 ∨ c = 1 ∨ c = 2 ∨ c = 3 ∨ c = 4 ∨ c = 5 := by omega
  have hi3 : i = 0 ∨ i = 1 ∨ i = 2 := by omega
  rw [ej]
  rcases hm with rfl | rfl | rfl <;> rcases hc6 with rfl | rfl | rfl | rfl | rfl | rfl <;> rcases hi3 with rfl | rfl | rfl <;>
    first | rfl | omega | (exfalso; have := h02 (by omega); omega) | (exfalso; have := h24 (by omega) (by omega); omega)
theorem Dec_slot {n m : Nat} {p l k q : Int32} {a j b : Nat} (D : Dec n m p l k q a j b) {K : Int32 → Prop} (h : K (nI j)) : wX5_slot l k K := by
  obtain ⟨_, _, _, _, c, i, el, hc, hi, hk, ej, _, _, _⟩ := D
  unfold wX5_slot
  rw [el, Int32.add_assoc, show (1 : Int32) = nI 1 from rfl, hk, show (3 : Int32) = nI 3 from rfl, pk_mul, nI_add, Nat.mul_comm, ← ej]
  exact h
theorem Dec_way {n m : Nat} {w : Nat → Nat} {p l k q : Int32} {a j b : Nat} (D : Dec n m p l k q a j b) {K : Int32 → Prop} (h : K (nI (w j))) : wX5_way l k (fun j => nI (w j)) K := by
  obtain ⟨_, _, _, _, c, i, el, hc, hi, hk, ej, _, _, _⟩ := D
  subst el
  exact q_way hc hi hk (ej ▸ h)
theorem Dec_pair {n m : Nat} {p l k q : Int32} {a j b : Nat} (D : Dec n m p l k q a j b) (n3 : n ≤ 3) {K : Int32 → Prop} (h : K (nI (2 ^ (3 * a + b)))) : wX5_pair p q K := by
  obtain ⟨ep, ha, eq, hb, _⟩ := D
  rw [ep, eq]
  exact q_pair (by omega) (by omega) h
theorem tb_and : ∀ x, x < 512 → ∀ c, c < 9 → (x &&& 2 ^ c = 0 ↔ x.testBit c = false) := by decide +kernel
theorem q_holds {n m t : Nat} {w : Nat → Nat} (W : WfR n m t w) {p l k q : Int32} {a j b : Nat} (D : Dec n m p l k q a j b) {K : Int32 → Prop} (h : K (nI (if (w j).testBit (3 * a + b) then 1 else 0))) : wX5_holds p l k q (fun j => nI (w j)) K := by
  obtain ⟨n1, n3, m1, m2, _, hR, _⟩ := W
  obtain ⟨_, _, _, h9, _⟩ := Dec_j D n3 m2
  unfold wX5_holds
  refine Dec_way D (Dec_pair D n3 ?_)
  have h5 := (hR j).1
  have hle : w j &&& 2 ^ (3 * a + b) ≤ w j := Nat.and_le_left
  simp (disch := omega) only [q_lit, nI_add, pk_mul, q_a1, q_a3, q_a7, q_a31, q_a63, q_a255, q_a511, q_or, q_shr, q_shl, q_le, q_lt, q_eq, q_in, q_cl, q_neg, q_neg', q_nlt0, q_nle, q_nlt, q_nle', q_nlt', forall_eq, true_implies, false_implies, not_true_eq_false, not_false_eq_true, and_true, true_and, Nat.reduceMod, Nat.reducePow, Nat.reduceAdd, Nat.reduceMul, Nat.reduceDiv, Nat.reduceSub, Nat.reduceEqDiff, Nat.reduceLeDiff, Nat.reduceLT, q_and, tb_and (w j) h5 _ h9]
  cases g : (w j).testBit (3 * a + b) <;> rw [g] at h <;> simp only [q_lit, nI_add, pk_mul, q_a1, q_a3, q_a7, q_a31, q_a63, q_a255, q_a511, q_or, q_shr, q_shl, q_le, q_lt, q_eq, q_in, q_cl, q_neg, q_neg', q_nlt0, q_nle, q_nlt, q_nle', q_nlt', forall_eq, true_implies, false_implies, not_true_eq_false, not_false_eq_true, and_true, true_and, Nat.reduceMod, Nat.reducePow, Nat.reduceAdd, Nat.reduceMul, Nat.reduceDiv, Nat.reduceSub, Nat.reduceEqDiff, Nat.reduceLeDiff, Nat.reduceLT, Bool.true_eq_false, Bool.false_eq_true, if_true, if_false] at h ⊢ <;> exact h
/-- without the bit c -/
def clr (x c : Nat) : Nat := if x.testBit c then x - 2 ^ c else x
theorem q_clr : ∀ x, x < 512 → ∀ c, c < 9 → nI x &&& (nI (2 ^ c) ^^^ -nI 1) = nI (clr x c) := by decide +kernel
def chkC (n x c : Nat) : Bool := !(thn3 (idn n) x == x && thn3 x (idn n) == x) || (thn3 (idn n) (clr x c) == clr x c && thn3 (clr x c) (idn n) == clr x c && Nat.blt (clr x c) 512)
theorem Rn_clr0 : ∀ n, n < 4 → ∀ x, x < 512 → ∀ c, c < 9 → chkC n x c = true := by decide +kernel
theorem Rn_clr {n x c : Nat} (h3 : n ≤ 3) (hx : Rn n x) (hc : c < 9) : Rn n (clr x c) := by
  have h := Rn_clr0 n (by omega) x hx.1 c hc
  unfold chkC at h
  rw [hx.2.1, hx.2.2] at h
  simp only [BEq.rfl, Bool.and_self, Bool.not_true, Bool.false_or, Bool.and_eq_true, beq_iff_eq, Nat.blt_eq] at h
  exact ⟨h.2, h.1.1, h.1.2⟩
theorem WfR_upd {n m t : Nat} {w : Nat → Nat} (W : WfR n m t w) {j x : Nat} (hs : slotOk m j = true) (hx : Rn n x) : WfR n m t (updN w j x) := by
  obtain ⟨h1, h2, h3, h4, h5, hR, hz⟩ := W
  refine ⟨h1, h2, h3, h4, h5, fun i => ?_, fun i hi => ?_⟩
  · unfold updN; split
    · exact hx
    · exact hR i
  · unfold updN; split
    · rename_i e; rw [e, hs] at hi; exact absurd hi (by decide)
    · exact hz i hi
theorem q_add {n m t : Nat} {w : Nat → Nat} (W : WfR n m t w) {p l k q : Int32} {a j b : Nat} (D : Dec n m p l k q a j b) {ch : Int32} {K : Int32 → (Nat → Int32) → Prop} (h : K (ch + 1) (fun i => nI (updN w j (w j ||| 2 ^ (3 * a + b)) i))) : wX5_add p l k q (nI n) (nI m) ch (fun j => nI (w j)) K := by
  obtain ⟨_, n3, m1, m2, _, hR, _⟩ := id W
  obtain ⟨_, _, h18, h9, _⟩ := Dec_j D n3 m2
  unfold wX5_add
  refine q_knows W (fun a' j' b' _ => ?_) (fun g => absurd D (g a j b))
  simp (disch := omega) only [q_lit, nI_add, pk_mul, q_a1, q_a3, q_a7, q_a31, q_a63, q_a255, q_a511, q_or, q_shr, q_shl, q_le, q_lt, q_eq, q_in, q_cl, q_neg, q_neg', q_nlt0, q_nle, q_nlt, q_nle', q_nlt', forall_eq, true_implies, false_implies, not_true_eq_false, not_false_eq_true, and_true, true_and, Nat.reduceMod, Nat.reducePow, Nat.reduceAdd, Nat.reduceMul, Nat.reduceDiv, Nat.reduceSub, Nat.reduceEqDiff, Nat.reduceLeDiff, Nat.reduceLT]
  refine Dec_slot D ?_
  simp (disch := omega) only [q_lit, nI_add, pk_mul, q_a1, q_a3, q_a7, q_a31, q_a63, q_a255, q_a511, q_or, q_shr, q_shl, q_le, q_lt, q_eq, q_in, q_cl, q_neg, q_neg', q_nlt0, q_nle, q_nlt, q_nle', q_nlt', forall_eq, true_implies, false_implies, not_true_eq_false, not_false_eq_true, and_true, true_and, Nat.reduceMod, Nat.reducePow, Nat.reduceAdd, Nat.reduceMul, Nat.reduceDiv, Nat.reduceSub, Nat.reduceEqDiff, Nat.reduceLeDiff, Nat.reduceLT]
  refine ⟨h18, Dec_pair D n3 ?_⟩
  simp (disch := omega) only [q_lit, nI_add, pk_mul, q_a1, q_a3, q_a7, q_a31, q_a63, q_a255, q_a511, q_or, q_shr, q_shl, q_le, q_lt, q_eq, q_in, q_cl, q_neg, q_neg', q_nlt0, q_nle, q_nlt, q_nle', q_nlt', forall_eq, true_implies, false_implies, not_true_eq_false, not_false_eq_true, and_true, true_and, Nat.reduceMod, Nat.reducePow, Nat.reduceAdd, Nat.reduceMul, Nat.reduceDiv, Nat.reduceSub, Nat.reduceEqDiff, Nat.reduceLeDiff, Nat.reduceLT]
  refine ⟨h18, ?_⟩
  rw [q_updN]
  exact h
theorem q_remove {n m t : Nat} {w : Nat → Nat} (W : WfR n m t w) {p l k q : Int32} {a j b : Nat} (D : Dec n m p l k q a j b) {ch : Int32} {K : Int32 → (Nat → Int32) → Prop} (h : K (ch + 1) (fun i => nI (updN w j (clr (w j) (3 * a + b)) i))) : wX5_remove p l k q (nI n) (nI m) ch (fun j => nI (w j)) K := by
  obtain ⟨_, n3, m1, m2, _, hR, _⟩ := id W
  obtain ⟨_, _, h18, h9, _⟩ := Dec_j D n3 m2
  unfold wX5_remove
  refine q_knows W (fun a' j' b' _ => ?_) (fun g => absurd D (g a j b))
  simp (disch := omega) only [q_lit, nI_add, pk_mul, q_a1, q_a3, q_a7, q_a31, q_a63, q_a255, q_a511, q_or, q_shr, q_shl, q_le, q_lt, q_eq, q_in, q_cl, q_neg, q_neg', q_nlt0, q_nle, q_nlt, q_nle', q_nlt', forall_eq, true_implies, false_implies, not_true_eq_false, not_false_eq_true, and_true, true_and, Nat.reduceMod, Nat.reducePow, Nat.reduceAdd, Nat.reduceMul, Nat.reduceDiv, Nat.reduceSub, Nat.reduceEqDiff, Nat.reduceLeDiff, Nat.reduceLT]
  refine Dec_slot D ?_
  simp (disch := omega) only [q_lit, nI_add, pk_mul, q_a1, q_a3, q_a7, q_a31, q_a63, q_a255, q_a511, q_or, q_shr, q_shl, q_le, q_lt, q_eq, q_in, q_cl, q_neg, q_neg', q_nlt0, q_nle, q_nlt, q_nle', q_nlt', forall_eq, true_implies, false_implies, not_true_eq_false, not_false_eq_true, and_true, true_and, Nat.reduceMod, Nat.reducePow, Nat.reduceAdd, Nat.reduceMul, Nat.reduceDiv, Nat.reduceSub, Nat.reduceEqDiff, Nat.reduceLeDiff, Nat.reduceLT]
  refine ⟨h18, Dec_pair D n3 ?_⟩
  rw [q_clr _ (hR j).1 _ h9]
  refine ⟨h18, ?_⟩
  rw [q_updN]
  exact h
/-- how many bits of 9 -/
def pc9 (x : Nat) : Nat := x % 2 + x / 2 % 2 + x / 4 % 2 + x / 8 % 2 + x / 16 % 2 + x / 32 % 2 + x / 64 % 2 + x / 128 % 2 + x / 256 % 2
def sumN (f : Nat → Nat) : Nat → Nat
  | 0 => 0
  | n + 1 => sumN f n + f n
theorem pc9_le (x : Nat) : pc9 x ≤ 9 := by unfold pc9; omega
theorem sumN_le {f : Nat → Nat} {c : Nat} (h : ∀ i, f i ≤ c) : ∀ n, sumN f n ≤ n * c
  | 0 => by simp [sumN]
  | n + 1 => by have := sumN_le h n; have := h n; rw [sumN, Nat.succ_mul]; omega
/-- Integer.bitCount's own steps -/
def bcI (p0 : Int32) : Int32 :=
  let x1 := p0 - (((p0).toUInt32 >>> ((1 : Int32).toUInt32 &&& Int32.toUInt32 31)).toInt32 &&& 1431655765)
  let x2 := (x1 &&& 858993459) + (((x1).toUInt32 >>> ((2 : Int32).toUInt32 &&& Int32.toUInt32 31)).toInt32 &&& 858993459)
  let x3 := (x2 + ((x2).toUInt32 >>> ((4 : Int32).toUInt32 &&& Int32.toUInt32 31)).toInt32) &&& 252645135
  let x4 := x3 + ((x3).toUInt32 >>> ((8 : Int32).toUInt32 &&& Int32.toUInt32 31)).toInt32
  let x5 := x4 + ((x4).toUInt32 >>> ((16 : Int32).toUInt32 &&& Int32.toUInt32 31)).toInt32
  x5 &&& 63
theorem bcI_9 : ∀ x, x < 512 → bcI (nI x) = nI (pc9 x) := by decide +kernel
theorem q_bitCount {x : Int32} {K : Int32 → Prop} (h : K (bcI x)) : wJ6_bitCount_0f7a4 x K := by
  unfold wJ6_bitCount_0f7a4
  simp only [forall_eq]
  exact h
theorem q_moveCount {w : Nat → Nat} (hw : ∀ j, w j < 512) {K : Int32 → Prop} (h : K (nI (sumN (fun j => pc9 (w j)) 18))) : wX5_moveCount (fun j => nI (w j)) K := by
  unfold wX5_moveCount wX5_moveCount_L4
  intro P hP
  refine q_cnt0 (Q := fun i => P (nI (sumN (fun j => pc9 (w j)) i)) (nI i)) 18 ?_ ?_
  · refine hP _ _ ?_
    simp (disch := omega) only [q_lit, nI_add, pk_mul, q_a1, q_a3, q_a7, q_a31, q_a63, q_a255, q_a511, q_or, q_shr, q_shl, q_le, q_lt, q_eq, q_in, q_cl, q_neg, q_neg', q_nlt0, q_nle, q_nlt, q_nle', q_nlt', forall_eq, true_implies, false_implies, not_true_eq_false, not_false_eq_true, and_true, true_and, Nat.reduceMod, Nat.reducePow, Nat.reduceAdd, Nat.reduceMul, Nat.reduceDiv, Nat.reduceSub, Nat.reduceEqDiff, Nat.reduceLeDiff, Nat.reduceLT, Nat.le_refl]
    exact h
  · intro i hi ih
    refine hP _ _ ?_
    simp (disch := omega) only [q_lit, nI_add, pk_mul, q_a1, q_a3, q_a7, q_a31, q_a63, q_a255, q_a511, q_or, q_shr, q_shl, q_le, q_lt, q_eq, q_in, q_cl, q_neg, q_neg', q_nlt0, q_nle, q_nlt, q_nle', q_nlt', forall_eq, true_implies, false_implies, not_true_eq_false, not_false_eq_true, and_true, true_and, Nat.reduceMod, Nat.reducePow, Nat.reduceAdd, Nat.reduceMul, Nat.reduceDiv, Nat.reduceSub, Nat.reduceEqDiff, Nat.reduceLeDiff, Nat.reduceLT]
    refine ⟨fun g => absurd g (by omega), fun _ => ⟨hi, q_bitCount ?_⟩⟩
    rw [bcI_9 _ (hw i)]
    simp (disch := omega) only [q_lit, nI_add, pk_mul, q_a1, q_a3, q_a7, q_a31, q_a63, q_a255, q_a511, q_or, q_shr, q_shl, q_le, q_lt, q_eq, q_in, q_cl, q_neg, q_neg', q_nlt0, q_nle, q_nlt, q_nle', q_nlt', forall_eq, true_implies, false_implies, not_true_eq_false, not_false_eq_true, and_true, true_and, Nat.reduceMod, Nat.reducePow, Nat.reduceAdd, Nat.reduceMul, Nat.reduceDiv, Nat.reduceSub, Nat.reduceEqDiff, Nat.reduceLeDiff, Nat.reduceLT]
    exact ih
theorem q_become {n m t : Nat} {w : Nat → Nat} {p0 p1 p2 F1 F2 F3 ch : Int32} {K : Int32 → Int32 → Int32 → Int32 → (Nat → Int32) → Prop} (hw : ∀ j, 18 ≤ j → w j = 0) (h : K p0 p1 p2 (ch + 1) (fun _ => nI 0)) : wX5_become p0 p1 p2 F1 F2 F3 ch (fun j => nI (w j)) K := by
  unfold wX5_become wX5_become_L18
  intro P hP
  refine q_cnt0 (Q := fun i => ∀ v : Nat → Nat, (∀ j, j < i → v j = 0) → (∀ j, 18 ≤ j → v j = 0) → P (nI i) (fun j => nI (v j))) 18 ?_ ?_ w (by omega) hw
  · intro v h1 h2
    refine hP _ _ ?_
    simp (disch := omega) only [q_lit, nI_add, pk_mul, q_a1, q_a3, q_a7, q_a31, q_a63, q_a255, q_a511, q_or, q_shr, q_shl, q_le, q_lt, q_eq, q_in, q_cl, q_neg, q_neg', q_nlt0, q_nle, q_nlt, q_nle', q_nlt', forall_eq, true_implies, false_implies, not_true_eq_false, not_false_eq_true, and_true, true_and, Nat.reduceMod, Nat.reducePow, Nat.reduceAdd, Nat.reduceMul, Nat.reduceDiv, Nat.reduceSub, Nat.reduceEqDiff, Nat.reduceLeDiff, Nat.reduceLT, Nat.le_refl]
    rw [show (fun j => nI (v j)) = fun _ => nI 0 from by funext j; rcases Nat.lt_or_ge j 18 with g | g; rw [h1 j g]; rw [h2 j g]]
    exact h
  · intro i hi ih v h1 h2
    refine hP _ _ ?_
    simp (disch := omega) only [q_lit, nI_add, pk_mul, q_a1, q_a3, q_a7, q_a31, q_a63, q_a255, q_a511, q_or, q_shr, q_shl, q_le, q_lt, q_eq, q_in, q_cl, q_neg, q_neg', q_nlt0, q_nle, q_nlt, q_nle', q_nlt', forall_eq, true_implies, false_implies, not_true_eq_false, not_false_eq_true, and_true, true_and, Nat.reduceMod, Nat.reducePow, Nat.reduceAdd, Nat.reduceMul, Nat.reduceDiv, Nat.reduceSub, Nat.reduceEqDiff, Nat.reduceLeDiff, Nat.reduceLT]
    refine ⟨fun g => absurd g (by omega), fun _ => ⟨hi, ?_⟩⟩
    rw [q_updN]
    refine ih _ (fun j hj => ?_) (fun j hj => ?_)
    · unfold updN; split
      · rfl
      · exact h1 j (by omega)
    · unfold updN; split
      · rfl
      · exact h2 j hj
