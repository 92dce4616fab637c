def HeldOk (y : Sy) (bo n1 m1 t1 n2 m2 t2 : Nat) (w1 w2 : Nat → Nat) : Prop := WfR n1 m1 t1 w1 ∧ WfR n2 m2 t2 w2 ∧ y.1 = (n1, w1) ∧ ((bo = 1 ∧ y.2 = (n2, w2)) ∨ (bo = 0 ∧ y.2 = (0, fun _ => 0)))
theorem HeldOk_Sy {y : Sy} {bo n1 m1 t1 n2 m2 t2 : Nat} {w1 w2 : Nat → Nat} (H : HeldOk y bo n1 m1 t1 n2 m2 t2 w1 w2) : SyOk y := by
  obtain ⟨W1, W2, e1, h⟩ := H
  unfold SyOk
  rw [e1]
  rcases h with ⟨_, e2⟩ | ⟨_, e2⟩
  · rw [e2]; exact ⟨W1.1, W1.2.1, W2.2.1, W1.2.2.2.2.2.1, W2.2.2.2.2.2.1⟩
  · rw [e2]; exact ⟨W1.1, W1.2.1, by omega, W1.2.2.2.2.2.1, fun _ => Rn_0 0⟩
theorem R2_hi {y : Sy} {x : Nat} (hx : R2 y x) (h : y.2.1 = 0) : x < 512 := by
  have e := thn_div (sE y) x
  rw [hx.2.1] at e
  have : sE y / 512 = 0 := by unfold sE; rw [h]; have := idn_lt y.1.1; rw [show idn 0 = 0 from rfl]; omega
  rw [this, thn3_0] at e
  omega
theorem S2_hi {y : Sy} {c : Nat} (hc : S2 y c) (h : y.2.1 = 0) : c < 8 := by
  have e := imc_div c (sE y)
  rw [hc.2] at e
  have : sE y / 512 = 0 := by unfold sE; rw [h]; have := idn_lt y.1.1; rw [show idn 0 = 0 from rfl]; omega
  rw [this, img_y0] at e
  omega
theorem q_jPair {a b : Nat} (ha : a < 512) {K : Int32 → Prop} (h : K (nI (a + 512 * b))) : wX1_joinedPair (nI a) (nI b) K := by
  unfold wX1_joinedPair
  simp (disch := omega) only [q_lit, nI_add, pk_mul, q_a1, q_a3, q_a7, q_a31, q_a63, q_a255, q_a511, q_or, q_shr, q_shl, q_le, q_lt, q_eq, q_in, q_cl, q_neg, q_neg', q_nlt0, q_nle, q_nlt, q_nle', q_nlt', forall_eq, true_implies, false_implies, not_true_eq_false, not_false_eq_true, and_true, true_and, Nat.reduceMod, Nat.reducePow, Nat.reduceAdd, Nat.reduceMul, Nat.reduceDiv, Nat.reduceSub, Nat.reduceEqDiff, Nat.reduceLeDiff, Nat.reduceLT]
  rw [or_mul512 ha]; exact h
theorem q_jCode {a b : Nat} (ha : a < 8) {K : Int32 → Prop} (h : K (nI (a + 8 * b))) : wX1_joinedCode (nI a) (nI b) K := by
  unfold wX1_joinedCode
  simp (disch := omega) only [q_lit, nI_add, pk_mul, q_a1, q_a3, q_a7, q_a31, q_a63, q_a255, q_a511, q_or, q_shr, q_shl, q_le, q_lt, q_eq, q_in, q_cl, q_neg, q_neg', q_nlt0, q_nle, q_nlt, q_nle', q_nlt', forall_eq, true_implies, false_implies, not_true_eq_false, not_false_eq_true, and_true, true_and, Nat.reduceMod, Nat.reducePow, Nat.reduceAdd, Nat.reduceMul, Nat.reduceDiv, Nat.reduceSub, Nat.reduceEqDiff, Nat.reduceLeDiff, Nat.reduceLT]
  rw [or_mul8 ha]; exact h
theorem q_thenH {x z : Nat} (hx : x < 262144) (hz : z < 262144) {K : Int32 → Prop} (h : K (nI (thn x z))) : wX1_then (nI x) (nI z) K := by
  unfold wX1_then
  simp (disch := omega) only [q_lit, nI_add, pk_mul, q_a1, q_a3, q_a7, q_a31, q_a63, q_a255, q_a511, q_or, q_shr, q_shl, q_le, q_lt, q_eq, q_in, q_cl, q_neg, q_neg', q_nlt0, q_nle, q_nlt, q_nle', q_nlt', forall_eq, true_implies, false_implies, not_true_eq_false, not_false_eq_true, and_true, true_and, Nat.reduceMod, Nat.reducePow, Nat.reduceAdd, Nat.reduceMul, Nat.reduceDiv, Nat.reduceSub, Nat.reduceEqDiff, Nat.reduceLeDiff, Nat.reduceLT]
  refine q_then (by omega) (by omega) (q_then (by omega) (by omega) (q_jPair (thn3_lt _ _) ?_))
  rw [thn3_mod, thn3_mod]; exact h
theorem q_imageH {c x : Nat} (hc : c < 64) (hx : x < 262144) {K : Int32 → Prop} (h : K (nI (imc c x))) : wX1_image (nI c) (nI x) K := by
  unfold wX1_image
  simp (disch := omega) only [q_lit, nI_add, pk_mul, q_a1, q_a3, q_a7, q_a31, q_a63, q_a255, q_a511, q_or, q_shr, q_shl, q_le, q_lt, q_eq, q_in, q_cl, q_neg, q_neg', q_nlt0, q_nle, q_nlt, q_nle', q_nlt', forall_eq, true_implies, false_implies, not_true_eq_false, not_false_eq_true, and_true, true_and, Nat.reduceMod, Nat.reducePow, Nat.reduceAdd, Nat.reduceMul, Nat.reduceDiv, Nat.reduceSub, Nat.reduceEqDiff, Nat.reduceLeDiff, Nat.reduceLT]
  refine q_image (by omega) (by omega) (q_image (by omega) (by omega) (q_jCode (img_lt _ _) ?_))
  rw [img_mod, img_mod, img_mody, img_mody]; exact h
theorem q_bo {bo : Nat} (h : bo = 0 ∨ bo = 1) {A B : Prop} (h0 : bo = 0 → A) (h1 : bo = 1 → B) : (nI bo = 0 → A) ∧ (¬ nI bo = 0 → B) := by
  rcases h with rfl | rfl
  · exact ⟨fun _ => h0 rfl, fun g => absurd rfl g⟩
  · exact ⟨fun g => absurd g (by decide), fun _ => h1 rfl⟩
theorem HeldOk_bo {y : Sy} {bo n1 m1 t1 n2 m2 t2 : Nat} {w1 w2 : Nat → Nat} (H : HeldOk y bo n1 m1 t1 n2 m2 t2 w1 w2) : bo = 0 ∨ bo = 1 := by
  rcases H.2.2.2 with ⟨h, _⟩ | ⟨h, _⟩
  · exact .inr h
  · exact .inl h
theorem HeldOk_1 {y : Sy} {bo n1 m1 t1 n2 m2 t2 : Nat} {w1 w2 : Nat → Nat} (H : HeldOk y bo n1 m1 t1 n2 m2 t2 w1 w2) (h : bo = 1) : y.2 = (n2, w2) := by
  rcases H.2.2.2 with ⟨_, e⟩ | ⟨g, _⟩
  · exact e
  · omega
theorem HeldOk_0 {y : Sy} {bo n1 m1 t1 n2 m2 t2 : Nat} {w1 w2 : Nat → Nat} (H : HeldOk y bo n1 m1 t1 n2 m2 t2 w1 w2) (h : bo = 0) : y.2 = (0, fun _ => 0) := by
  rcases H.2.2.2 with ⟨g, _⟩ | ⟨_, e⟩
  · omega
  · exact e
section
variable {y : Sy} {bo n1 m1 t1 n2 m2 t2 : Nat} {w1 w2 : Nat → Nat}
theorem q_identityH (H : HeldOk y bo n1 m1 t1 n2 m2 t2 w1 w2) {K : Int32 → Prop} (h : K (nI (sE y))) : wX1_identity (nI bo) (nI n1) (nI n2) K := by
  have e1 := H.2.2.1
  unfold wX1_identity
  refine q_identity H.1.1 H.1.2.1 (q_bo (HeldOk_bo H) (fun g => ?_) (fun g => ?_))
  · refine q_jPair (idn_lt _) ?_
    unfold sE at h; rw [e1, HeldOk_0 H g] at h; exact h
  · refine q_identity H.2.1.1 H.2.1.2.1 (q_jPair (idn_lt _) ?_)
    unfold sE at h; rw [e1, HeldOk_1 H g] at h; exact h
theorem q_plainH (H : HeldOk y bo n1 m1 t1 n2 m2 t2 w1 w2) {l : Nat} (hl : l < 6) {K : Int32 → Prop} (h : K (nI (sP y l))) : wX1_plain (nI l) (nI bo) (nI n1) (fun j => nI (w1 j)) (nI n2) (fun j => nI (w2 j)) K := by
  have e1 := H.2.2.1
  have r1 := H.1.2.2.2.2.2.1 (3 * l + 1)
  have r2 := H.2.1.2.2.2.2.2.1 (3 * l + 1)
  have := r1.1; have := r2.1
  have := (R2_E (y := y)).1
  unfold wX1_plain
  refine q_identityH H (q_way (k := 1) hl (by omega) rfl (q_way (k := 1) hl (by omega) rfl (q_jPair r1.1 (q_thenH (by omega) (by omega) ?_))))
  have e : thn (sE y) (w1 (3 * l + 1) + 512 * w2 (3 * l + 1)) = sP y l := by
    unfold sE sP
    rw [thn_cmb (idn_lt _) r1.1, e1]
    rcases HeldOk_bo H with g | g
    · rw [HeldOk_0 H g]; show _ + 512 * thn3 0 _ = _ + 512 * 0; rw [thn3_0, r1.2.1]
    · rw [HeldOk_1 H g]; show _ + 512 * thn3 (idn n2) _ = _ + 512 * _; rw [r1.2.1, r2.2.1]
  rw [e]; exact h
theorem q_wrappedH (H : HeldOk y bo n1 m1 t1 n2 m2 t2 w1 w2) {a e x : Nat} (ha : a < 2) (he : 4 ≤ e) (he6 : e < 6) (hx : R2 y x) {K : Int32 → Prop} (h : K (nI (sB y a e x))) : wX1_wrapped (nI a) (nI e) (nI x) (nI m1) (fun j => nI (w1 j)) (nI m2) (fun j => nI (w2 j)) K := by
  have e1 := H.2.2.1
  have := hx.1
  unfold wX1_wrapped
  simp (disch := omega) only [q_lit, nI_add, pk_mul, q_a1, q_a3, q_a7, q_a31, q_a63, q_a255, q_a511, q_or, q_shr, q_shl, q_le, q_lt, q_eq, q_in, q_cl, q_neg, q_neg', q_nlt0, q_nle, q_nlt, q_nle', q_nlt', forall_eq, true_implies, false_implies, not_true_eq_false, not_false_eq_true, and_true, true_and, Nat.reduceMod, Nat.reducePow, Nat.reduceAdd, Nat.reduceMul, Nat.reduceDiv, Nat.reduceSub, Nat.reduceEqDiff, Nat.reduceLeDiff, Nat.reduceLT]
  refine q_wrapped H.1 ha he he6 (by omega) (q_wrapped H.2.1 ha he he6 (by omega) (q_jPair (wrp_lt _ _ _ _) ?_))
  have wm : ∀ (w : Nat → Nat) z, wrp w a e (z % 512) = wrp w a e z := fun w z => by unfold wrp; rw [thn3_modr, thn3_modr]
  rw [wm, wm]
  unfold sB at h
  rw [e1] at h
  rcases HeldOk_bo H with g | g
  · rw [HeldOk_0 H g] at h
    have hz : x / 512 = 0 := by have := R2_hi hx (by rw [HeldOk_0 H g]); omega
    rw [hz] at h ⊢
    rw [wrp_0] at h ⊢; exact h
  · rw [HeldOk_1 H g] at h; exact h
theorem q_aloneH (H : HeldOk y bo n1 m1 t1 n2 m2 t2 w1 w2) {l c : Nat} (hl : l < 6) (hc : S2 y c) {K : Int32 → Prop} (h : K (nI (sA y l c))) : wX1_alone (nI l) (nI c) (fun j => nI (w1 j)) (fun j => nI (w2 j)) K := by
  have e1 := H.2.2.1
  have r1 := (Rn_aln (H.1.2.2.2.2.2.1) l).1
  have r2 := (Rn_aln (H.2.1.2.2.2.2.2.1) l).1
  unfold wX1_alone
  refine q_alone hl (q_alone hl (q_jPair r1 (q_imageH hc.1 (by omega) ?_)))
  unfold imc
  rw [cmb_div r1, img_cl r1]
  unfold sA at h
  rw [e1] at h
  rcases HeldOk_bo H with g | g
  · rw [HeldOk_0 H g] at h
    have hz : c / 8 = 0 := by have := S2_hi hc (by rw [HeldOk_0 H g]); omega
    rw [hz] at h ⊢
    rw [img_0] at h ⊢; exact h
  · rw [HeldOk_1 H g] at h; exact h
theorem q_beginH (H : HeldOk y bo n1 m1 t1 n2 m2 t2 w1 w2) {K : Int32 → Prop} (h : K (nI (s0 y))) : wX1_beginning (nI bo) K := by
  unfold wX1_beginning
  refine q_bo (HeldOk_bo H) (fun g => q_jCode (a := 1) (b := 0) (by decide) ?_) (fun g => q_jCode (a := 1) (b := 1) (by decide) ?_)
  · unfold s0 at h; rw [HeldOk_0 H g] at h; exact h
  · unfold s0 at h; rw [HeldOk_1 H g] at h
    have := H.2.1.1
    rw [if_neg (show ¬ n2 = 0 by omega)] at h; exact h
end
