section
variable {tb : Nat → Nat} {z n m : Nat}
theorem MvOk_end {i p a c k b : Nat} (hi : i ≤ z) (h : MvOk tb z n m i p a c k b) : p ≤ z := by
  have he0 := (tkE_spec tb hi).2
  have he1 := (tkE_spec tb he0).2
  have he2 := (tkE_spec tb he1).2
  have he3 := (tkE_spec tb he2).2
  have he4 := (tkE_spec tb he3).2
  have he5 := (tkE_spec tb he4).2
  obtain ⟨_, _, _, _, i2, ei2, D⟩ := h
  subst ei2
  rcases D with ⟨_, _, i3, ei3, _, _, i4, ei4, ⟨_, _, ep⟩ | ⟨_, _, i5, ei5, _, _, ep⟩⟩ | ⟨_, _, i3, ei3, _, i4, ei4, _, i5, ei5, _, _, ep⟩
  · subst ei3; subst ei4; subst ep; exact he3
  · subst ei3; subst ei4; subst ei5; subst ep; exact he5
  · subst ei3; subst ei4; subst ei5; subst ep; exact he5
theorem MvOk_dec {i p a c k b : Nat} (hm1 : 1 ≤ m) (hm : m ≤ 2) (h : MvOk tb z n m i p a c k b) {mk : Int32} (hk : mk + nI 1 = nI k) : Dec n m (nI a) (nI c) mk (nI b) a (3 * c + k) b := by
  obtain ⟨g0, ea, gl, ec, i2, ei2, D⟩ := h
  have c6 : c < 6 := by have := gl.2.2; omega
  have ha : a < n := by have := isNm_lt g0; omega
  rcases D with ⟨c4, _, i3, _, g3, eb, i4, _, ⟨c2, ek, _⟩ | ⟨c2, _, i5, _, g5, ek, _⟩⟩ | ⟨c4, _, i3, _, F, i4, _, _, i5, _, g5, eb, _⟩
  · have hb : b < n := by have := isNm_lt g3; omega
    refine ⟨rfl, ha, rfl, hb, c, k, rfl, c6, by omega, hk, rfl, fun _ => by omega, fun _ _ => ek, ?_⟩
    omega
  · have hb : b < n := by have := isNm_lt g3; omega
    have := isNm_lt g5
    exact ⟨rfl, ha, rfl, hb, c, k, rfl, c6, by omega, hk, rfl, fun _ => by omega, fun _ _ => by omega, by omega⟩
  · have hb : b < n := by have := isNm_lt g5; omega
    have hkm : k ≤ m := by
      rcases F with ⟨_, ek⟩ | ⟨_, g, ek⟩
      · omega
      · have := isNm_lt g; omega
    exact ⟨rfl, ha, rfl, hb, c, k, rfl, c6, by omega, hk, rfl, fun _ => by omega, fun _ _ => by omega, hkm⟩
end
section
variable {tb : Nat → Nat} {z n m : Nat}
theorem q_ff0 (hz : z ≤ 160) (hb : ∀ j, tb j < 256) (hn : n ≤ 3) (hm : m ≤ 2) {f l mk t ch : Int32} {A : Nat → Int32} {s0 s1 : Int32} {K : Int32 → Int32 → Int32 → Int32 → Int32 → Int32 → Int32 → Int32 → (Nat → Int32) → Prop}
    (h1 : ∀ s, FB tb z n m 16 0 s → ∀ u1 u2 f' l' mk' t', K (nI s) u1 u2 f' l' mk' t' ch A)
    (h0 : ∀ L, FO tb z n m 16 0 L → ∀ u1 u2 f' l' mk' t', K (-nI 1) u1 u2 f' l' mk' t' ch A) :
    wX8_faultFor (nI 0) (nI z) s0 s1 f l mk t (fun j => nI (tb j)) (nI n) (nI m) ch A K := by
  unfold wX8_faultFor
  refine q_step hz hb (Nat.zero_le _) ?_
  unfold wX8_faultFor_L11
  intro P hP
  have main : ∀ k, k < 16 → ∀ i, i ≤ z → (∀ s, FB tb z n m (k + 1) i s → FB tb z n m 16 0 s) → (∀ L, FO tb z n m (k + 1) i L → ∃ L', FO tb z n m 16 0 L') → ∀ f l mk t, P (nI (16 - k)) (nI (tkS tb z i)) (nI (tkE tb z i)) f l mk t ch A := by
    intro k
    induction k with
    | zero =>
      intro _ i hi H1 H0 f l mk t
      refine hP _ _ _ _ _ _ _ _ _ ?_
      simp (disch := omega) only [q_lit, nI_add, pk_mul, q_a1, q_a3, q_a7, q_a31, q_a63, q_a255, q_a511, q_or, q_shr, q_shl, q_le, q_lt, q_eq, q_in, q_cl, q_neg, q_neg', q_nlt0, q_nle, q_nlt, q_nle', q_nlt', forall_eq, true_implies, false_implies, not_true_eq_false, not_false_eq_true, and_true, true_and, Nat.reduceMod, Nat.reducePow, Nat.reduceAdd, Nat.reduceMul, Nat.reduceDiv, Nat.reduceSub, Nat.reduceEqDiff, Nat.reduceLeDiff, Nat.reduceLT]
      refine q_readMove hz hb hi hn hm (fun p a c kk b mk' hO _ => ?_) (fun s hB e f' l' mk' t' => ?_)
      · have hp := MvOk_end hi hO
        have hs := tkS_spec tb hp
        simp (disch := omega) only [q_lit, nI_add, pk_mul, q_a1, q_a3, q_a7, q_a31, q_a63, q_a255, q_a511, q_or, q_shr, q_shl, q_le, q_lt, q_eq, q_in, q_cl, q_neg, q_neg', q_nlt0, q_nle, q_nlt, q_nle', q_nlt', forall_eq, true_implies, false_implies, not_true_eq_false, not_false_eq_true, and_true, true_and, Nat.reduceMod, Nat.reducePow, Nat.reduceAdd, Nat.reduceMul, Nat.reduceDiv, Nat.reduceSub, Nat.reduceEqDiff, Nat.reduceLeDiff, Nat.reduceLT]
        refine q_head hz (fun g => ?_) (fun g => ?_) (by omega)
        · have hb1 := hb (tkS tb z p)
          simp (disch := omega) only [q_lit, nI_add, pk_mul, q_a1, q_a3, q_a7, q_a31, q_a63, q_a255, q_a511, q_or, q_shr, q_shl, q_le, q_lt, q_eq, q_in, q_cl, q_neg, q_neg', q_nlt0, q_nle, q_nlt, q_nle', q_nlt', forall_eq, true_implies, false_implies, not_true_eq_false, not_false_eq_true, and_true, true_and, Nat.reduceMod, Nat.reducePow, Nat.reduceAdd, Nat.reduceMul, Nat.reduceDiv, Nat.reduceSub, Nat.reduceEqDiff, Nat.reduceLeDiff, Nat.reduceLT]
          refine q_head hz (fun _ => ?_) (fun g' => absurd g' (by omega)) (by omega)
          simp (disch := omega) only [q_lit, nI_add, pk_mul, q_a1, q_a3, q_a7, q_a31, q_a63, q_a255, q_a511, q_or, q_shr, q_shl, q_le, q_lt, q_eq, q_in, q_cl, q_neg, q_neg', q_nlt0, q_nle, q_nlt, q_nle', q_nlt', forall_eq, true_implies, false_implies, not_true_eq_false, not_false_eq_true, and_true, true_and, Nat.reduceMod, Nat.reducePow, Nat.reduceAdd, Nat.reduceMul, Nat.reduceDiv, Nat.reduceSub, Nat.reduceEqDiff, Nat.reduceLeDiff, Nat.reduceLT]
          refine ⟨fun g9 => ?_, fun g9 => ?_⟩
          · exact h1 _ (H1 _ (.inr ⟨p, a, c, kk, b, hO, g, .inr ⟨g9, .inl ⟨rfl, rfl⟩⟩⟩)) _ _ _ _ _ _
          · exact h1 _ (H1 _ (.inr ⟨p, a, c, kk, b, hO, g, .inl ⟨g9, rfl⟩⟩)) _ _ _ _ _ _
        · simp (disch := omega) only [q_lit, nI_add, pk_mul, q_a1, q_a3, q_a7, q_a31, q_a63, q_a255, q_a511, q_or, q_shr, q_shl, q_le, q_lt, q_eq, q_in, q_cl, q_neg, q_neg', q_nlt0, q_nle, q_nlt, q_nle', q_nlt', forall_eq, true_implies, false_implies, not_true_eq_false, not_false_eq_true, and_true, true_and, Nat.reduceMod, Nat.reducePow, Nat.reduceAdd, Nat.reduceMul, Nat.reduceDiv, Nat.reduceSub, Nat.reduceEqDiff, Nat.reduceLeDiff, Nat.reduceLT]
          obtain ⟨L', hL⟩ := H0 _ ⟨p, a, c, kk, b, hO, .inl ⟨g, rfl⟩⟩
          exact h0 _ hL _ _ _ _ _ _
      · simp (disch := omega) only [q_lit, nI_add, pk_mul, q_a1, q_a3, q_a7, q_a31, q_a63, q_a255, q_a511, q_or, q_shr, q_shl, q_le, q_lt, q_eq, q_in, q_cl, q_neg, q_neg', q_nlt0, q_nle, q_nlt, q_nle', q_nlt', forall_eq, true_implies, false_implies, not_true_eq_false, not_false_eq_true, and_true, true_and, Nat.reduceMod, Nat.reducePow, Nat.reduceAdd, Nat.reduceMul, Nat.reduceDiv, Nat.reduceSub, Nat.reduceEqDiff, Nat.reduceLeDiff, Nat.reduceLT]
        exact h1 _ (H1 _ (.inl hB)) _ _ _ _ _ _
    | succ k ih =>
      intro hk i hi H1 H0 f l mk t
      refine hP _ _ _ _ _ _ _ _ _ ?_
      simp (disch := omega) only [q_lit, nI_add, pk_mul, q_a1, q_a3, q_a7, q_a31, q_a63, q_a255, q_a511, q_or, q_shr, q_shl, q_le, q_lt, q_eq, q_in, q_cl, q_neg, q_neg', q_nlt0, q_nle, q_nlt, q_nle', q_nlt', forall_eq, true_implies, false_implies, not_true_eq_false, not_false_eq_true, and_true, true_and, Nat.reduceMod, Nat.reducePow, Nat.reduceAdd, Nat.reduceMul, Nat.reduceDiv, Nat.reduceSub, Nat.reduceEqDiff, Nat.reduceLeDiff, Nat.reduceLT]
      refine ⟨fun g => absurd g (by omega), fun _ => ?_⟩
      refine q_readMove hz hb hi hn hm (fun p a c kk b mk' hO _ => ?_) (fun s hB e f' l' mk' t' => ?_)
      · have hp := MvOk_end hi hO
        have hs := tkS_spec tb hp
        have hpe := (tkE_spec tb hp).2
        simp (disch := omega) only [q_lit, nI_add, pk_mul, q_a1, q_a3, q_a7, q_a31, q_a63, q_a255, q_a511, q_or, q_shr, q_shl, q_le, q_lt, q_eq, q_in, q_cl, q_neg, q_neg', q_nlt0, q_nle, q_nlt, q_nle', q_nlt', forall_eq, true_implies, false_implies, not_true_eq_false, not_false_eq_true, and_true, true_and, Nat.reduceMod, Nat.reducePow, Nat.reduceAdd, Nat.reduceMul, Nat.reduceDiv, Nat.reduceSub, Nat.reduceEqDiff, Nat.reduceLeDiff, Nat.reduceLT]
        refine q_head hz (fun g => ?_) (fun g => ?_) (by omega)
        · have hb1 := hb (tkS tb z p)
          simp (disch := omega) only [q_lit, nI_add, pk_mul, q_a1, q_a3, q_a7, q_a31, q_a63, q_a255, q_a511, q_or, q_shr, q_shl, q_le, q_lt, q_eq, q_in, q_cl, q_neg, q_neg', q_nlt0, q_nle, q_nlt, q_nle', q_nlt', forall_eq, true_implies, false_implies, not_true_eq_false, not_false_eq_true, and_true, true_and, Nat.reduceMod, Nat.reducePow, Nat.reduceAdd, Nat.reduceMul, Nat.reduceDiv, Nat.reduceSub, Nat.reduceEqDiff, Nat.reduceLeDiff, Nat.reduceLT]
          refine q_head hz (fun _ => ?_) (fun g' => absurd g' (by omega)) (by omega)
          simp (disch := omega) only [q_lit, nI_add, pk_mul, q_a1, q_a3, q_a7, q_a31, q_a63, q_a255, q_a511, q_or, q_shr, q_shl, q_le, q_lt, q_eq, q_in, q_cl, q_neg, q_neg', q_nlt0, q_nle, q_nlt, q_nle', q_nlt', forall_eq, true_implies, false_implies, not_true_eq_false, not_false_eq_true, and_true, true_and, Nat.reduceMod, Nat.reducePow, Nat.reduceAdd, Nat.reduceMul, Nat.reduceDiv, Nat.reduceSub, Nat.reduceEqDiff, Nat.reduceLeDiff, Nat.reduceLT]
          refine ⟨fun g9 => ⟨fun g => absurd g (by omega), fun _ => ?_⟩, fun g9 => ?_⟩
          · refine q_step hz hb hpe ?_
            try simp (disch := omega) only [q_lit, nI_add, pk_mul, q_a1, q_a3, q_a7, q_a31, q_a63, q_a255, q_a511, q_or, q_shr, q_shl, q_le, q_lt, q_eq, q_in, q_cl, q_neg, q_neg', q_nlt0, q_nle, q_nlt, q_nle', q_nlt', forall_eq, true_implies, false_implies, not_true_eq_false, not_false_eq_true, and_true, true_and, Nat.reduceMod, Nat.reducePow, Nat.reduceAdd, Nat.reduceMul, Nat.reduceDiv, Nat.reduceSub, Nat.reduceEqDiff, Nat.reduceLeDiff, Nat.reduceLT]
            rw [show 16 - (k + 1) + 1 = 16 - k from by omega]
            refine ih (by omega) _ hpe (fun s hB => H1 _ (.inr ⟨p, a, c, kk, b, hO, g, .inr ⟨g9, .inr ⟨by omega, hB⟩⟩⟩)) (fun L hL => H0 _ ⟨p, a, c, kk, b, hO, .inr ⟨g, g9, by omega, L, hL, rfl⟩⟩) _ _ _ _
          · exact h1 _ (H1 _ (.inr ⟨p, a, c, kk, b, hO, g, .inl ⟨g9, rfl⟩⟩)) _ _ _ _ _ _
        · simp (disch := omega) only [q_lit, nI_add, pk_mul, q_a1, q_a3, q_a7, q_a31, q_a63, q_a255, q_a511, q_or, q_shr, q_shl, q_le, q_lt, q_eq, q_in, q_cl, q_neg, q_neg', q_nlt0, q_nle, q_nlt, q_nle', q_nlt', forall_eq, true_implies, false_implies, not_true_eq_false, not_false_eq_true, and_true, true_and, Nat.reduceMod, Nat.reducePow, Nat.reduceAdd, Nat.reduceMul, Nat.reduceDiv, Nat.reduceSub, Nat.reduceEqDiff, Nat.reduceLeDiff, Nat.reduceLT]
          obtain ⟨L', hL⟩ := H0 _ ⟨p, a, c, kk, b, hO, .inl ⟨g, rfl⟩⟩
          exact h0 _ hL _ _ _ _ _ _
      · simp (disch := omega) only [q_lit, nI_add, pk_mul, q_a1, q_a3, q_a7, q_a31, q_a63, q_a255, q_a511, q_or, q_shr, q_shl, q_le, q_lt, q_eq, q_in, q_cl, q_neg, q_neg', q_nlt0, q_nle, q_nlt, q_nle', q_nlt', forall_eq, true_implies, false_implies, not_true_eq_false, not_false_eq_true, and_true, true_and, Nat.reduceMod, Nat.reducePow, Nat.reduceAdd, Nat.reduceMul, Nat.reduceDiv, Nat.reduceSub, Nat.reduceEqDiff, Nat.reduceLeDiff, Nat.reduceLT]
        exact h1 _ (H1 _ (.inl hB)) _ _ _ _ _ _
  exact main 15 (by omega) 0 (Nat.zero_le _) (fun _ h => h) (fun L h => ⟨L, h⟩) _ _ _ _
end
