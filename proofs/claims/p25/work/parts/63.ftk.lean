def apW (w : Nat → Nat) : List (Nat × Nat × Nat) → Nat → Nat
  | [] => w
  | e :: L => apW (updN w e.2.1 (w e.2.1 ||| 2 ^ (3 * e.1 + e.2.2))) L
theorem WfR_or {n m t : Nat} {w : Nat → Nat} (W : WfR n m t w) {p l k q : Int32} {a j b : Nat} (D : Dec n m p l k q a j b) : WfR n m t (updN w j (w j ||| 2 ^ (3 * a + b))) := by
  obtain ⟨_, n3, _, m2, _, hR, _⟩ := id W
  have hj := Dec_j D n3 m2
  refine WfR_upd W hj.2.2.2.2 (Rn_or (hR j) ?_)
  exact Rn_p n3 D.2.1 D.2.2.2.1
section
variable {tb : Nat → Nat} {z n m tt : Nat}
theorem q_ff1 (hz : z ≤ 160) (hb : ∀ j, tb j < 256) {w : Nat → Nat} (W : WfR n m tt w) {f l mk t ch : Int32} {s0 s1 : Int32} {L : List (Nat × Nat × Nat)} {K : Int32 → Int32 → Int32 → Int32 → Int32 → Int32 → Int32 → Int32 → (Nat → Int32) → Prop}
    (hF : FO tb z n m 16 0 L)
    (h0 : WfR n m tt (apW w L) → ∀ u1 u2 f' l' mk' t', K (-nI 1) u1 u2 f' l' mk' t' (ch + nI L.length) (fun j => nI (apW w L j))) :
    wX8_faultFor (nI 1) (nI z) s0 s1 f l mk t (fun j => nI (tb j)) (nI n) (nI m) ch (fun j => nI (w j)) K := by
  have n3 := W.2.1
  have m1 := W.2.2.1
  have m2 := W.2.2.2.1
  unfold wX8_faultFor
  refine q_step hz hb (Nat.zero_le _) ?_
  unfold wX8_faultFor_L11
  intro P hP
  have main : ∀ k, k < 16 → ∀ i, i ≤ z → ∀ M w ch, WfR n m tt w → FO tb z n m (k + 1) i M → (WfR n m tt (apW w M) → ∀ u1 u2 f' l' mk' t', K (-nI 1) u1 u2 f' l' mk' t' (ch + nI M.length) (fun j => nI (apW w M j))) → ∀ f l mk t, P (nI (16 - k)) (nI (tkS tb z i)) (nI (tkE tb z i)) f l mk t ch (fun j => nI (w j)) := by
    intro k
    induction k with
    | zero =>
      intro _ i hi M w ch W hF hK f l mk t
      refine hP _ _ _ _ _ _ _ _ _ ?_
      simp (disch := omega) only [q_lit, nI_add, pk_mul, q_a1, q_a3, q_a7, q_a31, q_a63, q_a255, q_a511, q_or, q_shr, q_shl, q_le, q_lt, q_eq, q_in, q_cl, q_neg, q_neg', q_nlt0, q_nle, q_nlt, q_nle', q_nlt', forall_eq, true_implies, false_implies, not_true_eq_false, not_false_eq_true, and_true, true_and, Nat.reduceMod, Nat.reducePow, Nat.reduceAdd, Nat.reduceMul, Nat.reduceDiv, Nat.reduceSub, Nat.reduceEqDiff, Nat.reduceLeDiff, Nat.reduceLT]
      refine q_readMove hz hb hi n3 m2 (fun p a c kk b mk' hO hk => ?_) (fun s hB e f' l' mk' t' => ?_)
      · have hp := MvOk_end hi hO
        have hs := tkS_spec tb hp
        have D := MvOk_dec m1 m2 hO hk
        simp (disch := omega) only [q_lit, nI_add, pk_mul, q_a1, q_a3, q_a7, q_a31, q_a63, q_a255, q_a511, q_or, q_shr, q_shl, q_le, q_lt, q_eq, q_in, q_cl, q_neg, q_neg', q_nlt0, q_nle, q_nlt, q_nle', q_nlt', forall_eq, true_implies, false_implies, not_true_eq_false, not_false_eq_true, and_true, true_and, Nat.reduceMod, Nat.reducePow, Nat.reduceAdd, Nat.reduceMul, Nat.reduceDiv, Nat.reduceSub, Nat.reduceEqDiff, Nat.reduceLeDiff, Nat.reduceLT]
        refine q_add W D ?_
        obtain ⟨p', a', c', kk', b', hO', E⟩ := hF
        obtain ⟨e1, e2, e3, e4, e5⟩ := MvOk_det hO hO'
        subst e1; subst e2; subst e3; subst e4; subst e5
        rcases E with ⟨hge, eM⟩ | ⟨_, _, g, _⟩
        · refine q_head hz (fun g => absurd g (by omega)) (fun g => ?_) (by omega)
          simp (disch := omega) only [q_lit, nI_add, pk_mul, q_a1, q_a3, q_a7, q_a31, q_a63, q_a255, q_a511, q_or, q_shr, q_shl, q_le, q_lt, q_eq, q_in, q_cl, q_neg, q_neg', q_nlt0, q_nle, q_nlt, q_nle', q_nlt', forall_eq, true_implies, false_implies, not_true_eq_false, not_false_eq_true, and_true, true_and, Nat.reduceMod, Nat.reducePow, Nat.reduceAdd, Nat.reduceMul, Nat.reduceDiv, Nat.reduceSub, Nat.reduceEqDiff, Nat.reduceLeDiff, Nat.reduceLT]
          subst eM
          exact hK (WfR_or W D) _ _ _ _ _ _
        · exact absurd rfl g
      · obtain ⟨p', a', c', kk', b', hO', E⟩ := hF
        exact (MvOk_bad hO' hB).elim
    | succ k ih =>
      intro hk16 i hi M w ch W hF hK f l mk t
      refine hP _ _ _ _ _ _ _ _ _ ?_
      simp (disch := omega) only [q_lit, nI_add, pk_mul, q_a1, q_a3, q_a7, q_a31, q_a63, q_a255, q_a511, q_or, q_shr, q_shl, q_le, q_lt, q_eq, q_in, q_cl, q_neg, q_neg', q_nlt0, q_nle, q_nlt, q_nle', q_nlt', forall_eq, true_implies, false_implies, not_true_eq_false, not_false_eq_true, and_true, true_and, Nat.reduceMod, Nat.reducePow, Nat.reduceAdd, Nat.reduceMul, Nat.reduceDiv, Nat.reduceSub, Nat.reduceEqDiff, Nat.reduceLeDiff, Nat.reduceLT]
      refine ⟨fun g => absurd g (by omega), fun _ => ?_⟩
      refine q_readMove hz hb hi n3 m2 (fun p a c kk b mk' hO hk => ?_) (fun s hB e f' l' mk' t' => ?_)
      · have hp := MvOk_end hi hO
        have hs := tkS_spec tb hp
        have hpe := (tkE_spec tb hp).2
        have D := MvOk_dec m1 m2 hO hk
        simp (disch := omega) only [q_lit, nI_add, pk_mul, q_a1, q_a3, q_a7, q_a31, q_a63, q_a255, q_a511, q_or, q_shr, q_shl, q_le, q_lt, q_eq, q_in, q_cl, q_neg, q_neg', q_nlt0, q_nle, q_nlt, q_nle', q_nlt', forall_eq, true_implies, false_implies, not_true_eq_false, not_false_eq_true, and_true, true_and, Nat.reduceMod, Nat.reducePow, Nat.reduceAdd, Nat.reduceMul, Nat.reduceDiv, Nat.reduceSub, Nat.reduceEqDiff, Nat.reduceLeDiff, Nat.reduceLT]
        refine q_add W D ?_
        obtain ⟨p', a', c', kk', b', hO', E⟩ := hF
        obtain ⟨e1, e2, e3, e4, e5⟩ := MvOk_det hO hO'
        subst e1; subst e2; subst e3; subst e4; subst e5
        rcases E with ⟨hge, eM⟩ | ⟨hlt, h59, _, M', hM', eM⟩
        · refine q_head hz (fun g => absurd g (by omega)) (fun g => ?_) (by omega)
          simp (disch := omega) only [q_lit, nI_add, pk_mul, q_a1, q_a3, q_a7, q_a31, q_a63, q_a255, q_a511, q_or, q_shr, q_shl, q_le, q_lt, q_eq, q_in, q_cl, q_neg, q_neg', q_nlt0, q_nle, q_nlt, q_nle', q_nlt', forall_eq, true_implies, false_implies, not_true_eq_false, not_false_eq_true, and_true, true_and, Nat.reduceMod, Nat.reducePow, Nat.reduceAdd, Nat.reduceMul, Nat.reduceDiv, Nat.reduceSub, Nat.reduceEqDiff, Nat.reduceLeDiff, Nat.reduceLT]
          subst eM
          exact hK (WfR_or W D) _ _ _ _ _ _
        · have hb1 := hb (tkS tb z p)
          refine q_head hz (fun _ => ?_) (fun g => absurd g (by omega)) (by omega)
          simp (disch := omega) only [q_lit, nI_add, pk_mul, q_a1, q_a3, q_a7, q_a31, q_a63, q_a255, q_a511, q_or, q_shr, q_shl, q_le, q_lt, q_eq, q_in, q_cl, q_neg, q_neg', q_nlt0, q_nle, q_nlt, q_nle', q_nlt', forall_eq, true_implies, false_implies, not_true_eq_false, not_false_eq_true, and_true, true_and, Nat.reduceMod, Nat.reducePow, Nat.reduceAdd, Nat.reduceMul, Nat.reduceDiv, Nat.reduceSub, Nat.reduceEqDiff, Nat.reduceLeDiff, Nat.reduceLT]
          refine q_head hz (fun _ => ?_) (fun g => absurd g (by omega)) (by omega)
          simp (disch := omega) only [q_lit, nI_add, pk_mul, q_a1, q_a3, q_a7, q_a31, q_a63, q_a255, q_a511, q_or, q_shr, q_shl, q_le, q_lt, q_eq, q_in, q_cl, q_neg, q_neg', q_nlt0, q_nle, q_nlt, q_nle', q_nlt', forall_eq, true_implies, false_implies, not_true_eq_false, not_false_eq_true, and_true, true_and, Nat.reduceMod, Nat.reducePow, Nat.reduceAdd, Nat.reduceMul, Nat.reduceDiv, Nat.reduceSub, Nat.reduceEqDiff, Nat.reduceLeDiff, Nat.reduceLT]
          refine ⟨fun _ => ⟨fun g => absurd g (by omega), fun _ => ?_⟩, fun g => absurd h59 g⟩
          refine q_step hz hb hpe ?_
          try simp (disch := omega) only [q_lit, nI_add, pk_mul, q_a1, q_a3, q_a7, q_a31, q_a63, q_a255, q_a511, q_or, q_shr, q_shl, q_le, q_lt, q_eq, q_in, q_cl, q_neg, q_neg', q_nlt0, q_nle, q_nlt, q_nle', q_nlt', forall_eq, true_implies, false_implies, not_true_eq_false, not_false_eq_true, and_true, true_and, Nat.reduceMod, Nat.reducePow, Nat.reduceAdd, Nat.reduceMul, Nat.reduceDiv, Nat.reduceSub, Nat.reduceEqDiff, Nat.reduceLeDiff, Nat.reduceLT]
          rw [show 16 - (k + 1) + 1 = 16 - k from by omega]
          subst eM
          refine ih (by omega) _ hpe M' _ _ (WfR_or W D) hM' (fun W' u1 u2 f' l' mk' t' => ?_) _ _ _ _
          have := hK W' u1 u2 f' l' mk' t'
          rw [List.length_cons, show nI (M'.length + 1) = nI 1 + nI M'.length from by rw [nI_add, Nat.add_comm], ← Int32.add_assoc] at this
          exact this
      · obtain ⟨p', a', c', kk', b', hO', E⟩ := hF
        exact (MvOk_bad hO' hB).elim
  exact main 15 (by omega) 0 (Nat.zero_le _) L w ch W hF h0 _ _ _ _
end
