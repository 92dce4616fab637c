section
variable {tb : Nat → Nat} {z n m : Nat}
theorem FO_len : ∀ k i L, FO tb z n m k i L → L.length ≤ k ∧ 1 ≤ L.length
  | 0, _, _, h => h.elim
  | k + 1, i, L, ⟨p, a, c, kk, b, h1, h3⟩ => by
    rcases h3 with ⟨_, e⟩ | ⟨_, _, _, M, hM, e⟩
    · subst e; simp
    · have := FO_len k _ _ hM
      subst e; rw [List.length_cons]; omega
def RdL (n m : Nat) (rd : Nat → Int32) (L : List (Nat × Nat × Nat)) : Prop := ∀ q e, L[q]? = some e → Dec n m (rd (4 * q)) (rd (4 * q + 1)) (rd (4 * q + 2)) (rd (4 * q + 3)) e.1 e.2.1 e.2.2
theorem RdL_snoc {rd rd' : Nat → Int32} {M : List (Nat × Nat × Nat)} {i p a c k b : Nat} (m1 : 1 ≤ m) (m2 : m ≤ 2) (h : RdL n m rd M) (hO : MvOk tb z n m i p a c k b) (hR : RdOk rd rd' (4 * M.length) a c k b) : RdL n m rd' (M ++ [(a, 3 * c + k, b)]) := by
  obtain ⟨r0, r1, r2, r3, hk⟩ := hR
  intro q e he
  rcases Nat.lt_or_ge q M.length with g | g
  · rw [List.getElem?_append_left g] at he
    have := h q e he
    rw [hk _ (by omega), hk _ (by omega), hk _ (by omega), hk _ (by omega)]
    exact this
  · have hq : q = M.length := by
      have := (List.getElem?_eq_some_iff.1 he).1
      rw [List.length_append] at this
      simp at this
      omega
    subst hq
    rw [List.getElem?_append_right (Nat.le_refl _), Nat.sub_self] at he
    simp at he
    subst he
    rw [r0, r1, r3]
    exact MvOk_dec m1 m2 hO r2
theorem m_isRead {r : Nat} (hz : z ≤ 160) (hb : ∀ j, tb j < 256) (hr : r < 2) (n1 : 1 ≤ n) (n3 : n ≤ 3) (m1 : 1 ≤ m) (m2 : m ≤ 2) {st mk : Nat → Int32} (hs : st r = nI n) (hm : mk r = nI m) {po a0 : Int32} {b0 : Int64} {c0 d0 fa rm : Int32} {rd : Nat → Int32} {K : Int32 → Int32 → Int32 → Int64 → Int32 → Int32 → Int32 → Int32 → (Nat → Int32) → Prop}
    (h1 : ∀ L, FO tb z n m 16 0 L → ∀ rd', RdL n m rd' L → ∀ u1 u2 u3 u4 u5 u6, K (nI 1) u1 u2 u3 u4 u5 u6 (nI L.length) rd')
    (h0 : ∀ s, FB tb z n m 16 0 s → ∀ u1 u2 u3 u4 u5 u7 rd', K (nI 0) u1 u2 u3 u4 u5 (nI s) u7 rd') :
    wX12_isRead (nI r) (nI z) po a0 b0 c0 d0 fa rm st mk (fun j => nI (tb j)) rd K := by
  unfold wX12_isRead wX12_isRead_L12
  intro P hP
  have main : ∀ k, k < 16 → ∀ i, i ≤ z → ∀ M rd, M.length = 15 - k → RdL n m rd M → (∀ s, FB tb z n m (k + 1) i s → FB tb z n m 16 0 s) → (∀ L, FO tb z n m (k + 1) i L → FO tb z n m 16 0 (M ++ L)) → ∀ a0 b0 c0 d0 fa, P (nI 1) (nI i) a0 b0 c0 d0 fa (nI (15 - k)) rd := by
    intro k
    induction k with
    | zero =>
      intro _ i hi M rd hM hR H1 H0 a0 b0 c0 d0 fa
      refine hP _ _ _ _ _ _ _ _ _ ?_
      refine ⟨fun g => absurd g (by decide), fun _ => ?_⟩
      rw [show (4 : Int32) = nI 4 from rfl, pk_mul]
      refine m_isMove hz hb hi (by omega) hr n1 n3 m1 m2 hs hm (fun p a c kk b rd' hO hD tA tk dg nb fa' => ?_) (fun s hB po tA tk dg nb rd' _ => ?_)
      · have hp := MvOk_end hi hO
        have hR' := RdL_snoc m1 m2 hR hO (by rw [hM]; exact hD)
        simp (disch := omega) only [q_lit, nI_add, pk_mul, q_a1, q_a3, q_a7, q_a31, q_a63, q_a255, q_a511, q_or, q_shr, q_shl, q_le, q_lt, q_eq, q_in, q_cl, q_neg, q_neg', q_nlt0, q_nle, q_nlt, q_nle', q_nlt', forall_eq, true_implies, false_implies, not_true_eq_false, not_false_eq_true, and_true, true_and, Nat.reduceMod, Nat.reducePow, Nat.reduceAdd, Nat.reduceMul, Nat.reduceDiv, Nat.reduceSub, Nat.reduceEqDiff, Nat.reduceLeDiff, Nat.reduceLT]
        refine q_next hz hb hp (fun dg2 => ?_)
        have t3 : lg_cmp (iL (tz tb z p)) (-3 : Int64) = 0 ↔ (tkS tb z p < z ∧ tb (tkS tb z p) = 59) := by
          rw [iL_m3, iL_eq (tz_b hp).1 (tz_b hp).2 (by omega) (by omega), tz_semi]
        have t2 : lg_cmp (iL (tz tb z p)) (-2 : Int64) = 0 ↔ z ≤ tkS tb z p := by
          rw [iL_m2, iL_eq (tz_b hp).1 (tz_b hp).2 (by omega) (by omega), tz_end hp]
        have fin : z ≤ tkS tb z p ∨ tkS tb z p < z → P (nI 0) (nI (tkE tb z p)) (nI (tkS tb z p)) (iL (tz tb z p)) dg2 (nI (nz tb z p)) fa' (nI (15 - 0 + 1)) rd' := by
          intro _
          refine hP _ _ _ _ _ _ _ _ _ ?_
          refine ⟨fun _ => ⟨fun g => ?_, fun g => ?_⟩, fun g => absurd rfl g⟩
          · have := h1 _ (H0 _ ⟨p, a, c, kk, b, hO, .inl ⟨t2.1 g, rfl⟩⟩) _ hR' (nI (tkE tb z p)) (nI (tkS tb z p)) (iL (tz tb z p)) dg2 (nI (nz tb z p)) fa'
            rw [List.length_append, hM] at this
            exact this
          · have hlt : tkS tb z p < z := by
              rcases Nat.lt_or_ge (tkS tb z p) z with h | h
              · exact h
              · exact absurd (t2.2 h) g
            unfold wX12_fails
            refine ⟨fun _ => ?_, fun g => absurd rfl g⟩
            refine h0 _ (H1 _ (.inr ⟨p, a, c, kk, b, hO, hlt, ?_⟩)) _ _ _ _ _ _ _
            by_cases g9 : tb (tkS tb z p) = 59
            · exact .inr ⟨g9, .inl ⟨rfl, rfl⟩⟩
            · exact .inl ⟨g9, rfl⟩
        refine ⟨fun g => ?_, fun g => ?_⟩
        · try simp (disch := omega) only [q_lit, nI_add, pk_mul, q_a1, q_a3, q_a7, q_a31, q_a63, q_a255, q_a511, q_or, q_shr, q_shl, q_le, q_lt, q_eq, q_in, q_cl, q_neg, q_neg', q_nlt0, q_nle, q_nlt, q_nle', q_nlt', forall_eq, true_implies, false_implies, not_true_eq_false, not_false_eq_true, and_true, true_and, Nat.reduceMod, Nat.reducePow, Nat.reduceAdd, Nat.reduceMul, Nat.reduceDiv, Nat.reduceSub, Nat.reduceEqDiff, Nat.reduceLeDiff, Nat.reduceLT]
          exact fin (by omega)
        · exact fin (by omega)
      · refine ⟨fun _ => h0 _ (H1 _ (.inl hB)) _ _ _ _ _ _ _, fun g => absurd rfl g⟩
    | succ k ih =>
      intro hk16 i hi M rd hM hR H1 H0 a0 b0 c0 d0 fa
      refine hP _ _ _ _ _ _ _ _ _ ?_
      refine ⟨fun g => absurd g (by decide), fun _ => ?_⟩
      rw [show (4 : Int32) = nI 4 from rfl, pk_mul]
      refine m_isMove hz hb hi (by omega) hr n1 n3 m1 m2 hs hm (fun p a c kk b rd' hO hD tA tk dg nb fa' => ?_) (fun s hB po tA tk dg nb rd' _ => ?_)
      · have hp := MvOk_end hi hO
        have hpe := (tkE_spec tb hp).2
        have hR' := RdL_snoc m1 m2 hR hO (by rw [hM]; exact hD)
        simp (disch := omega) only [q_lit, nI_add, pk_mul, q_a1, q_a3, q_a7, q_a31, q_a63, q_a255, q_a511, q_or, q_shr, q_shl, q_le, q_lt, q_eq, q_in, q_cl, q_neg, q_neg', q_nlt0, q_nle, q_nlt, q_nle', q_nlt', forall_eq, true_implies, false_implies, not_true_eq_false, not_false_eq_true, and_true, true_and, Nat.reduceMod, Nat.reducePow, Nat.reduceAdd, Nat.reduceMul, Nat.reduceDiv, Nat.reduceSub, Nat.reduceEqDiff, Nat.reduceLeDiff, Nat.reduceLT]
        refine q_next hz hb hp (fun dg2 => ?_)
        have t3 : lg_cmp (iL (tz tb z p)) (-3 : Int64) = 0 ↔ (tkS tb z p < z ∧ tb (tkS tb z p) = 59) := by
          rw [iL_m3, iL_eq (tz_b hp).1 (tz_b hp).2 (by omega) (by omega), tz_semi]
        have t2 : lg_cmp (iL (tz tb z p)) (-2 : Int64) = 0 ↔ z ≤ tkS tb z p := by
          rw [iL_m2, iL_eq (tz_b hp).1 (tz_b hp).2 (by omega) (by omega), tz_end hp]
        refine ⟨fun g => ⟨fun g' => absurd g' (by omega), fun _ => ?_⟩, fun g => ?_⟩
        · have g3 := t3.1 g
          rw [show 15 - (k + 1) + 1 = 15 - k from by omega]
          refine ih (by omega) _ hpe (M ++ [(a, 3 * c + kk, b)]) _ (by rw [List.length_append, hM, List.length_singleton]; omega) hR' (fun s hB => H1 _ (.inr ⟨p, a, c, kk, b, hO, g3.1, .inr ⟨g3.2, .inr ⟨by omega, hB⟩⟩⟩)) (fun L hL => ?_) _ _ _ _ _
          rw [List.append_assoc]
          exact H0 _ ⟨p, a, c, kk, b, hO, .inr ⟨g3.1, g3.2, by omega, L, hL, rfl⟩⟩
        · refine hP _ _ _ _ _ _ _ _ _ ?_
          refine ⟨fun _ => ⟨fun g2 => ?_, fun g2 => ?_⟩, fun g => absurd rfl g⟩
          · have := h1 _ (H0 _ ⟨p, a, c, kk, b, hO, .inl ⟨t2.1 g2, rfl⟩⟩) _ hR' (nI (tkE tb z p)) (nI (tkS tb z p)) (iL (tz tb z p)) dg2 (nI (nz tb z p)) fa'
            rw [List.length_append, hM] at this
            exact this
          · have hlt : tkS tb z p < z := by
              rcases Nat.lt_or_ge (tkS tb z p) z with h | h
              · exact h
              · exact absurd (t2.2 h) g2
            unfold wX12_fails
            refine ⟨fun _ => ?_, fun g => absurd rfl g⟩
            refine h0 _ (H1 _ (.inr ⟨p, a, c, kk, b, hO, hlt, .inl ⟨fun g9 => g (t3.2 ⟨hlt, g9⟩), rfl⟩⟩)) _ _ _ _ _ _ _
      · refine ⟨fun _ => h0 _ (H1 _ (.inl hB)) _ _ _ _ _ _ _, fun g => absurd rfl g⟩
  exact main 15 (by omega) 0 (Nat.zero_le _) [] rd rfl (fun q e he => by simp at he) (fun _ h => h) (fun _ h => h) _ _ _ _ _
end
