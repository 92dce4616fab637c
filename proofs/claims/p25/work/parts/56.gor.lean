/-- a row, of the readers held: COME, SINCE, and what stands open -/
def rsy (y : Sy) (lt : Nat → Nat) : Nat → Nat × Nat × List (Nat × Nat × Nat)
  | 0 => (s0 y, sE y, [])
  | k + 1 =>
    let s := rsy y lt k
    if lt k < 2 then (sA y (lt k) s.1, sE y, (s.1, s.2.1, lt k) :: s.2.2)
    else if lt k < 4 then (imc s.1 (sP y (lt k)), thn s.2.1 (sP y (lt k)), s.2.2)
    else match s.2.2 with
      | (c, x, l) :: r => (imc c (sB y l (lt k) s.2.1), thn x (sB y l (lt k) s.2.1), r)
      | [] => (sA y (lt k) s.1, sE y, [])
def isD (S : List (Nat × Nat × Nat)) : Bool := !S.isEmpty
/-- what stands open is all of places -/
def StkOk (y : Sy) : List (Nat × Nat × Nat) → Prop
  | [] => True
  | (c, x, l) :: r => l < 2 ∧ NS y c x (isD r) ∧ StkOk y r
theorem rsy_ok {y : Sy} (hok : SyOk y) {lt : Nat → Nat} (h6 : ∀ i, lt i < 6) : ∀ k, NS y (rsy y lt k).1 (rsy y lt k).2.1 (isD (rsy y lt k).2.2) ∧ StkOk y (rsy y lt k).2.2 ∧ (rsy y lt k).2.2.length ≤ k
  | 0 => ⟨NS_0 y, trivial, Nat.le_refl _⟩
  | k + 1 => by
    obtain ⟨i1, i2, i3⟩ := rsy_ok hok h6 k
    have hl := h6 k
    unfold rsy
    simp only
    by_cases g2 : lt k < 2
    · rw [if_pos g2]
      exact ⟨NS_open i1 g2, ⟨g2, i1, i2⟩, by simp only [List.length_cons]; omega⟩
    · rw [if_neg g2]
      by_cases g4 : lt k < 4
      · rw [if_pos g4]
        have sl : stpS y (WS y) (sP y (lt k)) := by
          have : lt k = 2 ∨ lt k = 3 := by omega
          rcases this with e | e
          · rw [e]; exact .inl rfl
          · rw [e]; exact .inr (.inl rfl)
        exact ⟨NS_stp i1 sl, i2, by show (rsy y lt k).2.2.length ≤ k + 1; omega⟩
      · rw [if_neg g4]
        cases e : (rsy y lt k).2.2 with
        | nil =>
          rw [e] at i1
          exact ⟨NS_close i1 (by omega) hl, trivial, by simp⟩
        | cons a r =>
          obtain ⟨c, x, l⟩ := a
          rw [e] at i2 i3
          obtain ⟨j1, j2, j3⟩ := i2
          exact ⟨NS_stp j2 (.inr (.inr ⟨l, lt k, _, j1, by omega, hl, NS_WS hok i1, rfl⟩)), j3, by simp only [List.length_cons] at i3; simp only; omega⟩
/-- the reference's stack -/
def SK (wh : Nat) (S : List (Nat × Nat × Nat)) (sc ss sl : Nat → Int32) : Prop := ∀ d, d < S.length → sc d = nI (ps wh (S.getD (S.length - 1 - d) (0, 0, 0)).1) ∧ ss d = nI (ph wh (S.getD (S.length - 1 - d) (0, 0, 0)).2.1) ∧ sl d = nI (S.getD (S.length - 1 - d) (0, 0, 0)).2.2
theorem SK_top {wh : Nat} {a : Nat × Nat × Nat} {r : List (Nat × Nat × Nat)} {sc ss sl : Nat → Int32} (h : SK wh (a :: r) sc ss sl) : sc r.length = nI (ps wh a.1) ∧ ss r.length = nI (ph wh a.2.1) ∧ sl r.length = nI a.2.2 := by
  have := h r.length (by simp)
  simpa using this
theorem SK_tail {wh : Nat} {a : Nat × Nat × Nat} {r : List (Nat × Nat × Nat)} {sc ss sl : Nat → Int32} (h : SK wh (a :: r) sc ss sl) : SK wh r sc ss sl := by
  intro d hd
  have := h d (by simp only [List.length_cons]; omega)
  rw [List.length_cons, show r.length + 1 - 1 - d = (r.length - 1 - d) + 1 from by omega, List.getD_cons_succ] at this
  exact this
theorem SK_push {wh : Nat} {c x l : Nat} {r : List (Nat × Nat × Nat)} {sc ss sl : Nat → Int32} (h : SK wh r sc ss sl) : SK wh ((c, x, l) :: r) (upd sc r.length (nI (ps wh c))) (upd ss r.length (nI (ph wh x))) (upd sl r.length (nI l)) := by
  intro d hd
  rw [List.length_cons] at hd ⊢
  rw [q_ap, q_ap, q_ap]
  by_cases e : d = r.length
  · rw [if_pos e, if_pos e, if_pos e, e, show r.length + 1 - 1 - r.length = 0 from by omega]
    exact ⟨rfl, rfl, rfl⟩
  · rw [if_neg e, if_neg e, if_neg e, show r.length + 1 - 1 - d = (r.length - 1 - d) + 1 from by omega, List.getD_cons_succ]
    exact h d (by omega)
section
variable {y : Sy} {wh n0 m0 t0 n1 m1 t1 : Nat} {w0 w1 : Nat → Nat} {st mk tk pu go cl : Nat → Int32}
theorem m_goOn (hw : wh < 3) (hy : y = syM wh n0 w0 n1 w1) (M : MdOk n0 m0 t0 w0 n1 m1 t1 w1 st mk tk pu go cl) {lt : Nat → Nat} (h6 : ∀ i, lt i < 6) {k : Nat} (hk : k < 24) {sc ss sl : Nat → Int32} (H : SK wh (rsy y lt k).2.2 sc ss sl) {K : Int32 → Int32 → Int32 → (Nat → Int32) → (Nat → Int32) → (Nat → Int32) → Prop}
    (h : ∀ sc' ss' sl', SK wh (rsy y lt (k + 1)).2.2 sc' ss' sl' → K (nI (rsy y lt (k + 1)).2.2.length) (nI (ps wh (rsy y lt (k + 1)).1)) (nI (ph wh (rsy y lt (k + 1)).2.1)) sc' ss' sl') :
    wX12_goOn (nI wh) (nI (lt k)) (nI (rsy y lt k).2.2.length) (nI (ps wh (rsy y lt k).1)) (nI (ph wh (rsy y lt k).2.1)) st mk pu go cl sc ss sl K := by
  have hok : SyOk y := by rw [hy]; exact syM_ok hw M
  obtain ⟨i1, i2, i3⟩ := rsy_ok hok h6 k
  have hl := h6 k
  have Sc := NS_S2 hok i1
  have Rx := WS_R2 hok (NS_WS hok i1)
  have hr : rsy y lt (k + 1) = (if lt k < 2 then (sA y (lt k) (rsy y lt k).1, sE y, ((rsy y lt k).1, (rsy y lt k).2.1, lt k) :: (rsy y lt k).2.2) else if lt k < 4 then (imc (rsy y lt k).1 (sP y (lt k)), thn (rsy y lt k).2.1 (sP y (lt k)), (rsy y lt k).2.2) else match (rsy y lt k).2.2 with
      | (c, x, l) :: r => (imc c (sB y l (lt k) (rsy y lt k).2.1), thn x (sB y l (lt k) (rsy y lt k).2.1), r)
      | [] => (sA y (lt k) (rsy y lt k).1, sE y, [])) := rfl
  unfold wX12_goOn
  simp (disch := omega) only [q_lit, nI_add, pk_mul, q_a1, q_a3, q_a7, q_a31, q_a63, q_a255, q_a511, q_or, q_shr, q_shl, q_le, q_lt, q_eq, q_in, q_cl, q_neg, q_neg', q_nlt0, q_nle, q_nlt, q_nle', q_nlt', forall_eq, true_implies, false_implies, not_true_eq_false, not_false_eq_true, and_true, true_and, Nat.reduceMod, Nat.reducePow, Nat.reduceAdd, Nat.reduceMul, Nat.reduceDiv, Nat.reduceSub, Nat.reduceEqDiff, Nat.reduceLeDiff, Nat.reduceLT]
  refine ⟨fun g2 => ⟨fun g4 => ⟨fun g0 => ?_, fun g0 => ?_⟩, fun g4 => ?_⟩, fun g2 => ?_⟩
  · have e : (rsy y lt k).2.2 = [] := List.length_eq_zero_iff.1 (by omega)
    rw [hr, if_neg (by omega), if_neg (by omega), e] at h
    rw [e]
    rw [e] at H
    subst hy
    exact m_closedOff hw M g4 hl Sc (m_itself hw M (h _ _ _ H))
  · cases e : (rsy y lt k).2.2 with
    | nil => rw [e] at g0; exact absurd (Nat.le_refl 0) g0
    | cons a r =>
      obtain ⟨c, x, l⟩ := a
      rw [hr, if_neg (by omega), if_neg (by omega), e] at h
      rw [e] at H i2 i3
      obtain ⟨j1, j2, j3⟩ := i2
      obtain ⟨t1', t2', t3'⟩ := SK_top H
      simp only [List.length_cons] at i3 ⊢
      rw [q_subN (by omega), Nat.add_sub_cancel]
      simp (disch := omega) only [q_lit, nI_add, pk_mul, q_a1, q_a3, q_a7, q_a31, q_a63, q_a255, q_a511, q_or, q_shr, q_shl, q_le, q_lt, q_eq, q_in, q_cl, q_neg, q_neg', q_nlt0, q_nle, q_nlt, q_nle', q_nlt', forall_eq, true_implies, false_implies, not_true_eq_false, not_false_eq_true, and_true, true_and, Nat.reduceMod, Nat.reducePow, Nat.reduceAdd, Nat.reduceMul, Nat.reduceDiv, Nat.reduceSub, Nat.reduceEqDiff, Nat.reduceLeDiff, Nat.reduceLT]
      rw [t1', t2', t3']
      have Sc' := NS_S2 hok j2
      have Rx' := WS_R2 hok (NS_WS hok j2)
      have Rb : R2 y (sB y l (lt k) (rsy y lt k).2.1) := R2_B hok _ _ _
      subst hy
      refine ⟨by omega, m_block hw M j1 g4 hl Rx ⟨by omega, m_image hw Sc' Rb ⟨by omega, m_follow hw Rx' Rb (h _ _ _ (SK_tail H))⟩⟩⟩
  · rw [hr, if_neg (by omega), if_pos (by omega)] at h
    have Rb : R2 y (sP y (lt k)) := R2_P hok _
    subst hy
    exact m_plain hw M g2 (by omega) (m_image hw Sc Rb (m_follow hw Rx Rb (h _ _ _ H)))
  · rw [hr, if_pos (by omega)] at h
    refine ⟨by omega, by omega, by omega, ?_⟩
    simp only [List.length_cons] at h
    subst hy
    exact m_opened hw M (by omega) Sc (m_itself hw M (h _ _ _ (SK_push H)))
theorem m_goRow (hw : wh < 3) (hy : y = syM wh n0 w0 n1 w1) (M : MdOk n0 m0 t0 w0 n1 m1 t1 w1 st mk tk pu go cl) {lt : Nat → Nat} (h6 : ∀ i, lt i < 6) {k : Nat} (hk : k ≤ 24) {ro : Nat → Int32} (hr : ∀ i, i < k → ro i = nI (lt i)) {a b c : Int32} {sc ss sl : Nat → Int32} {K : Int32 → Int32 → Int32 → (Nat → Int32) → (Nat → Int32) → (Nat → Int32) → Prop}
    (h : ∀ sc' ss' sl', SK wh (rsy y lt k).2.2 sc' ss' sl' → K (nI (rsy y lt k).2.2.length) (nI (ps wh (rsy y lt k).1)) (nI (ph wh (rsy y lt k).2.1)) sc' ss' sl') :
    wX12_goRow (nI wh) (nI k) a b c st mk pu go cl ro sc ss sl K := by
  unfold wX12_goRow wX12_beginRow
  have mb : ∀ {K : Int32 → Prop}, K (nI (ps wh (s0 y))) → wX12_begun (nI wh) K := fun h => by rw [hy] at h; exact m_begun hw M h
  have mi : ∀ {K : Int32 → Prop}, K (nI (ph wh (sE y))) → wX12_itself (nI wh) st K := fun h => by rw [hy] at h; exact m_itself hw M h
  refine mb (mi ?_)
  unfold wX12_goRow_L7
  intro P hP
  refine q_cnt0 (Q := fun i => ∀ sc ss sl, SK wh (rsy y lt i).2.2 sc ss sl → P (nI i) (nI (rsy y lt i).2.2.length) (nI (ps wh (rsy y lt i).1)) (nI (ph wh (rsy y lt i).2.1)) sc ss sl) k ?_ ?_ sc ss sl (fun d hd => absurd hd (by simp [rsy]))
  · intro sc ss sl H
    refine hP _ _ _ _ _ _ _ ?_
    simp (disch := omega) only [q_lit, nI_add, pk_mul, q_a1, q_a3, q_a7, q_a31, q_a63, q_a255, q_a511, q_or, q_shr, q_shl, q_le, q_lt, q_eq, q_in, q_cl, q_neg, q_neg', q_nlt0, q_nle, q_nlt, q_nle', q_nlt', forall_eq, true_implies, false_implies, not_true_eq_false, not_false_eq_true, and_true, true_and, Nat.reduceMod, Nat.reducePow, Nat.reduceAdd, Nat.reduceMul, Nat.reduceDiv, Nat.reduceSub, Nat.reduceEqDiff, Nat.reduceLeDiff, Nat.reduceLT, Nat.le_refl]
    exact h _ _ _ H
  · intro i hi ih sc ss sl H
    refine hP _ _ _ _ _ _ _ ?_
    rw [q_cl (show i < 2147483648 by omega), hr i hi]
    simp (disch := omega) only [q_lit, nI_add, pk_mul, q_a1, q_a3, q_a7, q_a31, q_a63, q_a255, q_a511, q_or, q_shr, q_shl, q_le, q_lt, q_eq, q_in, q_cl, q_neg, q_neg', q_nlt0, q_nle, q_nlt, q_nle', q_nlt', forall_eq, true_implies, false_implies, not_true_eq_false, not_false_eq_true, and_true, true_and, Nat.reduceMod, Nat.reducePow, Nat.reduceAdd, Nat.reduceMul, Nat.reduceDiv, Nat.reduceSub, Nat.reduceEqDiff, Nat.reduceLeDiff, Nat.reduceLT]
    exact ⟨fun g => absurd g (by omega), fun _ => ⟨by omega, m_goOn hw hy M h6 (by omega) H (fun sc' ss' sl' H' => ih _ _ _ H')⟩⟩
end
