/-- the open letters behind k letters that have no partner, the last one first -/
def stk (lt : Nat → Nat) : Nat → List Nat
  | 0 => []
  | i + 1 => if lt i < 2 then i :: stk lt i else if lt i < 4 then stk lt i else (stk lt i).tail
/-- behind how many letters the last one stands that closes and has no partner -/
def frc (lt : Nat → Nat) : Nat → Nat
  | 0 => 0
  | i + 1 => if 4 ≤ lt i ∧ stk lt i = [] then i + 1 else frc lt i
def bas (lt : Nat → Nat) (k : Nat) : Nat := match stk lt k with
  | o :: _ => o + 1
  | [] => frc lt k
theorem stk_cons (lt : Nat → Nat) : ∀ k o r, stk lt k = o :: r → r = stk lt o ∧ o < k ∧ lt o < 2
  | 0, o, r, h => by simp [stk] at h
  | i + 1, o, r, h => by
    unfold stk at h
    split at h
    · rename_i g
      injection h with h1 h2
      subst h1; exact ⟨h2.symm, by omega, g⟩
    · split at h
      · have := stk_cons lt i o r h
        exact ⟨this.1, by omega, this.2.2⟩
      · cases e : stk lt i with
        | nil => rw [e] at h; simp at h
        | cons a t =>
          rw [e] at h
          have h1 := stk_cons lt i a t e
          simp only [List.tail_cons] at h
          rw [h1.1] at h
          have := stk_cons lt a o r h
          exact ⟨this.1, by omega, this.2.2⟩
  termination_by k => k
theorem frc_le (lt : Nat → Nat) : ∀ k, frc lt k ≤ k
  | 0 => Nat.le_refl _
  | i + 1 => by
    have := frc_le lt i
    unfold frc; split <;> omega
theorem frc_close (lt : Nat → Nat) : ∀ k, 1 ≤ frc lt k → 4 ≤ lt (frc lt k - 1)
  | 0, h => by simp [frc] at h
  | i + 1, h => by
    unfold frc at h ⊢
    split
    · rename_i g; exact g.1
    · rename_i g; rw [if_neg g] at h; exact frc_close lt i h
theorem bas_le (lt : Nat → Nat) (k : Nat) : bas lt k ≤ k := by
  unfold bas
  split
  · rename_i o r e; have := stk_cons lt k o r e; omega
  · exact frc_le lt k
theorem frc_stk {lt : Nat → Nat} {k : Nat} : ∀ j, k ≤ j → (∀ i, k ≤ i → i < j → stk lt i ≠ [] ∨ lt i < 4) → frc lt j = frc lt k := by
  intro j hj
  induction j with
  | zero => intro _; rw [show k = 0 from by omega]
  | succ j ih =>
    intro h
    rcases Nat.lt_or_ge k (j + 1) with g | g
    · have := h j (by omega) (by omega)
      rw [← ih (by omega) (fun i h1 h2 => h i h1 (by omega))]
      rw [frc, if_neg]
      rintro ⟨g1, g2⟩
      rcases this with h' | h'
      · exact h' g2
      · omega
    · rw [show k = j + 1 from by omega]
theorem stk_len (lt : Nat → Nat) : ∀ k, (stk lt k).length ≤ k
  | 0 => Nat.le_refl _
  | i + 1 => by
    have := stk_len lt i
    unfold stk; split
    · simp; omega
    · split
      · omega
      · rw [List.length_tail]; omega
/-- between an open letter and where it is the last open one again, the stack is longer -/
theorem stk_above (lt : Nat → Nat) : ∀ k o r, stk lt k = o :: r → ∀ i, o < i → i ≤ k → stk lt i ≠ []
  | 0, o, r, h => by simp [stk] at h
  | k + 1, o, r, h => by
    intro i h1 h2
    rcases Nat.lt_or_ge i (k + 1) with g | g
    · unfold stk at h
      split at h
      · injection h with h3 h4; omega
      · split at h
        · exact stk_above lt k o r h i h1 (by omega)
        · cases e : stk lt k with
          | nil => rw [e] at h; simp at h
          | cons a t =>
            rw [e] at h
            simp only [List.tail_cons] at h
            have h3 := stk_cons lt k a t e
            rw [h3.1] at h
            have h4 := stk_cons lt a o r h
            rcases Nat.lt_or_ge a i with g2 | g2
            · exact stk_above lt k a t e i g2 (by omega)
            · exact stk_above lt a o r h i h1 g2
    · rw [show i = k + 1 from by omega, h]; simp
  termination_by k => k
theorem bas_succ (lt : Nat → Nat) (i : Nat) : bas lt (i + 1) = if lt i < 2 then i + 1 else if lt i < 4 then bas lt i else match stk lt i with
  | o :: _ => bas lt o
  | [] => i + 1 := by
  by_cases h2 : lt i < 2
  · rw [if_pos h2]; unfold bas; rw [stk, if_pos h2]
  · rw [if_neg h2]
    by_cases h4 : lt i < 4
    · rw [if_pos h4]; unfold bas; rw [stk, if_neg h2, if_pos h4, frc, if_neg (by omega)]
    · rw [if_neg h4]
      cases e : stk lt i with
      | nil => simp only; unfold bas; rw [stk, if_neg h2, if_neg h4, e, frc, if_pos ⟨by omega, e⟩]; rfl
      | cons o r =>
        simp only
        have h := stk_cons lt i o r e
        unfold bas
        rw [stk, if_neg h2, if_neg h4, e, List.tail_cons, h.1]
        cases e2 : stk lt o with
        | cons a t => rfl
        | nil =>
          simp only
          rw [frc, if_neg (by rw [e]; simp)]
          rw [frc_stk (k := o + 1) i (by omega) (fun j h1 h3 => .inl (stk_above lt i o r e j (by omega) (by omega)))]
          rw [frc, if_neg (by have := h.2.2; omega)]
theorem bas_nil {lt : Nat → Nat} {k : Nat} (e : stk lt k = []) : bas lt k = frc lt k := by unfold bas; rw [e]
theorem bas_cons {lt : Nat → Nat} {k o : Nat} {r : List Nat} (e : stk lt k = o :: r) : bas lt k = o + 1 := by unfold bas; rw [e]
def opnI (lt : Nat → Nat) (k : Nat) : Int32 := match stk lt k with
  | o :: _ => nI o
  | [] => -nI 1
/-- a row as the class holds it -/
def RowC (z : Nat) (lt : Nat → Nat) (ls bs : Nat → Int32) : Prop := z ≤ 24 ∧ (∀ i, lt i < 6) ∧ (∀ i, i < z → ls i = nI (lt i)) ∧ (∀ k, k ≤ z → bs k = nI (bas lt k))
theorem q_letterAt {z : Nat} {lt : Nat → Nat} {ls bs : Nat → Int32} (R : RowC z lt ls bs) {i : Nat} (hi : i < z) {K : Int32 → Prop} (h : K (nI (lt i))) : wX6_letterAt (nI i) (nI z) ls K := by
  obtain ⟨hz, h6, hl, hb⟩ := R
  unfold wX6_letterAt
  simp (disch := omega) only [q_lit, nI_add, pk_mul, q_a1, q_a3, q_a7, q_a31, q_a63, q_a255, q_a511, q_or, q_shr, q_shl, q_le, q_lt, q_eq, q_in, q_cl, q_neg, q_neg', q_nlt0, q_nle, q_nlt, q_nle', q_nlt', forall_eq, true_implies, false_implies, not_true_eq_false, not_false_eq_true, and_true, true_and, Nat.reduceMod, Nat.reducePow, Nat.reduceAdd, Nat.reduceMul, Nat.reduceDiv, Nat.reduceSub, Nat.reduceEqDiff, Nat.reduceLeDiff, Nat.reduceLT]
  refine ⟨fun g => absurd g (by omega), fun _ => ⟨fun g => absurd g (by omega), fun _ => ⟨by omega, ?_⟩⟩⟩
  rw [hl i hi]; exact h
theorem q_baseAt {z : Nat} {lt : Nat → Nat} {ls bs : Nat → Int32} (R : RowC z lt ls bs) {k : Nat} (hk : k ≤ z) {K : Int32 → Prop} (h : K (nI (bas lt k))) : wX6_baseAt (nI k) (nI z) bs K := by
  obtain ⟨hz, h6, hl, hb⟩ := R
  unfold wX6_baseAt
  simp (disch := omega) only [q_lit, nI_add, pk_mul, q_a1, q_a3, q_a7, q_a31, q_a63, q_a255, q_a511, q_or, q_shr, q_shl, q_le, q_lt, q_eq, q_in, q_cl, q_neg, q_neg', q_nlt0, q_nle, q_nlt, q_nle', q_nlt', forall_eq, true_implies, false_implies, not_true_eq_false, not_false_eq_true, and_true, true_and, Nat.reduceMod, Nat.reducePow, Nat.reduceAdd, Nat.reduceMul, Nat.reduceDiv, Nat.reduceSub, Nat.reduceEqDiff, Nat.reduceLeDiff, Nat.reduceLT]
  refine ⟨fun g => absurd g (by omega), fun _ => ⟨fun g => absurd g (by omega), fun _ => ⟨by omega, ?_⟩⟩⟩
  rw [hb k hk]; exact h
theorem q_openAt {z : Nat} {lt : Nat → Nat} {ls bs : Nat → Int32} (R : RowC z lt ls bs) {k : Nat} (hk : k ≤ z) {K : Int32 → Prop} (h : K (opnI lt k)) : wX6_openAt (nI k) (nI z) ls bs K := by
  have hz := R.1
  have h6 := R.2.1
  unfold wX6_openAt
  refine q_baseAt R hk ?_
  have hb := bas_le lt k
  intro x2 e2
  rcases Nat.eq_zero_or_pos (bas lt k) with g | g
  · rw [g] at e2
    have e3 : x2 = -nI 1 := by rw [e2]; decide
    subst e3
    simp (disch := omega) only [q_lit, nI_add, pk_mul, q_a1, q_a3, q_a7, q_a31, q_a63, q_a255, q_a511, q_or, q_shr, q_shl, q_le, q_lt, q_eq, q_in, q_cl, q_neg, q_neg', q_nlt0, q_nle, q_nlt, q_nle', q_nlt', forall_eq, true_implies, false_implies, not_true_eq_false, not_false_eq_true, and_true, true_and, Nat.reduceMod, Nat.reducePow, Nat.reduceAdd, Nat.reduceMul, Nat.reduceDiv, Nat.reduceSub, Nat.reduceEqDiff, Nat.reduceLeDiff, Nat.reduceLT]
    have : opnI lt k = -nI 1 := by
      unfold opnI
      cases e : stk lt k with
      | nil => rfl
      | cons o r => rw [bas_cons e] at g; omega
    rw [this] at h; exact h
  · rw [show (1 : Int32) = nI 1 from rfl, q_subN (show 1 ≤ bas lt k from g)] at e2
    subst e2
    simp (disch := omega) only [q_lit, nI_add, pk_mul, q_a1, q_a3, q_a7, q_a31, q_a63, q_a255, q_a511, q_or, q_shr, q_shl, q_le, q_lt, q_eq, q_in, q_cl, q_neg, q_neg', q_nlt0, q_nle, q_nlt, q_nle', q_nlt', forall_eq, true_implies, false_implies, not_true_eq_false, not_false_eq_true, and_true, true_and, Nat.reduceMod, Nat.reducePow, Nat.reduceAdd, Nat.reduceMul, Nat.reduceDiv, Nat.reduceSub, Nat.reduceEqDiff, Nat.reduceLeDiff, Nat.reduceLT]
    refine ⟨fun g' => absurd g' (by omega), fun _ => q_letterAt R (by omega) (q_opens (h6 _) ?_)⟩
    cases e : stk lt k with
    | nil =>
      rw [bas_nil e] at g ⊢
      have := frc_close lt k g
      have h' : opnI lt k = -nI 1 := by unfold opnI; rw [e]
      rw [h'] at h
      rw [if_neg (by omega)]
      simp (disch := omega) only [q_lit, nI_add, pk_mul, q_a1, q_a3, q_a7, q_a31, q_a63, q_a255, q_a511, q_or, q_shr, q_shl, q_le, q_lt, q_eq, q_in, q_cl, q_neg, q_neg', q_nlt0, q_nle, q_nlt, q_nle', q_nlt', forall_eq, true_implies, false_implies, not_true_eq_false, not_false_eq_true, and_true, true_and, Nat.reduceMod, Nat.reducePow, Nat.reduceAdd, Nat.reduceMul, Nat.reduceDiv, Nat.reduceSub, Nat.reduceEqDiff, Nat.reduceLeDiff, Nat.reduceLT]
      exact h
    | cons o r =>
      rw [bas_cons e]
      have := stk_cons lt k o r e
      have h' : opnI lt k = nI o := by unfold opnI; rw [e]
      rw [h'] at h
      rw [Nat.add_sub_cancel, if_pos this.2.2]
      simp (disch := omega) only [q_lit, nI_add, pk_mul, q_a1, q_a3, q_a7, q_a31, q_a63, q_a255, q_a511, q_or, q_shr, q_shl, q_le, q_lt, q_eq, q_in, q_cl, q_neg, q_neg', q_nlt0, q_nle, q_nlt, q_nle', q_nlt', forall_eq, true_implies, false_implies, not_true_eq_false, not_false_eq_true, and_true, true_and, Nat.reduceMod, Nat.reducePow, Nat.reduceAdd, Nat.reduceMul, Nat.reduceDiv, Nat.reduceSub, Nat.reduceEqDiff, Nat.reduceLeDiff, Nat.reduceLT]
      exact h
theorem stk_congr {lt lt' : Nat → Nat} : ∀ k, (∀ i, i < k → lt i = lt' i) → stk lt k = stk lt' k
  | 0, _ => rfl
  | k + 1, h => by
    have ih := stk_congr k (fun i hi => h i (by omega))
    unfold stk; rw [h k (by omega), ih]
theorem frc_congr {lt lt' : Nat → Nat} : ∀ k, (∀ i, i < k → lt i = lt' i) → frc lt k = frc lt' k
  | 0, _ => rfl
  | k + 1, h => by
    have ih := frc_congr k (fun i hi => h i (by omega))
    unfold frc; rw [h k (by omega), ih, stk_congr k (fun i hi => h i (by omega))]
theorem bas_congr {lt lt' : Nat → Nat} {k : Nat} (h : ∀ i, i < k → lt i = lt' i) : bas lt k = bas lt' k := by
  unfold bas; rw [stk_congr k h, frc_congr k h]
theorem q_append {z : Nat} {lt : Nat → Nat} {ls bs : Nat → Int32} (R : RowC z lt ls bs) (hz : z < 24) {l : Nat} (hl : l < 6) {K : Int32 → (Nat → Int32) → (Nat → Int32) → Prop}
    (h : ∀ bs', RowC (z + 1) (updN lt z l) (upd ls z (nI l)) bs' → K (nI (z + 1)) (upd ls z (nI l)) bs') : wX6_append (nI l) (nI z) ls bs K := by
  obtain ⟨_, h6, hls, hbs⟩ := id R
  have key : ∀ v : Nat, v = bas (updN lt z l) (z + 1) → K (nI (z + 1)) (upd ls z (nI l)) (upd bs (z + 1) (nI v)) := fun v hv => by
    refine h _ ⟨by omega, fun i => ?_, fun i hi => ?_, fun k hk => ?_⟩
    · unfold updN; split
      · exact hl
      · exact h6 i
    · rw [q_ap]; unfold updN
      split
      · rfl
      · exact hls i (by omega)
    · rw [q_ap]
      split
      · rename_i e; rw [e, hv]
      · rw [hbs k (by omega)]
        congr 1
        exact bas_congr (fun i hi => by unfold updN; rw [if_neg (by omega)])
  have lz : updN lt z l z = l := updN_s _ _ _
  have sz : stk (updN lt z l) z = stk lt z := stk_congr z (fun i hi => by unfold updN; rw [if_neg (by omega)])
  have bz : bas (updN lt z l) z = bas lt z := bas_congr (fun i hi => by unfold updN; rw [if_neg (by omega)])
  unfold wX6_append
  simp (disch := omega) only [q_lit, nI_add, pk_mul, q_a1, q_a3, q_a7, q_a31, q_a63, q_a255, q_a511, q_or, q_shr, q_shl, q_le, q_lt, q_eq, q_in, q_cl, q_neg, q_neg', q_nlt0, q_nle, q_nlt, q_nle', q_nlt', forall_eq, true_implies, false_implies, not_true_eq_false, not_false_eq_true, and_true, true_and, Nat.reduceMod, Nat.reducePow, Nat.reduceAdd, Nat.reduceMul, Nat.reduceDiv, Nat.reduceSub, Nat.reduceEqDiff, Nat.reduceLeDiff, Nat.reduceLT]
  refine ⟨fun _ => q_openAt R (Nat.le_refl _) ?_, fun g => absurd hz g⟩
  refine ⟨hz, q_isPlain hl ?_⟩
  have bs' := bas_succ (updN lt z l) z
  rw [lz, sz, bz] at bs'
  by_cases c2 : 2 ≤ l ∧ l < 4
  · rw [if_pos c2]
    rw [if_neg (by omega), if_pos c2.2] at bs'
    simp (disch := omega) only [q_lit, nI_add, pk_mul, q_a1, q_a3, q_a7, q_a31, q_a63, q_a255, q_a511, q_or, q_shr, q_shl, q_le, q_lt, q_eq, q_in, q_cl, q_neg, q_neg', q_nlt0, q_nle, q_nlt, q_nle', q_nlt', forall_eq, true_implies, false_implies, not_true_eq_false, not_false_eq_true, and_true, true_and, Nat.reduceMod, Nat.reducePow, Nat.reduceAdd, Nat.reduceMul, Nat.reduceDiv, Nat.reduceSub, Nat.reduceEqDiff, Nat.reduceLeDiff, Nat.reduceLT]
    rw [show nI (z + 1) - nI 1 = nI z from nI_pred z]
    simp (disch := omega) only [q_lit, nI_add, pk_mul, q_a1, q_a3, q_a7, q_a31, q_a63, q_a255, q_a511, q_or, q_shr, q_shl, q_le, q_lt, q_eq, q_in, q_cl, q_neg, q_neg', q_nlt0, q_nle, q_nlt, q_nle', q_nlt', forall_eq, true_implies, false_implies, not_true_eq_false, not_false_eq_true, and_true, true_and, Nat.reduceMod, Nat.reducePow, Nat.reduceAdd, Nat.reduceMul, Nat.reduceDiv, Nat.reduceSub, Nat.reduceEqDiff, Nat.reduceLeDiff, Nat.reduceLT]
    refine ⟨by omega, by omega, ?_⟩
    rw [hbs z (Nat.le_refl _)]
    exact key _ bs'.symm
  · rw [if_neg c2]
    simp (disch := omega) only [q_lit, nI_add, pk_mul, q_a1, q_a3, q_a7, q_a31, q_a63, q_a255, q_a511, q_or, q_shr, q_shl, q_le, q_lt, q_eq, q_in, q_cl, q_neg, q_neg', q_nlt0, q_nle, q_nlt, q_nle', q_nlt', forall_eq, true_implies, false_implies, not_true_eq_false, not_false_eq_true, and_true, true_and, Nat.reduceMod, Nat.reducePow, Nat.reduceAdd, Nat.reduceMul, Nat.reduceDiv, Nat.reduceSub, Nat.reduceEqDiff, Nat.reduceLeDiff, Nat.reduceLT]
    refine q_closes hl ?_
    by_cases c4 : l < 4
    · rw [if_pos c4]
      rw [if_pos (by omega)] at bs'
      simp (disch := omega) only [q_lit, nI_add, pk_mul, q_a1, q_a3, q_a7, q_a31, q_a63, q_a255, q_a511, q_or, q_shr, q_shl, q_le, q_lt, q_eq, q_in, q_cl, q_neg, q_neg', q_nlt0, q_nle, q_nlt, q_nle', q_nlt', forall_eq, true_implies, false_implies, not_true_eq_false, not_false_eq_true, and_true, true_and, Nat.reduceMod, Nat.reducePow, Nat.reduceAdd, Nat.reduceMul, Nat.reduceDiv, Nat.reduceSub, Nat.reduceEqDiff, Nat.reduceLeDiff, Nat.reduceLT]
      exact ⟨by omega, key _ bs'.symm⟩
    · rw [if_neg c4]
      rw [if_neg (by omega), if_neg c4] at bs'
      simp (disch := omega) only [q_lit, nI_add, pk_mul, q_a1, q_a3, q_a7, q_a31, q_a63, q_a255, q_a511, q_or, q_shr, q_shl, q_le, q_lt, q_eq, q_in, q_cl, q_neg, q_neg', q_nlt0, q_nle, q_nlt, q_nle', q_nlt', forall_eq, true_implies, false_implies, not_true_eq_false, not_false_eq_true, and_true, true_and, Nat.reduceMod, Nat.reducePow, Nat.reduceAdd, Nat.reduceMul, Nat.reduceDiv, Nat.reduceSub, Nat.reduceEqDiff, Nat.reduceLeDiff, Nat.reduceLT]
      unfold opnI
      cases e : stk lt z with
      | nil =>
        rw [e] at bs'
        simp (disch := omega) only [q_lit, nI_add, pk_mul, q_a1, q_a3, q_a7, q_a31, q_a63, q_a255, q_a511, q_or, q_shr, q_shl, q_le, q_lt, q_eq, q_in, q_cl, q_neg, q_neg', q_nlt0, q_nle, q_nlt, q_nle', q_nlt', forall_eq, true_implies, false_implies, not_true_eq_false, not_false_eq_true, and_true, true_and, Nat.reduceMod, Nat.reducePow, Nat.reduceAdd, Nat.reduceMul, Nat.reduceDiv, Nat.reduceSub, Nat.reduceEqDiff, Nat.reduceLeDiff, Nat.reduceLT]
        exact ⟨by omega, key _ bs'.symm⟩
      | cons o r =>
        have ho := stk_cons lt z o r e
        rw [e] at bs'
        simp (disch := omega) only [q_lit, nI_add, pk_mul, q_a1, q_a3, q_a7, q_a31, q_a63, q_a255, q_a511, q_or, q_shr, q_shl, q_le, q_lt, q_eq, q_in, q_cl, q_neg, q_neg', q_nlt0, q_nle, q_nlt, q_nle', q_nlt', forall_eq, true_implies, false_implies, not_true_eq_false, not_false_eq_true, and_true, true_and, Nat.reduceMod, Nat.reducePow, Nat.reduceAdd, Nat.reduceMul, Nat.reduceDiv, Nat.reduceSub, Nat.reduceEqDiff, Nat.reduceLeDiff, Nat.reduceLT]
        refine ⟨by omega, by omega, ?_⟩
        rw [hbs o (by omega)]
        refine key _ ?_
        rw [bs']
        exact bas_congr (fun i hi => by unfold updN; rw [if_neg (by omega)])
theorem opnI_cons {lt : Nat → Nat} {k o : Nat} {r : List Nat} (h : stk lt k = o :: r) : opnI lt k = nI o := by unfold opnI; rw [h]
theorem opnI_nil {lt : Nat → Nat} {k : Nat} (h : stk lt k = []) : opnI lt k = -nI 1 := by unfold opnI; rw [h]
theorem q_depthB {z : Nat} {lt : Nat → Nat} {ls bs : Nat → Int32} (R : RowC z lt ls bs) {k : Nat} (hk : k ≤ z) {K : Int32 → Prop} (h : K (nI (stk lt k).length)) : wX6_depthBehind (nI k) (nI z) ls bs K := by
  have hz := R.1
  unfold wX6_depthBehind
  refine q_openAt R hk ?_
  intro E hE
  unfold wX6_depthBehind_L8
  intro P hP
  have L : ∀ (d : Nat) (j : Nat), j ≤ z → d + (stk lt j).length = (stk lt k).length → d + j ≤ 24 → P (nI d) (opnI lt j) := by
    intro d j
    induction j using Nat.strongRecOn generalizing d with
    | ind j ih =>
      intro hj hd h24
      refine hP _ _ ?_
      cases e : stk lt j with
      | nil =>
        rw [opnI_nil e]
        simp only [q_lit, q_lit, nI_add, pk_mul, q_a1, q_a3, q_a7, q_a31, q_a63, q_a255, q_a511, q_or, q_shr, q_shl, q_le, q_lt, q_eq, q_in, q_cl, q_neg, q_neg', q_nlt0, q_nle, q_nlt, q_nle', q_nlt', forall_eq, true_implies, false_implies, not_true_eq_false, not_false_eq_true, and_true, true_and, Nat.reduceMod, Nat.reducePow, Nat.reduceAdd, Nat.reduceMul, Nat.reduceDiv, Nat.reduceSub, Nat.reduceEqDiff, Nat.reduceLeDiff, Nat.reduceLT]
        refine hE _ _ ?_
        rw [e] at hd
        have : d = (stk lt k).length := by simpa using hd
        rw [this]; exact h
      | cons o r =>
        have ho := stk_cons lt j o r e
        rw [opnI_cons e]
        simp (disch := omega) only [q_lit, nI_add, pk_mul, q_a1, q_a3, q_a7, q_a31, q_a63, q_a255, q_a511, q_or, q_shr, q_shl, q_le, q_lt, q_eq, q_in, q_cl, q_neg, q_neg', q_nlt0, q_nle, q_nlt, q_nle', q_nlt', forall_eq, true_implies, false_implies, not_true_eq_false, not_false_eq_true, and_true, true_and, Nat.reduceMod, Nat.reducePow, Nat.reduceAdd, Nat.reduceMul, Nat.reduceDiv, Nat.reduceSub, Nat.reduceEqDiff, Nat.reduceLeDiff, Nat.reduceLT]
        refine ⟨fun g => absurd g (by omega), fun _ => ?_⟩
        refine q_openAt R (by omega) (ih o (by omega) (d + 1) (by omega) ?_ (by omega))
        rw [e, List.length_cons, ho.1] at hd
        omega
  exact L 0 k hk (by omega) (by omega)
/-- the partner of letter i among the first z -/
def prtI (lt : Nat → Nat) (z i : Nat) : Nat → Prop := fun j => (4 ≤ lt i ∧ ∃ r, stk lt i = j :: r) ∨ (lt i < 2 ∧ i < j ∧ j < z ∧ 4 ≤ lt j ∧ ∃ r, stk lt j = i :: r)
theorem q_partnerOf {z : Nat} {lt : Nat → Nat} {ls bs : Nat → Int32} (R : RowC z lt ls bs) {i : Nat} (hi : i < z) {K : Int32 → Prop} (h1 : ∀ j, prtI lt z i j → K (nI j)) (h0 : (∀ j, ¬ prtI lt z i j) → K (-nI 1)) : wX6_partnerOf (nI i) (nI z) ls bs K := by
  obtain ⟨hz, h6, _, _⟩ := id R
  unfold wX6_partnerOf
  refine q_letterAt R hi (q_closes (h6 i) ?_)
  have hh := h6 i
  by_cases c4 : lt i < 4
  · rw [if_pos c4]
    simp (disch := omega) only [q_lit, nI_add, pk_mul, q_a1, q_a3, q_a7, q_a31, q_a63, q_a255, q_a511, q_or, q_shr, q_shl, q_le, q_lt, q_eq, q_in, q_cl, q_neg, q_neg', q_nlt0, q_nle, q_nlt, q_nle', q_nlt', forall_eq, true_implies, false_implies, not_true_eq_false, not_false_eq_true, and_true, true_and, Nat.reduceMod, Nat.reducePow, Nat.reduceAdd, Nat.reduceMul, Nat.reduceDiv, Nat.reduceSub, Nat.reduceEqDiff, Nat.reduceLeDiff, Nat.reduceLT]
    intro E hE
    unfold wX6_partnerOf_L23
    intro P hP
    refine q_cnt (Q := fun j => i < j → (∀ j', i < j' → j' < j → ¬ prtI lt z i j') → P (nI j)) (N := z) ?_ ?_ (i + 1) (by omega) (by omega) (by omega)
    · intro _ hno
      refine hP _ ?_
      simp (disch := omega) only [q_lit, nI_add, pk_mul, q_a1, q_a3, q_a7, q_a31, q_a63, q_a255, q_a511, q_or, q_shr, q_shl, q_le, q_lt, q_eq, q_in, q_cl, q_neg, q_neg', q_nlt0, q_nle, q_nlt, q_nle', q_nlt', forall_eq, true_implies, false_implies, not_true_eq_false, not_false_eq_true, and_true, true_and, Nat.reduceMod, Nat.reducePow, Nat.reduceAdd, Nat.reduceMul, Nat.reduceDiv, Nat.reduceSub, Nat.reduceEqDiff, Nat.reduceLeDiff, Nat.reduceLT, Nat.le_refl]
      refine hE _ (h0 fun j hj => ?_)
      rcases hj with hj | hj
      · omega
      · exact hno j hj.2.1 hj.2.2.1 (.inr hj)
    · intro j hj ih hij hno
      refine hP _ ?_
      have h6j := h6 j
      simp (disch := omega) only [q_lit, nI_add, pk_mul, q_a1, q_a3, q_a7, q_a31, q_a63, q_a255, q_a511, q_or, q_shr, q_shl, q_le, q_lt, q_eq, q_in, q_cl, q_neg, q_neg', q_nlt0, q_nle, q_nlt, q_nle', q_nlt', forall_eq, true_implies, false_implies, not_true_eq_false, not_false_eq_true, and_true, true_and, Nat.reduceMod, Nat.reducePow, Nat.reduceAdd, Nat.reduceMul, Nat.reduceDiv, Nat.reduceSub, Nat.reduceEqDiff, Nat.reduceLeDiff, Nat.reduceLT]
      refine ⟨fun g => absurd g (by omega), fun _ => q_opens (h6 i) ?_⟩
      by_cases c2 : lt i < 2
      · rw [if_pos c2]
        simp (disch := omega) only [q_lit, nI_add, pk_mul, q_a1, q_a3, q_a7, q_a31, q_a63, q_a255, q_a511, q_or, q_shr, q_shl, q_le, q_lt, q_eq, q_in, q_cl, q_neg, q_neg', q_nlt0, q_nle, q_nlt, q_nle', q_nlt', forall_eq, true_implies, false_implies, not_true_eq_false, not_false_eq_true, and_true, true_and, Nat.reduceMod, Nat.reducePow, Nat.reduceAdd, Nat.reduceMul, Nat.reduceDiv, Nat.reduceSub, Nat.reduceEqDiff, Nat.reduceLeDiff, Nat.reduceLT]
        refine q_letterAt R hj (q_closes (h6 j) ?_)
        by_cases d4 : lt j < 4
        · rw [if_pos d4]
          simp (disch := omega) only [q_lit, nI_add, pk_mul, q_a1, q_a3, q_a7, q_a31, q_a63, q_a255, q_a511, q_or, q_shr, q_shl, q_le, q_lt, q_eq, q_in, q_cl, q_neg, q_neg', q_nlt0, q_nle, q_nlt, q_nle', q_nlt', forall_eq, true_implies, false_implies, not_true_eq_false, not_false_eq_true, and_true, true_and, Nat.reduceMod, Nat.reducePow, Nat.reduceAdd, Nat.reduceMul, Nat.reduceDiv, Nat.reduceSub, Nat.reduceEqDiff, Nat.reduceLeDiff, Nat.reduceLT]
          refine ih (by omega) fun j' g1 g2 hp => ?_
          rcases Nat.lt_or_ge j' j with g | g
          · exact hno j' g1 g hp
          · rcases hp with hp | hp
            · omega
            · rw [show j' = j from by omega] at hp; omega
        · rw [if_neg d4]
          simp (disch := omega) only [q_lit, nI_add, pk_mul, q_a1, q_a3, q_a7, q_a31, q_a63, q_a255, q_a511, q_or, q_shr, q_shl, q_le, q_lt, q_eq, q_in, q_cl, q_neg, q_neg', q_nlt0, q_nle, q_nlt, q_nle', q_nlt', forall_eq, true_implies, false_implies, not_true_eq_false, not_false_eq_true, and_true, true_and, Nat.reduceMod, Nat.reducePow, Nat.reduceAdd, Nat.reduceMul, Nat.reduceDiv, Nat.reduceSub, Nat.reduceEqDiff, Nat.reduceLeDiff, Nat.reduceLT]
          refine q_openAt R (by omega) ?_
          have go : ¬ (∃ r, stk lt j = i :: r) → P (nI (j + 1)) := fun hn => ih (by omega) fun j' g1 g2 hp => by
            rcases Nat.lt_or_ge j' j with g | g
            · exact hno j' g1 g hp
            · rcases hp with hp | hp
              · omega
              · rw [show j' = j from by omega] at hp; exact hn hp.2.2.2.2
          cases e : stk lt j with
          | nil =>
            rw [opnI_nil e]
            simp (disch := omega) only [q_lit, nI_add, pk_mul, q_a1, q_a3, q_a7, q_a31, q_a63, q_a255, q_a511, q_or, q_shr, q_shl, q_le, q_lt, q_eq, q_in, q_cl, q_neg, q_neg', q_nlt0, q_nle, q_nlt, q_nle', q_nlt', forall_eq, true_implies, false_implies, not_true_eq_false, not_false_eq_true, and_true, true_and, Nat.reduceMod, Nat.reducePow, Nat.reduceAdd, Nat.reduceMul, Nat.reduceDiv, Nat.reduceSub, Nat.reduceEqDiff, Nat.reduceLeDiff, Nat.reduceLT]
            exact go (by rw [e]; rintro ⟨r, hr⟩; simp at hr)
          | cons o r =>
            have ho := stk_cons lt j o r e
            rw [opnI_cons e]
            simp (disch := omega) only [q_lit, nI_add, pk_mul, q_a1, q_a3, q_a7, q_a31, q_a63, q_a255, q_a511, q_or, q_shr, q_shl, q_le, q_lt, q_eq, q_in, q_cl, q_neg, q_neg', q_nlt0, q_nle, q_nlt, q_nle', q_nlt', forall_eq, true_implies, false_implies, not_true_eq_false, not_false_eq_true, and_true, true_and, Nat.reduceMod, Nat.reducePow, Nat.reduceAdd, Nat.reduceMul, Nat.reduceDiv, Nat.reduceSub, Nat.reduceEqDiff, Nat.reduceLeDiff, Nat.reduceLT]
            refine ⟨fun g => h1 j (.inr ⟨c2, hij, hj, by omega, r, by rw [e, g]⟩), fun g => go ?_⟩
            rw [e]; rintro ⟨r', hr⟩; injection hr with hr1 hr2; exact g hr1
      · rw [if_neg c2]
        simp (disch := omega) only [q_lit, nI_add, pk_mul, q_a1, q_a3, q_a7, q_a31, q_a63, q_a255, q_a511, q_or, q_shr, q_shl, q_le, q_lt, q_eq, q_in, q_cl, q_neg, q_neg', q_nlt0, q_nle, q_nlt, q_nle', q_nlt', forall_eq, true_implies, false_implies, not_true_eq_false, not_false_eq_true, and_true, true_and, Nat.reduceMod, Nat.reducePow, Nat.reduceAdd, Nat.reduceMul, Nat.reduceDiv, Nat.reduceSub, Nat.reduceEqDiff, Nat.reduceLeDiff, Nat.reduceLT]
        refine hE _ (h0 fun j hj => ?_)
        rcases hj with hj | hj
        · omega
        · exact c2 hj.1
  · rw [if_neg c4]
    simp (disch := omega) only [q_lit, nI_add, pk_mul, q_a1, q_a3, q_a7, q_a31, q_a63, q_a255, q_a511, q_or, q_shr, q_shl, q_le, q_lt, q_eq, q_in, q_cl, q_neg, q_neg', q_nlt0, q_nle, q_nlt, q_nle', q_nlt', forall_eq, true_implies, false_implies, not_true_eq_false, not_false_eq_true, and_true, true_and, Nat.reduceMod, Nat.reducePow, Nat.reduceAdd, Nat.reduceMul, Nat.reduceDiv, Nat.reduceSub, Nat.reduceEqDiff, Nat.reduceLeDiff, Nat.reduceLT]
    refine q_openAt R (by omega) ?_
    cases e : stk lt i with
    | nil => rw [opnI_nil e]; refine h0 fun j hj => ?_
             rcases hj with ⟨_, r, hr⟩ | hj
             · rw [e] at hr; simp at hr
             · omega
    | cons o r => rw [opnI_cons e]; exact h1 o (.inl ⟨by omega, r, e⟩)
/-- what the reference has found behind i letters: the open ones in 'some', the partners -/
def FP (lt : Nat → Nat) (i : Nat) (pa so : Nat → Int32) : Prop :=
  (∀ d, d < (stk lt i).length → so d = nI ((stk lt i).getD ((stk lt i).length - 1 - d) 0)) ∧
  (∀ j, j < i → (∃ q, prtI lt i j q ∧ pa j = nI q ∧ q < i) ∨ ((∀ q, ¬ prtI lt i j q) ∧ pa j = -nI 1))
theorem stk_mem (lt : Nat → Nat) : ∀ k o, o ∈ stk lt k → o < k ∧ lt o < 2
  | 0, o, h => by simp [stk] at h
  | i + 1, o, h => by
    unfold stk at h
    split at h
    · rename_i g
      rcases List.mem_cons.1 h with e | h'
      · subst e; exact ⟨by omega, g⟩
      · have := stk_mem lt i o h'; exact ⟨by omega, this.2⟩
    · split at h
      · have := stk_mem lt i o h; exact ⟨by omega, this.2⟩
      · have := stk_mem lt i o (List.mem_of_mem_tail h); exact ⟨by omega, this.2⟩
theorem stk_nodup (lt : Nat → Nat) : ∀ k, (stk lt k).Nodup
  | 0 => List.nodup_nil
  | i + 1 => by
    have ih := stk_nodup lt i
    unfold stk
    split
    · exact List.nodup_cons.2 ⟨fun h => absurd (stk_mem lt i i h).1 (by omega), ih⟩
    · split
      · exact ih
      · exact ih.sublist (List.tail_sublist _)
theorem stk_back (lt : Nat → Nat) : ∀ k o, o ∈ stk lt k → ∀ k', o < k' → k' ≤ k → o ∈ stk lt k'
  | 0, o, h => by simp [stk] at h
  | i + 1, o, h => by
    intro k' h1 h2
    rcases Nat.lt_or_ge k' (i + 1) with g | g
    · have : o ∈ stk lt i := by
        unfold stk at h
        split at h
        · rcases List.mem_cons.1 h with e | h'
          · omega
          · exact h'
        · split at h
          · exact h
          · exact List.mem_of_mem_tail h
      exact stk_back lt i o this k' h1 (by omega)
    · rw [show k' = i + 1 from by omega]; exact h
theorem prtI_uniq {lt : Nat → Nat} {z i j j' : Nat} (h : prtI lt z i j) (h' : prtI lt z i j') : j = j' := by
  rcases h with ⟨a, r, e⟩ | ⟨a, b, c, d, r, e⟩ <;> rcases h' with ⟨a', r', e'⟩ | ⟨a', b', c', d', r', e'⟩
  · rw [e] at e'; injection e'
  · omega
  · omega
  · have key : ∀ j j' r r', i < j → j < j' → 4 ≤ lt j → stk lt j = i :: r → stk lt j' = i :: r' → False := by
      intro j j' r r' g1 g2 g3 g4 g5
      have m : i ∈ stk lt j' := by rw [g5]; exact List.mem_cons_self
      have m2 := stk_back lt j' i m (j + 1) (by omega) (by omega)
      rw [stk, if_neg (by omega), if_neg (by omega), g4, List.tail_cons] at m2
      have nd := stk_nodup lt j
      rw [g4] at nd
      exact (List.nodup_cons.1 nd).1 m2
    rcases Nat.lt_trichotomy j j' with g | g | g
    · exact (key j j' r r' b g d e e').elim
    · exact g
    · exact (key j' j r' r b' g d' e' e).elim
theorem q_findP {z : Nat} {lt : Nat → Nat} (hz : z ≤ 24) (h6 : ∀ i, lt i < 6) {ro : Nat → Int32} (hr : ∀ i, i < z → ro i = nI (lt i)) {k : Nat} (hk : k ≤ z) {pa0 so0 : Nat → Int32} {K : Int32 → (Nat → Int32) → (Nat → Int32) → Prop} (h : ∀ pa so, FP lt k pa so → K (nI (stk lt k).length) pa so) : wX12_findPartners (nI k) ro pa0 so0 K := by
  unfold wX12_findPartners wX12_findPartners_L4
  intro P hP
  refine q_cnt (Q := fun i => ∀ pa so, FP lt i pa so → P (nI (stk lt i).length) (nI i) pa so) (N := k) ?_ ?_ 0 (by omega) pa0 so0 ⟨fun d hd => absurd hd (by simp [stk]), fun j hj => absurd hj (by omega)⟩
  · intro pa so F
    refine hP _ _ _ _ ?_
    simp (disch := omega) only [q_lit, nI_add, pk_mul, q_a1, q_a3, q_a7, q_a31, q_a63, q_a255, q_a511, q_or, q_shr, q_shl, q_le, q_lt, q_eq, q_in, q_cl, q_neg, q_neg', q_nlt0, q_nle, q_nlt, q_nle', q_nlt', forall_eq, true_implies, false_implies, not_true_eq_false, not_false_eq_true, and_true, true_and, Nat.reduceMod, Nat.reducePow, Nat.reduceAdd, Nat.reduceMul, Nat.reduceDiv, Nat.reduceSub, Nat.reduceEqDiff, Nat.reduceLeDiff, Nat.reduceLT, Nat.le_refl]
    exact h pa so F
  · intro i hi ih pa so F
    obtain ⟨F1, F2⟩ := F
    have hl := stk_len lt i
    have hh := h6 i
    refine hP _ _ _ _ ?_
    rw [q_cl (show i < 2147483648 by omega), hr i (by omega)]
    simp (disch := omega) only [q_lit, nI_add, pk_mul, q_a1, q_a3, q_a7, q_a31, q_a63, q_a255, q_a511, q_or, q_shr, q_shl, q_le, q_lt, q_eq, q_in, q_cl, q_neg, q_neg', q_nlt0, q_nle, q_nlt, q_nle', q_nlt', forall_eq, true_implies, false_implies, not_true_eq_false, not_false_eq_true, and_true, true_and, Nat.reduceMod, Nat.reducePow, Nat.reduceAdd, Nat.reduceMul, Nat.reduceDiv, Nat.reduceSub, Nat.reduceEqDiff, Nat.reduceLeDiff, Nat.reduceLT]
    refine ⟨fun g => absurd g (by omega), fun _ => ⟨by omega, by omega, fun g2 => ⟨by omega, fun g3 => ?_, fun g3 => ⟨fun g0 => ?_, fun g0 => ?_⟩⟩, fun g2 => ?_⟩⟩
    · have es : stk lt (i + 1) = stk lt i := by rw [stk, if_neg (by omega), if_pos (by omega)]
      have := ih (upd pa i (-nI 1)) so ⟨by rw [es]; exact F1, fun j hj => ?_⟩
      · rw [es] at this; exact this
      · rw [q_ap]
        by_cases e : j = i
        · subst e
          rw [if_pos rfl]
          exact .inr ⟨fun q hq => by rcases hq with hq | hq <;> omega, rfl⟩
        · rw [if_neg e]
          rcases F2 j (by omega) with ⟨q, a, b, c⟩ | ⟨a, b⟩
          · refine .inl ⟨q, ?_, b, by omega⟩
            rcases a with a | a
            · exact .inl a
            · exact .inr ⟨a.1, a.2.1, by omega, a.2.2.2⟩
          · refine .inr ⟨fun q hq => ?_, b⟩
            rcases hq with hq | hq
            · exact a q (.inl hq)
            · rcases Nat.lt_or_ge q i with g | g
              · exact a q (.inr ⟨hq.1, hq.2.1, g, hq.2.2.2⟩)
              · have : q = i := by omega
                subst this; omega
    · have e0 : stk lt i = [] := List.length_eq_zero_iff.1 (by omega)
      have es : stk lt (i + 1) = [] := by rw [stk, if_neg (by omega), if_neg (by omega), e0]; rfl
      have := ih (upd pa i (-nI 1)) so ⟨by rw [es]; intro d hd; simp at hd, fun j hj => ?_⟩
      · rw [es] at this; rw [e0]; exact this
      · rw [q_ap]
        by_cases e : j = i
        · subst e
          rw [if_pos rfl]
          refine .inr ⟨fun q hq => ?_, rfl⟩
          rcases hq with ⟨_, r, hq⟩ | hq
          · rw [e0] at hq; simp at hq
          · omega
        · rw [if_neg e]
          rcases F2 j (by omega) with ⟨q, a, b, c⟩ | ⟨a, b⟩
          · refine .inl ⟨q, ?_, b, by omega⟩
            rcases a with a | a
            · exact .inl a
            · exact .inr ⟨a.1, a.2.1, by omega, a.2.2.2⟩
          · refine .inr ⟨fun q hq => ?_, b⟩
            rcases hq with hq | hq
            · exact a q (.inl hq)
            · rcases Nat.lt_or_ge q i with g | g
              · exact a q (.inr ⟨hq.1, hq.2.1, g, hq.2.2.2⟩)
              · have : q = i := by omega
                subst this
                obtain ⟨r, hr'⟩ := hq.2.2.2.2
                rw [e0] at hr'; simp at hr'
    · cases e0 : stk lt i with
      | nil => rw [e0] at g0; simp at g0
      | cons o r =>
        have ho := stk_cons lt i o r e0
        have es : stk lt (i + 1) = r := by rw [stk, if_neg (by omega), if_neg (by omega), e0]; rfl
        have so1 : so r.length = nI o := by
          have := F1 r.length (by rw [e0]; simp)
          rw [this, e0]; simp
        simp only [List.length_cons]
        rw [e0, List.length_cons] at hl
        rw [q_addn (by omega), Nat.add_sub_cancel]
        simp (disch := omega) only [q_lit, nI_add, pk_mul, q_a1, q_a3, q_a7, q_a31, q_a63, q_a255, q_a511, q_or, q_shr, q_shl, q_le, q_lt, q_eq, q_in, q_cl, q_neg, q_neg', q_nlt0, q_nle, q_nlt, q_nle', q_nlt', forall_eq, true_implies, false_implies, not_true_eq_false, not_false_eq_true, and_true, true_and, Nat.reduceMod, Nat.reducePow, Nat.reduceAdd, Nat.reduceMul, Nat.reduceDiv, Nat.reduceSub, Nat.reduceEqDiff, Nat.reduceLeDiff, Nat.reduceLT, so1]
        refine ⟨by omega, by omega, by omega, by omega, ?_⟩
        have := ih (upd (upd (upd pa i (-nI 1)) i (nI o)) o (nI i)) so ⟨?_, fun j hj => ?_⟩
        · rw [es] at this; exact this
        · rw [es]
          intro d hd
          rw [F1 d (by rw [e0, List.length_cons]; omega), e0, List.length_cons]
          congr 1
          rw [show r.length + 1 - 1 - d = (r.length - 1 - d) + 1 from by omega, List.getD_cons_succ]
        · rw [q_ap, q_ap, q_ap]
          by_cases e : j = o
          · subst e
            rw [if_pos rfl]
            exact .inl ⟨i, .inr ⟨ho.2.2, ho.2.1, by omega, by omega, r, e0⟩, rfl, by omega⟩
          · rw [if_neg e]
            by_cases e' : j = i
            · subst e'
              rw [if_pos rfl]
              exact .inl ⟨o, .inl ⟨by omega, r, e0⟩, rfl, by omega⟩
            · rw [if_neg e', if_neg e']
              rcases F2 j (by omega) with ⟨q, a, b, c⟩ | ⟨a, b⟩
              · refine .inl ⟨q, ?_, b, by omega⟩
                rcases a with a | a
                · exact .inl a
                · exact .inr ⟨a.1, a.2.1, by omega, a.2.2.2⟩
              · refine .inr ⟨fun q hq => ?_, b⟩
                rcases hq with hq | hq
                · exact a q (.inl hq)
                · rcases Nat.lt_or_ge q i with g | g
                  · exact a q (.inr ⟨hq.1, hq.2.1, g, hq.2.2.2⟩)
                  · have : q = i := by omega
                    subst this
                    obtain ⟨r', hr'⟩ := hq.2.2.2.2
                    rw [e0] at hr'; injection hr' with h1 h2; exact e h1.symm
    · refine ⟨by omega, ?_⟩
      have es : stk lt (i + 1) = i :: stk lt i := by rw [stk, if_pos (by omega)]
      have := ih (upd pa i (-nI 1)) (upd so (stk lt i).length (nI i)) ⟨?_, fun j hj => ?_⟩
      · rw [es, List.length_cons] at this; exact this
      · rw [es, List.length_cons]
        intro d hd
        rw [q_ap]
        split
        · rename_i e; rw [e, show (stk lt i).length + 1 - 1 - (stk lt i).length = 0 from by omega]; rfl
        · rw [F1 d (by omega), show (stk lt i).length + 1 - 1 - d = ((stk lt i).length - 1 - d) + 1 from by omega, List.getD_cons_succ]
      · rw [q_ap]
        by_cases e : j = i
        · subst e
          rw [if_pos rfl]
          refine .inr ⟨fun q hq => ?_, rfl⟩
          rcases hq with hq | hq <;> omega
        · rw [if_neg e]
          rcases F2 j (by omega) with ⟨q, a, b, c⟩ | ⟨a, b⟩
          · refine .inl ⟨q, ?_, b, by omega⟩
            rcases a with a | a
            · exact .inl a
            · exact .inr ⟨a.1, a.2.1, by omega, a.2.2.2⟩
          · refine .inr ⟨fun q hq => ?_, b⟩
            rcases hq with hq | hq
            · exact a q (.inl hq)
            · rcases Nat.lt_or_ge q i with g | g
              · exact a q (.inr ⟨hq.1, hq.2.1, g, hq.2.2.2⟩)
              · have : q = i := by omega
                subst this; omega
