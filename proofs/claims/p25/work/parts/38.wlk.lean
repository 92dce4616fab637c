/-- one reader on a row: COME, SINCE and what stands open (COME, SINCE ahead of it, its letter), behind each letter -/
def rsm (w : Nat → Nat) (n : Nat) (lt : Nat → Nat) : Nat → Nat × Nat × List (Nat × Nat × Nat)
  | 0 => (1, idn n, [])
  | k + 1 =>
    let s := rsm w n lt k
    if lt k < 2 then (img s.1 (aln w (lt k)), idn n, (s.1, s.2.1, lt k) :: s.2.2)
    else if lt k < 4 then (img s.1 (w (3 * lt k + 1)), thn3 s.2.1 (w (3 * lt k + 1)), s.2.2)
    else match s.2.2 with
      | (c, x, l) :: r => (img c (wrp w l (lt k) s.2.1), thn3 x (wrp w l (lt k) s.2.1), r)
      | [] => (img s.1 (aln w (lt k)), idn n, [])
def cmA (w : Nat → Nat) (n : Nat) (lt : Nat → Nat) (k : Nat) : Nat := (rsm w n lt k).1
def snA (w : Nat → Nat) (n : Nat) (lt : Nat → Nat) (k : Nat) : Nat := (rsm w n lt k).2.1
theorem rsm_stk (w : Nat → Nat) (n : Nat) (lt : Nat → Nat) : ∀ k, (rsm w n lt k).2.2 = (stk lt k).map (fun o => (cmA w n lt o, snA w n lt o, lt o))
  | 0 => rfl
  | k + 1 => by
    have ih := rsm_stk w n lt k
    unfold rsm stk
    simp only
    split
    · rw [ih]; rfl
    · split
      · exact ih
      · rw [ih]
        cases stk lt k with
        | nil => rfl
        | cons o r => rfl
theorem cmA_0 (w : Nat → Nat) (n : Nat) (lt : Nat → Nat) : cmA w n lt 0 = 1 := rfl
theorem snA_0 (w : Nat → Nat) (n : Nat) (lt : Nat → Nat) : snA w n lt 0 = idn n := rfl
theorem rsm_open {w : Nat → Nat} {n : Nat} {lt : Nat → Nat} {k : Nat} (h : lt k < 2) : cmA w n lt (k + 1) = img (cmA w n lt k) (aln w (lt k)) ∧ snA w n lt (k + 1) = idn n := by
  unfold cmA snA
  rw [rsm]; simp only [if_pos h]; exact ⟨trivial, trivial⟩
theorem rsm_plain {w : Nat → Nat} {n : Nat} {lt : Nat → Nat} {k : Nat} (h : 2 ≤ lt k) (h4 : lt k < 4) : cmA w n lt (k + 1) = img (cmA w n lt k) (w (3 * lt k + 1)) ∧ snA w n lt (k + 1) = thn3 (snA w n lt k) (w (3 * lt k + 1)) := by
  unfold cmA snA
  rw [rsm]; simp only [if_neg (show ¬ lt k < 2 by omega), if_pos h4]; exact ⟨trivial, trivial⟩
theorem rsm_free {w : Nat → Nat} {n : Nat} {lt : Nat → Nat} {k : Nat} (h4 : 4 ≤ lt k) (e : stk lt k = []) : cmA w n lt (k + 1) = img (cmA w n lt k) (aln w (lt k)) ∧ snA w n lt (k + 1) = idn n := by
  have := rsm_stk w n lt k
  rw [e] at this
  unfold cmA snA
  rw [rsm]; simp only [if_neg (show ¬ lt k < 2 by omega), if_neg (show ¬ lt k < 4 by omega), this, List.map_nil]; exact ⟨trivial, trivial⟩
theorem rsm_close {w : Nat → Nat} {n : Nat} {lt : Nat → Nat} {k o : Nat} {r : List Nat} (h4 : 4 ≤ lt k) (e : stk lt k = o :: r) : cmA w n lt (k + 1) = img (cmA w n lt o) (wrp w (lt o) (lt k) (snA w n lt k)) ∧ snA w n lt (k + 1) = thn3 (snA w n lt o) (wrp w (lt o) (lt k) (snA w n lt k)) := by
  have := rsm_stk w n lt k
  rw [e] at this
  unfold cmA snA
  rw [rsm]; simp only [if_neg (show ¬ lt k < 2 by omega), if_neg (show ¬ lt k < 4 by omega), this, List.map_cons]; exact ⟨rfl, rfl⟩
theorem cs_lt {n m t : Nat} {w : Nat → Nat} (W : WfR n m t w) (lt : Nat → Nat) : ∀ k, cmA w n lt k < 8 ∧ snA w n lt k < 512
  | 0 => ⟨by rw [cmA_0]; omega, by rw [snA_0]; exact idn_lt n⟩
  | k + 1 => by
    rcases Nat.lt_or_ge (lt k) 2 with g | g
    · rw [(rsm_open g).1, (rsm_open g).2]; exact ⟨img_lt _ _, idn_lt n⟩
    · rcases Nat.lt_or_ge (lt k) 4 with g4 | g4
      · rw [(rsm_plain g g4).1, (rsm_plain g g4).2]; exact ⟨img_lt _ _, thn3_lt _ _⟩
      · cases e : stk lt k with
        | nil => rw [(rsm_free g4 e).1, (rsm_free g4 e).2]; exact ⟨img_lt _ _, idn_lt n⟩
        | cons o r => rw [(rsm_close g4 e).1, (rsm_close g4 e).2]; exact ⟨img_lt _ _, thn3_lt _ _⟩
/-- the class's walk, up to i letters -/
def WkC (w : Nat → Nat) (n : Nat) (lt : Nat → Nat) (i : Nat) (co si : Nat → Int32) : Prop := ∀ k, k ≤ i → co k = nI (cmA w n lt k) ∧ si k = nI (snA w n lt k)
theorem q_goOnC {co si : Nat → Int32} {f t c x v : Nat} (hf : f < 25) (ht : t < 25) (hc : co f = nI c) (hs : si f = nI x) (c8 : c < 8) (x5 : x < 512) (v5 : v < 512) {K : (Nat → Int32) → (Nat → Int32) → Prop} (h : K (upd co t (nI (img c v))) (upd si t (nI (thn3 x v)))) : wX9_goOn (nI f) (nI v) (nI t) co si K := by
  unfold wX9_goOn
  rw [q_in (by omega), q_cl (by omega), hc]
  refine ⟨hf, q_image c8 v5 ?_⟩
  rw [q_in (by omega), q_cl (by omega)]
  simp only [forall_eq, hs]
  exact ⟨ht, hf, q_then x5 v5 ⟨ht, h⟩⟩
theorem WkC_upd {w : Nat → Nat} {n : Nat} {lt : Nat → Nat} {i c x : Nat} {co si : Nat → Int32} (H : WkC w n lt i co si) (hc : c = cmA w n lt (i + 1)) (hx : x = snA w n lt (i + 1)) : WkC w n lt (i + 1) (upd co (i + 1) (nI c)) (upd si (i + 1) (nI x)) := by
  intro k hk
  rw [q_ap, q_ap]
  split
  · rename_i e; rw [e, hc, hx]; exact ⟨rfl, rfl⟩
  · exact H k (by omega)
theorem q_stepC {n m t : Nat} {w : Nat → Nat} (W : WfR n m t w) {z : Nat} {lt : Nat → Nat} {ls bs : Nat → Int32} (R : RowC z lt ls bs) {i : Nat} (hi : i < z) {co si : Nat → Int32} (H : WkC w n lt i co si) {K : (Nat → Int32) → (Nat → Int32) → Prop} (h : ∀ co' si', WkC w n lt (i + 1) co' si' → (∀ j, j ≤ i → co' j = co j ∧ si' j = si j) → K co' si') : wX9_step (nI i) (nI (idn n)) co si (nI m) (fun j => nI (w j)) (nI z) ls bs K := by
  obtain ⟨hz, h6, _, _⟩ := id R
  have hR := W.2.2.2.2.2.1
  have hl := h6 i
  have cl := cs_lt W lt
  obtain ⟨hco, hsi⟩ := H i (Nat.le_refl _)
  have old : ∀ (c x : Int32) j, j ≤ i → upd co (i + 1) c j = co j ∧ upd si (i + 1) x j = si j := fun c x j hj => by
    rw [q_un (by omega), q_un (by omega)]; exact ⟨rfl, rfl⟩
  unfold wX9_step
  simp (disch := omega) only [q_lit, nI_add, pk_mul, q_a1, q_a3, q_a7, q_a31, q_a63, q_a255, q_a511, q_or, q_shr, q_shl, q_le, q_lt, q_eq, q_in, q_cl, q_neg, q_neg', q_nlt0, q_nle, q_nlt, q_nle', q_nlt', forall_eq, true_implies, false_implies, not_true_eq_false, not_false_eq_true, and_true, true_and, Nat.reduceMod, Nat.reducePow, Nat.reduceAdd, Nat.reduceMul, Nat.reduceDiv, Nat.reduceSub, Nat.reduceEqDiff, Nat.reduceLeDiff, Nat.reduceLT]
  refine ⟨fun g => absurd g (by omega), fun _ => ⟨fun _ => ?_, fun g => absurd (show i < 24 by omega) g⟩⟩
  refine q_letterAt R hi (q_openAt R (by omega) (q_isPlain hl ?_))
  by_cases p : 2 ≤ lt i ∧ lt i < 4
  · rw [if_pos p]
    simp (disch := omega) only [q_lit, nI_add, pk_mul, q_a1, q_a3, q_a7, q_a31, q_a63, q_a255, q_a511, q_or, q_shr, q_shl, q_le, q_lt, q_eq, q_in, q_cl, q_neg, q_neg', q_nlt0, q_nle, q_nlt, q_nle', q_nlt', forall_eq, true_implies, false_implies, not_true_eq_false, not_false_eq_true, and_true, true_and, Nat.reduceMod, Nat.reducePow, Nat.reduceAdd, Nat.reduceMul, Nat.reduceDiv, Nat.reduceSub, Nat.reduceEqDiff, Nat.reduceLeDiff, Nat.reduceLT, q_one2]
    refine q_way (k := 1) hl (by omega) rfl ?_
    refine q_goOnC (by omega) (by omega) hco hsi (cl i).1 (cl i).2 (hR _).1 ?_
    have hp := rsm_plain (w := w) (n := n) p.1 p.2
    exact h _ _ (WkC_upd H hp.1.symm hp.2.symm) (old _ _)
  · rw [if_neg p]
    simp (disch := omega) only [q_lit, nI_add, pk_mul, q_a1, q_a3, q_a7, q_a31, q_a63, q_a255, q_a511, q_or, q_shr, q_shl, q_le, q_lt, q_eq, q_in, q_cl, q_neg, q_neg', q_nlt0, q_nle, q_nlt, q_nle', q_nlt', forall_eq, true_implies, false_implies, not_true_eq_false, not_false_eq_true, and_true, true_and, Nat.reduceMod, Nat.reducePow, Nat.reduceAdd, Nat.reduceMul, Nat.reduceDiv, Nat.reduceSub, Nat.reduceEqDiff, Nat.reduceLeDiff, Nat.reduceLT]
    refine q_closes hl ?_
    have alone : ∀ {K' : (Nat → Int32) → (Nat → Int32) → Prop}, K' = K → cmA w n lt (i + 1) = img (cmA w n lt i) (aln w (lt i)) → snA w n lt (i + 1) = idn n → (i < 25 ∧ wX5_alone (nI (lt i)) (fun j => nI (w j)) (fun r9 => wX5_image (co i) r9 (fun r10 => (i + 1 < 25 ∧ (i + 1 < 25 ∧ K' (upd co (i + 1) r10) (upd si (i + 1) (nI (idn n)))))))) := by
      rintro K' rfl e1 e2
      refine ⟨by omega, q_alone hl ?_⟩
      rw [hco]
      refine q_image (cl i).1 (Rn_aln hR _).1 ⟨by omega, by omega, ?_⟩
      exact h _ _ (WkC_upd H e1.symm e2.symm) (old _ _)
    by_cases c4 : lt i < 4
    · rw [if_pos c4]
      simp (disch := omega) only [q_lit, nI_add, pk_mul, q_a1, q_a3, q_a7, q_a31, q_a63, q_a255, q_a511, q_or, q_shr, q_shl, q_le, q_lt, q_eq, q_in, q_cl, q_neg, q_neg', q_nlt0, q_nle, q_nlt, q_nle', q_nlt', forall_eq, true_implies, false_implies, not_true_eq_false, not_false_eq_true, and_true, true_and, Nat.reduceMod, Nat.reducePow, Nat.reduceAdd, Nat.reduceMul, Nat.reduceDiv, Nat.reduceSub, Nat.reduceEqDiff, Nat.reduceLeDiff, Nat.reduceLT]
      have ho := rsm_open (w := w) (n := n) (show lt i < 2 by omega)
      exact alone rfl ho.1 ho.2
    · rw [if_neg c4]
      simp (disch := omega) only [q_lit, nI_add, pk_mul, q_a1, q_a3, q_a7, q_a31, q_a63, q_a255, q_a511, q_or, q_shr, q_shl, q_le, q_lt, q_eq, q_in, q_cl, q_neg, q_neg', q_nlt0, q_nle, q_nlt, q_nle', q_nlt', forall_eq, true_implies, false_implies, not_true_eq_false, not_false_eq_true, and_true, true_and, Nat.reduceMod, Nat.reducePow, Nat.reduceAdd, Nat.reduceMul, Nat.reduceDiv, Nat.reduceSub, Nat.reduceEqDiff, Nat.reduceLeDiff, Nat.reduceLT, q_one2]
      cases e : stk lt i with
      | nil =>
        have ho := rsm_free (w := w) (n := n) (show 4 ≤ lt i by omega) e
        rw [opnI_nil e]
        simp (disch := omega) only [q_lit, nI_add, pk_mul, q_a1, q_a3, q_a7, q_a31, q_a63, q_a255, q_a511, q_or, q_shr, q_shl, q_le, q_lt, q_eq, q_in, q_cl, q_neg, q_neg', q_nlt0, q_nle, q_nlt, q_nle', q_nlt', forall_eq, true_implies, false_implies, not_true_eq_false, not_false_eq_true, and_true, true_and, Nat.reduceMod, Nat.reducePow, Nat.reduceAdd, Nat.reduceMul, Nat.reduceDiv, Nat.reduceSub, Nat.reduceEqDiff, Nat.reduceLeDiff, Nat.reduceLT]
        exact alone rfl ho.1 ho.2
      | cons o r =>
        have hs := stk_cons lt i o r e
        have ho := rsm_close (w := w) (n := n) (show 4 ≤ lt i by omega) e
        rw [opnI_cons e]
        simp (disch := omega) only [q_lit, nI_add, pk_mul, q_a1, q_a3, q_a7, q_a31, q_a63, q_a255, q_a511, q_or, q_shr, q_shl, q_le, q_lt, q_eq, q_in, q_cl, q_neg, q_neg', q_nlt0, q_nle, q_nlt, q_nle', q_nlt', forall_eq, true_implies, false_implies, not_true_eq_false, not_false_eq_true, and_true, true_and, Nat.reduceMod, Nat.reducePow, Nat.reduceAdd, Nat.reduceMul, Nat.reduceDiv, Nat.reduceSub, Nat.reduceEqDiff, Nat.reduceLeDiff, Nat.reduceLT]
        refine ⟨fun g => absurd g (by omega), fun _ => ⟨fun g => absurd g (by omega), fun _ => ?_⟩⟩
        refine q_letterAt R (by omega) ⟨by omega, ?_⟩
        rw [hsi]
        refine q_wrapped W hs.2.2 (by omega) hl (cl i).2 ?_
        obtain ⟨hco', hsi'⟩ := H o (by omega)
        refine q_goOnC (by omega) (by omega) hco' hsi' (cl o).1 (cl o).2 (wrp_lt _ _ _ _) ?_
        exact h _ _ (WkC_upd H ho.1.symm ho.2.symm) (old _ _)
theorem q_beginC {n : Nat} (h1 : 1 ≤ n) (h3 : n ≤ 3) {w : Nat → Nat} {lt : Nat → Nat} {sm : Int32} {co si : Nat → Int32} {K : Int32 → (Nat → Int32) → (Nat → Int32) → Prop} (h : ∀ co' si', WkC w n lt 0 co' si' → K (nI (idn n)) co' si') : wX9_begin sm co si (nI n) K := by
  unfold wX9_begin
  refine q_identity h1 h3 ?_
  simp (disch := omega) only [q_lit, nI_add, pk_mul, q_a1, q_a3, q_a7, q_a31, q_a63, q_a255, q_a511, q_or, q_shr, q_shl, q_le, q_lt, q_eq, q_in, q_cl, q_neg, q_neg', q_nlt0, q_nle, q_nlt, q_nle', q_nlt', forall_eq, true_implies, false_implies, not_true_eq_false, not_false_eq_true, and_true, true_and, Nat.reduceMod, Nat.reducePow, Nat.reduceAdd, Nat.reduceMul, Nat.reduceDiv, Nat.reduceSub, Nat.reduceEqDiff, Nat.reduceLeDiff, Nat.reduceLT]
  refine h _ _ ?_
  intro k hk
  rw [show k = 0 from by omega]
  exact ⟨rfl, rfl⟩
theorem q_followC {n m t : Nat} {w : Nat → Nat} (W : WfR n m t w) {z : Nat} {lt : Nat → Nat} {ls bs : Nat → Int32} (R : RowC z lt ls bs) {k : Nat} (hk : k ≤ z) {sm : Int32} {co si : Nat → Int32} {K : Int32 → (Nat → Int32) → (Nat → Int32) → Prop} (h : ∀ co' si', WkC w n lt k co' si' → K (nI (idn n)) co' si') : wX9_follow (nI k) sm co si (nI n) (nI m) (fun j => nI (w j)) (nI z) ls bs K := by
  have hz := R.1
  unfold wX9_follow
  refine q_beginC (w := w) (lt := lt) W.1 W.2.1 (fun co1 si1 H1 => ?_)
  unfold wX9_follow_L8
  intro P hP
  refine q_cnt0 (Q := fun i => ∀ co si, WkC w n lt i co si → P (nI i) co si) k ?_ ?_ _ _ H1
  · intro co si H
    refine hP _ _ _ ?_
    simp (disch := omega) only [q_lit, nI_add, pk_mul, q_a1, q_a3, q_a7, q_a31, q_a63, q_a255, q_a511, q_or, q_shr, q_shl, q_le, q_lt, q_eq, q_in, q_cl, q_neg, q_neg', q_nlt0, q_nle, q_nlt, q_nle', q_nlt', forall_eq, true_implies, false_implies, not_true_eq_false, not_false_eq_true, and_true, true_and, Nat.reduceMod, Nat.reducePow, Nat.reduceAdd, Nat.reduceMul, Nat.reduceDiv, Nat.reduceSub, Nat.reduceEqDiff, Nat.reduceLeDiff, Nat.reduceLT, Nat.le_refl]
    exact h _ _ H
  · intro i hi ih co si H
    refine hP _ _ _ ?_
    simp (disch := omega) only [q_lit, nI_add, pk_mul, q_a1, q_a3, q_a7, q_a31, q_a63, q_a255, q_a511, q_or, q_shr, q_shl, q_le, q_lt, q_eq, q_in, q_cl, q_neg, q_neg', q_nlt0, q_nle, q_nlt, q_nle', q_nlt', forall_eq, true_implies, false_implies, not_true_eq_false, not_false_eq_true, and_true, true_and, Nat.reduceMod, Nat.reducePow, Nat.reduceAdd, Nat.reduceMul, Nat.reduceDiv, Nat.reduceSub, Nat.reduceEqDiff, Nat.reduceLeDiff, Nat.reduceLT]
    exact ⟨fun g => absurd g (by omega), fun _ => q_stepC W R (by omega) H (fun co' si' H' _ => ih _ _ H')⟩
