/-- the class's step of the runs -/
def RnC (w lt : Nat → Nat) (i : Nat) (co si : Nat → Int64) : Prop := ∀ k, k ≤ i → (∀ j, j < 3 → co (3 * k + j) = lN (crA w lt k j)) ∧ ∀ j, j < 9 → si (9 * k + j) = lN (srA w lt k j)
theorem q_goOnR {w lt : Nat → Nat} {i o : Nat} (hi : i < 24) (ho : o ≤ i) {co si F : Nat → Int64} {f : Nat → Nat} (H : RnC w lt i co si) (hF : ∀ j, j < 9 → F j = lN (f j)) (hf : ∀ j, f j < 1000000007) {K : (Nat → Int64) → (Nat → Int64) → Prop}
    (h : ∀ co' si', RnC w lt i co' si' → (∀ j, j < 3 → co' (3 * (i + 1) + j) = lN (mulR (crA w lt o) f j)) → (∀ j, j < 9 → si' (9 * (i + 1) + j) = lN (mulW (srA w lt o) f j)) → K co' si') : wX7_goOn (nI o) (nI i + 1) co si F K := by
  unfold wX7_goOn
  rw [nI_1, show (3 : Int32) = nI 3 from rfl, show (9 : Int32) = nI 9 from rfl, pk_mul, pk_mul, pk_mul, pk_mul, show (1 : Int32) = nI 1 from rfl]
  refine q_times (x := crA w lt o) (L := 1) (by omega) (by omega) (by omega) (by omega) (by omega) (fun j hj => (H o ho).1 j (by omega)) hF (fun j => (csr_lt w lt o j).1) hf (fun co' c1 c2 => ?_)
  refine q_times (x := srA w lt o) (L := 3) (by omega) (by omega) (by omega) (by omega) (by omega) (fun j hj => (H o ho).2 j (by omega)) hF (fun j => (csr_lt w lt o j).2) hf (fun si' s1 s2 => ?_)
  refine h _ _ (fun k hk => ⟨fun j hj => ?_, fun j hj => ?_⟩) (fun j hj => ?_) (fun j hj => s1 j hj)
  · rw [c2 _ (by omega)]; exact (H k hk).1 j hj
  · rw [s2 _ (by omega)]; exact (H k hk).2 j hj
  · rw [c1 j (by omega), mulW_R _ _ hj]
theorem RnC_s {w lt : Nat → Nat} {i : Nat} {co si : Nat → Int64} (H : RnC w lt i co si) (h1 : ∀ j, j < 3 → co (3 * (i + 1) + j) = lN (crA w lt (i + 1) j)) (h2 : ∀ j, j < 9 → si (9 * (i + 1) + j) = lN (srA w lt (i + 1) j)) : RnC w lt (i + 1) co si := by
  intro k hk
  by_cases e : k ≤ i
  · exact H k e
  · have e : k = i + 1 := by omega
    subst e
    exact ⟨h1, h2⟩
theorem q_stepR {n m t : Nat} {w : Nat → Nat} (W : WfR n m t w) {z : Nat} {lt : Nat → Nat} {ls bs : Nat → Int32} (R : RowC z lt ls bs) {i : Nat} (hi : i < z) {co si F G : Nat → Int64} (H : RnC w lt i co si) {K : (Nat → Int64) → (Nat → Int64) → (Nat → Int64) → (Nat → Int64) → Prop}
    (h : ∀ co' si' F' G', RnC w lt (i + 1) co' si' → K co' si' F' G') : wX7_step (nI i) co si F G (fun j => nI (w j)) (nI z) ls bs K := by
  have hz := R.1
  have h6 := R.2.1
  have W5 : ∀ j, w j < 512 := fun j => (W.2.2.2.2.2.1 j).1
  have l6 := h6 i
  unfold wX7_step
  refine q_letterAt R hi (q_openAt R (by omega) (q_clear9 (fun F0 f0 => q_opens l6 ?_)))
  have one : ∀ {F0 : Nat → Int64} {j : Nat} {K : (Nat → Int64) → Prop}, (∀ j, j < 9 → F0 j = lN 0) → (∀ F1 : Nat → Int64, (∀ i, i < 9 → F1 i = lN (bW (w j) i)) → K F1) → wX7_addWay (nI (w j)) F0 K := fun {F0 j K} f0 h => by
    refine q_addWay (W5 j) (f := fun _ => 0) f0 (fun B hB => h B (fun i hi => by rw [hB i hi, Nat.zero_add]))
  have bl : ∀ j i, bW (w j) i < 1000000007 := fun j i => by have := bW_lt (w j) i; omega
  by_cases g2 : lt i < 2
  · rw [if_pos g2]
    refine ⟨fun g => absurd g (by decide), fun _ => ?_⟩
    refine q_way (k := 1) l6 (by omega) (by decide) (one f0 (fun F1 f1 => ?_))
    refine q_way (k := 2) l6 (by omega) (by decide) ?_
    refine q_addWay (W5 _) f1 (fun F2 f2 => ?_)
    have f2 : ∀ j, j < 9 → F2 j = lN (opW w (lt i) j) := f2
    refine q_goOnR (o := i) (by omega) (Nat.le_refl i) H f2 (opW_lt w (lt i)) (fun co' si' H' c1 s1 => ?_)
    rw [nI_1]
    refine q_beginS (by omega) (fun si2 b1 b2 => h _ _ _ _ (RnC_s (fun k hk => ⟨(H' k hk).1, fun j hj => ?_⟩) (fun j hj => ?_) (fun j hj => ?_)))
    · rw [b2 _ (by omega)]; exact (H' k hk).2 j hj
    · rw [c1 j hj, (crA_open g2).1]
    · rw [b1 j hj, (crA_open g2).2]
  · rw [if_neg g2]
    refine ⟨fun _ => q_isPlain l6 ?_, fun g => absurd rfl g⟩
    by_cases g4 : lt i < 4
    · rw [if_pos ⟨by omega, g4⟩]
      refine ⟨fun g => absurd g (by decide), fun _ => ?_⟩
      refine q_way (k := 1) l6 (by omega) (by decide) (one f0 (fun F1 f1 => ?_))
      refine q_goOnR (o := i) (by omega) (Nat.le_refl i) H f1 (bl _) (fun co' si' H' c1 s1 => ?_)
      refine h _ _ _ _ (RnC_s H' (fun j hj => ?_) (fun j hj => ?_))
      · rw [c1 j hj, (crA_plain (by omega) g4).1]
      · rw [s1 j hj, (crA_plain (by omega) g4).2]
    · rw [if_neg (fun h => g4 h.2)]
      refine ⟨fun _ => ?_, fun g => absurd rfl g⟩
      cases e : stk lt i with
      | nil =>
        rw [opnI_nil e]
        refine ⟨fun _ => ?_, fun g => absurd (show -nI 1 < (0 : Int32) by decide) g⟩
        refine q_way (k := 0) l6 (by omega) (by decide) (one f0 (fun F1 f1 => ?_))
        refine q_goOnR (o := i) (by omega) (Nat.le_refl i) H f1 (bl _) (fun co' si' H' c1 s1 => ?_)
        rw [nI_1]
        refine q_beginS (by omega) (fun si2 b1 b2 => h _ _ _ _ (RnC_s (fun k hk => ⟨(H' k hk).1, fun j hj => ?_⟩) (fun j hj => ?_) (fun j hj => ?_)))
        · rw [b2 _ (by omega)]; exact (H' k hk).2 j hj
        · rw [c1 j hj, (crA_free (by omega) e).1]; rfl
        · rw [b1 j hj, (crA_free (by omega) e).2]
      | cons o r =>
        have so := stk_cons lt i o r e
        rw [opnI_cons e]
        refine ⟨fun g => absurd g (nI_pos (by omega)), fun _ => ⟨fun g => absurd ((q_le (by omega) (by omega)).1 g) (by omega), fun _ => ?_⟩⟩
        unfold wX7_step_L113
        intro P hP
        have so6 := h6 o
        refine q_cnt0 (Q := fun mm => ∀ F1 G1 : Nat → Int64, (∀ j, j < 9 → F1 j = lN (sumN (fun q => wr1 (w (3 * lt o + (q + 1))) (w (3 * lt i + (q + 1))) (srA w lt i) j) mm % 1000000007)) → P (nI mm) F1 G1) 2 ?_ ?_ F0 G (fun j hj => f0 j hj)
        · intro F1 G1 f1
          refine hP _ _ _ ⟨fun _ => ?_, fun g => absurd ((q_le (by omega) (by omega)).2 (Nat.le_refl 2)) g⟩
          have f1 : ∀ j, j < 9 → F1 j = lN (wrW w (lt o) (lt i) (srA w lt i) j) := fun j hj => by
            rw [f1 j hj]
            show lN ((0 + wr1 (w (3 * lt o + (0 + 1))) (w (3 * lt i + (0 + 1))) (srA w lt i) j + wr1 (w (3 * lt o + (1 + 1))) (w (3 * lt i + (1 + 1))) (srA w lt i) j) % 1000000007) = _
            rw [Nat.zero_add]; rfl
          refine q_goOnR (o := o) (by omega) (by omega) H f1 (wrW_lt _ _ _ _) (fun co' si' H' c1 s1 => ?_)
          refine h _ _ _ _ (RnC_s H' (fun j hj => ?_) (fun j hj => ?_))
          · rw [c1 j hj, (crA_close (by omega) e).1]
          · rw [s1 j hj, (crA_close (by omega) e).2]
        · intro mm hmm ih F1 G1 f1
          refine hP _ _ _ ⟨fun g => absurd ((q_le (a := 2) (by omega) (by omega)).1 g) (by omega), fun _ => ?_⟩
          refine q_letterAt R (by omega) ?_
          refine q_way (k := mm + 1) so6 (by omega) (nI_add mm 1) ?_
          refine q_way (k := mm + 1) l6 (by omega) (nI_add mm 1) ?_
          refine q_addWr (W5 _) (W5 _) (by omega) (fun j hj => (H i (Nat.le_refl i)).2 j hj) (fun j => (csr_lt w lt i j).2) f1 (fun j => Nat.mod_lt _ (by omega)) (fun B C hB => ?_)
          intro y ey
          rw [ey, nI_1]
          refine ih B C (fun j hj => ?_)
          rw [hB j hj, Nat.mod_add_mod]; rfl
theorem q_runs {n m t : Nat} {w : Nat → Nat} (W : WfR n m t w) {z : Nat} {lt : Nat → Nat} {ls bs : Nat → Int32} (R : RowC z lt ls bs) {k : Nat} (hk : k ≤ z) {co si F G : Nat → Int64} {K : Int32 → (Nat → Int64) → (Nat → Int64) → (Nat → Int64) → (Nat → Int64) → Prop}
    (h : ∀ co si F G, K (nI ((crA w lt k 0 + crA w lt k 1 + crA w lt k 2) % 1000000007)) co si F G) : wX7_runs (nI k) co si F G (fun j => nI (w j)) (nI z) ls bs K := by
  have hz := R.1
  unfold wX7_runs
  rw [show (0 : Int32) = nI 0 from rfl, show (1 : Int32) = nI 1 from rfl, show (2 : Int32) = nI 2 from rfl, q_in (by omega), q_in (by omega), q_in (by omega), q_cl (by omega), q_cl (by omega), q_cl (by omega)]
  refine ⟨by omega, fun g1 e1 => ⟨by omega, fun g2 e2 => ⟨by omega, fun g3 e3 => ?_⟩⟩⟩
  refine q_beginS (k := 0) (by omega) (fun si0 b1 b2 => ?_)
  intro E hE
  unfold wX7_runs_L29
  intro P hP
  have H0 : RnC w lt 0 g3 si0 := by
    intro i hi
    have : i = 0 := by omega
    subst this
    refine ⟨fun j hj => ?_, fun j hj => b1 j hj⟩
    rw [e3, q_updL, e2, q_updL, e1, q_updL, show 3 * 0 + j = j from by omega]
    rcases (show j = 0 ∨ j = 1 ∨ j = 2 by omega) with e | e | e <;> subst e <;> rfl
  refine q_cnt0 (Q := fun i => ∀ co si F G : Nat → Int64, RnC w lt i co si → P (nI i) co si F G) k ?_ ?_ g3 si0 F G H0
  · intro co si F G H
    refine hP _ _ _ _ _ ⟨fun _ => hE _ _ _ _ _ (fun E2 hE2 => ?_), fun g => absurd ((q_le (by omega) (by omega)).2 (Nat.le_refl k)) g⟩
    unfold wX7_runs_L62
    intro R2 hR2
    have sl : ∀ j, sumN (crA w lt k) j ≤ j * 1000000007 := by
      intro j
      induction j with
      | zero => exact Nat.zero_le _
      | succ j ih => have := (csr_lt w lt k j).1; show sumN (crA w lt k) j + crA w lt k j ≤ _; omega
    refine q_cnt0 (Q := fun j => R2 (lN (sumN (crA w lt k) j)) (nI j)) 3 ?_ ?_
    · refine hR2 _ _ ⟨fun _ => hE2 _ _ ?_, fun g => absurd ((q_le (by omega) (by omega)).2 (Nat.le_refl 3)) g⟩
      have := sl 3
      rw [q_modL (by omega), lN_i, show sumN (crA w lt k) 3 = 0 + crA w lt k 0 + crA w lt k 1 + crA w lt k 2 from rfl, Nat.zero_add]
      exact h _ _ _ _
    · intro j hj ih
      refine hR2 _ _ ⟨fun g => absurd ((q_le (a := 3) (by omega) (by omega)).1 g) (by omega), fun _ => ⟨fun g => absurd g (nI_pos (by omega)), fun _ => ⟨fun g => absurd ((q_lt (a := 24) (by omega) (by omega)).1 g) (by omega), fun _ => ?_⟩⟩⟩
      rw [show (3 : Int32) = nI 3 from rfl, pk_mul, nI_add, q_in (by omega), q_cl (by omega), (H k (Nat.le_refl k)).1 j hj, lN_add]
      refine ⟨by omega, fun x8 e8 y ey => ?_⟩
      rw [ey, e8, nI_1]
      exact ih
  · intro i hi ih co si F G H
    refine hP _ _ _ _ _ ⟨fun g => absurd ((q_le (by omega) (by omega)).1 g) (by omega), fun _ => ⟨fun g => absurd ((q_le (a := 24) (by omega) (by omega)).1 g) (by omega), fun _ => ?_⟩⟩
    refine q_stepR W R (by omega) H (fun co' si' F' G' H' => ?_)
    intro y ey
    rw [ey, nI_1]
    exact ih _ _ _ _ H'
