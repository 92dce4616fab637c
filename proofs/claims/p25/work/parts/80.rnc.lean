/-- the class's small loops over longs -/
theorem q_clear9 {A : Nat → Int64} {K : (Nat → Int64) → Prop} (h : ∀ B : Nat → Int64, (∀ j, j < 9 → B j = lN 0) → K B) : wX7_clear A 9 K := by
  unfold wX7_clear wX7_clear_L2
  intro P hP
  refine q_cnt0 (Q := fun i => ∀ B : Nat → Int64, (∀ j, j < i → B j = lN 0) → P (nI i) B) 9 ?_ ?_ A (fun j hj => absurd hj (by omega))
  · intro B H
    exact hP _ _ ⟨fun _ => h B H, fun g => absurd ((q_le (by omega) (by omega)).2 (Nat.le_refl 9)) g⟩
  · intro i hi ih B H
    refine hP _ _ ⟨fun g => absurd ((q_le (a := 9) (by omega) (by omega)).1 g) (by omega), fun _ => ?_⟩
    rw [q_in (by omega), q_cl (by omega)]
    refine ⟨hi, fun g eg x ex => ?_⟩
    rw [ex, nI_1]
    refine ih g (fun j hj => ?_)
    rw [eg, q_updL]
    by_cases e : j = i
    · rw [if_pos e]; rfl
    · rw [if_neg e]; exact H j (by omega)
theorem q_beginS {k : Nat} (hk : k < 25) {A : Nat → Int64} {K : (Nat → Int64) → Prop} (h : ∀ B : Nat → Int64, (∀ j, j < 9 → B (9 * k + j) = lN (idW j)) → (∀ j, (j < 9 * k ∨ 9 * k + 9 ≤ j) → B j = A j) → K B) : wX7_beginSince (nI k) A K := by
  unfold wX7_beginSince wX7_beginSince_L2
  intro P hP
  refine q_cnt0 (Q := fun i => ∀ B : Nat → Int64, (∀ j, j < i → B (9 * k + j) = lN (idW j)) → (∀ j, (j < 9 * k ∨ 9 * k + i ≤ j) → B j = A j) → P (nI i) B) 9 ?_ ?_ A (fun j hj => absurd hj (by omega)) (fun j hj => rfl)
  · intro B H1 H2
    exact hP _ _ ⟨fun _ => h B H1 H2, fun g => absurd ((q_le (by omega) (by omega)).2 (Nat.le_refl 9)) g⟩
  · intro i hi ih B H1 H2
    have e4 := (q_di3 i (by omega)).2.2.2.2.1
    have e9 : (9 : Int32) * nI k + nI i = nI (9 * k + i) := by rw [show (9 : Int32) = nI 9 from rfl, pk_mul, nI_add]
    have st : ∀ v, v = idW i → ∀ g : Nat → Int64, g = vp_updL B (9 * k + i) (lN v) → P (nI (i + 1)) g := fun v ev g eg => by
      refine ih g (fun j hj => ?_) (fun j hj => ?_)
      · rw [eg, q_updL]
        by_cases e : j = i
        · rw [if_pos (by omega), ev, e]
        · rw [if_neg (by omega)]; exact H1 j (by omega)
      · rw [eg, q_updL, if_neg (by omega)]; exact H2 j (by omega)
    refine hP _ _ ⟨fun g => absurd ((q_le (a := 9) (by omega) (by omega)).1 g) (by omega), fun _ => ?_⟩
    rw [e4, e9, q_in (by omega), q_cl (by omega), show (0 : Int32) = nI 0 from rfl, q_eq (by omega) (by omega)]
    refine ⟨fun g => ⟨by omega, fun g1 e1 x ex => ?_⟩, fun g => ⟨by omega, fun g1 e1 x ex => ?_⟩⟩
    · rw [ex, nI_1]; exact st 1 (by unfold idW; rw [if_pos g]) g1 e1
    · rw [ex, nI_1]; exact st 0 (by unfold idW; rw [if_neg g]) g1 e1
theorem q_addWay {x : Nat} (hx : x < 512) {A : Nat → Int64} {f : Nat → Nat} (hA : ∀ j, j < 9 → A j = lN (f j)) {K : (Nat → Int64) → Prop} (h : ∀ B : Nat → Int64, (∀ j, j < 9 → B j = lN (f j + bW x j)) → K B) : wX7_addWay (nI x) A K := by
  unfold wX7_addWay wX7_addWay_L2
  intro P hP
  refine q_cnt0 (Q := fun i => ∀ B : Nat → Int64, (∀ j, j < i → B j = lN (f j + bW x j)) → (∀ j, i ≤ j → B j = A j) → P (nI i) B) 9 ?_ ?_ A (fun j hj => absurd hj (by omega)) (fun j hj => rfl)
  · intro B H1 H2
    exact hP _ _ ⟨fun _ => h B H1, fun g => absurd ((q_le (by omega) (by omega)).2 (Nat.le_refl 9)) g⟩
  · intro i hi ih B H1 H2
    have hb := bW_lt x i
    refine hP _ _ ⟨fun g => absurd ((q_le (a := 9) (by omega) (by omega)).1 g) (by omega), fun _ => ?_⟩
    rw [q_bW x hx i hi, q_i64 (by omega), q_in (by omega), q_cl (by omega), H2 i (Nat.le_refl i), hA i hi, lN_add]
    refine ⟨hi, fun y ey => ⟨hi, fun g eg z ez => ?_⟩⟩
    rw [ez, nI_1]
    refine ih g (fun j hj => ?_) (fun j hj => ?_)
    · rw [eg, q_updL]
      by_cases e : j = i
      · rw [if_pos e, ey, e]
      · rw [if_neg e]; exact H1 j (by omega)
    · rw [eg, q_updL, if_neg (by omega)]; exact H2 j (by omega)
