theorem q_addWr {u v k : Nat} (hu : u < 512) (hv : v < 512) (hk : k < 25) {S F H : Nat → Int64} {x f : Nat → Nat} (hS : ∀ j, j < 9 → S (9 * k + j) = lN (x j)) (hx : ∀ j, x j < 1000000007) (hF : ∀ j, j < 9 → F j = lN (f j)) (hf : ∀ j, f j < 1000000007) {K : (Nat → Int64) → (Nat → Int64) → Prop}
    (h : ∀ B C : Nat → Int64, (∀ j, j < 9 → B j = lN ((f j + wr1 u v x j) % 1000000007)) → K B C) : wX7_addWrapped (nI u) (nI k) (nI v) S F H K := by
  unfold wX7_addWrapped
  have same : (∀ j, j < 9 → wr1 u v x j = 0) → K F H := fun g => h F H (fun j hj => by rw [hF j hj, g j hj, Nat.add_zero, Nat.mod_eq_of_lt (hf j)])
  have e0 : (0 : Int32) = nI 0 := rfl
  rw [e0, q_eq (by omega) (by omega), q_eq (by omega) (by omega)]
  refine ⟨fun g => same (fun j hj => ?_), fun _ => ⟨fun g => same (fun j hj => ?_), fun _ => ?_⟩⟩
  · obtain ⟨p, q, hp, hq, rfl⟩ : ∃ p q, p < 3 ∧ q < 3 ∧ j = 3 * p + q := ⟨j / 3, j % 3, by omega, by omega, by omega⟩
    rw [g, wr1_e _ _ _ _ _ hq]; simp only [bW_0, Nat.zero_mul, Nat.add_zero]
  · obtain ⟨p, q, hp, hq, rfl⟩ : ∃ p q, p < 3 ∧ q < 3 ∧ j = 3 * p + q := ⟨j / 3, j % 3, by omega, by omega, by omega⟩
    rw [g, wr1_e _ _ _ _ _ hq]; simp only [bW_0, Nat.zero_mul, Nat.mul_zero, Nat.add_zero]
  · refine q_clear9 (fun H0 h0 => ?_)
    unfold wX7_addWrapped_L19
    intro P hP
    refine q_cnt0 (Q := fun i => ∀ B : Nat → Int64, (∀ j, j < 9 → B j = lN (hfN u x i j)) → P (nI i) B) 27 ?_ ?_ H0 h0
    · intro B HB
      refine hP _ _ ⟨fun _ => ?_, fun g => absurd ((q_le (by omega) (by omega)).2 (Nat.le_refl 27)) g⟩
      unfold wX7_addWrapped_L81
      intro R hR
      have hb : ∀ j, hfN u x 27 j < 27000000190 := fun j => by have := hfN_le (u := u) hx 27 j; omega
      have fl : ∀ i j, ffN v (hfN u x 27) f i j ≤ 1000000007 + i * 27000000190 := by
        intro i
        induction i with
        | zero => intro j; have := hf j; show f j ≤ 1000000007 + 0 * 27000000190; omega
        | succ i ih =>
          intro j
          rw [ffN_s]
          have := ih j
          have h2 := bW_lt v (i % 9)
          have h3 : bW v (i % 9) * hfN u x 27 (i / 3) < 27000000190 := by
            have := hb (i / 3)
            unfold bW; split
            · rw [Nat.one_mul]; omega
            · rw [Nat.zero_mul]; omega
          by_cases e : j = i / 9 * 3 + i % 3
          · simp only [if_pos e]; omega
          · simp only [if_neg e]; exact Nat.le_trans this (by omega)
      refine q_cnt0 (Q := fun i => ∀ C : Nat → Int64, (∀ j, j < 9 → C j = lN (ffN v (hfN u x 27) f i j % 1000000007)) → R (nI i) C) 27 ?_ ?_ F (fun j hj => by rw [hF j hj]; show _ = lN (f j % 1000000007); rw [Nat.mod_eq_of_lt (hf j)])
      · intro C HC
        refine hR _ _ ⟨fun _ => h _ _ (fun j hj => ?_), fun g => absurd ((q_le (by omega) (by omega)).2 (Nat.le_refl 27)) g⟩
        obtain ⟨p, q, hp, hq, rfl⟩ : ∃ p q, p < 3 ∧ q < 3 ∧ j = 3 * p + q := ⟨j / 3, j % 3, by omega, by omega, by omega⟩
        rw [HC _ hj, ff_wr u v x f p hp q hq]
      · intro i hi ih C HC
        have d := q_di3 i hi
        refine hR _ _ ⟨fun g => absurd ((q_le (a := 27) (by omega) (by omega)).1 g) (by omega), fun _ => ?_⟩
        rw [d.2.2.2.1, q_bW v hv _ (by omega), e0, q_eq (by have := bW_lt v (i % 9); omega) (by omega)]
        refine ⟨fun g y ey => ?_, fun g x8 e8 => ?_⟩
        · rw [ey, nI_1]
          refine ih C (fun j hj => ?_)
          rw [ffN_s, g, Nat.zero_mul, Nat.add_zero, ite_self]
          exact HC j hj
        · have b1 : bW v (i % 9) = 1 := by have := bW_lt v (i % 9); omega
          rw [d.2.1, d.2.2.1, show (3 : Int32) = nI 3 from rfl, pk_mul, nI_add] at e8
          subst e8
          have hbi := hb (i / 3)
          have fi := fl i (i / 9 * 3 + i % 3)
          have m1 : ffN v (hfN u x 27) f i (i / 9 * 3 + i % 3) % 1000000007 < 1000000007 := Nat.mod_lt _ (by omega)
          rw [d.1, q_in (by omega), q_in (by omega), q_cl (by omega), q_cl (by omega), HC _ (by omega), HB _ (by omega), lN_add, q_modL (by omega)]
          refine ⟨by omega, by omega, fun x9 e9 => ⟨by omega, fun g1 eg y ey => ?_⟩⟩
          rw [ey, nI_1]
          refine ih g1 (fun j hj => ?_)
          rw [eg, q_updL, ffN_s]
          by_cases e : j = i / 9 * 3 + i % 3
          · rw [if_pos e, if_pos e, e9, b1, Nat.one_mul, e]
            congr 1
            rw [Nat.add_mod, Nat.mod_mod, ← Nat.add_mod]
          · rw [if_neg e, if_neg e]; exact HC j hj
    · intro i hi ih B HB
      have d := q_di3 i hi
      refine hP _ _ ⟨fun g => absurd ((q_le (a := 27) (by omega) (by omega)).1 g) (by omega), fun _ => ?_⟩
      rw [d.1, q_bW u hu _ (by omega), e0, q_eq (by have := bW_lt u (i / 3); omega) (by omega)]
      refine ⟨fun g y ey => ?_, fun g => ?_⟩
      · rw [ey, nI_1]
        refine ih B (fun j hj => ?_)
        rw [hfN_s, g, Nat.zero_mul, Nat.add_zero, ite_self]
        exact HB j hj
      · have b1 : bW u (i / 3) = 1 := by have := bW_lt u (i / 3); omega
        rw [← d.1, d.2.2.1, d.2.2.2.1, d.2.1, show (3 : Int32) = nI 3 from rfl, show (9 : Int32) = nI 9 from rfl, pk_mul, nI_add, pk_mul, nI_add, q_in (by omega), q_in (by omega), q_cl (by omega), q_cl (by omega), HB _ (by omega), hS _ (by omega), lN_add]
        refine ⟨by omega, by omega, fun x9 e9 => ⟨by omega, fun g1 eg y ey => ?_⟩⟩
        rw [ey, nI_1]
        refine ih g1 (fun j hj => ?_)
        rw [eg, q_updL, hfN_s]
        by_cases e : j = i / 9 * 3 + i % 3
        · rw [if_pos e, if_pos e, e9, b1, Nat.one_mul, e]
        · rw [if_neg e, if_neg e]; exact HB j hj
