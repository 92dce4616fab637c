theorem q_sum3 {a b c : Nat} (ha : a < 1000000007) (hb : b < 1000000007) (hc : c < 1000000007) : lN a + lN b + lN c - (lN a + lN b + lN c) / (1000000007 : Int64) * (1000000007 : Int64) = lN ((a + b + c) % 1000000007) := by
  rw [lN_add, lN_add, q_modL (by omega)]
theorem q_mul1 {a b : Nat} (ha : a < 1000000007) (hb : b < 1000000007) : lN a * lN b - lN a * lN b / (1000000007 : Int64) * (1000000007 : Int64) = lN (a * b % 1000000007) := by
  have := mul_P ha hb
  rw [lN_mul, q_modL (by omega)]
theorem mod3 (a b c : Nat) : (a % 1000000007 + b % 1000000007 + c % 1000000007) % 1000000007 = (a + b + c) % 1000000007 := by omega
theorem m_toItself {A : Nat → Int64} {K : (Nat → Int64) → Prop} (h : ∀ B : Nat → Int64, (∀ j, j < 9 → B j = lN (idW j)) → K B) : wX12_toItself A K := by
  unfold wX12_toItself wX12_toItself_L2
  intro P hP
  refine q_cnt0 (Q := fun i => ∀ B : Nat → Int64, (∀ j, j < i → B j = lN (idW j)) → P (nI i) B) 9 ?_ ?_ A (fun j hj => absurd hj (by omega))
  · intro B H1
    exact hP _ _ ⟨fun _ => h B H1, fun g => absurd ((q_le (by omega) (by omega)).2 (Nat.le_refl 9)) g⟩
  · intro i hi ih B H1
    have e4 := (q_di3 i (by omega)).2.2.2.2.1
    have st : ∀ v, v = idW i → ∀ g : Nat → Int64, g = vp_updL B i (lN v) → P (nI (i + 1)) g := fun v ev g eg => by
      refine ih g (fun j hj => ?_)
      rw [eg, q_updL]
      by_cases e : j = i
      · rw [if_pos e, ev, e]
      · rw [if_neg e]; exact H1 j (by omega)
    refine hP _ _ ⟨fun g => absurd ((q_le (a := 9) (by omega) (by omega)).1 g) (by omega), fun _ => ?_⟩
    rw [e4, q_in (by omega), q_cl (by omega), show (0 : Int32) = nI 0 from rfl, q_eq (by omega) (by omega)]
    refine ⟨fun g => ⟨by omega, fun g1 e1 x ex => ?_⟩, fun g => ⟨by omega, fun g1 e1 x ex => ?_⟩⟩
    · rw [ex, nI_1]; exact st 1 (by unfold idW; rw [if_pos g]) g1 e1
    · rw [ex, nI_1]; exact st 0 (by unfold idW; rw [if_neg g]) g1 e1
theorem m_stepRuns {A F : Nat → Int64} {x f : Nat → Nat} (hA : ∀ j, j < 3 → A j = lN (x j)) (hF : ∀ j, j < 9 → F j = lN (f j)) (hx : ∀ j, x j < 1000000007) (hf : ∀ j, f j < 1000000007) {K : (Nat → Int64) → Prop} (h : ∀ B : Nat → Int64, (∀ j, j < 3 → B j = lN (mulR x f j)) → K B) : wX12_stepRuns A F K := by
  unfold wX12_stepRuns
  have ml : ∀ a, a < 3 → ∀ b, b < 9 → A a * F b - A a * F b / (1000000007 : Int64) * (1000000007 : Int64) = lN (x a * f b % 1000000007) := fun a ha b hb => by
    rw [hA a ha, hF b hb, q_mul1 (hx a) (hf b)]
  have lm : ∀ a, a % 1000000007 < 1000000007 := fun a => Nat.mod_lt _ (by omega)
  rw [show (0 : Int32) = nI 0 from rfl, show (1 : Int32) = nI 1 from rfl, show (2 : Int32) = nI 2 from rfl, show (3 : Int32) = nI 3 from rfl, show (4 : Int32) = nI 4 from rfl, show (5 : Int32) = nI 5 from rfl, show (6 : Int32) = nI 6 from rfl, show (7 : Int32) = nI 7 from rfl, show (8 : Int32) = nI 8 from rfl]
  have ii : ∀ {a N : Nat}, a < N → a < 100 → vp_in (nI a) N := fun h1 h2 => (q_in (by omega)).2 h1
  have cc : ∀ {a : Nat}, a < 100 → (nI a).toNatClampNeg = a := fun h => q_cl (by omega)
  refine ⟨ii (by omega) (by omega), ii (by omega) (by omega), fun x1 e1 => ⟨ii (by omega) (by omega), ii (by omega) (by omega), fun x2 e2 => ⟨ii (by omega) (by omega), ii (by omega) (by omega), fun x3 e3 x4 e4 => ?_⟩⟩⟩
  refine ⟨ii (by omega) (by omega), ii (by omega) (by omega), fun x5 e5 => ⟨ii (by omega) (by omega), ii (by omega) (by omega), fun x6 e6 => ⟨ii (by omega) (by omega), ii (by omega) (by omega), fun x7 e7 x8 e8 => ?_⟩⟩⟩
  refine ⟨ii (by omega) (by omega), ii (by omega) (by omega), fun x9 e9 => ⟨ii (by omega) (by omega), ii (by omega) (by omega), fun x10 e10 => ⟨ii (by omega) (by omega), ii (by omega) (by omega), fun x11 e11 x12 e12 => ?_⟩⟩⟩
  refine ⟨ii (by omega) (by omega), fun g13 e13 => ⟨ii (by omega) (by omega), fun g14 e14 => ⟨ii (by omega) (by omega), fun g15 e15 => h _ (fun j hj => ?_)⟩⟩⟩
  simp (disch := omega) only [q_cl] at e1 e2 e3 e5 e6 e7 e9 e10 e11
  rw [ml _ (by omega) _ (by omega)] at e1 e2 e3 e5 e6 e7 e9 e10 e11
  rw [e1, e2, e3, q_sum3 (lm _) (lm _) (lm _), mod3] at e4
  rw [e5, e6, e7, q_sum3 (lm _) (lm _) (lm _), mod3] at e8
  rw [e9, e10, e11, q_sum3 (lm _) (lm _) (lm _), mod3] at e12
  rw [e15, q_updL, e14, q_updL, e13, q_updL, cc (by omega), cc (by omega), cc (by omega)]
  rcases (show j = 0 ∨ j = 1 ∨ j = 2 by omega) with e | e | e <;> subst e
  · exact e4
  · exact e8
  · exact e12
theorem m_stepWays {A F : Nat → Int64} {x f : Nat → Nat} (hA : ∀ j, j < 9 → A j = lN (x j)) (hF : ∀ j, j < 9 → F j = lN (f j)) (hx : ∀ j, x j < 1000000007) (hf : ∀ j, f j < 1000000007) {K : (Nat → Int64) → Prop} (h : ∀ B : Nat → Int64, (∀ j, j < 9 → B j = lN (mulW x f j)) → K B) : wX12_stepWays A F K := by
  unfold wX12_stepWays wX12_stepWays_L2
  have lm : ∀ a, a % 1000000007 < 1000000007 := fun a => Nat.mod_lt _ (by omega)
  have e3 : (3 : Int32) = nI 3 := rfl
  have e6 : (6 : Int32) = nI 6 := rfl
  intro P hP
  refine q_cnt0 (Q := fun i => ∀ B : Nat → Int64, (∀ j, j < 3 * i → B j = lN (mulW x f j)) → (∀ j, 3 * i ≤ j → B j = A j) → P (nI i) B) 3 ?_ ?_ A (fun j hj => absurd hj (by omega)) (fun j hj => rfl)
  · intro B H1 H2
    exact hP _ _ ⟨fun _ => h B H1, fun g => absurd ((q_le (by omega) (by omega)).2 (Nat.le_refl 3)) g⟩
  · intro i hi ih B H1 H2
    refine hP _ _ ⟨fun g => absurd ((q_le (a := 3) (by omega) (by omega)).1 g) (by omega), fun _ => ?_⟩
    rw [e3, pk_mul, show (1 : Int32) = nI 1 from rfl, show (2 : Int32) = nI 2 from rfl, nI_add, nI_add, q_in (by omega), q_in (by omega), q_in (by omega), q_cl (by omega), q_cl (by omega), q_cl (by omega), H2 _ (by omega), H2 _ (by omega), H2 _ (by omega), hA _ (by omega), hA _ (by omega), hA _ (by omega)]
    refine ⟨by omega, fun x2 e2 => ⟨by omega, fun x3 ex3 => ⟨by omega, fun x4 e4 => ?_⟩⟩⟩
    subst e2; subst ex3; subst e4
    unfold wX12_stepWays_L43
    intro R hR
    refine q_cnt0 (Q := fun m => ∀ C : Nat → Int64, (∀ j, j < 3 * i + m → C j = lN (mulW x f j)) → (∀ j, 3 * i + m ≤ j → C j = A j) → R (nI m) C) 3 ?_ ?_ B H1 H2
    · intro C C1 C2
      refine hR _ _ ⟨fun _ => ?_, fun g => absurd ((q_le (by omega) (by omega)).2 (Nat.le_refl 3)) g⟩
      intro y ey
      rw [ey, nI_add]
      exact ih C (fun j hj => C1 j (by omega)) (fun j hj => C2 j (by omega))
    · intro m hm ihm C C1 C2
      refine hR _ _ ⟨fun g => absurd ((q_le (a := 3) (by omega) (by omega)).1 g) (by omega), fun _ => ?_⟩
      rw [e3, e6, nI_add, nI_add, pk_mul, nI_add, q_in (by omega), q_in (by omega), q_in (by omega), q_in (by omega), q_cl (by omega), q_cl (by omega), q_cl (by omega), q_cl (by omega), hF _ (by omega), hF _ (by omega), hF _ (by omega), q_mul1 (hx _) (hf _), q_mul1 (hx _) (hf _), q_mul1 (hx _) (hf _)]
      refine ⟨by omega, fun x7 e7 => ⟨by omega, fun x8 e8 => ⟨by omega, fun x9 e9 x10 e10 => ⟨by omega, fun g eg y ey => ?_⟩⟩⟩⟩
      rw [e7, e8, e9, q_sum3 (lm _) (lm _) (lm _), mod3] at e10
      have em : mulW x f (3 * i + m) = (x (3 * i) * f m + x (3 * i + 1) * f (3 + m) + x (3 * i + 2) * f (6 + m)) % 1000000007 := by
        unfold mulW
        rw [show (3 * i + m) / 3 * 3 = 3 * i from by omega, show (3 * i + m) % 3 = m from by omega]
      rw [ey, show (1 : Int32) = nI 1 from rfl, nI_add]
      refine ihm g (fun j hj => ?_) (fun j hj => ?_)
      · rw [eg, q_updL]
        by_cases e : j = 3 * i + m
        · rw [if_pos e, e10, e, em]
        · rw [if_neg e]; exact C1 j (by omega)
      · rw [eg, q_updL, if_neg (by omega)]; exact C2 j (by omega)
section
variable {n0 m0 t0 n1 m1 t1 : Nat} {w0 w1 : Nat → Nat} {st mk tk pu go cl : Nat → Int32}
theorem m_waysOver (M : MdOk n0 m0 t0 w0 n1 m1 t1 w1 st mk tk pu go cl) {r a e i : Nat} (hr : r < 2) (ha : a < 2) (he : 4 ≤ e) (he6 : e < 6) (hi : i < 9) {S : Nat → Int64} {x : Nat → Nat} (hS : ∀ j, j < 9 → S j = lN (x j)) (hx : ∀ j, x j < 1000000007) {K : Int64 → Prop} (h : K (lN (wrW (sel r w0 w1) a e x i))) : wX12_waysOver (nI r) (nI a) (nI (i / 3)) (nI e) (nI (i % 3)) mk pu cl S K := by
  obtain ⟨W, hs, hm, ht⟩ := MdOk_r M hr
  have A := M.2.2.1
  have W5 : ∀ j, sel r w0 w1 j < 512 := fun j => (W.2.2.2.2.2.1 j).1
  have m1' := W.2.2.1
  have m2' := W.2.2.2.1
  generalize sel r m0 m1 = m at *
  unfold wX12_waysOver wX12_waysOver_L6
  have wl : ∀ u v k, sumN (fun k => bW u (3 * (i / 3) + k / 3) * bW v (3 * (k % 3) + i % 3) * x k) k ≤ k * 1000000007 := by
    intro u v k
    induction k with
    | zero => exact Nat.zero_le _
    | succ k ih =>
      have h1 := bW_lt u (3 * (i / 3) + k / 3)
      have h2 : bW v (3 * (k % 3) + i % 3) * x k < 1000000007 := bW_mul (hx k)
      show sumN (fun k => bW u (3 * (i / 3) + k / 3) * bW v (3 * (k % 3) + i % 3) * x k) k + bW u (3 * (i / 3) + k / 3) * bW v (3 * (k % 3) + i % 3) * x k ≤ (k + 1) * 1000000007
      have h3 : bW u (3 * (i / 3) + k / 3) * bW v (3 * (k % 3) + i % 3) * x k < 1000000007 := by
        rw [Nat.mul_assoc]; exact bW_mul h2
      omega
  let W1 := fun q => wr1 (sel r w0 w1 (3 * a + (q + 1))) (sel r w0 w1 (3 * e + (q + 1))) x i
  have W1l : ∀ q, W1 q ≤ 9 * 1000000007 := fun q => wl _ _ 9
  have sl : ∀ k, sumN W1 k ≤ k * 9000000063 := by
    intro k
    induction k with
    | zero => exact Nat.zero_le _
    | succ k ih => have := W1l k; show sumN W1 k + W1 k ≤ _; omega
  have last : sumN W1 m % 1000000007 = wrW (sel r w0 w1) a e x i := by
    rcases (show m = 1 ∨ m = 2 by omega) with em | em
    · subst em
      have z2 : sel r w0 w1 (3 * a + 2) = 0 := W.2.2.2.2.2.2 _ (by rcases (show a = 0 ∨ a = 1 by omega) with e | e <;> subst e <;> rfl)
      have wz : wr1 0 (sel r w0 w1 (3 * e + 2)) x i = 0 := by
        have : ∀ k, sumN (fun k => bW 0 (3 * (i / 3) + k / 3) * bW (sel r w0 w1 (3 * e + 2)) (3 * (k % 3) + i % 3) * x k) k = 0 := by
          intro k
          induction k with
          | zero => rfl
          | succ k ih =>
            show sumN (fun k => bW 0 (3 * (i / 3) + k / 3) * bW (sel r w0 w1 (3 * e + 2)) (3 * (k % 3) + i % 3) * x k) k + bW 0 (3 * (i / 3) + k / 3) * bW (sel r w0 w1 (3 * e + 2)) (3 * (k % 3) + i % 3) * x k = 0
            rw [ih, bW_0, Nat.zero_mul, Nat.zero_mul]
        exact this 9
      show (0 + wr1 (sel r w0 w1 (3 * a + 1)) (sel r w0 w1 (3 * e + 1)) x i) % 1000000007 = (wr1 (sel r w0 w1 (3 * a + 1)) (sel r w0 w1 (3 * e + 1)) x i + wr1 (sel r w0 w1 (3 * a + 2)) (sel r w0 w1 (3 * e + 2)) x i) % 1000000007
      rw [z2, wz]; simp only [Nat.zero_add, Nat.add_zero]
    · rw [em]
      show (0 + wr1 (sel r w0 w1 (3 * a + 1)) (sel r w0 w1 (3 * e + 1)) x i + wr1 (sel r w0 w1 (3 * a + 2)) (sel r w0 w1 (3 * e + 2)) x i) % 1000000007 = _
      rw [Nat.zero_add]; rfl
  intro P hP
  refine q_cnt0 (Q := fun mm => P (lN (sumN W1 mm)) (nI mm)) m ?_ ?_
  · refine hP _ _ ?_
    have := sl m
    rw [q_in (by omega), q_cl (by omega), hm]
    refine ⟨hr, fun _ => ?_, fun g => absurd ((q_le (by omega) (by omega)).2 (Nat.le_refl m)) g⟩
    dsimp only
    rw [q_modL (by omega), last]
    exact h
  · intro mm hmm ih
    refine hP _ _ ?_
    rw [q_in (by omega), q_cl (by omega), hm]
    refine ⟨hr, fun g => absurd ((q_le (by omega) (by omega)).1 g) (by omega), fun _ => ?_⟩
    unfold wX12_waysOver_L20
    intro R hR
    let u := sel r w0 w1 (3 * a + (mm + 1))
    let v := sel r w0 w1 (3 * e + (mm + 1))
    refine q_cnt0 (Q := fun k => R (lN (sumN W1 mm + sumN (fun k => bW u (3 * (i / 3) + k / 3) * bW v (3 * (k % 3) + i % 3) * x k) k)) (nI k)) 9 ?_ ?_
    · refine hR _ _ ⟨fun _ => ?_, fun g => absurd ((q_le (by omega) (by omega)).2 (Nat.le_refl 9)) g⟩
      intro y ey
      rw [ey, nI_1]
      exact ih
    · intro k hk ihk
      have d := q_di3 k (by omega)
      refine hR _ _ ⟨fun g => absurd ((q_le (a := 9) (by omega) (by omega)).1 g) (by omega), fun _ => ?_⟩
      refine q_putAt (i := mm + 1) (nI_add mm 1) (by omega) ?_
      rw [q_in (by omega), q_cl (by omega), show mm + 1 - 1 = mm from rfl, A.1 r a (i / 3) mm hr ha (by omega) (by omega), d.2.2.1, d.1, show 3 * a + mm + 1 = 3 * a + (mm + 1) from rfl, bW_rw3 _ (W5 _) _ (by omega) _ (by omega), show (1 : Int32) = nI 1 from rfl, q_eq (by have := bW_lt (sel r w0 w1 (3 * a + (mm + 1))) (3 * (i / 3) + k / 3); omega) (by omega)]
      have nx : ∀ t, bW u (3 * (i / 3) + k / 3) * bW v (3 * (k % 3) + i % 3) * x k = t → ∀ y : Int32, y = nI k + nI 1 → R (lN (sumN W1 mm + sumN (fun k => bW u (3 * (i / 3) + k / 3) * bW v (3 * (k % 3) + i % 3) * x k) k) + lN t) y := fun t et y ey => by
        rw [ey, nI_add, lN_add, Nat.add_assoc, ← et]
        exact ihk
      refine ⟨by omega, fun g => ?_, fun g => ?_⟩
      · refine q_closeAt (i := mm + 1) (nI_add mm 1) he ?_
        rw [q_in (by omega), q_cl (by omega), A.2.2 r (e - 4) (k % 3) (mm + 1) hr (by omega) (by omega) (by omega), show 3 * (e - 4) + 12 + (mm + 1) = 3 * e + (mm + 1) from by omega, show nI 1 = (1 : Int32) from rfl, bW_rw3 _ (W5 _) _ (by omega) _ (by omega), show (1 : Int32) = nI 1 from rfl, q_eq (by have := bW_lt (sel r w0 w1 (3 * e + (mm + 1))) (3 * (k % 3) + i % 3); omega) (by omega)]
        refine ⟨by omega, fun g2 => ?_, fun g2 => ?_⟩
        · rw [q_in (by omega), q_cl (by omega), hS k hk]
          refine ⟨by omega, fun x15 e15 y ey => ?_⟩
          rw [e15]
          refine nx _ ?_ y ey
          show bW (sel r w0 w1 (3 * a + (mm + 1))) _ * bW (sel r w0 w1 (3 * e + (mm + 1))) _ * x k = x k
          rw [g, g2]; simp only [Nat.one_mul]
        · intro x12 e12 y ey
          rw [e12]
          refine nx 0 ?_ y ey
          show bW (sel r w0 w1 (3 * a + (mm + 1))) _ * bW (sel r w0 w1 (3 * e + (mm + 1))) _ * x k = 0
          have := bW_lt (sel r w0 w1 (3 * e + (mm + 1))) (3 * (k % 3) + i % 3)
          rw [show bW (sel r w0 w1 (3 * e + (mm + 1))) (3 * (k % 3) + i % 3) = 0 from by omega, Nat.mul_zero, Nat.zero_mul]
      · intro x7 e7 y ey
        rw [e7]
        refine nx 0 ?_ y ey
        show bW (sel r w0 w1 (3 * a + (mm + 1))) _ * bW (sel r w0 w1 (3 * e + (mm + 1))) _ * x k = 0
        have := bW_lt (sel r w0 w1 (3 * a + (mm + 1))) (3 * (i / 3) + k / 3)
        rw [show bW (sel r w0 w1 (3 * a + (mm + 1))) (3 * (i / 3) + k / 3) = 0 from by omega, Nat.zero_mul, Nat.zero_mul]
end
