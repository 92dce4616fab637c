theorem mul_P {a b : Nat} (ha : a < 1000000007) (hb : b < 1000000007) : a * b < 1000000012000000037 := by
  have := Nat.mul_le_mul (show a ≤ 1000000006 by omega) (show b ≤ 1000000006 by omega)
  omega
def tmN (x f : Nat → Nat) (i m : Nat) : Nat := sumN (fun m => x (i / 3 * 3 + m) * f (3 * m + i % 3) % 1000000007) m
theorem tmN_le (x f : Nat → Nat) (i : Nat) : ∀ m, tmN x f i m ≤ m * 1000000007
  | 0 => Nat.zero_le _
  | m + 1 => by
    have ih := tmN_le x f i m
    have : x (i / 3 * 3 + m) * f (3 * m + i % 3) % 1000000007 < 1000000007 := Nat.mod_lt _ (by omega)
    show tmN x f i m + x (i / 3 * 3 + m) * f (3 * m + i % 3) % 1000000007 ≤ (m + 1) * 1000000007
    omega
theorem tmN_3 (x f : Nat → Nat) (i : Nat) : tmN x f i 3 % 1000000007 = mulW x f i := by
  show (0 + x (i / 3 * 3) * f (0 + i % 3) % 1000000007 + x (i / 3 * 3 + 1) * f (3 + i % 3) % 1000000007 + x (i / 3 * 3 + 2) * f (6 + i % 3) % 1000000007) % 1000000007 = (x (i / 3 * 3) * f (i % 3) + x (i / 3 * 3 + 1) * f (3 + i % 3) + x (i / 3 * 3 + 2) * f (6 + i % 3)) % 1000000007
  rw [Nat.zero_add (i % 3)]
  generalize x (i / 3 * 3) * f (i % 3) = a
  generalize x (i / 3 * 3 + 1) * f (3 + i % 3) = b
  generalize x (i / 3 * 3 + 2) * f (6 + i % 3) = c
  omega
theorem mulW_R (x f : Nat → Nat) {i : Nat} (h : i < 3) : mulW x f i = mulR x f i := by
  show (x (i / 3 * 3) * f (i % 3) + x (i / 3 * 3 + 1) * f (3 + i % 3) + x (i / 3 * 3 + 2) * f (6 + i % 3)) % 1000000007 = _
  rw [show i / 3 * 3 = 0 from by omega, show i % 3 = i from by omega]; rfl
theorem q_times {n L a b : Nat} (hL : L ≤ 3) (ha : a + 3 * L ≤ n) (hb : b + 3 * L ≤ n) (hn : n < 1000) (hd : a + 3 * L ≤ b ∨ b + 3 * L ≤ a) {A F : Nat → Int64} {x f : Nat → Nat} (hA : ∀ j, j < 3 * L → A (a + j) = lN (x j)) (hF : ∀ j, j < 9 → F j = lN (f j)) (hx : ∀ j, x j < 1000000007) (hf : ∀ j, f j < 1000000007) {K : (Nat → Int64) → Prop}
    (h : ∀ B : Nat → Int64, (∀ j, j < 3 * L → B (b + j) = lN (mulW x f j)) → (∀ j, (j < b ∨ b + 3 * L ≤ j) → B j = A j) → K B) : wX7_times (nI a) (nI b) (nI L) F A n K := by
  unfold wX7_times wX7_times_L3
  intro P hP
  have e3 : (3 : Int32) * nI L = nI (3 * L) := by rw [show (3 : Int32) = nI 3 from rfl, pk_mul]
  refine q_cnt0 (Q := fun i => ∀ B : Nat → Int64, (∀ j, j < i → B (b + j) = lN (mulW x f j)) → (∀ j, (j < b ∨ b + i ≤ j) → B j = A j) → P (nI i) B) (3 * L) ?_ ?_ A (fun j hj => absurd hj (by omega)) (fun j hj => rfl)
  · intro B H1 H2
    rw [e3] at hP
    exact hP _ _ ⟨fun _ => h B H1 H2, fun g => absurd ((q_le (by omega) (by omega)).2 (Nat.le_refl (3 * L))) g⟩
  · intro i hi ih B H1 H2
    have d := q_di3 i (by omega)
    rw [e3] at hP
    refine hP _ _ ⟨fun g => absurd ((q_le (by omega) (by omega)).1 g) (by omega), fun _ => ?_⟩
    intro x2 ex2
    rw [d.2.2.2.2.2] at ex2
    subst ex2
    unfold wX7_times_L26
    intro R hR
    refine q_cnt0 (Q := fun m => R (lN (tmN x f i m)) (nI m)) 3 ?_ ?_
    · refine hR _ _ ⟨fun _ => ?_, fun g => absurd ((q_le (by omega) (by omega)).2 (Nat.le_refl 3)) g⟩
      have tl := tmN_le x f i 3
      dsimp only
      rw [q_modL (by omega), tmN_3, nI_add, q_in (by omega), q_cl (by omega)]
      intro x4 e4
      refine ⟨by omega, fun g eg y ey => ?_⟩
      rw [ey, nI_1]
      refine ih g (fun j hj => ?_) (fun j hj => ?_)
      · rw [eg, q_updL]
        by_cases e : j = i
        · rw [if_pos (by omega), e4, e]
        · rw [if_neg (by omega)]; exact H1 j (by omega)
      · rw [eg, q_updL, if_neg (by omega)]; exact H2 j (by omega)
    · intro m hm ihm
      refine hR _ _ ⟨fun g => absurd ((q_le (a := 3) (by omega) (by omega)).1 g) (by omega), fun _ => ?_⟩
      have bx := hx (i / 3 * 3 + m)
      have bf := hf (3 * m + i % 3)
      have bm := mul_P bx bf
      have tl := tmN_le x f i m
      rw [d.2.2.1, nI_add, nI_add, show (3 : Int32) = nI 3 from rfl, pk_mul, nI_add, q_in (by omega), q_in (by omega), q_cl (by omega), q_cl (by omega), H2 _ (by omega), show a + i / 3 * 3 + m = a + (i / 3 * 3 + m) from by omega, hA _ (by omega), hF _ (by omega), q_modL (by omega), Nat.mod_eq_of_lt bx]
      refine ⟨by omega, fun x7 e7 => ⟨by omega, fun x8 e8 x9 e9 y ey => ?_⟩⟩
      subst e7
      rw [lN_mul, q_modL (by omega)] at e8
      subst e8
      rw [lN_add] at e9
      rw [ey, e9, nI_1]
      exact ihm
def hfN (u : Nat) (x : Nat → Nat) : Nat → Nat → Nat
  | 0 => fun _ => 0
  | i + 1 => fun j => if j = i / 9 * 3 + i % 3 then hfN u x i j + bW u (i / 3) * x (i % 9) else hfN u x i j
def ffN (v : Nat) (g f : Nat → Nat) : Nat → Nat → Nat
  | 0 => f
  | i + 1 => fun j => if j = i / 9 * 3 + i % 3 then ffN v g f i j + bW v (i % 9) * g (i / 3) else ffN v g f i j
theorem hfN_s (u : Nat) (x : Nat → Nat) (i j : Nat) : hfN u x (i + 1) j = if j = i / 9 * 3 + i % 3 then hfN u x i j + bW u (i / 3) * x (i % 9) else hfN u x i j := rfl
theorem ffN_s (v : Nat) (g f : Nat → Nat) (i j : Nat) : ffN v g f (i + 1) j = if j = i / 9 * 3 + i % 3 then ffN v g f i j + bW v (i % 9) * g (i / 3) else ffN v g f i j := rfl
theorem hfN_27 (u : Nat) (x : Nat → Nat) : ∀ p, p < 3 → ∀ c, c < 3 → hfN u x 27 (3 * p + c) = 0 + bW u (3 * p) * x c + bW u (3 * p + 1) * x (3 + c) + bW u (3 * p + 2) * x (6 + c) := by
  intro p hp c hc
  rcases (show p = 0 ∨ p = 1 ∨ p = 2 by omega) with e | e | e <;> subst e <;> rcases (show c = 0 ∨ c = 1 ∨ c = 2 by omega) with e | e | e <;> subst e <;> rfl
theorem ffN_27 (v : Nat) (g f : Nat → Nat) : ∀ p, p < 3 → ∀ q, q < 3 → ffN v g f 27 (3 * p + q) = f (3 * p + q) + bW v q * g (3 * p) + bW v (3 + q) * g (3 * p + 1) + bW v (6 + q) * g (3 * p + 2) := by
  intro p hp c hc
  rcases (show p = 0 ∨ p = 1 ∨ p = 2 by omega) with e | e | e <;> subst e <;> rcases (show c = 0 ∨ c = 1 ∨ c = 2 by omega) with e | e | e <;> subst e <;> rfl
theorem bW_mul {u i x : Nat} (hx : x < 1000000007) : bW u i * x < 1000000007 := by
  unfold bW; split
  · rw [Nat.one_mul]; exact hx
  · rw [Nat.zero_mul]; omega
theorem hfN_le {u : Nat} {x : Nat → Nat} (hx : ∀ j, x j < 1000000007) : ∀ i j, hfN u x i j ≤ i * 1000000007
  | 0, j => Nat.zero_le _
  | i + 1, j => by
    have ih := hfN_le (u := u) hx i j
    have := bW_mul (u := u) (i := i / 3) (hx (i % 9))
    rw [hfN_s]
    by_cases e : j = i / 9 * 3 + i % 3
    · simp only [if_pos e]; omega
    · simp only [if_neg e]; exact Nat.le_trans ih (Nat.mul_le_mul_right _ (Nat.le_succ i))
theorem wr1_e (u v : Nat) (x : Nat → Nat) (p q : Nat) (hq : q < 3) : wr1 u v x (3 * p + q) = 0 + bW u (3 * p) * bW v q * x 0 + bW u (3 * p) * bW v (3 + q) * x 1 + bW u (3 * p) * bW v (6 + q) * x 2 + bW u (3 * p + 1) * bW v q * x 3 + bW u (3 * p + 1) * bW v (3 + q) * x 4 + bW u (3 * p + 1) * bW v (6 + q) * x 5 + bW u (3 * p + 2) * bW v q * x 6 + bW u (3 * p + 2) * bW v (3 + q) * x 7 + bW u (3 * p + 2) * bW v (6 + q) * x 8 := by
  unfold wr1
  rw [show (3 * p + q) / 3 = p from by omega, show (3 * p + q) % 3 = q from by omega]
  simp only [sumN, Nat.reduceDiv, Nat.reduceMod, Nat.reduceMul, Nat.zero_add, Nat.add_zero]
theorem ff_wr (u v : Nat) (x f : Nat → Nat) : ∀ p, p < 3 → ∀ q, q < 3 → ffN v (hfN u x 27) f 27 (3 * p + q) = f (3 * p + q) + wr1 u v x (3 * p + q) := by
  intro p hp q hq
  rw [ffN_27 v _ f p hp q hq, wr1_e u v x p q hq, hfN_27 u x p hp 1 (by omega), hfN_27 u x p hp 2 (by omega), show hfN u x 27 (3 * p) = hfN u x 27 (3 * p + 0) from rfl, hfN_27 u x p hp 0 (by omega)]
  simp only [Nat.mul_add, Nat.zero_add, Nat.add_zero, Nat.reduceAdd]
  have e1 : ∀ u v w : Nat, v * u * w = u * (v * w) := fun u v w => by rw [Nat.mul_comm v u, Nat.mul_assoc]
  rw [e1 (bW v q), e1 (bW v q), e1 (bW v q), e1 (bW v (3 + q)), e1 (bW v (3 + q)), e1 (bW v (3 + q)), e1 (bW v (6 + q)), e1 (bW v (6 + q)), e1 (bW v (6 + q))]
  omega
