theorem q_lNbv (n : Nat) : (lN n).toBitVec = BitVec.ofNat 64 n := rfl
theorem q_lNnat {n : Nat} (h : n < 18446744073709551616) : (lN n).toBitVec.toNat = n := by
  rw [q_lNbv, BitVec.toNat_ofNat]
  exact Nat.mod_eq_of_lt h
theorem q_wbc : ∀ k, k < 64 → (nI k).toInt64 &&& (63 : Int64) = lN k := by decide +kernel
theorem q_litL2 (n : Nat) : (OfNat.ofNat n : Int64) = lN (OfNat.ofNat n) := rfl
theorem lN_or (a b : Nat) : lN a ||| lN b = lN (a ||| b) := by
  apply Int64.toBitVec_inj.1
  rw [Int64.toBitVec_or, q_lNbv, q_lNbv, q_lNbv]
  apply BitVec.eq_of_getLsbD_eq
  intro i hi
  simp [BitVec.getLsbD_ofNat, hi, Nat.testBit_or]
theorem lN_and (a b : Nat) : lN a &&& lN b = lN (a &&& b) := by
  apply Int64.toBitVec_inj.1
  rw [Int64.toBitVec_and, q_lNbv, q_lNbv, q_lNbv]
  apply BitVec.eq_of_getLsbD_eq
  intro i hi
  simp [BitVec.getLsbD_ofNat, hi, Nat.testBit_and]
theorem lN_inj {a b : Nat} (ha : a < 18446744073709551616) (hb : b < 18446744073709551616) : lN a = lN b ↔ a = b := by
  constructor
  · intro h
    have := congrArg (fun x => x.toBitVec.toNat) h
    rwa [q_lNnat ha, q_lNnat hb] at this
  · intro h; rw [h]
theorem q_sm63 : ∀ k, k < 64 → ((lN k &&& 63).toBitVec.smod 64).toNat = k := by decide +kernel
theorem q_kL (k : Nat) (hk : k < 64) : (nI k).toInt64 &&& (63 : Int64) = lN k := q_wbc k hk
theorem q_smodL : ∀ k, k < 64 → ((lN k).toBitVec.smod 64).toNat = k := by decide +kernel
theorem q_oneL {k : Nat} (hk : k < 64) : (1 : Int64) <<< ((nI k).toInt64 &&& (63 : Int64)) = lN (2 ^ k) := by
  have A : ∀ k, k < 64 → (1 : Int64) <<< ((nI k).toInt64 &&& (63 : Int64)) = lN (2 ^ k) := by decide +kernel
  exact A k hk
theorem q_bitL {a k : Nat} (ha : a < 18446744073709551616) (hk : k < 64) : (lN a >>> ((nI k).toInt64 &&& (63 : Int64))) &&& (1 : Int64) = lN (if a.testBit k then 1 else 0) := by
  rw [q_kL k hk]
  apply Int64.toBitVec_inj.1
  have h := q_smodL k hk
  rw [Int64.toBitVec_and, Int64.toBitVec_shiftRight]
  rw [show ((lN k).toBitVec.smod (64 : BitVec 64)) = BitVec.ofNat 64 k from by apply BitVec.eq_of_toNat_eq; rw [h]; simp; omega]
  rw [show (1 : Int64).toBitVec = BitVec.ofNat 64 1 from rfl, q_lNbv, q_lNbv]
  apply BitVec.eq_of_getLsbD_eq
  intro i hi
  rw [BitVec.getLsbD_and, BitVec.sshiftRight_eq', BitVec.toNat_ofNat, show k % 2 ^ 64 = k from by omega, BitVec.getLsbD_sshiftRight, BitVec.getLsbD_ofNat, BitVec.getLsbD_ofNat]
  by_cases g : i = 0
  · subst g
    cases hb : a.testBit k <;> simp [hb, hk]
  · have : (1 : Nat).testBit i = false := by
      cases i with
      | zero => exact absurd rfl g
      | succ n => rw [Nat.testBit_succ]; simp
    cases hb : a.testBit k <;> simp [this, g]
theorem q_lg {x z : Int64} : lg_cmp x z = 0 ↔ x = z := by
  unfold lg_cmp
  by_cases g : x > z
  · rw [if_pos g]
    refine ⟨fun h => absurd h (by decide), fun h => ?_⟩
    subst h; exact absurd g (Int64.lt_irrefl)
  · rw [if_neg g]
    by_cases g2 : x = z
    · rw [if_pos g2]; simp [g2]
    · rw [if_neg g2]
      exact ⟨fun h => absurd h (by decide), fun h => absurd h g2⟩
theorem q_tst {a k : Nat} (ha : a < 18446744073709551616) (hk : k < 64) : (lg_cmp ((lN a >>> ((nI k).toInt64 &&& (63 : Int64))) &&& (1 : Int64)) (0 : Int64)) = (0 : Int32) ↔ a.testBit k = false := by
  rw [q_lg, q_bitL ha hk, show (0 : Int64) = lN 0 from rfl]
  cases hb : a.testBit k
  · simp
  · simp only [if_true]
    exact ⟨fun h => absurd h (by decide), fun h => absurd h (by decide)⟩
theorem or_lt64 {a b : Nat} (ha : a < 18446744073709551616) (hb : b < 18446744073709551616) : a ||| b < 18446744073709551616 := Nat.or_lt_two_pow (n := 64) ha hb
theorem p2_lt64 {k : Nat} (hk : k < 64) : 2 ^ k < 18446744073709551616 := Nat.pow_lt_pow_right (by omega) hk
theorem tb_p2 {k q : Nat} : (2 ^ k).testBit q = true ↔ q = k := by
  rw [Nat.testBit_two_pow]; simp [eq_comm]
theorem tb_or {a b q : Nat} : (a ||| b).testBit q = true ↔ a.testBit q = true ∨ b.testBit q = true := by
  rw [Nat.testBit_or]; simp
theorem tb_0 {q : Nat} : (0 : Nat).testBit q = true ↔ False := by simp
theorem tb_lt64 {a q : Nat} (ha : a < 18446744073709551616) (h : a.testBit q = true) : q < 64 := by
  rcases Nat.lt_or_ge q 64 with g | g
  · exact g
  · have : a.testBit q = false := Nat.testBit_lt_two_pow (Nat.lt_of_lt_of_le (show a < 2 ^ 64 from ha) (Nat.pow_le_pow_right (by decide) g))
    rw [this] at h; exact absurd h (by decide)
theorem tb_ext {a b : Nat} (h : ∀ q, a.testBit q = true ↔ b.testBit q = true) : a = b := by
  apply Nat.eq_of_testBit_eq
  intro i
  have := h i
  cases ha : a.testBit i <;> cases hb : b.testBit i <;> simp_all
/-- how many of the first n -/
def cdN (p : Nat → Bool) (n : Nat) : Nat := sumN (fun i => if p i then 1 else 0) n
theorem cdN_le (p : Nat → Bool) : ∀ n, cdN p n ≤ n
  | 0 => Nat.le_refl _
  | n + 1 => by
    have := cdN_le p n
    unfold cdN at this ⊢
    unfold sumN
    split <;> omega
theorem cdN_mono {p q : Nat → Bool} (h : ∀ i, p i = true → q i = true) : ∀ n, cdN p n ≤ cdN q n
  | 0 => Nat.le_refl _
  | n + 1 => by
    have := cdN_mono h n
    unfold cdN at this ⊢
    unfold sumN
    cases hp : p n
    · simp; omega
    · rw [h n hp]; simp; omega
theorem cdN_lt {p q : Nat → Bool} (h : ∀ i, p i = true → q i = true) : ∀ n j, j < n → p j = false → q j = true → cdN p n < cdN q n
  | 0, j, hj, _, _ => by omega
  | n + 1, j, hj, h1, h2 => by
    by_cases g : j = n
    · subst g
      have := cdN_mono h j
      unfold cdN at this ⊢
      unfold sumN
      simp only [h1, h2, Bool.false_eq_true, if_false, if_true]; omega
    · have := cdN_lt h n j (by omega) h1 h2
      unfold cdN at this ⊢
      unfold sumN
      cases hp : p n
      · simp; omega
      · rw [h n hp]; simp; omega
theorem cdN_pos {p : Nat → Bool} {n j : Nat} (hj : j < n) (h : p j = true) : 1 ≤ cdN p n := by
  have := cdN_lt (p := fun _ => false) (q := p) (fun i hi => absurd hi (by decide)) n j hj rfl h
  omega
