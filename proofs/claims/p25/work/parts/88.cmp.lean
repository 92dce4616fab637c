theorem lNxor (a b : Nat) : lN a ^^^ lN b = lN (a ^^^ b) := by
  apply Int64.toBitVec_inj.1
  rw [Int64.toBitVec_xor, q_lNbv, q_lNbv, q_lNbv]
  apply BitVec.eq_of_getLsbD_eq
  intro i hi
  simp [BitVec.getLsbD_ofNat, hi, Nat.testBit_xor]
theorem q_m1L : (-1 : Int64) = lN 18446744073709551615 := by decide
theorem tb_all {q : Nat} : (18446744073709551615 : Nat).testBit q = decide (q < 64) := by
  rw [show (18446744073709551615 : Nat) = 2 ^ 64 - 1 from rfl, Nat.testBit_two_pow_sub_one]
/-- the codes of which a reader takes one of the states of its part -/
def tkB (t c : Nat) : Bool := !(c &&& t == 0)
theorem q_tkOne {bo t : Nat} (hb : bo = 0 ∨ bo = 1) {K : Int64 → Prop} (h : ∀ T, T < 18446744073709551616 → (∀ c, T.testBit c = (decide (c < (if bo = 0 then 8 else 64)) && tkB t (c % 8))) → K (lN T)) : wX1_takenByOne (nI bo) (nI t) K := by
  unfold wX1_takenByOne wX1_takenByOne_L4
  intro P hP
  have hN : ∃ N, N = (if bo = 0 then 8 else 64) ∧ N ≤ 64 ∧ ∀ {K : Int32 → Prop}, K (nI N) → wX1_codes (nI bo) K := by
    unfold wX1_codes
    rcases hb with e | e <;> subst e
    · exact ⟨8, rfl, by omega, fun h => ⟨fun _ => h, fun g => absurd rfl g⟩⟩
    · exact ⟨64, rfl, by omega, fun h => ⟨fun g => absurd g (by decide), fun _ => h⟩⟩
  obtain ⟨N, eN, N64, cN⟩ := hN
  rw [← eN] at h
  refine q_cnt0 (Q := fun i => ∀ T, T < 18446744073709551616 → (∀ c, T.testBit c = (decide (c < i) && tkB t (c % 8))) → P (lN T) (nI i)) N ?_ ?_ 0 (by omega) (fun c => by simp)
  · intro T hT H
    refine hP _ _ (cN ⟨fun _ => h T hT H, fun g => absurd ((q_le (by omega) (by omega)).2 (Nat.le_refl N)) g⟩)
  · intro i hi ih T hT H
    refine hP _ _ (cN ⟨fun g => absurd ((q_le (by omega) (by omega)).1 g) (by omega), fun _ => ?_⟩)
    rw [show (7 : Int32) = nI 7 from rfl, q_a7]
    have p2 := p2_lt64 (show i < 64 by omega)
    refine q_takesAny (by omega) ?_
    by_cases g : i % 8 &&& t = 0
    · rw [if_pos g]
      refine ⟨fun _ x ex y ey => ?_, fun g => absurd rfl g⟩
      rw [ex, ey, nI_1, show (0 : Int64) = lN 0 from rfl, lN_or, Nat.or_zero]
      refine ih T hT (fun c => ?_)
      rw [H c]
      by_cases e : c = i
      · subst e
        have : tkB t (c % 8) = false := by unfold tkB; simp [g]
        rw [this]; simp
      · rw [show decide (c < i) = decide (c < i + 1) from by simp; omega]
    · rw [if_neg g]
      refine ⟨fun g => absurd g (by decide), fun _ x ex y ey => ?_⟩
      rw [ex, ey, nI_1, q_oneL (by omega), lN_or]
      refine ih _ (or_lt64 hT p2) (fun c => ?_)
      rw [Nat.testBit_or, H c, Nat.testBit_two_pow]
      by_cases e : c = i
      · subst e
        have : tkB t (c % 8) = true := by unfold tkB; simp [g]
        rw [this]; simp
      · rw [show decide (i = c) = false from by simp; omega, show decide (c < i) = decide (c < i + 1) from by simp; omega, Bool.or_false]
theorem q_tkOther {bo t : Nat} (hb : bo = 0 ∨ bo = 1) {K : Int64 → Prop} (h : ∀ T, T < 18446744073709551616 → (∀ c, T.testBit c = (decide (c < (if bo = 0 then 8 else 64)) && tkB t (c / 8 % 8))) → K (lN T)) : wX1_takenByOther (nI bo) (nI t) K := by
  unfold wX1_takenByOther wX1_takenByOther_L4
  intro P hP
  have hN : ∃ N, N = (if bo = 0 then 8 else 64) ∧ N ≤ 64 ∧ ∀ {K : Int32 → Prop}, K (nI N) → wX1_codes (nI bo) K := by
    unfold wX1_codes
    rcases hb with e | e <;> subst e
    · exact ⟨8, rfl, by omega, fun h => ⟨fun _ => h, fun g => absurd rfl g⟩⟩
    · exact ⟨64, rfl, by omega, fun h => ⟨fun g => absurd g (by decide), fun _ => h⟩⟩
  obtain ⟨N, eN, N64, cN⟩ := hN
  rw [← eN] at h
  refine q_cnt0 (Q := fun i => ∀ T, T < 18446744073709551616 → (∀ c, T.testBit c = (decide (c < i) && tkB t (c / 8 % 8))) → P (lN T) (nI i)) N ?_ ?_ 0 (by omega) (fun c => by simp)
  · intro T hT H
    refine hP _ _ (cN ⟨fun _ => h T hT H, fun g => absurd ((q_le (by omega) (by omega)).2 (Nat.le_refl N)) g⟩)
  · intro i hi ih T hT H
    refine hP _ _ (cN ⟨fun g => absurd ((q_le (by omega) (by omega)).1 g) (by omega), fun _ => ?_⟩)
    rw [show (3 : Int32) = nI 3 from rfl, show (31 : Int32) = nI 31 from rfl, q_a31, q_shr (by omega) (by omega), show (7 : Int32) = nI 7 from rfl, q_a7, show 2 ^ (3 % 32) = 8 from rfl]
    have p2 := p2_lt64 (show i < 64 by omega)
    refine q_takesAny (by omega) ?_
    by_cases g : i / 8 % 8 &&& t = 0
    · rw [if_pos g]
      refine ⟨fun _ x ex y ey => ?_, fun g => absurd rfl g⟩
      rw [ex, ey, nI_1, show (0 : Int64) = lN 0 from rfl, lN_or, Nat.or_zero]
      refine ih T hT (fun c => ?_)
      rw [H c]
      by_cases e : c = i
      · subst e
        have : tkB t (c / 8 % 8) = false := by unfold tkB; simp [g]
        rw [this]; simp
      · rw [show decide (c < i) = decide (c < i + 1) from by simp; omega]
    · rw [if_neg g]
      refine ⟨fun g => absurd g (by decide), fun _ x ex y ey => ?_⟩
      rw [ex, ey, nI_1, q_oneL (by omega), lN_or]
      refine ih _ (or_lt64 hT p2) (fun c => ?_)
      rw [Nat.testBit_or, H c, Nat.testBit_two_pow]
      by_cases e : c = i
      · subst e
        have : tkB t (c / 8 % 8) = true := by unfold tkB; simp [g]
        rw [this]; simp
      · rw [show decide (i = c) = false from by simp; omega, show decide (c < i) = decide (c < i + 1) from by simp; omega, Bool.or_false]
/-- what compare asks of one place -/
def cmR (v : Nat) (a b : Bool) : Bool := if v = 0 then a == b else if v = 1 then !a || b else if v = 2 then a || !b else if v = 3 then !a || !b else a || b
theorem c_against {v A B : Nat} (hv : v < 5) (hA : A < 18446744073709551616) (hB : B < 18446744073709551616) {K : Int64 → Prop} (h : ∀ C, C < 18446744073709551616 → (∀ q, q < 64 → C.testBit q = !cmR v (A.testBit q) (B.testBit q)) → K (lN C)) : wX11_codesAgainst (nI v) (lN A) (lN B) K := by
  have x64 : ∀ {a b : Nat}, a < 18446744073709551616 → b < 18446744073709551616 → a ^^^ b < 18446744073709551616 := fun ha hb => Nat.xor_lt_two_pow (n := 64) ha hb
  have a64 : ∀ {a b : Nat}, a < 18446744073709551616 → a &&& b < 18446744073709551616 := fun ha => Nat.lt_of_le_of_lt Nat.and_le_left ha
  unfold wX11_codesAgainst
  rw [q_m1L, lNxor, lNxor, lNxor, lN_or, lNxor, lN_and, lN_and, lN_and, show (0 : Int32) = nI 0 from rfl, show (1 : Int32) = nI 1 from rfl, show (2 : Int32) = nI 2 from rfl, show (3 : Int32) = nI 3 from rfl, q_eq (by omega) (by omega), q_eq (by omega) (by omega), q_eq (by omega) (by omega), q_eq (by omega) (by omega)]
  refine ⟨fun g => h _ (x64 hA hB) (fun q hq => ?_), fun g0 => ⟨fun g => h _ (a64 hA) (fun q hq => ?_), fun g1 => ⟨fun g => h _ (a64 hB) (fun q hq => ?_), fun g2 => ⟨fun g => h _ (a64 hA) (fun q hq => ?_), fun g3 => h _ (x64 (or_lt64 hA hB) (by omega)) (fun q hq => ?_)⟩⟩⟩⟩
  · subst g; unfold cmR; rw [Nat.testBit_xor, if_pos rfl]; cases A.testBit q <;> cases B.testBit q <;> rfl
  · subst g; unfold cmR; rw [Nat.testBit_and, Nat.testBit_xor, tb_all, decide_eq_true hq, if_neg (by omega), if_pos rfl]; cases A.testBit q <;> cases B.testBit q <;> rfl
  · subst g; unfold cmR; rw [Nat.testBit_and, Nat.testBit_xor, tb_all, decide_eq_true hq, if_neg (by omega), if_neg (by omega), if_pos rfl]; cases A.testBit q <;> cases B.testBit q <;> rfl
  · subst g; unfold cmR; rw [Nat.testBit_and, if_neg (by omega), if_neg (by omega), if_neg (by omega), if_pos rfl]; cases A.testBit q <;> cases B.testBit q <;> rfl
  · unfold cmR; rw [Nat.testBit_xor, Nat.testBit_or, tb_all, decide_eq_true hq, if_neg g0, if_neg g1, if_neg g2, if_neg g3]; cases A.testBit q <;> cases B.testBit q <;> rfl
