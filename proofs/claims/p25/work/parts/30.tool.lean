theorem q_lit (n : Nat) : (OfNat.ofNat n : Int32) = nI (OfNat.ofNat n) := rfl
theorem q_litL (n : Nat) : (OfNat.ofNat n : Int64) = lN (OfNat.ofNat n) := rfl
theorem q_or (a b : Nat) : nI a ||| nI b = nI (a ||| b) := by
  apply Int32.toBitVec_inj.1
  simp only [nI, Int32.toBitVec_or, Int32.toBitVec_ofNat, Int32.toBitVec_ofNat']
  apply BitVec.eq_of_getLsbD_eq
  intro i hi
  simp [BitVec.getLsbD_ofNat, hi, Nat.testBit_or]
theorem q_and (a b : Nat) : nI a &&& nI b = nI (a &&& b) := by
  apply Int32.toBitVec_inj.1
  simp only [nI, Int32.toBitVec_and, Int32.toBitVec_ofNat, Int32.toBitVec_ofNat']
  apply BitVec.eq_of_getLsbD_eq
  intro i hi
  simp [BitVec.getLsbD_ofNat, hi, Nat.testBit_and]
theorem q_xor (a b : Nat) : nI a ^^^ nI b = nI (a ^^^ b) := by
  apply Int32.toBitVec_inj.1
  simp only [nI, Int32.toBitVec_xor, Int32.toBitVec_ofNat, Int32.toBitVec_ofNat']
  apply BitVec.eq_of_getLsbD_eq
  intro i hi
  simp [BitVec.getLsbD_ofNat, hi, Nat.testBit_xor]
theorem q_a1 (a : Nat) : nI a &&& nI 1 = nI (a % 2) := by rw [q_and, show (1 : Nat) = 2 ^ 1 - 1 from rfl, Nat.and_two_pow_sub_one_eq_mod]
theorem q_a3 (a : Nat) : nI a &&& nI 3 = nI (a % 4) := by rw [q_and, show (3 : Nat) = 2 ^ 2 - 1 from rfl, Nat.and_two_pow_sub_one_eq_mod]
theorem q_a7 (a : Nat) : nI a &&& nI 7 = nI (a % 8) := by rw [q_and, show (7 : Nat) = 2 ^ 3 - 1 from rfl, Nat.and_two_pow_sub_one_eq_mod]
theorem q_a31 (a : Nat) : nI a &&& nI 31 = nI (a % 32) := by rw [q_and, show (31 : Nat) = 2 ^ 5 - 1 from rfl, Nat.and_two_pow_sub_one_eq_mod]
theorem q_a63 (a : Nat) : nI a &&& nI 63 = nI (a % 64) := by rw [q_and, show (63 : Nat) = 2 ^ 6 - 1 from rfl, Nat.and_two_pow_sub_one_eq_mod]
theorem q_a2 (a : Nat) : nI a &&& nI 2 = nI (a / 2 % 2 * 2) := by
  rw [q_and]
  have h1 : (a &&& 2) / 2 ^ 1 = a / 2 ^ 1 &&& (2 ^ 1 - 1) := Nat.and_div_two_pow (a := a) (b := 2) (n := 1)
  have h2 : (a &&& 2) % 2 ^ 1 = a % 2 ^ 1 &&& 0 := Nat.and_mod_two_pow (a := a) (b := 2) (n := 1)
  rw [Nat.and_two_pow_sub_one_eq_mod] at h1
  rw [Nat.and_zero] at h2
  congr 1; omega
theorem q_a4 (a : Nat) : nI a &&& nI 4 = nI (a / 4 % 2 * 4) := by
  rw [q_and]
  have h1 : (a &&& 4) / 2 ^ 2 = a / 2 ^ 2 &&& (2 ^ 1 - 1) := Nat.and_div_two_pow (a := a) (b := 4) (n := 2)
  have h2 : (a &&& 4) % 2 ^ 2 = a % 2 ^ 2 &&& 0 := Nat.and_mod_two_pow (a := a) (b := 4) (n := 2)
  rw [Nat.and_two_pow_sub_one_eq_mod] at h1
  rw [Nat.and_zero] at h2
  congr 1; omega
theorem q_a255 (a : Nat) : nI a &&& nI 255 = nI (a % 256) := by rw [q_and, show (255 : Nat) = 2 ^ 8 - 1 from rfl, Nat.and_two_pow_sub_one_eq_mod]
theorem q_a511 (a : Nat) : nI a &&& nI 511 = nI (a % 512) := by rw [q_and, show (511 : Nat) = 2 ^ 9 - 1 from rfl, Nat.and_two_pow_sub_one_eq_mod]
theorem q_smod : ∀ k, k < 32 → ((nI k).toBitVec.smod 32).toNat = k := by decide +kernel
theorem q_shr {a k : Nat} (ha : a < 2147483648) (hk : k < 32) : nI a >>> nI k = nI (a / 2 ^ k) := pk_shrN ha (nI k) k (q_smod k hk)
theorem q_shl {a k : Nat} (hk : k < 32) : nI a <<< nI k = nI (a * 2 ^ k) := by
  apply Int32.toBitVec_inj.1
  have h := q_smod k hk
  apply BitVec.eq_of_toNat_eq
  simp only [Int32.toBitVec_shiftLeft]
  rw [show ((nI k).toBitVec.smod (32 : BitVec 32)) = BitVec.ofNat 32 k from by apply BitVec.eq_of_toNat_eq; rw [h]; simp; omega]
  simp only [nI, Int32.toBitVec_ofNat, Int32.toBitVec_ofNat', BitVec.shiftLeft_eq', BitVec.toNat_shiftLeft, BitVec.toNat_ofNat, Nat.shiftLeft_eq]
  rw [show k % 2 ^ 32 = k from by omega]
  rw [Nat.mod_mul_mod]
theorem q_le {a b : Nat} (ha : a < 2147483648) (hb : b < 2147483648) : nI a ≤ nI b ↔ a ≤ b := nI_leI ha hb
theorem q_lt {a b : Nat} (ha : a < 2147483648) (hb : b < 2147483648) : nI a < nI b ↔ a < b := nI_ltI ha hb
theorem q_eq {a b : Nat} (ha : a < 2147483648) (hb : b < 2147483648) : nI a = nI b ↔ a = b := nI_eq ha hb
theorem q_cl {n : Nat} (h : n < 2147483648) : (nI n).toNatClampNeg = n := nI_clamp h
theorem q_in {n N : Nat} (h : n < 2147483648) : vp_in (nI n) N ↔ n < N := by
  rw [vp_in_iff, nI_toInt h]; omega
theorem q_neg {a : Nat} (ha : a < 2147483648) : nI a = -nI 1 ↔ False := by
  constructor
  · intro h
    have := congrArg Int32.toInt h
    rw [nI_toInt ha] at this
    have h2 : (-nI 1).toInt = -1 := by decide
    omega
  · exact False.elim
theorem q_neg' {a : Nat} (ha : a < 2147483648) : -nI 1 = nI a ↔ False := by rw [← q_neg ha]; exact eq_comm
theorem q_nlt0 : (-nI 1 < nI 0) ↔ True := by decide
theorem q_nle {a : Nat} (ha : a < 2147483648) : nI a ≤ -nI 1 ↔ False := by
  rw [Int32.le_iff_toInt_le, nI_toInt ha, show (-nI 1).toInt = -1 from by decide]
  constructor
  · intro h; omega
  · exact False.elim
theorem q_nlt {a : Nat} (ha : a < 2147483648) : nI a < -nI 1 ↔ False := by
  rw [Int32.lt_iff_toInt_lt, nI_toInt ha, show (-nI 1).toInt = -1 from by decide]
  constructor
  · intro h; omega
  · exact False.elim
theorem q_nle' {a : Nat} (ha : a < 2147483648) : -nI 1 ≤ nI a ↔ True := by
  rw [Int32.le_iff_toInt_le, nI_toInt ha, show (-nI 1).toInt = -1 from by decide]
  constructor
  · intro h; trivial
  · intro _; omega
theorem q_nlt' {a : Nat} (ha : a < 2147483648) : -nI 1 < nI a ↔ True := by
  rw [Int32.lt_iff_toInt_lt, nI_toInt ha, show (-nI 1).toInt = -1 from by decide]
  constructor
  · intro h; trivial
  · intro _; omega
theorem q_addn {a : Nat} (h : 1 ≤ a) : nI a + -nI 1 = nI (a - 1) := by
  obtain ⟨b, rfl⟩ : ∃ b, a = b + 1 := ⟨a - 1, by omega⟩
  exact pk_m1 b
theorem q_subN {a b : Nat} (h : b ≤ a) : nI a - nI b = nI (a - b) := pk_sub h
theorem q_divN {a d : Nat} (ha : a < 2147483648) (h0 : 0 < d) (hd : d < 2147483648) : nI a / nI d = nI (a / d) := pk_div ha h0 hd
theorem q_remN {a d : Nat} (ha : a < 2147483648) (h0 : 0 < d) (hd : d < 2147483648) : nI a - nI (a / d) * nI d = nI (a % d) := by rw [← q_divN ha h0 hd]; exact pk_rem ha h0 hd
theorem q_remN' {a d : Nat} : nI a - nI (a / d * d) = nI (a % d) := by
  rw [q_subN (Nat.div_mul_le_self a d)]
  congr 1
  have := Nat.div_add_mod a d
  rw [Nat.mul_comm] at this
  omega
theorem q_us {f : Nat → Int32} {k : Nat} {x : Int32} : upd f k x k = x := pk_us
theorem q_un {f : Nat → Int32} {k j : Nat} {x : Int32} (h : j ≠ k) : upd f k x j = f j := pk_un h
theorem q_ap (f : Nat → Int32) (k j : Nat) (x : Int32) : upd f k x j = if j = k then x else f j := rfl
theorem q_apL (f : Nat → Int64) (k j : Nat) (x : Int64) : vp_updL f k x j = if j = k then x else f j := rfl
/-- a loop that counts up -/
theorem q_cnt {Q : Nat → Prop} {N : Nat} (hN : Q N) (hs : ∀ i, i < N → Q (i + 1) → Q i) : ∀ i, i ≤ N → Q i := by
  intro i hi
  obtain ⟨d, hd⟩ : ∃ d, d = N - i := ⟨_, rfl⟩
  induction d generalizing i with
  | zero => have : i = N := by omega
            rw [this]; exact hN
  | succ d ih => exact hs i (by omega) (ih (i + 1) (by omega) (by omega))
theorem q_cnt0 {Q : Nat → Prop} (N : Nat) (hN : Q N) (hs : ∀ i, i < N → Q (i + 1) → Q i) : Q 0 := q_cnt hN hs 0 (Nat.zero_le _)
/-- an int that is no nI n below N -/
theorem q_out {x : Int32} {N : Nat} (hN : N < 2147483648) : (x < 0 ∨ nI N ≤ x) ∨ ∃ n, n < N ∧ x = nI n := by
  rcases pk_ix x hN with h | h | h
  · exact .inl (.inl h)
  · exact .inl (.inr h)
  · exact .inr h
